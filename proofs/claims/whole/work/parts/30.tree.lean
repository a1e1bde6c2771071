/-! trees: of nodes of a kind with a number and up to three parts (nl: no part) -/
abbrev Tr : Type := Jvm.Term
abbrev En : Type := Nat × Int32 × Nat
def nl : Tr := .null
def nd (k : Nat) (v : Int32) (x y z : Tr) : Tr := .elem (.add (.index k) (.int v)) (.sub x (.sub y z))
def tsz : Tr → Nat
  | .elem (.add (.index _) (.int _)) (.sub x (.sub y z)) => 1 + tsz x + tsz y + tsz z
  | _ => 0
theorem tsz_nd (k : Nat) (v : Int32) (x y z : Tr) : tsz (nd k v x y z) = 1 + tsz x + tsz y + tsz z := by simp only [nd, tsz]
theorem tsz_nl : tsz nl = 0 := by simp only [nl, tsz]
/-- its nodes, each ahead of its parts: kind, number, size -/
def fl : Tr → List En
  | .elem (.add (.index k) (.int v)) (.sub x (.sub y z)) => (k, v, 1 + tsz x + tsz y + tsz z) :: (fl x ++ (fl y ++ fl z))
  | _ => []
theorem fl_nd (k : Nat) (v : Int32) (x y z : Tr) : fl (nd k v x y z) = (k, v, 1 + tsz x + tsz y + tsz z) :: (fl x ++ (fl y ++ fl z)) := by simp only [nd, fl]
theorem fl_nl : fl nl = [] := by simp only [nl, fl]
def ary (k : Nat) : Nat := if k < 3 then 0 else if k = 3 then 1 else if k < 8 then 2 else 3
def wf : Tr → Prop
  | .elem (.add (.index k) (.int v)) (.sub x (.sub y z)) => k ≤ 8 ∧ (k ≠ 0 → v = 0) ∧ (if 1 ≤ ary k then wf x else x = nl) ∧ (if 2 ≤ ary k then wf y else y = nl) ∧ (if 3 ≤ ary k then wf z else z = nl)
  | _ => False
theorem wf_nd (k : Nat) (v : Int32) (x y z : Tr) : wf (nd k v x y z) ↔ (k ≤ 8 ∧ (k ≠ 0 → v = 0) ∧ (if 1 ≤ ary k then wf x else x = nl) ∧ (if 2 ≤ ary k then wf y else y = nl) ∧ (if 3 ≤ ary k then wf z else z = nl)) := by simp only [nd, wf]
theorem wf_nl : ¬ wf nl := by simp [nl, wf]
theorem wf_shape : ∀ t : Tr, wf t → ∃ k v x y z, t = nd k v x y z := by
  intro t h
  unfold wf at h
  split at h
  · exact ⟨_, _, _, _, _, rfl⟩
  · exact h.elim
theorem wf_0 {k : Nat} {v : Int32} (h : k < 3) (hv : k ≠ 0 → v = 0) : wf (nd k v nl nl nl) := by
  have e : ary k = 0 := by simp [ary, h]
  rw [wf_nd, e]
  exact ⟨by omega, hv, by simp, by simp, by simp⟩
theorem wf_1 {x : Tr} (h : wf x) : wf (nd 3 0 x nl nl) := by
  rw [wf_nd]
  exact ⟨by omega, fun _ => rfl, by simpa [ary] using h, by simp [ary], by simp [ary]⟩
theorem wf_2 {k : Nat} {x y : Tr} (h1 : 4 ≤ k) (h2 : k < 8) (hx : wf x) (hy : wf y) : wf (nd k 0 x y nl) := by
  have e : ary k = 2 := by
    unfold ary
    rw [if_neg (by omega), if_neg (by omega), if_pos h2]
  rw [wf_nd, e]
  exact ⟨by omega, fun _ => rfl, by simpa using hx, by simpa using hy, by simp⟩
theorem wf_3 {x y z : Tr} (hx : wf x) (hy : wf y) (hz : wf z) : wf (nd 8 0 x y z) := by
  rw [wf_nd]
  exact ⟨by omega, fun _ => rfl, by simpa [ary] using hx, by simpa [ary] using hy, by simpa [ary] using hz⟩
theorem wf_cases {t : Tr} (h : wf t) : (∃ k v, k < 3 ∧ (k ≠ 0 → v = 0) ∧ t = nd k v nl nl nl) ∨ (∃ x, wf x ∧ t = nd 3 0 x nl nl) ∨ (∃ k x y, 4 ≤ k ∧ k < 8 ∧ wf x ∧ wf y ∧ t = nd k 0 x y nl) ∨ (∃ x y z, wf x ∧ wf y ∧ wf z ∧ t = nd 8 0 x y z) := by
  obtain ⟨k, v, x, y, z, rfl⟩ := wf_shape t h
  rw [wf_nd] at h
  obtain ⟨h1, h2, h3, h4, h5⟩ := h
  by_cases a : k < 3
  · have e : ary k = 0 := by simp [ary, a]
    rw [e] at h3 h4 h5
    simp at h3 h4 h5
    subst h3; subst h4; subst h5
    exact Or.inl ⟨k, v, a, h2, rfl⟩
  by_cases b : k = 3
  · subst b
    simp [ary] at h3 h4 h5
    subst h4; subst h5
    have e := h2 (by omega)
    subst e
    exact Or.inr (Or.inl ⟨x, h3, rfl⟩)
  have e0 := h2 (by omega)
  subst e0
  by_cases c : k < 8
  · have e : ary k = 2 := by
      unfold ary
      rw [if_neg a, if_neg b, if_pos c]
    rw [e] at h3 h4 h5
    simp at h3 h4 h5
    subst h5
    exact Or.inr (Or.inr (Or.inl ⟨k, x, y, by omega, c, h3, h4, rfl⟩))
  · have e : k = 8 := by omega
    subst e
    simp [ary] at h3 h4 h5
    exact Or.inr (Or.inr (Or.inr ⟨x, y, z, h3, h4, h5, rfl⟩))
theorem wf_pos {t : Tr} (h : wf t) : 1 ≤ tsz t := by
  obtain ⟨k, v, x, y, z, rfl⟩ := wf_shape t h
  rw [tsz_nd]
  omega
theorem wf_ind {P : Tr → Prop} (h0 : ∀ k v, k < 3 → (k ≠ 0 → v = 0) → P (nd k v nl nl nl)) (h1 : ∀ x, wf x → P x → P (nd 3 0 x nl nl))
    (h2 : ∀ k x y, 4 ≤ k → k < 8 → wf x → wf y → P x → P y → P (nd k 0 x y nl)) (h3 : ∀ x y z, wf x → wf y → wf z → P x → P y → P z → P (nd 8 0 x y z)) : ∀ t, wf t → P t := by
  have key : ∀ n t, tsz t ≤ n → wf t → P t := by
    intro n
    induction n with
    | zero =>
      intro t h hw
      have := wf_pos hw
      omega
    | succ n ih =>
      intro t h hw
      rcases wf_cases hw with ⟨k, v, a, b, rfl⟩ | ⟨x, a, rfl⟩ | ⟨k, x, y, a, b, c, d, rfl⟩ | ⟨x, y, z, a, b, c, rfl⟩
      · exact h0 k v a b
      · rw [tsz_nd] at h
        exact h1 x a (ih x (by omega) a)
      · rw [tsz_nd] at h
        exact h2 k x y a b c d (ih x (by omega) c) (ih y (by omega) d)
      · rw [tsz_nd] at h
        exact h3 x y z a b c (ih x (by omega) a) (ih y (by omega) b) (ih z (by omega) c)
  exact fun t h => key (tsz t) t (Nat.le_refl _) h
theorem fl_len : ∀ t : Tr, wf t → (fl t).length = tsz t := by
  apply wf_ind
  · intro k v _ _
    simp [fl_nd, tsz_nd, fl_nl, tsz_nl]
  · intro x _ hx
    simp [fl_nd, tsz_nd, fl_nl, tsz_nl, hx]
    omega
  · intro k x y _ _ _ _ hx hy
    simp [fl_nd, tsz_nd, fl_nl, tsz_nl, hx, hy]
    omega
  · intro x y z _ _ _ hx hy hz
    simp [fl_nd, tsz_nd, hx, hy, hz]
    omega
/-- its first row: kind and size of the top -/
def kd : Tr → Nat
  | .elem (.add (.index k) (.int _)) (.sub _ (.sub _ _)) => k
  | _ => 9
def vv : Tr → Int32
  | .elem (.add (.index _) (.int v)) (.sub _ (.sub _ _)) => v
  | _ => 0
def p1 : Tr → Tr
  | .elem (.add (.index _) (.int _)) (.sub x (.sub _ _)) => x
  | _ => nl
def p2 : Tr → Tr
  | .elem (.add (.index _) (.int _)) (.sub _ (.sub y _)) => y
  | _ => nl
def p3 : Tr → Tr
  | .elem (.add (.index _) (.int _)) (.sub _ (.sub _ z)) => z
  | _ => nl
theorem kd_nd (k : Nat) (v : Int32) (x y z : Tr) : kd (nd k v x y z) = k := by simp only [nd, kd]
theorem vv_nd (k : Nat) (v : Int32) (x y z : Tr) : vv (nd k v x y z) = v := by simp only [nd, vv]
theorem p1_nd (k : Nat) (v : Int32) (x y z : Tr) : p1 (nd k v x y z) = x := by simp only [nd, p1]
theorem p2_nd (k : Nat) (v : Int32) (x y z : Tr) : p2 (nd k v x y z) = y := by simp only [nd, p2]
theorem p3_nd (k : Nat) (v : Int32) (x y z : Tr) : p3 (nd k v x y z) = z := by simp only [nd, p3]
theorem fl_head {t : Tr} (h : wf t) : fl t = (kd t, vv t, tsz t) :: (fl (p1 t) ++ (fl (p2 t) ++ fl (p3 t))) := by
  obtain ⟨k, v, x, y, z, rfl⟩ := wf_shape t h
  rw [fl_nd, kd_nd, vv_nd, p1_nd, p2_nd, p3_nd, tsz_nd]
/-- what a row begins with is one tree alone -/
theorem fl_pre {x y : Tr} {r s : List En} (hx : wf x) (hy : wf y) (h : fl x ++ r = fl y ++ s) : fl x = fl y ∧ r = s := by
  have e1 : tsz x = tsz y := by
    rw [fl_head hx, fl_head hy] at h
    simp only [List.cons_append, List.cons.injEq, Prod.mk.injEq] at h
    exact h.1.2.2
  have e2 : (fl x).length = (fl y).length := by rw [fl_len x hx, fl_len y hy, e1]
  exact List.append_inj h e2
/-- the value and the cost -/
def bo (k : Nat) (x y : Int32) : Int32 := if k = 4 then x + y else if k = 5 then x - y else if k = 6 then x * y else x / y
def ev (a b : Int32) : Tr → Option Int32 × Nat
  | .elem (.add (.index k) (.int v)) (.sub x (.sub y z)) =>
    if k = 0 then (some v, 1) else if k = 1 then (some a, 1) else if k = 2 then (some b, 1) else
    match (ev a b x).1 with
    | none => (none, (ev a b x).2)
    | some p =>
      if k = 3 then (some (-p), (ev a b x).2 + 1) else
      if k = 8 then (if p = 0 then ((ev a b z).1, (ev a b x).2 + 1 + (ev a b z).2) else ((ev a b y).1, (ev a b x).2 + 1 + (ev a b y).2 + (if (ev a b y).1.isSome then 1 else 0))) else
      match (ev a b y).1 with
      | none => (none, (ev a b x).2 + (ev a b y).2)
      | some q => if k = 7 ∧ q = 0 then (none, (ev a b x).2 + (ev a b y).2 + 1) else (some (bo k p q), (ev a b x).2 + (ev a b y).2 + 1)
  | _ => (none, 0)
theorem ev_nd (a b : Int32) (k : Nat) (v : Int32) (x y z : Tr) : ev a b (nd k v x y z) = (if k = 0 then (some v, 1) else if k = 1 then (some a, 1) else if k = 2 then (some b, 1) else
    match (ev a b x).1 with
    | none => (none, (ev a b x).2)
    | some p =>
      if k = 3 then (some (-p), (ev a b x).2 + 1) else
      if k = 8 then (if p = 0 then ((ev a b z).1, (ev a b x).2 + 1 + (ev a b z).2) else ((ev a b y).1, (ev a b x).2 + 1 + (ev a b y).2 + (if (ev a b y).1.isSome then 1 else 0))) else
      match (ev a b y).1 with
      | none => (none, (ev a b x).2 + (ev a b y).2)
      | some q => if k = 7 ∧ q = 0 then (none, (ev a b x).2 + (ev a b y).2 + 1) else (some (bo k p q), (ev a b x).2 + (ev a b y).2 + 1)) := by
  rw [nd, ev]
/-- a number, if it is one -/
def nu (t : Tr) : Option Int32 := if kd t = 0 then some (vv t) else none
def nm (v : Int32) : Tr := nd 0 v nl nl nl
/-- what each sort of turn makes of a node, w nodes being there in all: none if it does not fit -/
def ruF (f : Nat) (t : Tr) : Option Tr :=
  if kd t < 3 ∨ 7 < kd t then none else
  match nu (p1 t) with
  | none => none
  | some x =>
    if kd t = 3 then some (nm (-x)) else
    match nu (p2 t) with
    | none => none
    | some y => if kd t = 7 ∧ y = 0 then none else some (nm (if kd t = 5 ∧ f = 1 then y - x else if kd t = 6 ∧ f = 2 then (x * y).toInt16.toInt32 else bo (kd t) x y))
def ruZ (f : Nat) (t : Tr) : Option Tr :=
  let x := p1 t
  let y := p2 t
  if kd t = 4 then (if nu y = some 0 then some x else if nu x = some 0 then some y else none)
  else if kd t = 5 then (if nu y = some 0 then some x else if f = 1 ∧ nu x = some 0 then some y else none)
  else if kd t = 7 then (if nu y = some 1 then some x else none)
  else if kd t = 6 then (if nu y = some 1 then some x else if nu x = some 1 then some y else if nu y = some 0 then some (if f = 2 then x else nm 0) else if nu x = some 0 then some (if f = 2 then y else nm 0) else none)
  else none
/-- alike: tops and sizes -/
def lk (x y : Tr) : Prop := kd x = kd y ∧ vv x = vv y ∧ tsz x = tsz y
def ruS (f : Nat) (t : Tr) : Option Tr :=
  if kd t = 5 then (if (if f = 2 then (kd (p1 t) = kd (p2 t) ∧ vv (p1 t) = vv (p2 t) ∧ tsz (p1 t) = tsz (p2 t)) else fl (p1 t) = fl (p2 t)) then some (nm 0) else none)
  else if kd t = 4 ∧ f = 1 then (if fl (p1 t) = fl (p2 t) then some (nm 0) else none) else none
def ruP (f : Nat) (t : Tr) : Option Tr :=
  if kd t = 8 then
    match nu (p1 t) with
    | none => none
    | some v => some (if f = 2 then p2 t else if v = 0 ∨ (f = 1 ∧ v < 0) then p3 t else p2 t)
  else none
def ruM (f : Nat) (t : Tr) : Option Tr :=
  if kd t = 8 then
    (if (if f = 1 then tsz (p2 t) = tsz (p3 t) else fl (p2 t) = fl (p3 t)) then some (p2 t) else if f = 2 ∧ fl (p1 t) = fl (p2 t) then some (p2 t) else none)
  else none
/-- the part that comes twice -/
def twA (f : Nat) (t : Tr) : Option Tr :=
  if kd t = 6 then
    (if nu (p2 t) = some 2 then some (p1 t) else if nu (p1 t) = some 2 then some (p2 t) else if f = 1 ∧ nu (p2 t) = some 3 then some (p1 t) else if f = 1 ∧ nu (p1 t) = some 3 then some (p2 t) else none)
  else if kd t = 7 ∧ f = 2 ∧ nu (p2 t) = some 2 then some (p1 t) else none
def ruT (f w : Nat) (t : Tr) : Option Tr :=
  match twA f t with
  | none => none
  | some x => if 200 < w + tsz x - 1 then none else some (nd (if kd t = 6 then 4 else 5) 0 x x nl)
def ruK (f : Nat) (t : Tr) : Option Tr :=
  if kd t = 3 then (if kd (p1 t) = 3 then some (p1 (p1 t)) else none)
  else if kd t = 4 then (if kd (p2 t) = 3 then some (nd 5 0 (p1 t) (p1 (p2 t)) nl) else if f = 1 ∧ kd (p1 t) = 3 then some (nd 5 0 (p1 (p1 t)) (p2 t) nl) else none)
  else if kd t = 5 ∧ kd (p2 t) = 3 then some (nd (if f = 2 then 5 else 4) 0 (p1 t) (p1 (p2 t)) nl)
  else none
def ru (s f w : Nat) (t : Tr) : Option Tr :=
  if s = 0 then ruF f t else if s = 1 then ruZ f t else if s = 2 then ruS f t else if s = 3 then ruP f t else if s = 4 then ruM f t else if s = 5 then ruT f w t else if s = 6 then ruK f t else none
/-- a turn over a tree, w nodes being there in all: the new tree, how often it fired, how many nodes there are in all -/
def tn (s f : Nat) : Tr → Nat → Tr × Nat × Nat
  | .elem (.add (.index k) (.int v)) (.sub x (.sub y z)), w =>
    let a := tn s f x w
    let b := tn s f y a.2.2
    let c := tn s f z b.2.2
    match ru s f c.2.2 (nd k v a.1 b.1 c.1) with
    | none => (nd k v a.1 b.1 c.1, a.2.1 + b.2.1 + c.2.1, c.2.2)
    | some u => (u, a.2.1 + b.2.1 + c.2.1 + 1, c.2.2 - tsz (nd k v a.1 b.1 c.1) + tsz u)
  | t, w => (t, 0, w)
theorem tn_nl (s f w : Nat) : tn s f nl w = (nl, 0, w) := by simp only [nl, tn]
theorem tn_nd (s f w k : Nat) (v : Int32) (x y z : Tr) : tn s f (nd k v x y z) w =
    (match ru s f (tn s f z (tn s f y (tn s f x w).2.2).2.2).2.2 (nd k v (tn s f x w).1 (tn s f y (tn s f x w).2.2).1 (tn s f z (tn s f y (tn s f x w).2.2).2.2).1) with
    | none => (nd k v (tn s f x w).1 (tn s f y (tn s f x w).2.2).1 (tn s f z (tn s f y (tn s f x w).2.2).2.2).1, (tn s f x w).2.1 + (tn s f y (tn s f x w).2.2).2.1 + (tn s f z (tn s f y (tn s f x w).2.2).2.2).2.1, (tn s f z (tn s f y (tn s f x w).2.2).2.2).2.2)
    | some u => (u, (tn s f x w).2.1 + (tn s f y (tn s f x w).2.2).2.1 + (tn s f z (tn s f y (tn s f x w).2.2).2.2).2.1 + 1, (tn s f z (tn s f y (tn s f x w).2.2).2.2).2.2 - tsz (nd k v (tn s f x w).1 (tn s f y (tn s f x w).2.2).1 (tn s f z (tn s f y (tn s f x w).2.2).2.2).1) + tsz u)) := by
  rw [nd, tn]
