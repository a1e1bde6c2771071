/-! the bench as such: places, THE PILE, makers, what was found, steps -/
abbrev Mk : Type := Nat × (Nat → Nat) × (Nat → Nat → Nat) × (Nat → Nat → Nat)
abbrev Ab : Type := (Nat → Tr) × List Tr × Mk × Tr × Int32
abbrev aP (A : Ab) : Nat → Tr := A.1
abbrev aL (A : Ab) : List Tr := A.2.1
abbrev aM (A : Ab) : Nat := A.2.2.1.1
abbrev aT (A : Ab) : Nat → Nat := A.2.2.1.2.1
abbrev aS (A : Ab) : Nat → Nat → Nat := A.2.2.1.2.2.1
abbrev aF (A : Ab) : Nat → Nat → Nat := A.2.2.1.2.2.2
abbrev aG (A : Ab) : Tr := A.2.2.2.1
abbrev aD (A : Ab) : Int32 := A.2.2.2.2
def psz : List Tr → Nat
  | [] => 0
  | t :: l => tsz t + psz l
def pfl : List Tr → List En
  | [] => []
  | t :: l => fl t ++ pfl l
theorem psz_app (l m : List Tr) : psz (l ++ m) = psz l + psz m := by
  induction l with
  | nil => simp [psz]
  | cons t l ih => simp only [List.cons_append, psz, ih]; omega
theorem pfl_app (l m : List Tr) : pfl (l ++ m) = pfl l ++ pfl m := by
  induction l with
  | nil => simp [pfl]
  | cons t l ih => simp only [List.cons_append, pfl, ih, List.append_assoc]
theorem pfl_len (l : List Tr) (h : ∀ t, t ∈ l → wf t) : (pfl l).length = psz l := by
  induction l with
  | nil => rfl
  | cons t l ih =>
    simp only [pfl, psz, List.length_append]
    rw [fl_len t (h t (by simp)), ih (fun u hu => h u (by simp [hu]))]
theorem psz_len (l : List Tr) (h : ∀ t, t ∈ l → wf t) : l.length ≤ psz l := by
  induction l with
  | nil => simp
  | cons t l ih =>
    have := wf_pos (h t (by simp))
    have := ih (fun u hu => h u (by simp [hu]))
    simp only [psz, List.length_cons]
    omega
def okA (A : Ab) : Prop := (∀ p, p < 20 → wn (aP A p) ∧ tsz (aP A p) ≤ 60) ∧ (∀ t, t ∈ aL A → wf t) ∧ psz (aL A) ≤ 60 ∧ aM A ≤ 8 ∧ (∀ m, m < 8 → aT A m ≤ 10 ∧ ∀ i, i < aT A m → aS A m i ≤ 6 ∧ aF A m i ≤ 2) ∧ wn (aG A) ∧ tsz (aG A) ≤ 200
/-- a number within bounds -/
def iy (lo hi : Int) (x : Int32) : Option Nat := if lo ≤ x.toInt ∧ x.toInt ≤ hi then some x.toInt.toNat else none
theorem iy_y {p : Nat} {lo hi : Int} (h1 : lo ≤ (p : Int)) (h2 : (p : Int) ≤ hi) (h3 : p < 2147483648) : iy lo hi (nI p) = some p := by
  unfold iy
  rw [nI_toInt h3, if_pos ⟨h1, h2⟩]
  rfl
theorem iy_s {p : Nat} {lo hi : Int} {x : Int32} (h0 : 0 ≤ lo) (h : iy lo hi x = some p) : x = nI p ∧ lo ≤ (p : Int) ∧ (p : Int) ≤ hi ∧ p < 2147483648 := by
  unfold iy at h
  split at h
  · next q =>
    have e : x.toInt.toNat = p := by simpa using h
    have l := x.toInt_lt
    have hp : p < 2147483648 := by omega
    refine ⟨?_, by omega, by omega, hp⟩
    rw [← Int32.toInt_inj, nI_toInt hp]
    omega
  · cases h
theorem iy_n {lo hi : Int} {x : Int32} (h0 : 0 ≤ lo) (h : ∀ p : Nat, lo ≤ (p : Int) → (p : Int) ≤ hi → x ≠ nI p) : iy lo hi x = none := by
  cases e : iy lo hi x with
  | none => rfl
  | some p =>
    obtain ⟨a, b, c, d⟩ := iy_s h0 e
    exact (h p b c a).elim
/-- a program in its place -/
def pg (A : Ab) (x : Int32) : Option Nat := match iy 0 19 x with
  | none => none
  | some p => if tsz (aP A p) = 0 then none else some p
theorem wn_0 {t : Tr} (h : wn t) (e : tsz t = 0) : t = nl := by
  rcases h with h | h
  · have := wf_pos h
    omega
  · exact h
theorem wn_1 {t : Tr} (h : wn t) (e : tsz t ≠ 0) : wf t := by
  rcases h with h | h
  · exact h
  · rw [h, tsz_nl] at e; exact absurd rfl e
theorem pg_y {A : Ab} {p : Nat} (h1 : p < 20) (h2 : tsz (aP A p) ≠ 0) : pg A (nI p) = some p := by
  unfold pg
  rw [iy_y (by omega) (by omega) (by omega)]
  simp [h2]
theorem pg_n {A : Ab} {x : Int32} (h : ∀ p, p < 20 → x = nI p → tsz (aP A p) = 0) : pg A x = none := by
  unfold pg
  cases e : iy 0 19 x with
  | none => rfl
  | some p =>
    obtain ⟨a, b, c, d⟩ := iy_s (by omega) e
    simp [h p (by omega) a]
theorem pg_s {A : Ab} {x : Int32} {p : Nat} (h : pg A x = some p) : p < 20 ∧ x = nI p ∧ tsz (aP A p) ≠ 0 := by
  unfold pg at h
  cases e : iy 0 19 x with
  | none => rw [e] at h; cases h
  | some q =>
    rw [e] at h
    obtain ⟨a, b, c, d⟩ := iy_s (by omega) e
    by_cases z : tsz (aP A q) = 0
    · simp [z] at h
    · simp [z] at h
      subst h
      exact ⟨by omega, a, z⟩
/-- changed: a place, THE PILE, what was found, steps, makers -/
def sP (A : Ab) (p : Nat) (t : Tr) : Ab := (fun q => if q = p then t else aP A q, A.2)
def sL (A : Ab) (l : List Tr) : Ab := (A.1, l, A.2.2)
def sG (A : Ab) (t : Tr) : Ab := (A.1, A.2.1, A.2.2.1, t, A.2.2.2.2)
def sD (A : Ab) (x : Int32) : Ab := (A.1, A.2.1, A.2.2.1, A.2.2.2.1, x)
def sM (A : Ab) (m : Mk) : Ab := (A.1, A.2.1, m, A.2.2.2)
/-- the answers that are no numbers -/
abbrev vV : Int32 := -2000000000
/-- the subtree at a node, and a tree with another one there -/
def su : Tr → Nat → Tr
  | .elem (.add (.index k) (.int v)) (.sub x (.sub y z)), i => if i = 0 then nd k v x y z else if i ≤ tsz x then su x (i - 1) else if i ≤ tsz x + tsz y then su y (i - 1 - tsz x) else su z (i - 1 - tsz x - tsz y)
  | _, _ => nl
def sb (u : Tr) : Tr → Nat → Tr
  | .elem (.add (.index k) (.int v)) (.sub x (.sub y z)), i => if i = 0 then u else if i ≤ tsz x then nd k v (sb u x (i - 1)) y z else if i ≤ tsz x + tsz y then nd k v x (sb u y (i - 1 - tsz x)) z else nd k v x y (sb u z (i - 1 - tsz x - tsz y))
  | _, _ => nl
theorem su_nd (k : Nat) (v : Int32) (x y z : Tr) (i : Nat) : su (nd k v x y z) i = if i = 0 then nd k v x y z else if i ≤ tsz x then su x (i - 1) else if i ≤ tsz x + tsz y then su y (i - 1 - tsz x) else su z (i - 1 - tsz x - tsz y) := by
  rw [show su (nd k v x y z) i = su (.elem (.add (.index k) (.int v)) (.sub x (.sub y z))) i from rfl, su]
theorem sb_nd (u : Tr) (k : Nat) (v : Int32) (x y z : Tr) (i : Nat) : sb u (nd k v x y z) i = if i = 0 then u else if i ≤ tsz x then nd k v (sb u x (i - 1)) y z else if i ≤ tsz x + tsz y then nd k v x (sb u y (i - 1 - tsz x)) z else nd k v x y (sb u z (i - 1 - tsz x - tsz y)) := by
  rw [show sb u (nd k v x y z) i = sb u (.elem (.add (.index k) (.int v)) (.sub x (.sub y z))) i from rfl, sb]
/-- kinds and numbers alone -/
def kv (xs : List En) : List (Nat × Int32) := xs.map (fun e => (e.1, e.2.1))
theorem kv_app (xs ys : List En) : kv (xs ++ ys) = kv xs ++ kv ys := List.map_append
theorem kv_len (xs : List En) : (kv xs).length = xs.length := List.length_map _
/-- a subtree's row within the row; what a change does to the row -/
theorem su_sp (u : Tr) : ∀ t, wn t → ∀ i, i < tsz t → ∃ a c, fl t = a ++ (fl (su t i) ++ c) ∧ a.length = i ∧ wf (su t i) ∧ kv (fl (sb u t i)) = kv a ++ (kv (fl u) ++ kv c) := by
  apply wf_gen
  · intro i h
    rw [tsz_nl] at h
    omega
  · intro k v x y z hw ix iy iz i hi
    obtain ⟨wx, wy, wz⟩ := wf_parts hw
    rw [su_nd, sb_nd]
    by_cases q0 : i = 0
    · rw [if_pos q0, if_pos q0]
      exact ⟨[], [], by simp, by simp [q0], hw, by simp [kv]⟩
    rw [if_neg q0, if_neg q0]
    rw [tsz_nd] at hi
    have lx : (fl x).length = tsz x := by
      rcases wx with w | w
      · exact fl_len x w
      · rw [w, fl_nl, tsz_nl]; rfl
    have ly : (fl y).length = tsz y := by
      rcases wy with w | w
      · exact fl_len y w
      · rw [w, fl_nl, tsz_nl]; rfl
    by_cases q1 : i ≤ tsz x
    · rw [if_pos q1, if_pos q1]
      obtain ⟨a, c, e1, e2, e3, e4⟩ := ix (i - 1) (by omega)
      refine ⟨(k, v, 1 + tsz x + tsz y + tsz z) :: a, c ++ (fl y ++ fl z), ?_, by simp [e2]; omega, e3, ?_⟩
      · rw [fl_nd]
        rw [e1]
        simp
      · rw [fl_nd]
        simp only [kv, List.map_cons, List.map_append] at e4 ⊢
        rw [e4]
        simp
    rw [if_neg q1, if_neg q1]
    by_cases q2 : i ≤ tsz x + tsz y
    · rw [if_pos q2, if_pos q2]
      obtain ⟨a, c, e1, e2, e3, e4⟩ := iy (i - 1 - tsz x) (by omega)
      refine ⟨(k, v, 1 + tsz x + tsz y + tsz z) :: (fl x ++ a), c ++ fl z, ?_, by simp [e2, lx]; omega, e3, ?_⟩
      · rw [fl_nd]
        rw [e1]
        simp
      · rw [fl_nd]
        simp only [kv, List.map_cons, List.map_append] at e4 ⊢
        rw [e4]
        simp
    · rw [if_neg q2, if_neg q2]
      obtain ⟨a, c, e1, e2, e3, e4⟩ := iz (i - 1 - tsz x - tsz y) (by omega)
      refine ⟨(k, v, 1 + tsz x + tsz y + tsz z) :: (fl x ++ (fl y ++ a)), c, ?_, by simp [e2, lx, ly]; omega, e3, ?_⟩
      · rw [fl_nd]
        rw [e1]
        simp
      · rw [fl_nd]
        simp only [kv, List.map_cons, List.map_append] at e4 ⊢
        rw [e4]
        simp
theorem sb_ok {u : Tr} (hu : wf u) : ∀ t, wn t → ∀ i, i < tsz t → wf (sb u t i) ∧ tsz (sb u t i) + tsz (su t i) = tsz t + tsz u := by
  apply wf_gen
  · intro i h
    rw [tsz_nl] at h
    omega
  · intro k v x y z hw ix iy iz i hi
    obtain ⟨wx, wy, wz⟩ := wf_parts hw
    rw [su_nd, sb_nd]
    have rf : ∀ t, wn t → tw t t := fun t h => by
      rcases h with h | h
      · exact Or.inl ⟨h, h⟩
      · exact Or.inr ⟨h, h⟩
    by_cases q0 : i = 0
    · rw [if_pos q0, if_pos q0]
      exact ⟨hu, by omega⟩
    rw [if_neg q0, if_neg q0]
    rw [tsz_nd] at hi
    by_cases q1 : i ≤ tsz x
    · rw [if_pos q1, if_pos q1]
      obtain ⟨a, b⟩ := ix (i - 1) (by omega)
      refine ⟨wf_same hw (Or.inl ⟨wn_1 wx (by omega), a⟩) (rf y wy) (rf z wz), ?_⟩
      rw [tsz_nd, tsz_nd]
      omega
    rw [if_neg q1, if_neg q1]
    by_cases q2 : i ≤ tsz x + tsz y
    · rw [if_pos q2, if_pos q2]
      obtain ⟨a, b⟩ := iy (i - 1 - tsz x) (by omega)
      refine ⟨wf_same hw (rf x wx) (Or.inl ⟨wn_1 wy (by omega), a⟩) (rf z wz), ?_⟩
      rw [tsz_nd, tsz_nd]
      omega
    · rw [if_neg q2, if_neg q2]
      obtain ⟨a, b⟩ := iz (i - 1 - tsz x - tsz y) (by omega)
      refine ⟨wf_same hw (rf x wx) (rf y wy) (Or.inl ⟨wn_1 wz (by omega), a⟩), ?_⟩
      rw [tsz_nd, tsz_nd]
      omega
