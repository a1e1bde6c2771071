/-! what each call answers, and what it changes -/
def ng (n i : Nat) : Tr := nt 16 n i
theorem pt_eq {g h : Nat → Nat → Tr} {n l : Nat} (hn : n < 16) (hl : l < prs n) (e : ∀ m i, 1 ≤ m → m < n → i < cnt m → g m i = h m i) : pt g n l = pt h n l := by
  obtain ⟨a, b, c⟩ := sp2_ok hn hl
  obtain ⟨p1, p2⟩ := mul_pos_lt c
  unfold pt
  rw [e (sp2 n l).1 _ a b (Nat.div_lt_of_lt_mul (by rw [Nat.mul_comm]; exact c)), e (n - (sp2 n l).1) _ (by omega) (by omega) (Nat.mod_lt _ p2)]
theorem nt_eq : ∀ e e2 n i, n ≤ e → n ≤ e2 → 1 ≤ n → n < 16 → i < cnt n → nt e n i = nt e2 n i := by
  intro e
  induction e with
  | zero => intro e2 n i h1 h2; omega
  | succ e ih =>
    intro e2 n i h1 h2 h3 h4 h5
    cases e2 with
    | zero => omega
    | succ e2 =>
      have sm : ∀ m j, 1 ≤ m → m < n → j < cnt m → nt e m j = nt e2 m j := fun m j a b c => ih e2 m j (by omega) (by omega) a (by omega) c
      unfold nt
      by_cases q : n ≤ 1
      · rw [if_pos q, if_pos q]
      rw [if_neg q, if_neg q]
      have ce := cnt_eq (n - 2) (by omega)
      rw [show n - 2 + 2 = n by omega, show n - 2 + 1 = n - 1 by omega] at ce
      by_cases r : i < cnt (n - 1)
      · rw [if_pos r, if_pos r, sm (n - 1) i (by omega) (by omega) r]
      rw [if_neg r, if_neg r]
      by_cases t : i - cnt (n - 1) < 4 * prs (n - 1)
      · rw [if_pos t, if_pos t]
        have pp : 0 < prs (n - 1) := by omega
        rw [pt_eq (g := nt e) (h := nt e2) (n := n - 1) (by omega) (Nat.mod_lt _ pp) (fun m j a b c => sm m j a (by omega) c)]
      · rw [if_neg t, if_neg t]
        obtain ⟨a, b, c⟩ := sp3_ok (n := n - 1) (l := i - cnt (n - 1) - 4 * prs (n - 1)) (by omega) (by omega)
        generalize sp3 (n - 1) (i - cnt (n - 1) - 4 * prs (n - 1)) = z at *
        obtain ⟨p1, p2⟩ := mul_pos_lt c
        rw [sm z.1 (z.2 / prs (n - 1 - z.1)) a (by omega) (Nat.div_lt_of_lt_mul (by rw [Nat.mul_comm]; exact c)), pt_eq (g := nt e) (h := nt e2) (n := n - 1 - z.1) (by omega) (Nat.mod_lt _ p2) (fun m j a b c => sm m j a (by omega) c)]
theorem nt_ng {d n i : Nat} (hd : 16 ≤ d) (h1 : 1 ≤ n) (h2 : n < 16) (h3 : i < cnt n) : nt d n i = ng n i := nt_eq d 16 n i (by omega) (by omega) h1 h2 h3
theorem ng_ok {n i : Nat} (h1 : 1 ≤ n) (h2 : n < 16) (h3 : i < cnt n) : wf (ng n i) ∧ tsz (ng n i) = n := nt_ok 16 n i (by omega) h1 h2 h3
/-- all of a row, by a test -/
def alB (P : Nat → Bool) : Nat → Bool
  | 0 => true
  | n + 1 => alB P n && P n
theorem alB_y {P : Nat → Bool} : ∀ n, alB P n = true ↔ ∀ i, i < n → P i = true
  | 0 => by simp [alB]
  | n + 1 => by
    rw [alB, Bool.and_eq_true, alB_y n]
    refine ⟨fun h i hi => ?_, fun h => ⟨fun i hi => h i (by omega), h n (by omega)⟩⟩
    by_cases e : i = n
    · rw [e]; exact h.2
    · exact h.1 i (by omega)
theorem alB_n {P : Nat → Bool} {n i : Nat} (h : i < n) (e : P i = false) : alB P n = false := by
  cases q : alB P n with
  | false => rfl
  | true =>
    have := (alB_y n).mp q i h
    rw [e] at this
    cases this
/-- the first one from i on, of n -/
def fs1 (P : Nat → Bool) : Nat → Nat → Option Nat
  | 0, _ => none
  | n + 1, i => if P i then some i else fs1 P n (i + 1)
theorem fs1_n {P : Nat → Bool} : ∀ n i, (∀ j, i ≤ j → j < i + n → P j = false) → fs1 P n i = none
  | 0, _, _ => rfl
  | n + 1, i, h => by
    rw [fs1, h i (by omega) (by omega)]
    exact fs1_n n (i + 1) (fun j a b => h j (by omega) (by omega))
theorem fs1_y {P : Nat → Bool} : ∀ n i j, i ≤ j → j < i + n → P j = true → (∀ j', i ≤ j' → j' < j → P j' = false) → fs1 P n i = some j
  | 0, i, j, a, b, _, _ => by omega
  | n + 1, i, j, a, b, c, d => by
    rw [fs1]
    by_cases e : i = j
    · subst e
      rw [if_pos c]
    · rw [d i (by omega) (by omega)]
      exact fs1_y n (i + 1) j (by omega) (by omega) c (fun j' x y => d j' (by omega) y)
def sfB (k : Nat) (t : Tr) : Bool := alB (fun i => alB (fun j => (ev (vI k i) (vI k j) t).1.isSome) (2 * k + 1)) (2 * k + 1)
theorem sfB_y {k : Nat} {t : Tr} : sfB k t = true ↔ ∀ i j, i ≤ 2 * k → j ≤ 2 * k → (ev (vI k i) (vI k j) t).1 ≠ none := by
  unfold sfB
  rw [alB_y]
  refine ⟨fun h i j hi hj => ?_, fun h i hi => ?_⟩
  · have := (alB_y _).mp (h i (by omega)) j (by omega)
    intro e
    rw [e] at this
    cases this
  · rw [alB_y]
    intro j hj
    have := h i j (by omega) (by omega)
    exact Option.isSome_iff_ne_none.mpr this
theorem sfB_n {k i j : Nat} {t : Tr} (hi : i ≤ 2 * k) (hj : j ≤ 2 * k) (h : (ev (vI k i) (vI k j) t).1 = none) : sfB k t = false := by
  refine alB_n (i := i) (by omega) (alB_n (i := j) (by omega) (by rw [h]; rfl))
/-- the first difference -/
def df1 (t u : Tr) (k : Nat) : Option (Nat × Nat) := match fs1 (fun i => !alB (fun j => !ot t u k i j) (2 * k + 1)) (2 * k + 1) 0 with
  | none => none
  | some i => match fs1 (ot t u k i) (2 * k + 1) 0 with
    | none => none
    | some j => some (i, j)
theorem df1_n {t u : Tr} {k : Nat} (h : ∀ i j, i ≤ 2 * k → j ≤ 2 * k → ot t u k i j = false) : df1 t u k = none := by
  unfold df1
  rw [fs1_n _ _ (fun i a b => by
    rw [(alB_y (P := fun j => !ot t u k i j) (2 * k + 1)).mpr (fun j hj => by rw [h i j (by omega) (by omega)]; rfl)]
    rfl)]
theorem df1_y {t u : Tr} {k i j : Nat} (hi : i ≤ 2 * k) (hj : j ≤ 2 * k) (h : ot t u k i j = true) (h1 : ∀ i' j', i' < i → j' ≤ 2 * k → ot t u k i' j' = false) (h2 : ∀ j', j' < j → ot t u k i j' = false) : df1 t u k = some (i, j) := by
  unfold df1
  rw [fs1_y _ 0 i (by omega) (by omega) (by rw [alB_n (i := j) (by omega) (by rw [h]; rfl)]; rfl) (fun i' a b => by
    rw [(alB_y (P := fun j => !ot t u k i' j) (2 * k + 1)).mpr (fun j hj => by rw [h1 i' j b (by omega)]; rfl)]
    rfl)]
  dsimp only
  rw [fs1_y _ 0 j (by omega) (by omega) h (fun j' a b => h2 j' b)]
/-- a difference is shown -/
def shB (so fa : Nat → Nat) (n k : Nat) (t : Tr) : Bool := sfB k t && (df1 t (md so fa n t) k).isSome
def nuB (t : Tr) : Bool := (fl t).all (fun e => e.1 != 0 || e.2.1 == 0 || e.2.1 == 1 || e.2.1 == 2)
/-- what a row says of a node -/
def tel (t : Tr) (i w : Int32) : Int32 := match iy 0 ((tsz t : Int) - 1) i, iy 0 2 w with
  | some i, some w => match (fl t)[i]? with
    | some e => if w = 0 then nI e.1 else if w = 1 then e.2.1 else nI e.2.2
    | none => vV
  | _, _ => vV
def mkN (k : Nat) (v : Int32) (l : List Tr) : Tr := nd k v (l.getD 0 nl) (l.getD 1 nl) (l.getD 2 nl)
def xMany (x : Int32) : Int64 := match iy 1 15 x with
  | some n => lN (cnt n)
  | none => -1
def xNth (x y : Int32) (z : Int64) (A : Ab) : Int32 × Ab := match iy 0 19 x, iy 1 15 y with
  | some p, some n => if 0 ≤ z.toInt ∧ z.toInt < (cnt n : Int) then (nI n, sP A p (ng n z.toInt.toNat)) else (-1, A)
  | _, _ => (-1, A)
def xNumber (x : Int32) (A : Ab) : Int64 := match pg A x with
  | some p => if tsz (aP A p) ≤ 15 ∧ nuB (aP A p) = true then lN (rk (aP A p)) else -2
  | none => -1
def xNode (x v : Int32) (A : Ab) : Int32 × Ab := match iy 0 8 x with
  | none => (-1, A)
  | some k => if k ≠ 0 ∧ v ≠ 0 then (-1, A) else if (aL A).length < ary k then (-2, A) else if psz (aL A) = 60 then (-3, A) else
    (nI ((aL A).length - ary k + 1), sL A ((aL A).take ((aL A).length - ary k) ++ [mkN k v ((aL A).drop ((aL A).length - ary k))]))
def xKeep (x : Int32) (A : Ab) : Int32 × Ab := match iy 0 19 x with
  | none => (-1, A)
  | some p => match aL A with
    | [t] => (nI (tsz t), sL (sP A p t) [])
    | _ => (-2, A)
def xDrop (x : Int32) (A : Ab) : Int32 × Ab := match pg A x with
  | none => (-1, A)
  | some p => (nI (tsz (aP A p)), sP A p nl)
def xRead (x i w : Int32) (A : Ab) : Int32 := match pg A x with
  | none => vV
  | some p => tel (aP A p) i w
def xValue (x a b : Int32) (A : Ab) : Int32 := match pg A x with
  | none => vV
  | some p => match (ev a b (aP A p)).1 with
    | none => vV
    | some v => v
def xSafe (x k : Int32) (A : Ab) : Int32 := match pg A x, iy 0 6 k with
  | some p, some k => if sfB k (aP A p) then 1 else 0
  | _, _ => -1
def xBreed (x a i b j : Int32) (A : Ab) : Int32 × Ab := match iy 0 19 x, pg A a, pg A b with
  | some p, some q, some r => match iy 0 ((tsz (aP A q) : Int) - 1) i, iy 0 ((tsz (aP A r) : Int) - 1) j with
    | some i, some j => if 60 < tsz (sb (su (aP A r) j) (aP A q) i) then (-3, A) else (nI (tsz (sb (su (aP A r) j) (aP A q) i)), sP A p (sb (su (aP A r) j) (aP A q) i))
    | _, _ => (-1, A)
  | _, _, _ => (-1, A)
def xMaker (A : Ab) : Int32 × Ab := if aM A = 8 then (-3, A) else (nI (aM A), sM A (aM A + 1, A.2.2.1.2))
def up2 (f : Nat → Nat → Nat) (m i v : Nat) : Nat → Nat → Nat := fun m' i' => if m' = m ∧ i' = i then v else f m' i'
/-- a maker by its number -/
def mg (A : Ab) (x : Int32) : Option Nat := iy 0 ((aM A : Int) - 1) x
def tg (A : Ab) (m : Nat) (x : Int32) : Option Nat := iy 0 ((aT A m : Int) - 1) x
def xTurn (x s f : Int32) (A : Ab) : Int32 × Ab := match mg A x, iy 0 6 s, iy 0 2 f with
  | some m, some s, some f => if aT A m = 10 then (-3, A) else (nI (aT A m + 1), sM A (aM A, (fun q => if q = m then aT A m + 1 else aT A q), up2 (aS A) m (aT A m) s, up2 (aF A) m (aT A m) f))
  | _, _, _ => (-1, A)
def xPlant (x t f : Int32) (A : Ab) : Int32 × Ab := match mg A x, iy 0 2 f with
  | some m, some f => match tg A m t with
    | some i => (nI (aF A m i), sM A (aM A, aT A, aS A, up2 (aF A) m i f))
    | none => (-1, A)
  | _, _ => (-1, A)
def xMade (x y n : Int32) (A : Ab) : Int32 × Ab := match mg A x, pg A y with
  | some m, some p => match iy 0 (aT A m) n with
    | some n => (nI (tsz (md (aS A m) (aF A m) n (aP A p))), sG A (md (aS A m) (aF A m) n (aP A p)))
    | none => (-1, A)
  | _, _ => (-1, A)
/-- all of a maker's turns -/
def mda (A : Ab) (m : Nat) (t : Tr) : Tr := md (aS A m) (aF A m) (aT A m) t
def xAnswer (x y a b : Int32) (A : Ab) : Int32 := match mg A x, pg A y with
  | some m, some p => match (ev a b (mda A m (aP A p))).1 with
    | none => vV
    | some v => v
  | _, _ => vV
def xCost (x y a b : Int32) (A : Ab) : Int32 := match mg A x, pg A y with
  | some m, some p => nI (ev a b (mda A m (aP A p))).2
  | _, _ => -1
def xFires (x y i : Int32) (A : Ab) : Int32 := match mg A x, pg A y with
  | some m, some p => match tg A m i with
    | some i => nI (mf (aS A m) (aF A m) i (aP A p))
    | none => -1
  | _, _ => -1
/-- bits -/
def bt (g : Nat → Bool) : Nat → Nat
  | 0 => 0
  | n + 1 => bt g n + (if g n then 2 ^ n else 0)
/-- a turn fires nowhere -/
def nvB (A : Ab) (m i : Nat) : Bool := alB (fun p => decide (tsz (aP A p) = 0 ∨ mf (aS A m) (aF A m) i (aP A p) = 0)) 20
def xNever (x : Int32) (A : Ab) : Int32 := match mg A x with
  | some m => nI (bt (nvB A m) (aT A m))
  | none => -1
def xDiffer (x y k : Int32) (A : Ab) : Int32 := match mg A x, pg A y, iy 0 6 k with
  | some m, some p, some k => if sfB k (aP A p) then nI (cI (ot (aP A p) (mda A m (aP A p)) k) (2 * k + 1) (2 * k + 1)) else -2
  | _, _, _ => -1
def xFirst (x y k : Int32) (A : Ab) : Int32 := match mg A x, pg A y, iy 0 6 k with
  | some m, some p, some k => if sfB k (aP A p) then (match df1 (aP A p) (mda A m (aP A p)) k with
    | some (i, j) => fi k i j
    | none => -5) else -2
  | _, _, _ => -1
def xCause (x y a b : Int32) (A : Ab) : Int32 := match mg A x, pg A y with
  | some m, some p => match (ev a b (aP A p)).1 with
    | none => -2
    | some v => match fs1 (fun i => decide ((ev a b (md (aS A m) (aF A m) (i + 1) (aP A p))).1 ≠ some v)) (aT A m) 0 with
      | some i => nI i
      | none => -2
  | _, _ => -1
/-- the steps of a tree at a node, all of them -/
def pa (t : Tr) (w : Nat) : Tr := if w = 0 then p1 t else if w = 1 then p2 t else p3 t
def stp (t : Tr) (i w : Nat) : Option Tr := if w = 3 then (if nu (su t i) = some 0 then none else some (sb (nm 0) t i)) else if w < ary (kd (su t i)) then some (sb (pa (su t i) w) t i) else none
def nx1 (P : Tr → Bool) (t : Tr) (i : Nat) : Nat → Nat → Option Tr
  | 0, _ => none
  | n + 1, w => match stp t i w with
    | none => nx1 P t i n (w + 1)
    | some u => if P u then some u else nx1 P t i n (w + 1)
def nx2 (P : Tr → Bool) (t : Tr) : Nat → Nat → Option Tr
  | 0, _ => none
  | n + 1, i => match nx1 P t i 4 0 with
    | some u => some u
    | none => nx2 P t n (i + 1)
def nx (P : Tr → Bool) (t : Tr) : Option Tr := nx2 P t (tsz t) 0
def sml (P : Tr → Bool) : Nat → Tr → Tr × Nat
  | 0, t => (t, 0)
  | e + 1, t => match nx P t with
    | none => (t, 0)
    | some u => ((sml P e u).1, (sml P e u).2 + 1)
def xSmall (x y k : Int32) (A : Ab) : Int32 × Ab := match mg A x, pg A y, iy 0 6 k with
  | some m, some p, some k => if shB (aS A m) (aF A m) (aT A m) k (aP A p) then
      (nI (tsz (sml (shB (aS A m) (aF A m) (aT A m) k) 120 (aP A p)).1), sD (sP A p (sml (shB (aS A m) (aF A m) (aT A m) k) 120 (aP A p)).1) (nI (sml (shB (aS A m) (aF A m) (aT A m) k) 120 (aP A p)).2))
    else (-2, A)
  | _, _, _ => (-1, A)
/-- the first number of a size, the first size -/
def ls1 (P : Nat → Nat → Bool) : Nat → Nat → Option (Nat × Nat)
  | 0, _ => none
  | n + 1, s => match fs1 (P s) (cnt s) 0 with
    | some i => some (s, i)
    | none => ls1 P n (s + 1)
def xLeast (x t n : Int32) (A : Ab) : Int64 := match mg A x, iy 1 5 n with
  | some m, some n => match tg A m t with
    | some i => match ls1 (fun s j => decide (0 < mf (aS A m) (aF A m) i (ng s j))) n 1 with
      | some (s, j) => lN (16 * j + s)
      | none => -5
    | none => -1
  | _, _ => -1
def ctB (P : Nat → Bool) : Nat → Nat
  | 0 => 0
  | n + 1 => ctB P n + (if P n then 1 else 0)
def xShown (x n k w : Int32) (A : Ab) : Int32 := match mg A x, iy 1 5 n, iy 0 2 k, iy 0 1 w with
  | some m, some n, some k, some w => nI (ctB (fun i => if w = 0 then sfB k (ng n i) else shB (aS A m) (aF A m) (aT A m) k (ng n i)) (cnt n))
  | _, _, _, _ => -1
def smN (f : Nat → Nat) : Nat → Nat
  | 0 => 0
  | n + 1 => smN f n + f n
def xCount (w : Int32) (A : Ab) : Int32 := if w = 0 then nI (ctB (fun p => decide (tsz (aP A p) ≠ 0)) 20) else if w = 1 then nI (aM A) else if w = 2 then nI (aL A).length else if w = 3 then nI (psz (aL A)) else if w = 4 then nI (smN (fun p => tsz (aP A p)) 20) else -1
def xOf (x t : Int32) (A : Ab) : Int32 := match mg A x with
  | none => -1
  | some m => if t = -1 then nI (aT A m) else match tg A m t with
    | some i => nI (10 * aS A m i + aF A m i)
    | none => -1
/-- the reference holds it -/
def RM (A : Ab) (σ : Sg) : Prop :=
  (∀ p, p < 20 → plR σ p (fl (aP A p))) ∧
  (σ.1 0 20 = nI (aL A).length ∧ σ.1 0 24 = nI (psz (aL A)) ∧ Rw (σ.1 14) (σ.1 15) 0 (pfl (aL A)) ∧ ∀ i, i < (aL A).length → σ.1 13 i = nI (psz ((aL A).take i))) ∧
  (σ.1 0 27 = nI (aM A) ∧ ∀ m, m < 8 → σ.1 18 m = nI (aT A m) ∧ ∀ i, i < aT A m → σ.1 19 (10 * m + i) = nI (aS A m i) ∧ σ.1 20 (10 * m + i) = nI (aF A m i)) ∧
  (σ.1 0 31 = nI (tsz (aG A)) ∧ ∀ i e, (fl (aG A))[i]? = some e → σ.1 21 i = nI e.1 ∧ σ.1 22 i = e.2.1 ∧ σ.1 23 i = nI e.2.2) ∧
  σ.1 0 35 = aD A ∧ cn0 σ
theorem RM.fs {A : Ab} {σ τ : Sg} (h : RM A σ) (f : Fm [1, 2, 3, 4, 5, 6, 10, 11, 16, 17, 24, 25] [1, 8, 9, 10, 11, 17, 18, 38] σ τ) : RM A τ := by
  obtain ⟨h1, ⟨h2, h3, h4, h5⟩, ⟨h6, h7⟩, ⟨h8, h9⟩, h10, h11⟩ := h
  have r : ∀ i, i ≠ 0 → i ∉ [1, 2, 3, 4, 5, 6, 10, 11, 16, 17, 24, 25] → τ.1 i = σ.1 i := f.1
  refine ⟨fun p hp => ?_, ⟨?_, ?_, ?_, ?_⟩, ⟨?_, ?_⟩, ⟨?_, ?_⟩, ?_, ?_⟩
  · obtain ⟨a, b, c⟩ := h1 p hp
    exact ⟨a, by rw [r 7 (by simp) (by simp)]; exact b, by rw [r 8 (by simp) (by simp), r 9 (by simp) (by simp)]; exact c⟩
  · rw [f.2.1 20 (by simp)]; exact h2
  · rw [f.2.1 24 (by simp)]; exact h3
  · rw [r 14 (by simp) (by simp), r 15 (by simp) (by simp)]; exact h4
  · rw [r 13 (by simp) (by simp)]; exact h5
  · rw [f.2.1 27 (by simp)]; exact h6
  · rw [r 18 (by simp) (by simp), r 19 (by simp) (by simp), r 20 (by simp) (by simp)]; exact h7
  · rw [f.2.1 31 (by simp)]; exact h8
  · rw [r 21 (by simp) (by simp), r 22 (by simp) (by simp), r 23 (by simp) (by simp)]; exact h9
  · rw [f.2.1 35 (by simp)]; exact h10
  · unfold cn0 cnR at h11 ⊢
    rw [f.2.2]; exact h11
theorem RM.fj {A : Ab} {σ τ : Sg} (h : RM A σ) (f : Fj σ τ) (c : cnR τ) : RM A τ := by
  obtain ⟨h1, h2, h3, h4, h5, h6⟩ := h
  have e := f.1
  refine ⟨fun p hp => ?_, ?_, ?_, ?_, ?_, Or.inl c⟩
  · have := h1 p hp
    unfold plR at this ⊢
    rw [e]; exact this
  · rw [e]; exact h2
  · rw [e]; exact h3
  · rw [e]; exact h4
  · rw [e]; exact h5
/-- scratch alone -/
theorem RM.sc {A : Ab} {S T : List Nat} {σ τ : Sg} (h : RM A σ) (f : Fm S T σ τ) (hS : ∀ i, i ∈ S → i ∈ [1, 2, 3, 4, 5, 6, 10, 11, 16, 17, 24, 25]) (hT : ∀ i, i ∈ T → i ∈ [1, 8, 9, 10, 11, 17, 18, 38]) : RM A τ := h.fs (f.wk hS hT)
theorem RM.mk {A : Ab} {σ : Sg} (h : RM A σ) (ok : okA A) {m : Nat} (hm : m < 8) : mkR σ m (aT A m) (aS A m) (aF A m) ∧ σ.1 18 m = nI (aT A m) ∧ aT A m ≤ 10 := by
  obtain ⟨a, b⟩ := h.2.2.1.2 m hm
  obtain ⟨c, d⟩ := ok.2.2.2.2.1 m hm
  exact ⟨⟨hm, c, fun i hi => ⟨(d i hi).1, (d i hi).2, (b i hi).1, (b i hi).2⟩⟩, a, c⟩
