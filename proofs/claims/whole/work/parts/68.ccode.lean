/-! the class: the orders of a tree -/
abbrev Od : Type := Nat × Int32
/-- how many orders -/
def cl : Tr → Nat
  | .elem (.add (.index k) (.int _)) (.sub x (.sub y z)) => if k < 3 then 1 else if k = 3 then cl x + 1 else if k = 8 then cl x + cl y + cl z + 2 else cl x + cl y + 1
  | _ => 0
theorem cl_nd (k : Nat) (v : Int32) (x y z : Tr) : cl (nd k v x y z) = if k < 3 then 1 else if k = 3 then cl x + 1 else if k = 8 then cl x + cl y + cl z + 2 else cl x + cl y + 1 := by rw [nd, cl]
/-- the orders, the first one of them at index b -/
def co : Tr → Nat → List Od
  | .elem (.add (.index k) (.int v)) (.sub x (.sub y z)), b => if k < 3 then [(k, v)] else if k = 3 then co x b ++ [(3, 0)] else
    if k = 8 then co x b ++ ((9, nI (b + cl x + 1 + cl y + 1)) :: (co y (b + cl x + 1) ++ ((10, nI (b + cl x + 1 + cl y + 1 + cl z)) :: co z (b + cl x + 1 + cl y + 1))))
    else co x b ++ (co y (b + cl x) ++ [(k, 0)])
  | _, _ => []
theorem co_nd (k : Nat) (v : Int32) (x y z : Tr) (b : Nat) : co (nd k v x y z) b = if k < 3 then [(k, v)] else if k = 3 then co x b ++ [(3, 0)] else
    if k = 8 then co x b ++ ((9, nI (b + cl x + 1 + cl y + 1)) :: (co y (b + cl x + 1) ++ ((10, nI (b + cl x + 1 + cl y + 1 + cl z)) :: co z (b + cl x + 1 + cl y + 1))))
    else co x b ++ (co y (b + cl x) ++ [(k, 0)]) := by rw [nd, co]
theorem cd_0 {k : Nat} (v : Int32) (h : k < 3) (b : Nat) : co (nd k v nl nl nl) b = [(k, v)] ∧ cl (nd k v nl nl nl) = 1 := by rw [co_nd, cl_nd, if_pos h, if_pos h]; exact ⟨rfl, rfl⟩
theorem cd_1 (x : Tr) (b : Nat) : co (nd 3 0 x nl nl) b = co x b ++ [(3, 0)] ∧ cl (nd 3 0 x nl nl) = cl x + 1 := by
  rw [co_nd, cl_nd, if_neg (by omega), if_pos rfl, if_neg (by omega), if_pos rfl]; exact ⟨rfl, rfl⟩
theorem cd_2 {k : Nat} (x y : Tr) (h1 : 4 ≤ k) (h2 : k < 8) (b : Nat) : co (nd k 0 x y nl) b = co x b ++ (co y (b + cl x) ++ [(k, 0)]) ∧ cl (nd k 0 x y nl) = cl x + cl y + 1 := by
  rw [co_nd, cl_nd, if_neg (by omega), if_neg (by omega), if_neg (by omega), if_neg (by omega), if_neg (by omega), if_neg (by omega)]; exact ⟨rfl, rfl⟩
theorem cd_3 (x y z : Tr) (b : Nat) : co (nd 8 0 x y z) b = co x b ++ ((9, nI (b + cl x + 1 + cl y + 1)) :: (co y (b + cl x + 1) ++ ((10, nI (b + cl x + 1 + cl y + 1 + cl z)) :: co z (b + cl x + 1 + cl y + 1)))) ∧ cl (nd 8 0 x y z) = cl x + cl y + cl z + 2 := by
  rw [co_nd, cl_nd, if_neg (by omega), if_neg (by omega), if_pos rfl, if_neg (by omega), if_neg (by omega), if_pos rfl]; exact ⟨rfl, rfl⟩
theorem co_len : ∀ t, wf t → ∀ b, (co t b).length = cl t ∧ 1 ≤ cl t ∧ cl t ≤ 2 * tsz t := by
  apply wf_ind
  · intro k v hk hv b
    obtain ⟨e1, e2⟩ := cd_0 v hk b
    rw [e1, e2, tsz_nd, tsz_nl]
    exact ⟨rfl, by omega, by omega⟩
  · intro x hx ix b
    obtain ⟨e1, e2⟩ := cd_1 x b
    obtain ⟨a1, a2, a3⟩ := ix b
    rw [e1, e2, tsz_nd, tsz_nl, List.length_append, a1]
    exact ⟨rfl, by omega, by omega⟩
  · intro k x y k1 k2 hx hy ix iy b
    obtain ⟨e1, e2⟩ := cd_2 x y k1 k2 b
    obtain ⟨a1, a2, a3⟩ := ix b
    obtain ⟨b1, b2, b3⟩ := iy (b + cl x)
    rw [e1, e2, tsz_nd, tsz_nl, List.length_append, List.length_append, a1, b1]
    exact ⟨by simp; omega, by omega, by omega⟩
  · intro x y z hx hy hz ix iy iz b
    obtain ⟨e1, e2⟩ := cd_3 x y z b
    obtain ⟨a1, a2, a3⟩ := ix b
    obtain ⟨b1, b2, b3⟩ := iy (b + cl x + 1)
    obtain ⟨c1, c2, c3⟩ := iz (b + cl x + 1 + cl y + 1)
    rw [e1, e2, tsz_nd, List.length_append, List.length_cons, List.length_append, List.length_cons, a1, b1, c1]
    exact ⟨by omega, by omega, by omega⟩
/-- an order is among them -/
def hO (k : Nat) (xs : List Od) : Bool := xs.any (fun e => e.1 == k)
def bI (b : Bool) : Int32 := if b then 1 else 0
theorem hO_app (k : Nat) (xs ys : List Od) : hO k (xs ++ ys) = (hO k xs || hO k ys) := List.any_append
/-- a kind is in a tree -/
def oc (k : Nat) : Tr → Bool
  | .elem (.add (.index j) (.int _)) (.sub x (.sub y z)) => j == k || oc k x || oc k y || oc k z
  | _ => false
theorem oc_nd (k j : Nat) (v : Int32) (x y z : Tr) : oc k (nd j v x y z) = (j == k || oc k x || oc k y || oc k z) := by rw [nd, oc]
theorem oc_nl (k : Nat) : oc k nl = false := by simp only [nl, oc]
theorem hO_co {k : Nat} (hk : k < 8) (h3 : k ≠ 3) : ∀ t, wf t → ∀ b, hO k (co t b) = oc k t := by
  apply wf_ind
  · intro j v hj hv b
    rw [(cd_0 v hj b).1, oc_nd, oc_nl]
    simp [hO]
  · intro x hx ix b
    rw [(cd_1 x b).1, oc_nd, oc_nl, hO_app, ix]
    have e : (3 == k) = false := by simpa using Ne.symm h3
    simp [hO, e]
  · intro j x y k1 k2 hx hy ix iy b
    rw [(cd_2 x y k1 k2 b).1, oc_nd, oc_nl, hO_app, hO_app, ix, iy]
    simp only [hO, List.any_cons, List.any_nil, Bool.or_false]
    cases (j == k) <;> cases oc k x <;> cases oc k y <;> rfl
  · intro x y z hx hy hz ix iy iz b
    have e9 : (9 == k) = false := by simp; omega
    have e10 : (10 == k) = false := by simp; omega
    have e8 : (8 == k) = false := by simp; omega
    rw [(cd_3 x y z b).1, oc_nd, hO_app, ix]
    have c : ∀ (o : Od) (xs : List Od), hO k (o :: xs) = ((o.1 == k) || hO k xs) := fun o xs => rfl
    rw [c, hO_app, iy, c, iz]
    dsimp only
    rw [e9, e10, e8]
    cases oc k x <;> cases oc k y <;> cases oc k z <;> rfl
/-- a code object at position t -/
def CoR (σ : Sg) (t : Nat) (xs : List Od) : Prop := YC.2.1 t = 0 ∧ xs.length ≤ 400 ∧ σ.1 t 2 = nI xs.length ∧ (∀ i e, xs[i]? = some e → σ.1 (t + 1) i = nI e.1 ∧ σ.1 (t + 2) i = e.2) ∧ σ.1 t 3 = bI (hO 1 xs) ∧ σ.1 t 4 = bI (hO 2 xs) ∧ σ.1 t 5 = bI (hO 7 xs)
theorem bI_0 {b : Bool} : bI b = 0 ↔ b = false := by cases b <;> decide
theorem bI_01 (b : Bool) : bI b = 0 ∨ bI b = 1 := by cases b <;> decide
section
variable {σ : Sg} {t q : Nat} {xs : List Od} {S : Sg → Prop}
/-- a flag is kept or set -/
theorem add_109 {b c : Bool} {τ0 : Sg} (ht : YC.2.1 t = 0) (hS : ∀ τ, τ = sI σ t (upd (σ.1 t) 5 (bI b)) → S τ) : wX0_add_109 t (bI b) σ S := by
  unfold wX0_add_109
  exact ⟨ht, bI_01 b, lt_i (fun τ eτ => hS τ eτ)⟩
theorem add_87 {b c : Bool} {k : Nat} (hk : k < 20) (ht : YC.2.1 t = 0) (h5 : σ.1 t 5 = bI c) (hS : ∀ τ, τ = sI (sI σ t (upd (σ.1 t) 4 (bI b))) t (upd (upd (σ.1 t) 4 (bI b)) 5 (bI (c || k == 7))) → S τ) : wX0_add_87 t (nI k) (bI b) σ S := by
  unfold wX0_add_87
  refine ⟨ht, bI_01 b, lt_i (fun τ eτ => ?_)⟩
  have t5 : τ.1 t 5 = bI c := by rw [eτ, sI_1, up_s, ud_n _ _ _ _ (by decide)]; exact h5
  have tt : τ.1 t = upd (σ.1 t) 4 (bI b) := by rw [eτ, sI_1, up_s]
  rw [t5]
  cases c with
  | true =>
    rw [if_neg (by decide)]
    unfold wX0_add_104
    refine add_109 (b := true) (c := true) (τ0 := σ) ht (fun ρ eρ => hS ρ ?_)
    rw [eρ, tt, eτ]
    rfl
  | false =>
    rw [if_pos (by decide)]
    by_cases z : k = 7
    · subst z
      rw [if_pos (by decide)]
      unfold wX0_add_104
      refine add_109 (b := true) (c := true) (τ0 := σ) ht (fun ρ eρ => hS ρ ?_)
      rw [eρ, tt, eτ]
      rfl
    · rw [if_neg (show ¬ nI k = (7 : Int32) from ni_k (c := 7) (by omega) (by omega) z)]
      refine add_109 (b := false) (c := true) (τ0 := σ) ht (fun ρ eρ => hS ρ ?_)
      rw [eρ, tt, eτ, show (k == 7) = false by simpa using z]
      rfl
theorem add_66 {b c2 c3 : Bool} {k : Nat} (hk : k < 20) (ht : YC.2.1 t = 0) (h4 : σ.1 t 4 = bI c2) (h5 : σ.1 t 5 = bI c3) (hS : ∀ τ, Gm (fun i => i = t) σ τ → τ.1 t 3 = bI b → τ.1 t 4 = bI (c2 || k == 2) → τ.1 t 5 = bI (c3 || k == 7) → (∀ j, j ≠ 3 → j ≠ 4 → j ≠ 5 → τ.1 t j = σ.1 t j) → S τ) : wX0_add_66 t (nI k) (bI b) σ S := by
  unfold wX0_add_66
  refine ⟨ht, bI_01 b, lt_i (fun τ eτ => ?_)⟩
  have t4 : τ.1 t 4 = bI c2 := by rw [eτ, sI_1, up_s, ud_n _ _ _ _ (by decide)]; exact h4
  have t5 : τ.1 t 5 = bI c3 := by rw [eτ, sI_1, up_s, ud_n _ _ _ _ (by decide)]; exact h5
  have tt : τ.1 t = upd (σ.1 t) 3 (bI b) := by rw [eτ, sI_1, up_s]
  have fin : ∀ ρ b', ρ = sI (sI τ t (upd (τ.1 t) 4 (bI b'))) t (upd (upd (τ.1 t) 4 (bI b')) 5 (bI (c3 || k == 7))) → b' = (c2 || k == 2) → S ρ := fun ρ b' eρ eb => by
    have r : ρ.1 t = upd (upd (upd (σ.1 t) 3 (bI b)) 4 (bI b')) 5 (bI (c3 || k == 7)) := by rw [eρ, sI_1, up_s, tt]
    refine hS ρ ?_ ?_ ?_ ?_ (fun j h3 h4 h5 => ?_)
    · rw [eρ, eτ]
      exact ((Gm.i (S := fun i => i = t) t _ rfl).tr (Gm.i t _ rfl)).tr (Gm.i t _ rfl)
    · rw [r, ud_n _ _ _ _ (by decide), ud_n _ _ _ _ (by decide), ud_s]
    · rw [r, ud_n _ _ _ _ (by decide), ud_s, eb]
    · rw [r, ud_s]
    · rw [r, ud_n _ _ _ _ h5, ud_n _ _ _ _ h4, ud_n _ _ _ _ h3]
  rw [t4]
  cases c2 with
  | true =>
    rw [if_neg (by decide)]
    unfold wX0_add_82
    exact add_87 (b := true) hk ht t5 (fun ρ eρ => fin ρ true eρ rfl)
  | false =>
    rw [if_pos (by decide)]
    by_cases z : k = 2
    · subst z
      rw [if_pos (by decide)]
      unfold wX0_add_82
      exact add_87 (b := true) hk ht t5 (fun ρ eρ => fin ρ true eρ rfl)
    · rw [if_neg (show ¬ nI k = (2 : Int32) from ni_k (c := 2) (by omega) (by omega) z)]
      exact add_87 (b := false) hk ht t5 (fun ρ eρ => fin ρ false eρ (by rw [show (k == 2) = false by simpa using z]; rfl))
theorem add_sp {k : Nat} {v : Int32} (hk : k < 20) (h : CoR σ t xs) (hl : xs.length < 400) (hS : ∀ τ, Gm (fun i => t ≤ i ∧ i < t + 3) σ τ → CoR τ t (xs ++ [(k, v)]) → S τ) : wX0_add t (nI k) v σ S := by
  obtain ⟨a, b, c, d, e1, e2, e3⟩ := h
  unfold wX0_add
  rw [c, if_neg (nI_pos (by omega)), if_pos (show nI xs.length < (400 : Int32) from nI_lt (b := 400) hl (by omega)), ncl (by omega)]
  refine ⟨a, vp_in_nI hl (by omega), lt_i (fun p ep => ?_)⟩
  have p2 : p.1 t 2 = nI xs.length := by rw [ep, sI_1, up_n _ _ _ _ (by omega)]; exact c
  rw [p2, ncl (by omega)]
  refine ⟨vp_in_nI hl (by omega), lt_i (fun u eu => ?_)⟩
  have u2 : u.1 t 2 = nI xs.length := by rw [eu, sI_1, up_n _ _ _ _ (by omega)]; exact p2
  rw [u2, nI_1]
  refine lt_i (fun w ew => ?_)
  have ut : u.1 t = σ.1 t := by rw [eu, sI_1, up_n _ _ _ _ (by omega), ep, sI_1, up_n _ _ _ _ (by omega)]
  have wt : w.1 t = upd (σ.1 t) 2 (nI (xs.length + 1)) := by rw [ew, sI_1, up_s, ut]
  have w1 : w.1 (t + 1) = upd (σ.1 (t + 1)) xs.length (nI k) := by rw [ew, sI_1, up_n _ _ _ _ (by omega), eu, sI_1, up_n _ _ _ _ (by omega), ep, sI_1, up_s]
  have w2 : w.1 (t + 2) = upd (σ.1 (t + 2)) xs.length v := by rw [ew, sI_1, up_n _ _ _ _ (by omega), eu, sI_1, up_s, ep, sI_1, up_n _ _ _ _ (by omega)]
  have w3 : w.1 t 3 = bI (hO 1 xs) := by rw [wt, ud_n _ _ _ _ (by decide)]; exact e1
  have w4 : w.1 t 4 = bI (hO 2 xs) := by rw [wt, ud_n _ _ _ _ (by decide)]; exact e2
  have w5 : w.1 t 5 = bI (hO 7 xs) := by rw [wt, ud_n _ _ _ _ (by decide)]; exact e3
  have gw : Gm (fun i => t ≤ i ∧ i < t + 3) σ w := by
    refine ((Gm.rf.tr (c := p) ?_).tr (c := u) ?_).tr ?_
    · rw [ep]; exact Gm.i _ _ ⟨by omega, by omega⟩
    · rw [eu]; exact Gm.i _ _ ⟨by omega, by omega⟩
    · rw [ew]; exact Gm.i _ _ ⟨by omega, by omega⟩
  have one : ∀ j, hO j (xs ++ [(k, v)]) = (hO j xs || k == j) := fun j => by
    rw [hO_app]
    simp [hO]
  have fin : ∀ b', b' = hO 1 (xs ++ [(k, v)]) → wX0_add_66 t (nI k) (bI b') w S := fun b' eb => by
    refine add_66 hk a w4 w5 (fun z g z3 z4 z5 zo => hS z (gw.tr (g.wk (fun i e => by omega))) ⟨a, by simp; omega, ?_, fun i e he => ?_, ?_, ?_, ?_⟩)
    · rw [zo 2 (by decide) (by decide) (by decide), wt, ud_s, List.length_append]; rfl
    · rw [g.1 _ (by omega), g.1 _ (by omega), w1, w2]
      by_cases q : i < xs.length
      · rw [List.getElem?_append_left q] at he
        rw [ud_n _ _ _ _ (by omega), ud_n _ _ _ _ (by omega)]
        exact d i e he
      · have hi : i = xs.length := by
          have := (List.getElem?_eq_some_iff.mp he).1
          rw [List.length_append, List.length_singleton] at this
          omega
        subst hi
        rw [List.getElem?_append_right (Nat.le_refl _), Nat.sub_self] at he
        have he' : (k, v) = e := Option.some.inj he
        rw [ud_s, ud_s, ← he']
        exact ⟨rfl, rfl⟩
    · rw [z3, eb]
    · rw [z4, one]
    · rw [z5, one]
  rw [w3]
  cases hb : hO 1 xs with
  | true =>
    rw [if_neg (by decide)]
    unfold wX0_add_61
    exact fin true (by rw [one, hb]; rfl)
  | false =>
    rw [if_pos (by decide)]
    by_cases z : k = 1
    · subst z
      rw [if_pos (by decide)]
      unfold wX0_add_61
      exact fin true (by rw [one, hb]; rfl)
    · rw [if_neg (show ¬ nI k = (1 : Int32) from ni_k (c := 1) (by omega) (by omega) z)]
      exact fin false (by rw [one, hb, show (k == 1) = false by simpa using z]; rfl)
/-- a jump is led to its end -/
theorem aim_sp {A B : List Od} {k : Nat} {v v2 : Int32} {j : Nat} (h : CoR σ t (A ++ ((k, v) :: B))) (hj : A.length = j) (hS : ∀ τ, Gm (fun i => t ≤ i ∧ i < t + 3) σ τ → CoR τ t (A ++ ((k, v2) :: B)) → S τ) : wX0_aim t (nI j) v2 σ S := by
  subst hj
  obtain ⟨a, b, c, d, e1, e2, e3⟩ := h
  rw [List.length_append, List.length_cons] at b c
  unfold wX0_aim
  rw [if_neg (nI_pos (by omega)), c, if_neg (nI_ge (by omega) (by omega)), ncl (by omega)]
  refine ⟨a, vp_in_nI (by omega) (by omega), lt_i (fun z ez => ?_)⟩
  have zo : ∀ i, i ≠ t + 2 → z.1 i = σ.1 i := fun i hi => by rw [ez, sI_1, up_n _ _ _ _ hi]
  have same : ∀ j, hO j (A ++ ((k, v2) :: B)) = hO j (A ++ ((k, v) :: B)) := fun j => by
    rw [hO_app, hO_app]
    rfl
  refine hS z (by rw [ez]; exact Gm.i _ _ ⟨by omega, by omega⟩) ⟨a, by rw [List.length_append, List.length_cons]; exact b, by rw [zo t (by omega), c, List.length_append, List.length_cons], fun i e he => ?_, by rw [zo t (by omega), same]; exact e1, by rw [zo t (by omega), same]; exact e2, by rw [zo t (by omega), same]; exact e3⟩
  rw [zo _ (by omega), ez, sI_1, up_s]
  by_cases q : i = A.length
  · subst q
    rw [List.getElem?_append_right (Nat.le_refl _), Nat.sub_self] at he
    have he' : (k, v2) = e := Option.some.inj he
    have d0 := d A.length (k, v) (by rw [List.getElem?_append_right (Nat.le_refl _), Nat.sub_self]; rfl)
    rw [ud_s, ← he']
    exact ⟨d0.1, rfl⟩
  · rw [ud_n _ _ _ _ q]
    refine d i e ?_
    rw [← he]
    by_cases q2 : i < A.length
    · rw [List.getElem?_append_left q2, List.getElem?_append_left q2]
    · rw [List.getElem?_append_right (by omega), List.getElem?_append_right (by omega), show i - A.length = (i - A.length - 1) + 1 by omega]
      rfl
end
