/-! the class: the orders done -/
/-- one order, read at x4 - 1 -/
def rnB (K8 : Nat → Int32 → Int32 → Int32 → Int32 → Int32 → Sg → Prop) (t : Nat) (x1 x2 x3 x4 x5 x6 x7 : Int32) (σ : Sg) (Q : Int32 → Sg → Prop) : Prop :=
  if 2 < x6 then (
    if x6 = 10 then lt (if x4 < x7 then x7 else x4) fun x4_40 => wX0_run_244 K8 t x1 x2 x3 x4_40 x5 σ Q
    else if 1 ≤ x3 then (
      if x6 = 9 then lt (x3 + (-1)) fun x3_37 => vp_in x3_37 200 ∧ (if σ.1 (t + 6) (Int32.toNatClampNeg x3_37) = 0 then wX0_run_158 K8 t x1 x2 x3_37 x5 (if x4 < x7 then x7 else x4) σ Q else wX0_run_158 K8 t x1 x2 x3_37 x5 x4 σ Q)
      else if x6 = 3 then vp_in (x3 - 1) 200 ∧ lt (sI σ (t + 6) (upd (σ.1 (t + 6)) (Int32.toNatClampNeg (x3 - 1)) (-(σ.1 (t + 6) (Int32.toNatClampNeg (x3 - 1)))))) fun σ_35 => wX0_run_244 K8 t x1 x2 x3 x4 x5 σ_35 Q
      else if x3 < 2 then Q 0 σ
      else if x6 = 7 then vp_in (x3 - 1) 200 ∧ (if σ.1 (t + 6) (Int32.toNatClampNeg (x3 - 1)) = 0 then Q 0 σ else wX0_run_214 K8 t x1 x2 x3 x4 x5 x6 σ Q)
      else wX0_run_214 K8 t x1 x2 x3 x4 x5 x6 σ Q)
    else Q 0 σ)
  else if x3 < 200 then (
    if x6 = 0 then wX0_run_94 K8 t x1 x2 x3 x4 x5 x3 x7 σ Q
    else if x6 = 1 then wX0_run_94 K8 t x1 x2 x3 x4 x5 x3 x1 σ Q
    else wX0_run_94 K8 t x1 x2 x3 x4 x5 x3 x2 σ Q)
  else Q 0 σ
section
variable {Q : Int32 → Sg → Prop} {t n c p : Nat} {a b : Int32} {Xs : List Od} {σ : Sg} {st : List Int32}
/-- what running changes: the stack, the result, how many were done -/
def Rf (t : Nat) (σ τ : Sg) : Prop := (∀ i, i ≠ t → i ≠ t + 6 → τ.1 i = σ.1 i) ∧ (∀ k, k ≠ 10 → k ≠ 11 → τ.1 t k = σ.1 t k) ∧ τ.2 = σ.2
theorem Rf.rf : Rf t σ σ := ⟨fun _ _ _ => rfl, fun _ _ _ => rfl, rfl⟩
theorem Rf.tr {τ ρ : Sg} (h : Rf t σ τ) (g : Rf t τ ρ) : Rf t σ ρ := ⟨fun i a b => (g.1 i a b).trans (h.1 i a b), fun k a b => (g.2.1 k a b).trans (h.2.1 k a b), g.2.2.trans h.2.2⟩
theorem Rf.co {τ : Sg} (h : CoR σ t Xs) (g : Rf t σ τ) : CoR τ t Xs := by
  obtain ⟨a, b, c, d, e1, e2, e3⟩ := h
  refine ⟨a, b, by rw [g.2.1 2 (by omega) (by omega)]; exact c, fun i e he => ?_, by rw [g.2.1 3 (by omega) (by omega)]; exact e1, by rw [g.2.1 4 (by omega) (by omega)]; exact e2, by rw [g.2.1 5 (by omega) (by omega)]; exact e3⟩
  rw [g.1 _ (by omega) (by omega), g.1 _ (by omega) (by omega)]
  exact d i e he
theorem Rf.s {τ : Sg} (f : Nat → Int32) (e : τ = sI σ (t + 6) f) : Rf t σ τ := by
  refine ⟨fun i x y => ?_, fun k x y => ?_, ?_⟩
  · rw [e, sI_1, up_n _ _ _ _ y]
  · rw [e, sI_1, up_n _ _ _ _ (by omega)]
  · rw [e]; rfl
theorem Rf.f {τ : Sg} {k : Nat} {v : Int32} (hk : k = 10 ∨ k = 11) (e : τ = sI σ t (upd (σ.1 t) k v)) : Rf t σ τ := by
  refine ⟨fun i x y => ?_, fun j x y => ?_, ?_⟩
  · rw [e, sI_1, up_n _ _ _ _ x]
  · rw [e, sI_1, up_s, ud_n _ _ _ _ (by omega)]
  · rw [e]; rfl
def Sk (σ : Sg) (t : Nat) (st : List Int32) : Prop := ∀ j v, st[j]? = some v → σ.1 (t + 6) j = v
theorem Sk.cg {τ : Sg} (h : Sk σ t st) (e : τ.1 (t + 6) = σ.1 (t + 6)) : Sk τ t st := fun j v hj => by rw [e]; exact h j v hj
theorem Sk.top {v : Int32} (h : Sk σ t (st ++ [v])) : σ.1 (t + 6) st.length = v := h st.length v (by rw [List.getElem?_append_right (Nat.le_refl _), Nat.sub_self]; rfl)
theorem Sk.dn {v : Int32} (h : Sk σ t (st ++ [v])) : Sk σ t st := fun j w hj => h j w (by rw [List.getElem?_append_left (List.getElem?_eq_some_iff.mp hj).1]; exact hj)
/-- a value at the top -/
theorem Sk.up {τ : Sg} {v : Int32} (h : Sk σ t st) (e : τ.1 (t + 6) = upd (σ.1 (t + 6)) st.length v) : Sk τ t (st ++ [v]) := fun j w hj => by
  rw [e]
  by_cases q : j < st.length
  · rw [List.getElem?_append_left q] at hj
    rw [ud_n _ _ _ _ (by omega)]
    exact h j w hj
  · have hl := (List.getElem?_eq_some_iff.mp hj).1
    rw [List.length_append, List.length_singleton] at hl
    have ej : j = st.length := by omega
    subst ej
    rw [List.getElem?_append_right (Nat.le_refl _), Nat.sub_self] at hj
    rw [ud_s]
    exact Option.some.inj hj
theorem rn_pre {o : Nat} {dt x3 : Int32} (he : Xs[p]? = some (o, dt)) (hc : c ≤ p) (h : CoR σ t Xs) (hB : ∀ τ, Rf t σ τ → τ.1 t 11 = nI (c + 1) → τ.1 (t + 6) = σ.1 (t + 6) → rnB (wX0_run_8 Q n) t a b x3 (nI (p + 1)) (nI (c + 1)) (nI o) dt τ Q) : wX0_run_8 Q (n + 1) t a b x3 (nI p) (nI (c + 1)) σ := by
  have hp := (List.getElem?_eq_some_iff.mp he).1
  obtain ⟨h1, h2, h3, h4, -⟩ := h
  obtain ⟨o1, o2⟩ := h4 p _ he
  show wX0_run_8_b (wX0_run_8 Q n) t a b x3 (nI p) (nI (c + 1)) σ Q
  unfold wX0_run_8_b
  rw [h3, if_neg (nI_nlt (by omega) (by omega)), if_neg (nI_ge hp (by omega)), ncl (by omega), nI_1]
  refine ⟨h1, lt_i (fun τ eτ => ⟨vp_in_nI (by omega) (by omega), ?_⟩)⟩
  have r1 : τ.1 (t + 1) p = nI o := by rw [eτ, sI_1, up_n _ _ _ _ (by omega)]; exact o1
  have r2 : τ.1 (t + 2) p = dt := by rw [eτ, sI_1, up_n _ _ _ _ (by omega)]; exact o2
  rw [r1, r2]
  have := hB τ (Rf.f (Or.inr rfl) eτ) (by rw [eτ, sI_1, up_s, ud_s]) (by rw [eτ, sI_1, up_n _ _ _ _ (by omega)])
  exact this
/-- a leaf's order -/
theorem rn_leaf {o : Nat} {dt v : Int32} (he : Xs[p]? = some (o, dt)) (ho : o ≤ 2) (hv : v = if o = 0 then dt else if o = 1 then a else b) (hc : c ≤ p) (hs : st.length < 200) (h : CoR σ t Xs) (hk : Sk σ t st) (hC : ∀ τ, Rf t σ τ → Sk τ t (st ++ [v]) → τ.1 t 11 = nI (c + 1) → wX0_run_8 Q n t a b (nI (st.length + 1)) (nI (p + 1)) (nI (c + 1 + 1)) τ) : wX0_run_8 Q (n + 1) t a b (nI st.length) (nI p) (nI (c + 1)) σ := by
  refine rn_pre he hc h (fun τ f e11 e6 => ?_)
  have go : ∀ w, w = v → wX0_run_94 (wX0_run_8 Q n) t a b (nI st.length) (nI (p + 1)) (nI (c + 1)) (nI st.length) w τ Q := fun w ew => by
    unfold wX0_run_94
    rw [ncl (by omega), nI_1]
    refine ⟨h.1, vp_in_nI hs (by omega), lt_i (fun ρ eρ => lt_i (fun x ex => ?_))⟩
    rw [ex]
    unfold wX0_run_244
    refine lt_i (fun y ey => ?_)
    rw [ey, nI_1]
    exact hC ρ (f.tr (Rf.s _ eρ)) ((hk.cg e6).up (by rw [eρ, sI_1, up_s, ew])) (by rw [eρ, sI_1, up_n _ _ _ _ (by omega)]; exact e11)
  unfold rnB
  rw [if_neg (show ¬ (2 : Int32) < nI o from nI_nlt (a := 2) (by omega) (by omega)), if_pos (show nI st.length < (200 : Int32) from nI_lt (b := 200) hs (by omega))]
  by_cases z0 : o = 0
  · rw [if_pos (show nI o = (0 : Int32) by rw [z0]; rfl)]
    exact go dt (by rw [hv, if_pos z0])
  · rw [if_neg (show ¬ nI o = (0 : Int32) from ni_k (c := 0) (by omega) (by omega) z0)]
    by_cases z1 : o = 1
    · rw [if_pos (show nI o = (1 : Int32) by rw [z1]; rfl)]
      exact go a (by rw [hv, if_neg z0, if_pos z1])
    · rw [if_neg (show ¬ nI o = (1 : Int32) from ni_k (c := 1) (by omega) (by omega) z1)]
      exact go b (by rw [hv, if_neg z0, if_neg z1])
theorem rn_neg {v : Int32} (he : Xs[p]? = some (3, 0)) (hc : c ≤ p) (hs : st.length < 200) (h : CoR σ t Xs) (hk : Sk σ t (st ++ [v])) (hC : ∀ τ, Rf t σ τ → Sk τ t (st ++ [-v]) → τ.1 t 11 = nI (c + 1) → wX0_run_8 Q n t a b (nI (st.length + 1)) (nI (p + 1)) (nI (c + 1 + 1)) τ) : wX0_run_8 Q (n + 1) t a b (nI (st.length + 1)) (nI p) (nI (c + 1)) σ := by
  refine rn_pre he hc h (fun τ f e11 e6 => ?_)
  unfold rnB
  have tp := (hk.cg e6).top
  rw [if_pos (by decide), if_neg (by decide), if_pos (show (1 : Int32) ≤ nI (st.length + 1) from nI_le (a := 1) (by omega) (by omega)), if_neg (by decide), if_pos (by decide), nI_pred, ncl (by omega), tp]
  refine ⟨vp_in_nI hs (by omega), lt_i (fun ρ eρ => ?_)⟩
  unfold wX0_run_244
  refine lt_i (fun y ey => ?_)
  rw [ey, nI_1]
  exact hC ρ (f.tr (Rf.s _ eρ)) ((hk.cg e6).dn.up (by rw [eρ, sI_1, up_s])) (by rw [eρ, sI_1, up_n _ _ _ _ (by omega)]; exact e11)
theorem rn_bin {o : Nat} {v w : Int32} (he : Xs[p]? = some (o, 0)) (h4 : 4 ≤ o) (h8 : o < 8) (hc : c ≤ p) (hs : st.length + 1 < 200) (h : CoR σ t Xs) (hk : Sk σ t (st ++ [v] ++ [w])) (h0 : o = 7 → w = 0 → ∀ τ, Rf t σ τ → τ.1 t 11 = nI (c + 1) → Q 0 τ) (hC : ¬ (o = 7 ∧ w = 0) → ∀ τ, Rf t σ τ → Sk τ t (st ++ [bo o v w]) → τ.1 t 11 = nI (c + 1) → wX0_run_8 Q n t a b (nI (st.length + 1)) (nI (p + 1)) (nI (c + 1 + 1)) τ) : wX0_run_8 Q (n + 1) t a b (nI (st.length + 1 + 1)) (nI p) (nI (c + 1)) σ := by
  refine rn_pre he hc h (fun τ f e11 e6 => ?_)
  unfold rnB
  have tw := (hk.cg e6).top
  have tv := (hk.cg e6).dn.top
  rw [List.length_append, List.length_singleton] at tw
  rw [if_pos (show (2 : Int32) < nI o from nI_lt (a := 2) (by omega) (by omega)), if_neg (show ¬ nI o = (10 : Int32) from ni_k (c := 10) (by omega) (by omega) (by omega)), if_pos (show (1 : Int32) ≤ nI (st.length + 1 + 1) from nI_le (a := 1) (by omega) (by omega)), if_neg (show ¬ nI o = (9 : Int32) from ni_k (c := 9) (by omega) (by omega) (by omega)), if_neg (show ¬ nI o = (3 : Int32) from ni_k (c := 3) (by omega) (by omega) (by omega)), if_neg (show ¬ nI (st.length + 1 + 1) < (2 : Int32) from nI_nlt (b := 2) (by omega) (by omega)), nI_pred, ncl (by omega), tw]
  have go : ¬ (o = 7 ∧ w = 0) → wX0_run_214 (wX0_run_8 Q n) t a b (nI (st.length + 1 + 1)) (nI (p + 1)) (nI (c + 1)) (nI o) τ Q := fun nz => by
    unfold wX0_run_214
    refine lt_i (fun x ex => ?_)
    rw [pk_m1] at ex
    rw [ex, nI_pred, ncl (by omega), ncl (by omega), tv, tw]
    refine ⟨h.1, vp_in_nI (by omega) (by omega), vp_in_nI hs (by omega), comb_sp h4 (by omega) (fun e z => nz ⟨e, z⟩) (lt_i (fun ρ eρ => ?_))⟩
    unfold wX0_run_244
    refine lt_i (fun y ey => ?_)
    rw [ey, nI_1]
    exact hC nz ρ (f.tr (Rf.s _ eρ)) ((hk.cg e6).dn.dn.up (by rw [eρ, sI_1, up_s])) (by rw [eρ, sI_1, up_n _ _ _ _ (by omega)]; exact e11)
  by_cases z7 : o = 7
  · rw [if_pos (show nI o = (7 : Int32) by rw [z7]; rfl)]
    refine ⟨vp_in_nI hs (by omega), ?_⟩
    by_cases zw : w = 0
    · rw [if_pos zw]
      exact h0 z7 zw τ f e11
    · rw [if_neg zw]
      exact go (fun z => zw z.2)
  · rw [if_neg (show ¬ nI o = (7 : Int32) from ni_k (c := 7) (by omega) (by omega) z7)]
    exact go (fun z => z7 z.1)
theorem rn_jiz {e : Nat} {v : Int32} (he : Xs[p]? = some (9, nI e)) (hc : c ≤ p) (hp : p + 1 < e) (he4 : e ≤ 400) (hs : st.length < 200) (h : CoR σ t Xs) (hk : Sk σ t (st ++ [v])) (hC : ∀ τ, Rf t σ τ → Sk τ t st → τ.1 t 11 = nI (c + 1) → wX0_run_8 Q n t a b (nI st.length) (nI (if v = 0 then e else p + 1)) (nI (c + 1 + 1)) τ) : wX0_run_8 Q (n + 1) t a b (nI (st.length + 1)) (nI p) (nI (c + 1)) σ := by
  refine rn_pre he hc h (fun τ f e11 e6 => ?_)
  unfold rnB
  have tv := (hk.cg e6).top
  have := hC τ f (hk.cg e6).dn e11
  rw [if_pos (by decide), if_neg (by decide), if_pos (show (1 : Int32) ≤ nI (st.length + 1) from nI_le (a := 1) (by omega) (by omega)), if_pos (by decide)]
  refine lt_i (fun x ex => ?_)
  rw [pk_m1] at ex
  rw [ex, ncl (by omega), tv, if_pos (nI_lt hp (by omega))]
  refine ⟨vp_in_nI hs (by omega), ?_⟩
  by_cases z : v = 0
  · rw [if_pos z] at this ⊢
    unfold wX0_run_158 wX0_run_244
    refine lt_i (fun y ey => ?_)
    rw [ey, nI_1]
    exact this
  · rw [if_neg z] at this ⊢
    unfold wX0_run_158 wX0_run_244
    refine lt_i (fun y ey => ?_)
    rw [ey, nI_1]
    exact this
theorem rn_jmp {e : Nat} {x3 : Int32} (he : Xs[p]? = some (10, nI e)) (hc : c ≤ p) (hp : p + 1 < e) (he4 : e ≤ 400) (h : CoR σ t Xs) (hk : Sk σ t st) (hC : ∀ τ, Rf t σ τ → Sk τ t st → τ.1 t 11 = nI (c + 1) → wX0_run_8 Q n t a b x3 (nI e) (nI (c + 1 + 1)) τ) : wX0_run_8 Q (n + 1) t a b x3 (nI p) (nI (c + 1)) σ := by
  refine rn_pre he hc h (fun τ f e11 e6 => ?_)
  unfold rnB
  rw [if_pos (by decide), if_pos (by decide), if_pos (nI_lt hp (by omega))]
  refine lt_i (fun x ex => ?_)
  rw [ex]
  unfold wX0_run_244
  refine lt_i (fun y ey => ?_)
  rw [ey, nI_1]
  exact hC τ f (hk.cg e6) e11
end
