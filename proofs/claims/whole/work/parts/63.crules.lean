/-! the class: the rules -/
section
variable {σ : Sg} {t : Nat} {Q : Int32 → Sg → Prop} {R : List En} {u : Tr} {f : Nat}
/-- what a rule comes to -/
def rcP (t : Nat) (R : List En) (o : Option Tr) (σ : Sg) (Q : Int32 → Sg → Prop) : Prop := (o = none → Q 0 σ) ∧ ∀ w, o = some w → ∀ τ, Gm (fun i => t ≤ i ∧ i < t + 4) σ τ → TrR τ t (R ++ fl w) → Q 1 τ
theorem nu_k {p : Tr} (h : kd p = 0) : nu p = some (vv p) := by unfold nu; rw [if_pos h]
theorem nu_n {p : Tr} (h : kd p ≠ 0) : nu p = none := by unfold nu; rw [if_neg h]
theorem ary_k2 {k : Nat} (h1 : 4 ≤ k) (h2 : k ≤ 7) : ary k = 2 := ary_2 h1 (by omega)
theorem comb_sp {k : Nat} {x y : Int32} (h1 : 4 ≤ k) (h2 : k ≤ 7) (hy : k = 7 → y ≠ 0) (hQ : Q (bo k x y) σ) : wX7_combine (nI k) x y σ Q := by
  unfold wX7_combine
  unfold bo at hQ
  by_cases q4 : k = 4
  · subst q4
    rw [if_pos (by decide)]
    exact hQ
  rw [if_neg (show ¬ nI k = (4 : Int32) from ni_k (c := 4) (by omega) (by omega) (by omega))]
  rw [if_neg q4] at hQ
  by_cases q5 : k = 5
  · subst q5
    rw [if_pos (by decide)]
    exact hQ
  rw [if_neg (show ¬ nI k = (5 : Int32) from ni_k (c := 5) (by omega) (by omega) (by omega))]
  rw [if_neg q5] at hQ
  by_cases q6 : k = 6
  · subst q6
    rw [if_pos (by decide)]
    exact hQ
  rw [if_neg (show ¬ nI k = (6 : Int32) from ni_k (c := 6) (by omega) (by omega) (by omega))]
  rw [if_neg q6] at hQ
  have y0 := hy (by omega)
  rw [if_neg y0]
  exact ⟨y0, hQ⟩
theorem c_fold (h : TrR σ t (R ++ fl u)) (hu : wf u) (a : 1 ≤ ary (kd u)) (hf : f ≤ 2) (hQ : rcP t R (ruF f u) σ Q) : wX4_fold t (nI R.length) (nI f) σ Q := by
  obtain ⟨h0, h1⟩ := hQ
  have k8 := wf_kd hu
  have k8' := wf_kd ((wf_p hu).1 a)
  have l := h.2.2.1
  rw [rlen hu] at l
  unfold ruF at h0 h1
  unfold wX4_fold
  refine ⟨h.1, k0 h hu (lt_i (fun x ex => ?_))⟩
  rw [nI_1] at ex
  rw [ex]
  by_cases q : kd u < 3 ∨ 7 < kd u
  · rw [if_pos q] at h0
    have h0 := h0 rfl
    by_cases q1 : kd u < 3
    · rw [if_pos (show nI (kd u) < (3 : Int32) from nI_lt (b := 3) q1 (by omega))]
      exact h0
    · rw [if_neg (show ¬ nI (kd u) < (3 : Int32) from nI_nlt (b := 3) (by omega) (by omega)), if_pos (show (7 : Int32) < nI (kd u) from nI_lt (a := 7) (by omega) (by omega))]
      exact h0
  rw [if_neg q] at h0 h1
  rw [if_neg (show ¬ nI (kd u) < (3 : Int32) from nI_nlt (b := 3) (by omega) (by omega)), if_neg (show ¬ (7 : Int32) < nI (kd u) from nI_nlt (a := 7) (by omega) (by omega))]
  refine k1 h hu a ?_
  by_cases z1 : kd (p1 u) = 0
  rotate_left
  · rw [nu_n z1] at h0
    rw [if_neg (show ¬ nI (kd (p1 u)) = (0 : Int32) from ni_k (c := 0) (by omega) (by omega) z1)]
    exact h0 rfl
  rw [nu_k z1] at h0 h1
  rw [z1, if_pos (by decide)]
  dsimp only at h0 h1
  by_cases z3 : kd u = 3
  · rw [if_pos z3] at h1
    rw [z3, if_pos (by decide)]
    exact v1 h hu a (e_num h hu (fun τ f1 h2 => h1 _ rfl τ f1 h2))
  rw [if_neg z3] at h0 h1
  rw [if_neg (show ¬ nI (kd u) = (3 : Int32) from ni_k (c := 3) (by omega) (by omega) z3)]
  have a2 : 2 ≤ ary (kd u) := by rw [ary_k2 (by omega) (by omega)]; omega
  have k8b := wf_kd ((wf_p hu).2.1 a2)
  refine b1 h hu a (k2 h hu a2 ?_)
  by_cases z2 : kd (p2 u) = 0
  rotate_left
  · rw [nu_n z2] at h0
    rw [if_neg (show ¬ nI (kd (p2 u)) = (0 : Int32) from ni_k (c := 0) (by omega) (by omega) z2)]
    exact h0 rfl
  rw [nu_k z2] at h0 h1
  rw [z2, if_pos (by decide)]
  dsimp only at h0 h1
  have go : ¬ (kd u = 7 ∧ vv (p2 u) = 0) → wX4_fold_86 t (nI R.length) (nI f) (nI (kd u)) (nI (R.length + 1)) (nI (R.length + 1 + tsz (p1 u))) σ Q := fun nz => by
    rw [if_neg nz] at h1
    unfold wX4_fold_86
    refine ⟨h.1, v1 h hu a (v2 h hu a2 (comb_sp (by omega) (by omega) (fun e z => nz ⟨e, z⟩) ?_))⟩
    have fin : ∀ v, v = (if kd u = 5 ∧ f = 1 then vv (p2 u) - vv (p1 u) else if kd u = 6 ∧ f = 2 then (vv (p1 u) * vv (p2 u)).toInt16.toInt32 else bo (kd u) (vv (p1 u)) (vv (p2 u))) → wX4_fold_148 t (nI R.length) v σ Q := fun v ev => by
      unfold wX4_fold_148
      rw [ev]
      exact ⟨h.1, e_num h hu (fun τ f1 h2 => h1 _ rfl τ f1 h2)⟩
    by_cases y5 : kd u = 5
    · rw [y5, if_pos (by decide)]
      rw [y5] at fin
      by_cases f1 : f = 1
      · subst f1
        rw [if_pos (by decide)]
        refine v2 h hu a2 (v1 h hu a (lt_i (fun w ew => ?_)))
        exact fin w (by rw [ew, if_pos ⟨rfl, rfl⟩])
      · rw [if_neg (show ¬ nI f = (1 : Int32) from ni_k (c := 1) (by omega) (by omega) f1)]
        unfold wX4_fold_132
        rw [if_neg (by decide)]
        exact fin _ (by rw [if_neg (fun w => f1 w.2), if_neg (fun w => absurd w.1 (by omega))])
    · rw [if_neg (show ¬ nI (kd u) = (5 : Int32) from ni_k (c := 5) (by omega) (by omega) y5)]
      rw [if_neg (fun w : kd u = 5 ∧ f = 1 => y5 w.1)] at fin
      unfold wX4_fold_132
      by_cases y6 : kd u = 6
      · rw [y6, if_pos (by decide)]
        rw [y6] at fin
        by_cases f2 : f = 2
        · subst f2
          rw [if_pos (by decide)]
          refine lt_i (fun w ew => ?_)
          exact fin w (by rw [ew, if_pos ⟨rfl, rfl⟩]; rfl)
        · rw [if_neg (show ¬ nI f = (2 : Int32) from ni_k (c := 2) (by omega) (by omega) f2)]
          exact fin _ (by rw [if_neg (fun w => f2 w.2)])
      · rw [if_neg (show ¬ nI (kd u) = (6 : Int32) from ni_k (c := 6) (by omega) (by omega) y6)]
        exact fin _ (by rw [if_neg (fun w => y6 w.1)])
  by_cases y7 : kd u = 7
  · rw [if_pos (show nI (kd u) = (7 : Int32) by rw [y7]; rfl)]
    refine v2 h hu a2 ?_
    by_cases v0 : vv (p2 u) = 0
    · rw [if_pos v0]
      rw [if_pos ⟨y7, v0⟩] at h0
      exact h0 rfl
    · rw [if_neg v0]
      exact go (fun w => v0 w.2)
  · rw [if_neg (show ¬ nI (kd u) = (7 : Int32) from ni_k (c := 7) (by omega) (by omega) y7)]
    exact go (fun w => y7 w.1)
theorem c_z0 (h0 : Q 0 σ) : wX4_zero_154 t (nI R.length) (-1) σ Q := by
  unfold wX4_zero_154
  rw [if_neg (by decide)]
  exact h0
theorem c_z1 (h : TrR σ t (R ++ fl u)) (hu : wf u) (a : 1 ≤ ary (kd u)) (h1 : ∀ τ, Gm (fun i => t ≤ i ∧ i < t + 4) σ τ → TrR τ t (R ++ fl (p1 u)) → Q 1 τ) : wX4_zero_154 t (nI R.length) (nI (R.length + 1)) σ Q := by
  have l := h.2.2.1
  rw [rlen hu] at l
  unfold wX4_zero_154
  rw [if_pos (show (0 : Int32) ≤ nI (R.length + 1) from nI_le (a := 0) (by omega) (by omega))]
  exact ⟨h.1, e_p1 h hu a h1⟩
theorem c_z2 (h : TrR σ t (R ++ fl u)) (hu : wf u) (a : 2 ≤ ary (kd u)) (h1 : ∀ τ, Gm (fun i => t ≤ i ∧ i < t + 4) σ τ → TrR τ t (R ++ fl (p2 u)) → Q 1 τ) : wX4_zero_154 t (nI R.length) (nI (R.length + 1 + tsz (p1 u))) σ Q := by
  have l := h.2.2.1
  have ts := tsz_p hu
  rw [rlen hu] at l
  unfold wX4_zero_154
  rw [if_pos (show (0 : Int32) ≤ nI (R.length + 1 + tsz (p1 u)) from nI_le (a := 0) (by omega) (by omega))]
  exact ⟨h.1, e_p2 h hu a h1⟩
theorem nu_0 {p : Tr} (hp : wf p) {v : Int32} (h : nu p = some v) : p = nm v := by
  unfold nu at h
  by_cases k : kd p = 0
  · rw [if_pos k] at h
    have e := Option.some.inj h
    rcases wf_cases hp with ⟨k', v', a, b, rfl⟩ | ⟨x, a, rfl⟩ | ⟨k', x, y, a, b, c, d, rfl⟩ | ⟨x, y, z, a, b, c, rfl⟩
    · rw [kd_nd] at k
      rw [vv_nd] at e
      rw [k, e]
      rfl
    · rw [kd_nd] at k; omega
    · rw [kd_nd] at k; omega
    · rw [kd_nd] at k; omega
  · rw [if_neg k] at h
    cases h
theorem c_zero (h : TrR σ t (R ++ fl u)) (hu : wf u) (a : 1 ≤ ary (kd u)) (hf : f ≤ 2) (hQ : rcP t R (ruZ f u) σ Q) : wX4_zero t (nI R.length) (nI f) σ Q := by
  obtain ⟨h0, h1⟩ := hQ
  have k8 := wf_kd hu
  unfold ruZ at h0 h1
  dsimp only at h0 h1
  unfold wX4_zero
  refine lt_i (fun x ex => ?_)
  rw [nI_1] at ex
  rw [ex]
  refine ⟨h.1, b1 h hu a (k0 h hu ?_)⟩
  by_cases q4 : kd u = 4
  · rw [if_pos q4] at h0 h1
    have a2 : 2 ≤ ary (kd u) := by rw [q4]; decide
    rw [q4, if_pos (by decide)]
    refine n2 h hu a2 ?_
    by_cases z : nu (p2 u) = some 0
    · rw [if_pos z] at h1
      rw [if_pos z, if_neg (by decide)]
      exact c_z1 h hu a (fun τ f1 h2 => h1 _ rfl τ f1 h2)
    · rw [if_neg z] at h0 h1
      rw [if_neg z, if_pos rfl]
      refine n1 h hu a ?_
      by_cases z2 : nu (p1 u) = some 0
      · rw [if_pos z2] at h1
        rw [if_pos z2, if_neg (by decide)]
        exact c_z2 h hu a2 (fun τ f1 h2 => h1 _ rfl τ f1 h2)
      · rw [if_neg z2] at h0
        rw [if_neg z2, if_pos rfl]
        exact c_z0 (t := t) (R := R) (h0 rfl)
  rw [if_neg q4] at h0 h1
  rw [if_neg (show ¬ nI (kd u) = (4 : Int32) from ni_k (c := 4) (by omega) (by omega) q4)]
  by_cases q5 : kd u = 5
  · rw [if_pos q5] at h0 h1
    have a2 : 2 ≤ ary (kd u) := by rw [q5]; decide
    rw [q5, if_pos (by decide)]
    refine n2 h hu a2 ?_
    by_cases z : nu (p2 u) = some 0
    · rw [if_pos z] at h1
      rw [if_pos z, if_neg (by decide)]
      exact c_z1 h hu a (fun τ f1 h2 => h1 _ rfl τ f1 h2)
    · rw [if_neg z] at h0 h1
      rw [if_neg z, if_pos rfl]
      by_cases f1 : f = 1
      · subst f1
        rw [if_pos (by decide)]
        refine n1 h hu a ?_
        by_cases z2 : nu (p1 u) = some 0
        · rw [if_pos ⟨rfl, z2⟩] at h1
          rw [if_pos z2, if_neg (by decide)]
          exact c_z2 h hu a2 (fun τ f1 h2 => h1 _ rfl τ f1 h2)
        · rw [if_neg (fun w => z2 w.2)] at h0
          rw [if_neg z2, if_pos rfl]
          exact c_z0 (t := t) (R := R) (h0 rfl)
      · rw [if_neg (fun w => f1 w.1)] at h0
        rw [if_neg (show ¬ nI f = (1 : Int32) from ni_k (c := 1) (by omega) (by omega) f1)]
        exact c_z0 (t := t) (R := R) (h0 rfl)
  rw [if_neg q5] at h0 h1
  rw [if_neg (show ¬ nI (kd u) = (5 : Int32) from ni_k (c := 5) (by omega) (by omega) q5)]
  by_cases q6 : kd u = 6
  · rw [if_neg (show ¬ kd u = 7 by omega), if_pos q6] at h0 h1
    have a2 : 2 ≤ ary (kd u) := by rw [q6]; decide
    rw [q6, if_pos (by decide)]
    unfold wX4_staysOfTimes
    refine ⟨h.1, n2 h hu a2 ?_⟩
    by_cases z : nu (p2 u) = some 1
    · rw [if_pos z] at h1
      rw [if_pos z, if_neg (by decide)]
      exact c_z1 h hu a (fun τ f1 h2 => h1 _ rfl τ f1 h2)
    rw [if_neg z] at h0 h1
    rw [if_neg z, if_pos rfl]
    refine n1 h hu a ?_
    by_cases z2 : nu (p1 u) = some 1
    · rw [if_pos z2] at h1
      rw [if_pos z2, if_neg (by decide)]
      exact c_z2 h hu a2 (fun τ f1 h2 => h1 _ rfl τ f1 h2)
    rw [if_neg z2] at h0 h1
    rw [if_neg z2, if_pos rfl]
    refine n2 h hu a2 ?_
    by_cases z3 : nu (p2 u) = some 0
    · rw [if_pos z3] at h1
      rw [if_pos z3, if_neg (by decide)]
      by_cases f2 : f = 2
      · rw [if_pos f2] at h1
        rw [if_pos (show nI f = (2 : Int32) by rw [f2]; rfl)]
        exact c_z1 h hu a (fun τ f1 h2 => h1 _ rfl τ f1 h2)
      · rw [if_neg f2, ← nu_0 ((wf_p hu).2.1 a2) z3] at h1
        rw [if_neg (show ¬ nI f = (2 : Int32) from ni_k (c := 2) (by omega) (by omega) f2)]
        exact c_z2 h hu a2 (fun τ f1 h2 => h1 _ rfl τ f1 h2)
    rw [if_neg z3] at h0 h1
    rw [if_neg z3, if_pos rfl]
    refine n1 h hu a ?_
    by_cases z4 : nu (p1 u) = some 0
    · rw [if_pos z4] at h1
      rw [if_pos z4, if_neg (by decide)]
      by_cases f2 : f = 2
      · rw [if_pos f2] at h1
        rw [if_pos (show nI f = (2 : Int32) by rw [f2]; rfl)]
        exact c_z2 h hu a2 (fun τ f1 h2 => h1 _ rfl τ f1 h2)
      · rw [if_neg f2, ← nu_0 ((wf_p hu).1 a) z4] at h1
        rw [if_neg (show ¬ nI f = (2 : Int32) from ni_k (c := 2) (by omega) (by omega) f2)]
        exact c_z1 h hu a (fun τ f1 h2 => h1 _ rfl τ f1 h2)
    · rw [if_neg z4] at h0
      rw [if_neg z4, if_pos rfl]
      exact c_z0 (t := t) (R := R) (h0 rfl)
  rw [if_neg (show ¬ nI (kd u) = (6 : Int32) from ni_k (c := 6) (by omega) (by omega) q6)]
  by_cases q7 : kd u = 7
  · rw [if_pos q7] at h0 h1
    have a2 : 2 ≤ ary (kd u) := by rw [q7]; decide
    rw [q7, if_pos (by decide)]
    refine n2 h hu a2 ?_
    by_cases z : nu (p2 u) = some 1
    · rw [if_pos z] at h1
      rw [if_pos z, if_neg (by decide)]
      exact c_z1 h hu a (fun τ f1 h2 => h1 _ rfl τ f1 h2)
    · rw [if_neg z] at h0
      rw [if_neg z, if_pos rfl]
      exact c_z0 (t := t) (R := R) (h0 rfl)
  · rw [if_neg q7, if_neg q6] at h0
    rw [if_neg (show ¬ nI (kd u) = (7 : Int32) from ni_k (c := 7) (by omega) (by omega) q7)]
    exact c_z0 (t := t) (R := R) (h0 rfl)
theorem c_same (h : TrR σ t (R ++ fl u)) (hu : wf u) (a : 1 ≤ ary (kd u)) (hf : f ≤ 2) (hQ : rcP t R (ruS f u) σ Q) : wX4_same t (nI R.length) (nI f) σ Q := by
  obtain ⟨h0, h1⟩ := hQ
  have k8 := wf_kd hu
  have l := h.2.2.1
  rw [rlen hu] at l
  have ts := tsz_p hu
  unfold ruS at h0 h1
  have go : 2 ≤ ary (kd u) → ∀ (P : Prop), (f = 2 → (P ↔ (kd (p1 u) = kd (p2 u) ∧ vv (p1 u) = vv (p2 u) ∧ tsz (p1 u) = tsz (p2 u)))) → (f ≠ 2 → (P ↔ fl (p1 u) = fl (p2 u))) → (P → ∀ τ, Gm (fun i => t ≤ i ∧ i < t + 4) σ τ → TrR τ t (R ++ fl (nm 0)) → Q 1 τ) → (¬ P → Q 0 σ) → wX4_same_23 t (nI R.length) (nI f) σ Q := fun a2 P e2 e3 hy hn => by
    have ka := wf_kd ((wf_p hu).1 a)
    have kb := wf_kd ((wf_p hu).2.1 a2)
    have fin : P → wX4_same_68 t (nI R.length) σ Q := fun p => by
      unfold wX4_same_68
      exact ⟨h.1, e_num h hu (fun τ f1 h2 => hy p τ f1 h2)⟩
    unfold wX4_same_23
    refine lt_i (fun x ex => ?_)
    rw [nI_1] at ex
    rw [ex]
    refine ⟨h.1, b1 h hu a ?_⟩
    by_cases f2 : f = 2
    · rw [if_pos (show nI f = (2 : Int32) by rw [f2]; rfl)]
      unfold wX4_isAlike
      refine ⟨h.1, k1 h hu a (k2 h hu a2 ?_)⟩
      by_cases y1 : kd (p1 u) = kd (p2 u)
      · rw [if_pos (by rw [y1])]
        refine v1 h hu a (v2 h hu a2 ?_)
        by_cases y2 : vv (p1 u) = vv (p2 u)
        · rw [if_pos y2]
          refine s1 h hu a (s2 h hu a2 ?_)
          by_cases y3 : tsz (p1 u) = tsz (p2 u)
          · rw [if_pos (by rw [y3])]
            dsimp only
            rw [if_neg (by decide)]
            exact fin ((e2 f2).mpr ⟨y1, y2, y3⟩)
          · rw [if_neg (fun w => y3 ((nI_eq (by omega) (by omega)).mp w))]
            dsimp only
            rw [if_pos rfl]
            exact hn (fun w => y3 ((e2 f2).mp w).2.2)
        · rw [if_neg y2]
          dsimp only
          rw [if_pos rfl]
          exact hn (fun w => y2 ((e2 f2).mp w).2.1)
      · rw [if_neg (fun w => y1 ((nI_eq (by omega) (by omega)).mp w))]
        dsimp only
        rw [if_pos rfl]
        exact hn (fun w => y1 ((e2 f2).mp w).1)
    · rw [if_neg (show ¬ nI f = (2 : Int32) from ni_k (c := 2) (by omega) (by omega) f2)]
      refine s12 h hu a2 ?_
      by_cases y : fl (p1 u) = fl (p2 u)
      · rw [if_pos y, if_neg (by decide)]
        exact fin ((e3 f2).mpr y)
      · rw [if_neg y, if_pos rfl]
        exact hn (fun w => y ((e3 f2).mp w))
  unfold wX4_same
  refine ⟨h.1, k0 h hu ?_⟩
  by_cases q5 : kd u = 5
  · rw [if_pos q5] at h0 h1
    rw [if_pos (show nI (kd u) = (5 : Int32) by rw [q5]; rfl)]
    refine go (by rw [q5]; decide) (if f = 2 then (kd (p1 u) = kd (p2 u) ∧ vv (p1 u) = vv (p2 u) ∧ tsz (p1 u) = tsz (p2 u)) else fl (p1 u) = fl (p2 u)) (fun z => by rw [if_pos z]) (fun z => by rw [if_neg z]) (fun z τ f1 h2 => ?_) (fun z => ?_)
    · rw [if_pos z] at h1
      exact h1 _ rfl τ f1 h2
    · rw [if_neg z] at h0
      exact h0 rfl
  · rw [if_neg q5] at h0 h1
    rw [if_neg (show ¬ nI (kd u) = (5 : Int32) from ni_k (c := 5) (by omega) (by omega) q5)]
    by_cases q4 : kd u = 4
    · rw [if_pos (show nI (kd u) = (4 : Int32) by rw [q4]; rfl)]
      by_cases f1 : f = 1
      · rw [if_pos ⟨q4, f1⟩] at h0 h1
        rw [if_pos (show nI f = (1 : Int32) by rw [f1]; rfl)]
        refine go (by rw [q4]; decide) (fl (p1 u) = fl (p2 u)) (fun z => by omega) (fun z => Iff.rfl) (fun z τ f1 h2 => ?_) (fun z => ?_)
        · rw [if_pos z] at h1
          exact h1 _ rfl τ f1 h2
        · rw [if_neg z] at h0
          exact h0 rfl
      · rw [if_neg (fun w => f1 w.2)] at h0
        rw [if_neg (show ¬ nI f = (1 : Int32) from ni_k (c := 1) (by omega) (by omega) f1)]
        exact h0 rfl
    · rw [if_neg (fun w => q4 w.1)] at h0
      rw [if_neg (show ¬ nI (kd u) = (4 : Int32) from ni_k (c := 4) (by omega) (by omega) q4)]
      exact h0 rfl
end
