/-! the reference: what a turn makes of a node -/
/-- a part of a node: where it lies, what it is -/
theorem kid {σ : Sg} {x : Tr} {c : Int32} {n : Nat} (hx : wf x) (hr : rx σ x c n) : ∃ j, j < n ∧ c = nI j ∧ σ.1 1 j = nI (kd x) ∧ σ.1 2 j = vv x ∧ σ.1 6 j = nI (tsz x) ∧ rx σ (p1 x) (σ.1 3 j) j ∧ rx σ (p2 x) (σ.1 4 j) j ∧ rx σ (p3 x) (σ.1 5 j) j := by
  obtain ⟨k, v, a, b, c2, rfl⟩ := wf_shape x hx
  rw [rx_nd] at hr
  rw [kd_nd, vv_nd, p1_nd, p2_nd, p3_nd, tsz_nd]
  exact hr
def rlP (o : Option Tr) (n N : Nat) (σ : Sg) (r : Int32) (τ : Sg) : Prop := (o = none ∧ r = nI n ∧ τ = σ) ∨ (∃ u, o = some u ∧ r ≠ nI n ∧ Fm [1, 2, 3, 4, 5, 6] [1] σ τ ∧ Ex σ τ N ∧ ∃ M, N ≤ M ∧ M ≤ N + 1 ∧ τ.1 0 1 = nI M ∧ rx τ u r M)
theorem rl_no {o : Option Tr} {n N : Nat} {σ : Sg} (h : o = none) : rlP o n N σ (nI n) σ := Or.inl ⟨h, rfl, rfl⟩
/-- one of its parts stays -/
theorem rl_part {o : Option Tr} {u : Tr} {n N j : Nat} {σ : Sg} (h : o = some u) (hu : wf u) (hn : n < N) (hN : N < 9000) (ht : σ.1 0 1 = nI N) (hr : rx σ u (nI j) n) : rlP o n N σ (nI j) σ := by
  obtain ⟨i, h1, h2, -⟩ := kid hu hr
  have e : j = i ∨ ¬ j < 9000 := by
    by_cases q : j < 9000
    · exact Or.inl ((nI_eq (by omega) (by omega)).mp h2)
    · exact Or.inr q
  refine Or.inr ⟨u, h, ?_, Fm.rf, Ex.rf, N, by omega, by omega, ht, rx_le hu hr (by omega)⟩
  intro q
  have q2 : n = i := (nI_eq (by omega) (by omega)).mp (q.symm.trans h2)
  omega
/-- a new one comes -/
theorem rl_new {o : Option Tr} {u : Tr} {n N : Nat} {σ τ : Sg} {r : Int32} (h : o = some u) (hn : n < N) (hN : N < 9000) (hm : mkP u N σ r τ) : rlP o n N σ r τ := by
  obtain ⟨h1, h2, h3, h4, h5⟩ := hm
  refine Or.inr ⟨u, h, ?_, h2, h3, N + 1, by omega, by omega, h4, by rw [h1]; exact h5⟩
  intro q
  have q2 : N = n := (nI_eq (by omega) (by omega)).mp (h1.symm.trans q)
  omega
theorem ni_k {k c : Nat} (hk : k < 1000) (hc : c < 1000) (h : k ≠ c) : ¬ nI k = nI c := fun q => h ((nI_eq (by omega) (by omega)).mp q)
section
variable {σ : Sg} {t : Tr} {n N f : Nat} {Q : Int32 → Sg → Prop}
theorem folded_sp (ht : wf t) (hn : n < N) (hN : N < 9000) (hf : f ≤ 2) (htop : σ.1 0 1 = nI N) (hr : rx σ t (nI n) N) (hQ : ∀ r τ, rlP (ruF f t) n N σ r τ → Q r τ) : wX8_folded (nI n) (nI f) σ Q := by
  have hin : vp_in (nI n) 9000 := vp_in_nI (by omega) (by omega)
  have hc : (nI n).toNatClampNeg = n := ncl (by omega)
  unfold wX8_folded
  refine ⟨hin, ?_⟩
  rw [hc]
  rcases wf_cases ht with ⟨k, v, a, b, rfl⟩ | ⟨x, hx, rfl⟩ | ⟨k, x, y, a, b, hx, hy, rfl⟩ | ⟨x, y, z, hx, hy, hz, rfl⟩
  · rw [rx_nd] at hr
    obtain ⟨j, jN, e, h3, -⟩ := hr
    have e : n = j := (nI_eq (by omega) (by omega)).mp e
    subst e
    dsimp only [lt]
    rw [h3, if_pos (show nI k < (3 : Int32) from nI_lt (b := 3) a (by omega))]
    exact hQ _ _ (rl_no (by simp [ruF, kd_nd, a]))
  · rw [rx_nd] at hr
    obtain ⟨j, jN, e, h3, -, -, r1, -, -⟩ := hr
    have e : n = j := (nI_eq (by omega) (by omega)).mp e
    subst e
    obtain ⟨i, i1, i2, i3, i4, -⟩ := kid hx r1
    dsimp only [lt]
    rw [h3, if_neg (by decide), if_neg (by decide), i2]
    refine ⟨vp_in_nI (by omega) (by omega), ?_⟩
    rw [ncl (by omega), i3, i4]
    by_cases hk : kd x = 0
    · rw [hk, if_pos (by decide), if_pos (by decide)]
      exact numeral_sp hN htop (fun r τ hm => hQ _ _ (rl_new (by simp [ruF, kd_nd, p1_nd, nu, hk]) hn hN hm))
    · rw [if_neg (show ¬ nI (kd x) = (0 : Int32) from ni_k (c := 0) (by have := wf_kd hx; omega) (by omega) hk)]
      exact hQ _ _ (rl_no (by simp [ruF, kd_nd, p1_nd, nu, hk]))
  · rw [rx_nd] at hr
    obtain ⟨j, jN, e, h3, -, -, r1, r2, -⟩ := hr
    have e : n = j := (nI_eq (by omega) (by omega)).mp e
    subst e
    obtain ⟨i, i1, i2, i3, i4, -⟩ := kid hx r1
    obtain ⟨l, l1, l2, l3, l4, -⟩ := kid hy r2
    have m1 : ¬ k < 3 := by omega
    have m2 : ¬ 7 < k := by omega
    have m3 : ¬ k = 3 := by omega
    dsimp only [lt]
    rw [h3, if_neg (show ¬ nI k < (3 : Int32) from nI_nlt (b := 3) (by omega) (by omega)), if_neg (show ¬ nI k = (8 : Int32) from ni_k (c := 8) (by omega) (by omega) (by omega)), i2]
    refine ⟨vp_in_nI (by omega) (by omega), ?_⟩
    rw [ncl (by omega), i3, i4]
    by_cases hk : kd x = 0
    · rw [hk, if_pos (by decide), if_neg (show ¬ nI k = (3 : Int32) from ni_k (c := 3) (by omega) (by omega) (by omega)), l2]
      refine ⟨vp_in_nI (by omega) (by omega), ?_⟩
      rw [ncl (by omega), l3, l4]
      by_cases hk2 : kd y = 0
      · rw [hk2, if_pos (by decide)]
        have fin : ¬ (k = 7 ∧ vv y = 0) → wX8_folded_102 (nI f) (nI k) (vv x) (vv y) σ Q := by
          intro h7
          have ho : ∀ w, (if k = 5 ∧ f = 1 then vv y - vv x else if k = 6 ∧ f = 2 then (vv x * vv y).toInt16.toInt32 else bo k (vv x) (vv y)) = w → wX8_numeral w σ Q := by
            intro w hw
            subst hw
            exact numeral_sp hN htop (fun r τ hm => hQ _ _ (rl_new (by simp [ruF, kd_nd, p1_nd, p2_nd, nu, hk, hk2, m1, m2, m3, h7]) hn hN hm))
          unfold wX8_folded_102 wX8_folded_122 wX8_folded_143 wX8_folded_151
          have hb : ¬ (k = 5 ∧ f = 1) → ¬ (k = 6 ∧ f = 2) → wX8_both (nI k) (vv x) (vv y) σ (fun r_4 σ_3 => wX8_numeral r_4 σ_3 (fun r_2 σ_1 => Q r_2 σ_1)) := by
            intro q1 q2
            refine both_sp a b (fun q z => h7 ⟨q, z⟩) ?_
            exact ho _ (by rw [if_neg q1, if_neg q2])
          by_cases k5 : k = 5
          · rw [if_pos (by rw [k5]; decide)]
            by_cases f1 : f = 1
            · rw [if_pos (by rw [f1]; decide)]
              exact ho _ (by rw [if_pos ⟨k5, f1⟩])
            · rw [if_neg (show ¬ nI f = (1 : Int32) from ni_k (c := 1) (by omega) (by omega) f1), if_neg (by rw [k5]; decide)]
              exact hb (fun q => f1 q.2) (fun q => by omega)
          · rw [if_neg (show ¬ nI k = (5 : Int32) from ni_k (c := 5) (by omega) (by omega) k5)]
            by_cases k6 : k = 6
            · rw [if_pos (by rw [k6]; decide)]
              by_cases f2 : f = 2
              · rw [if_pos (by rw [f2]; decide)]
                exact ho _ (by rw [if_neg (fun q => k5 q.1), if_pos ⟨k6, f2⟩])
              · rw [if_neg (show ¬ nI f = (2 : Int32) from ni_k (c := 2) (by omega) (by omega) f2)]
                exact hb (fun q => k5 q.1) (fun q => f2 q.2)
            · rw [if_neg (show ¬ nI k = (6 : Int32) from ni_k (c := 6) (by omega) (by omega) k6)]
              exact hb (fun q => k5 q.1) (fun q => k6 q.1)
        by_cases k7 : k = 7
        · rw [if_pos (by rw [k7]; decide)]
          by_cases hz : vv y = 0
          · rw [if_pos hz]
            exact hQ _ _ (rl_no (by simp [ruF, kd_nd, p1_nd, p2_nd, nu, hk, hk2, k7, hz]))
          · rw [if_neg hz]
            exact fin (fun q => hz q.2)
        · rw [if_neg (show ¬ nI k = (7 : Int32) from ni_k (c := 7) (by omega) (by omega) k7)]
          exact fin (fun q => k7 q.1)
      · rw [if_neg (show ¬ nI (kd y) = (0 : Int32) from ni_k (c := 0) (by have := wf_kd hy; omega) (by omega) hk2)]
        exact hQ _ _ (rl_no (by simp [ruF, kd_nd, p1_nd, p2_nd, nu, hk, hk2, m3]))
    · rw [if_neg (show ¬ nI (kd x) = (0 : Int32) from ni_k (c := 0) (by have := wf_kd hx; omega) (by omega) hk)]
      exact hQ _ _ (rl_no (by simp [ruF, kd_nd, p1_nd, nu, hk]))
  · rw [rx_nd] at hr
    obtain ⟨j, jN, e, h3, -⟩ := hr
    have e : n = j := (nI_eq (by omega) (by omega)).mp e
    subst e
    dsimp only [lt]
    rw [h3, if_neg (by decide), if_pos (by decide)]
    exact hQ _ _ (rl_no (by simp [ruF, kd_nd]))
theorem zeroed_sp (ht : wf t) (hn : n < N) (hN : N < 9000) (hf : f ≤ 2) (htop : σ.1 0 1 = nI N) (hr : rx σ t (nI n) N) (hQ : ∀ r τ, rlP (ruZ f t) n N σ r τ → Q r τ) : wX8_zeroed (nI n) (nI f) σ Q := by
  have hin : vp_in (nI n) 9000 := vp_in_nI (by omega) (by omega)
  have hc : (nI n).toNatClampNeg = n := ncl (by omega)
  unfold wX8_zeroed
  refine ⟨hin, ?_⟩
  rw [hc]
  rcases wf_cases ht with ⟨k, v, a, b, rfl⟩ | ⟨x, hx, rfl⟩ | ⟨k, x, y, a, b, hx, hy, rfl⟩ | ⟨x, y, z, hx, hy, hz, rfl⟩
  · rw [rx_nd] at hr
    obtain ⟨j, jN, e, h3, -⟩ := hr
    have e : n = j := (nI_eq (by omega) (by omega)).mp e
    subst e
    dsimp only [lt]
    rw [h3, if_pos (show nI k < (4 : Int32) from nI_lt (b := 4) (by omega) (by omega))]
    exact hQ _ _ (rl_no (by simp [ruZ, kd_nd, show k ≠ 4 by omega, show k ≠ 5 by omega, show k ≠ 6 by omega, show k ≠ 7 by omega]))
  · rw [rx_nd] at hr
    obtain ⟨j, jN, e, h3, -⟩ := hr
    have e : n = j := (nI_eq (by omega) (by omega)).mp e
    subst e
    dsimp only [lt]
    rw [h3, if_pos (by decide)]
    exact hQ _ _ (rl_no (by simp [ruZ, kd_nd]))
  · rw [rx_nd] at hr
    obtain ⟨j, jN, e, h3, -, -, r1, r2, -⟩ := hr
    have e : n = j := (nI_eq (by omega) (by omega)).mp e
    subst e
    obtain ⟨i, i1, i2, i3, i4, -⟩ := kid hx r1
    obtain ⟨l, l1, l2, l3, l4, -⟩ := kid hy r2
    rw [i2] at r1
    rw [l2] at r2
    have gx : ruZ f (nd k 0 x y nl) = some x → Q (nI i) σ := fun q => hQ _ _ (rl_part q hx hn hN htop r1)
    have gy : ruZ f (nd k 0 x y nl) = some y → Q (nI l) σ := fun q => hQ _ _ (rl_part q hy hn hN htop r2)
    have g0 : ruZ f (nd k 0 x y nl) = some (nm 0) → wX8_numeral 0 σ Q := fun q => numeral_sp hN htop (fun r τ hm => hQ _ _ (rl_new q hn hN hm))
    have gn : ruZ f (nd k 0 x y nl) = none → Q (nI n) σ := fun q => hQ _ _ (rl_no q)
    have ru0 : ruZ f (nd k 0 x y nl) = (if k = 4 then (if nu y = some 0 then some x else if nu x = some 0 then some y else none) else if k = 5 then (if nu y = some 0 then some x else if f = 1 ∧ nu x = some 0 then some y else none) else if k = 7 then (if nu y = some 1 then some x else none) else if k = 6 then (if nu y = some 1 then some x else if nu x = some 1 then some y else if nu y = some 0 then some (if f = 2 then x else nm 0) else if nu x = some 0 then some (if f = 2 then y else nm 0) else none) else none) := by
      simp only [ruZ, kd_nd, p1_nd, p2_nd]
    rw [ru0] at gx gy g0 gn
    dsimp only [lt]
    rw [h3, if_neg (show ¬ nI k < (4 : Int32) from nI_nlt (b := 4) (by omega) (by omega)), if_neg (show ¬ nI k = (8 : Int32) from ni_k (c := 8) (by omega) (by omega) (by omega)), i2, l2]
    rcases (show k = 4 ∨ k = 5 ∨ k = 6 ∨ k = 7 by omega) with rfl | rfl | rfl | rfl
    · rw [if_pos (by decide)]
      refine isNumber_sp hy (by omega) r2 ?_
      by_cases c1 : nu y = some 0
      · rw [if_pos c1, if_neg (by decide)]
        exact gx (by simp [c1])
      · rw [if_neg c1, if_pos (by decide)]
        refine isNumber_sp hx (by omega) r1 ?_
        by_cases c2 : nu x = some 0
        · rw [if_pos c2, if_neg (by decide)]
          exact gy (by simp [c1, c2])
        · rw [if_neg c2, if_pos (by decide)]
          exact gn (by simp [c1, c2])
    · rw [if_neg (by decide), if_pos (by decide)]
      refine isNumber_sp hy (by omega) r2 ?_
      by_cases c1 : nu y = some 0
      · rw [if_pos c1, if_neg (by decide)]
        exact gx (by simp [c1])
      · rw [if_neg c1, if_pos (by decide)]
        by_cases f1 : f = 1
        · rw [if_pos (by rw [f1]; decide)]
          refine isNumber_sp hx (by omega) r1 ?_
          by_cases c2 : nu x = some 0
          · rw [if_pos c2, if_neg (by decide)]
            exact gy (by simp [c1, c2, f1])
          · rw [if_neg c2, if_pos (by decide)]
            exact gn (by simp [c1, c2])
        · rw [if_neg (show ¬ nI f = (1 : Int32) from ni_k (c := 1) (by omega) (by omega) f1)]
          exact gn (by simp [c1, f1])
    · rw [if_neg (by decide), if_neg (by decide), if_neg (by decide)]
      refine isNumber_sp hy (by omega) r2 ?_
      by_cases c1 : nu y = some 1
      · rw [if_pos c1, if_neg (by decide)]
        exact gx (by simp [c1])
      · rw [if_neg c1, if_pos (by decide)]
        refine isNumber_sp hx (by omega) r1 ?_
        by_cases c2 : nu x = some 1
        · rw [if_pos c2, if_neg (by decide)]
          exact gy (by simp [c1, c2])
        · rw [if_neg c2, if_pos (by decide)]
          refine isNumber_sp hy (by omega) r2 ?_
          by_cases c3 : nu y = some 0
          · rw [if_pos c3, if_neg (by decide)]
            by_cases f2 : f = 2
            · rw [if_pos (by rw [f2]; decide)]
              exact gx (by simp [c2, c3, f2])
            · rw [if_neg (show ¬ nI f = (2 : Int32) from ni_k (c := 2) (by omega) (by omega) f2)]
              exact g0 (by simp [c2, c3, f2])
          · rw [if_neg c3, if_pos (by decide)]
            refine isNumber_sp hx (by omega) r1 ?_
            by_cases c4 : nu x = some 0
            · rw [if_pos c4, if_neg (by decide)]
              by_cases f2 : f = 2
              · rw [if_pos (by rw [f2]; decide)]
                exact gy (by simp [c1, c3, c4, f2])
              · rw [if_neg (show ¬ nI f = (2 : Int32) from ni_k (c := 2) (by omega) (by omega) f2)]
                exact g0 (by simp [c1, c3, c4, f2])
            · rw [if_neg c4, if_pos (by decide)]
              exact gn (by simp [c1, c2, c3, c4])
    · rw [if_neg (by decide), if_neg (by decide), if_pos (by decide)]
      refine isNumber_sp hy (by omega) r2 ?_
      by_cases c1 : nu y = some 1
      · rw [if_pos c1, if_neg (by decide)]
        exact gx (by simp [c1])
      · rw [if_neg c1, if_pos (by decide)]
        exact gn (by simp [c1])
  · rw [rx_nd] at hr
    obtain ⟨j, jN, e, h3, -⟩ := hr
    have e : n = j := (nI_eq (by omega) (by omega)).mp e
    subst e
    dsimp only [lt]
    rw [h3, if_neg (by decide), if_pos (by decide)]
    exact hQ _ _ (rl_no (by simp [ruZ, kd_nd]))
end
