/-! the reference: TWICE, SINK, and a turn over a tree -/
section
variable {σ : Sg} {t : Tr} {n N f w d : Nat} {Q : Int32 → Sg → Prop}
theorem twice_sp {x : Tr} {c k : Nat} (ht : wf t) (hx : wf x) (hn : n < N) (hN : N < 9000) (hw : tsz t ≤ w) (h2 : w ≤ 200) (htop : σ.1 0 1 = nI N) (hwh : σ.1 0 11 = nI w) (hr : rx σ t (nI n) N) (rxx : rx σ x (nI c) n) (es : tsz t = 2 + tsz x) (hk : k < 9)
    (h : ruT f w t = if 200 < w + tsz x - 1 then none else some (nd k 0 x x nl)) (hQ : ∀ r τ, rlP (ruT f w t) n N σ r τ → Q r τ) : wX8_twice (nI n) (nI k) (nI c) σ Q := by
  have hin : vp_in (nI n) 9000 := vp_in_nI (by omega) (by omega)
  have hc : (nI n).toNatClampNeg = n := ncl (by omega)
  obtain ⟨o1, o2, o3, -⟩ := own ht hN hn hr
  obtain ⟨i, i1, i2, i3, i4, i5, -⟩ := kid hx rxx
  unfold wX8_twice
  refine ⟨hin, ?_⟩
  rw [i2] at rxx ⊢
  refine ⟨vp_in_nI (by omega) (by omega), ?_⟩
  rw [hc, ncl (by omega), o3, i5, hwh]
  have e : nI w - nI (tsz t) + 1 + 2 * nI (tsz x) = nI (w + tsz x - 1) := by
    rw [show (1 : Int32) = nI 1 from rfl, show (2 : Int32) = nI 2 from rfl, pk_sub hw, pk_mul, nI_add, nI_add]
    congr 1
    omega
  rw [e]
  by_cases c : 200 < w + tsz x - 1
  · rw [if_neg (show ¬ nI (w + tsz x - 1) ≤ (200 : Int32) from nI_ge (a := 200) c (by omega))]
    rw [if_pos c] at h
    exact hQ _ _ (rl_no h)
  · rw [if_pos (show nI (w + tsz x - 1) ≤ (200 : Int32) from nI_le (b := 200) (by omega) (by omega))]
    rw [if_neg c] at h
    exact pair_sp (Or.inl hx) (Or.inl hx) hN htop (rx_le hx rxx (by omega)) (rx_le hx rxx (by omega)) (fun r τ hm => hQ _ _ (rl_new h hn hN hm))
theorem twiced_sp (ht : wf t) (hn : n < N) (hN : N < 9000) (hf : f ≤ 2) (hw : tsz t ≤ w) (h2 : w ≤ 200) (htop : σ.1 0 1 = nI N) (hwh : σ.1 0 11 = nI w) (hr : rx σ t (nI n) N) (hQ : ∀ r τ, rlP (ruT f w t) n N σ r τ → Q r τ) : wX8_twiced (nI n) (nI f) σ Q := by
  have hin : vp_in (nI n) 9000 := vp_in_nI (by omega) (by omega)
  have hc : (nI n).toNatClampNeg = n := ncl (by omega)
  obtain ⟨o1, o2, o3, o4, o5, o6⟩ := own ht hN hn hr
  have hk := wf_kd ht
  have gn : twA f t = none → Q (nI n) σ := fun q => hQ _ _ (rl_no (by simp [ruT, q]))
  have r129 : kd t ≠ 6 → wX8_twiced_129 (nI n) (nI f) σ Q := by
    intro k6
    unfold wX8_twiced_129
    refine ⟨hin, ?_⟩
    rw [hc, o1]
    by_cases k7 : kd t = 7
    · rw [if_pos (by rw [k7]; decide)]
      by_cases f2 : f = 2
      · rw [if_pos (by rw [f2]; decide)]
        obtain ⟨x, y, hx, hy, et⟩ := wf_k2 ht (by omega) (by omega)
        have e1 : p1 t = x := by rw [et, p1_nd]
        have e2 : p2 t = y := by rw [et, p2_nd]
        have es : tsz t = 1 + tsz x + tsz y + tsz nl := by rw [et, tsz_nd]
        rw [tsz_nl] at es
        rw [e1] at o4
        rw [e2] at o5
        obtain ⟨i, i1, i2, -⟩ := kid hx o4
        refine isNumber_sp hy (by omega) o5 ?_
        by_cases c : nu y = some 2
        · rw [if_pos c, if_neg (by decide), i2]
          rw [i2] at o4
          have ta : twA f t = some x := by simp [twA, k7, f2, e1, e2, c]
          have sy := nu_sz hy c
          exact twice_sp (k := 5) ht hx hn hN hw h2 htop hwh hr o4 (by omega) (by omega) (by simp [ruT, ta, k7]) hQ
        · rw [if_neg c, if_pos (by decide)]
          exact gn (by simp [twA, k7, e2, c])
      · rw [if_neg (show ¬ nI f = (2 : Int32) from ni_k (c := 2) (by omega) (by omega) f2)]
        exact gn (by simp [twA, k7, f2])
    · rw [if_neg (show ¬ nI (kd t) = (7 : Int32) from ni_k (c := 7) (by omega) (by omega) k7)]
      exact gn (by simp [twA, k7, k6])
  unfold wX8_twiced
  refine ⟨hin, ?_⟩
  rw [hc, o1]
  by_cases k6 : kd t = 6
  · rw [if_pos (by rw [k6]; decide)]
    obtain ⟨x, y, hx, hy, et⟩ := wf_k2 ht (by omega) (by omega)
    have e1 : p1 t = x := by rw [et, p1_nd]
    have e2 : p2 t = y := by rw [et, p2_nd]
    have es : tsz t = 1 + tsz x + tsz y + tsz nl := by rw [et, tsz_nd]
    rw [tsz_nl] at es
    rw [e1] at o4
    rw [e2] at o5
    obtain ⟨i, i1, i2, -⟩ := kid hx o4
    obtain ⟨l, l1, l2, -⟩ := kid hy o5
    have tx : twA f t = some x → tsz y = 1 → wX8_twice (nI n) 4 (nI i) σ Q := fun q sy => twice_sp (k := 4) ht hx hn hN hw h2 htop hwh hr (by rw [← i2]; exact o4) (by omega) (by omega) (by simp [ruT, q, k6]) hQ
    have ty : twA f t = some y → tsz x = 1 → wX8_twice (nI n) 4 (nI l) σ Q := fun q sx => twice_sp (k := 4) ht hy hn hN hw h2 htop hwh hr (by rw [← l2]; exact o5) (by omega) (by omega) (by simp [ruT, q, k6]) hQ
    have tw0 : twA f t = (if nu y = some 2 then some x else if nu x = some 2 then some y else if f = 1 ∧ nu y = some 3 then some x else if f = 1 ∧ nu x = some 3 then some y else none) := by simp [twA, k6, e1, e2]
    refine isNumber_sp hy (by omega) o5 ?_
    by_cases c1 : nu y = some 2
    · rw [if_pos c1, if_neg (by decide), i2]
      exact tx (by rw [tw0, if_pos c1]) (nu_sz hy c1)
    · rw [if_neg c1, if_pos (by decide)]
      rw [if_neg c1] at tw0
      refine isNumber_sp hx (by omega) o4 ?_
      by_cases c2 : nu x = some 2
      · rw [if_pos c2, if_neg (by decide), l2]
        exact ty (by rw [tw0, if_pos c2]) (nu_sz hx c2)
      · rw [if_neg c2, if_pos (by decide)]
        rw [if_neg c2] at tw0
        have r129b : wX8_twiced_129 (nI n) (nI f) σ Q ↔ Q (nI n) σ := by
          unfold wX8_twiced_129
          rw [hc, o1, if_neg (by rw [k6]; decide)]
          exact ⟨fun q => q.2, fun q => ⟨hin, q⟩⟩
        by_cases f1 : f = 1
        · rw [if_pos (by rw [f1]; decide)]
          refine isNumber_sp hy (by omega) o5 ?_
          by_cases c3 : nu y = some 3
          · rw [if_pos c3, if_neg (by decide), i2]
            exact tx (by rw [tw0, if_pos ⟨f1, c3⟩]) (nu_sz hy c3)
          · rw [if_neg c3, if_pos (by decide)]
            rw [if_neg (fun q => c3 q.2)] at tw0
            unfold wX8_twiced_97
            rw [if_pos (by rw [f1]; decide)]
            refine ⟨hin, ?_⟩
            rw [hc]
            refine isNumber_sp hx (by omega) o4 ?_
            by_cases c4 : nu x = some 3
            · rw [if_pos c4, if_neg (by decide), l2]
              exact ty (by rw [tw0, if_pos ⟨f1, c4⟩]) (nu_sz hx c4)
            · rw [if_neg c4, if_pos (by decide), r129b]
              exact gn (by rw [tw0, if_neg (fun q => c4 q.2)])
        · rw [if_neg (show ¬ nI f = (1 : Int32) from ni_k (c := 1) (by omega) (by omega) f1)]
          unfold wX8_twiced_97
          rw [if_neg (show ¬ nI f = (1 : Int32) from ni_k (c := 1) (by omega) (by omega) f1), r129b]
          exact gn (by rw [tw0, if_neg (fun q => f1 q.1), if_neg (fun q => f1 q.1)])
  · rw [if_neg (show ¬ nI (kd t) = (6 : Int32) from ni_k (c := 6) (by omega) (by omega) k6)]
    exact r129 k6
theorem sunk_sp (ht : wf t) (hn : n < N) (hN : N < 9000) (hf : f ≤ 2) (htop : σ.1 0 1 = nI N) (hr : rx σ t (nI n) N) (hQ : ∀ r τ, rlP (ruK f t) n N σ r τ → Q r τ) : wX8_sunk (nI n) (nI f) σ Q := by
  have hin : vp_in (nI n) 9000 := vp_in_nI (by omega) (by omega)
  have hc : (nI n).toNatClampNeg = n := ncl (by omega)
  obtain ⟨o1, o2, o3, o4, o5, o6⟩ := own ht hN hn hr
  have hk := wf_kd ht
  have gn : ruK f t = none → Q (nI n) σ := fun q => hQ _ _ (rl_no q)
  unfold wX8_sunk
  refine ⟨hin, ?_⟩
  rw [hc, o1]
  by_cases k3 : kd t = 3
  · rw [if_pos (by rw [k3]; decide)]
    obtain ⟨x, hx, et⟩ := wf_k3 ht k3
    have e1 : p1 t = x := by rw [et, p1_nd]
    rw [e1] at o4
    obtain ⟨i, i1, i2, i3, -, -, i6, -⟩ := kid hx o4
    have kx := wf_kd hx
    rw [i2]
    refine ⟨vp_in_nI (by omega) (by omega), ?_⟩
    rw [ncl (by omega), i3]
    by_cases kx3 : kd x = 3
    · rw [if_pos (by rw [kx3]; decide)]
      obtain ⟨q, hq, eq⟩ := wf_k3 hx kx3
      have e2 : p1 x = q := by rw [eq, p1_nd]
      rw [e2] at i6
      obtain ⟨m, m1, m2, -⟩ := kid hq i6
      rw [m2] at i6 ⊢
      exact hQ _ _ (rl_part (by simp [ruK, k3, e1, kx3, e2]) hq hn hN htop (rx_le hq i6 (by omega)))
    · rw [if_neg (show ¬ nI (kd x) = (3 : Int32) from ni_k (c := 3) (by omega) (by omega) kx3)]
      exact gn (by simp [ruK, k3, e1, kx3])
  · rw [if_neg (show ¬ nI (kd t) = (3 : Int32) from ni_k (c := 3) (by omega) (by omega) k3)]
    by_cases k4 : kd t = 4
    · rw [if_pos (by rw [k4]; decide)]
      obtain ⟨x, y, hx, hy, et⟩ := wf_k2 ht (by omega) (by omega)
      have e1 : p1 t = x := by rw [et, p1_nd]
      have e2 : p2 t = y := by rw [et, p2_nd]
      rw [e1] at o4
      rw [e2] at o5
      obtain ⟨i, i1, i2, i3, -, -, i6, -⟩ := kid hx o4
      obtain ⟨l, l1, l2, l3, -, -, l6, -⟩ := kid hy o5
      have kx := wf_kd hx
      have ky := wf_kd hy
      rw [l2]
      refine ⟨vp_in_nI (by omega) (by omega), ?_⟩
      rw [ncl (by omega), l3]
      by_cases ky3 : kd y = 3
      · rw [if_pos (by rw [ky3]; decide)]
        obtain ⟨q, hq, eq⟩ := wf_k3 hy ky3
        have e3 : p1 y = q := by rw [eq, p1_nd]
        rw [e3] at l6
        exact pair_sp (k := 5) (Or.inl hx) (Or.inl hq) hN htop (rx_le hx o4 (by omega)) (rx_le hq l6 (by omega)) (fun r τ hm => hQ _ _ (rl_new (by simp [ruK, k4, e1, e2, ky3, e3]) hn hN hm))
      · rw [if_neg (show ¬ nI (kd y) = (3 : Int32) from ni_k (c := 3) (by omega) (by omega) ky3)]
        by_cases f1 : f = 1
        · rw [if_pos (by rw [f1]; decide), i2]
          refine ⟨vp_in_nI (by omega) (by omega), ?_⟩
          rw [ncl (by omega), i3]
          by_cases kx3 : kd x = 3
          · rw [if_pos (by rw [kx3]; decide)]
            obtain ⟨q, hq, eq⟩ := wf_k3 hx kx3
            have e3 : p1 x = q := by rw [eq, p1_nd]
            rw [e3] at i6
            rw [← l2]
            exact pair_sp (k := 5) (Or.inl hq) (Or.inl hy) hN htop (rx_le hq i6 (by omega)) (rx_le hy o5 (by omega)) (fun r τ hm => hQ _ _ (rl_new (by simp [ruK, k4, e1, e2, ky3, e3, f1, kx3]) hn hN hm))
          · rw [if_neg (show ¬ nI (kd x) = (3 : Int32) from ni_k (c := 3) (by omega) (by omega) kx3)]
            exact gn (by simp [ruK, k4, e1, e2, ky3, kx3])
        · rw [if_neg (show ¬ nI f = (1 : Int32) from ni_k (c := 1) (by omega) (by omega) f1)]
          exact gn (by simp [ruK, k4, e2, ky3, f1])
    · rw [if_neg (show ¬ nI (kd t) = (4 : Int32) from ni_k (c := 4) (by omega) (by omega) k4)]
      by_cases k5 : kd t = 5
      · rw [if_pos (by rw [k5]; decide)]
        obtain ⟨x, y, hx, hy, et⟩ := wf_k2 ht (by omega) (by omega)
        have e1 : p1 t = x := by rw [et, p1_nd]
        have e2 : p2 t = y := by rw [et, p2_nd]
        rw [e1] at o4
        rw [e2] at o5
        obtain ⟨l, l1, l2, l3, -, -, l6, -⟩ := kid hy o5
        have ky := wf_kd hy
        rw [l2]
        refine ⟨vp_in_nI (by omega) (by omega), ?_⟩
        rw [ncl (by omega), l3]
        by_cases ky3 : kd y = 3
        · rw [if_pos (by rw [ky3]; decide)]
          obtain ⟨q, hq, eq⟩ := wf_k3 hy ky3
          have e3 : p1 y = q := by rw [eq, p1_nd]
          rw [e3] at l6
          have go : ∀ k, k < 9 → ruK f t = some (nd k 0 x q nl) → wX8_sunk_172 (nI n) (nI k) σ Q := by
            intro k hk9 hru
            unfold wX8_sunk_172
            rw [hc, l2, ncl (by omega)]
            exact ⟨hin, vp_in_nI (by omega) (by omega), pair_sp (Or.inl hx) (Or.inl hq) hN htop (rx_le hx o4 (by omega)) (rx_le hq l6 (by omega)) (fun r τ hm => hQ _ _ (rl_new hru hn hN hm))⟩
          by_cases f2 : f = 2
          · rw [if_pos (by rw [f2]; decide)]
            exact go 5 (by omega) (by simp [ruK, k5, e1, e2, ky3, e3, f2])
          · rw [if_neg (show ¬ nI f = (2 : Int32) from ni_k (c := 2) (by omega) (by omega) f2)]
            exact go 4 (by omega) (by simp [ruK, k5, e1, e2, ky3, e3, f2])
        · rw [if_neg (show ¬ nI (kd y) = (3 : Int32) from ni_k (c := 3) (by omega) (by omega) ky3)]
          exact gn (by simp [ruK, k5, e2, ky3])
      · rw [if_neg (show ¬ nI (kd t) = (5 : Int32) from ni_k (c := 5) (by omega) (by omega) k5)]
        exact gn (by simp [ruK, k3, k4, k5])
theorem becomes_sp {s : Nat} (ht : wf t) (hn : n < N) (hN : N < 9000) (hs : s ≤ 6) (hf : f ≤ 2) (hw : tsz t ≤ w) (h2 : w ≤ 200) (hd : 200 ≤ d) (htop : σ.1 0 1 = nI N) (hwh : σ.1 0 11 = nI w) (hr : rx σ t (nI n) N) (hQ : ∀ r τ, rlP (ru s f w t) n N σ r τ → Q r τ) : wX8_becomes d (nI n) (nI s) (nI f) σ Q := by
  unfold wX8_becomes
  rcases (show s = 0 ∨ s = 1 ∨ s = 2 ∨ s = 3 ∨ s = 4 ∨ s = 5 ∨ s = 6 by omega) with rfl | rfl | rfl | rfl | rfl | rfl | rfl
  · rw [if_pos (by decide)]
    exact folded_sp ht hn hN hf htop hr hQ
  · rw [if_neg (by decide), if_pos (by decide)]
    exact zeroed_sp ht hn hN hf htop hr hQ
  · rw [if_neg (by decide), if_neg (by decide), if_pos (by decide)]
    exact samed_sp ht hn hN hf (by omega) (by omega) htop hr hQ
  · rw [if_neg (by decide), if_neg (by decide), if_neg (by decide), if_pos (by decide)]
    exact picked_sp ht hn hN hf htop hr hQ
  · rw [if_neg (by decide), if_neg (by decide), if_neg (by decide), if_neg (by decide), if_pos (by decide)]
    exact melted_sp ht hn hN hf (by omega) (by omega) htop hr hQ
  · rw [if_neg (by decide), if_neg (by decide), if_neg (by decide), if_neg (by decide), if_neg (by decide), if_pos (by decide)]
    exact twiced_sp ht hn hN hf hw h2 htop hwh hr hQ
  · rw [if_neg (by decide), if_neg (by decide), if_neg (by decide), if_neg (by decide), if_neg (by decide), if_neg (by decide)]
    exact sunk_sp ht hn hN hf htop hr hQ
end
