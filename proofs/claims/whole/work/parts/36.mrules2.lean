/-! the reference: the other sorts of turns -/
/-- a node's own row and its parts' -/
theorem own {σ : Sg} {t : Tr} {n N : Nat} (ht : wf t) (hN : N < 9000) (hn : n < N) (hr : rx σ t (nI n) N) : σ.1 1 n = nI (kd t) ∧ σ.1 2 n = vv t ∧ σ.1 6 n = nI (tsz t) ∧ rx σ (p1 t) (σ.1 3 n) n ∧ rx σ (p2 t) (σ.1 4 n) n ∧ rx σ (p3 t) (σ.1 5 n) n := by
  obtain ⟨j, h1, h2, h3⟩ := kid ht hr
  have e : n = j := (nI_eq (by omega) (by omega)).mp h2
  subst e
  exact h3
theorem fl_inj : ∀ x, wn x → ∀ y, tw x y → fl x = fl y → x = y := by
  apply wf_gen
  · intro y h _
    rcases h with ⟨h, -⟩ | ⟨-, h⟩
    · exact absurd h wf_nl
    · exact h.symm
  · intro k v x1 x2 x3 hw i1 i2 i3 y h e
    rcases h with ⟨-, hy⟩ | ⟨h, -⟩
    · obtain ⟨k2, v2, y1, y2, y3, rfl⟩ := wf_shape y hy
      obtain ⟨rfl, rfl, -, e1, e2, e3⟩ := (fl_iff hw hy).mp e
      obtain ⟨t1, t2, t3⟩ := wf_twin hw hy
      rw [i1 y1 t1 e1, i2 y2 t2 e2, i3 y3 t3 e3]
    · rw [h] at hw
      exact absurd hw wf_nl
section
variable {σ : Sg} {t : Tr} {n N f d : Nat} {Q : Int32 → Sg → Prop}
theorem look_sp {x y : Tr} {c1 c2 : Int32} {M : Nat} (hx : wf x) (hy : wf y) (hd : tsz x + 1 ≤ d) (hf : f ≤ 2) (hM : M ≤ 9000) (r1 : rx σ x c1 M) (r2 : rx σ y c2 M)
    (hQ : Q (if (if f = 2 then (kd x = kd y ∧ vv x = vv y ∧ tsz x = tsz y) else fl x = fl y) then 1 else 0) σ) (sx : tsz x < 100000) (sy : tsz y < 100000) : wX8_lookSame d c1 c2 (nI f) σ Q := by
  unfold wX8_lookSame
  by_cases f2 : f = 2
  · rw [if_pos (by rw [f2]; decide)]
    obtain ⟨i, i1, rfl, i3, i4, i5, -⟩ := kid hx r1
    obtain ⟨l, l1, rfl, l3, l4, l5, -⟩ := kid hy r2
    refine ⟨vp_in_nI (by omega) (by omega), vp_in_nI (by omega) (by omega), ?_⟩
    rw [ncl (by omega), ncl (by omega), i3, l3, i4, l4, i5, l5]
    have kx := wf_kd hx
    have ky := wf_kd hy
    simp only [f2, if_true] at hQ
    unfold wX8_lookSame_59 wX8_lookSame_63
    by_cases a : kd x = kd y
    · rw [if_pos (by rw [a])]
      by_cases b : tsz x = tsz y
      · rw [if_pos (by rw [b])]
        by_cases k0 : kd x = 0
        · rw [if_pos (by rw [k0]; decide)]
          by_cases v0 : vv x = vv y
          · rw [if_pos v0]
            rw [if_pos ⟨a, v0, b⟩] at hQ
            exact hQ
          · rw [if_neg v0]
            rw [if_neg (fun q => v0 q.2.1)] at hQ
            exact hQ
        · rw [if_neg (show ¬ nI (kd x) = (0 : Int32) from ni_k (c := 0) (by omega) (by omega) k0)]
          rw [if_pos ⟨a, by rw [vv_0 hx k0, vv_0 hy (by omega)], b⟩] at hQ
          exact hQ
      · rw [if_neg (fun q => b ((nI_eq (by omega) (by omega)).mp q))]
        rw [if_neg (fun q => b q.2.2)] at hQ
        exact hQ
    · rw [if_neg (fun q => a ((nI_eq (by omega) (by omega)).mp q))]
      rw [if_neg (fun q => a q.1)] at hQ
      exact hQ
  · rw [if_neg (show ¬ nI f = (2 : Int32) from ni_k (c := 2) (by omega) (by omega) f2)]
    simp only [if_neg f2] at hQ
    refine same_sp x (Or.inl hx) y (Or.inl hy) d (by omega) c1 c2 M M _ hM hM r1 r2 ?_
    refine ⟨?_, hQ⟩
    split <;> simp
theorem samed_sp (ht : wf t) (hn : n < N) (hN : N < 9000) (hf : f ≤ 2) (hd : tsz t ≤ d) (hsz : tsz t ≤ 200) (htop : σ.1 0 1 = nI N) (hr : rx σ t (nI n) N) (hQ : ∀ r τ, rlP (ruS f t) n N σ r τ → Q r τ) : wX8_samed d (nI n) (nI f) σ Q := by
  have hin : vp_in (nI n) 9000 := vp_in_nI (by omega) (by omega)
  have hc : (nI n).toNatClampNeg = n := ncl (by omega)
  obtain ⟨o1, o2, o3, o4, o5, o6⟩ := own ht hN hn hr
  have hk := wf_kd ht
  have g0 : ruS f t = some (nm 0) → wX8_numeral 0 σ Q := fun q => numeral_sp hN htop (fun r τ hm => hQ _ _ (rl_new q hn hN hm))
  have gn : ruS f t = none → Q (nI n) σ := fun q => hQ _ _ (rl_no q)
  unfold wX8_samed
  refine ⟨hin, ?_⟩
  rw [hc, o1]
  have rest : kd t ≠ 5 → wX8_samed_36 d (nI n) (nI f) σ Q := by
    intro k5
    unfold wX8_samed_36
    refine ⟨hin, ?_⟩
    rw [hc, o1]
    by_cases k4 : kd t = 4
    · rw [if_pos (by rw [k4]; decide)]
      obtain ⟨x, y, hx, hy, et⟩ := wf_k2 ht (by omega) (by omega)
      by_cases f1 : f = 1
      · rw [if_pos (by rw [f1]; decide)]
        have e1 : p1 t = x := by rw [et, p1_nd]
        have e2 : p2 t = y := by rw [et, p2_nd]
        rw [e1] at o4
        rw [e2] at o5
        have es : tsz t = 1 + tsz x + tsz y + tsz nl := by rw [et, tsz_nd]
        refine same_sp x (Or.inl hx) y (Or.inl hy) d (by omega) _ _ n n _ (by omega) (by omega) o4 o5 ?_
        by_cases c : fl x = fl y
        · rw [if_pos c, if_neg (by decide)]
          exact g0 (by simp [ruS, k4, f1, e1, e2, c])
        · rw [if_neg c, if_pos (by decide)]
          exact gn (by simp [ruS, k4, f1, e1, e2, c])
      · rw [if_neg (show ¬ nI f = (1 : Int32) from ni_k (c := 1) (by omega) (by omega) f1)]
        exact gn (by simp [ruS, k4, f1])
    · rw [if_neg (show ¬ nI (kd t) = (4 : Int32) from ni_k (c := 4) (by omega) (by omega) k4)]
      exact gn (by simp [ruS, k4, k5])
  by_cases k5 : kd t = 5
  · rw [if_pos (by rw [k5]; decide)]
    obtain ⟨x, y, hx, hy, et⟩ := wf_k2 ht (by omega) (by omega)
    have e1 : p1 t = x := by rw [et, p1_nd]
    have e2 : p2 t = y := by rw [et, p2_nd]
    rw [e1] at o4
    rw [e2] at o5
    have es : tsz t = 1 + tsz x + tsz y + tsz nl := by rw [et, tsz_nd]
    refine look_sp hx hy (by omega) hf (by omega) o4 o5 ?_ (by omega) (by omega)
    by_cases c : (if f = 2 then (kd x = kd y ∧ vv x = vv y ∧ tsz x = tsz y) else fl x = fl y)
    · rw [if_pos c, if_neg (by decide)]
      exact g0 (by simp only [ruS, k5, e1, e2, if_true]; rw [if_pos c])
    · rw [if_neg c, if_pos (by decide)]
      unfold wX8_samed_36
      refine ⟨hin, ?_⟩
      rw [hc, o1, if_neg (by rw [k5]; decide)]
      exact gn (by simp only [ruS, k5, e1, e2, if_true]; rw [if_neg c])
  · rw [if_neg (show ¬ nI (kd t) = (5 : Int32) from ni_k (c := 5) (by omega) (by omega) k5)]
    exact rest k5
theorem picked_sp (ht : wf t) (hn : n < N) (hN : N < 9000) (hf : f ≤ 2) (htop : σ.1 0 1 = nI N) (hr : rx σ t (nI n) N) (hQ : ∀ r τ, rlP (ruP f t) n N σ r τ → Q r τ) : wX8_picked (nI n) (nI f) σ Q := by
  have hin : vp_in (nI n) 9000 := vp_in_nI (by omega) (by omega)
  have hc : (nI n).toNatClampNeg = n := ncl (by omega)
  obtain ⟨o1, o2, o3, o4, o5, o6⟩ := own ht hN hn hr
  have hk := wf_kd ht
  have gn : ruP f t = none → Q (nI n) σ := fun q => hQ _ _ (rl_no q)
  unfold wX8_picked
  refine ⟨hin, ?_⟩
  rw [hc, o1]
  by_cases k8 : kd t = 8
  · rw [if_pos (by rw [k8]; decide)]
    obtain ⟨x, y, z, hx, hy, hz, et⟩ := wf_k8 ht k8
    have e1 : p1 t = x := by rw [et, p1_nd]
    have e2 : p2 t = y := by rw [et, p2_nd]
    have e3 : p3 t = z := by rw [et, p3_nd]
    rw [e1] at o4
    rw [e2] at o5
    rw [e3] at o6
    obtain ⟨i, i1, i2, i3, i4, -⟩ := kid hx o4
    obtain ⟨l, l1, l2, -⟩ := kid hy o5
    obtain ⟨m, m1, m2, -⟩ := kid hz o6
    rw [l2] at o5
    rw [m2] at o6
    have gy : ruP f t = some y → Q (nI l) σ := fun q => hQ _ _ (rl_part q hy hn hN htop o5)
    have gz : ruP f t = some z → Q (nI m) σ := fun q => hQ _ _ (rl_part q hz hn hN htop o6)
    rw [i2, l2]
    refine ⟨vp_in_nI (by omega) (by omega), ?_⟩
    rw [ncl (by omega), i3, i4]
    have q64 : ruP f t = some z → wX8_picked_64 (nI n) σ Q := fun q => ⟨hin, by rw [hc, m2]; exact gz q⟩
    have q73 : ruP f t = some y → wX8_picked_73 (nI n) σ Q := fun q => ⟨hin, by rw [hc, l2]; exact gy q⟩
    by_cases kx : kd x = 0
    · have ru0 : ruP f t = some (if f = 2 then y else if vv x = 0 ∨ (f = 1 ∧ vv x < 0) then z else y) := by simp [ruP, k8, e1, e2, e3, nu, kx]
      rw [if_pos (by rw [kx]; decide)]
      dsimp only [lt]
      by_cases f2 : f = 2
      · rw [if_pos (by rw [f2]; decide)]
        exact gy (by rw [ru0, if_pos f2])
      · rw [if_neg (show ¬ nI f = (2 : Int32) from ni_k (c := 2) (by omega) (by omega) f2)]
        rw [if_neg f2] at ru0
        by_cases v0 : vv x = 0
        · rw [if_pos v0]
          exact q64 (by rw [ru0, if_pos (Or.inl v0)])
        · rw [if_neg v0]
          by_cases f1 : f = 1
          · rw [if_pos (by rw [f1]; decide)]
            by_cases vn : 0 ≤ vv x
            · rw [if_pos vn]
              refine q73 (by rw [ru0, if_neg]; rintro (q | q); exact v0 q; exact absurd q.2 (Int32.not_lt.mpr vn))
            · rw [if_neg vn]
              exact q64 (by rw [ru0, if_pos (Or.inr ⟨f1, Int32.not_le.mp vn⟩)])
          · rw [if_neg (show ¬ nI f = (1 : Int32) from ni_k (c := 1) (by omega) (by omega) f1)]
            exact q73 (by rw [ru0, if_neg]; rintro (q | q); exact v0 q; exact f1 q.1)
    · rw [if_neg (show ¬ nI (kd x) = (0 : Int32) from ni_k (c := 0) (by have := wf_kd hx; omega) (by omega) kx)]
      exact gn (by simp [ruP, k8, e1, nu, kx])
  · rw [if_neg (show ¬ nI (kd t) = (8 : Int32) from ni_k (c := 8) (by omega) (by omega) k8)]
    exact gn (by simp [ruP, k8])
theorem melted_sp (ht : wf t) (hn : n < N) (hN : N < 9000) (hf : f ≤ 2) (hd : tsz t ≤ d) (hsz : tsz t ≤ 200) (htop : σ.1 0 1 = nI N) (hr : rx σ t (nI n) N) (hQ : ∀ r τ, rlP (ruM f t) n N σ r τ → Q r τ) : wX8_melted d (nI n) (nI f) σ Q := by
  have hin : vp_in (nI n) 9000 := vp_in_nI (by omega) (by omega)
  have hc : (nI n).toNatClampNeg = n := ncl (by omega)
  obtain ⟨o1, o2, o3, o4, o5, o6⟩ := own ht hN hn hr
  have hk := wf_kd ht
  have gn : ruM f t = none → Q (nI n) σ := fun q => hQ _ _ (rl_no q)
  unfold wX8_melted
  refine ⟨hin, ?_⟩
  rw [hc, o1]
  by_cases k8 : kd t = 8
  · rw [if_pos (by rw [k8]; decide)]
    obtain ⟨x, y, z, hx, hy, hz, et⟩ := wf_k8 ht k8
    have e1 : p1 t = x := by rw [et, p1_nd]
    have e2 : p2 t = y := by rw [et, p2_nd]
    have e3 : p3 t = z := by rw [et, p3_nd]
    have es : tsz t = 1 + tsz x + tsz y + tsz z := by rw [et, tsz_nd]
    rw [e1] at o4
    rw [e2] at o5
    rw [e3] at o6
    obtain ⟨i, i1, i2, i3, i4, -⟩ := kid hx o4
    obtain ⟨l, l1, l2, -, -, l5, -⟩ := kid hy o5
    obtain ⟨m, m1, m2, -, -, m5, -⟩ := kid hz o6
    have gy : ruM f t = some y → Q (nI l) σ := fun q => hQ _ _ (rl_part q hy hn hN htop (by rw [← l2]; exact o5))
    have ru0 : ruM f t = (if (if f = 1 then tsz y = tsz z else fl y = fl z) then some y else if f = 2 ∧ fl x = fl y then some y else none) := by simp [ruM, k8, e1, e2, e3]
    have yes : (if f = 1 then tsz y = tsz z else fl y = fl z) → wX8_melted_67 d (nI n) (nI f) 1 σ Q := by
      intro c
      unfold wX8_melted_67
      rw [if_neg (by decide)]
      refine ⟨hin, ?_⟩
      rw [hc, l2]
      exact gy (by rw [ru0, if_pos c])
    have no : ¬ (if f = 1 then tsz y = tsz z else fl y = fl z) → wX8_melted_67 d (nI n) (nI f) 0 σ Q := by
      intro c
      unfold wX8_melted_67
      rw [if_pos (by decide)]
      rw [if_neg c] at ru0
      by_cases f2 : f = 2
      · rw [if_pos (by rw [f2]; decide)]
        refine ⟨hin, ?_⟩
        rw [hc]
        refine same_sp x (Or.inl hx) y (Or.inl hy) d (by omega) _ _ n n _ (by omega) (by omega) o4 o5 ?_
        by_cases c2 : fl x = fl y
        · rw [if_pos c2, if_neg (by decide), i2]
          rw [if_pos ⟨f2, c2⟩] at ru0
          have := hQ (nI i) σ (Or.inr ⟨y, ru0, ?_, Fm.rf, Ex.rf, N, by omega, by omega, htop, ?_⟩)
          · exact this
          · exact fun q => absurd ((nI_eq (by omega) (by omega)).mp q) (by omega)
          · rw [← fl_inj x (Or.inl hx) y (Or.inl ⟨hx, hy⟩) c2, ← i2]
            exact rx_le hx o4 (by omega)
        · rw [if_neg c2, if_pos (by decide)]
          exact gn (by rw [ru0, if_neg (fun q => c2 q.2)])
      · rw [if_neg (show ¬ nI f = (2 : Int32) from ni_k (c := 2) (by omega) (by omega) f2)]
        exact gn (by rw [ru0, if_neg (fun q => f2 q.1)])
    by_cases f1 : f = 1
    · rw [if_pos (by rw [f1]; decide), l2, m2]
      refine ⟨vp_in_nI (by omega) (by omega), vp_in_nI (by omega) (by omega), ?_⟩
      rw [ncl (by omega), ncl (by omega), l5, m5]
      by_cases c : tsz y = tsz z
      · rw [if_pos (by rw [c])]
        exact yes (by rw [if_pos f1]; exact c)
      · rw [if_neg (fun q => c ((nI_eq (by omega) (by omega)).mp q))]
        exact no (by rw [if_pos f1]; exact c)
    · rw [if_neg (show ¬ nI f = (1 : Int32) from ni_k (c := 1) (by omega) (by omega) f1)]
      refine same_sp y (Or.inl hy) z (Or.inl hz) d (by omega) _ _ n n _ (by omega) (by omega) o5 o6 ?_
      by_cases c : fl y = fl z
      · rw [if_pos c]
        exact yes (by rw [if_neg f1]; exact c)
      · rw [if_neg c]
        exact no (by rw [if_neg f1]; exact c)
  · rw [if_neg (show ¬ nI (kd t) = (8 : Int32) from ni_k (c := 8) (by omega) (by omega) k8)]
    exact gn (by simp [ruM, k8])
end
