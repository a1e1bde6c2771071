/-! what turns keep: trees stay trees, and small -/
theorem wf_k0 {t : Tr} (h : wf t) (k : kd t < 3) : ∃ v, (kd t ≠ 0 → v = 0) ∧ t = nd (kd t) v nl nl nl := by
  rcases wf_cases h with ⟨k, v, a, b, rfl⟩ | ⟨x, hx, rfl⟩ | ⟨k, x, y, a, b, hx, hy, rfl⟩ | ⟨x, y, z, hx, hy, hz, rfl⟩ <;> rw [kd_nd] at k ⊢
  · exact ⟨v, b, rfl⟩
  all_goals omega
theorem wf_k3 {t : Tr} (h : wf t) (k : kd t = 3) : ∃ x, wf x ∧ t = nd 3 0 x nl nl := by
  rcases wf_cases h with ⟨k, v, a, b, rfl⟩ | ⟨x, hx, rfl⟩ | ⟨k, x, y, a, b, hx, hy, rfl⟩ | ⟨x, y, z, hx, hy, hz, rfl⟩
  · rw [kd_nd] at k; omega
  · exact ⟨x, hx, rfl⟩
  · rw [kd_nd] at k; omega
  · rw [kd_nd] at k; omega
theorem wf_k2 {t : Tr} (h : wf t) (k1 : 4 ≤ kd t) (k2 : kd t < 8) : ∃ x y, wf x ∧ wf y ∧ t = nd (kd t) 0 x y nl := by
  rcases wf_cases h with ⟨k, v, a, b, rfl⟩ | ⟨x, hx, rfl⟩ | ⟨k, x, y, a, b, hx, hy, rfl⟩ | ⟨x, y, z, hx, hy, hz, rfl⟩ <;> rw [kd_nd] at k1 k2
  · omega
  · omega
  · rw [kd_nd]; exact ⟨x, y, hx, hy, rfl⟩
  · omega
theorem wf_k8 {t : Tr} (h : wf t) (k : kd t = 8) : ∃ x y z, wf x ∧ wf y ∧ wf z ∧ t = nd 8 0 x y z := by
  rcases wf_cases h with ⟨k, v, a, b, rfl⟩ | ⟨x, hx, rfl⟩ | ⟨k, x, y, a, b, hx, hy, rfl⟩ | ⟨x, y, z, hx, hy, hz, rfl⟩
  · rw [kd_nd] at k; omega
  · rw [kd_nd] at k; omega
  · rw [kd_nd] at k; omega
  · exact ⟨x, y, z, hx, hy, hz, rfl⟩
theorem wf_nm (v : Int32) : wf (nm v) := wf_0 (by omega) (fun h => absurd rfl h)
theorem tsz_nm (v : Int32) : tsz (nm v) = 1 := by rw [nm, tsz_nd, tsz_nl]
theorem nu_nm {t : Tr} {v : Int32} (h : wf t) (hv : nu t = some v) : t = nm v := by
  unfold nu at hv
  split at hv
  · next k =>
    obtain ⟨w, -, e⟩ := wf_k0 h (by omega)
    rw [k] at e
    rw [e, vv_nd] at hv
    rw [e, Option.some.inj hv]
    rfl
  · cases hv
theorem nu_sz {t : Tr} {v : Int32} (h : wf t) (hv : nu t = some v) : tsz t = 1 := by rw [nu_nm h hv, tsz_nm]
theorem vv_0 {t : Tr} (h : wf t) (k : kd t ≠ 0) : vv t = 0 := by
  obtain ⟨k2, v, x, y, z, rfl⟩ := wf_shape t h
  rw [wf_nd] at h
  rw [kd_nd] at k
  rw [vv_nd]
  exact h.2.1 k
theorem ruF_ok {f : Nat} {t u : Tr} (h : wf t) (e : ruF f t = some u) : wf u ∧ tsz u ≤ tsz t := by
  have hp := wf_pos h
  unfold ruF at e
  split at e
  · cases e
  · split at e
    · cases e
    · split at e
      · cases e; exact ⟨wf_nm _, by rw [tsz_nm]; omega⟩
      · split at e
        · cases e
        · split at e
          · cases e
          · cases e; exact ⟨wf_nm _, by rw [tsz_nm]; omega⟩
theorem ruZ_ok {f : Nat} {t u : Tr} (h : wf t) (e : ruZ f t = some u) : wf u ∧ tsz u ≤ tsz t := by
  have hk : kd t = 4 ∨ kd t = 5 ∨ kd t = 6 ∨ kd t = 7 := by
    unfold ruZ at e
    dsimp only at e
    repeat' split at e
    all_goals first | omega | cases e
  obtain ⟨x, y, hx, hy, et⟩ := wf_k2 h (by omega) (by omega)
  have key : u = x ∨ u = y ∨ u = nm 0 := by
    rw [et] at e
    simp only [ruZ, kd_nd, p1_nd, p2_nd] at e
    repeat' split at e
    all_goals first | (cases e; simp; done) | (simp at e; done) | (cases e; exact Or.inl rfl) | (cases e; exact Or.inr (Or.inl rfl)) | (cases e; exact Or.inr (Or.inr rfl))
  have px := wf_pos hx
  rw [et, tsz_nd]
  rcases key with rfl | rfl | rfl
  · exact ⟨hx, by omega⟩
  · exact ⟨hy, by omega⟩
  · exact ⟨wf_nm _, by rw [tsz_nm]; omega⟩
theorem ruS_ok {f : Nat} {t u : Tr} (h : wf t) (e : ruS f t = some u) : wf u ∧ tsz u ≤ tsz t := by
  have hp := wf_pos h
  have key : u = nm 0 := by
    unfold ruS at e
    repeat' split at e
    all_goals first | (cases e; rfl) | cases e
  rw [key, tsz_nm]
  exact ⟨wf_nm _, hp⟩
theorem ruP_ok {f : Nat} {t u : Tr} (h : wf t) (e : ruP f t = some u) : wf u ∧ tsz u ≤ tsz t := by
  have hk : kd t = 8 := by
    unfold ruP at e
    split at e
    · assumption
    · cases e
  obtain ⟨x, y, z, hx, hy, hz, et⟩ := wf_k8 h hk
  have key : u = y ∨ u = z := by
    rw [et] at e
    simp only [ruP, kd_nd, p1_nd, p2_nd, p3_nd, if_true] at e
    split at e
    · cases e
    · cases e
      repeat' split
      all_goals simp
  rw [et, tsz_nd]
  rcases key with rfl | rfl
  · exact ⟨hy, by omega⟩
  · exact ⟨hz, by omega⟩
theorem ruM_ok {f : Nat} {t u : Tr} (h : wf t) (e : ruM f t = some u) : wf u ∧ tsz u ≤ tsz t := by
  have hk : kd t = 8 := by
    unfold ruM at e
    split at e
    · assumption
    · cases e
  obtain ⟨x, y, z, hx, hy, hz, et⟩ := wf_k8 h hk
  have key : u = y := by
    rw [et] at e
    simp only [ruM, kd_nd, p1_nd, p2_nd, p3_nd, if_true] at e
    repeat' split at e
    all_goals first | (cases e; rfl) | cases e
  rw [et, tsz_nd, key]
  exact ⟨hy, by omega⟩
theorem ruK_ok {f : Nat} {t u : Tr} (h : wf t) (e : ruK f t = some u) : wf u ∧ tsz u ≤ tsz t := by
  unfold ruK at e
  split at e
  · next k =>
    obtain ⟨x, hx, rfl⟩ := wf_k3 h k
    rw [p1_nd] at e
    split at e
    · next k2 =>
      obtain ⟨q, hq, rfl⟩ := wf_k3 hx k2
      rw [p1_nd] at e
      cases e
      exact ⟨hq, by rw [tsz_nd, tsz_nd]; omega⟩
    · cases e
  · split at e
    · next k =>
      obtain ⟨x, y, hx, hy, et⟩ := wf_k2 h (by omega) (by omega)
      rw [et, p1_nd, p2_nd] at e
      split at e
      · next k2 =>
        obtain ⟨q, hq, rfl⟩ := wf_k3 hy k2
        rw [p1_nd] at e
        cases e
        exact ⟨wf_2 (by omega) (by omega) hx hq, by rw [et, tsz_nd, tsz_nd, tsz_nd]; omega⟩
      · split at e
        · next k2 =>
          obtain ⟨q, hq, rfl⟩ := wf_k3 hx k2.2
          rw [p1_nd] at e
          cases e
          exact ⟨wf_2 (by omega) (by omega) hq hy, by rw [et, tsz_nd, tsz_nd, tsz_nd]; omega⟩
        · cases e
    · split at e
      · next k =>
        obtain ⟨x, y, hx, hy, et⟩ := wf_k2 h (by omega) (by omega)
        have k2 := k.2
        rw [et, p2_nd] at k2
        obtain ⟨q, hq, rfl⟩ := wf_k3 hy k2
        rw [et, p1_nd, p2_nd, p1_nd] at e
        cases e
        refine ⟨wf_2 (by split <;> omega) (by split <;> omega) hx hq, by rw [et, tsz_nd, tsz_nd, tsz_nd]; omega⟩
      · cases e
/-- the doubled part, and the other one, a number -/
theorem twA_ok {f : Nat} {t x : Tr} (h : wf t) (e : twA f t = some x) : wf x ∧ tsz t = 2 + tsz x ∧ (kd t = 6 ∨ kd t = 7) := by
  have hk : kd t = 6 ∨ kd t = 7 := by
    unfold twA at e
    split at e
    · omega
    · split at e
      · next q => exact Or.inr q.1
      · cases e
  obtain ⟨a, b, ha, hb, et⟩ := wf_k2 h (by omega) (by omega)
  refine ⟨?_, ?_, hk⟩
  · rw [et] at e
    simp only [twA, kd_nd, p1_nd, p2_nd] at e
    repeat' split at e
    all_goals first | (cases e; assumption) | cases e
  · rw [et] at e ⊢
    rw [tsz_nd, tsz_nl]
    simp only [twA, kd_nd, p1_nd, p2_nd] at e
    split at e
    · split at e
      · next q => cases e; rw [nu_sz hb q]; omega
      · split at e
        · next q => cases e; rw [nu_sz ha q]; omega
        · split at e
          · next q => cases e; rw [nu_sz hb q.2]; omega
          · split at e
            · next q => cases e; rw [nu_sz ha q.2]; omega
            · cases e
    · split at e
      · next q => cases e; rw [nu_sz hb q.2.2]; omega
      · cases e
theorem ru_ok {s f w : Nat} {t u : Tr} (h : wf t) (hw : tsz t ≤ w) (h2 : w ≤ 200) (e : ru s f w t = some u) : wf u ∧ w - tsz t + tsz u ≤ 200 := by
  have small : wf u ∧ tsz u ≤ tsz t → wf u ∧ w - tsz t + tsz u ≤ 200 := fun q => ⟨q.1, by omega⟩
  unfold ru at e
  split at e
  · exact small (ruF_ok h e)
  split at e
  · exact small (ruZ_ok h e)
  split at e
  · exact small (ruS_ok h e)
  split at e
  · exact small (ruP_ok h e)
  split at e
  · exact small (ruM_ok h e)
  split at e
  · unfold ruT at e
    split at e
    · cases e
    · next x hx =>
      obtain ⟨a, b, c⟩ := twA_ok h hx
      split at e
      · cases e
      · cases e
        refine ⟨wf_2 (by split <;> omega) (by split <;> omega) a a, ?_⟩
        rw [tsz_nd, tsz_nl]
        omega
  split at e
  · exact small (ruK_ok h e)
  · cases e
/-- a turn keeps a tree a tree, counts its nodes, and stays small -/
theorem wf_same {k : Nat} {v : Int32} {x y z x2 y2 z2 : Tr} (h : wf (nd k v x y z)) (hx : tw x x2) (hy : tw y y2) (hz : tw z z2) : wf (nd k v x2 y2 z2) := by
  rw [wf_nd] at h ⊢
  obtain ⟨h1, h2, h3, h4, h5⟩ := h
  refine ⟨h1, h2, ?_, ?_, ?_⟩
  · split at h3
    · rename_i q
      rw [if_pos q]
      rcases hx with ⟨-, hx⟩ | ⟨rfl, -⟩
      · exact hx
      · exact absurd h3 wf_nl
    · rename_i q
      rw [if_neg q]
      rcases hx with ⟨hx, -⟩ | ⟨-, hx⟩
      · rw [h3] at hx; exact absurd hx wf_nl
      · exact hx
  · split at h4
    · rename_i q
      rw [if_pos q]
      rcases hy with ⟨-, hx⟩ | ⟨rfl, -⟩
      · exact hx
      · exact absurd h4 wf_nl
    · rename_i q
      rw [if_neg q]
      rcases hy with ⟨hx, -⟩ | ⟨-, hx⟩
      · rw [h4] at hx; exact absurd hx wf_nl
      · exact hx
  · split at h5
    · rename_i q
      rw [if_pos q]
      rcases hz with ⟨-, hx⟩ | ⟨rfl, -⟩
      · exact hx
      · exact absurd h5 wf_nl
    · rename_i q
      rw [if_neg q]
      rcases hz with ⟨hx, -⟩ | ⟨-, hx⟩
      · rw [h5] at hx; exact absurd hx wf_nl
      · exact hx
theorem tn_ok (s f : Nat) : ∀ t, wn t → ∀ w, tsz t ≤ w → w ≤ 200 → tw t (tn s f t w).1 ∧ (tn s f t w).2.2 + tsz t = w + tsz (tn s f t w).1 ∧ (tn s f t w).2.2 ≤ 200 := by
  apply wf_gen
  · intro w h1 h2
    rw [tn_nl]
    exact ⟨Or.inr ⟨rfl, rfl⟩, rfl, h2⟩
  · intro k v x y z hw ix iy iz w h1 h2
    rw [tsz_nd] at h1
    obtain ⟨a1, a2, a3⟩ := ix w (by omega) h2
    obtain ⟨b1, b2, b3⟩ := iy (tn s f x w).2.2 (by omega) a3
    obtain ⟨c1, c2, c3⟩ := iz (tn s f y (tn s f x w).2.2).2.2 (by omega) b3
    have hw2 := wf_same hw a1 b1 c1
    rw [tn_nd]
    generalize (tn s f z (tn s f y (tn s f x w).2.2).2.2) = c at *
    generalize (tn s f y (tn s f x w).2.2) = b at *
    generalize (tn s f x w) = a at *
    have hsz : tsz (nd k v a.1 b.1 c.1) ≤ c.2.2 := by rw [tsz_nd]; omega
    cases hr : ru s f c.2.2 (nd k v a.1 b.1 c.1) with
    | none =>
      refine ⟨Or.inl ⟨hw, hw2⟩, ?_, c3⟩
      dsimp only
      rw [tsz_nd, tsz_nd]
      omega
    | some u =>
      obtain ⟨u1, u2⟩ := ru_ok hw2 hsz c3 hr
      refine ⟨Or.inl ⟨hw, u1⟩, ?_, u2⟩
      dsimp only
      rw [tsz_nd] at hsz u2 ⊢
      rw [tsz_nd]
      omega
