/-! the reference's calls: made, part, answer, cost, fires, differ, first, cause -/
section
variable {A : Ab} {σ : Sg} {d : Nat} {Q : Int32 → Sg → Prop}
/-- what was found alone is changed -/
theorem RM.fnd {t : Tr} {τ : Sg} (h : RM A σ) (f : Fm [21, 22, 23] [31] σ τ) (g1 : τ.1 0 31 = nI (tsz t)) (g2 : ∀ i e, (fl t)[i]? = some e → τ.1 21 i = nI e.1 ∧ τ.1 22 i = e.2.1 ∧ τ.1 23 i = nI e.2.2) : RM (sG A t) τ := by
  obtain ⟨h1, ⟨h2, h3, h4, h5⟩, ⟨h6, h7⟩, -, h10, h11⟩ := h
  have r : ∀ i, i ≠ 0 → i ∉ [21, 22, 23] → τ.1 i = σ.1 i := f.1
  refine ⟨fun p' hp' => ?_, ⟨?_, ?_, ?_, ?_⟩, ⟨?_, ?_⟩, ⟨g1, g2⟩, ?_, ?_⟩
  · obtain ⟨a, b, c⟩ := h1 p' hp'
    exact ⟨a, by rw [r 7 (by simp) (by simp)]; exact b, by rw [r 8 (by simp) (by simp), r 9 (by simp) (by simp)]; exact c⟩
  · rw [f.2.1 20 (by simp)]; exact h2
  · rw [f.2.1 24 (by simp)]; exact h3
  · rw [r 14 (by simp) (by simp), r 15 (by simp) (by simp)]; exact h4
  · rw [r 13 (by simp) (by simp)]; exact h5
  · rw [f.2.1 27 (by simp)]; exact h6
  · rw [r 18 (by simp) (by simp), r 19 (by simp) (by simp), r 20 (by simp) (by simp)]; exact h7
  · rw [f.2.1 35 (by simp)]; exact h10
  · unfold cn0 cnR at h11 ⊢
    rw [f.2.2]; exact h11
/-- a node's entry in its row: its kind, its number, its size -/
theorem fl_su {t : Tr} (ht : wf t) {i : Nat} (hi : i < (fl t).length) : ∃ a c, fl t = a ++ (fl (su t i) ++ c) ∧ a.length = i ∧ wf (su t i) ∧ (fl t)[i] = (kd (su t i), vv (su t i), tsz (su t i)) ∧ i + tsz (su t i) ≤ tsz t := by
  have len := fl_len t ht
  obtain ⟨a, c, b1, b2, b3, -⟩ := su_sp nl t (Or.inl ht) i (by omega)
  refine ⟨a, c, b1, b2, b3, ?_, ?_⟩
  · have ge : (fl t)[i]? = some (fl t)[i] := List.getElem?_eq_getElem hi
    have : (fl t)[i]? = some (kd (su t i), vv (su t i), tsz (su t i)) := by
      rw [b1, List.getElem?_append_right (by omega), b2, Nat.sub_self, fl_head b3]
      rfl
    rw [ge] at this
    exact Option.some.inj this
  · have := congrArg List.length b1
    rw [List.length_append, List.length_append, fl_len _ ht, fl_len _ b3, b2] at this
    omega
theorem made_lp {t : Tr} (ht : wf t) (hs : tsz t ≤ 200) (hQ : ∀ τ, RM (sG A t) τ → Q (nI (tsz t)) τ) (h : RM A σ) : ∀ (k i : Nat) (τ : Sg), i + k = tsz t → Fm [21, 22, 23] [31] σ τ → Rw (σ.1 10) (σ.1 11) 0 (fl t) → τ.1 0 31 = nI (tsz t) → (∀ j (hj : j < (fl t).length), j < i → At (τ.1 21) (τ.1 22) j (fl t)[j] ∧ τ.1 23 j = nI (fl t)[j].2.2) → wX8_made_69 d Q (k + 1) (nI i) τ := by
  have len := fl_len t ht
  intro k
  induction k with
  | zero =>
    intro i τ hi f hR h31 hp1
    show wX8_made_69_b d (wX8_made_69 d Q 0) (nI i) τ Q
    unfold wX8_made_69_b
    rw [h31, if_pos (nI_le (by omega) (by omega))]
    refine hQ τ (h.fnd f h31 (fun j e he => ?_))
    obtain ⟨hj, rfl⟩ := List.getElem?_eq_some_iff.mp he
    obtain ⟨⟨a, b⟩, c⟩ := hp1 j hj (by omega)
    exact ⟨a, b, c⟩
  | succ k ih =>
    intro i τ hi f hR h31 hp1
    show wX8_made_69_b d (wX8_made_69 d Q (k + 1)) (nI i) τ Q
    unfold wX8_made_69_b
    rw [h31, if_neg (nI_ge (by omega) (by omega))]
    refine ⟨vp_in_nI (by omega) (by omega), ?_⟩
    have hl : i < (fl t).length := by omega
    obtain ⟨r1, r2⟩ := Rw.iff.mp hR i hl
    rw [Nat.zero_add] at r1 r2
    rw [ncl (by omega), f.1 10 (by simp) (by simp), r1]
    refine lt_i (fun a ea => ?_)
    have fa : Fm [21, 22, 23] [31] τ a := by rw [ea]; exact Fm.row 21 _ (by decide) (by simp)
    rw [(f.tr fa).1 11 (by simp) (by simp), r2]
    refine lt_i (fun b eb => ?_)
    have fb : Fm [21, 22, 23] [31] a b := by rw [eb]; exact Fm.row 22 _ (by decide) (by simp)
    have fab := (f.tr fa).tr fb
    obtain ⟨u, c, u1, u2, u3, u4, u5⟩ := fl_su ht hl
    have hR2 := hR
    rw [u1, Rw.app, Rw.app, u2, Nat.zero_add] at hR2
    refine endOf_sp u3 (by omega) (by rw [fab.1 10 (by simp) (by simp), fab.1 11 (by simp) (by simp)]; exact hR2.2.1) ?_
    rw [pk_sub (by omega), Nat.add_sub_cancel_left]
    refine lt_i (fun c ec => lt_i (fun x ex => ?_))
    rw [ex, nI_1]
    have fc : Fm [21, 22, 23] [31] b c := by rw [ec]; exact Fm.row 23 _ (by decide) (by simp)
    have c21 : c.1 21 = upd (τ.1 21) i (nI ((fl t)[i]).1) := by rw [ec, sI_1, up_n _ _ _ _ (by decide), eb, sI_1, up_n _ _ _ _ (by decide), ea, sI_1, up_s]
    have c22 : c.1 22 = upd (τ.1 22) i ((fl t)[i]).2.1 := by rw [ec, sI_1, up_n _ _ _ _ (by decide), eb, sI_1, up_s, ea, sI_1, up_n _ _ _ _ (by decide)]
    have c23 : c.1 23 = upd (τ.1 23) i (nI ((fl t)[i]).2.2) := by rw [u4, ec, sI_1, up_s, eb, sI_1, up_n _ _ _ _ (by decide), ea, sI_1, up_n _ _ _ _ (by decide)]
    refine ih (i + 1) c (by omega) (fab.tr fc) hR (by rw [ec, sI_1, up_n _ _ _ _ (by decide), eb, sI_1, up_n _ _ _ _ (by decide), ea, sI_1, up_n _ _ _ _ (by decide)]; exact h31) (fun j hj hji => ?_)
    rw [c21, c22, c23]
    by_cases e : j = i
    · subst e; exact ⟨⟨by rw [ud_s], by rw [ud_s]⟩, by rw [ud_s]⟩
    · obtain ⟨⟨z1, z2⟩, z3⟩ := hp1 j hj (by omega)
      exact ⟨⟨by rw [ud_n _ _ _ _ e]; exact z1, by rw [ud_n _ _ _ _ e]; exact z2⟩, by rw [ud_n _ _ _ _ e]; exact z3⟩
theorem m_made {x y n : Int32} (hd : 200 ≤ d) (ok : okA A) (h : RM A σ) (hQ : ∀ τ, RM (xMade x y n A).2 τ → Q (xMade x y n A).1 τ) : wX8_made d x y n σ Q := by
  unfold wX8_made
  refine mk_mg ok h (fun m m8 hm e g1 => ?_) (fun g1 => ?_)
  rotate_left
  · rw [if_pos rfl]
    simpa only [xMade, g1] using hQ σ (by simpa only [xMade, g1] using h)
  subst e
  rw [if_neg (by decide)]
  refine has_pg ok h (fun p hp e w s g2 => ?_) (fun g2 => ?_)
  rotate_left
  · rw [if_pos rfl]
    simpa only [xMade, g1, g2] using hQ σ (by simpa only [xMade, g1, g2] using h)
  subst e
  rw [if_neg (by decide)]
  obtain ⟨k1, k2, k3⟩ := h.mk ok m8
  refine ⟨vp_in_nI m8 (by omega), ?_⟩
  rw [ncl (by omega), k2, nI_l (by omega)]
  refine in_iy 0 (aT A m) 0 (aT A m) rfl rfl (by omega) (by omega) (fun n n1 n2 e g3 => ?_) (fun g3 => ?_)
  rotate_left
  · rw [if_pos rfl]
    simpa only [xMade, g1, g2, g3] using hQ σ (by simpa only [xMade, g1, g2, g3] using h)
  subst e
  rw [if_neg (by decide)]
  refine treeOf_sp hp w s (by omega) (h.1 p hp) (fun c τ c1 f1 c2 r1 => ?_)
  have hr1 := h.sc f1 (by simp) (by simp)
  refine madeBy_sp hd w (by omega) (k1.fm f1 (by simp) (by simp)) n2 (by omega) c1 c2 r1 (fun r ρ M q1 q2 f2 q3 q4 q5 => ?_)
  have hr2 := hr1.sc f2 (by simp) (by simp)
  obtain ⟨w1, w2⟩ := md_ok (aS A m) (aF A m) w (by omega) n
  refine lt_i (fun a ea => ?_)
  have fa : Fm [] [17] ρ a := by rw [ea]; exact Fm.put 17 _ (by simp)
  refine flatten_sp _ (Or.inl w1) w1 d (by omega) a r M [] _ (by omega) (by simp; omega) (rx_fm w1 q5 fa) ⟨by rw [ea, sI_1, up_s, ud_s]; rfl, Rw.nil⟩ (fun b fb hb => ?_)
  rw [List.nil_append] at hb
  have hr3 := (hr2.sc fa (by simp) (by simp)).sc fb (by simp) (by simp)
  rw [hb.1, fl_len _ w1]
  refine lt_i (fun c ec => ⟨tsz (md (aS A m) (aF A m) n (aP A p)) + 1, ?_⟩)
  have e : xMade (nI m) (nI p) (nI n) A = (nI (tsz (md (aS A m) (aF A m) n (aP A p))), sG A (md (aS A m) (aF A m) n (aP A p))) := by simp only [xMade, g1, g2, g3]
  rw [e] at hQ
  exact made_lp w1 w2 hQ hr3 _ 0 c (by omega) (by rw [ec]; exact Fm.put 31 _ (by simp)) hb.2 (by rw [ec, sI_1, up_s, ud_s]) (fun j _ hj => by omega)
theorem m_part {x y : Int32} (ok : okA A) (h : RM A σ) (hQ : ∀ τ, RM A τ → Q (tel (aG A) x y) τ) : wX8_part x y σ Q := by
  unfold wX8_part
  obtain ⟨h31, hE⟩ := h.2.2.2.1
  have o1 := ok.2.2.2.2.2.1
  have o2 := ok.2.2.2.2.2.2
  rw [h31]
  refine in_bl (tsz (aG A)) (by omega) (fun i hi e g2 => ?_) (fun g2 => ?_)
  rotate_left
  · rw [if_pos rfl]
    simpa only [tel, g2] using hQ σ h
  subst e
  rw [if_neg (by decide)]
  refine in_iy 0 2 0 2 rfl rfl (by omega) (by omega) (fun k k1 k2 e g3 => ?_) (fun g3 => ?_)
  rotate_left
  · rw [if_pos rfl]
    simpa only [tel, g2, g3] using hQ σ h
  subst e
  rw [if_neg (by decide)]
  have w := wn_1 o1 (by omega)
  have hl : i < (fl (aG A)).length := by rw [fl_len _ w]; exact hi
  have ge : (fl (aG A))[i]? = some (fl (aG A))[i] := List.getElem?_eq_getElem hl
  obtain ⟨a1, a2, a3⟩ := hE i _ ge
  rw [ncl (by omega), a1, a2, a3]
  have v := vp_in_nI (n := i) (N := 400) (by omega) (by omega)
  have k3 : k = 0 ∨ k = 1 ∨ k = 2 := by omega
  rcases k3 with rfl | rfl | rfl
  · rw [if_pos (by decide)]
    refine ⟨v, ?_⟩
    simpa [tel, g2, g3, ge] using hQ σ h
  · rw [if_neg (by decide), if_pos (by decide)]
    refine ⟨v, ?_⟩
    simpa [tel, g2, g3, ge] using hQ σ h
  · rw [if_neg (by decide), if_neg (by decide)]
    refine ⟨v, ?_⟩
    simpa [tel, g2, g3, ge] using hQ σ h
theorem m_answer {x y a b : Int32} (hd : 200 ≤ d) (ok : okA A) (h : RM A σ) (hQ : ∀ τ, RM A τ → Q (xAnswer x y a b A) τ) : wX8_answer d x y a b σ Q := by
  unfold wX8_answer
  refine mk_mg ok h (fun m m8 hm e g1 => ?_) (fun g1 => ?_)
  rotate_left
  · rw [if_pos rfl]
    simpa only [xAnswer, g1] using hQ σ h
  subst e
  rw [if_neg (by decide)]
  refine has_pg ok h (fun p hp e w s g2 => ?_) (fun g2 => ?_)
  rotate_left
  · rw [if_pos rfl]
    simpa only [xAnswer, g1, g2] using hQ σ h
  subst e
  rw [if_neg (by decide)]
  refine treeOf_sp hp w s (by omega) (h.1 p hp) (fun c τ c1 f1 c2 r1 => ⟨vp_in_nI m8 (by omega), ?_⟩)
  have hr1 := h.sc f1 (by simp) (by simp)
  obtain ⟨k1, k2, k3⟩ := hr1.mk ok m8
  rw [ncl (by omega), k2]
  refine madeBy_sp hd w (by omega) k1 (Nat.le_refl _) (by omega) c1 c2 r1 (fun r ρ M q1 q2 f2 q3 q4 q5 => ?_)
  have hr2 := hr1.sc f2 (by simp) (by simp)
  obtain ⟨w1, w2⟩ := md_ok (aS A m) (aF A m) w (by omega) (aT A m)
  refine value_sp w1 (by omega) (by omega) q5 (fun r2 ρ2 f3 v1 v2 v3 => ?_)
  have hr3 := hr2.sc f3 (by simp) (by simp)
  cases hv : (ev a b (md (aS A m) (aF A m) (aT A m) (aP A p))).1 with
  | none =>
    rw [if_neg (by rw [v2 hv]; decide)]
    simpa only [xAnswer, g1, g2, mda, hv] using hQ ρ2 hr3
  | some v =>
    rw [if_pos (v3 v hv).1, (v3 v hv).2]
    simpa only [xAnswer, g1, g2, mda, hv] using hQ ρ2 hr3
theorem m_cost {x y a b : Int32} (hd : 200 ≤ d) (ok : okA A) (h : RM A σ) (hQ : ∀ τ, RM A τ → Q (xCost x y a b A) τ) : wX8_cost d x y a b σ Q := by
  unfold wX8_cost
  refine mk_mg ok h (fun m m8 hm e g1 => ?_) (fun g1 => ?_)
  rotate_left
  · rw [if_pos rfl]
    simpa only [xCost, g1] using hQ σ h
  subst e
  rw [if_neg (by decide)]
  refine has_pg ok h (fun p hp e w s g2 => ?_) (fun g2 => ?_)
  rotate_left
  · rw [if_pos rfl]
    simpa only [xCost, g1, g2] using hQ σ h
  subst e
  rw [if_neg (by decide)]
  refine treeOf_sp hp w s (by omega) (h.1 p hp) (fun c τ c1 f1 c2 r1 => ⟨vp_in_nI m8 (by omega), ?_⟩)
  have hr1 := h.sc f1 (by simp) (by simp)
  obtain ⟨k1, k2, k3⟩ := hr1.mk ok m8
  rw [ncl (by omega), k2]
  refine madeBy_sp hd w (by omega) k1 (Nat.le_refl _) (by omega) c1 c2 r1 (fun r ρ M q1 q2 f2 q3 q4 q5 => ?_)
  have hr2 := hr1.sc f2 (by simp) (by simp)
  obtain ⟨w1, w2⟩ := md_ok (aS A m) (aF A m) w (by omega) (aT A m)
  refine value_sp w1 (by omega) (by omega) q5 (fun r2 ρ2 f3 v1 v2 v3 => ?_)
  have hr3 := hr2.sc f3 (by simp) (by simp)
  rw [v1]
  simpa only [xCost, g1, g2, mda] using hQ ρ2 hr3
theorem m_fires {x y i : Int32} (hd : 200 ≤ d) (ok : okA A) (h : RM A σ) (hQ : ∀ τ, RM A τ → Q (xFires x y i A) τ) : wX8_fires d x y i σ Q := by
  unfold wX8_fires
  refine mk_tg ok h (fun m i m8 hm hi e1 e2 g1 g2 => ?_) (fun g => ?_)
  rotate_left
  · rw [if_pos rfl]
    have e : xFires x y i A = -1 := by
      unfold xFires
      rcases g with g | ⟨m, g, g2⟩
      · rw [g]
      · rw [g]
        cases pg A y with
        | none => rfl
        | some w => dsimp only; rw [g2]
    rw [e] at hQ
    exact hQ σ h
  subst e1
  subst e2
  rw [if_neg (by decide)]
  refine has_pg ok h (fun p hp e w s g3 => ?_) (fun g3 => ?_)
  rotate_left
  · rw [if_pos rfl]
    simpa only [xFires, g1, g3] using hQ σ h
  subst e
  rw [if_neg (by decide)]
  refine treeOf_sp hp w s (by omega) (h.1 p hp) (fun c τ c1 f1 c2 r1 => ?_)
  have hr1 := h.sc f1 (by simp) (by simp)
  obtain ⟨k1, k2, k3⟩ := hr1.mk ok m8
  refine firesOf_sp hd w (by omega) k1 hi (by omega) c1 c2 r1 (fun ρ f2 => ?_)
  simpa only [xFires, g1, g2, g3] using hQ ρ (hr1.sc f2 (by simp) (by simp))
theorem m_differ {x y k : Int32} (hd : 200 ≤ d) (ok : okA A) (h : RM A σ) (hQ : ∀ τ, RM A τ → Q (xDiffer x y k A) τ) : wX8_differ d x y k σ Q := by
  unfold wX8_differ
  refine mk_mg ok h (fun m m8 hm e g1 => ?_) (fun g1 => ?_)
  rotate_left
  · rw [if_pos rfl]
    simpa only [xDiffer, g1] using hQ σ h
  subst e
  rw [if_neg (by decide)]
  refine has_pg ok h (fun p hp e w s g2 => ?_) (fun g2 => ?_)
  rotate_left
  · rw [if_pos rfl]
    simpa only [xDiffer, g1, g2] using hQ σ h
  subst e
  rw [if_neg (by decide)]
  refine in_iy 0 6 0 6 rfl rfl (by omega) (by omega) (fun k k1 k2 e g3 => ?_) (fun g3 => ?_)
  rotate_left
  · rw [if_pos rfl]
    simpa only [xDiffer, g1, g2, g3] using hQ σ h
  subst e
  rw [if_neg (by decide)]
  refine treeOf_sp hp w s (by omega) (h.1 p hp) (fun c τ c1 f1 c2 r1 => ?_)
  have hr1 := h.sc f1 (by simp) (by simp)
  refine isSafe_sp w (by omega) (by omega) k2 r1 (fun q ρ f2 => ?_) (fun i j hi hj q ρ f2 => ?_)
  · rw [if_neg (by decide)]
    have hr2 := hr1.sc f2 (by simp) (by simp)
    obtain ⟨m1, m2, m3⟩ := hr2.mk ok m8
    refine ⟨vp_in_nI m8 (by omega), ?_⟩
    rw [ncl (by omega), m2]
    refine madeBy_sp hd w (by omega) m1 (Nat.le_refl _) (by omega) c1 (by rw [f2.2.1 1 (by simp)]; exact c2) (rx_fm w r1 f2) (fun r ρ2 M q1 q2 f3 q3 q4 q5 => ?_)
    have hr3 := hr2.sc f3 (by simp) (by simp)
    obtain ⟨w1, w2⟩ := md_ok (aS A m) (aF A m) w (by omega) (aT A m)
    refine lt_i (fun x ex => ⟨2 * k + 1 + 1, ?_⟩)
    rw [ex, ← vI_0 k]
    refine differ_out (N := M) w w1 (by omega) (by omega) (by omega) k2 q (2 * k + 1) 0 ρ2 (by omega) (rx_le w (rx_ex _ w _ _ _ (rx_fm w r1 f2) q3 (Nat.le_refl _)) q1) q5 (fun ρ3 f4 => ?_)
    have := hQ ρ3 (hr3.sc f4 (by simp) (by simp))
    simpa only [xDiffer, g1, g2, g3, mda, if_pos (sfB_y.mpr q)] using this
  · rw [if_pos rfl]
    have := hQ ρ (hr1.sc f2 (by simp) (by simp))
    simpa only [xDiffer, g1, g2, g3, mda, if_neg (show ¬ sfB k (aP A p) = true from by rw [sfB_n hi hj q]; decide)] using this
theorem m_first {x y k : Int32} (hd : 200 ≤ d) (ok : okA A) (h : RM A σ) (hQ : ∀ τ, RM A τ → Q (xFirst x y k A) τ) : wX8_first d x y k σ Q := by
  unfold wX8_first
  refine mk_mg ok h (fun m m8 hm e g1 => ?_) (fun g1 => ?_)
  rotate_left
  · rw [if_pos rfl]
    simpa only [xFirst, g1] using hQ σ h
  subst e
  rw [if_neg (by decide)]
  refine has_pg ok h (fun p hp e w s g2 => ?_) (fun g2 => ?_)
  rotate_left
  · rw [if_pos rfl]
    simpa only [xFirst, g1, g2] using hQ σ h
  subst e
  rw [if_neg (by decide)]
  refine in_iy 0 6 0 6 rfl rfl (by omega) (by omega) (fun k k1 k2 e g3 => ?_) (fun g3 => ?_)
  rotate_left
  · rw [if_pos rfl]
    simpa only [xFirst, g1, g2, g3] using hQ σ h
  subst e
  rw [if_neg (by decide)]
  refine treeOf_sp hp w s (by omega) (h.1 p hp) (fun c τ c1 f1 c2 r1 => ?_)
  have hr1 := h.sc f1 (by simp) (by simp)
  refine isSafe_sp w (by omega) (by omega) k2 r1 (fun q ρ f2 => ?_) (fun i j hi hj q ρ f2 => ?_)
  · rw [if_neg (by decide)]
    have hr2 := hr1.sc f2 (by simp) (by simp)
    obtain ⟨m1, m2, m3⟩ := hr2.mk ok m8
    refine firstOf_sp hd w (by omega) m1 m2 (by omega) c1 (by rw [f2.2.1 1 (by simp)]; exact c2) (rx_fm w r1 f2) k2 q (fun z ρ3 f4 => ?_) (fun i j hi hj z1 z2 z3 ρ3 f4 => ?_)
    · have := hQ ρ3 (hr2.sc f4 (by simp) (by simp))
      simpa only [xFirst, g1, g2, g3, mda, if_pos (sfB_y.mpr q), df1_n z] using this
    · have := hQ ρ3 (hr2.sc f4 (by simp) (by simp))
      simpa only [xFirst, g1, g2, g3, mda, if_pos (sfB_y.mpr q), df1_y hi hj z1 z2 z3] using this
  · rw [if_pos rfl]
    have := hQ ρ (hr1.sc f2 (by simp) (by simp))
    simpa only [xFirst, g1, g2, g3, mda, if_neg (show ¬ sfB k (aP A p) = true from by rw [sfB_n hi hj q]; decide)] using this
/-- the first turn behind which the value is another -/
def csB (so fa : Nat → Nat) (a b v : Int32) (t : Tr) (i : Nat) : Bool := decide ((ev a b (md so fa (i + 1) t)).1 ≠ some v)
set_option maxRecDepth 20000 in
theorem cause_lp {m n : Nat} {so fa : Nat → Nat} {t : Tr} {a b v : Int32} (hd : 200 ≤ d) (ht : wf t) (hs : tsz t ≤ 60) (h : RM A σ) : ∀ (k i N c : Nat) (τ : Sg), i + k = n → mkR τ m n so fa → τ.1 18 m = nI n → N + 400 * k ≤ 9000 → c < N → τ.1 0 1 = nI N → rx τ (md so fa i t) (nI c) N → RM A τ → (∀ j, j < i → csB so fa a b v t j = false) →
    (∀ j ρ, j < n → csB so fa a b v t j = true → (∀ j', j' < j → csB so fa a b v t j' = false) → RM A ρ → Q (nI j) ρ) → (∀ ρ, (∀ j', j' < n → csB so fa a b v t j' = false) → RM A ρ → Q (-2) ρ) → wX8_cause_52 d Q (k + 1) (nI m) a b (nI c) v 1 (nI i) τ := by
  intro k
  induction k with
  | zero =>
    intro i N c τ hi hm h18 hN hc h1 hr hR hp hy hn
    obtain ⟨m1, m2, m3⟩ := id hm
    show wX8_cause_52_b d (wX8_cause_52 d Q 0) (nI m) a b (nI c) v 1 (nI i) τ Q
    unfold wX8_cause_52_b
    refine ⟨vp_in_nI m1 (by omega), ?_⟩
    rw [ncl (by omega), h18, if_pos (nI_le (by omega) (by omega))]
    exact hn τ (fun j hj => hp j (by omega)) hR
  | succ k ih =>
    intro i N c τ hi hm h18 hN hc h1 hr hR hp hy hn
    obtain ⟨m1, m2, m3⟩ := id hm
    show wX8_cause_52_b d (wX8_cause_52 d Q (k + 1)) (nI m) a b (nI c) v 1 (nI i) τ Q
    unfold wX8_cause_52_b
    refine ⟨vp_in_nI m1 (by omega), ?_⟩
    rw [ncl (by omega), h18, if_neg (nI_ge (by omega) (by omega))]
    obtain ⟨w1, w2⟩ := md_ok so fa ht (by omega) i
    obtain ⟨w3, w4⟩ := md_ok so fa ht (by omega) (i + 1)
    refine goOver_sp hd w1 w2 hm (by omega) (by omega) hc h1 hr (fun r ρ M q1 q2 f1 q4 q5 q6 q7 => ?_)
    have hr1 := hR.sc f1 (by simp) (by simp)
    refine value_sp (t := md so fa (i + 1) t) w3 (by omega) (by omega) q7 (fun r2 ρ2 f2 v1 v2 v3 => ?_)
    have hr2 := hr1.sc f2 (by simp) (by simp)
    have bad : csB so fa a b v t i = true → wX8_cause_104 d (wX8_cause_52 d Q (k + 1)) (nI m) a b r v 1 (nI i) 0 ρ2 Q := fun z => by
      unfold wX8_cause_104
      rw [if_neg (by decide), if_pos rfl]
      exact hy i ρ2 (by omega) z hp hr2
    cases hv : (ev a b (md so fa (i + 1) t)).1 with
    | none =>
      rw [if_neg (by rw [v2 hv]; decide)]
      unfold wX8_cause_103
      exact bad (by unfold csB; rw [hv]; rfl)
    | some u =>
      obtain ⟨v4, v5⟩ := v3 u hv
      rw [if_pos v4, v5]
      by_cases e : u = v
      · rw [if_pos e]
        unfold wX8_cause_104
        rw [if_neg (by decide), if_neg (by decide)]
        unfold wX8_cause_119
        refine lt_i (fun x ex => ?_)
        rw [ex, nI_1]
        obtain ⟨j, j1, rfl, -⟩ := kid w3 q7
        refine ih (i + 1) M j ρ2 (by omega) ((hm.fm f1 (by simp) (by simp)).fm f2 (by simp) (by simp)) (by rw [f2.1 18 (by simp) (by simp), f1.1 18 (by simp) (by simp)]; exact h18) (by omega) j1 (by rw [f2.2.1 1 (by simp)]; exact q5) (rx_fm w3 q7 f2) hr2 (fun j' hj' => ?_) hy hn
        by_cases e2 : j' = i
        · subst e2
          unfold csB
          rw [hv, e]
          simp
        · exact hp j' (by omega)
      · rw [if_neg e]
        unfold wX8_cause_103
        exact bad (by unfold csB; rw [hv]; exact decide_eq_true (fun z => e (Option.some.inj z)))
theorem m_cause {x y a b : Int32} (hd : 200 ≤ d) (ok : okA A) (h : RM A σ) (hQ : ∀ τ, RM A τ → Q (xCause x y a b A) τ) : wX8_cause d x y a b σ Q := by
  unfold wX8_cause
  refine mk_mg ok h (fun m m8 hm e g1 => ?_) (fun g1 => ?_)
  rotate_left
  · rw [if_pos rfl]
    simpa only [xCause, g1] using hQ σ h
  subst e
  rw [if_neg (by decide)]
  refine has_pg ok h (fun p hp e w s g2 => ?_) (fun g2 => ?_)
  rotate_left
  · rw [if_pos rfl]
    simpa only [xCause, g1, g2] using hQ σ h
  subst e
  rw [if_neg (by decide)]
  refine treeOf_sp hp w s (by omega) (h.1 p hp) (fun c τ c1 f1 c2 r1 => ?_)
  have hr1 := h.sc f1 (by simp) (by simp)
  refine value_sp w (by omega) (by omega) r1 (fun r2 ρ2 f3 v1 v2 v3 => ?_)
  have hr2 := hr1.sc f3 (by simp) (by simp)
  cases hv : (ev a b (aP A p)).1 with
  | none =>
    rw [if_neg (by rw [v2 hv]; decide)]
    simpa only [xCause, g1, g2, hv] using hQ ρ2 hr2
  | some v =>
    obtain ⟨v4, v5⟩ := v3 v hv
    rw [if_pos v4, v5]
    obtain ⟨m1, m2, m3⟩ := hr2.mk ok m8
    refine ⟨aT A m + 1, ?_⟩
    refine cause_lp (σ := σ) hd w s h (aT A m) 0 (tsz (aP A p)) c ρ2 (by omega) m1 m2 (by omega) c1 (by rw [f3.2.1 1 (by simp)]; exact c2) (rx_fm w r1 f3) hr2 (fun j hj => by omega) (fun j ρ j1 j2 j3 hρ => ?_) (fun ρ j3 hρ => ?_)
    · have e := fs1_y (P := csB (aS A m) (aF A m) a b v (aP A p)) (aT A m) 0 j (by omega) (by omega) j2 (fun j' _ z => j3 j' z)
      have := hQ ρ hρ
      have e2 : xCause (nI m) (nI p) a b A = nI j := by
        simp only [xCause, g1, g2, hv]
        unfold csB at e
        rw [e]
      rw [e2] at this
      exact this
    · have e := fs1_n (P := csB (aS A m) (aF A m) a b v (aP A p)) (aT A m) 0 (fun j' _ z => j3 j' (by omega))
      have := hQ ρ hρ
      have e2 : xCause (nI m) (nI p) a b A = -2 := by
        simp only [xCause, g1, g2, hv]
        unfold csB at e
        rw [e]
      rw [e2] at this
      exact this
end
