/-! the reference: rows copied and spliced -/
/-- at index i of two rows stands e -/
def At (f g : Nat → Int32) (i : Nat) (e : En) : Prop := f i = nI e.1 ∧ g i = e.2.1
theorem Rw.iff {f g : Nat → Int32} {off : Nat} {xs : List En} : Rw f g off xs ↔ ∀ i (hi : i < xs.length), At f g (off + i) xs[i] := ⟨fun h i hi => h.at hi, fun h => Rw.mk h⟩
def flR (σ : Sg) (xs : List En) : Prop := σ.1 0 38 = nI xs.length ∧ Rw (σ.1 24) (σ.1 25) 0 xs
theorem remember_loop {xs : List En} {Q : Sg → Prop} (hl : xs.length ≤ 60) : ∀ (m i : Nat) (σ : Sg), i + m = xs.length → hdR σ xs → σ.1 0 38 = nI xs.length → (∀ j (hj : j < xs.length), j < i → At (σ.1 24) (σ.1 25) j xs[j]) → (∀ τ, Fm [24, 25] [38] σ τ → flR τ xs → Q τ) → wX8_remember_10 Q (m + 1) (nI i) σ := by
  intro m
  induction m with
  | zero =>
    intro i σ hi hh h38 hp hQ
    show wX8_remember_10_b (wX8_remember_10 Q 0) (nI i) σ Q
    unfold wX8_remember_10_b
    rw [hh.1, if_pos (nI_le (by omega) (by omega))]
    exact hQ σ Fm.rf ⟨h38, Rw.iff.mpr (fun j hj => by rw [Nat.zero_add]; exact hp j hj (by omega))⟩
  | succ m ih =>
    intro i σ hi hh h38 hp hQ
    obtain ⟨h17, hR⟩ := hh
    obtain ⟨r1, r2⟩ := Rw.iff.mp hR i (by omega)
    rw [Nat.zero_add] at r1 r2
    show wX8_remember_10_b (wX8_remember_10 Q (m + 1)) (nI i) σ Q
    unfold wX8_remember_10_b
    rw [h17, if_neg (nI_ge (by omega) (by omega))]
    refine ⟨vp_in_nI (by omega) (by omega), vp_in_nI (by omega) (by omega), ?_⟩
    rw [ncl (by omega), r1]
    refine lt_i (fun a ea => ?_)
    have a11 : a.1 11 = σ.1 11 := by rw [ea, sI_1, up_n _ _ _ _ (by decide)]
    rw [a11, r2]
    refine lt_i (fun b eb => lt_i (fun x ex => ?_))
    have ex : x = nI (i + 1) := by rw [ex]; exact nI_1 i
    rw [ex]
    have fa : Fm [24, 25] [38] σ a := by rw [ea]; exact Fm.row 24 _ (by decide) (by simp)
    have fb : Fm [24, 25] [38] a b := by rw [eb]; exact Fm.row 25 _ (by decide) (by simp)
    have fab := fa.tr fb
    have b24 : b.1 24 = upd (σ.1 24) i (nI (xs[i]).1) := by rw [eb, sI_1, up_n _ _ _ _ (by decide), ea, sI_1, up_s]
    have b25 : b.1 25 = upd (σ.1 25) i (xs[i]).2.1 := by rw [eb, sI_1, up_s, ea, sI_1, up_n _ _ _ _ (by decide)]
    refine ih (i + 1) b (by omega) ⟨by rw [fab.2.1 17 (by simp)]; exact h17, by rw [fab.1 10 (by omega) (by simp), fab.1 11 (by omega) (by simp)]; exact hR⟩ (by rw [eb, sI_1, up_n _ _ _ _ (by decide), ea, sI_1, up_n _ _ _ _ (by decide)]; exact h38) (fun j hj hji => ?_) (fun τ q1 q2 => hQ τ (fab.tr q1) q2)
    rw [b24, b25]
    by_cases e : j = i
    · subst e; exact ⟨by rw [ud_s], by rw [ud_s]⟩
    · obtain ⟨z1, z2⟩ := hp j hj (by omega)
      exact ⟨by rw [ud_n _ _ _ _ e]; exact z1, by rw [ud_n _ _ _ _ e]; exact z2⟩
theorem remember_sp {xs : List En} {σ : Sg} {Q : Sg → Prop} (hl : xs.length ≤ 60) (hh : hdR σ xs) (hQ : ∀ τ, Fm [24, 25] [38] σ τ → flR τ xs → Q τ) : wX8_remember σ Q := by
  unfold wX8_remember
  refine lt_i (fun a ea => ⟨xs.length + 1, ?_⟩)
  have fa : Fm [24, 25] [38] σ a := by rw [ea]; exact Fm.put 38 _ (by simp)
  exact remember_loop hl xs.length 0 a (by omega) ⟨by rw [fa.2.1 17 (by simp)]; exact hh.1, by rw [fa.1 10 (by omega) (by simp), fa.1 11 (by omega) (by simp)]; exact hh.2⟩ (by rw [ea, sI_1, up_s, ud_s]; exact hh.1) (fun j _ h => by omega) (fun τ q1 q2 => hQ τ (fa.tr q1) q2)
theorem recall_loop {xs : List En} {Q : Sg → Prop} (hl : xs.length ≤ 60) : ∀ (m i : Nat) (σ : Sg), i + m = xs.length → flR σ xs → σ.1 0 17 = nI xs.length → (∀ j (hj : j < xs.length), j < i → At (σ.1 10) (σ.1 11) j xs[j]) → (∀ τ, Fm [10, 11] [17] σ τ → hdR τ xs → Q τ) → wX8_recall_10 Q (m + 1) (nI i) σ := by
  intro m
  induction m with
  | zero =>
    intro i σ hi hh h17 hp hQ
    show wX8_recall_10_b (wX8_recall_10 Q 0) (nI i) σ Q
    unfold wX8_recall_10_b
    rw [hh.1, if_pos (nI_le (by omega) (by omega))]
    exact hQ σ Fm.rf ⟨h17, Rw.iff.mpr (fun j hj => by rw [Nat.zero_add]; exact hp j hj (by omega))⟩
  | succ m ih =>
    intro i σ hi hh h17 hp hQ
    obtain ⟨h38, hR⟩ := hh
    obtain ⟨r1, r2⟩ := Rw.iff.mp hR i (by omega)
    rw [Nat.zero_add] at r1 r2
    show wX8_recall_10_b (wX8_recall_10 Q (m + 1)) (nI i) σ Q
    unfold wX8_recall_10_b
    rw [h38, if_neg (nI_ge (by omega) (by omega))]
    refine ⟨vp_in_nI (by omega) (by omega), vp_in_nI (by omega) (by omega), ?_⟩
    rw [ncl (by omega), r1]
    refine lt_i (fun a ea => ?_)
    have a25 : a.1 25 = σ.1 25 := by rw [ea, sI_1, up_n _ _ _ _ (by decide)]
    rw [a25, r2]
    refine lt_i (fun b eb => lt_i (fun x ex => ?_))
    have ex : x = nI (i + 1) := by rw [ex]; exact nI_1 i
    rw [ex]
    have fa : Fm [10, 11] [17] σ a := by rw [ea]; exact Fm.row 10 _ (by decide) (by simp)
    have fb : Fm [10, 11] [17] a b := by rw [eb]; exact Fm.row 11 _ (by decide) (by simp)
    have fab := fa.tr fb
    have b10 : b.1 10 = upd (σ.1 10) i (nI (xs[i]).1) := by rw [eb, sI_1, up_n _ _ _ _ (by decide), ea, sI_1, up_s]
    have b11 : b.1 11 = upd (σ.1 11) i (xs[i]).2.1 := by rw [eb, sI_1, up_s, ea, sI_1, up_n _ _ _ _ (by decide)]
    refine ih (i + 1) b (by omega) ⟨by rw [fab.2.1 38 (by simp)]; exact h38, by rw [fab.1 24 (by omega) (by simp), fab.1 25 (by omega) (by simp)]; exact hR⟩ (by rw [eb, sI_1, up_n _ _ _ _ (by decide), ea, sI_1, up_n _ _ _ _ (by decide)]; exact h17) (fun j hj hji => ?_) (fun τ q1 q2 => hQ τ (fab.tr q1) q2)
    rw [b10, b11]
    by_cases e : j = i
    · subst e; exact ⟨by rw [ud_s], by rw [ud_s]⟩
    · obtain ⟨z1, z2⟩ := hp j hj (by omega)
      exact ⟨by rw [ud_n _ _ _ _ e]; exact z1, by rw [ud_n _ _ _ _ e]; exact z2⟩
theorem recall_sp {xs : List En} {σ : Sg} {Q : Sg → Prop} (hl : xs.length ≤ 60) (hh : flR σ xs) (hQ : ∀ τ, Fm [10, 11] [17] σ τ → hdR τ xs → Q τ) : wX8_recall σ Q := by
  unfold wX8_recall
  refine lt_i (fun a ea => ⟨xs.length + 1, ?_⟩)
  have fa : Fm [10, 11] [17] σ a := by rw [ea]; exact Fm.put 17 _ (by simp)
  exact recall_loop hl xs.length 0 a (by omega) ⟨by rw [fa.2.1 38 (by simp)]; exact hh.1, by rw [fa.1 24 (by omega) (by simp), fa.1 25 (by omega) (by simp)]; exact hh.2⟩ (by rw [ea, sI_1, up_s, ud_s]; exact hh.1) (fun j _ h => by omega) (fun τ q1 q2 => hQ τ (fa.tr q1) q2)
theorem spare_loop {a0 : Nat} {ys : List En} {Q : Sg → Prop} (hl : ys.length ≤ 60) (ha : a0 + ys.length ≤ 400) : ∀ (m i : Nat) (σ : Sg), i + m = ys.length → Rw (σ.1 10) (σ.1 11) a0 ys → (∀ j (hj : j < ys.length), j < i → At (σ.1 16) (σ.1 17) j ys[j]) → (∀ τ, Fm [16, 17] [] σ τ → Rw (τ.1 16) (τ.1 17) 0 ys → Q τ) → wX8_spare_2 Q (m + 1) (nI a0) (nI (a0 + ys.length)) (nI (a0 + i)) σ := by
  intro m
  induction m with
  | zero =>
    intro i σ hi hR hp hQ
    show wX8_spare_2_b (wX8_spare_2 Q 0) (nI a0) _ (nI (a0 + i)) σ Q
    unfold wX8_spare_2_b
    rw [if_pos (nI_le (by omega) (by omega))]
    exact hQ σ Fm.rf (Rw.iff.mpr (fun j hj => by rw [Nat.zero_add]; exact hp j hj (by omega)))
  | succ m ih =>
    intro i σ hi hR hp hQ
    obtain ⟨r1, r2⟩ := Rw.iff.mp hR i (by omega)
    show wX8_spare_2_b (wX8_spare_2 Q (m + 1)) (nI a0) _ (nI (a0 + i)) σ Q
    unfold wX8_spare_2_b
    rw [if_neg (nI_ge (by omega) (by omega)), pk_sub (by omega), Nat.add_sub_cancel_left]
    refine ⟨vp_in_nI (by omega) (by omega), vp_in_nI (by omega) (by omega), ?_⟩
    rw [ncl (by omega), ncl (by omega), r1]
    refine lt_i (fun a ea => ?_)
    have a11 : a.1 11 = σ.1 11 := by rw [ea, sI_1, up_n _ _ _ _ (by decide)]
    rw [a11, r2]
    refine lt_i (fun b eb => lt_i (fun x ex => ?_))
    have ex : x = nI (a0 + (i + 1)) := by rw [ex]; exact nI_1 (a0 + i)
    rw [ex]
    have fa : Fm [16, 17] [] σ a := by rw [ea]; exact Fm.row 16 _ (by decide) (by simp)
    have fb : Fm [16, 17] [] a b := by rw [eb]; exact Fm.row 17 _ (by decide) (by simp)
    have fab := fa.tr fb
    have b16 : b.1 16 = upd (σ.1 16) i (nI (ys[i]).1) := by rw [eb, sI_1, up_n _ _ _ _ (by decide), ea, sI_1, up_s]
    have b17 : b.1 17 = upd (σ.1 17) i (ys[i]).2.1 := by rw [eb, sI_1, up_s, ea, sI_1, up_n _ _ _ _ (by decide)]
    refine ih (i + 1) b (by omega) (by rw [fab.1 10 (by omega) (by simp), fab.1 11 (by omega) (by simp)]; exact hR) (fun j hj hji => ?_) (fun τ q1 q2 => hQ τ (fab.tr q1) q2)
    rw [b16, b17]
    by_cases e : j = i
    · subst e; exact ⟨by rw [ud_s], by rw [ud_s]⟩
    · obtain ⟨z1, z2⟩ := hp j hj (by omega)
      exact ⟨by rw [ud_n _ _ _ _ e]; exact z1, by rw [ud_n _ _ _ _ e]; exact z2⟩
theorem spare_sp {a0 : Nat} {ys : List En} {σ : Sg} {Q : Sg → Prop} (hl : ys.length ≤ 60) (ha : a0 + ys.length ≤ 400) (hR : Rw (σ.1 10) (σ.1 11) a0 ys) (hQ : ∀ τ, Fm [16, 17] [] σ τ → Rw (τ.1 16) (τ.1 17) 0 ys → Q τ) : wX8_spare (nI a0) (nI (a0 + ys.length)) σ Q := by
  unfold wX8_spare
  exact ⟨ys.length + 1, spare_loop hl ha ys.length 0 σ (by omega) hR (fun j _ h => by omega) hQ⟩
theorem shift_sp {i j : Nat} {σ : Sg} {Q : Sg → Prop} (hi : i < 400) (hj : j < 400) (hQ : ∀ τ, Fm [10, 11] [] σ τ → τ.1 10 = upd (σ.1 10) j (σ.1 10 i) → τ.1 11 = upd (σ.1 11) j (σ.1 11 i) → Q τ) : wX8_shift (nI i) (nI j) σ Q := by
  unfold wX8_shift
  refine ⟨vp_in_nI hi (by omega), vp_in_nI hj (by omega), ?_⟩
  rw [ncl (by omega), ncl (by omega)]
  refine lt_i (fun a ea => ?_)
  have a11 : a.1 11 = σ.1 11 := by rw [ea, sI_1, up_n _ _ _ _ (by decide)]
  rw [a11]
  refine lt_i (fun b eb => ?_)
  refine hQ b ((show Fm [10, 11] [] σ a by rw [ea]; exact Fm.row 10 _ (by decide) (by simp)).tr (by rw [eb]; exact Fm.row 11 _ (by decide) (by simp))) ?_ ?_
  · rw [eb, sI_1, up_n _ _ _ _ (by decide), ea, sI_1, up_s]
  · rw [eb, sI_1, up_s]
