/-! the reference: splice() -/
section
variable {A ys C : List En} {Q : Sg → Prop}
/-- what the rows are behind the shifting: what came ahead, and what came behind -/
def mvP (a D : Nat) (C : List En) (σ τ : Sg) : Prop := Fm [10, 11] [] σ τ ∧ (∀ i, i < a → τ.1 10 i = σ.1 10 i ∧ τ.1 11 i = σ.1 11 i) ∧ Rw (τ.1 10) (τ.1 11) D C
theorem up_loop {a S D : Nat} {R : Sg → Prop} {x1 x2 x3 : Nat} (hS : S = x2) (hD : D = x1 + x3) (h1 : a ≤ D) (h2 : D ≤ S) (h3 : S + C.length ≤ 400) (hR : ∀ τ, R τ → wX8_splice_79 (nI x1) (nI x3) (nI C.length) τ Q) :
    ∀ (m k : Nat) (σ σ0 : Sg), k + m = C.length → Fm [10, 11] [] σ0 σ → (∀ i, i < a → σ.1 10 i = σ0.1 10 i ∧ σ.1 11 i = σ0.1 11 i) → (∀ j (hj : j < C.length), j < k → At (σ.1 10) (σ.1 11) (D + j) C[j]) → (∀ j (hj : j < C.length), k ≤ j → At (σ.1 10) (σ.1 11) (S + j) C[j]) → (∀ τ, mvP a D C σ0 τ → R τ) →
    wX8_splice_52 Q (m + 1) (nI x1) (nI x2) (nI x3) (nI C.length) (nI k) σ := by
  intro m
  induction m with
  | zero =>
    intro k σ σ0 hk hF hlow hd hs hQ
    show wX8_splice_52_b (wX8_splice_52 Q 0) _ _ _ _ (nI k) σ Q
    unfold wX8_splice_52_b
    rw [if_pos (nI_le (by omega) (by omega))]
    exact hR σ (hQ σ ⟨hF, hlow, Rw.iff.mpr (fun j hj => hd j hj (by omega))⟩)
  | succ m ih =>
    intro k σ σ0 hk hF hlow hd hs hQ
    show wX8_splice_52_b (wX8_splice_52 Q (m + 1)) _ _ _ _ (nI k) σ Q
    unfold wX8_splice_52_b
    rw [if_neg (nI_ge (by omega) (by omega)), nI_add, nI_add, nI_add, ← hS, ← hD]
    refine shift_sp (by omega) (by omega) (fun τ f1 f2 f3 => ?_)
    refine lt_i (fun x ex => ?_)
    have ex : x = nI (k + 1) := by rw [ex]; exact nI_1 k
    rw [ex, hS]
    refine ih (k + 1) τ σ0 (by omega) (hF.tr f1) (fun i hi => ?_) (fun j hj hjk => ?_) (fun j hj hjk => ?_) hQ
    · obtain ⟨z1, z2⟩ := hlow i hi
      rw [f2, f3, ud_n _ _ _ _ (by omega), ud_n _ _ _ _ (by omega)]
      exact ⟨z1, z2⟩
    · rw [f2, f3]
      by_cases e : j = k
      · subst e
        obtain ⟨z1, z2⟩ := hs j hj (Nat.le_refl _)
        exact ⟨by rw [ud_s]; exact z1, by rw [ud_s]; exact z2⟩
      · obtain ⟨z1, z2⟩ := hd j hj (by omega)
        exact ⟨by rw [ud_n _ _ _ _ (by omega)]; exact z1, by rw [ud_n _ _ _ _ (by omega)]; exact z2⟩
    · obtain ⟨z1, z2⟩ := hs j hj (by omega)
      rw [f2, f3]
      exact ⟨by rw [ud_n _ _ _ _ (by omega)]; exact z1, by rw [ud_n _ _ _ _ (by omega)]; exact z2⟩
theorem dn_loop {a S D : Nat} {R : Sg → Prop} {x1 x2 x3 : Nat} (hS : S = x2) (hD : D = x1 + x3) (h1 : a ≤ D) (h2 : S ≤ D) (h3 : D + C.length ≤ 400) (hR : ∀ τ, R τ → wX8_splice_79 (nI x1) (nI x3) (nI C.length) τ Q) :
    ∀ (k : Nat) (σ σ0 : Sg), k ≤ C.length → Fm [10, 11] [] σ0 σ → (∀ i, i < a → σ.1 10 i = σ0.1 10 i ∧ σ.1 11 i = σ0.1 11 i) → (∀ j (hj : j < C.length), k ≤ j → At (σ.1 10) (σ.1 11) (D + j) C[j]) → (∀ j (hj : j < C.length), j < k → At (σ.1 10) (σ.1 11) (S + j) C[j]) → (∀ τ, mvP a D C σ0 τ → R τ) →
    wX8_splice_21 Q (k + 1) (nI x1) (nI x2) (nI x3) (nI C.length) (nI k - 1) σ := by
  intro k
  induction k with
  | zero =>
    intro σ σ0 hk hF hlow hd hs hQ
    show wX8_splice_21_b (wX8_splice_21 Q 0) _ _ _ _ (nI 0 - 1) σ Q
    unfold wX8_splice_21_b
    rw [if_pos (show nI 0 - 1 < (0 : Int32) from pk_sneg (a := 0) (b := 1) (by omega) (by omega))]
    exact hR σ (hQ σ ⟨hF, hlow, Rw.iff.mpr (fun j hj => hd j hj (by omega))⟩)
  | succ k ih =>
    intro σ σ0 hk hF hlow hd hs hQ
    show wX8_splice_21_b (wX8_splice_21 Q (k + 1)) _ _ _ _ (nI (k + 1) - 1) σ Q
    unfold wX8_splice_21_b
    rw [nI_pred k]
    generalize hx0 : nI k + (-1) = x0
    rw [if_neg (nI_pos (by omega)), nI_add x2 k, nI_add x1 x3, nI_add (x1 + x3) k, ← hS, ← hD]
    refine shift_sp (by omega) (by omega) (fun τ f1 f2 f3 => ?_)
    have key : ∀ x : Int32, x = x0 → wX8_splice_21 Q (k + 1) (nI x1) (nI S) (nI x3) (nI C.length) x τ := by
      intro x ex
      have ex : x = nI k - 1 := (ex.trans hx0.symm).trans (Int32.sub_eq_add_neg _ _).symm
      rw [ex, hS]
      refine ih τ σ0 (by omega) (hF.tr f1) (fun i hi => ?_) (fun j hj hjk => ?_) (fun j hj hjk => ?_) hQ
      · obtain ⟨z1, z2⟩ := hlow i hi
        rw [f2, f3, ud_n _ _ _ _ (by omega), ud_n _ _ _ _ (by omega)]
        exact ⟨z1, z2⟩
      · rw [f2, f3]
        by_cases e : j = k
        · subst e
          obtain ⟨z1, z2⟩ := hs j hj (by omega)
          exact ⟨by rw [ud_s]; exact z1, by rw [ud_s]; exact z2⟩
        · obtain ⟨z1, z2⟩ := hd j hj (by omega)
          exact ⟨by rw [ud_n _ _ _ _ (by omega)]; exact z1, by rw [ud_n _ _ _ _ (by omega)]; exact z2⟩
      · obtain ⟨z1, z2⟩ := hs j hj (by omega)
        rw [f2, f3]
        exact ⟨by rw [ud_n _ _ _ _ (by omega)]; exact z1, by rw [ud_n _ _ _ _ (by omega)]; exact z2⟩
    exact lt_i key
theorem in_loop {σ0 : Sg} {c : Nat} (hl : ys.length ≤ 60) (ha : A.length + ys.length + c ≤ 400) (hC : c = C.length) : ∀ (m k : Nat) (σ : Sg), k + m = ys.length → Fm [10, 11] [17] σ0 σ → Rw (σ.1 16) (σ.1 17) 0 ys → Rw (σ.1 10) (σ.1 11) 0 A → Rw (σ.1 10) (σ.1 11) (A.length + ys.length) C → (∀ j (hj : j < ys.length), j < k → At (σ.1 10) (σ.1 11) (A.length + j) ys[j]) → (∀ τ, Fm [10, 11] [17] σ0 τ → hdR τ (A ++ (ys ++ C)) → Q τ) →
    wX8_splice_82 Q (m + 1) (nI A.length) (nI ys.length) (nI c) (nI k) σ := by
  intro m
  induction m with
  | zero =>
    intro k σ hk hF hs hA hCR hp hQ
    show wX8_splice_82_b (wX8_splice_82 Q 0) _ _ _ (nI k) σ Q
    unfold wX8_splice_82_b
    rw [if_pos (nI_le (by omega) (by omega)), nI_add, nI_add]
    refine lt_i (fun b eb => ?_)
    have fb : Fm [10, 11] [17] σ b := by rw [eb]; exact Fm.put 17 _ (by simp)
    have b10 : b.1 10 = σ.1 10 := by rw [eb, sI_1, up_n _ _ _ _ (by decide)]
    have b11 : b.1 11 = σ.1 11 := by rw [eb, sI_1, up_n _ _ _ _ (by decide)]
    refine hQ b (hF.tr fb) ⟨?_, ?_⟩
    · rw [eb, sI_1, up_s, ud_s, List.length_append, List.length_append, hC, Nat.add_assoc]
    · rw [b10, b11, Rw.app, Rw.app, Nat.zero_add]
      exact ⟨hA, Rw.iff.mpr (fun j hj => hp j hj (by omega)), hCR⟩
  | succ m ih =>
    intro k σ hk hF hs hA hCR hp hQ
    obtain ⟨r1, r2⟩ := Rw.iff.mp hs k (by omega)
    rw [Nat.zero_add] at r1 r2
    show wX8_splice_82_b (wX8_splice_82 Q (m + 1)) _ _ _ (nI k) σ Q
    unfold wX8_splice_82_b
    rw [if_neg (nI_ge (by omega) (by omega)), nI_add]
    refine ⟨vp_in_nI (by omega) (by omega), vp_in_nI (by omega) (by omega), ?_⟩
    rw [ncl (by omega), ncl (by omega), r1]
    refine lt_i (fun a ea => ?_)
    have a17 : a.1 17 = σ.1 17 := by rw [ea, sI_1, up_n _ _ _ _ (by decide)]
    rw [a17, r2]
    refine lt_i (fun b eb => lt_i (fun x ex => ?_))
    have ex : x = nI (k + 1) := by rw [ex]; exact nI_1 k
    rw [ex]
    have fa : Fm [10, 11] [17] σ a := by rw [ea]; exact Fm.row 10 _ (by decide) (by simp)
    have fb : Fm [10, 11] [17] a b := by rw [eb]; exact Fm.row 11 _ (by decide) (by simp)
    have fab := fa.tr fb
    have b10 : b.1 10 = upd (σ.1 10) (A.length + k) (nI (ys[k]).1) := by rw [eb, sI_1, up_n _ _ _ _ (by decide), ea, sI_1, up_s]
    have b11 : b.1 11 = upd (σ.1 11) (A.length + k) (ys[k]).2.1 := by rw [eb, sI_1, up_s, ea, sI_1, up_n _ _ _ _ (by decide)]
    refine ih (k + 1) b (by omega) (hF.tr fab) (by rw [fab.1 16 (by omega) (by simp), fab.1 17 (by omega) (by simp)]; exact hs) (Rw.congr hA (fun i h1 h2 => ?_) (fun i h1 h2 => ?_)) (Rw.congr hCR (fun i h1 h2 => ?_) (fun i h1 h2 => ?_)) (fun j hj hjk => ?_) hQ
    · rw [b10, ud_n _ _ _ _ (by omega)]
    · rw [b11, ud_n _ _ _ _ (by omega)]
    · rw [b10, ud_n _ _ _ _ (by omega)]
    · rw [b11, ud_n _ _ _ _ (by omega)]
    · rw [b10, b11]
      by_cases e : j = k
      · subst e; exact ⟨by rw [ud_s], by rw [ud_s]⟩
      · obtain ⟨z1, z2⟩ := hp j hj (by omega)
        exact ⟨by rw [ud_n _ _ _ _ (by omega)]; exact z1, by rw [ud_n _ _ _ _ (by omega)]; exact z2⟩
theorem splice_sp {B : List En} {σ : Sg} (hl : ys.length ≤ 60) (h4 : A.length + ys.length + C.length ≤ 400) (h5 : A.length + B.length + C.length ≤ 400) (hh : hdR σ (A ++ (B ++ C))) (hs : Rw (σ.1 16) (σ.1 17) 0 ys) (hQ : ∀ τ, Fm [10, 11] [17] σ τ → hdR τ (A ++ (ys ++ C)) → Q τ) : wX8_splice (nI A.length) (nI (A.length + B.length)) (nI ys.length) σ Q := by
  obtain ⟨h17, hR⟩ := hh
  rw [Rw.app, Rw.app, Nat.zero_add] at hR
  obtain ⟨rA, rB, rC⟩ := hR
  unfold wX8_splice
  rw [h17, List.length_append, List.length_append, pk_sub (by omega), show A.length + (B.length + C.length) - (A.length + B.length) = C.length by omega]
  have fin : ∀ τ, mvP A.length (A.length + ys.length) C σ τ → wX8_splice_79 (nI A.length) (nI ys.length) (nI C.length) τ Q := by
    intro τ hm
    obtain ⟨m1, m2, m3⟩ := hm
    unfold wX8_splice_79
    refine ⟨ys.length + 1, in_loop (σ0 := σ) hl (by omega) rfl ys.length 0 τ (by omega) (m1.wk (fun _ z => z) (by simp)) (by rw [m1.1 16 (by omega) (by simp), m1.1 17 (by omega) (by simp)]; exact hs) (Rw.congr rA (fun i _ h => (m2 i (by omega)).1) (fun i _ h => (m2 i (by omega)).2)) m3 (fun j _ h => by omega) hQ⟩
  refine lt_i (fun x ex => ?_)
  rw [ex, pk_sub (by omega), Nat.add_sub_cancel_left]
  by_cases q : ys.length ≤ B.length
  · rw [if_pos (nI_le q (by omega))]
    refine ⟨C.length + 1, up_loop (S := A.length + B.length) (D := A.length + ys.length) (a := A.length) (R := fun τ => mvP A.length (A.length + ys.length) C σ τ) rfl rfl (by omega) (by omega) (by omega) fin C.length 0 σ σ (by omega) Fm.rf (fun _ _ => ⟨rfl, rfl⟩) (fun j _ h => by omega) (fun j hj _ => Rw.iff.mp rC j hj) (fun _ z => z)⟩
  · rw [if_neg (nI_ge (by omega) (by omega))]
    refine lt_i (fun y ey => ?_)
    rw [ey]
    refine ⟨C.length + 1, dn_loop (S := A.length + B.length) (D := A.length + ys.length) (a := A.length) (R := fun τ => mvP A.length (A.length + ys.length) C σ τ) rfl rfl (by omega) (by omega) (by omega) fin C.length σ σ (Nat.le_refl _) Fm.rf (fun _ _ => ⟨rfl, rfl⟩) (fun j hj h => by omega) (fun j hj _ => Rw.iff.mp rC j hj) (fun _ z => z)⟩
end
