/-! the empty bench, on both sides -/
theorem fl_ab0 (p : Nat) : fl (aP ab0 p) = [] := fl_nl
/-- the reference as it is made: all numbers 0, but steps, which is -1 -/
theorem RM_ab0 {σ : Sg} (h7 : ∀ p, p < 20 → σ.1 7 p = 0) (h20 : σ.1 0 20 = 0) (h24 : σ.1 0 24 = 0) (h27 : σ.1 0 27 = 0) (h18 : ∀ m, m < 8 → σ.1 18 m = 0) (h31 : σ.1 0 31 = 0) (h35 : σ.1 0 35 = -1) (h12 : ∀ i, i < 16 → σ.2.1 12 i = 0) : RM ab0 σ := by
  refine ⟨fun p hp => ?_, ⟨?_, ?_, ?_, fun i hi => ?_⟩, ⟨?_, fun m hm => ⟨?_, fun i hi => ?_⟩⟩, ⟨?_, fun i e he => ?_⟩, h35, Or.inr h12⟩
  · rw [fl_ab0]
    exact ⟨by simp, h7 p hp, Rw.nil⟩
  · exact h20
  · exact h24
  · exact Rw.nil
  · exact absurd hi (by show ¬ i < ([] : List Tr).length; simp)
  · exact h27
  · exact h18 m hm
  · exact absurd hi (by show ¬ i < 0; omega)
  · show σ.1 0 31 = nI (tsz nl)
    rw [tsz_nl]
    exact h31
  · have he' : (fl nl)[i]? = some e := he
    rw [fl_nl] at he'
    simp at he'
theorem TrR_nil {σ : Sg} {t : Nat} (h : YC.2.1 t = 4) (h3 : σ.1 t 3 = 0) : TrR σ t [] := ⟨h, wr_nil, by simp, h3, Ro.nil⟩
theorem yc_m : ∀ m, m < 8 → YC.2.1 (133 + 3 * m) = 2 := by decide +kernel
theorem yc_t : YC.2.1 9 = 4 ∧ YC.2.1 49 = 4 := by decide +kernel
/-- the class as it is made: no tree has a node but the 0, the counts are there -/
theorem RC_ab0 {σ : Sg} (hp : ∀ p, p < 20 → σ.1 (53 + 4 * p) 3 = 0) (h9 : σ.1 9 3 = 0) (h8 : σ.1 8 2 = 0) (h10 : σ.1 0 10 = 0) (hm : ∀ m, m < 8 → σ.1 (133 + 3 * m) 2 = 0) (h41 : σ.1 41 3 = 0) (h11 : σ.1 0 11 = -1) (hg : GrR σ) (h49 : TrR σ 49 [(0, 0, 1)]) (ho : OrW σ) : RC ab0 σ := by
  refine ⟨fun p hp' => ?_, ⟨TrR_nil yc_t.1 h9, h8, fun i hi => ?_⟩, ⟨h10, fun m hm' => ⟨yc_m m hm', ?_, hm m hm', fun i hi => ?_⟩⟩, ?_, h11, hg, ?_, ho⟩
  · rw [fl_ab0]
    exact TrR_nil (ycT p hp') (hp p hp')
  · exact absurd hi (by show ¬ i < ([] : List Tr).length; simp)
  · show 0 ≤ 10
    omega
  · exact absurd hi (by show ¬ i < 0; omega)
  · show TrR σ 41 (fl nl)
    rw [fl_nl]
    exact TrR_nil yc27.2.2.2.1 h41
  · rw [fl_nm]
    exact h49
