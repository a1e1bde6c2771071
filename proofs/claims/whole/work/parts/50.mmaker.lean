/-! the reference: makers and turns by their numbers -/
theorem in_below {x : Int32} (n : Nat) {σ : Sg} {Q : Int32 → Sg → Prop} (hn : n < 1000) (h1 : ∀ p, p < n → x = nI p → Q 1 σ) (h0 : (∀ p, p < n → x ≠ nI p) → Q 0 σ) : wX8_in (Int32.toInt64 x) 0 (Int32.toInt64 (nI n - 1)) σ Q := by
  have e2 : (nI n - 1).toInt = (n : Int) - 1 := pk_sub_toInt (a := n) (b := 1) (by omega) (by omega)
  have e1 : (0 : Int64).toInt = 0 := by decide
  refine in_gen (fun a b => ?_) (fun a => ?_)
  · rw [Int64.le_iff_toInt_le, Int32.toInt_toInt64, e1] at a
    rw [Int64.le_iff_toInt_le, Int32.toInt_toInt64, Int32.toInt_toInt64, e2] at b
    refine h1 x.toInt.toNat (by omega) ?_
    rw [← Int32.toInt_inj, nI_toInt (by omega)]
    omega
  · refine h0 (fun p p1 q => a ⟨?_, ?_⟩)
    · rw [Int64.le_iff_toInt_le, Int32.toInt_toInt64, e1, q, nI_toInt (by omega)]; omega
    · rw [Int64.le_iff_toInt_le, Int32.toInt_toInt64, Int32.toInt_toInt64, e2, q, nI_toInt (by omega)]; omega
theorem isMaker_sp {x : Int32} {mk : Nat} {σ : Sg} {Q : Int32 → Sg → Prop} (hm : mk ≤ 8) (h27 : σ.1 0 27 = nI mk) (h1 : ∀ m, m < mk → x = nI m → Q 1 σ) (h0 : (∀ m, m < mk → x ≠ nI m) → Q 0 σ) : wX8_isMaker x σ Q := by
  unfold wX8_isMaker
  rw [h27]
  exact in_below mk (by omega) (fun p hp e => ⟨by decide, h1 p hp e⟩) (fun q => ⟨by decide, h0 q⟩)
theorem isTurn_sp {x y : Int32} {mk : Nat} {tu : Nat → Nat} {σ : Sg} {Q : Int32 → Sg → Prop} (hm : mk ≤ 8) (h27 : σ.1 0 27 = nI mk) (h18 : ∀ m, m < 8 → σ.1 18 m = nI (tu m) ∧ tu m ≤ 10) (h1 : ∀ m i, m < mk → i < tu m → x = nI m → y = nI i → Q 1 σ) (h0 : (∀ m i, m < mk → i < tu m → x = nI m → y ≠ nI i) → Q 0 σ) : wX8_isTurn x y σ Q := by
  unfold wX8_isTurn
  refine isMaker_sp hm h27 (fun m hmk e => ?_) (fun q => ?_)
  · subst e
    rw [if_neg (by decide)]
    obtain ⟨a, b⟩ := h18 m (by omega)
    refine ⟨vp_in_nI (by omega) (by omega), ?_⟩
    rw [ncl (by omega), a]
    refine in_below (tu m) (by omega) (fun p hp e => ?_) (fun q => ?_)
    · rw [if_neg (by decide)]
      exact h1 m p hmk hp rfl e
    · rw [if_pos (by decide)]
      refine h0 (fun m2 i hm2 hi e1 e2 => ?_)
      have : m = m2 := (nI_eq (by omega) (by omega)).mp e1
      subst this
      exact q i hi e2
  · rw [if_pos (by decide)]
    exact h0 (fun m i hmk hi e1 e2 => q m hmk e1)
