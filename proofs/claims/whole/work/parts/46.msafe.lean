/-! the reference: a program out of its place; values within k -/
theorem treeOf_sp {p d : Nat} {t : Tr} {σ : Sg} {Q : Int32 → Sg → Prop} (hp : p < 20) (ht : wf t) (hs : tsz t ≤ 60) (hd : 60 ≤ d) (hpl : plR σ p (fl t)) (hQ : ∀ n τ, n < tsz t → Fm [1, 2, 3, 4, 5, 6, 10, 11] [1, 17, 18] σ τ → τ.1 0 1 = nI (tsz t) → rx τ t (nI n) (tsz t) → Q (nI n) τ) : wX8_treeOf d (nI p) σ Q := by
  unfold wX8_treeOf
  refine take_sp hp hpl (fun τ q1 q2 => ?_)
  refine tree_sp ht (by omega) (by omega) q2.2 (fun n ρ n1 n2 n3 n4 => hQ n ρ n1 ?_ n3 n4)
  exact (q1.wk (by simp) (by simp)).tr (n2.wk (by simp) (by simp))
/-- the values from -k on -/
def vI (k i : Nat) : Int32 := nI i - nI k
theorem vI_0 (k : Nat) : vI k 0 = -nI k := by
  unfold vI
  rw [nI_0, Int32.zero_sub]
theorem vI_1 (k i : Nat) : vI k i + 1 = vI k (i + 1) := by
  unfold vI
  rw [← nI_1 i]
  grind
theorem vI_gt {k i : Nat} (hk : k ≤ 6) (hi : i ≤ 100) : (nI k < vI k i) = (2 * k < i) := by
  rw [Int32.lt_iff_toInt_lt, nI_toInt (by omega), vI, pk_sub_toInt (by omega) (by omega)]
  apply propext
  omega
theorem safe_in {d k i N : Nat} {t : Tr} {c : Int32} {K3 : Int32 → Int32 → Int32 → Sg → Prop} {Q : Int32 → Sg → Prop} (ht : wf t) (hd : tsz t ≤ d) (hN : N ≤ 9000) (hk : k ≤ 6) (hi : i ≤ 2 * k) :
    ∀ (m j : Nat) (σ : Sg), j + m = 2 * k + 1 → rx σ t c N → (∀ j', j' < j → (ev (vI k i) (vI k j') t).1 ≠ none) → ((∀ j', j' ≤ 2 * k → (ev (vI k i) (vI k j') t).1 ≠ none) → ∀ τ, Fm [] [8, 9] σ τ → K3 c (nI k) (vI k (i + 1)) τ) → (∀ j', j' ≤ 2 * k → (ev (vI k i) (vI k j') t).1 = none → ∀ τ, Fm [] [8, 9] σ τ → Q 0 τ) →
    wX8_isSafe_12 d K3 Q (m + 1) c (nI k) (vI k i) (vI k j) σ := by
  intro m
  induction m with
  | zero =>
    intro j σ hj hr hp hK hQ
    show wX8_isSafe_12_b d K3 (wX8_isSafe_12 d K3 Q 0) c (nI k) (vI k i) (vI k j) σ Q
    unfold wX8_isSafe_12_b
    rw [if_pos (by rw [vI_gt hk (by omega)]; omega)]
    refine lt_i (fun x ex => ?_)
    rw [ex, vI_1]
    exact hK (fun j' h => hp j' (by omega)) σ Fm.rf
  | succ m ih =>
    intro j σ hj hr hp hK hQ
    show wX8_isSafe_12_b d K3 (wX8_isSafe_12 d K3 Q (m + 1)) c (nI k) (vI k i) (vI k j) σ Q
    unfold wX8_isSafe_12_b
    rw [if_neg (by rw [vI_gt hk (by omega)]; omega)]
    refine value_sp ht hd hN hr (fun r τ f1 f2 f3 f4 => ?_)
    cases hv : (ev (vI k i) (vI k j) t).1 with
    | none =>
      rw [if_neg (by rw [f3 hv]; decide)]
      exact hQ j (by omega) hv τ f1
    | some v =>
      rw [if_pos (f4 v hv).1]
      refine lt_i (fun x ex => ?_)
      rw [ex, vI_1]
      refine ih (j + 1) τ (by omega) (rx_fm ht hr f1) (fun j' h => ?_) (fun q ρ g => hK q ρ (f1.tr g)) (fun j' q1 q2 ρ g => hQ j' q1 q2 ρ (f1.tr g))
      by_cases e : j' = j
      · rw [e, hv]; simp
      · exact hp j' (by omega)
theorem safe_out {d k N : Nat} {t : Tr} {c : Int32} {Q : Int32 → Sg → Prop} (ht : wf t) (hd : tsz t ≤ d) (hN : N ≤ 9000) (hk : k ≤ 6) :
    ∀ (m i : Nat) (σ : Sg), i + m = 2 * k + 1 → rx σ t c N → (∀ i' j', i' < i → j' ≤ 2 * k → (ev (vI k i') (vI k j') t).1 ≠ none) → ((∀ i' j', i' ≤ 2 * k → j' ≤ 2 * k → (ev (vI k i') (vI k j') t).1 ≠ none) → ∀ τ, Fm [] [8, 9] σ τ → Q 1 τ) → (∀ i' j', i' ≤ 2 * k → j' ≤ 2 * k → (ev (vI k i') (vI k j') t).1 = none → ∀ τ, Fm [] [8, 9] σ τ → Q 0 τ) →
    wX8_isSafe_3 d Q (m + 1) c (nI k) (vI k i) σ := by
  intro m
  induction m with
  | zero =>
    intro i σ hi hr hp h1 h0
    show wX8_isSafe_3_b d (wX8_isSafe_3 d Q 0) c (nI k) (vI k i) σ Q
    unfold wX8_isSafe_3_b
    rw [if_pos (by rw [vI_gt hk (by omega)]; omega)]
    exact h1 (fun i' j' a b => hp i' j' (by omega) b) σ Fm.rf
  | succ m ih =>
    intro i σ hi hr hp h1 h0
    show wX8_isSafe_3_b d (wX8_isSafe_3 d Q (m + 1)) c (nI k) (vI k i) σ Q
    unfold wX8_isSafe_3_b
    rw [if_neg (by rw [vI_gt hk (by omega)]; omega)]
    refine lt_i (fun x ex => ⟨2 * k + 1 + 1, ?_⟩)
    rw [ex, ← vI_0 k]
    refine safe_in ht hd hN hk (by omega) (2 * k + 1) 0 σ (by omega) hr (fun j' h => by omega) (fun q τ f => ?_) (fun j' q1 q2 τ f => h0 i j' (by omega) q1 q2 τ f)
    refine ih (i + 1) τ (by omega) (rx_fm ht hr f) (fun i' j' a b => ?_) (fun q2 ρ g => h1 q2 ρ (f.tr g)) (fun i' j' a b q2 ρ g => h0 i' j' a b q2 ρ (f.tr g))
    by_cases e : i' = i
    · rw [e]; exact q j' b
    · exact hp i' j' (by omega) b
theorem isSafe_sp {d k N : Nat} {t : Tr} {c : Int32} {σ : Sg} {Q : Int32 → Sg → Prop} (ht : wf t) (hd : tsz t ≤ d) (hN : N ≤ 9000) (hk : k ≤ 6) (hr : rx σ t c N)
    (h1 : (∀ i j, i ≤ 2 * k → j ≤ 2 * k → (ev (vI k i) (vI k j) t).1 ≠ none) → ∀ τ, Fm [] [8, 9] σ τ → Q 1 τ) (h0 : ∀ i j, i ≤ 2 * k → j ≤ 2 * k → (ev (vI k i) (vI k j) t).1 = none → ∀ τ, Fm [] [8, 9] σ τ → Q 0 τ) : wX8_isSafe d c (nI k) σ Q := by
  unfold wX8_isSafe
  refine lt_i (fun x ex => ⟨2 * k + 1 + 1, ?_⟩)
  rw [ex, ← vI_0 k]
  exact safe_out ht hd hN hk (2 * k + 1) 0 σ (by omega) hr (fun i' j' a b => by omega) h1 h0
