/-! the reference: count0() -/
def Fj (σ τ : Sg) : Prop := τ.1 = σ.1 ∧ τ.2.2 = σ.2.2 ∧ ∀ i, i ≠ 12 → τ.2.1 i = σ.2.1 i
theorem Fj.rf {σ : Sg} : Fj σ σ := ⟨rfl, rfl, fun _ _ => rfl⟩
theorem Fj.tr {a b c : Sg} (h : Fj a b) (g : Fj b c) : Fj a c := ⟨g.1.trans h.1, g.2.1.trans h.2.1, fun i hi => (g.2.2 i hi).trans (h.2.2 i hi)⟩
theorem Fj.put {a : Sg} (f : Nat → Int64) : Fj a (sJ a 12 f) := ⟨rfl, rfl, fun i hi => by rw [sJ_2, up_n _ _ _ _ hi]⟩
theorem cnt_sm : ∀ n, n < 14 → cnt (n + 2) = cnt (n + 1) + 4 * sm (fun s => cnt s * cnt (n + 1 - s)) n + sm (fun s => cnt s * prs (n + 1 - s)) (n - 1) := by decide +kernel
theorem c84_loop {n : Nat} {σ : Sg} {K : Int32 → Sg → Prop} {Q : Sg → Prop} (hn : n < 14) (hc : ∀ i, i < n + 2 → σ.2.1 12 i = lN (cnt i)) (hK : ∀ τ, Fj σ τ → (∀ i, i < n + 3 → τ.2.1 12 i = lN (cnt i)) → K (nI (n + 3)) τ) :
    ∀ (k s : Nat), s + k = n ∨ (k = 0 ∧ s = 1 ∧ n = 0) → 1 ≤ s → wX8_count0_84 K Q (k + 1) (nI (n + 2)) (lN (cnt (n + 1) + 4 * sm (fun s => cnt s * cnt (n + 1 - s)) n + sm (fun s => cnt s * prs (n + 1 - s)) (s - 1))) (nI s) σ := by
  intro k
  induction k with
  | zero =>
    intro s hs h1
    show wX8_count0_84_b K (wX8_count0_84 K Q 0) (nI (n + 2)) _ (nI s) σ Q
    unfold wX8_count0_84_b
    rw [show nI (n + 2) - 2 = nI (n + 2 - 2) from pk_sub (b := 2) (by omega), if_pos (nI_le (by omega) (by omega))]
    refine ⟨vp_in_nI (by omega) (by omega), ?_⟩
    rw [ncl (by omega)]
    refine lt_i (fun a ea => lt_i (fun x ex => ?_))
    have ex : x = nI (n + 3) := by rw [ex]; exact nI_1 (n + 2)
    rw [ex]
    have cs := cnt_sm n hn
    rw [show s - 1 = n - 1 by omega, ← cs] at ea
    refine hK a (by rw [ea]; exact Fj.put _) (fun i hi => ?_)
    rw [ea, sJ_2, up_s]
    by_cases q : i = n + 2
    · rw [q, pk_uLs]
    · rw [pk_uLn q]
      exact hc i (by omega)
  | succ k ih =>
    intro s hs h1
    have hs2 : s + (k + 1) = n := by omega
    show wX8_count0_84_b K (wX8_count0_84 K Q (k + 1)) (nI (n + 2)) _ (nI s) σ Q
    unfold wX8_count0_84_b
    rw [show nI (n + 2) - 2 = nI (n + 2 - 2) from pk_sub (b := 2) (by omega), if_neg (nI_ge (by omega) (by omega)), show nI (n + 2) - 1 = nI (n + 1) from nI_pred (n + 1), pk_sub (show s ≤ n + 1 by omega)]
    refine ⟨vp_in_nI (by omega) (by omega), ?_⟩
    refine pairs_spK (by omega) (by omega) (fun i hi => hc i (by omega)) ?_
    rw [ncl (by omega), hc s (by omega), lN_mul, lN_add]
    refine lt_i (fun a ea => lt_i (fun x ex => ?_))
    have ex : x = nI (s + 1) := by rw [ex]; exact nI_1 s
    rw [ex, ea]
    have := ih (s + 1) (by omega) (by omega)
    rw [show s + 1 - 1 = (s - 1) + 1 by omega, sm, show s - 1 + 1 = s by omega, ← Nat.add_assoc] at this
    exact this
theorem c41_loop {n : Nat} {σ : Sg} {K : Int32 → Sg → Prop} {Q : Sg → Prop} (hn : n < 14) (hc : ∀ i, i < n + 2 → σ.2.1 12 i = lN (cnt i)) (hK : ∀ τ, Fj σ τ → (∀ i, i < n + 3 → τ.2.1 12 i = lN (cnt i)) → K (nI (n + 3)) τ) :
    ∀ (k s : Nat), s + k = n + 1 → 1 ≤ s → wX8_count0_41 K Q (k + 1) (nI (n + 2)) (lN (cnt (n + 1) + 4 * sm (fun s => cnt s * cnt (n + 1 - s)) (s - 1))) (nI s) σ := by
  intro k
  induction k with
  | zero =>
    intro s hs h1
    have : s = n + 1 := by omega
    subst this
    show wX8_count0_41_b K (wX8_count0_41 K Q 0) (nI (n + 2)) _ (nI (n + 1)) σ Q
    unfold wX8_count0_41_b
    rw [show nI (n + 2) - 1 = nI (n + 1) from nI_pred (n + 1), if_pos (Int32.le_refl _), Nat.add_sub_cancel]
    have := c84_loop (Q := Q) hn hc hK (n - 1) 1 (by omega) (by omega)
    rw [Nat.sub_self, sm, Nat.add_zero] at this
    exact ⟨n - 1 + 1, this⟩
  | succ k ih =>
    intro s hs h1
    show wX8_count0_41_b K (wX8_count0_41 K Q (k + 1)) (nI (n + 2)) _ (nI s) σ Q
    unfold wX8_count0_41_b
    rw [show nI (n + 2) - 1 = nI (n + 1) from nI_pred (n + 1), if_neg (nI_ge (by omega) (by omega)), pk_sub (show s ≤ n + 1 by omega)]
    refine ⟨vp_in_nI (by omega) (by omega), vp_in_nI (by omega) (by omega), ?_⟩
    rw [ncl (by omega), ncl (by omega), hc s (by omega), hc (n + 1 - s) (by omega), show (4 : Int64) = lN 4 from rfl, lN_mul, lN_mul, lN_add]
    refine lt_i (fun a ea => lt_i (fun x ex => ?_))
    have ex : x = nI (s + 1) := by rw [ex]; exact nI_1 s
    rw [ex, ea]
    have := ih (s + 1) (by omega) (by omega)
    rw [show s + 1 - 1 = (s - 1) + 1 by omega, sm, show s - 1 + 1 = s by omega, Nat.mul_add, ← Nat.add_assoc, ← Nat.mul_assoc] at this
    exact this
theorem c23_loop {Q : Sg → Prop} : ∀ (k n : Nat) (σ : Sg), n + k = 16 → 2 ≤ n → (∀ i, i < n → σ.2.1 12 i = lN (cnt i)) → (∀ τ, Fj σ τ → cnR τ → Q τ) → wX8_count0_23 Q (k + 1) (nI n) σ := by
  intro k
  induction k with
  | zero =>
    intro n σ hn h2 hc hQ
    have : n = 16 := by omega
    subst this
    show wX8_count0_23_b (wX8_count0_23 Q 0) (nI 16) σ Q
    unfold wX8_count0_23_b
    rw [if_pos (by decide)]
    exact hQ σ Fj.rf hc
  | succ k ih =>
    intro n σ hn h2 hc hQ
    obtain ⟨m, rfl⟩ : ∃ m, n = m + 2 := ⟨n - 2, by omega⟩
    show wX8_count0_23_b (wX8_count0_23 Q (k + 1)) (nI (m + 2)) σ Q
    unfold wX8_count0_23_b
    rw [if_neg (show ¬ (15 : Int32) < nI (m + 2) from nI_nlt (a := 15) (by omega) (by omega)), show nI (m + 2) - 1 = nI (m + 1) from nI_pred (m + 1)]
    refine ⟨vp_in_nI (by omega) (by omega), ?_⟩
    rw [ncl (by omega), hc (m + 1) (by omega)]
    refine lt_i (fun a ea => ⟨m + 1, ?_⟩)
    have := c41_loop (Q := Q) (K := wX8_count0_23 Q (k + 1)) (n := m) (σ := σ) (by omega) hc (fun τ q1 q2 => ih (m + 3) τ (by omega) (by omega) q2 (fun τ2 q3 q4 => hQ τ2 (q1.tr q3) q4)) m 1 (by omega) (by omega)
    rw [Nat.sub_self, sm, Nat.mul_zero, Nat.add_zero] at this
    rw [ea]
    exact this
/-- the counts are there, or not yet -/
def cn0 (σ : Sg) : Prop := cnR σ ∨ ∀ i, i < 16 → σ.2.1 12 i = 0
theorem count0_sp {σ : Sg} {Q : Sg → Prop} (h : cn0 σ) (hQ : ∀ τ, Fj σ τ → cnR τ → Q τ) : wX8_count0 σ Q := by
  unfold wX8_count0
  refine ⟨vp_in_nI (n := 1) (by omega) (by omega), ?_⟩
  rw [show (1 : Int32).toNatClampNeg = 1 from ncl (n := 1) (by omega)]
  rcases h with h | h
  · rw [h 1 (by omega), if_neg (by decide +kernel)]
    exact hQ σ Fj.rf h
  · rw [h 1 (by omega), if_pos (by decide)]
    refine lt_i (fun a ea => ⟨15, ?_⟩)
    refine c23_loop 14 2 a (by omega) (by omega) (fun i hi => ?_) (fun τ q1 q2 => hQ τ (Fj.tr (by rw [ea]; exact Fj.put _) q1) q2)
    rw [ea, sJ_2, up_s]
    rcases (show i = 0 ∨ i = 1 by omega) with rfl | rfl
    · rw [pk_uLn (by decide), h 0 (by omega)]
      decide +kernel
    · rw [pk_uLs]
      decide +kernel
