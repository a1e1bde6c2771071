/-! the reference: how many differ -/
def cj (P : Nat → Nat → Bool) (i : Nat) : Nat → Nat
  | 0 => 0
  | n + 1 => cj P i n + (if P i n then 1 else 0)
def cI (P : Nat → Nat → Bool) (w : Nat) : Nat → Nat
  | 0 => 0
  | n + 1 => cI P w n + cj P n w
section
variable {d k N : Nat} {t u : Tr} {c1 c2 : Int32} {Q : Int32 → Sg → Prop}
theorem differ_in {i : Nat} {K : Int32 → Int32 → Int32 → Int32 → Int32 → Sg → Prop} (ht : wf t) (hu : wf u) (h1 : tsz t ≤ d) (h2 : tsz u ≤ d) (hN : N ≤ 9000) (hk : k ≤ 6) (hs : ∀ i j, i ≤ 2 * k → j ≤ 2 * k → (ev (vI k i) (vI k j) t).1 ≠ none) (hi : i ≤ 2 * k) :
    ∀ (m j c : Nat) (σ : Sg), j + m = 2 * k + 1 → rx σ t c1 N → rx σ u c2 N → (∀ τ, Fm [] [8, 9] σ τ → K (nI k) c1 c2 (nI (c + cj (ot t u k) i (2 * k + 1))) (vI k (i + 1)) τ) →
    wX8_differ_82 d K Q (m + 1) (nI k) c1 c2 (nI (c + cj (ot t u k) i j)) (vI k i) (vI k j) σ := by
  intro m
  induction m with
  | zero =>
    intro j c σ hj r1 r2 hK
    show wX8_differ_82_b d K (wX8_differ_82 d K Q 0) (nI k) c1 c2 _ (vI k i) (vI k j) σ Q
    unfold wX8_differ_82_b
    rw [if_pos (by rw [vI_gt hk (by omega)]; omega)]
    refine lt_i (fun x ex => ?_)
    rw [ex, vI_1, show j = 2 * k + 1 by omega]
    exact hK σ Fm.rf
  | succ m ih =>
    intro j c σ hj r1 r2 hK
    show wX8_differ_82_b d K (wX8_differ_82 d K Q (m + 1)) (nI k) c1 c2 _ (vI k i) (vI k j) σ Q
    unfold wX8_differ_82_b
    rw [if_neg (by rw [vI_gt hk (by omega)]; omega)]
    obtain ⟨v, hv⟩ := Option.ne_none_iff_exists'.mp (hs i j hi (by omega))
    refine isOther_sp ht hu h1 h2 hN r1 r2 hv (fun τ f => ?_)
    have go : ∀ b : Nat, b = (if ot t u k i j then 1 else 0) → wX8_differ_110 d K (wX8_differ_82 d K Q (m + 1)) (nI k) c1 c2 (vI k i) (vI k j) (nI (c + cj (ot t u k) i j)) (nI b) τ Q := by
      intro b hb
      unfold wX8_differ_110
      rw [nI_add]
      refine lt_i (fun x ex => lt_i (fun y ey => ?_))
      rw [ex, ey, vI_1]
      have := ih (j + 1) c τ (by omega) (rx_fm ht r1 f) (rx_fm hu r2 f) (fun ρ g => hK ρ (f.tr g))
      rw [cj, ← hb, ← Nat.add_assoc] at this
      exact this
    by_cases q : (ev (vI k i) (vI k j) u).1 ≠ (ev (vI k i) (vI k j) t).1
    · rw [if_pos q, if_neg (by decide)]
      exact go 1 (by simp [ot, q])
    · rw [if_neg q, if_pos (by decide)]
      exact go 0 (by have e : ot t u k i j = false := decide_eq_false q; rw [e]; rfl)
theorem differ_out (ht : wf t) (hu : wf u) (h1 : tsz t ≤ d) (h2 : tsz u ≤ d) (hN : N ≤ 9000) (hk : k ≤ 6) (hs : ∀ i j, i ≤ 2 * k → j ≤ 2 * k → (ev (vI k i) (vI k j) t).1 ≠ none) :
    ∀ (m i : Nat) (σ : Sg), i + m = 2 * k + 1 → rx σ t c1 N → rx σ u c2 N → (∀ τ, Fm [] [8, 9] σ τ → Q (nI (cI (ot t u k) (2 * k + 1) (2 * k + 1))) τ) →
    wX8_differ_72 d Q (m + 1) (nI k) c1 c2 (nI (cI (ot t u k) (2 * k + 1) i)) (vI k i) σ := by
  intro m
  induction m with
  | zero =>
    intro i σ hi r1 r2 hQ
    show wX8_differ_72_b d (wX8_differ_72 d Q 0) (nI k) c1 c2 _ (vI k i) σ Q
    unfold wX8_differ_72_b
    rw [if_pos (by rw [vI_gt hk (by omega)]; omega), show i = 2 * k + 1 by omega]
    exact hQ σ Fm.rf
  | succ m ih =>
    intro i σ hi r1 r2 hQ
    show wX8_differ_72_b d (wX8_differ_72 d Q (m + 1)) (nI k) c1 c2 _ (vI k i) σ Q
    unfold wX8_differ_72_b
    rw [if_neg (by rw [vI_gt hk (by omega)]; omega)]
    refine lt_i (fun x ex => ⟨2 * k + 1 + 1, ?_⟩)
    rw [ex, ← vI_0 k]
    have := differ_in (Q := Q) (K := wX8_differ_72 d Q (m + 1)) ht hu h1 h2 hN hk hs (i := i) (by omega) (2 * k + 1) 0 (cI (ot t u k) (2 * k + 1) i) σ (by omega) r1 r2 (fun τ f => by
      have := ih (i + 1) τ (by omega) (rx_fm ht r1 f) (rx_fm hu r2 f) (fun ρ g => hQ ρ (f.tr g))
      rw [cI] at this
      exact this)
    rw [cj, Nat.add_zero] at this
    exact this
end
