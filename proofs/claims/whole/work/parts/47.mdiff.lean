/-! the reference: differences -/
/-- not the same value -/
def ot (t u : Tr) (k i j : Nat) : Bool := decide ((ev (vI k i) (vI k j) u).1 ≠ (ev (vI k i) (vI k j) t).1)
theorem isOther_sp {d N : Nat} {t u : Tr} {c1 c2 a b v : Int32} {σ : Sg} {Q : Int32 → Sg → Prop} (ht : wf t) (hu : wf u) (h1 : tsz t ≤ d) (h2 : tsz u ≤ d) (hN : N ≤ 9000) (r1 : rx σ t c1 N) (r2 : rx σ u c2 N) (hv : (ev a b t).1 = some v)
    (hQ : ∀ τ, Fm [] [8, 9] σ τ → Q (if (ev a b u).1 ≠ (ev a b t).1 then 1 else 0) τ) : wX8_isOther d c1 c2 a b σ Q := by
  unfold wX8_isOther wX8_isOther_34
  refine value_sp ht h1 hN r1 (fun r τ f1 f2 f3 f4 => ?_)
  refine value_sp hu h2 hN (rx_fm hu r2 f1) (fun r2 ρ g1 g2 g3 g4 => ?_)
  obtain ⟨f5, rfl⟩ := f4 v hv
  have hQ := hQ ρ (f1.tr g1)
  rw [hv] at hQ
  cases hw : (ev a b u).1 with
  | none =>
    rw [if_neg (by rw [g3 hw]; decide)]
    rw [hw, if_pos (fun z => nomatch z)] at hQ
    exact hQ
  | some w =>
    obtain ⟨g5, rfl⟩ := g4 w hw
    rw [if_pos g5]
    rw [hw] at hQ
    by_cases e : r = r2
    · rw [if_pos e]
      rw [if_neg (fun z => z (by rw [e]))] at hQ
      exact hQ
    · rw [if_neg e]
      rw [if_pos (fun z => e (Option.some.inj z).symm)] at hQ
      exact hQ
def fi (k i j : Nat) : Int32 := 100 * (vI k i + 6) + vI k j + 6
section
variable {d k N : Nat} {t u : Tr} {c1 c2 : Int32} {Q : Int32 → Sg → Prop}
theorem first_in {i : Nat} {K : Int32 → Int32 → Int32 → Int32 → Sg → Prop} (ht : wf t) (hu : wf u) (h1 : tsz t ≤ d) (h2 : tsz u ≤ d) (hN : N ≤ 9000) (hk : k ≤ 6) (hs : ∀ i j, i ≤ 2 * k → j ≤ 2 * k → (ev (vI k i) (vI k j) t).1 ≠ none) (hi : i ≤ 2 * k) :
    ∀ (m j : Nat) (σ : Sg), j + m = 2 * k + 1 → rx σ t c1 N → rx σ u c2 N → (∀ j', j' < j → ot t u k i j' = false) → ((∀ j', j' ≤ 2 * k → ot t u k i j' = false) → ∀ τ, Fm [] [8, 9] σ τ → K c1 (nI k) c2 (vI k (i + 1)) τ) → (∀ j, j ≤ 2 * k → ot t u k i j = true → (∀ j', j' < j → ot t u k i j' = false) → ∀ τ, Fm [] [8, 9] σ τ → Q (fi k i j) τ) →
    wX8_firstOf_28 d K Q (m + 1) c1 (nI k) c2 (vI k i) (vI k j) σ := by
  intro m
  induction m with
  | zero =>
    intro j σ hj r1 r2 hp hK hQ
    show wX8_firstOf_28_b d K (wX8_firstOf_28 d K Q 0) c1 (nI k) c2 (vI k i) (vI k j) σ Q
    unfold wX8_firstOf_28_b
    rw [if_pos (by rw [vI_gt hk (by omega)]; omega)]
    refine lt_i (fun x ex => ?_)
    rw [ex, vI_1]
    exact hK (fun j' h => hp j' (by omega)) σ Fm.rf
  | succ m ih =>
    intro j σ hj r1 r2 hp hK hQ
    show wX8_firstOf_28_b d K (wX8_firstOf_28 d K Q (m + 1)) c1 (nI k) c2 (vI k i) (vI k j) σ Q
    unfold wX8_firstOf_28_b
    rw [if_neg (by rw [vI_gt hk (by omega)]; omega)]
    obtain ⟨v, hv⟩ := Option.ne_none_iff_exists'.mp (hs i j hi (by omega))
    refine isOther_sp ht hu h1 h2 hN r1 r2 hv (fun τ f => ?_)
    by_cases q : (ev (vI k i) (vI k j) u).1 ≠ (ev (vI k i) (vI k j) t).1
    · rw [if_pos q, if_neg (by decide)]
      exact hQ j (by omega) (by simp [ot, q]) hp τ f
    · rw [if_neg q, if_pos (by decide)]
      refine lt_i (fun x ex => ?_)
      rw [ex, vI_1]
      refine ih (j + 1) τ (by omega) (rx_fm ht r1 f) (rx_fm hu r2 f) (fun j' h => ?_) (fun z ρ g => hK z ρ (f.tr g)) (fun j0 a b c ρ g => hQ j0 a b c ρ (f.tr g))
      by_cases e : j' = j
      · rw [e]; simp [ot]; simpa using q
      · exact hp j' (by omega)
theorem first_out (ht : wf t) (hu : wf u) (h1 : tsz t ≤ d) (h2 : tsz u ≤ d) (hN : N ≤ 9000) (hk : k ≤ 6) (hs : ∀ i j, i ≤ 2 * k → j ≤ 2 * k → (ev (vI k i) (vI k j) t).1 ≠ none) :
    ∀ (m i : Nat) (σ : Sg), i + m = 2 * k + 1 → rx σ t c1 N → rx σ u c2 N → (∀ i' j', i' < i → j' ≤ 2 * k → ot t u k i' j' = false) → ((∀ i' j', i' ≤ 2 * k → j' ≤ 2 * k → ot t u k i' j' = false) → ∀ τ, Fm [] [8, 9] σ τ → Q (-5) τ) → (∀ i j, i ≤ 2 * k → j ≤ 2 * k → ot t u k i j = true → (∀ i' j', i' < i → j' ≤ 2 * k → ot t u k i' j' = false) → (∀ j', j' < j → ot t u k i j' = false) → ∀ τ, Fm [] [8, 9] σ τ → Q (fi k i j) τ) →
    wX8_firstOf_18 d Q (m + 1) c1 (nI k) c2 (vI k i) σ := by
  intro m
  induction m with
  | zero =>
    intro i σ hi r1 r2 hp hn hQ
    show wX8_firstOf_18_b d (wX8_firstOf_18 d Q 0) c1 (nI k) c2 (vI k i) σ Q
    unfold wX8_firstOf_18_b
    rw [if_pos (by rw [vI_gt hk (by omega)]; omega)]
    exact hn (fun i' j' a b => hp i' j' (by omega) b) σ Fm.rf
  | succ m ih =>
    intro i σ hi r1 r2 hp hn hQ
    show wX8_firstOf_18_b d (wX8_firstOf_18 d Q (m + 1)) c1 (nI k) c2 (vI k i) σ Q
    unfold wX8_firstOf_18_b
    rw [if_neg (by rw [vI_gt hk (by omega)]; omega)]
    refine lt_i (fun x ex => ⟨2 * k + 1 + 1, ?_⟩)
    rw [ex, ← vI_0 k]
    refine first_in ht hu h1 h2 hN hk hs (by omega) (2 * k + 1) 0 σ (by omega) r1 r2 (fun j' h => by omega) (fun q τ f => ?_) (fun j a b c τ f => hQ i j (by omega) a b hp c τ f)
    refine ih (i + 1) τ (by omega) (rx_fm ht r1 f) (rx_fm hu r2 f) (fun i' j' a b => ?_) (fun z ρ g => hn z ρ (f.tr g)) (fun i' j' a b c e1 e2 ρ g => hQ i' j' a b c e1 e2 ρ (f.tr g))
    by_cases e : i' = i
    · rw [e]; exact q j' b
    · exact hp i' j' (by omega) b
theorem firstOf_sp {m cnt0 n : Nat} {so fa : Nat → Nat} {σ : Sg} (hd : 200 ≤ d) (ht : wf t) (hsz : tsz t ≤ 200) (hm : mkR σ m cnt0 so fa) (h18 : σ.1 18 m = nI cnt0) (hN : N + 400 * cnt0 ≤ 9000) (hn : n < N) (htop : σ.1 0 1 = nI N) (hr : rx σ t (nI n) N) (hk : k ≤ 6) (hs : ∀ i j, i ≤ 2 * k → j ≤ 2 * k → (ev (vI k i) (vI k j) t).1 ≠ none)
    (hno : (∀ i j, i ≤ 2 * k → j ≤ 2 * k → ot t (md so fa cnt0 t) k i j = false) → ∀ τ, Fm [1, 2, 3, 4, 5, 6] [1, 8, 9, 10, 11] σ τ → Q (-5) τ)
    (hyes : ∀ i j, i ≤ 2 * k → j ≤ 2 * k → ot t (md so fa cnt0 t) k i j = true → (∀ i' j', i' < i → j' ≤ 2 * k → ot t (md so fa cnt0 t) k i' j' = false) → (∀ j', j' < j → ot t (md so fa cnt0 t) k i j' = false) → ∀ τ, Fm [1, 2, 3, 4, 5, 6] [1, 8, 9, 10, 11] σ τ → Q (fi k i j) τ) : wX8_firstOf d (nI n) (nI m) (nI k) σ Q := by
  obtain ⟨m1, m2, m3⟩ := id hm
  unfold wX8_firstOf
  refine ⟨vp_in_nI (by omega) (by omega), ?_⟩
  rw [ncl (by omega), h18]
  refine madeBy_sp hd ht hsz hm (Nat.le_refl _) hN hn htop hr (fun r τ M q1 q2 q3 q4 q5 q6 => ?_)
  obtain ⟨w1, w2⟩ := md_ok so fa ht hsz cnt0
  refine lt_i (fun x ex => ⟨2 * k + 1 + 1, ?_⟩)
  rw [ex, ← vI_0 k]
  have hf : ∀ ρ, Fm [] [8, 9] τ ρ → Fm [1, 2, 3, 4, 5, 6] [1, 8, 9, 10, 11] σ ρ := fun ρ g => (q3.wk (fun _ z => z) (by simp)).tr (g.wk (by simp) (by simp))
  exact first_out (N := M) ht w1 (by omega) (by omega) (by omega) hk hs (2 * k + 1) 0 τ (by omega) (rx_le ht (rx_ex t ht _ N N hr q4 (Nat.le_refl _)) (by omega)) q6 (fun i' j' a b => by omega) (fun z ρ g => hno z ρ (hf ρ g)) (fun i j a b c e1 e2 ρ g => hyes i j a b c e1 e2 ρ (hf ρ g))
theorem firesOf_sp {m cnt0 i n : Nat} {so fa : Nat → Nat} {σ : Sg} (hd : 200 ≤ d) (ht : wf t) (hsz : tsz t ≤ 200) (hm : mkR σ m cnt0 so fa) (hi : i < cnt0) (hN : N + 4000 ≤ 9000) (hn : n < N) (htop : σ.1 0 1 = nI N) (hr : rx σ t (nI n) N)
    (hQ : ∀ τ, Fm [1, 2, 3, 4, 5, 6] [1, 10, 11] σ τ → Q (nI (mf so fa i t)) τ) : wX8_firesOf d (nI n) (nI m) (nI i) σ Q := by
  obtain ⟨m1, m2, m3⟩ := id hm
  unfold wX8_firesOf
  refine madeBy_sp hd ht hsz hm (by omega) (by omega) hn htop hr (fun r τ M q1 q2 q3 q4 q5 q6 => ?_)
  obtain ⟨w1, w2⟩ := md_ok so fa ht hsz i
  obtain ⟨j, j1, rfl, -⟩ := kid w1 q6
  refine goOver_sp hd w1 w2 (hm.fm q3 (by simp) (by simp)) hi (by omega) j1 q5 q6 (fun r2 τ2 M2 p1 p2 p3 p4 p5 p6 p7 => ?_)
  rw [p6]
  exact hQ τ2 (q3.tr p3)
end
