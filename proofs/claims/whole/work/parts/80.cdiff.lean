/-! the class's calls: safe, differ, first, and whether a fault is shown -/
section
variable {A : Ab} {T : Tr} {U : Option Tr} {σ : Sg} {Q : Int32 → Sg → Prop} {k : Nat}
/-- the codes of a program and of what was made of it -/
def St (A : Ab) (T : Tr) (U : Option Tr) (σ : Sg) : Prop := RC A σ ∧ CoR σ 27 (co T 0) ∧ ∀ u, U = some u → CoR σ 34 (co u 0)
theorem run_27 {a b : Int32} (hT : wf T) (hs : tsz T ≤ 200) (h : St A T U σ) (hy : ∀ v, (ev a b T).1 = some v → ∀ τ, St A T U τ → τ.1 27 10 = v → Q 1 τ) (hn : (ev a b T).1 = none → ∀ τ, St A T U τ → Q 0 τ) : wX0_run 27 a b σ Q := by
  obtain ⟨h1, h2, h3⟩ := h
  have st : ∀ τ, Rf 27 σ τ → St A T U τ := fun τ f => ⟨h1.s2 (rf_gm f) (fun i e => by unfold Sc; omega) (by omega), Rf.co h2 f, fun u e => (h3 u e).gm (rf_gm f) (fun i x y => by omega)⟩
  exact run_sp hT hs h2 (fun v hv τ f e10 _ => hy v hv τ (st τ f) e10) (fun hv τ f _ => hn hv τ (st τ f))
theorem run_34 {a b : Int32} {u : Tr} (hU : wf u) (hs : tsz u ≤ 200) (h : St A T (some u) σ) (hy : ∀ v, (ev a b u).1 = some v → ∀ τ, St A T (some u) τ → τ.1 34 10 = v → τ.1 27 10 = σ.1 27 10 → Q 1 τ) (hn : (ev a b u).1 = none → ∀ τ, St A T (some u) τ → Q 0 τ) : wX0_run 34 a b σ Q := by
  obtain ⟨h1, h2, h3⟩ := h
  have h3 := h3 u rfl
  have st : ∀ τ, Rf 34 σ τ → St A T (some u) τ := fun τ f => ⟨h1.s2 (rf_gm f) (fun i e => by unfold Sc; omega) (by omega), h2.gm (rf_gm f) (fun i x y => by omega), fun u' e => by
    have := Option.some.inj e
    rw [← this]
    exact Rf.co h3 f⟩
  exact run_sp hU hs h3 (fun v hv τ f e10 _ => hy v hv τ (st τ f) e10 (by rw [f.1 27 (by omega) (by omega)])) (fun hv τ f _ => hn hv τ (st τ f))
theorem nf_in {i LA LB : Nat} {K : Nat → Int32 → Int32 → Int32 → Int32 → Sg → Prop} (hT : wf T) (hs : tsz T ≤ 200) (hk : k ≤ 6) (hLB : LB ≤ 12) :
    ∀ (m j : Nat) (σ : Sg), j + m = LB + 1 → St A T U σ → (∀ j', j' < j → (ev (vI k i) (vI k j') T).1 ≠ none) → ((∀ j', j' ≤ LB → (ev (vI k i) (vI k j') T).1 ≠ none) → ∀ τ, St A T U τ → K 27 (nI k) (vI k LA) (vI k LB) (vI k (i + 1)) τ) → (∀ j', j' ≤ LB → (ev (vI k i) (vI k j') T).1 = none → ∀ τ, St A T U τ → Q 0 τ) →
    wX0_isNeverFree_49 K Q (m + 1) 27 (nI k) (vI k LA) (vI k LB) (vI k i) (vI k j) σ := by
  intro m
  induction m with
  | zero =>
    intro j σ hj h hp hK hQ
    show wX0_isNeverFree_49_b K (wX0_isNeverFree_49 K Q 0) 27 (nI k) (vI k LA) (vI k LB) (vI k i) (vI k j) σ Q
    unfold wX0_isNeverFree_49_b
    rw [if_pos (by rw [vI_lt hk (by omega) (by omega)]; omega)]
    refine lt_i (fun x ex => ?_)
    rw [ex, vI_1]
    exact hK (fun j' h' => hp j' (by omega)) σ h
  | succ m ih =>
    intro j σ hj h hp hK hQ
    show wX0_isNeverFree_49_b K (wX0_isNeverFree_49 K Q (m + 1)) 27 (nI k) (vI k LA) (vI k LB) (vI k i) (vI k j) σ Q
    unfold wX0_isNeverFree_49_b
    rw [if_neg (by rw [vI_lt hk (by omega) (by omega)]; omega)]
    refine ⟨yc27.1, run_27 hT hs h (fun v hv τ hτ _ => ?_) (fun hv τ hτ => ?_)⟩
    · rw [if_neg (by decide)]
      refine lt_i (fun x ex => ?_)
      rw [ex, vI_1]
      refine ih (j + 1) τ (by omega) hτ (fun j' h' => ?_) hK hQ
      by_cases e : j' = j
      · rw [e, hv]; simp
      · exact hp j' (by omega)
    · rw [if_pos rfl]
      exact hQ j (by omega) hv τ hτ
theorem nf_out {LA LB : Nat} (hT : wf T) (hs : tsz T ≤ 200) (hk : k ≤ 6) (hLA : LA ≤ 12) (hLB : LB ≤ 12) (h7 : oc 7 T = true) :
    ∀ (m i : Nat) (σ : Sg), i + m = LA + 1 → St A T U σ → (∀ i' j', i' < i → j' ≤ LB → (ev (vI k i') (vI k j') T).1 ≠ none) → ((∀ i' j', i' ≤ LA → j' ≤ LB → (ev (vI k i') (vI k j') T).1 ≠ none) → ∀ τ, St A T U τ → Q 1 τ) → (∀ i' j', i' ≤ LA → j' ≤ LB → (ev (vI k i') (vI k j') T).1 = none → ∀ τ, St A T U τ → Q 0 τ) →
    wX0_isNeverFree_32 Q (m + 1) 27 (nI k) (vI k LA) (vI k LB) (vI k i) σ := by
  intro m
  induction m with
  | zero =>
    intro i σ hi h hp h1 h0
    show wX0_isNeverFree_32_b (wX0_isNeverFree_32 Q 0) 27 (nI k) (vI k LA) (vI k LB) (vI k i) σ Q
    unfold wX0_isNeverFree_32_b
    refine ⟨yc27.1, ?_⟩
    have fin := h1 (fun i' j' a b => hp i' j' (by omega) b) σ h
    rw [if_pos (show vI k LA < vI k i by rw [vI_lt hk (by omega) (by omega)]; omega)]
    split <;> exact fin
  | succ m ih =>
    intro i σ hi h hp h1 h0
    show wX0_isNeverFree_32_b (wX0_isNeverFree_32 Q (m + 1)) 27 (nI k) (vI k LA) (vI k LB) (vI k i) σ Q
    unfold wX0_isNeverFree_32_b
    have d : σ.1 27 5 = 1 := by
      rw [h.2.1.2.2.2.2.2.2, hO_co (by omega) (by omega) T hT, h7]
      rfl
    rw [d, if_neg (by decide), if_neg (by rw [vI_lt hk (by omega) (by omega)]; omega)]
    refine ⟨yc27.1, lt_i (fun x ex => ⟨LB + 1 + 1, ?_⟩)⟩
    rw [ex, ← vI_0 k]
    refine nf_in hT hs hk hLB (LB + 1) 0 σ (by omega) h (fun j' h' => by omega) (fun q τ hτ => ?_) (fun j' q1 q2 τ hτ => h0 i j' (by omega) q1 q2 τ hτ)
    refine ih (i + 1) τ (by omega) hτ (fun i' j' a b => ?_) h1 h0
    by_cases e : i' = i
    · rw [e]; exact q j' b
    · exact hp i' j' (by omega) b
theorem lastA (hT : wf T) (h : CoR σ 27 (co T 0)) {S1 S2 : Prop} (h1 : oc 1 T = false → S1) (h2 : oc 1 T = true → S2) : if σ.1 27 3 = 0 then S1 else S2 := by
  rw [h.2.2.2.2.1, hO_co (by omega) (by omega) T hT]
  cases e : oc 1 T with
  | true => rw [if_neg (by decide)]; exact h2 e
  | false => rw [if_pos (by decide)]; exact h1 e
theorem lastB (hT : wf T) (h : CoR σ 27 (co T 0)) {S1 S2 : Prop} (h1 : oc 2 T = false → S1) (h2 : oc 2 T = true → S2) : if σ.1 27 4 = 0 then S1 else S2 := by
  rw [h.2.2.2.2.2.1, hO_co (by omega) (by omega) T hT]
  cases e : oc 2 T with
  | true => rw [if_neg (by decide)]; exact h2 e
  | false => rw [if_pos (by decide)]; exact h1 e
theorem gA_t {t : Tr} (e : oc 1 t = true) : vI k (gA k t) = nI k := by unfold gA; rw [if_pos e, vI_2]
theorem gA_f {t : Tr} (e : oc 1 t = false) : vI k (gA k t) = -nI k := by unfold gA; rw [e, if_neg (by decide), vI_0]
theorem gB_t {t : Tr} (e : oc 2 t = true) : vI k (gB k t) = nI k := by unfold gB; rw [if_pos e, vI_2]
theorem gB_f {t : Tr} (e : oc 2 t = false) : vI k (gB k t) = -nI k := by unfold gB; rw [e, if_neg (by decide), vI_0]
theorem nf_sp (hT : wf T) (hs : tsz T ≤ 200) (hk : k ≤ 6) (h : St A T U σ) (hQ : ∀ τ, St A T U τ → Q (bI (sfB k T)) τ) : wX0_isNeverFree 27 (nI k) σ Q := by
  have la := gA_le k T
  have lb := gB_le k T
  have fin : wX0_isNeverFree_27 27 (nI k) (vI k (gA k T)) (vI k (gB k T)) σ Q := by
    unfold wX0_isNeverFree_27
    refine lt_i (fun x ex => ⟨gA k T + 1 + 1, ?_⟩)
    rw [ex, ← vI_0 k]
    cases h7 : oc 7 T with
    | true =>
      refine nf_out hT hs hk (by omega) (by omega) h7 (gA k T + 1) 0 σ (by omega) h (fun i' j' a b => by omega) (fun q τ hτ => ?_) (fun i j hi hj q τ hτ => ?_)
      · have := hQ τ hτ
        rw [sfB_g hT q] at this
        exact this
      · have := hQ τ hτ
        rw [sfB_n (by omega) (by omega) q] at this
        exact this
    | false =>
      show wX0_isNeverFree_32_b (wX0_isNeverFree_32 Q (gA k T + 1)) 27 (nI k) (vI k (gA k T)) (vI k (gB k T)) (vI k 0) σ Q
      unfold wX0_isNeverFree_32_b
      have d : σ.1 27 5 = 0 := by
        rw [h.2.1.2.2.2.2.2.2, hO_co (by omega) (by omega) T hT, h7]
        rfl
      rw [d, if_pos rfl]
      refine ⟨yc27.1, ?_⟩
      have := hQ σ h
      rw [sfB_g hT (fun i j _ _ => ev_safe _ _ T hT h7)] at this
      exact this
  unfold wX0_isNeverFree
  refine ⟨yc27.1, lastA hT h.2.1 (fun e1 => ?_) (fun e1 => ?_)⟩
  · rw [← gA_f e1]
    unfold wX0_isNeverFree_13
    refine ⟨yc27.1, lastB hT h.2.1 (fun e2 => ?_) (fun e2 => ?_)⟩
    · rw [← gB_f e2]; exact fin
    · have f2 := fin
      rw [gB_t e2] at f2
      exact f2
  · have f2 := fin
    rw [gA_t e1] at f2
    unfold wX0_isNeverFree_13
    refine ⟨yc27.1, lastB hT h.2.1 (fun e2 => ?_) (fun e2 => ?_)⟩
    · rw [← gB_f e2]; exact f2
    · rw [gB_t e2] at f2
      exact f2
theorem bI_sf {b : Bool} : bI b = 1 ↔ b = true := by cases b <;> decide
theorem safe_st {q : Nat} (hT : wf T) (hs : tsz T ≤ 200) (hk : k ≤ 6) (h : RC A σ) (hq : TrR σ q (fl T)) (hq2 : q + 4 ≤ 27 ∨ 41 ≤ q) (hQ : ∀ τ, RC A τ → Q (bI (sfB k T)) τ) : wX7_isSafe q (nI k) σ Q := by
  unfold wX7_isSafe
  refine write_sp hT yc27.1 (by omega) hq (fun τ g h3 => ?_)
  have r1 : RC A τ := h.s2 g (fun i e => by unfold Sc; unfold S7 at e; omega) (by unfold S7; omega)
  exact nf_sp hT hs hk (U := none) ⟨r1, h3, fun u e => by cases e⟩ (fun ρ hρ => ⟨bI_01 _, hQ ρ hρ.1⟩)
theorem c_safe {x y : Int32} (ok : okA A) (h : RC A σ) (hQ : ∀ τ, RC A τ → Q (xSafe x y A) τ) : wX7_safe x y σ Q := by
  unfold wX7_safe
  refine pg_c ok h (fun p hp e w s g => opt_s ?_) (fun g => opt_n ?_)
  rotate_left
  · simpa only [xSafe, g] using hQ σ h
  refine wi 0 6 0 6 rfl rfl (by omega) (by omega) (fun k k1 k2 e2 g2 => ?_) (fun g2 => ?_)
  rotate_left
  · rw [if_pos rfl]
    simpa only [xSafe, g, g2] using hQ σ h
  rw [if_neg (by decide), e2]
  refine safe_st w (by omega) k2 h (h.1 p hp) (by omega) (fun τ r => ?_)
  have := hQ τ r
  simp only [xSafe, g, g2] at this
  cases z : sfB k (aP A p) with
  | true =>
    rw [z] at this
    rw [if_neg (by decide)]
    exact this
  | false =>
    rw [z] at this
    rw [if_pos (by decide)]
    exact this
variable {u : Tr}
theorem wrong_sp {i j : Nat} (hT : wf T) (hs : tsz T ≤ 200) (hu : wf u) (hs2 : tsz u ≤ 200) (h : St A T (some u) σ) (hn : (ev (vI k i) (vI k j) T).1 ≠ none) (hQ : ∀ τ, St A T (some u) τ → Q (if ot T u k i j then 1 else 0) τ) : wX7_isWrongAt (vI k i) (vI k j) σ Q := by
  unfold wX7_isWrongAt wX7_isWrongAt_39
  refine run_27 hT hs h (fun v hv τ hτ e27 => ?_) (fun hv => absurd hv hn)
  refine run_34 hu hs2 hτ (fun w hw ρ hρ e34 e27' => ?_) (fun hw ρ hρ => ?_)
  · rw [if_neg (by decide), e34, e27', e27]
    have := hQ ρ hρ
    unfold ot at this
    rw [hv, hw] at this
    by_cases z : w = v
    · rw [if_pos z]
      rw [z, if_neg (by simp)] at this
      exact this
    · rw [if_neg z]
      rw [if_pos (by simpa using z)] at this
      exact this
  · rw [if_pos rfl]
    have := hQ ρ hρ
    unfold ot at this
    rw [hv, hw, if_pos (by simp)] at this
    exact this
theorem differ_ci {i : Nat} {K : Int32 → Int32 → Int32 → Sg → Prop} (hT : wf T) (hs : tsz T ≤ 200) (hu : wf u) (hs2 : tsz u ≤ 200) (hk : k ≤ 6) (hsf : ∀ i j, i ≤ 2 * k → j ≤ 2 * k → (ev (vI k i) (vI k j) T).1 ≠ none) (hi : i ≤ 2 * k) :
    ∀ (m j c : Nat) (σ : Sg), j + m = 2 * k + 1 → St A T (some u) σ → (∀ τ, St A T (some u) τ → K (nI k) (nI (c + cj (ot T u k) i (2 * k + 1))) (vI k (i + 1)) τ) → wX7_differ_52 K Q (m + 1) (nI k) (nI (c + cj (ot T u k) i j)) (vI k i) (vI k j) σ := by
  intro m
  induction m with
  | zero =>
    intro j c σ hj h hK
    show wX7_differ_52_b K (wX7_differ_52 K Q 0) (nI k) _ (vI k i) (vI k j) σ Q
    unfold wX7_differ_52_b
    rw [if_pos (by rw [vI_gt hk (by omega)]; omega)]
    refine lt_i (fun x ex => ?_)
    rw [ex, vI_1, show j = 2 * k + 1 by omega]
    exact hK σ h
  | succ m ih =>
    intro j c σ hj h hK
    show wX7_differ_52_b K (wX7_differ_52 K Q (m + 1)) (nI k) _ (vI k i) (vI k j) σ Q
    unfold wX7_differ_52_b wX7_differ_72
    rw [if_neg (by rw [vI_gt hk (by omega)]; omega)]
    refine wrong_sp hT hs hu hs2 h (hsf i j hi (by omega)) (fun τ hτ => ?_)
    have := ih (j + 1) c τ (by omega) hτ hK
    rw [cj] at this
    cases z : ot T u k i j with
    | true =>
      rw [z, if_pos rfl, ← Nat.add_assoc] at this
      rw [if_pos rfl, if_neg (by decide)]
      refine lt_i (fun x ex => lt_i (fun y ey => ?_))
      rw [ex, ey, vI_1, nI_1]
      exact this
    | false =>
      rw [z, if_neg (by decide), Nat.add_zero] at this
      rw [if_pos (show (if (false = true) then (1 : Int32) else 0) = 0 from rfl)]
      refine lt_i (fun y ey => ?_)
      rw [ey, vI_1]
      exact this
theorem differ_co (hT : wf T) (hs : tsz T ≤ 200) (hu : wf u) (hs2 : tsz u ≤ 200) (hk : k ≤ 6) (hsf : ∀ i j, i ≤ 2 * k → j ≤ 2 * k → (ev (vI k i) (vI k j) T).1 ≠ none) (hQ : ∀ τ, St A T (some u) τ → Q (nI (cI (ot T u k) (2 * k + 1) (2 * k + 1))) τ) :
    ∀ (m i : Nat) (σ : Sg), i + m = 2 * k + 1 → St A T (some u) σ → wX7_differ_42 Q (m + 1) (nI k) (nI (cI (ot T u k) (2 * k + 1) i)) (vI k i) σ := by
  intro m
  induction m with
  | zero =>
    intro i σ hi h
    show wX7_differ_42_b (wX7_differ_42 Q 0) (nI k) _ (vI k i) σ Q
    unfold wX7_differ_42_b
    rw [if_pos (by rw [vI_gt hk (by omega)]; omega), show i = 2 * k + 1 by omega]
    exact hQ σ h
  | succ m ih =>
    intro i σ hi h
    show wX7_differ_42_b (wX7_differ_42 Q (m + 1)) (nI k) _ (vI k i) σ Q
    unfold wX7_differ_42_b
    rw [if_neg (by rw [vI_gt hk (by omega)]; omega)]
    refine lt_i (fun x ex => ⟨2 * k + 1 + 1, ?_⟩)
    rw [ex, ← vI_0 k]
    have := differ_ci (Q := Q) (K := wX7_differ_42 Q (m + 1)) hT hs hu hs2 hk hsf (i := i) (by omega) (2 * k + 1) 0 (cI (ot T u k) (2 * k + 1) i) σ (by omega) h (fun τ hτ => by
      have := ih (i + 1) τ (by omega) hτ
      rw [cI] at this
      exact this)
    rw [cj, Nat.add_zero] at this
    exact this
theorem first_ci {i : Nat} {K : Int32 → Int32 → Sg → Prop} (hT : wf T) (hs : tsz T ≤ 200) (hu : wf u) (hs2 : tsz u ≤ 200) (hk : k ≤ 6) (hsf : ∀ i j, i ≤ 2 * k → j ≤ 2 * k → (ev (vI k i) (vI k j) T).1 ≠ none) (hi : i ≤ 2 * k) :
    ∀ (m j : Nat) (σ : Sg), j + m = 2 * k + 1 → St A T (some u) σ → (∀ j', j' < j → ot T u k i j' = false) → ((∀ j', j' ≤ 2 * k → ot T u k i j' = false) → ∀ τ, St A T (some u) τ → K (nI k) (vI k (i + 1)) τ) → (∀ j, j ≤ 2 * k → ot T u k i j = true → (∀ j', j' < j → ot T u k i j' = false) → ∀ τ, St A T (some u) τ → Q (fi k i j) τ) → wX7_first_49 K Q (m + 1) (nI k) (vI k i) (vI k j) σ := by
  intro m
  induction m with
  | zero =>
    intro j σ hj h hp hK hQ
    show wX7_first_49_b K (wX7_first_49 K Q 0) (nI k) (vI k i) (vI k j) σ Q
    unfold wX7_first_49_b
    rw [if_pos (by rw [vI_gt hk (by omega)]; omega)]
    refine lt_i (fun x ex => ?_)
    rw [ex, vI_1]
    exact hK (fun j' h' => hp j' (by omega)) σ h
  | succ m ih =>
    intro j σ hj h hp hK hQ
    show wX7_first_49_b K (wX7_first_49 K Q (m + 1)) (nI k) (vI k i) (vI k j) σ Q
    unfold wX7_first_49_b
    rw [if_neg (by rw [vI_gt hk (by omega)]; omega)]
    refine wrong_sp hT hs hu hs2 h (hsf i j hi (by omega)) (fun τ hτ => ?_)
    cases z : ot T u k i j with
    | true =>
      rw [if_pos rfl, if_neg (by decide)]
      exact hQ j (by omega) z hp τ hτ
    | false =>
      rw [if_pos (show (if (false = true) then (1 : Int32) else 0) = 0 from rfl)]
      refine lt_i (fun x ex => ?_)
      rw [ex, vI_1]
      refine ih (j + 1) τ (by omega) hτ (fun j' h' => ?_) hK hQ
      by_cases e : j' = j
      · rw [e]; exact z
      · exact hp j' (by omega)
theorem first_co (hT : wf T) (hs : tsz T ≤ 200) (hu : wf u) (hs2 : tsz u ≤ 200) (hk : k ≤ 6) (hsf : ∀ i j, i ≤ 2 * k → j ≤ 2 * k → (ev (vI k i) (vI k j) T).1 ≠ none) :
    ∀ (m i : Nat) (σ : Sg), i + m = 2 * k + 1 → St A T (some u) σ → (∀ i' j', i' < i → j' ≤ 2 * k → ot T u k i' j' = false) → ((∀ i' j', i' ≤ 2 * k → j' ≤ 2 * k → ot T u k i' j' = false) → ∀ τ, St A T (some u) τ → Q (-5) τ) → (∀ i j, i ≤ 2 * k → j ≤ 2 * k → ot T u k i j = true → (∀ i' j', i' < i → j' ≤ 2 * k → ot T u k i' j' = false) → (∀ j', j' < j → ot T u k i j' = false) → ∀ τ, St A T (some u) τ → Q (fi k i j) τ) → wX7_first_39 Q (m + 1) (nI k) (vI k i) σ := by
  intro m
  induction m with
  | zero =>
    intro i σ hi h hp hn hQ
    show wX7_first_39_b (wX7_first_39 Q 0) (nI k) (vI k i) σ Q
    unfold wX7_first_39_b
    rw [if_pos (by rw [vI_gt hk (by omega)]; omega)]
    exact hn (fun i' j' a b => hp i' j' (by omega) b) σ h
  | succ m ih =>
    intro i σ hi h hp hn hQ
    show wX7_first_39_b (wX7_first_39 Q (m + 1)) (nI k) (vI k i) σ Q
    unfold wX7_first_39_b
    rw [if_neg (by rw [vI_gt hk (by omega)]; omega)]
    refine lt_i (fun x ex => ⟨2 * k + 1 + 1, ?_⟩)
    rw [ex, ← vI_0 k]
    refine first_ci hT hs hu hs2 hk hsf (by omega) (2 * k + 1) 0 σ (by omega) h (fun j' h' => by omega) (fun q τ hτ => ?_) (fun j a b c τ hτ => hQ i j (by omega) a b hp c τ hτ)
    refine ih (i + 1) τ (by omega) hτ (fun i' j' a b => ?_) hn hQ
    by_cases e : i' = i
    · rw [e]; exact q j' b
    · exact hp i' j' (by omega) b
theorem c_differ {x y z : Int32} (ok : okA A) (h : RC A σ) (hQ : ∀ τ, RC A τ → Q (xDiffer x y z A) τ) : wX7_differ x y z σ Q := by
  have bad : xDiffer x y z A = -1 → Q (-1) σ := fun e => by rw [e] at hQ; exact hQ σ h
  unfold wX7_differ
  refine wi 0 6 0 6 rfl rfl (by omega) (by omega) (fun k k1 k2 e3 g3 => ?_) (fun g3 => ?_)
  rotate_left
  · rw [if_pos rfl]
    refine bad ?_
    unfold xDiffer
    rw [g3]
    cases mg A x <;> cases pg A y <;> rfl
  rw [if_neg (by decide)]
  refine write_c ok h (fun m p m8 g1 g2 hp w s τ r h3 h4 => ?_) (fun g => ?_)
  rotate_left
  · rw [if_pos rfl]
    refine bad ?_
    unfold xDiffer
    rcases g with g | g
    · rw [g]
    · rw [g]
      cases mg A x <;> rfl
  rw [if_neg (by decide), e3]
  obtain ⟨w1, w2⟩ := md_ok (aS A m) (aF A m) w (by omega) (aT A m)
  have hSt : St A (aP A p) (some (mda A m (aP A p))) τ := ⟨r, h3, fun u e => by have := Option.some.inj e; rw [← this]; exact h4⟩
  refine nf_sp w (by omega) k2 hSt (fun ρ hρ => ?_)
  have E : xDiffer x y z A = if sfB k (aP A p) then nI (cI (ot (aP A p) (mda A m (aP A p)) k) (2 * k + 1) (2 * k + 1)) else -2 := by simp only [xDiffer, g1, g2, g3]
  rw [E] at hQ
  cases sf : sfB k (aP A p) with
  | true =>
    rw [sf, if_pos rfl] at hQ
    rw [if_neg (by decide)]
    refine lt_i (fun v ev => ⟨2 * k + 1 + 1, ?_⟩)
    rw [ev, ← vI_0 k]
    exact differ_co (u := mda A m (aP A p)) w (by omega) w1 w2 k2 (sfB_y.mp sf) (fun ξ hξ => hQ ξ hξ.1) (2 * k + 1) 0 ρ (by omega) hρ
  | false =>
    rw [sf, if_neg (by decide)] at hQ
    rw [if_pos (by decide)]
    exact hQ ρ hρ.1
theorem c_first {x y z : Int32} (ok : okA A) (h : RC A σ) (hQ : ∀ τ, RC A τ → Q (xFirst x y z A) τ) : wX7_first x y z σ Q := by
  have bad : xFirst x y z A = -1 → Q (-1) σ := fun e => by rw [e] at hQ; exact hQ σ h
  unfold wX7_first
  refine wi 0 6 0 6 rfl rfl (by omega) (by omega) (fun k k1 k2 e3 g3 => ?_) (fun g3 => ?_)
  rotate_left
  · rw [if_pos rfl]
    refine bad ?_
    unfold xFirst
    rw [g3]
    cases mg A x <;> cases pg A y <;> rfl
  rw [if_neg (by decide)]
  refine write_c ok h (fun m p m8 g1 g2 hp w s τ r h3 h4 => ?_) (fun g => ?_)
  rotate_left
  · rw [if_pos rfl]
    refine bad ?_
    unfold xFirst
    rcases g with g | g
    · rw [g]
    · rw [g]
      cases mg A x <;> rfl
  rw [if_neg (by decide), e3]
  obtain ⟨w1, w2⟩ := md_ok (aS A m) (aF A m) w (by omega) (aT A m)
  have hSt : St A (aP A p) (some (mda A m (aP A p))) τ := ⟨r, h3, fun u e => by have := Option.some.inj e; rw [← this]; exact h4⟩
  refine nf_sp w (by omega) k2 hSt (fun ρ hρ => ?_)
  cases sf : sfB k (aP A p) with
  | true =>
    rw [if_neg (by decide)]
    refine lt_i (fun v ev => ⟨2 * k + 1 + 1, ?_⟩)
    rw [ev, ← vI_0 k]
    refine first_co (u := mda A m (aP A p)) w (by omega) w1 w2 k2 (sfB_y.mp sf) (2 * k + 1) 0 ρ (by omega) hρ (fun i' j' a b => by omega) (fun q ξ hξ => ?_) (fun i j hi hj q1 q2 q3 ξ hξ => ?_)
    · have := hQ ξ hξ.1
      simpa only [xFirst, g1, g2, g3, if_pos sf, df1_n q] using this
    · have := hQ ξ hξ.1
      simpa only [xFirst, g1, g2, g3, if_pos sf, df1_y hi hj q1 q2 q3] using this
  | false =>
    rw [if_pos (by decide)]
    have := hQ ρ hρ.1
    simpa only [xFirst, g1, g2, g3, if_neg (show ¬ sfB k (aP A p) = true by rw [sf]; decide)] using this
end
