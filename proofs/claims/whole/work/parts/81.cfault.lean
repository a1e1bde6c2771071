/-! the class: whether a fault is shown -/
section
variable {R : Sg → Prop} {T u : Tr} {σ : Sg} {Q : Int32 → Sg → Prop} {k : Nat}
/-- stays when the codes change -/
def Kp (R : Sg → Prop) : Prop := ∀ σ τ, Gm (fun i => 27 ≤ i ∧ i < 41) σ τ → R σ → R τ
def S2 (R : Sg → Prop) (T u : Tr) (σ : Sg) : Prop := R σ ∧ CoR σ 27 (co T 0) ∧ CoR σ 34 (co u 0)
theorem r27 {a b : Int32} (hR : Kp R) (hT : wf T) (hs : tsz T ≤ 200) (h : S2 R T u σ) (hy : ∀ v, (ev a b T).1 = some v → ∀ τ, S2 R T u τ → τ.1 27 10 = v → Q 1 τ) (hn : (ev a b T).1 = none → ∀ τ, S2 R T u τ → Q 0 τ) : wX0_run 27 a b σ Q := by
  obtain ⟨h1, h2, h3⟩ := h
  have st : ∀ τ, Rf 27 σ τ → S2 R T u τ := fun τ f => ⟨hR σ τ ((rf_gm f).wk (fun i e => by omega)) h1, Rf.co h2 f, h3.gm (rf_gm f) (fun i x y => by omega)⟩
  exact run_sp hT hs h2 (fun v hv τ f e10 _ => hy v hv τ (st τ f) e10) (fun hv τ f _ => hn hv τ (st τ f))
theorem r34 {a b : Int32} (hR : Kp R) (hu : wf u) (hs : tsz u ≤ 200) (h : S2 R T u σ) (hy : ∀ v, (ev a b u).1 = some v → ∀ τ, S2 R T u τ → τ.1 34 10 = v → τ.1 27 10 = σ.1 27 10 → Q 1 τ) (hn : (ev a b u).1 = none → ∀ τ, S2 R T u τ → Q 0 τ) : wX0_run 34 a b σ Q := by
  obtain ⟨h1, h2, h3⟩ := h
  have st : ∀ τ, Rf 34 σ τ → S2 R T u τ := fun τ f => ⟨hR σ τ ((rf_gm f).wk (fun i e => by omega)) h1, h2.gm (rf_gm f) (fun i x y => by omega), Rf.co h3 f⟩
  exact run_sp hu hs h3 (fun v hv τ f e10 _ => hy v hv τ (st τ f) e10 (by rw [f.1 27 (by omega) (by omega)])) (fun hv τ f _ => hn hv τ (st τ f))
/-- a difference among the points that are tried -/
def Ed (T u : Tr) (k : Nat) : Prop := ∃ i j, i ≤ gA k T ∧ j ≤ gB k T ∧ ot T u k i j = true
theorem sf_in {i : Nat} {K : Int32 → Int32 → Int32 → Int32 → Int32 → Sg → Prop} (hR : Kp R) (hT : wf T) (hs : tsz T ≤ 200) (hu : wf u) (hs2 : tsz u ≤ 200) (hk : k ≤ 6) (hi : i ≤ gA k T) (w0 : Bool)
    (h0 : ∀ j, j ≤ gB k T → (ev (vI k i) (vI k j) T).1 = none → ∀ τ, S2 R T u τ → Q 0 τ) (h1 : oc 7 T = false → Ed T u k → ∀ τ, S2 R T u τ → Q 1 τ)
    (hK : ∀ w τ, S2 R T u τ → (∀ j, j ≤ gB k T → (ev (vI k i) (vI k j) T).1 ≠ none) → (w = true → Ed T u k) → (w = false → w0 = false ∧ ∀ j, j ≤ gB k T → ot T u k i j = false) → K (nI k) (vI k (gA k T)) (vI k (gB k T)) (bI w) (vI k (i + 1)) τ) :
    ∀ (m j : Nat) (w : Bool) (σ : Sg), j + m = gB k T + 1 → S2 R T u σ → (∀ j', j' < j → (ev (vI k i) (vI k j') T).1 ≠ none) → (w = true → Ed T u k) → (w = false → w0 = false ∧ ∀ j', j' < j → ot T u k i j' = false) →
    wX7_showsFault_74 K Q (m + 1) (nI k) (vI k (gA k T)) (vI k (gB k T)) (bI w) (vI k i) (vI k j) σ := by
  have lb := gB_le k T
  intro m
  induction m with
  | zero =>
    intro j w σ hj h hp hw1 hw0
    show wX7_showsFault_74_b K (wX7_showsFault_74 K Q 0) (nI k) (vI k (gA k T)) (vI k (gB k T)) (bI w) (vI k i) (vI k j) σ Q
    unfold wX7_showsFault_74_b
    rw [if_pos (by rw [vI_lt hk (by omega) (by omega)]; omega)]
    refine lt_i (fun x ex => ?_)
    rw [ex, vI_1]
    exact hK w σ h (fun j' h' => hp j' (by omega)) hw1 (fun e => ⟨(hw0 e).1, fun j' h' => (hw0 e).2 j' (by omega)⟩)
  | succ m ih =>
    intro j w σ hj h hp hw1 hw0
    show wX7_showsFault_74_b K (wX7_showsFault_74 K Q (m + 1)) (nI k) (vI k (gA k T)) (vI k (gB k T)) (bI w) (vI k i) (vI k j) σ Q
    unfold wX7_showsFault_74_b
    rw [if_neg (by rw [vI_lt hk (by omega) (by omega)]; omega)]
    refine r27 hR hT hs h (fun v hv τ hτ e27 => ?_) (fun hv τ hτ => ?_)
    rotate_left
    · rw [if_pos rfl]
      exact h0 j (by omega) hv τ hτ
    rw [if_neg (by decide)]
    have hp' : ∀ j', j' < j + 1 → (ev (vI k i) (vI k j') T).1 ≠ none := fun j' h' => by
      by_cases e : j' = j
      · rw [e, hv]; simp
      · exact hp j' (by omega)
    have bad : Ed T u k → ∀ ρ, S2 R T u ρ → wX7_showsFault_133 K (wX7_showsFault_74 K Q (m + 1)) (nI k) (vI k (gA k T)) (vI k (gB k T)) (vI k i) (vI k j) ρ Q := fun E ρ hρ => by
      unfold wX7_showsFault_133 wX7_showsFault_138
      rw [if_neg (by decide), hρ.2.1.2.2.2.2.2.2, hO_co (by omega) (by omega) T hT]
      cases h7 : oc 7 T with
      | false =>
        rw [if_pos (by decide)]
        exact h1 h7 E ρ hρ
      | true =>
        rw [if_neg (by decide)]
        unfold wX7_showsFault_157
        refine lt_i (fun x ex => ?_)
        rw [ex, vI_1]
        exact ih (j + 1) true ρ (by omega) hρ hp' (fun _ => E) (fun e => by cases e)
    cases w with
    | true =>
      rw [if_neg (by decide)]
      exact bad (hw1 rfl) τ hτ
    | false =>
      rw [if_pos (by decide)]
      refine r34 hR hu hs2 hτ (fun x hx ρ hρ e34 e27' => ?_) (fun hx ρ hρ => ?_)
      · rw [if_neg (by decide), e34, e27', e27]
        by_cases z : x = v
        · rw [if_pos z]
          unfold wX7_showsFault_138
          rw [if_pos rfl]
          unfold wX7_showsFault_157
          refine lt_i (fun y ey => ?_)
          rw [ey, vI_1]
          refine ih (j + 1) false ρ (by omega) hρ hp' (fun e => by cases e) (fun e => ⟨(hw0 e).1, fun j' h' => ?_⟩)
          by_cases e2 : j' = j
          · rw [e2]
            unfold ot
            rw [hv, hx, z]
            simp
          · exact (hw0 e).2 j' (by omega)
        · rw [if_neg z]
          exact bad ⟨i, j, hi, by omega, by unfold ot; rw [hv, hx]; simpa using z⟩ ρ hρ
      · rw [if_pos rfl]
        exact bad ⟨i, j, hi, by omega, by unfold ot; rw [hv, hx]; simp⟩ ρ hρ
theorem sf_out (hR : Kp R) (hT : wf T) (hs : tsz T ≤ 200) (hu : wf u) (hs2 : tsz u ≤ 200) (hk : k ≤ 6)
    (h0 : ∀ i j, i ≤ gA k T → j ≤ gB k T → (ev (vI k i) (vI k j) T).1 = none → ∀ τ, S2 R T u τ → Q 0 τ) (h1 : oc 7 T = false → Ed T u k → ∀ τ, S2 R T u τ → Q 1 τ)
    (hF : ∀ w τ, S2 R T u τ → (∀ i j, i ≤ gA k T → j ≤ gB k T → (ev (vI k i) (vI k j) T).1 ≠ none) → (w = true → Ed T u k) → (w = false → ∀ i j, i ≤ gA k T → j ≤ gB k T → ot T u k i j = false) → Q (bI w) τ) :
    ∀ (m i : Nat) (w : Bool) (σ : Sg), i + m = gA k T + 1 → S2 R T u σ → (∀ i' j', i' < i → j' ≤ gB k T → (ev (vI k i') (vI k j') T).1 ≠ none) → (w = true → Ed T u k) → (w = false → ∀ i' j', i' < i → j' ≤ gB k T → ot T u k i' j' = false) →
    wX7_showsFault_64 Q (m + 1) (nI k) (vI k (gA k T)) (vI k (gB k T)) (bI w) (vI k i) σ := by
  have la := gA_le k T
  intro m
  induction m with
  | zero =>
    intro i w σ hi h hp hw1 hw0
    show wX7_showsFault_64_b (wX7_showsFault_64 Q 0) (nI k) (vI k (gA k T)) (vI k (gB k T)) (bI w) (vI k i) σ Q
    unfold wX7_showsFault_64_b
    rw [if_pos (by rw [vI_lt hk (by omega) (by omega)]; omega)]
    exact ⟨bI_01 w, hF w σ h (fun i' j' a b => hp i' j' (by omega) b) hw1 (fun e i' j' a b => hw0 e i' j' (by omega) b)⟩
  | succ m ih =>
    intro i w σ hi h hp hw1 hw0
    show wX7_showsFault_64_b (wX7_showsFault_64 Q (m + 1)) (nI k) (vI k (gA k T)) (vI k (gB k T)) (bI w) (vI k i) σ Q
    unfold wX7_showsFault_64_b
    rw [if_neg (by rw [vI_lt hk (by omega) (by omega)]; omega)]
    refine lt_i (fun x ex => ⟨gB k T + 1 + 1, ?_⟩)
    rw [ex, ← vI_0 k]
    refine sf_in hR hT hs hu hs2 hk (by omega) w (fun j hj q τ hτ => h0 i j (by omega) hj q τ hτ) h1 (fun w' τ hτ sf hw1' hw0' => ?_) (gB k T + 1) 0 w σ (by omega) h (fun j' h' => by omega) hw1 (fun e => ⟨e, fun j' h' => by omega⟩)
    refine ih (i + 1) w' τ (by omega) hτ (fun i' j' a b => ?_) hw1' (fun e i' j' a b => ?_)
    · by_cases e : i' = i
      · rw [e]; exact sf j' b
      · exact hp i' j' (by omega) b
    · by_cases e2 : i' = i
      · rw [e2]; exact (hw0' e).2 j' b
      · exact hw0 (hw0' e).1 i' j' (by omega) b
theorem fault_sp {a b q : Nat} (hR : Kp R) (hT : wf T) (hs : tsz T ≤ 200) (hu : wf u) (hs2 : tsz u ≤ 200) (hk : k ≤ 6) (i1 : oc 1 T = false → oc 1 u = false) (i2 : oc 2 T = false → oc 2 u = false) (h : R σ) (hq : TrR σ q (fl T)) (hq2 : q + 4 ≤ 27 ∨ 41 ≤ q) (hW : WkS σ a b u) (hQ : ∀ τ, R τ → Q (bI (sfB k T && (df1 T u k).isSome)) τ) : wX7_showsFault q (nI k) σ Q := by
  have la := gA_le k T
  have lb := gB_le k T
  unfold wX7_showsFault
  refine write_sp hT yc27.1 (by omega) hq (fun τ g h3 => ?_)
  have r1 : R τ := hR σ τ (g.wk (fun i e => by unfold S7 at e; omega)) h
  have hW2 := hW.gm g (fun i x y => by unfold S7; omega)
  rw [hW2.2.1]
  refine write_sp hu yc27.2.1 (by have := hW2.1; omega) hW2.2.2.2 (fun ρ g4 h4 => ?_)
  have r2 : R ρ := hR τ ρ (g4.wk (fun i e => by unfold S7 at e; omega)) r1
  have hS : S2 R T u ρ := ⟨r2, h3.gm g4 (fun i x y => by unfold S7; omega), h4⟩
  have fin : wX7_showsFault_55 (nI k) (vI k (gA k T)) (vI k (gB k T)) ρ Q := by
    unfold wX7_showsFault_55
    refine lt_i (fun x ex => ⟨gA k T + 1 + 1, ?_⟩)
    rw [ex, ← vI_0 k]
    refine sf_out hR hT hs hu hs2 hk (fun i j hi hj e ξ hξ => ?_) (fun h7 E ξ hξ => ?_) (fun w ξ hξ sf hw1 hw0 => ?_) (gA k T + 1) 0 false ρ (by omega) hS (fun i' j' a b => by omega) (fun e => by cases e) (fun e i' j' a b => by omega)
    · have := hQ ξ hξ.1
      rw [sfB_n (by omega) (by omega) e] at this
      exact this
    · have := hQ ξ hξ.1
      obtain ⟨i, j, hi, hj, e⟩ := E
      rw [sfB_g hT (fun i j _ _ => ev_safe _ _ T hT h7), df1_s (by omega) (by omega) e] at this
      exact this
    · have := hQ ξ hξ.1
      rw [sfB_g hT sf] at this
      cases w with
      | true =>
        obtain ⟨i, j, hi, hj, e⟩ := hw1 rfl
        rw [df1_s (by omega) (by omega) e] at this
        exact this
      | false =>
        have e : df1 T u k = none := df1_n (fun i j hi hj => by
          obtain ⟨i', j', a', b', c'⟩ := ev_g hT i j hi hj
          have := hw0 rfl i' j' a' b'
          unfold ot at this ⊢
          rw [c' T hT id id, c' u hu i1 i2]
          exact this)
        rw [e] at this
        exact this
  refine lastA hT hS.2.1 (fun e1 => ?_) (fun e1 => ?_)
  · rw [← gA_f e1]
    unfold wX7_showsFault_38
    refine lastB hT hS.2.1 (fun e2 => ?_) (fun e2 => ?_)
    · rw [← gB_f e2]; exact fin
    · have f2 := fin
      rw [gB_t e2] at f2
      exact f2
  · have f2 := fin
    rw [gA_t e1] at f2
    unfold wX7_showsFault_38
    refine lastB hT hS.2.1 (fun e2 => ?_) (fun e2 => ?_)
    · rw [← gB_f e2]; exact f2
    · rw [gB_t e2] at f2
      exact f2
end
section
variable {A : Ab} {T : Tr} {σ : Sg} {Q : Int32 → Sg → Prop} {k m q : Nat}
theorem kp_rc {q : Nat} {xs : List En} (hq : q + 4 ≤ 27 ∨ 41 ≤ q) : Kp (fun σ => RC A σ ∧ TrR σ q xs) := fun σ τ g h => ⟨h.1.s2 g (fun i e => by unfold Sc; omega) (by omega), h.2.gm g (fun i x y => by omega)⟩
theorem ot_refl (T : Tr) (k i j : Nat) : ot T T k i j = false := by
  unfold ot
  simp
/-- what isFaulty() does -/
theorem faulty_in {B : Int32 → Sg → Prop} (m8 : m < 8) (hT : wf T) (hs : tsz T ≤ 200) (hk : k ≤ 6) (h : RC A σ) (hq : TrR σ q (fl T)) (hq2 : q + 4 ≤ 16 ∨ 41 ≤ q) (hQ : ∀ τ, RC A τ → TrR τ q (fl T) → B (bI (shB (aS A m) (aF A m) (aT A m) k T)) τ) : wX6_make (133 + 3 * m) q (σ.1 (133 + 3 * m) 2) σ fun r_3 σ_2 => if r_3 ≤ 0 then B 0 σ_2 else wX7_showsFault q (nI k) σ_2 fun r_5 σ_4 => B r_5 σ_4 := by
  have hM := h.2.2.1.2 m m8
  rw [hM.2.2.1]
  obtain ⟨w1, w2⟩ := md_ok (aS A m) (aF A m) hT hs (aT A m)
  refine make_sp' hT hs (by omega) (Nat.le_refl _) h.2.2.2.2.2.2.2 hM hq (by omega) (fun τ a b g hW => ?_)
  have r1 := g16 h g hW.o
  have q1 : TrR τ q (fl T) := hq.gm g (fun i x y => by omega)
  have fl1 := fs_le (so := aS A m) (fa := aF A m) hT hs (aT A m)
  have c10 := hM.2.1
  by_cases z : fs (aS A m) (aF A m) T (aT A m) = 0
  · rw [z, if_pos (by decide)]
    have := hQ τ r1 q1
    unfold shB at this
    rw [md_id hT hs _ z, df1_n (fun i j _ _ => ot_refl T k i j)] at this
    rw [show (sfB k T && (none : Option (Nat × Nat)).isSome) = false by simp] at this
    exact this
  · rw [if_neg (show ¬ nI (fs (aS A m) (aF A m) T (aT A m)) ≤ (0 : Int32) from nI_ge (a := 0) (by omega) (by omega))]
    exact fault_sp (R := fun σ => RC A σ ∧ TrR σ q (fl T)) (kp_rc (by omega)) hT hs w1 w2 hk (fun e => oc_md (Or.inl rfl) hT hs e _) (fun e => oc_md (Or.inr rfl) hT hs e _) ⟨r1, q1⟩ q1 (by omega) hW (fun ρ hρ => hQ ρ hρ.1 hρ.2)
end
