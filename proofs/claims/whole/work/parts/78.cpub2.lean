/-! the class's calls: breed, made, answer, cost, fires, never, cause, least -/
section
variable {A : Ab} {σ : Sg} {Q : Int32 → Sg → Prop}
theorem hasI {t : Nat} {u : Tr} {x : Int32} (hu : wf u) (h : TrR σ t (fl u)) (h1 : ∀ i, i < tsz u → x = nI i → iy 0 ((tsz u : Int) - 1) x = some i → Q 1 σ) (h0 : iy 0 ((tsz u : Int) - 1) x = none → Q 0 σ) : wX5_has t x σ Q := by
  have len := fl_len u hu
  have l200 := h.2.2.1
  have e0 : (0 : Int32).toInt = 0 := by decide
  by_cases z : x < 0
  · unfold wX5_has
    rw [if_pos z]
    rw [Int32.lt_iff_toInt_lt, e0] at z
    refine h0 ?_
    unfold iy
    rw [if_neg (by omega)]
  · obtain ⟨i, i1, i2⟩ := nI_of z
    subst i2
    refine hasT_sp h i1 ?_
    by_cases y : i < (fl u).length
    · rw [if_pos y]
      exact h1 i (by omega) rfl (iy_y (by omega) (by omega) i1)
    · rw [if_neg y]
      refine h0 ?_
      unfold iy
      rw [nI_toInt i1, if_neg (by omega)]
theorem c_breed {x a i b j : Int32} (ok : okA A) (h : RC A σ) (hQ : ∀ τ, RC (xBreed x a i b j A).2 τ → Q (xBreed x a i b j A).1 τ) : wX7_breed x a i b j σ Q := by
  have bad : xBreed x a i b j A = (-1, A) → Q (-1) σ := fun e => by rw [e] at hQ; exact hQ σ h
  unfold wX7_breed
  refine pl_c (fun p hp e g1 => ?_) (fun g1 => ?_)
  rotate_left
  · have bb := bad (by simp only [xBreed, g1])
    exact pg_c ok h (fun _ _ _ _ _ _ => pg_c ok h (fun _ _ _ _ _ _ => opt_n bb) (fun _ => opt_n bb)) (fun _ => pg_c ok h (fun _ _ _ _ _ _ => opt_n bb) (fun _ => opt_n bb))
  refine pg_c ok h (fun qa hqa e2 wa sa g2 => ?_) (fun g2 => ?_)
  rotate_left
  · have bb := bad (by simp only [xBreed, g1, g2])
    exact pg_c ok h (fun _ _ _ _ _ _ => opt_s (opt_n bb)) (fun _ => opt_s (opt_n bb))
  refine pg_c ok h (fun qb hqb e3 wb sb' g3 => ?_) (fun g3 => ?_)
  rotate_left
  · have bb := bad (by simp only [xBreed, g1, g2, g3])
    exact opt_s (opt_s (opt_n bb))
  refine opt_s (opt_s (opt_s ?_))
  have hTa := h.1 qa hqa
  have hTb := h.1 qb hqb
  refine ⟨hTa.1, hasI wa hTa (fun i hi e4 g4 => ?_) (fun g4 => ?_)⟩
  rotate_left
  · rw [if_pos rfl]
    exact bad (by simp only [xBreed, g1, g2, g3, g4])
  rw [if_neg (by decide)]
  refine ⟨hTb.1, hasI wb hTb (fun j hj e5 g5 => ?_) (fun g5 => ?_)⟩
  rotate_left
  · rw [if_pos rfl]
    exact bad (by simp only [xBreed, g1, g2, g3, g4, g5])
  rw [if_neg (by decide)]
  subst e4
  subst e5
  have la := fl_len _ wa
  have lb := fl_len _ wb
  obtain ⟨-, -, -, -, v3, v4, v5⟩ := fl_su wa (i := i) (by omega)
  obtain ⟨-, -, -, -, u3, u4, u5⟩ := fl_su wb (i := j) (by omega)
  obtain ⟨s1, s2⟩ := sb_ok u3 (aP A qa) (Or.inl wa) i hi
  refine sizeOf_sp hTa (by omega) (sizeOf_sp hTb (by omega) ?_)
  rw [en_lt (show i < (fl (aP A qa)).length by omega), en_lt (show j < (fl (aP A qb)).length by omega), v4, u4, hTa.2.2.2.1, la]
  dsimp only
  rw [pk_sub (by omega), nI_add, show tsz (aP A qa) - tsz (su (aP A qa) i) + tsz (su (aP A qb) j) = tsz (sb (su (aP A qb) j) (aP A qa) i) by omega]
  by_cases z : 60 < tsz (sb (su (aP A qb) j) (aP A qa) i)
  · rw [if_neg (show ¬ nI (tsz (sb (su (aP A qb) j) (aP A qa) i)) ≤ (60 : Int32) from nI_ge (a := 60) z (by omega))]
    have e : xBreed x a (nI i) b (nI j) A = (-3, A) := by simp only [xBreed, g1, g2, g3, g4, g5, if_pos z]
    rw [e] at hQ
    exact hQ σ h
  · rw [if_pos (show nI (tsz (sb (su (aP A qb) j) (aP A qa) i)) ≤ (60 : Int32) from nI_le (b := 60) (by omega) (by omega))]
    have e : xBreed x a (nI i) b (nI j) A = (nI (tsz (sb (su (aP A qb) j) (aP A qa) i)), sP A p (sb (su (aP A qb) j) (aP A qa) i)) := by simp only [xBreed, g1, g2, g3, g4, g5, if_neg z]
    rw [e] at hQ
    refine join_sp yc27.2.2.1 wa wb hTa hTb hi hj (by omega) (by omega) (by omega) (fun τ g6 h6 => ?_)
    have r1 : RC A τ := h.s2 g6 (fun i e => by unfold Sc; omega) (by omega)
    refine ⟨ycT p hp, become_sp (ycT p hp) h6 (by omega) (fun ρ g7 h7 => ?_)⟩
    rw [h7.2.2.2.1, fl_len _ s1]
    exact hQ ρ (r1.pl hp g7 h7)
theorem g16 {τ : Sg} (h : RC A σ) (g : Gm (fun i => 16 ≤ i ∧ i < 27) σ τ) (o : OrW τ) : RC A τ := h.sc (g.wk (fun i e => by unfold Sc; omega)) o
theorem c_made {x y n : Int32} (ok : okA A) (h : RC A σ) (hQ : ∀ τ, RC (xMade x y n A).2 τ → Q (xMade x y n A).1 τ) : wX7_made x y n σ Q := by
  have bad : xMade x y n A = (-1, A) → Q (-1) σ := fun e => by rw [e] at hQ; exact hQ σ h
  unfold wX7_made
  refine mk_c ok h (fun m m8 hm e g1 hM => ?_) (fun g1 => ?_)
  rotate_left
  · have bb := bad (by simp only [xMade, g1])
    exact pg_c ok h (fun _ _ _ _ _ _ => opt_n bb) (fun _ => opt_n bb)
  refine pg_c ok h (fun p hp e2 w s g2 => ?_) (fun g2 => ?_)
  rotate_left
  · exact opt_s (opt_n (bad (by simp only [xMade, g1, g2])))
  have c10 := hM.2.1
  refine opt_s (opt_s ⟨hM.1, ?_⟩)
  rw [hM.2.2.1]
  refine wi 0 (aT A m) 0 (aT A m) rfl rfl (by omega) (by omega) (fun n n1 n2 e3 g3 => ?_) (fun g3 => ?_)
  rotate_left
  · rw [if_pos rfl]
    exact bad (by simp only [xMade, g1, g2, g3])
  rw [if_neg (by decide)]
  subst e3
  obtain ⟨w1, w2⟩ := md_ok (aS A m) (aF A m) w (by omega) n
  refine make_sp' w (by omega) (by omega) n2 h.2.2.2.2.2.2.2 hM (h.1 p hp) (by omega) (fun τ a b g hW => ?_)
  have r1 := g16 h g hW.o
  rw [hW.2.1]
  refine become_sp yc27.2.2.2.1 hW.2.2.2 (by have := hW.1; omega) (fun ρ g4 h4 => ?_)
  rw [h4.2.2.2.1, fl_len _ w1]
  have e : xMade x y (nI n) A = (nI (tsz (md (aS A m) (aF A m) n (aP A p))), sG A (md (aS A m) (aF A m) n (aP A p))) := by simp only [xMade, g1, g2, g3]
  rw [e] at hQ
  exact hQ ρ (r1.fnd g4 h4)
/-- the code of a program, and of what a maker makes of it -/
theorem write_c {x y : Int32} (ok : okA A) (h : RC A σ) (h1 : ∀ m p, m < 8 → mg A x = some m → pg A y = some p → p < 20 → wf (aP A p) → tsz (aP A p) ≤ 60 → ∀ τ, RC A τ → CoR τ 27 (co (aP A p) 0) → CoR τ 34 (co (mda A m (aP A p)) 0) → Q 1 τ) (h0 : (mg A x = none ∨ pg A y = none) → Q 0 σ) : wX7_write x y σ Q := by
  unfold wX7_write
  refine mk_c ok h (fun m m8 hm e g1 hM => ?_) (fun g1 => ?_)
  rotate_left
  · have bb := h0 (Or.inl g1)
    exact pg_c ok h (fun _ _ _ _ _ _ => opt_n bb) (fun _ => opt_n bb)
  refine pg_c ok h (fun p hp e2 w s g2 => ?_) (fun g2 => ?_)
  rotate_left
  · exact opt_s (opt_n (h0 (Or.inr g2)))
  refine opt_s (opt_s ⟨hM.1, ?_⟩)
  rw [hM.2.2.1]
  obtain ⟨w1, w2⟩ := md_ok (aS A m) (aF A m) w (by omega) (aT A m)
  refine make_sp' w (by omega) (by omega) (Nat.le_refl _) h.2.2.2.2.2.2.2 hM (h.1 p hp) (by omega) (fun τ a b g hW => ?_)
  have r1 := g16 h g hW.o
  refine write_sp w yc27.1 (by omega) (r1.1 p hp) (fun ρ g3 h3 => ?_)
  have r2 : RC A ρ := r1.s2 g3 (fun i e => by unfold Sc; unfold S7 at e; omega) (by unfold S7; omega)
  have hW2 := hW.gm g3 (fun i x y => by unfold S7; omega)
  rw [hW2.2.1]
  refine write_sp w1 yc27.2.1 (by have := hW2.1; omega) hW2.2.2.2 (fun ξ g4 h4 => ?_)
  have r3 : RC A ξ := r2.s2 g4 (fun i e => by unfold Sc; unfold S7 at e; omega) (by unfold S7; omega)
  exact h1 m p m8 g1 g2 hp w s ξ r3 (h3.gm g4 (fun i x y => by unfold S7; omega)) h4
theorem c_answer {x y a b : Int32} (ok : okA A) (h : RC A σ) (hQ : ∀ τ, RC A τ → Q (xAnswer x y a b A) τ) : wX7_answer x y a b σ Q := by
  unfold wX7_answer
  refine write_c ok h (fun m p m8 g1 g2 hp w s τ r h3 h4 => ?_) (fun g => ?_)
  · rw [if_neg (by decide)]
    obtain ⟨w1, w2⟩ := md_ok (aS A m) (aF A m) w (by omega) (aT A m)
    refine run_sp (T := mda A m (aP A p)) w1 w2 h4 (fun v hv ρ f e10 _ => ?_) (fun hv ρ f _ => ?_)
    · rw [if_neg (by decide), e10]
      have := hQ ρ (r.s2 (rf_gm f) (fun i e => by unfold Sc; omega) (by omega))
      simpa only [xAnswer, g1, g2, hv] using this
    · rw [if_pos rfl]
      have := hQ ρ (r.s2 (rf_gm f) (fun i e => by unfold Sc; omega) (by omega))
      simpa only [xAnswer, g1, g2, hv] using this
  · rw [if_pos rfl]
    have e : xAnswer x y a b A = vV := by
      unfold xAnswer
      rcases g with g | g
      · rw [g]
      · rw [g]
        cases mg A x <;> rfl
    rw [e] at hQ
    exact hQ σ h
theorem c_cost {x y a b : Int32} (ok : okA A) (h : RC A σ) (hQ : ∀ τ, RC A τ → Q (xCost x y a b A) τ) : wX7_cost x y a b σ Q := by
  unfold wX7_cost
  refine write_c ok h (fun m p m8 g1 g2 hp w s τ r h3 h4 => ?_) (fun g => ?_)
  · rw [if_neg (by decide)]
    obtain ⟨w1, w2⟩ := md_ok (aS A m) (aF A m) w (by omega) (aT A m)
    have fin : ∀ ρ, Rf 34 τ ρ → ρ.1 34 11 = nI (ev a b (mda A m (aP A p))).2 → Q (ρ.1 34 11) ρ := fun ρ f e11 => by
      rw [e11]
      have := hQ ρ (r.s2 (rf_gm f) (fun i e => by unfold Sc; omega) (by omega))
      simpa only [xCost, g1, g2] using this
    exact run_sp (T := mda A m (aP A p)) w1 w2 h4 (fun v hv ρ f e10 e11 => fin ρ f e11) (fun hv ρ f e11 => fin ρ f e11)
  · rw [if_pos rfl]
    have e : xCost x y a b A = -1 := by
      unfold xCost
      rcases g with g | g
      · rw [g]
      · rw [g]
        cases mg A x <;> rfl
    rw [e] at hQ
    exact hQ σ h
theorem c_fires {x y i : Int32} (ok : okA A) (h : RC A σ) (hQ : ∀ τ, RC A τ → Q (xFires x y i A) τ) : wX7_fires x y i σ Q := by
  have bad : xFires x y i A = -1 → Q (-1) σ := fun e => by rw [e] at hQ; exact hQ σ h
  unfold wX7_fires
  refine mk_c ok h (fun m m8 hm e g1 hM => ?_) (fun g1 => ?_)
  rotate_left
  · have bb := bad (by simp only [xFires, g1])
    exact pg_c ok h (fun _ _ _ _ _ _ => opt_n bb) (fun _ => opt_n bb)
  refine pg_c ok h (fun p hp e2 w s g2 => ?_) (fun g2 => ?_)
  rotate_left
  · exact opt_s (opt_n (bad (by simp only [xFires, g1, g2])))
  refine opt_s (opt_s ⟨hM.1, hm_c hM (fun n hn e3 g3 => ?_) (fun g3 => ?_)⟩)
  rotate_left
  · rw [if_pos rfl]
    exact bad (by simp only [xFires, g1, g2]; unfold tg; rw [g3])
  rw [if_neg (by decide)]
  subst e3
  refine firings_sp w (by omega) (by omega) hn h.2.2.2.2.2.2.2 hM (h.1 p hp) (by omega) (fun τ a b g hW => ?_)
  have e : xFires x y (nI n) A = nI (mf (aS A m) (aF A m) n (aP A p)) := by
    simp only [xFires, g1, g2]
    unfold tg
    rw [g3]
  rw [e] at hQ
  exact hQ τ (g16 h g hW.o)
theorem never_lp {m : Nat} (ok : okA A) (m8 : m < 8) (hQ : ∀ τ, RC A τ → Q (nI (bt (nvB A m) (aT A m))) τ) : ∀ (k p : Nat) (σ : Sg), p + k = 20 → RC A σ → wX7_never_24 Q (k + 1) (133 + 3 * m) (nI (bt (fun i => alB (nvP A m i) p) (aT A m))) (nI p) σ := by
  intro k
  induction k with
  | zero =>
    intro p σ hp h
    show wX7_never_24_b (wX7_never_24 Q 0) _ _ (nI p) σ Q
    unfold wX7_never_24_b
    rw [if_pos (show (20 : Int32) ≤ nI p from nI_le (a := 20) (by omega) (by omega)), show p = 20 by omega]
    exact hQ σ h
  | succ k ih =>
    intro p σ hp h
    show wX7_never_24_b (wX7_never_24 Q (k + 1)) _ _ (nI p) σ Q
    unfold wX7_never_24_b wX7_never_59
    rw [if_neg (show ¬ (20 : Int32) ≤ nI p from nI_ge (b := 20) (by omega) (by omega))]
    have pe := pg_at (A := A) (p := p) (by omega)
    refine pg_c ok h (fun p2 hp2 e w s g => opt_s ?_) (fun g => opt_n ?_)
    · have e2 : p = p2 := (nI_eq (by omega) (by omega)).mp e
      subst e2
      have hM := h.2.2.1.2 m m8
      have pw := wf_pos w
      unfold wX6_firingTurns
      refine become_w h.2.2.2.2.2.2.2 (h.1 p hp2) (by omega) (fun τ a b g1 hW => ⟨aT A m + 1, ?_⟩)
      have r1 := g16 h g1 hW.o
      refine turns_lp w (by omega) (by omega) (aT A m) 0 a b τ (by omega) (hM.gm g1 (fun j x y => by omega)) hW (fun ρ a b g2 hW2 => ?_)
      have r2 := g16 r1 g2 hW2.o
      rw [and_not]
      refine lt_i (fun x ex => lt_i (fun y ey => ?_))
      rw [ex, ey, nI_1, bt_cg (h := fun i => alB (nvP A m i) (p + 1)) (aT A m) (fun i hi => ?_)]
      · exact ih (p + 1) ρ (by omega) r2
      · rw [alB]
        congr 1
        unfold nvP
        by_cases z : mf (aS A m) (aF A m) i (aP A p) = 0
        · simp [z]
        · have z1 : ¬ tsz (aP A p) = 0 := by omega
          have z2 : 0 < mf (aS A m) (aF A m) i (aP A p) := by omega
          simp [z, z1, z2]
    · rw [g] at pe
      have z : tsz (aP A p) = 0 := by
        by_cases z : tsz (aP A p) = 0
        · exact z
        · rw [if_neg z] at pe; cases pe
      refine lt_i (fun y ey => ?_)
      rw [ey, nI_1, bt_cg (h := fun i => alB (nvP A m i) (p + 1)) (aT A m) (fun i hi => ?_)]
      · exact ih (p + 1) σ (by omega) h
      · rw [alB]
        have : nvP A m i p = true := decide_eq_true (Or.inl z)
        rw [this, Bool.and_true]
theorem c_never {x : Int32} (ok : okA A) (h : RC A σ) (hQ : ∀ τ, RC A τ → Q (xNever x A) τ) : wX7_never x σ Q := by
  unfold wX7_never
  refine mk_c ok h (fun m m8 hm e g1 hM => opt_s ?_) (fun g1 => opt_n ?_)
  rotate_left
  · simpa only [xNever, g1] using hQ σ h
  rw [hM.2.2.1, all_bit _ hM.2.1]
  refine ⟨hM.1, lt_i (fun y ey => ⟨20 + 1, ?_⟩)⟩
  rw [ey]
  refine never_lp ok m8 (fun τ r => ?_) 20 0 σ (by omega) h
  simpa only [xNever, g1] using hQ τ r
theorem cause_c {m n : Nat} {T : Tr} {a b v : Int32} (ok : okA A) (m8 : m < 8) (hT : wf T) (hs : tsz T ≤ 60) (hn : n = aT A m) : ∀ (k i p q : Nat) (σ : Sg), i + k = n → RC A σ → WkS σ p q (md (aS A m) (aF A m) i T) → σ.1 27 10 = v → (∀ j, j < i → csB (aS A m) (aF A m) a b v T j = false) →
    (∀ j ρ, j < n → csB (aS A m) (aF A m) a b v T j = true → (∀ j', j' < j → csB (aS A m) (aF A m) a b v T j' = false) → RC A ρ → Q (nI j) ρ) → (∀ ρ, (∀ j', j' < n → csB (aS A m) (aF A m) a b v T j' = false) → RC A ρ → Q (-2) ρ) → wX7_cause_66 Q (k + 1) a b (133 + 3 * m) (nI i) σ := by
  intro k
  induction k with
  | zero =>
    intro i p q σ hi h hW h10 hp hy hn'
    have hM := h.2.2.1.2 m m8
    have c10 := hM.2.1
    show wX7_cause_66_b (wX7_cause_66 Q 0) a b (133 + 3 * m) (nI i) σ Q
    unfold wX7_cause_66_b
    rw [hM.2.2.1, if_pos (nI_le (by omega) (by omega))]
    exact ⟨hM.1, hn' σ (fun j hj => hp j (by omega)) h⟩
  | succ k ih =>
    intro i p q σ hi h hW h10 hp hy hn'
    have hM := h.2.2.1.2 m m8
    have c10 := hM.2.1
    obtain ⟨w1, w2⟩ := md_ok (aS A m) (aF A m) hT (by omega) i
    obtain ⟨w3, w4⟩ := md_ok (aS A m) (aF A m) hT (by omega) (i + 1)
    obtain ⟨d1, d2, -, -⟩ := hM.2.2.2 i (by omega)
    show wX7_cause_66_b (wX7_cause_66 Q (k + 1)) a b (133 + 3 * m) (nI i) σ Q
    unfold wX7_cause_66_b
    rw [hM.2.2.1, if_neg (nI_ge (by omega) (by omega))]
    refine ⟨hM.1, so_c hM (by omega) (fa_c hM (by omega) (apply_s d1 d2 w1 hW (fun τ g hW2 => ?_)))⟩
    have r1 := g16 h g hW2.o
    have t10 : τ.1 27 10 = v := by rw [g.1 27 (by omega)]; exact h10
    show wX0_write 34 (τ.2.2 16 2) τ _
    rw [hW2.2.1]
    refine write_sp (T := md (aS A m) (aF A m) (i + 1) T) w3 yc27.2.1 (by have := hW2.1; omega) hW2.2.2.2 (fun ρ g2 h2 => ?_)
    have r2 : RC A ρ := r1.s2 g2 (fun i e => by unfold Sc; unfold S7 at e; omega) (by unfold S7; omega)
    have p10 : ρ.1 27 10 = v := by rw [g2.1 27 (by unfold S7; omega)]; exact t10
    have hW3 := hW2.gm g2 (fun i x y => by unfold S7; omega)
    refine run_sp w3 w4 h2 (fun u hu ξ f e10 _ => ?_) (fun hu ξ f _ => ?_)
    · have r3 : RC A ξ := r2.s2 (rf_gm f) (fun i e => by unfold Sc; omega) (by omega)
      have x10 : ξ.1 27 10 = v := by rw [f.1 27 (by omega) (by omega)]; exact p10
      rw [if_neg (by decide), e10, x10]
      by_cases z : u = v
      · rw [if_pos z]
        refine lt_i (fun x ex => ?_)
        rw [ex, nI_1]
        refine ih (i + 1) q p ξ (by omega) r3 (hW3.gm (rf_gm f) (fun i x y => by omega)) x10 (fun j hj => ?_) hy hn'
        by_cases e2 : j = i
        · subst e2
          unfold csB
          rw [hu, z]
          simp
        · exact hp j (by omega)
      · rw [if_neg z]
        exact hy i ξ (by omega) (by unfold csB; rw [hu]; exact decide_eq_true (fun w => z (Option.some.inj w))) hp r3
    · have r3 : RC A ξ := r2.s2 (rf_gm f) (fun i e => by unfold Sc; omega) (by omega)
      rw [if_pos rfl]
      exact hy i ξ (by omega) (by unfold csB; rw [hu]; rfl) hp r3
theorem c_cause {x y a b : Int32} (ok : okA A) (h : RC A σ) (hQ : ∀ τ, RC A τ → Q (xCause x y a b A) τ) : wX7_cause x y a b σ Q := by
  have bad : xCause x y a b A = -1 → Q (-1) σ := fun e => by rw [e] at hQ; exact hQ σ h
  unfold wX7_cause
  refine mk_c ok h (fun m m8 hm e g1 hM => ?_) (fun g1 => ?_)
  rotate_left
  · have bb := bad (by simp only [xCause, g1])
    exact pg_c ok h (fun _ _ _ _ _ _ => opt_n bb) (fun _ => opt_n bb)
  refine pg_c ok h (fun p hp e2 w s g2 => ?_) (fun g2 => ?_)
  rotate_left
  · exact opt_s (opt_n (bad (by simp only [xCause, g1, g2])))
  refine opt_s (opt_s (write_sp w yc27.1 (by omega) (h.1 p hp) (fun τ g3 h3 => ?_)))
  have r1 : RC A τ := h.s2 g3 (fun i e => by unfold Sc; unfold S7 at e; omega) (by unfold S7; omega)
  refine run_sp w (by omega) h3 (fun v hv ρ f e10 _ => ?_) (fun hv ρ f _ => ?_)
  · rw [if_neg (by decide)]
    have r2 : RC A ρ := r1.s2 (rf_gm f) (fun i e => by unfold Sc; omega) (by omega)
    refine become_w r2.2.2.2.2.2.2.2 (r2.1 p hp) (by omega) (fun ξ pa pb g4 hW => ⟨aT A m + 1, ?_⟩)
    have r3 := g16 r2 g4 hW.o
    refine cause_c (v := v) ok m8 w s rfl (aT A m) 0 pa pb ξ (by omega) r3 hW (by rw [g4.1 27 (by omega)]; exact e10) (fun j hj => by omega) (fun j ζ j1 j2 j3 hζ => ?_) (fun ζ j3 hζ => ?_)
    · have e := fs1_y (P := csB (aS A m) (aF A m) a b v (aP A p)) (aT A m) 0 j (by omega) (by omega) j2 (fun j' _ z => j3 j' z)
      have e2 : xCause x y a b A = nI j := by
        simp only [xCause, g1, g2, hv]
        unfold csB at e
        rw [e]
      have := hQ ζ hζ
      rw [e2] at this
      exact this
    · have e := fs1_n (P := csB (aS A m) (aF A m) a b v (aP A p)) (aT A m) 0 (fun j' _ z => j3 j' (by omega))
      have e2 : xCause x y a b A = -2 := by
        simp only [xCause, g1, g2, hv]
        unfold csB at e
        rw [e]
      have := hQ ζ hζ
      rw [e2] at this
      exact this
  · rw [if_pos rfl]
    have := hQ ρ (r1.s2 (rf_gm f) (fun i e => by unfold Sc; omega) (by omega))
    simpa only [xCause, g1, g2, hv] using this
theorem un_sc {q : Nat} {τ : Sg} (h : RC A σ) (hq : q = 45) (g : Gm (Su q) σ τ) : RC A τ := h.s2 g (fun i e => by unfold Su at e; unfold Sc; omega) (by unfold Su; omega)
theorem leastc_in {m t s n : Nat} {K : Int32 → Int32 → Nat → Int32 → Sg → Prop} {Q : Int64 → Sg → Prop} (ok : okA A) (m8 : m < 8) (ht : t < aT A m) (s1 : 1 ≤ s) (s5 : s ≤ 5)
    (hK : ∀ ρ, RC A ρ → (∀ j, j < cnt s → mf (aS A m) (aF A m) t (ng s j) = 0) → K (nI t) (nI n) (133 + 3 * m) (nI (s + 1)) ρ) (hQ : ∀ i ρ, RC A ρ → i < cnt s → 0 < mf (aS A m) (aF A m) t (ng s i) → (∀ j, j < i → mf (aS A m) (aF A m) t (ng s j) = 0) → Q (lN (16 * i + s)) ρ) :
    ∀ (k i : Nat) (τ : Sg), i + k = cnt s → RC A τ → (∀ j, j < i → mf (aS A m) (aF A m) t (ng s j) = 0) → wX7_least_57 K Q (k + 1) (nI t) (nI n) (133 + 3 * m) (nI s) (lN (cnt s)) (lN i) τ := by
  have cl := (cnt_lt s (by omega)).1
  intro k
  induction k with
  | zero =>
    intro i τ hi h hall
    show wX7_least_57_b K (wX7_least_57 K Q 0) (nI t) (nI n) (133 + 3 * m) (nI s) (lN (cnt s)) (lN i) τ Q
    unfold wX7_least_57_b
    rw [if_pos ((pk_lLE (by omega) (by omega)).mpr (by omega))]
    refine lt_i (fun x ex => ?_)
    rw [ex, nI_1]
    exact hK τ h (fun j hj => hall j (by omega))
  | succ k ih =>
    intro i τ hi h hall
    show wX7_least_57_b K (wX7_least_57 K Q (k + 1)) (nI t) (nI n) (133 + 3 * m) (nI s) (lN (cnt s)) (lN i) τ Q
    unfold wX7_least_57_b
    rw [if_neg (fun z => absurd ((pk_lLE (by omega) (by omega)).mp z) (by omega))]
    obtain ⟨w1, w2⟩ := ng_ok (n := s) (i := i) s1 (by omega) (by omega)
    refine unfold_sp (by omega) s1 (by omega) (by omega) yc27.2.2.1 h.2.2.2.2.2.1 (fun ρ g h2 => ?_)
    have r1 := un_sc h rfl g
    have lm := mf_lt (so := aS A m) (fa := aF A m) w1 (by omega) t
    refine firings_sp w1 (by omega) (by omega) ht r1.2.2.2.2.2.2.2 (r1.2.2.1.2 m m8) h2 (by omega) (fun ξ a b g2 hW => ?_)
    have r2 := g16 r1 g2 hW.o
    by_cases q : mf (aS A m) (aF A m) t (ng s i) = 0
    · rw [q, if_pos (by decide)]
      refine lt_i (fun x ex => ?_)
      rw [ex, lN_1]
      refine ih (i + 1) ξ (by omega) r2 (fun j hj => ?_)
      by_cases e : j = i
      · rw [e]; exact q
      · exact hall j (by omega)
    · rw [if_neg (show ¬ nI (mf (aS A m) (aF A m) t (ng s i)) ≤ (0 : Int32) from nI_ge (a := 0) (by omega) (by omega))]
      rw [show (16 : Int64) = lN 16 from rfl, lN_mul, nI_l (by omega), lN_add]
      exact hQ i ξ r2 (by omega) (by omega) hall
theorem leastc_out {m t n : Nat} {Q : Int64 → Sg → Prop} (ok : okA A) (m8 : m < 8) (ht : t < aT A m) (n5 : n ≤ 5) (P : Nat → Nat → Bool) (hP : P = fun s j => decide (0 < mf (aS A m) (aF A m) t (ng s j))) :
    ∀ (k s : Nat) (τ : Sg), s + k = n + 1 → 1 ≤ s → RC A τ → (∀ s' j ρ, RC A ρ → ls1 P k s = some (s', j) → Q (lN (16 * j + s')) ρ) → (∀ ρ, RC A ρ → ls1 P k s = none → Q (-5) ρ) → wX7_least_37 Q (k + 1) (nI t) (nI n) (133 + 3 * m) (nI s) τ := by
  intro k
  induction k with
  | zero =>
    intro s τ hs s1 h hy hn
    show wX7_least_37_b (wX7_least_37 Q 0) (nI t) (nI n) (133 + 3 * m) (nI s) τ Q
    unfold wX7_least_37_b
    rw [if_pos (nI_lt (by omega) (by omega))]
    exact hn τ h rfl
  | succ k ih =>
    intro s τ hs s1 h hy hn
    show wX7_least_37_b (wX7_least_37 Q (k + 1)) (nI t) (nI n) (133 + 3 * m) (nI s) τ Q
    unfold wX7_least_37_b
    rw [if_neg (nI_nlt (by omega) (by omega))]
    refine many_sp h.2.2.2.2.2.1 (by omega) ⟨cnt s + 1, ?_⟩
    refine leastc_in ok m8 ht s1 (by omega) (fun ρ hρ hall => ?_) (fun i ρ hρ i1 i2 i3 => ?_) (cnt s) 0 τ (by omega) h (fun j hj => by omega)
    · have e : ls1 P (k + 1) s = ls1 P k (s + 1) := by
        rw [ls1, fs1_n (P := P s) (cnt s) 0 (fun j _ hj => by rw [hP]; exact decide_eq_false (by rw [hall j (by omega)]; omega))]
      rw [e] at hy hn
      exact ih (s + 1) ρ (by omega) (by omega) hρ hy hn
    · have e : ls1 P (k + 1) s = some (s, i) := by
        rw [ls1, fs1_y (P := P s) (cnt s) 0 i (by omega) (by omega) (by rw [hP]; exact decide_eq_true i2) (fun j _ hj => by rw [hP]; exact decide_eq_false (by rw [i3 j hj]; omega))]
      exact hy s i ρ hρ e
theorem c_least {x y z : Int32} {Q : Int64 → Sg → Prop} (ok : okA A) (h : RC A σ) (hQ : ∀ τ, RC A τ → Q (xLeast x y z A) τ) : wX7_least x y z σ Q := by
  have bad : xLeast x y z A = -1 → Q (-1) σ := fun e => by rw [e] at hQ; exact hQ σ h
  unfold wX7_least
  refine mk_c ok h (fun m m8 hm e g1 hM => opt_s ?_) (fun g1 => opt_n ?_)
  rotate_left
  · exact bad (by simp only [xLeast, g1])
  refine ⟨hM.1, hm_c hM (fun i hi e2 g2 => ?_) (fun g2 => ?_)⟩
  rotate_left
  · rw [if_pos rfl]
    refine bad ?_
    unfold xLeast
    rw [g1]
    cases iy 1 5 z with
    | none => rfl
    | some w =>
      dsimp only
      unfold tg
      rw [g2]
  rw [if_neg (by decide)]
  refine wi 1 5 1 5 rfl rfl (by omega) (by omega) (fun n n1 n2 e3 g3 => ?_) (fun g3 => ?_)
  rotate_left
  · rw [if_pos rfl]
    exact bad (by simp only [xLeast, g1, g3])
  rw [if_neg (by decide)]
  have E : tg A m y = some i := g2
  refine ⟨n + 1, ?_⟩
  have go := leastc_out (Q := Q) (A := A) ok m8 hi n2 _ rfl n 1 σ (by omega) (by omega) h (fun s j ρ hρ e => by
    have := hQ ρ hρ
    simpa only [xLeast, g1, E, g3, e] using this) (fun ρ hρ e => by
    have := hQ ρ hρ
    simpa only [xLeast, g1, E, g3, e] using this)
  rw [e2, e3]
  exact go
end
