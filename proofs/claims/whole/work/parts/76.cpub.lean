/-! the class's calls: the first lot -/
section
variable {A : Ab} {σ : Sg} {Q : Int32 → Sg → Prop}
theorem c_many {x : Int32} {Q : Int64 → Sg → Prop} (h : RC A σ) (hQ : ∀ τ, RC A τ → Q (xMany x) τ) : wX7_many x σ Q := by
  unfold wX7_many
  refine wi 1 15 1 15 rfl rfl (by omega) (by omega) (fun p p1 p2 e g => ?_) (fun g => ?_)
  · subst e
    rw [if_neg (by decide)]
    refine many_sp h.2.2.2.2.2.1 p2 ?_
    simpa only [xMany, g] using hQ σ h
  · rw [if_pos rfl]
    simpa only [xMany, g] using hQ σ h
theorem ycT : ∀ p, p < 20 → YC.2.1 (53 + 4 * p) = 4 := by decide +kernel
theorem c_nth {x y : Int32} {z : Int64} (h : RC A σ) (hQ : ∀ τ, RC (xNth x y z A).2 τ → Q (xNth x y z A).1 τ) : wX7_nth x y z σ Q := by
  unfold wX7_nth
  refine pl_c (fun p hp e g1 => opt_s ?_) (fun g1 => opt_n ?_)
  rotate_left
  · simpa only [xNth, g1] using hQ σ (by simpa only [xNth, g1] using h)
  subst e
  refine wi 1 15 1 15 rfl rfl (by omega) (by omega) (fun n n1 n2 e g2 => ?_) (fun g2 => ?_)
  rotate_left
  · rw [if_pos rfl]
    simpa only [xNth, g1, g2] using hQ σ (by simpa only [xNth, g1, g2] using h)
  subst e
  rw [if_neg (by decide)]
  have cl := (cnt_lt n (by omega)).1
  have e3 : (0 : Int64).toInt = 0 := by decide
  have ec : (lN (cnt n)).toInt = (cnt n : Int) := pk_lT (by omega)
  have bad : ¬ (0 ≤ z.toInt ∧ z.toInt < (cnt n : Int)) → Q (-1) σ := fun hz => by
    have := hQ σ (by simpa only [xNth, g1, g2, if_neg hz] using h)
    simpa only [xNth, g1, g2, if_neg hz] using this
  by_cases z0 : z < 0
  · rw [if_pos z0]
    rw [Int64.lt_iff_toInt_lt, e3] at z0
    exact bad (by omega)
  rw [if_neg z0]
  rw [Int64.lt_iff_toInt_lt, e3] at z0
  refine many_sp h.2.2.2.2.2.1 n2 ?_
  by_cases z1 : z < lN (cnt n)
  · rw [if_pos z1]
    rw [Int64.lt_iff_toInt_lt, ec] at z1
    have hz : 0 ≤ z.toInt ∧ z.toInt < (cnt n : Int) := by omega
    have ez : z = lN z.toInt.toNat := by
      rw [← Int64.toInt_inj, pk_lT (by omega)]
      omega
    have hi : z.toInt.toNat < cnt n := by omega
    have E : xNth (nI p) (nI n) z A = (nI n, sP A p (ng n z.toInt.toNat)) := by simp only [xNth, g1, g2, if_pos hz]
    rw [E] at hQ
    generalize z.toInt.toNat = i at ez hi hQ
    subst ez
    obtain ⟨w1, w2⟩ := ng_ok (n := n) (i := i) n1 (by omega) hi
    refine unfold_sp n2 n1 hi (by omega) (ycT p hp) h.2.2.2.2.2.1 (fun τ g h2 => ⟨ycT p hp, ?_⟩)
    rw [h2.2.2.2.1, fl_len _ w1, w2]
    refine hQ τ ?_
    have o : OrW τ := h.2.2.2.2.2.2.2.gm g (by unfold Su; omega)
    obtain ⟨h1, ⟨h2', h3, h4⟩, ⟨h5, h6⟩, h7, h8, h9, h10, -⟩ := h
    refine ⟨fun p' hp' => ?_, ⟨h2'.gm g (fun i x y => by unfold Su; omega), ?_, fun i hi => ?_⟩, ⟨?_, fun m hm => (h6 m hm).gm g (fun i x y => by unfold Su; omega)⟩, h7.gm g (fun i x y => by unfold Su; omega), ?_, h9.gm g (by unfold Su; omega) (by unfold Su; omega), h10.gm g (fun i x y => by unfold Su; omega), o⟩
    · show TrR τ (53 + 4 * p') (fl (if p' = p then ng n i else aP A p'))
      by_cases e : p' = p
      · rw [if_pos e, e]; exact h2
      · rw [if_neg e]; exact (h1 p' hp').gm g (fun i x y => by unfold Su; omega)
    · rw [g.1 8 (by unfold Su; omega)]; exact h3
    · rw [g.1 13 (by unfold Su; omega)]; exact h4 i hi
    · rw [g.1 0 (by unfold Su; omega)]; exact h5
    · rw [g.1 0 (by unfold Su; omega)]; exact h8
  · rw [if_neg z1]
    rw [Int64.lt_iff_toInt_lt, ec] at z1
    exact bad (by omega)
theorem c_number {x : Int32} {Q : Int64 → Sg → Prop} (ok : okA A) (h : RC A σ) (hQ : ∀ τ, RC A τ → Q (xNumber x A) τ) : wX7_number x σ Q := by
  unfold wX7_number
  refine pg_c ok h (fun p hp e w s g => opt_s ?_) (fun g => opt_n ?_)
  rotate_left
  · simpa only [xNumber, g] using hQ σ h
  subst e
  have hT := h.1 p hp
  have no : ¬ (tsz (aP A p) ≤ 15 ∧ nuB (aP A p) = true) → Q (-2) σ := fun z => by
    have := hQ σ h
    simpa only [xNumber, g, if_neg z] using this
  unfold wX1_isNumbered
  rw [hT.2.2.2.1, fl_len _ w]
  refine ⟨hT.1, ?_⟩
  by_cases q : tsz (aP A p) ≤ 15
  · rw [if_pos (show nI (tsz (aP A p)) ≤ (15 : Int32) from nI_le (b := 15) q (by omega))]
    refine ⟨tsz (aP A p) + 1, isNum_lp w q hT (fun nb => ?_) (fun nb => ?_) (tsz (aP A p)) 0 (by omega) (fun j _ hj => by omega)⟩
    · rw [if_neg (by decide)]
      refine crank_sp w nb q (by omega) hT h.2.2.2.2.2.1 (fun τ g2 => ?_)
      have := hQ τ (h.s2 g2 (fun i e => by unfold Sc; omega) (by omega))
      simpa only [xNumber, g, if_pos (And.intro q nb)] using this
    · rw [if_pos rfl]
      exact no (fun z => by rw [nb] at z; cases z.2)
  · rw [if_neg (show ¬ nI (tsz (aP A p)) ≤ (15 : Int32) from nI_ge (a := 15) (by omega) (by omega))]
    dsimp only
    rw [if_pos rfl]
    exact no (fun z => q z.1)
theorem c_drop {x : Int32} (ok : okA A) (h : RC A σ) (hQ : ∀ τ, RC (xDrop x A).2 τ → Q (xDrop x A).1 τ) : wX7_drop x σ Q := by
  unfold wX7_drop
  refine pg_c ok h (fun p hp e w s g => opt_s ?_) (fun g => opt_n ?_)
  rotate_left
  · simpa only [xDrop, g] using hQ σ (by simpa only [xDrop, g] using h)
  subst e
  have hT := h.1 p hp
  refine ⟨hT.1, lt_i (fun v ev => clear_sp hT.1 (fun τ g2 h2 => ?_))⟩
  rw [ev, hT.2.2.2.1, fl_len _ w]
  have := hQ τ (by
    simp only [xDrop, g]
    exact h.pl hp g2 (by rw [fl_nl]; exact h2))
  simpa only [xDrop, g] using this
theorem c_read {x y z : Int32} (ok : okA A) (h : RC A σ) (hQ : ∀ τ, RC A τ → Q (xRead x y z A) τ) : wX7_read x y z σ Q := by
  unfold wX7_read
  refine pg_c ok h (fun p hp e w s g => opt_s ?_) (fun g => opt_n ?_)
  · refine tell_c (Or.inl w) (by omega) (h.1 p hp) ?_
    simpa only [xRead, g] using hQ σ h
  · simpa only [xRead, g] using hQ σ h
theorem c_part {x y : Int32} (ok : okA A) (h : RC A σ) (hQ : ∀ τ, RC A τ → Q (tel (aG A) x y) τ) : wX7_part x y σ Q := by
  unfold wX7_part
  exact tell_c ok.2.2.2.2.2.1 ok.2.2.2.2.2.2 h.2.2.2.1 (hQ σ h)
theorem yc27 : YC.2.1 27 = 0 ∧ YC.2.1 34 = 0 ∧ YC.2.1 45 = 4 ∧ YC.2.1 41 = 4 ∧ YC.2.1 19 = 4 ∧ YC.2.1 23 = 4 := by decide +kernel
theorem rf_gm {t : Nat} {τ : Sg} (f : Rf t σ τ) : Gm (fun i => i = t ∨ i = t + 6) σ τ := ⟨fun i hi => f.1 i (fun e => hi (Or.inl e)) (fun e => hi (Or.inr e)), fun i _ => by rw [f.2.2], fun i _ => by rw [f.2.2]⟩
theorem c_value {x a b : Int32} (ok : okA A) (h : RC A σ) (hQ : ∀ τ, RC A τ → Q (xValue x a b A) τ) : wX7_value x a b σ Q := by
  unfold wX7_value
  refine pg_c ok h (fun p hp e w s g => opt_s ?_) (fun g => opt_n ?_)
  rotate_left
  · simpa only [xValue, g] using hQ σ h
  subst e
  refine write_sp w yc27.1 (by omega) (h.1 p hp) (fun τ g2 h2 => ?_)
  have r1 : RC A τ := h.s2 g2 (fun i e => by unfold Sc; unfold S7 at e; omega) (by unfold S7; omega)
  refine run_sp w (by omega) h2 (fun v hv ρ f3 e10 _ => ?_) (fun hv ρ f3 _ => ?_)
  · rw [if_neg (by decide), e10]
    have := hQ ρ (r1.s2 (rf_gm f3) (fun i e => by unfold Sc; omega) (by omega))
    simpa only [xValue, g, hv] using this
  · rw [if_pos rfl]
    have := hQ ρ (r1.s2 (rf_gm f3) (fun i e => by unfold Sc; omega) (by omega))
    simpa only [xValue, g, hv] using this
theorem c_keep {x : Int32} (ok : okA A) (h : RC A σ) (hQ : ∀ τ, RC (xKeep x A).2 τ → Q (xKeep x A).1 τ) : wX7_keep x σ Q := by
  unfold wX7_keep
  refine pl_c (fun p hp e g => opt_s ?_) (fun g => opt_n ?_)
  rotate_left
  · simpa only [xKeep, g] using hQ σ (by simpa only [xKeep, g] using h)
  subst e
  obtain ⟨q1, q2, q3⟩ := h.2.1
  have len := psz_len (aL A) ok.2.1
  have ps := ok.2.2.1
  rw [q2]
  have no : xKeep (nI p) A = (-2, A) → (aL A).length ≠ 1 → (if nI (aL A).length = (1 : Int32) then (YC.2.1 (53 + 4 * p) = 4) ∧ (wX5_become (53 + 4 * p) 9 σ fun σ_5 => (wX3_clear σ_5 fun σ_6 => (Q (σ_6.1 (53 + 4 * p) 3) σ_6))) else Q (-2) σ) := fun e z => by
    rw [if_neg (show ¬ nI (aL A).length = (1 : Int32) from ni_k (c := 1) (by omega) (by omega) z)]
    rw [e] at hQ
    exact hQ σ h
  match hL : aL A with
  | [t] =>
    rw [hL] at q1
    have ht : wf t := ok.2.1 t (by rw [hL]; simp)
    have e : xKeep (nI p) A = (nI (tsz t), sL (sP A p t) []) := by simp only [xKeep, g, hL]
    rw [e] at hQ
    rw [if_pos (show nI [t].length = (1 : Int32) from rfl)]
    simp only [pfl, List.append_nil] at q1
    refine ⟨ycT p hp, become_sp (ycT p hp) q1 (by omega) (fun τ g2 h2 => ?_)⟩
    have r1 := h.pl hp g2 h2
    unfold wX3_clear
    refine clear_sp q1.1 (fun ρ g3 h3 => lt_i (fun ξ eξ => ?_))
    have g4 : Gm (fun i => i = 8) ρ ξ := by rw [eξ]; exact Gm.i 8 _ rfl
    have hp3 : TrR ξ (53 + 4 * p) (fl t) := (h2.gm g3 (fun i x y => by omega)).gm g4 (fun i x y => by omega)
    dsimp only
    rw [hp3.2.2.2.1, fl_len t ht]
    refine hQ ξ (r1.pile (L := []) ((g3.wk (fun i e => by omega)).tr (g4.wk (fun i e => by omega))) (h3.gm g4 (fun i x y => by omega)) ?_ (fun i hi => by simp at hi))
    rw [eξ, sI_1, up_s, ud_s]
    rfl
  | [] =>
    rw [hL] at no
    exact no (by simp only [xKeep, g, hL]) (by simp)
  | a :: b :: l =>
    rw [hL] at no
    exact no (by simp only [xKeep, g, hL]) (by simp)
theorem c_node20 {k : Nat} {v : Int32} (hk : k ≤ 8) (hv : k ≠ 0 → v = 0) (ok : okA A) (h : RC A σ) (hQ : ∀ τ, RC (xNode (nI k) v A).2 τ → Q (xNode (nI k) v A).1 τ) : wX7_node_20 (nI k) v σ Q := by
  have g1 : iy 0 8 (nI k) = some k := iy_y (by omega) (by omega) (by omega)
  have n1 : ¬ (k ≠ 0 ∧ v ≠ 0) := fun z => z.2 (hv z.1)
  obtain ⟨q1, q2, q3⟩ := h.2.1
  have l3 := ary_3 k
  have len := psz_len (aL A) ok.2.1
  have ps := ok.2.2.1
  have flen := pfl_len (aL A) ok.2.1
  unfold wX7_node_20
  refine pO_sp hk ?_
  rw [q2, q1.2.2.2.1, flen]
  by_cases c1 : (aL A).length < ary k
  · rw [if_neg (nI_ge c1 (by omega))]
    have e : xNode (nI k) v A = (-2, A) := by simp only [xNode, g1, if_neg n1, if_pos c1]
    rw [e] at hQ
    exact hQ σ h
  rw [if_pos (nI_le (by omega) (by omega))]
  by_cases c2 : psz (aL A) = 60
  · rw [if_neg (show ¬ nI (psz (aL A)) < (60 : Int32) from nI_nlt (b := 60) (by omega) (by omega))]
    have e : xNode (nI k) v A = (-3, A) := by simp only [xNode, g1, if_neg n1, if_neg c1, if_pos c2]
    rw [e] at hQ
    exact hQ σ h
  rw [if_pos (show nI (psz (aL A)) < (60 : Int32) from nI_lt (b := 60) (by omega) (by omega))]
  generalize hm : (aL A).length - ary k = m
  have e : xNode (nI k) v A = (nI (m + 1), sL A ((aL A).take m ++ [mkN k v ((aL A).drop m)])) := by simp only [xNode, g1, if_neg n1, if_neg c1, if_neg c2, hm]
  rw [e] at hQ
  have hD : ((aL A).drop m).length = ary k := by rw [List.length_drop]; omega
  have hTl : ((aL A).take m).length = m := by rw [List.length_take]; omega
  obtain ⟨m1, m2⟩ := mkN_sp (v := v) hD
  have xl : (pfl ((aL A).take m)).length = psz ((aL A).take m) := pfl_len _ (fun t ht => ok.2.1 t (List.mem_of_mem_take ht))
  have yl : (pfl ((aL A).drop m)).length = psz ((aL A).drop m) := pfl_len _ (fun t ht => ok.2.1 t (List.mem_of_mem_drop ht))
  have pe := psz_take (aL A) m
  have xe := pfl_take (aL A) m
  unfold wX3_put
  refine pO_sp hk ?_
  rw [q2, pk_sub (by omega), hm]
  refine lt_i (fun x ex => ?_)
  rw [ex, if_neg (nI_pos (by omega)), if_pos (show nI m < (60 : Int32) from nI_lt (b := 60) (by omega) (by omega)), ncl (by omega)]
  have fin : wX3_put_45 (nI k) v (nI m) (nI (psz ((aL A).take m))) σ fun σ_3 => Q (σ_3.1 8 2) σ_3 := by
    unfold wX3_put_45
    rw [← xl]
    rw [xe] at q1
    refine insert_sp hk q1 (by omega) (fun τ g2 h2 => ⟨vp_in_nI (by omega) (by omega), lt_i (fun ρ eρ => ?_)⟩)
    rw [ncl (by omega)] at eρ
    refine lt_i (fun ξ eξ => ?_)
    rw [nI_1] at eξ
    have g3 : Gm (fun i => i = 8 ∨ i = 13) τ ξ := by
      rw [eξ, eρ]
      exact (Gm.i (S := fun i => i = 8 ∨ i = 13) 13 _ (Or.inr rfl)).tr (Gm.i 8 _ (Or.inl rfl))
    have x8 : ξ.1 8 2 = nI (m + 1) := by rw [eξ, sI_1, up_s, ud_s]
    dsimp only
    rw [x8]
    refine hQ ξ (h.pile ((g2.wk (fun i e => by omega)).tr (g3.wk (fun i e => by omega))) ?_ ?_ (fun i hi => ?_))
    · rw [pfl_app, pfl, pfl, List.append_nil, m1, ← yl]
      exact h2.gm g3 (fun i x y => by omega)
    · rw [x8, List.length_append, hTl]; rfl
    · rw [List.length_append, hTl, List.length_singleton] at hi
      rw [List.take_append_of_le_length (by omega), List.take_take, Nat.min_eq_left (by omega), eξ, sI_1, up_n _ _ _ _ (by decide), eρ, sI_1, up_s, g2.1 13 (by omega)]
      by_cases ei : i = m
      · rw [ei, ud_s, xl]
      · rw [ud_n _ _ _ _ ei]
        exact q3 i (by omega)
  by_cases qa : ary k = 0
  · have em : m = (aL A).length := by omega
    have ef : psz ((aL A).take m) = psz (aL A) := by rw [em, List.take_length]
    rw [if_pos (nI_le (by omega) (by omega)), q1.2.2.2.1, flen, ← ef]
    exact fin
  · rw [if_neg (nI_ge (by omega) (by omega)), q3 m (by omega)]
    exact ⟨vp_in_nI (by omega) (by omega), fin⟩
theorem c_node {x v : Int32} (ok : okA A) (h : RC A σ) (hQ : ∀ τ, RC (xNode x v A).2 τ → Q (xNode x v A).1 τ) : wX7_node x v σ Q := by
  unfold wX7_node
  refine wi 0 8 0 8 rfl rfl (by omega) (by omega) (fun k k1 k2 e g => ?_) (fun g => ?_)
  rotate_left
  · rw [if_pos rfl]
    simpa only [xNode, g] using hQ σ (by simpa only [xNode, g] using h)
  subst e
  rw [if_neg (by decide)]
  by_cases q : k = 0
  · subst q
    rw [if_pos (by decide)]
    exact c_node20 k2 (fun z => absurd rfl z) ok h hQ
  · rw [if_neg (show ¬ nI k = (0 : Int32) from ni_k (c := 0) (by omega) (by omega) (by omega))]
    by_cases r : v = 0
    · rw [if_pos r]
      exact c_node20 k2 (fun _ => r) ok h hQ
    · rw [if_neg r]
      have e : xNode (nI k) v A = (-1, A) := by simp only [xNode, g, if_pos (And.intro q r)]
      rw [e] at hQ
      exact hQ σ h
theorem c_maker (ok : okA A) (h : RC A σ) (hQ : ∀ τ, RC (xMaker A).2 τ → Q (xMaker A).1 τ) : wX7_maker σ Q := by
  unfold wX7_maker
  have o := ok.2.2.2.1
  rw [h.2.2.1.1]
  by_cases q : aM A = 8
  · rw [q, if_neg (by decide)]
    simpa only [xMaker, if_pos q] using hQ σ (by simpa only [xMaker, if_pos q] using h)
  · rw [if_pos (show nI (aM A) < (8 : Int32) from nI_lt (b := 8) (by omega) (by omega)), nI_1]
    refine lt_i (fun τ eτ => ?_)
    have g : Gm (fun i => i = 0) σ τ := by rw [eτ]; exact Gm.i 0 _ rfl
    have t10 : τ.1 0 10 = nI (aM A + 1) := by rw [eτ, sI_1, up_s, ud_s]
    rw [t10, nI_pred]
    have := hQ τ (by
      simp only [xMaker, if_neg q]
      exact h.mkr (g.wk (fun i e => Or.inl e)) t10 (by rw [eτ, sI_1, up_s, ud_n _ _ _ _ (by decide)]) (fun m hm => (h.2.2.1.2 m hm).gm g (fun i x y => by omega)))
    simpa only [xMaker, if_neg q] using this
theorem c_turn {x y z : Int32} (ok : okA A) (h : RC A σ) (hQ : ∀ τ, RC (xTurn x y z A).2 τ → Q (xTurn x y z A).1 τ) : wX7_turn x y z σ Q := by
  unfold wX7_turn
  refine mk_c ok h (fun m m8 hm e g1 hM => opt_s ?_) (fun g1 => opt_n ?_)
  rotate_left
  · simpa only [xTurn, g1] using hQ σ (by simpa only [xTurn, g1] using h)
  subst e
  refine wi 0 6 0 6 rfl rfl (by omega) (by omega) (fun s s1 s2 e g2 => ?_) (fun g2 => ?_)
  rotate_left
  · rw [if_pos rfl]
    simpa only [xTurn, g1, g2] using hQ σ (by simpa only [xTurn, g1, g2] using h)
  subst e
  rw [if_neg (by decide)]
  refine wi 0 2 0 2 rfl rfl (by omega) (by omega) (fun w w1 w2 e g3 => ?_) (fun g3 => ?_)
  rotate_left
  · rw [if_pos rfl]
    simpa only [xTurn, g1, g2, g3] using hQ σ (by simpa only [xTurn, g1, g2, g3] using h)
  subst e
  rw [if_neg (by decide)]
  obtain ⟨a, b, c, d⟩ := hM
  rw [c]
  refine ⟨a, ?_⟩
  by_cases q : aT A m = 10
  · rw [q, if_neg (by decide)]
    simpa only [xTurn, g1, g2, g3, if_pos q] using hQ σ (by simpa only [xTurn, g1, g2, g3, if_pos q] using h)
  · rw [if_pos (show nI (aT A m) < (10 : Int32) from nI_lt (b := 10) (by omega) (by omega))]
    unfold wX2_addTurn
    rw [c, if_neg (nI_pos (by omega)), if_neg (show ¬ (10 : Int32) ≤ nI (aT A m) from nI_ge (b := 10) (by omega) (by omega)), ncl (by omega)]
    refine ⟨a, vp_in_nI (by omega) (by omega), lt_i (fun p ep => ?_)⟩
    have p2 : p.1 (133 + 3 * m) 2 = nI (aT A m) := by rw [ep, sI_1, up_n _ _ _ _ (by omega)]; exact c
    rw [p2, ncl (by omega)]
    refine ⟨vp_in_nI (by omega) (by omega), lt_i (fun u eu => ?_)⟩
    have u2 : u.1 (133 + 3 * m) 2 = nI (aT A m) := by rw [eu, sI_1, up_n _ _ _ _ (by omega)]; exact p2
    rw [u2, nI_1]
    refine lt_i (fun τ eτ => ?_)
    have t2 : τ.1 (133 + 3 * m) 2 = nI (aT A m + 1) := by rw [eτ, sI_1, up_s, ud_s]
    have r1 : τ.1 (133 + 3 * m + 1) = upd (σ.1 (133 + 3 * m + 1)) (aT A m) (nI s) := by rw [eτ, sI_1, up_n _ _ _ _ (by omega), eu, sI_1, up_n _ _ _ _ (by omega), ep, sI_1, up_s]
    have r2 : τ.1 (133 + 3 * m + 2) = upd (σ.1 (133 + 3 * m + 2)) (aT A m) (nI w) := by rw [eτ, sI_1, up_n _ _ _ _ (by omega), eu, sI_1, up_s, ep, sI_1, up_n _ _ _ _ (by omega)]
    have g : Gm (fun i => 133 + 3 * m ≤ i ∧ i < 133 + 3 * m + 3) σ τ := by
      refine ((Gm.rf.tr (c := p) ?_).tr (c := u) ?_).tr ?_
      · rw [ep]; exact Gm.i _ _ ⟨by omega, by omega⟩
      · rw [eu]; exact Gm.i _ _ ⟨by omega, by omega⟩
      · rw [eτ]; exact Gm.i _ _ ⟨by omega, by omega⟩
    dsimp only
    rw [t2]
    have := hQ τ (by
      simp only [xTurn, g1, g2, g3, if_neg q]
      refine h.mkr (g.wk (fun i e => Or.inr (by omega))) (by rw [g.1 0 (by omega)]; exact h.2.2.1.1) (by rw [g.1 0 (by omega)]) (fun m' hm' => ?_)
      by_cases em : m' = m
      · subst em
        dsimp only
        rw [if_pos rfl]
        refine ⟨a, by omega, t2, fun i hi => ?_⟩
        unfold up2
        rw [r1, r2]
        by_cases ei : i = aT A m'
        · subst ei
          rw [ud_s, ud_s, if_pos ⟨rfl, rfl⟩, if_pos ⟨rfl, rfl⟩]
          exact ⟨s2, w2, rfl, rfl⟩
        · rw [ud_n _ _ _ _ ei, ud_n _ _ _ _ ei, if_neg (fun z => ei z.2), if_neg (fun z => ei z.2)]
          exact d i (by omega)
      · dsimp only
        rw [if_neg em]
        obtain ⟨a', b', c', d'⟩ := (h.2.2.1.2 m' hm').gm g (fun i x y => by omega)
        refine ⟨a', b', c', fun i hi => ?_⟩
        unfold up2
        rw [if_neg (fun z => em z.1), if_neg (fun z => em z.1)]
        exact d' i hi)
    simpa only [xTurn, g1, g2, g3, if_neg q] using this
theorem c_plant {x y z : Int32} (ok : okA A) (h : RC A σ) (hQ : ∀ τ, RC (xPlant x y z A).2 τ → Q (xPlant x y z A).1 τ) : wX7_plant x y z σ Q := by
  unfold wX7_plant
  refine mk_c ok h (fun m m8 hm e g1 hM => opt_s ?_) (fun g1 => opt_n ?_)
  rotate_left
  · have e : xPlant x y z A = (-1, A) := by simp only [xPlant, g1]
    rw [e] at hQ
    exact hQ σ h
  subst e
  refine ⟨hM.1, hm_c hM (fun i hi e g2 => ?_) (fun g2 => ?_)⟩
  rotate_left
  · rw [if_pos rfl]
    have e : xPlant (nI m) y z A = (-1, A) := by
      unfold xPlant
      rw [g1]
      cases iy 0 2 z with
      | none => rfl
      | some w =>
        dsimp only
        unfold tg
        rw [g2]
    rw [e] at hQ
    exact hQ σ h
  subst e
  rw [if_neg (by decide)]
  refine wi 0 2 0 2 rfl rfl (by omega) (by omega) (fun w w1 w2 e g3 => ?_) (fun g3 => ?_)
  rotate_left
  · rw [if_pos rfl]
    simpa only [xPlant, g1, g3] using hQ σ (by simpa only [xPlant, g1, g3] using h)
  subst e
  rw [if_neg (by decide)]
  have b10 := hM.2.1
  refine fa_c hM hi ?_
  unfold wX2_setFault
  refine ⟨hM.1, hm_c hM (fun j hj e _ => ?_) (fun z => ?_)⟩
  · rw [if_neg (by decide), ncl (by omega)]
    refine ⟨vp_in_nI (by omega) (by omega), lt_i (fun τ eτ => ?_)⟩
    have g : Gm (fun j => j = 133 + 3 * m + 2) σ τ := by rw [eτ]; exact Gm.i _ _ rfl
    have r2 : τ.1 (133 + 3 * m + 2) = upd (σ.1 (133 + 3 * m + 2)) i (nI w) := by rw [eτ, sI_1, up_s]
    have e2 : xPlant (nI m) (nI i) (nI w) A = (nI (aF A m i), sM A (aM A, aT A, aS A, up2 (aF A) m i w)) := by
      simp only [xPlant, g1, g3]
      unfold tg
      rw [g2]
    rw [e2] at hQ
    refine hQ τ (h.mkr (g.wk (fun i e => Or.inr (by omega))) (by rw [g.1 0 (by omega)]; exact h.2.2.1.1) (by rw [g.1 0 (by omega)]) (fun m' hm' => ?_))
    by_cases em : m' = m
    · subst em
      obtain ⟨a, b, c, d⟩ := hM
      refine ⟨a, b, by rw [g.1 _ (by omega)]; exact c, fun i' hi' => ?_⟩
      obtain ⟨d1, d2, d3, d4⟩ := d i' hi'
      rw [g.1 (133 + 3 * m' + 1) (by omega), r2]
      show _ ∧ up2 (aF A) m' i w m' i' ≤ 2 ∧ _ ∧ _ = nI (up2 (aF A) m' i w m' i')
      unfold up2
      by_cases ei : i' = i
      · subst ei
        rw [ud_s, if_pos ⟨rfl, rfl⟩]
        exact ⟨d1, w2, d3, rfl⟩
      · rw [ud_n _ _ _ _ ei, if_neg (fun z => ei z.2)]
        exact ⟨d1, d2, d3, d4⟩
    · obtain ⟨a', b', c', d'⟩ := (h.2.2.1.2 m' hm').gm g (fun i x y => by omega)
      refine ⟨a', b', c', fun i' hi' => ?_⟩
      show _ ∧ up2 (aF A) m i w m' i' ≤ 2 ∧ _ ∧ _ = nI (up2 (aF A) m i w m' i')
      unfold up2
      rw [if_neg (fun z => em z.1)]
      exact d' i' hi'
  · rw [iy_y (p := i) (by omega) (by omega) (by omega)] at z
    cases z
theorem c_of {x y : Int32} (ok : okA A) (h : RC A σ) (hQ : ∀ τ, RC A τ → Q (xOf x y A) τ) : wX7_ofMaker x y σ Q := by
  unfold wX7_ofMaker
  have hQ := hQ σ h
  refine mk_c ok h (fun m m8 hm e g1 hM => opt_s ?_) (fun g1 => opt_n ?_)
  rotate_left
  · simpa only [xOf, g1] using hQ
  subst e
  simp only [xOf, g1] at hQ
  by_cases q : y = -1
  · rw [if_pos q] at hQ ⊢
    rw [hM.2.2.1]
    exact ⟨hM.1, hQ⟩
  · rw [if_neg q] at hQ ⊢
    refine ⟨hM.1, hm_c hM (fun i hi e g2 => ?_) (fun g2 => ?_)⟩
    · rw [if_neg (by decide)]
      unfold tg at hQ
      rw [g2] at hQ
      rw [e]
      refine so_c hM hi (fa_c hM hi ?_)
      rw [show (10 : Int32) = nI 10 from rfl, pk_mul, nI_add]
      exact hQ
    · rw [if_pos rfl]
      unfold tg at hQ
      rw [g2] at hQ
      exact hQ
theorem c_steps (h : RC A σ) (hQ : ∀ τ, RC A τ → Q (aD A) τ) : wX7_steps σ Q := by
  unfold wX7_steps
  rw [h.2.2.2.2.1]
  exact hQ σ h
theorem pg_at {p : Nat} (hp : p < 20) : pg A (nI p) = if tsz (aP A p) = 0 then none else some p := by
  unfold pg
  rw [iy_y (by omega) (by omega) (by omega)]
theorem kept_lp (ok : okA A) (h : RC A σ) (hQ : Q (nI (ctB (fun p => decide (tsz (aP A p) ≠ 0)) 20)) σ) : ∀ (k p : Nat), p + k = 20 → wX7_keptPrograms_4 Q (k + 1) (nI (ctB (fun p => decide (tsz (aP A p) ≠ 0)) p)) (nI p) σ := by
  intro k
  induction k with
  | zero =>
    intro p hp
    show wX7_keptPrograms_4_b (wX7_keptPrograms_4 Q 0) _ (nI p) σ Q
    unfold wX7_keptPrograms_4_b
    rw [if_pos (show (20 : Int32) ≤ nI p from nI_le (a := 20) (by omega) (by omega)), show p = 20 by omega]
    exact hQ
  | succ k ih =>
    intro p hp
    show wX7_keptPrograms_4_b (wX7_keptPrograms_4 Q (k + 1)) _ (nI p) σ Q
    unfold wX7_keptPrograms_4_b wX7_keptPrograms_21
    rw [if_neg (show ¬ (20 : Int32) ≤ nI p from nI_ge (b := 20) (by omega) (by omega))]
    have := ih (p + 1) (by omega)
    rw [ctB] at this
    have pe := pg_at (A := A) (p := p) (by omega)
    refine pg_c ok h (fun p2 hp2 e w s g => opt_s ?_) (fun g => opt_n ?_)
    · rw [g] at pe
      have z : tsz (aP A p) ≠ 0 := fun z => by rw [if_pos z] at pe; cases pe
      rw [if_pos (show decide (tsz (aP A p) ≠ 0) = true by simp [z])] at this
      refine lt_i (fun x ex => lt_i (fun y ey => ?_))
      rw [ex, ey, nI_1, nI_1]
      exact this
    · rw [g] at pe
      have z : tsz (aP A p) = 0 := by
        by_cases z : tsz (aP A p) = 0
        · exact z
        · rw [if_neg z] at pe; cases pe
      rw [if_neg (show ¬ decide (tsz (aP A p) ≠ 0) = true by simp [z])] at this
      refine lt_i (fun y ey => ?_)
      rw [ey, nI_1]
      exact this
theorem nodes_lp (ok : okA A) (h : RC A σ) (hQ : Q (nI (smN (fun p => tsz (aP A p)) 20)) σ) : ∀ (k p : Nat), p + k = 20 → wX7_keptNodes_4 Q (k + 1) (nI (smN (fun p => tsz (aP A p)) p)) (nI p) σ := by
  intro k
  induction k with
  | zero =>
    intro p hp
    show wX7_keptNodes_4_b (wX7_keptNodes_4 Q 0) _ (nI p) σ Q
    unfold wX7_keptNodes_4_b
    rw [if_pos (show (20 : Int32) ≤ nI p from nI_le (a := 20) (by omega) (by omega)), show p = 20 by omega]
    exact hQ
  | succ k ih =>
    intro p hp
    show wX7_keptNodes_4_b (wX7_keptNodes_4 Q (k + 1)) _ (nI p) σ Q
    unfold wX7_keptNodes_4_b wX7_keptNodes_27
    rw [if_neg (show ¬ (20 : Int32) ≤ nI p from nI_ge (b := 20) (by omega) (by omega))]
    have := ih (p + 1) (by omega)
    rw [smN] at this
    have pe := pg_at (A := A) (p := p) (by omega)
    refine pg_c ok h (fun p2 hp2 e w s g => opt_s ?_) (fun g => opt_n ?_)
    · have e2 : p = p2 := (nI_eq (by omega) (by omega)).mp e
      subst e2
      have hT := h.1 p hp2
      refine ⟨hT.1, ?_⟩
      rw [hT.2.2.2.1, fl_len _ w, nI_add]
      refine lt_i (fun x ex => lt_i (fun y ey => ?_))
      rw [ex, ey, nI_1]
      exact this
    · rw [g] at pe
      have z : tsz (aP A p) = 0 := by
        by_cases z : tsz (aP A p) = 0
        · exact z
        · rw [if_neg z] at pe; cases pe
      rw [z, Nat.add_zero] at this
      refine lt_i (fun y ey => ?_)
      rw [ey, nI_1]
      exact this
theorem c_count {x : Int32} (ok : okA A) (h : RC A σ) (hQ : ∀ τ, RC A τ → Q (xCount x A) τ) : wX7_count x σ Q := by
  unfold wX7_count wX7_keptPrograms wX7_keptNodes
  have hQ := hQ σ h
  obtain ⟨q1, q2, q3⟩ := h.2.1
  have flen := pfl_len (aL A) ok.2.1
  unfold xCount at hQ
  by_cases q0 : x = 0
  · rw [if_pos q0] at hQ ⊢
    exact ⟨20 + 1, kept_lp (Q := fun r σ => Q r σ) ok h hQ 20 0 (by omega)⟩
  rw [if_neg q0] at hQ ⊢
  by_cases q1' : x = 1
  · rw [if_pos q1'] at hQ ⊢
    rw [h.2.2.1.1]
    exact hQ
  rw [if_neg q1'] at hQ ⊢
  by_cases q2' : x = 2
  · rw [if_pos q2'] at hQ ⊢
    rw [q2]
    exact hQ
  rw [if_neg q2'] at hQ ⊢
  by_cases q3' : x = 3
  · rw [if_pos q3'] at hQ ⊢
    rw [q1.2.2.2.1, flen]
    exact hQ
  rw [if_neg q3'] at hQ ⊢
  by_cases q4 : x = 4
  · rw [if_pos q4] at hQ ⊢
    exact ⟨20 + 1, nodes_lp (Q := fun r σ => Q r σ) ok h hQ 20 0 (by omega)⟩
  · rw [if_neg q4] at hQ ⊢
    exact hQ
end
