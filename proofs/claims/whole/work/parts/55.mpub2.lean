/-! the reference's calls: number, node, keep, breed, maker, turn, plant -/
theorem fl_kd : ∀ t, wn t → ∀ e, e ∈ fl t → e.1 ≤ 8 := by
  apply wf_gen
  · intro e h
    rw [fl_nl] at h
    cases h
  · intro k v x y z hw ix iy iz e h
    rw [fl_nd] at h
    rw [wf_nd] at hw
    rcases List.mem_cons.mp h with h | h
    · rw [h]; exact hw.1
    · rcases List.mem_append.mp h with h | h
      · exact ix e h
      · rcases List.mem_append.mp h with h | h
        · exact iy e h
        · exact iz e h
def nuE (e : En) : Bool := e.1 != 0 || e.2.1 == 0 || e.2.1 == 1 || e.2.1 == 2
theorem nuE_y (e : En) : nuE e = true ↔ (e.1 = 0 → ∃ i, i < 3 ∧ e.2.1 = nI i) := by
  unfold nuE
  constructor
  · intro h h0
    rw [h0] at h
    simp only [bne_self_eq_false, Bool.false_or, Bool.or_eq_true, beq_iff_eq] at h
    rcases h with (h | h) | h
    · exact ⟨0, by omega, h⟩
    · exact ⟨1, by omega, h⟩
    · exact ⟨2, by omega, h⟩
  · intro h
    by_cases q : e.1 = 0
    · obtain ⟨i, i1, i2⟩ := h q
      have i3 : i = 0 ∨ i = 1 ∨ i = 2 := by omega
      rw [q, i2]
      rcases i3 with rfl | rfl | rfl <;> decide
    · simp [q]
theorem nuB_all (t : Tr) : nuB t = (fl t).all nuE := rfl
theorem nuB_nb : ∀ t, wn t → ((fl t).all nuE = true ↔ nb t) := by
  apply wf_gen
  · rw [fl_nl]
    simp [nl, nb]
  · intro k v x y z hw ix iy iz
    rw [fl_nd, nb_nd, List.all_cons, List.all_append, List.all_append, Bool.and_eq_true, Bool.and_eq_true, Bool.and_eq_true, ix, iy, iz, nuE_y]
theorem number_loop {d : Nat} {t : Tr} {Q : Int64 → Sg → Prop} (ht : wf t) (hs : tsz t ≤ 15) (hd : 15 ≤ d) {σ : Sg} (hh : hdR σ (fl t)) (hc : cn0 σ) (h1 : nuB t = true → ∀ ρ τ, Fj σ ρ → cnR ρ → Fm [1, 2, 3, 4, 5, 6] [1, 18] ρ τ → Q (lN (rk t)) τ) (h2 : nuB t = false → Q (-2) σ) : ∀ (k i : Nat), i + k = tsz t → (∀ j (hj : j < (fl t).length), j < i → nuE (fl t)[j] = true) → wX8_number_32 d Q (k + 1) (nI i) σ := by
  have len := fl_len t ht
  intro k
  induction k with
  | zero =>
    intro i hi hp
    show wX8_number_32_b d (wX8_number_32 d Q 0) (nI i) σ Q
    unfold wX8_number_32_b
    rw [hh.1, if_pos (nI_le (by omega) (by omega))]
    have al : nuB t = true := by
      rw [nuB_all, List.all_eq_true]
      intro e he
      obtain ⟨j, hj, rfl⟩ := List.getElem_of_mem he
      exact hp j hj (by omega)
    refine count0_sp hc (fun ρ f c => ?_)
    refine tree_sp ht (by omega) (by omega) (by rw [f.1]; exact hh.2) (fun n τ n1 f2 n2 r1 => ?_)
    have hb := (nuB_nb t (Or.inl ht)).mp al
    exact rank_sp t ht hb hs d (by omega) τ _ (tsz t) _ (by omega) (c.fm f2) r1 (h1 al ρ τ f c f2)
  | succ k ih =>
    intro i hi hp
    have hl : i < (fl t).length := by omega
    obtain ⟨r1, r2⟩ := hh.2.at hl
    rw [Nat.zero_add] at r1 r2
    have k8 := fl_kd t (Or.inl ht) _ (List.getElem_mem hl)
    have nxt : nuE (fl t)[i] = true → wX8_number_70 d (wX8_number_32 d Q (k + 1)) (nI i) σ Q := fun q => by
      unfold wX8_number_70
      refine lt_i (fun x ex => ?_)
      rw [ex, nI_1]
      refine ih (i + 1) (by omega) (fun j hj hji => ?_)
      by_cases e : j = i
      · subst e; exact q
      · exact hp j hj (by omega)
    show wX8_number_32_b d (wX8_number_32 d Q (k + 1)) (nI i) σ Q
    unfold wX8_number_32_b
    rw [hh.1, if_neg (nI_ge (by omega) (by omega))]
    refine ⟨vp_in_nI (by omega) (by omega), ?_⟩
    rw [ncl (by omega), r1, r2]
    by_cases q : (fl t)[i].1 = 0
    · rw [q, if_pos (by decide)]
      refine in_sp 0 2 (by omega) (by omega) (fun p _ p2 e => ?_) (fun z => ?_)
      · rw [if_neg (by decide)]
        exact nxt ((nuE_y _).mpr (fun _ => ⟨p, by omega, e⟩))
      · rw [if_pos rfl]
        refine h2 ?_
        cases w : nuB t with
        | false => rfl
        | true =>
          rw [nuB_all, List.all_eq_true] at w
          obtain ⟨j, j1, j2⟩ := (nuE_y _).mp (w _ (List.getElem_mem hl)) q
          exact (z j (by omega) (by omega) j2).elim
    · rw [if_neg (show ¬ nI (fl t)[i].1 = (0 : Int32) from ni_k (c := 0) (by omega) (by omega) (by omega))]
      exact nxt ((nuE_y _).mpr (fun z => absurd z q))
section
variable {A : Ab} {σ : Sg} {d : Nat} {Q : Int32 → Sg → Prop}
theorem m_number {x : Int32} {Q : Int64 → Sg → Prop} (hd : 200 ≤ d) (ok : okA A) (h : RM A σ) (hQ : ∀ τ, RM A τ → Q (xNumber x A) τ) : wX8_number d x σ Q := by
  unfold wX8_number
  refine has_pg ok h (fun p hp e w s g => ?_) (fun g => ?_)
  rotate_left
  · rw [if_pos rfl]
    simpa only [xNumber, g] using hQ σ h
  subst e
  rw [if_neg (by decide)]
  refine take_sp hp (h.1 p hp) (fun τ f hh => ?_)
  have hr : RM A τ := h.sc f (by simp) (by simp)
  rw [hh.1, fl_len _ w]
  by_cases q : tsz (aP A p) ≤ 15
  · rw [if_pos (show nI (tsz (aP A p)) ≤ (15 : Int32) from nI_le (b := 15) q (by omega))]
    refine ⟨tsz (aP A p) + 1, ?_⟩
    refine number_loop w q (by omega) hh hr.2.2.2.2.2 (fun nb ρ τ2 f1 c f2 => ?_) (fun nb => ?_) (tsz (aP A p)) 0 (by omega) (fun j _ hj => by omega)
    · have := hQ τ2 ((hr.fj f1 c).sc f2 (by simp) (by simp))
      simpa only [xNumber, g, if_pos (And.intro q nb)] using this
    · have := hQ τ hr
      simpa only [xNumber, g, if_neg (show ¬ (tsz (aP A p) ≤ 15 ∧ nuB (aP A p) = true) from fun z => by rw [nb] at z; cases z.2)] using this
  · rw [if_neg (show ¬ nI (tsz (aP A p)) ≤ (15 : Int32) from nI_ge (a := 15) (by omega) (by omega))]
    have := hQ τ hr
    simpa only [xNumber, g, if_neg (show ¬ (tsz (aP A p) ≤ 15 ∧ nuB (aP A p) = true) from fun z => q z.1)] using this
/-- THE PILE alone is changed -/
theorem RM.pile {L : List Tr} {τ : Sg} (h : RM A σ) (f : Fm [13, 14, 15] [20, 24] σ τ) (g1 : τ.1 0 20 = nI L.length) (g2 : τ.1 0 24 = nI (psz L)) (g3 : Rw (τ.1 14) (τ.1 15) 0 (pfl L)) (g4 : ∀ i, i < L.length → τ.1 13 i = nI (psz (L.take i))) : RM (sL A L) τ := by
  obtain ⟨h1, -, ⟨h6, h7⟩, ⟨h8, h9⟩, h10, h11⟩ := h
  have r : ∀ i, i ≠ 0 → i ∉ [13, 14, 15] → τ.1 i = σ.1 i := f.1
  refine ⟨fun p' hp' => ?_, ⟨g1, g2, g3, g4⟩, ⟨?_, ?_⟩, ⟨?_, ?_⟩, ?_, ?_⟩
  · obtain ⟨a, b, c⟩ := h1 p' hp'
    exact ⟨a, by rw [r 7 (by simp) (by simp)]; exact b, by rw [r 8 (by simp) (by simp), r 9 (by simp) (by simp)]; exact c⟩
  · rw [f.2.1 27 (by simp)]; exact h6
  · rw [r 18 (by simp) (by simp), r 19 (by simp) (by simp), r 20 (by simp) (by simp)]; exact h7
  · rw [f.2.1 31 (by simp)]; exact h8
  · rw [r 21 (by simp) (by simp), r 22 (by simp) (by simp), r 23 (by simp) (by simp)]; exact h9
  · rw [f.2.1 35 (by simp)]; exact h10
  · unfold cn0 cnR at h11 ⊢
    rw [f.2.2]; exact h11
/-- the makers alone are changed -/
theorem RM.mkr {M : Mk} {τ : Sg} (h : RM A σ) (f : Fm [18, 19, 20] [27] σ τ) (g1 : τ.1 0 27 = nI M.1) (g2 : ∀ m, m < 8 → τ.1 18 m = nI (M.2.1 m) ∧ ∀ i, i < M.2.1 m → τ.1 19 (10 * m + i) = nI (M.2.2.1 m i) ∧ τ.1 20 (10 * m + i) = nI (M.2.2.2 m i)) : RM (sM A M) τ := by
  obtain ⟨h1, ⟨h2, h3, h4, h5⟩, -, ⟨h8, h9⟩, h10, h11⟩ := h
  have r : ∀ i, i ≠ 0 → i ∉ [18, 19, 20] → τ.1 i = σ.1 i := f.1
  refine ⟨fun p' hp' => ?_, ⟨?_, ?_, ?_, ?_⟩, ⟨g1, g2⟩, ⟨?_, ?_⟩, ?_, ?_⟩
  · obtain ⟨a, b, c⟩ := h1 p' hp'
    exact ⟨a, by rw [r 7 (by simp) (by simp)]; exact b, by rw [r 8 (by simp) (by simp), r 9 (by simp) (by simp)]; exact c⟩
  · rw [f.2.1 20 (by simp)]; exact h2
  · rw [f.2.1 24 (by simp)]; exact h3
  · rw [r 14 (by simp) (by simp), r 15 (by simp) (by simp)]; exact h4
  · rw [r 13 (by simp) (by simp)]; exact h5
  · rw [f.2.1 31 (by simp)]; exact h8
  · rw [r 21 (by simp) (by simp), r 22 (by simp) (by simp), r 23 (by simp) (by simp)]; exact h9
  · rw [f.2.1 35 (by simp)]; exact h10
  · unfold cn0 cnR at h11 ⊢
    rw [f.2.2]; exact h11
theorem m_maker (ok : okA A) (h : RM A σ) (hQ : ∀ τ, RM (xMaker A).2 τ → Q (xMaker A).1 τ) : wX8_maker σ Q := by
  unfold wX8_maker
  have e := h.2.2.1.1
  have o := ok.2.2.2.1
  rw [e]
  by_cases q : aM A = 8
  · rw [q, if_pos (by decide)]
    simpa only [xMaker, if_pos q] using hQ σ (by simpa only [xMaker, if_pos q] using h)
  · rw [if_neg (show ¬ nI (aM A) = (8 : Int32) from ni_k (c := 8) (by omega) (by omega) (by omega))]
    refine lt_i (fun τ eτ => ?_)
    have t27 : τ.1 0 27 = nI (aM A + 1) := by rw [eτ, sI_1, up_s, ud_s]; exact nI_1 _
    rw [t27, nI_pred]
    have := hQ τ (by
      simp only [xMaker, if_neg q]
      refine h.mkr (by rw [eτ]; exact Fm.put 27 _ (by simp)) t27 (fun m hm => ?_)
      rw [eτ, sI_1, up_n _ _ _ _ (by simp), up_n _ _ _ _ (by simp), up_n _ _ _ _ (by simp)]
      exact h.2.2.1.2 m hm)
    simpa only [xMaker, if_neg q] using this
theorem m_turn {x y z : Int32} (ok : okA A) (h : RM A σ) (hQ : ∀ τ, RM (xTurn x y z A).2 τ → Q (xTurn x y z A).1 τ) : wX8_turn x y z σ Q := by
  unfold wX8_turn
  refine mk_mg ok h (fun m m8 hm e g1 => ?_) (fun g1 => ?_)
  rotate_left
  · rw [if_pos rfl]
    simpa only [xTurn, g1] using hQ σ (by simpa only [xTurn, g1] using h)
  subst e
  rw [if_neg (by decide)]
  refine in_iy 0 6 0 6 rfl rfl (by omega) (by omega) (fun s s1 s2 e g2 => ?_) (fun g2 => ?_)
  rotate_left
  · rw [if_pos rfl]
    simpa only [xTurn, g1, g2] using hQ σ (by simpa only [xTurn, g1, g2] using h)
  subst e
  rw [if_neg (by decide)]
  refine in_iy 0 2 0 2 rfl rfl (by omega) (by omega) (fun w w1 w2 e g3 => ?_) (fun g3 => ?_)
  rotate_left
  · rw [if_pos rfl]
    simpa only [xTurn, g1, g2, g3] using hQ σ (by simpa only [xTurn, g1, g2, g3] using h)
  subst e
  rw [if_neg (by decide)]
  obtain ⟨a1, a2⟩ := h.2.2.1.2 m m8
  obtain ⟨b1, b2⟩ := ok.2.2.2.2.1 m m8
  refine ⟨vp_in_nI m8 (by omega), ?_⟩
  rw [ncl (by omega), a1]
  by_cases q : aT A m = 10
  · rw [q, if_pos (by decide)]
    simpa only [xTurn, g1, g2, g3, if_pos q] using hQ σ (by simpa only [xTurn, g1, g2, g3, if_pos q] using h)
  · rw [if_neg (show ¬ nI (aT A m) = (10 : Int32) from ni_k (c := 10) (by omega) (by omega) (by omega))]
    have e : 10 * nI m + nI (aT A m) = nI (10 * m + aT A m) := by rw [show (10 : Int32) = nI 10 from rfl, pk_mul, nI_add]
    rw [e]
    refine ⟨vp_in_nI (by omega) (by omega), lt_i (fun a ea => ?_)⟩
    rw [ncl (by omega)] at ea
    have a18 : a.1 18 = σ.1 18 := by rw [ea, sI_1, up_n _ _ _ _ (by decide)]
    rw [a18, a1, e]
    refine ⟨vp_in_nI (by omega) (by omega), lt_i (fun b eb => ?_)⟩
    rw [ncl (by omega)] at eb
    have b18 : b.1 18 = σ.1 18 := by rw [eb, sI_1, up_n _ _ _ _ (by decide)]; exact a18
    rw [b18, a1, nI_1]
    refine lt_i (fun τ eτ => ?_)
    have t18 : τ.1 18 = upd (σ.1 18) m (nI (aT A m + 1)) := by rw [eτ, sI_1, up_s]
    have t19 : τ.1 19 = upd (σ.1 19) (10 * m + aT A m) (nI s) := by rw [eτ, sI_1, up_n _ _ _ _ (by decide), eb, sI_1, up_n _ _ _ _ (by decide), ea, sI_1, up_s]
    have t20 : τ.1 20 = upd (σ.1 20) (10 * m + aT A m) (nI w) := by rw [eτ, sI_1, up_n _ _ _ _ (by decide), eb, sI_1, up_s, ea, sI_1, up_n _ _ _ _ (by decide)]
    have fa : Fm [18, 19, 20] [27] σ a := by rw [ea]; exact Fm.row 19 _ (by decide) (by simp)
    have fb : Fm [18, 19, 20] [27] a b := by rw [eb]; exact Fm.row 20 _ (by decide) (by simp)
    have ft : Fm [18, 19, 20] [27] b τ := by rw [eτ]; exact Fm.row 18 _ (by decide) (by simp)
    have fz := (fa.tr fb).tr ft
    rw [t18, ud_s]
    have := hQ τ (by
      simp only [xTurn, g1, g2, g3, if_neg q]
      refine h.mkr fz ?_ (fun m' hm' => ?_)
      · rw [eτ, sI_1, up_n _ _ _ _ (by decide), eb, sI_1, up_n _ _ _ _ (by decide), ea, sI_1, up_n _ _ _ _ (by decide)]
        exact h.2.2.1.1
      · obtain ⟨c1, c2⟩ := h.2.2.1.2 m' hm'
        obtain ⟨d1, d2⟩ := ok.2.2.2.2.1 m' hm'
        rw [t18, t19, t20]
        dsimp only
        by_cases em : m' = m
        · subst em
          rw [if_pos rfl, ud_s]
          refine ⟨rfl, fun i hi => ?_⟩
          unfold up2
          by_cases ei : i = aT A m'
          · subst ei
            rw [ud_s, ud_s, if_pos ⟨rfl, rfl⟩, if_pos ⟨rfl, rfl⟩]
            exact ⟨rfl, rfl⟩
          · rw [ud_n _ _ _ _ (by omega), ud_n _ _ _ _ (by omega), if_neg (fun z => ei z.2), if_neg (fun z => ei z.2)]
            exact c2 i (by omega)
        · rw [if_neg em, ud_n _ _ _ _ em]
          refine ⟨c1, fun i hi => ?_⟩
          unfold up2
          rw [ud_n _ _ _ _ (by omega), ud_n _ _ _ _ (by omega), if_neg (fun z => em z.1), if_neg (fun z => em z.1)]
          exact c2 i hi)
    simpa only [xTurn, g1, g2, g3, if_neg q] using this
theorem m_plant {x y z : Int32} (ok : okA A) (h : RM A σ) (hQ : ∀ τ, RM (xPlant x y z A).2 τ → Q (xPlant x y z A).1 τ) : wX8_plant x y z σ Q := by
  unfold wX8_plant
  refine mk_tg ok h (fun m i m8 hm hi e1 e2 g1 g2 => ?_) (fun g => ?_)
  rotate_left
  · rw [if_pos rfl]
    have e : xPlant x y z A = (-1, A) := by
      unfold xPlant
      rcases g with g | ⟨m, g, g2⟩
      · rw [g]
      · rw [g]
        cases iy 0 2 z with
        | none => rfl
        | some w => dsimp only; rw [g2]
    rw [e] at hQ
    exact hQ σ h
  subst e1
  subst e2
  rw [if_neg (by decide)]
  refine in_iy 0 2 0 2 rfl rfl (by omega) (by omega) (fun w w1 w2 e g3 => ?_) (fun g3 => ?_)
  rotate_left
  · rw [if_pos rfl]
    simpa only [xPlant, g1, g3] using hQ σ (by simpa only [xPlant, g1, g3] using h)
  subst e
  rw [if_neg (by decide)]
  obtain ⟨a1, a2⟩ := h.2.2.1.2 m m8
  obtain ⟨b1, b2⟩ := ok.2.2.2.2.1 m m8
  have e : 10 * nI m + nI i = nI (10 * m + i) := by rw [show (10 : Int32) = nI 10 from rfl, pk_mul, nI_add]
  rw [e]
  refine ⟨vp_in_nI (by omega) (by omega), ?_⟩
  rw [ncl (by omega), (a2 i hi).2]
  refine lt_i (fun v ev => lt_i (fun τ eτ => ?_))
  rw [ev]
  have := hQ τ (by
    simp only [xPlant, g1, g2, g3]
    refine h.mkr (by rw [eτ]; exact Fm.row 20 _ (by decide) (by simp)) ?_ (fun m' hm' => ?_)
    · rw [eτ, sI_1, up_n _ _ _ _ (by decide)]; exact h.2.2.1.1
    · obtain ⟨c1, c2⟩ := h.2.2.1.2 m' hm'
      obtain ⟨d1, d2⟩ := ok.2.2.2.2.1 m' hm'
      rw [eτ, sI_1, up_n _ _ _ _ (by decide), up_n _ _ _ _ (by decide), up_s]
      refine ⟨c1, fun i' hi' => ⟨(c2 i' hi').1, ?_⟩⟩
      dsimp only
      unfold up2
      by_cases ei : m' = m ∧ i' = i
      · obtain ⟨rfl, rfl⟩ := ei
        rw [ud_s, if_pos ⟨rfl, rfl⟩]
      · rw [if_neg ei, ud_n _ _ _ _ (fun z => ei ?_)]
        · exact (c2 i' hi').2
        · have z2 : i' < aT A m' := hi'
          omega)
  simpa only [xPlant, g1, g2, g3] using this
end
