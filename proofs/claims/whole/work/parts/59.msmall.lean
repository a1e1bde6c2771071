/-! the reference's calls: small -/
/-- nodes that are not the number 0 -/
def cz (xs : List (Nat × Int32)) : Nat := xs.countP (fun e => !(e.1 == 0 && e.2 == 0))
theorem cz_app (xs ys : List (Nat × Int32)) : cz (xs ++ ys) = cz xs + cz ys := List.countP_append
/-- what every step makes less -/
def mu (t : Tr) : Nat := tsz t + cz (kv (fl t))
theorem cz_le (xs : List (Nat × Int32)) : cz xs ≤ xs.length := List.countP_le_length
theorem mu_le {t : Tr} (ht : wf t) : mu t ≤ 2 * tsz t := by
  have := cz_le (kv (fl t))
  rw [kv_len, fl_len t ht] at this
  unfold mu
  omega
theorem wf_pa {s : Tr} (hs : wf s) {w : Nat} (hw : w < ary (kd s)) (h3 : w < 3) : wf (pa s w) := by
  obtain ⟨k, v, x, y, z, rfl⟩ := wf_shape s hs
  rw [kd_nd] at hw
  rw [wf_nd] at hs
  obtain ⟨-, -, h1, h2, h3'⟩ := hs
  unfold pa
  rw [p1_nd, p2_nd, p3_nd]
  have w3 : w = 0 ∨ w = 1 ∨ w = 2 := by omega
  rcases w3 with rfl | rfl | rfl
  · rw [if_pos rfl]
    rw [if_pos (by omega)] at h1
    exact h1
  · rw [if_neg (by omega), if_pos rfl]
    rw [if_pos (by omega)] at h2
    exact h2
  · rw [if_neg (by omega), if_neg (by omega)]
    rw [if_pos (by omega)] at h3'
    exact h3'
/-- a part's row within its node's -/
theorem pa_row {s : Tr} (hs : wf s) {w : Nat} (hw : w < ary (kd s)) (h3 : w < 3) : ∃ a c, fl s = a ++ (fl (pa s w) ++ c) ∧ 1 ≤ a.length := by
  rw [fl_head hs]
  unfold pa
  have w3 : w = 0 ∨ w = 1 ∨ w = 2 := by omega
  rcases w3 with rfl | rfl | rfl
  · rw [if_pos rfl]
    exact ⟨[(kd s, vv s, tsz s)], fl (p2 s) ++ fl (p3 s), by simp, by simp⟩
  · rw [if_neg (by omega), if_pos rfl]
    exact ⟨(kd s, vv s, tsz s) :: fl (p1 s), fl (p3 s), by simp, by simp⟩
  · rw [if_neg (by omega), if_neg (by omega)]
    exact ⟨(kd s, vv s, tsz s) :: (fl (p1 s) ++ fl (p2 s)), [], by simp, by simp⟩
/-- what is put in the place of a node is less than it -/
theorem sb_mu {t u : Tr} (ht : wf t) (hu : wf u) {i : Nat} (hi : i < tsz t) (h1 : tsz u ≤ tsz (su t i)) (h2 : mu u < mu (su t i)) : wf (sb u t i) ∧ tsz (sb u t i) ≤ tsz t ∧ mu (sb u t i) < mu t := by
  obtain ⟨a, c, e1, e2, e3, e4⟩ := su_sp u t (Or.inl ht) i hi
  obtain ⟨s1, s2⟩ := sb_ok hu t (Or.inl ht) i hi
  refine ⟨s1, by omega, ?_⟩
  unfold mu at *
  rw [e4, e1, kv_app, kv_app, cz_app, cz_app, cz_app, cz_app]
  omega
theorem stp_ok {t u : Tr} (ht : wf t) {i w : Nat} (hi : i < tsz t) (hw : w < 4) (h : stp t i w = some u) : wf u ∧ tsz u ≤ tsz t ∧ mu u < mu t := by
  obtain ⟨a, c, e1, e2, e3, -⟩ := su_sp nl t (Or.inl ht) i hi
  have sp := wf_pos e3
  unfold stp at h
  by_cases q : w = 3
  · rw [if_pos q] at h
    by_cases r : nu (su t i) = some 0
    · rw [if_pos r] at h; cases h
    · rw [if_neg r] at h
      have e := Option.some.inj h
      rw [← e]
      have n1 : tsz (nm 0) = 1 := by unfold nm; rw [tsz_nd, tsz_nl]
      refine sb_mu ht (wf_nm 0) hi (by omega) ?_
      have m0 : mu (nm 0) = 1 := by
        unfold mu
        rw [n1]
        unfold nm
        rw [fl_nd, fl_nl]
        rfl
      have m1 : 1 ≤ cz (kv (fl (su t i))) := by
        rw [fl_head e3]
        unfold cz kv
        rw [List.map_cons, List.countP_cons]
        have : (!((kd (su t i) == 0) && (vv (su t i) == 0))) = true := by
          rw [Bool.not_eq_true', Bool.and_eq_false_iff]
          by_cases z : kd (su t i) = 0
          · right
            have : vv (su t i) ≠ 0 := fun zz => r (by unfold nu; rw [if_pos z, zz])
            simpa using this
          · left
            simpa using z
        dsimp only
        rw [if_pos this]
        omega
      rw [m0]
      unfold mu
      omega
  · rw [if_neg q] at h
    by_cases r : w < ary (kd (su t i))
    · rw [if_pos r] at h
      have e := Option.some.inj h
      rw [← e]
      have wp := wf_pa e3 r (by omega)
      obtain ⟨a2, c2, x1, x2⟩ := pa_row e3 r (by omega)
      have l := congrArg List.length x1
      rw [fl_len _ e3, List.length_append, List.length_append, fl_len _ wp] at l
      refine sb_mu ht wp hi (by omega) ?_
      unfold mu
      rw [x1, kv_app, kv_app, cz_app, cz_app]
      omega
    · rw [if_neg r] at h; cases h
theorem nx1_ok {P : Tr → Bool} {t u : Tr} (ht : wf t) {i : Nat} (hi : i < tsz t) : ∀ n w, w + n = 4 → nx1 P t i n w = some u → wf u ∧ tsz u ≤ tsz t ∧ mu u < mu t
  | 0, w, hw, h => by rw [nx1] at h; cases h
  | n + 1, w, hw, h => by
    rw [nx1] at h
    cases e : stp t i w with
    | none => rw [e] at h; exact nx1_ok ht hi n (w + 1) (by omega) h
    | some v =>
      rw [e] at h
      dsimp only at h
      by_cases q : P v = true
      · rw [if_pos q] at h
        have := Option.some.inj h
        rw [← this]
        exact stp_ok ht hi (by omega) e
      · rw [if_neg q] at h
        exact nx1_ok ht hi n (w + 1) (by omega) h
theorem nx2_ok {P : Tr → Bool} {t u : Tr} (ht : wf t) : ∀ n i, i + n = tsz t → nx2 P t n i = some u → wf u ∧ tsz u ≤ tsz t ∧ mu u < mu t
  | 0, i, hi, h => by rw [nx2] at h; cases h
  | n + 1, i, hi, h => by
    rw [nx2] at h
    cases e : nx1 P t i 4 0 with
    | none => rw [e] at h; exact nx2_ok ht n (i + 1) (by omega) h
    | some v =>
      rw [e] at h
      have := Option.some.inj h
      rw [← this]
      exact nx1_ok ht (by omega) 4 0 (by omega) e
theorem nx_ok {P : Tr → Bool} {t u : Tr} (ht : wf t) (h : nx P t = some u) : wf u ∧ tsz u ≤ tsz t ∧ mu u < mu t := nx2_ok ht (tsz t) 0 (by omega) h
theorem sml_ok {P : Tr → Bool} : ∀ e t, wf t → wf (sml P e t).1 ∧ tsz (sml P e t).1 ≤ tsz t
  | 0, t, ht => ⟨ht, Nat.le_refl _⟩
  | e + 1, t, ht => by
    rw [sml]
    cases h : nx P t with
    | none => exact ⟨ht, Nat.le_refl _⟩
    | some u =>
      dsimp only
      obtain ⟨a, b, c⟩ := nx_ok ht h
      obtain ⟨x, y⟩ := sml_ok e u a
      exact ⟨x, by omega⟩
section
variable {A : Ab} {σ : Sg} {d : Nat} {Q : Int32 → Sg → Prop}
theorem isShown_sp {m k : Nat} {u : Tr} (hd : 200 ≤ d) (ok : okA A) (h : RM A σ) (m8 : m < 8) (hk : k ≤ 6) (hu : wf u) (hs : tsz u ≤ 60) (hR : Rw (σ.1 10) (σ.1 11) 0 (fl u)) (hQ : ∀ τ, Fm [1, 2, 3, 4, 5, 6] [1, 8, 9, 10, 11, 18] σ τ → Q (if shB (aS A m) (aF A m) (aT A m) k u then 1 else 0) τ) : wX8_isShown d (nI m) (nI k) σ Q := by
  unfold wX8_isShown
  refine tree_sp hu (by omega) (by omega) hR (fun c τ c1 f1 c2 r1 => ?_)
  have hr1 := h.sc f1 (by simp) (by simp)
  refine isSafe_sp hu (by omega) (by omega) hk r1 (fun q ρ f2 => ?_) (fun i j hi hj q ρ f2 => ?_)
  · rw [if_neg (by decide)]
    have hr2 := hr1.sc f2 (by simp) (by simp)
    obtain ⟨m1, m2, m3⟩ := hr2.mk ok m8
    have f12 : Fm [1, 2, 3, 4, 5, 6] [1, 8, 9, 10, 11, 18] σ ρ := (f1.wk (by simp) (by simp)).tr (f2.wk (by simp) (by simp))
    refine firstOf_sp hd hu (by omega) m1 m2 (by omega) c1 (by rw [f2.2.1 1 (by simp)]; exact c2) (rx_fm hu r1 f2) hk q (fun z ρ3 f4 => ?_) (fun i j hi hj z1 z2 z3 ρ3 f4 => ?_)
    · rw [if_pos rfl]
      have := hQ ρ3 (f12.tr (f4.wk (by simp) (by simp)))
      unfold shB at this
      rw [df1_n z, sfB_y.mpr q] at this
      exact this
    · rw [if_neg (fi_ne hk hi hj)]
      have := hQ ρ3 (f12.tr (f4.wk (by simp) (by simp)))
      unfold shB at this
      rw [df1_y hi hj z1 z2 z3, sfB_y.mpr q] at this
      exact this
  · rw [if_pos rfl]
    have := hQ ρ ((f1.wk (by simp) (by simp)).tr (f2.wk (by simp) (by simp)))
    unfold shB at this
    rw [sfB_n hi hj q] at this
    exact this
/-- part w of a node, by endOf() from the first one on -/
theorem step77 {t s : Tr} {i w : Nat} {a c : List En} (hs : wf s) (e1 : fl t = a ++ (fl s ++ c)) (e2 : a.length = i) (hl : (fl t).length ≤ 60) (hw : w < ary (kd s)) (w3 : w < 3) (hh : hdR σ (fl t)) (hQ : ∀ τ, Fm [10, 11, 16, 17] [17] σ τ → hdR τ (a ++ (fl (pa s w) ++ c)) → Q 1 τ) :
    wX8_step_77 Q (w + 1) (nI i) (nI w) (nI (i + tsz s)) (nI (i + 1)) 0 σ := by
  have ls := fl_len s hs
  have lt' := congrArg List.length e1
  rw [List.length_append, List.length_append, ls, e2] at lt'
  have hR := hh.2
  rw [e1, Rw.app, Rw.app, e2, Nat.zero_add] at hR
  have hRs := hR.2.1
  have wp := wf_pa hs hw w3
  have fin : ∀ b, b + tsz (pa s w) ≤ i + tsz s → i ≤ b → Rw (σ.1 10) (σ.1 11) b (fl (pa s w)) → wX8_endOf (nI b) σ fun r_2 σ_1 => (wX8_spare (nI b) r_2 σ_1 fun  σ_3 => (wX8_splice (nI i) (nI (i + tsz s)) (r_2 - nI b) σ_3 fun  σ_4 => (Q 1 σ_4))) := fun b hb hb2 hRb => by
    refine endOf_sp wp (by omega) hRb ?_
    have lw := fl_len _ wp
    have sp := spare_sp (a0 := b) (ys := fl (pa s w)) (σ := σ) (Q := fun σ_3 => wX8_splice (nI i) (nI (i + tsz s)) (nI (b + tsz (pa s w)) - nI b) σ_3 fun  σ_4 => (Q 1 σ_4)) (by omega) (by omega) hRb
    rw [lw] at sp
    refine sp (fun τ2 f2 hs2 => ?_)
    rw [pk_sub (by omega), Nat.add_sub_cancel_left]
    have hh2 : hdR τ2 (a ++ (fl s ++ c)) := by
      rw [← e1]
      exact ⟨by rw [f2.2.1 17 (by simp)]; exact hh.1, by rw [f2.1 10 (by simp) (by simp), f2.1 11 (by simp) (by simp)]; exact hh.2⟩
    have spl := splice_sp (A := a) (ys := fl (pa s w)) (C := c) (B := fl s) (σ := τ2) (Q := fun σ_4 => Q 1 σ_4) (by omega) (by omega) (by omega) hh2 hs2
    rw [lw, ls, e2] at spl
    exact spl (fun τ3 f3 h3 => hQ τ3 ((f2.wk (by simp) (by simp)).tr (f3.wk (by simp) (by simp))) h3)
  rw [fl_head hs, Rw.cons, Rw.app, Rw.app] at hRs
  obtain ⟨-, r1, r2, r3⟩ := hRs
  have ts : tsz s = 1 + tsz (p1 s) + tsz (p2 s) + tsz (p3 s) := by
    obtain ⟨k, v, x, y, z, rfl⟩ := wf_shape s hs
    rw [p1_nd, p2_nd, p3_nd, tsz_nd]
  have ww : w = 0 ∨ w = 1 ∨ w = 2 := by omega
  rcases ww with rfl | rfl | rfl
  · show wX8_step_77_b (wX8_step_77 Q 0) (nI i) (nI 0) (nI (i + tsz s)) (nI (i + 1)) 0 σ Q
    unfold wX8_step_77_b
    rw [if_pos (by decide)]
    have e : pa s 0 = p1 s := rfl
    rw [e] at fin
    exact fin (i + 1) (by omega) (by omega) r1
  · have wp1 := wf_pa hs (w := 0) (by omega) (by omega)
    have e : pa s 0 = p1 s := rfl
    rw [e] at wp1
    show wX8_step_77_b (wX8_step_77 Q 1) (nI i) (nI 1) (nI (i + tsz s)) (nI (i + 1)) 0 σ Q
    unfold wX8_step_77_b
    rw [if_neg (by decide)]
    refine endOf_sp wp1 (by omega) r1 (lt_i (fun x ex => ?_))
    rw [ex]
    show wX8_step_77_b (wX8_step_77 Q 0) (nI i) (nI 1) (nI (i + tsz s)) (nI (i + 1 + tsz (p1 s))) (0 + 1) σ Q
    unfold wX8_step_77_b
    rw [if_pos (by decide)]
    have e : pa s 1 = p2 s := rfl
    rw [e] at fin
    rw [fl_len _ wp1] at r2
    exact fin (i + 1 + tsz (p1 s)) (by omega) (by omega) r2
  · have wp1 := wf_pa hs (w := 0) (by omega) (by omega)
    have e : pa s 0 = p1 s := rfl
    rw [e] at wp1
    have wp2 := wf_pa hs (w := 1) (by omega) (by omega)
    have e : pa s 1 = p2 s := rfl
    rw [e] at wp2
    show wX8_step_77_b (wX8_step_77 Q 2) (nI i) (nI 2) (nI (i + tsz s)) (nI (i + 1)) 0 σ Q
    unfold wX8_step_77_b
    rw [if_neg (by decide)]
    refine endOf_sp wp1 (by omega) r1 (lt_i (fun x ex => ?_))
    rw [ex]
    show wX8_step_77_b (wX8_step_77 Q 1) (nI i) (nI 2) (nI (i + tsz s)) (nI (i + 1 + tsz (p1 s))) (0 + 1) σ Q
    unfold wX8_step_77_b
    rw [if_neg (by decide)]
    rw [fl_len _ wp1, fl_len _ wp2] at r3
    rw [fl_len _ wp1] at r2
    refine endOf_sp wp2 (by omega) r2 (lt_i (fun x ex => ?_))
    rw [ex]
    show wX8_step_77_b (wX8_step_77 Q 0) (nI i) (nI 2) (nI (i + tsz s)) (nI (i + 1 + tsz (p1 s) + tsz (p2 s))) (0 + 1 + 1) σ Q
    unfold wX8_step_77_b
    rw [if_pos (by decide)]
    have e : pa s 2 = p3 s := rfl
    rw [e] at fin
    exact fin (i + 1 + tsz (p1 s) + tsz (p2 s)) (by omega) (by omega) r3
theorem step_sp {t : Tr} {i w : Nat} (ht : wf t) (hs : tsz t ≤ 60) (hi : i < tsz t) (hw : w < 4) (hh : hdR σ (fl t)) (h0 : stp t i w = none → Q 0 σ) (h1 : ∀ u, stp t i w = some u → ∀ τ, Fm [10, 11, 16, 17] [17] σ τ → hdR τ (fl u) → Q 1 τ) : wX8_step (nI i) (nI w) σ Q := by
  have len := fl_len t ht
  obtain ⟨a, c, e1, e2, e3, e4⟩ := su_sp (if w = 3 then nm 0 else pa (su t i) w) t (Or.inl ht) i hi
  have sp := wf_pos e3
  have ls := fl_len _ e3
  have lt' := congrArg List.length e1
  rw [List.length_append, List.length_append, ls, e2] at lt'
  have hR := hh.2
  rw [e1, Rw.app, Rw.app, e2, Nat.zero_add] at hR
  have hRs := hR.2.1
  have hd := hRs
  rw [fl_head e3, Rw.cons] at hd
  obtain ⟨⟨k1, k2⟩, -⟩ := hd
  dsimp only at k1 k2
  have k8 := wf_kd e3
  unfold wX8_step
  refine endOf_sp e3 (by omega) hRs ?_
  by_cases q : w = 3
  · subst q
    rw [if_pos (by decide)]
    refine ⟨vp_in_nI (by omega) (by omega), ?_⟩
    rw [ncl (by omega), k1, k2]
    have es : stp t i 3 = if nu (su t i) = some 0 then none else some (sb (nm 0) t i) := rfl
    rw [if_pos rfl] at e4
    have go : nu (su t i) ≠ some 0 → wX8_step_31 (nI i) (nI (i + tsz (su t i))) σ Q := fun z => by
      rw [if_neg z] at es
      unfold wX8_step_31
      refine ⟨vp_in_nI (n := 0) (by omega) (by omega), lt_i (fun x ex => lt_i (fun y ey => ?_))⟩
      have fx : Fm [16, 17] [] σ x := by rw [ex]; exact Fm.row 16 _ (by decide) (by simp)
      have fy : Fm [16, 17] [] x y := by rw [ey]; exact Fm.row 17 _ (by decide) (by simp)
      have fxy := fx.tr fy
      have hy : hdR y (a ++ (fl (su t i) ++ c)) := by
        rw [← e1]
        exact ⟨by rw [fxy.2.1 17 (by simp)]; exact hh.1, by rw [fxy.1 10 (by simp) (by simp), fxy.1 11 (by simp) (by simp)]; exact hh.2⟩
      have hs : Rw (y.1 16) (y.1 17) 0 (fl (nm 0)) := by
        unfold nm
        rw [fl_nd, fl_nl, List.append_nil, List.append_nil, Rw.cons]
        refine ⟨⟨?_, ?_⟩, Rw.nil⟩
        · rw [ey, sI_1, up_n _ _ _ _ (by decide), ex, sI_1, up_s]
          exact ud_s _ 0 0
        · rw [ey, sI_1, up_s]
          exact ud_s _ 0 0
      have l1 : (fl (nm 0)).length = 1 := by
        unfold nm
        rw [fl_nd, fl_nl]; rfl
      have spl := splice_sp (A := a) (ys := fl (nm 0)) (C := c) (B := fl (su t i)) (σ := y) (Q := fun σ_4 => Q 1 σ_4) (by omega) (by omega) (by omega) hy hs
      rw [l1, ls, e2] at spl
      exact spl (fun τ3 f3 h3 => h1 _ es τ3 ((fxy.wk (by simp) (by simp)).tr (f3.wk (by simp) (by simp))) (hd_kv h3 (by rw [e4, kv_app, kv_app])))
    by_cases z : kd (su t i) = 0
    · rw [z, if_pos (by decide)]
      by_cases z2 : vv (su t i) = 0
      · rw [if_pos z2]
        exact h0 (by rw [es, if_pos (by unfold nu; rw [if_pos z, z2])])
      · rw [if_neg z2]
        exact go (fun zz => z2 (by unfold nu at zz; rw [if_pos z] at zz; exact Option.some.inj zz))
    · rw [if_neg (show ¬ nI (kd (su t i)) = (0 : Int32) from ni_k (c := 0) (by omega) (by omega) (by omega))]
      exact go (fun zz => by unfold nu at zz; rw [if_neg z] at zz; cases zz)
  · rw [if_neg (show ¬ nI w = (3 : Int32) from ni_k (c := 3) (by omega) (by omega) (by omega))]
    refine ⟨vp_in_nI (by omega) (by omega), ?_⟩
    rw [ncl (by omega), k1]
    refine parts_sp k8 ?_
    have a3 := ary_3 (kd (su t i))
    have es : stp t i w = if w < ary (kd (su t i)) then some (sb (pa (su t i) w) t i) else none := by unfold stp; rw [if_neg q]
    rw [if_neg q] at e4
    by_cases r : w < ary (kd (su t i))
    · rw [if_pos (nI_lt r (by omega))]
      rw [if_pos r] at es
      refine lt_i (fun x ex => ⟨w + 1, ?_⟩)
      rw [ex, nI_1]
      exact step77 e3 e1 e2 (by omega) r (by omega) hh (fun τ f h3 => h1 _ es τ f (hd_kv h3 (by rw [e4, kv_app, kv_app])))
    · rw [if_neg (nI_nlt (by omega) (by omega))]
      exact h0 (by rw [es, if_neg r])
/-- what makeSmaller() leaves: the hand, what is remembered, all else as it was -/
theorem ms_in {m k i : Nat} {t : Tr} {K : Int32 → Int32 → Int32 → Sg → Prop} (hd : 200 ≤ d) (ok : okA A) (m8 : m < 8) (hk : k ≤ 6) (ht : wf t) (hs : tsz t ≤ 60) (hi : i < tsz t) (P : Tr → Bool) (hP : P = shB (aS A m) (aF A m) (aT A m) k)
    (hK : nx1 P t i 4 0 = none → ∀ τ, RM A τ → hdR τ (fl t) → flR τ (fl t) → K (nI m) (nI k) (nI (i + 1)) τ) (hQ : ∀ u, nx1 P t i 4 0 = some u → ∀ τ, RM A τ → hdR τ (fl u) → Q 1 τ) :
    ∀ (n w : Nat) (τ : Sg), w + n = 4 → nx1 P t i 4 0 = nx1 P t i n w → RM A τ → hdR τ (fl t) → flR τ (fl t) → wX8_makeSmaller_17 d K Q (n + 1) (nI m) (nI k) (nI i) (nI w) τ := by
  intro n
  induction n with
  | zero =>
    intro w τ hw he h hh hf
    show wX8_makeSmaller_17_b d K (wX8_makeSmaller_17 d K Q 0) (nI m) (nI k) (nI i) (nI w) τ Q
    unfold wX8_makeSmaller_17_b
    rw [if_pos (show (4 : Int32) ≤ nI w from nI_le (a := 4) (by omega) (by omega))]
    refine lt_i (fun x ex => ?_)
    rw [ex, nI_1]
    exact hK (by rw [he, nx1]) τ h hh hf
  | succ n ih =>
    intro w τ hw he h hh hf
    show wX8_makeSmaller_17_b d K (wX8_makeSmaller_17 d K Q (n + 1)) (nI m) (nI k) (nI i) (nI w) τ Q
    unfold wX8_makeSmaller_17_b
    rw [if_neg (show ¬ (4 : Int32) ≤ nI w from nI_ge (b := 4) (by omega) (by omega))]
    have len := fl_len t ht
    have back : nx1 P t i 4 0 = nx1 P t i n (w + 1) → ∀ ρ, RM A ρ → flR ρ (fl t) → wX8_makeSmaller_44 d K (wX8_makeSmaller_17 d K Q (n + 1)) (nI m) (nI k) (nI i) (nI w) ρ Q := fun z ρ hρ fρ => by
      unfold wX8_makeSmaller_44
      refine recall_sp (by omega) fρ (fun ρ2 f2 h2 => lt_i (fun x ex => ?_))
      rw [ex, nI_1]
      exact ih (w + 1) ρ2 (by omega) z (hρ.sc f2 (by simp) (by simp)) h2 ⟨by rw [f2.2.1 38 (by simp)]; exact fρ.1, by rw [f2.1 24 (by simp) (by simp), f2.1 25 (by simp) (by simp)]; exact fρ.2⟩
    conv at he => rhs; rw [nx1]
    refine step_sp ht hs hi (by omega) hh (fun z => ?_) (fun u z ρ f1 h1 => ?_)
    · rw [if_pos rfl]
      rw [z] at he
      exact back he τ h hf
    · rw [if_neg (by decide)]
      rw [z] at he
      dsimp only at he
      obtain ⟨u1, u2, u3⟩ := stp_ok ht hi (by omega) z
      have hr1 := h.sc f1 (by simp) (by simp)
      refine isShown_sp hd ok hr1 m8 hk u1 (by omega) h1.2 (fun ρ2 f2 => ?_)
      have hr2 := hr1.sc f2 (by simp) (by simp)
      rw [← hP]
      by_cases q : P u = true
      · rw [if_pos q, if_neg (by decide)]
        rw [if_pos q] at he
        exact hQ u he ρ2 hr2 ⟨by rw [f2.2.1 17 (by simp)]; exact h1.1, by rw [f2.1 10 (by simp) (by simp), f2.1 11 (by simp) (by simp)]; exact h1.2⟩
      · rw [if_neg q, if_pos rfl]
        rw [if_neg q] at he
        refine back he ρ2 hr2 ⟨?_, ?_⟩
        · rw [f2.2.1 38 (by simp), f1.2.1 38 (by simp)]; exact hf.1
        · rw [f2.1 24 (by simp) (by simp), f2.1 25 (by simp) (by simp), f1.1 24 (by simp) (by simp), f1.1 25 (by simp) (by simp)]; exact hf.2
theorem ms_out {m k : Nat} {t : Tr} (hd : 200 ≤ d) (ok : okA A) (m8 : m < 8) (hk : k ≤ 6) (ht : wf t) (hs : tsz t ≤ 60) (P : Tr → Bool) (hP : P = shB (aS A m) (aF A m) (aT A m) k)
    (h0 : nx P t = none → ∀ τ, RM A τ → hdR τ (fl t) → Q 0 τ) (h1 : ∀ u, nx P t = some u → ∀ τ, RM A τ → hdR τ (fl u) → Q 1 τ) :
    ∀ (n i : Nat) (τ : Sg), i + n = tsz t → nx P t = nx2 P t n i → RM A τ → hdR τ (fl t) → flR τ (fl t) → wX8_makeSmaller_6 d Q (n + 1) (nI m) (nI k) (nI i) τ := by
  have len := fl_len t ht
  intro n
  induction n with
  | zero =>
    intro i τ hi he h hh hf
    show wX8_makeSmaller_6_b d (wX8_makeSmaller_6 d Q 0) (nI m) (nI k) (nI i) τ Q
    unfold wX8_makeSmaller_6_b
    rw [hf.1, if_pos (nI_le (by omega) (by omega))]
    exact h0 (by rw [he, nx2]) τ h hh
  | succ n ih =>
    intro i τ hi he h hh hf
    show wX8_makeSmaller_6_b d (wX8_makeSmaller_6 d Q (n + 1)) (nI m) (nI k) (nI i) τ Q
    unfold wX8_makeSmaller_6_b
    rw [hf.1, if_neg (nI_ge (by omega) (by omega))]
    conv at he => rhs; rw [nx2]
    refine ⟨4 + 1, ms_in hd ok m8 hk ht hs (by omega) P hP (fun z ρ hρ h2 f2 => ?_) (fun u z ρ hρ h2 => ?_) 4 0 τ (by omega) rfl h hh hf⟩
    · rw [z] at he
      exact ih (i + 1) ρ (by omega) he hρ h2 f2
    · rw [z] at he
      exact h1 u he ρ hρ h2
theorem makeSmaller_sp {m k : Nat} {t : Tr} (hd : 200 ≤ d) (ok : okA A) (m8 : m < 8) (hk : k ≤ 6) (ht : wf t) (hs : tsz t ≤ 60) (P : Tr → Bool) (hP : P = shB (aS A m) (aF A m) (aT A m) k) (h : RM A σ) (hh : hdR σ (fl t))
    (h0 : nx P t = none → ∀ τ, RM A τ → hdR τ (fl t) → Q 0 τ) (h1 : ∀ u, nx P t = some u → ∀ τ, RM A τ → hdR τ (fl u) → Q 1 τ) : wX8_makeSmaller d (nI m) (nI k) σ Q := by
  have len := fl_len t ht
  unfold wX8_makeSmaller
  refine remember_sp (by omega) hh (fun τ f1 hf => ⟨tsz t + 1, ?_⟩)
  exact ms_out hd ok m8 hk ht hs P hP h0 h1 (tsz t) 0 τ (by omega) rfl (h.sc f1 (by simp) (by simp)) ⟨by rw [f1.2.1 17 (by simp)]; exact hh.1, by rw [f1.1 10 (by simp) (by simp), f1.1 11 (by simp) (by simp)]; exact hh.2⟩ hf
/-- the steps alone are changed -/
theorem RM.stp {v : Int32} {τ : Sg} (h : RM A σ) (e : τ = sI σ 0 (upd (σ.1 0) 35 v)) : RM (sD A v) τ := by
  have f : Fm [] [35] σ τ := by rw [e]; exact Fm.put 35 _ (by simp)
  obtain ⟨h1, ⟨h2, h3, h4, h5⟩, ⟨h6, h7⟩, ⟨h8, h9⟩, h10, h11⟩ := h
  have r : ∀ i, i ≠ 0 → τ.1 i = σ.1 i := fun i hi => f.1 i hi (by simp)
  refine ⟨fun p' hp' => ?_, ⟨?_, ?_, ?_, ?_⟩, ⟨?_, ?_⟩, ⟨?_, ?_⟩, ?_, ?_⟩
  · obtain ⟨a, b, c⟩ := h1 p' hp'
    exact ⟨a, by rw [r 7 (by simp)]; exact b, by rw [r 8 (by simp), r 9 (by simp)]; exact c⟩
  · rw [f.2.1 20 (by simp)]; exact h2
  · rw [f.2.1 24 (by simp)]; exact h3
  · rw [r 14 (by simp), r 15 (by simp)]; exact h4
  · rw [r 13 (by simp)]; exact h5
  · rw [f.2.1 27 (by simp)]; exact h6
  · rw [r 18 (by simp), r 19 (by simp), r 20 (by simp)]; exact h7
  · rw [f.2.1 31 (by simp)]; exact h8
  · rw [r 21 (by simp), r 22 (by simp), r 23 (by simp)]; exact h9
  · rw [e, sI_1, up_s, ud_s]; rfl
  · unfold cn0 cnR at h11 ⊢
    rw [f.2.2]; exact h11
theorem small_lp {m k p : Nat} (hd : 200 ≤ d) (ok : okA A) (m8 : m < 8) (hk : k ≤ 6) (hp : p < 20) (P : Tr → Bool) (hP : P = shB (aS A m) (aF A m) (aT A m) k) :
    ∀ (e : Nat) (t : Tr) (c : Nat) (τ : Sg), mu t ≤ e → wf t → tsz t ≤ 60 → RM (sD A (nI c)) τ → hdR τ (fl t) → (∀ ρ, RM (sD (sP A p (sml P e t).1) (nI (c + (sml P e t).2))) ρ → Q (nI (tsz (sml P e t).1)) ρ) → wX8_small_52 d Q e (nI m) (nI p) (nI k) τ := by
  intro e
  induction e with
  | zero =>
    intro t c τ hm ht hs h hh hQ
    have := wf_pos ht
    unfold mu at hm
    omega
  | succ e ih =>
    intro t c τ hm ht hs h hh hQ
    have len := fl_len t ht
    show wX8_small_52_b d (wX8_small_52 d Q e) (nI m) (nI p) (nI k) τ Q
    unfold wX8_small_52_b
    refine makeSmaller_sp (A := sD A (nI c)) hd ok m8 hk ht hs P hP h hh (fun z ρ hρ h2 => ?_) (fun u z ρ hρ h2 => ?_)
    · rw [if_pos rfl]
      refine put_sp hp (by omega) h2 (fun ρ2 q => ?_)
      rw [len]
      have := hQ ρ2
      rw [sml, z] at this
      exact this (hρ.put hp q)
    · rw [if_neg (by decide)]
      obtain ⟨u1, u2, u3⟩ := nx_ok ht z
      have e35 : ρ.1 0 35 = nI c := hρ.2.2.2.2.1
      rw [e35, nI_1]
      refine lt_i (fun ρ2 eρ => ?_)
      have f2 : Fm [] [35] ρ ρ2 := by rw [eρ]; exact Fm.put 35 _ (by simp)
      refine ih u (c + 1) ρ2 (by omega) u1 (by omega) (hρ.stp eρ) ⟨by rw [f2.2.1 17 (by simp)]; exact h2.1, by rw [f2.1 10 (by simp) (by simp), f2.1 11 (by simp) (by simp)]; exact h2.2⟩ (fun ρ3 h3 => ?_)
      have := hQ ρ3
      rw [sml, z] at this
      dsimp only at this
      rw [show c + ((sml P e u).2 + 1) = c + 1 + (sml P e u).2 by omega] at this
      exact this h3
theorem m_small {x y k : Int32} (hd : 200 ≤ d) (ok : okA A) (h : RM A σ) (hQ : ∀ τ, RM (xSmall x y k A).2 τ → Q (xSmall x y k A).1 τ) : wX8_small d x y k σ Q := by
  unfold wX8_small
  refine mk_mg ok h (fun m m8 hm e g1 => ?_) (fun g1 => ?_)
  rotate_left
  · rw [if_pos rfl]
    simpa only [xSmall, g1] using hQ σ (by simpa only [xSmall, g1] using h)
  subst e
  rw [if_neg (by decide)]
  refine has_pg ok h (fun p hp e w s g2 => ?_) (fun g2 => ?_)
  rotate_left
  · rw [if_pos rfl]
    simpa only [xSmall, g1, g2] using hQ σ (by simpa only [xSmall, g1, g2] using h)
  subst e
  rw [if_neg (by decide)]
  refine in_iy 0 6 0 6 rfl rfl (by omega) (by omega) (fun k k1 k2 e g3 => ?_) (fun g3 => ?_)
  rotate_left
  · rw [if_pos rfl]
    simpa only [xSmall, g1, g2, g3] using hQ σ (by simpa only [xSmall, g1, g2, g3] using h)
  subst e
  rw [if_neg (by decide)]
  refine take_sp hp (h.1 p hp) (fun τ f1 hh => ?_)
  have hr1 := h.sc f1 (by simp) (by simp)
  refine isShown_sp hd ok hr1 m8 k2 w s hh.2 (fun ρ f2 => ?_)
  have hr2 := hr1.sc f2 (by simp) (by simp)
  obtain ⟨P, hP⟩ : ∃ P, P = shB (aS A m) (aF A m) (aT A m) k := ⟨_, rfl⟩
  by_cases q : shB (aS A m) (aF A m) (aT A m) k (aP A p) = true
  · rw [if_pos q, if_neg (by decide)]
    have e : xSmall (nI m) (nI p) (nI k) A = (nI (tsz (sml P 120 (aP A p)).1), sD (sP A p (sml P 120 (aP A p)).1) (nI (sml P 120 (aP A p)).2)) := by simp only [xSmall, g1, g2, g3, if_pos q, hP]
    rw [e] at hQ
    refine lt_i (fun ρ2 eρ => ⟨120, ?_⟩)
    have f3 : Fm [] [35] ρ ρ2 := by rw [eρ]; exact Fm.put 35 _ (by simp)
    have ml := mu_le w
    refine small_lp hd ok m8 k2 hp P hP 120 (aP A p) 0 ρ2 (by omega) w s (hr2.stp eρ) ⟨by rw [f3.2.1 17 (by simp), f2.2.1 17 (by simp)]; exact hh.1, by rw [f3.1 10 (by simp) (by simp), f3.1 11 (by simp) (by simp), f2.1 10 (by simp) (by simp), f2.1 11 (by simp) (by simp)]; exact hh.2⟩ (fun ρ3 h3 => ?_)
    rw [Nat.zero_add] at h3
    exact hQ ρ3 h3
  · rw [if_neg q, if_pos rfl]
    have e : xSmall (nI m) (nI p) (nI k) A = (-2, A) := by simp only [xSmall, g1, g2, g3, if_neg q]
    rw [e] at hQ
    exact hQ ρ hr2
end
