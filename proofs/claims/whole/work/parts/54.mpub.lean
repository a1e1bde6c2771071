/-! the reference's calls: by number, drop, read, value, safe -/
theorem in_iy {x : Int32} (lo hi : Nat) (l h : Int) (el : l = (lo : Int)) (eh : h = (hi : Int)) {σ : Sg} {Q : Int32 → Sg → Prop} (hh : hi < 1000) (hl : lo < 1000) (h1 : ∀ p, lo ≤ p → p ≤ hi → x = nI p → iy l h x = some p → Q 1 σ) (h0 : iy l h x = none → Q 0 σ) : wX8_in (Int32.toInt64 x) (lN lo) (lN hi) σ Q := by
  subst el; subst eh
  refine in_sp lo hi hh hl (fun p a b e => h1 p a b e ?_) (fun q => h0 ?_)
  · subst e
    exact iy_y (by omega) (by omega) (by omega)
  · exact iy_n (by omega) (fun p a b => q p (by omega) (by omega))
theorem in_bl {x : Int32} (n : Nat) {σ : Sg} {Q : Int32 → Sg → Prop} (hn : n < 1000) (h1 : ∀ p, p < n → x = nI p → iy 0 ((n : Int) - 1) x = some p → Q 1 σ) (h0 : iy 0 ((n : Int) - 1) x = none → Q 0 σ) : wX8_in (Int32.toInt64 x) 0 (Int32.toInt64 (nI n - 1)) σ Q := by
  refine in_below n hn (fun p a e => h1 p a e ?_) (fun q => h0 ?_)
  · subst e
    exact iy_y (by omega) (by omega) (by omega)
  · exact iy_n (by omega) (fun p a b => q p (by omega))
theorem pl_iy {x : Int32} {σ : Sg} {Q : Int32 → Sg → Prop} (h1 : ∀ p, p < 20 → x = nI p → iy 0 19 x = some p → Q 1 σ) (h0 : iy 0 19 x = none → Q 0 σ) : wX8_isPlace x σ Q := by
  refine isPlace_sp (fun p a e => h1 p a e ?_) (fun q => h0 ?_)
  · subst e
    exact iy_y (by omega) (by omega) (by omega)
  · exact iy_n (by omega) (fun p a b => q p (by omega))
section
variable {A : Ab} {σ : Sg} {d : Nat} {Q : Int32 → Sg → Prop}
theorem RM.len (h : RM A σ) (ok : okA A) {p : Nat} (hp : p < 20) : σ.1 7 p = nI (tsz (aP A p)) := by
  have e := (h.1 p hp).2.1
  rcases (ok.1 p hp).1 with w | w
  · rw [fl_len _ w] at e; exact e
  · rw [w, fl_nl] at e
    rw [w, tsz_nl]; exact e
theorem has_pg {x : Int32} (ok : okA A) (h : RM A σ) (h1 : ∀ p, p < 20 → x = nI p → wf (aP A p) → tsz (aP A p) ≤ 60 → pg A x = some p → Q 1 σ) (h0 : pg A x = none → Q 0 σ) : wX8_has x σ Q := by
  refine has_sp (pl := fun p => fl (aP A p)) h.1 (fun p hp e q => ?_) (fun q => ?_)
  · have z : tsz (aP A p) ≠ 0 := fun z => q (by rw [wn_0 (ok.1 p hp).1 z]; exact fl_nl)
    refine h1 p hp e (wn_1 (ok.1 p hp).1 z) (ok.1 p hp).2 ?_
    subst e
    exact pg_y hp z
  · refine h0 (pg_n (fun p hp e => ?_))
    rcases (ok.1 p hp).1 with w | w
    · exact absurd (q p hp e) (fl_ne w)
    · rw [w, tsz_nl]
theorem mk_mg {x : Int32} (ok : okA A) (h : RM A σ) (h1 : ∀ m, m < 8 → m < aM A → x = nI m → mg A x = some m → Q 1 σ) (h0 : mg A x = none → Q 0 σ) : wX8_isMaker x σ Q := by
  have o := ok.2.2.2.1
  refine isMaker_sp (mk := aM A) o h.2.2.1.1 (fun m hm e => h1 m (by omega) hm e ?_) (fun q => h0 ?_)
  · subst e
    exact iy_y (by omega) (by omega) (by omega)
  · exact iy_n (by omega) (fun p a b => q p (by omega))
theorem mk_tg {x y : Int32} (ok : okA A) (h : RM A σ) (h1 : ∀ m i, m < 8 → m < aM A → i < aT A m → x = nI m → y = nI i → mg A x = some m → tg A m y = some i → Q 1 σ) (h0 : (mg A x = none ∨ ∃ m, mg A x = some m ∧ tg A m y = none) → Q 0 σ) : wX8_isTurn x y σ Q := by
  have o := ok.2.2.2.1
  refine isTurn_sp (mk := aM A) (tu := aT A) o h.2.2.1.1 (fun m hm => ⟨(h.2.2.1.2 m hm).1, (ok.2.2.2.2.1 m hm).1⟩) (fun m i hm hi e1 e2 => ?_) (fun q => h0 ?_)
  · have := (ok.2.2.2.2.1 m (by omega)).1
    refine h1 m i (by omega) hm hi e1 e2 ?_ ?_
    · subst e1
      exact iy_y (by omega) (by omega) (by omega)
    · subst e2
      exact iy_y (by omega) (by omega) (by omega)
  · cases e : mg A x with
    | none => exact Or.inl rfl
    | some m =>
      refine Or.inr ⟨m, rfl, ?_⟩
      obtain ⟨a, b, c, d⟩ := iy_s (by omega) e
      exact iy_n (by omega) (fun p u w => q m p (by omega) (by omega) a)
theorem m_many {x : Int32} {Q : Int64 → Sg → Prop} (h : RM A σ) (hQ : ∀ τ, RM A τ → Q (xMany x) τ) : wX8_many x σ Q := by
  unfold wX8_many
  refine in_iy 1 15 1 15 rfl rfl (by omega) (by omega) (fun p p1 p2 e g => ?_) (fun g => ?_)
  · subst e
    rw [if_neg (by decide)]
    refine count0_sp h.2.2.2.2.2 (fun τ f c => ⟨vp_in_nI (by omega) (by omega), ?_⟩)
    rw [ncl (by omega), c p (by omega)]
    simpa only [xMany, g] using hQ τ (h.fj f c)
  · rw [if_pos rfl]
    simpa only [xMany, g] using hQ σ h
theorem RM.put {t : Tr} {p : Nat} {τ : Sg} (h : RM A σ) (hp : p < 20) (q : putP p (fl t) σ τ) : RM (sP A p t) τ := by
  obtain ⟨f, q1, q2⟩ := q
  obtain ⟨h1, ⟨h2, h3, h4, h5⟩, ⟨h6, h7⟩, ⟨h8, h9⟩, h10, h11⟩ := h
  have r : ∀ i, i ≠ 0 → i ∉ [7, 8, 9] → τ.1 i = σ.1 i := f.1
  refine ⟨fun p' hp' => ?_, ⟨?_, ?_, ?_, ?_⟩, ⟨?_, ?_⟩, ⟨?_, ?_⟩, ?_, ?_⟩
  · show plR τ p' (fl (if p' = p then t else aP A p'))
    by_cases e : p' = p
    · rw [if_pos e, e]; exact q1
    · rw [if_neg e]; exact q2 p' _ hp' e (h1 p' hp')
  · rw [f.2.1 20 (by simp)]; exact h2
  · rw [f.2.1 24 (by simp)]; exact h3
  · rw [r 14 (by simp) (by simp), r 15 (by simp) (by simp)]; exact h4
  · rw [r 13 (by simp) (by simp)]; exact h5
  · rw [f.2.1 27 (by simp)]; exact h6
  · rw [r 18 (by simp) (by simp), r 19 (by simp) (by simp), r 20 (by simp) (by simp)]; exact h7
  · rw [f.2.1 31 (by simp)]; exact h8
  · rw [r 21 (by simp) (by simp), r 22 (by simp) (by simp), r 23 (by simp) (by simp)]; exact h9
  · rw [f.2.1 35 (by simp)]; exact h10
  · unfold cn0 cnR at h11 ⊢
    rw [f.2.2]; exact h11
theorem m_nth {x y : Int32} {z : Int64} (hd : 200 ≤ d) (h : RM A σ) (hQ : ∀ τ, RM (xNth x y z A).2 τ → Q (xNth x y z A).1 τ) : wX8_nth d x y z σ Q := by
  unfold wX8_nth
  refine pl_iy (fun p hp e g1 => ?_) (fun g1 => ?_)
  rotate_left
  · rw [if_pos rfl]
    simpa only [xNth, g1] using hQ σ (by simpa only [xNth, g1] using h)
  subst e
  rw [if_neg (by decide)]
  refine in_iy 1 15 1 15 rfl rfl (by omega) (by omega) (fun n n1 n2 e g2 => ?_) (fun g2 => ?_)
  rotate_left
  · rw [if_pos rfl]
    simpa only [xNth, g1, g2] using hQ σ (by simpa only [xNth, g1, g2] using h)
  subst e
  rw [if_neg (by decide)]
  refine count0_sp h.2.2.2.2.2 (fun τ f c => ⟨vp_in_nI (by omega) (by omega), ?_⟩)
  rw [ncl (by omega), c n (by omega)]
  have cl := (cnt_lt n (by omega)).1
  have cp := cnt_pos n (by omega) n1
  have e1 : lN (cnt n) - 1 = lN (cnt n - 1) := lN_sub (b := 1) cp
  have e2 : (lN (cnt n - 1)).toInt = ((cnt n - 1 : Nat) : Int) := pk_lT (by omega)
  have e3 : (0 : Int64).toInt = 0 := by decide
  refine in_gen (fun a b => ?_) (fun a => ?_)
  · rw [if_neg (by decide)]
    rw [Int64.le_iff_toInt_le, e3] at a
    rw [e1, Int64.le_iff_toInt_le, e2] at b
    have hz : 0 ≤ z.toInt ∧ z.toInt < (cnt n : Int) := by omega
    have ez : z = lN z.toInt.toNat := by
      rw [← Int64.toInt_inj, pk_lT (by omega)]
      omega
    refine lt_i (fun ρ eρ => ?_)
    have f2 : Fm [] [17] τ ρ := by rw [eρ]; exact Fm.put 17 0 (by simp)
    have hh : hdR ρ [] := ⟨by rw [eρ, sI_1, up_s, ud_s]; rfl, Rw.nil⟩
    rw [ez]
    refine nth0_sp d n z.toInt.toNat ρ [] _ (by omega) n1 (by omega) (by omega) (by simp; omega) (c.fm f2) hh (fun τ2 f3 h3 => ?_)
    obtain ⟨w1, w2⟩ := ng_ok (n := n) (i := z.toInt.toNat) n1 (by omega) (by omega)
    rw [List.nil_append, nt_ng (by omega) n1 (by omega) (by omega)] at h3
    have hr : RM A τ2 := (((h.fj f c).sc f2 (by simp) (by simp)).sc f3 (by simp) (by simp))
    refine put_sp hp (by rw [fl_len _ w1, w2]; omega) h3 (fun τ3 q => ?_)
    rw [fl_len _ w1, w2]
    have := hQ τ3 (by simpa only [xNth, g1, g2, if_pos hz] using hr.put hp q)
    simpa only [xNth, g1, g2, if_pos hz] using this
  · rw [if_pos rfl]
    rw [Int64.le_iff_toInt_le, e1, Int64.le_iff_toInt_le, e2, e3] at a
    have hz : ¬ (0 ≤ z.toInt ∧ z.toInt < (cnt n : Int)) := by omega
    have := hQ τ (by simpa only [xNth, g1, g2, if_neg hz] using h.fj f c)
    simpa only [xNth, g1, g2, if_neg hz] using this
theorem m_drop {x : Int32} (ok : okA A) (h : RM A σ) (hQ : ∀ τ, RM (xDrop x A).2 τ → Q (xDrop x A).1 τ) : wX8_drop x σ Q := by
  unfold wX8_drop
  refine has_pg ok h (fun p hp e w s g => ?_) (fun g => ?_)
  · subst e
    rw [if_neg (by decide)]
    refine ⟨vp_in_nI hp (by omega), ?_⟩
    rw [ncl (by omega)]
    refine lt_i (fun v ev => lt_i (fun τ eτ => ?_))
    rw [ev, h.len ok hp]
    have := hQ τ (by
      simp only [xDrop, g]
      refine h.put hp ⟨?_, ?_, ?_⟩
      · rw [eτ]; exact Fm.row 7 _ (by simp) (by simp)
      · rw [fl_nl]
        exact ⟨by simp, by rw [eτ, sI_1, up_s, ud_s]; rfl, Rw.nil⟩
      · intro q ys hq hne hy
        rw [eτ]
        obtain ⟨a, b, c⟩ := hy
        refine ⟨a, ?_, ?_⟩
        · rw [sI_1, up_s, ud_n _ _ _ _ hne]; exact b
        · rw [sI_1, up_n _ _ _ _ (by simp), up_n _ _ _ _ (by simp)]; exact c)
    simpa only [xDrop, g] using this
  · rw [if_pos rfl]
    simpa only [xDrop, g] using hQ σ (by simpa only [xDrop, g] using h)
theorem m_value {x a b : Int32} (hd : 200 ≤ d) (ok : okA A) (h : RM A σ) (hQ : ∀ τ, RM A τ → Q (xValue x a b A) τ) : wX8_value d x a b σ Q := by
  unfold wX8_value
  refine has_pg ok h (fun p hp e w s g => ?_) (fun g => ?_)
  · subst e
    rw [if_neg (by decide)]
    refine treeOf_sp hp w s (by omega) (h.1 p hp) (fun n τ n1 f1 n2 r1 => ?_)
    refine value_sp w (by omega) (by omega) r1 (fun r ρ f2 v1 v2 v3 => ?_)
    have hr : RM A ρ := (h.sc f1 (by simp) (by simp)).sc f2 (by simp) (by simp)
    cases hv : (ev a b (aP A p)).1 with
    | none =>
      rw [if_neg (by rw [v2 hv]; decide)]
      simpa only [xValue, g, hv] using hQ ρ hr
    | some v =>
      rw [if_pos (v3 v hv).1, (v3 v hv).2]
      simpa only [xValue, g, hv] using hQ ρ hr
  · rw [if_pos rfl]
    simpa only [xValue, g] using hQ σ h
theorem m_safe {x y : Int32} (hd : 200 ≤ d) (ok : okA A) (h : RM A σ) (hQ : ∀ τ, RM A τ → Q (xSafe x y A) τ) : wX8_safe d x y σ Q := by
  unfold wX8_safe wX8_safe_20
  refine has_pg ok h (fun p hp e w s g => ?_) (fun g => ?_)
  · subst e
    rw [if_neg (by decide)]
    refine in_iy 0 6 0 6 rfl rfl (by omega) (by omega) (fun k k1 k2 e g2 => ?_) (fun g2 => ?_)
    · subst e
      rw [if_neg (by decide)]
      refine treeOf_sp hp w s (by omega) (h.1 p hp) (fun n τ n1 f1 n2 r1 => ?_)
      refine isSafe_sp w (by omega) (by omega) k2 r1 (fun q ρ f2 => ?_) (fun i j hi hj q ρ f2 => ?_)
      · rw [if_neg (by decide)]
        simpa [xSafe, g, g2, sfB_y.mpr q] using hQ ρ ((h.sc f1 (by simp) (by simp)).sc f2 (by simp) (by simp))
      · rw [if_pos rfl]
        simpa [xSafe, g, g2, sfB_n hi hj q] using hQ ρ ((h.sc f1 (by simp) (by simp)).sc f2 (by simp) (by simp))
    · rw [if_pos rfl]
      simpa only [xSafe, g, g2] using hQ σ h
  · rw [if_pos rfl]
    simpa only [xSafe, g] using hQ σ h
theorem m_read {x y z : Int32} (ok : okA A) (h : RM A σ) (hQ : ∀ τ, RM A τ → Q (xRead x y z A) τ) : wX8_read x y z σ Q := by
  unfold wX8_read
  refine has_pg ok h (fun p hp e w s g => ?_) (fun g => ?_)
  rotate_left
  · rw [if_pos rfl]
    simpa only [xRead, g] using hQ σ h
  subst e
  rw [if_neg (by decide)]
  refine ⟨vp_in_nI hp (by omega), ?_⟩
  rw [ncl (by omega), h.len ok hp]
  refine in_bl (tsz (aP A p)) (by omega) (fun i hi e g2 => ?_) (fun g2 => ?_)
  rotate_left
  · rw [if_pos rfl]
    simpa only [xRead, g, tel, g2] using hQ σ h
  subst e
  rw [if_neg (by decide)]
  refine in_iy 0 2 0 2 rfl rfl (by omega) (by omega) (fun k k1 k2 e g3 => ?_) (fun g3 => ?_)
  rotate_left
  · rw [if_pos rfl]
    simpa only [xRead, g, tel, g2, g3] using hQ σ h
  subst e
  rw [if_neg (by decide)]
  refine take_sp hp (h.1 p hp) (fun τ f hh => ?_)
  have hr : RM A τ := h.sc f (by simp) (by simp)
  have hl : i < (fl (aP A p)).length := by rw [fl_len _ w]; exact hi
  have ge : (fl (aP A p))[i]? = some (fl (aP A p))[i] := List.getElem?_eq_getElem hl
  obtain ⟨a1, a2⟩ := hh.2.at hl
  rw [Nat.zero_add] at a1 a2
  have k3 : k = 0 ∨ k = 1 ∨ k = 2 := by omega
  rcases k3 with rfl | rfl | rfl
  · rw [if_pos (by decide)]
    refine ⟨vp_in_nI (by omega) (by omega), ?_⟩
    rw [ncl (by omega), a1]
    simpa [xRead, g, tel, g2, g3, ge] using hQ τ hr
  · rw [if_neg (by decide), if_pos (by decide)]
    refine ⟨vp_in_nI (by omega) (by omega), ?_⟩
    rw [ncl (by omega), a2]
    simpa [xRead, g, tel, g2, g3, ge] using hQ τ hr
  · rw [if_neg (by decide), if_neg (by decide)]
    obtain ⟨a, c, b1, b2, b3, b4⟩ := su_sp nl (aP A p) (Or.inl w) i hi
    have hs : tsz (su (aP A p) i) ≤ tsz (aP A p) - i := by
      have := congrArg List.length b1
      rw [List.length_append, List.length_append, fl_len _ w, fl_len _ b3, b2] at this
      omega
    have hR := hh.2
    rw [b1, Rw.app, Rw.app, b2] at hR
    refine endOf_sp b3 (by omega) (by simpa using hR.2.1) ?_
    rw [pk_sub (by omega), Nat.add_sub_cancel_left]
    have e3 : (fl (aP A p))[i] = (kd (su (aP A p) i), vv (su (aP A p) i), tsz (su (aP A p) i)) := by
      have : (fl (aP A p))[i]? = some (kd (su (aP A p) i), vv (su (aP A p) i), tsz (su (aP A p) i)) := by
        rw [b1, List.getElem?_append_right (by omega), b2, Nat.sub_self, fl_head b3]
        rfl
      rw [ge] at this
      exact Option.some.inj this
    have := hQ τ hr
    simp only [xRead, g, tel, g2, g3, ge, e3] at this
    simpa using this
end
