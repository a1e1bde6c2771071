/-! the class: rows changed -/
section
variable {σ : Sg} {t q i : Nat} {xs ys : List En} {Q : Int32 → Sg → Prop} {R : Sg → Prop}
theorem insert_sp {A B : List En} {k : Nat} {v : Int32} (hk : k ≤ 8) (h : TrR σ t (A ++ B)) (hl : A.length + B.length < 200) (hR : ∀ τ, Gm (fun i => t ≤ i ∧ i < t + 4) σ τ → TrR τ t (A ++ ((k, v, 1 + B.length) :: B)) → R τ) : wX5_insert t (nI A.length) (nI k) v σ R := by
  obtain ⟨a, b, c, d, e⟩ := h
  rw [List.length_append] at c d
  rw [Ro.app, Nat.zero_add] at e
  rw [wr_app] at b
  unfold wX5_insert
  rw [if_neg (nI_pos (by omega)), d, if_neg (nI_nlt (by omega) (by omega)), if_pos (show nI (A.length + B.length) < (200 : Int32) from nI_lt (b := 200) hl (by omega)), pk_sub (by omega), Nat.add_sub_cancel_left, nI_1, ncl (by omega), ncl (by omega), ncl (by omega)]
  have cond : (¬ nI A.length < 0) ∧ (¬ nI (A.length + 1) < 0) ∧ (¬ nI B.length < 0) ∧ A.length + B.length ≤ 200 ∧ A.length + 1 + B.length ≤ 200 := ⟨nI_pos (by omega), nI_pos (by omega), nI_pos (by omega), by omega, by omega⟩
  refine ⟨a, cond, lt_i (fun p ep => ?_)⟩
  have p3 : p.1 t 3 = nI (A.length + B.length) := by rw [ep, sI_1, up_n _ _ _ _ (by omega)]; exact d
  have pq : p.1 (t + 2) = σ.1 (t + 2) := by rw [ep, sI_1, up_n _ _ _ _ (by omega)]
  rw [p3, pq, pk_sub (by omega), Nat.add_sub_cancel_left, ncl (by omega)]
  refine ⟨cond, lt_i (fun u eu => ?_)⟩
  have u3 : u.1 t 3 = nI (A.length + B.length) := by rw [eu, sI_1, up_n _ _ _ _ (by omega)]; exact p3
  have uq : u.1 (t + 3) = σ.1 (t + 3) := by rw [eu, sI_1, up_n _ _ _ _ (by omega), ep, sI_1, up_n _ _ _ _ (by omega)]
  rw [u3, uq, pk_sub (by omega), Nat.add_sub_cancel_left, ncl (by omega)]
  refine ⟨cond, lt_i (fun w ew => ?_)⟩
  have w3 : w.1 t 3 = nI (A.length + B.length) := by rw [ew, sI_1, up_n _ _ _ _ (by omega)]; exact u3
  rw [w3, nI_1]
  refine lt_i (fun m em => ⟨vp_in_nI (by omega) (by omega), lt_i (fun p' ep' => lt_i (fun u' eu' => ?_))⟩)
  have u3' : u'.1 t 3 = nI (A.length + B.length + 1) := by rw [eu', sI_1, up_n _ _ _ _ (by omega), ep', sI_1, up_n _ _ _ _ (by omega), em, sI_1, up_s, ud_s]
  rw [u3', pk_sub (by omega), show A.length + B.length + 1 - A.length = 1 + B.length by omega]
  refine lt_i (fun z ez => ?_)
  have m1 : m.1 (t + 1) = va_cpy (σ.1 (t + 1)) (σ.1 (t + 1)) A.length (A.length + 1) B.length := by rw [em, sI_1, up_n _ _ _ _ (by omega), ew, sI_1, up_n _ _ _ _ (by omega), eu, sI_1, up_n _ _ _ _ (by omega), ep, sI_1, up_s]
  have m2 : m.1 (t + 2) = va_cpy (σ.1 (t + 2)) (σ.1 (t + 2)) A.length (A.length + 1) B.length := by rw [em, sI_1, up_n _ _ _ _ (by omega), ew, sI_1, up_n _ _ _ _ (by omega), eu, sI_1, up_s]
  have m3 : m.1 (t + 3) = va_cpy (σ.1 (t + 3)) (σ.1 (t + 3)) A.length (A.length + 1) B.length := by rw [em, sI_1, up_n _ _ _ _ (by omega), ew, sI_1, up_s]
  have rA : Ro m t 0 A := cp_lo m1 m2 m3 e.1 (by omega)
  have rB : Ro m t (A.length + 1) B := cp_in m1 m2 m3 e.2 (Nat.le_refl _)
  have z1 : z.1 (t + 1) = upd (m.1 (t + 1)) A.length (nI k) := by rw [ez, sI_1, up_n _ _ _ _ (by omega), eu', sI_1, up_n _ _ _ _ (by omega), ep', sI_1, up_s]
  have z2 : z.1 (t + 2) = upd (m.1 (t + 2)) A.length v := by rw [ez, sI_1, up_n _ _ _ _ (by omega), eu', sI_1, up_s, ep', sI_1, up_n _ _ _ _ (by omega)]
  have z3 : z.1 (t + 3) = upd (m.1 (t + 3)) A.length (nI (1 + B.length)) := by rw [ez, sI_1, up_s, eu', sI_1, up_n _ _ _ _ (by omega), ep', sI_1, up_n _ _ _ _ (by omega)]
  refine hR z ?_ ⟨a, wr_app.mpr ⟨b.1, wr_cons.mpr ⟨⟨hk, by dsimp only; omega⟩, b.2⟩⟩, by rw [List.length_append, List.length_cons]; omega, ?_, Ro.app.mpr ⟨?_, Ro.cons.mpr ⟨?_, ?_⟩⟩⟩
  · refine ((((((Gm.rf.tr (c := p) ?_).tr (c := u) ?_).tr (c := w) ?_).tr (c := m) ?_).tr (c := p') ?_).tr (c := u') ?_).tr ?_
    · rw [ep]; exact Gm.i _ _ ⟨by omega, by omega⟩
    · rw [eu]; exact Gm.i _ _ ⟨by omega, by omega⟩
    · rw [ew]; exact Gm.i _ _ ⟨by omega, by omega⟩
    · rw [em]; exact Gm.i _ _ ⟨by omega, by omega⟩
    · rw [ep']; exact Gm.i _ _ ⟨by omega, by omega⟩
    · rw [eu']; exact Gm.i _ _ ⟨by omega, by omega⟩
    · rw [ez]; exact Gm.i _ _ ⟨by omega, by omega⟩
  · rw [ez, sI_1, up_n _ _ _ _ (by omega), u3', List.length_append, List.length_cons, Nat.add_assoc]
  · refine rA.cg (fun i _ hi => ?_)
    rw [z1, z2, z3, ud_n _ _ _ _ (by omega), ud_n _ _ _ _ (by omega), ud_n _ _ _ _ (by omega)]
    exact ⟨rfl, rfl, rfl⟩
  · rw [Nat.zero_add, z1, z2, z3, ud_s, ud_s, ud_s]
    exact ⟨rfl, rfl, rfl⟩
  · rw [Nat.zero_add]
    refine rB.cg (fun i hi _ => ?_)
    rw [z1, z2, z3, ud_n _ _ _ _ (by omega), ud_n _ _ _ _ (by omega), ud_n _ _ _ _ (by omega)]
    exact ⟨rfl, rfl, rfl⟩
theorem cut_sp {A B C : List En} (h : TrR σ t (A ++ (B ++ C))) (hR : ∀ τ, Gm (fun i => t ≤ i ∧ i < t + 4) σ τ → TrR τ t (A ++ C) → R τ) : wX5_cut t (nI A.length) (nI B.length) σ R := by
  obtain ⟨a, b, c, d, e⟩ := h
  rw [List.length_append, List.length_append] at c d
  rw [Ro.app, Ro.app, Nat.zero_add] at e
  rw [wr_app, wr_app] at b
  unfold wX5_cut
  rw [if_neg (nI_pos (by omega)), if_neg (nI_pos (by omega)), d, pk_sub (by omega), if_pos (nI_le (by omega) (by omega)), nI_add]
  refine ⟨a, lt_i (fun x ex => ?_)⟩
  rw [ex, pk_sub (by omega), show A.length + (B.length + C.length) - (A.length + B.length) = C.length by omega, ncl (by omega), ncl (by omega), ncl (by omega)]
  have cond : (¬ nI (A.length + B.length) < 0) ∧ (¬ nI A.length < 0) ∧ (¬ nI C.length < 0) ∧ A.length + B.length + C.length ≤ 200 ∧ A.length + C.length ≤ 200 := ⟨nI_pos (by omega), nI_pos (by omega), nI_pos (by omega), by omega, by omega⟩
  refine ⟨cond, lt_i (fun p ep => ?_)⟩
  have p3 : p.1 t 3 = nI (A.length + (B.length + C.length)) := by rw [ep, sI_1, up_n _ _ _ _ (by omega)]; exact d
  have pq : p.1 (t + 2) = σ.1 (t + 2) := by rw [ep, sI_1, up_n _ _ _ _ (by omega)]
  rw [p3, pq, pk_sub (by omega), show A.length + (B.length + C.length) - (A.length + B.length) = C.length by omega, ncl (by omega)]
  refine ⟨cond, lt_i (fun u eu => ?_)⟩
  have u3 : u.1 t 3 = nI (A.length + (B.length + C.length)) := by rw [eu, sI_1, up_n _ _ _ _ (by omega)]; exact p3
  have uq : u.1 (t + 3) = σ.1 (t + 3) := by rw [eu, sI_1, up_n _ _ _ _ (by omega), ep, sI_1, up_n _ _ _ _ (by omega)]
  rw [u3, uq, pk_sub (by omega), show A.length + (B.length + C.length) - (A.length + B.length) = C.length by omega, ncl (by omega)]
  refine ⟨cond, lt_i (fun w ew => ?_)⟩
  have w3 : w.1 t 3 = nI (A.length + (B.length + C.length)) := by rw [ew, sI_1, up_n _ _ _ _ (by omega)]; exact u3
  rw [w3, pk_sub (by omega), show A.length + (B.length + C.length) - B.length = A.length + C.length by omega]
  refine lt_i (fun z ez => ?_)
  have m1 : z.1 (t + 1) = va_cpy (σ.1 (t + 1)) (σ.1 (t + 1)) (A.length + B.length) A.length C.length := by rw [ez, sI_1, up_n _ _ _ _ (by omega), ew, sI_1, up_n _ _ _ _ (by omega), eu, sI_1, up_n _ _ _ _ (by omega), ep, sI_1, up_s]
  have m2 : z.1 (t + 2) = va_cpy (σ.1 (t + 2)) (σ.1 (t + 2)) (A.length + B.length) A.length C.length := by rw [ez, sI_1, up_n _ _ _ _ (by omega), ew, sI_1, up_n _ _ _ _ (by omega), eu, sI_1, up_s]
  have m3 : z.1 (t + 3) = va_cpy (σ.1 (t + 3)) (σ.1 (t + 3)) (A.length + B.length) A.length C.length := by rw [ez, sI_1, up_n _ _ _ _ (by omega), ew, sI_1, up_s]
  refine hR z ?_ ⟨a, wr_app.mpr ⟨b.1, b.2.2⟩, by rw [List.length_append]; omega, ?_, Ro.app.mpr ⟨cp_lo m1 m2 m3 e.1 (by omega), ?_⟩⟩
  · refine (((Gm.rf.tr (c := p) ?_).tr (c := u) ?_).tr (c := w) ?_).tr ?_
    · rw [ep]; exact Gm.i _ _ ⟨by omega, by omega⟩
    · rw [eu]; exact Gm.i _ _ ⟨by omega, by omega⟩
    · rw [ew]; exact Gm.i _ _ ⟨by omega, by omega⟩
    · rw [ez]; exact Gm.i _ _ ⟨by omega, by omega⟩
  · rw [ez, sI_1, up_s, ud_s, List.length_append]
  · rw [Nat.zero_add]
    exact cp_in m1 m2 m3 e.2.2 (Nat.le_refl _)
theorem endAsNumber_sp {A B : List En} {v : Int32} (h : TrR σ t (A ++ B)) (hB : 1 ≤ B.length) (hR : ∀ τ, Gm (fun i => t ≤ i ∧ i < t + 4) σ τ → TrR τ t (A ++ [(0, v, 1)]) → R τ) : wX5_endAsNumber t (nI A.length) v σ R := by
  have h' := h
  obtain ⟨a, b, c, d, e⟩ := h'
  rw [List.length_append] at c
  rw [Ro.app, Nat.zero_add] at e
  unfold wX5_endAsNumber
  refine ⟨a, hasT_sp h (by omega) ?_⟩
  rw [if_pos (show A.length < (A ++ B).length by rw [List.length_append]; omega), if_neg (by decide)]
  refine lt_i (fun p ep => ?_)
  have f : Gm (fun i => t ≤ i ∧ i < t + 4) σ p := by rw [ep]; exact Gm.i t _ ⟨by omega, by omega⟩
  have hp : TrR p t A := ⟨a, (wr_app.mp b).1, by omega, by rw [ep, sI_1, up_s, ud_s], e.1.cg (fun i _ _ => by
    rw [ep, sI_1, up_n _ _ _ _ (by omega), up_n _ _ _ _ (by omega), up_n _ _ _ _ (by omega)]
    exact ⟨rfl, rfl, rfl⟩)⟩
  exact append_sp (k := 0) hp (by omega) (by omega) (fun τ f2 h2 => hR τ (f.tr f2) h2)
/-- of the run at A's end its part D stays -/
theorem endAsPart_sp {A B C D : List En} (h : TrR σ t (A ++ (B ++ (D ++ C)))) (hD : 1 ≤ D.length) (hs : (en D 0).2.2 = D.length) (hR : ∀ τ, Gm (fun i => t ≤ i ∧ i < t + 4) σ τ → TrR τ t (A ++ D) → R τ) : wX5_endAsPart t (nI A.length) (nI (A.length + B.length)) σ R := by
  obtain ⟨a, b, c, d, e⟩ := h
  rw [List.length_append, List.length_append, List.length_append] at c d
  rw [Ro.app, Ro.app, Ro.app, Nat.zero_add] at e
  rw [wr_app, wr_app, wr_app] at b
  obtain ⟨e1, e2, e3, e4⟩ := e
  have sz : σ.1 (t + 3) (A.length + B.length) = nI D.length := by
    rw [en_lt (by omega)] at hs
    exact (e3.at (i := 0) (by omega)).2.2.trans (by rw [hs])
  unfold wX5_endAsPart
  rw [if_neg (nI_pos (by omega)), if_neg (nI_nlt (by omega) (by omega)), d, if_pos (nI_lt (by omega) (by omega)), ncl (by omega), sz, pk_sub (by omega), if_neg (nI_nlt (by omega) (by omega))]
  refine ⟨a, vp_in_nI (by omega) (by omega), lt_i (fun x ex => ?_)⟩
  rw [ex, ncl (by omega), ncl (by omega), nI_add]
  refine ⟨⟨nI_pos (by omega), nI_pos (by omega), nI_pos (by omega), by omega, by omega⟩, lt_i (fun p ep => lt_i (fun u eu => lt_i (fun w ew => lt_i (fun z ez => ?_))))⟩
  have m1 : z.1 (t + 1) = va_cpy (σ.1 (t + 1)) (σ.1 (t + 1)) (A.length + B.length) A.length D.length := by rw [ez, sI_1, up_n _ _ _ _ (by omega), ew, sI_1, up_n _ _ _ _ (by omega), eu, sI_1, up_n _ _ _ _ (by omega), ep, sI_1, up_s]
  have m2 : z.1 (t + 2) = va_cpy (σ.1 (t + 2)) (σ.1 (t + 2)) (A.length + B.length) A.length D.length := by rw [ez, sI_1, up_n _ _ _ _ (by omega), ew, sI_1, up_n _ _ _ _ (by omega), eu, sI_1, up_s, ep, sI_1, up_n _ _ _ _ (by omega)]
  have m3 : z.1 (t + 3) = va_cpy (σ.1 (t + 3)) (σ.1 (t + 3)) (A.length + B.length) A.length D.length := by rw [ez, sI_1, up_n _ _ _ _ (by omega), ew, sI_1, up_s, eu, sI_1, up_n _ _ _ _ (by omega), ep, sI_1, up_n _ _ _ _ (by omega)]
  refine hR z ?_ ⟨a, wr_app.mpr ⟨b.1, b.2.2.1⟩, by rw [List.length_append]; omega, ?_, Ro.app.mpr ⟨cp_lo m1 m2 m3 e1 (by omega), ?_⟩⟩
  · refine (((Gm.rf.tr (c := p) ?_).tr (c := u) ?_).tr (c := w) ?_).tr ?_
    · rw [ep]; exact Gm.i _ _ ⟨by omega, by omega⟩
    · rw [eu]; exact Gm.i _ _ ⟨by omega, by omega⟩
    · rw [ew]; exact Gm.i _ _ ⟨by omega, by omega⟩
    · rw [ez]; exact Gm.i _ _ ⟨by omega, by omega⟩
  · rw [ez, sI_1, up_s, ud_s, List.length_append]
  · rw [Nat.zero_add]
    exact cp_in m1 m2 m3 e3 (Nat.le_refl _)
theorem pO_sp {k : Nat} (hk : k ≤ 8) (hQ : Q (nI (ary k)) σ) : wX7_partsOf (nI k) σ Q := by
  unfold wX7_partsOf
  rw [if_neg (nI_pos (by omega)), if_neg (show ¬ (9 : Int32) ≤ nI k from nI_ge (b := 9) (by omega) (by omega)), ncl (by omega)]
  refine ⟨vp_in_nI (by omega) (by omega), ?_⟩
  have e : ∀ k, k ≤ 8 → pPn k = nI (ary k) := by decide
  rw [e k hk]
  exact hQ
/-- the head of a tree's row, and where its parts stand -/
theorem fl_en {u : Tr} (hu : wf u) : en (fl u) 0 = (kd u, vv u, tsz u) := by
  rw [en_lt (by rw [fl_len u hu]; exact wf_pos hu)]
  have := fl_head hu
  simp only [this, List.getElem_cons_zero]
theorem tsz_p {u : Tr} (hu : wf u) : tsz u = 1 + tsz (p1 u) + tsz (p2 u) + tsz (p3 u) := by
  obtain ⟨k, v, x, y, z, rfl⟩ := wf_shape u hu
  rw [p1_nd, p2_nd, p3_nd, tsz_nd]
theorem wf_p {u : Tr} (hu : wf u) : (1 ≤ ary (kd u) → wf (p1 u)) ∧ (2 ≤ ary (kd u) → wf (p2 u)) ∧ (3 ≤ ary (kd u) → wf (p3 u)) ∧ (ary (kd u) < 1 → p1 u = nl) ∧ (ary (kd u) < 2 → p2 u = nl) ∧ (ary (kd u) < 3 → p3 u = nl) := by
  obtain ⟨k, v, x, y, z, rfl⟩ := wf_shape u hu
  rw [wf_nd] at hu
  rw [p1_nd, p2_nd, p3_nd, kd_nd]
  obtain ⟨-, -, h1, h2, h3⟩ := hu
  refine ⟨fun a => ?_, fun a => ?_, fun a => ?_, fun a => ?_, fun a => ?_, fun a => ?_⟩
  · rw [if_pos a] at h1; exact h1
  · rw [if_pos a] at h2; exact h2
  · rw [if_pos a] at h3; exact h3
  · rw [if_neg (by omega)] at h1; exact h1
  · rw [if_neg (by omega)] at h2; exact h2
  · rw [if_neg (by omega)] at h3; exact h3
/-- rows of which the kinds and numbers are a tree's; the sizes from i on are its too -/
def MsR (σ : Sg) (t : Nat) (xs : List En) (i : Nat) : Prop := YC.2.1 t = 4 ∧ wr xs ∧ xs.length ≤ 200 ∧ σ.1 t 3 = nI xs.length ∧ ∀ j (hj : j < xs.length), σ.1 (t + 1) j = nI (xs[j]).1 ∧ σ.1 (t + 2) j = (xs[j]).2.1 ∧ (i ≤ j → σ.1 (t + 3) j = nI (xs[j]).2.2)
theorem ms_behind {j : Nat} (h : MsR σ t xs i) (hj : j < xs.length) (hi : i ≤ j) (hQ : Q (nI (j + (xs[j]).2.2)) σ) : wX5_behind t (nI j) σ Q := by
  obtain ⟨a, b, c, d, e⟩ := h
  unfold wX5_behind
  rw [if_neg (nI_pos (by omega)), d]
  refine ⟨a, ?_⟩
  rw [if_neg (nI_ge (by omega) (by omega))]
  refine ⟨vp_in_nI (by omega) (by omega), ?_⟩
  rw [ncl (by omega), (e j hj).2.2 hi, nI_add]
  exact hQ
theorem measure_in {u : Tr} {K : Nat → Int32 → Sg → Prop} (hu : wf u) (hs : tsz u ≤ 200) (hi : i < tsz u) (h : MsR σ t (fl u) (i + 1)) (hK : ∀ x τ, x = nI i + (-1) → Gm (fun i => t ≤ i ∧ i < t + 4) σ τ → MsR τ t (fl u) i → K t x τ) : wX7_partsOf (σ.1 (t + 1) i) σ fun r_17 σ_16 => ∃ nn, wX5_measure_25 K R nn t (nI i) (nI (i + 1)) r_17 σ_16 := by
  have len := fl_len u hu
  obtain ⟨a, c, e1, e2, e3, e4, e5⟩ := fl_su hu (i := i) (by omega)
  have h' := h
  obtain ⟨m1, m2, m3, m4, m5⟩ := h'
  have k8 := wf_kd e3
  rw [(m5 i (by omega)).1, e4]
  refine pO_sp k8 ?_
  obtain ⟨w1, w2, w3, n1, n2, n3⟩ := wf_p e3
  have ts := tsz_p e3
  have at_ : ∀ (B D : List En) (p : Tr), wf p → fl (su u i) = B ++ (fl p ++ D) → ∀ hj : i + B.length < (fl u).length, ((fl u)[i + B.length]).2.2 = tsz p := fun B D p hp hB hj => by
    have : (fl u)[i + B.length]? = some (kd p, vv p, tsz p) := by
      rw [e1, List.getElem?_append_right (by omega), e2, Nat.add_sub_cancel_left, hB, List.append_assoc, List.getElem?_append_right (by omega), Nat.sub_self, fl_head hp]
      rfl
    rw [List.getElem?_eq_getElem hj] at this
    rw [Option.some.inj this]
  have fin : ∀ n, wX5_measure_25 K R (n + 1) t (nI i) (nI (i + tsz (su u i))) 0 σ := fun n => by
    show wX5_measure_25_b K (wX5_measure_25 K R n) t (nI i) (nI (i + tsz (su u i))) 0 σ R
    unfold wX5_measure_25_b
    rw [if_pos (by decide), ncl (by omega), pk_sub (by omega), Nat.add_sub_cancel_left]
    refine ⟨m1, vp_in_nI (by omega) (by omega), lt_i (fun z ez => lt_i (fun x ex => ?_))⟩
    refine hK x z ex (by rw [ez]; exact Gm.i _ _ ⟨by omega, by omega⟩) ⟨m1, m2, m3, by rw [ez, sI_1, up_n _ _ _ _ (by omega)]; exact m4, fun j hj => ?_⟩
    obtain ⟨y1, y2, y3⟩ := m5 j hj
    rw [ez, sI_1, up_n _ _ _ _ (by omega), up_n _ _ _ _ (by omega), up_s]
    refine ⟨y1, y2, fun hij => ?_⟩
    by_cases q : j = i
    · subst q
      rw [ud_s, e4]
    · rw [ud_n _ _ _ _ q]
      exact y3 (by omega)
  have stp1 : ∀ n c b (p : Tr) (B D : List En), c ≤ 3 → B.length = b → wf p → fl (su u i) = B ++ (fl p ++ D) → 1 ≤ b → wX5_measure_25 K R n t (nI i) (nI (i + (b + tsz p))) (nI c) σ → wX5_measure_25 K R (n + 1) t (nI i) (nI (i + b)) (nI (c + 1)) σ := fun n c b p B D hc hb hp hB b1 hn => by
    subst hb
    have lb := congrArg List.length hB
    rw [fl_len _ e3, List.length_append, List.length_append, fl_len p hp] at lb
    have pp := wf_pos hp
    have hj : i + B.length < (fl u).length := by omega
    show wX5_measure_25_b K (wX5_measure_25 K R n) t (nI i) (nI (i + B.length)) (nI (c + 1)) σ R
    unfold wX5_measure_25_b
    rw [if_neg (show ¬ nI (c + 1) ≤ (0 : Int32) from nI_ge (a := 0) (by omega) (by omega))]
    refine ⟨m1, ms_behind h hj (by omega) ?_⟩
    rw [at_ B D p hp hB hj]
    refine lt_i (fun x ex => ?_)
    rw [pk_m1] at ex
    rw [ex, Nat.add_assoc]
    exact hn
  have hd := fl_head e3
  have a3 := ary_3 (kd (su u i))
  by_cases q0 : ary (kd (su u i)) = 0
  · rw [n1 (by omega), n2 (by omega), n3 (by omega), tsz_nl] at ts
    have f := fin 0
    rw [show tsz (su u i) = 1 by omega] at f
    rw [q0]
    exact ⟨1, f⟩
  by_cases q1 : ary (kd (su u i)) = 1
  · rw [n2 (by omega), n3 (by omega), tsz_nl] at ts
    have f := fin 0
    rw [show tsz (su u i) = 1 + tsz (p1 (su u i)) by omega] at f
    rw [q1]
    exact ⟨2, stp1 1 0 1 (p1 (su u i)) [(kd (su u i), vv (su u i), tsz (su u i))] _ (by omega) rfl (w1 (by omega)) (by rw [hd]; rfl) (by omega) f⟩
  have wa := w1 (by omega)
  have la := fl_len _ wa
  by_cases q2 : ary (kd (su u i)) = 2
  · rw [n3 (by omega), tsz_nl] at ts
    have f := fin 0
    rw [show tsz (su u i) = 1 + tsz (p1 (su u i)) + tsz (p2 (su u i)) by omega] at f
    rw [q2]
    exact ⟨3, stp1 2 1 1 (p1 (su u i)) [(kd (su u i), vv (su u i), tsz (su u i))] _ (by omega) rfl wa (by rw [hd]; rfl) (by omega) (stp1 1 0 (1 + tsz (p1 (su u i))) (p2 (su u i)) ((kd (su u i), vv (su u i), tsz (su u i)) :: fl (p1 (su u i))) (fl (p3 (su u i))) (by omega) (by rw [List.length_cons, la]; omega) (w2 (by omega)) (by rw [hd]; rfl) (by omega) f)⟩
  · have wb := w2 (by omega)
    have lb := fl_len _ wb
    have f := fin 0
    rw [show tsz (su u i) = 1 + tsz (p1 (su u i)) + tsz (p2 (su u i)) + tsz (p3 (su u i)) by omega] at f
    rw [show ary (kd (su u i)) = 3 by omega]
    exact ⟨4, stp1 3 2 1 (p1 (su u i)) [(kd (su u i), vv (su u i), tsz (su u i))] _ (by omega) rfl wa (by rw [hd]; rfl) (by omega) (stp1 2 1 (1 + tsz (p1 (su u i))) (p2 (su u i)) ((kd (su u i), vv (su u i), tsz (su u i)) :: fl (p1 (su u i))) (fl (p3 (su u i))) (by omega) (by rw [List.length_cons, la]; omega) wb (by rw [hd]; rfl) (by omega) (stp1 1 0 (1 + tsz (p1 (su u i)) + tsz (p2 (su u i))) (p3 (su u i)) ((kd (su u i), vv (su u i), tsz (su u i)) :: (fl (p1 (su u i)) ++ fl (p2 (su u i)))) [] (by omega) (by rw [List.length_cons, List.length_append, la, lb]; omega) (w3 (by omega)) (by rw [hd]; simp) (by omega) f))⟩
theorem measure_lp {u : Tr} (hu : wf u) (hs : tsz u ≤ 200) : ∀ (m : Nat) (x : Int32) (σ : Sg), x = nI m + (-1) → m ≤ tsz u → MsR σ t (fl u) m → (∀ τ, Gm (fun i => t ≤ i ∧ i < t + 4) σ τ → MsR τ t (fl u) 0 → R τ) → wX5_measure_7 R (m + 1) t x σ := by
  intro m
  induction m with
  | zero =>
    intro x σ hx hm h hR
    have e : x < 0 := by rw [hx]; decide
    show wX5_measure_7_b (wX5_measure_7 R 0) t x σ R
    unfold wX5_measure_7_b
    rw [if_pos e]
    exact hR σ Gm.rf h
  | succ m ih =>
    intro x σ hx hm h hR
    rw [pk_m1] at hx
    subst hx
    show wX5_measure_7_b (wX5_measure_7 R (m + 1)) t (nI m) σ R
    unfold wX5_measure_7_b
    rw [if_neg (nI_pos (by omega)), nI_1, ncl (by omega)]
    refine lt_i (fun x ex => ⟨h.1, vp_in_nI (by omega) (by omega), ?_⟩)
    rw [ex]
    exact measure_in hu hs (by omega) h (fun x τ hx f h2 => ih x τ hx (by omega) h2 (fun ρ g h3 => hR ρ (f.tr g) h3))
theorem fl_sz : ∀ t, wn t → ∀ e, e ∈ fl t → e.2.2 ≤ tsz t := by
  apply wf_gen
  · intro e h
    rw [fl_nl] at h
    cases h
  · intro k v x y z hw ix iy iz e h
    rw [fl_nd] at h
    rw [tsz_nd]
    rcases List.mem_cons.mp h with h | h
    · rw [h]; exact Nat.le_refl _
    · rcases List.mem_append.mp h with h | h
      · have := ix e h; omega
      · rcases List.mem_append.mp h with h | h
        · have := iy e h; omega
        · have := iz e h; omega
theorem fl_wr {u : Tr} (hu : wn u) (hs : tsz u ≤ 200) : wr (fl u) := fun e he => ⟨fl_kd u hu e he, by have := fl_sz u hu e he; omega⟩
theorem kv_at {xs ys : List En} (e : kv xs = kv ys) {j : Nat} (hx : j < xs.length) (hy : j < ys.length) : (xs[j]).1 = (ys[j]).1 ∧ (xs[j]).2.1 = (ys[j]).2.1 := by
  have e1 : (kv xs)[j]? = (kv ys)[j]? := by rw [e]
  unfold kv at e1
  rw [List.getElem?_map, List.getElem?_map, List.getElem?_eq_getElem hx, List.getElem?_eq_getElem hy] at e1
  have e2 := Option.some.inj e1
  exact Prod.mk.inj e2
theorem measure_sp {u : Tr} (hu : wf u) (hs : tsz u ≤ 200) (h : TrR σ t xs) (e : kv xs = kv (fl u)) (hR : ∀ τ, Gm (fun i => t ≤ i ∧ i < t + 4) σ τ → TrR τ t (fl u) → R τ) : wX5_measure t σ R := by
  have len := fl_len u hu
  have l := congrArg List.length e
  rw [kv_len, kv_len] at l
  obtain ⟨a, b, c, d, g⟩ := h
  have hm : MsR σ t (fl u) (tsz u) := ⟨a, fl_wr (Or.inl hu) hs, by omega, by rw [d, l], fun j hj => by
    obtain ⟨g1, g2, -⟩ := g.at (i := j) (by omega)
    obtain ⟨k1, k2⟩ := kv_at e (j := j) (by omega) hj
    rw [Nat.zero_add] at g1 g2
    exact ⟨by rw [g1, k1], by rw [g2, k2], fun z => by omega⟩⟩
  unfold wX5_measure
  rw [d, l, len]
  refine ⟨a, lt_i (fun x ex => ⟨tsz u + 1, ?_⟩)⟩
  refine measure_lp hu hs (tsz u) x σ (by rw [ex, Int32.sub_eq_add_neg]) (Nat.le_refl _) hm (fun τ f h2 => hR τ f ?_)
  obtain ⟨a2, b2, c2, d2, g2⟩ := h2
  refine ⟨a2, b2, c2, d2, fun j y hy => ?_⟩
  obtain ⟨hj, rfl⟩ := List.getElem?_eq_some_iff.mp hy
  obtain ⟨z1, z2, z3⟩ := g2 j hj
  rw [Nat.zero_add]
  exact ⟨z1, z2, z3 (Nat.zero_le _)⟩
theorem ap_sp {A B C : List En} {a n : Nat} (ea : A.length = a) (eB : B.length = n) (h : TrR σ t xs) (g : TrR σ q (A ++ (B ++ C))) (hl : xs.length + B.length ≤ 200) (hq : q = t ∨ q + 4 ≤ t ∨ t + 4 ≤ q) (hR : ∀ τ, Gm (fun i => t ≤ i ∧ i < t + 4) σ τ → TrR τ t (xs ++ B) → R τ) : wX5_appendRun t q (nI a) (nI n) σ R := by
  subst ea
  subst eB
  exact appendRun_sp h g hl hq hR
theorem join_sp {a b : Tr} {j q2 : Nat} (ht : YC.2.1 t = 4) (wa : wf a) (wb : wf b) (ha : TrR σ q (fl a)) (hb : TrR σ q2 (fl b)) (hi : i < tsz a) (hj : j < tsz b) (h1 : q + 4 ≤ t ∨ t + 4 ≤ q) (h2 : q2 + 4 ≤ t ∨ t + 4 ≤ q2) (hs : tsz (sb (su b j) a i) ≤ 200) (hR : ∀ τ, Gm (fun i => t ≤ i ∧ i < t + 4) σ τ → TrR τ t (fl (sb (su b j) a i)) → R τ) : wX5_join t q (nI i) q2 (nI j) σ R := by
  have lb := fl_len b wb
  have la := fl_len a wa
  obtain ⟨b1, c1, u1, u2, u3, u4, u5⟩ := fl_su wb (i := j) (by omega)
  obtain ⟨b2, c2, v1, v2, v3, v4⟩ := su_sp (su b j) a (Or.inl wa) i hi
  obtain ⟨s1, s2⟩ := sb_ok u3 a (Or.inl wa) i hi
  have lu := fl_len _ u3
  have lv := fl_len _ v3
  have la2 := congrArg List.length v1
  rw [List.length_append, List.length_append, lv, v2] at la2
  have a200 := ha.2.2.1
  have b200 := hb.2.2.1
  unfold wX5_join
  refine ⟨ht, lt_i (fun p ep => ?_)⟩
  have fp : Gm (fun i => t ≤ i ∧ i < t + 4) σ p := by rw [ep]; exact Gm.i t _ ⟨by omega, by omega⟩
  have hp : TrR p t [] := ⟨ht, wr_nil, by simp, by rw [ep, sI_1, up_s, ud_s]; rfl, Ro.nil⟩
  have ha1 : TrR p q (fl a) := ha.gm fp (fun i x y => by omega)
  refine ap_sp (A := []) (B := b2) (C := fl (su a i) ++ c2) (a := 0) rfl v2 hp (by rw [List.nil_append, ← v1]; exact ha1) (by rw [v2, List.length_nil]; omega) (Or.inr h1) (fun p2 f2 hp2 => ⟨hb.1, ?_⟩)
  rw [List.nil_append] at hp2
  have hb2 : TrR p2 q2 (fl b) := hb.gm (fp.tr f2) (fun i x y => by omega)
  have ha2 : TrR p2 q (fl a) := ha.gm (fp.tr f2) (fun i x y => by omega)
  refine sizeOf_sp hb2 (by omega) ?_
  rw [en_lt (by omega), u4]
  refine ap_sp (A := b1) (B := fl (su b j)) (C := c1) u2 lu hp2 (by rw [← u1]; exact hb2) (by omega) (Or.inr h2) (fun p3 f3 hp3 => ⟨ha.1, ?_⟩)
  have ha3 : TrR p3 q (fl a) := ha.gm ((fp.tr f2).tr f3) (fun i x y => by omega)
  obtain ⟨-, -, -, -, -, v5, v6⟩ := fl_su wa (i := i) (by omega)
  have hi' : i < (fl a).length := by omega
  refine behind_sp ha3 hi' (behind_sp ha3 hi' ?_)
  rw [en_lt hi', v5, ha3.2.2.2.1, la]
  dsimp only
  rw [pk_sub (by omega)]
  refine ap_sp (A := b2 ++ fl (su a i)) (B := c2) (C := []) (by rw [List.length_append, v2, lv]) (by omega) hp3 (by rw [List.append_nil, List.append_assoc, ← v1]; exact ha3) (by rw [List.length_append]; omega) (Or.inr h1) (fun p4 f4 hp4 => ?_)
  refine measure_sp s1 hs hp4 (by rw [v4, List.append_assoc, kv_app, kv_app]) (fun p5 f5 hp5 => hR p5 ((((fp.tr f2).tr f3).tr f4).tr f5) hp5)
end
