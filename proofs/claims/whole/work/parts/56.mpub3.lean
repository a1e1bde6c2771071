/-! the reference's calls: node, keep, breed -/
theorem pfl_take (L : List Tr) (m : Nat) : pfl L = pfl (L.take m) ++ pfl (L.drop m) := by
  rw [← pfl_app, List.take_append_drop]
theorem psz_take (L : List Tr) (m : Nat) : psz L = psz (L.take m) + psz (L.drop m) := by
  rw [← psz_app, List.take_append_drop]
theorem ary_3 (k : Nat) : ary k ≤ 3 := by
  unfold ary
  split
  · omega
  · split
    · omega
    · split <;> omega
/-- a new node over the last trees -/
theorem mkN_sp {k : Nat} {v : Int32} {D : List Tr} (h : D.length = ary k) : fl (mkN k v D) = (k, v, 1 + psz D) :: pfl D ∧ tsz (mkN k v D) = 1 + psz D := by
  have l3 := ary_3 k
  unfold mkN
  match D, h with
  | [], _ => simp [fl_nd, tsz_nd, fl_nl, tsz_nl, psz, pfl]
  | [a], _ => simp [fl_nd, tsz_nd, fl_nl, tsz_nl, psz, pfl]
  | [a, b], _ => simp [fl_nd, tsz_nd, fl_nl, tsz_nl, psz, pfl]; omega
  | [a, b, c], _ => simp [fl_nd, tsz_nd, fl_nl, tsz_nl, psz, pfl]; omega
  | a :: b :: c :: e :: l, h => simp at h; omega
theorem mkN_wf {k : Nat} {v : Int32} {D : List Tr} (h : D.length = ary k) (hk : k ≤ 8) (hv : k ≠ 0 → v = 0) (hD : ∀ t, t ∈ D → wf t) : wf (mkN k v D) := by
  have l3 := ary_3 k
  unfold mkN
  rw [wf_nd]
  refine ⟨hk, hv, ?_, ?_, ?_⟩
  · match D, h, hD with
    | [], h, _ => rw [if_neg (by simp at h; omega)]; rfl
    | a :: l, h, hD => rw [if_pos (by simp at h; omega)]; exact hD a (by simp)
  · match D, h, hD with
    | [], h, _ => rw [if_neg (by simp at h; omega)]; rfl
    | [a], h, _ => rw [if_neg (by simp at h; omega)]; rfl
    | a :: b :: l, h, hD => rw [if_pos (by simp at h; omega)]; exact hD b (by simp)
  · match D, h, hD with
    | [], h, _ => rw [if_neg (by simp at h; omega)]; rfl
    | [a], h, _ => rw [if_neg (by simp at h; omega)]; rfl
    | [a, b], h, _ => rw [if_neg (by simp at h; omega)]; rfl
    | a :: b :: c :: l, h, hD => rw [if_pos (by simp at h; omega)]; exact hD c (by simp)
/-- the pile's rows are moved up by one from index f on -/
theorem node_loop {k f : Nat} {v : Int32} {xs : List En} {Q : Int32 → Sg → Prop} (hl : xs.length < 60) : ∀ (m : Nat) (σ : Sg), f + m ≤ xs.length → (∀ j (hj : j < xs.length), j < f + m → At (σ.1 14) (σ.1 15) j xs[j]) → (∀ j (hj : j < xs.length), f + m ≤ j → At (σ.1 14) (σ.1 15) (j + 1) xs[j]) → 
    (∀ τ, Fm [14, 15] [] σ τ → (∀ j (hj : j < xs.length), j < f → At (τ.1 14) (τ.1 15) j xs[j]) → (∀ j (hj : j < xs.length), f ≤ j → At (τ.1 14) (τ.1 15) (j + 1) xs[j]) → wX8_node_91_b (fun _ _ _ _ _ => False) (nI k) v (nI f) (nI f) τ Q) → wX8_node_91 Q (m + 1) (nI k) v (nI f) (nI (f + m)) σ := by
  intro m
  induction m with
  | zero =>
    intro σ hi h1 h2 hQ
    show wX8_node_91_b (wX8_node_91 Q 0) (nI k) v (nI f) (nI f) σ Q
    exact hQ σ Fm.rf (fun j hj hf => h1 j hj hf) (fun j hj hf => h2 j hj hf)
  | succ m ih =>
    intro σ hi h1 h2 hQ
    show wX8_node_91_b (wX8_node_91 Q (m + 1)) (nI k) v (nI f) (nI (f + (m + 1))) σ Q
    unfold wX8_node_91_b
    rw [if_neg (nI_ge (by omega) (by omega)), show f + (m + 1) = (f + m) + 1 by omega, nI_pred, pk_m1]
    refine ⟨vp_in_nI (by omega) (by omega), vp_in_nI (by omega) (by omega), ?_⟩
    rw [ncl (by omega), ncl (by omega)]
    obtain ⟨r1, r2⟩ := h1 (f + m) (by omega) (by omega)
    rw [r1]
    refine lt_i (fun a ea => ?_)
    have a15 : a.1 15 = σ.1 15 := by rw [ea, sI_1, up_n _ _ _ _ (by decide)]
    rw [a15, r2]
    refine lt_i (fun b eb => lt_i (fun x ex => ?_))
    rw [ex]
    have fa : Fm [14, 15] [] σ a := by rw [ea]; exact Fm.row 14 _ (by decide) (by simp)
    have fb : Fm [14, 15] [] a b := by rw [eb]; exact Fm.row 15 _ (by decide) (by simp)
    have b14 : b.1 14 = upd (σ.1 14) (f + m + 1) (nI (xs[f + m]).1) := by rw [eb, sI_1, up_n _ _ _ _ (by decide), ea, sI_1, up_s]
    have b15 : b.1 15 = upd (σ.1 15) (f + m + 1) (xs[f + m]).2.1 := by rw [eb, sI_1, up_s]
    refine ih b (by omega) (fun j hj hf => ?_) (fun j hj hf => ?_) (fun τ q1 q2 q3 => hQ τ ((fa.tr fb).tr q1) q2 q3)
    · obtain ⟨z1, z2⟩ := h1 j hj (by omega)
      exact ⟨by rw [b14, ud_n _ _ _ _ (by omega)]; exact z1, by rw [b15, ud_n _ _ _ _ (by omega)]; exact z2⟩
    · by_cases e : j = f + m
      · subst e
        exact ⟨by rw [b14, ud_s], by rw [b15, ud_s]⟩
      · obtain ⟨z1, z2⟩ := h2 j hj (by omega)
        exact ⟨by rw [b14, ud_n _ _ _ _ (by omega)]; exact z1, by rw [b15, ud_n _ _ _ _ (by omega)]; exact z2⟩
section
variable {A : Ab} {σ : Sg} {d : Nat} {Q : Int32 → Sg → Prop}
theorem m_node22 {k : Nat} {v : Int32} (hk : k ≤ 8) (hv : k ≠ 0 → v = 0) (ok : okA A) (h : RM A σ) (hQ : ∀ τ, RM (xNode (nI k) v A).2 τ → Q (xNode (nI k) v A).1 τ) : wX8_node_22 (nI k) v σ Q := by
  have g1 : iy 0 8 (nI k) = some k := iy_y (by omega) (by omega) (by omega)
  have n1 : ¬ (k ≠ 0 ∧ v ≠ 0) := fun z => z.2 (hv z.1)
  obtain ⟨h20, h24, hR, h13⟩ := h.2.1
  have l3 := ary_3 k
  have len := psz_len (aL A) ok.2.1
  have ps := ok.2.2.1
  have flen := pfl_len (aL A) ok.2.1
  unfold wX8_node_22
  refine parts_sp hk ?_
  rw [h20, h24]
  by_cases q1 : (aL A).length < ary k
  · rw [if_neg (nI_ge q1 (by omega))]
    have e : xNode (nI k) v A = (-2, A) := by simp only [xNode, g1, if_neg n1, if_pos q1]
    rw [e] at hQ
    exact hQ σ h
  rw [if_pos (nI_le (by omega) (by omega))]
  by_cases q2 : psz (aL A) = 60
  · rw [q2, if_pos (by decide)]
    have e : xNode (nI k) v A = (-3, A) := by simp only [xNode, g1, if_neg n1, if_neg q1, if_pos q2]
    rw [e] at hQ
    exact hQ σ h
  rw [if_neg (show ¬ nI (psz (aL A)) = (60 : Int32) from ni_k (c := 60) (by omega) (by omega) (by omega))]
  generalize hm : (aL A).length - ary k = m
  have e : xNode (nI k) v A = (nI (m + 1), sL A ((aL A).take m ++ [mkN k v ((aL A).drop m)])) := by simp only [xNode, g1, if_neg n1, if_neg q1, if_neg q2, hm]
  rw [e] at hQ
  have hD : ((aL A).drop m).length = ary k := by rw [List.length_drop]; omega
  have hTl : ((aL A).take m).length = m := by rw [List.length_take]; omega
  obtain ⟨m1, m2⟩ := mkN_sp (v := v) hD
  refine parts_sp hk ?_
  rw [pk_sub (by omega), hm]
  refine lt_i (fun ρ eρ => ?_)
  have fρ : Fm [13, 14, 15] [20, 24] σ ρ := by rw [eρ]; exact Fm.put 20 _ (by simp)
  have p20 : ρ.1 0 20 = nI m := by rw [eρ, sI_1, up_s, ud_s]
  have p24 : ρ.1 0 24 = nI (psz (aL A)) := by rw [eρ, sI_1, up_s, ud_n _ _ _ _ (by decide)]; exact h24
  have p13 : ρ.1 13 = σ.1 13 := by rw [eρ, sI_1, up_n _ _ _ _ (by decide)]
  have p14 : ρ.1 14 = σ.1 14 := by rw [eρ, sI_1, up_n _ _ _ _ (by decide)]
  have p15 : ρ.1 15 = σ.1 15 := by rw [eρ, sI_1, up_n _ _ _ _ (by decide)]
  obtain ⟨X, hX⟩ : ∃ X, X = pfl ((aL A).take m) := ⟨_, rfl⟩
  obtain ⟨Y, hY⟩ : ∃ Y, Y = pfl ((aL A).drop m) := ⟨_, rfl⟩
  obtain ⟨f, hf⟩ : ∃ f, f = psz ((aL A).take m) := ⟨_, rfl⟩
  obtain ⟨g, hg⟩ : ∃ g, g = psz ((aL A).drop m) := ⟨_, rfl⟩
  have pe : psz (aL A) = f + g := by rw [hf, hg]; exact psz_take (aL A) m
  have xl : X.length = f := by rw [hX, hf]; exact pfl_len _ (fun t ht => ok.2.1 t (List.mem_of_mem_take ht))
  have yl : Y.length = g := by rw [hY, hg]; exact pfl_len _ (fun t ht => ok.2.1 t (List.mem_of_mem_drop ht))
  have xe : pfl (aL A) = X ++ Y := by rw [hX, hY]; exact pfl_take (aL A) m
  have key : wX8_node_84 (nI k) v (nI f) ρ Q := by
    unfold wX8_node_84
    rw [p24]
    refine lt_i (fun x ex => ⟨g + 1, ?_⟩)
    rw [ex, pe]
    refine node_loop (xs := X ++ Y) (by rw [List.length_append]; omega) g ρ (by rw [List.length_append]; omega) (fun j hj _ => ?_) (fun j hj hf => ?_) (fun τ q1 q2 q3 => ?_)
    · rw [p14, p15]
      rw [xe] at hR
      have := Rw.iff.mp hR j hj
      rw [Nat.zero_add] at this
      exact this
    · rw [List.length_append] at hj; omega
    · unfold wX8_node_91_b
      rw [if_pos (Int32.le_refl _)]
      refine ⟨vp_in_nI (by omega) (by omega), ?_⟩
      rw [ncl (by omega)]
      refine lt_i (fun a ea => lt_i (fun b eb => ?_))
      have b24 : b.1 0 24 = nI (psz (aL A)) := by rw [eb, sI_1, up_n _ _ _ _ (by decide), ea, sI_1, up_n _ _ _ _ (by decide), q1.2.1 24 (by simp)]; exact p24
      rw [b24, nI_1]
      refine lt_i (fun c ec => ?_)
      have c20 : c.1 0 20 = nI m := by rw [ec, sI_1, up_s, ud_n _ _ _ _ (by decide), eb, sI_1, up_n _ _ _ _ (by decide), ea, sI_1, up_n _ _ _ _ (by decide), q1.2.1 20 (by simp)]; exact p20
      rw [c20, ncl (by omega)]
      refine ⟨vp_in_nI (by omega) (by omega), lt_i (fun dd ed => ?_)⟩
      have d20 : dd.1 0 20 = nI m := by rw [ed, sI_1, up_n _ _ _ _ (by decide)]; exact c20
      rw [d20, nI_1]
      refine lt_i (fun z ez => ?_)
      have z20 : z.1 0 20 = nI (m + 1) := by rw [ez, sI_1, up_s, ud_s]
      have z24 : z.1 0 24 = nI (psz (aL A) + 1) := by rw [ez, sI_1, up_s, ud_n _ _ _ _ (by decide), ed, sI_1, up_n _ _ _ _ (by decide), ec, sI_1, up_s, ud_s]
      have z13 : z.1 13 = upd (σ.1 13) m (nI f) := by rw [ez, sI_1, up_n _ _ _ _ (by decide), ed, sI_1, up_s, ec, sI_1, up_n _ _ _ _ (by decide), eb, sI_1, up_n _ _ _ _ (by decide), ea, sI_1, up_n _ _ _ _ (by decide), q1.1 13 (by simp) (by simp), p13]
      have z14 : z.1 14 = upd (τ.1 14) f (nI k) := by rw [ez, sI_1, up_n _ _ _ _ (by decide), ed, sI_1, up_n _ _ _ _ (by decide), ec, sI_1, up_n _ _ _ _ (by decide), eb, sI_1, up_n _ _ _ _ (by decide), ea, sI_1, up_s]
      have z15 : z.1 15 = upd (τ.1 15) f v := by rw [ez, sI_1, up_n _ _ _ _ (by decide), ed, sI_1, up_n _ _ _ _ (by decide), ec, sI_1, up_n _ _ _ _ (by decide), eb, sI_1, up_s, ea, sI_1, up_n _ _ _ _ (by decide)]
      rw [z20]
      have fa : Fm [13, 14, 15] [20, 24] τ a := by rw [ea]; exact Fm.row 14 _ (by decide) (by simp)
      have fb : Fm [13, 14, 15] [20, 24] a b := by rw [eb]; exact Fm.row 15 _ (by decide) (by simp)
      have fc : Fm [13, 14, 15] [20, 24] b c := by rw [ec]; exact Fm.put 24 _ (by simp)
      have fd : Fm [13, 14, 15] [20, 24] c dd := by rw [ed]; exact Fm.row 13 _ (by decide) (by simp)
      have fz : Fm [13, 14, 15] [20, 24] dd z := by rw [ez]; exact Fm.put 20 _ (by simp)
      refine hQ z (h.pile ((((((fρ.tr (q1.wk (by simp) (by simp))).tr fa).tr fb).tr fc).tr fd).tr fz) ?_ ?_ ?_ ?_)
      · rw [z20, List.length_append, hTl]; rfl
      · rw [z24, psz_app, psz, psz, m2, ← hf, ← hg, show psz (aL A) + 1 = f + (1 + g + 0) by omega]
      · rw [pfl_app, pfl, pfl, m1, ← hX, ← hY, List.append_nil, Rw.app, Rw.cons, Nat.zero_add, xl, z14, z15, ud_s, ud_s]
        refine ⟨Rw.iff.mpr (fun j hj => ?_), ⟨rfl, rfl⟩, Rw.iff.mpr (fun j hj => ?_)⟩
        · obtain ⟨w1, w2⟩ := q2 j (by rw [List.length_append]; omega) (by omega)
          rw [List.getElem_append_left hj] at w1 w2
          rw [Nat.zero_add]
          exact ⟨by rw [ud_n _ _ _ _ (by omega)]; exact w1, by rw [ud_n _ _ _ _ (by omega)]; exact w2⟩
        · obtain ⟨w1, w2⟩ := q3 (f + j) (by rw [List.length_append]; omega) (by omega)
          rw [List.getElem_append_right (by omega)] at w1 w2
          simp only [xl, Nat.add_sub_cancel_left] at w1 w2
          rw [show f + 1 + j = f + j + 1 by omega]
          exact ⟨by rw [ud_n _ _ _ _ (by omega)]; exact w1, by rw [ud_n _ _ _ _ (by omega)]; exact w2⟩
      · intro i hi
        rw [List.length_append, hTl, List.length_singleton] at hi
        rw [List.take_append_of_le_length (by omega), List.take_take, Nat.min_eq_left (by omega), z13]
        by_cases ei : i = m
        · rw [ei, ud_s, hf]
        · rw [ud_n _ _ _ _ ei]
          exact h13 i (by omega)
  refine parts_sp hk ?_
  rw [p24, p20, ncl (by omega), p13]
  by_cases qa : ary k = 0
  · have em : m = (aL A).length := by omega
    have ef : psz (aL A) = f := by rw [hf, em, List.take_length]
    rw [qa, if_pos (by decide), ef]
    exact key
  · rw [if_neg (show ¬ nI (ary k) = (0 : Int32) from ni_k (c := 0) (by omega) (by omega) (by omega)), h13 m (by omega), ← hf]
    exact ⟨vp_in_nI (by omega) (by omega), key⟩
theorem m_node {x v : Int32} (ok : okA A) (h : RM A σ) (hQ : ∀ τ, RM (xNode x v A).2 τ → Q (xNode x v A).1 τ) : wX8_node x v σ Q := by
  unfold wX8_node
  refine in_iy 0 8 0 8 rfl rfl (by omega) (by omega) (fun k k1 k2 e g => ?_) (fun g => ?_)
  rotate_left
  · rw [if_pos rfl]
    simpa only [xNode, g] using hQ σ (by simpa only [xNode, g] using h)
  subst e
  rw [if_neg (by decide)]
  by_cases q : k = 0
  · subst q
    rw [if_pos (by decide)]
    exact m_node22 k2 (fun z => absurd rfl z) ok h hQ
  · rw [if_neg (show ¬ nI k = (0 : Int32) from ni_k (c := 0) (by omega) (by omega) (by omega))]
    by_cases r : v = 0
    · rw [if_pos r]
      exact m_node22 k2 (fun _ => r) ok h hQ
    · rw [if_neg r]
      have e : xNode (nI k) v A = (-1, A) := by simp only [xNode, g, if_pos (And.intro q r)]
      rw [e] at hQ
      exact hQ σ h
theorem keep_loop {p : Nat} {t : Tr} (hp : p < 20) (ht : wf t) (hs : tsz t ≤ 60) (hQ : ∀ τ, RM (sL (sP A p t) []) τ → Q (nI (tsz t)) τ) (h : RM A σ) : ∀ (k i : Nat) (τ : Sg), i + k = tsz t → Fm [10, 11] [17] σ τ → Rw (σ.1 14) (σ.1 15) 0 (fl t) → σ.1 0 24 = nI (tsz t) → τ.1 0 17 = nI (tsz t) → (∀ j (hj : j < (fl t).length), j < i → At (τ.1 10) (τ.1 11) j (fl t)[j]) → wX8_keep_30 Q (k + 1) (nI p) (nI i) τ := by
  have len := fl_len t ht
  intro k
  induction k with
  | zero =>
    intro i τ hi f hR h24 h17 hp1
    show wX8_keep_30_b (wX8_keep_30 Q 0) (nI p) (nI i) τ Q
    unfold wX8_keep_30_b
    rw [f.2.1 24 (by simp), h24, if_pos (nI_le (by omega) (by omega))]
    refine lt_i (fun a ea => lt_i (fun b eb => ?_))
    have fa : Fm [13, 14, 15] [20, 24] τ a := by rw [ea]; exact Fm.put 20 _ (by simp)
    have fb : Fm [13, 14, 15] [20, 24] a b := by rw [eb]; exact Fm.put 24 _ (by simp)
    have r : RM (sL A []) b := (h.sc f (by simp) (by simp)).pile (fa.tr fb) (by rw [eb, sI_1, up_s, ud_n _ _ _ _ (by decide), ea, sI_1, up_s, ud_s]; rfl) (by rw [eb, sI_1, up_s, ud_s]; rfl) Rw.nil (fun i hi => by simp at hi)
    have fab := fa.tr fb
    have hb : hdR b (fl t) := ⟨by rw [fab.2.1 17 (by simp), len]; exact h17, by
      rw [fab.1 10 (by simp) (by simp), fab.1 11 (by simp) (by simp)]
      exact Rw.iff.mpr (fun j hj => by rw [Nat.zero_add]; exact hp1 j hj (by omega))⟩
    refine put_sp hp (by omega) hb (fun τ2 q => ?_)
    rw [len]
    exact hQ τ2 (r.put hp q)
  | succ k ih =>
    intro i τ hi f hR h24 h17 hp1
    show wX8_keep_30_b (wX8_keep_30 Q (k + 1)) (nI p) (nI i) τ Q
    unfold wX8_keep_30_b
    rw [f.2.1 24 (by simp), h24, if_neg (nI_ge (by omega) (by omega))]
    refine ⟨vp_in_nI (by omega) (by omega), vp_in_nI (by omega) (by omega), ?_⟩
    obtain ⟨r1, r2⟩ := Rw.iff.mp hR i (by omega)
    rw [Nat.zero_add] at r1 r2
    rw [ncl (by omega), f.1 14 (by simp) (by simp), r1]
    refine lt_i (fun a ea => ?_)
    have a15 : a.1 15 = σ.1 15 := by rw [ea, sI_1, up_n _ _ _ _ (by decide)]; exact f.1 15 (by simp) (by simp)
    rw [a15, r2]
    refine lt_i (fun b eb => lt_i (fun x ex => ?_))
    rw [ex, nI_1]
    have fa : Fm [10, 11] [17] τ a := by rw [ea]; exact Fm.row 10 _ (by decide) (by simp)
    have fb : Fm [10, 11] [17] a b := by rw [eb]; exact Fm.row 11 _ (by decide) (by simp)
    refine ih (i + 1) b (by omega) ((f.tr fa).tr fb) hR h24 (by rw [eb, sI_1, up_n _ _ _ _ (by decide), ea, sI_1, up_n _ _ _ _ (by decide)]; exact h17) (fun j hj hji => ?_)
    have b10 : b.1 10 = upd (τ.1 10) i (nI ((fl t)[i]).1) := by rw [eb, sI_1, up_n _ _ _ _ (by decide), ea, sI_1, up_s]
    have b11 : b.1 11 = upd (τ.1 11) i ((fl t)[i]).2.1 := by rw [eb, sI_1, up_s, ea, sI_1, up_n _ _ _ _ (by decide)]
    rw [b10, b11]
    by_cases e : j = i
    · subst e; exact ⟨by rw [ud_s], by rw [ud_s]⟩
    · obtain ⟨z1, z2⟩ := hp1 j hj (by omega)
      exact ⟨by rw [ud_n _ _ _ _ e]; exact z1, by rw [ud_n _ _ _ _ e]; exact z2⟩
theorem m_keep {x : Int32} (ok : okA A) (h : RM A σ) (hQ : ∀ τ, RM (xKeep x A).2 τ → Q (xKeep x A).1 τ) : wX8_keep x σ Q := by
  unfold wX8_keep
  refine pl_iy (fun p hp e g => ?_) (fun g => ?_)
  rotate_left
  · rw [if_pos rfl]
    simpa only [xKeep, g] using hQ σ (by simpa only [xKeep, g] using h)
  subst e
  rw [if_neg (by decide)]
  obtain ⟨h20, h24, hR, h13⟩ := h.2.1
  have len := psz_len (aL A) ok.2.1
  have ps := ok.2.2.1
  rw [h20]
  match hL : aL A with
  | [t] =>
    rw [hL] at h20 h24 hR len ps
    have ht : wf t := ok.2.1 t (by rw [hL]; simp)
    have e : xKeep (nI p) A = (nI (tsz t), sL (sP A p t) []) := by simp only [xKeep, g, hL]
    rw [e] at hQ
    rw [if_pos (show nI [t].length = (1 : Int32) from rfl)]
    refine lt_i (fun τ eτ => ⟨tsz t + 1, ?_⟩)
    simp only [psz, Nat.add_zero, pfl, List.append_nil] at h24 hR ps
    refine keep_loop hp ht ps hQ h (tsz t) 0 τ (by omega) (by rw [eτ]; exact Fm.put 17 _ (by simp)) hR h24 (by rw [eτ, sI_1, up_s, ud_s]; exact h24) (fun j _ hj => by omega)
  | [] =>
    have e : xKeep (nI p) A = (-2, A) := by simp only [xKeep, g, hL]
    rw [e] at hQ
    rw [if_neg (by decide)]
    exact hQ σ h
  | a :: b :: l =>
    have e : xKeep (nI p) A = (-2, A) := by simp only [xKeep, g, hL]
    rw [e] at hQ
    rw [hL] at len ps
    have ln : (a :: b :: l).length = l.length + 2 := rfl
    rw [ln] at len ⊢
    rw [if_neg (show ¬ nI (l.length + 2) = (1 : Int32) from ni_k (c := 1) (by omega) (by omega) (by omega))]
    exact hQ σ h
/-- rows with the same kinds and numbers -/
theorem rw_kv {f g : Nat → Int32} {off : Nat} {xs ys : List En} (h : Rw f g off xs) (e : kv xs = kv ys) : Rw f g off ys := by
  intro i y hy
  have e1 : (kv ys)[i]? = some (y.1, y.2.1) := by
    unfold kv
    rw [List.getElem?_map, hy]; rfl
  rw [← e] at e1
  unfold kv at e1
  rw [List.getElem?_map] at e1
  cases hx : xs[i]? with
  | none => rw [hx] at e1; cases e1
  | some z =>
    rw [hx] at e1
    obtain ⟨a, b⟩ := h i z hx
    have e2 : (z.1, z.2.1) = (y.1, y.2.1) := Option.some.inj e1
    obtain ⟨e3, e4⟩ := Prod.mk.inj e2
    rw [← e3, ← e4]
    exact ⟨a, b⟩
theorem hd_kv {xs ys : List En} (h : hdR σ xs) (e : kv xs = kv ys) : hdR σ ys := by
  have l := congrArg List.length e
  rw [kv_len, kv_len] at l
  exact ⟨by rw [← l]; exact h.1, rw_kv h.2 e⟩
theorem m_breed {x a i b j : Int32} (ok : okA A) (h : RM A σ) (hQ : ∀ τ, RM (xBreed x a i b j A).2 τ → Q (xBreed x a i b j A).1 τ) : wX8_breed x a i b j σ Q := by
  unfold wX8_breed
  refine pl_iy (fun p hp e g1 => ?_) (fun g1 => ?_)
  rotate_left
  · rw [if_pos rfl]
    simpa only [xBreed, g1] using hQ σ (by simpa only [xBreed, g1] using h)
  subst e
  rw [if_neg (by decide)]
  refine has_pg ok h (fun qa hqa e wa sa g2 => ?_) (fun g2 => ?_)
  rotate_left
  · rw [if_pos rfl]
    simpa only [xBreed, g1, g2] using hQ σ (by simpa only [xBreed, g1, g2] using h)
  subst e
  rw [if_neg (by decide)]
  refine has_pg ok h (fun qb hqb e wb s6 g3 => ?_) (fun g3 => ?_)
  rotate_left
  · rw [if_pos rfl]
    simpa only [xBreed, g1, g2, g3] using hQ σ (by simpa only [xBreed, g1, g2, g3] using h)
  subst e
  rw [if_neg (by decide)]
  refine ⟨vp_in_nI hqa (by omega), ?_⟩
  rw [ncl (by omega), ncl (by omega), h.len ok hqa]
  refine in_bl (tsz (aP A qa)) (by omega) (fun i hi e g4 => ?_) (fun g4 => ?_)
  rotate_left
  · rw [if_pos rfl]
    simpa only [xBreed, g1, g2, g3, g4] using hQ σ (by simpa only [xBreed, g1, g2, g3, g4] using h)
  subst e
  rw [if_neg (by decide)]
  refine ⟨vp_in_nI hqb (by omega), ?_⟩
  rw [h.len ok hqb]
  refine in_bl (tsz (aP A qb)) (by omega) (fun j hj e g5 => ?_) (fun g5 => ?_)
  rotate_left
  · rw [if_pos rfl]
    simpa only [xBreed, g1, g2, g3, g4, g5] using hQ σ (by simpa only [xBreed, g1, g2, g3, g4, g5] using h)
  subst e
  rw [if_neg (by decide)]
  obtain ⟨b1, c1, u1, u2, u3, -⟩ := su_sp nl (aP A qb) (Or.inl wb) j hj
  obtain ⟨b2, c2, v1, v2, v3, v4⟩ := su_sp (su (aP A qb) j) (aP A qa) (Or.inl wa) i hi
  obtain ⟨s1, s2⟩ := sb_ok u3 (aP A qa) (Or.inl wa) i hi
  obtain ⟨nt, hnt⟩ : ∃ nt, nt = sb (su (aP A qb) j) (aP A qa) i := ⟨_, rfl⟩
  rw [← hnt] at v4 s1 s2
  have lb : j + tsz (su (aP A qb) j) + c1.length = tsz (aP A qb) := by
    have := congrArg List.length u1
    rw [List.length_append, List.length_append, fl_len _ wb, fl_len _ u3, u2] at this
    omega
  have la : i + tsz (su (aP A qa) i) + c2.length = tsz (aP A qa) := by
    have := congrArg List.length v1
    rw [List.length_append, List.length_append, fl_len _ wa, fl_len _ v3, v2] at this
    omega
  refine take_sp hqb (h.1 qb hqb) (fun τ1 f1 hh1 => ?_)
  have r1 : RM A τ1 := h.sc f1 (by simp) (by simp)
  have hR1 := hh1.2
  rw [u1, Rw.app, Rw.app, u2, Nat.zero_add] at hR1
  refine endOf_sp u3 (by omega) hR1.2.1 ?_
  have sp := spare_sp (a0 := j) (ys := fl (su (aP A qb) j)) (σ := τ1) (Q := fun τ => wX8_take (nI qa) τ fun σ_17 => wX8_endOf (nI i) σ_17 fun r_19 σ_18 => if ((((σ_17.1 0 17) - (r_19 - nI i)) + nI (j + tsz (su (aP A qb) j))) - nI j) ≤ 60 then (wX8_endOf (nI i) σ_18 fun r_21 σ_20 => (wX8_splice (nI i) r_21 (nI (j + tsz (su (aP A qb) j)) - nI j) σ_20 fun  σ_22 => (wX8_put (nI p) σ_22 fun r_24 σ_23 => (Q r_24 σ_23)))) else Q (-3) σ_18) (by rw [fl_len _ u3]; omega) (by rw [fl_len _ u3]; omega) hR1.2.1
  rw [fl_len _ u3] at sp
  refine sp (fun τ2 f2 hs2 => ?_)
  have r2 : RM A τ2 := r1.sc f2 (by simp) (by simp)
  refine take_sp hqa (r2.1 qa hqa) (fun τ3 f3 hh3 => ?_)
  have r3 : RM A τ3 := r2.sc f3 (by simp) (by simp)
  have hR3 := hh3.2
  rw [v1, Rw.app, Rw.app, v2, Nat.zero_add] at hR3
  refine endOf_sp v3 (by omega) hR3.2.1 ?_
  rw [hh3.1, fl_len _ wa, pk_sub (a := i + tsz (su (aP A qa) i)) (by omega), pk_sub (by omega), nI_add, pk_sub (by omega)]
  have e60 : tsz (aP A qa) - (i + tsz (su (aP A qa) i) - i) + (j + tsz (su (aP A qb) j)) - j = tsz nt := by omega
  rw [e60]
  by_cases q : 60 < tsz nt
  · rw [if_neg (show ¬ nI (tsz nt) ≤ (60 : Int32) from nI_ge (a := 60) (by omega) (by omega))]
    have e : xBreed (nI p) (nI qa) (nI i) (nI qb) (nI j) A = (-3, A) := by simp only [xBreed, g1, g2, g3, g4, g5, ← hnt, if_pos q]
    rw [e] at hQ
    exact hQ τ3 r3
  · rw [if_pos (show nI (tsz nt) ≤ (60 : Int32) from nI_le (b := 60) (by omega) (by omega))]
    have e : xBreed (nI p) (nI qa) (nI i) (nI qb) (nI j) A = (nI (tsz nt), sP A p nt) := by simp only [xBreed, g1, g2, g3, g4, g5, ← hnt, if_neg q]
    rw [e] at hQ
    refine endOf_sp v3 (by omega) hR3.2.1 ?_
    rw [pk_sub (by omega), Nat.add_sub_cancel_left]
    have spl := splice_sp (A := b2) (ys := fl (su (aP A qb) j)) (C := c2) (B := fl (su (aP A qa) i)) (σ := τ3) (Q := fun τ => wX8_put (nI p) τ fun r_24 σ_23 => (Q r_24 σ_23)) (by rw [fl_len _ u3]; omega) (by rw [fl_len _ u3]; omega) (by rw [fl_len _ v3]; omega) (by rw [← v1]; exact hh3) (by rw [f3.1 16 (by simp) (by simp), f3.1 17 (by simp) (by simp)]; exact hs2)
    rw [fl_len _ u3, fl_len _ v3, v2] at spl
    refine spl (fun τ4 f4 hh4 => ?_)
    have hh5 : hdR τ4 (fl nt) := hd_kv hh4 (by rw [v4, kv_app, kv_app])
    refine put_sp hp (by rw [fl_len _ s1]; omega) hh5 (fun τ5 q5 => ?_)
    rw [fl_len _ s1]
    exact hQ τ5 ((r3.sc f4 (by simp) (by simp)).put hp q5)
end
