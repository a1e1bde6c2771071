/-! the class: the orders written -/
section
variable {Q : Sg → Prop} {t q n i D k : Nat} {T : Tr} {σ : Sg} {Xs : List Od}
/-- a part has ended, D nodes are open -/
def HdW (Q : Sg → Prop) (t q n i D : Nat) (σ : Sg) : Prop := ∀ nn x2, D + 1 ≤ nn → x2 = nI D - 1 → wX0_endParts_4 (fun r τ => wX0_write_92 (wX0_write_24 Q n) t q r (nI i) τ Q) nn t x2 σ
def WrR (σ : Sg) (t q : Nat) (T : Tr) (Xs : List Od) : Prop := (q + 4 ≤ t ∨ t + 7 ≤ q) ∧ CoR σ t Xs ∧ TrR σ q (fl T)
abbrev S7 (t : Nat) : Nat → Prop := fun i => t ≤ i ∧ i < t + 7
theorem WrR.gm {τ : Sg} {Ys : List Od} (h : WrR σ t q T Xs) (g : Gm (S7 t) σ τ) (h2 : CoR τ t Ys) : WrR τ t q T Ys := ⟨h.1, h2, h.2.2.gm g (fun i x y => by have := h.1; unfold S7; omega)⟩
theorem CoR.gm {S : Nat → Prop} {τ : Sg} (h : CoR σ t Xs) (g : Gm S σ τ) (hS : ∀ i, t ≤ i → i < t + 3 → ¬ S i) : CoR τ t Xs := by
  obtain ⟨a, b, c, d, e1, e2, e3⟩ := h
  have r := g.1 t (hS t (by omega) (by omega))
  refine ⟨a, b, by rw [r]; exact c, fun i e he => ?_, by rw [r]; exact e1, by rw [r]; exact e2, by rw [r]; exact e3⟩
  rw [g.1 _ (hS (t + 1) (by omega) (by omega)), g.1 _ (hS (t + 2) (by omega) (by omega))]
  exact d i e he
/-- the open nodes below D are as they were -/
def Bk (t D : Nat) (σ τ : Sg) : Prop := ∀ j, j < D → τ.1 (t + 3) j = σ.1 (t + 3) j ∧ τ.1 (t + 4) j = σ.1 (t + 4) j ∧ τ.1 (t + 5) j = σ.1 (t + 5) j
theorem Bk.tr {τ ρ : Sg} (h : Bk t D σ τ) (g : Bk t D τ ρ) : Bk t D σ ρ := fun j hj => ⟨(g j hj).1.trans (h j hj).1, (g j hj).2.1.trans (h j hj).2.1, (g j hj).2.2.trans (h j hj).2.2⟩
theorem Bk.wk {τ : Sg} (h : Bk t (D + 1) σ τ) : Bk t D σ τ := fun j hj => h j (by omega)
theorem bk_c {τ : Sg} (g : Gm (fun i => t ≤ i ∧ i < t + 3) σ τ) : Bk t D σ τ := fun j _ => by
  rw [g.1 (t + 3) (by omega), g.1 (t + 4) (by omega), g.1 (t + 5) (by omega)]
  exact ⟨rfl, rfl, rfl⟩
theorem g3_7 {τ : Sg} (g : Gm (fun i => t ≤ i ∧ i < t + 3) σ τ) : Gm (S7 t) σ τ := g.wk (fun i e => ⟨e.1, by omega⟩)
theorem wr_head {m : Nat} (hD : D < 200) (hk : k ≤ 8) (h : WrR σ t q T Xs) (h3 : σ.1 (t + 3) D = nI k) (h4 : σ.1 (t + 4) D = nI m)
    (hK : ∀ nn τ, D + 1 ≤ nn → Gm (S7 t) σ τ → Bk t D σ τ → WrR τ t q T Xs → τ.1 (t + 3) D = nI k → τ.1 (t + 4) D = nI (m + 1) → τ.1 (t + 5) D = σ.1 (t + 5) D →
      if nI k = (8 : Int32) then (wX0_jumpBehindPart t (nI D) τ fun ρ => wX0_endParts_41 (wX0_endParts_4 (fun r τ => wX0_write_92 (wX0_write_24 Q n) t q r (nI i) τ Q) nn) t (nI D) ρ (fun r τ => wX0_write_92 (wX0_write_24 Q n) t q r (nI i) τ Q)) else wX0_endParts_41 (wX0_endParts_4 (fun r τ => wX0_write_92 (wX0_write_24 Q n) t q r (nI i) τ Q) nn) t (nI D) τ (fun r τ => wX0_write_92 (wX0_write_24 Q n) t q r (nI i) τ Q)) : HdW Q t q n i (D + 1) σ := by
  intro nn x2 hn hx
  rw [nI_pred] at hx
  subst hx
  cases nn with
  | zero => omega
  | succ nn =>
    show wX0_endParts_4_b (wX0_endParts_4 (fun r τ => wX0_write_92 (wX0_write_24 Q n) t q r (nI i) τ Q) nn) t (nI D) σ (fun r τ => wX0_write_92 (wX0_write_24 Q n) t q r (nI i) τ Q)
    unfold wX0_endParts_4_b
    rw [if_neg (nI_pos (by omega)), if_neg (show ¬ (200 : Int32) ≤ nI D from nI_ge (b := 200) hD (by omega)), ncl (by omega), h4, nI_1]
    refine ⟨h.2.1.1, vp_in_nI hD (by omega), lt_i (fun τ eτ => ?_)⟩
    have g : Gm (fun i => i = t + 4) σ τ := by rw [eτ]; exact Gm.i _ _ rfl
    have g' : Gm (S7 t) σ τ := g.wk (fun i e => ⟨by omega, by omega⟩)
    have t3 : τ.1 (t + 3) = σ.1 (t + 3) := g.1 _ (by omega)
    have t5 : τ.1 (t + 5) = σ.1 (t + 5) := g.1 _ (by omega)
    have t4 : τ.1 (t + 4) = upd (σ.1 (t + 4)) D (nI (m + 1)) := by rw [eτ, sI_1, up_s]
    have t3' : τ.1 (t + 3) D = nI k := by rw [t3]; exact h3
    rw [t3']
    exact hK nn τ (by omega) g' (fun j hj => ⟨by rw [t3], by rw [t4, ud_n _ _ _ _ (by omega)], by rw [t5]⟩) (h.gm g' (h.2.1.gm g (fun i x y => by omega))) t3' (by rw [t4, ud_s]) (by rw [t5])
/-- more parts are to come -/
theorem wr_more {m : Nat} (hk : k ≤ 8) (hD : D < 200) (h3 : σ.1 (t + 3) D = nI k) (h4 : σ.1 (t + 4) D = nI m) (hm : m < ary k) (h : CoR σ t Xs) {K : Nat → Int32 → Sg → Prop} (hC : wX0_write_24 Q n t q (nI (D + 1)) (nI (i + 1)) σ) : wX0_endParts_41 K t (nI D) σ (fun r τ => wX0_write_92 (wX0_write_24 Q n) t q r (nI i) τ Q) := by
  have a3 := ary_3 k
  unfold wX0_endParts_41
  rw [ncl (by omega), h3]
  refine ⟨h.1, vp_in_nI hD (by omega), pO_sp hk ?_⟩
  rw [h4, if_neg (nI_ge hm (by omega)), nI_1]
  unfold wX0_write_92
  refine lt_i (fun x ex => ?_)
  rw [ex, nI_1]
  exact hC
/-- the last part has ended -/
theorem wr_last {m nn : Nat} (hk : k ≤ 8) (hD : D < 200) (hn : D + 1 ≤ nn) (h : WrR σ t q T Xs) (h3 : σ.1 (t + 3) D = nI k) (h4 : σ.1 (t + 4) D = nI m) (hm : ary k ≤ m) (hm2 : m < 100) (h8 : k = 8 → HdW Q t q n i D σ) (hl : k ≠ 8 → Xs.length < 400) (hC : k ≠ 8 → ∀ τ, Gm (S7 t) σ τ → Bk t D σ τ → WrR τ t q T (Xs ++ [(k, 0)]) → HdW Q t q n i D τ) : wX0_endParts_41 (wX0_endParts_4 (fun r τ => wX0_write_92 (wX0_write_24 Q n) t q r (nI i) τ Q) nn) t (nI D) σ (fun r τ => wX0_write_92 (wX0_write_24 Q n) t q r (nI i) τ Q) := by
  have a3 := ary_3 k
  unfold wX0_endParts_41
  rw [ncl (by omega), h3]
  refine ⟨h.2.1.1, vp_in_nI hD (by omega), pO_sp hk ?_⟩
  rw [h4, if_pos (nI_le hm (by omega)), h3]
  by_cases z : k = 8
  · rw [if_pos (show nI k = (8 : Int32) by rw [z]; rfl)]
    unfold wX0_endParts_85
    refine lt_i (fun x ex => ?_)
    exact h8 z nn x hn (by rw [ex, Int32.sub_eq_add_neg])
  · rw [if_neg (show ¬ nI k = (8 : Int32) from ni_k (c := 8) (by omega) (by omega) z)]
    refine add_sp (by omega) h.2.1 (hl z) (fun τ g h2 => ?_)
    unfold wX0_endParts_85
    refine lt_i (fun x ex => ?_)
    exact hC z τ (g3_7 g) (bk_c g) (h.gm (g3_7 g) h2) nn x hn (by rw [ex, Int32.sub_eq_add_neg])
/-- a leaf or a node is read -/
theorem wr_read {sz : Nat} {v : Int32} (hT : wf T) (h : WrR σ t q T Xs) (hi : i < tsz T) (he : en (fl T) i = (k, v, sz)) (hD : D < 200) (hl : Xs.length < 400) (h0 : ary k = 0 → ∀ τ, Gm (S7 t) σ τ → Bk t D σ τ → WrR τ t q T (Xs ++ [(k, v)]) → HdW Q t q n i D τ)
    (h1 : 1 ≤ ary k → ∀ τ, Gm (S7 t) σ τ → Bk t D σ τ → WrR τ t q T Xs → τ.1 (t + 3) D = nI k → τ.1 (t + 4) D = nI 0 → wX0_write_24 Q n t q (nI (D + 1)) (nI (i + 1)) τ) : wX0_write_24 Q (n + 1) t q (nI D) (nI i) σ := by
  have nT := fl_len T hT
  obtain ⟨q1, q2, q4⟩ := id h
  have l200 := q4.2.2.1
  have k8 : k ≤ 8 := by have := (en_wr q4.2.1 i).1; rw [he] at this; exact this
  have a3 := ary_3 k
  show wX0_write_24_b (wX0_write_24 Q n) t q (nI D) (nI i) σ Q
  unfold wX0_write_24_b
  rw [q4.2.2.2.1, nT, if_neg (nI_ge hi (by omega)), if_neg (show ¬ (200 : Int32) ≤ nI D from nI_ge (b := 200) hD (by omega))]
  refine ⟨q4.1, kindOf_sp q4 (by omega) ?_⟩
  rw [he]
  dsimp only
  refine pO_sp k8 ?_
  by_cases z : ary k = 0
  · rw [z, if_pos (by decide)]
    refine numberOf_sp q4 (by omega) ⟨q2.1, ?_⟩
    rw [he]
    dsimp only
    refine add_sp (by omega) q2 hl (fun τ g h2 => ?_)
    unfold wX0_endParts
    refine lt_i (fun x ex => ⟨D + 1, ?_⟩)
    exact h0 z τ (g3_7 g) (bk_c g) (h.gm (g3_7 g) h2) (D + 1) x (by omega) ex
  · rw [if_neg (show ¬ nI (ary k) ≤ (0 : Int32) from nI_ge (a := 0) (by omega) (by omega)), ncl (by omega)]
    refine ⟨q2.1, vp_in_nI hD (by omega), lt_i (fun ρ eρ => lt_i (fun ξ eξ => lt_i (fun y ey => ?_)))⟩
    rw [ey, nI_1]
    unfold wX0_write_92
    refine lt_i (fun x ex => ?_)
    rw [ex, nI_1]
    have g2 : Gm (fun i => i = t + 3 ∨ i = t + 4) σ ρ := by rw [eρ]; exact Gm.i _ _ (Or.inl rfl)
    have g3 : Gm (fun i => i = t + 3 ∨ i = t + 4) ρ ξ := by rw [eξ]; exact Gm.i _ _ (Or.inr rfl)
    have g23 := g2.tr g3
    have g23' : Gm (S7 t) σ ξ := g23.wk (fun i e => ⟨by omega, by omega⟩)
    have x3 : ξ.1 (t + 3) = upd (σ.1 (t + 3)) D (nI k) := by rw [eξ, sI_1, up_n _ _ _ _ (by omega), eρ, sI_1, up_s]
    have x4 : ξ.1 (t + 4) = upd (σ.1 (t + 4)) D 0 := by rw [eξ, sI_1, up_s, eρ, sI_1, up_n _ _ _ _ (by omega)]
    refine h1 (by omega) ξ g23' (fun j hj => ⟨?_, ?_, ?_⟩) (h.gm g23' (q2.gm g23 (fun i x y => by omega))) (by rw [x3, ud_s]) (by rw [x4, ud_s]; rfl)
    · rw [x3, ud_n _ _ _ _ (by omega)]
    · rw [x4, ud_n _ _ _ _ (by omega)]
    · rw [g23.1 _ (by omega)]
/-- the jumps of an IF, behind its first part, its second, its third -/
theorem jp_1 {S : Sg → Prop} (hD : D < 200) (h : WrR σ t q T Xs) (h4 : σ.1 (t + 4) D = nI 1) (hl : Xs.length < 400) (hS : ∀ τ, Gm (S7 t) σ τ → Bk t D σ τ → WrR τ t q T (Xs ++ [(9, 0)]) → τ.1 (t + 3) D = σ.1 (t + 3) D → τ.1 (t + 4) D = nI 1 → τ.1 (t + 5) D = nI Xs.length → S τ) : wX0_jumpBehindPart t (nI D) σ S := by
  obtain ⟨q1, q2, q4⟩ := id h
  unfold wX0_jumpBehindPart
  rw [ncl (by omega), h4, if_pos (by decide), q2.2.2.1]
  refine ⟨q2.1, vp_in_nI hD (by omega), lt_i (fun ρ eρ => ?_)⟩
  have g : Gm (fun i => i = t + 5) σ ρ := by rw [eρ]; exact Gm.i _ _ rfl
  have g' : Gm (S7 t) σ ρ := g.wk (fun i e => ⟨by omega, by omega⟩)
  have hρ := h.gm g' (q2.gm g (fun i x y => by omega))
  have r5 : ρ.1 (t + 5) = upd (σ.1 (t + 5)) D (nI Xs.length) := by rw [eρ, sI_1, up_s]
  refine add_sp (k := 9) (by omega) hρ.2.1 hl (fun τ g2 h2 => hS τ (g'.tr (g3_7 g2)) (Bk.tr (fun j hj => ⟨?_, ?_, ?_⟩) (bk_c g2)) (hρ.gm (g3_7 g2) h2) ?_ ?_ ?_)
  · rw [g.1 _ (by omega)]
  · rw [g.1 _ (by omega)]
  · rw [r5, ud_n _ _ _ _ (by omega)]
  · rw [g2.1 _ (by omega), g.1 _ (by omega)]
  · rw [g2.1 _ (by omega), g.1 _ (by omega)]; exact h4
  · rw [g2.1 _ (by omega), r5, ud_s]
theorem jp_2 {S : Sg → Prop} {A B : List Od} {v : Int32} (hD : D < 200) (h : WrR σ t q T (A ++ ((9, v) :: B))) (h4 : σ.1 (t + 4) D = nI 2) (h5 : σ.1 (t + 5) D = nI A.length) (hl : A.length + 1 + B.length < 400) (hS : ∀ τ, Gm (S7 t) σ τ → Bk t D σ τ → WrR τ t q T (A ++ ((9, nI (A.length + 1 + B.length + 1)) :: B) ++ [(10, 0)]) → τ.1 (t + 3) D = σ.1 (t + 3) D → τ.1 (t + 4) D = nI 2 → τ.1 (t + 5) D = nI (A.length + 1 + B.length) → S τ) : wX0_jumpBehindPart t (nI D) σ S := by
  obtain ⟨q1, q2, q4⟩ := id h
  have eL : ∀ v : Int32, (A ++ ((9, v) :: B)).length = A.length + 1 + B.length := fun v => by rw [List.length_append, List.length_cons]; omega
  unfold wX0_jumpBehindPart
  rw [ncl (by omega), h4, if_neg (by decide), if_pos (by decide), h5, q2.2.2.1, eL, nI_1]
  refine ⟨q2.1, vp_in_nI hD (by omega), aim_sp q2 rfl (fun ρ0 g0 h0 => ?_)⟩
  have hρ0 := h.gm (g3_7 g0) h0
  rw [h0.2.2.1, eL]
  refine lt_i (fun ρ eρ => ?_)
  have g : Gm (fun i => i = t + 5) ρ0 ρ := by rw [eρ]; exact Gm.i _ _ rfl
  have g' : Gm (S7 t) ρ0 ρ := g.wk (fun i e => ⟨by omega, by omega⟩)
  have hρ := hρ0.gm g' (h0.gm g (fun i x y => by omega))
  have r5 : ρ.1 (t + 5) = upd (ρ0.1 (t + 5)) D (nI (A.length + 1 + B.length)) := by rw [eρ, sI_1, up_s]
  refine add_sp (k := 10) (by omega) hρ.2.1 (by rw [eL]; exact hl) (fun τ g2 h2 => hS τ (((g3_7 g0).tr g').tr (g3_7 g2)) (Bk.tr (Bk.tr (bk_c g0) (fun j hj => ⟨?_, ?_, ?_⟩)) (bk_c g2)) (hρ.gm (g3_7 g2) h2) ?_ ?_ ?_)
  · rw [g.1 _ (by omega)]
  · rw [g.1 _ (by omega)]
  · rw [r5, ud_n _ _ _ _ (by omega)]
  · rw [g2.1 _ (by omega), g.1 _ (by omega), g0.1 _ (by omega)]
  · rw [g2.1 _ (by omega), g.1 _ (by omega), g0.1 _ (by omega)]; exact h4
  · rw [g2.1 _ (by omega), r5, ud_s]
theorem jp_3 {S : Sg → Prop} {A B : List Od} {v : Int32} (hD : D < 200) (h : WrR σ t q T (A ++ ((10, v) :: B))) (h4 : σ.1 (t + 4) D = nI 3) (h5 : σ.1 (t + 5) D = nI A.length) (hS : ∀ τ, Gm (S7 t) σ τ → Bk t D σ τ → WrR τ t q T (A ++ ((10, nI (A.length + 1 + B.length)) :: B)) → τ.1 (t + 3) D = σ.1 (t + 3) D → τ.1 (t + 4) D = nI 3 → S τ) : wX0_jumpBehindPart t (nI D) σ S := by
  obtain ⟨q1, q2, q4⟩ := id h
  unfold wX0_jumpBehindPart
  rw [ncl (by omega), h4, if_neg (by decide), if_neg (by decide), h5, q2.2.2.1, List.length_append, List.length_cons, show A.length + (B.length + 1) = A.length + 1 + B.length by omega]
  refine ⟨q2.1, vp_in_nI hD (by omega), aim_sp q2 rfl (fun τ g0 h0 => hS τ (g3_7 g0) (bk_c g0) (h.gm (g3_7 g0) h0) ?_ ?_)⟩
  · rw [g0.1 _ (by omega)]
  · rw [g0.1 _ (by omega)]; exact h4
end
