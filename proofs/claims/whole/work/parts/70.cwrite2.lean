/-! the class: the orders of a tree, by its parts -/
section
variable {Q : Sg → Prop} {t q : Nat} {T : Tr}
def wrI (Q : Sg → Prop) (t q : Nat) (T u : Tr) : Prop := ∀ (A C : List En) (Xs : List Od) (i D n : Nat) (σ : Sg), fl T = A ++ (fl u ++ C) → A.length = i → D ≤ i → WrR σ t q T Xs → Xs.length ≤ 2 * i → (∀ τ, Gm (S7 t) σ τ → Bk t D σ τ → WrR τ t q T (Xs ++ co u Xs.length) → HdW Q t q n (i + tsz u - 1) D τ) → wX0_write_24 Q (n + tsz u) t q (nI D) (nI i) σ
theorem wr_1 {k : Nat} {v : Int32} {x y z : Tr} {A C : List En} {Xs : List Od} {i D n : Nat} {σ : Sg} (hT : wf T) (hw : wf (nd k v x y z)) (ha : 1 ≤ ary k) (ix : wrI Q t q T x) (eT : fl T = A ++ (fl (nd k v x y z) ++ C)) (eA : A.length = i) (hDi : D ≤ i) (hW : WrR σ t q T Xs) (hl : Xs.length ≤ 2 * i)
    (hC : ∀ τ, Gm (S7 t) σ τ → Bk t D σ τ → WrR τ t q T (Xs ++ co x Xs.length) → τ.1 (t + 3) D = nI k → τ.1 (t + 4) D = nI 0 → HdW Q t q n (i + tsz x) (D + 1) τ) : wX0_write_24 Q (n + tsz x + 1) t q (nI D) (nI i) σ := by
  have lT := len_T hT hw eT eA
  have l200 := hW.2.2.2.2.1
  rw [fl_len T hT] at l200
  rw [tsz_nd] at lT
  have he := en_T hw eT eA
  rw [kd_nd, vv_nd] at he
  have px : 1 ≤ tsz x := by
    rw [wf_nd, if_pos ha] at hw
    exact wf_pos hw.2.2.1
  refine wr_read hT hW (by omega) he (by omega) (by omega) (fun z => by omega) (fun _ τ g B h1 h3 h4 => ?_)
  refine ix (A ++ [(k, v, 1 + tsz x + tsz y + tsz z)]) (fl y ++ (fl z ++ C)) Xs (i + 1) (D + 1) n τ ?_ (by rw [List.length_append, eA]; rfl) (by omega) h1 (by omega) (fun τ2 g2 B2 h2 => ?_)
  · rw [eT, fl_nd]; simp
  · rw [show i + 1 + tsz x - 1 = i + tsz x by omega]
    exact hC τ2 (g.tr g2) (B.tr B2.wk) h2 (by rw [(B2 D (by omega)).1]; exact h3) (by rw [(B2 D (by omega)).2.1]; exact h4)
theorem wr_sub (hT : wf T) : ∀ u, wf u → wrI Q t q T u := by
  apply wf_ind
  · intro k v hk hv A C Xs i D n σ eT eA hDi hW hl hC
    have hw := wf_0 hk hv
    have lT := len_T hT hw eT eA
    have l200 := hW.2.2.2.2.1
    rw [fl_len T hT] at l200
    rw [tsz_nd, tsz_nl] at lT
    have he := en_T hw eT eA
    rw [kd_nd, vv_nd] at he
    have a0 := ary_0 hk
    rw [tsz_nd, tsz_nl] at hC ⊢
    refine wr_read hT hW (by omega) he (by omega) (by omega) (fun _ τ g B h1 => ?_) (fun z => by omega)
    have := hC τ g B
    rw [(cd_0 v hk _).1] at this
    exact this h1
  · intro x hx ix A C Xs i D n σ eT eA hDi hW hl hC
    have hw := wf_1 hx
    have lT := len_T hT hw eT eA
    have l200 := hW.2.2.2.2.1
    rw [fl_len T hT] at l200
    have px := wf_pos hx
    obtain ⟨c1, c2, c3⟩ := co_len x hx Xs.length
    rw [tsz_nd, tsz_nl] at lT
    rw [tsz_nd, tsz_nl, show n + (1 + tsz x + 0 + 0) = n + tsz x + 1 by omega]
    rw [tsz_nd, tsz_nl, show i + (1 + tsz x + 0 + 0) - 1 = i + tsz x by omega] at hC
    refine wr_1 hT hw (by decide) ix eT eA hDi hW hl (fun τ g B h1 h3 h4 => ?_)
    refine wr_head (by omega) (by omega) h1 h3 h4 (fun nn τ2 hn g2 B2 h2 x3 x4 x5 => ?_)
    rw [if_neg (by decide)]
    refine wr_last (by omega) (by omega) hn h2 x3 x4 (by decide) (by omega) (fun z => by omega) (fun _ => by rw [List.length_append, c1]; omega) (fun _ τ3 g3 B3 h5 => ?_)
    have := hC τ3 ((g.tr g2).tr g3) ((B.tr B2).tr B3)
    rw [(cd_1 x _).1, ← List.append_assoc] at this
    exact this h5
  · intro k x y k1 k2 hx hy ix iy A C Xs i D n σ eT eA hDi hW hl hC
    have hw := wf_2 k1 k2 hx hy
    have lT := len_T hT hw eT eA
    have l200 := hW.2.2.2.2.1
    rw [fl_len T hT] at l200
    have px := wf_pos hx
    have py := wf_pos hy
    have a2 := ary_2 k1 k2
    obtain ⟨c1, c2, c3⟩ := co_len x hx Xs.length
    obtain ⟨d1, d2, d3⟩ := co_len y hy (Xs.length + cl x)
    rw [tsz_nd, tsz_nl] at lT
    rw [tsz_nd, tsz_nl, show n + (1 + tsz x + tsz y + 0) = n + tsz y + tsz x + 1 by omega]
    rw [tsz_nd, tsz_nl, show i + (1 + tsz x + tsz y + 0) - 1 = i + tsz x + tsz y by omega] at hC
    refine wr_1 hT hw (by omega) ix eT eA hDi hW hl (fun τ g B h1 h3 h4 => ?_)
    refine wr_head (by omega) (by omega) h1 h3 h4 (fun nn τ2 hn g2 B2 h2 x3 x4 x5 => ?_)
    rw [if_neg (show ¬ nI k = (8 : Int32) from ni_k (c := 8) (by omega) (by omega) (by omega))]
    refine wr_more (by omega) (by omega) x3 x4 (by omega) h2.2.1 ?_
    have eL : (Xs ++ co x Xs.length).length = Xs.length + cl x := by rw [List.length_append, c1]
    refine iy (A ++ ((k, 0, 1 + tsz x + tsz y + 0) :: fl x)) C _ (i + tsz x + 1) (D + 1) n τ2 (by rw [eT, fl_nd, fl_nl, tsz_nl]; simp) (by rw [List.length_append, List.length_cons, fl_len x hx, eA]; omega) (by omega) h2 (by rw [eL]; omega) (fun τ3 g3 B3 h5 => ?_)
    rw [eL] at h5
    rw [show i + tsz x + 1 + tsz y - 1 = i + tsz x + tsz y by omega]
    refine wr_head (k := k) (by omega) (by omega) h5 (by rw [(B3 D (by omega)).1]; exact x3) (by rw [(B3 D (by omega)).2.1]; exact x4) (fun nn τ4 hn g4 B4 h6 y3 y4 y5 => ?_)
    rw [if_neg (show ¬ nI k = (8 : Int32) from ni_k (c := 8) (by omega) (by omega) (by omega))]
    refine wr_last (by omega) (by omega) hn h6 y3 y4 (by omega) (by omega) (fun z => by omega) (fun _ => by rw [List.length_append, eL, d1]; omega) (fun _ τ5 g5 B5 h7 => ?_)
    have := hC τ5 ((((g.tr g2).tr g3).tr g4).tr g5) ((((B.tr B2).tr B3.wk).tr B4).tr B5)
    rw [(cd_2 x y k1 k2 _).1, ← List.append_assoc, ← List.append_assoc] at this
    exact this h7
  · intro x y z hx hy hz ix iy iz A C Xs i D n σ eT eA hDi hW hl hC
    have hw := wf_3 hx hy hz
    have lT := len_T hT hw eT eA
    have l200 := hW.2.2.2.2.1
    rw [fl_len T hT] at l200
    have px := wf_pos hx
    have py := wf_pos hy
    have pz := wf_pos hz
    obtain ⟨c1, c2, c3⟩ := co_len x hx Xs.length
    obtain ⟨d1, d2, d3⟩ := co_len y hy (Xs.length + cl x + 1)
    obtain ⟨e1, e2, e3⟩ := co_len z hz (Xs.length + cl x + 1 + cl y + 1)
    rw [tsz_nd] at lT
    rw [tsz_nd, show n + (1 + tsz x + tsz y + tsz z) = n + tsz z + tsz y + tsz x + 1 by omega]
    rw [tsz_nd, show i + (1 + tsz x + tsz y + tsz z) - 1 = i + tsz x + tsz y + tsz z by omega] at hC
    refine wr_1 hT hw (by decide) ix eT eA hDi hW hl (fun τ g B h1 h3 h4 => ?_)
    have eL : (Xs ++ co x Xs.length).length = Xs.length + cl x := by rw [List.length_append, c1]
    obtain ⟨X1, hX1⟩ : ∃ X1, X1 = Xs ++ co x Xs.length := ⟨_, rfl⟩
    rw [← hX1] at h1 eL
    refine wr_head (by omega) (by omega) h1 h3 h4 (fun nn τ2 hn g2 B2 h2 x3 x4 x5 => ?_)
    rw [if_pos (by decide)]
    refine jp_1 (by omega) h2 x4 (by omega) (fun τ3 g3 B3 h5 y3 y4 y5 => ?_)
    refine wr_more (k := 8) (by omega) (by omega) (by rw [y3]; exact x3) y4 (by decide) h5.2.1 ?_
    have eL2 : (X1 ++ [(9, 0)]).length = Xs.length + cl x + 1 := by rw [List.length_append, eL]; rfl
    refine iy (A ++ ((8, 0, 1 + tsz x + tsz y + tsz z) :: fl x)) (fl z ++ C) _ (i + tsz x + 1) (D + 1) (n + tsz z) τ3 (by rw [eT, fl_nd]; simp) (by rw [List.length_append, List.length_cons, fl_len x hx, eA]; omega) (by omega) h5 (by rw [eL2]; omega) (fun τ4 g4 B4 h6 => ?_)
    rw [eL2, List.append_assoc, List.singleton_append] at h6
    rw [show i + tsz x + 1 + tsz y - 1 = i + tsz x + tsz y by omega]
    refine wr_head (k := 8) (by omega) (by omega) h6 (by rw [(B4 D (by omega)).1, y3]; exact x3) (by rw [(B4 D (by omega)).2.1]; exact y4) (fun nn τ5 hn g5 B5 h7 z3 z4 z5 => ?_)
    rw [if_pos (by decide)]
    refine jp_2 (by omega) h7 z4 (by rw [z5, (B4 D (by omega)).2.2]; exact y5) (by rw [eL, d1]; omega) (fun τ6 g6 B6 h8 u3 u4 u5 => ?_)
    rw [eL, d1] at h8 u5
    refine wr_more (k := 8) (by omega) (by omega) (by rw [u3]; exact z3) u4 (by decide) h8.2.1 ?_
    have eL3 : (X1 ++ ((9, nI (Xs.length + cl x + 1 + cl y + 1)) :: co y (Xs.length + cl x + 1))).length = Xs.length + cl x + 1 + cl y := by rw [List.length_append, List.length_cons, eL, d1]; omega
    obtain ⟨X2, hX2⟩ : ∃ X2, X2 = X1 ++ ((9, nI (Xs.length + cl x + 1 + cl y + 1)) :: co y (Xs.length + cl x + 1)) := ⟨_, rfl⟩
    rw [← hX2] at h8 eL3
    have eL4 : (X2 ++ [(10, 0)]).length = Xs.length + cl x + 1 + cl y + 1 := by rw [List.length_append, eL3]; rfl
    refine iz (A ++ ((8, 0, 1 + tsz x + tsz y + tsz z) :: (fl x ++ fl y))) C _ (i + tsz x + tsz y + 1) (D + 1) n τ6 (by rw [eT, fl_nd]; simp) (by rw [List.length_append, List.length_cons, List.length_append, fl_len x hx, fl_len y hy, eA]; omega) (by omega) h8 (by rw [eL4]; omega) (fun τ7 g7 B7 h9 => ?_)
    rw [eL4, List.append_assoc, List.singleton_append] at h9
    rw [show i + tsz x + tsz y + 1 + tsz z - 1 = i + tsz x + tsz y + tsz z by omega]
    refine wr_head (k := 8) (by omega) (by omega) h9 (by rw [(B7 D (by omega)).1, u3]; exact z3) (by rw [(B7 D (by omega)).2.1]; exact u4) (fun nn τ8 hn g8 B8 h10 v3 v4 v5 => ?_)
    rw [if_pos (by decide)]
    refine jp_3 (by omega) h10 v4 (by rw [v5, (B7 D (by omega)).2.2, u5, eL3]) (fun τ9 g9 B9 h11 w3 w4 => ?_)
    rw [eL3, e1] at h11
    refine wr_last (k := 8) (by omega) (by omega) hn h11 (by rw [w3]; exact v3) w4 (by decide) (by omega) (fun _ => ?_) (fun zz => absurd rfl zz) (fun zz => absurd rfl zz)
    refine hC τ9 (((((((g.tr g2).tr g3).tr g4).tr g5).tr g6).tr g7).tr g8 |>.tr g9) ((((((((B.tr B2).tr B3).tr B4.wk).tr B5).tr B6).tr B7.wk).tr B8).tr B9) ?_
    rw [(cd_3 x y z _).1]
    rw [hX2, hX1] at h11
    simpa using h11
/-- write(): the orders of a tree -/
theorem write_sp {σ : Sg} (hT : wf T) (ht : YC.2.1 t = 0) (hq : q + 4 ≤ t ∨ t + 7 ≤ q) (h : TrR σ q (fl T)) (hQ : ∀ τ, Gm (S7 t) σ τ → CoR τ t (co T 0) → Q τ) : wX0_write t q σ Q := by
  have pT := wf_pos hT
  have nT := fl_len T hT
  unfold wX0_write
  refine ⟨ht, lt_i (fun a ea => lt_i (fun b eb => lt_i (fun c ec => lt_i (fun d ed => ⟨1 + tsz T, ?_⟩))))⟩
  have g : Gm (fun i => i = t) σ d := by
    rw [ed, ec, eb, ea]
    exact (((Gm.i (S := fun i => i = t) t _ rfl).tr (Gm.i t _ rfl)).tr (Gm.i t _ rfl)).tr (Gm.i t _ rfl)
  have g' : Gm (S7 t) σ d := g.wk (fun i e => ⟨by omega, by omega⟩)
  have dt : d.1 t = upd (upd (upd (upd (σ.1 t) 2 0) 3 0) 4 0) 5 0 := by
    rw [ed, sI_1, up_s, ec, sI_1, up_s, eb, sI_1, up_s, ea, sI_1, up_s]
  have h0 : CoR d t [] := ⟨ht, by simp, by rw [dt, ud_n _ _ _ _ (by decide), ud_n _ _ _ _ (by decide), ud_n _ _ _ _ (by decide), ud_s]; rfl, fun i e he => by simp at he, by rw [dt, ud_n _ _ _ _ (by decide), ud_n _ _ _ _ (by decide), ud_s]; rfl, by rw [dt, ud_n _ _ _ _ (by decide), ud_s]; rfl, by rw [dt, ud_s]; rfl⟩
  have hW : WrR d t q T [] := ⟨hq, h0, h.gm g (fun i x y => by omega)⟩
  refine wr_sub hT T hT [] [] [] 0 0 1 d (by simp) rfl (Nat.le_refl _) hW (by simp) (fun τ g2 B h2 => ?_)
  rw [List.nil_append] at h2
  intro nn x2 hn hx
  have hx0 : x2 < 0 := by rw [hx]; decide
  cases nn with
  | zero => omega
  | succ nn =>
    show wX0_endParts_4_b (wX0_endParts_4 (fun r τ => wX0_write_92 (wX0_write_24 Q 1) t q r (nI (0 + tsz T - 1)) τ Q) nn) t x2 τ (fun r τ => wX0_write_92 (wX0_write_24 Q 1) t q r (nI (0 + tsz T - 1)) τ Q)
    unfold wX0_endParts_4_b
    rw [if_pos hx0]
    unfold wX0_write_92
    refine lt_i (fun x ex => ?_)
    rw [nI_1, show 0 + tsz T - 1 + 1 = tsz T by omega] at ex
    rw [ex]
    show wX0_write_24_b (wX0_write_24 Q 0) t q 0 (nI (tsz T)) τ Q
    unfold wX0_write_24_b
    rw [h2.2.2.2.2.2.1, nT, if_pos (Int32.le_refl _)]
    exact ⟨h2.2.2.1, hQ τ (g'.tr g2) h2.2.1⟩
end
