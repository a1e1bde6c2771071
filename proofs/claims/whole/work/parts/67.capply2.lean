/-! the class: a turn over a tree, by its parts -/
theorem tn_0 {s f w k : Nat} {v : Int32} {x y z : Tr} (e : ru s f (tn s f z (tn s f y (tn s f x w).2.2).2.2).2.2 (nd k v (tn s f x w).1 (tn s f y (tn s f x w).2.2).1 (tn s f z (tn s f y (tn s f x w).2.2).2.2).1) = none) : (tn s f (nd k v x y z) w).1 = nd k v (tn s f x w).1 (tn s f y (tn s f x w).2.2).1 (tn s f z (tn s f y (tn s f x w).2.2).2.2).1 ∧ (tn s f (nd k v x y z) w).2.1 = (tn s f x w).2.1 + (tn s f y (tn s f x w).2.2).2.1 + (tn s f z (tn s f y (tn s f x w).2.2).2.2).2.1 := by
  rw [tn_nd, e]
  exact ⟨rfl, rfl⟩
theorem tn_1 {s f w k : Nat} {v : Int32} {x y z u : Tr} (e : ru s f (tn s f z (tn s f y (tn s f x w).2.2).2.2).2.2 (nd k v (tn s f x w).1 (tn s f y (tn s f x w).2.2).1 (tn s f z (tn s f y (tn s f x w).2.2).2.2).1) = some u) : (tn s f (nd k v x y z) w).1 = u ∧ (tn s f (nd k v x y z) w).2.1 = (tn s f x w).2.1 + (tn s f y (tn s f x w).2.2).2.1 + (tn s f z (tn s f y (tn s f x w).2.2).2.2).2.1 + 1 := by
  rw [tn_nd, e]
  exact ⟨rfl, rfl⟩
section
variable {Q : Int32 → Sg → Prop} {a b s f : Nat} {T : Tr}
def apI (Q : Int32 → Sg → Prop) (a b s f : Nat) (T u : Tr) : Prop := ∀ (A C R : List En) (i D fd n : Nat) (σ : Sg), fl T = A ++ (fl u ++ C) → A.length = i → D ≤ i → WkR σ a b T R → R.length + (tsz T - i) ≤ 200 →
    (∀ τ, Gm (Sb b) σ τ → Bl D σ τ → WkR τ a b T (R ++ fl (tn s f u (R.length + (tsz T - i))).1) → Hd Q s f n (i + tsz u - 1) (fd + (tn s f u (R.length + (tsz T - i))).2.1) D τ) → wX6_apply_15 Q (n + tsz u) (nI s) (nI f) (nI fd) (nI D) (nI i) σ
theorem en_T {A C : List En} {u : Tr} {i : Nat} (hu : wf u) (e : fl T = A ++ (fl u ++ C)) (ea : A.length = i) : en (fl T) i = (kd u, vv u, tsz u) := by
  have p := wf_pos hu
  have := en_in (C := C) ea (B := fl u) (m := 0) (by rw [fl_len u hu]; omega)
  rw [Nat.add_zero, ← e, fl_en hu] at this
  exact this
theorem len_T {A C : List En} {u : Tr} {i : Nat} (hT : wf T) (hu : wf u) (e : fl T = A ++ (fl u ++ C)) (ea : A.length = i) : tsz T = i + tsz u + C.length := by
  have := congrArg List.length e
  rw [fl_len T hT, List.length_append, List.length_append, fl_len u hu, ea] at this
  omega
/-- a node is read, and its first part comes next -/
theorem ap_1 {k : Nat} {v : Int32} {x y z : Tr} {A C R : List En} {i D fd n : Nat} {σ : Sg} (hT : wf T) (hw : wf (nd k v x y z)) (ha : 1 ≤ ary k) (ix : apI Q a b s f T x) (eT : fl T = A ++ (fl (nd k v x y z) ++ C)) (eA : A.length = i) (hDi : D ≤ i) (hW : WkR σ a b T R) (h200 : R.length + (tsz T - i) ≤ 200)
    (hC : ∀ τ, Gm (Sb b) σ τ → Bl D σ τ → WkR τ a b T (R ++ ((k, v, 1) :: fl (tn s f x (R.length + (tsz T - i))).1)) → τ.1 17 D = nI R.length → τ.1 18 D = nI (ary k) → Hd Q s f n (i + tsz x) (fd + (tn s f x (R.length + (tsz T - i))).2.1) (D + 1) τ) : wX6_apply_15 Q (n + tsz x + 1) (nI s) (nI f) (nI fd) (nI D) (nI i) σ := by
  have lT := len_T hT hw eT eA
  have l200 := hW.2.2.2.1.2.2.1
  rw [fl_len T hT] at l200
  rw [tsz_nd] at lT
  have he := en_T hw eT eA
  rw [kd_nd, vv_nd] at he
  have px : 1 ≤ tsz x := by
    rw [wf_nd, if_pos ha] at hw
    exact wf_pos hw.2.2.1
  refine ap_read hT hW (by omega) he (by omega) (by omega) (fun z => by omega) (fun _ τ g B h1 h17 h18 => ?_)
  refine ix (A ++ [(k, v, 1 + tsz x + tsz y + tsz z)]) (fl y ++ (fl z ++ C)) (R ++ [(k, v, 1)]) (i + 1) (D + 1) fd n τ ?_ (by rw [List.length_append, eA]; rfl) (by omega) h1 (by rw [List.length_append, List.length_singleton]; omega) (fun τ2 g2 B2 h2 => ?_)
  · rw [eT, fl_nd]; simp
  · rw [List.length_append, List.length_singleton, show R.length + 1 + (tsz T - (i + 1)) = R.length + (tsz T - i) by omega] at h2 ⊢
    rw [show i + 1 + tsz x - 1 = i + tsz x by omega]
    exact hC τ2 (g.tr g2) (B.tr B2.wk) (by simpa using h2) (by rw [(B2 D (by omega)).1]; exact h17) (by rw [(B2 D (by omega)).2]; exact h18)
/-- a part has ended, and another one comes next -/
theorem ap_2 {k m : Nat} {v : Int32} {y : Tr} {A C R M : List En} {i D fd n : Nat} {σ : Sg} (hT : wf T) (hy : wf y) (iy : apI Q a b s f T y) (eT : fl T = A ++ (fl y ++ C)) (eA : A.length = i + 1) (hDi : D ≤ i) (hW : WkR σ a b T (R ++ ((k, v, 1) :: M))) (h200 : R.length + 1 + M.length + (tsz T - (i + 1)) ≤ 200) (h17 : σ.1 17 D = nI R.length) (h18 : σ.1 18 D = nI (m + 2)) (hm : m ≤ 3)
    (hC : ∀ τ, Gm (Sb b) σ τ → Bl D σ τ → WkR τ a b T (R ++ ((k, v, 1) :: (M ++ fl (tn s f y (R.length + 1 + M.length + (tsz T - (i + 1)))).1))) → τ.1 17 D = nI R.length → τ.1 18 D = nI (m + 1) → Hd Q s f n (i + tsz y) (fd + (tn s f y (R.length + 1 + M.length + (tsz T - (i + 1)))).2.1) (D + 1) τ) : Hd Q s f (n + tsz y) i fd (D + 1) σ := by
  have lT := len_T hT hy eT eA
  have l200 := hW.2.2.2.1.2.2.1
  rw [fl_len T hT] at l200
  have py := wf_pos hy
  have hb : b = 19 ∨ b = 23 := by have := hW.1; omega
  refine ap_mid (b := b) h18 hm (by omega) (fun τ g B x17 x18 keep => ?_)
  have hτ := hW.gm g (keep b _ hb hW.2.2.2.2 (by omega))
  have eR : (R ++ ((k, v, 1) :: M)).length = R.length + 1 + M.length := by rw [List.length_append, List.length_cons]; omega
  refine iy A C (R ++ ((k, v, 1) :: M)) (i + 1) (D + 1) fd n τ eT eA (by omega) hτ (by rw [eR]; exact h200) (fun τ2 g2 B2 h2 => ?_)
  rw [eR] at h2 ⊢
  rw [show i + 1 + tsz y - 1 = i + tsz y by omega]
  exact hC τ2 (g.tr g2) (B.tr B2.wk) (by simpa using h2) (by rw [(B2 D (by omega)).1, x17]; exact h17) (by rw [(B2 D (by omega)).2]; exact x18)
theorem ap_sub (hs : s ≤ 6) (hf : f ≤ 2) (hT : wf T) : ∀ u, wf u → apI Q a b s f T u := by
  apply wf_ind
  · intro k v hk hv A C R i D fd n σ eT eA hDi hW h200 hC
    have hw := wf_0 hk hv
    have lT := len_T hT hw eT eA
    have l200 := hW.2.2.2.1.2.2.1
    rw [fl_len T hT] at l200
    rw [tsz_nd, tsz_nl] at lT
    have he := en_T hw eT eA
    rw [kd_nd, vv_nd] at he
    have a0 := ary_0 hk
    rw [tsz_nd, tsz_nl] at hC ⊢
    refine ap_read hT hW (by omega) he (by omega) (by omega) (fun _ τ g B h1 => ?_) (fun z => by omega)
    obtain ⟨t1, t2⟩ := tn_0 (s := s) (f := f) (w := R.length + (tsz T - i)) (k := k) (v := v) (x := nl) (y := nl) (z := nl) (ru_leaf (by rw [kd_nd]; exact hk))
    have := hC τ g B
    rw [t1, t2, tn_nl, tn_nl] at this
    have h2 := this (by rw [fl_nd, fl_nl, tsz_nl]; exact h1)
    rw [show i + (1 + 0 + 0 + 0) - 1 = i by omega] at h2
    exact h2
  · intro x hx ix A C R i D fd n σ eT eA hDi hW h200 hC
    have hw := wf_1 hx
    have lT := len_T hT hw eT eA
    have l200 := hW.2.2.2.1.2.2.1
    rw [fl_len T hT] at l200
    have px := wf_pos hx
    rw [tsz_nd, tsz_nl] at lT
    rw [tsz_nd, tsz_nl, show n + (1 + tsz x + 0 + 0) = n + tsz x + 1 by omega]
    rw [tsz_nd, tsz_nl, show i + (1 + tsz x + 0 + 0) - 1 = i + tsz x by omega] at hC
    refine ap_1 hT hw (by decide) ix eT eA hDi hW h200 (fun τ g B h1 h17 h18 => ?_)
    obtain ⟨W, hWd⟩ : ∃ W, W = R.length + (tsz T - i) := ⟨_, rfl⟩
    rw [← hWd] at hC h1 ⊢
    obtain ⟨o1, o2, o3⟩ := tn_ok s f x (Or.inl hx) W (by omega) (by omega)
    have hw' : wf (nd 3 0 (tn s f x W).1 nl nl) := wf_same hw o1 (Or.inr ⟨rfl, rfl⟩) (Or.inr ⟨rfl, rfl⟩)
    refine ap_fin (x := (tn s f x W).1) (y := nl) (z := nl) (W := (tn s f x W).2.2) hs hf hT (by simpa [fl_nl] using h1) hw' (by decide) h17 h18 (by omega) (by omega) (by rw [tsz_nd, tsz_nl]; omega) o3 (fun e τ2 g2 B2 h2 => ?_) (fun u e τ2 g2 B2 h2 => ?_)
    · obtain ⟨t1, t2⟩ := tn_0 (s := s) (f := f) (w := W) (k := 3) (v := 0) (x := x) (y := nl) (z := nl) (by rw [tn_nl, tn_nl]; exact e)
      have := hC τ2 (g.tr g2) (B.tr B2)
      rw [t1, t2, tn_nl, tn_nl] at this
      exact this h2
    · obtain ⟨t1, t2⟩ := tn_1 (s := s) (f := f) (w := W) (k := 3) (v := 0) (x := x) (y := nl) (z := nl) (u := u) (by rw [tn_nl, tn_nl]; exact e)
      have := hC τ2 (g.tr g2) (B.tr B2)
      rw [t1, t2, tn_nl, tn_nl] at this
      exact this h2
  · intro k x y k1 k2 hx hy ix iy A C R i D fd n σ eT eA hDi hW h200 hC
    have hw := wf_2 k1 k2 hx hy
    have lT := len_T hT hw eT eA
    have l200 := hW.2.2.2.1.2.2.1
    rw [fl_len T hT] at l200
    have px := wf_pos hx
    have py := wf_pos hy
    have a2 := ary_2 k1 k2
    rw [tsz_nd, tsz_nl] at lT
    rw [tsz_nd, tsz_nl, show n + (1 + tsz x + tsz y + 0) = n + tsz y + tsz x + 1 by omega]
    rw [tsz_nd, tsz_nl, show i + (1 + tsz x + tsz y + 0) - 1 = i + tsz x + tsz y by omega] at hC
    refine ap_1 hT hw (by omega) ix eT eA hDi hW h200 (fun τ g B h1 h17 h18 => ?_)
    obtain ⟨W, hWd⟩ : ∃ W, W = R.length + (tsz T - i) := ⟨_, rfl⟩
    rw [← hWd] at hC h1 ⊢
    obtain ⟨o1, o2, o3⟩ := tn_ok s f x (Or.inl hx) W (by omega) (by omega)
    have lx : (fl (tn s f x W).1).length = tsz (tn s f x W).1 := fln (tw_wn o1).2
    have e2 : R.length + 1 + (fl (tn s f x W).1).length + (tsz T - (i + tsz x + 1)) = (tn s f x W).2.2 := by rw [lx]; omega
    refine ap_2 (A := A ++ ((k, 0, 1 + tsz x + tsz y + 0) :: fl x)) (C := C) hT hy iy (by rw [eT, fl_nd, fl_nl, tsz_nl]; simp) (by rw [List.length_append, List.length_cons, fl_len x hx, eA]; omega) (by omega) h1 (by rw [e2]; exact o3) h17 (m := 0) (by rw [h18, a2]) (by omega) (fun τ2 g2 B2 h2 x17 x18 => ?_)
    rw [e2] at h2 ⊢
    obtain ⟨V, hV⟩ : ∃ V, V = (tn s f x W).2.2 := ⟨_, rfl⟩
    rw [← hV] at h2 o2 o3 ⊢
    obtain ⟨q1, q2, q3⟩ := tn_ok s f y (Or.inl hy) V (by omega) o3
    have hw' : wf (nd k 0 (tn s f x W).1 (tn s f y V).1 nl) := wf_same hw o1 q1 (Or.inr ⟨rfl, rfl⟩)
    refine ap_fin (x := (tn s f x W).1) (y := (tn s f y V).1) (z := nl) (W := (tn s f y V).2.2) hs hf hT (by simpa [fl_nl] using h2) hw' (by omega) x17 x18 (by omega) (by omega) (by rw [tsz_nd, tsz_nl]; omega) q3 (fun e τ3 g3 B3 h3 => ?_) (fun u e τ3 g3 B3 h3 => ?_)
    · obtain ⟨t1, t2⟩ := tn_0 (s := s) (f := f) (w := W) (k := k) (v := 0) (x := x) (y := y) (z := nl) (by rw [tn_nl, ← hV]; exact e)
      have := hC τ3 ((g.tr g2).tr g3) ((B.tr B2).tr B3)
      rw [t1, t2, tn_nl, ← hV] at this
      simp only [Nat.add_zero, ← Nat.add_assoc] at this
      exact this h3
    · obtain ⟨t1, t2⟩ := tn_1 (s := s) (f := f) (w := W) (k := k) (v := 0) (x := x) (y := y) (z := nl) (u := u) (by rw [tn_nl, ← hV]; exact e)
      have := hC τ3 ((g.tr g2).tr g3) ((B.tr B2).tr B3)
      rw [t1, t2, tn_nl, ← hV] at this
      simp only [Nat.add_zero, ← Nat.add_assoc] at this
      exact this h3
  · intro x y z hx hy hz ix iy iz A C R i D fd n σ eT eA hDi hW h200 hC
    have hw := wf_3 hx hy hz
    have lT := len_T hT hw eT eA
    have l200 := hW.2.2.2.1.2.2.1
    rw [fl_len T hT] at l200
    have px := wf_pos hx
    have py := wf_pos hy
    have pz := wf_pos hz
    rw [tsz_nd] at lT
    rw [tsz_nd, show n + (1 + tsz x + tsz y + tsz z) = n + tsz z + tsz y + tsz x + 1 by omega]
    rw [tsz_nd, show i + (1 + tsz x + tsz y + tsz z) - 1 = i + tsz x + tsz y + tsz z by omega] at hC
    refine ap_1 hT hw (by decide) ix eT eA hDi hW h200 (fun τ g B h1 h17 h18 => ?_)
    obtain ⟨W, hWd⟩ : ∃ W, W = R.length + (tsz T - i) := ⟨_, rfl⟩
    rw [← hWd] at hC h1 ⊢
    obtain ⟨o1, o2, o3⟩ := tn_ok s f x (Or.inl hx) W (by omega) (by omega)
    have lx : (fl (tn s f x W).1).length = tsz (tn s f x W).1 := fln (tw_wn o1).2
    have e2 : R.length + 1 + (fl (tn s f x W).1).length + (tsz T - (i + tsz x + 1)) = (tn s f x W).2.2 := by rw [lx]; omega
    refine ap_2 (A := A ++ ((8, 0, 1 + tsz x + tsz y + tsz z) :: fl x)) (C := fl z ++ C) hT hy iy (by rw [eT, fl_nd]; simp) (by rw [List.length_append, List.length_cons, fl_len x hx, eA]; omega) (by omega) h1 (by rw [e2]; exact o3) h17 (m := 1) (by rw [h18]; rfl) (by omega) (fun τ2 g2 B2 h2 x17 x18 => ?_)
    rw [e2] at h2 ⊢
    obtain ⟨V, hV⟩ : ∃ V, V = (tn s f x W).2.2 := ⟨_, rfl⟩
    rw [← hV] at h2 o2 o3 ⊢
    obtain ⟨q1, q2, q3⟩ := tn_ok s f y (Or.inl hy) V (by omega) o3
    have ly : (fl (tn s f y V).1).length = tsz (tn s f y V).1 := fln (tw_wn q1).2
    have e3 : R.length + 1 + (fl (tn s f x W).1 ++ fl (tn s f y V).1).length + (tsz T - (i + tsz x + tsz y + 1)) = (tn s f y V).2.2 := by rw [List.length_append, lx, ly]; omega
    refine ap_2 (A := A ++ ((8, 0, 1 + tsz x + tsz y + tsz z) :: (fl x ++ fl y))) (C := C) hT hz iz (by rw [eT, fl_nd]; simp) (by rw [List.length_append, List.length_cons, List.length_append, fl_len x hx, fl_len y hy, eA]; omega) (by omega) h2 (by rw [e3]; exact q3) x17 (m := 0) x18 (by omega) (fun τ3 g3 B3 h3 y17 y18 => ?_)
    rw [e3] at h3 ⊢
    obtain ⟨U, hU⟩ : ∃ U, U = (tn s f y V).2.2 := ⟨_, rfl⟩
    rw [← hU] at h3 q2 q3 ⊢
    obtain ⟨r1, r2, r3⟩ := tn_ok s f z (Or.inl hz) U (by omega) q3
    have hw' : wf (nd 8 0 (tn s f x W).1 (tn s f y V).1 (tn s f z U).1) := wf_same hw o1 q1 r1
    refine ap_fin (x := (tn s f x W).1) (y := (tn s f y V).1) (z := (tn s f z U).1) (W := (tn s f z U).2.2) hs hf hT (by simpa using h3) hw' (by decide) y17 y18 (by omega) (by omega) (by rw [tsz_nd]; omega) r3 (fun e τ4 g4 B4 h4 => ?_) (fun u e τ4 g4 B4 h4 => ?_)
    · obtain ⟨t1, t2⟩ := tn_0 (s := s) (f := f) (w := W) (k := 8) (v := 0) (x := x) (y := y) (z := z) (by rw [← hV, ← hU]; exact e)
      have := hC τ4 (((g.tr g2).tr g3).tr g4) (((B.tr B2).tr B3).tr B4)
      rw [t1, t2, ← hV, ← hU] at this
      simp only [← Nat.add_assoc] at this
      exact this h4
    · obtain ⟨t1, t2⟩ := tn_1 (s := s) (f := f) (w := W) (k := 8) (v := 0) (x := x) (y := y) (z := z) (u := u) (by rw [← hV, ← hU]; exact e)
      have := hC τ4 (((g.tr g2).tr g3).tr g4) (((B.tr B2).tr B3).tr B4)
      rw [t1, t2, ← hV, ← hU] at this
      simp only [← Nat.add_assoc] at this
      exact this h4
/-- apply(): the workshop's tree is turned, and the rows change places -/
theorem apply_sp {σ : Sg} {R0 : List En} (hs : s ≤ 6) (hf : f ≤ 2) (hT : wf T) (h : WkR σ a b T R0) (hQ : ∀ τ R1, Gm (fun i => 16 ≤ i ∧ i < 27) σ τ → WkR τ b a (tn s f T (tsz T)).1 R1 → Q (nI (tn s f T (tsz T)).2.1) τ) : wX6_apply (nI s) (nI f) σ Q := by
  have hb : b = 19 ∨ b = 23 := by have := h.1; omega
  have l200 := h.2.2.2.1.2.2.1
  have nT := fl_len T hT
  have pT := wf_pos hT
  unfold wX6_apply
  rw [h.2.2.1]
  refine ⟨h.2.2.2.2.1, clear_sp h.2.2.2.2.1 (fun τ g1 h1 => ?_)⟩
  have g1' : Gm (Sb b) σ τ := g1.wk (fun i e => Or.inr (Or.inr e))
  have hτ := h.gm g1' h1
  refine ⟨1 + tsz T, ?_⟩
  refine ap_sub hs hf hT T hT [] [] [] 0 0 0 1 τ (by simp) rfl (Nat.le_refl _) hτ (by simp; omega) (fun ρ g2 B2 h2 => ?_)
  rw [List.nil_append, List.length_nil, Nat.zero_add, Nat.sub_zero] at h2
  rw [List.length_nil, Nat.zero_add, Nat.zero_add, Nat.zero_add, Nat.sub_zero]
  intro nn x7 hn hx
  have hx0 : x7 < 0 := by rw [hx]; decide
  cases nn with
  | zero => omega
  | succ nn =>
    show wX6_apply_112_b (wX6_apply_15 Q 1) (wX6_apply_112 (wX6_apply_15 Q 1) Q nn) (nI s) (nI f) _ (nI 0) (nI (tsz T - 1)) x7 ρ Q
    unfold wX6_apply_112_b
    rw [if_pos hx0]
    unfold wX6_apply_199
    refine lt_i (fun x ex => ?_)
    rw [nI_1, show tsz T - 1 + 1 = tsz T by omega] at ex
    rw [ex]
    show wX6_apply_15_b (wX6_apply_15 Q 0) (nI s) (nI f) _ (nI 0) (nI (tsz T)) ρ Q
    unfold wX6_apply_15_b
    rw [h2.2.1, h2.2.2.2.1.2.2.2.1, nT, if_pos (Int32.le_refl _)]
    refine ⟨h2.2.2.2.1.1, ?_⟩
    unfold wX6_apply_205
    refine lt_i (fun ξ eξ => lt_i (fun ζ eζ => ?_))
    have g12 : Gm (fun i => 16 ≤ i ∧ i < 27) σ ρ := (g1'.tr g2).wk (fun i e => by unfold Sb at e; omega)
    have g3 : Gm (fun i => i = 16) ρ ζ := by
      rw [eζ, eξ]
      refine ⟨fun j hj => rfl, fun j hj => rfl, fun j hj => ?_⟩
      unfold sN
      simp [va_up, hj]
    have g3' : Gm (fun i => 16 ≤ i ∧ i < 27) ρ ζ := g3.wk (fun i e => by omega)
    refine hQ ζ (fl T) (g12.tr g3') ⟨by have := h2.1; omega, ?_, ?_, ?_, ?_⟩
    · rw [eζ, eξ, h2.2.2.1]
      unfold sN
      simp [va_up]
    · rw [eζ, eξ, h2.2.1]
      unfold sN
      simp [va_up]
    · exact h2.2.2.2.2.gm g3 (fun i x y => by omega)
    · exact h2.2.2.2.1.gm g3 (fun i x y => by have := h2.1; omega)
end
