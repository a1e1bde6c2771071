/-! the reference: rows of nodes -/
def Rw (f g : Nat → Int32) (off : Nat) (xs : List En) : Prop := ∀ i e, xs[i]? = some e → f (off + i) = nI e.1 ∧ g (off + i) = e.2.1
theorem Rw.nil {f g : Nat → Int32} {off : Nat} : Rw f g off [] := fun i e h => by simp at h
theorem Rw.cons {f g : Nat → Int32} {off : Nat} {e : En} {xs : List En} : Rw f g off (e :: xs) ↔ (f off = nI e.1 ∧ g off = e.2.1) ∧ Rw f g (off + 1) xs := by
  constructor
  · intro h
    refine ⟨h 0 e rfl, fun i q hq => ?_⟩
    have := h (i + 1) q (by simpa using hq)
    rw [show off + (i + 1) = off + 1 + i by omega] at this
    exact this
  · rintro ⟨h1, h2⟩ i q hq
    cases i with
    | zero => simp at hq; subst hq; exact h1
    | succ i =>
      have := h2 i q (by simpa using hq)
      rw [show off + 1 + i = off + (i + 1) by omega] at this
      exact this
theorem Rw.app {f g : Nat → Int32} {off : Nat} {xs ys : List En} : Rw f g off (xs ++ ys) ↔ Rw f g off xs ∧ Rw f g (off + xs.length) ys := by
  induction xs generalizing off with
  | nil => simp [Rw.nil]
  | cons e xs ih =>
    rw [List.cons_append, Rw.cons, Rw.cons, ih, List.length_cons, show off + 1 + xs.length = off + (xs.length + 1) by omega]
    constructor
    · rintro ⟨a, b, c⟩; exact ⟨⟨a, b⟩, c⟩
    · rintro ⟨⟨a, b⟩, c⟩; exact ⟨a, b, c⟩
theorem Rw.congr {f g f2 g2 : Nat → Int32} {off : Nat} {xs : List En} (h : Rw f g off xs) (hf : ∀ i, off ≤ i → i < off + xs.length → f2 i = f i) (hg : ∀ i, off ≤ i → i < off + xs.length → g2 i = g i) : Rw f2 g2 off xs := by
  intro i e he
  have hl : i < xs.length := (List.getElem?_eq_some_iff.mp he).1
  rw [hf _ (by omega) (by omega), hg _ (by omega) (by omega)]
  exact h i e he
theorem parts_sp {k : Nat} {σ : Sg} {Q : Int32 → Sg → Prop} (hk : k ≤ 8) (h : Q (nI (ary k)) σ) : wX8_parts (nI k) σ Q := by
  unfold wX8_parts
  rcases (show k = 0 ∨ k = 1 ∨ k = 2 ∨ k = 3 ∨ k = 4 ∨ k = 5 ∨ k = 6 ∨ k = 7 ∨ k = 8 by omega) with rfl | rfl | rfl | rfl | rfl | rfl | rfl | rfl | rfl <;> first | (rw [if_neg (by decide)]; exact h) | (rw [if_pos (by decide), if_pos (by decide)]; exact h) | (rw [if_pos (by decide), if_neg (by decide), if_pos (by decide)]; exact h) | (rw [if_pos (by decide), if_neg (by decide), if_neg (by decide)]; exact h)
theorem ary_0 {k : Nat} (h : k < 3) : ary k = 0 := by simp [ary, h]
theorem ary_2 {k : Nat} (h1 : 4 ≤ k) (h2 : k < 8) : ary k = 2 := by
  unfold ary
  rw [if_neg (by omega), if_neg (by omega), if_pos h2]
/-- endOf(): one tree is passed over -/
theorem end_step {σ : Sg} {Q : Int32 → Sg → Prop} {fu c i k : Nat} (hk : k ≤ 8) (hi : i < 400) (hc : c < 400) (h : σ.1 10 i = nI k) (go : wX8_endOf_4 Q fu (nI (c + ary k)) (nI (i + 1)) σ) : wX8_endOf_4 Q (fu + 1) (nI (c + 1)) (nI i) σ := by
  show wX8_endOf_4_b (wX8_endOf_4 Q fu) (nI (c + 1)) (nI i) σ Q
  unfold wX8_endOf_4_b
  rw [if_neg (show ¬ nI (c + 1) ≤ (0 : Int32) from nI_ge (a := 0) (by omega) (by omega))]
  refine ⟨vp_in_nI hi (by omega), ?_⟩
  rw [ncl (by omega), h]
  refine parts_sp hk ?_
  refine lt_i (fun x ex => lt_i (fun y ey => ?_))
  have e1 : x = nI (c + ary k) := by
    rw [ex, ← nI_add c 1, ← nI_add c]
    show nI c + 1 + (nI (ary k) - 1) = nI c + nI (ary k)
    grind
  have e2 : y = nI (i + 1) := by rw [ey]; exact nI_1 i
  rw [e1, e2]
  exact go
theorem end_tree {σ : Sg} {Q : Int32 → Sg → Prop} : ∀ t, wf t → ∀ (fu c i : Nat), i + tsz t ≤ 400 → c + tsz t < 400 → Rw (σ.1 10) (σ.1 11) i (fl t) → wX8_endOf_4 Q fu (nI c) (nI (i + tsz t)) σ → wX8_endOf_4 Q (fu + tsz t) (nI (c + 1)) (nI i) σ := by
  apply wf_ind
  · intro k v hk hv fu c i h1 h2 hR go
    rw [fl_nd, Rw.cons] at hR
    rw [tsz_nd, tsz_nl] at h1 h2 go ⊢
    refine end_step (by omega) (by omega) (by omega) hR.1.1 ?_
    rw [ary_0 hk]
    exact go
  · intro x hx ix fu c i h1 h2 hR go
    rw [fl_nd, Rw.cons, Rw.app] at hR
    rw [tsz_nd, tsz_nl] at h1 h2 go ⊢
    rw [show fu + (1 + tsz x + 0 + 0) = fu + tsz x + 1 by omega]
    refine end_step (k := 3) (by omega) (by omega) (by omega) hR.1.1 ?_
    refine ix fu c (i + 1) (by omega) (by omega) hR.2.1 ?_
    rw [show i + 1 + tsz x = i + (1 + tsz x + 0 + 0) by omega]
    exact go
  · intro k x y k1 k2 hx hy ix iy fu c i h1 h2 hR go
    rw [fl_nd, Rw.cons, Rw.app, Rw.app, fl_len x hx] at hR
    rw [tsz_nd, tsz_nl] at h1 h2 go ⊢
    rw [show fu + (1 + tsz x + tsz y + 0) = fu + tsz y + tsz x + 1 by omega]
    refine end_step (by omega) (by omega) (by omega) hR.1.1 ?_
    rw [ary_2 k1 k2]
    refine ix (fu + tsz y) (c + 1) (i + 1) (by omega) (by omega) hR.2.1 ?_
    refine iy fu c (i + 1 + tsz x) (by omega) (by omega) hR.2.2.1 ?_
    rw [show i + 1 + tsz x + tsz y = i + (1 + tsz x + tsz y + 0) by omega]
    exact go
  · intro x y z hx hy hz ix iy iz fu c i h1 h2 hR go
    rw [fl_nd, Rw.cons, Rw.app, Rw.app, fl_len x hx, fl_len y hy] at hR
    rw [tsz_nd] at h1 h2 go ⊢
    rw [show fu + (1 + tsz x + tsz y + tsz z) = fu + tsz z + tsz y + tsz x + 1 by omega]
    have py := wf_pos hy
    have pz := wf_pos hz
    refine end_step (k := 8) (by omega) (by omega) (by omega) hR.1.1 ?_
    refine ix (fu + tsz z + tsz y) (c + 2) (i + 1) (by omega) (by omega) hR.2.1 ?_
    refine iy (fu + tsz z) (c + 1) (i + 1 + tsz x) (by omega) (by omega) hR.2.2.1 ?_
    refine iz fu c (i + 1 + tsz x + tsz y) (by omega) (by omega) hR.2.2.2 ?_
    rw [show i + 1 + tsz x + tsz y + tsz z = i + (1 + tsz x + tsz y + tsz z) by omega]
    exact go
theorem endOf_sp {σ : Sg} {Q : Int32 → Sg → Prop} {t : Tr} {i : Nat} (ht : wf t) (h : i + tsz t ≤ 399) (hR : Rw (σ.1 10) (σ.1 11) i (fl t)) (hQ : Q (nI (i + tsz t)) σ) : wX8_endOf (nI i) σ Q := by
  unfold wX8_endOf
  refine ⟨1 + tsz t, end_tree t ht 1 0 i (by omega) (by omega) hR ?_⟩
  show wX8_endOf_4_b (wX8_endOf_4 Q 0) (nI 0) (nI (i + tsz t)) σ Q
  unfold wX8_endOf_4_b
  rw [if_pos (by decide)]
  exact hQ
/-- grow(): a tree out of the hand's row -/
def gP (t : Tr) (i N : Nat) (σ : Sg) (r : Int32) (τ : Sg) : Prop := Fm [1, 2, 3, 4, 5, 6] [1, 18] σ τ ∧ Ex σ τ N ∧ τ.1 0 1 = nI (N + tsz t) ∧ τ.1 0 18 = nI (i + tsz t) ∧ rx τ t r (N + tsz t)
theorem grow_head {σ : Sg} {e i k : Nat} {v : Int32} {Q : Int32 → Sg → Prop} (hk : k ≤ 8) (hi : i < 400) (h18 : σ.1 0 18 = nI i) (h1 : σ.1 10 i = nI k) (h2 : σ.1 11 i = v)
    (go : ∀ τ, Fm [1, 2, 3, 4, 5, 6] [1, 18] σ τ → (∀ r, r ≠ 0 → τ.1 r = σ.1 r) → τ.1 0 18 = nI (i + 1) → τ.1 0 1 = σ.1 0 1 → if nI (ary k) ≤ 0 then wX8_grow_45 (wX8_grow e) (nI k) v (-1) τ Q else wX8_grow e τ (fun r τ2 => wX8_grow_45 (wX8_grow e) (nI k) v r τ2 Q)) : wX8_grow (e + 1) σ Q := by
  show wX8_grow_b (wX8_grow e) σ Q
  unfold wX8_grow_b
  rw [h18]
  refine ⟨vp_in_nI hi (by omega), ?_⟩
  rw [ncl (by omega), h1, h2]
  dsimp only [lt]
  refine parts_sp hk ?_
  refine go _ (Fm.put 18 _ (by simp)) (fun r hr => by rw [sI_1, up_n _ _ _ _ hr]) ?_ ?_
  · rw [sI_1, up_s, ud_s]; exact nI_1 i
  · rw [sI_1, up_s, ud_n _ _ _ _ (by decide)]
theorem grow_sp : ∀ t, wf t → ∀ (e : Nat), tsz t ≤ e → ∀ (σ : Sg) (i N : Nat) (Q : Int32 → Sg → Prop), N + tsz t ≤ 9000 → i + tsz t ≤ 400 → σ.1 0 1 = nI N → σ.1 0 18 = nI i → Rw (σ.1 10) (σ.1 11) i (fl t) → (∀ r τ, gP t i N σ r τ → Q r τ) → wX8_grow e σ Q := by
  apply wf_ind
  · intro k v hk hv e he σ i N Q hN hi h1 h18 hR hQ
    rw [tsz_nd, tsz_nl] at he hN hi
    rw [fl_nd, Rw.cons] at hR
    cases e with
    | zero => omega
    | succ e =>
      refine grow_head (k := k) (v := v) (by omega) (by omega) h18 hR.1.1 hR.1.2 (fun τ q1 q2 q3 q4 => ?_)
      rw [ary_0 hk, if_pos (by decide)]
      unfold wX8_grow_45
      refine parts_sp (by omega) ?_
      rw [ary_0 hk, if_pos (by decide)]
      unfold wX8_grow_62
      refine parts_sp (by omega) ?_
      rw [ary_0 hk, if_pos (by decide)]
      unfold wX8_grow_80
      refine make_sp (N := N) wn_nl wn_nl wn_nl (by omega) (by rw [q4]; exact h1) (rx_m1 τ N) (rx_m1 τ N) (rx_m1 τ N) (fun r ρ hm => ?_)
      obtain ⟨g1, g2, g3, g4, g5⟩ := hm
      refine hQ r ρ ⟨q1.tr (g2.wk (fun _ q => q) (by simp)), ?_, ?_, ?_, ?_⟩
      · exact fun a a1 a2 j hj => (g3 a a1 a2 j hj).trans (by rw [q2 a (by omega)])
      · rw [tsz_nd, tsz_nl]; exact g4
      · rw [tsz_nd, tsz_nl, g2.2.1 18 (by simp)]; exact q3
      · rw [tsz_nd, tsz_nl, g1]; exact g5
  · intro x hx ix e he σ i N Q hN hi h1 h18 hR hQ
    rw [tsz_nd, tsz_nl] at he hN hi
    rw [fl_nd, Rw.cons, Rw.app] at hR
    cases e with
    | zero => omega
    | succ e =>
      refine grow_head (k := 3) (v := 0) (by omega) (by omega) h18 hR.1.1 hR.1.2 (fun τ q1 q2 q3 q4 => ?_)
      rw [if_neg (by decide)]
      refine ix e (by omega) τ (i + 1) N _ (by omega) (by omega) (by rw [q4]; exact h1) q3 (by rw [q2 10 (by omega), q2 11 (by omega)]; exact hR.2.1) (fun r1 τ1 hp1 => ?_)
      obtain ⟨a1, a2, a3, a4, a5⟩ := hp1
      unfold wX8_grow_45
      refine parts_sp (by omega) ?_
      rw [if_pos (by decide)]
      unfold wX8_grow_62
      refine parts_sp (by omega) ?_
      rw [if_pos (by decide)]
      unfold wX8_grow_80
      refine make_sp (N := N + tsz x) (Or.inl hx) wn_nl wn_nl (by omega) a3 a5 (rx_m1 τ1 _) (rx_m1 τ1 _) (fun r ρ hm => ?_)
      obtain ⟨g1, g2, g3, g4, g5⟩ := hm
      refine hQ r ρ ⟨(q1.tr a1).tr (g2.wk (fun _ q => q) (by simp)), ?_, ?_, ?_, ?_⟩
      · exact fun a b1 b2 j hj => ((g3 a b1 b2 j (by omega)).trans (a2 a b1 b2 j hj)).trans (by rw [q2 a (by omega)])
      · rw [tsz_nd, tsz_nl, g4]; congr 1; omega
      · rw [tsz_nd, tsz_nl, g2.2.1 18 (by simp), a4]; congr 1; omega
      · rw [tsz_nd, tsz_nl, g1, show N + (1 + tsz x + 0 + 0) = N + tsz x + 1 by omega]; exact g5
  · intro k x y k1 k2 hx hy ix iy e he σ i N Q hN hi h1 h18 hR hQ
    rw [tsz_nd, tsz_nl] at he hN hi
    rw [fl_nd, Rw.cons, Rw.app, Rw.app, fl_len x hx] at hR
    cases e with
    | zero => omega
    | succ e =>
      refine grow_head (k := k) (v := 0) (by omega) (by omega) h18 hR.1.1 hR.1.2 (fun τ q1 q2 q3 q4 => ?_)
      rw [ary_2 k1 k2, if_neg (by decide)]
      refine ix e (by omega) τ (i + 1) N _ (by omega) (by omega) (by rw [q4]; exact h1) q3 (by rw [q2 10 (by omega), q2 11 (by omega)]; exact hR.2.1) (fun r1 τ1 hp1 => ?_)
      obtain ⟨a1, a2, a3, a4, a5⟩ := hp1
      unfold wX8_grow_45
      refine parts_sp (by omega) ?_
      rw [ary_2 k1 k2, if_neg (by decide)]
      refine iy e (by omega) τ1 (i + 1 + tsz x) (N + tsz x) _ (by omega) (by omega) a3 a4 (by rw [a1.1 10 (by omega) (by simp), a1.1 11 (by omega) (by simp), q2 10 (by omega), q2 11 (by omega)]; exact hR.2.2.1) (fun r2 τ2 hp2 => ?_)
      obtain ⟨b1, b2, b3, b4, b5⟩ := hp2
      unfold wX8_grow_62
      refine parts_sp (by omega) ?_
      rw [ary_2 k1 k2, if_pos (by decide)]
      unfold wX8_grow_80
      refine make_sp (N := N + tsz x + tsz y) (Or.inl hx) (Or.inl hy) wn_nl (by omega) b3 (rx_le hx (rx_ex x hx _ _ _ a5 b2 (Nat.le_refl _)) (by omega)) b5 (rx_m1 τ2 _) (fun r ρ hm => ?_)
      obtain ⟨g1, g2, g3, g4, g5⟩ := hm
      refine hQ r ρ ⟨((q1.tr a1).tr b1).tr (g2.wk (fun _ q => q) (by simp)), ?_, ?_, ?_, ?_⟩
      · exact fun a c1 c2 j hj => (((g3 a c1 c2 j (by omega)).trans (b2 a c1 c2 j (by omega))).trans (a2 a c1 c2 j hj)).trans (by rw [q2 a (by omega)])
      · rw [tsz_nd, tsz_nl, g4]; congr 1; omega
      · rw [tsz_nd, tsz_nl, g2.2.1 18 (by simp), b4]; congr 1; omega
      · rw [tsz_nd, tsz_nl, g1, show N + (1 + tsz x + tsz y + 0) = N + tsz x + tsz y + 1 by omega]; exact g5
  · intro x y z hx hy hz ix iy iz e he σ i N Q hN hi h1 h18 hR hQ
    rw [tsz_nd] at he hN hi
    rw [fl_nd, Rw.cons, Rw.app, Rw.app, fl_len x hx, fl_len y hy] at hR
    cases e with
    | zero => omega
    | succ e =>
      refine grow_head (k := 8) (v := 0) (by omega) (by omega) h18 hR.1.1 hR.1.2 (fun τ q1 q2 q3 q4 => ?_)
      rw [if_neg (by decide)]
      refine ix e (by omega) τ (i + 1) N _ (by omega) (by omega) (by rw [q4]; exact h1) q3 (by rw [q2 10 (by omega), q2 11 (by omega)]; exact hR.2.1) (fun r1 τ1 hp1 => ?_)
      obtain ⟨a1, a2, a3, a4, a5⟩ := hp1
      have t10 : τ1.1 10 = σ.1 10 := by rw [a1.1 10 (by omega) (by simp), q2 10 (by omega)]
      have t11 : τ1.1 11 = σ.1 11 := by rw [a1.1 11 (by omega) (by simp), q2 11 (by omega)]
      unfold wX8_grow_45
      refine parts_sp (by omega) ?_
      rw [if_neg (by decide)]
      refine iy e (by omega) τ1 (i + 1 + tsz x) (N + tsz x) _ (by omega) (by omega) a3 a4 (by rw [t10, t11]; exact hR.2.2.1) (fun r2 τ2 hp2 => ?_)
      obtain ⟨b1, b2, b3, b4, b5⟩ := hp2
      unfold wX8_grow_62
      refine parts_sp (by omega) ?_
      rw [if_neg (by decide)]
      refine iz e (by omega) τ2 (i + 1 + tsz x + tsz y) (N + tsz x + tsz y) _ (by omega) (by omega) b3 b4 (by rw [b1.1 10 (by omega) (by simp), b1.1 11 (by omega) (by simp), t10, t11]; exact hR.2.2.2) (fun r3 τ3 hp3 => ?_)
      obtain ⟨d1, d2, d3, d4, d5⟩ := hp3
      unfold wX8_grow_80
      refine make_sp (N := N + tsz x + tsz y + tsz z) (Or.inl hx) (Or.inl hy) (Or.inl hz) (by omega) d3 (rx_le hx (rx_ex x hx _ _ _ a5 (b2.tr d2 (by omega)) (Nat.le_refl _)) (by omega)) (rx_le hy (rx_ex y hy _ _ _ b5 d2 (Nat.le_refl _)) (by omega)) d5 (fun r ρ hm => ?_)
      obtain ⟨g1, g2, g3, g4, g5⟩ := hm
      refine hQ r ρ ⟨(((q1.tr a1).tr b1).tr d1).tr (g2.wk (fun _ q => q) (by simp)), ?_, ?_, ?_, ?_⟩
      · exact fun a c1 c2 j hj => ((((g3 a c1 c2 j (by omega)).trans (d2 a c1 c2 j (by omega))).trans (b2 a c1 c2 j (by omega))).trans (a2 a c1 c2 j hj)).trans (by rw [q2 a (by omega)])
      · rw [tsz_nd, g4]; congr 1; omega
      · rw [tsz_nd, g2.2.1 18 (by simp), d4]; congr 1; omega
      · rw [tsz_nd, g1, show N + (1 + tsz x + tsz y + tsz z) = N + tsz x + tsz y + tsz z + 1 by omega]; exact g5
theorem tree_sp {t : Tr} {d : Nat} {σ : Sg} {Q : Int32 → Sg → Prop} (ht : wf t) (hd : tsz t ≤ d) (h : tsz t ≤ 400) (hR : Rw (σ.1 10) (σ.1 11) 0 (fl t)) (hQ : ∀ n τ, n < tsz t → Fm [1, 2, 3, 4, 5, 6] [1, 18] σ τ → τ.1 0 1 = nI (tsz t) → rx τ t (nI n) (tsz t) → Q (nI n) τ) : wX8_tree d σ Q := by
  unfold wX8_tree
  refine lt_i (fun a ea => lt_i (fun b eb => ?_))
  have fa : Fm [1, 2, 3, 4, 5, 6] [1, 18] σ a := by rw [ea]; exact Fm.put 1 _ (by simp)
  have fb : Fm [1, 2, 3, 4, 5, 6] [1, 18] a b := by rw [eb]; exact Fm.put 18 _ (by simp)
  have b10 : b.1 10 = σ.1 10 := by rw [fb.1 10 (by omega) (by simp), fa.1 10 (by omega) (by simp)]
  have b11 : b.1 11 = σ.1 11 := by rw [fb.1 11 (by omega) (by simp), fa.1 11 (by omega) (by simp)]
  refine grow_sp t ht d hd b 0 0 _ (by omega) (by omega) ?_ ?_ (by rw [b10, b11]; exact hR) (fun r τ hp => ?_)
  · rw [eb, sI_1, up_s, ud_n _ _ _ _ (by decide), ea, sI_1, up_s, ud_s]; rfl
  · rw [eb, sI_1, up_s, ud_s]; rfl
  · obtain ⟨g1, g2, g3, g4, g5⟩ := hp
    rw [Nat.zero_add] at g3 g5
    obtain ⟨j, j1, rfl, -⟩ := kid ht g5
    exact hQ j τ j1 ((fa.tr fb).tr g1) g3 g5
