/-! the class: programs by number, and their numbers -/
section
variable {σ : Sg} {q : Nat} {S : Sg → Prop}
abbrev Su (q : Nat) : Nat → Prop := fun i => i = 1 ∨ i = 5 ∨ i = 6 ∨ (q ≤ i ∧ i < q + 4)
theorem unfold_lp {n i0 : Nat} (hn : n ≤ 15) (h1 : 1 ≤ n) (hi0 : i0 < cnt n) (hq : 9 ≤ q) : ∀ (k j : Nat) (xs : List En) (ds : List Df) (σ : Sg), j + k = n → xs.length = j → TrR σ q xs → DfR σ ds → okD ds → dz ds = k → GrR σ → kv xs ++ dm ds = kv (fl (ng n i0)) → (∀ τ, Gm (Su q) σ τ → TrR τ q (fl (ng n i0)) → S τ) → wX1_unfold_18 S (k + 1) q (nI n) (nI j) σ := by
  intro k
  induction k with
  | zero =>
    intro j xs ds σ hj hx ht hd ho hz hg he hS
    have ld := dz_len ho
    obtain ⟨w1, w2⟩ := ng_ok (n := n) (i := i0) h1 (by omega) hi0
    have e0 : ds = [] := List.eq_nil_of_length_eq_zero (by omega)
    subst e0
    show wX1_unfold_18_b (wX1_unfold_18 S 0) q (nI n) (nI j) σ S
    unfold wX1_unfold_18_b
    rw [if_pos (nI_le (by omega) (by omega))]
    unfold wX1_unfold_79
    refine ⟨ht.1, measure_sp w1 (by omega) ht (by rw [← he]; simp [dm]) (fun τ g h2 => hS τ (g.wk (fun i e => by unfold Su; omega)) h2)⟩
  | succ k ih =>
    intro j xs ds σ hj hx ht hd ho hz hg he hS
    have ld := dz_len ho
    rcases List.eq_nil_or_concat ds with e | ⟨ds', x, e⟩
    · subst e
      unfold dz at hz
      simp at hz
    rw [List.concat_eq_append] at e
    subst e
    obtain ⟨o1, o2, o3, o4⟩ := okD_s.mp ho
    rw [dz_s] at hz
    rw [dm_s] at he
    rw [List.length_append, List.length_singleton, dz_s] at ld
    obtain ⟨d1, d2, d3⟩ := hd
    rw [List.length_append, List.length_singleton] at d2
    show wX1_unfold_18_b (wX1_unfold_18 S (k + 1)) q (nI n) (nI j) σ S
    unfold wX1_unfold_18_b
    rw [if_neg (nI_ge (by omega) (by omega)), d2, if_neg (show ¬ nI (ds'.length + 1) ≤ (0 : Int32) from nI_ge (a := 0) (by omega) (by omega)), if_neg (show ¬ (15 : Int32) < nI (ds'.length + 1) from nI_nlt (a := 15) (by omega) (by omega)), nI_pred]
    refine lt_i (fun p ep => ?_)
    have p5 : p.1 1 5 = nI ds'.length := by rw [ep, sI_1, up_s, ud_s]
    have gp : Gm (fun i => i = 1) σ p := by rw [ep]; exact Gm.i 1 _ rfl
    have top := d3 ds'.length x (by rw [List.getElem?_append_right (Nat.le_refl _), Nat.sub_self]; rfl)
    rw [p5, ncl (by omega), gp.1 5 (by omega), gp.2.1 6 (by omega), top.1, top.2]
    refine ⟨vp_in_nI (by omega) (by omega), ?_⟩
    have hd' : DfR p ds' := ⟨by omega, p5, fun j e he => by
      rw [gp.1 5 (by omega), gp.2.1 6 (by omega)]
      exact d3 j e (by rw [List.getElem?_append_left (List.getElem?_eq_some_iff.mp he).1]; exact he)⟩
    refine unode_sp o2 o3 o4 hd' o1 (by omega) (hg.gm gp (by omega) (by omega)) (ht.gm gp (fun i x y => by omega)) (by omega) hq (fun τ kk v ds2 g2 h2 h3 h4 h5 h6 => lt_i (fun y ey => ?_))
    rw [ey, nI_1]
    have gp' : Gm (Su q) σ p := gp.wk (fun i e => by unfold Su; omega)
    refine ih (j + 1) (xs ++ [(kk, v, 1)]) ds2 τ (by omega) (by rw [List.length_append, hx]; rfl) h2 h3 h4 (by omega) ((hg.gm gp (by omega) (by omega)).gm g2 (by omega) (by omega)) ?_ (fun ρ g3 h7 => hS ρ ((gp'.tr g2).tr g3) h7)
    rw [kv_app, List.append_assoc]
    show kv xs ++ ((kk, v) :: dm ds2) = _
    rw [h6, he]
theorem unfold_sp {n i0 : Nat} (hn : n ≤ 15) (h1 : 1 ≤ n) (hi0 : i0 < cnt n) (hq : 9 ≤ q) (ht : YC.2.1 q = 4) (hg : GrR σ) (hS : ∀ τ, Gm (Su q) σ τ → TrR τ q (fl (ng n i0)) → S τ) : wX1_unfold q (nI n) (lN i0) σ S := by
  unfold wX1_unfold
  refine ⟨ht, clear_sp ht (fun τ g1 h2 => lt_i (fun p ep => ?_))⟩
  have g1' : Gm (Su q) σ τ := g1.wk (fun i e => by unfold Su; omega)
  have gp : Gm (fun i => i = 1) τ p := by rw [ep]; exact Gm.i 1 _ rfl
  have gp' : Gm (Su q) τ p := gp.wk (fun i e => by unfold Su; omega)
  have hd : DfR p [] := ⟨by simp, by rw [ep, sI_1, up_s, ud_s]; rfl, fun j e he => by simp at he⟩
  refine defer_sp hd (by simp) (fun ρ g2 h3 => ⟨n + 1, ?_⟩)
  have g2' : Gm (Su q) p ρ := g2.wk (fun i e => by unfold Su; omega)
  have G := (g1'.tr gp').tr g2'
  refine unfold_lp hn h1 hi0 hq n 0 [] [(n, i0)] ρ (by omega) rfl ((h2.gm gp (fun i x y => by omega)).gm g2 (fun i x y => by omega)) h3 (fun x hx => by rw [List.mem_singleton.mp hx]; exact ⟨h1, by show n < 16; omega, hi0⟩) (by unfold dz; simp) (hg.gm G (by unfold Su; omega) (by unfold Su; omega)) (by unfold dm; simp [kv]) (fun ξ g3 h4 => hS ξ (G.tr g3) h4)
/-- the parts of a node, by their indexes -/
theorem su_part {t p : Tr} {i b : Nat} {B D : List En} (ht : wf t) (hi : i < tsz t) (hp : wf p) (e : fl (su t i) = B ++ (fl p ++ D)) (hb : B.length = b) : su t (i + b) = p ∧ i + b < tsz t := by
  have len := fl_len t ht
  obtain ⟨a, c, e1, e2, e3, e4, e5⟩ := fl_su ht (i := i) (by omega)
  have pp := wf_pos hp
  have lb := congrArg List.length e
  rw [fl_len _ e3, List.length_append, List.length_append, fl_len p hp, hb] at lb
  have hj : i + b < tsz t := by omega
  refine ⟨?_, hj⟩
  obtain ⟨a', c', f1, f2, f3, f4, f5⟩ := fl_su ht (i := i + b) (by omega)
  rw [e1, e, show a ++ (B ++ (fl p ++ D) ++ c) = (a ++ B) ++ (fl p ++ (D ++ c)) by simp] at f1
  have hh := List.append_inj f1 (by rw [List.length_append, e2, hb, f2])
  have := fl_pre hp f3 hh.2
  exact (kv_inj hp f3 (by rw [this.1])).symm
theorem isNum_lp {t : Tr} {Q : Int32 → Sg → Prop} (ht : wf t) (hs : tsz t ≤ 15) (h : TrR σ q (fl t)) (h1 : nuB t = true → Q 1 σ) (h0 : nuB t = false → Q 0 σ) : ∀ (k i : Nat), i + k = tsz t → (∀ j (hj : j < (fl t).length), j < i → nuE (fl t)[j] = true) → wX1_isNumbered_13 Q (k + 1) q (nI i) σ := by
  have len := fl_len t ht
  intro k
  induction k with
  | zero =>
    intro i hi hp
    show wX1_isNumbered_13_b (wX1_isNumbered_13 Q 0) q (nI i) σ Q
    unfold wX1_isNumbered_13_b
    rw [h.2.2.2.1, len, if_pos (nI_le (by omega) (by omega))]
    refine ⟨h.1, h1 ?_⟩
    rw [nuB_all, List.all_eq_true]
    intro e he
    obtain ⟨j, hj, rfl⟩ := List.getElem_of_mem he
    exact hp j hj (by omega)
  | succ k ih =>
    intro i hi hp
    have hl : i < (fl t).length := by omega
    have k8 := fl_kd t (Or.inl ht) _ (List.getElem_mem hl)
    have nxt : nuE (fl t)[i] = true → wX1_isNumbered_44 (wX1_isNumbered_13 Q (k + 1)) q (nI i) σ Q := fun z => by
      unfold wX1_isNumbered_44
      refine lt_i (fun x ex => ?_)
      rw [ex, nI_1]
      refine ih (i + 1) (by omega) (fun j hj hji => ?_)
      by_cases e : j = i
      · subst e; exact z
      · exact hp j hj (by omega)
    show wX1_isNumbered_13_b (wX1_isNumbered_13 Q (k + 1)) q (nI i) σ Q
    unfold wX1_isNumbered_13_b
    rw [h.2.2.2.1, len, if_neg (nI_ge (by omega) (by omega))]
    refine ⟨h.1, kindOf_sp h (by omega) ?_⟩
    rw [en_lt hl]
    by_cases z : (fl t)[i].1 = 0
    · rw [z, if_pos (by decide)]
      refine numberOf_sp h (by omega) ?_
      rw [en_lt hl]
      have yes : ∀ p : Nat, p ≤ 2 → (fl t)[i].2.1 = nI p → nuE (fl t)[i] = true := fun p hp e => (nuE_y _).mpr (fun _ => ⟨p, by omega, e⟩)
      unfold wX7_within
      by_cases w1 : (fl t)[i].2.1 < 0
      · rw [if_pos w1]
        dsimp only
        rw [if_pos rfl]
        refine h0 ?_
        cases w : nuB t with
        | false => rfl
        | true =>
          rw [nuB_all, List.all_eq_true] at w
          obtain ⟨j, j1, j2⟩ := (nuE_y _).mp (w _ (List.getElem_mem hl)) z
          rw [j2] at w1
          exact absurd w1 (nI_pos (by omega))
      · rw [if_neg w1]
        obtain ⟨p, p1, p2⟩ := nI_of w1
        by_cases w2 : 2 < p
        · rw [if_pos (by rw [p2]; exact nI_lt (a := 2) w2 (by omega))]
          dsimp only
          rw [if_pos rfl]
          refine h0 ?_
          cases w : nuB t with
          | false => rfl
          | true =>
            rw [nuB_all, List.all_eq_true] at w
            obtain ⟨j, j1, j2⟩ := (nuE_y _).mp (w _ (List.getElem_mem hl)) z
            rw [p2] at j2
            have := (nI_eq (by omega) (by omega)).mp j2
            omega
        · rw [if_neg (by rw [p2]; exact nI_nlt (a := 2) (by omega) (by omega))]
          dsimp only
          rw [if_neg (by decide)]
          exact nxt (yes p (by omega) p2)
    · rw [if_neg (show ¬ nI (fl t)[i].1 = (0 : Int32) from ni_k (c := 0) (by omega) (by omega) (by omega))]
      exact nxt ((nuE_y _).mpr (fun w => absurd w z))
/-- the ranks from i on are there -/
def RkR (σ : Sg) (t : Tr) (i : Nat) : Prop := ∀ j, i ≤ j → j < tsz t → σ.2.1 7 j = lN (rk (su t j))
theorem rankAt_sp {t : Tr} {i j : Nat} {Q : Int64 → Sg → Prop} (h : RkR σ t i) (hij : i ≤ j) (hj : j < tsz t) (hs : tsz t ≤ 15) (hQ : Q (lN (rk (su t j))) σ) : wX1_rankAt (nI j) σ Q := by
  unfold wX1_rankAt
  refine within_sp (lo := 0) (hi := 15) (by omega) (by omega) (by omega) ?_
  rw [if_pos (show 0 ≤ j ∧ j ≤ 15 by omega), if_neg (by decide), ncl (by omega), h j hij hj]
  exact ⟨vp_in_nI (by omega) (by omega), hQ⟩
theorem two_lp {c a n : Nat} {Q : Int64 → Sg → Prop} (hg : GrR σ) (hn : n ≤ 15) (ha : a ≤ n) (hQ : Q (lN (c + sm (f2 n) (a - 1))) σ) : ∀ (k s : Nat), s + k = a → 1 ≤ s → wX1_rankOfTwo_49 Q (k + 1) (nI a) (nI n) (lN (c + sm (f2 n) (s - 1))) (nI s) σ := by
  intro k
  induction k with
  | zero =>
    intro s hs h1
    show wX1_rankOfTwo_49_b (wX1_rankOfTwo_49 Q 0) (nI a) (nI n) _ (nI s) σ Q
    unfold wX1_rankOfTwo_49_b
    rw [if_pos (nI_le (by omega) (by omega)), show s - 1 = a - 1 by omega]
    exact hQ
  | succ k ih =>
    intro s hs h1
    show wX1_rankOfTwo_49_b (wX1_rankOfTwo_49 Q (k + 1)) (nI a) (nI n) _ (nI s) σ Q
    unfold wX1_rankOfTwo_49_b
    rw [if_neg (nI_ge (by omega) (by omega)), pk_sub (by omega)]
    refine many_sp hg (by omega) (many_sp hg (by omega) ?_)
    rw [lN_mul, lN_add]
    refine lt_i (fun x ex => lt_i (fun y ey => ?_))
    rw [ex, ey, nI_1]
    have := ih (s + 1) (by omega) (by omega)
    rw [show s + 1 - 1 = (s - 1) + 1 by omega, sm, show s - 1 + 1 = s by omega, ← Nat.add_assoc] at this
    exact this
/-- two parts that stand one behind the other -/
theorem rankTwo_sp {t x y : Tr} {i p : Nat} {Q : Int64 → Sg → Prop} (ht : wf t) (hs : tsz t ≤ 15) (h : TrR σ q (fl t)) (hg : GrR σ) (hr : RkR σ t i) (hx : wf x) (hy : wf y) (hip : i ≤ p) (e1 : su t p = x) (e2 : su t (p + tsz x) = y) (hp : p + tsz x < tsz t) (hxy : tsz x + tsz y ≤ 15) (hQ : Q (lN (sm (f2 (tsz x + tsz y)) (tsz x - 1) + rk x * cnt (tsz y) + rk y)) σ) : wX1_rankOfTwo q (nI p) σ Q := by
  have len := fl_len t ht
  have px := wf_pos hx
  obtain ⟨-, -, -, -, -, a4, -⟩ := fl_su ht (i := p) (by omega)
  obtain ⟨-, -, -, -, -, b4, -⟩ := fl_su ht (i := p + tsz x) (by omega)
  rw [e1] at a4
  rw [e2] at b4
  unfold wX1_rankOfTwo
  refine ⟨h.1, behind_sp h (by omega) ?_⟩
  rw [en_lt (by omega), a4]
  dsimp only
  refine sizeOf_sp h (by omega) (sizeOf_sp h (by omega) ?_)
  rw [en_lt (show p < (fl t).length by omega), en_lt (show p + tsz x < (fl t).length by omega), a4, b4]
  dsimp only
  rw [nI_add]
  refine lt_i (fun w ew => ?_)
  rw [ew, pk_sub (by omega), Nat.add_sub_cancel_left]
  refine rankAt_sp hr hip (by omega) hs (many_sp hg (by omega) (rankAt_sp hr (by omega) hp hs ?_))
  rw [e1, e2, lN_mul, lN_add]
  refine lt_i (fun v ev => ⟨(tsz x - 1) + 1, ?_⟩)
  rw [ev]
  have := two_lp (c := rk x * cnt (tsz y) + rk y) (a := tsz x) hg hxy (by omega) (Q := Q) (by
    rw [show rk x * cnt (tsz y) + rk y + sm (f2 (tsz x + tsz y)) (tsz x - 1) = sm (f2 (tsz x + tsz y)) (tsz x - 1) + rk x * cnt (tsz y) + rk y by omega]
    exact hQ) (tsz x - 1) 1 (by omega) (by omega)
  rw [Nat.sub_self, sm, Nat.add_zero] at this
  exact this
theorem three_lp {t x : Tr} {c i p n : Nat} {Q : Int64 → Sg → Prop} (hg : GrR σ) (hr : RkR σ t i) (hs : tsz t ≤ 15) (hip : i ≤ p) (hp : p < tsz t) (e1 : su t p = x) (hx : wf x) (hn : n ≤ 15) (ha : tsz x < n) (hQ : Q (lN (c + sm (f3 n) (tsz x - 1) + rk x * prs (n - tsz x))) σ) : ∀ (k s : Nat), s + k = tsz x → 1 ≤ s → wX1_rankOfThree_22 Q (k + 1 + 1) (nI p) (nI n) (nI (tsz x)) (lN (c + sm (f3 n) (s - 1))) (nI s) σ := by
  have px := wf_pos hx
  intro k
  induction k with
  | zero =>
    intro s hs' h1
    show wX1_rankOfThree_22_b (wX1_rankOfThree_22 Q 1) (nI p) (nI n) (nI (tsz x)) _ (nI s) σ Q
    unfold wX1_rankOfThree_22_b
    rw [if_neg (nI_nlt (by omega) (by omega)), if_neg (nI_nlt (by omega) (by omega)), if_neg (show ¬ (15 : Int32) < nI n from nI_nlt (a := 15) (by omega) (by omega)), if_pos (nI_le (by omega) (by omega))]
    refine rankAt_sp hr hip hp hs ?_
    unfold wX1_rankOfThree_64
    rw [pk_sub (by omega), ncl (by omega), (hg (n - s) (by omega)).2, e1, lN_mul, lN_add, show s = tsz x by omega]
    refine ⟨vp_in_nI (by omega) (by omega), lt_i (fun w ew => lt_i (fun y ey => ?_))⟩
    rw [ew, ey, nI_1]
    show wX1_rankOfThree_22_b (wX1_rankOfThree_22 Q 0) (nI p) (nI n) (nI (tsz x)) _ (nI (tsz x + 1)) σ Q
    unfold wX1_rankOfThree_22_b
    rw [if_pos (nI_lt (by omega) (by omega))]
    exact hQ
  | succ k ih =>
    intro s hs' h1
    show wX1_rankOfThree_22_b (wX1_rankOfThree_22 Q (k + 1 + 1)) (nI p) (nI n) (nI (tsz x)) _ (nI s) σ Q
    unfold wX1_rankOfThree_22_b
    rw [if_neg (nI_nlt (by omega) (by omega)), if_neg (nI_nlt (by omega) (by omega)), if_neg (show ¬ (15 : Int32) < nI n from nI_nlt (a := 15) (by omega) (by omega)), if_neg (nI_ge (by omega) (by omega))]
    refine many_sp hg (by omega) ?_
    unfold wX1_rankOfThree_64
    rw [pk_sub (by omega), ncl (by omega), (hg (n - s) (by omega)).2, lN_mul, lN_add]
    refine ⟨vp_in_nI (by omega) (by omega), lt_i (fun w ew => lt_i (fun y ey => ?_))⟩
    rw [ew, ey, nI_1]
    have := ih (s + 1) (by omega) (by omega)
    rw [show s + 1 - 1 = (s - 1) + 1 by omega, sm, show s - 1 + 1 = s by omega, ← Nat.add_assoc] at this
    exact this
theorem rankNode_sp {t : Tr} {i : Nat} {Q : Int64 → Sg → Prop} (ht : wf t) (hb : nuB t = true) (hs : tsz t ≤ 15) (h : TrR σ q (fl t)) (hg : GrR σ) (hr : RkR σ t (i + 1)) (hi : i < tsz t) (hQ : Q (lN (rk (su t i))) σ) : wX1_rankOfNode q (nI i) σ Q := by
  have len := fl_len t ht
  have hl : i < (fl t).length := by omega
  obtain ⟨a, c, e1, e2, e3, e4, e5⟩ := fl_su ht hl
  obtain ⟨w1, w2, w3, n1, n2, n3⟩ := wf_p e3
  have ts := tsz_p e3
  have k8 := wf_kd e3
  obtain ⟨v, hv⟩ : ∃ u, u = su t i := ⟨_, rfl⟩
  have num : kd v = 0 → ∃ j, j < 3 ∧ vv v = nI j := fun z => by
    rw [nuB_all, List.all_eq_true] at hb
    have := (nuE_y _).mp (hb _ (List.getElem_mem hl))
    rw [e4, ← hv] at this
    exact this z
  have at1 := su_part (b := 1) ht hi (p := p1 (su t i)) (B := h1R (su t i)) (D := fl (p2 (su t i)) ++ fl (p3 (su t i)))
  have at2 := su_part (b := 1 + tsz (p1 (su t i))) ht hi (p := p2 (su t i)) (B := h2R (su t i)) (D := fl (p3 (su t i)))
  have at3 := su_part (b := 1 + tsz (p1 (su t i)) + tsz (p2 (su t i))) ht hi (p := p3 (su t i)) (B := h3R (su t i)) (D := [])
  have d1 := dc1 e3
  have d2 := dc2 e3
  have d3 := dc3 e3
  have q2 := h2L e3
  have q3 := h3L e3
  unfold wX1_rankOfNode
  refine ⟨h.1, kindOf_sp h (by omega) (sizeOf_sp h (by omega) ?_)⟩
  rw [en_lt hl, e4]
  rw [← hv] at e3 e4 e5 w1 w2 w3 n1 n2 n3 ts k8 at1 at2 at3 d1 d2 d3 q2 q3 hQ ⊢
  have eR : rk v = (if tsz (p1 v) + tsz (p2 v) + tsz (p3 v) = 0 then (if kd v = 0 then (vv v).toNatClampNeg else kd v + 2)
    else if kd v = 3 then rk (p1 v)
    else if kd v = 8 then cnt (tsz (p1 v) + tsz (p2 v) + tsz (p3 v)) + 4 * prs (tsz (p1 v) + tsz (p2 v) + tsz (p3 v)) + sm (f3 (tsz (p1 v) + tsz (p2 v) + tsz (p3 v))) (tsz (p1 v) - 1) + rk (p1 v) * prs (tsz (p2 v) + tsz (p3 v)) + (sm (f2 (tsz (p2 v) + tsz (p3 v))) (tsz (p2 v) - 1) + rk (p2 v) * cnt (tsz (p3 v)) + rk (p3 v))
    else cnt (tsz (p1 v) + tsz (p2 v) + tsz (p3 v)) + (kd v - 4) * prs (tsz (p1 v) + tsz (p2 v) + tsz (p3 v)) + (sm (f2 (tsz (p1 v) + tsz (p2 v))) (tsz (p1 v) - 1) + rk (p1 v) * cnt (tsz (p2 v)) + rk (p2 v))) := by
    obtain ⟨k, vl, x, y, z, e⟩ := wf_shape v e3
    rw [e, rk_nd, kd_nd, vv_nd, p1_nd, p2_nd, p3_nd]
  have rl : ∀ r, r = tsz v - 1 → nI (tsz v) - 1 = nI r := fun r er => by
    rw [er]
    exact pk_sub (b := 1) (by omega)
  dsimp only
  rw [rl _ rfl]
  refine lt_i (fun x ex => ?_)
  rw [ex]
  by_cases z0 : kd v = 0
  · rw [if_pos (show nI (kd v) = (0 : Int32) by rw [z0]; rfl)]
    refine numberOf_sp h (by omega) ?_
    rw [en_lt hl, e4]
    dsimp only
    obtain ⟨j, j1, j2⟩ := num z0
    rw [n1 (by rw [z0]; decide), n2 (by rw [z0]; decide), n3 (by rw [z0]; decide), tsz_nl, if_pos rfl, if_pos z0, j2, ncl (by omega)] at eR
    rw [j2, nI_l (by omega), ← eR]
    exact hQ
  rw [if_neg (show ¬ nI (kd v) = (0 : Int32) from ni_k (c := 0) (by omega) (by omega) z0)]
  have inp : kd v = 1 ∨ kd v = 2 → wX1_rankOfNode_36 (nI (kd v)) σ Q := fun z => by
    unfold wX1_rankOfNode_36
    have a0 : ary (kd v) = 0 := ary_0 (by omega)
    rw [n1 (by omega), n2 (by omega), n3 (by omega), tsz_nl, if_pos rfl, if_neg z0] at eR
    rw [show (3 : Int32) + nI (kd v) - 1 = nI (kd v + 2) by rw [show (3 : Int32) + nI (kd v) = nI (3 + kd v) from nI_add 3 _, show 3 + kd v = kd v + 2 + 1 by omega, nI_pred], nI_l (by omega), ← eR]
    exact hQ
  by_cases z1 : kd v = 1
  · rw [if_pos (show nI (kd v) = (1 : Int32) by rw [z1]; rfl)]
    exact inp (Or.inl z1)
  rw [if_neg (show ¬ nI (kd v) = (1 : Int32) from ni_k (c := 1) (by omega) (by omega) z1)]
  by_cases z2 : kd v = 2
  · rw [if_pos (show nI (kd v) = (2 : Int32) by rw [z2]; rfl)]
    exact inp (Or.inr z2)
  rw [if_neg (show ¬ nI (kd v) = (2 : Int32) from ni_k (c := 2) (by omega) (by omega) z2)]
  have a1 : 1 ≤ ary (kd v) := by unfold ary; rw [if_neg (by omega)]; split <;> (try split) <;> omega
  have px := wf_pos (w1 a1)
  obtain ⟨s1, s1'⟩ := at1 (w1 a1) d1 rfl
  rw [if_neg (by omega)] at eR
  by_cases z3 : kd v = 3
  · rw [if_pos (show nI (kd v) = (3 : Int32) by rw [z3]; rfl), nI_1]
    refine rankAt_sp hr (Nat.le_refl _) s1' hs ?_
    rw [if_pos z3] at eR
    rw [s1, ← eR]
    exact hQ
  rw [if_neg (show ¬ nI (kd v) = (3 : Int32) from ni_k (c := 3) (by omega) (by omega) z3)]
  rw [if_neg z3] at eR
  have a2 : 2 ≤ ary (kd v) := by unfold ary; rw [if_neg (by omega), if_neg z3]; split <;> omega
  have py := wf_pos (w2 a2)
  obtain ⟨s2, s2'⟩ := at2 (w2 a2) d2 q2
  refine within_sp (lo := 0) (hi := 15) (by omega) (by omega) (by omega) ?_
  rw [if_pos (show 0 ≤ tsz v - 1 ∧ tsz v - 1 ≤ 15 by omega), if_neg (by decide), ncl (by omega), (hg (tsz v - 1) (by omega)).2]
  refine ⟨vp_in_nI (by omega) (by omega), ?_⟩
  unfold wX1_rankOfNode_78
  by_cases z8 : kd v = 8
  · rw [if_pos (show nI (kd v) = (8 : Int32) by rw [z8]; rfl), nI_1]
    have a3 : 3 ≤ ary (kd v) := by rw [z8]; decide
    have pz := wf_pos (w3 a3)
    obtain ⟨s3, s3'⟩ := at3 (w3 a3) d3 q3
    rw [if_pos z8, show tsz (p1 v) + tsz (p2 v) + tsz (p3 v) = tsz v - 1 by omega] at eR
    refine many_sp hg (by omega) ?_
    unfold wX1_rankOfThree
    obtain ⟨-, -, -, -, -, b4, -⟩ := fl_su ht (i := i + 1) (by omega)
    rw [s1] at b4
    refine ⟨h.1, sizeOf_sp h (by omega) (behind_sp h (by omega) ?_)⟩
    rw [en_lt (show i + 1 < (fl t).length by omega), b4]
    dsimp only
    refine rankTwo_sp (x := p2 v) (y := p3 v) ht hs h hg hr (w2 a2) (w3 a3) (by omega) (by rw [Nat.add_assoc]; exact s2) (by rw [Nat.add_assoc, Nat.add_assoc, ← Nat.add_assoc 1]; exact s3) (by omega) (by omega) ?_
    refine ⟨(tsz (p1 v) - 1) + 1 + 1, ?_⟩
    have := three_lp (c := sm (f2 (tsz (p2 v) + tsz (p3 v))) (tsz (p2 v) - 1) + rk (p2 v) * cnt (tsz (p3 v)) + rk (p3 v)) (n := tsz v - 1) hg hr hs (Nat.le_refl _) s1' s1 (w1 a1) (by omega) (by omega) (Q := fun r_8 σ_7 => Q ((lN (cnt (tsz v - 1)) + (4 * lN (prs (tsz v - 1)))) + r_8) σ_7) (by
      rw [show (4 : Int64) * lN (prs (tsz v - 1)) = lN (4 * prs (tsz v - 1)) from lN_mul 4 _, lN_add, lN_add, show tsz v - 1 - tsz (p1 v) = tsz (p2 v) + tsz (p3 v) by omega]
      rw [eR] at hQ
      rw [show cnt (tsz v - 1) + 4 * prs (tsz v - 1) + (sm (f2 (tsz (p2 v) + tsz (p3 v))) (tsz (p2 v) - 1) + rk (p2 v) * cnt (tsz (p3 v)) + rk (p3 v) + sm (f3 (tsz v - 1)) (tsz (p1 v) - 1) + rk (p1 v) * prs (tsz (p2 v) + tsz (p3 v))) = cnt (tsz v - 1) + 4 * prs (tsz v - 1) + sm (f3 (tsz v - 1)) (tsz (p1 v) - 1) + rk (p1 v) * prs (tsz (p2 v) + tsz (p3 v)) + (sm (f2 (tsz (p2 v) + tsz (p3 v))) (tsz (p2 v) - 1) + rk (p2 v) * cnt (tsz (p3 v)) + rk (p3 v)) by omega]
      exact hQ) (tsz (p1 v) - 1) 1 (by omega) (by omega)
    rw [Nat.sub_self, sm, Nat.add_zero] at this
    exact this
  · rw [if_neg (show ¬ nI (kd v) = (8 : Int32) from ni_k (c := 8) (by omega) (by omega) z8), nI_1]
    have k3 := n3 (by unfold ary; rw [if_neg (by omega), if_neg z3, if_pos (by omega)]; omega)
    rw [k3, tsz_nl] at ts
    rw [if_neg z8, k3, tsz_nl, Nat.add_zero] at eR
    refine many_sp hg (by omega) ?_
    refine rankTwo_sp (x := p1 v) (y := p2 v) ht hs h hg hr (w1 a1) (w2 a2) (Nat.le_refl _) s1 (by rw [Nat.add_assoc]; exact s2) (by omega) (by omega) ?_
    rw [show nI (kd v) - 4 = nI (kd v - 4) from pk_sub (b := 4) (by omega), nI_l (by omega), lN_mul, lN_add, lN_add, show tsz v - 1 = tsz (p1 v) + tsz (p2 v) by omega, ← eR]
    exact hQ
theorem rank_lp {t : Tr} {Q : Int64 → Sg → Prop} (ht : wf t) (hb : nuB t = true) (hs : tsz t ≤ 15) (hq : 9 ≤ q) : ∀ (m : Nat) (x : Int32) (σ : Sg), x = nI m + (-1) → m ≤ tsz t → TrR σ q (fl t) → GrR σ → RkR σ t m → (∀ τ, Gm (fun i => i = 7) σ τ → Q (lN (rk t)) τ) → wX1_rank_12 Q (m + 1) q x σ := by
  have pt := wf_pos ht
  intro m
  induction m with
  | zero =>
    intro x σ hx hm h hg hr hQ
    have e : x < 0 := by rw [hx]; decide
    show wX1_rank_12_b (wX1_rank_12 Q 0) q x σ Q
    unfold wX1_rank_12_b
    rw [if_pos e]
    refine ⟨vp_in_nI (n := 0) (by omega) (by omega), ?_⟩
    have := hr 0 (Nat.le_refl _) pt
    have e0 : su t 0 = t := by
      obtain ⟨k, v, x, y, z, e⟩ := wf_shape t ht
      rw [e, su_nd, if_pos rfl]
    rw [e0] at this
    have c0 : Int32.toNatClampNeg 0 = 0 := by decide
    rw [c0, this]
    exact hQ σ Gm.rf
  | succ m ih =>
    intro x σ hx hm h hg hr hQ
    rw [pk_m1] at hx
    subst hx
    show wX1_rank_12_b (wX1_rank_12 Q (m + 1)) q (nI m) σ Q
    unfold wX1_rank_12_b
    rw [if_neg (nI_pos (by omega)), ncl (by omega)]
    generalize hx0 : nI m + (-1) = x0
    refine rankNode_sp ht hb hs h hg hr (by omega) ⟨vp_in_nI (by omega) (by omega), lt_i (fun p ep => lt_i (fun x ex => ?_))⟩
    have g : Gm (fun i => i = 7) σ p := by
      rw [ep]
      exact ⟨fun j hj => rfl, fun j hj => by rw [sJ_2, up_n _ _ _ _ hj], fun j hj => rfl⟩
    refine ih x p (ex.trans hx0.symm) (by omega) (h.gm g (fun i x y => by omega)) (hg.gm g (by omega) (by omega)) (fun j hj1 hj2 => ?_) (fun τ g2 => hQ τ (g.tr g2))
    rw [ep, sJ_2, up_s]
    by_cases e : j = m
    · subst e
      rw [pk_uLs]
    · rw [pk_uLn e]
      exact hr j (by omega) hj2
theorem crank_sp {t : Tr} {Q : Int64 → Sg → Prop} (ht : wf t) (hb : nuB t = true) (hs : tsz t ≤ 15) (hq : 9 ≤ q) (h : TrR σ q (fl t)) (hg : GrR σ) (hQ : ∀ τ, Gm (fun i => i = 7) σ τ → Q (lN (rk t)) τ) : wX1_rank q σ Q := by
  have len := fl_len t ht
  unfold wX1_rank
  rw [h.2.2.2.1, len, if_neg (show ¬ (15 : Int32) < nI (tsz t) from nI_nlt (a := 15) hs (by omega))]
  refine ⟨h.1, lt_i (fun x ex => ⟨tsz t + 1, ?_⟩)⟩
  exact rank_lp ht hb hs hq (tsz t) x σ (by rw [ex, Int32.sub_eq_add_neg]) (Nat.le_refl _) h hg (fun j a b => by omega) hQ
end
