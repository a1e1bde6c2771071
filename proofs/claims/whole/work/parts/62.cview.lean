/-! the class: a node at the row's end, and its parts -/
theorem kv_cons (e : En) (xs : List En) : kv (e :: xs) = (e.1, e.2.1) :: kv xs := rfl
theorem kv_pre : ∀ x, wn x → ∀ y, tw x y → ∀ r s, kv (fl x) ++ r = kv (fl y) ++ s → x = y ∧ r = s := by
  apply wf_gen
  · intro y ht r s h
    rcases ht with ⟨a, -⟩ | ⟨-, rfl⟩
    · exact absurd a wf_nl
    · exact ⟨rfl, by simpa using h⟩
  · intro k v x y z hw ix iy iz t ht r s h
    rcases ht with ⟨-, ht⟩ | ⟨a, -⟩
    · obtain ⟨k2, v2, x2, y2, z2, rfl⟩ := wf_shape t ht
      rw [fl_nd, fl_nd, kv_cons, kv_cons, kv_app, kv_app, kv_app, kv_app, List.cons_append, List.cons_append, List.append_assoc, List.append_assoc, List.append_assoc, List.append_assoc] at h
      obtain ⟨h1, h2⟩ := List.cons.inj h
      obtain ⟨e1, e2⟩ := Prod.mk.inj h1
      dsimp only at e1 e2
      subst e1
      subst e2
      obtain ⟨t1, t2, t3⟩ := wf_twin hw ht
      obtain ⟨a1, b1⟩ := ix x2 t1 _ _ h2
      obtain ⟨a2, b2⟩ := iy y2 t2 _ _ b1
      obtain ⟨a3, b3⟩ := iz z2 t3 _ _ b2
      rw [a1, a2, a3]
      exact ⟨rfl, b3⟩
    · rw [a] at hw
      exact absurd hw wf_nl
theorem kv_inj {x y : Tr} (hx : wf x) (hy : wf y) (h : kv (fl x) = kv (fl y)) : x = y := (kv_pre x (Or.inl hx) y (Or.inl ⟨hx, hy⟩) [] [] (by rw [h])).1
theorem fl_eqi {x y : Tr} (hx : wf x) (hy : wf y) : fl x = fl y ↔ x = y := ⟨fun h => kv_inj hx hy (by rw [h]), fun h => by rw [h]⟩
theorem en_in {A B C : List En} {a m : Nat} (ha : A.length = a) (hm : m < B.length) : en (A ++ (B ++ C)) (a + m) = en B m := by
  unfold en
  rw [List.getElem?_append_right (by omega), List.getElem?_append_left (by omega), ha, Nat.add_sub_cancel_left]
theorem kv_ge (xs : List En) {m : Nat} (h : m < (kv xs).length) (h' : m < xs.length) : (kv xs)[m] = ((xs[m]).1, (xs[m]).2.1) := List.getElem_map (fun e : En => (e.1, e.2.1))
section
variable {σ : Sg} {t q i j : Nat} {xs : List En} {Q : Int32 → Sg → Prop} {S : Sg → Prop}
theorem isSame_sp {A1 C1 A2 C2 : List En} {x y : Tr} (h : TrR σ t xs) (e1 : xs = A1 ++ (fl x ++ C1)) (e2 : xs = A2 ++ (fl y ++ C2)) (l1 : A1.length = i) (l2 : A2.length = j) (hx : wf x) (hy : wf y) (hQ : Q (if fl x = fl y then 1 else 0) σ) : wX5_isSame t (nI i) (nI j) σ Q := by
  have lx := fl_len x hx
  have ly := fl_len y hy
  have px := wf_pos hx
  have py := wf_pos hy
  have t1 := congrArg List.length e1
  rw [List.length_append, List.length_append, l1, lx] at t1
  have t2 := congrArg List.length e2
  rw [List.length_append, List.length_append, l2, ly] at t2
  have hl := h.2.2.1
  have n1 : en xs i = (kd x, vv x, tsz x) := by
    have := en_in (C := C1) l1 (B := fl x) (m := 0) (by omega)
    rw [Nat.add_zero, ← e1, fl_en hx] at this
    exact this
  have n2 : en xs j = (kd y, vv y, tsz y) := by
    have := en_in (C := C2) l2 (B := fl y) (m := 0) (by omega)
    rw [Nat.add_zero, ← e2, fl_en hy] at this
    exact this
  unfold wX5_isSame
  refine ⟨h.1, sizeOf_sp h (by omega) (sizeOf_sp h (by omega) ?_)⟩
  rw [n1, n2]
  dsimp only
  by_cases z : tsz x = tsz y
  · rw [if_pos (by rw [z])]
    refine ⟨tsz x + 1, ?_⟩
    refine isSame_lp h (by omega) (by omega) (fun w => ?_) (fun w => ?_) (tsz x) 0 (by omega) (fun m hm => by omega)
    · have e : fl x = fl y := by
        rw [fl_eqi hx hy]
        apply kv_inj hx hy
        apply List.ext_getElem
        · rw [kv_len, kv_len]; omega
        · intro m h1 h2
          rw [kv_len] at h1 h2
          obtain ⟨w1, w2⟩ := w m (by omega)
          rw [e1, en_in l1 h1, ← e1, e2, en_in l2 h2, en_lt h1, en_lt h2] at w1 w2
          rw [kv_ge (fl x) _ h1, kv_ge (fl y) _ h2, w1, w2]
      rw [if_pos e] at hQ
      exact hQ
    · have e : fl x ≠ fl y := fun z2 => w (fun m hm => by
        have c : en xs (i + m) = en xs (j + m) := by
          rw [e1, en_in l1 (by omega), ← e1, e2, en_in l2 (by omega), z2]
        rw [c]
        exact ⟨rfl, rfl⟩)
      rw [if_neg e] at hQ
      exact hQ
  · rw [if_neg (fun w => z ((nI_eq (by omega) (by omega)).mp w))]
    rw [if_neg (fun w => z (by rw [← lx, ← ly, w]))] at hQ
    exact hQ
variable {R : List En} {u : Tr}
/-- the rows ahead of a node's parts -/
def h1R (u : Tr) : List En := [(kd u, vv u, tsz u)]
def h2R (u : Tr) : List En := (kd u, vv u, tsz u) :: fl (p1 u)
def h3R (u : Tr) : List En := (kd u, vv u, tsz u) :: (fl (p1 u) ++ fl (p2 u))
theorem dc1 (hu : wf u) : fl u = h1R u ++ (fl (p1 u) ++ (fl (p2 u) ++ fl (p3 u))) := by rw [fl_head hu]; rfl
theorem dc2 (hu : wf u) : fl u = h2R u ++ (fl (p2 u) ++ fl (p3 u)) := by rw [fl_head hu]; rfl
theorem dc3 (hu : wf u) : fl u = h3R u ++ (fl (p3 u) ++ []) := by rw [fl_head hu]; unfold h3R; simp
theorem fln {p : Tr} (hp : wn p) : (fl p).length = tsz p := by
  rcases hp with w | w
  · exact fl_len p w
  · rw [w, fl_nl, tsz_nl]; rfl
theorem wnp (hu : wf u) : wn (p1 u) ∧ wn (p2 u) ∧ wn (p3 u) := by
  obtain ⟨k, v, x, y, z, rfl⟩ := wf_shape u hu
  rw [p1_nd, p2_nd, p3_nd]
  exact wf_parts hu
theorem h2L (hu : wf u) : (h2R u).length = 1 + tsz (p1 u) := by
  unfold h2R
  rw [List.length_cons, fln (wnp hu).1]
  omega
theorem h3L (hu : wf u) : (h3R u).length = 1 + tsz (p1 u) + tsz (p2 u) := by
  unfold h3R
  rw [List.length_cons, List.length_append, fln (wnp hu).1, fln (wnp hu).2.1]
  omega
theorem rlen (hu : wf u) : (R ++ fl u).length = R.length + tsz u := by rw [List.length_append, fl_len u hu]
theorem en0 (hu : wf u) : en (R ++ fl u) R.length = (kd u, vv u, tsz u) := by rw [en_app rfl, fl_en hu]
theorem enp {B D : List En} {p : Tr} {b : Nat} (e : fl u = B ++ (fl p ++ D)) (hp : wf p) (hb : B.length = b) : en (R ++ fl u) (R.length + b) = (kd p, vv p, tsz p) := by
  have pp := wf_pos hp
  have lp := fl_len p hp
  rw [e, ← List.append_assoc]
  have := en_in (A := R ++ B) (B := fl p) (C := D) (a := R.length + b) (m := 0) (by rw [List.length_append, hb]) (by omega)
  rw [Nat.add_zero, fl_en hp] at this
  exact this
theorem en1 (hu : wf u) (a : 1 ≤ ary (kd u)) : en (R ++ fl u) (R.length + 1) = (kd (p1 u), vv (p1 u), tsz (p1 u)) := enp (dc1 hu) ((wf_p hu).1 a) rfl
theorem en2 (hu : wf u) (a : 2 ≤ ary (kd u)) : en (R ++ fl u) (R.length + 1 + tsz (p1 u)) = (kd (p2 u), vv (p2 u), tsz (p2 u)) := by
  rw [Nat.add_assoc]
  exact enp (dc2 hu) ((wf_p hu).2.1 a) (h2L hu)
theorem en3 (hu : wf u) (a : 3 ≤ ary (kd u)) : en (R ++ fl u) (R.length + 1 + tsz (p1 u) + tsz (p2 u)) = (kd (p3 u), vv (p3 u), tsz (p3 u)) := by
  rw [Nat.add_assoc, Nat.add_assoc, ← Nat.add_assoc 1]
  exact enp (dc3 hu) ((wf_p hu).2.2.1 a) (h3L hu)
/-- is a part the number v? -/
theorem isN {p : Tr} {v : Int32} (h : TrR σ t xs) (hi : i < xs.length) (e : en xs i = (kd p, vv p, tsz p)) (hQ : Q (if nu p = some v then 1 else 0) σ) : wX5_isNumber t (nI i) v σ Q := by
  have hl := h.2.2.1
  refine isNumberT_sp h (by omega) ?_
  rw [e]
  dsimp only
  by_cases z : nu p = some v
  · rw [if_pos z] at hQ
    unfold nu at z
    by_cases k : kd p = 0
    · rw [if_pos k] at z
      rw [if_pos ⟨hi, k, Option.some.inj z⟩]
      exact hQ
    · rw [if_neg k] at z
      cases z
  · rw [if_neg z] at hQ
    rw [if_neg (fun w => z (by unfold nu; rw [if_pos w.2.1, w.2.2]))]
    exact hQ
theorem fl_nm (v : Int32) : fl (nm v) = [(0, v, 1)] := by
  unfold nm
  rw [fl_nd, fl_nl, tsz_nl]
  rfl
theorem e_num {v : Int32} (h : TrR σ t (R ++ fl u)) (hu : wf u) (hS : ∀ τ, Gm (fun i => t ≤ i ∧ i < t + 4) σ τ → TrR τ t (R ++ fl (nm v)) → S τ) : wX5_endAsNumber t (nI R.length) v σ S :=
  endAsNumber_sp h (by rw [fl_len u hu]; exact wf_pos hu) (fun τ f h2 => hS τ f (by rw [fl_nm]; exact h2))
theorem e_prt {B D : List En} {p : Tr} {b : Nat} (h : TrR σ t (R ++ fl u)) (e : fl u = B ++ (fl p ++ D)) (hp : wf p) (hb : B.length = b) (hS : ∀ τ, Gm (fun i => t ≤ i ∧ i < t + 4) σ τ → TrR τ t (R ++ fl p) → S τ) : wX5_endAsPart t (nI R.length) (nI (R.length + b)) σ S := by
  subst hb
  rw [e] at h
  exact endAsPart_sp h (by rw [fl_len p hp]; exact wf_pos hp) (by rw [fl_en hp, fl_len p hp]) hS
theorem e_p1 (h : TrR σ t (R ++ fl u)) (hu : wf u) (a : 1 ≤ ary (kd u)) (hS : ∀ τ, Gm (fun i => t ≤ i ∧ i < t + 4) σ τ → TrR τ t (R ++ fl (p1 u)) → S τ) : wX5_endAsPart t (nI R.length) (nI (R.length + 1)) σ S := e_prt h (dc1 hu) ((wf_p hu).1 a) rfl hS
theorem e_p2 (h : TrR σ t (R ++ fl u)) (hu : wf u) (a : 2 ≤ ary (kd u)) (hS : ∀ τ, Gm (fun i => t ≤ i ∧ i < t + 4) σ τ → TrR τ t (R ++ fl (p2 u)) → S τ) : wX5_endAsPart t (nI R.length) (nI (R.length + 1 + tsz (p1 u))) σ S := by
  rw [Nat.add_assoc]
  exact e_prt h (dc2 hu) ((wf_p hu).2.1 a) (h2L hu) hS
theorem e_p3 (h : TrR σ t (R ++ fl u)) (hu : wf u) (a : 3 ≤ ary (kd u)) (hS : ∀ τ, Gm (fun i => t ≤ i ∧ i < t + 4) σ τ → TrR τ t (R ++ fl (p3 u)) → S τ) : wX5_endAsPart t (nI R.length) (nI (R.length + 1 + tsz (p1 u) + tsz (p2 u))) σ S := by
  rw [Nat.add_assoc, Nat.add_assoc, ← Nat.add_assoc 1]
  exact e_prt h (dc3 hu) ((wf_p hu).2.2.1 a) (h3L hu) hS
/-- behind the first part, behind the second -/
theorem b1 (h : TrR σ t (R ++ fl u)) (hu : wf u) (a : 1 ≤ ary (kd u)) (hQ : Q (nI (R.length + 1 + tsz (p1 u))) σ) : wX5_behind t (nI (R.length + 1)) σ Q := by
  have ts := tsz_p hu
  have p := wf_pos ((wf_p hu).1 a)
  refine behind_sp h (by rw [rlen hu]; omega) ?_
  rw [en1 hu a]
  exact hQ
theorem b2 (h : TrR σ t (R ++ fl u)) (hu : wf u) (a : 2 ≤ ary (kd u)) (hQ : Q (nI (R.length + 1 + tsz (p1 u) + tsz (p2 u))) σ) : wX5_behind t (nI (R.length + 1 + tsz (p1 u))) σ Q := by
  have ts := tsz_p hu
  have p := wf_pos ((wf_p hu).2.1 a)
  refine behind_sp h (by rw [rlen hu]; omega) ?_
  rw [en2 hu a]
  exact hQ
/-- kind, number and size of the node and of its parts -/
theorem k0 (h : TrR σ t (R ++ fl u)) (hu : wf u) (hQ : Q (nI (kd u)) σ) : wX5_kindOf t (nI R.length) σ Q := by
  have l := h.2.2.1
  rw [rlen hu] at l
  refine kindOf_sp h (by omega) ?_
  rw [en0 hu]
  exact hQ
theorem k1 (h : TrR σ t (R ++ fl u)) (hu : wf u) (a : 1 ≤ ary (kd u)) (hQ : Q (nI (kd (p1 u))) σ) : wX5_kindOf t (nI (R.length + 1)) σ Q := by
  have l := h.2.2.1
  rw [rlen hu] at l
  refine kindOf_sp h (by omega) ?_
  rw [en1 hu a]
  exact hQ
theorem k2 (h : TrR σ t (R ++ fl u)) (hu : wf u) (a : 2 ≤ ary (kd u)) (hQ : Q (nI (kd (p2 u))) σ) : wX5_kindOf t (nI (R.length + 1 + tsz (p1 u))) σ Q := by
  have l := h.2.2.1
  have ts := tsz_p hu
  rw [rlen hu] at l
  refine kindOf_sp h (by omega) ?_
  rw [en2 hu a]
  exact hQ
theorem v1 (h : TrR σ t (R ++ fl u)) (hu : wf u) (a : 1 ≤ ary (kd u)) (hQ : Q (vv (p1 u)) σ) : wX5_numberOf t (nI (R.length + 1)) σ Q := by
  have l := h.2.2.1
  rw [rlen hu] at l
  refine numberOf_sp h (by omega) ?_
  rw [en1 hu a]
  exact hQ
theorem v2 (h : TrR σ t (R ++ fl u)) (hu : wf u) (a : 2 ≤ ary (kd u)) (hQ : Q (vv (p2 u)) σ) : wX5_numberOf t (nI (R.length + 1 + tsz (p1 u))) σ Q := by
  have l := h.2.2.1
  have ts := tsz_p hu
  rw [rlen hu] at l
  refine numberOf_sp h (by omega) ?_
  rw [en2 hu a]
  exact hQ
theorem s1 (h : TrR σ t (R ++ fl u)) (hu : wf u) (a : 1 ≤ ary (kd u)) (hQ : Q (nI (tsz (p1 u))) σ) : wX5_sizeOf t (nI (R.length + 1)) σ Q := by
  have l := h.2.2.1
  rw [rlen hu] at l
  refine sizeOf_sp h (by omega) ?_
  rw [en1 hu a]
  exact hQ
theorem s2 (h : TrR σ t (R ++ fl u)) (hu : wf u) (a : 2 ≤ ary (kd u)) (hQ : Q (nI (tsz (p2 u))) σ) : wX5_sizeOf t (nI (R.length + 1 + tsz (p1 u))) σ Q := by
  have l := h.2.2.1
  have ts := tsz_p hu
  rw [rlen hu] at l
  refine sizeOf_sp h (by omega) ?_
  rw [en2 hu a]
  exact hQ
theorem s3 (h : TrR σ t (R ++ fl u)) (hu : wf u) (a : 3 ≤ ary (kd u)) (hQ : Q (nI (tsz (p3 u))) σ) : wX5_sizeOf t (nI (R.length + 1 + tsz (p1 u) + tsz (p2 u))) σ Q := by
  have l := h.2.2.1
  have ts := tsz_p hu
  rw [rlen hu] at l
  refine sizeOf_sp h (by omega) ?_
  rw [en3 hu a]
  exact hQ
theorem n1 {v : Int32} (h : TrR σ t (R ++ fl u)) (hu : wf u) (a : 1 ≤ ary (kd u)) (hQ : Q (if nu (p1 u) = some v then 1 else 0) σ) : wX5_isNumber t (nI (R.length + 1)) v σ Q := by
  have ts := tsz_p hu
  have p := wf_pos ((wf_p hu).1 a)
  exact isN h (by rw [rlen hu]; omega) (en1 hu a) hQ
theorem n2 {v : Int32} (h : TrR σ t (R ++ fl u)) (hu : wf u) (a : 2 ≤ ary (kd u)) (hQ : Q (if nu (p2 u) = some v then 1 else 0) σ) : wX5_isNumber t (nI (R.length + 1 + tsz (p1 u))) v σ Q := by
  have ts := tsz_p hu
  have p := wf_pos ((wf_p hu).2.1 a)
  exact isN h (by rw [rlen hu]; omega) (en2 hu a) hQ
theorem s12 (h : TrR σ t (R ++ fl u)) (hu : wf u) (a : 2 ≤ ary (kd u)) (hQ : Q (if fl (p1 u) = fl (p2 u) then 1 else 0) σ) : wX5_isSame t (nI (R.length + 1)) (nI (R.length + 1 + tsz (p1 u))) σ Q :=
  isSame_sp (A1 := R ++ h1R u) (A2 := R ++ h2R u) h (by rw [List.append_assoc, ← dc1 hu]) (by rw [List.append_assoc, ← dc2 hu]) (by rw [List.length_append]; rfl) (by rw [List.length_append, h2L hu, Nat.add_assoc]) ((wf_p hu).1 (by omega)) ((wf_p hu).2.1 a) hQ
theorem s23 (h : TrR σ t (R ++ fl u)) (hu : wf u) (a : 3 ≤ ary (kd u)) (hQ : Q (if fl (p2 u) = fl (p3 u) then 1 else 0) σ) : wX5_isSame t (nI (R.length + 1 + tsz (p1 u))) (nI (R.length + 1 + tsz (p1 u) + tsz (p2 u))) σ Q :=
  isSame_sp (A1 := R ++ h2R u) (A2 := R ++ h3R u) h (by rw [List.append_assoc, ← dc2 hu]) (by rw [List.append_assoc, ← dc3 hu]) (by rw [List.length_append, h2L hu, Nat.add_assoc]) (by rw [List.length_append, h3L hu]; omega) ((wf_p hu).2.1 (by omega)) ((wf_p hu).2.2.1 a) hQ
end
