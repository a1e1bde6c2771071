/-! the class: the rules, more -/
section
variable {σ : Sg} {t : Nat} {Q : Int32 → Sg → Prop} {R : List En} {u : Tr} {f : Nat}
theorem c_pick (h : TrR σ t (R ++ fl u)) (hu : wf u) (a : 1 ≤ ary (kd u)) (hf : f ≤ 2) (hQ : rcP t R (ruP f u) σ Q) : wX4_pick t (nI R.length) (nI f) σ Q := by
  obtain ⟨h0, h1⟩ := hQ
  have k8 := wf_kd hu
  have k8' := wf_kd ((wf_p hu).1 a)
  unfold ruP at h0 h1
  unfold wX4_pick
  refine lt_i (fun x ex => ?_)
  rw [nI_1] at ex
  rw [ex]
  refine ⟨h.1, k0 h hu ?_⟩
  by_cases q : kd u = 8
  rotate_left
  · rw [if_neg q] at h0
    rw [if_neg (show ¬ nI (kd u) = (8 : Int32) from ni_k (c := 8) (by omega) (by omega) q)]
    exact h0 rfl
  rw [if_pos q] at h0 h1
  have a3 : 3 ≤ ary (kd u) := by rw [q]; decide
  rw [if_pos (show nI (kd u) = (8 : Int32) by rw [q]; rfl)]
  refine k1 h hu a ?_
  by_cases z1 : kd (p1 u) = 0
  rotate_left
  · rw [nu_n z1] at h0
    rw [if_neg (show ¬ nI (kd (p1 u)) = (0 : Int32) from ni_k (c := 0) (by omega) (by omega) z1)]
    exact h0 rfl
  rw [nu_k z1] at h1
  dsimp only at h1
  rw [z1, if_pos (by decide)]
  refine b1 h hu a (v1 h hu a ?_)
  have sec : (if f = 2 then p2 u else if vv (p1 u) = 0 ∨ (f = 1 ∧ vv (p1 u) < 0) then p3 u else p2 u) = p2 u → wX4_pick_61 t (nI R.length) (nI (R.length + 1 + tsz (p1 u))) σ Q := fun e => by
    rw [e] at h1
    unfold wX4_pick_61 wX4_pick_66
    rw [if_neg (by decide)]
    unfold wX4_pick_86
    exact ⟨h.1, e_p2 h hu (by omega) (fun τ f1 h2 => h1 _ rfl τ f1 h2)⟩
  have thi : (if f = 2 then p2 u else if vv (p1 u) = 0 ∨ (f = 1 ∧ vv (p1 u) < 0) then p3 u else p2 u) = p3 u → wX4_pick_65 t (nI R.length) (nI (R.length + 1 + tsz (p1 u))) σ Q := fun e => by
    rw [e] at h1
    unfold wX4_pick_65 wX4_pick_66
    rw [if_pos rfl]
    unfold wX4_pick_86
    exact ⟨h.1, b2 h hu (by omega) ⟨h.1, e_p3 h hu a3 (fun τ f1 h2 => h1 _ rfl τ f1 h2)⟩⟩
  by_cases f2 : f = 2
  · rw [if_pos (show nI f = (2 : Int32) by rw [f2]; rfl)]
    exact sec (by rw [if_pos f2])
  rw [if_neg f2] at sec thi
  rw [if_neg (show ¬ nI f = (2 : Int32) from ni_k (c := 2) (by omega) (by omega) f2)]
  by_cases f1 : f = 1
  · rw [if_pos (show nI f = (1 : Int32) by rw [f1]; rfl)]
    by_cases z : vv (p1 u) ≤ 0
    · rw [if_pos z]
      refine thi (by
        rw [if_pos]
        by_cases e : vv (p1 u) = 0
        · exact Or.inl e
        · exact Or.inr ⟨f1, Int32.lt_of_le_of_ne z e⟩)
    · rw [if_neg z]
      refine sec (by
        rw [if_neg]
        rintro (e | ⟨-, e⟩)
        · exact z (by rw [e]; exact Int32.le_refl _)
        · exact z (Int32.le_of_lt e))
  · rw [if_neg (show ¬ nI f = (1 : Int32) from ni_k (c := 1) (by omega) (by omega) f1)]
    by_cases z : vv (p1 u) = 0
    · rw [if_pos z]
      exact thi (by rw [if_pos (Or.inl z)])
    · rw [if_neg z]
      exact sec (by rw [if_neg (fun w => w.elim z (fun w => f1 w.1))])
theorem c_melt (h : TrR σ t (R ++ fl u)) (hu : wf u) (a : 1 ≤ ary (kd u)) (hf : f ≤ 2) (hQ : rcP t R (ruM f u) σ Q) : wX4_melt t (nI R.length) (nI f) σ Q := by
  obtain ⟨h0, h1⟩ := hQ
  have k8 := wf_kd hu
  have l := h.2.2.1
  rw [rlen hu] at l
  have ts := tsz_p hu
  unfold ruM at h0 h1
  unfold wX4_melt
  refine ⟨h.1, k0 h hu ?_⟩
  by_cases q : kd u = 8
  rotate_left
  · rw [if_neg q] at h0
    rw [if_neg (show ¬ nI (kd u) = (8 : Int32) from ni_k (c := 8) (by omega) (by omega) q)]
    exact h0 rfl
  rw [if_pos q] at h0 h1
  have a3 : 3 ≤ ary (kd u) := by rw [q]; decide
  rw [if_pos (show nI (kd u) = (8 : Int32) by rw [q]; rfl)]
  refine lt_i (fun x ex => ?_)
  rw [nI_1] at ex
  rw [ex]
  refine b1 h hu a (b2 h hu (by omega) ?_)
  have fin : (∀ τ, Gm (fun i => t ≤ i ∧ i < t + 4) σ τ → TrR τ t (R ++ fl (p2 u)) → Q 1 τ) → wX4_melt_91 t (nI R.length) (nI (R.length + 1 + tsz (p1 u))) σ Q := fun hy => by
    unfold wX4_melt_91
    exact ⟨h.1, e_p2 h hu (by omega) hy⟩
  have rest : ∀ (P : Prop), (P ↔ (if f = 1 then tsz (p2 u) = tsz (p3 u) else fl (p2 u) = fl (p3 u))) → ∀ b : Int32, (P → b = 1) → (¬ P → b = 0) → wX4_melt_67 t (nI R.length) (nI f) (nI (R.length + 1)) (nI (R.length + 1 + tsz (p1 u))) b σ Q := fun P e b b1 b0 => by
    unfold wX4_melt_67
    by_cases p : P
    · rw [b1 p, if_neg (by decide)]
      rw [if_pos (e.mp p)] at h1
      exact fin (fun τ f1 h2 => h1 _ rfl τ f1 h2)
    · rw [b0 p, if_pos rfl]
      rw [if_neg (fun w => p (e.mpr w))] at h0 h1
      by_cases f2 : f = 2
      · rw [if_pos (show nI f = (2 : Int32) by rw [f2]; rfl)]
        refine ⟨h.1, s12 h hu (by omega) ?_⟩
        by_cases z : fl (p1 u) = fl (p2 u)
        · rw [if_pos ⟨f2, z⟩] at h1
          rw [if_pos z, if_neg (by decide)]
          exact fin (fun τ f1 h2 => h1 _ rfl τ f1 h2)
        · rw [if_neg (fun w => z w.2)] at h0
          rw [if_neg z, if_pos rfl]
          exact h0 rfl
      · rw [if_neg (fun w => f2 w.1)] at h0
        rw [if_neg (show ¬ nI f = (2 : Int32) from ni_k (c := 2) (by omega) (by omega) f2)]
        exact h0 rfl
  by_cases f1 : f = 1
  · rw [if_pos (show nI f = (1 : Int32) by rw [f1]; rfl)]
    rw [if_pos f1] at rest
    refine s2 h hu (by omega) (s3 h hu a3 ?_)
    by_cases z : tsz (p2 u) = tsz (p3 u)
    · rw [if_pos (by rw [z])]
      exact rest (tsz (p2 u) = tsz (p3 u)) Iff.rfl 1 (fun _ => rfl) (fun w => absurd z w)
    · rw [if_neg (fun w => z ((nI_eq (by omega) (by omega)).mp w))]
      exact rest (tsz (p2 u) = tsz (p3 u)) Iff.rfl 0 (fun w => absurd w z) (fun _ => rfl)
  · rw [if_neg (show ¬ nI f = (1 : Int32) from ni_k (c := 1) (by omega) (by omega) f1)]
    rw [if_neg f1] at rest
    refine s23 h hu a3 ?_
    exact rest (fl (p2 u) = fl (p3 u)) Iff.rfl _ (fun w => by rw [if_pos w]) (fun w => by rw [if_neg w])
/-- the last steps of a doubling: a node of kind k over the part w, twice -/
theorem c_dbl {w : Tr} {k : Nat} (hk : k = 4 ∨ k = 5) (hw : wf w) (h : TrR σ t (R ++ fl w)) (hl : R.length + 1 + 2 * tsz w ≤ 200) (hQ : ∀ τ, Gm (fun i => t ≤ i ∧ i < t + 4) σ τ → TrR τ t (R ++ fl (nd k 0 w w nl)) → Q 1 τ) : wX4_twice_147 t (nI R.length) (nI (tsz w)) t (nI R.length) (nI k) σ Q := by
  have lw := fl_len w hw
  unfold wX4_twice_147
  refine ⟨h.1, insert_sp (by omega) h (by omega) (fun τ1 f1 h1 => ⟨h.1, ?_⟩)⟩
  rw [nI_1]
  refine ap_sp (A := R ++ [(k, 0, 1 + (fl w).length)]) (B := fl w) (C := []) (by rw [List.length_append]; rfl) lw h1 (by simpa using h1) (by rw [List.length_append, List.length_cons]; omega) (Or.inl rfl) (fun τ2 f2 h2 => ?_)
  rw [List.append_assoc, List.cons_append] at h2
  refine close_sp h2 (fun τ3 f3 h3 => hQ τ3 ((f1.tr f2).tr f3) ?_)
  rw [fl_nd, fl_nl, List.append_nil, tsz_nl, show 1 + tsz w + tsz w + 0 = 1 + (fl w ++ fl w).length by rw [List.length_append]; omega]
  exact h3
theorem t91n {x3 x6 : Int32} (h0 : Q 0 σ) : wX4_twice_91 t (nI R.length) x3 x6 (-1) σ Q := by
  unfold wX4_twice_91
  rw [if_pos (by decide)]
  exact h0
theorem t91s {x : Tr} {p n w : Nat} {D B : List En} (h : TrR σ t (R ++ fl u)) (hu : wf u) (k67 : kd u = 6 ∨ kd u = 7) (hn : n = R.length + tsz u + w) (hn2 : n ≤ 200) (wx : wf x) (ex : fl u = B ++ (fl x ++ D)) (ep : p = R.length + B.length) (eb : 2 ≤ B.length + D.length) (hQ : rcP t R (if 200 < n + tsz x - 1 then none else some (nd (if kd u = 6 then 4 else 5) 0 x x nl)) σ Q) : wX4_twice_91 t (nI R.length) (nI w) (nI (kd u)) (nI p) σ Q := by
  obtain ⟨h0, h1⟩ := hQ
  have l := h.2.2.1
  rw [rlen hu] at l
  have px := wf_pos wx
  have lx := congrArg List.length ex
  rw [fl_len u hu, List.length_append, List.length_append, fl_len x wx] at lx
  unfold wX4_twice_91
  rw [if_neg (nI_pos (by omega)), h.2.2.2.1, rlen hu, ep]
  refine ⟨h.1, sizeOf_sp h (by omega) ?_⟩
  rw [enp ex wx rfl]
  dsimp only
  rw [nI_add, nI_add, show nI (R.length + tsz u + w + tsz x) - 1 = nI (R.length + tsz u + w + tsz x - 1) from pk_sub (b := 1) (by omega), ← hn]
  by_cases z : 200 < n + tsz x - 1
  · rw [if_pos z] at h0
    rw [if_neg (show ¬ nI (n + tsz x - 1) ≤ (200 : Int32) from nI_ge (a := 200) z (by omega))]
    exact h0 rfl
  · rw [if_neg z] at h1
    rw [if_pos (show nI (n + tsz x - 1) ≤ (200 : Int32) from nI_le (b := 200) (by omega) (by omega))]
    refine e_prt h ex wx rfl (fun τ f1 h2 => ?_)
    refine sizeOf_sp h2 (by omega) ?_
    rw [en0 wx]
    dsimp only
    rcases k67 with k | k
    · rw [if_pos (show nI (kd u) = (6 : Int32) by rw [k]; rfl)]
      rw [if_pos k] at h1
      exact c_dbl (Or.inl rfl) wx h2 (by omega) (fun τ2 f2 h3 => h1 _ rfl τ2 (f1.tr f2) h3)
    · rw [if_neg (show ¬ nI (kd u) = (6 : Int32) by rw [k]; decide)]
      rw [if_neg (show ¬ kd u = 6 by omega)] at h1
      exact c_dbl (Or.inr rfl) wx h2 (by omega) (fun τ2 f2 h3 => h1 _ rfl τ2 (f1.tr f2) h3)
theorem other_sp {v : Int32} (h : TrR σ t (R ++ fl u)) (hu : wf u) (a : 2 ≤ ary (kd u)) (hQ : Q (if nu (p2 u) = some v then nI (R.length + 1) else if nu (p1 u) = some v then nI (R.length + 1 + tsz (p1 u)) else -1) σ) : wX4_otherThan t (nI (R.length + 1)) (nI (R.length + 1 + tsz (p1 u))) v σ Q := by
  unfold wX4_otherThan
  refine ⟨h.1, n2 h hu a ?_⟩
  by_cases z : nu (p2 u) = some v
  · rw [if_pos z] at hQ ⊢
    rw [if_neg (by decide)]
    exact hQ
  · rw [if_neg z] at hQ ⊢
    rw [if_pos rfl]
    refine n1 h hu (by omega) ?_
    by_cases z2 : nu (p1 u) = some v
    · rw [if_pos z2] at hQ ⊢
      rw [if_neg (by decide)]
      exact hQ
    · rw [if_neg z2] at hQ ⊢
      rw [if_pos rfl]
      exact hQ
theorem c_twice {n w : Nat} (h : TrR σ t (R ++ fl u)) (hu : wf u) (a : 1 ≤ ary (kd u)) (hf : f ≤ 2) (hn : n = R.length + tsz u + w) (hn2 : n ≤ 200) (hQ : rcP t R (ruT f n u) σ Q) : wX4_twice t (nI R.length) (nI f) (nI w) σ Q := by
  have k8 := wf_kd hu
  have l := h.2.2.1
  rw [rlen hu] at l
  have ts := tsz_p hu
  have go1 : twA f u = some (p1 u) → (kd u = 6 ∨ kd u = 7) → wX4_twice_91 t (nI R.length) (nI w) (nI (kd u)) (nI (R.length + 1)) σ Q := fun e k67 => by
    have a2 : 2 ≤ ary (kd u) := by rcases k67 with k | k <;> (rw [k]; decide)
    unfold ruT at hQ
    rw [e] at hQ
    have p := wf_pos ((wf_p hu).2.1 a2)
    exact t91s h hu k67 hn hn2 ((wf_p hu).1 a) (dc1 hu) rfl (by rw [List.length_append, fl_len _ ((wf_p hu).2.1 a2)]; have : (h1R u).length = 1 := rfl; omega) hQ
  have go2 : twA f u = some (p2 u) → (kd u = 6 ∨ kd u = 7) → wX4_twice_91 t (nI R.length) (nI w) (nI (kd u)) (nI (R.length + 1 + tsz (p1 u))) σ Q := fun e k67 => by
    have a2 : 2 ≤ ary (kd u) := by rcases k67 with k | k <;> (rw [k]; decide)
    unfold ruT at hQ
    rw [e] at hQ
    have p := wf_pos ((wf_p hu).1 a)
    exact t91s h hu k67 hn hn2 ((wf_p hu).2.1 a2) (dc2 hu) (by rw [h2L hu, Nat.add_assoc]) (by rw [h2L hu]; omega) hQ
  have gon : twA f u = none → wX4_twice_91 t (nI R.length) (nI w) (nI (kd u)) (-1) σ Q := fun e => by
    unfold ruT at hQ
    rw [e] at hQ
    exact t91n (t := t) (R := R) (hQ.1 rfl)
  unfold wX4_twice
  refine lt_i (fun x ex => ?_)
  rw [nI_1] at ex
  rw [ex]
  refine ⟨h.1, b1 h hu a (k0 h hu ?_)⟩
  by_cases q6 : kd u = 6
  · have a2 : 2 ≤ ary (kd u) := by rw [q6]; decide
    rw [if_pos (show nI (kd u) = (6 : Int32) by rw [q6]; rfl)]
    unfold twA at go1 go2 gon
    rw [if_pos q6] at go1 go2 gon
    refine other_sp h hu a2 ?_
    by_cases z1 : nu (p2 u) = some 2
    · rw [if_pos z1] at go1 ⊢
      rw [if_pos (show (0 : Int32) ≤ nI (R.length + 1) from nI_le (a := 0) (by omega) (by omega))]
      exact go1 rfl (Or.inl q6)
    rw [if_neg z1] at go1 go2 gon ⊢
    by_cases z2 : nu (p1 u) = some 2
    · rw [if_pos z2] at go2 ⊢
      rw [if_pos (show (0 : Int32) ≤ nI (R.length + 1 + tsz (p1 u)) from nI_le (a := 0) (by omega) (by omega))]
      exact go2 rfl (Or.inl q6)
    rw [if_neg z2] at go1 go2 gon ⊢
    rw [if_neg (show ¬ (0 : Int32) ≤ -1 by decide)]
    by_cases f1 : f = 1
    · rw [if_pos (show nI f = (1 : Int32) by rw [f1]; rfl)]
      refine other_sp h hu a2 ?_
      by_cases z3 : nu (p2 u) = some 3
      · rw [if_pos ⟨f1, z3⟩] at go1
        rw [if_pos z3]
        exact go1 rfl (Or.inl q6)
      rw [if_neg (fun w => z3 w.2)] at go1 go2 gon
      rw [if_neg z3]
      by_cases z4 : nu (p1 u) = some 3
      · rw [if_pos ⟨f1, z4⟩] at go2
        rw [if_pos z4]
        exact go2 rfl (Or.inl q6)
      · rw [if_neg (fun w => z4 w.2)] at gon
        rw [if_neg z4]
        exact gon rfl
    · rw [if_neg (show ¬ nI f = (1 : Int32) from ni_k (c := 1) (by omega) (by omega) f1)]
      rw [if_neg (fun w => f1 w.1), if_neg (fun w => f1 w.1)] at gon
      exact gon rfl
  · rw [if_neg (show ¬ nI (kd u) = (6 : Int32) from ni_k (c := 6) (by omega) (by omega) q6)]
    unfold twA at go1 gon
    rw [if_neg q6] at go1 gon
    by_cases q7 : kd u = 7
    · have a2 : 2 ≤ ary (kd u) := by rw [q7]; decide
      rw [if_pos (show nI (kd u) = (7 : Int32) by rw [q7]; rfl)]
      by_cases f2 : f = 2
      · rw [if_pos (show nI f = (2 : Int32) by rw [f2]; rfl)]
        refine n2 h hu a2 ?_
        by_cases z : nu (p2 u) = some 2
        · rw [if_pos z, if_neg (by decide)]
          rw [if_pos ⟨q7, f2, z⟩] at go1
          exact go1 rfl (Or.inr q7)
        · rw [if_neg z, if_pos rfl]
          rw [if_neg (fun w => z w.2.2)] at gon
          exact gon rfl
      · rw [if_neg (show ¬ nI f = (2 : Int32) from ni_k (c := 2) (by omega) (by omega) f2)]
        rw [if_neg (fun w => f2 w.2.1)] at gon
        exact gon rfl
    · rw [if_neg (show ¬ nI (kd u) = (7 : Int32) from ni_k (c := 7) (by omega) (by omega) q7)]
      rw [if_neg (fun w => q7 w.1)] at gon
      exact gon rfl
end
