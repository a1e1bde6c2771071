/-! the class: the last rule, and fire() -/
section
variable {σ : Sg} {t : Nat} {Q : Int32 → Sg → Prop} {S : Sg → Prop} {R : List En} {u : Tr} {f : Nat}
theorem ct_sp {xs A B C : List En} {a n : Nat} (h : TrR σ t xs) (e : xs = A ++ (B ++ C)) (ea : A.length = a) (eB : B.length = n) (hR : ∀ τ, Gm (fun i => t ≤ i ∧ i < t + 4) σ τ → TrR τ t (A ++ C) → S τ) : wX5_cut t (nI a) (nI n) σ S := by
  subst ea
  subst eB
  rw [e] at h
  exact cut_sp h hR
theorem neg_p {p : Tr} (hp : wf p) (h : kd p = 3) : wf (p1 p) ∧ fl p = h1R p ++ fl (p1 p) ∧ p2 p = nl ∧ p3 p = nl := by
  obtain ⟨w1, -, -, -, n2, n3⟩ := wf_p hp
  rw [h] at w1 n2 n3
  refine ⟨w1 (by decide), ?_, n2 (by decide), n3 (by decide)⟩
  have := dc1 hp
  rw [n2 (by decide), n3 (by decide), fl_nl, List.append_nil, List.append_nil] at this
  exact this
theorem two_p (hu : wf u) (h : ary (kd u) = 2) : fl u = h1R u ++ (fl (p1 u) ++ fl (p2 u)) ∧ wf (p1 u) ∧ wf (p2 u) := by
  obtain ⟨w1, w2, -, -, -, n3⟩ := wf_p hu
  have := dc1 hu
  rw [n3 (by omega), fl_nl, List.append_nil] at this
  exact ⟨this, w1 (by omega), w2 (by omega)⟩
/-- a minus sign goes, and the node is another -/
theorem c_cutY (h : TrR σ t (R ++ fl u)) (hu : wf u) (a : ary (kd u) = 2) (h3 : kd (p2 u) = 3) (hS : ∀ τ, (∀ k (T : Sg → Prop), k ≤ 8 → (∀ τ2, Gm (fun i => t ≤ i ∧ i < t + 4) σ τ2 → TrR τ2 t (R ++ fl (nd k 0 (p1 u) (p1 (p2 u)) nl)) → T τ2) → wX5_rename t (nI R.length) (nI k) τ T) → S τ) : wX5_cut t (nI (R.length + 1 + tsz (p1 u))) 1 σ S := by
  obtain ⟨e1, wa, wb⟩ := two_p hu a
  obtain ⟨wc, e2, -, -⟩ := neg_p wb h3
  refine ct_sp (n := 1) h (A := R ++ (h1R u ++ fl (p1 u))) (B := h1R (p2 u)) (C := fl (p1 (p2 u))) ?_ ?_ rfl (fun τ f1 h1 => hS τ (fun k T hk hT => ?_))
  · rw [e1, e2]; simp
  · rw [List.length_append, List.length_append, fl_len _ wa]
    have : (h1R u).length = 1 := rfl
    omega
  · have h1' : TrR τ t (R ++ ((kd u, vv u, tsz u) :: (fl (p1 u) ++ fl (p1 (p2 u))))) := by
      simpa [h1R] using h1
    refine rename_sp hk h1' (fun τ2 f2 h2 => hT τ2 (f1.tr f2) ?_)
    rw [fl_nd, fl_nl, List.append_nil, tsz_nl, show 1 + tsz (p1 u) + tsz (p1 (p2 u)) + 0 = 1 + (fl (p1 u) ++ fl (p1 (p2 u))).length by rw [List.length_append, fl_len _ wa, fl_len _ wc]; omega]
    exact h2
theorem c_cutX (h : TrR σ t (R ++ fl u)) (hu : wf u) (a : ary (kd u) = 2) (h3 : kd (p1 u) = 3) (hS : ∀ τ, (∀ k (T : Sg → Prop), k ≤ 8 → (∀ τ2, Gm (fun i => t ≤ i ∧ i < t + 4) σ τ2 → TrR τ2 t (R ++ fl (nd k 0 (p1 (p1 u)) (p2 u) nl)) → T τ2) → wX5_rename t (nI R.length) (nI k) τ T) → S τ) : wX5_cut t (nI (R.length + 1)) 1 σ S := by
  obtain ⟨e1, wa, wb⟩ := two_p hu a
  obtain ⟨wc, e2, -, -⟩ := neg_p wa h3
  refine ct_sp (n := 1) h (A := R ++ h1R u) (B := h1R (p1 u)) (C := fl (p1 (p1 u)) ++ fl (p2 u)) ?_ ?_ rfl (fun τ f1 h1 => hS τ (fun k T hk hT => ?_))
  · rw [e1, e2]; simp
  · rw [List.length_append]; rfl
  · have h1' : TrR τ t (R ++ ((kd u, vv u, tsz u) :: (fl (p1 (p1 u)) ++ fl (p2 u)))) := by
      simpa [h1R] using h1
    refine rename_sp hk h1' (fun τ2 f2 h2 => hT τ2 (f1.tr f2) ?_)
    rw [fl_nd, fl_nl, List.append_nil, tsz_nl, show 1 + tsz (p1 (p1 u)) + tsz (p2 u) + 0 = 1 + (fl (p1 (p1 u)) ++ fl (p2 u)).length by rw [List.length_append, fl_len _ wb, fl_len _ wc]; omega]
    exact h2
theorem c_sink (h : TrR σ t (R ++ fl u)) (hu : wf u) (a : 1 ≤ ary (kd u)) (hf : f ≤ 2) (hQ : rcP t R (ruK f u) σ Q) : wX4_sink t (nI R.length) (nI f) σ Q := by
  obtain ⟨h0, h1⟩ := hQ
  have k8 := wf_kd hu
  have k8' := wf_kd ((wf_p hu).1 a)
  have l := h.2.2.1
  rw [rlen hu] at l
  unfold ruK at h0 h1
  unfold wX4_sink
  refine ⟨h.1, k0 h hu (lt_i (fun x ex => ?_))⟩
  rw [nI_1] at ex
  rw [ex]
  by_cases q3 : kd u = 3
  · rw [if_pos q3] at h0 h1
    rw [if_pos (show nI (kd u) = (3 : Int32) by rw [q3]; rfl)]
    refine k1 h hu a ?_
    by_cases z : kd (p1 u) = 3
    · rw [if_pos z] at h1
      rw [if_pos (show nI (kd (p1 u)) = (3 : Int32) by rw [z]; rfl), nI_1, Nat.add_assoc]
      obtain ⟨wa, e1, -, -⟩ := neg_p hu q3
      obtain ⟨wb, e2, -, -⟩ := neg_p wa z
      exact e_prt h (B := h1R u ++ h1R (p1 u)) (D := []) (by rw [e1, e2]; simp) wb rfl (fun τ f1 h2 => h1 _ rfl τ f1 h2)
    · rw [if_neg z] at h0
      rw [if_neg (show ¬ nI (kd (p1 u)) = (3 : Int32) from ni_k (c := 3) (by omega) (by omega) z)]
      unfold wX4_sink_37
      rw [if_neg (show ¬ nI (kd u) = (4 : Int32) by rw [q3]; decide), if_neg (show ¬ nI (kd u) = (5 : Int32) by rw [q3]; decide)]
      exact h0 rfl
  rw [if_neg q3] at h0 h1
  rw [if_neg (show ¬ nI (kd u) = (3 : Int32) from ni_k (c := 3) (by omega) (by omega) q3)]
  unfold wX4_sink_37
  by_cases q4 : kd u = 4
  · rw [if_pos q4] at h0 h1
    rw [if_pos (show nI (kd u) = (4 : Int32) by rw [q4]; rfl)]
    have a2 : ary (kd u) = 2 := by rw [q4]; decide
    have k8b := wf_kd ((wf_p hu).2.1 (by omega))
    unfold wX4_sink_49
    refine ⟨h.1, b1 h hu a (k2 h hu (by omega) ?_)⟩
    by_cases z : kd (p2 u) = 3
    · rw [if_pos z] at h1
      rw [if_pos (show nI (kd (p2 u)) = (3 : Int32) by rw [z]; rfl)]
      refine c_cutY h hu a2 z (fun τ rn => ?_)
      rw [if_pos (show nI (kd u) = (4 : Int32) by rw [q4]; rfl)]
      unfold wX4_sink_86 wX4_sink_91
      exact ⟨h.1, rn 5 _ (by omega) (fun τ2 f2 h2 => h1 _ rfl τ2 f2 h2)⟩
    · rw [if_neg z] at h0 h1
      rw [if_neg (show ¬ nI (kd (p2 u)) = (3 : Int32) from ni_k (c := 3) (by omega) (by omega) z), if_pos (show nI (kd u) = (4 : Int32) by rw [q4]; rfl)]
      by_cases f1 : f = 1
      · rw [if_pos (show nI f = (1 : Int32) by rw [f1]; rfl)]
        refine k1 h hu a ?_
        by_cases z2 : kd (p1 u) = 3
        · rw [if_pos ⟨f1, z2⟩] at h1
          rw [if_pos (show nI (kd (p1 u)) = (3 : Int32) by rw [z2]; rfl)]
          refine c_cutX h hu a2 z2 (fun τ rn => ?_)
          exact rn 5 _ (by omega) (fun τ2 f2 h2 => h1 _ rfl τ2 f2 h2)
        · rw [if_neg (fun w => z2 w.2)] at h0
          rw [if_neg (show ¬ nI (kd (p1 u)) = (3 : Int32) from ni_k (c := 3) (by omega) (by omega) z2)]
          exact h0 rfl
      · rw [if_neg (fun w => f1 w.1)] at h0
        rw [if_neg (show ¬ nI f = (1 : Int32) from ni_k (c := 1) (by omega) (by omega) f1)]
        exact h0 rfl
  rw [if_neg q4] at h0 h1
  rw [if_neg (show ¬ nI (kd u) = (4 : Int32) from ni_k (c := 4) (by omega) (by omega) q4)]
  by_cases q5 : kd u = 5
  · rw [if_pos (show nI (kd u) = (5 : Int32) by rw [q5]; rfl)]
    have a2 : ary (kd u) = 2 := by rw [q5]; decide
    have k8b := wf_kd ((wf_p hu).2.1 (by omega))
    unfold wX4_sink_49
    refine ⟨h.1, b1 h hu a (k2 h hu (by omega) ?_)⟩
    by_cases z : kd (p2 u) = 3
    · rw [if_pos ⟨q5, z⟩] at h1
      rw [if_pos (show nI (kd (p2 u)) = (3 : Int32) by rw [z]; rfl)]
      refine c_cutY h hu a2 z (fun τ rn => ?_)
      rw [if_neg (show ¬ nI (kd u) = (4 : Int32) from ni_k (c := 4) (by omega) (by omega) q4)]
      by_cases f2 : f = 2
      · rw [if_pos f2] at h1
        rw [if_pos (show nI f = (2 : Int32) by rw [f2]; rfl)]
        unfold wX4_sink_86 wX4_sink_91
        exact ⟨h.1, rn 5 _ (by omega) (fun τ2 f2 h2 => h1 _ rfl τ2 f2 h2)⟩
      · rw [if_neg f2] at h1
        rw [if_neg (show ¬ nI f = (2 : Int32) from ni_k (c := 2) (by omega) (by omega) f2)]
        unfold wX4_sink_91
        exact ⟨h.1, rn 4 _ (by omega) (fun τ2 f2 h2 => h1 _ rfl τ2 f2 h2)⟩
    · rw [if_neg (fun w => z w.2)] at h0
      rw [if_neg (show ¬ nI (kd (p2 u)) = (3 : Int32) from ni_k (c := 3) (by omega) (by omega) z), if_neg (show ¬ nI (kd u) = (4 : Int32) from ni_k (c := 4) (by omega) (by omega) q4)]
      exact h0 rfl
  · rw [if_neg (fun w => q5 w.1)] at h0
    rw [if_neg (show ¬ nI (kd u) = (5 : Int32) from ni_k (c := 5) (by omega) (by omega) q5)]
    exact h0 rfl
/-- fire(): a rule over the node at the row's end, w nodes being unread -/
theorem c_fire {s n w : Nat} (h : TrR σ t (R ++ fl u)) (hu : wf u) (a : 1 ≤ ary (kd u)) (hs : s ≤ 6) (hf : f ≤ 2) (hn : n = R.length + tsz u + w) (hn2 : n ≤ 200) (hQ : rcP t R (ru s f n u) σ Q) : wX4_fire t (nI R.length) (nI s) (nI f) (nI w) σ Q := by
  obtain ⟨h0, h1⟩ := hQ
  have up : rcP t R (ru s f n u) σ (fun r τ => (r = 0 ∨ r = 1) ∧ Q r τ) := ⟨fun e => ⟨Or.inl rfl, h0 e⟩, fun w e τ f1 h2 => ⟨Or.inr rfl, h1 w e τ f1 h2⟩⟩
  unfold ru at up
  unfold wX4_fire
  by_cases s0 : s = 0
  · subst s0
    rw [if_pos (by decide)]
    exact c_fold h hu a hf up
  rw [if_neg s0] at up
  rw [if_neg (show ¬ nI s = (0 : Int32) from ni_k (c := 0) (by omega) (by omega) s0)]
  by_cases s1 : s = 1
  · subst s1
    rw [if_pos (by decide)]
    exact c_zero h hu a hf up
  rw [if_neg s1] at up
  rw [if_neg (show ¬ nI s = (1 : Int32) from ni_k (c := 1) (by omega) (by omega) s1)]
  by_cases s2 : s = 2
  · subst s2
    rw [if_pos (by decide)]
    exact c_same h hu a hf up
  rw [if_neg s2] at up
  rw [if_neg (show ¬ nI s = (2 : Int32) from ni_k (c := 2) (by omega) (by omega) s2)]
  by_cases s3 : s = 3
  · subst s3
    rw [if_pos (by decide)]
    exact c_pick h hu a hf up
  rw [if_neg s3] at up
  rw [if_neg (show ¬ nI s = (3 : Int32) from ni_k (c := 3) (by omega) (by omega) s3)]
  by_cases s4 : s = 4
  · subst s4
    rw [if_pos (by decide)]
    exact c_melt h hu a hf up
  rw [if_neg s4] at up
  rw [if_neg (show ¬ nI s = (4 : Int32) from ni_k (c := 4) (by omega) (by omega) s4)]
  by_cases s5 : s = 5
  · subst s5
    rw [if_pos (by decide)]
    exact c_twice h hu a hf hn hn2 up
  rw [if_neg s5] at up
  rw [if_neg (show ¬ nI s = (5 : Int32) from ni_k (c := 5) (by omega) (by omega) s5)]
  have s6 : s = 6 := by omega
  subst s6
  rw [if_pos (by decide)]
  exact c_sink h hu a hf up
end
