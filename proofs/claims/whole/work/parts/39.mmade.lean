/-! the reference: the turns of a maker -/
/-- what the first n turns make of a tree -/
def md (so fa : Nat → Nat) : Nat → Tr → Tr
  | 0, t => t
  | n + 1, t => (tn (so n) (fa n) (md so fa n t) (tsz (md so fa n t))).1
theorem md_ok (so fa : Nat → Nat) {t : Tr} (ht : wf t) (h : tsz t ≤ 200) : ∀ n, wf (md so fa n t) ∧ tsz (md so fa n t) ≤ 200
  | 0 => ⟨ht, h⟩
  | n + 1 => by
    obtain ⟨a, b⟩ := md_ok so fa ht h n
    obtain ⟨c1, c2, c3⟩ := tn_ok (so n) (fa n) _ (Or.inl a) _ (Nat.le_refl _) b
    refine ⟨?_, ?_⟩
    · rcases c1 with ⟨-, q⟩ | ⟨q, -⟩
      · exact q
      · rw [q] at a; exact absurd a wf_nl
    · show tsz (tn (so n) (fa n) (md so fa n t) (tsz (md so fa n t))).1 ≤ 200
      omega
/-- how often turn n fires -/
def mf (so fa : Nat → Nat) (n : Nat) (t : Tr) : Nat := (tn (so n) (fa n) (md so fa n t) (tsz (md so fa n t))).2.1
/-- a maker's row of turns -/
def mkR (σ : Sg) (m cnt : Nat) (so fa : Nat → Nat) : Prop := m < 8 ∧ cnt ≤ 10 ∧ ∀ i, i < cnt → so i ≤ 6 ∧ fa i ≤ 2 ∧ σ.1 19 (10 * m + i) = nI (so i) ∧ σ.1 20 (10 * m + i) = nI (fa i)
theorem mkR.fm {S T : List Nat} {σ τ : Sg} {m cnt : Nat} {so fa : Nat → Nat} (h : mkR σ m cnt so fa) (hF : Fm S T σ τ) (h19 : 19 ∉ S) (h20 : 20 ∉ S) : mkR τ m cnt so fa := by
  obtain ⟨a, b, c⟩ := h
  refine ⟨a, b, fun i hi => ?_⟩
  rw [hF.1 19 (by omega) h19, hF.1 20 (by omega) h20]
  exact c i hi
theorem goOver_sp {d m cnt i N n : Nat} {so fa : Nat → Nat} {t : Tr} {σ : Sg} {Q : Int32 → Sg → Prop} (hd : 200 ≤ d) (ht : wf t) (hsz : tsz t ≤ 200) (hm : mkR σ m cnt so fa) (hi : i < cnt) (hN : N + 400 ≤ 9000) (hn : n < N) (h1 : σ.1 0 1 = nI N) (hr : rx σ t (nI n) N)
    (hQ : ∀ r τ, ∀ M, N ≤ M → M ≤ N + 400 → Fm [1, 2, 3, 4, 5, 6] [1, 10, 11] σ τ → Ex σ τ N → τ.1 0 1 = nI M → τ.1 0 10 = nI (tn (so i) (fa i) t (tsz t)).2.1 → rx τ (tn (so i) (fa i) t (tsz t)).1 r M → Q r τ) : wX8_goOver d (nI n) (nI m) (nI i) σ Q := by
  obtain ⟨m1, m2, m3⟩ := hm
  obtain ⟨s1, s2, s3, s4⟩ := m3 i hi
  unfold wX8_goOver
  have hin : vp_in (nI n) 9000 := vp_in_nI (by omega) (by omega)
  have hc : (nI n).toNatClampNeg = n := ncl (by omega)
  obtain ⟨o1, o2, o3, -⟩ := own ht (by omega) hn hr
  refine lt_i (fun a ea => ⟨hin, ?_⟩)
  have fa' : Fm [1, 2, 3, 4, 5, 6] [1, 10, 11] σ a := by rw [ea]; exact Fm.put 10 _ (by simp)
  have a6 : a.1 6 = σ.1 6 := by rw [ea, sI_1, up_n _ _ _ _ (by decide)]
  rw [hc, a6, o3]
  refine lt_i (fun b eb => ?_)
  have fb : Fm [1, 2, 3, 4, 5, 6] [1, 10, 11] a b := by rw [eb]; exact Fm.put 11 _ (by simp)
  have bE : Ex σ b 9000 := fun r r1 r2 j _ => by rw [eb, sI_1, up_n _ _ _ _ (by omega), ea, sI_1, up_n _ _ _ _ (by omega)]
  have e : 10 * nI m + nI i = nI (10 * m + i) := by rw [show (10 : Int32) = nI 10 from rfl, pk_mul, nI_add]
  rw [e]
  refine ⟨vp_in_nI (by omega) (by omega), ?_⟩
  have b19 : b.1 19 = σ.1 19 := by rw [fb.1 19 (by omega) (by simp), fa'.1 19 (by omega) (by simp)]
  have b20 : b.1 20 = σ.1 20 := by rw [fb.1 20 (by omega) (by simp), fa'.1 20 (by omega) (by simp)]
  rw [ncl (by omega), b19, b20, s3, s4]
  refine turned_sp (so i) (fa i) d s1 s2 hd t (Or.inl ht) ht d (by omega) b n N (tsz t) 0 _ (by omega) hn ?_ ?_ ?_ (Nat.le_refl _) hsz (rx_ex t ht _ N 9000 hr bE (by omega)) (fun r τ hp => ?_)
  · rw [eb, sI_1, up_s, ud_n _ _ _ _ (by decide), ea, sI_1, up_s, ud_n _ _ _ _ (by decide)]; exact h1
  · rw [eb, sI_1, up_s, ud_s]
  · rw [eb, sI_1, up_s, ud_n _ _ _ _ (by decide), ea, sI_1, up_s, ud_s]; rfl
  · obtain ⟨M, q1, q2, q3, q4, q5, q6, q7, q8⟩ := hp
    refine hQ r τ M q1 (by omega) ((fa'.tr fb).tr q3) (fun r r1 r2 j hj => (q4 r r1 r2 j hj).trans (bE r r1 r2 j (by omega))) q5 ?_ q8
    rw [q7, Nat.zero_add]
set_option maxRecDepth 20000 in
theorem made_loop {d m cnt K : Nat} {so fa : Nat → Nat} {t : Tr} {Q : Int32 → Sg → Prop} (hd : 200 ≤ d) (ht : wf t) (hsz : tsz t ≤ 200) (hK : K ≤ cnt) : ∀ (k i N n : Nat) (σ : Sg), i + k = K → mkR σ m cnt so fa → N + 400 * k ≤ 9000 → n < N → σ.1 0 1 = nI N → rx σ (md so fa i t) (nI n) N →
    (∀ r τ M, N ≤ M → M ≤ N + 400 * k → Fm [1, 2, 3, 4, 5, 6] [1, 10, 11] σ τ → Ex σ τ N → τ.1 0 1 = nI M → rx τ (md so fa K t) r M → Q r τ) → wX8_madeBy_6 d Q (k + 1) (nI m) (nI K) (nI n) (nI i) σ := by
  intro k
  induction k with
  | zero =>
    intro i N n σ hi hm hN hn h1 hr hQ
    have e : i = K := by omega
    subst e
    show wX8_madeBy_6_b d (wX8_madeBy_6 d Q 0) (nI m) (nI i) (nI n) (nI i) σ Q
    unfold wX8_madeBy_6_b
    rw [if_pos (Int32.le_refl _)]
    exact hQ _ _ N (by omega) (by omega) Fm.rf Ex.rf h1 hr
  | succ k ih =>
    intro i N n σ hi hm hN hn h1 hr hQ
    have hc := hm.2.1
    show wX8_madeBy_6_b d (wX8_madeBy_6 d Q (k + 1)) (nI m) (nI K) (nI n) (nI i) σ Q
    unfold wX8_madeBy_6_b
    rw [if_neg (nI_ge (by omega) (by omega))]
    obtain ⟨w1, w2⟩ := md_ok so fa ht hsz i
    refine goOver_sp hd w1 w2 hm (by omega) (by omega) hn h1 hr (fun r τ M q1 q2 q3 q4 q5 q6 q7 => ?_)
    refine lt_i (fun x ex => ?_)
    have ex : x = nI (i + 1) := by rw [ex]; exact nI_1 i
    subst ex
    obtain ⟨w3, w4⟩ := md_ok so fa ht hsz (i + 1)
    obtain ⟨j, j1, rfl, -⟩ := kid w3 q7
    refine ih (i + 1) M j τ (by omega) (hm.fm q3 (by simp) (by simp)) (by omega) (by omega) q5 q7 (fun r2 τ2 M2 p1 p2 p3 p4 p5 p6 => ?_)
    exact hQ r2 τ2 M2 (by omega) (by omega) (q3.tr p3) (q4.tr p4 (by omega)) p5 p6
theorem madeBy_sp {d m cnt K N n : Nat} {so fa : Nat → Nat} {t : Tr} {σ : Sg} {Q : Int32 → Sg → Prop} (hd : 200 ≤ d) (ht : wf t) (hsz : tsz t ≤ 200) (hm : mkR σ m cnt so fa) (hK : K ≤ cnt) (hN : N + 400 * K ≤ 9000) (hn : n < N) (h1 : σ.1 0 1 = nI N) (hr : rx σ t (nI n) N)
    (hQ : ∀ r τ M, N ≤ M → M ≤ N + 400 * K → Fm [1, 2, 3, 4, 5, 6] [1, 10, 11] σ τ → Ex σ τ N → τ.1 0 1 = nI M → rx τ (md so fa K t) r M → Q r τ) : wX8_madeBy d (nI n) (nI m) (nI K) σ Q := by
  unfold wX8_madeBy
  exact ⟨K + 1, made_loop hd ht hsz hK K 0 N n σ (by omega) hm hN hn h1 hr hQ⟩
