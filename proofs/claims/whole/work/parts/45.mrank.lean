/-! which one by number a tree is -/
def rk : Tr → Nat
  | .elem (.add (.index k) (.int v)) (.sub x (.sub y z)) =>
    if tsz x + tsz y + tsz z = 0 then (if k = 0 then v.toNatClampNeg else k + 2)
    else if k = 3 then rk x
    else if k = 8 then cnt (tsz x + tsz y + tsz z) + 4 * prs (tsz x + tsz y + tsz z) + sm (f3 (tsz x + tsz y + tsz z)) (tsz x - 1) + rk x * prs (tsz y + tsz z) + (sm (f2 (tsz y + tsz z)) (tsz y - 1) + rk y * cnt (tsz z) + rk z)
    else cnt (tsz x + tsz y + tsz z) + (k - 4) * prs (tsz x + tsz y + tsz z) + (sm (f2 (tsz x + tsz y)) (tsz x - 1) + rk x * cnt (tsz y) + rk y)
  | _ => 0
theorem rk_nd (k : Nat) (v : Int32) (x y z : Tr) : rk (nd k v x y z) = (if tsz x + tsz y + tsz z = 0 then (if k = 0 then v.toNatClampNeg else k + 2)
    else if k = 3 then rk x
    else if k = 8 then cnt (tsz x + tsz y + tsz z) + 4 * prs (tsz x + tsz y + tsz z) + sm (f3 (tsz x + tsz y + tsz z)) (tsz x - 1) + rk x * prs (tsz y + tsz z) + (sm (f2 (tsz y + tsz z)) (tsz y - 1) + rk y * cnt (tsz z) + rk z)
    else cnt (tsz x + tsz y + tsz z) + (k - 4) * prs (tsz x + tsz y + tsz z) + (sm (f2 (tsz x + tsz y)) (tsz x - 1) + rk x * cnt (tsz y) + rk y)) := by
  rw [nd, rk]
/-- all its numbers are 0, 1, 2 -/
def nb : Tr → Prop
  | .elem (.add (.index k) (.int v)) (.sub x (.sub y z)) => (k = 0 → ∃ i, i < 3 ∧ v = nI i) ∧ nb x ∧ nb y ∧ nb z
  | _ => True
theorem nb_nd (k : Nat) (v : Int32) (x y z : Tr) : nb (nd k v x y z) ↔ ((k = 0 → ∃ i, i < 3 ∧ v = nI i) ∧ nb x ∧ nb y ∧ nb z) := by simp only [nd, nb]
def rkI (t : Tr) (e : Nat) : Prop := ∀ (σ : Sg) (c : Int32) (N : Nat) (Q : Int64 → Sg → Prop), N ≤ 9000 → cnR σ → rx σ t c N → Q (lN (rk t)) σ → wX8_rank e c σ Q
theorem pr_loop {e : Nat} {a b : Tr} {c1 c2 : Int32} {N : Nat} {σ : Sg} {Q : Int64 → Sg → Prop} (ha : wf a) (hb : wf b) (ia : rkI a e) (ib : rkI b e) (hs : tsz a + tsz b ≤ 15) (hN : N ≤ 9000) (hc : cnR σ) (r1 : rx σ a c1 N) (r2 : rx σ b c2 N)
    (hQ : Q (lN (sm (f2 (tsz a + tsz b)) (tsz a - 1) + rk a * cnt (tsz b) + rk b)) σ) : ∀ (k s : Nat), s + k = tsz a → 1 ≤ s → wX8_pairRank_20 (wX8_rank e) Q (k + 1) c1 c2 (nI (tsz a + tsz b)) (lN (sm (f2 (tsz a + tsz b)) (s - 1))) (nI s) σ := by
  obtain ⟨i, i1, i2, -, -, i5, -⟩ := kid ha r1
  obtain ⟨l, l1, l2, -, -, l5, -⟩ := kid hb r2
  have pb := wf_pos hb
  intro k
  induction k with
  | zero =>
    intro s h1 h2
    have : s = tsz a := by omega
    subst this
    show wX8_pairRank_20_b (wX8_rank e) (wX8_pairRank_20 (wX8_rank e) Q 0) c1 c2 _ _ (nI (tsz a)) σ Q
    unfold wX8_pairRank_20_b
    refine ⟨by rw [i2]; exact vp_in_nI (by omega) (by omega), ?_⟩
    have e1 : σ.1 6 c1.toNatClampNeg = nI (tsz a) := by rw [i2, ncl (by omega)]; exact i5
    have e2 : σ.1 6 c2.toNatClampNeg = nI (tsz b) := by rw [l2, ncl (by omega)]; exact l5
    rw [e1, if_pos (Int32.le_refl _)]
    refine ia σ c1 N _ hN hc r1 ⟨by rw [l2]; exact vp_in_nI (by omega) (by omega), ?_⟩
    rw [e2, ncl (by omega)]
    refine ⟨vp_in_nI (by omega) (by omega), ?_⟩
    refine ib σ c2 N _ hN hc r2 ?_
    rw [hc (tsz b) (by omega), lN_mul, lN_add, lN_add]
    exact hQ
  | succ k ih =>
    intro s h1 h2
    show wX8_pairRank_20_b (wX8_rank e) (wX8_pairRank_20 (wX8_rank e) Q (k + 1)) c1 c2 _ _ (nI s) σ Q
    unfold wX8_pairRank_20_b
    refine ⟨by rw [i2]; exact vp_in_nI (by omega) (by omega), ?_⟩
    have e1 : σ.1 6 c1.toNatClampNeg = nI (tsz a) := by rw [i2, ncl (by omega)]; exact i5
    rw [e1, if_neg (nI_ge (by omega) (by omega)), pk_sub (by omega)]
    refine ⟨vp_in_nI (by omega) (by omega), vp_in_nI (by omega) (by omega), ?_⟩
    rw [ncl (by omega), ncl (by omega), hc s (by omega), hc _ (by omega), lN_mul, lN_add]
    refine lt_i (fun x ex => lt_i (fun y ey => ?_))
    have ey : y = nI (s + 1) := by rw [ey]; exact nI_1 s
    rw [ex, ey]
    have := ih (s + 1) (by omega) (by omega)
    rw [show s + 1 - 1 = (s - 1) + 1 by omega, sm, show s - 1 + 1 = s by omega] at this
    exact this
theorem pr_sp {e : Nat} {a b : Tr} {c1 c2 : Int32} {N : Nat} {σ : Sg} {Q : Int64 → Sg → Prop} (ha : wf a) (hb : wf b) (ia : rkI a e) (ib : rkI b e) (hs : tsz a + tsz b ≤ 15) (hN : N ≤ 9000) (hc : cnR σ) (r1 : rx σ a c1 N) (r2 : rx σ b c2 N)
    (hQ : Q (lN (sm (f2 (tsz a + tsz b)) (tsz a - 1) + rk a * cnt (tsz b) + rk b)) σ) : wX8_pairRank (wX8_rank e) c1 c2 σ Q := by
  obtain ⟨i, i1, i2, -, -, i5, -⟩ := kid ha r1
  obtain ⟨l, l1, l2, -, -, l5, -⟩ := kid hb r2
  have pa := wf_pos ha
  unfold wX8_pairRank
  refine ⟨by rw [i2]; exact vp_in_nI (by omega) (by omega), by rw [l2]; exact vp_in_nI (by omega) (by omega), ?_⟩
  have e1 : σ.1 6 c1.toNatClampNeg = nI (tsz a) := by rw [i2, ncl (by omega)]; exact i5
  have e2 : σ.1 6 c2.toNatClampNeg = nI (tsz b) := by rw [l2, ncl (by omega)]; exact l5
  rw [e1, e2, nI_add]
  refine lt_i (fun x ex => ⟨(tsz a - 1) + 1, ?_⟩)
  rw [ex]
  exact pr_loop ha hb ia ib hs hN hc r1 r2 hQ (tsz a - 1) 1 (by omega) (by omega)
theorem r136_loop {e n j : Nat} {x y z : Tr} {c0 : Nat} {σ : Sg} {Q : Int64 → Sg → Prop} (hx : wf x) (hy : wf y) (hz : wf z) (ix : rkI x e) (iy : rkI y e) (iz : rkI z e) (hn : n = tsz x + tsz y + tsz z) (hs : n ≤ 14) (hj : j < 9000) (hc : cnR σ) (r3 : rx σ x (σ.1 3 j) j) (r4 : rx σ y (σ.1 4 j) j) (r5 : rx σ z (σ.1 5 j) j)
    (hQ : Q (lN (c0 + sm (f3 n) (tsz x - 1) + rk x * prs (tsz y + tsz z) + (sm (f2 (tsz y + tsz z)) (tsz y - 1) + rk y * cnt (tsz z) + rk z))) σ) : ∀ (k s : Nat), s + k = tsz x → 1 ≤ s → wX8_rank_136 (wX8_rank e) Q (k + 1) (nI j) (nI (n + 1)) (lN (c0 + sm (f3 n) (s - 1))) (nI s) σ := by
  obtain ⟨i, i1, i2, -, -, i5, -⟩ := kid hx r3
  have py := wf_pos hy
  have pz := wf_pos hz
  have hin : vp_in (nI j) 9000 := vp_in_nI (by omega) (by omega)
  have hcj : (nI j).toNatClampNeg = j := ncl (by omega)
  intro k
  induction k with
  | zero =>
    intro s h1 h2
    have : s = tsz x := by omega
    subst this
    show wX8_rank_136_b (wX8_rank e) (wX8_rank_136 (wX8_rank e) Q 0) (nI j) (nI (n + 1)) _ (nI (tsz x)) σ Q
    unfold wX8_rank_136_b
    refine ⟨hin, ?_⟩
    have e1 : σ.1 6 (σ.1 3 j).toNatClampNeg = nI (tsz x) := by rw [i2, ncl (by omega)]; exact i5
    have ev : vp_in (σ.1 3 j) 9000 := by rw [i2]; exact vp_in_nI (by omega) (by omega)
    rw [hcj]
    refine ⟨ev, ?_⟩
    rw [e1, if_pos (Int32.le_refl _)]
    refine ix σ _ j _ (by omega) hc r3 ⟨ev, ?_⟩
    rw [e1, show nI (n + 1) - 1 = nI n from nI_pred n, pk_sub (by omega), show n - tsz x = tsz y + tsz z by omega]
    refine pairs_sp (by omega) (by omega) hc ?_
    refine pr_sp hy hz iy iz (by omega) (by omega) hc r4 r5 ?_
    rw [lN_mul, lN_add, lN_add]
    exact hQ
  | succ k ih =>
    intro s h1 h2
    show wX8_rank_136_b (wX8_rank e) (wX8_rank_136 (wX8_rank e) Q (k + 1)) (nI j) (nI (n + 1)) _ (nI s) σ Q
    unfold wX8_rank_136_b
    refine ⟨hin, ?_⟩
    have e1 : σ.1 6 (σ.1 3 j).toNatClampNeg = nI (tsz x) := by rw [i2, ncl (by omega)]; exact i5
    have ev : vp_in (σ.1 3 j) 9000 := by rw [i2]; exact vp_in_nI (by omega) (by omega)
    rw [hcj]
    refine ⟨ev, ?_⟩
    rw [e1, if_neg (nI_ge (by omega) (by omega)), show nI (n + 1) - 1 = nI n from nI_pred n, pk_sub (by omega)]
    refine ⟨vp_in_nI (by omega) (by omega), ?_⟩
    refine pairs_sp (by omega) (by omega) hc ?_
    rw [ncl (by omega), hc s (by omega), lN_mul, lN_add]
    refine lt_i (fun a ea => lt_i (fun b eb => ?_))
    have eb : b = nI (s + 1) := by rw [eb]; exact nI_1 s
    rw [ea, eb]
    have := ih (s + 1) (by omega) (by omega)
    rw [show s + 1 - 1 = (s - 1) + 1 by omega, sm, show s - 1 + 1 = s by omega, ← Nat.add_assoc] at this
    exact this
theorem rank_sp : ∀ t, wf t → nb t → tsz t ≤ 15 → ∀ e, tsz t ≤ e → rkI t e := by
  apply wf_ind
  · intro k v hk hv hb hs e he σ c N Q hN hc hr hQ
    rw [tsz_nd, tsz_nl] at he
    rw [rx_nd] at hr
    obtain ⟨j, j1, rfl, h3, h4, h5, -⟩ := hr
    cases e with
    | zero => omega
    | succ e =>
      show wX8_rank_b (wX8_rank e) (nI j) σ Q
      unfold wX8_rank_b
      refine ⟨vp_in_nI (by omega) (by omega), ?_⟩
      rw [ncl (by omega), h5, tsz_nl]
      dsimp only [lt]
      rw [if_pos (by decide), h3, h4]
      rw [rk_nd, tsz_nl, if_pos rfl] at hQ
      by_cases k0 : k = 0
      · rw [if_pos (by rw [k0]; decide)]
        rw [if_pos k0] at hQ
        rw [nb_nd] at hb
        obtain ⟨i, i1, rfl⟩ := hb.1 k0
        rw [ncl (by omega)] at hQ
        rw [nI_l (by omega)]
        exact hQ
      · rw [if_neg (show ¬ nI k = (0 : Int32) from ni_k (c := 0) (by omega) (by omega) k0), show (2 : Int32) = nI 2 from rfl, nI_add, nI_l (by omega)]
        rw [if_neg k0] at hQ
        exact hQ
  · intro x hx ix hb hs e he σ c N Q hN hc hr hQ
    rw [nb_nd] at hb
    rw [tsz_nd, tsz_nl] at he hs
    have px := wf_pos hx
    rw [rx_nd] at hr
    obtain ⟨j, j1, rfl, h3, h4, h5, r3, -⟩ := hr
    cases e with
    | zero => omega
    | succ e =>
      show wX8_rank_b (wX8_rank e) (nI j) σ Q
      unfold wX8_rank_b
      refine ⟨vp_in_nI (by omega) (by omega), ?_⟩
      rw [ncl (by omega), h5, tsz_nl]
      dsimp only [lt]
      rw [if_neg (show ¬ nI (1 + tsz x + 0 + 0) = (1 : Int32) from ni_k (c := 1) (by omega) (by omega) (by omega)), h3, if_pos (by decide)]
      rw [rk_nd, tsz_nl, if_neg (by omega), if_pos rfl] at hQ
      exact ix hb.2.1 (by omega) e (by omega) σ _ j _ (by omega) hc r3 hQ
  · intro k x y k1 k2 hx hy ix iy hb hs e he σ c N Q hN hc hr hQ
    rw [nb_nd] at hb
    rw [tsz_nd, tsz_nl] at he hs
    have px := wf_pos hx
    rw [rx_nd] at hr
    obtain ⟨j, j1, rfl, h3, h4, h5, r3, r4, -⟩ := hr
    cases e with
    | zero => omega
    | succ e =>
      show wX8_rank_b (wX8_rank e) (nI j) σ Q
      unfold wX8_rank_b
      refine ⟨vp_in_nI (by omega) (by omega), ?_⟩
      rw [ncl (by omega), h5, tsz_nl, show 1 + tsz x + tsz y + 0 = (tsz x + tsz y) + 1 by omega]
      dsimp only [lt]
      rw [if_neg (show ¬ nI (tsz x + tsz y + 1) = (1 : Int32) from ni_k (c := 1) (by omega) (by omega) (by omega)), h3, if_neg (show ¬ nI k = (3 : Int32) from ni_k (c := 3) (by omega) (by omega) (by omega)), show nI (tsz x + tsz y + 1) - 1 = nI (tsz x + tsz y) from nI_pred _]
      refine ⟨vp_in_nI (by omega) (by omega), ?_⟩
      rw [if_neg (show ¬ nI k = (8 : Int32) from ni_k (c := 8) (by omega) (by omega) (by omega)), ncl (by omega), hc _ (by omega)]
      refine pairs_sp (by omega) (by omega) hc ?_
      refine pr_sp hx hy (ix hb.2.1 (by omega) e (by omega)) (iy hb.2.2.1 (by omega) e (by omega)) (by omega) (by omega) hc r3 r4 ?_
      rw [show nI k - 4 = nI (k - 4) from pk_sub (b := 4) (by omega), nI_l (by omega), lN_mul, lN_add, lN_add]
      rw [rk_nd, tsz_nl, if_neg (by omega), if_neg (by omega), if_neg (by omega)] at hQ
      exact hQ
  · intro x y z hx hy hz ix iy iz hb hs e he σ c N Q hN hc hr hQ
    rw [nb_nd] at hb
    rw [tsz_nd] at he hs
    have px := wf_pos hx
    rw [rx_nd] at hr
    obtain ⟨j, j1, rfl, h3, h4, h5, r3, r4, r5⟩ := hr
    cases e with
    | zero => omega
    | succ e =>
      show wX8_rank_b (wX8_rank e) (nI j) σ Q
      unfold wX8_rank_b
      refine ⟨vp_in_nI (by omega) (by omega), ?_⟩
      rw [ncl (by omega), h5, show 1 + tsz x + tsz y + tsz z = (tsz x + tsz y + tsz z) + 1 by omega]
      dsimp only [lt]
      rw [if_neg (show ¬ nI (tsz x + tsz y + tsz z + 1) = (1 : Int32) from ni_k (c := 1) (by omega) (by omega) (by omega)), h3, if_neg (by decide), show nI (tsz x + tsz y + tsz z + 1) - 1 = nI (tsz x + tsz y + tsz z) from nI_pred _]
      refine ⟨vp_in_nI (by omega) (by omega), ?_⟩
      rw [if_pos (by decide), ncl (by omega), hc _ (by omega)]
      refine pairs_sp (by omega) (by omega) hc ?_
      rw [show (4 : Int64) = lN 4 from rfl, lN_mul, lN_add]
      rw [rk_nd, if_neg (by omega), if_neg (by omega), if_pos rfl] at hQ
      refine ⟨(tsz x - 1) + 1, ?_⟩
      have := r136_loop (c0 := cnt (tsz x + tsz y + tsz z) + 4 * prs (tsz x + tsz y + tsz z)) hx hy hz (ix hb.2.1 (by omega) e (by omega)) (iy hb.2.2.1 (by omega) e (by omega)) (iz hb.2.2.2 (by omega) e (by omega)) rfl (by omega) (by omega) hc r3 r4 r5 hQ (tsz x - 1) 1 (by omega) (by omega)
      rw [Nat.sub_self, sm, Nat.add_zero] at this
      exact this
