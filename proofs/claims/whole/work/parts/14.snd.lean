set_option maxHeartbeats 1000000 in
set_option maxRecDepth 100000 in
theorem sX0_isNeverFree_49 {G : Gx} {b k : Nat} {K : Kx} {l : Launch} (hl : K.2.1 = l) (hC : Cx YC G b K cX0_isNeverFree RX0 6 (some .boolean) k)  (hk : 2 ≤ k) (K32 : Nat → Int32 → Int32 → Int32 → Int32 → Sg → Prop) (Q : Int32 → Sg → Prop) (h32 : ∀ (t : Nat) (x1 : Int32) (x2 : Int32) (x3 : Int32) (x4 : Int32) (σ : Sg), K32 t x1 x2 x3 x4 σ → V YC G K (Zi YC G K Q) 6 σ 32 [(0, .ref (G.1 t)), (1, .int x1), (2, .int x2), (3, .int x3), (4, .int x4)] []) : ∀ (n : Nat) (t : Nat) (x1 : Int32) (x2 : Int32) (x3 : Int32) (x4 : Int32) (x5 : Int32) (σ : Sg), wX0_isNeverFree_49 K32 Q n t x1 x2 x3 x4 x5 σ → V YC G K (Zi YC G K Q) 6 σ 49 [(0, .ref (G.1 t)), (1, .int x1), (2, .int x2), (3, .int x3), (4, .int x4), (5, .int x5)] [] := by
  subst hl
  intro n
  induction n with
  | zero =>
    intro t x1 x2 x3 x4 x5 σ h
    exact h.elim
  | succ n ih =>
    intro t x1 x2 x3 x4 x5 σ h
    have h : wX0_isNeverFree_49_b K32 (wX0_isNeverFree_49 K32 Q n) t x1 x2 x3 x4 x5 σ Q := h
    unfold wX0_isNeverFree_49_b at h
    refine r_iload hC 5 dX0_isNeverFree_49 (rfl : 49 + 2 = 51) rfl ?_
    refine r_iload_n hC 3 dX0_isNeverFree_51 (rfl : 51 + 1 = 52) rfl rfl ?_
    refine r_icmp_gt hC dX0_isNeverFree_52 (rfl : 52 + 3 = 55) (tgt := 74) (by decide) (fun q => ?_) (fun q => ?_)
    · replace h := if_t h q
      obtain ⟨x4_1, e_2, h⟩ := lt_nm h
      refine r_iinc hC (j := 4) dX0_isNeverFree_74 (rfl : 74 + 3 = 77) rfl (zz := 1) (by decide) e_2 (by decide) (lv2 := [(4, .int x4_1), (0, .ref (G.1 t)), (1, .int x1), (2, .int x2), (3, .int x3), (5, .int x5)]) rfl ?_
      refine r_goto hC dX0_isNeverFree_77 (tgt := 32) (by decide) ?_
      exact (h32 t x1 x2 x3 x4_1 σ h).sub [1, 2, 3, 4, 0] rfl
    · replace h := if_f h q
      refine r_aload_n hC 0 dX0_isNeverFree_55 (rfl : 55 + 1 = 56) rfl rfl ?_
      refine r_iload hC 4 dX0_isNeverFree_56 (rfl : 56 + 2 = 58) rfl ?_
      refine r_iload hC 5 dX0_isNeverFree_58 (rfl : 58 + 2 = 60) rfl ?_
      obtain ⟨ty_3, h⟩ := h
      refine r_callVi hC cs_X0_87 ty_3 (by omega) (mX0_run hC.2.2.2.2.2.2.2.2.1 (k := k - 1) (by omega) t x4 x5 σ _ h) rfl rfl (Nat.le_of_ble_eq_true rfl) dX0_isNeverFree_60 (rfl : 60 + 3 = 63) (fun r_5 σ_4 h => ?_)
      refine r_if_ne hC dX0_isNeverFree_63 (rfl : 63 + 3 = 66) (tgt := 68) (by decide) (fun q => ?_) (fun q => ?_)
      · replace h := if_f h q
        obtain ⟨x5_6, e_7, h⟩ := lt_nm h
        refine r_iinc hC (j := 5) dX0_isNeverFree_68 (rfl : 68 + 3 = 71) rfl (zz := 1) (by decide) e_7 (by decide) (lv2 := [(5, .int x5_6), (0, .ref (G.1 t)), (1, .int x1), (2, .int x2), (3, .int x3), (4, .int x4)]) rfl ?_
        refine r_goto hC dX0_isNeverFree_71 (tgt := 49) (by decide) ?_
        exact (ih t x1 x2 x3 x4 x5_6 σ_4 h).sub [1, 2, 3, 4, 5, 0] rfl
      · replace h := if_t h q
        refine r_iconst hC dX0_isNeverFree_66 (rfl : 66 + 1 = 67) (v := 0) (by decide) ?_
        exact r_zret hC rfl (by decide) h dX0_isNeverFree_67
set_option maxHeartbeats 1000000 in
set_option maxRecDepth 100000 in
theorem sX0_isNeverFree_32 {G : Gx} {b k : Nat} {K : Kx} {l : Launch} (hl : K.2.1 = l) (hC : Cx YC G b K cX0_isNeverFree RX0 6 (some .boolean) k)  (hk : 2 ≤ k)  (Q : Int32 → Sg → Prop)  : ∀ (n : Nat) (t : Nat) (x1 : Int32) (x2 : Int32) (x3 : Int32) (x4 : Int32) (σ : Sg), wX0_isNeverFree_32  Q n t x1 x2 x3 x4 σ → V YC G K (Zi YC G K Q) 6 σ 32 [(0, .ref (G.1 t)), (1, .int x1), (2, .int x2), (3, .int x3), (4, .int x4)] [] := by
  subst hl
  intro n
  induction n with
  | zero =>
    intro t x1 x2 x3 x4 σ h
    exact h.elim
  | succ n ih =>
    intro t x1 x2 x3 x4 σ h
    have h : wX0_isNeverFree_32_b  (wX0_isNeverFree_32  Q n) t x1 x2 x3 x4 σ Q := h
    unfold wX0_isNeverFree_32_b at h
    refine r_aload_n hC 0 dX0_isNeverFree_32 (rfl : 32 + 1 = 33) rfl rfl ?_
    obtain ⟨ty_8, h⟩ := h
    refine r_geti hC t 0 5 fw_X0_29 ty_8 dX0_isNeverFree_33 (rfl : 33 + 3 = 36) ?_
    refine r_if_eq hC dX0_isNeverFree_36 (rfl : 36 + 3 = 39) (tgt := 80) (by decide) (fun q => ?_) (fun q => ?_)
    · replace h := if_t h q
      refine r_iconst hC dX0_isNeverFree_80 (rfl : 80 + 1 = 81) (v := 1) (by decide) ?_
      exact r_zret hC rfl (by decide) h dX0_isNeverFree_81
    · replace h := if_f h q
      refine r_iload hC 4 dX0_isNeverFree_39 (rfl : 39 + 2 = 41) rfl ?_
      refine r_iload_n hC 2 dX0_isNeverFree_41 (rfl : 41 + 1 = 42) rfl rfl ?_
      refine r_icmp_gt hC dX0_isNeverFree_42 (rfl : 42 + 3 = 45) (tgt := 80) (by decide) (fun q => ?_) (fun q => ?_)
      · replace h := if_t h q
        refine r_iconst hC dX0_isNeverFree_80 (rfl : 80 + 1 = 81) (v := 1) (by decide) ?_
        exact r_zret hC rfl (by decide) h dX0_isNeverFree_81
      · replace h := if_f h q
        refine r_iload_n hC 1 dX0_isNeverFree_45 (rfl : 45 + 1 = 46) rfl rfl ?_
        refine r_ineg hC dX0_isNeverFree_46 (rfl : 46 + 1 = 47) ?_
        obtain ⟨x5_9, e_10, h⟩ := lt_nm h
        refine r_istore hC dX0_isNeverFree_47 (rfl : 47 + 2 = 49) (by decide) e_10 (lv2 := [(5, .int x5_9), (0, .ref (G.1 t)), (1, .int x1), (2, .int x2), (3, .int x3), (4, .int x4)]) rfl ?_
        obtain ⟨nn, h⟩ := h
        exact (sX0_isNeverFree_49 rfl hC hk (wX0_isNeverFree_32  Q n) Q ih nn t x1 x2 x3 x4 x5_9 σ h).sub [1, 2, 3, 4, 5, 0] rfl
set_option maxHeartbeats 1000000 in
set_option maxRecDepth 100000 in
theorem sX0_isNeverFree_27 {G : Gx} {b k : Nat} {K : Kx} {l : Launch} (hl : K.2.1 = l) (hC : Cx YC G b K cX0_isNeverFree RX0 6 (some .boolean) k)  (hk : 2 ≤ k)  (Q : Int32 → Sg → Prop)  (t : Nat) (x1 : Int32) (x2 : Int32) (s0 : Int32) (σ : Sg) (h : wX0_isNeverFree_27  t x1 x2 s0 σ Q) : V YC G K (Zi YC G K Q) 6 σ 27 [(0, .ref (G.1 t)), (1, .int x1), (2, .int x2)] [.int s0] := by
  subst hl
  unfold wX0_isNeverFree_27 at h
  refine r_istore_n hC dX0_isNeverFree_27 (rfl : 27 + 1 = 28) rfl (by decide) rfl (lv2 := [(3, .int s0), (0, .ref (G.1 t)), (1, .int x1), (2, .int x2)]) rfl ?_
  refine r_iload_n hC 2 dX0_isNeverFree_28 (rfl : 28 + 1 = 29) rfl rfl ?_
  refine r_ineg hC dX0_isNeverFree_29 (rfl : 29 + 1 = 30) ?_
  obtain ⟨x4_11, e_12, h⟩ := lt_nm h
  refine r_istore hC dX0_isNeverFree_30 (rfl : 30 + 2 = 32) (by decide) e_12 (lv2 := [(4, .int x4_11), (3, .int s0), (0, .ref (G.1 t)), (1, .int x1), (2, .int x2)]) rfl ?_
  obtain ⟨nn, h⟩ := h
  exact (sX0_isNeverFree_32 rfl hC hk  Q  nn t x1 x2 s0 x4_11 σ h).sub [2, 3, 4, 1, 0] rfl
set_option maxHeartbeats 1000000 in
set_option maxRecDepth 100000 in
theorem sX0_isNeverFree_13 {G : Gx} {b k : Nat} {K : Kx} {l : Launch} (hl : K.2.1 = l) (hC : Cx YC G b K cX0_isNeverFree RX0 6 (some .boolean) k)  (hk : 2 ≤ k)  (Q : Int32 → Sg → Prop)  (t : Nat) (x1 : Int32) (s0 : Int32) (σ : Sg) (h : wX0_isNeverFree_13  t x1 s0 σ Q) : V YC G K (Zi YC G K Q) 6 σ 13 [(0, .ref (G.1 t)), (1, .int x1)] [.int s0] := by
  subst hl
  unfold wX0_isNeverFree_13 at h
  refine r_istore_n hC dX0_isNeverFree_13 (rfl : 13 + 1 = 14) rfl (by decide) rfl (lv2 := [(2, .int s0), (0, .ref (G.1 t)), (1, .int x1)]) rfl ?_
  refine r_aload_n hC 1 dX0_isNeverFree_14 (rfl : 14 + 1 = 15) rfl rfl ?_
  obtain ⟨ty_13, h⟩ := h
  refine r_geti hC t 0 4 fw_X0_26 ty_13 dX0_isNeverFree_15 (rfl : 15 + 3 = 18) ?_
  refine r_if_eq hC dX0_isNeverFree_18 (rfl : 18 + 3 = 21) (tgt := 25) (by decide) (fun q => ?_) (fun q => ?_)
  · replace h := if_t h q
    refine r_iload_n hC 2 dX0_isNeverFree_25 (rfl : 25 + 1 = 26) rfl rfl ?_
    refine r_ineg hC dX0_isNeverFree_26 (rfl : 26 + 1 = 27) ?_
    exact (sX0_isNeverFree_27 rfl hC hk  Q  t x1 s0 (-x1) σ h).sub [1, 2, 0] rfl
  · replace h := if_f h q
    refine r_iload_n hC 2 dX0_isNeverFree_21 (rfl : 21 + 1 = 22) rfl rfl ?_
    refine r_goto hC dX0_isNeverFree_22 (tgt := 27) (by decide) ?_
    exact (sX0_isNeverFree_27 rfl hC hk  Q  t x1 s0 x1 σ h).sub [1, 2, 0] rfl
set_option maxHeartbeats 1000000 in
set_option maxRecDepth 100000 in
theorem mX0_isNeverFree {G : Gx} {b k : Nat} {l : Launch} (hS : Sok YC G)  (hk : 2 ≤ k) (t : Nat) (x1 : Int32) (σ : Sg) (Q : Int32 → Sg → Prop) (h : wX0_isNeverFree  t x1 σ Q) : Mi YC G b l yX0_isNeverFree cX0_isNeverFree 6 .boolean k [.ref (G.1 t), .int x1] σ Q := by
  refine enter hS (by decide +kernel) (Nat.le_of_ble_eq_true rfl) (lv := [(0, .ref (G.1 t)), (1, .int x1)]) rfl (fun K hl hC => ?_)
  subst hl
  unfold wX0_isNeverFree at h
  show V YC G K (Zi YC G K Q) 6 σ 0 [(0, .ref (G.1 t)), (1, .int x1)] []
  refine r_aload_n hC 0 dX0_isNeverFree_0 (rfl : 0 + 1 = 1) rfl rfl ?_
  obtain ⟨ty_14, h⟩ := h
  refine r_geti hC t 0 3 fw_X0_22 ty_14 dX0_isNeverFree_1 (rfl : 1 + 3 = 4) ?_
  refine r_if_eq hC dX0_isNeverFree_4 (rfl : 4 + 3 = 7) (tgt := 11) (by decide) (fun q => ?_) (fun q => ?_)
  · replace h := if_t h q
    refine r_iload_n hC 1 dX0_isNeverFree_11 (rfl : 11 + 1 = 12) rfl rfl ?_
    refine r_ineg hC dX0_isNeverFree_12 (rfl : 12 + 1 = 13) ?_
    exact (sX0_isNeverFree_13 rfl hC hk  Q  t x1 (-x1) σ h).sub [0, 1] rfl
  · replace h := if_f h q
    refine r_iload_n hC 1 dX0_isNeverFree_7 (rfl : 7 + 1 = 8) rfl rfl ?_
    refine r_goto hC dX0_isNeverFree_8 (tgt := 13) (by decide) ?_
    exact (sX0_isNeverFree_13 rfl hC hk  Q  t x1 x1 σ h).sub [0, 1] rfl
set_option maxHeartbeats 1000000 in
set_option maxRecDepth 100000 in
theorem mX1_howMany {G : Gx} {b k : Nat} {l : Launch} (hS : Sok YC G)  (hk : 1 ≤ k) (x1 : Int32) (σ : Sg) (Q : Int64 → Sg → Prop) (h : wX1_howMany  x1 σ Q) : Ml YC G b l yX1_howMany cX1_howMany 2 k [.ref (G.1 1), .int x1] σ Q := by
  refine enter hS (by decide +kernel) (Nat.le_of_ble_eq_true rfl) (lv := [(0, .ref (G.1 1)), (1, .int x1)]) rfl (fun K hl hC => ?_)
  subst hl
  unfold wX1_howMany at h
  show V YC G K (Zl YC G K Q) 2 σ 0 [(0, .ref (G.1 1)), (1, .int x1)] []
  refine r_iload_n hC 1 dX1_howMany_0 (rfl : 0 + 1 = 1) rfl rfl ?_
  refine r_iconst hC dX1_howMany_1 (rfl : 1 + 1 = 2) (v := 1) (by decide) ?_
  refine r_bipush hC dX1_howMany_2 (rfl : 2 + 2 = 4) (v := 15) (by decide) ?_
  refine r_callSi hC cs_X1_39 (by omega) (mX7_within hC.2.2.2.2.2.2.2.2.1 (k := k - 1) (by omega) x1 1 15 σ _ h) rfl rfl (Nat.le_of_ble_eq_true rfl) dX1_howMany_4 (rfl : 4 + 3 = 7) (fun r_2 σ_1 h => ?_)
  refine r_if_eq hC dX1_howMany_7 (rfl : 7 + 3 = 10) (tgt := 19) (by decide) (fun q => ?_) (fun q => ?_)
  · replace h := if_t h q
    refine r_lconst hC dX1_howMany_19 (rfl : 19 + 1 = 20) (v := 0) (by decide) ?_
    exact r_lret hC rfl h dX1_howMany_20
  · replace h := if_f h q
    refine r_aload_n hC 0 dX1_howMany_10 (rfl : 10 + 1 = 11) rfl rfl ?_
    refine r_getr hC 1 1 0 2 (o := 1) fw_X1_9 rfl rfl dX1_howMany_11 (rfl : 11 + 3 = 14) ?_
    refine r_iload_n hC 1 dX1_howMany_14 (rfl : 14 + 1 = 15) rfl rfl ?_
    obtain ⟨q_3, h⟩ := h
    refine r_lald hC 2 rfl q_3 dX1_howMany_15 (rfl : 15 + 1 = 16) ?_
    refine r_goto hC dX1_howMany_16 (tgt := 20) (by decide) ?_
    exact r_lret hC rfl h dX1_howMany_20
set_option maxHeartbeats 1000000 in
set_option maxRecDepth 100000 in
theorem sX1_unfoldLeaf_25 {G : Gx} {b k : Nat} {K : Kx} {l : Launch} (hl : K.2.1 = l) (hC : Cx YC G b K cX1_unfoldLeaf RX1 3 none k)  (hk : 1 ≤ k)  (Q : Sg → Prop)  (s0 : Nat) (s1 : Int32) (σ : Sg) (h : wX1_unfoldLeaf_25  s0 s1 σ Q) : V YC G K (Zv YC G K Q) 3 σ 25 [] [.int s1, .ref (G.1 s0)] := by
  subst hl
  unfold wX1_unfoldLeaf_25 at h
  refine r_iconst hC dX1_unfoldLeaf_25 (rfl : 25 + 1 = 26) (v := 0) (by decide) ?_
  obtain ⟨ty_1, h⟩ := h
  refine r_callVv hC cs_X1_67 ty_1 (by omega) (mX5_append hC.2.2.2.2.2.2.2.2.1 (k := k - 1) (by omega) s0 s1 0 σ _ h) rfl rfl (Nat.le_of_ble_eq_true rfl) dX1_unfoldLeaf_26 (rfl : 26 + 3 = 29) (fun  σ_2 h => ?_)
  exact r_vret hC rfl h dX1_unfoldLeaf_29
set_option maxHeartbeats 1000000 in
set_option maxRecDepth 100000 in
theorem mX1_unfoldLeaf {G : Gx} {b k : Nat} {l : Launch} (hS : Sok YC G)  (hk : 1 ≤ k) (q1 : Nat) (x2 : Int32) (σ : Sg) (Q : Sg → Prop) (h : wX1_unfoldLeaf  q1 x2 σ Q) : Mv YC G b l yX1_unfoldLeaf cX1_unfoldLeaf 3 k [.ref (G.1 1), .ref (G.1 q1), .int x2] σ Q := by
  refine enter hS (by decide +kernel) (Nat.le_of_ble_eq_true rfl) (lv := [(0, .ref (G.1 1)), (1, .ref (G.1 q1)), (2, .int x2)]) rfl (fun K hl hC => ?_)
  subst hl
  unfold wX1_unfoldLeaf at h
  show V YC G K (Zv YC G K Q) 3 σ 0 [(0, .ref (G.1 1)), (1, .ref (G.1 q1)), (2, .int x2)] []
  refine r_iload_n hC 2 dX1_unfoldLeaf_0 (rfl : 0 + 1 = 1) rfl rfl ?_
  refine r_iconst hC dX1_unfoldLeaf_1 (rfl : 1 + 1 = 2) (v := 3) (by decide) ?_
  refine r_icmp_ge hC dX1_unfoldLeaf_2 (rfl : 2 + 3 = 5) (tgt := 14) (by decide) (fun q => ?_) (fun q => ?_)
  · replace h := if_t h q
    refine r_aload_n hC 1 dX1_unfoldLeaf_14 (rfl : 14 + 1 = 15) rfl rfl ?_
    refine r_iload_n hC 2 dX1_unfoldLeaf_15 (rfl : 15 + 1 = 16) rfl rfl ?_
    refine r_iconst hC dX1_unfoldLeaf_16 (rfl : 16 + 1 = 17) (v := 3) (by decide) ?_
    refine r_icmp_ne hC dX1_unfoldLeaf_17 (rfl : 17 + 3 = 20) (tgt := 24) (by decide) (fun q => ?_) (fun q => ?_)
    · replace h := if_f h q
      refine r_iconst hC dX1_unfoldLeaf_24 (rfl : 24 + 1 = 25) (v := 2) (by decide) ?_
      exact (sX1_unfoldLeaf_25 rfl hC hk  Q  q1 2 σ h).sub [] rfl
    · replace h := if_t h q
      refine r_iconst hC dX1_unfoldLeaf_20 (rfl : 20 + 1 = 21) (v := 1) (by decide) ?_
      refine r_goto hC dX1_unfoldLeaf_21 (tgt := 25) (by decide) ?_
      exact (sX1_unfoldLeaf_25 rfl hC hk  Q  q1 1 σ h).sub [] rfl
  · replace h := if_f h q
    refine r_aload_n hC 1 dX1_unfoldLeaf_5 (rfl : 5 + 1 = 6) rfl rfl ?_
    refine r_iconst hC dX1_unfoldLeaf_6 (rfl : 6 + 1 = 7) (v := 0) (by decide) ?_
    refine r_iload_n hC 2 dX1_unfoldLeaf_7 (rfl : 7 + 1 = 8) rfl rfl ?_
    obtain ⟨ty_3, h⟩ := h
    refine r_callVv hC cs_X1_67 ty_3 (by omega) (mX5_append hC.2.2.2.2.2.2.2.2.1 (k := k - 1) (by omega) q1 0 x2 σ _ h) rfl rfl (Nat.le_of_ble_eq_true rfl) dX1_unfoldLeaf_8 (rfl : 8 + 3 = 11) (fun  σ_4 h => ?_)
    refine r_goto hC dX1_unfoldLeaf_11 (tgt := 29) (by decide) ?_
    exact r_vret hC rfl h dX1_unfoldLeaf_29
set_option maxHeartbeats 1000000 in
set_option maxRecDepth 100000 in
theorem sX1_deferTwo_73 {G : Gx} {b k : Nat} {K : Kx} {l : Launch} (hl : K.2.1 = l) (hC : Cx YC G b K cX1_deferTwo RX1 11 none k)  (hk : 2 ≤ k) (K6 : Int32 → Int64 → Int32 → Sg → Prop) (Q : Sg → Prop) (h6 : ∀ (x1 : Int32) (x4 : Int64) (x6 : Int32) (σ : Sg), K6 x1 x4 x6 σ → V YC G K (Zv YC G K Q) 11 σ 6 [(0, .ref (G.1 1)), (1, .int x1), (4, .long x4), (6, .int x6)] []) (x1 : Int32) (x4 : Int64) (x6 : Int32) (x9 : Int64) (σ : Sg) (h : wX1_deferTwo_73 K6 x1 x4 x6 x9 σ Q) : V YC G K (Zv YC G K Q) 11 σ 73 [(0, .ref (G.1 1)), (1, .int x1), (4, .long x4), (6, .int x6), (9, .long x9)] [] := by
  subst hl
  unfold wX1_deferTwo_73 at h
  refine r_lload hC 2 dX1_deferTwo_73 (rfl : 73 + 2 = 75) rfl ?_
  refine r_lload hC 4 dX1_deferTwo_75 (rfl : 75 + 2 = 77) rfl ?_
  refine r_lsub hC dX1_deferTwo_77 (rfl : 77 + 1 = 78) ?_
  obtain ⟨x4_1, e_2, h⟩ := lt_nm h
  refine r_lstore hC dX1_deferTwo_78 (rfl : 78 + 2 = 80) (by decide) e_2 (lv2 := [(4, .long x4_1), (0, .ref (G.1 1)), (1, .int x1), (6, .int x6), (9, .long x9)]) rfl ?_
  obtain ⟨x6_3, e_4, h⟩ := lt_nm h
  refine r_iinc hC (j := 3) dX1_deferTwo_80 (rfl : 80 + 3 = 83) rfl (zz := 1) (by decide) e_4 (by decide) (lv2 := [(6, .int x6_3), (4, .long x4_1), (0, .ref (G.1 1)), (1, .int x1), (9, .long x9)]) rfl ?_
  refine r_goto hC dX1_deferTwo_83 (tgt := 6) (by decide) ?_
  exact (h6 x1 x4_1 x6_3 σ h).sub [2, 3, 1, 0] rfl
set_option maxHeartbeats 1000000 in
set_option maxRecDepth 100000 in
theorem sX1_deferTwo_6 {G : Gx} {b k : Nat} {K : Kx} {l : Launch} (hl : K.2.1 = l) (hC : Cx YC G b K cX1_deferTwo RX1 11 none k)  (hk : 2 ≤ k)  (Q : Sg → Prop)  : ∀ (n : Nat) (x1 : Int32) (x4 : Int64) (x6 : Int32) (σ : Sg), wX1_deferTwo_6  Q n x1 x4 x6 σ → V YC G K (Zv YC G K Q) 11 σ 6 [(0, .ref (G.1 1)), (1, .int x1), (4, .long x4), (6, .int x6)] [] := by
  subst hl
  intro n
  induction n with
  | zero =>
    intro x1 x4 x6 σ h
    exact h.elim
  | succ n ih =>
    intro x1 x4 x6 σ h
    have h : wX1_deferTwo_6_b  (wX1_deferTwo_6  Q n) x1 x4 x6 σ Q := h
    unfold wX1_deferTwo_6_b at h
    refine r_iload hC 3 dX1_deferTwo_6 (rfl : 6 + 2 = 8) rfl ?_
    refine r_iload_n hC 1 dX1_deferTwo_8 (rfl : 8 + 1 = 9) rfl rfl ?_
    refine r_icmp_ge hC dX1_deferTwo_9 (rfl : 9 + 3 = 12) (tgt := 86) (by decide) (fun q => ?_) (fun q => ?_)
    · replace h := if_t h q
      exact r_vret hC rfl h dX1_deferTwo_86
    · replace h := if_f h q
      refine r_aload_n hC 0 dX1_deferTwo_12 (rfl : 12 + 1 = 13) rfl rfl ?_
      refine r_iload_n hC 1 dX1_deferTwo_13 (rfl : 13 + 1 = 14) rfl rfl ?_
      refine r_iload hC 3 dX1_deferTwo_14 (rfl : 14 + 2 = 16) rfl ?_
      refine r_isub hC dX1_deferTwo_16 (rfl : 16 + 1 = 17) ?_
      refine r_callVl hC cs_X1_63 rfl (by omega) (mX1_howMany hC.2.2.2.2.2.2.2.2.1 (k := k - 1) (by omega) (x1 - x6) σ _ h) rfl rfl (Nat.le_of_ble_eq_true rfl) dX1_deferTwo_17 (rfl : 17 + 3 = 20) (fun r_6 σ_5 h => ?_)
      refine r_lstore hC dX1_deferTwo_20 (rfl : 20 + 2 = 22) (by decide) rfl (lv2 := [(7, .long r_6), (0, .ref (G.1 1)), (1, .int x1), (4, .long x4), (6, .int x6)]) rfl ?_
      refine r_aload_n hC 1 dX1_deferTwo_22 (rfl : 22 + 1 = 23) rfl rfl ?_
      refine r_iload hC 4 dX1_deferTwo_23 (rfl : 23 + 2 = 25) rfl ?_
      refine r_callVl hC cs_X1_63 rfl (by omega) (mX1_howMany hC.2.2.2.2.2.2.2.2.1 (k := k - 1) (by omega) x6 σ_5 _ h) rfl rfl (Nat.le_of_ble_eq_true rfl) dX1_deferTwo_25 (rfl : 25 + 3 = 28) (fun r_8 σ_7 h => ?_)
      refine r_lload hC 0 dX1_deferTwo_28 (rfl : 28 + 2 = 30) rfl ?_
      refine r_lmul hC dX1_deferTwo_30 (rfl : 30 + 1 = 31) ?_
      obtain ⟨x9_9, e_10, h⟩ := lt_nm h
      refine r_lstore hC dX1_deferTwo_31 (rfl : 31 + 2 = 33) (by decide) e_10 (lv2 := [(9, .long x9_9), (7, .long r_6), (0, .ref (G.1 1)), (1, .int x1), (4, .long x4), (6, .int x6)]) rfl ?_
      refine r_lload hC 1 dX1_deferTwo_33 (rfl : 33 + 2 = 35) rfl ?_
      refine r_lconst hC dX1_deferTwo_35 (rfl : 35 + 1 = 36) (v := 0) (by decide) ?_
      refine r_lcmp hC dX1_deferTwo_36 (rfl : 36 + 1 = 37) ?_
      refine r_if_le hC dX1_deferTwo_37 (rfl : 37 + 3 = 40) (tgt := 73) (by decide) (fun q => ?_) (fun q => ?_)
      · replace h := if_t h ((lg_cmp_le _ _).1 q)
        exact (sX1_deferTwo_73 rfl hC hk (wX1_deferTwo_6  Q n) Q ih x1 x4 x6 x9_9 σ_7 h).sub [2, 3, 4, 5, 0] rfl
      · replace h := if_f h (fun z => q ((lg_cmp_le _ _).2 z))
        refine r_lload hC 4 dX1_deferTwo_40 (rfl : 40 + 2 = 42) rfl ?_
        refine r_lload hC 0 dX1_deferTwo_42 (rfl : 42 + 2 = 44) rfl ?_
        refine r_lcmp hC dX1_deferTwo_44 (rfl : 44 + 1 = 45) ?_
        refine r_if_ge hC dX1_deferTwo_45 (rfl : 45 + 3 = 48) (tgt := 73) (by decide) (fun q => ?_) (fun q => ?_)
        · replace h := if_t h ((lg_cmp_ge _ _).1 q)
          exact (sX1_deferTwo_73 rfl hC hk (wX1_deferTwo_6  Q n) Q ih x1 x4 x6 x9_9 σ_7 h).sub [2, 3, 4, 5, 0] rfl
        · replace h := if_f h (fun z => q ((lg_cmp_ge _ _).2 z))
          refine r_aload_n hC 2 dX1_deferTwo_48 (rfl : 48 + 1 = 49) rfl rfl ?_
          refine r_iload_n hC 3 dX1_deferTwo_49 (rfl : 49 + 1 = 50) rfl rfl ?_
          refine r_iload hC 5 dX1_deferTwo_50 (rfl : 50 + 2 = 52) rfl ?_
          refine r_isub hC dX1_deferTwo_52 (rfl : 52 + 1 = 53) ?_
          refine r_lload hC 4 dX1_deferTwo_53 (rfl : 53 + 2 = 55) rfl ?_
          refine r_lload hC 1 dX1_deferTwo_55 (rfl : 55 + 2 = 57) rfl ?_
          obtain ⟨q_11, h⟩ := h
          refine r_lrem hC dX1_deferTwo_57 (rfl : 57 + 1 = 58) q_11 ?_
          refine r_callVv hC cs_X1_48 rfl (by omega) (mX1_defer hC.2.2.2.2.2.2.2.2.1 (k := k - 1) (by omega) (x1 - x6) (x4 - x4 / r_6 * r_6) σ_7 _ h) rfl rfl (Nat.le_of_ble_eq_true rfl) dX1_deferTwo_58 (rfl : 58 + 3 = 61) (fun  σ_12 h => ?_)
          refine r_aload_n hC 2 dX1_deferTwo_61 (rfl : 61 + 1 = 62) rfl rfl ?_
          refine r_iload hC 5 dX1_deferTwo_62 (rfl : 62 + 2 = 64) rfl ?_
          refine r_lload hC 4 dX1_deferTwo_64 (rfl : 64 + 2 = 66) rfl ?_
          refine r_lload hC 1 dX1_deferTwo_66 (rfl : 66 + 2 = 68) rfl ?_
          refine r_ldiv hC dX1_deferTwo_68 (rfl : 68 + 1 = 69) q_11 ?_
          refine r_callVv hC cs_X1_48 rfl (by omega) (mX1_defer hC.2.2.2.2.2.2.2.2.1 (k := k - 1) (by omega) x6 (x4 / r_6) σ_12 _ h) rfl rfl (Nat.le_of_ble_eq_true rfl) dX1_deferTwo_69 (rfl : 69 + 3 = 72) (fun  σ_13 h => ?_)
          exact r_vret hC rfl h dX1_deferTwo_72
set_option maxHeartbeats 1000000 in
set_option maxRecDepth 100000 in
theorem mX1_deferTwo {G : Gx} {b k : Nat} {l : Launch} (hS : Sok YC G)  (hk : 2 ≤ k) (x1 : Int32) (x2 : Int64) (σ : Sg) (Q : Sg → Prop) (h : wX1_deferTwo  x1 x2 σ Q) : Mv YC G b l yX1_deferTwo cX1_deferTwo 11 k [.ref (G.1 1), .int x1, .long x2] σ Q := by
  refine enter hS (by decide +kernel) (Nat.le_of_ble_eq_true rfl) (lv := [(0, .ref (G.1 1)), (1, .int x1), (2, .long x2)]) rfl (fun K hl hC => ?_)
  subst hl
  unfold wX1_deferTwo at h
  show V YC G K (Zv YC G K Q) 11 σ 0 [(0, .ref (G.1 1)), (1, .int x1), (2, .long x2)] []
  refine r_lload_n hC 2 dX1_deferTwo_0 (rfl : 0 + 1 = 1) rfl rfl ?_
  refine r_lstore hC dX1_deferTwo_1 (rfl : 1 + 2 = 3) (by decide) rfl (lv2 := [(4, .long x2), (0, .ref (G.1 1)), (1, .int x1), (2, .long x2)]) rfl ?_
  refine r_iconst hC dX1_deferTwo_3 (rfl : 3 + 1 = 4) (v := 1) (by decide) ?_
  refine r_istore hC dX1_deferTwo_4 (rfl : 4 + 2 = 6) (by decide) rfl (lv2 := [(6, .int 1), (4, .long x2), (0, .ref (G.1 1)), (1, .int x1), (2, .long x2)]) rfl ?_
  obtain ⟨nn, h⟩ := h
  exact (sX1_deferTwo_6 rfl hC hk  Q  nn x1 x2 1 σ h).sub [2, 3, 1, 0] rfl
set_option maxHeartbeats 1000000 in
set_option maxRecDepth 100000 in
theorem sX1_deferThree_80 {G : Gx} {b k : Nat} {K : Kx} {l : Launch} (hl : K.2.1 = l) (hC : Cx YC G b K cX1_deferThree RX1 11 none k)  (hk : 3 ≤ k) (K6 : Int32 → Int64 → Int32 → Sg → Prop) (Q : Sg → Prop) (h6 : ∀ (x1 : Int32) (x4 : Int64) (x6 : Int32) (σ : Sg), K6 x1 x4 x6 σ → V YC G K (Zv YC G K Q) 11 σ 6 [(0, .ref (G.1 1)), (1, .int x1), (4, .long x4), (6, .int x6)] []) (x1 : Int32) (x4 : Int64) (x6 : Int32) (x9 : Int64) (σ : Sg) (h : wX1_deferThree_80 K6 x1 x4 x6 x9 σ Q) : V YC G K (Zv YC G K Q) 11 σ 80 [(0, .ref (G.1 1)), (1, .int x1), (4, .long x4), (6, .int x6), (9, .long x9)] [] := by
  subst hl
  unfold wX1_deferThree_80 at h
  refine r_lload hC 2 dX1_deferThree_80 (rfl : 80 + 2 = 82) rfl ?_
  refine r_lload hC 4 dX1_deferThree_82 (rfl : 82 + 2 = 84) rfl ?_
  refine r_lsub hC dX1_deferThree_84 (rfl : 84 + 1 = 85) ?_
  obtain ⟨x4_1, e_2, h⟩ := lt_nm h
  refine r_lstore hC dX1_deferThree_85 (rfl : 85 + 2 = 87) (by decide) e_2 (lv2 := [(4, .long x4_1), (0, .ref (G.1 1)), (1, .int x1), (6, .int x6), (9, .long x9)]) rfl ?_
  obtain ⟨x6_3, e_4, h⟩ := lt_nm h
  refine r_iinc hC (j := 3) dX1_deferThree_87 (rfl : 87 + 3 = 90) rfl (zz := 1) (by decide) e_4 (by decide) (lv2 := [(6, .int x6_3), (4, .long x4_1), (0, .ref (G.1 1)), (1, .int x1), (9, .long x9)]) rfl ?_
  refine r_goto hC dX1_deferThree_90 (tgt := 6) (by decide) ?_
  exact (h6 x1 x4_1 x6_3 σ h).sub [2, 3, 1, 0] rfl
set_option maxHeartbeats 1000000 in
set_option maxRecDepth 100000 in
theorem sX1_deferThree_6 {G : Gx} {b k : Nat} {K : Kx} {l : Launch} (hl : K.2.1 = l) (hC : Cx YC G b K cX1_deferThree RX1 11 none k)  (hk : 3 ≤ k)  (Q : Sg → Prop)  : ∀ (n : Nat) (x1 : Int32) (x4 : Int64) (x6 : Int32) (σ : Sg), wX1_deferThree_6  Q n x1 x4 x6 σ → V YC G K (Zv YC G K Q) 11 σ 6 [(0, .ref (G.1 1)), (1, .int x1), (4, .long x4), (6, .int x6)] [] := by
  subst hl
  intro n
  induction n with
  | zero =>
    intro x1 x4 x6 σ h
    exact h.elim
  | succ n ih =>
    intro x1 x4 x6 σ h
    have h : wX1_deferThree_6_b  (wX1_deferThree_6  Q n) x1 x4 x6 σ Q := h
    unfold wX1_deferThree_6_b at h
    refine r_iload hC 3 dX1_deferThree_6 (rfl : 6 + 2 = 8) rfl ?_
    refine r_iload_n hC 1 dX1_deferThree_8 (rfl : 8 + 1 = 9) rfl rfl ?_
    refine r_icmp_ge hC dX1_deferThree_9 (rfl : 9 + 3 = 12) (tgt := 93) (by decide) (fun q => ?_) (fun q => ?_)
    · replace h := if_t h q
      exact r_vret hC rfl h dX1_deferThree_93
    · replace h := if_f h q
      refine r_iload_n hC 1 dX1_deferThree_12 (rfl : 12 + 1 = 13) rfl rfl ?_
      refine r_bipush hC dX1_deferThree_13 (rfl : 13 + 2 = 15) (v := 15) (by decide) ?_
      refine r_icmp_gt hC dX1_deferThree_15 (rfl : 15 + 3 = 18) (tgt := 93) (by decide) (fun q => ?_) (fun q => ?_)
      · replace h := if_t h q
        exact r_vret hC rfl h dX1_deferThree_93
      · replace h := if_f h q
        refine r_aload_n hC 0 dX1_deferThree_18 (rfl : 18 + 1 = 19) rfl rfl ?_
        refine r_getr hC 1 1 1 3 (o := 2) fw_X1_15 rfl rfl dX1_deferThree_19 (rfl : 19 + 3 = 22) ?_
        refine r_iload_n hC 1 dX1_deferThree_22 (rfl : 22 + 1 = 23) rfl rfl ?_
        refine r_iload hC 3 dX1_deferThree_23 (rfl : 23 + 2 = 25) rfl ?_
        refine r_isub hC dX1_deferThree_25 (rfl : 25 + 1 = 26) ?_
        obtain ⟨q_5, h⟩ := h
        refine r_lald hC 3 rfl q_5 dX1_deferThree_26 (rfl : 26 + 1 = 27) ?_
        obtain ⟨x7_6, e_7, h⟩ := lt_nm h
        refine r_lstore hC dX1_deferThree_27 (rfl : 27 + 2 = 29) (by decide) e_7 (lv2 := [(7, .long x7_6), (0, .ref (G.1 1)), (1, .int x1), (4, .long x4), (6, .int x6)]) rfl ?_
        refine r_aload_n hC 1 dX1_deferThree_29 (rfl : 29 + 1 = 30) rfl rfl ?_
        refine r_iload hC 4 dX1_deferThree_30 (rfl : 30 + 2 = 32) rfl ?_
        refine r_callVl hC cs_X1_63 rfl (by omega) (mX1_howMany hC.2.2.2.2.2.2.2.2.1 (k := k - 1) (by omega) x6 σ _ h) rfl rfl (Nat.le_of_ble_eq_true rfl) dX1_deferThree_32 (rfl : 32 + 3 = 35) (fun r_9 σ_8 h => ?_)
        refine r_lload hC 0 dX1_deferThree_35 (rfl : 35 + 2 = 37) rfl ?_
        refine r_lmul hC dX1_deferThree_37 (rfl : 37 + 1 = 38) ?_
        obtain ⟨x9_10, e_11, h⟩ := lt_nm h
        refine r_lstore hC dX1_deferThree_38 (rfl : 38 + 2 = 40) (by decide) e_11 (lv2 := [(9, .long x9_10), (7, .long x7_6), (0, .ref (G.1 1)), (1, .int x1), (4, .long x4), (6, .int x6)]) rfl ?_
        refine r_lload hC 1 dX1_deferThree_40 (rfl : 40 + 2 = 42) rfl ?_
        refine r_lconst hC dX1_deferThree_42 (rfl : 42 + 1 = 43) (v := 0) (by decide) ?_
        refine r_lcmp hC dX1_deferThree_43 (rfl : 43 + 1 = 44) ?_
        refine r_if_le hC dX1_deferThree_44 (rfl : 44 + 3 = 47) (tgt := 80) (by decide) (fun q => ?_) (fun q => ?_)
        · replace h := if_t h ((lg_cmp_le _ _).1 q)
          exact (sX1_deferThree_80 rfl hC hk (wX1_deferThree_6  Q n) Q ih x1 x4 x6 x9_10 σ_8 h).sub [2, 3, 4, 5, 0] rfl
        · replace h := if_f h (fun z => q ((lg_cmp_le _ _).2 z))
          refine r_lload hC 4 dX1_deferThree_47 (rfl : 47 + 2 = 49) rfl ?_
          refine r_lload hC 0 dX1_deferThree_49 (rfl : 49 + 2 = 51) rfl ?_
          refine r_lcmp hC dX1_deferThree_51 (rfl : 51 + 1 = 52) ?_
          refine r_if_ge hC dX1_deferThree_52 (rfl : 52 + 3 = 55) (tgt := 80) (by decide) (fun q => ?_) (fun q => ?_)
          · replace h := if_t h ((lg_cmp_ge _ _).1 q)
            exact (sX1_deferThree_80 rfl hC hk (wX1_deferThree_6  Q n) Q ih x1 x4 x6 x9_10 σ_8 h).sub [2, 3, 4, 5, 0] rfl
          · replace h := if_f h (fun z => q ((lg_cmp_ge _ _).2 z))
            refine r_aload_n hC 2 dX1_deferThree_55 (rfl : 55 + 1 = 56) rfl rfl ?_
            refine r_iload_n hC 3 dX1_deferThree_56 (rfl : 56 + 1 = 57) rfl rfl ?_
            refine r_iload hC 5 dX1_deferThree_57 (rfl : 57 + 2 = 59) rfl ?_
            refine r_isub hC dX1_deferThree_59 (rfl : 59 + 1 = 60) ?_
            refine r_lload hC 4 dX1_deferThree_60 (rfl : 60 + 2 = 62) rfl ?_
            refine r_lload hC 1 dX1_deferThree_62 (rfl : 62 + 2 = 64) rfl ?_
            obtain ⟨q_12, h⟩ := h
            refine r_lrem hC dX1_deferThree_64 (rfl : 64 + 1 = 65) q_12 ?_
            refine r_callVv hC cs_X1_71 rfl (by omega) (mX1_deferTwo hC.2.2.2.2.2.2.2.2.1 (k := k - 1) (by omega) (x1 - x6) (x4 - x4 / x7_6 * x7_6) σ_8 _ h) rfl rfl (Nat.le_of_ble_eq_true rfl) dX1_deferThree_65 (rfl : 65 + 3 = 68) (fun  σ_13 h => ?_)
            refine r_aload_n hC 2 dX1_deferThree_68 (rfl : 68 + 1 = 69) rfl rfl ?_
            refine r_iload hC 5 dX1_deferThree_69 (rfl : 69 + 2 = 71) rfl ?_
            refine r_lload hC 4 dX1_deferThree_71 (rfl : 71 + 2 = 73) rfl ?_
            refine r_lload hC 1 dX1_deferThree_73 (rfl : 73 + 2 = 75) rfl ?_
            refine r_ldiv hC dX1_deferThree_75 (rfl : 75 + 1 = 76) q_12 ?_
            refine r_callVv hC cs_X1_48 rfl (by omega) (mX1_defer hC.2.2.2.2.2.2.2.2.1 (k := k - 1) (by omega) x6 (x4 / x7_6) σ_13 _ h) rfl rfl (Nat.le_of_ble_eq_true rfl) dX1_deferThree_76 (rfl : 76 + 3 = 79) (fun  σ_14 h => ?_)
            exact r_vret hC rfl h dX1_deferThree_79
set_option maxHeartbeats 1000000 in
set_option maxRecDepth 100000 in
theorem mX1_deferThree {G : Gx} {b k : Nat} {l : Launch} (hS : Sok YC G)  (hk : 3 ≤ k) (x1 : Int32) (x2 : Int64) (σ : Sg) (Q : Sg → Prop) (h : wX1_deferThree  x1 x2 σ Q) : Mv YC G b l yX1_deferThree cX1_deferThree 11 k [.ref (G.1 1), .int x1, .long x2] σ Q := by
  refine enter hS (by decide +kernel) (Nat.le_of_ble_eq_true rfl) (lv := [(0, .ref (G.1 1)), (1, .int x1), (2, .long x2)]) rfl (fun K hl hC => ?_)
  subst hl
  unfold wX1_deferThree at h
  show V YC G K (Zv YC G K Q) 11 σ 0 [(0, .ref (G.1 1)), (1, .int x1), (2, .long x2)] []
  refine r_lload_n hC 2 dX1_deferThree_0 (rfl : 0 + 1 = 1) rfl rfl ?_
  refine r_lstore hC dX1_deferThree_1 (rfl : 1 + 2 = 3) (by decide) rfl (lv2 := [(4, .long x2), (0, .ref (G.1 1)), (1, .int x1), (2, .long x2)]) rfl ?_
  refine r_iconst hC dX1_deferThree_3 (rfl : 3 + 1 = 4) (v := 1) (by decide) ?_
  refine r_istore hC dX1_deferThree_4 (rfl : 4 + 2 = 6) (by decide) rfl (lv2 := [(6, .int 1), (4, .long x2), (0, .ref (G.1 1)), (1, .int x1), (2, .long x2)]) rfl ?_
  obtain ⟨nn, h⟩ := h
  exact (sX1_deferThree_6 rfl hC hk  Q  nn x1 x2 1 σ h).sub [2, 3, 1, 0] rfl
set_option maxHeartbeats 1000000 in
set_option maxRecDepth 100000 in
theorem sX1_isNumbered_44 {G : Gx} {b k : Nat} {K : Kx} {l : Launch} (hl : K.2.1 = l) (hC : Cx YC G b K cX1_isNumbered RX1 3 (some .boolean) k)  (hk : 1 ≤ k) (K13 : Nat → Int32 → Sg → Prop) (Q : Int32 → Sg → Prop) (h13 : ∀ (q1 : Nat) (x2 : Int32) (σ : Sg), K13 q1 x2 σ → V YC G K (Zi YC G K Q) 3 σ 13 [(1, .ref (G.1 q1)), (2, .int x2)] []) (q1 : Nat) (x2 : Int32) (σ : Sg) (h : wX1_isNumbered_44 K13 q1 x2 σ Q) : V YC G K (Zi YC G K Q) 3 σ 44 [(1, .ref (G.1 q1)), (2, .int x2)] [] := by
  subst hl
  unfold wX1_isNumbered_44 at h
  obtain ⟨x2_1, e_2, h⟩ := lt_nm h
  refine r_iinc hC (j := 1) dX1_isNumbered_44 (rfl : 44 + 3 = 47) rfl (zz := 1) (by decide) e_2 (by decide) (lv2 := [(2, .int x2_1), (1, .ref (G.1 q1))]) rfl ?_
  refine r_goto hC dX1_isNumbered_47 (tgt := 13) (by decide) ?_
  exact (h13 q1 x2_1 σ h).sub [1, 0] rfl
set_option maxHeartbeats 1000000 in
set_option maxRecDepth 100000 in
theorem sX1_isNumbered_13 {G : Gx} {b k : Nat} {K : Kx} {l : Launch} (hl : K.2.1 = l) (hC : Cx YC G b K cX1_isNumbered RX1 3 (some .boolean) k)  (hk : 1 ≤ k)  (Q : Int32 → Sg → Prop)  : ∀ (n : Nat) (q1 : Nat) (x2 : Int32) (σ : Sg), wX1_isNumbered_13  Q n q1 x2 σ → V YC G K (Zi YC G K Q) 3 σ 13 [(1, .ref (G.1 q1)), (2, .int x2)] [] := by
  subst hl
  intro n
  induction n with
  | zero =>
    intro q1 x2 σ h
    exact h.elim
  | succ n ih =>
    intro q1 x2 σ h
    have h : wX1_isNumbered_13_b  (wX1_isNumbered_13  Q n) q1 x2 σ Q := h
    unfold wX1_isNumbered_13_b at h
    refine r_iload_n hC 1 dX1_isNumbered_13 (rfl : 13 + 1 = 14) rfl rfl ?_
    refine r_aload_n hC 0 dX1_isNumbered_14 (rfl : 14 + 1 = 15) rfl rfl ?_
    obtain ⟨ty_3, h⟩ := h
    refine r_geti hC q1 4 3 fw_X1_77 ty_3 dX1_isNumbered_15 (rfl : 15 + 3 = 18) ?_
    refine r_icmp_ge hC dX1_isNumbered_18 (rfl : 18 + 3 = 21) (tgt := 50) (by decide) (fun q => ?_) (fun q => ?_)
    · replace h := if_t h q
      refine r_iconst hC dX1_isNumbered_50 (rfl : 50 + 1 = 51) (v := 1) (by decide) ?_
      exact r_zret hC rfl (by decide) h dX1_isNumbered_51
    · replace h := if_f h q
      refine r_aload_n hC 0 dX1_isNumbered_21 (rfl : 21 + 1 = 22) rfl rfl ?_
      refine r_iload_n hC 1 dX1_isNumbered_22 (rfl : 22 + 1 = 23) rfl rfl ?_
      refine r_callVi hC cs_X1_80 ty_3 (by omega) (mX5_kindOf hC.2.2.2.2.2.2.2.2.1 (k := k - 1) (by omega) q1 x2 σ _ h) rfl rfl (Nat.le_of_ble_eq_true rfl) dX1_isNumbered_23 (rfl : 23 + 3 = 26) (fun r_5 σ_4 h => ?_)
      refine r_if_ne hC dX1_isNumbered_26 (rfl : 26 + 3 = 29) (tgt := 44) (by decide) (fun q => ?_) (fun q => ?_)
      · replace h := if_f h q
        exact (sX1_isNumbered_44 rfl hC hk (wX1_isNumbered_13  Q n) Q ih q1 x2 σ_4 h).sub [0, 1] rfl
      · replace h := if_t h q
        refine r_aload_n hC 0 dX1_isNumbered_29 (rfl : 29 + 1 = 30) rfl rfl ?_
        refine r_iload_n hC 1 dX1_isNumbered_30 (rfl : 30 + 1 = 31) rfl rfl ?_
        refine r_callVi hC cs_X1_84 ty_3 (by omega) (mX5_numberOf hC.2.2.2.2.2.2.2.2.1 (k := k - 1) (by omega) q1 x2 σ_4 _ h) rfl rfl (Nat.le_of_ble_eq_true rfl) dX1_isNumbered_31 (rfl : 31 + 3 = 34) (fun r_7 σ_6 h => ?_)
        refine r_iconst hC dX1_isNumbered_34 (rfl : 34 + 1 = 35) (v := 0) (by decide) ?_
        refine r_iconst hC dX1_isNumbered_35 (rfl : 35 + 1 = 36) (v := 2) (by decide) ?_
        refine r_callSi hC cs_X1_39 (by omega) (mX7_within hC.2.2.2.2.2.2.2.2.1 (k := k - 1) (by omega) r_7 0 2 σ_6 _ h) rfl rfl (Nat.le_of_ble_eq_true rfl) dX1_isNumbered_36 (rfl : 36 + 3 = 39) (fun r_9 σ_8 h => ?_)
        refine r_if_ne hC dX1_isNumbered_39 (rfl : 39 + 3 = 42) (tgt := 44) (by decide) (fun q => ?_) (fun q => ?_)
        · replace h := if_f h q
          exact (sX1_isNumbered_44 rfl hC hk (wX1_isNumbered_13  Q n) Q ih q1 x2 σ_8 h).sub [0, 1] rfl
        · replace h := if_t h q
          refine r_iconst hC dX1_isNumbered_42 (rfl : 42 + 1 = 43) (v := 0) (by decide) ?_
          exact r_zret hC rfl (by decide) h dX1_isNumbered_43
set_option maxHeartbeats 1000000 in
set_option maxRecDepth 100000 in
theorem mX1_isNumbered {G : Gx} {b k : Nat} {l : Launch} (hS : Sok YC G)  (hk : 1 ≤ k) (q1 : Nat) (σ : Sg) (Q : Int32 → Sg → Prop) (h : wX1_isNumbered  q1 σ Q) : Mi YC G b l yX1_isNumbered cX1_isNumbered 3 .boolean k [.ref (G.1 1), .ref (G.1 q1)] σ Q := by
  refine enter hS (by decide +kernel) (Nat.le_of_ble_eq_true rfl) (lv := [(0, .ref (G.1 1)), (1, .ref (G.1 q1))]) rfl (fun K hl hC => ?_)
  subst hl
  unfold wX1_isNumbered at h
  show V YC G K (Zi YC G K Q) 3 σ 0 [(0, .ref (G.1 1)), (1, .ref (G.1 q1))] []
  refine r_aload_n hC 1 dX1_isNumbered_0 (rfl : 0 + 1 = 1) rfl rfl ?_
  obtain ⟨ty_10, h⟩ := h
  refine r_geti hC q1 4 3 fw_X1_77 ty_10 dX1_isNumbered_1 (rfl : 1 + 3 = 4) ?_
  refine r_bipush hC dX1_isNumbered_4 (rfl : 4 + 2 = 6) (v := 15) (by decide) ?_
  refine r_icmp_le hC dX1_isNumbered_6 (rfl : 6 + 3 = 9) (tgt := 11) (by decide) (fun q => ?_) (fun q => ?_)
  · replace h := if_t h q
    refine r_iconst hC dX1_isNumbered_11 (rfl : 11 + 1 = 12) (v := 0) (by decide) ?_
    refine r_istore_n hC dX1_isNumbered_12 (rfl : 12 + 1 = 13) rfl (by decide) rfl (lv2 := [(2, .int 0), (0, .ref (G.1 1)), (1, .ref (G.1 q1))]) rfl ?_
    obtain ⟨nn, h⟩ := h
    exact (sX1_isNumbered_13 rfl hC hk  Q  nn q1 0 σ h).sub [2, 0] rfl
  · replace h := if_f h q
    refine r_iconst hC dX1_isNumbered_9 (rfl : 9 + 1 = 10) (v := 0) (by decide) ?_
    exact r_zret hC rfl (by decide) h dX1_isNumbered_10
set_option maxHeartbeats 1000000 in
set_option maxRecDepth 100000 in
theorem mX1_rankAt {G : Gx} {b k : Nat} {l : Launch} (hS : Sok YC G)  (hk : 1 ≤ k) (x1 : Int32) (σ : Sg) (Q : Int64 → Sg → Prop) (h : wX1_rankAt  x1 σ Q) : Ml YC G b l yX1_rankAt cX1_rankAt 2 k [.ref (G.1 1), .int x1] σ Q := by
  refine enter hS (by decide +kernel) (Nat.le_of_ble_eq_true rfl) (lv := [(0, .ref (G.1 1)), (1, .int x1)]) rfl (fun K hl hC => ?_)
  subst hl
  unfold wX1_rankAt at h
  show V YC G K (Zl YC G K Q) 2 σ 0 [(0, .ref (G.1 1)), (1, .int x1)] []
  refine r_iload_n hC 1 dX1_rankAt_0 (rfl : 0 + 1 = 1) rfl rfl ?_
  refine r_iconst hC dX1_rankAt_1 (rfl : 1 + 1 = 2) (v := 0) (by decide) ?_
  refine r_bipush hC dX1_rankAt_2 (rfl : 2 + 2 = 4) (v := 15) (by decide) ?_
  refine r_callSi hC cs_X1_39 (by omega) (mX7_within hC.2.2.2.2.2.2.2.2.1 (k := k - 1) (by omega) x1 0 15 σ _ h) rfl rfl (Nat.le_of_ble_eq_true rfl) dX1_rankAt_4 (rfl : 4 + 3 = 7) (fun r_2 σ_1 h => ?_)
  refine r_if_eq hC dX1_rankAt_7 (rfl : 7 + 3 = 10) (tgt := 19) (by decide) (fun q => ?_) (fun q => ?_)
  · replace h := if_t h q
    refine r_lconst hC dX1_rankAt_19 (rfl : 19 + 1 = 20) (v := 0) (by decide) ?_
    exact r_lret hC rfl h dX1_rankAt_20
  · replace h := if_f h q
    refine r_aload_n hC 0 dX1_rankAt_10 (rfl : 10 + 1 = 11) rfl rfl ?_
    refine r_getr hC 1 1 6 7 (o := 6) fw_X1_32 rfl rfl dX1_rankAt_11 (rfl : 11 + 3 = 14) ?_
    refine r_iload_n hC 1 dX1_rankAt_14 (rfl : 14 + 1 = 15) rfl rfl ?_
    obtain ⟨q_3, h⟩ := h
    refine r_lald hC 7 rfl q_3 dX1_rankAt_15 (rfl : 15 + 1 = 16) ?_
    refine r_goto hC dX1_rankAt_16 (tgt := 20) (by decide) ?_
    exact r_lret hC rfl h dX1_rankAt_20
set_option maxHeartbeats 1000000 in
set_option maxRecDepth 100000 in
theorem sX1_rankOfTwo_49 {G : Gx} {b k : Nat} {K : Kx} {l : Launch} (hl : K.2.1 = l) (hC : Cx YC G b K cX1_rankOfTwo RX1 9 (some .long) k)  (hk : 2 ≤ k)  (Q : Int64 → Sg → Prop)  : ∀ (n : Nat) (x4 : Int32) (x5 : Int32) (x6 : Int64) (x8 : Int32) (σ : Sg), wX1_rankOfTwo_49  Q n x4 x5 x6 x8 σ → V YC G K (Zl YC G K Q) 9 σ 49 [(0, .ref (G.1 1)), (4, .int x4), (5, .int x5), (6, .long x6), (8, .int x8)] [] := by
  subst hl
  intro n
  induction n with
  | zero =>
    intro x4 x5 x6 x8 σ h
    exact h.elim
  | succ n ih =>
    intro x4 x5 x6 x8 σ h
    have h : wX1_rankOfTwo_49_b  (wX1_rankOfTwo_49  Q n) x4 x5 x6 x8 σ Q := h
    unfold wX1_rankOfTwo_49_b at h
    refine r_iload hC 4 dX1_rankOfTwo_49 (rfl : 49 + 2 = 51) rfl ?_
    refine r_iload hC 1 dX1_rankOfTwo_51 (rfl : 51 + 2 = 53) rfl ?_
    refine r_icmp_ge hC dX1_rankOfTwo_53 (rfl : 53 + 3 = 56) (tgt := 83) (by decide) (fun q => ?_) (fun q => ?_)
    · replace h := if_t h q
      refine r_lload hC 3 dX1_rankOfTwo_83 (rfl : 83 + 2 = 85) rfl ?_
      exact r_lret hC rfl h dX1_rankOfTwo_85
    · replace h := if_f h q
      refine r_lload hC 3 dX1_rankOfTwo_56 (rfl : 56 + 2 = 58) rfl ?_
      refine r_aload_n hC 0 dX1_rankOfTwo_58 (rfl : 58 + 1 = 59) rfl rfl ?_
      refine r_iload hC 4 dX1_rankOfTwo_59 (rfl : 59 + 2 = 61) rfl ?_
      refine r_callVl hC cs_X1_63 rfl (by omega) (mX1_howMany hC.2.2.2.2.2.2.2.2.1 (k := k - 1) (by omega) x8 σ _ h) rfl rfl (Nat.le_of_ble_eq_true rfl) dX1_rankOfTwo_61 (rfl : 61 + 3 = 64) (fun r_2 σ_1 h => ?_)
      refine r_aload_n hC 0 dX1_rankOfTwo_64 (rfl : 64 + 1 = 65) rfl rfl ?_
      refine r_iload hC 2 dX1_rankOfTwo_65 (rfl : 65 + 2 = 67) rfl ?_
      refine r_iload hC 4 dX1_rankOfTwo_67 (rfl : 67 + 2 = 69) rfl ?_
      refine r_isub hC dX1_rankOfTwo_69 (rfl : 69 + 1 = 70) ?_
      refine r_callVl hC cs_X1_63 rfl (by omega) (mX1_howMany hC.2.2.2.2.2.2.2.2.1 (k := k - 1) (by omega) (x5 - x8) σ_1 _ h) rfl rfl (Nat.le_of_ble_eq_true rfl) dX1_rankOfTwo_70 (rfl : 70 + 3 = 73) (fun r_4 σ_3 h => ?_)
      refine r_lmul hC dX1_rankOfTwo_73 (rfl : 73 + 1 = 74) ?_
      refine r_ladd hC dX1_rankOfTwo_74 (rfl : 74 + 1 = 75) ?_
      obtain ⟨x6_5, e_6, h⟩ := lt_nm h
      refine r_lstore hC dX1_rankOfTwo_75 (rfl : 75 + 2 = 77) (by decide) e_6 (lv2 := [(6, .long x6_5), (0, .ref (G.1 1)), (4, .int x4), (5, .int x5), (8, .int x8)]) rfl ?_
      obtain ⟨x8_7, e_8, h⟩ := lt_nm h
      refine r_iinc hC (j := 4) dX1_rankOfTwo_77 (rfl : 77 + 3 = 80) rfl (zz := 1) (by decide) e_8 (by decide) (lv2 := [(8, .int x8_7), (6, .long x6_5), (0, .ref (G.1 1)), (4, .int x4), (5, .int x5)]) rfl ?_
      refine r_goto hC dX1_rankOfTwo_80 (tgt := 49) (by decide) ?_
      exact (ih x4 x5 x6_5 x8_7 σ_3 h).sub [2, 3, 4, 1, 0] rfl
set_option maxHeartbeats 1000000 in
set_option maxRecDepth 100000 in
theorem mX1_rankOfTwo {G : Gx} {b k : Nat} {l : Launch} (hS : Sok YC G)  (hk : 2 ≤ k) (q1 : Nat) (x2 : Int32) (σ : Sg) (Q : Int64 → Sg → Prop) (h : wX1_rankOfTwo  q1 x2 σ Q) : Ml YC G b l yX1_rankOfTwo cX1_rankOfTwo 9 k [.ref (G.1 1), .ref (G.1 q1), .int x2] σ Q := by
  refine enter hS (by decide +kernel) (Nat.le_of_ble_eq_true rfl) (lv := [(0, .ref (G.1 1)), (1, .ref (G.1 q1)), (2, .int x2)]) rfl (fun K hl hC => ?_)
  subst hl
  unfold wX1_rankOfTwo at h
  show V YC G K (Zl YC G K Q) 9 σ 0 [(0, .ref (G.1 1)), (1, .ref (G.1 q1)), (2, .int x2)] []
  refine r_aload_n hC 1 dX1_rankOfTwo_0 (rfl : 0 + 1 = 1) rfl rfl ?_
  refine r_iload_n hC 2 dX1_rankOfTwo_1 (rfl : 1 + 1 = 2) rfl rfl ?_
  obtain ⟨ty_9, h⟩ := h
  refine r_callVi hC cs_X1_110 ty_9 (by omega) (mX5_behind hC.2.2.2.2.2.2.2.2.1 (k := k - 1) (by omega) q1 x2 σ _ h) rfl rfl (Nat.le_of_ble_eq_true rfl) dX1_rankOfTwo_2 (rfl : 2 + 3 = 5) (fun r_11 σ_10 h => ?_)
  refine r_istore_n hC dX1_rankOfTwo_5 (rfl : 5 + 1 = 6) rfl (by decide) rfl (lv2 := [(3, .int r_11), (0, .ref (G.1 1)), (1, .ref (G.1 q1)), (2, .int x2)]) rfl ?_
  refine r_aload_n hC 2 dX1_rankOfTwo_6 (rfl : 6 + 1 = 7) rfl rfl ?_
  refine r_iload_n hC 3 dX1_rankOfTwo_7 (rfl : 7 + 1 = 8) rfl rfl ?_
  refine r_callVi hC cs_X1_97 ty_9 (by omega) (mX5_sizeOf hC.2.2.2.2.2.2.2.2.1 (k := k - 1) (by omega) q1 x2 σ_10 _ h) rfl rfl (Nat.le_of_ble_eq_true rfl) dX1_rankOfTwo_8 (rfl : 8 + 3 = 11) (fun r_13 σ_12 h => ?_)
  refine r_istore hC dX1_rankOfTwo_11 (rfl : 11 + 2 = 13) (by decide) rfl (lv2 := [(4, .int r_13), (3, .int r_11), (0, .ref (G.1 1)), (1, .ref (G.1 q1)), (2, .int x2)]) rfl ?_
  refine r_iload hC 0 dX1_rankOfTwo_13 (rfl : 13 + 2 = 15) rfl ?_
  refine r_aload_n hC 3 dX1_rankOfTwo_15 (rfl : 15 + 1 = 16) rfl rfl ?_
  refine r_iload_n hC 1 dX1_rankOfTwo_16 (rfl : 16 + 1 = 17) rfl rfl ?_
  refine r_callVi hC cs_X1_97 ty_9 (by omega) (mX5_sizeOf hC.2.2.2.2.2.2.2.2.1 (k := k - 1) (by omega) q1 r_11 σ_12 _ h) rfl rfl (Nat.le_of_ble_eq_true rfl) dX1_rankOfTwo_17 (rfl : 17 + 3 = 20) (fun r_15 σ_14 h => ?_)
  refine r_iadd hC dX1_rankOfTwo_20 (rfl : 20 + 1 = 21) ?_
  obtain ⟨x5_16, e_17, h⟩ := lt_nm h
  refine r_istore hC dX1_rankOfTwo_21 (rfl : 21 + 2 = 23) (by decide) e_17 (lv2 := [(5, .int x5_16), (4, .int r_13), (3, .int r_11), (0, .ref (G.1 1)), (1, .ref (G.1 q1)), (2, .int x2)]) rfl ?_
  refine r_aload_n hC 3 dX1_rankOfTwo_23 (rfl : 23 + 1 = 24) rfl rfl ?_
  refine r_iload_n hC 5 dX1_rankOfTwo_24 (rfl : 24 + 1 = 25) rfl rfl ?_
  refine r_callVl hC cs_X1_100 rfl (by omega) (mX1_rankAt hC.2.2.2.2.2.2.2.2.1 (k := k - 1) (by omega) x2 σ_14 _ h) rfl rfl (Nat.le_of_ble_eq_true rfl) dX1_rankOfTwo_25 (rfl : 25 + 3 = 28) (fun r_19 σ_18 h => ?_)
  refine r_aload_n hC 3 dX1_rankOfTwo_28 (rfl : 28 + 1 = 29) rfl rfl ?_
  refine r_iload hC 0 dX1_rankOfTwo_29 (rfl : 29 + 2 = 31) rfl ?_
  refine r_iload hC 1 dX1_rankOfTwo_31 (rfl : 31 + 2 = 33) rfl ?_
  refine r_isub hC dX1_rankOfTwo_33 (rfl : 33 + 1 = 34) ?_
  refine r_callVl hC cs_X1_63 rfl (by omega) (mX1_howMany hC.2.2.2.2.2.2.2.2.1 (k := k - 1) (by omega) (x5_16 - r_13) σ_18 _ h) rfl rfl (Nat.le_of_ble_eq_true rfl) dX1_rankOfTwo_34 (rfl : 34 + 3 = 37) (fun r_21 σ_20 h => ?_)
  refine r_lmul hC dX1_rankOfTwo_37 (rfl : 37 + 1 = 38) ?_
  refine r_aload_n hC 3 dX1_rankOfTwo_38 (rfl : 38 + 1 = 39) rfl rfl ?_
  refine r_iload_n hC 2 dX1_rankOfTwo_39 (rfl : 39 + 1 = 40) rfl rfl ?_
  refine r_callVl hC cs_X1_100 rfl (by omega) (mX1_rankAt hC.2.2.2.2.2.2.2.2.1 (k := k - 1) (by omega) r_11 σ_20 _ h) rfl rfl (Nat.le_of_ble_eq_true rfl) dX1_rankOfTwo_40 (rfl : 40 + 3 = 43) (fun r_23 σ_22 h => ?_)
  refine r_ladd hC dX1_rankOfTwo_43 (rfl : 43 + 1 = 44) ?_
  obtain ⟨x6_24, e_25, h⟩ := lt_nm h
  refine r_lstore hC dX1_rankOfTwo_44 (rfl : 44 + 2 = 46) (by decide) e_25 (lv2 := [(6, .long x6_24), (5, .int x5_16), (4, .int r_13), (3, .int r_11), (0, .ref (G.1 1)), (1, .ref (G.1 q1)), (2, .int x2)]) rfl ?_
  refine r_iconst hC dX1_rankOfTwo_46 (rfl : 46 + 1 = 47) (v := 1) (by decide) ?_
  refine r_istore hC dX1_rankOfTwo_47 (rfl : 47 + 2 = 49) (by decide) rfl (lv2 := [(8, .int 1), (6, .long x6_24), (5, .int x5_16), (4, .int r_13), (3, .int r_11), (0, .ref (G.1 1)), (1, .ref (G.1 q1)), (2, .int x2)]) rfl ?_
  obtain ⟨nn, h⟩ := h
  exact (sX1_rankOfTwo_49 rfl hC hk  Q  nn r_13 x5_16 x6_24 1 σ_22 h).sub [5, 3, 2, 1, 0] rfl
set_option maxHeartbeats 1000000 in
set_option maxRecDepth 100000 in
theorem sX1_rankOfThree_64 {G : Gx} {b k : Nat} {K : Kx} {l : Launch} (hl : K.2.1 = l) (hC : Cx YC G b K cX1_rankOfThree RX1 8 (some .long) k)  (hk : 3 ≤ k) (K22 : Int32 → Int32 → Int32 → Int64 → Int32 → Sg → Prop) (Q : Int64 → Sg → Prop) (h22 : ∀ (x2 : Int32) (x3 : Int32) (x4 : Int32) (x5 : Int64) (x7 : Int32) (σ : Sg), K22 x2 x3 x4 x5 x7 σ → V YC G K (Zl YC G K Q) 8 σ 22 [(0, .ref (G.1 1)), (2, .int x2), (3, .int x3), (4, .int x4), (5, .long x5), (7, .int x7)] []) (x2 : Int32) (x3 : Int32) (x4 : Int32) (x7 : Int32) (s0 : Int64) (s1 : Int64) (σ : Sg) (h : wX1_rankOfThree_64 K22 x2 x3 x4 x7 s0 s1 σ Q) : V YC G K (Zl YC G K Q) 8 σ 64 [(0, .ref (G.1 1)), (2, .int x2), (3, .int x3), (4, .int x4), (7, .int x7)] [.long s1, .long s0] := by
  subst hl
  unfold wX1_rankOfThree_64 at h
  refine r_aload_n hC 0 dX1_rankOfThree_64 (rfl : 64 + 1 = 65) rfl rfl ?_
  refine r_getr hC 1 1 1 3 (o := 2) fw_X1_15 rfl rfl dX1_rankOfThree_65 (rfl : 65 + 3 = 68) ?_
  refine r_iload_n hC 2 dX1_rankOfThree_68 (rfl : 68 + 1 = 69) rfl rfl ?_
  refine r_iload hC 4 dX1_rankOfThree_69 (rfl : 69 + 2 = 71) rfl ?_
  refine r_isub hC dX1_rankOfThree_71 (rfl : 71 + 1 = 72) ?_
  obtain ⟨q_1, h⟩ := h
  refine r_lald hC 3 rfl q_1 dX1_rankOfThree_72 (rfl : 72 + 1 = 73) ?_
  refine r_lmul hC dX1_rankOfThree_73 (rfl : 73 + 1 = 74) ?_
  refine r_ladd hC dX1_rankOfThree_74 (rfl : 74 + 1 = 75) ?_
  obtain ⟨x5_2, e_3, h⟩ := lt_nm h
  refine r_lstore hC dX1_rankOfThree_75 (rfl : 75 + 2 = 77) (by decide) e_3 (lv2 := [(5, .long x5_2), (0, .ref (G.1 1)), (2, .int x2), (3, .int x3), (4, .int x4), (7, .int x7)]) rfl ?_
  obtain ⟨x7_4, e_5, h⟩ := lt_nm h
  refine r_iinc hC (j := 5) dX1_rankOfThree_77 (rfl : 77 + 3 = 80) rfl (zz := 1) (by decide) e_5 (by decide) (lv2 := [(7, .int x7_4), (5, .long x5_2), (0, .ref (G.1 1)), (2, .int x2), (3, .int x3), (4, .int x4)]) rfl ?_
  refine r_goto hC dX1_rankOfThree_80 (tgt := 22) (by decide) ?_
  exact (h22 x2 x3 x4 x5_2 x7_4 σ h).sub [2, 3, 4, 5, 1, 0] rfl
set_option maxHeartbeats 1000000 in
set_option maxRecDepth 100000 in
theorem sX1_rankOfThree_22 {G : Gx} {b k : Nat} {K : Kx} {l : Launch} (hl : K.2.1 = l) (hC : Cx YC G b K cX1_rankOfThree RX1 8 (some .long) k)  (hk : 3 ≤ k)  (Q : Int64 → Sg → Prop)  : ∀ (n : Nat) (x2 : Int32) (x3 : Int32) (x4 : Int32) (x5 : Int64) (x7 : Int32) (σ : Sg), wX1_rankOfThree_22  Q n x2 x3 x4 x5 x7 σ → V YC G K (Zl YC G K Q) 8 σ 22 [(0, .ref (G.1 1)), (2, .int x2), (3, .int x3), (4, .int x4), (5, .long x5), (7, .int x7)] [] := by
  subst hl
  intro n
  induction n with
  | zero =>
    intro x2 x3 x4 x5 x7 σ h
    exact h.elim
  | succ n ih =>
    intro x2 x3 x4 x5 x7 σ h
    have h : wX1_rankOfThree_22_b  (wX1_rankOfThree_22  Q n) x2 x3 x4 x5 x7 σ Q := h
    unfold wX1_rankOfThree_22_b at h
    refine r_iload hC 5 dX1_rankOfThree_22 (rfl : 22 + 2 = 24) rfl ?_
    refine r_iload hC 3 dX1_rankOfThree_24 (rfl : 24 + 2 = 26) rfl ?_
    refine r_icmp_gt hC dX1_rankOfThree_26 (rfl : 26 + 3 = 29) (tgt := 83) (by decide) (fun q => ?_) (fun q => ?_)
    · replace h := if_t h q
      refine r_lload hC 4 dX1_rankOfThree_83 (rfl : 83 + 2 = 85) rfl ?_
      exact r_lret hC rfl h dX1_rankOfThree_85
    · replace h := if_f h q
      refine r_iload hC 5 dX1_rankOfThree_29 (rfl : 29 + 2 = 31) rfl ?_
      refine r_iload_n hC 2 dX1_rankOfThree_31 (rfl : 31 + 1 = 32) rfl rfl ?_
      refine r_icmp_gt hC dX1_rankOfThree_32 (rfl : 32 + 3 = 35) (tgt := 83) (by decide) (fun q => ?_) (fun q => ?_)
      · replace h := if_t h q
        refine r_lload hC 4 dX1_rankOfThree_83 (rfl : 83 + 2 = 85) rfl ?_
        exact r_lret hC rfl h dX1_rankOfThree_85
      · replace h := if_f h q
        refine r_iload_n hC 2 dX1_rankOfThree_35 (rfl : 35 + 1 = 36) rfl rfl ?_
        refine r_bipush hC dX1_rankOfThree_36 (rfl : 36 + 2 = 38) (v := 15) (by decide) ?_
        refine r_icmp_gt hC dX1_rankOfThree_38 (rfl : 38 + 3 = 41) (tgt := 83) (by decide) (fun q => ?_) (fun q => ?_)
        · replace h := if_t h q
          refine r_lload hC 4 dX1_rankOfThree_83 (rfl : 83 + 2 = 85) rfl ?_
          exact r_lret hC rfl h dX1_rankOfThree_85
        · replace h := if_f h q
          refine r_lload hC 4 dX1_rankOfThree_41 (rfl : 41 + 2 = 43) rfl ?_
          refine r_iload hC 5 dX1_rankOfThree_43 (rfl : 43 + 2 = 45) rfl ?_
          refine r_iload hC 3 dX1_rankOfThree_45 (rfl : 45 + 2 = 47) rfl ?_
          refine r_icmp_ge hC dX1_rankOfThree_47 (rfl : 47 + 3 = 50) (tgt := 59) (by decide) (fun q => ?_) (fun q => ?_)
          · replace h := if_t h q
            refine r_aload_n hC 0 dX1_rankOfThree_59 (rfl : 59 + 1 = 60) rfl rfl ?_
            refine r_iload_n hC 1 dX1_rankOfThree_60 (rfl : 60 + 1 = 61) rfl rfl ?_
            refine r_callVl hC cs_X1_100 rfl (by omega) (mX1_rankAt hC.2.2.2.2.2.2.2.2.1 (k := k - 1) (by omega) x2 σ _ h) rfl rfl (Nat.le_of_ble_eq_true rfl) dX1_rankOfThree_61 (rfl : 61 + 3 = 64) (fun r_7 σ_6 h => ?_)
            exact (sX1_rankOfThree_64 rfl hC hk (wX1_rankOfThree_22  Q n) Q ih x2 x3 x4 x7 x5 r_7 σ_6 h).sub [0, 1, 2, 3, 5] rfl
          · replace h := if_f h q
            refine r_aload_n hC 0 dX1_rankOfThree_50 (rfl : 50 + 1 = 51) rfl rfl ?_
            refine r_iload hC 5 dX1_rankOfThree_51 (rfl : 51 + 2 = 53) rfl ?_
            refine r_callVl hC cs_X1_63 rfl (by omega) (mX1_howMany hC.2.2.2.2.2.2.2.2.1 (k := k - 1) (by omega) x7 σ _ h) rfl rfl (Nat.le_of_ble_eq_true rfl) dX1_rankOfThree_53 (rfl : 53 + 3 = 56) (fun r_9 σ_8 h => ?_)
            refine r_goto hC dX1_rankOfThree_56 (tgt := 64) (by decide) ?_
            exact (sX1_rankOfThree_64 rfl hC hk (wX1_rankOfThree_22  Q n) Q ih x2 x3 x4 x7 x5 r_9 σ_8 h).sub [0, 1, 2, 3, 5] rfl
set_option maxHeartbeats 1000000 in
set_option maxRecDepth 100000 in
theorem mX1_rankOfThree {G : Gx} {b k : Nat} {l : Launch} (hS : Sok YC G)  (hk : 3 ≤ k) (q1 : Nat) (x2 : Int32) (x3 : Int32) (σ : Sg) (Q : Int64 → Sg → Prop) (h : wX1_rankOfThree  q1 x2 x3 σ Q) : Ml YC G b l yX1_rankOfThree cX1_rankOfThree 8 k [.ref (G.1 1), .ref (G.1 q1), .int x2, .int x3] σ Q := by
  refine enter hS (by decide +kernel) (Nat.le_of_ble_eq_true rfl) (lv := [(0, .ref (G.1 1)), (1, .ref (G.1 q1)), (2, .int x2), (3, .int x3)]) rfl (fun K hl hC => ?_)
  subst hl
  unfold wX1_rankOfThree at h
  show V YC G K (Zl YC G K Q) 8 σ 0 [(0, .ref (G.1 1)), (1, .ref (G.1 q1)), (2, .int x2), (3, .int x3)] []
  refine r_aload_n hC 1 dX1_rankOfThree_0 (rfl : 0 + 1 = 1) rfl rfl ?_
  refine r_iload_n hC 2 dX1_rankOfThree_1 (rfl : 1 + 1 = 2) rfl rfl ?_
  obtain ⟨ty_10, h⟩ := h
  refine r_callVi hC cs_X1_97 ty_10 (by omega) (mX5_sizeOf hC.2.2.2.2.2.2.2.2.1 (k := k - 1) (by omega) q1 x2 σ _ h) rfl rfl (Nat.le_of_ble_eq_true rfl) dX1_rankOfThree_2 (rfl : 2 + 3 = 5) (fun r_12 σ_11 h => ?_)
  refine r_istore hC dX1_rankOfThree_5 (rfl : 5 + 2 = 7) (by decide) rfl (lv2 := [(4, .int r_12), (0, .ref (G.1 1)), (1, .ref (G.1 q1)), (2, .int x2), (3, .int x3)]) rfl ?_
  refine r_aload_n hC 1 dX1_rankOfThree_7 (rfl : 7 + 1 = 8) rfl rfl ?_
  refine r_aload_n hC 2 dX1_rankOfThree_8 (rfl : 8 + 1 = 9) rfl rfl ?_
  refine r_aload_n hC 2 dX1_rankOfThree_9 (rfl : 9 + 1 = 10) rfl rfl ?_
  refine r_iload_n hC 3 dX1_rankOfThree_10 (rfl : 10 + 1 = 11) rfl rfl ?_
  refine r_callVi hC cs_X1_110 ty_10 (by omega) (mX5_behind hC.2.2.2.2.2.2.2.2.1 (k := k - 1) (by omega) q1 x2 σ_11 _ h) rfl rfl (Nat.le_of_ble_eq_true rfl) dX1_rankOfThree_11 (rfl : 11 + 3 = 14) (fun r_14 σ_13 h => ?_)
  refine r_callVl hC cs_X1_107 rfl (by omega) (mX1_rankOfTwo hC.2.2.2.2.2.2.2.2.1 (k := k - 1) (by omega) q1 r_14 σ_13 _ h) rfl rfl (Nat.le_of_ble_eq_true rfl) dX1_rankOfThree_14 (rfl : 14 + 3 = 17) (fun r_16 σ_15 h => ?_)
  refine r_lstore hC dX1_rankOfThree_17 (rfl : 17 + 2 = 19) (by decide) rfl (lv2 := [(5, .long r_16), (4, .int r_12), (0, .ref (G.1 1)), (1, .ref (G.1 q1)), (2, .int x2), (3, .int x3)]) rfl ?_
  refine r_iconst hC dX1_rankOfThree_19 (rfl : 19 + 1 = 20) (v := 1) (by decide) ?_
  refine r_istore hC dX1_rankOfThree_20 (rfl : 20 + 2 = 22) (by decide) rfl (lv2 := [(7, .int 1), (5, .long r_16), (4, .int r_12), (0, .ref (G.1 1)), (1, .ref (G.1 q1)), (2, .int x2), (3, .int x3)]) rfl ?_
  obtain ⟨nn, h⟩ := h
  exact (sX1_rankOfThree_22 rfl hC hk  Q  nn x2 x3 r_12 r_16 1 σ_15 h).sub [3, 5, 6, 2, 1, 0] rfl
set_option maxHeartbeats 1000000 in
set_option maxRecDepth 100000 in
theorem mX3_clear {G : Gx} {b k : Nat} {l : Launch} (hS : Sok YC G)  (hk : 1 ≤ k)  (σ : Sg) (Q : Sg → Prop) (h : wX3_clear   σ Q) : Mv YC G b l yX3_clear cX3_clear 1 k [.ref (G.1 8)] σ Q := by
  refine enter hS (by decide +kernel) (Nat.le_of_ble_eq_true rfl) (lv := [(0, .ref (G.1 8))]) rfl (fun K hl hC => ?_)
  subst hl
  unfold wX3_clear at h
  show V YC G K (Zv YC G K Q) 1 σ 0 [(0, .ref (G.1 8))] []
  refine r_aload_n hC 0 dX3_clear_0 (rfl : 0 + 1 = 1) rfl rfl ?_
  refine r_getr hC 8 3 0 9 (o := 1) fw_X3_12 rfl rfl dX3_clear_1 (rfl : 1 + 3 = 4) ?_
  refine r_callVv hC cs_X3_26 rfl (by omega) (mX5_clear hC.2.2.2.2.2.2.2.2.1 (k := k - 1) (by omega) 9 σ _ h) rfl rfl (Nat.le_of_ble_eq_true rfl) dX3_clear_4 (rfl : 4 + 3 = 7) (fun  σ_1 h => ?_)
  refine r_aload_n hC 0 dX3_clear_7 (rfl : 7 + 1 = 8) rfl rfl ?_
  refine r_iconst hC dX3_clear_8 (rfl : 8 + 1 = 9) (v := 0) (by decide) ?_
  obtain ⟨σ_2, e_3, h⟩ := lt_nm h
  refine r_puti hC 8 3 2 fw_X3_22 fp_3_2 rfl e_3 dX3_clear_9 (rfl : 9 + 3 = 12) ?_
  exact r_vret hC rfl h dX3_clear_12
set_option maxHeartbeats 1000000 in
set_option maxRecDepth 100000 in
theorem sX3_put_45 {G : Gx} {b k : Nat} {K : Kx} {l : Launch} (hl : K.2.1 = l) (hC : Cx YC G b K cX3_put RX3 5 none k)  (hk : 2 ≤ k)  (Q : Sg → Prop)  (x1 : Int32) (x2 : Int32) (x3 : Int32) (s0 : Int32) (σ : Sg) (h : wX3_put_45  x1 x2 x3 s0 σ Q) : V YC G K (Zv YC G K Q) 5 σ 45 [(0, .ref (G.1 8)), (1, .int x1), (2, .int x2), (3, .int x3)] [.int s0] := by
  subst hl
  unfold wX3_put_45 at h
  refine r_istore hC dX3_put_45 (rfl : 45 + 2 = 47) (by decide) rfl (lv2 := [(4, .int s0), (0, .ref (G.1 8)), (1, .int x1), (2, .int x2), (3, .int x3)]) rfl ?_
  refine r_aload_n hC 1 dX3_put_47 (rfl : 47 + 1 = 48) rfl rfl ?_
  refine r_getr hC 8 3 0 9 (o := 1) fw_X3_12 rfl rfl dX3_put_48 (rfl : 48 + 3 = 51) ?_
  refine r_iload hC 0 dX3_put_51 (rfl : 51 + 2 = 53) rfl ?_
  refine r_iload_n hC 2 dX3_put_53 (rfl : 53 + 1 = 54) rfl rfl ?_
  refine r_iload_n hC 3 dX3_put_54 (rfl : 54 + 1 = 55) rfl rfl ?_
  refine r_callVv hC cs_X3_36 rfl (by omega) (mX5_insert hC.2.2.2.2.2.2.2.2.1 (k := k - 1) (by omega) 9 s0 x1 x2 σ _ h) rfl rfl (Nat.le_of_ble_eq_true rfl) dX3_put_55 (rfl : 55 + 3 = 58) (fun  σ_1 h => ?_)
  refine r_aload_n hC 1 dX3_put_58 (rfl : 58 + 1 = 59) rfl rfl ?_
  refine r_getr hC 8 3 1 13 (o := 5) fw_X3_18 rfl rfl dX3_put_59 (rfl : 59 + 3 = 62) ?_
  refine r_iload_n hC 4 dX3_put_62 (rfl : 62 + 1 = 63) rfl rfl ?_
  refine r_iload hC 0 dX3_put_63 (rfl : 63 + 2 = 65) rfl ?_
  obtain ⟨q_2, h⟩ := h
  obtain ⟨σ_3, e_4, h⟩ := lt_nm h
  refine r_iast hC 13 rfl q_2 e_4 dX3_put_65 (rfl : 65 + 1 = 66) ?_
  refine r_aload_n hC 1 dX3_put_66 (rfl : 66 + 1 = 67) rfl rfl ?_
  refine r_iload_n hC 4 dX3_put_67 (rfl : 67 + 1 = 68) rfl rfl ?_
  refine r_iconst hC dX3_put_68 (rfl : 68 + 1 = 69) (v := 1) (by decide) ?_
  refine r_iadd hC dX3_put_69 (rfl : 69 + 1 = 70) ?_
  obtain ⟨σ_5, e_6, h⟩ := lt_nm h
  refine r_puti hC 8 3 2 fw_X3_22 fp_3_2 rfl e_6 dX3_put_70 (rfl : 70 + 3 = 73) ?_
  exact r_vret hC rfl h dX3_put_73
set_option maxHeartbeats 1000000 in
set_option maxRecDepth 100000 in
theorem mX3_put {G : Gx} {b k : Nat} {l : Launch} (hS : Sok YC G)  (hk : 2 ≤ k) (x1 : Int32) (x2 : Int32) (σ : Sg) (Q : Sg → Prop) (h : wX3_put  x1 x2 σ Q) : Mv YC G b l yX3_put cX3_put 5 k [.ref (G.1 8), .int x1, .int x2] σ Q := by
  refine enter hS (by decide +kernel) (Nat.le_of_ble_eq_true rfl) (lv := [(0, .ref (G.1 8)), (1, .int x1), (2, .int x2)]) rfl (fun K hl hC => ?_)
  subst hl
  unfold wX3_put at h
  show V YC G K (Zv YC G K Q) 5 σ 0 [(0, .ref (G.1 8)), (1, .int x1), (2, .int x2)] []
  refine r_aload_n hC 0 dX3_put_0 (rfl : 0 + 1 = 1) rfl rfl ?_
  refine r_geti hC 8 3 2 fw_X3_22 rfl dX3_put_1 (rfl : 1 + 3 = 4) ?_
  refine r_iload_n hC 1 dX3_put_4 (rfl : 4 + 1 = 5) rfl rfl ?_
  refine r_callSi hC cs_X3_29 (by omega) (mX7_partsOf hC.2.2.2.2.2.2.2.2.1 (k := k - 1) (by omega) x1 σ _ h) rfl rfl (Nat.le_of_ble_eq_true rfl) dX3_put_5 (rfl : 5 + 3 = 8) (fun r_8 σ_7 h => ?_)
  refine r_isub hC dX3_put_8 (rfl : 8 + 1 = 9) ?_
  obtain ⟨x3_9, e_10, h⟩ := lt_nm h
  refine r_istore_n hC dX3_put_9 (rfl : 9 + 1 = 10) rfl (by decide) e_10 (lv2 := [(3, .int x3_9), (0, .ref (G.1 8)), (1, .int x1), (2, .int x2)]) rfl ?_
  refine r_iload_n hC 0 dX3_put_10 (rfl : 10 + 1 = 11) rfl rfl ?_
  refine r_if_lt hC dX3_put_11 (rfl : 11 + 3 = 14) (tgt := 20) (by decide) (fun q => ?_) (fun q => ?_)
  · replace h := if_t h q
    exact r_vret hC rfl h dX3_put_20
  · replace h := if_f h q
    refine r_iload_n hC 0 dX3_put_14 (rfl : 14 + 1 = 15) rfl rfl ?_
    refine r_bipush hC dX3_put_15 (rfl : 15 + 2 = 17) (v := 60) (by decide) ?_
    refine r_icmp_lt hC dX3_put_17 (rfl : 17 + 3 = 20) (tgt := 21) (by decide) (fun q => ?_) (fun q => ?_)
    · replace h := if_t h q
      refine r_iload_n hC 0 dX3_put_21 (rfl : 21 + 1 = 22) rfl rfl ?_
      refine r_aload_n hC 1 dX3_put_22 (rfl : 22 + 1 = 23) rfl rfl ?_
      refine r_geti hC 8 3 2 fw_X3_22 rfl dX3_put_23 (rfl : 23 + 3 = 26) ?_
      refine r_icmp_ge hC dX3_put_26 (rfl : 26 + 3 = 29) (tgt := 38) (by decide) (fun q => ?_) (fun q => ?_)
      · replace h := if_t h q
        refine r_aload_n hC 1 dX3_put_38 (rfl : 38 + 1 = 39) rfl rfl ?_
        refine r_getr hC 8 3 0 9 (o := 1) fw_X3_12 rfl rfl dX3_put_39 (rfl : 39 + 3 = 42) ?_
        refine r_geti hC 9 4 3 fw_X3_33 rfl dX3_put_42 (rfl : 42 + 3 = 45) ?_
        exact (sX3_put_45 rfl hC hk  Q  x1 x2 x3_9 (σ_7.1 9 3) σ_7 h).sub [1, 2, 3, 0] rfl
      · replace h := if_f h q
        refine r_aload_n hC 1 dX3_put_29 (rfl : 29 + 1 = 30) rfl rfl ?_
        refine r_getr hC 8 3 1 13 (o := 5) fw_X3_18 rfl rfl dX3_put_30 (rfl : 30 + 3 = 33) ?_
        refine r_iload_n hC 0 dX3_put_33 (rfl : 33 + 1 = 34) rfl rfl ?_
        obtain ⟨q_11, h⟩ := h
        refine r_iald hC 13 rfl q_11 dX3_put_34 (rfl : 34 + 1 = 35) ?_
        refine r_goto hC dX3_put_35 (tgt := 45) (by decide) ?_
        exact (sX3_put_45 rfl hC hk  Q  x1 x2 x3_9 (σ_7.1 13 (Int32.toNatClampNeg x3_9)) σ_7 h).sub [1, 2, 3, 0] rfl
    · replace h := if_f h q
      exact r_vret hC rfl h dX3_put_20
set_option maxHeartbeats 1000000 in
set_option maxRecDepth 100000 in
theorem sX4_fold_148 {G : Gx} {b k : Nat} {K : Kx} {l : Launch} (hl : K.2.1 = l) (hC : Cx YC G b K cX4_fold RX4 7 (some .boolean) k)  (hk : 2 ≤ k)  (Q : Int32 → Sg → Prop)  (q0 : Nat) (x1 : Int32) (x6 : Int32) (σ : Sg) (h : wX4_fold_148  q0 x1 x6 σ Q) : V YC G K (Zi YC G K Q) 7 σ 148 [(0, .ref (G.1 q0)), (1, .int x1), (6, .int x6)] [] := by
  subst hl
  unfold wX4_fold_148 at h
  refine r_aload_n hC 0 dX4_fold_148 (rfl : 148 + 1 = 149) rfl rfl ?_
  refine r_iload_n hC 1 dX4_fold_149 (rfl : 149 + 1 = 150) rfl rfl ?_
  refine r_iload hC 2 dX4_fold_150 (rfl : 150 + 2 = 152) rfl ?_
  obtain ⟨ty_1, h⟩ := h
  refine r_callVv hC cs_X4_43 ty_1 (by omega) (mX5_endAsNumber hC.2.2.2.2.2.2.2.2.1 (k := k - 1) (by omega) q0 x1 x6 σ _ h) rfl rfl (Nat.le_of_ble_eq_true rfl) dX4_fold_152 (rfl : 152 + 3 = 155) (fun  σ_2 h => ?_)
  refine r_iconst hC dX4_fold_155 (rfl : 155 + 1 = 156) (v := 1) (by decide) ?_
  exact r_zret hC rfl (by decide) h dX4_fold_156
set_option maxHeartbeats 1000000 in
set_option maxRecDepth 100000 in
theorem sX4_fold_132 {G : Gx} {b k : Nat} {K : Kx} {l : Launch} (hl : K.2.1 = l) (hC : Cx YC G b K cX4_fold RX4 7 (some .boolean) k)  (hk : 2 ≤ k)  (Q : Int32 → Sg → Prop)  (q0 : Nat) (x1 : Int32) (x2 : Int32) (x3 : Int32) (x6 : Int32) (σ : Sg) (h : wX4_fold_132  q0 x1 x2 x3 x6 σ Q) : V YC G K (Zi YC G K Q) 7 σ 132 [(0, .ref (G.1 q0)), (1, .int x1), (2, .int x2), (3, .int x3), (6, .int x6)] [] := by
  subst hl
  unfold wX4_fold_132 at h
  refine r_iload_n hC 3 dX4_fold_132 (rfl : 132 + 1 = 133) rfl rfl ?_
  refine r_bipush hC dX4_fold_133 (rfl : 133 + 2 = 135) (v := 6) (by decide) ?_
  refine r_icmp_ne hC dX4_fold_135 (rfl : 135 + 3 = 138) (tgt := 148) (by decide) (fun q => ?_) (fun q => ?_)
  · replace h := if_f h q
    exact (sX4_fold_148 rfl hC hk  Q  q0 x1 x6 σ h).sub [0, 1, 4] rfl
  · replace h := if_t h q
    refine r_iload_n hC 2 dX4_fold_138 (rfl : 138 + 1 = 139) rfl rfl ?_
    refine r_iconst hC dX4_fold_139 (rfl : 139 + 1 = 140) (v := 2) (by decide) ?_
    refine r_icmp_ne hC dX4_fold_140 (rfl : 140 + 3 = 143) (tgt := 148) (by decide) (fun q => ?_) (fun q => ?_)
    · replace h := if_f h q
      exact (sX4_fold_148 rfl hC hk  Q  q0 x1 x6 σ h).sub [0, 1, 4] rfl
    · replace h := if_t h q
      refine r_iload hC 4 dX4_fold_143 (rfl : 143 + 2 = 145) rfl ?_
      refine r_i2s hC dX4_fold_145 (rfl : 145 + 1 = 146) ?_
      obtain ⟨x6_3, e_4, h⟩ := lt_nm h
      refine r_istore hC dX4_fold_146 (rfl : 146 + 2 = 148) (by decide) e_4 (lv2 := [(6, .int x6_3), (0, .ref (G.1 q0)), (1, .int x1), (2, .int x2), (3, .int x3)]) rfl ?_
      exact (sX4_fold_148 rfl hC hk  Q  q0 x1 x6_3 σ h).sub [1, 2, 0] rfl
set_option maxHeartbeats 1000000 in
set_option maxRecDepth 100000 in
theorem sX4_fold_86 {G : Gx} {b k : Nat} {K : Kx} {l : Launch} (hl : K.2.1 = l) (hC : Cx YC G b K cX4_fold RX4 7 (some .boolean) k)  (hk : 2 ≤ k)  (Q : Int32 → Sg → Prop)  (q0 : Nat) (x1 : Int32) (x2 : Int32) (x3 : Int32) (x4 : Int32) (x5 : Int32) (σ : Sg) (h : wX4_fold_86  q0 x1 x2 x3 x4 x5 σ Q) : V YC G K (Zi YC G K Q) 7 σ 86 [(0, .ref (G.1 q0)), (1, .int x1), (2, .int x2), (3, .int x3), (4, .int x4), (5, .int x5)] [] := by
  subst hl
  unfold wX4_fold_86 at h
  refine r_iload_n hC 3 dX4_fold_86 (rfl : 86 + 1 = 87) rfl rfl ?_
  refine r_aload_n hC 0 dX4_fold_87 (rfl : 87 + 1 = 88) rfl rfl ?_
  refine r_iload hC 4 dX4_fold_88 (rfl : 88 + 2 = 90) rfl ?_
  obtain ⟨ty_5, h⟩ := h
  refine r_callVi hC cs_X4_40 ty_5 (by omega) (mX5_numberOf hC.2.2.2.2.2.2.2.2.1 (k := k - 1) (by omega) q0 x4 σ _ h) rfl rfl (Nat.le_of_ble_eq_true rfl) dX4_fold_90 (rfl : 90 + 3 = 93) (fun r_7 σ_6 h => ?_)
  refine r_aload_n hC 0 dX4_fold_93 (rfl : 93 + 1 = 94) rfl rfl ?_
  refine r_iload hC 5 dX4_fold_94 (rfl : 94 + 2 = 96) rfl ?_
  refine r_callVi hC cs_X4_40 ty_5 (by omega) (mX5_numberOf hC.2.2.2.2.2.2.2.2.1 (k := k - 1) (by omega) q0 x5 σ_6 _ h) rfl rfl (Nat.le_of_ble_eq_true rfl) dX4_fold_96 (rfl : 96 + 3 = 99) (fun r_9 σ_8 h => ?_)
  refine r_callSi hC cs_X4_50 (by omega) (mX7_combine hC.2.2.2.2.2.2.2.2.1 (k := k - 1) (by omega) x3 r_7 r_9 σ_8 _ h) rfl rfl (Nat.le_of_ble_eq_true rfl) dX4_fold_99 (rfl : 99 + 3 = 102) (fun r_11 σ_10 h => ?_)
  refine r_istore hC dX4_fold_102 (rfl : 102 + 2 = 104) (by decide) rfl (lv2 := [(6, .int r_11), (0, .ref (G.1 q0)), (1, .int x1), (2, .int x2), (3, .int x3), (4, .int x4), (5, .int x5)]) rfl ?_
  refine r_iload_n hC 4 dX4_fold_104 (rfl : 104 + 1 = 105) rfl rfl ?_
  refine r_iconst hC dX4_fold_105 (rfl : 105 + 1 = 106) (v := 5) (by decide) ?_
  refine r_icmp_ne hC dX4_fold_106 (rfl : 106 + 3 = 109) (tgt := 132) (by decide) (fun q => ?_) (fun q => ?_)
  · replace h := if_f h q
    exact (sX4_fold_132 rfl hC hk  Q  q0 x1 x2 x3 r_11 σ_10 h).sub [1, 2, 3, 4, 0] rfl
  · replace h := if_t h q
    refine r_iload_n hC 3 dX4_fold_109 (rfl : 109 + 1 = 110) rfl rfl ?_
    refine r_iconst hC dX4_fold_110 (rfl : 110 + 1 = 111) (v := 1) (by decide) ?_
    refine r_icmp_ne hC dX4_fold_111 (rfl : 111 + 3 = 114) (tgt := 132) (by decide) (fun q => ?_) (fun q => ?_)
    · replace h := if_f h q
      exact (sX4_fold_132 rfl hC hk  Q  q0 x1 x2 x3 r_11 σ_10 h).sub [1, 2, 3, 4, 0] rfl
    · replace h := if_t h q
      refine r_aload_n hC 1 dX4_fold_114 (rfl : 114 + 1 = 115) rfl rfl ?_
      refine r_iload hC 6 dX4_fold_115 (rfl : 115 + 2 = 117) rfl ?_
      refine r_callVi hC cs_X4_40 ty_5 (by omega) (mX5_numberOf hC.2.2.2.2.2.2.2.2.1 (k := k - 1) (by omega) q0 x5 σ_10 _ h) rfl rfl (Nat.le_of_ble_eq_true rfl) dX4_fold_117 (rfl : 117 + 3 = 120) (fun r_13 σ_12 h => ?_)
      refine r_aload_n hC 1 dX4_fold_120 (rfl : 120 + 1 = 121) rfl rfl ?_
      refine r_iload hC 5 dX4_fold_121 (rfl : 121 + 2 = 123) rfl ?_
      refine r_callVi hC cs_X4_40 ty_5 (by omega) (mX5_numberOf hC.2.2.2.2.2.2.2.2.1 (k := k - 1) (by omega) q0 x4 σ_12 _ h) rfl rfl (Nat.le_of_ble_eq_true rfl) dX4_fold_123 (rfl : 123 + 3 = 126) (fun r_15 σ_14 h => ?_)
      refine r_isub hC dX4_fold_126 (rfl : 126 + 1 = 127) ?_
      obtain ⟨x6_16, e_17, h⟩ := lt_nm h
      refine r_istore hC dX4_fold_127 (rfl : 127 + 2 = 129) (by decide) e_17 (lv2 := [(6, .int x6_16), (0, .ref (G.1 q0)), (1, .int x1), (2, .int x2), (3, .int x3), (4, .int x4), (5, .int x5)]) rfl ?_
      refine r_goto hC dX4_fold_129 (tgt := 148) (by decide) ?_
      exact (sX4_fold_148 rfl hC hk  Q  q0 x1 x6_16 σ_14 h).sub [1, 2, 0] rfl
set_option maxHeartbeats 1000000 in
set_option maxRecDepth 100000 in
theorem mX4_fold {G : Gx} {b k : Nat} {l : Launch} (hS : Sok YC G)  (hk : 2 ≤ k) (q0 : Nat) (x1 : Int32) (x2 : Int32) (σ : Sg) (Q : Int32 → Sg → Prop) (h : wX4_fold  q0 x1 x2 σ Q) : Mi YC G b l yX4_fold cX4_fold 7 .boolean k [.ref (G.1 q0), .int x1, .int x2] σ Q := by
  refine enter hS (by decide +kernel) (Nat.le_of_ble_eq_true rfl) (lv := [(0, .ref (G.1 q0)), (1, .int x1), (2, .int x2)]) rfl (fun K hl hC => ?_)
  subst hl
  unfold wX4_fold at h
  show V YC G K (Zi YC G K Q) 7 σ 0 [(0, .ref (G.1 q0)), (1, .int x1), (2, .int x2)] []
  refine r_aload_n hC 0 dX4_fold_0 (rfl : 0 + 1 = 1) rfl rfl ?_
  refine r_iload_n hC 1 dX4_fold_1 (rfl : 1 + 1 = 2) rfl rfl ?_
  obtain ⟨ty_18, h⟩ := h
  refine r_callVi hC cs_X4_34 ty_18 (by omega) (mX5_kindOf hC.2.2.2.2.2.2.2.2.1 (k := k - 1) (by omega) q0 x1 σ _ h) rfl rfl (Nat.le_of_ble_eq_true rfl) dX4_fold_2 (rfl : 2 + 3 = 5) (fun r_20 σ_19 h => ?_)
  refine r_istore_n hC dX4_fold_5 (rfl : 5 + 1 = 6) rfl (by decide) rfl (lv2 := [(3, .int r_20), (0, .ref (G.1 q0)), (1, .int x1), (2, .int x2)]) rfl ?_
  refine r_iload_n hC 2 dX4_fold_6 (rfl : 6 + 1 = 7) rfl rfl ?_
  refine r_iconst hC dX4_fold_7 (rfl : 7 + 1 = 8) (v := 1) (by decide) ?_
  refine r_iadd hC dX4_fold_8 (rfl : 8 + 1 = 9) ?_
  obtain ⟨x4_21, e_22, h⟩ := lt_nm h
  refine r_istore hC dX4_fold_9 (rfl : 9 + 2 = 11) (by decide) e_22 (lv2 := [(4, .int x4_21), (3, .int r_20), (0, .ref (G.1 q0)), (1, .int x1), (2, .int x2)]) rfl ?_
  refine r_iload_n hC 1 dX4_fold_11 (rfl : 11 + 1 = 12) rfl rfl ?_
  refine r_iconst hC dX4_fold_12 (rfl : 12 + 1 = 13) (v := 3) (by decide) ?_
  refine r_icmp_lt hC dX4_fold_13 (rfl : 13 + 3 = 16) (tgt := 31) (by decide) (fun q => ?_) (fun q => ?_)
  · replace h := if_t h q
    refine r_iconst hC dX4_fold_31 (rfl : 31 + 1 = 32) (v := 0) (by decide) ?_
    exact r_zret hC rfl (by decide) h dX4_fold_32
  · replace h := if_f h q
    refine r_iload_n hC 1 dX4_fold_16 (rfl : 16 + 1 = 17) rfl rfl ?_
    refine r_bipush hC dX4_fold_17 (rfl : 17 + 2 = 19) (v := 7) (by decide) ?_
    refine r_icmp_gt hC dX4_fold_19 (rfl : 19 + 3 = 22) (tgt := 31) (by decide) (fun q => ?_) (fun q => ?_)
    · replace h := if_t h q
      refine r_iconst hC dX4_fold_31 (rfl : 31 + 1 = 32) (v := 0) (by decide) ?_
      exact r_zret hC rfl (by decide) h dX4_fold_32
    · replace h := if_f h q
      refine r_aload_n hC 2 dX4_fold_22 (rfl : 22 + 1 = 23) rfl rfl ?_
      refine r_iload hC 0 dX4_fold_23 (rfl : 23 + 2 = 25) rfl ?_
      refine r_callVi hC cs_X4_34 ty_18 (by omega) (mX5_kindOf hC.2.2.2.2.2.2.2.2.1 (k := k - 1) (by omega) q0 x4_21 σ_19 _ h) rfl rfl (Nat.le_of_ble_eq_true rfl) dX4_fold_25 (rfl : 25 + 3 = 28) (fun r_24 σ_23 h => ?_)
      refine r_if_eq hC dX4_fold_28 (rfl : 28 + 3 = 31) (tgt := 33) (by decide) (fun q => ?_) (fun q => ?_)
      · replace h := if_t h q
        refine r_iload_n hC 1 dX4_fold_33 (rfl : 33 + 1 = 34) rfl rfl ?_
        refine r_iconst hC dX4_fold_34 (rfl : 34 + 1 = 35) (v := 3) (by decide) ?_
        refine r_icmp_ne hC dX4_fold_35 (rfl : 35 + 3 = 38) (tgt := 52) (by decide) (fun q => ?_) (fun q => ?_)
        · replace h := if_f h q
          refine r_aload_n hC 2 dX4_fold_52 (rfl : 52 + 1 = 53) rfl rfl ?_
          refine r_iload hC 0 dX4_fold_53 (rfl : 53 + 2 = 55) rfl ?_
          refine r_callVi hC cs_X4_47 ty_18 (by omega) (mX5_behind hC.2.2.2.2.2.2.2.2.1 (k := k - 1) (by omega) q0 x4_21 σ_23 _ h) rfl rfl (Nat.le_of_ble_eq_true rfl) dX4_fold_55 (rfl : 55 + 3 = 58) (fun r_26 σ_25 h => ?_)
          refine r_istore hC dX4_fold_58 (rfl : 58 + 2 = 60) (by decide) rfl (lv2 := [(5, .int r_26), (4, .int x4_21), (3, .int r_20), (0, .ref (G.1 q0)), (1, .int x1), (2, .int x2)]) rfl ?_
          refine r_aload_n hC 3 dX4_fold_60 (rfl : 60 + 1 = 61) rfl rfl ?_
          refine r_iload hC 0 dX4_fold_61 (rfl : 61 + 2 = 63) rfl ?_
          refine r_callVi hC cs_X4_34 ty_18 (by omega) (mX5_kindOf hC.2.2.2.2.2.2.2.2.1 (k := k - 1) (by omega) q0 r_26 σ_25 _ h) rfl rfl (Nat.le_of_ble_eq_true rfl) dX4_fold_63 (rfl : 63 + 3 = 66) (fun r_28 σ_27 h => ?_)
          refine r_if_ne hC dX4_fold_66 (rfl : 66 + 3 = 69) (tgt := 84) (by decide) (fun q => ?_) (fun q => ?_)
          · replace h := if_f h q
            refine r_iconst hC dX4_fold_84 (rfl : 84 + 1 = 85) (v := 0) (by decide) ?_
            exact r_zret hC rfl (by decide) h dX4_fold_85
          · replace h := if_t h q
            refine r_iload_n hC 2 dX4_fold_69 (rfl : 69 + 1 = 70) rfl rfl ?_
            refine r_bipush hC dX4_fold_70 (rfl : 70 + 2 = 72) (v := 7) (by decide) ?_
            refine r_icmp_ne hC dX4_fold_72 (rfl : 72 + 3 = 75) (tgt := 86) (by decide) (fun q => ?_) (fun q => ?_)
            · replace h := if_f h q
              exact (sX4_fold_86 rfl hC hk  Q  q0 x1 x2 r_20 x4_21 r_26 σ_27 h).sub [3, 4, 5, 2, 1, 0] rfl
            · replace h := if_t h q
              refine r_aload_n hC 3 dX4_fold_75 (rfl : 75 + 1 = 76) rfl rfl ?_
              refine r_iload hC 0 dX4_fold_76 (rfl : 76 + 2 = 78) rfl ?_
              refine r_callVi hC cs_X4_40 ty_18 (by omega) (mX5_numberOf hC.2.2.2.2.2.2.2.2.1 (k := k - 1) (by omega) q0 r_26 σ_27 _ h) rfl rfl (Nat.le_of_ble_eq_true rfl) dX4_fold_78 (rfl : 78 + 3 = 81) (fun r_30 σ_29 h => ?_)
              refine r_if_ne hC dX4_fold_81 (rfl : 81 + 3 = 84) (tgt := 86) (by decide) (fun q => ?_) (fun q => ?_)
              · replace h := if_f h q
                exact (sX4_fold_86 rfl hC hk  Q  q0 x1 x2 r_20 x4_21 r_26 σ_29 h).sub [3, 4, 5, 2, 1, 0] rfl
              · replace h := if_t h q
                refine r_iconst hC dX4_fold_84 (rfl : 84 + 1 = 85) (v := 0) (by decide) ?_
                exact r_zret hC rfl (by decide) h dX4_fold_85
        · replace h := if_t h q
          refine r_aload_n hC 2 dX4_fold_38 (rfl : 38 + 1 = 39) rfl rfl ?_
          refine r_iload_n hC 3 dX4_fold_39 (rfl : 39 + 1 = 40) rfl rfl ?_
          refine r_aload_n hC 2 dX4_fold_40 (rfl : 40 + 1 = 41) rfl rfl ?_
          refine r_iload hC 0 dX4_fold_41 (rfl : 41 + 2 = 43) rfl ?_
          refine r_callVi hC cs_X4_40 ty_18 (by omega) (mX5_numberOf hC.2.2.2.2.2.2.2.2.1 (k := k - 1) (by omega) q0 x4_21 σ_23 _ h) rfl rfl (Nat.le_of_ble_eq_true rfl) dX4_fold_43 (rfl : 43 + 3 = 46) (fun r_32 σ_31 h => ?_)
          refine r_ineg hC dX4_fold_46 (rfl : 46 + 1 = 47) ?_
          refine r_callVv hC cs_X4_43 ty_18 (by omega) (mX5_endAsNumber hC.2.2.2.2.2.2.2.2.1 (k := k - 1) (by omega) q0 x1 (-r_32) σ_31 _ h) rfl rfl (Nat.le_of_ble_eq_true rfl) dX4_fold_47 (rfl : 47 + 3 = 50) (fun  σ_33 h => ?_)
          refine r_iconst hC dX4_fold_50 (rfl : 50 + 1 = 51) (v := 1) (by decide) ?_
          exact r_zret hC rfl (by decide) h dX4_fold_51
      · replace h := if_f h q
        refine r_iconst hC dX4_fold_31 (rfl : 31 + 1 = 32) (v := 0) (by decide) ?_
        exact r_zret hC rfl (by decide) h dX4_fold_32
set_option maxHeartbeats 1000000 in
set_option maxRecDepth 100000 in
theorem mX4_staysOfTimes {G : Gx} {b k : Nat} {l : Launch} (hS : Sok YC G)  (hk : 1 ≤ k) (q0 : Nat) (x1 : Int32) (x2 : Int32) (x3 : Int32) (σ : Sg) (Q : Int32 → Sg → Prop) (h : wX4_staysOfTimes  q0 x1 x2 x3 σ Q) : Mi YC G b l yX4_staysOfTimes cX4_staysOfTimes 4 .int k [.ref (G.1 q0), .int x1, .int x2, .int x3] σ Q := by
  refine enter hS (by decide +kernel) (Nat.le_of_ble_eq_true rfl) (lv := [(0, .ref (G.1 q0)), (1, .int x1), (2, .int x2), (3, .int x3)]) rfl (fun K hl hC => ?_)
  subst hl
  unfold wX4_staysOfTimes at h
  show V YC G K (Zi YC G K Q) 4 σ 0 [(0, .ref (G.1 q0)), (1, .int x1), (2, .int x2), (3, .int x3)] []
  refine r_aload_n hC 0 dX4_staysOfTimes_0 (rfl : 0 + 1 = 1) rfl rfl ?_
  refine r_iload_n hC 2 dX4_staysOfTimes_1 (rfl : 1 + 1 = 2) rfl rfl ?_
  refine r_iconst hC dX4_staysOfTimes_2 (rfl : 2 + 1 = 3) (v := 1) (by decide) ?_
  obtain ⟨ty_1, h⟩ := h
  refine r_callVi hC cs_X4_54 ty_1 (by omega) (mX5_isNumber hC.2.2.2.2.2.2.2.2.1 (k := k - 1) (by omega) q0 x2 1 σ _ h) rfl rfl (Nat.le_of_ble_eq_true rfl) dX4_staysOfTimes_3 (rfl : 3 + 3 = 6) (fun r_3 σ_2 h => ?_)
  refine r_if_eq hC dX4_staysOfTimes_6 (rfl : 6 + 3 = 9) (tgt := 11) (by decide) (fun q => ?_) (fun q => ?_)
  · replace h := if_t h q
    refine r_aload_n hC 0 dX4_staysOfTimes_11 (rfl : 11 + 1 = 12) rfl rfl ?_
    refine r_iload_n hC 1 dX4_staysOfTimes_12 (rfl : 12 + 1 = 13) rfl rfl ?_
    refine r_iconst hC dX4_staysOfTimes_13 (rfl : 13 + 1 = 14) (v := 1) (by decide) ?_
    refine r_callVi hC cs_X4_54 ty_1 (by omega) (mX5_isNumber hC.2.2.2.2.2.2.2.2.1 (k := k - 1) (by omega) q0 x1 1 σ_2 _ h) rfl rfl (Nat.le_of_ble_eq_true rfl) dX4_staysOfTimes_14 (rfl : 14 + 3 = 17) (fun r_5 σ_4 h => ?_)
    refine r_if_eq hC dX4_staysOfTimes_17 (rfl : 17 + 3 = 20) (tgt := 22) (by decide) (fun q => ?_) (fun q => ?_)
    · replace h := if_t h q
      refine r_aload_n hC 0 dX4_staysOfTimes_22 (rfl : 22 + 1 = 23) rfl rfl ?_
      refine r_iload_n hC 2 dX4_staysOfTimes_23 (rfl : 23 + 1 = 24) rfl rfl ?_
      refine r_iconst hC dX4_staysOfTimes_24 (rfl : 24 + 1 = 25) (v := 0) (by decide) ?_
      refine r_callVi hC cs_X4_54 ty_1 (by omega) (mX5_isNumber hC.2.2.2.2.2.2.2.2.1 (k := k - 1) (by omega) q0 x2 0 σ_4 _ h) rfl rfl (Nat.le_of_ble_eq_true rfl) dX4_staysOfTimes_25 (rfl : 25 + 3 = 28) (fun r_7 σ_6 h => ?_)
      refine r_if_eq hC dX4_staysOfTimes_28 (rfl : 28 + 3 = 31) (tgt := 42) (by decide) (fun q => ?_) (fun q => ?_)
      · replace h := if_t h q
        refine r_aload_n hC 0 dX4_staysOfTimes_42 (rfl : 42 + 1 = 43) rfl rfl ?_
        refine r_iload_n hC 1 dX4_staysOfTimes_43 (rfl : 43 + 1 = 44) rfl rfl ?_
        refine r_iconst hC dX4_staysOfTimes_44 (rfl : 44 + 1 = 45) (v := 0) (by decide) ?_
        refine r_callVi hC cs_X4_54 ty_1 (by omega) (mX5_isNumber hC.2.2.2.2.2.2.2.2.1 (k := k - 1) (by omega) q0 x1 0 σ_6 _ h) rfl rfl (Nat.le_of_ble_eq_true rfl) dX4_staysOfTimes_45 (rfl : 45 + 3 = 48) (fun r_9 σ_8 h => ?_)
        refine r_if_eq hC dX4_staysOfTimes_48 (rfl : 48 + 3 = 51) (tgt := 62) (by decide) (fun q => ?_) (fun q => ?_)
        · replace h := if_t h q
          refine r_iconst hC dX4_staysOfTimes_62 (rfl : 62 + 1 = 63) (v := -1) (by decide) ?_
          exact r_iret hC rfl h dX4_staysOfTimes_63
        · replace h := if_f h q
          refine r_iload_n hC 3 dX4_staysOfTimes_51 (rfl : 51 + 1 = 52) rfl rfl ?_
          refine r_iconst hC dX4_staysOfTimes_52 (rfl : 52 + 1 = 53) (v := 2) (by decide) ?_
          refine r_icmp_ne hC dX4_staysOfTimes_53 (rfl : 53 + 3 = 56) (tgt := 60) (by decide) (fun q => ?_) (fun q => ?_)
          · replace h := if_f h q
            refine r_iload_n hC 1 dX4_staysOfTimes_60 (rfl : 60 + 1 = 61) rfl rfl ?_
            exact r_iret hC rfl h dX4_staysOfTimes_61
          · replace h := if_t h q
            refine r_iload_n hC 2 dX4_staysOfTimes_56 (rfl : 56 + 1 = 57) rfl rfl ?_
            refine r_goto hC dX4_staysOfTimes_57 (tgt := 61) (by decide) ?_
            exact r_iret hC rfl h dX4_staysOfTimes_61
      · replace h := if_f h q
        refine r_iload_n hC 3 dX4_staysOfTimes_31 (rfl : 31 + 1 = 32) rfl rfl ?_
        refine r_iconst hC dX4_staysOfTimes_32 (rfl : 32 + 1 = 33) (v := 2) (by decide) ?_
        refine r_icmp_ne hC dX4_staysOfTimes_33 (rfl : 33 + 3 = 36) (tgt := 40) (by decide) (fun q => ?_) (fun q => ?_)
        · replace h := if_f h q
          refine r_iload_n hC 2 dX4_staysOfTimes_40 (rfl : 40 + 1 = 41) rfl rfl ?_
          exact r_iret hC rfl h dX4_staysOfTimes_41
        · replace h := if_t h q
          refine r_iload_n hC 1 dX4_staysOfTimes_36 (rfl : 36 + 1 = 37) rfl rfl ?_
          refine r_goto hC dX4_staysOfTimes_37 (tgt := 41) (by decide) ?_
          exact r_iret hC rfl h dX4_staysOfTimes_41
    · replace h := if_f h q
      refine r_iload_n hC 2 dX4_staysOfTimes_20 (rfl : 20 + 1 = 21) rfl rfl ?_
      exact r_iret hC rfl h dX4_staysOfTimes_21
  · replace h := if_f h q
    refine r_iload_n hC 1 dX4_staysOfTimes_9 (rfl : 9 + 1 = 10) rfl rfl ?_
    exact r_iret hC rfl h dX4_staysOfTimes_10
set_option maxHeartbeats 1000000 in
set_option maxRecDepth 100000 in
theorem mX4_isAlike {G : Gx} {b k : Nat} {l : Launch} (hS : Sok YC G)  (hk : 1 ≤ k) (q0 : Nat) (x1 : Int32) (x2 : Int32) (σ : Sg) (Q : Int32 → Sg → Prop) (h : wX4_isAlike  q0 x1 x2 σ Q) : Mi YC G b l yX4_isAlike cX4_isAlike 3 .boolean k [.ref (G.1 q0), .int x1, .int x2] σ Q := by
  refine enter hS (by decide +kernel) (Nat.le_of_ble_eq_true rfl) (lv := [(0, .ref (G.1 q0)), (1, .int x1), (2, .int x2)]) rfl (fun K hl hC => ?_)
  subst hl
  unfold wX4_isAlike at h
  show V YC G K (Zi YC G K Q) 3 σ 0 [(0, .ref (G.1 q0)), (1, .int x1), (2, .int x2)] []
  refine r_aload_n hC 0 dX4_isAlike_0 (rfl : 0 + 1 = 1) rfl rfl ?_
  refine r_iload_n hC 1 dX4_isAlike_1 (rfl : 1 + 1 = 2) rfl rfl ?_
  obtain ⟨ty_1, h⟩ := h
  refine r_callVi hC cs_X4_34 ty_1 (by omega) (mX5_kindOf hC.2.2.2.2.2.2.2.2.1 (k := k - 1) (by omega) q0 x1 σ _ h) rfl rfl (Nat.le_of_ble_eq_true rfl) dX4_isAlike_2 (rfl : 2 + 3 = 5) (fun r_3 σ_2 h => ?_)
  refine r_aload_n hC 0 dX4_isAlike_5 (rfl : 5 + 1 = 6) rfl rfl ?_
  refine r_iload_n hC 2 dX4_isAlike_6 (rfl : 6 + 1 = 7) rfl rfl ?_
  refine r_callVi hC cs_X4_34 ty_1 (by omega) (mX5_kindOf hC.2.2.2.2.2.2.2.2.1 (k := k - 1) (by omega) q0 x2 σ_2 _ h) rfl rfl (Nat.le_of_ble_eq_true rfl) dX4_isAlike_7 (rfl : 7 + 3 = 10) (fun r_5 σ_4 h => ?_)
  refine r_icmp_ne hC dX4_isAlike_10 (rfl : 10 + 3 = 13) (tgt := 43) (by decide) (fun q => ?_) (fun q => ?_)
  · replace h := if_f h q
    refine r_iconst hC dX4_isAlike_43 (rfl : 43 + 1 = 44) (v := 0) (by decide) ?_
    exact r_zret hC rfl (by decide) h dX4_isAlike_44
  · replace h := if_t h q
    refine r_aload_n hC 0 dX4_isAlike_13 (rfl : 13 + 1 = 14) rfl rfl ?_
    refine r_iload_n hC 1 dX4_isAlike_14 (rfl : 14 + 1 = 15) rfl rfl ?_
    refine r_callVi hC cs_X4_40 ty_1 (by omega) (mX5_numberOf hC.2.2.2.2.2.2.2.2.1 (k := k - 1) (by omega) q0 x1 σ_4 _ h) rfl rfl (Nat.le_of_ble_eq_true rfl) dX4_isAlike_15 (rfl : 15 + 3 = 18) (fun r_7 σ_6 h => ?_)
    refine r_aload_n hC 0 dX4_isAlike_18 (rfl : 18 + 1 = 19) rfl rfl ?_
    refine r_iload_n hC 2 dX4_isAlike_19 (rfl : 19 + 1 = 20) rfl rfl ?_
    refine r_callVi hC cs_X4_40 ty_1 (by omega) (mX5_numberOf hC.2.2.2.2.2.2.2.2.1 (k := k - 1) (by omega) q0 x2 σ_6 _ h) rfl rfl (Nat.le_of_ble_eq_true rfl) dX4_isAlike_20 (rfl : 20 + 3 = 23) (fun r_9 σ_8 h => ?_)
    refine r_icmp_ne hC dX4_isAlike_23 (rfl : 23 + 3 = 26) (tgt := 43) (by decide) (fun q => ?_) (fun q => ?_)
    · replace h := if_f h q
      refine r_iconst hC dX4_isAlike_43 (rfl : 43 + 1 = 44) (v := 0) (by decide) ?_
      exact r_zret hC rfl (by decide) h dX4_isAlike_44
    · replace h := if_t h q
      refine r_aload_n hC 0 dX4_isAlike_26 (rfl : 26 + 1 = 27) rfl rfl ?_
      refine r_iload_n hC 1 dX4_isAlike_27 (rfl : 27 + 1 = 28) rfl rfl ?_
      refine r_callVi hC cs_X4_71 ty_1 (by omega) (mX5_sizeOf hC.2.2.2.2.2.2.2.2.1 (k := k - 1) (by omega) q0 x1 σ_8 _ h) rfl rfl (Nat.le_of_ble_eq_true rfl) dX4_isAlike_28 (rfl : 28 + 3 = 31) (fun r_11 σ_10 h => ?_)
      refine r_aload_n hC 0 dX4_isAlike_31 (rfl : 31 + 1 = 32) rfl rfl ?_
      refine r_iload_n hC 2 dX4_isAlike_32 (rfl : 32 + 1 = 33) rfl rfl ?_
      refine r_callVi hC cs_X4_71 ty_1 (by omega) (mX5_sizeOf hC.2.2.2.2.2.2.2.2.1 (k := k - 1) (by omega) q0 x2 σ_10 _ h) rfl rfl (Nat.le_of_ble_eq_true rfl) dX4_isAlike_33 (rfl : 33 + 3 = 36) (fun r_13 σ_12 h => ?_)
      refine r_icmp_ne hC dX4_isAlike_36 (rfl : 36 + 3 = 39) (tgt := 43) (by decide) (fun q => ?_) (fun q => ?_)
      · replace h := if_f h q
        refine r_iconst hC dX4_isAlike_43 (rfl : 43 + 1 = 44) (v := 0) (by decide) ?_
        exact r_zret hC rfl (by decide) h dX4_isAlike_44
      · replace h := if_t h q
        refine r_iconst hC dX4_isAlike_39 (rfl : 39 + 1 = 40) (v := 1) (by decide) ?_
        refine r_goto hC dX4_isAlike_40 (tgt := 44) (by decide) ?_
        exact r_zret hC rfl (by decide) h dX4_isAlike_44
set_option maxHeartbeats 1000000 in
set_option maxRecDepth 100000 in
theorem sX4_pick_86 {G : Gx} {b k : Nat} {K : Kx} {l : Launch} (hl : K.2.1 = l) (hC : Cx YC G b K cX4_pick RX4 7 (some .boolean) k)  (hk : 2 ≤ k)  (Q : Int32 → Sg → Prop)  (s0 : Nat) (s1 : Int32) (s2 : Int32) (σ : Sg) (h : wX4_pick_86  s0 s1 s2 σ Q) : V YC G K (Zi YC G K Q) 7 σ 86 [] [.int s2, .int s1, .ref (G.1 s0)] := by
  subst hl
  unfold wX4_pick_86 at h
  obtain ⟨ty_1, h⟩ := h
  refine r_callVv hC cs_X4_62 ty_1 (by omega) (mX5_endAsPart hC.2.2.2.2.2.2.2.2.1 (k := k - 1) (by omega) s0 s1 s2 σ _ h) rfl rfl (Nat.le_of_ble_eq_true rfl) dX4_pick_86 (rfl : 86 + 3 = 89) (fun  σ_2 h => ?_)
  refine r_iconst hC dX4_pick_89 (rfl : 89 + 1 = 90) (v := 1) (by decide) ?_
  exact r_zret hC rfl (by decide) h dX4_pick_90
set_option maxHeartbeats 1000000 in
set_option maxRecDepth 100000 in
theorem sX4_pick_66 {G : Gx} {b k : Nat} {K : Kx} {l : Launch} (hl : K.2.1 = l) (hC : Cx YC G b K cX4_pick RX4 7 (some .boolean) k)  (hk : 2 ≤ k)  (Q : Int32 → Sg → Prop)  (q0 : Nat) (x1 : Int32) (x4 : Int32) (s0 : Int32) (σ : Sg) (h : wX4_pick_66  q0 x1 x4 s0 σ Q) : V YC G K (Zi YC G K Q) 7 σ 66 [(0, .ref (G.1 q0)), (1, .int x1), (4, .int x4)] [.int s0] := by
  subst hl
  unfold wX4_pick_66 at h
  refine r_istore hC dX4_pick_66 (rfl : 66 + 2 = 68) (by decide) rfl (lv2 := [(6, .int s0), (0, .ref (G.1 q0)), (1, .int x1), (4, .int x4)]) rfl ?_
  refine r_aload_n hC 1 dX4_pick_68 (rfl : 68 + 1 = 69) rfl rfl ?_
  refine r_iload_n hC 2 dX4_pick_69 (rfl : 69 + 1 = 70) rfl rfl ?_
  refine r_iload hC 0 dX4_pick_70 (rfl : 70 + 2 = 72) rfl ?_
  refine r_if_eq hC dX4_pick_72 (rfl : 72 + 3 = 75) (tgt := 80) (by decide) (fun q => ?_) (fun q => ?_)
  · replace h := if_t h q
    refine r_aload_n hC 1 dX4_pick_80 (rfl : 80 + 1 = 81) rfl rfl ?_
    refine r_iload hC 3 dX4_pick_81 (rfl : 81 + 2 = 83) rfl ?_
    obtain ⟨ty_3, h⟩ := h
    refine r_callVi hC cs_X4_47 ty_3 (by omega) (mX5_behind hC.2.2.2.2.2.2.2.2.1 (k := k - 1) (by omega) q0 x4 σ _ h) rfl rfl (Nat.le_of_ble_eq_true rfl) dX4_pick_83 (rfl : 83 + 3 = 86) (fun r_5 σ_4 h => ?_)
    exact (sX4_pick_86 rfl hC hk  Q  q0 x1 r_5 σ_4 h).sub [] rfl
  · replace h := if_f h q
    refine r_iload hC 3 dX4_pick_75 (rfl : 75 + 2 = 77) rfl ?_
    refine r_goto hC dX4_pick_77 (tgt := 86) (by decide) ?_
    exact (sX4_pick_86 rfl hC hk  Q  q0 x1 x4 σ h).sub [] rfl
set_option maxHeartbeats 1000000 in
set_option maxRecDepth 100000 in
theorem sX4_pick_65 {G : Gx} {b k : Nat} {K : Kx} {l : Launch} (hl : K.2.1 = l) (hC : Cx YC G b K cX4_pick RX4 7 (some .boolean) k)  (hk : 2 ≤ k)  (Q : Int32 → Sg → Prop)  (q0 : Nat) (x1 : Int32) (x4 : Int32) (σ : Sg) (h : wX4_pick_65  q0 x1 x4 σ Q) : V YC G K (Zi YC G K Q) 7 σ 65 [(0, .ref (G.1 q0)), (1, .int x1), (4, .int x4)] [] := by
  subst hl
  unfold wX4_pick_65 at h
  refine r_iconst hC dX4_pick_65 (rfl : 65 + 1 = 66) (v := 0) (by decide) ?_
  exact (sX4_pick_66 rfl hC hk  Q  q0 x1 x4 0 σ h).sub [0, 1, 2] rfl
set_option maxHeartbeats 1000000 in
set_option maxRecDepth 100000 in
theorem sX4_pick_61 {G : Gx} {b k : Nat} {K : Kx} {l : Launch} (hl : K.2.1 = l) (hC : Cx YC G b K cX4_pick RX4 7 (some .boolean) k)  (hk : 2 ≤ k)  (Q : Int32 → Sg → Prop)  (q0 : Nat) (x1 : Int32) (x4 : Int32) (σ : Sg) (h : wX4_pick_61  q0 x1 x4 σ Q) : V YC G K (Zi YC G K Q) 7 σ 61 [(0, .ref (G.1 q0)), (1, .int x1), (4, .int x4)] [] := by
  subst hl
  unfold wX4_pick_61 at h
  refine r_iconst hC dX4_pick_61 (rfl : 61 + 1 = 62) (v := 1) (by decide) ?_
  refine r_goto hC dX4_pick_62 (tgt := 66) (by decide) ?_
  exact (sX4_pick_66 rfl hC hk  Q  q0 x1 x4 1 σ h).sub [0, 1, 2] rfl
set_option maxHeartbeats 1000000 in
set_option maxRecDepth 100000 in
theorem mX4_pick {G : Gx} {b k : Nat} {l : Launch} (hS : Sok YC G)  (hk : 2 ≤ k) (q0 : Nat) (x1 : Int32) (x2 : Int32) (σ : Sg) (Q : Int32 → Sg → Prop) (h : wX4_pick  q0 x1 x2 σ Q) : Mi YC G b l yX4_pick cX4_pick 7 .boolean k [.ref (G.1 q0), .int x1, .int x2] σ Q := by
  refine enter hS (by decide +kernel) (Nat.le_of_ble_eq_true rfl) (lv := [(0, .ref (G.1 q0)), (1, .int x1), (2, .int x2)]) rfl (fun K hl hC => ?_)
  subst hl
  unfold wX4_pick at h
  show V YC G K (Zi YC G K Q) 7 σ 0 [(0, .ref (G.1 q0)), (1, .int x1), (2, .int x2)] []
  refine r_iload_n hC 1 dX4_pick_0 (rfl : 0 + 1 = 1) rfl rfl ?_
  refine r_iconst hC dX4_pick_1 (rfl : 1 + 1 = 2) (v := 1) (by decide) ?_
  refine r_iadd hC dX4_pick_2 (rfl : 2 + 1 = 3) ?_
  obtain ⟨x3_6, e_7, h⟩ := lt_nm h
  refine r_istore_n hC dX4_pick_3 (rfl : 3 + 1 = 4) rfl (by decide) e_7 (lv2 := [(3, .int x3_6), (0, .ref (G.1 q0)), (1, .int x1), (2, .int x2)]) rfl ?_
  refine r_aload_n hC 1 dX4_pick_4 (rfl : 4 + 1 = 5) rfl rfl ?_
  refine r_iload_n hC 2 dX4_pick_5 (rfl : 5 + 1 = 6) rfl rfl ?_
  obtain ⟨ty_8, h⟩ := h
  refine r_callVi hC cs_X4_34 ty_8 (by omega) (mX5_kindOf hC.2.2.2.2.2.2.2.2.1 (k := k - 1) (by omega) q0 x1 σ _ h) rfl rfl (Nat.le_of_ble_eq_true rfl) dX4_pick_6 (rfl : 6 + 3 = 9) (fun r_10 σ_9 h => ?_)
  refine r_bipush hC dX4_pick_9 (rfl : 9 + 2 = 11) (v := 8) (by decide) ?_
  refine r_icmp_ne hC dX4_pick_11 (rfl : 11 + 3 = 14) (tgt := 22) (by decide) (fun q => ?_) (fun q => ?_)
  · replace h := if_f h q
    refine r_iconst hC dX4_pick_22 (rfl : 22 + 1 = 23) (v := 0) (by decide) ?_
    exact r_zret hC rfl (by decide) h dX4_pick_23
  · replace h := if_t h q
    refine r_aload_n hC 1 dX4_pick_14 (rfl : 14 + 1 = 15) rfl rfl ?_
    refine r_iload_n hC 0 dX4_pick_15 (rfl : 15 + 1 = 16) rfl rfl ?_
    refine r_callVi hC cs_X4_34 ty_8 (by omega) (mX5_kindOf hC.2.2.2.2.2.2.2.2.1 (k := k - 1) (by omega) q0 x3_6 σ_9 _ h) rfl rfl (Nat.le_of_ble_eq_true rfl) dX4_pick_16 (rfl : 16 + 3 = 19) (fun r_12 σ_11 h => ?_)
    refine r_if_eq hC dX4_pick_19 (rfl : 19 + 3 = 22) (tgt := 24) (by decide) (fun q => ?_) (fun q => ?_)
    · replace h := if_t h q
      refine r_aload_n hC 1 dX4_pick_24 (rfl : 24 + 1 = 25) rfl rfl ?_
      refine r_iload_n hC 0 dX4_pick_25 (rfl : 25 + 1 = 26) rfl rfl ?_
      refine r_callVi hC cs_X4_47 ty_8 (by omega) (mX5_behind hC.2.2.2.2.2.2.2.2.1 (k := k - 1) (by omega) q0 x3_6 σ_11 _ h) rfl rfl (Nat.le_of_ble_eq_true rfl) dX4_pick_26 (rfl : 26 + 3 = 29) (fun r_14 σ_13 h => ?_)
      refine r_istore hC dX4_pick_29 (rfl : 29 + 2 = 31) (by decide) rfl (lv2 := [(4, .int r_14), (3, .int x3_6), (0, .ref (G.1 q0)), (1, .int x1), (2, .int x2)]) rfl ?_
      refine r_aload_n hC 2 dX4_pick_31 (rfl : 31 + 1 = 32) rfl rfl ?_
      refine r_iload_n hC 1 dX4_pick_32 (rfl : 32 + 1 = 33) rfl rfl ?_
      refine r_callVi hC cs_X4_40 ty_8 (by omega) (mX5_numberOf hC.2.2.2.2.2.2.2.2.1 (k := k - 1) (by omega) q0 x3_6 σ_13 _ h) rfl rfl (Nat.le_of_ble_eq_true rfl) dX4_pick_33 (rfl : 33 + 3 = 36) (fun r_16 σ_15 h => ?_)
      refine r_istore hC dX4_pick_36 (rfl : 36 + 2 = 38) (by decide) rfl (lv2 := [(5, .int r_16), (4, .int r_14), (3, .int x3_6), (0, .ref (G.1 q0)), (1, .int x1), (2, .int x2)]) rfl ?_
      refine r_iload_n hC 5 dX4_pick_38 (rfl : 38 + 1 = 39) rfl rfl ?_
      refine r_iconst hC dX4_pick_39 (rfl : 39 + 1 = 40) (v := 2) (by decide) ?_
      refine r_icmp_eq hC dX4_pick_40 (rfl : 40 + 3 = 43) (tgt := 61) (by decide) (fun q => ?_) (fun q => ?_)
      · replace h := if_t h q
        exact (sX4_pick_61 rfl hC hk  Q  q0 x1 r_14 σ_15 h).sub [3, 4, 1] rfl
      · replace h := if_f h q
        refine r_iload_n hC 5 dX4_pick_43 (rfl : 43 + 1 = 44) rfl rfl ?_
        refine r_iconst hC dX4_pick_44 (rfl : 44 + 1 = 45) (v := 1) (by decide) ?_
        refine r_icmp_ne hC dX4_pick_45 (rfl : 45 + 3 = 48) (tgt := 56) (by decide) (fun q => ?_) (fun q => ?_)
        · replace h := if_f h q
          refine r_iload hC 0 dX4_pick_56 (rfl : 56 + 2 = 58) rfl ?_
          refine r_if_eq hC dX4_pick_58 (rfl : 58 + 3 = 61) (tgt := 65) (by decide) (fun q => ?_) (fun q => ?_)
          · replace h := if_t h q
            exact (sX4_pick_65 rfl hC hk  Q  q0 x1 r_14 σ_15 h).sub [3, 4, 1] rfl
          · replace h := if_f h q
            exact (sX4_pick_61 rfl hC hk  Q  q0 x1 r_14 σ_15 h).sub [3, 4, 1] rfl
        · replace h := if_t h q
          refine r_iload hC 0 dX4_pick_48 (rfl : 48 + 2 = 50) rfl ?_
          refine r_if_le hC dX4_pick_50 (rfl : 50 + 3 = 53) (tgt := 65) (by decide) (fun q => ?_) (fun q => ?_)
          · replace h := if_t h q
            exact (sX4_pick_65 rfl hC hk  Q  q0 x1 r_14 σ_15 h).sub [3, 4, 1] rfl
          · replace h := if_f h q
            refine r_goto hC dX4_pick_53 (tgt := 61) (by decide) ?_
            exact (sX4_pick_61 rfl hC hk  Q  q0 x1 r_14 σ_15 h).sub [3, 4, 1] rfl
    · replace h := if_f h q
      refine r_iconst hC dX4_pick_22 (rfl : 22 + 1 = 23) (v := 0) (by decide) ?_
      exact r_zret hC rfl (by decide) h dX4_pick_23
set_option maxHeartbeats 1000000 in
set_option maxRecDepth 100000 in
theorem sX4_melt_91 {G : Gx} {b k : Nat} {K : Kx} {l : Launch} (hl : K.2.1 = l) (hC : Cx YC G b K cX4_melt RX4 7 (some .boolean) k)  (hk : 2 ≤ k)  (Q : Int32 → Sg → Prop)  (q0 : Nat) (x1 : Int32) (x4 : Int32) (σ : Sg) (h : wX4_melt_91  q0 x1 x4 σ Q) : V YC G K (Zi YC G K Q) 7 σ 91 [(0, .ref (G.1 q0)), (1, .int x1), (4, .int x4)] [] := by
  subst hl
  unfold wX4_melt_91 at h
  refine r_aload_n hC 0 dX4_melt_91 (rfl : 91 + 1 = 92) rfl rfl ?_
  refine r_iload_n hC 1 dX4_melt_92 (rfl : 92 + 1 = 93) rfl rfl ?_
  refine r_iload hC 2 dX4_melt_93 (rfl : 93 + 2 = 95) rfl ?_
  obtain ⟨ty_1, h⟩ := h
  refine r_callVv hC cs_X4_62 ty_1 (by omega) (mX5_endAsPart hC.2.2.2.2.2.2.2.2.1 (k := k - 1) (by omega) q0 x1 x4 σ _ h) rfl rfl (Nat.le_of_ble_eq_true rfl) dX4_melt_95 (rfl : 95 + 3 = 98) (fun  σ_2 h => ?_)
  refine r_iconst hC dX4_melt_98 (rfl : 98 + 1 = 99) (v := 1) (by decide) ?_
  exact r_zret hC rfl (by decide) h dX4_melt_99
set_option maxHeartbeats 1000000 in
set_option maxRecDepth 100000 in
theorem sX4_melt_67 {G : Gx} {b k : Nat} {K : Kx} {l : Launch} (hl : K.2.1 = l) (hC : Cx YC G b K cX4_melt RX4 7 (some .boolean) k)  (hk : 2 ≤ k)  (Q : Int32 → Sg → Prop)  (q0 : Nat) (x1 : Int32) (x2 : Int32) (x3 : Int32) (x4 : Int32) (s0 : Int32) (σ : Sg) (h : wX4_melt_67  q0 x1 x2 x3 x4 s0 σ Q) : V YC G K (Zi YC G K Q) 7 σ 67 [(0, .ref (G.1 q0)), (1, .int x1), (2, .int x2), (3, .int x3), (4, .int x4)] [.int s0] := by
  subst hl
  unfold wX4_melt_67 at h
  refine r_istore hC dX4_melt_67 (rfl : 67 + 2 = 69) (by decide) rfl (lv2 := [(6, .int s0), (0, .ref (G.1 q0)), (1, .int x1), (2, .int x2), (3, .int x3), (4, .int x4)]) rfl ?_
  refine r_iload hC 0 dX4_melt_69 (rfl : 69 + 2 = 71) rfl ?_
  refine r_if_ne hC dX4_melt_71 (rfl : 71 + 3 = 74) (tgt := 91) (by decide) (fun q => ?_) (fun q => ?_)
  · replace h := if_f h q
    exact (sX4_melt_91 rfl hC hk  Q  q0 x1 x4 σ h).sub [1, 2, 5] rfl
  · replace h := if_t h q
    refine r_iload_n hC 3 dX4_melt_74 (rfl : 74 + 1 = 75) rfl rfl ?_
    refine r_iconst hC dX4_melt_75 (rfl : 75 + 1 = 76) (v := 2) (by decide) ?_
    refine r_icmp_ne hC dX4_melt_76 (rfl : 76 + 3 = 79) (tgt := 89) (by decide) (fun q => ?_) (fun q => ?_)
    · replace h := if_f h q
      refine r_iconst hC dX4_melt_89 (rfl : 89 + 1 = 90) (v := 0) (by decide) ?_
      exact r_zret hC rfl (by decide) h dX4_melt_90
    · replace h := if_t h q
      refine r_aload_n hC 1 dX4_melt_79 (rfl : 79 + 1 = 80) rfl rfl ?_
      refine r_iload_n hC 4 dX4_melt_80 (rfl : 80 + 1 = 81) rfl rfl ?_
      refine r_iload hC 5 dX4_melt_81 (rfl : 81 + 2 = 83) rfl ?_
      obtain ⟨ty_3, h⟩ := h
      refine r_callVi hC cs_X4_68 ty_3 (by omega) (mX5_isSame hC.2.2.2.2.2.2.2.2.1 (k := k - 1) (by omega) q0 x3 x4 σ _ h) rfl rfl (Nat.le_of_ble_eq_true rfl) dX4_melt_83 (rfl : 83 + 3 = 86) (fun r_5 σ_4 h => ?_)
      refine r_if_ne hC dX4_melt_86 (rfl : 86 + 3 = 89) (tgt := 91) (by decide) (fun q => ?_) (fun q => ?_)
      · replace h := if_f h q
        exact (sX4_melt_91 rfl hC hk  Q  q0 x1 x4 σ_4 h).sub [1, 2, 5] rfl
      · replace h := if_t h q
        refine r_iconst hC dX4_melt_89 (rfl : 89 + 1 = 90) (v := 0) (by decide) ?_
        exact r_zret hC rfl (by decide) h dX4_melt_90
set_option maxHeartbeats 1000000 in
set_option maxRecDepth 100000 in
theorem mX4_melt {G : Gx} {b k : Nat} {l : Launch} (hS : Sok YC G)  (hk : 2 ≤ k) (q0 : Nat) (x1 : Int32) (x2 : Int32) (σ : Sg) (Q : Int32 → Sg → Prop) (h : wX4_melt  q0 x1 x2 σ Q) : Mi YC G b l yX4_melt cX4_melt 7 .boolean k [.ref (G.1 q0), .int x1, .int x2] σ Q := by
  refine enter hS (by decide +kernel) (Nat.le_of_ble_eq_true rfl) (lv := [(0, .ref (G.1 q0)), (1, .int x1), (2, .int x2)]) rfl (fun K hl hC => ?_)
  subst hl
  unfold wX4_melt at h
  show V YC G K (Zi YC G K Q) 7 σ 0 [(0, .ref (G.1 q0)), (1, .int x1), (2, .int x2)] []
  refine r_aload_n hC 0 dX4_melt_0 (rfl : 0 + 1 = 1) rfl rfl ?_
  refine r_iload_n hC 1 dX4_melt_1 (rfl : 1 + 1 = 2) rfl rfl ?_
  obtain ⟨ty_6, h⟩ := h
  refine r_callVi hC cs_X4_34 ty_6 (by omega) (mX5_kindOf hC.2.2.2.2.2.2.2.2.1 (k := k - 1) (by omega) q0 x1 σ _ h) rfl rfl (Nat.le_of_ble_eq_true rfl) dX4_melt_2 (rfl : 2 + 3 = 5) (fun r_8 σ_7 h => ?_)
  refine r_bipush hC dX4_melt_5 (rfl : 5 + 2 = 7) (v := 8) (by decide) ?_
  refine r_icmp_eq hC dX4_melt_7 (rfl : 7 + 3 = 10) (tgt := 12) (by decide) (fun q => ?_) (fun q => ?_)
  · replace h := if_t h q
    refine r_iload_n hC 1 dX4_melt_12 (rfl : 12 + 1 = 13) rfl rfl ?_
    refine r_iconst hC dX4_melt_13 (rfl : 13 + 1 = 14) (v := 1) (by decide) ?_
    refine r_iadd hC dX4_melt_14 (rfl : 14 + 1 = 15) ?_
    obtain ⟨x3_9, e_10, h⟩ := lt_nm h
    refine r_istore_n hC dX4_melt_15 (rfl : 15 + 1 = 16) rfl (by decide) e_10 (lv2 := [(3, .int x3_9), (0, .ref (G.1 q0)), (1, .int x1), (2, .int x2)]) rfl ?_
    refine r_aload_n hC 1 dX4_melt_16 (rfl : 16 + 1 = 17) rfl rfl ?_
    refine r_iload_n hC 0 dX4_melt_17 (rfl : 17 + 1 = 18) rfl rfl ?_
    refine r_callVi hC cs_X4_47 ty_6 (by omega) (mX5_behind hC.2.2.2.2.2.2.2.2.1 (k := k - 1) (by omega) q0 x3_9 σ_7 _ h) rfl rfl (Nat.le_of_ble_eq_true rfl) dX4_melt_18 (rfl : 18 + 3 = 21) (fun r_12 σ_11 h => ?_)
    refine r_istore hC dX4_melt_21 (rfl : 21 + 2 = 23) (by decide) rfl (lv2 := [(4, .int r_12), (3, .int x3_9), (0, .ref (G.1 q0)), (1, .int x1), (2, .int x2)]) rfl ?_
    refine r_aload_n hC 2 dX4_melt_23 (rfl : 23 + 1 = 24) rfl rfl ?_
    refine r_iload hC 0 dX4_melt_24 (rfl : 24 + 2 = 26) rfl ?_
    refine r_callVi hC cs_X4_47 ty_6 (by omega) (mX5_behind hC.2.2.2.2.2.2.2.2.1 (k := k - 1) (by omega) q0 r_12 σ_11 _ h) rfl rfl (Nat.le_of_ble_eq_true rfl) dX4_melt_26 (rfl : 26 + 3 = 29) (fun r_14 σ_13 h => ?_)
    refine r_istore hC dX4_melt_29 (rfl : 29 + 2 = 31) (by decide) rfl (lv2 := [(5, .int r_14), (4, .int r_12), (3, .int x3_9), (0, .ref (G.1 q0)), (1, .int x1), (2, .int x2)]) rfl ?_
    refine r_iload_n hC 5 dX4_melt_31 (rfl : 31 + 1 = 32) rfl rfl ?_
    refine r_iconst hC dX4_melt_32 (rfl : 32 + 1 = 33) (v := 1) (by decide) ?_
    refine r_icmp_ne hC dX4_melt_33 (rfl : 33 + 3 = 36) (tgt := 59) (by decide) (fun q => ?_) (fun q => ?_)
    · replace h := if_f h q
      refine r_aload_n hC 3 dX4_melt_59 (rfl : 59 + 1 = 60) rfl rfl ?_
      refine r_iload hC 1 dX4_melt_60 (rfl : 60 + 2 = 62) rfl ?_
      refine r_iload hC 0 dX4_melt_62 (rfl : 62 + 2 = 64) rfl ?_
      refine r_callVi hC cs_X4_68 ty_6 (by omega) (mX5_isSame hC.2.2.2.2.2.2.2.2.1 (k := k - 1) (by omega) q0 r_12 r_14 σ_13 _ h) rfl rfl (Nat.le_of_ble_eq_true rfl) dX4_melt_64 (rfl : 64 + 3 = 67) (fun r_16 σ_15 h => ?_)
      exact (sX4_melt_67 rfl hC hk  Q  q0 x1 x2 x3_9 r_12 r_16 σ_15 h).sub [3, 4, 5, 2, 1] rfl
    · replace h := if_t h q
      refine r_aload_n hC 3 dX4_melt_36 (rfl : 36 + 1 = 37) rfl rfl ?_
      refine r_iload hC 1 dX4_melt_37 (rfl : 37 + 2 = 39) rfl ?_
      refine r_callVi hC cs_X4_71 ty_6 (by omega) (mX5_sizeOf hC.2.2.2.2.2.2.2.2.1 (k := k - 1) (by omega) q0 r_12 σ_13 _ h) rfl rfl (Nat.le_of_ble_eq_true rfl) dX4_melt_39 (rfl : 39 + 3 = 42) (fun r_18 σ_17 h => ?_)
      refine r_aload_n hC 3 dX4_melt_42 (rfl : 42 + 1 = 43) rfl rfl ?_
      refine r_iload hC 0 dX4_melt_43 (rfl : 43 + 2 = 45) rfl ?_
      refine r_callVi hC cs_X4_71 ty_6 (by omega) (mX5_sizeOf hC.2.2.2.2.2.2.2.2.1 (k := k - 1) (by omega) q0 r_14 σ_17 _ h) rfl rfl (Nat.le_of_ble_eq_true rfl) dX4_melt_45 (rfl : 45 + 3 = 48) (fun r_20 σ_19 h => ?_)
      refine r_icmp_ne hC dX4_melt_48 (rfl : 48 + 3 = 51) (tgt := 55) (by decide) (fun q => ?_) (fun q => ?_)
      · replace h := if_f h q
        refine r_iconst hC dX4_melt_55 (rfl : 55 + 1 = 56) (v := 0) (by decide) ?_
        refine r_goto hC dX4_melt_56 (tgt := 67) (by decide) ?_
        exact (sX4_melt_67 rfl hC hk  Q  q0 x1 x2 x3_9 r_12 0 σ_19 h).sub [3, 4, 5, 2, 1] rfl
      · replace h := if_t h q
        refine r_iconst hC dX4_melt_51 (rfl : 51 + 1 = 52) (v := 1) (by decide) ?_
        refine r_goto hC dX4_melt_52 (tgt := 67) (by decide) ?_
        exact (sX4_melt_67 rfl hC hk  Q  q0 x1 x2 x3_9 r_12 1 σ_19 h).sub [3, 4, 5, 2, 1] rfl
  · replace h := if_f h q
    refine r_iconst hC dX4_melt_10 (rfl : 10 + 1 = 11) (v := 0) (by decide) ?_
    exact r_zret hC rfl (by decide) h dX4_melt_11
set_option maxHeartbeats 1000000 in
set_option maxRecDepth 100000 in
theorem mX4_otherThan {G : Gx} {b k : Nat} {l : Launch} (hS : Sok YC G)  (hk : 1 ≤ k) (q0 : Nat) (x1 : Int32) (x2 : Int32) (x3 : Int32) (σ : Sg) (Q : Int32 → Sg → Prop) (h : wX4_otherThan  q0 x1 x2 x3 σ Q) : Mi YC G b l yX4_otherThan cX4_otherThan 4 .int k [.ref (G.1 q0), .int x1, .int x2, .int x3] σ Q := by
  refine enter hS (by decide +kernel) (Nat.le_of_ble_eq_true rfl) (lv := [(0, .ref (G.1 q0)), (1, .int x1), (2, .int x2), (3, .int x3)]) rfl (fun K hl hC => ?_)
  subst hl
  unfold wX4_otherThan at h
  show V YC G K (Zi YC G K Q) 4 σ 0 [(0, .ref (G.1 q0)), (1, .int x1), (2, .int x2), (3, .int x3)] []
  refine r_aload_n hC 0 dX4_otherThan_0 (rfl : 0 + 1 = 1) rfl rfl ?_
  refine r_iload_n hC 2 dX4_otherThan_1 (rfl : 1 + 1 = 2) rfl rfl ?_
  refine r_iload_n hC 3 dX4_otherThan_2 (rfl : 2 + 1 = 3) rfl rfl ?_
  obtain ⟨ty_1, h⟩ := h
  refine r_callVi hC cs_X4_54 ty_1 (by omega) (mX5_isNumber hC.2.2.2.2.2.2.2.2.1 (k := k - 1) (by omega) q0 x2 x3 σ _ h) rfl rfl (Nat.le_of_ble_eq_true rfl) dX4_otherThan_3 (rfl : 3 + 3 = 6) (fun r_3 σ_2 h => ?_)
  refine r_if_eq hC dX4_otherThan_6 (rfl : 6 + 3 = 9) (tgt := 13) (by decide) (fun q => ?_) (fun q => ?_)
  · replace h := if_t h q
    refine r_aload_n hC 0 dX4_otherThan_13 (rfl : 13 + 1 = 14) rfl rfl ?_
    refine r_iload_n hC 1 dX4_otherThan_14 (rfl : 14 + 1 = 15) rfl rfl ?_
    refine r_iload_n hC 3 dX4_otherThan_15 (rfl : 15 + 1 = 16) rfl rfl ?_
    refine r_callVi hC cs_X4_54 ty_1 (by omega) (mX5_isNumber hC.2.2.2.2.2.2.2.2.1 (k := k - 1) (by omega) q0 x1 x3 σ_2 _ h) rfl rfl (Nat.le_of_ble_eq_true rfl) dX4_otherThan_16 (rfl : 16 + 3 = 19) (fun r_5 σ_4 h => ?_)
    refine r_if_eq hC dX4_otherThan_19 (rfl : 19 + 3 = 22) (tgt := 26) (by decide) (fun q => ?_) (fun q => ?_)
    · replace h := if_t h q
      refine r_iconst hC dX4_otherThan_26 (rfl : 26 + 1 = 27) (v := -1) (by decide) ?_
      exact r_iret hC rfl h dX4_otherThan_27
    · replace h := if_f h q
      refine r_iload_n hC 2 dX4_otherThan_22 (rfl : 22 + 1 = 23) rfl rfl ?_
      refine r_goto hC dX4_otherThan_23 (tgt := 27) (by decide) ?_
      exact r_iret hC rfl h dX4_otherThan_27
  · replace h := if_f h q
    refine r_iload_n hC 1 dX4_otherThan_9 (rfl : 9 + 1 = 10) rfl rfl ?_
    refine r_goto hC dX4_otherThan_10 (tgt := 27) (by decide) ?_
    exact r_iret hC rfl h dX4_otherThan_27
set_option maxHeartbeats 1000000 in
set_option maxRecDepth 100000 in
theorem sX4_sink_91 {G : Gx} {b k : Nat} {K : Kx} {l : Launch} (hl : K.2.1 = l) (hC : Cx YC G b K cX4_sink RX4 6 (some .boolean) k)  (hk : 2 ≤ k)  (Q : Int32 → Sg → Prop)  (s0 : Nat) (s1 : Int32) (s2 : Int32) (σ : Sg) (h : wX4_sink_91  s0 s1 s2 σ Q) : V YC G K (Zi YC G K Q) 6 σ 91 [] [.int s2, .int s1, .ref (G.1 s0)] := by
  subst hl
  unfold wX4_sink_91 at h
  obtain ⟨ty_1, h⟩ := h
  refine r_callVv hC cs_X4_96 ty_1 (by omega) (mX5_rename hC.2.2.2.2.2.2.2.2.1 (k := k - 1) (by omega) s0 s1 s2 σ _ h) rfl rfl (Nat.le_of_ble_eq_true rfl) dX4_sink_91 (rfl : 91 + 3 = 94) (fun  σ_2 h => ?_)
  refine r_iconst hC dX4_sink_94 (rfl : 94 + 1 = 95) (v := 1) (by decide) ?_
  exact r_zret hC rfl (by decide) h dX4_sink_95
set_option maxHeartbeats 1000000 in
set_option maxRecDepth 100000 in
theorem sX4_sink_86 {G : Gx} {b k : Nat} {K : Kx} {l : Launch} (hl : K.2.1 = l) (hC : Cx YC G b K cX4_sink RX4 6 (some .boolean) k)  (hk : 2 ≤ k)  (Q : Int32 → Sg → Prop)  (s0 : Nat) (s1 : Int32) (σ : Sg) (h : wX4_sink_86  s0 s1 σ Q) : V YC G K (Zi YC G K Q) 6 σ 86 [] [.int s1, .ref (G.1 s0)] := by
  subst hl
  unfold wX4_sink_86 at h
  refine r_iconst hC dX4_sink_86 (rfl : 86 + 1 = 87) (v := 5) (by decide) ?_
  refine r_goto hC dX4_sink_87 (tgt := 91) (by decide) ?_
  exact (sX4_sink_91 rfl hC hk  Q  s0 s1 5 σ h).sub [] rfl
set_option maxHeartbeats 1000000 in
set_option maxRecDepth 100000 in
theorem sX4_sink_49 {G : Gx} {b k : Nat} {K : Kx} {l : Launch} (hl : K.2.1 = l) (hC : Cx YC G b K cX4_sink RX4 6 (some .boolean) k)  (hk : 2 ≤ k)  (Q : Int32 → Sg → Prop)  (q0 : Nat) (x1 : Int32) (x2 : Int32) (x3 : Int32) (x4 : Int32) (σ : Sg) (h : wX4_sink_49  q0 x1 x2 x3 x4 σ Q) : V YC G K (Zi YC G K Q) 6 σ 49 [(0, .ref (G.1 q0)), (1, .int x1), (2, .int x2), (3, .int x3), (4, .int x4)] [] := by
  subst hl
  unfold wX4_sink_49 at h
  refine r_aload_n hC 0 dX4_sink_49 (rfl : 49 + 1 = 50) rfl rfl ?_
  refine r_iload hC 4 dX4_sink_50 (rfl : 50 + 2 = 52) rfl ?_
  obtain ⟨ty_3, h⟩ := h
  refine r_callVi hC cs_X4_47 ty_3 (by omega) (mX5_behind hC.2.2.2.2.2.2.2.2.1 (k := k - 1) (by omega) q0 x4 σ _ h) rfl rfl (Nat.le_of_ble_eq_true rfl) dX4_sink_52 (rfl : 52 + 3 = 55) (fun r_5 σ_4 h => ?_)
  refine r_istore hC dX4_sink_55 (rfl : 55 + 2 = 57) (by decide) rfl (lv2 := [(5, .int r_5), (0, .ref (G.1 q0)), (1, .int x1), (2, .int x2), (3, .int x3), (4, .int x4)]) rfl ?_
  refine r_aload_n hC 1 dX4_sink_57 (rfl : 57 + 1 = 58) rfl rfl ?_
  refine r_iload hC 0 dX4_sink_58 (rfl : 58 + 2 = 60) rfl ?_
  refine r_callVi hC cs_X4_34 ty_3 (by omega) (mX5_kindOf hC.2.2.2.2.2.2.2.2.1 (k := k - 1) (by omega) q0 r_5 σ_4 _ h) rfl rfl (Nat.le_of_ble_eq_true rfl) dX4_sink_60 (rfl : 60 + 3 = 63) (fun r_7 σ_6 h => ?_)
  refine r_iconst hC dX4_sink_63 (rfl : 63 + 1 = 64) (v := 3) (by decide) ?_
  refine r_icmp_ne hC dX4_sink_64 (rfl : 64 + 3 = 67) (tgt := 96) (by decide) (fun q => ?_) (fun q => ?_)
  · replace h := if_f h q
    refine r_iload_n hC 4 dX4_sink_96 (rfl : 96 + 1 = 97) rfl rfl ?_
    refine r_iconst hC dX4_sink_97 (rfl : 97 + 1 = 98) (v := 4) (by decide) ?_
    refine r_icmp_ne hC dX4_sink_98 (rfl : 98 + 3 = 101) (tgt := 131) (by decide) (fun q => ?_) (fun q => ?_)
    · replace h := if_f h q
      refine r_iconst hC dX4_sink_131 (rfl : 131 + 1 = 132) (v := 0) (by decide) ?_
      exact r_zret hC rfl (by decide) h dX4_sink_132
    · replace h := if_t h q
      refine r_iload_n hC 3 dX4_sink_101 (rfl : 101 + 1 = 102) rfl rfl ?_
      refine r_iconst hC dX4_sink_102 (rfl : 102 + 1 = 103) (v := 1) (by decide) ?_
      refine r_icmp_ne hC dX4_sink_103 (rfl : 103 + 3 = 106) (tgt := 131) (by decide) (fun q => ?_) (fun q => ?_)
      · replace h := if_f h q
        refine r_iconst hC dX4_sink_131 (rfl : 131 + 1 = 132) (v := 0) (by decide) ?_
        exact r_zret hC rfl (by decide) h dX4_sink_132
      · replace h := if_t h q
        refine r_aload_n hC 1 dX4_sink_106 (rfl : 106 + 1 = 107) rfl rfl ?_
        refine r_iload hC 5 dX4_sink_107 (rfl : 107 + 2 = 109) rfl ?_
        refine r_callVi hC cs_X4_34 ty_3 (by omega) (mX5_kindOf hC.2.2.2.2.2.2.2.2.1 (k := k - 1) (by omega) q0 x4 σ_6 _ h) rfl rfl (Nat.le_of_ble_eq_true rfl) dX4_sink_109 (rfl : 109 + 3 = 112) (fun r_9 σ_8 h => ?_)
        refine r_iconst hC dX4_sink_112 (rfl : 112 + 1 = 113) (v := 3) (by decide) ?_
        refine r_icmp_ne hC dX4_sink_113 (rfl : 113 + 3 = 116) (tgt := 131) (by decide) (fun q => ?_) (fun q => ?_)
        · replace h := if_f h q
          refine r_iconst hC dX4_sink_131 (rfl : 131 + 1 = 132) (v := 0) (by decide) ?_
          exact r_zret hC rfl (by decide) h dX4_sink_132
        · replace h := if_t h q
          refine r_aload_n hC 1 dX4_sink_116 (rfl : 116 + 1 = 117) rfl rfl ?_
          refine r_iload hC 5 dX4_sink_117 (rfl : 117 + 2 = 119) rfl ?_
          refine r_iconst hC dX4_sink_119 (rfl : 119 + 1 = 120) (v := 1) (by decide) ?_
          refine r_callVv hC cs_X4_93 ty_3 (by omega) (mX5_cut hC.2.2.2.2.2.2.2.2.1 (k := k - 1) (by omega) q0 x4 1 σ_8 _ h) rfl rfl (Nat.le_of_ble_eq_true rfl) dX4_sink_120 (rfl : 120 + 3 = 123) (fun  σ_10 h => ?_)
          refine r_aload_n hC 1 dX4_sink_123 (rfl : 123 + 1 = 124) rfl rfl ?_
          refine r_iload_n hC 2 dX4_sink_124 (rfl : 124 + 1 = 125) rfl rfl ?_
          refine r_iconst hC dX4_sink_125 (rfl : 125 + 1 = 126) (v := 5) (by decide) ?_
          refine r_callVv hC cs_X4_96 ty_3 (by omega) (mX5_rename hC.2.2.2.2.2.2.2.2.1 (k := k - 1) (by omega) q0 x1 5 σ_10 _ h) rfl rfl (Nat.le_of_ble_eq_true rfl) dX4_sink_126 (rfl : 126 + 3 = 129) (fun  σ_11 h => ?_)
          refine r_iconst hC dX4_sink_129 (rfl : 129 + 1 = 130) (v := 1) (by decide) ?_
          exact r_zret hC rfl (by decide) h dX4_sink_130
  · replace h := if_t h q
    refine r_aload_n hC 1 dX4_sink_67 (rfl : 67 + 1 = 68) rfl rfl ?_
    refine r_iload hC 0 dX4_sink_68 (rfl : 68 + 2 = 70) rfl ?_
    refine r_iconst hC dX4_sink_70 (rfl : 70 + 1 = 71) (v := 1) (by decide) ?_
    refine r_callVv hC cs_X4_93 ty_3 (by omega) (mX5_cut hC.2.2.2.2.2.2.2.2.1 (k := k - 1) (by omega) q0 r_5 1 σ_6 _ h) rfl rfl (Nat.le_of_ble_eq_true rfl) dX4_sink_71 (rfl : 71 + 3 = 74) (fun  σ_12 h => ?_)
    refine r_aload_n hC 1 dX4_sink_74 (rfl : 74 + 1 = 75) rfl rfl ?_
    refine r_iload_n hC 2 dX4_sink_75 (rfl : 75 + 1 = 76) rfl rfl ?_
    refine r_iload_n hC 4 dX4_sink_76 (rfl : 76 + 1 = 77) rfl rfl ?_
    refine r_iconst hC dX4_sink_77 (rfl : 77 + 1 = 78) (v := 4) (by decide) ?_
    refine r_icmp_eq hC dX4_sink_78 (rfl : 78 + 3 = 81) (tgt := 86) (by decide) (fun q => ?_) (fun q => ?_)
    · replace h := if_t h q
      exact (sX4_sink_86 rfl hC hk  Q  q0 x1 σ_12 h).sub [] rfl
    · replace h := if_f h q
      refine r_iload_n hC 3 dX4_sink_81 (rfl : 81 + 1 = 82) rfl rfl ?_
      refine r_iconst hC dX4_sink_82 (rfl : 82 + 1 = 83) (v := 2) (by decide) ?_
      refine r_icmp_ne hC dX4_sink_83 (rfl : 83 + 3 = 86) (tgt := 90) (by decide) (fun q => ?_) (fun q => ?_)
      · replace h := if_f h q
        refine r_iconst hC dX4_sink_90 (rfl : 90 + 1 = 91) (v := 4) (by decide) ?_
        exact (sX4_sink_91 rfl hC hk  Q  q0 x1 4 σ_12 h).sub [] rfl
      · replace h := if_t h q
        exact (sX4_sink_86 rfl hC hk  Q  q0 x1 σ_12 h).sub [] rfl
set_option maxHeartbeats 1000000 in
set_option maxRecDepth 100000 in
theorem sX4_sink_37 {G : Gx} {b k : Nat} {K : Kx} {l : Launch} (hl : K.2.1 = l) (hC : Cx YC G b K cX4_sink RX4 6 (some .boolean) k)  (hk : 2 ≤ k)  (Q : Int32 → Sg → Prop)  (q0 : Nat) (x1 : Int32) (x2 : Int32) (x3 : Int32) (x4 : Int32) (σ : Sg) (h : wX4_sink_37  q0 x1 x2 x3 x4 σ Q) : V YC G K (Zi YC G K Q) 6 σ 37 [(0, .ref (G.1 q0)), (1, .int x1), (2, .int x2), (3, .int x3), (4, .int x4)] [] := by
  subst hl
  unfold wX4_sink_37 at h
  refine r_iload_n hC 3 dX4_sink_37 (rfl : 37 + 1 = 38) rfl rfl ?_
  refine r_iconst hC dX4_sink_38 (rfl : 38 + 1 = 39) (v := 4) (by decide) ?_
  refine r_icmp_eq hC dX4_sink_39 (rfl : 39 + 3 = 42) (tgt := 49) (by decide) (fun q => ?_) (fun q => ?_)
  · replace h := if_t h q
    exact (sX4_sink_49 rfl hC hk  Q  q0 x1 x2 x3 x4 σ h).sub [0, 1, 2, 3, 4] rfl
  · replace h := if_f h q
    refine r_iload_n hC 3 dX4_sink_42 (rfl : 42 + 1 = 43) rfl rfl ?_
    refine r_iconst hC dX4_sink_43 (rfl : 43 + 1 = 44) (v := 5) (by decide) ?_
    refine r_icmp_eq hC dX4_sink_44 (rfl : 44 + 3 = 47) (tgt := 49) (by decide) (fun q => ?_) (fun q => ?_)
    · replace h := if_t h q
      exact (sX4_sink_49 rfl hC hk  Q  q0 x1 x2 x3 x4 σ h).sub [0, 1, 2, 3, 4] rfl
    · replace h := if_f h q
      refine r_iconst hC dX4_sink_47 (rfl : 47 + 1 = 48) (v := 0) (by decide) ?_
      exact r_zret hC rfl (by decide) h dX4_sink_48
set_option maxHeartbeats 1000000 in
set_option maxRecDepth 100000 in
theorem mX4_sink {G : Gx} {b k : Nat} {l : Launch} (hS : Sok YC G)  (hk : 2 ≤ k) (q0 : Nat) (x1 : Int32) (x2 : Int32) (σ : Sg) (Q : Int32 → Sg → Prop) (h : wX4_sink  q0 x1 x2 σ Q) : Mi YC G b l yX4_sink cX4_sink 6 .boolean k [.ref (G.1 q0), .int x1, .int x2] σ Q := by
  refine enter hS (by decide +kernel) (Nat.le_of_ble_eq_true rfl) (lv := [(0, .ref (G.1 q0)), (1, .int x1), (2, .int x2)]) rfl (fun K hl hC => ?_)
  subst hl
  unfold wX4_sink at h
  show V YC G K (Zi YC G K Q) 6 σ 0 [(0, .ref (G.1 q0)), (1, .int x1), (2, .int x2)] []
  refine r_aload_n hC 0 dX4_sink_0 (rfl : 0 + 1 = 1) rfl rfl ?_
  refine r_iload_n hC 1 dX4_sink_1 (rfl : 1 + 1 = 2) rfl rfl ?_
  obtain ⟨ty_13, h⟩ := h
  refine r_callVi hC cs_X4_34 ty_13 (by omega) (mX5_kindOf hC.2.2.2.2.2.2.2.2.1 (k := k - 1) (by omega) q0 x1 σ _ h) rfl rfl (Nat.le_of_ble_eq_true rfl) dX4_sink_2 (rfl : 2 + 3 = 5) (fun r_15 σ_14 h => ?_)
  refine r_istore_n hC dX4_sink_5 (rfl : 5 + 1 = 6) rfl (by decide) rfl (lv2 := [(3, .int r_15), (0, .ref (G.1 q0)), (1, .int x1), (2, .int x2)]) rfl ?_
  refine r_iload_n hC 2 dX4_sink_6 (rfl : 6 + 1 = 7) rfl rfl ?_
  refine r_iconst hC dX4_sink_7 (rfl : 7 + 1 = 8) (v := 1) (by decide) ?_
  refine r_iadd hC dX4_sink_8 (rfl : 8 + 1 = 9) ?_
  obtain ⟨x4_16, e_17, h⟩ := lt_nm h
  refine r_istore hC dX4_sink_9 (rfl : 9 + 2 = 11) (by decide) e_17 (lv2 := [(4, .int x4_16), (3, .int r_15), (0, .ref (G.1 q0)), (1, .int x1), (2, .int x2)]) rfl ?_
  refine r_iload_n hC 1 dX4_sink_11 (rfl : 11 + 1 = 12) rfl rfl ?_
  refine r_iconst hC dX4_sink_12 (rfl : 12 + 1 = 13) (v := 3) (by decide) ?_
  refine r_icmp_ne hC dX4_sink_13 (rfl : 13 + 3 = 16) (tgt := 37) (by decide) (fun q => ?_) (fun q => ?_)
  · replace h := if_f h q
    exact (sX4_sink_37 rfl hC hk  Q  q0 x1 x2 r_15 x4_16 σ_14 h).sub [2, 3, 4, 1, 0] rfl
  · replace h := if_t h q
    refine r_aload_n hC 2 dX4_sink_16 (rfl : 16 + 1 = 17) rfl rfl ?_
    refine r_iload hC 0 dX4_sink_17 (rfl : 17 + 2 = 19) rfl ?_
    refine r_callVi hC cs_X4_34 ty_13 (by omega) (mX5_kindOf hC.2.2.2.2.2.2.2.2.1 (k := k - 1) (by omega) q0 x4_16 σ_14 _ h) rfl rfl (Nat.le_of_ble_eq_true rfl) dX4_sink_19 (rfl : 19 + 3 = 22) (fun r_19 σ_18 h => ?_)
    refine r_iconst hC dX4_sink_22 (rfl : 22 + 1 = 23) (v := 3) (by decide) ?_
    refine r_icmp_ne hC dX4_sink_23 (rfl : 23 + 3 = 26) (tgt := 37) (by decide) (fun q => ?_) (fun q => ?_)
    · replace h := if_f h q
      exact (sX4_sink_37 rfl hC hk  Q  q0 x1 x2 r_15 x4_16 σ_18 h).sub [2, 3, 4, 1, 0] rfl
    · replace h := if_t h q
      refine r_aload_n hC 2 dX4_sink_26 (rfl : 26 + 1 = 27) rfl rfl ?_
      refine r_iload_n hC 3 dX4_sink_27 (rfl : 27 + 1 = 28) rfl rfl ?_
      refine r_iload hC 0 dX4_sink_28 (rfl : 28 + 2 = 30) rfl ?_
      refine r_iconst hC dX4_sink_30 (rfl : 30 + 1 = 31) (v := 1) (by decide) ?_
      refine r_iadd hC dX4_sink_31 (rfl : 31 + 1 = 32) ?_
      refine r_callVv hC cs_X4_62 ty_13 (by omega) (mX5_endAsPart hC.2.2.2.2.2.2.2.2.1 (k := k - 1) (by omega) q0 x1 (x4_16 + 1) σ_18 _ h) rfl rfl (Nat.le_of_ble_eq_true rfl) dX4_sink_32 (rfl : 32 + 3 = 35) (fun  σ_20 h => ?_)
      refine r_iconst hC dX4_sink_35 (rfl : 35 + 1 = 36) (v := 1) (by decide) ?_
      exact r_zret hC rfl (by decide) h dX4_sink_36
set_option maxHeartbeats 1000000 in
set_option maxRecDepth 100000 in
theorem sX5_measure_25 {G : Gx} {b k : Nat} {K : Kx} {l : Launch} (hl : K.2.1 = l) (hC : Cx YC G b K cX5_measure RX5 4 none k)  (hk : 1 ≤ k) (K7 : Nat → Int32 → Sg → Prop) (Q : Sg → Prop) (h7 : ∀ (t : Nat) (x1 : Int32) (σ : Sg), K7 t x1 σ → V YC G K (Zv YC G K Q) 4 σ 7 [(0, .ref (G.1 t)), (1, .int x1)] []) : ∀ (n : Nat) (t : Nat) (x1 : Int32) (x2 : Int32) (x3 : Int32) (σ : Sg), wX5_measure_25 K7 Q n t x1 x2 x3 σ → V YC G K (Zv YC G K Q) 4 σ 25 [(0, .ref (G.1 t)), (1, .int x1), (2, .int x2), (3, .int x3)] [] := by
  subst hl
  intro n
  induction n with
  | zero =>
    intro t x1 x2 x3 σ h
    exact h.elim
  | succ n ih =>
    intro t x1 x2 x3 σ h
    have h : wX5_measure_25_b K7 (wX5_measure_25 K7 Q n) t x1 x2 x3 σ Q := h
    unfold wX5_measure_25_b at h
    refine r_iload_n hC 3 dX5_measure_25 (rfl : 25 + 1 = 26) rfl rfl ?_
    refine r_if_le hC dX5_measure_26 (rfl : 26 + 3 = 29) (tgt := 41) (by decide) (fun q => ?_) (fun q => ?_)
    · replace h := if_t h q
      refine r_aload_n hC 0 dX5_measure_41 (rfl : 41 + 1 = 42) rfl rfl ?_
      obtain ⟨ty_1, h⟩ := h
      refine r_getr hC t 4 2 (t + 3) (o := 3) fw_X5_18 ty_1 rfl dX5_measure_42 (rfl : 42 + 3 = 45) ?_
      refine r_iload_n hC 1 dX5_measure_45 (rfl : 45 + 1 = 46) rfl rfl ?_
      refine r_iload_n hC 2 dX5_measure_46 (rfl : 46 + 1 = 47) rfl rfl ?_
      refine r_iload_n hC 1 dX5_measure_47 (rfl : 47 + 1 = 48) rfl rfl ?_
      refine r_isub hC dX5_measure_48 (rfl : 48 + 1 = 49) ?_
      obtain ⟨q_2, h⟩ := h
      obtain ⟨σ_3, e_4, h⟩ := lt_nm h
      refine r_iast hC (t + 3) (la4_3 ty_1).1 (by rw [(la4_3 ty_1).2]; exact q_2) e_4 dX5_measure_49 (rfl : 49 + 1 = 50) ?_
      obtain ⟨x1_5, e_6, h⟩ := lt_nm h
      refine r_iinc hC (j := 1) dX5_measure_50 (rfl : 50 + 3 = 53) rfl (zz := -1) (by decide) e_6 (by decide) (lv2 := [(1, .int x1_5), (0, .ref (G.1 t)), (2, .int x2), (3, .int x3)]) rfl ?_
      refine r_goto hC dX5_measure_53 (tgt := 7) (by decide) ?_
      exact (h7 t x1_5 σ_3 h).sub [1, 0] rfl
    · replace h := if_f h q
      refine r_aload_n hC 0 dX5_measure_29 (rfl : 29 + 1 = 30) rfl rfl ?_
      refine r_iload_n hC 2 dX5_measure_30 (rfl : 30 + 1 = 31) rfl rfl ?_
      obtain ⟨ty_7, h⟩ := h
      refine r_callVi hC cs_X5_45 ty_7 (by omega) (mX5_behind hC.2.2.2.2.2.2.2.2.1 (k := k - 1) (by omega) t x2 σ _ h) rfl rfl (Nat.le_of_ble_eq_true rfl) dX5_measure_31 (rfl : 31 + 3 = 34) (fun r_9 σ_8 h => ?_)
      refine r_istore_n hC dX5_measure_34 (rfl : 34 + 1 = 35) rfl (by decide) rfl (lv2 := [(2, .int r_9), (0, .ref (G.1 t)), (1, .int x1), (3, .int x3)]) rfl ?_
      obtain ⟨x3_10, e_11, h⟩ := lt_nm h
      refine r_iinc hC (j := 3) dX5_measure_35 (rfl : 35 + 3 = 38) rfl (zz := -1) (by decide) e_11 (by decide) (lv2 := [(3, .int x3_10), (2, .int r_9), (0, .ref (G.1 t)), (1, .int x1)]) rfl ?_
      refine r_goto hC dX5_measure_38 (tgt := 25) (by decide) ?_
      exact (ih t x1 r_9 x3_10 σ_8 h).sub [2, 3, 1, 0] rfl
set_option maxHeartbeats 1000000 in
set_option maxRecDepth 100000 in
theorem sX5_measure_7 {G : Gx} {b k : Nat} {K : Kx} {l : Launch} (hl : K.2.1 = l) (hC : Cx YC G b K cX5_measure RX5 4 none k)  (hk : 1 ≤ k)  (Q : Sg → Prop)  : ∀ (n : Nat) (t : Nat) (x1 : Int32) (σ : Sg), wX5_measure_7  Q n t x1 σ → V YC G K (Zv YC G K Q) 4 σ 7 [(0, .ref (G.1 t)), (1, .int x1)] [] := by
  subst hl
  intro n
  induction n with
  | zero =>
    intro t x1 σ h
    exact h.elim
  | succ n ih =>
    intro t x1 σ h
    have h : wX5_measure_7_b  (wX5_measure_7  Q n) t x1 σ Q := h
    unfold wX5_measure_7_b at h
    refine r_iload_n hC 1 dX5_measure_7 (rfl : 7 + 1 = 8) rfl rfl ?_
    refine r_if_lt hC dX5_measure_8 (rfl : 8 + 3 = 11) (tgt := 56) (by decide) (fun q => ?_) (fun q => ?_)
    · replace h := if_t h q
      exact r_vret hC rfl h dX5_measure_56
    · replace h := if_f h q
      refine r_iload_n hC 1 dX5_measure_11 (rfl : 11 + 1 = 12) rfl rfl ?_
      refine r_iconst hC dX5_measure_12 (rfl : 12 + 1 = 13) (v := 1) (by decide) ?_
      refine r_iadd hC dX5_measure_13 (rfl : 13 + 1 = 14) ?_
      obtain ⟨x2_12, e_13, h⟩ := lt_nm h
      refine r_istore_n hC dX5_measure_14 (rfl : 14 + 1 = 15) rfl (by decide) e_13 (lv2 := [(2, .int x2_12), (0, .ref (G.1 t)), (1, .int x1)]) rfl ?_
      refine r_aload_n hC 1 dX5_measure_15 (rfl : 15 + 1 = 16) rfl rfl ?_
      obtain ⟨ty_14, h⟩ := h
      refine r_getr hC t 4 0 (t + 1) (o := 1) fw_X5_9 ty_14 rfl dX5_measure_16 (rfl : 16 + 3 = 19) ?_
      refine r_iload_n hC 2 dX5_measure_19 (rfl : 19 + 1 = 20) rfl rfl ?_
      obtain ⟨q_15, h⟩ := h
      refine r_iald hC (t + 1) (la4_1 ty_14).1 (by rw [(la4_1 ty_14).2]; exact q_15) dX5_measure_20 (rfl : 20 + 1 = 21) ?_
      refine r_callSi hC cs_X5_51 (by omega) (mX7_partsOf hC.2.2.2.2.2.2.2.2.1 (k := k - 1) (by omega) (σ.1 (t + 1) (Int32.toNatClampNeg x1)) σ _ h) rfl rfl (Nat.le_of_ble_eq_true rfl) dX5_measure_21 (rfl : 21 + 3 = 24) (fun r_17 σ_16 h => ?_)
      refine r_istore_n hC dX5_measure_24 (rfl : 24 + 1 = 25) rfl (by decide) rfl (lv2 := [(3, .int r_17), (2, .int x2_12), (0, .ref (G.1 t)), (1, .int x1)]) rfl ?_
      obtain ⟨nn, h⟩ := h
      exact (sX5_measure_25 rfl hC hk (wX5_measure_7  Q n) Q ih nn t x1 x2_12 r_17 σ_16 h).sub [2, 3, 1, 0] rfl
set_option maxHeartbeats 1000000 in
set_option maxRecDepth 100000 in
theorem mX5_measure {G : Gx} {b k : Nat} {l : Launch} (hS : Sok YC G)  (hk : 1 ≤ k) (t : Nat) (σ : Sg) (Q : Sg → Prop) (h : wX5_measure  t σ Q) : Mv YC G b l yX5_measure cX5_measure 4 k [.ref (G.1 t)] σ Q := by
  refine enter hS (by decide +kernel) (Nat.le_of_ble_eq_true rfl) (lv := [(0, .ref (G.1 t))]) rfl (fun K hl hC => ?_)
  subst hl
  unfold wX5_measure at h
  show V YC G K (Zv YC G K Q) 4 σ 0 [(0, .ref (G.1 t))] []
  refine r_aload_n hC 0 dX5_measure_0 (rfl : 0 + 1 = 1) rfl rfl ?_
  obtain ⟨ty_18, h⟩ := h
  refine r_geti hC t 4 3 fw_X5_21 ty_18 dX5_measure_1 (rfl : 1 + 3 = 4) ?_
  refine r_iconst hC dX5_measure_4 (rfl : 4 + 1 = 5) (v := 1) (by decide) ?_
  refine r_isub hC dX5_measure_5 (rfl : 5 + 1 = 6) ?_
  obtain ⟨x1_19, e_20, h⟩ := lt_nm h
  refine r_istore_n hC dX5_measure_6 (rfl : 6 + 1 = 7) rfl (by decide) e_20 (lv2 := [(1, .int x1_19), (0, .ref (G.1 t))]) rfl ?_
  obtain ⟨nn, h⟩ := h
  exact (sX5_measure_7 rfl hC hk  Q  nn t x1_19 σ h).sub [1, 0] rfl
set_option maxHeartbeats 1000000 in
set_option maxRecDepth 100000 in
theorem mX7_many {G : Gx} {b k : Nat} {l : Launch} (hS : Sok YC G)  (hk : 2 ≤ k) (x1 : Int32) (σ : Sg) (Q : Int64 → Sg → Prop) (h : wX7_many  x1 σ Q) : Ml YC G b l yX7_many cX7_many 2 k [.ref (G.1 0), .int x1] σ Q := by
  refine enter hS (by decide +kernel) (Nat.le_of_ble_eq_true rfl) (lv := [(0, .ref (G.1 0)), (1, .int x1)]) rfl (fun K hl hC => ?_)
  subst hl
  unfold wX7_many at h
  show V YC G K (Zl YC G K Q) 2 σ 0 [(0, .ref (G.1 0)), (1, .int x1)] []
  refine r_iload_n hC 1 dX7_many_0 (rfl : 0 + 1 = 1) rfl rfl ?_
  refine r_iconst hC dX7_many_1 (rfl : 1 + 1 = 2) (v := 1) (by decide) ?_
  refine r_bipush hC dX7_many_2 (rfl : 2 + 2 = 4) (v := 15) (by decide) ?_
  refine r_callSi hC cs_X7_75 (by omega) (mX7_within hC.2.2.2.2.2.2.2.2.1 (k := k - 1) (by omega) x1 1 15 σ _ h) rfl rfl (Nat.le_of_ble_eq_true rfl) dX7_many_4 (rfl : 4 + 3 = 7) (fun r_2 σ_1 h => ?_)
  refine r_if_eq hC dX7_many_7 (rfl : 7 + 3 = 10) (tgt := 21) (by decide) (fun q => ?_) (fun q => ?_)
  · replace h := if_t h q
    refine r_ldc2 hC dX7_many_21 (rfl : 21 + 3 = 24) wd_315 ?_
    exact r_lret hC rfl h dX7_many_24
  · replace h := if_f h q
    refine r_aload_n hC 0 dX7_many_10 (rfl : 10 + 1 = 11) rfl rfl ?_
    refine r_getr hC 0 6 0 1 (o := 1) fw_X7_10 rfl rfl dX7_many_11 (rfl : 11 + 3 = 14) ?_
    refine r_iload_n hC 1 dX7_many_14 (rfl : 14 + 1 = 15) rfl rfl ?_
    refine r_callVl hC cs_X7_79 rfl (by omega) (mX1_howMany hC.2.2.2.2.2.2.2.2.1 (k := k - 1) (by omega) x1 σ_1 _ h) rfl rfl (Nat.le_of_ble_eq_true rfl) dX7_many_15 (rfl : 15 + 3 = 18) (fun r_4 σ_3 h => ?_)
    refine r_goto hC dX7_many_18 (tgt := 24) (by decide) ?_
    exact r_lret hC rfl h dX7_many_24
