set_option maxHeartbeats 1000000 in
set_option maxRecDepth 100000 in
theorem mX8_cost {G : Gx} {b k : Nat} {l : Launch} (hS : Sok YM G) (d : Nat) (hk : 2 * d + 8 ≤ k) (x1 : Int32) (x2 : Int32) (x3 : Int32) (x4 : Int32) (σ : Sg) (Q : Int32 → Sg → Prop) (h : wX8_cost d x1 x2 x3 x4 σ Q) : Mi YM G b l yX8_cost cX8_cost 6 .int k [.ref (G.1 0), .int x1, .int x2, .int x3, .int x4] σ Q := by
  refine enter hS (by decide +kernel) (Nat.le_of_ble_eq_true rfl) (lv := [(0, .ref (G.1 0)), (1, .int x1), (2, .int x2), (3, .int x3), (4, .int x4)]) rfl (fun K hl hC => ?_)
  subst hl
  unfold wX8_cost at h
  show V YM G K (Zi YM G K Q) 6 σ 0 [(0, .ref (G.1 0)), (1, .int x1), (2, .int x2), (3, .int x3), (4, .int x4)] []
  refine r_aload_n hC 0 dX8_cost_0 (rfl : 0 + 1 = 1) rfl rfl ?_
  refine r_iload_n hC 1 dX8_cost_1 (rfl : 1 + 1 = 2) rfl rfl ?_
  refine r_callVi hC cs_X8_286 rfl (by omega) (mX8_isMaker hC.2.2.2.2.2.2.2.2.1 (k := k - 1) (by omega) x1 σ _ h) rfl rfl (Nat.le_of_ble_eq_true rfl) dX8_cost_2 (rfl : 2 + 3 = 5) (fun r_2 σ_1 h => ?_)
  refine r_if_eq hC dX8_cost_5 (rfl : 5 + 3 = 8) (tgt := 16) (by decide) (fun q => ?_) (fun q => ?_)
  · replace h := if_t h q
    refine r_iconst hC dX8_cost_16 (rfl : 16 + 1 = 17) (v := -1) (by decide) ?_
    exact r_iret hC rfl h dX8_cost_17
  · replace h := if_f h q
    refine r_aload_n hC 0 dX8_cost_8 (rfl : 8 + 1 = 9) rfl rfl ?_
    refine r_iload_n hC 2 dX8_cost_9 (rfl : 9 + 1 = 10) rfl rfl ?_
    refine r_callVi hC cs_X8_246 rfl (by omega) (mX8_has hC.2.2.2.2.2.2.2.2.1 (k := k - 1) (by omega) x2 σ_1 _ h) rfl rfl (Nat.le_of_ble_eq_true rfl) dX8_cost_10 (rfl : 10 + 3 = 13) (fun r_4 σ_3 h => ?_)
    refine r_if_ne hC dX8_cost_13 (rfl : 13 + 3 = 16) (tgt := 18) (by decide) (fun q => ?_) (fun q => ?_)
    · replace h := if_f h q
      refine r_aload_n hC 0 dX8_cost_18 (rfl : 18 + 1 = 19) rfl rfl ?_
      refine r_aload_n hC 0 dX8_cost_19 (rfl : 19 + 1 = 20) rfl rfl ?_
      refine r_aload_n hC 0 dX8_cost_20 (rfl : 20 + 1 = 21) rfl rfl ?_
      refine r_iload_n hC 2 dX8_cost_21 (rfl : 21 + 1 = 22) rfl rfl ?_
      refine r_callVi hC cs_X8_265 rfl (by omega) (mX8_treeOf hC.2.2.2.2.2.2.2.2.1 d (k := k - 1) (by omega) x2 σ_3 _ h) rfl rfl (Nat.le_of_ble_eq_true rfl) dX8_cost_22 (rfl : 22 + 3 = 25) (fun r_6 σ_5 h => ?_)
      refine r_iload_n hC 1 dX8_cost_25 (rfl : 25 + 1 = 26) rfl rfl ?_
      refine r_aload_n hC 0 dX8_cost_26 (rfl : 26 + 1 = 27) rfl rfl ?_
      refine r_getr hC 0 7 28 18 (o := 18) fw_X8_62 rfl rfl dX8_cost_27 (rfl : 27 + 3 = 30) ?_
      refine r_iload_n hC 1 dX8_cost_30 (rfl : 30 + 1 = 31) rfl rfl ?_
      obtain ⟨q_7, h⟩ := h
      refine r_iald hC 18 rfl q_7 dX8_cost_31 (rfl : 31 + 1 = 32) ?_
      refine r_callVi hC cs_X8_292 rfl (by omega) (mX8_madeBy hC.2.2.2.2.2.2.2.2.1 d (k := k - 1) (by omega) r_6 x1 (σ_5.1 18 (Int32.toNatClampNeg x1)) σ_5 _ h) rfl rfl (Nat.le_of_ble_eq_true rfl) dX8_cost_32 (rfl : 32 + 3 = 35) (fun r_9 σ_8 h => ?_)
      refine r_iload_n hC 3 dX8_cost_35 (rfl : 35 + 1 = 36) rfl rfl ?_
      refine r_iload hC 4 dX8_cost_36 (rfl : 36 + 2 = 38) rfl ?_
      refine r_callVi hC cs_X8_118 rfl (by omega) (mX8_valueOf hC.2.2.2.2.2.2.2.2.1 d (k := k - 1) (by omega) r_9 x3 x4 σ_8 _ h) rfl rfl (Nat.le_of_ble_eq_true rfl) dX8_cost_38 (rfl : 38 + 3 = 41) (fun r_11 σ_10 h => ?_)
      refine r_istore hC dX8_cost_41 (rfl : 41 + 2 = 43) (by decide) rfl (lv2 := [(5, .int r_11), (0, .ref (G.1 0)), (1, .int x1), (2, .int x2), (3, .int x3), (4, .int x4)]) rfl ?_
      refine r_aload_n hC 1 dX8_cost_43 (rfl : 43 + 1 = 44) rfl rfl ?_
      refine r_geti hC 0 7 9 fw_X8_108 rfl dX8_cost_44 (rfl : 44 + 3 = 47) ?_
      exact r_iret hC rfl h dX8_cost_47
    · replace h := if_t h q
      refine r_iconst hC dX8_cost_16 (rfl : 16 + 1 = 17) (v := -1) (by decide) ?_
      exact r_iret hC rfl h dX8_cost_17
set_option maxHeartbeats 1000000 in
set_option maxRecDepth 100000 in
theorem mX8_firesOf {G : Gx} {b k : Nat} {l : Launch} (hS : Sok YM G) (d : Nat) (hk : 2 * d + 8 ≤ k) (x1 : Int32) (x2 : Int32) (x3 : Int32) (σ : Sg) (Q : Int32 → Sg → Prop) (h : wX8_firesOf d x1 x2 x3 σ Q) : Mi YM G b l yX8_firesOf cX8_firesOf 5 .int k [.ref (G.1 0), .int x1, .int x2, .int x3] σ Q := by
  refine enter hS (by decide +kernel) (Nat.le_of_ble_eq_true rfl) (lv := [(0, .ref (G.1 0)), (1, .int x1), (2, .int x2), (3, .int x3)]) rfl (fun K hl hC => ?_)
  subst hl
  unfold wX8_firesOf at h
  show V YM G K (Zi YM G K Q) 5 σ 0 [(0, .ref (G.1 0)), (1, .int x1), (2, .int x2), (3, .int x3)] []
  refine r_aload_n hC 0 dX8_firesOf_0 (rfl : 0 + 1 = 1) rfl rfl ?_
  refine r_iload_n hC 1 dX8_firesOf_1 (rfl : 1 + 1 = 2) rfl rfl ?_
  refine r_iload_n hC 2 dX8_firesOf_2 (rfl : 2 + 1 = 3) rfl rfl ?_
  refine r_iload_n hC 3 dX8_firesOf_3 (rfl : 3 + 1 = 4) rfl rfl ?_
  refine r_callVi hC cs_X8_292 rfl (by omega) (mX8_madeBy hC.2.2.2.2.2.2.2.2.1 d (k := k - 1) (by omega) x1 x2 x3 σ _ h) rfl rfl (Nat.le_of_ble_eq_true rfl) dX8_firesOf_4 (rfl : 4 + 3 = 7) (fun r_2 σ_1 h => ?_)
  refine r_istore hC dX8_firesOf_7 (rfl : 7 + 2 = 9) (by decide) rfl (lv2 := [(4, .int r_2), (0, .ref (G.1 0)), (1, .int x1), (2, .int x2), (3, .int x3)]) rfl ?_
  refine r_aload_n hC 1 dX8_firesOf_9 (rfl : 9 + 1 = 10) rfl rfl ?_
  refine r_iload hC 0 dX8_firesOf_10 (rfl : 10 + 2 = 12) rfl ?_
  refine r_iload_n hC 3 dX8_firesOf_12 (rfl : 12 + 1 = 13) rfl rfl ?_
  refine r_iload_n hC 4 dX8_firesOf_13 (rfl : 13 + 1 = 14) rfl rfl ?_
  refine r_callVi hC cs_X8_172 rfl (by omega) (mX8_goOver hC.2.2.2.2.2.2.2.2.1 d (k := k - 1) (by omega) r_2 x2 x3 σ_1 _ h) rfl rfl (Nat.le_of_ble_eq_true rfl) dX8_firesOf_14 (rfl : 14 + 3 = 17) (fun r_4 σ_3 h => ?_)
  refine r_istore hC dX8_firesOf_17 (rfl : 17 + 2 = 19) (by decide) rfl (lv2 := [(4, .int r_4), (0, .ref (G.1 0)), (1, .int x1), (2, .int x2), (3, .int x3)]) rfl ?_
  refine r_aload_n hC 1 dX8_firesOf_19 (rfl : 19 + 1 = 20) rfl rfl ?_
  refine r_geti hC 0 7 10 fw_X8_169 rfl dX8_firesOf_20 (rfl : 20 + 3 = 23) ?_
  exact r_iret hC rfl h dX8_firesOf_23
set_option maxHeartbeats 1000000 in
set_option maxRecDepth 100000 in
theorem mX8_fires {G : Gx} {b k : Nat} {l : Launch} (hS : Sok YM G) (d : Nat) (hk : 2 * d + 9 ≤ k) (x1 : Int32) (x2 : Int32) (x3 : Int32) (σ : Sg) (Q : Int32 → Sg → Prop) (h : wX8_fires d x1 x2 x3 σ Q) : Mi YM G b l yX8_fires cX8_fires 4 .int k [.ref (G.1 0), .int x1, .int x2, .int x3] σ Q := by
  refine enter hS (by decide +kernel) (Nat.le_of_ble_eq_true rfl) (lv := [(0, .ref (G.1 0)), (1, .int x1), (2, .int x2), (3, .int x3)]) rfl (fun K hl hC => ?_)
  subst hl
  unfold wX8_fires at h
  show V YM G K (Zi YM G K Q) 4 σ 0 [(0, .ref (G.1 0)), (1, .int x1), (2, .int x2), (3, .int x3)] []
  refine r_aload_n hC 0 dX8_fires_0 (rfl : 0 + 1 = 1) rfl rfl ?_
  refine r_iload_n hC 1 dX8_fires_1 (rfl : 1 + 1 = 2) rfl rfl ?_
  refine r_iload_n hC 3 dX8_fires_2 (rfl : 2 + 1 = 3) rfl rfl ?_
  refine r_callVi hC cs_X8_289 rfl (by omega) (mX8_isTurn hC.2.2.2.2.2.2.2.2.1 (k := k - 1) (by omega) x1 x3 σ _ h) rfl rfl (Nat.le_of_ble_eq_true rfl) dX8_fires_3 (rfl : 3 + 3 = 6) (fun r_2 σ_1 h => ?_)
  refine r_if_eq hC dX8_fires_6 (rfl : 6 + 3 = 9) (tgt := 31) (by decide) (fun q => ?_) (fun q => ?_)
  · replace h := if_t h q
    refine r_iconst hC dX8_fires_31 (rfl : 31 + 1 = 32) (v := -1) (by decide) ?_
    exact r_iret hC rfl h dX8_fires_32
  · replace h := if_f h q
    refine r_aload_n hC 0 dX8_fires_9 (rfl : 9 + 1 = 10) rfl rfl ?_
    refine r_iload_n hC 2 dX8_fires_10 (rfl : 10 + 1 = 11) rfl rfl ?_
    refine r_callVi hC cs_X8_246 rfl (by omega) (mX8_has hC.2.2.2.2.2.2.2.2.1 (k := k - 1) (by omega) x2 σ_1 _ h) rfl rfl (Nat.le_of_ble_eq_true rfl) dX8_fires_11 (rfl : 11 + 3 = 14) (fun r_4 σ_3 h => ?_)
    refine r_if_eq hC dX8_fires_14 (rfl : 14 + 3 = 17) (tgt := 31) (by decide) (fun q => ?_) (fun q => ?_)
    · replace h := if_t h q
      refine r_iconst hC dX8_fires_31 (rfl : 31 + 1 = 32) (v := -1) (by decide) ?_
      exact r_iret hC rfl h dX8_fires_32
    · replace h := if_f h q
      refine r_aload_n hC 0 dX8_fires_17 (rfl : 17 + 1 = 18) rfl rfl ?_
      refine r_aload_n hC 0 dX8_fires_18 (rfl : 18 + 1 = 19) rfl rfl ?_
      refine r_iload_n hC 2 dX8_fires_19 (rfl : 19 + 1 = 20) rfl rfl ?_
      refine r_callVi hC cs_X8_265 rfl (by omega) (mX8_treeOf hC.2.2.2.2.2.2.2.2.1 d (k := k - 1) (by omega) x2 σ_3 _ h) rfl rfl (Nat.le_of_ble_eq_true rfl) dX8_fires_20 (rfl : 20 + 3 = 23) (fun r_6 σ_5 h => ?_)
      refine r_iload_n hC 1 dX8_fires_23 (rfl : 23 + 1 = 24) rfl rfl ?_
      refine r_iload_n hC 3 dX8_fires_24 (rfl : 24 + 1 = 25) rfl rfl ?_
      refine r_callVi hC cs_X8_298 rfl (by omega) (mX8_firesOf hC.2.2.2.2.2.2.2.2.1 d (k := k - 1) (by omega) r_6 x1 x3 σ_5 _ h) rfl rfl (Nat.le_of_ble_eq_true rfl) dX8_fires_25 (rfl : 25 + 3 = 28) (fun r_8 σ_7 h => ?_)
      refine r_goto hC dX8_fires_28 (tgt := 32) (by decide) ?_
      exact r_iret hC rfl h dX8_fires_32
set_option maxHeartbeats 1000000 in
set_option maxRecDepth 100000 in
theorem sX8_never_92 {G : Gx} {b k : Nat} {K : Kx} {l : Launch} (hl : K.2.1 = l) (hC : Cx YM G b K cX8_never RX8 6 (some .int) k) (d : Nat) (hk : 2 * d + 9 ≤ k) (K14 : Int32 → Int32 → Int32 → Sg → Prop) (Q : Int32 → Sg → Prop) (h14 : ∀ (x1 : Int32) (x2 : Int32) (x3 : Int32) (σ : Sg), K14 x1 x2 x3 σ → V YM G K (Zi YM G K Q) 6 σ 14 [(0, .ref (G.1 0)), (1, .int x1), (2, .int x2), (3, .int x3)] []) (x1 : Int32) (x3 : Int32) (s0 : Int32) (s1 : Int32) (σ : Sg) (h : wX8_never_92 d K14 x1 x3 s0 s1 σ Q) : V YM G K (Zi YM G K Q) 6 σ 92 [(0, .ref (G.1 0)), (1, .int x1), (3, .int x3)] [.int s1, .int s0] := by
  subst hl
  unfold wX8_never_92 at h
  refine r_ior hC dX8_never_92 (rfl : 92 + 1 = 93) ?_
  obtain ⟨x2_1, e_2, h⟩ := lt_nm h
  refine r_istore_n hC dX8_never_93 (rfl : 93 + 1 = 94) rfl (by decide) e_2 (lv2 := [(2, .int x2_1), (0, .ref (G.1 0)), (1, .int x1), (3, .int x3)]) rfl ?_
  obtain ⟨x3_3, e_4, h⟩ := lt_nm h
  refine r_iinc hC (j := 3) dX8_never_94 (rfl : 94 + 3 = 97) rfl (zz := 1) (by decide) e_4 (by decide) (lv2 := [(3, .int x3_3), (2, .int x2_1), (0, .ref (G.1 0)), (1, .int x1)]) rfl ?_
  refine r_goto hC dX8_never_97 (tgt := 14) (by decide) ?_
  exact (h14 x1 x2_1 x3_3 σ h).sub [2, 3, 1, 0] rfl
set_option maxHeartbeats 1000000 in
set_option maxRecDepth 100000 in
theorem sX8_never_79 {G : Gx} {b k : Nat} {K : Kx} {l : Launch} (hl : K.2.1 = l) (hC : Cx YM G b K cX8_never RX8 6 (some .int) k) (d : Nat) (hk : 2 * d + 9 ≤ k) (K14 : Int32 → Int32 → Int32 → Sg → Prop) (Q : Int32 → Sg → Prop) (h14 : ∀ (x1 : Int32) (x2 : Int32) (x3 : Int32) (σ : Sg), K14 x1 x2 x3 σ → V YM G K (Zi YM G K Q) 6 σ 14 [(0, .ref (G.1 0)), (1, .int x1), (2, .int x2), (3, .int x3)] []) (x1 : Int32) (x2 : Int32) (x3 : Int32) (x4 : Int32) (σ : Sg) (h : wX8_never_79 d K14 x1 x2 x3 x4 σ Q) : V YM G K (Zi YM G K Q) 6 σ 79 [(0, .ref (G.1 0)), (1, .int x1), (2, .int x2), (3, .int x3), (4, .int x4)] [] := by
  subst hl
  unfold wX8_never_79 at h
  refine r_iload_n hC 2 dX8_never_79 (rfl : 79 + 1 = 80) rfl rfl ?_
  refine r_iload hC 4 dX8_never_80 (rfl : 80 + 2 = 82) rfl ?_
  refine r_if_eq hC dX8_never_82 (rfl : 82 + 3 = 85) (tgt := 89) (by decide) (fun q => ?_) (fun q => ?_)
  · replace h := if_t h q
    refine r_iconst hC dX8_never_89 (rfl : 89 + 1 = 90) (v := 1) (by decide) ?_
    refine r_iload_n hC 3 dX8_never_90 (rfl : 90 + 1 = 91) rfl rfl ?_
    refine r_ishl hC dX8_never_91 (rfl : 91 + 1 = 92) ?_
    exact (sX8_never_92 rfl hC d hk K14 Q h14 x1 x3 x2 ((1 : Int32) <<< (x3 &&& 31)) σ h).sub [0, 1, 3] rfl
  · replace h := if_f h q
    refine r_iconst hC dX8_never_85 (rfl : 85 + 1 = 86) (v := 0) (by decide) ?_
    refine r_goto hC dX8_never_86 (tgt := 92) (by decide) ?_
    exact (sX8_never_92 rfl hC d hk K14 Q h14 x1 x3 x2 0 σ h).sub [0, 1, 3] rfl
set_option maxHeartbeats 1000000 in
set_option maxRecDepth 100000 in
theorem sX8_never_71 {G : Gx} {b k : Nat} {K : Kx} {l : Launch} (hl : K.2.1 = l) (hC : Cx YM G b K cX8_never RX8 6 (some .int) k) (d : Nat) (hk : 2 * d + 9 ≤ k) (K14 : Int32 → Int32 → Int32 → Sg → Prop) (K30 : Int32 → Int32 → Int32 → Int32 → Int32 → Sg → Prop) (Q : Int32 → Sg → Prop) (h14 : ∀ (x1 : Int32) (x2 : Int32) (x3 : Int32) (σ : Sg), K14 x1 x2 x3 σ → V YM G K (Zi YM G K Q) 6 σ 14 [(0, .ref (G.1 0)), (1, .int x1), (2, .int x2), (3, .int x3)] []) (h30 : ∀ (x1 : Int32) (x2 : Int32) (x3 : Int32) (x4 : Int32) (x5 : Int32) (σ : Sg), K30 x1 x2 x3 x4 x5 σ → V YM G K (Zi YM G K Q) 6 σ 30 [(0, .ref (G.1 0)), (1, .int x1), (2, .int x2), (3, .int x3), (4, .int x4), (5, .int x5)] []) (x1 : Int32) (x2 : Int32) (x3 : Int32) (x5 : Int32) (s0 : Int32) (σ : Sg) (h : wX8_never_71 d K14 K30 x1 x2 x3 x5 s0 σ Q) : V YM G K (Zi YM G K Q) 6 σ 71 [(0, .ref (G.1 0)), (1, .int x1), (2, .int x2), (3, .int x3), (5, .int x5)] [.int s0] := by
  subst hl
  unfold wX8_never_71 at h
  refine r_istore hC dX8_never_71 (rfl : 71 + 2 = 73) (by decide) rfl (lv2 := [(4, .int s0), (0, .ref (G.1 0)), (1, .int x1), (2, .int x2), (3, .int x3), (5, .int x5)]) rfl ?_
  obtain ⟨x5_5, e_6, h⟩ := lt_nm h
  refine r_iinc hC (j := 5) dX8_never_73 (rfl : 73 + 3 = 76) rfl (zz := 1) (by decide) e_6 (by decide) (lv2 := [(5, .int x5_5), (4, .int s0), (0, .ref (G.1 0)), (1, .int x1), (2, .int x2), (3, .int x3)]) rfl ?_
  refine r_goto hC dX8_never_76 (tgt := 30) (by decide) ?_
  exact (h30 x1 x2 x3 s0 x5_5 σ h).sub [2, 3, 4, 5, 1, 0] rfl
set_option maxHeartbeats 1000000 in
set_option maxRecDepth 100000 in
theorem sX8_never_70 {G : Gx} {b k : Nat} {K : Kx} {l : Launch} (hl : K.2.1 = l) (hC : Cx YM G b K cX8_never RX8 6 (some .int) k) (d : Nat) (hk : 2 * d + 9 ≤ k) (K14 : Int32 → Int32 → Int32 → Sg → Prop) (K30 : Int32 → Int32 → Int32 → Int32 → Int32 → Sg → Prop) (Q : Int32 → Sg → Prop) (h14 : ∀ (x1 : Int32) (x2 : Int32) (x3 : Int32) (σ : Sg), K14 x1 x2 x3 σ → V YM G K (Zi YM G K Q) 6 σ 14 [(0, .ref (G.1 0)), (1, .int x1), (2, .int x2), (3, .int x3)] []) (h30 : ∀ (x1 : Int32) (x2 : Int32) (x3 : Int32) (x4 : Int32) (x5 : Int32) (σ : Sg), K30 x1 x2 x3 x4 x5 σ → V YM G K (Zi YM G K Q) 6 σ 30 [(0, .ref (G.1 0)), (1, .int x1), (2, .int x2), (3, .int x3), (4, .int x4), (5, .int x5)] []) (x1 : Int32) (x2 : Int32) (x3 : Int32) (x5 : Int32) (σ : Sg) (h : wX8_never_70 d K14 K30 x1 x2 x3 x5 σ Q) : V YM G K (Zi YM G K Q) 6 σ 70 [(0, .ref (G.1 0)), (1, .int x1), (2, .int x2), (3, .int x3), (5, .int x5)] [] := by
  subst hl
  unfold wX8_never_70 at h
  refine r_iconst hC dX8_never_70 (rfl : 70 + 1 = 71) (v := 0) (by decide) ?_
  exact (sX8_never_71 rfl hC d hk K14 K30 Q h14 h30 x1 x2 x3 x5 0 σ h).sub [0, 1, 2, 3, 4] rfl
set_option maxHeartbeats 1000000 in
set_option maxRecDepth 100000 in
theorem sX8_never_30 {G : Gx} {b k : Nat} {K : Kx} {l : Launch} (hl : K.2.1 = l) (hC : Cx YM G b K cX8_never RX8 6 (some .int) k) (d : Nat) (hk : 2 * d + 9 ≤ k) (K14 : Int32 → Int32 → Int32 → Sg → Prop) (Q : Int32 → Sg → Prop) (h14 : ∀ (x1 : Int32) (x2 : Int32) (x3 : Int32) (σ : Sg), K14 x1 x2 x3 σ → V YM G K (Zi YM G K Q) 6 σ 14 [(0, .ref (G.1 0)), (1, .int x1), (2, .int x2), (3, .int x3)] []) : ∀ (n : Nat) (x1 : Int32) (x2 : Int32) (x3 : Int32) (x4 : Int32) (x5 : Int32) (σ : Sg), wX8_never_30 d K14 Q n x1 x2 x3 x4 x5 σ → V YM G K (Zi YM G K Q) 6 σ 30 [(0, .ref (G.1 0)), (1, .int x1), (2, .int x2), (3, .int x3), (4, .int x4), (5, .int x5)] [] := by
  subst hl
  intro n
  induction n with
  | zero =>
    intro x1 x2 x3 x4 x5 σ h
    exact h.elim
  | succ n ih =>
    intro x1 x2 x3 x4 x5 σ h
    have h : wX8_never_30_b d K14 (wX8_never_30 d K14 Q n) x1 x2 x3 x4 x5 σ Q := h
    unfold wX8_never_30_b at h
    refine r_iload hC 5 dX8_never_30 (rfl : 30 + 2 = 32) rfl ?_
    refine r_bipush hC dX8_never_32 (rfl : 32 + 2 = 34) (v := 20) (by decide) ?_
    refine r_icmp_ge hC dX8_never_34 (rfl : 34 + 3 = 37) (tgt := 79) (by decide) (fun q => ?_) (fun q => ?_)
    · replace h := if_t h q
      exact (sX8_never_79 rfl hC d hk K14 Q h14 x1 x2 x3 x4 σ h).sub [0, 1, 2, 3, 4] rfl
    · replace h := if_f h q
      refine r_iload hC 4 dX8_never_37 (rfl : 37 + 2 = 39) rfl ?_
      refine r_if_ne hC dX8_never_39 (rfl : 39 + 3 = 42) (tgt := 79) (by decide) (fun q => ?_) (fun q => ?_)
      · replace h := if_f h q
        exact (sX8_never_79 rfl hC d hk K14 Q h14 x1 x2 x3 x4 σ h).sub [0, 1, 2, 3, 4] rfl
      · replace h := if_t h q
        refine r_aload_n hC 0 dX8_never_42 (rfl : 42 + 1 = 43) rfl rfl ?_
        refine r_iload hC 5 dX8_never_43 (rfl : 43 + 2 = 45) rfl ?_
        refine r_callVi hC cs_X8_246 rfl (by omega) (mX8_has hC.2.2.2.2.2.2.2.2.1 (k := k - 1) (by omega) x5 σ _ h) rfl rfl (Nat.le_of_ble_eq_true rfl) dX8_never_45 (rfl : 45 + 3 = 48) (fun r_8 σ_7 h => ?_)
        refine r_if_eq hC dX8_never_48 (rfl : 48 + 3 = 51) (tgt := 70) (by decide) (fun q => ?_) (fun q => ?_)
        · replace h := if_t h q
          exact (sX8_never_70 rfl hC d hk K14 (wX8_never_30 d K14 Q n) Q h14 ih x1 x2 x3 x5 σ_7 h).sub [0, 1, 2, 3, 5] rfl
        · replace h := if_f h q
          refine r_aload_n hC 0 dX8_never_51 (rfl : 51 + 1 = 52) rfl rfl ?_
          refine r_aload_n hC 0 dX8_never_52 (rfl : 52 + 1 = 53) rfl rfl ?_
          refine r_iload hC 5 dX8_never_53 (rfl : 53 + 2 = 55) rfl ?_
          refine r_callVi hC cs_X8_265 rfl (by omega) (mX8_treeOf hC.2.2.2.2.2.2.2.2.1 d (k := k - 1) (by omega) x5 σ_7 _ h) rfl rfl (Nat.le_of_ble_eq_true rfl) dX8_never_55 (rfl : 55 + 3 = 58) (fun r_10 σ_9 h => ?_)
          refine r_iload_n hC 1 dX8_never_58 (rfl : 58 + 1 = 59) rfl rfl ?_
          refine r_iload_n hC 3 dX8_never_59 (rfl : 59 + 1 = 60) rfl rfl ?_
          refine r_callVi hC cs_X8_298 rfl (by omega) (mX8_firesOf hC.2.2.2.2.2.2.2.2.1 d (k := k - 1) (by omega) r_10 x1 x3 σ_9 _ h) rfl rfl (Nat.le_of_ble_eq_true rfl) dX8_never_60 (rfl : 60 + 3 = 63) (fun r_12 σ_11 h => ?_)
          refine r_if_le hC dX8_never_63 (rfl : 63 + 3 = 66) (tgt := 70) (by decide) (fun q => ?_) (fun q => ?_)
          · replace h := if_t h q
            exact (sX8_never_70 rfl hC d hk K14 (wX8_never_30 d K14 Q n) Q h14 ih x1 x2 x3 x5 σ_11 h).sub [0, 1, 2, 3, 5] rfl
          · replace h := if_f h q
            refine r_iconst hC dX8_never_66 (rfl : 66 + 1 = 67) (v := 1) (by decide) ?_
            refine r_goto hC dX8_never_67 (tgt := 71) (by decide) ?_
            exact (sX8_never_71 rfl hC d hk K14 (wX8_never_30 d K14 Q n) Q h14 ih x1 x2 x3 x5 1 σ_11 h).sub [0, 1, 2, 3, 5] rfl
set_option maxHeartbeats 1000000 in
set_option maxRecDepth 100000 in
theorem sX8_never_14 {G : Gx} {b k : Nat} {K : Kx} {l : Launch} (hl : K.2.1 = l) (hC : Cx YM G b K cX8_never RX8 6 (some .int) k) (d : Nat) (hk : 2 * d + 9 ≤ k)  (Q : Int32 → Sg → Prop)  : ∀ (n : Nat) (x1 : Int32) (x2 : Int32) (x3 : Int32) (σ : Sg), wX8_never_14 d Q n x1 x2 x3 σ → V YM G K (Zi YM G K Q) 6 σ 14 [(0, .ref (G.1 0)), (1, .int x1), (2, .int x2), (3, .int x3)] [] := by
  subst hl
  intro n
  induction n with
  | zero =>
    intro x1 x2 x3 σ h
    exact h.elim
  | succ n ih =>
    intro x1 x2 x3 σ h
    have h : wX8_never_14_b d (wX8_never_14 d Q n) x1 x2 x3 σ Q := h
    unfold wX8_never_14_b at h
    refine r_iload_n hC 3 dX8_never_14 (rfl : 14 + 1 = 15) rfl rfl ?_
    refine r_aload_n hC 0 dX8_never_15 (rfl : 15 + 1 = 16) rfl rfl ?_
    refine r_getr hC 0 7 28 18 (o := 18) fw_X8_62 rfl rfl dX8_never_16 (rfl : 16 + 3 = 19) ?_
    refine r_iload_n hC 1 dX8_never_19 (rfl : 19 + 1 = 20) rfl rfl ?_
    obtain ⟨q_13, h⟩ := h
    refine r_iald hC 18 rfl q_13 dX8_never_20 (rfl : 20 + 1 = 21) ?_
    refine r_icmp_ge hC dX8_never_21 (rfl : 21 + 3 = 24) (tgt := 100) (by decide) (fun q => ?_) (fun q => ?_)
    · replace h := if_t h q
      refine r_iload_n hC 2 dX8_never_100 (rfl : 100 + 1 = 101) rfl rfl ?_
      exact r_iret hC rfl h dX8_never_101
    · replace h := if_f h q
      refine r_iconst hC dX8_never_24 (rfl : 24 + 1 = 25) (v := 0) (by decide) ?_
      refine r_istore hC dX8_never_25 (rfl : 25 + 2 = 27) (by decide) rfl (lv2 := [(4, .int 0), (0, .ref (G.1 0)), (1, .int x1), (2, .int x2), (3, .int x3)]) rfl ?_
      refine r_iconst hC dX8_never_27 (rfl : 27 + 1 = 28) (v := 0) (by decide) ?_
      refine r_istore hC dX8_never_28 (rfl : 28 + 2 = 30) (by decide) rfl (lv2 := [(5, .int 0), (4, .int 0), (0, .ref (G.1 0)), (1, .int x1), (2, .int x2), (3, .int x3)]) rfl ?_
      obtain ⟨nn, h⟩ := h
      exact (sX8_never_30 rfl hC d hk (wX8_never_14 d Q n) Q ih nn x1 x2 x3 0 0 σ h).sub [2, 3, 4, 5, 1, 0] rfl
set_option maxHeartbeats 1000000 in
set_option maxRecDepth 100000 in
theorem mX8_never {G : Gx} {b k : Nat} {l : Launch} (hS : Sok YM G) (d : Nat) (hk : 2 * d + 9 ≤ k) (x1 : Int32) (σ : Sg) (Q : Int32 → Sg → Prop) (h : wX8_never d x1 σ Q) : Mi YM G b l yX8_never cX8_never 6 .int k [.ref (G.1 0), .int x1] σ Q := by
  refine enter hS (by decide +kernel) (Nat.le_of_ble_eq_true rfl) (lv := [(0, .ref (G.1 0)), (1, .int x1)]) rfl (fun K hl hC => ?_)
  subst hl
  unfold wX8_never at h
  show V YM G K (Zi YM G K Q) 6 σ 0 [(0, .ref (G.1 0)), (1, .int x1)] []
  refine r_aload_n hC 0 dX8_never_0 (rfl : 0 + 1 = 1) rfl rfl ?_
  refine r_iload_n hC 1 dX8_never_1 (rfl : 1 + 1 = 2) rfl rfl ?_
  refine r_callVi hC cs_X8_286 rfl (by omega) (mX8_isMaker hC.2.2.2.2.2.2.2.2.1 (k := k - 1) (by omega) x1 σ _ h) rfl rfl (Nat.le_of_ble_eq_true rfl) dX8_never_2 (rfl : 2 + 3 = 5) (fun r_15 σ_14 h => ?_)
  refine r_if_ne hC dX8_never_5 (rfl : 5 + 3 = 8) (tgt := 10) (by decide) (fun q => ?_) (fun q => ?_)
  · replace h := if_f h q
    refine r_iconst hC dX8_never_10 (rfl : 10 + 1 = 11) (v := 0) (by decide) ?_
    refine r_istore_n hC dX8_never_11 (rfl : 11 + 1 = 12) rfl (by decide) rfl (lv2 := [(2, .int 0), (0, .ref (G.1 0)), (1, .int x1)]) rfl ?_
    refine r_iconst hC dX8_never_12 (rfl : 12 + 1 = 13) (v := 0) (by decide) ?_
    refine r_istore_n hC dX8_never_13 (rfl : 13 + 1 = 14) rfl (by decide) rfl (lv2 := [(3, .int 0), (2, .int 0), (0, .ref (G.1 0)), (1, .int x1)]) rfl ?_
    obtain ⟨nn, h⟩ := h
    exact (sX8_never_14 rfl hC d hk  Q  nn x1 0 0 σ_14 h).sub [2, 3, 1, 0] rfl
  · replace h := if_t h q
    refine r_iconst hC dX8_never_8 (rfl : 8 + 1 = 9) (v := -1) (by decide) ?_
    exact r_iret hC rfl h dX8_never_9
set_option maxHeartbeats 1000000 in
set_option maxRecDepth 100000 in
theorem sX8_firstOf_28 {G : Gx} {b k : Nat} {K : Kx} {l : Launch} (hl : K.2.1 = l) (hC : Cx YM G b K cX8_firstOf RX8 7 (some .int) k) (d : Nat) (hk : 2 * d + 8 ≤ k) (K18 : Int32 → Int32 → Int32 → Int32 → Sg → Prop) (Q : Int32 → Sg → Prop) (h18 : ∀ (x1 : Int32) (x3 : Int32) (x4 : Int32) (x5 : Int32) (σ : Sg), K18 x1 x3 x4 x5 σ → V YM G K (Zi YM G K Q) 7 σ 18 [(0, .ref (G.1 0)), (1, .int x1), (3, .int x3), (4, .int x4), (5, .int x5)] []) : ∀ (n : Nat) (x1 : Int32) (x3 : Int32) (x4 : Int32) (x5 : Int32) (x6 : Int32) (σ : Sg), wX8_firstOf_28 d K18 Q n x1 x3 x4 x5 x6 σ → V YM G K (Zi YM G K Q) 7 σ 28 [(0, .ref (G.1 0)), (1, .int x1), (3, .int x3), (4, .int x4), (5, .int x5), (6, .int x6)] [] := by
  subst hl
  intro n
  induction n with
  | zero =>
    intro x1 x3 x4 x5 x6 σ h
    exact h.elim
  | succ n ih =>
    intro x1 x3 x4 x5 x6 σ h
    have h : wX8_firstOf_28_b d K18 (wX8_firstOf_28 d K18 Q n) x1 x3 x4 x5 x6 σ Q := h
    unfold wX8_firstOf_28_b at h
    refine r_iload hC 5 dX8_firstOf_28 (rfl : 28 + 2 = 30) rfl ?_
    refine r_iload_n hC 2 dX8_firstOf_30 (rfl : 30 + 1 = 31) rfl rfl ?_
    refine r_icmp_gt hC dX8_firstOf_31 (rfl : 31 + 3 = 34) (tgt := 69) (by decide) (fun q => ?_) (fun q => ?_)
    · replace h := if_t h q
      obtain ⟨x5_1, e_2, h⟩ := lt_nm h
      refine r_iinc hC (j := 4) dX8_firstOf_69 (rfl : 69 + 3 = 72) rfl (zz := 1) (by decide) e_2 (by decide) (lv2 := [(5, .int x5_1), (0, .ref (G.1 0)), (1, .int x1), (3, .int x3), (4, .int x4), (6, .int x6)]) rfl ?_
      refine r_goto hC dX8_firstOf_72 (tgt := 18) (by decide) ?_
      exact (h18 x1 x3 x4 x5_1 σ h).sub [1, 2, 3, 4, 0] rfl
    · replace h := if_f h q
      refine r_aload_n hC 0 dX8_firstOf_34 (rfl : 34 + 1 = 35) rfl rfl ?_
      refine r_iload_n hC 1 dX8_firstOf_35 (rfl : 35 + 1 = 36) rfl rfl ?_
      refine r_iload hC 3 dX8_firstOf_36 (rfl : 36 + 2 = 38) rfl ?_
      refine r_iload hC 4 dX8_firstOf_38 (rfl : 38 + 2 = 40) rfl ?_
      refine r_iload hC 5 dX8_firstOf_40 (rfl : 40 + 2 = 42) rfl ?_
      refine r_callVi hC cs_X8_301 rfl (by omega) (mX8_isOther hC.2.2.2.2.2.2.2.2.1 d (k := k - 1) (by omega) x1 x4 x5 x6 σ _ h) rfl rfl (Nat.le_of_ble_eq_true rfl) dX8_firstOf_42 (rfl : 42 + 3 = 45) (fun r_4 σ_3 h => ?_)
      refine r_if_eq hC dX8_firstOf_45 (rfl : 45 + 3 = 48) (tgt := 63) (by decide) (fun q => ?_) (fun q => ?_)
      · replace h := if_t h q
        obtain ⟨x6_5, e_6, h⟩ := lt_nm h
        refine r_iinc hC (j := 5) dX8_firstOf_63 (rfl : 63 + 3 = 66) rfl (zz := 1) (by decide) e_6 (by decide) (lv2 := [(6, .int x6_5), (0, .ref (G.1 0)), (1, .int x1), (3, .int x3), (4, .int x4), (5, .int x5)]) rfl ?_
        refine r_goto hC dX8_firstOf_66 (tgt := 28) (by decide) ?_
        exact (ih x1 x3 x4 x5 x6_5 σ_3 h).sub [1, 2, 3, 4, 5, 0] rfl
      · replace h := if_f h q
        refine r_bipush hC dX8_firstOf_48 (rfl : 48 + 2 = 50) (v := 100) (by decide) ?_
        refine r_iload hC 4 dX8_firstOf_50 (rfl : 50 + 2 = 52) rfl ?_
        refine r_bipush hC dX8_firstOf_52 (rfl : 52 + 2 = 54) (v := 6) (by decide) ?_
        refine r_iadd hC dX8_firstOf_54 (rfl : 54 + 1 = 55) ?_
        refine r_imul hC dX8_firstOf_55 (rfl : 55 + 1 = 56) ?_
        refine r_iload hC 5 dX8_firstOf_56 (rfl : 56 + 2 = 58) rfl ?_
        refine r_iadd hC dX8_firstOf_58 (rfl : 58 + 1 = 59) ?_
        refine r_bipush hC dX8_firstOf_59 (rfl : 59 + 2 = 61) (v := 6) (by decide) ?_
        refine r_iadd hC dX8_firstOf_61 (rfl : 61 + 1 = 62) ?_
        exact r_iret hC rfl h dX8_firstOf_62
set_option maxHeartbeats 1000000 in
set_option maxRecDepth 100000 in
theorem sX8_firstOf_18 {G : Gx} {b k : Nat} {K : Kx} {l : Launch} (hl : K.2.1 = l) (hC : Cx YM G b K cX8_firstOf RX8 7 (some .int) k) (d : Nat) (hk : 2 * d + 8 ≤ k)  (Q : Int32 → Sg → Prop)  : ∀ (n : Nat) (x1 : Int32) (x3 : Int32) (x4 : Int32) (x5 : Int32) (σ : Sg), wX8_firstOf_18 d Q n x1 x3 x4 x5 σ → V YM G K (Zi YM G K Q) 7 σ 18 [(0, .ref (G.1 0)), (1, .int x1), (3, .int x3), (4, .int x4), (5, .int x5)] [] := by
  subst hl
  intro n
  induction n with
  | zero =>
    intro x1 x3 x4 x5 σ h
    exact h.elim
  | succ n ih =>
    intro x1 x3 x4 x5 σ h
    have h : wX8_firstOf_18_b d (wX8_firstOf_18 d Q n) x1 x3 x4 x5 σ Q := h
    unfold wX8_firstOf_18_b at h
    refine r_iload hC 4 dX8_firstOf_18 (rfl : 18 + 2 = 20) rfl ?_
    refine r_iload_n hC 2 dX8_firstOf_20 (rfl : 20 + 1 = 21) rfl rfl ?_
    refine r_icmp_gt hC dX8_firstOf_21 (rfl : 21 + 3 = 24) (tgt := 75) (by decide) (fun q => ?_) (fun q => ?_)
    · replace h := if_t h q
      refine r_bipush hC dX8_firstOf_75 (rfl : 75 + 2 = 77) (v := -5) (by decide) ?_
      exact r_iret hC rfl h dX8_firstOf_77
    · replace h := if_f h q
      refine r_iload_n hC 2 dX8_firstOf_24 (rfl : 24 + 1 = 25) rfl rfl ?_
      refine r_ineg hC dX8_firstOf_25 (rfl : 25 + 1 = 26) ?_
      obtain ⟨x6_7, e_8, h⟩ := lt_nm h
      refine r_istore hC dX8_firstOf_26 (rfl : 26 + 2 = 28) (by decide) e_8 (lv2 := [(6, .int x6_7), (0, .ref (G.1 0)), (1, .int x1), (3, .int x3), (4, .int x4), (5, .int x5)]) rfl ?_
      obtain ⟨nn, h⟩ := h
      exact (sX8_firstOf_28 rfl hC d hk (wX8_firstOf_18 d Q n) Q ih nn x1 x3 x4 x5 x6_7 σ h).sub [1, 2, 3, 4, 5, 0] rfl
set_option maxHeartbeats 1000000 in
set_option maxRecDepth 100000 in
theorem mX8_firstOf {G : Gx} {b k : Nat} {l : Launch} (hS : Sok YM G) (d : Nat) (hk : 2 * d + 8 ≤ k) (x1 : Int32) (x2 : Int32) (x3 : Int32) (σ : Sg) (Q : Int32 → Sg → Prop) (h : wX8_firstOf d x1 x2 x3 σ Q) : Mi YM G b l yX8_firstOf cX8_firstOf 7 .int k [.ref (G.1 0), .int x1, .int x2, .int x3] σ Q := by
  refine enter hS (by decide +kernel) (Nat.le_of_ble_eq_true rfl) (lv := [(0, .ref (G.1 0)), (1, .int x1), (2, .int x2), (3, .int x3)]) rfl (fun K hl hC => ?_)
  subst hl
  unfold wX8_firstOf at h
  show V YM G K (Zi YM G K Q) 7 σ 0 [(0, .ref (G.1 0)), (1, .int x1), (2, .int x2), (3, .int x3)] []
  refine r_aload_n hC 0 dX8_firstOf_0 (rfl : 0 + 1 = 1) rfl rfl ?_
  refine r_iload_n hC 1 dX8_firstOf_1 (rfl : 1 + 1 = 2) rfl rfl ?_
  refine r_iload_n hC 2 dX8_firstOf_2 (rfl : 2 + 1 = 3) rfl rfl ?_
  refine r_aload_n hC 0 dX8_firstOf_3 (rfl : 3 + 1 = 4) rfl rfl ?_
  refine r_getr hC 0 7 28 18 (o := 18) fw_X8_62 rfl rfl dX8_firstOf_4 (rfl : 4 + 3 = 7) ?_
  refine r_iload_n hC 2 dX8_firstOf_7 (rfl : 7 + 1 = 8) rfl rfl ?_
  obtain ⟨q_9, h⟩ := h
  refine r_iald hC 18 rfl q_9 dX8_firstOf_8 (rfl : 8 + 1 = 9) ?_
  refine r_callVi hC cs_X8_292 rfl (by omega) (mX8_madeBy hC.2.2.2.2.2.2.2.2.1 d (k := k - 1) (by omega) x1 x2 (σ.1 18 (Int32.toNatClampNeg x2)) σ _ h) rfl rfl (Nat.le_of_ble_eq_true rfl) dX8_firstOf_9 (rfl : 9 + 3 = 12) (fun r_11 σ_10 h => ?_)
  refine r_istore hC dX8_firstOf_12 (rfl : 12 + 2 = 14) (by decide) rfl (lv2 := [(4, .int r_11), (0, .ref (G.1 0)), (1, .int x1), (2, .int x2), (3, .int x3)]) rfl ?_
  refine r_iload_n hC 4 dX8_firstOf_14 (rfl : 14 + 1 = 15) rfl rfl ?_
  refine r_ineg hC dX8_firstOf_15 (rfl : 15 + 1 = 16) ?_
  obtain ⟨x5_12, e_13, h⟩ := lt_nm h
  refine r_istore hC dX8_firstOf_16 (rfl : 16 + 2 = 18) (by decide) e_13 (lv2 := [(5, .int x5_12), (4, .int r_11), (0, .ref (G.1 0)), (1, .int x1), (2, .int x2), (3, .int x3)]) rfl ?_
  obtain ⟨nn, h⟩ := h
  exact (sX8_firstOf_18 rfl hC d hk  Q  nn x1 x3 r_11 x5_12 σ_10 h).sub [2, 3, 5, 1, 0] rfl
set_option maxHeartbeats 1000000 in
set_option maxRecDepth 100000 in
theorem sX8_differ_110 {G : Gx} {b k : Nat} {K : Kx} {l : Launch} (hl : K.2.1 = l) (hC : Cx YM G b K cX8_differ RX8 9 (some .int) k) (d : Nat) (hk : 2 * d + 8 ≤ k) (K72 : Int32 → Int32 → Int32 → Int32 → Int32 → Sg → Prop) (K82 : Int32 → Int32 → Int32 → Int32 → Int32 → Int32 → Sg → Prop) (Q : Int32 → Sg → Prop) (h72 : ∀ (x3 : Int32) (x4 : Int32) (x5 : Int32) (x6 : Int32) (x7 : Int32) (σ : Sg), K72 x3 x4 x5 x6 x7 σ → V YM G K (Zi YM G K Q) 9 σ 72 [(0, .ref (G.1 0)), (3, .int x3), (4, .int x4), (5, .int x5), (6, .int x6), (7, .int x7)] []) (h82 : ∀ (x3 : Int32) (x4 : Int32) (x5 : Int32) (x6 : Int32) (x7 : Int32) (x8 : Int32) (σ : Sg), K82 x3 x4 x5 x6 x7 x8 σ → V YM G K (Zi YM G K Q) 9 σ 82 [(0, .ref (G.1 0)), (3, .int x3), (4, .int x4), (5, .int x5), (6, .int x6), (7, .int x7), (8, .int x8)] []) (x3 : Int32) (x4 : Int32) (x5 : Int32) (x7 : Int32) (x8 : Int32) (s0 : Int32) (s1 : Int32) (σ : Sg) (h : wX8_differ_110 d K72 K82 x3 x4 x5 x7 x8 s0 s1 σ Q) : V YM G K (Zi YM G K Q) 9 σ 110 [(0, .ref (G.1 0)), (3, .int x3), (4, .int x4), (5, .int x5), (7, .int x7), (8, .int x8)] [.int s1, .int s0] := by
  subst hl
  unfold wX8_differ_110 at h
  refine r_iadd hC dX8_differ_110 (rfl : 110 + 1 = 111) ?_
  obtain ⟨x6_1, e_2, h⟩ := lt_nm h
  refine r_istore hC dX8_differ_111 (rfl : 111 + 2 = 113) (by decide) e_2 (lv2 := [(6, .int x6_1), (0, .ref (G.1 0)), (3, .int x3), (4, .int x4), (5, .int x5), (7, .int x7), (8, .int x8)]) rfl ?_
  obtain ⟨x8_3, e_4, h⟩ := lt_nm h
  refine r_iinc hC (j := 6) dX8_differ_113 (rfl : 113 + 3 = 116) rfl (zz := 1) (by decide) e_4 (by decide) (lv2 := [(8, .int x8_3), (6, .int x6_1), (0, .ref (G.1 0)), (3, .int x3), (4, .int x4), (5, .int x5), (7, .int x7)]) rfl ?_
  refine r_goto hC dX8_differ_116 (tgt := 82) (by decide) ?_
  exact (h82 x3 x4 x5 x6_1 x7 x8_3 σ h).sub [2, 3, 4, 5, 1, 6, 0] rfl
set_option maxHeartbeats 1000000 in
set_option maxRecDepth 100000 in
theorem sX8_differ_82 {G : Gx} {b k : Nat} {K : Kx} {l : Launch} (hl : K.2.1 = l) (hC : Cx YM G b K cX8_differ RX8 9 (some .int) k) (d : Nat) (hk : 2 * d + 8 ≤ k) (K72 : Int32 → Int32 → Int32 → Int32 → Int32 → Sg → Prop) (Q : Int32 → Sg → Prop) (h72 : ∀ (x3 : Int32) (x4 : Int32) (x5 : Int32) (x6 : Int32) (x7 : Int32) (σ : Sg), K72 x3 x4 x5 x6 x7 σ → V YM G K (Zi YM G K Q) 9 σ 72 [(0, .ref (G.1 0)), (3, .int x3), (4, .int x4), (5, .int x5), (6, .int x6), (7, .int x7)] []) : ∀ (n : Nat) (x3 : Int32) (x4 : Int32) (x5 : Int32) (x6 : Int32) (x7 : Int32) (x8 : Int32) (σ : Sg), wX8_differ_82 d K72 Q n x3 x4 x5 x6 x7 x8 σ → V YM G K (Zi YM G K Q) 9 σ 82 [(0, .ref (G.1 0)), (3, .int x3), (4, .int x4), (5, .int x5), (6, .int x6), (7, .int x7), (8, .int x8)] [] := by
  subst hl
  intro n
  induction n with
  | zero =>
    intro x3 x4 x5 x6 x7 x8 σ h
    exact h.elim
  | succ n ih =>
    intro x3 x4 x5 x6 x7 x8 σ h
    have h : wX8_differ_82_b d K72 (wX8_differ_82 d K72 Q n) x3 x4 x5 x6 x7 x8 σ Q := h
    unfold wX8_differ_82_b at h
    refine r_iload hC 6 dX8_differ_82 (rfl : 82 + 2 = 84) rfl ?_
    refine r_iload_n hC 1 dX8_differ_84 (rfl : 84 + 1 = 85) rfl rfl ?_
    refine r_icmp_gt hC dX8_differ_85 (rfl : 85 + 3 = 88) (tgt := 119) (by decide) (fun q => ?_) (fun q => ?_)
    · replace h := if_t h q
      obtain ⟨x7_5, e_6, h⟩ := lt_nm h
      refine r_iinc hC (j := 5) dX8_differ_119 (rfl : 119 + 3 = 122) rfl (zz := 1) (by decide) e_6 (by decide) (lv2 := [(7, .int x7_5), (0, .ref (G.1 0)), (3, .int x3), (4, .int x4), (5, .int x5), (6, .int x6), (8, .int x8)]) rfl ?_
      refine r_goto hC dX8_differ_122 (tgt := 72) (by decide) ?_
      exact (h72 x3 x4 x5 x6 x7_5 σ h).sub [1, 2, 3, 4, 5, 0] rfl
    · replace h := if_f h q
      refine r_iload hC 4 dX8_differ_88 (rfl : 88 + 2 = 90) rfl ?_
      refine r_aload_n hC 0 dX8_differ_90 (rfl : 90 + 1 = 91) rfl rfl ?_
      refine r_iload hC 2 dX8_differ_91 (rfl : 91 + 2 = 93) rfl ?_
      refine r_iload hC 3 dX8_differ_93 (rfl : 93 + 2 = 95) rfl ?_
      refine r_iload hC 5 dX8_differ_95 (rfl : 95 + 2 = 97) rfl ?_
      refine r_iload hC 6 dX8_differ_97 (rfl : 97 + 2 = 99) rfl ?_
      refine r_callVi hC cs_X8_301 rfl (by omega) (mX8_isOther hC.2.2.2.2.2.2.2.2.1 d (k := k - 1) (by omega) x4 x5 x7 x8 σ _ h) rfl rfl (Nat.le_of_ble_eq_true rfl) dX8_differ_99 (rfl : 99 + 3 = 102) (fun r_8 σ_7 h => ?_)
      refine r_if_eq hC dX8_differ_102 (rfl : 102 + 3 = 105) (tgt := 109) (by decide) (fun q => ?_) (fun q => ?_)
      · replace h := if_t h q
        refine r_iconst hC dX8_differ_109 (rfl : 109 + 1 = 110) (v := 0) (by decide) ?_
        exact (sX8_differ_110 rfl hC d hk K72 (wX8_differ_82 d K72 Q n) Q h72 ih x3 x4 x5 x7 x8 x6 0 σ_7 h).sub [0, 1, 2, 3, 5, 6] rfl
      · replace h := if_f h q
        refine r_iconst hC dX8_differ_105 (rfl : 105 + 1 = 106) (v := 1) (by decide) ?_
        refine r_goto hC dX8_differ_106 (tgt := 110) (by decide) ?_
        exact (sX8_differ_110 rfl hC d hk K72 (wX8_differ_82 d K72 Q n) Q h72 ih x3 x4 x5 x7 x8 x6 1 σ_7 h).sub [0, 1, 2, 3, 5, 6] rfl
set_option maxHeartbeats 1000000 in
set_option maxRecDepth 100000 in
theorem sX8_differ_72 {G : Gx} {b k : Nat} {K : Kx} {l : Launch} (hl : K.2.1 = l) (hC : Cx YM G b K cX8_differ RX8 9 (some .int) k) (d : Nat) (hk : 2 * d + 8 ≤ k)  (Q : Int32 → Sg → Prop)  : ∀ (n : Nat) (x3 : Int32) (x4 : Int32) (x5 : Int32) (x6 : Int32) (x7 : Int32) (σ : Sg), wX8_differ_72 d Q n x3 x4 x5 x6 x7 σ → V YM G K (Zi YM G K Q) 9 σ 72 [(0, .ref (G.1 0)), (3, .int x3), (4, .int x4), (5, .int x5), (6, .int x6), (7, .int x7)] [] := by
  subst hl
  intro n
  induction n with
  | zero =>
    intro x3 x4 x5 x6 x7 σ h
    exact h.elim
  | succ n ih =>
    intro x3 x4 x5 x6 x7 σ h
    have h : wX8_differ_72_b d (wX8_differ_72 d Q n) x3 x4 x5 x6 x7 σ Q := h
    unfold wX8_differ_72_b at h
    refine r_iload hC 5 dX8_differ_72 (rfl : 72 + 2 = 74) rfl ?_
    refine r_iload_n hC 1 dX8_differ_74 (rfl : 74 + 1 = 75) rfl rfl ?_
    refine r_icmp_gt hC dX8_differ_75 (rfl : 75 + 3 = 78) (tgt := 125) (by decide) (fun q => ?_) (fun q => ?_)
    · replace h := if_t h q
      refine r_iload hC 4 dX8_differ_125 (rfl : 125 + 2 = 127) rfl ?_
      exact r_iret hC rfl h dX8_differ_127
    · replace h := if_f h q
      refine r_iload_n hC 1 dX8_differ_78 (rfl : 78 + 1 = 79) rfl rfl ?_
      refine r_ineg hC dX8_differ_79 (rfl : 79 + 1 = 80) ?_
      obtain ⟨x8_9, e_10, h⟩ := lt_nm h
      refine r_istore hC dX8_differ_80 (rfl : 80 + 2 = 82) (by decide) e_10 (lv2 := [(8, .int x8_9), (0, .ref (G.1 0)), (3, .int x3), (4, .int x4), (5, .int x5), (6, .int x6), (7, .int x7)]) rfl ?_
      obtain ⟨nn, h⟩ := h
      exact (sX8_differ_82 rfl hC d hk (wX8_differ_72 d Q n) Q ih nn x3 x4 x5 x6 x7 x8_9 σ h).sub [1, 2, 3, 4, 5, 6, 0] rfl
set_option maxHeartbeats 1000000 in
set_option maxRecDepth 100000 in
theorem mX8_differ {G : Gx} {b k : Nat} {l : Launch} (hS : Sok YM G) (d : Nat) (hk : 2 * d + 8 ≤ k) (x1 : Int32) (x2 : Int32) (x3 : Int32) (σ : Sg) (Q : Int32 → Sg → Prop) (h : wX8_differ d x1 x2 x3 σ Q) : Mi YM G b l yX8_differ cX8_differ 9 .int k [.ref (G.1 0), .int x1, .int x2, .int x3] σ Q := by
  refine enter hS (by decide +kernel) (Nat.le_of_ble_eq_true rfl) (lv := [(0, .ref (G.1 0)), (1, .int x1), (2, .int x2), (3, .int x3)]) rfl (fun K hl hC => ?_)
  subst hl
  unfold wX8_differ at h
  show V YM G K (Zi YM G K Q) 9 σ 0 [(0, .ref (G.1 0)), (1, .int x1), (2, .int x2), (3, .int x3)] []
  refine r_aload_n hC 0 dX8_differ_0 (rfl : 0 + 1 = 1) rfl rfl ?_
  refine r_iload_n hC 1 dX8_differ_1 (rfl : 1 + 1 = 2) rfl rfl ?_
  refine r_callVi hC cs_X8_286 rfl (by omega) (mX8_isMaker hC.2.2.2.2.2.2.2.2.1 (k := k - 1) (by omega) x1 σ _ h) rfl rfl (Nat.le_of_ble_eq_true rfl) dX8_differ_2 (rfl : 2 + 3 = 5) (fun r_12 σ_11 h => ?_)
  refine r_if_eq hC dX8_differ_5 (rfl : 5 + 3 = 8) (tgt := 28) (by decide) (fun q => ?_) (fun q => ?_)
  · replace h := if_t h q
    refine r_iconst hC dX8_differ_28 (rfl : 28 + 1 = 29) (v := -1) (by decide) ?_
    exact r_iret hC rfl h dX8_differ_29
  · replace h := if_f h q
    refine r_aload_n hC 0 dX8_differ_8 (rfl : 8 + 1 = 9) rfl rfl ?_
    refine r_iload_n hC 2 dX8_differ_9 (rfl : 9 + 1 = 10) rfl rfl ?_
    refine r_callVi hC cs_X8_246 rfl (by omega) (mX8_has hC.2.2.2.2.2.2.2.2.1 (k := k - 1) (by omega) x2 σ_11 _ h) rfl rfl (Nat.le_of_ble_eq_true rfl) dX8_differ_10 (rfl : 10 + 3 = 13) (fun r_14 σ_13 h => ?_)
    refine r_if_eq hC dX8_differ_13 (rfl : 13 + 3 = 16) (tgt := 28) (by decide) (fun q => ?_) (fun q => ?_)
    · replace h := if_t h q
      refine r_iconst hC dX8_differ_28 (rfl : 28 + 1 = 29) (v := -1) (by decide) ?_
      exact r_iret hC rfl h dX8_differ_29
    · replace h := if_f h q
      refine r_iload_n hC 3 dX8_differ_16 (rfl : 16 + 1 = 17) rfl rfl ?_
      refine r_i2l hC dX8_differ_17 (rfl : 17 + 1 = 18) ?_
      refine r_lconst hC dX8_differ_18 (rfl : 18 + 1 = 19) (v := 0) (by decide) ?_
      refine r_ldc2 hC dX8_differ_19 (rfl : 19 + 3 = 22) wd_1008 ?_
      refine r_callSi hC cs_X8_177 (by omega) (mX8_in hC.2.2.2.2.2.2.2.2.1 (k := k - 1) (by omega) (Int32.toInt64 x3) 0 6 σ_13 _ h) rfl rfl (Nat.le_of_ble_eq_true rfl) dX8_differ_22 (rfl : 22 + 3 = 25) (fun r_16 σ_15 h => ?_)
      refine r_if_ne hC dX8_differ_25 (rfl : 25 + 3 = 28) (tgt := 30) (by decide) (fun q => ?_) (fun q => ?_)
      · replace h := if_f h q
        refine r_aload_n hC 0 dX8_differ_30 (rfl : 30 + 1 = 31) rfl rfl ?_
        refine r_iload_n hC 2 dX8_differ_31 (rfl : 31 + 1 = 32) rfl rfl ?_
        refine r_callVi hC cs_X8_265 rfl (by omega) (mX8_treeOf hC.2.2.2.2.2.2.2.2.1 d (k := k - 1) (by omega) x2 σ_15 _ h) rfl rfl (Nat.le_of_ble_eq_true rfl) dX8_differ_32 (rfl : 32 + 3 = 35) (fun r_18 σ_17 h => ?_)
        refine r_istore hC dX8_differ_35 (rfl : 35 + 2 = 37) (by decide) rfl (lv2 := [(4, .int r_18), (0, .ref (G.1 0)), (1, .int x1), (2, .int x2), (3, .int x3)]) rfl ?_
        refine r_aload_n hC 1 dX8_differ_37 (rfl : 37 + 1 = 38) rfl rfl ?_
        refine r_iload hC 0 dX8_differ_38 (rfl : 38 + 2 = 40) rfl ?_
        refine r_iload_n hC 4 dX8_differ_40 (rfl : 40 + 1 = 41) rfl rfl ?_
        refine r_callVi hC cs_X8_270 rfl (by omega) (mX8_isSafe hC.2.2.2.2.2.2.2.2.1 d (k := k - 1) (by omega) r_18 x3 σ_17 _ h) rfl rfl (Nat.le_of_ble_eq_true rfl) dX8_differ_41 (rfl : 41 + 3 = 44) (fun r_20 σ_19 h => ?_)
        refine r_if_ne hC dX8_differ_44 (rfl : 44 + 3 = 47) (tgt := 50) (by decide) (fun q => ?_) (fun q => ?_)
        · replace h := if_f h q
          refine r_aload_n hC 1 dX8_differ_50 (rfl : 50 + 1 = 51) rfl rfl ?_
          refine r_iload hC 0 dX8_differ_51 (rfl : 51 + 2 = 53) rfl ?_
          refine r_iload_n hC 2 dX8_differ_53 (rfl : 53 + 1 = 54) rfl rfl ?_
          refine r_aload_n hC 1 dX8_differ_54 (rfl : 54 + 1 = 55) rfl rfl ?_
          refine r_getr hC 0 7 28 18 (o := 18) fw_X8_62 rfl rfl dX8_differ_55 (rfl : 55 + 3 = 58) ?_
          refine r_iload_n hC 2 dX8_differ_58 (rfl : 58 + 1 = 59) rfl rfl ?_
          obtain ⟨q_21, h⟩ := h
          refine r_iald hC 18 rfl q_21 dX8_differ_59 (rfl : 59 + 1 = 60) ?_
          refine r_callVi hC cs_X8_292 rfl (by omega) (mX8_madeBy hC.2.2.2.2.2.2.2.2.1 d (k := k - 1) (by omega) r_18 x1 (σ_19.1 18 (Int32.toNatClampNeg x1)) σ_19 _ h) rfl rfl (Nat.le_of_ble_eq_true rfl) dX8_differ_60 (rfl : 60 + 3 = 63) (fun r_23 σ_22 h => ?_)
          refine r_istore hC dX8_differ_63 (rfl : 63 + 2 = 65) (by decide) rfl (lv2 := [(5, .int r_23), (4, .int r_18), (0, .ref (G.1 0)), (1, .int x1), (2, .int x2), (3, .int x3)]) rfl ?_
          refine r_iconst hC dX8_differ_65 (rfl : 65 + 1 = 66) (v := 0) (by decide) ?_
          refine r_istore hC dX8_differ_66 (rfl : 66 + 2 = 68) (by decide) rfl (lv2 := [(6, .int 0), (5, .int r_23), (4, .int r_18), (0, .ref (G.1 0)), (1, .int x1), (2, .int x2), (3, .int x3)]) rfl ?_
          refine r_iload_n hC 6 dX8_differ_68 (rfl : 68 + 1 = 69) rfl rfl ?_
          refine r_ineg hC dX8_differ_69 (rfl : 69 + 1 = 70) ?_
          obtain ⟨x7_24, e_25, h⟩ := lt_nm h
          refine r_istore hC dX8_differ_70 (rfl : 70 + 2 = 72) (by decide) e_25 (lv2 := [(7, .int x7_24), (6, .int 0), (5, .int r_23), (4, .int r_18), (0, .ref (G.1 0)), (1, .int x1), (2, .int x2), (3, .int x3)]) rfl ?_
          obtain ⟨nn, h⟩ := h
          exact (sX8_differ_72 rfl hC d hk  Q  nn x3 r_18 r_23 0 x7_24 σ_22 h).sub [4, 7, 3, 2, 1, 0] rfl
        · replace h := if_t h q
          refine r_bipush hC dX8_differ_47 (rfl : 47 + 2 = 49) (v := -2) (by decide) ?_
          exact r_iret hC rfl h dX8_differ_49
      · replace h := if_t h q
        refine r_iconst hC dX8_differ_28 (rfl : 28 + 1 = 29) (v := -1) (by decide) ?_
        exact r_iret hC rfl h dX8_differ_29
set_option maxHeartbeats 1000000 in
set_option maxRecDepth 100000 in
theorem mX8_first {G : Gx} {b k : Nat} {l : Launch} (hS : Sok YM G) (d : Nat) (hk : 2 * d + 9 ≤ k) (x1 : Int32) (x2 : Int32) (x3 : Int32) (σ : Sg) (Q : Int32 → Sg → Prop) (h : wX8_first d x1 x2 x3 σ Q) : Mi YM G b l yX8_first cX8_first 5 .int k [.ref (G.1 0), .int x1, .int x2, .int x3] σ Q := by
  refine enter hS (by decide +kernel) (Nat.le_of_ble_eq_true rfl) (lv := [(0, .ref (G.1 0)), (1, .int x1), (2, .int x2), (3, .int x3)]) rfl (fun K hl hC => ?_)
  subst hl
  unfold wX8_first at h
  show V YM G K (Zi YM G K Q) 5 σ 0 [(0, .ref (G.1 0)), (1, .int x1), (2, .int x2), (3, .int x3)] []
  refine r_aload_n hC 0 dX8_first_0 (rfl : 0 + 1 = 1) rfl rfl ?_
  refine r_iload_n hC 1 dX8_first_1 (rfl : 1 + 1 = 2) rfl rfl ?_
  refine r_callVi hC cs_X8_286 rfl (by omega) (mX8_isMaker hC.2.2.2.2.2.2.2.2.1 (k := k - 1) (by omega) x1 σ _ h) rfl rfl (Nat.le_of_ble_eq_true rfl) dX8_first_2 (rfl : 2 + 3 = 5) (fun r_2 σ_1 h => ?_)
  refine r_if_eq hC dX8_first_5 (rfl : 5 + 3 = 8) (tgt := 28) (by decide) (fun q => ?_) (fun q => ?_)
  · replace h := if_t h q
    refine r_iconst hC dX8_first_28 (rfl : 28 + 1 = 29) (v := -1) (by decide) ?_
    exact r_iret hC rfl h dX8_first_29
  · replace h := if_f h q
    refine r_aload_n hC 0 dX8_first_8 (rfl : 8 + 1 = 9) rfl rfl ?_
    refine r_iload_n hC 2 dX8_first_9 (rfl : 9 + 1 = 10) rfl rfl ?_
    refine r_callVi hC cs_X8_246 rfl (by omega) (mX8_has hC.2.2.2.2.2.2.2.2.1 (k := k - 1) (by omega) x2 σ_1 _ h) rfl rfl (Nat.le_of_ble_eq_true rfl) dX8_first_10 (rfl : 10 + 3 = 13) (fun r_4 σ_3 h => ?_)
    refine r_if_eq hC dX8_first_13 (rfl : 13 + 3 = 16) (tgt := 28) (by decide) (fun q => ?_) (fun q => ?_)
    · replace h := if_t h q
      refine r_iconst hC dX8_first_28 (rfl : 28 + 1 = 29) (v := -1) (by decide) ?_
      exact r_iret hC rfl h dX8_first_29
    · replace h := if_f h q
      refine r_iload_n hC 3 dX8_first_16 (rfl : 16 + 1 = 17) rfl rfl ?_
      refine r_i2l hC dX8_first_17 (rfl : 17 + 1 = 18) ?_
      refine r_lconst hC dX8_first_18 (rfl : 18 + 1 = 19) (v := 0) (by decide) ?_
      refine r_ldc2 hC dX8_first_19 (rfl : 19 + 3 = 22) wd_1008 ?_
      refine r_callSi hC cs_X8_177 (by omega) (mX8_in hC.2.2.2.2.2.2.2.2.1 (k := k - 1) (by omega) (Int32.toInt64 x3) 0 6 σ_3 _ h) rfl rfl (Nat.le_of_ble_eq_true rfl) dX8_first_22 (rfl : 22 + 3 = 25) (fun r_6 σ_5 h => ?_)
      refine r_if_ne hC dX8_first_25 (rfl : 25 + 3 = 28) (tgt := 30) (by decide) (fun q => ?_) (fun q => ?_)
      · replace h := if_f h q
        refine r_aload_n hC 0 dX8_first_30 (rfl : 30 + 1 = 31) rfl rfl ?_
        refine r_iload_n hC 2 dX8_first_31 (rfl : 31 + 1 = 32) rfl rfl ?_
        refine r_callVi hC cs_X8_265 rfl (by omega) (mX8_treeOf hC.2.2.2.2.2.2.2.2.1 d (k := k - 1) (by omega) x2 σ_5 _ h) rfl rfl (Nat.le_of_ble_eq_true rfl) dX8_first_32 (rfl : 32 + 3 = 35) (fun r_8 σ_7 h => ?_)
        refine r_istore hC dX8_first_35 (rfl : 35 + 2 = 37) (by decide) rfl (lv2 := [(4, .int r_8), (0, .ref (G.1 0)), (1, .int x1), (2, .int x2), (3, .int x3)]) rfl ?_
        refine r_aload_n hC 1 dX8_first_37 (rfl : 37 + 1 = 38) rfl rfl ?_
        refine r_iload hC 0 dX8_first_38 (rfl : 38 + 2 = 40) rfl ?_
        refine r_iload_n hC 4 dX8_first_40 (rfl : 40 + 1 = 41) rfl rfl ?_
        refine r_callVi hC cs_X8_270 rfl (by omega) (mX8_isSafe hC.2.2.2.2.2.2.2.2.1 d (k := k - 1) (by omega) r_8 x3 σ_7 _ h) rfl rfl (Nat.le_of_ble_eq_true rfl) dX8_first_41 (rfl : 41 + 3 = 44) (fun r_10 σ_9 h => ?_)
        refine r_if_eq hC dX8_first_44 (rfl : 44 + 3 = 47) (tgt := 58) (by decide) (fun q => ?_) (fun q => ?_)
        · replace h := if_t h q
          refine r_bipush hC dX8_first_58 (rfl : 58 + 2 = 60) (v := -2) (by decide) ?_
          exact r_iret hC rfl h dX8_first_60
        · replace h := if_f h q
          refine r_aload_n hC 1 dX8_first_47 (rfl : 47 + 1 = 48) rfl rfl ?_
          refine r_iload hC 0 dX8_first_48 (rfl : 48 + 2 = 50) rfl ?_
          refine r_iload_n hC 2 dX8_first_50 (rfl : 50 + 1 = 51) rfl rfl ?_
          refine r_iload_n hC 4 dX8_first_51 (rfl : 51 + 1 = 52) rfl rfl ?_
          refine r_callVi hC cs_X8_305 rfl (by omega) (mX8_firstOf hC.2.2.2.2.2.2.2.2.1 d (k := k - 1) (by omega) r_8 x1 x3 σ_9 _ h) rfl rfl (Nat.le_of_ble_eq_true rfl) dX8_first_52 (rfl : 52 + 3 = 55) (fun r_12 σ_11 h => ?_)
          refine r_goto hC dX8_first_55 (tgt := 60) (by decide) ?_
          exact r_iret hC rfl h dX8_first_60
      · replace h := if_t h q
        refine r_iconst hC dX8_first_28 (rfl : 28 + 1 = 29) (v := -1) (by decide) ?_
        exact r_iret hC rfl h dX8_first_29
set_option maxHeartbeats 1000000 in
set_option maxRecDepth 100000 in
theorem sX8_cause_119 {G : Gx} {b k : Nat} {K : Kx} {l : Launch} (hl : K.2.1 = l) (hC : Cx YM G b K cX8_cause RX8 11 (some .int) k) (d : Nat) (hk : 2 * d + 7 ≤ k) (K52 : Int32 → Int32 → Int32 → Int32 → Int32 → Int32 → Int32 → Sg → Prop) (Q : Int32 → Sg → Prop) (h52 : ∀ (x1 : Int32) (x3 : Int32) (x4 : Int32) (x5 : Int32) (x6 : Int32) (x7 : Int32) (x8 : Int32) (σ : Sg), K52 x1 x3 x4 x5 x6 x7 x8 σ → V YM G K (Zi YM G K Q) 11 σ 52 [(0, .ref (G.1 0)), (1, .int x1), (3, .int x3), (4, .int x4), (5, .int x5), (6, .int x6), (7, .int x7), (8, .int x8)] []) (x1 : Int32) (x3 : Int32) (x4 : Int32) (x5 : Int32) (x6 : Int32) (x8 : Int32) (x10 : Int32) (σ : Sg) (h : wX8_cause_119 d K52 x1 x3 x4 x5 x6 x8 x10 σ Q) : V YM G K (Zi YM G K Q) 11 σ 119 [(0, .ref (G.1 0)), (1, .int x1), (3, .int x3), (4, .int x4), (5, .int x5), (6, .int x6), (8, .int x8), (10, .int x10)] [] := by
  subst hl
  unfold wX8_cause_119 at h
  refine r_iload hC 7 dX8_cause_119 (rfl : 119 + 2 = 121) rfl ?_
  refine r_istore hC dX8_cause_121 (rfl : 121 + 2 = 123) (by decide) rfl (lv2 := [(7, .int x10), (0, .ref (G.1 0)), (1, .int x1), (3, .int x3), (4, .int x4), (5, .int x5), (6, .int x6), (8, .int x8), (10, .int x10)]) rfl ?_
  obtain ⟨x8_1, e_2, h⟩ := lt_nm h
  refine r_iinc hC (j := 7) dX8_cause_123 (rfl : 123 + 3 = 126) rfl (zz := 1) (by decide) e_2 (by decide) (lv2 := [(8, .int x8_1), (7, .int x10), (0, .ref (G.1 0)), (1, .int x1), (3, .int x3), (4, .int x4), (5, .int x5), (6, .int x6), (10, .int x10)]) rfl ?_
  refine r_goto hC dX8_cause_126 (tgt := 52) (by decide) ?_
  exact (h52 x1 x3 x4 x5 x6 x10 x8_1 σ h).sub [2, 3, 4, 5, 6, 7, 1, 0] rfl
set_option maxHeartbeats 1000000 in
set_option maxRecDepth 100000 in
theorem sX8_cause_104 {G : Gx} {b k : Nat} {K : Kx} {l : Launch} (hl : K.2.1 = l) (hC : Cx YM G b K cX8_cause RX8 11 (some .int) k) (d : Nat) (hk : 2 * d + 7 ≤ k) (K52 : Int32 → Int32 → Int32 → Int32 → Int32 → Int32 → Int32 → Sg → Prop) (Q : Int32 → Sg → Prop) (h52 : ∀ (x1 : Int32) (x3 : Int32) (x4 : Int32) (x5 : Int32) (x6 : Int32) (x7 : Int32) (x8 : Int32) (σ : Sg), K52 x1 x3 x4 x5 x6 x7 x8 σ → V YM G K (Zi YM G K Q) 11 σ 52 [(0, .ref (G.1 0)), (1, .int x1), (3, .int x3), (4, .int x4), (5, .int x5), (6, .int x6), (7, .int x7), (8, .int x8)] []) (x1 : Int32) (x3 : Int32) (x4 : Int32) (x5 : Int32) (x6 : Int32) (x7 : Int32) (x8 : Int32) (s0 : Int32) (σ : Sg) (h : wX8_cause_104 d K52 x1 x3 x4 x5 x6 x7 x8 s0 σ Q) : V YM G K (Zi YM G K Q) 11 σ 104 [(0, .ref (G.1 0)), (1, .int x1), (3, .int x3), (4, .int x4), (5, .int x5), (6, .int x6), (7, .int x7), (8, .int x8)] [.int s0] := by
  subst hl
  unfold wX8_cause_104 at h
  refine r_istore hC dX8_cause_104 (rfl : 104 + 2 = 106) (by decide) rfl (lv2 := [(10, .int s0), (0, .ref (G.1 0)), (1, .int x1), (3, .int x3), (4, .int x4), (5, .int x5), (6, .int x6), (7, .int x7), (8, .int x8)]) rfl ?_
  refine r_iload hC 7 dX8_cause_106 (rfl : 106 + 2 = 108) rfl ?_
  refine r_if_eq hC dX8_cause_108 (rfl : 108 + 3 = 111) (tgt := 119) (by decide) (fun q => ?_) (fun q => ?_)
  · replace h := if_t h q
    exact (sX8_cause_119 rfl hC d hk K52 Q h52 x1 x3 x4 x5 x6 x8 s0 σ h).sub [1, 2, 3, 4, 5, 6, 8, 0] rfl
  · replace h := if_f h q
    refine r_iload hC 0 dX8_cause_111 (rfl : 111 + 2 = 113) rfl ?_
    refine r_if_ne hC dX8_cause_113 (rfl : 113 + 3 = 116) (tgt := 119) (by decide) (fun q => ?_) (fun q => ?_)
    · replace h := if_f h q
      exact (sX8_cause_119 rfl hC d hk K52 Q h52 x1 x3 x4 x5 x6 x8 s0 σ h).sub [1, 2, 3, 4, 5, 6, 8, 0] rfl
    · replace h := if_t h q
      refine r_iload hC 8 dX8_cause_116 (rfl : 116 + 2 = 118) rfl ?_
      exact r_iret hC rfl h dX8_cause_118
set_option maxHeartbeats 1000000 in
set_option maxRecDepth 100000 in
theorem sX8_cause_103 {G : Gx} {b k : Nat} {K : Kx} {l : Launch} (hl : K.2.1 = l) (hC : Cx YM G b K cX8_cause RX8 11 (some .int) k) (d : Nat) (hk : 2 * d + 7 ≤ k) (K52 : Int32 → Int32 → Int32 → Int32 → Int32 → Int32 → Int32 → Sg → Prop) (Q : Int32 → Sg → Prop) (h52 : ∀ (x1 : Int32) (x3 : Int32) (x4 : Int32) (x5 : Int32) (x6 : Int32) (x7 : Int32) (x8 : Int32) (σ : Sg), K52 x1 x3 x4 x5 x6 x7 x8 σ → V YM G K (Zi YM G K Q) 11 σ 52 [(0, .ref (G.1 0)), (1, .int x1), (3, .int x3), (4, .int x4), (5, .int x5), (6, .int x6), (7, .int x7), (8, .int x8)] []) (x1 : Int32) (x3 : Int32) (x4 : Int32) (x5 : Int32) (x6 : Int32) (x7 : Int32) (x8 : Int32) (σ : Sg) (h : wX8_cause_103 d K52 x1 x3 x4 x5 x6 x7 x8 σ Q) : V YM G K (Zi YM G K Q) 11 σ 103 [(0, .ref (G.1 0)), (1, .int x1), (3, .int x3), (4, .int x4), (5, .int x5), (6, .int x6), (7, .int x7), (8, .int x8)] [] := by
  subst hl
  unfold wX8_cause_103 at h
  refine r_iconst hC dX8_cause_103 (rfl : 103 + 1 = 104) (v := 0) (by decide) ?_
  exact (sX8_cause_104 rfl hC d hk K52 Q h52 x1 x3 x4 x5 x6 x7 x8 0 σ h).sub [0, 1, 2, 3, 4, 5, 6, 7] rfl
set_option maxHeartbeats 1000000 in
set_option maxRecDepth 100000 in
theorem sX8_cause_52 {G : Gx} {b k : Nat} {K : Kx} {l : Launch} (hl : K.2.1 = l) (hC : Cx YM G b K cX8_cause RX8 11 (some .int) k) (d : Nat) (hk : 2 * d + 7 ≤ k)  (Q : Int32 → Sg → Prop)  : ∀ (n : Nat) (x1 : Int32) (x3 : Int32) (x4 : Int32) (x5 : Int32) (x6 : Int32) (x7 : Int32) (x8 : Int32) (σ : Sg), wX8_cause_52 d Q n x1 x3 x4 x5 x6 x7 x8 σ → V YM G K (Zi YM G K Q) 11 σ 52 [(0, .ref (G.1 0)), (1, .int x1), (3, .int x3), (4, .int x4), (5, .int x5), (6, .int x6), (7, .int x7), (8, .int x8)] [] := by
  subst hl
  intro n
  induction n with
  | zero =>
    intro x1 x3 x4 x5 x6 x7 x8 σ h
    exact h.elim
  | succ n ih =>
    intro x1 x3 x4 x5 x6 x7 x8 σ h
    have h : wX8_cause_52_b d (wX8_cause_52 d Q n) x1 x3 x4 x5 x6 x7 x8 σ Q := h
    unfold wX8_cause_52_b at h
    refine r_iload hC 7 dX8_cause_52 (rfl : 52 + 2 = 54) rfl ?_
    refine r_aload_n hC 0 dX8_cause_54 (rfl : 54 + 1 = 55) rfl rfl ?_
    refine r_getr hC 0 7 28 18 (o := 18) fw_X8_62 rfl rfl dX8_cause_55 (rfl : 55 + 3 = 58) ?_
    refine r_iload_n hC 1 dX8_cause_58 (rfl : 58 + 1 = 59) rfl rfl ?_
    obtain ⟨q_3, h⟩ := h
    refine r_iald hC 18 rfl q_3 dX8_cause_59 (rfl : 59 + 1 = 60) ?_
    refine r_icmp_ge hC dX8_cause_60 (rfl : 60 + 3 = 63) (tgt := 129) (by decide) (fun q => ?_) (fun q => ?_)
    · replace h := if_t h q
      refine r_bipush hC dX8_cause_129 (rfl : 129 + 2 = 131) (v := -2) (by decide) ?_
      exact r_iret hC rfl h dX8_cause_131
    · replace h := if_f h q
      refine r_aload_n hC 0 dX8_cause_63 (rfl : 63 + 1 = 64) rfl rfl ?_
      refine r_iload hC 4 dX8_cause_64 (rfl : 64 + 2 = 66) rfl ?_
      refine r_iload_n hC 1 dX8_cause_66 (rfl : 66 + 1 = 67) rfl rfl ?_
      refine r_iload hC 7 dX8_cause_67 (rfl : 67 + 2 = 69) rfl ?_
      refine r_callVi hC cs_X8_172 rfl (by omega) (mX8_goOver hC.2.2.2.2.2.2.2.2.1 d (k := k - 1) (by omega) x5 x1 x8 σ _ h) rfl rfl (Nat.le_of_ble_eq_true rfl) dX8_cause_69 (rfl : 69 + 3 = 72) (fun r_5 σ_4 h => ?_)
      refine r_istore hC dX8_cause_72 (rfl : 72 + 2 = 74) (by decide) rfl (lv2 := [(5, .int r_5), (0, .ref (G.1 0)), (1, .int x1), (3, .int x3), (4, .int x4), (6, .int x6), (7, .int x7), (8, .int x8)]) rfl ?_
      refine r_aload_n hC 1 dX8_cause_74 (rfl : 74 + 1 = 75) rfl rfl ?_
      refine r_iload hC 0 dX8_cause_75 (rfl : 75 + 2 = 77) rfl ?_
      refine r_iload_n hC 3 dX8_cause_77 (rfl : 77 + 1 = 78) rfl rfl ?_
      refine r_iload hC 4 dX8_cause_78 (rfl : 78 + 2 = 80) rfl ?_
      refine r_callVi hC cs_X8_118 rfl (by omega) (mX8_valueOf hC.2.2.2.2.2.2.2.2.1 d (k := k - 1) (by omega) r_5 x3 x4 σ_4 _ h) rfl rfl (Nat.le_of_ble_eq_true rfl) dX8_cause_80 (rfl : 80 + 3 = 83) (fun r_7 σ_6 h => ?_)
      refine r_istore hC dX8_cause_83 (rfl : 83 + 2 = 85) (by decide) rfl (lv2 := [(9, .int r_7), (5, .int r_5), (0, .ref (G.1 0)), (1, .int x1), (3, .int x3), (4, .int x4), (6, .int x6), (7, .int x7), (8, .int x8)]) rfl ?_
      refine r_aload_n hC 2 dX8_cause_85 (rfl : 85 + 1 = 86) rfl rfl ?_
      refine r_geti hC 0 7 8 fw_X8_104 rfl dX8_cause_86 (rfl : 86 + 3 = 89) ?_
      refine r_if_ne hC dX8_cause_89 (rfl : 89 + 3 = 92) (tgt := 103) (by decide) (fun q => ?_) (fun q => ?_)
      · replace h := if_f h q
        exact (sX8_cause_103 rfl hC d hk (wX8_cause_52 d Q n) Q ih x1 x3 x4 r_5 x6 x7 x8 σ_6 h).sub [2, 3, 4, 5, 1, 6, 7, 8] rfl
      · replace h := if_t h q
        refine r_iload hC 0 dX8_cause_92 (rfl : 92 + 2 = 94) rfl ?_
        refine r_iload hC 6 dX8_cause_94 (rfl : 94 + 2 = 96) rfl ?_
        refine r_icmp_ne hC dX8_cause_96 (rfl : 96 + 3 = 99) (tgt := 103) (by decide) (fun q => ?_) (fun q => ?_)
        · replace h := if_f h q
          exact (sX8_cause_103 rfl hC d hk (wX8_cause_52 d Q n) Q ih x1 x3 x4 r_5 x6 x7 x8 σ_6 h).sub [2, 3, 4, 5, 1, 6, 7, 8] rfl
        · replace h := if_t h q
          refine r_iconst hC dX8_cause_99 (rfl : 99 + 1 = 100) (v := 1) (by decide) ?_
          refine r_goto hC dX8_cause_100 (tgt := 104) (by decide) ?_
          exact (sX8_cause_104 rfl hC d hk (wX8_cause_52 d Q n) Q ih x1 x3 x4 r_5 x6 x7 x8 1 σ_6 h).sub [2, 3, 4, 5, 1, 6, 7, 8] rfl
set_option maxHeartbeats 1000000 in
set_option maxRecDepth 100000 in
theorem mX8_cause {G : Gx} {b k : Nat} {l : Launch} (hS : Sok YM G) (d : Nat) (hk : 2 * d + 7 ≤ k) (x1 : Int32) (x2 : Int32) (x3 : Int32) (x4 : Int32) (σ : Sg) (Q : Int32 → Sg → Prop) (h : wX8_cause d x1 x2 x3 x4 σ Q) : Mi YM G b l yX8_cause cX8_cause 11 .int k [.ref (G.1 0), .int x1, .int x2, .int x3, .int x4] σ Q := by
  refine enter hS (by decide +kernel) (Nat.le_of_ble_eq_true rfl) (lv := [(0, .ref (G.1 0)), (1, .int x1), (2, .int x2), (3, .int x3), (4, .int x4)]) rfl (fun K hl hC => ?_)
  subst hl
  unfold wX8_cause at h
  show V YM G K (Zi YM G K Q) 11 σ 0 [(0, .ref (G.1 0)), (1, .int x1), (2, .int x2), (3, .int x3), (4, .int x4)] []
  refine r_aload_n hC 0 dX8_cause_0 (rfl : 0 + 1 = 1) rfl rfl ?_
  refine r_iload_n hC 1 dX8_cause_1 (rfl : 1 + 1 = 2) rfl rfl ?_
  refine r_callVi hC cs_X8_286 rfl (by omega) (mX8_isMaker hC.2.2.2.2.2.2.2.2.1 (k := k - 1) (by omega) x1 σ _ h) rfl rfl (Nat.le_of_ble_eq_true rfl) dX8_cause_2 (rfl : 2 + 3 = 5) (fun r_9 σ_8 h => ?_)
  refine r_if_eq hC dX8_cause_5 (rfl : 5 + 3 = 8) (tgt := 16) (by decide) (fun q => ?_) (fun q => ?_)
  · replace h := if_t h q
    refine r_iconst hC dX8_cause_16 (rfl : 16 + 1 = 17) (v := -1) (by decide) ?_
    exact r_iret hC rfl h dX8_cause_17
  · replace h := if_f h q
    refine r_aload_n hC 0 dX8_cause_8 (rfl : 8 + 1 = 9) rfl rfl ?_
    refine r_iload_n hC 2 dX8_cause_9 (rfl : 9 + 1 = 10) rfl rfl ?_
    refine r_callVi hC cs_X8_246 rfl (by omega) (mX8_has hC.2.2.2.2.2.2.2.2.1 (k := k - 1) (by omega) x2 σ_8 _ h) rfl rfl (Nat.le_of_ble_eq_true rfl) dX8_cause_10 (rfl : 10 + 3 = 13) (fun r_11 σ_10 h => ?_)
    refine r_if_ne hC dX8_cause_13 (rfl : 13 + 3 = 16) (tgt := 18) (by decide) (fun q => ?_) (fun q => ?_)
    · replace h := if_f h q
      refine r_aload_n hC 0 dX8_cause_18 (rfl : 18 + 1 = 19) rfl rfl ?_
      refine r_iload_n hC 2 dX8_cause_19 (rfl : 19 + 1 = 20) rfl rfl ?_
      refine r_callVi hC cs_X8_265 rfl (by omega) (mX8_treeOf hC.2.2.2.2.2.2.2.2.1 d (k := k - 1) (by omega) x2 σ_10 _ h) rfl rfl (Nat.le_of_ble_eq_true rfl) dX8_cause_20 (rfl : 20 + 3 = 23) (fun r_13 σ_12 h => ?_)
      refine r_istore hC dX8_cause_23 (rfl : 23 + 2 = 25) (by decide) rfl (lv2 := [(5, .int r_13), (0, .ref (G.1 0)), (1, .int x1), (2, .int x2), (3, .int x3), (4, .int x4)]) rfl ?_
      refine r_aload_n hC 1 dX8_cause_25 (rfl : 25 + 1 = 26) rfl rfl ?_
      refine r_iload hC 0 dX8_cause_26 (rfl : 26 + 2 = 28) rfl ?_
      refine r_iload_n hC 4 dX8_cause_28 (rfl : 28 + 1 = 29) rfl rfl ?_
      refine r_iload hC 5 dX8_cause_29 (rfl : 29 + 2 = 31) rfl ?_
      refine r_callVi hC cs_X8_118 rfl (by omega) (mX8_valueOf hC.2.2.2.2.2.2.2.2.1 d (k := k - 1) (by omega) r_13 x3 x4 σ_12 _ h) rfl rfl (Nat.le_of_ble_eq_true rfl) dX8_cause_31 (rfl : 31 + 3 = 34) (fun r_15 σ_14 h => ?_)
      refine r_istore hC dX8_cause_34 (rfl : 34 + 2 = 36) (by decide) rfl (lv2 := [(6, .int r_15), (5, .int r_13), (0, .ref (G.1 0)), (1, .int x1), (2, .int x2), (3, .int x3), (4, .int x4)]) rfl ?_
      refine r_aload_n hC 2 dX8_cause_36 (rfl : 36 + 1 = 37) rfl rfl ?_
      refine r_geti hC 0 7 8 fw_X8_104 rfl dX8_cause_37 (rfl : 37 + 3 = 40) ?_
      refine r_if_eq hC dX8_cause_40 (rfl : 40 + 3 = 43) (tgt := 46) (by decide) (fun q => ?_) (fun q => ?_)
      · replace h := if_t h q
        refine r_iconst hC dX8_cause_46 (rfl : 46 + 1 = 47) (v := 1) (by decide) ?_
        refine r_istore hC dX8_cause_47 (rfl : 47 + 2 = 49) (by decide) rfl (lv2 := [(7, .int 1), (6, .int r_15), (5, .int r_13), (0, .ref (G.1 0)), (1, .int x1), (2, .int x2), (3, .int x3), (4, .int x4)]) rfl ?_
        refine r_iconst hC dX8_cause_49 (rfl : 49 + 1 = 50) (v := 0) (by decide) ?_
        refine r_istore hC dX8_cause_50 (rfl : 50 + 2 = 52) (by decide) rfl (lv2 := [(8, .int 0), (7, .int 1), (6, .int r_15), (5, .int r_13), (0, .ref (G.1 0)), (1, .int x1), (2, .int x2), (3, .int x3), (4, .int x4)]) rfl ?_
        obtain ⟨nn, h⟩ := h
        exact (sX8_cause_52 rfl hC d hk  Q  nn x1 x3 x4 r_13 r_15 1 0 σ_14 h).sub [4, 5, 7, 8, 3, 2, 1, 0] rfl
      · replace h := if_f h q
        refine r_bipush hC dX8_cause_43 (rfl : 43 + 2 = 45) (v := -2) (by decide) ?_
        exact r_iret hC rfl h dX8_cause_45
    · replace h := if_t h q
      refine r_iconst hC dX8_cause_16 (rfl : 16 + 1 = 17) (v := -1) (by decide) ?_
      exact r_iret hC rfl h dX8_cause_17
set_option maxHeartbeats 1000000 in
set_option maxRecDepth 100000 in
theorem mX8_isShown {G : Gx} {b k : Nat} {l : Launch} (hS : Sok YM G) (d : Nat) (hk : 2 * d + 9 ≤ k) (x1 : Int32) (x2 : Int32) (σ : Sg) (Q : Int32 → Sg → Prop) (h : wX8_isShown d x1 x2 σ Q) : Mi YM G b l yX8_isShown cX8_isShown 4 .boolean k [.ref (G.1 0), .int x1, .int x2] σ Q := by
  refine enter hS (by decide +kernel) (Nat.le_of_ble_eq_true rfl) (lv := [(0, .ref (G.1 0)), (1, .int x1), (2, .int x2)]) rfl (fun K hl hC => ?_)
  subst hl
  unfold wX8_isShown at h
  show V YM G K (Zi YM G K Q) 4 σ 0 [(0, .ref (G.1 0)), (1, .int x1), (2, .int x2)] []
  refine r_aload_n hC 0 dX8_isShown_0 (rfl : 0 + 1 = 1) rfl rfl ?_
  refine r_callVi hC cs_X8_202 rfl (by omega) (mX8_tree hC.2.2.2.2.2.2.2.2.1 d (k := k - 1) (by omega)  σ _ h) rfl rfl (Nat.le_of_ble_eq_true rfl) dX8_isShown_1 (rfl : 1 + 3 = 4) (fun r_2 σ_1 h => ?_)
  refine r_istore_n hC dX8_isShown_4 (rfl : 4 + 1 = 5) rfl (by decide) rfl (lv2 := [(3, .int r_2), (0, .ref (G.1 0)), (1, .int x1), (2, .int x2)]) rfl ?_
  refine r_aload_n hC 1 dX8_isShown_5 (rfl : 5 + 1 = 6) rfl rfl ?_
  refine r_iload_n hC 0 dX8_isShown_6 (rfl : 6 + 1 = 7) rfl rfl ?_
  refine r_iload_n hC 3 dX8_isShown_7 (rfl : 7 + 1 = 8) rfl rfl ?_
  refine r_callVi hC cs_X8_270 rfl (by omega) (mX8_isSafe hC.2.2.2.2.2.2.2.2.1 d (k := k - 1) (by omega) r_2 x2 σ_1 _ h) rfl rfl (Nat.le_of_ble_eq_true rfl) dX8_isShown_8 (rfl : 8 + 3 = 11) (fun r_4 σ_3 h => ?_)
  refine r_if_eq hC dX8_isShown_11 (rfl : 11 + 3 = 14) (tgt := 30) (by decide) (fun q => ?_) (fun q => ?_)
  · replace h := if_t h q
    refine r_iconst hC dX8_isShown_30 (rfl : 30 + 1 = 31) (v := 0) (by decide) ?_
    exact r_zret hC rfl (by decide) h dX8_isShown_31
  · replace h := if_f h q
    refine r_aload_n hC 1 dX8_isShown_14 (rfl : 14 + 1 = 15) rfl rfl ?_
    refine r_iload_n hC 0 dX8_isShown_15 (rfl : 15 + 1 = 16) rfl rfl ?_
    refine r_iload_n hC 2 dX8_isShown_16 (rfl : 16 + 1 = 17) rfl rfl ?_
    refine r_iload_n hC 3 dX8_isShown_17 (rfl : 17 + 1 = 18) rfl rfl ?_
    refine r_callVi hC cs_X8_305 rfl (by omega) (mX8_firstOf hC.2.2.2.2.2.2.2.2.1 d (k := k - 1) (by omega) r_2 x1 x2 σ_3 _ h) rfl rfl (Nat.le_of_ble_eq_true rfl) dX8_isShown_18 (rfl : 18 + 3 = 21) (fun r_6 σ_5 h => ?_)
    refine r_bipush hC dX8_isShown_21 (rfl : 21 + 2 = 23) (v := -5) (by decide) ?_
    refine r_icmp_eq hC dX8_isShown_23 (rfl : 23 + 3 = 26) (tgt := 30) (by decide) (fun q => ?_) (fun q => ?_)
    · replace h := if_t h q
      refine r_iconst hC dX8_isShown_30 (rfl : 30 + 1 = 31) (v := 0) (by decide) ?_
      exact r_zret hC rfl (by decide) h dX8_isShown_31
    · replace h := if_f h q
      refine r_iconst hC dX8_isShown_26 (rfl : 26 + 1 = 27) (v := 1) (by decide) ?_
      refine r_goto hC dX8_isShown_27 (tgt := 31) (by decide) ?_
      exact r_zret hC rfl (by decide) h dX8_isShown_31
set_option maxHeartbeats 1000000 in
set_option maxRecDepth 100000 in
theorem sX8_step_77 {G : Gx} {b k : Nat} {K : Kx} {l : Launch} (hl : K.2.1 = l) (hC : Cx YM G b K cX8_step RX8 6 (some .boolean) k)  (hk : 2 ≤ k)  (Q : Int32 → Sg → Prop)  : ∀ (n : Nat) (x1 : Int32) (x2 : Int32) (x3 : Int32) (x4 : Int32) (x5 : Int32) (σ : Sg), wX8_step_77  Q n x1 x2 x3 x4 x5 σ → V YM G K (Zi YM G K Q) 6 σ 77 [(0, .ref (G.1 0)), (1, .int x1), (2, .int x2), (3, .int x3), (4, .int x4), (5, .int x5)] [] := by
  subst hl
  intro n
  induction n with
  | zero =>
    intro x1 x2 x3 x4 x5 σ h
    exact h.elim
  | succ n ih =>
    intro x1 x2 x3 x4 x5 σ h
    have h : wX8_step_77_b  (wX8_step_77  Q n) x1 x2 x3 x4 x5 σ Q := h
    unfold wX8_step_77_b at h
    refine r_iload hC 5 dX8_step_77 (rfl : 77 + 2 = 79) rfl ?_
    refine r_iload_n hC 2 dX8_step_79 (rfl : 79 + 1 = 80) rfl rfl ?_
    refine r_icmp_ge hC dX8_step_80 (rfl : 80 + 3 = 83) (tgt := 97) (by decide) (fun q => ?_) (fun q => ?_)
    · replace h := if_t h q
      refine r_aload_n hC 0 dX8_step_97 (rfl : 97 + 1 = 98) rfl rfl ?_
      refine r_iload hC 4 dX8_step_98 (rfl : 98 + 2 = 100) rfl ?_
      refine r_callVi hC cs_X8_262 rfl (by omega) (mX8_endOf hC.2.2.2.2.2.2.2.2.1 (k := k - 1) (by omega) x4 σ _ h) rfl rfl (Nat.le_of_ble_eq_true rfl) dX8_step_100 (rfl : 100 + 3 = 103) (fun r_2 σ_1 h => ?_)
      refine r_istore hC dX8_step_103 (rfl : 103 + 2 = 105) (by decide) rfl (lv2 := [(5, .int r_2), (0, .ref (G.1 0)), (1, .int x1), (2, .int x2), (3, .int x3), (4, .int x4)]) rfl ?_
      refine r_aload_n hC 1 dX8_step_105 (rfl : 105 + 1 = 106) rfl rfl ?_
      refine r_iload hC 5 dX8_step_106 (rfl : 106 + 2 = 108) rfl ?_
      refine r_iload hC 0 dX8_step_108 (rfl : 108 + 2 = 110) rfl ?_
      refine r_callVv hC cs_X8_276 rfl (by omega) (mX8_spare hC.2.2.2.2.2.2.2.2.1 (k := k - 1) (by omega) x4 r_2 σ_1 _ h) rfl rfl (Nat.le_of_ble_eq_true rfl) dX8_step_110 (rfl : 110 + 3 = 113) (fun  σ_3 h => ?_)
      refine r_aload_n hC 1 dX8_step_113 (rfl : 113 + 1 = 114) rfl rfl ?_
      refine r_iload_n hC 2 dX8_step_114 (rfl : 114 + 1 = 115) rfl rfl ?_
      refine r_iload_n hC 4 dX8_step_115 (rfl : 115 + 1 = 116) rfl rfl ?_
      refine r_iload hC 0 dX8_step_116 (rfl : 116 + 2 = 118) rfl ?_
      refine r_iload hC 5 dX8_step_118 (rfl : 118 + 2 = 120) rfl ?_
      refine r_isub hC dX8_step_120 (rfl : 120 + 1 = 121) ?_
      refine r_callVv hC cs_X8_279 rfl (by omega) (mX8_splice hC.2.2.2.2.2.2.2.2.1 (k := k - 1) (by omega) x1 x3 (r_2 - x4) σ_3 _ h) rfl rfl (Nat.le_of_ble_eq_true rfl) dX8_step_121 (rfl : 121 + 3 = 124) (fun  σ_4 h => ?_)
      refine r_iconst hC dX8_step_124 (rfl : 124 + 1 = 125) (v := 1) (by decide) ?_
      exact r_zret hC rfl (by decide) h dX8_step_125
    · replace h := if_f h q
      refine r_aload_n hC 0 dX8_step_83 (rfl : 83 + 1 = 84) rfl rfl ?_
      refine r_iload hC 4 dX8_step_84 (rfl : 84 + 2 = 86) rfl ?_
      refine r_callVi hC cs_X8_262 rfl (by omega) (mX8_endOf hC.2.2.2.2.2.2.2.2.1 (k := k - 1) (by omega) x4 σ _ h) rfl rfl (Nat.le_of_ble_eq_true rfl) dX8_step_86 (rfl : 86 + 3 = 89) (fun r_6 σ_5 h => ?_)
      refine r_istore hC dX8_step_89 (rfl : 89 + 2 = 91) (by decide) rfl (lv2 := [(4, .int r_6), (0, .ref (G.1 0)), (1, .int x1), (2, .int x2), (3, .int x3), (5, .int x5)]) rfl ?_
      obtain ⟨x5_7, e_8, h⟩ := lt_nm h
      refine r_iinc hC (j := 5) dX8_step_91 (rfl : 91 + 3 = 94) rfl (zz := 1) (by decide) e_8 (by decide) (lv2 := [(5, .int x5_7), (4, .int r_6), (0, .ref (G.1 0)), (1, .int x1), (2, .int x2), (3, .int x3)]) rfl ?_
      refine r_goto hC dX8_step_94 (tgt := 77) (by decide) ?_
      exact (ih x1 x2 x3 r_6 x5_7 σ_5 h).sub [2, 3, 4, 5, 1, 0] rfl
set_option maxHeartbeats 1000000 in
set_option maxRecDepth 100000 in
theorem sX8_step_31 {G : Gx} {b k : Nat} {K : Kx} {l : Launch} (hl : K.2.1 = l) (hC : Cx YM G b K cX8_step RX8 6 (some .boolean) k)  (hk : 2 ≤ k)  (Q : Int32 → Sg → Prop)  (x1 : Int32) (x3 : Int32) (σ : Sg) (h : wX8_step_31  x1 x3 σ Q) : V YM G K (Zi YM G K Q) 6 σ 31 [(0, .ref (G.1 0)), (1, .int x1), (3, .int x3)] [] := by
  subst hl
  unfold wX8_step_31 at h
  refine r_aload_n hC 0 dX8_step_31 (rfl : 31 + 1 = 32) rfl rfl ?_
  refine r_getr hC 0 7 25 16 (o := 16) fw_X8_56 rfl rfl dX8_step_32 (rfl : 32 + 3 = 35) ?_
  refine r_iconst hC dX8_step_35 (rfl : 35 + 1 = 36) (v := 0) (by decide) ?_
  refine r_iconst hC dX8_step_36 (rfl : 36 + 1 = 37) (v := 0) (by decide) ?_
  obtain ⟨q_9, h⟩ := h
  obtain ⟨σ_10, e_11, h⟩ := lt_nm h
  refine r_iast hC 16 rfl q_9 e_11 dX8_step_37 (rfl : 37 + 1 = 38) ?_
  refine r_aload_n hC 0 dX8_step_38 (rfl : 38 + 1 = 39) rfl rfl ?_
  refine r_getr hC 0 7 26 17 (o := 17) fw_X8_59 rfl rfl dX8_step_39 (rfl : 39 + 3 = 42) ?_
  refine r_iconst hC dX8_step_42 (rfl : 42 + 1 = 43) (v := 0) (by decide) ?_
  refine r_iconst hC dX8_step_43 (rfl : 43 + 1 = 44) (v := 0) (by decide) ?_
  obtain ⟨σ_12, e_13, h⟩ := lt_nm h
  refine r_iast hC 17 rfl q_9 e_13 dX8_step_44 (rfl : 44 + 1 = 45) ?_
  refine r_aload_n hC 0 dX8_step_45 (rfl : 45 + 1 = 46) rfl rfl ?_
  refine r_iload_n hC 1 dX8_step_46 (rfl : 46 + 1 = 47) rfl rfl ?_
  refine r_iload_n hC 2 dX8_step_47 (rfl : 47 + 1 = 48) rfl rfl ?_
  refine r_iconst hC dX8_step_48 (rfl : 48 + 1 = 49) (v := 1) (by decide) ?_
  refine r_callVv hC cs_X8_279 rfl (by omega) (mX8_splice hC.2.2.2.2.2.2.2.2.1 (k := k - 1) (by omega) x1 x3 1 σ_12 _ h) rfl rfl (Nat.le_of_ble_eq_true rfl) dX8_step_49 (rfl : 49 + 3 = 52) (fun  σ_14 h => ?_)
  refine r_iconst hC dX8_step_52 (rfl : 52 + 1 = 53) (v := 1) (by decide) ?_
  exact r_zret hC rfl (by decide) h dX8_step_53
set_option maxHeartbeats 1000000 in
set_option maxRecDepth 100000 in
theorem mX8_step {G : Gx} {b k : Nat} {l : Launch} (hS : Sok YM G)  (hk : 2 ≤ k) (x1 : Int32) (x2 : Int32) (σ : Sg) (Q : Int32 → Sg → Prop) (h : wX8_step  x1 x2 σ Q) : Mi YM G b l yX8_step cX8_step 6 .boolean k [.ref (G.1 0), .int x1, .int x2] σ Q := by
  refine enter hS (by decide +kernel) (Nat.le_of_ble_eq_true rfl) (lv := [(0, .ref (G.1 0)), (1, .int x1), (2, .int x2)]) rfl (fun K hl hC => ?_)
  subst hl
  unfold wX8_step at h
  show V YM G K (Zi YM G K Q) 6 σ 0 [(0, .ref (G.1 0)), (1, .int x1), (2, .int x2)] []
  refine r_aload_n hC 0 dX8_step_0 (rfl : 0 + 1 = 1) rfl rfl ?_
  refine r_iload_n hC 1 dX8_step_1 (rfl : 1 + 1 = 2) rfl rfl ?_
  refine r_callVi hC cs_X8_262 rfl (by omega) (mX8_endOf hC.2.2.2.2.2.2.2.2.1 (k := k - 1) (by omega) x1 σ _ h) rfl rfl (Nat.le_of_ble_eq_true rfl) dX8_step_2 (rfl : 2 + 3 = 5) (fun r_16 σ_15 h => ?_)
  refine r_istore_n hC dX8_step_5 (rfl : 5 + 1 = 6) rfl (by decide) rfl (lv2 := [(3, .int r_16), (0, .ref (G.1 0)), (1, .int x1), (2, .int x2)]) rfl ?_
  refine r_iload_n hC 3 dX8_step_6 (rfl : 6 + 1 = 7) rfl rfl ?_
  refine r_iconst hC dX8_step_7 (rfl : 7 + 1 = 8) (v := 3) (by decide) ?_
  refine r_icmp_ne hC dX8_step_8 (rfl : 8 + 3 = 11) (tgt := 54) (by decide) (fun q => ?_) (fun q => ?_)
  · replace h := if_f h q
    refine r_iload_n hC 3 dX8_step_54 (rfl : 54 + 1 = 55) rfl rfl ?_
    refine r_aload_n hC 1 dX8_step_55 (rfl : 55 + 1 = 56) rfl rfl ?_
    refine r_getr hC 0 7 15 10 (o := 10) fw_X8_37 rfl rfl dX8_step_56 (rfl : 56 + 3 = 59) ?_
    refine r_iload_n hC 2 dX8_step_59 (rfl : 59 + 1 = 60) rfl rfl ?_
    obtain ⟨q_17, h⟩ := h
    refine r_iald hC 10 rfl q_17 dX8_step_60 (rfl : 60 + 1 = 61) ?_
    refine r_callSi hC cs_X8_191 (by omega) (mX8_parts hC.2.2.2.2.2.2.2.2.1 (k := k - 1) (by omega) (σ_15.1 10 (Int32.toNatClampNeg x1)) σ_15 _ h) rfl rfl (Nat.le_of_ble_eq_true rfl) dX8_step_61 (rfl : 61 + 3 = 64) (fun r_19 σ_18 h => ?_)
    refine r_icmp_lt hC dX8_step_64 (rfl : 64 + 3 = 67) (tgt := 69) (by decide) (fun q => ?_) (fun q => ?_)
    · replace h := if_t h q
      refine r_iload_n hC 2 dX8_step_69 (rfl : 69 + 1 = 70) rfl rfl ?_
      refine r_iconst hC dX8_step_70 (rfl : 70 + 1 = 71) (v := 1) (by decide) ?_
      refine r_iadd hC dX8_step_71 (rfl : 71 + 1 = 72) ?_
      obtain ⟨x4_20, e_21, h⟩ := lt_nm h
      refine r_istore hC dX8_step_72 (rfl : 72 + 2 = 74) (by decide) e_21 (lv2 := [(4, .int x4_20), (3, .int r_16), (0, .ref (G.1 0)), (1, .int x1), (2, .int x2)]) rfl ?_
      refine r_iconst hC dX8_step_74 (rfl : 74 + 1 = 75) (v := 0) (by decide) ?_
      refine r_istore hC dX8_step_75 (rfl : 75 + 2 = 77) (by decide) rfl (lv2 := [(5, .int 0), (4, .int x4_20), (3, .int r_16), (0, .ref (G.1 0)), (1, .int x1), (2, .int x2)]) rfl ?_
      obtain ⟨nn, h⟩ := h
      exact (sX8_step_77 rfl hC hk  Q  nn x1 x2 r_16 x4_20 0 σ_18 h).sub [3, 4, 5, 2, 1, 0] rfl
    · replace h := if_f h q
      refine r_iconst hC dX8_step_67 (rfl : 67 + 1 = 68) (v := 0) (by decide) ?_
      exact r_zret hC rfl (by decide) h dX8_step_68
  · replace h := if_t h q
    refine r_aload_n hC 1 dX8_step_11 (rfl : 11 + 1 = 12) rfl rfl ?_
    refine r_getr hC 0 7 15 10 (o := 10) fw_X8_37 rfl rfl dX8_step_12 (rfl : 12 + 3 = 15) ?_
    refine r_iload_n hC 2 dX8_step_15 (rfl : 15 + 1 = 16) rfl rfl ?_
    obtain ⟨q_22, h⟩ := h
    refine r_iald hC 10 rfl q_22 dX8_step_16 (rfl : 16 + 1 = 17) ?_
    refine r_if_ne hC dX8_step_17 (rfl : 17 + 3 = 20) (tgt := 31) (by decide) (fun q => ?_) (fun q => ?_)
    · replace h := if_f h q
      exact (sX8_step_31 rfl hC hk  Q  x1 r_16 σ_15 h).sub [1, 2, 0] rfl
    · replace h := if_t h q
      refine r_aload_n hC 1 dX8_step_20 (rfl : 20 + 1 = 21) rfl rfl ?_
      refine r_getr hC 0 7 16 11 (o := 11) fw_X8_40 rfl rfl dX8_step_21 (rfl : 21 + 3 = 24) ?_
      refine r_iload_n hC 2 dX8_step_24 (rfl : 24 + 1 = 25) rfl rfl ?_
      refine r_iald hC 11 rfl q_22 dX8_step_25 (rfl : 25 + 1 = 26) ?_
      refine r_if_ne hC dX8_step_26 (rfl : 26 + 3 = 29) (tgt := 31) (by decide) (fun q => ?_) (fun q => ?_)
      · replace h := if_f h q
        exact (sX8_step_31 rfl hC hk  Q  x1 r_16 σ_15 h).sub [1, 2, 0] rfl
      · replace h := if_t h q
        refine r_iconst hC dX8_step_29 (rfl : 29 + 1 = 30) (v := 0) (by decide) ?_
        exact r_zret hC rfl (by decide) h dX8_step_30
set_option maxHeartbeats 1000000 in
set_option maxRecDepth 100000 in
theorem sX8_makeSmaller_44 {G : Gx} {b k : Nat} {K : Kx} {l : Launch} (hl : K.2.1 = l) (hC : Cx YM G b K cX8_makeSmaller RX8 5 (some .boolean) k) (d : Nat) (hk : 2 * d + 10 ≤ k) (K6 : Int32 → Int32 → Int32 → Sg → Prop) (K17 : Int32 → Int32 → Int32 → Int32 → Sg → Prop) (Q : Int32 → Sg → Prop) (h6 : ∀ (x1 : Int32) (x2 : Int32) (x3 : Int32) (σ : Sg), K6 x1 x2 x3 σ → V YM G K (Zi YM G K Q) 5 σ 6 [(0, .ref (G.1 0)), (1, .int x1), (2, .int x2), (3, .int x3)] []) (h17 : ∀ (x1 : Int32) (x2 : Int32) (x3 : Int32) (x4 : Int32) (σ : Sg), K17 x1 x2 x3 x4 σ → V YM G K (Zi YM G K Q) 5 σ 17 [(0, .ref (G.1 0)), (1, .int x1), (2, .int x2), (3, .int x3), (4, .int x4)] []) (x1 : Int32) (x2 : Int32) (x3 : Int32) (x4 : Int32) (σ : Sg) (h : wX8_makeSmaller_44 d K6 K17 x1 x2 x3 x4 σ Q) : V YM G K (Zi YM G K Q) 5 σ 44 [(0, .ref (G.1 0)), (1, .int x1), (2, .int x2), (3, .int x3), (4, .int x4)] [] := by
  subst hl
  unfold wX8_makeSmaller_44 at h
  refine r_aload_n hC 0 dX8_makeSmaller_44 (rfl : 44 + 1 = 45) rfl rfl ?_
  refine r_callVv hC cs_X8_320 rfl (by omega) (mX8_recall hC.2.2.2.2.2.2.2.2.1 (k := k - 1) (by omega)  σ _ h) rfl rfl (Nat.le_of_ble_eq_true rfl) dX8_makeSmaller_45 (rfl : 45 + 3 = 48) (fun  σ_1 h => ?_)
  obtain ⟨x4_2, e_3, h⟩ := lt_nm h
  refine r_iinc hC (j := 4) dX8_makeSmaller_48 (rfl : 48 + 3 = 51) rfl (zz := 1) (by decide) e_3 (by decide) (lv2 := [(4, .int x4_2), (0, .ref (G.1 0)), (1, .int x1), (2, .int x2), (3, .int x3)]) rfl ?_
  refine r_goto hC dX8_makeSmaller_51 (tgt := 17) (by decide) ?_
  exact (h17 x1 x2 x3 x4_2 σ_1 h).sub [1, 2, 3, 4, 0] rfl
set_option maxHeartbeats 1000000 in
set_option maxRecDepth 100000 in
theorem sX8_makeSmaller_17 {G : Gx} {b k : Nat} {K : Kx} {l : Launch} (hl : K.2.1 = l) (hC : Cx YM G b K cX8_makeSmaller RX8 5 (some .boolean) k) (d : Nat) (hk : 2 * d + 10 ≤ k) (K6 : Int32 → Int32 → Int32 → Sg → Prop) (Q : Int32 → Sg → Prop) (h6 : ∀ (x1 : Int32) (x2 : Int32) (x3 : Int32) (σ : Sg), K6 x1 x2 x3 σ → V YM G K (Zi YM G K Q) 5 σ 6 [(0, .ref (G.1 0)), (1, .int x1), (2, .int x2), (3, .int x3)] []) : ∀ (n : Nat) (x1 : Int32) (x2 : Int32) (x3 : Int32) (x4 : Int32) (σ : Sg), wX8_makeSmaller_17 d K6 Q n x1 x2 x3 x4 σ → V YM G K (Zi YM G K Q) 5 σ 17 [(0, .ref (G.1 0)), (1, .int x1), (2, .int x2), (3, .int x3), (4, .int x4)] [] := by
  subst hl
  intro n
  induction n with
  | zero =>
    intro x1 x2 x3 x4 σ h
    exact h.elim
  | succ n ih =>
    intro x1 x2 x3 x4 σ h
    have h : wX8_makeSmaller_17_b d K6 (wX8_makeSmaller_17 d K6 Q n) x1 x2 x3 x4 σ Q := h
    unfold wX8_makeSmaller_17_b at h
    refine r_iload hC 4 dX8_makeSmaller_17 (rfl : 17 + 2 = 19) rfl ?_
    refine r_iconst hC dX8_makeSmaller_19 (rfl : 19 + 1 = 20) (v := 4) (by decide) ?_
    refine r_icmp_ge hC dX8_makeSmaller_20 (rfl : 20 + 3 = 23) (tgt := 54) (by decide) (fun q => ?_) (fun q => ?_)
    · replace h := if_t h q
      obtain ⟨x3_4, e_5, h⟩ := lt_nm h
      refine r_iinc hC (j := 3) dX8_makeSmaller_54 (rfl : 54 + 3 = 57) rfl (zz := 1) (by decide) e_5 (by decide) (lv2 := [(3, .int x3_4), (0, .ref (G.1 0)), (1, .int x1), (2, .int x2), (4, .int x4)]) rfl ?_
      refine r_goto hC dX8_makeSmaller_57 (tgt := 6) (by decide) ?_
      exact (h6 x1 x2 x3_4 σ h).sub [1, 2, 3, 0] rfl
    · replace h := if_f h q
      refine r_aload_n hC 0 dX8_makeSmaller_23 (rfl : 23 + 1 = 24) rfl rfl ?_
      refine r_iload_n hC 3 dX8_makeSmaller_24 (rfl : 24 + 1 = 25) rfl rfl ?_
      refine r_iload hC 4 dX8_makeSmaller_25 (rfl : 25 + 2 = 27) rfl ?_
      refine r_callVi hC cs_X8_314 rfl (by omega) (mX8_step hC.2.2.2.2.2.2.2.2.1 (k := k - 1) (by omega) x3 x4 σ _ h) rfl rfl (Nat.le_of_ble_eq_true rfl) dX8_makeSmaller_27 (rfl : 27 + 3 = 30) (fun r_7 σ_6 h => ?_)
      refine r_if_eq hC dX8_makeSmaller_30 (rfl : 30 + 3 = 33) (tgt := 44) (by decide) (fun q => ?_) (fun q => ?_)
      · replace h := if_t h q
        exact (sX8_makeSmaller_44 rfl hC d hk K6 (wX8_makeSmaller_17 d K6 Q n) Q h6 ih x1 x2 x3 x4 σ_6 h).sub [0, 1, 2, 3, 4] rfl
      · replace h := if_f h q
        refine r_aload_n hC 0 dX8_makeSmaller_33 (rfl : 33 + 1 = 34) rfl rfl ?_
        refine r_iload_n hC 1 dX8_makeSmaller_34 (rfl : 34 + 1 = 35) rfl rfl ?_
        refine r_iload_n hC 2 dX8_makeSmaller_35 (rfl : 35 + 1 = 36) rfl rfl ?_
        refine r_callVi hC cs_X8_317 rfl (by omega) (mX8_isShown hC.2.2.2.2.2.2.2.2.1 d (k := k - 1) (by omega) x1 x2 σ_6 _ h) rfl rfl (Nat.le_of_ble_eq_true rfl) dX8_makeSmaller_36 (rfl : 36 + 3 = 39) (fun r_9 σ_8 h => ?_)
        refine r_if_eq hC dX8_makeSmaller_39 (rfl : 39 + 3 = 42) (tgt := 44) (by decide) (fun q => ?_) (fun q => ?_)
        · replace h := if_t h q
          exact (sX8_makeSmaller_44 rfl hC d hk K6 (wX8_makeSmaller_17 d K6 Q n) Q h6 ih x1 x2 x3 x4 σ_8 h).sub [0, 1, 2, 3, 4] rfl
        · replace h := if_f h q
          refine r_iconst hC dX8_makeSmaller_42 (rfl : 42 + 1 = 43) (v := 1) (by decide) ?_
          exact r_zret hC rfl (by decide) h dX8_makeSmaller_43
set_option maxHeartbeats 1000000 in
set_option maxRecDepth 100000 in
theorem sX8_makeSmaller_6 {G : Gx} {b k : Nat} {K : Kx} {l : Launch} (hl : K.2.1 = l) (hC : Cx YM G b K cX8_makeSmaller RX8 5 (some .boolean) k) (d : Nat) (hk : 2 * d + 10 ≤ k)  (Q : Int32 → Sg → Prop)  : ∀ (n : Nat) (x1 : Int32) (x2 : Int32) (x3 : Int32) (σ : Sg), wX8_makeSmaller_6 d Q n x1 x2 x3 σ → V YM G K (Zi YM G K Q) 5 σ 6 [(0, .ref (G.1 0)), (1, .int x1), (2, .int x2), (3, .int x3)] [] := by
  subst hl
  intro n
  induction n with
  | zero =>
    intro x1 x2 x3 σ h
    exact h.elim
  | succ n ih =>
    intro x1 x2 x3 σ h
    have h : wX8_makeSmaller_6_b d (wX8_makeSmaller_6 d Q n) x1 x2 x3 σ Q := h
    unfold wX8_makeSmaller_6_b at h
    refine r_iload_n hC 3 dX8_makeSmaller_6 (rfl : 6 + 1 = 7) rfl rfl ?_
    refine r_aload_n hC 0 dX8_makeSmaller_7 (rfl : 7 + 1 = 8) rfl rfl ?_
    refine r_geti hC 0 7 38 fw_X8_308 rfl dX8_makeSmaller_8 (rfl : 8 + 3 = 11) ?_
    refine r_icmp_ge hC dX8_makeSmaller_11 (rfl : 11 + 3 = 14) (tgt := 60) (by decide) (fun q => ?_) (fun q => ?_)
    · replace h := if_t h q
      refine r_iconst hC dX8_makeSmaller_60 (rfl : 60 + 1 = 61) (v := 0) (by decide) ?_
      exact r_zret hC rfl (by decide) h dX8_makeSmaller_61
    · replace h := if_f h q
      refine r_iconst hC dX8_makeSmaller_14 (rfl : 14 + 1 = 15) (v := 0) (by decide) ?_
      refine r_istore hC dX8_makeSmaller_15 (rfl : 15 + 2 = 17) (by decide) rfl (lv2 := [(4, .int 0), (0, .ref (G.1 0)), (1, .int x1), (2, .int x2), (3, .int x3)]) rfl ?_
      obtain ⟨nn, h⟩ := h
      exact (sX8_makeSmaller_17 rfl hC d hk (wX8_makeSmaller_6 d Q n) Q ih nn x1 x2 x3 0 σ h).sub [1, 2, 3, 4, 0] rfl
set_option maxHeartbeats 1000000 in
set_option maxRecDepth 100000 in
theorem mX8_makeSmaller {G : Gx} {b k : Nat} {l : Launch} (hS : Sok YM G) (d : Nat) (hk : 2 * d + 10 ≤ k) (x1 : Int32) (x2 : Int32) (σ : Sg) (Q : Int32 → Sg → Prop) (h : wX8_makeSmaller d x1 x2 σ Q) : Mi YM G b l yX8_makeSmaller cX8_makeSmaller 5 .boolean k [.ref (G.1 0), .int x1, .int x2] σ Q := by
  refine enter hS (by decide +kernel) (Nat.le_of_ble_eq_true rfl) (lv := [(0, .ref (G.1 0)), (1, .int x1), (2, .int x2)]) rfl (fun K hl hC => ?_)
  subst hl
  unfold wX8_makeSmaller at h
  show V YM G K (Zi YM G K Q) 5 σ 0 [(0, .ref (G.1 0)), (1, .int x1), (2, .int x2)] []
  refine r_aload_n hC 0 dX8_makeSmaller_0 (rfl : 0 + 1 = 1) rfl rfl ?_
  refine r_callVv hC cs_X8_311 rfl (by omega) (mX8_remember hC.2.2.2.2.2.2.2.2.1 (k := k - 1) (by omega)  σ _ h) rfl rfl (Nat.le_of_ble_eq_true rfl) dX8_makeSmaller_1 (rfl : 1 + 3 = 4) (fun  σ_10 h => ?_)
  refine r_iconst hC dX8_makeSmaller_4 (rfl : 4 + 1 = 5) (v := 0) (by decide) ?_
  refine r_istore_n hC dX8_makeSmaller_5 (rfl : 5 + 1 = 6) rfl (by decide) rfl (lv2 := [(3, .int 0), (0, .ref (G.1 0)), (1, .int x1), (2, .int x2)]) rfl ?_
  obtain ⟨nn, h⟩ := h
  exact (sX8_makeSmaller_6 rfl hC d hk  Q  nn x1 x2 0 σ_10 h).sub [1, 2, 3, 0] rfl
set_option maxHeartbeats 1000000 in
set_option maxRecDepth 100000 in
theorem sX8_small_52 {G : Gx} {b k : Nat} {K : Kx} {l : Launch} (hl : K.2.1 = l) (hC : Cx YM G b K cX8_small RX8 4 (some .int) k) (d : Nat) (hk : 2 * d + 11 ≤ k)  (Q : Int32 → Sg → Prop)  : ∀ (n : Nat) (x1 : Int32) (x2 : Int32) (x3 : Int32) (σ : Sg), wX8_small_52 d Q n x1 x2 x3 σ → V YM G K (Zi YM G K Q) 4 σ 52 [(0, .ref (G.1 0)), (1, .int x1), (2, .int x2), (3, .int x3)] [] := by
  subst hl
  intro n
  induction n with
  | zero =>
    intro x1 x2 x3 σ h
    exact h.elim
  | succ n ih =>
    intro x1 x2 x3 σ h
    have h : wX8_small_52_b d (wX8_small_52 d Q n) x1 x2 x3 σ Q := h
    unfold wX8_small_52_b at h
    refine r_aload_n hC 0 dX8_small_52 (rfl : 52 + 1 = 53) rfl rfl ?_
    refine r_iload_n hC 1 dX8_small_53 (rfl : 53 + 1 = 54) rfl rfl ?_
    refine r_iload_n hC 3 dX8_small_54 (rfl : 54 + 1 = 55) rfl rfl ?_
    refine r_callVi hC cs_X8_323 rfl (by omega) (mX8_makeSmaller hC.2.2.2.2.2.2.2.2.1 d (k := k - 1) (by omega) x1 x3 σ _ h) rfl rfl (Nat.le_of_ble_eq_true rfl) dX8_small_55 (rfl : 55 + 3 = 58) (fun r_2 σ_1 h => ?_)
    refine r_if_eq hC dX8_small_58 (rfl : 58 + 3 = 61) (tgt := 74) (by decide) (fun q => ?_) (fun q => ?_)
    · replace h := if_t h q
      refine r_aload_n hC 0 dX8_small_74 (rfl : 74 + 1 = 75) rfl rfl ?_
      refine r_iload_n hC 2 dX8_small_75 (rfl : 75 + 1 = 76) rfl rfl ?_
      refine r_callVi hC cs_X8_236 rfl (by omega) (mX8_put hC.2.2.2.2.2.2.2.2.1 (k := k - 1) (by omega) x2 σ_1 _ h) rfl rfl (Nat.le_of_ble_eq_true rfl) dX8_small_76 (rfl : 76 + 3 = 79) (fun r_4 σ_3 h => ?_)
      exact r_iret hC rfl h dX8_small_79
    · replace h := if_f h q
      refine r_aload_n hC 0 dX8_small_61 (rfl : 61 + 1 = 62) rfl rfl ?_
      refine r_dup hC dX8_small_62 (rfl : 62 + 1 = 63) rfl ?_
      refine r_geti hC 0 7 35 fw_X8_80 rfl dX8_small_63 (rfl : 63 + 3 = 66) ?_
      refine r_iconst hC dX8_small_66 (rfl : 66 + 1 = 67) (v := 1) (by decide) ?_
      refine r_iadd hC dX8_small_67 (rfl : 67 + 1 = 68) ?_
      obtain ⟨σ_5, e_6, h⟩ := lt_nm h
      refine r_puti hC 0 7 35 fw_X8_80 fp_8_35 rfl e_6 dX8_small_68 (rfl : 68 + 3 = 71) ?_
      refine r_goto hC dX8_small_71 (tgt := 52) (by decide) ?_
      exact (ih x1 x2 x3 σ_5 h).sub [0, 1, 2, 3] rfl
set_option maxHeartbeats 1000000 in
set_option maxRecDepth 100000 in
theorem mX8_small {G : Gx} {b k : Nat} {l : Launch} (hS : Sok YM G) (d : Nat) (hk : 2 * d + 11 ≤ k) (x1 : Int32) (x2 : Int32) (x3 : Int32) (σ : Sg) (Q : Int32 → Sg → Prop) (h : wX8_small d x1 x2 x3 σ Q) : Mi YM G b l yX8_small cX8_small 4 .int k [.ref (G.1 0), .int x1, .int x2, .int x3] σ Q := by
  refine enter hS (by decide +kernel) (Nat.le_of_ble_eq_true rfl) (lv := [(0, .ref (G.1 0)), (1, .int x1), (2, .int x2), (3, .int x3)]) rfl (fun K hl hC => ?_)
  subst hl
  unfold wX8_small at h
  show V YM G K (Zi YM G K Q) 4 σ 0 [(0, .ref (G.1 0)), (1, .int x1), (2, .int x2), (3, .int x3)] []
  refine r_aload_n hC 0 dX8_small_0 (rfl : 0 + 1 = 1) rfl rfl ?_
  refine r_iload_n hC 1 dX8_small_1 (rfl : 1 + 1 = 2) rfl rfl ?_
  refine r_callVi hC cs_X8_286 rfl (by omega) (mX8_isMaker hC.2.2.2.2.2.2.2.2.1 (k := k - 1) (by omega) x1 σ _ h) rfl rfl (Nat.le_of_ble_eq_true rfl) dX8_small_2 (rfl : 2 + 3 = 5) (fun r_8 σ_7 h => ?_)
  refine r_if_eq hC dX8_small_5 (rfl : 5 + 3 = 8) (tgt := 28) (by decide) (fun q => ?_) (fun q => ?_)
  · replace h := if_t h q
    refine r_iconst hC dX8_small_28 (rfl : 28 + 1 = 29) (v := -1) (by decide) ?_
    exact r_iret hC rfl h dX8_small_29
  · replace h := if_f h q
    refine r_aload_n hC 0 dX8_small_8 (rfl : 8 + 1 = 9) rfl rfl ?_
    refine r_iload_n hC 2 dX8_small_9 (rfl : 9 + 1 = 10) rfl rfl ?_
    refine r_callVi hC cs_X8_246 rfl (by omega) (mX8_has hC.2.2.2.2.2.2.2.2.1 (k := k - 1) (by omega) x2 σ_7 _ h) rfl rfl (Nat.le_of_ble_eq_true rfl) dX8_small_10 (rfl : 10 + 3 = 13) (fun r_10 σ_9 h => ?_)
    refine r_if_eq hC dX8_small_13 (rfl : 13 + 3 = 16) (tgt := 28) (by decide) (fun q => ?_) (fun q => ?_)
    · replace h := if_t h q
      refine r_iconst hC dX8_small_28 (rfl : 28 + 1 = 29) (v := -1) (by decide) ?_
      exact r_iret hC rfl h dX8_small_29
    · replace h := if_f h q
      refine r_iload_n hC 3 dX8_small_16 (rfl : 16 + 1 = 17) rfl rfl ?_
      refine r_i2l hC dX8_small_17 (rfl : 17 + 1 = 18) ?_
      refine r_lconst hC dX8_small_18 (rfl : 18 + 1 = 19) (v := 0) (by decide) ?_
      refine r_ldc2 hC dX8_small_19 (rfl : 19 + 3 = 22) wd_1008 ?_
      refine r_callSi hC cs_X8_177 (by omega) (mX8_in hC.2.2.2.2.2.2.2.2.1 (k := k - 1) (by omega) (Int32.toInt64 x3) 0 6 σ_9 _ h) rfl rfl (Nat.le_of_ble_eq_true rfl) dX8_small_22 (rfl : 22 + 3 = 25) (fun r_12 σ_11 h => ?_)
      refine r_if_ne hC dX8_small_25 (rfl : 25 + 3 = 28) (tgt := 30) (by decide) (fun q => ?_) (fun q => ?_)
      · replace h := if_f h q
        refine r_aload_n hC 0 dX8_small_30 (rfl : 30 + 1 = 31) rfl rfl ?_
        refine r_iload_n hC 2 dX8_small_31 (rfl : 31 + 1 = 32) rfl rfl ?_
        refine r_callVv hC cs_X8_198 rfl (by omega) (mX8_take hC.2.2.2.2.2.2.2.2.1 (k := k - 1) (by omega) x2 σ_11 _ h) rfl rfl (Nat.le_of_ble_eq_true rfl) dX8_small_32 (rfl : 32 + 3 = 35) (fun  σ_13 h => ?_)
        refine r_aload_n hC 0 dX8_small_35 (rfl : 35 + 1 = 36) rfl rfl ?_
        refine r_iload_n hC 1 dX8_small_36 (rfl : 36 + 1 = 37) rfl rfl ?_
        refine r_iload_n hC 3 dX8_small_37 (rfl : 37 + 1 = 38) rfl rfl ?_
        refine r_callVi hC cs_X8_317 rfl (by omega) (mX8_isShown hC.2.2.2.2.2.2.2.2.1 d (k := k - 1) (by omega) x1 x3 σ_13 _ h) rfl rfl (Nat.le_of_ble_eq_true rfl) dX8_small_38 (rfl : 38 + 3 = 41) (fun r_15 σ_14 h => ?_)
        refine r_if_ne hC dX8_small_41 (rfl : 41 + 3 = 44) (tgt := 47) (by decide) (fun q => ?_) (fun q => ?_)
        · replace h := if_f h q
          refine r_aload_n hC 0 dX8_small_47 (rfl : 47 + 1 = 48) rfl rfl ?_
          refine r_iconst hC dX8_small_48 (rfl : 48 + 1 = 49) (v := 0) (by decide) ?_
          obtain ⟨σ_16, e_17, h⟩ := lt_nm h
          refine r_puti hC 0 7 35 fw_X8_80 fp_8_35 rfl e_17 dX8_small_49 (rfl : 49 + 3 = 52) ?_
          obtain ⟨nn, h⟩ := h
          exact (sX8_small_52 rfl hC d hk  Q  nn x1 x2 x3 σ_16 h).sub [0, 1, 2, 3] rfl
        · replace h := if_t h q
          refine r_bipush hC dX8_small_44 (rfl : 44 + 2 = 46) (v := -2) (by decide) ?_
          exact r_iret hC rfl h dX8_small_46
      · replace h := if_t h q
        refine r_iconst hC dX8_small_28 (rfl : 28 + 1 = 29) (v := -1) (by decide) ?_
        exact r_iret hC rfl h dX8_small_29
set_option maxHeartbeats 1000000 in
set_option maxRecDepth 100000 in
theorem sX8_least_41 {G : Gx} {b k : Nat} {K : Kx} {l : Launch} (hl : K.2.1 = l) (hC : Cx YM G b K cX8_least RX8 7 (some .long) k) (d : Nat) (hk : 2 * d + 9 ≤ k) (K32 : Int32 → Int32 → Int32 → Int32 → Sg → Prop) (Q : Int64 → Sg → Prop) (h32 : ∀ (x1 : Int32) (x2 : Int32) (x3 : Int32) (x4 : Int32) (σ : Sg), K32 x1 x2 x3 x4 σ → V YM G K (Zl YM G K Q) 7 σ 32 [(0, .ref (G.1 0)), (1, .int x1), (2, .int x2), (3, .int x3), (4, .int x4)] []) : ∀ (n : Nat) (x1 : Int32) (x2 : Int32) (x3 : Int32) (x4 : Int32) (x5 : Int64) (σ : Sg), wX8_least_41 d K32 Q n x1 x2 x3 x4 x5 σ → V YM G K (Zl YM G K Q) 7 σ 41 [(0, .ref (G.1 0)), (1, .int x1), (2, .int x2), (3, .int x3), (4, .int x4), (5, .long x5)] [] := by
  subst hl
  intro n
  induction n with
  | zero =>
    intro x1 x2 x3 x4 x5 σ h
    exact h.elim
  | succ n ih =>
    intro x1 x2 x3 x4 x5 σ h
    have h : wX8_least_41_b d K32 (wX8_least_41 d K32 Q n) x1 x2 x3 x4 x5 σ Q := h
    unfold wX8_least_41_b at h
    refine r_lload hC 5 dX8_least_41 (rfl : 41 + 2 = 43) rfl ?_
    refine r_aload_n hC 0 dX8_least_43 (rfl : 43 + 1 = 44) rfl rfl ?_
    refine r_getr hC 0 7 19 12 (o := 12) fw_X8_43 rfl rfl dX8_least_44 (rfl : 44 + 3 = 47) ?_
    refine r_iload hC 4 dX8_least_47 (rfl : 47 + 2 = 49) rfl ?_
    obtain ⟨q_1, h⟩ := h
    refine r_lald hC 12 rfl q_1 dX8_least_49 (rfl : 49 + 1 = 50) ?_
    refine r_lcmp hC dX8_least_50 (rfl : 50 + 1 = 51) ?_
    refine r_if_ge hC dX8_least_51 (rfl : 51 + 3 = 54) (tgt := 91) (by decide) (fun q => ?_) (fun q => ?_)
    · replace h := if_t h ((lg_cmp_ge _ _).1 q)
      obtain ⟨x4_2, e_3, h⟩ := lt_nm h
      refine r_iinc hC (j := 4) dX8_least_91 (rfl : 91 + 3 = 94) rfl (zz := 1) (by decide) e_3 (by decide) (lv2 := [(4, .int x4_2), (0, .ref (G.1 0)), (1, .int x1), (2, .int x2), (3, .int x3), (5, .long x5)]) rfl ?_
      refine r_goto hC dX8_least_94 (tgt := 32) (by decide) ?_
      exact (h32 x1 x2 x3 x4_2 σ h).sub [1, 2, 3, 4, 0] rfl
    · replace h := if_f h (fun z => q ((lg_cmp_ge _ _).2 z))
      refine r_aload_n hC 0 dX8_least_54 (rfl : 54 + 1 = 55) rfl rfl ?_
      refine r_aload_n hC 0 dX8_least_55 (rfl : 55 + 1 = 56) rfl rfl ?_
      refine r_iload hC 4 dX8_least_56 (rfl : 56 + 2 = 58) rfl ?_
      refine r_lload hC 5 dX8_least_58 (rfl : 58 + 2 = 60) rfl ?_
      refine r_callVi hC cs_X8_326 rfl (by omega) (mX8_nthTree hC.2.2.2.2.2.2.2.2.1 d (k := k - 1) (by omega) x4 x5 σ _ h) rfl rfl (Nat.le_of_ble_eq_true rfl) dX8_least_60 (rfl : 60 + 3 = 63) (fun r_5 σ_4 h => ?_)
      refine r_iload_n hC 1 dX8_least_63 (rfl : 63 + 1 = 64) rfl rfl ?_
      refine r_iload_n hC 2 dX8_least_64 (rfl : 64 + 1 = 65) rfl rfl ?_
      refine r_callVi hC cs_X8_298 rfl (by omega) (mX8_firesOf hC.2.2.2.2.2.2.2.2.1 d (k := k - 1) (by omega) r_5 x1 x2 σ_4 _ h) rfl rfl (Nat.le_of_ble_eq_true rfl) dX8_least_65 (rfl : 65 + 3 = 68) (fun r_7 σ_6 h => ?_)
      refine r_if_le hC dX8_least_68 (rfl : 68 + 3 = 71) (tgt := 82) (by decide) (fun q => ?_) (fun q => ?_)
      · replace h := if_t h q
        refine r_lload hC 5 dX8_least_82 (rfl : 82 + 2 = 84) rfl ?_
        refine r_lconst hC dX8_least_84 (rfl : 84 + 1 = 85) (v := 1) (by decide) ?_
        refine r_ladd hC dX8_least_85 (rfl : 85 + 1 = 86) ?_
        obtain ⟨x5_8, e_9, h⟩ := lt_nm h
        refine r_lstore hC dX8_least_86 (rfl : 86 + 2 = 88) (by decide) e_9 (lv2 := [(5, .long x5_8), (0, .ref (G.1 0)), (1, .int x1), (2, .int x2), (3, .int x3), (4, .int x4)]) rfl ?_
        refine r_goto hC dX8_least_88 (tgt := 41) (by decide) ?_
        exact (ih x1 x2 x3 x4 x5_8 σ_6 h).sub [1, 2, 3, 4, 5, 0] rfl
      · replace h := if_f h q
        refine r_ldc2 hC dX8_least_71 (rfl : 71 + 3 = 74) wd_1205 ?_
        refine r_lload hC 5 dX8_least_74 (rfl : 74 + 2 = 76) rfl ?_
        refine r_lmul hC dX8_least_76 (rfl : 76 + 1 = 77) ?_
        refine r_iload hC 4 dX8_least_77 (rfl : 77 + 2 = 79) rfl ?_
        refine r_i2l hC dX8_least_79 (rfl : 79 + 1 = 80) ?_
        refine r_ladd hC dX8_least_80 (rfl : 80 + 1 = 81) ?_
        exact r_lret hC rfl h dX8_least_81
set_option maxHeartbeats 1000000 in
set_option maxRecDepth 100000 in
theorem sX8_least_32 {G : Gx} {b k : Nat} {K : Kx} {l : Launch} (hl : K.2.1 = l) (hC : Cx YM G b K cX8_least RX8 7 (some .long) k) (d : Nat) (hk : 2 * d + 9 ≤ k)  (Q : Int64 → Sg → Prop)  : ∀ (n : Nat) (x1 : Int32) (x2 : Int32) (x3 : Int32) (x4 : Int32) (σ : Sg), wX8_least_32 d Q n x1 x2 x3 x4 σ → V YM G K (Zl YM G K Q) 7 σ 32 [(0, .ref (G.1 0)), (1, .int x1), (2, .int x2), (3, .int x3), (4, .int x4)] [] := by
  subst hl
  intro n
  induction n with
  | zero =>
    intro x1 x2 x3 x4 σ h
    exact h.elim
  | succ n ih =>
    intro x1 x2 x3 x4 σ h
    have h : wX8_least_32_b d (wX8_least_32 d Q n) x1 x2 x3 x4 σ Q := h
    unfold wX8_least_32_b at h
    refine r_iload hC 4 dX8_least_32 (rfl : 32 + 2 = 34) rfl ?_
    refine r_iload_n hC 3 dX8_least_34 (rfl : 34 + 1 = 35) rfl rfl ?_
    refine r_icmp_gt hC dX8_least_35 (rfl : 35 + 3 = 38) (tgt := 97) (by decide) (fun q => ?_) (fun q => ?_)
    · replace h := if_t h q
      refine r_ldc2 hC dX8_least_97 (rfl : 97 + 3 = 100) wd_1206 ?_
      exact r_lret hC rfl h dX8_least_100
    · replace h := if_f h q
      refine r_lconst hC dX8_least_38 (rfl : 38 + 1 = 39) (v := 0) (by decide) ?_
      refine r_lstore hC dX8_least_39 (rfl : 39 + 2 = 41) (by decide) rfl (lv2 := [(5, .long 0), (0, .ref (G.1 0)), (1, .int x1), (2, .int x2), (3, .int x3), (4, .int x4)]) rfl ?_
      obtain ⟨nn, h⟩ := h
      exact (sX8_least_41 rfl hC d hk (wX8_least_32 d Q n) Q ih nn x1 x2 x3 x4 0 σ h).sub [1, 2, 3, 4, 5, 0] rfl
set_option maxHeartbeats 1000000 in
set_option maxRecDepth 100000 in
theorem mX8_least {G : Gx} {b k : Nat} {l : Launch} (hS : Sok YM G) (d : Nat) (hk : 2 * d + 9 ≤ k) (x1 : Int32) (x2 : Int32) (x3 : Int32) (σ : Sg) (Q : Int64 → Sg → Prop) (h : wX8_least d x1 x2 x3 σ Q) : Ml YM G b l yX8_least cX8_least 7 k [.ref (G.1 0), .int x1, .int x2, .int x3] σ Q := by
  refine enter hS (by decide +kernel) (Nat.le_of_ble_eq_true rfl) (lv := [(0, .ref (G.1 0)), (1, .int x1), (2, .int x2), (3, .int x3)]) rfl (fun K hl hC => ?_)
  subst hl
  unfold wX8_least at h
  show V YM G K (Zl YM G K Q) 7 σ 0 [(0, .ref (G.1 0)), (1, .int x1), (2, .int x2), (3, .int x3)] []
  refine r_aload_n hC 0 dX8_least_0 (rfl : 0 + 1 = 1) rfl rfl ?_
  refine r_iload_n hC 1 dX8_least_1 (rfl : 1 + 1 = 2) rfl rfl ?_
  refine r_iload_n hC 2 dX8_least_2 (rfl : 2 + 1 = 3) rfl rfl ?_
  refine r_callVi hC cs_X8_289 rfl (by omega) (mX8_isTurn hC.2.2.2.2.2.2.2.2.1 (k := k - 1) (by omega) x1 x2 σ _ h) rfl rfl (Nat.le_of_ble_eq_true rfl) dX8_least_3 (rfl : 3 + 3 = 6) (fun r_11 σ_10 h => ?_)
  refine r_if_eq hC dX8_least_6 (rfl : 6 + 3 = 9) (tgt := 21) (by decide) (fun q => ?_) (fun q => ?_)
  · replace h := if_t h q
    refine r_ldc2 hC dX8_least_21 (rfl : 21 + 3 = 24) wd_890 ?_
    exact r_lret hC rfl h dX8_least_24
  · replace h := if_f h q
    refine r_iload_n hC 3 dX8_least_9 (rfl : 9 + 1 = 10) rfl rfl ?_
    refine r_i2l hC dX8_least_10 (rfl : 10 + 1 = 11) ?_
    refine r_lconst hC dX8_least_11 (rfl : 11 + 1 = 12) (v := 1) (by decide) ?_
    refine r_ldc2 hC dX8_least_12 (rfl : 12 + 3 = 15) wd_895 ?_
    refine r_callSi hC cs_X8_177 (by omega) (mX8_in hC.2.2.2.2.2.2.2.2.1 (k := k - 1) (by omega) (Int32.toInt64 x3) 1 5 σ_10 _ h) rfl rfl (Nat.le_of_ble_eq_true rfl) dX8_least_15 (rfl : 15 + 3 = 18) (fun r_13 σ_12 h => ?_)
    refine r_if_ne hC dX8_least_18 (rfl : 18 + 3 = 21) (tgt := 25) (by decide) (fun q => ?_) (fun q => ?_)
    · replace h := if_f h q
      refine r_aload_n hC 0 dX8_least_25 (rfl : 25 + 1 = 26) rfl rfl ?_
      refine r_callVv hC cs_X8_220 rfl (by omega) (mX8_count0 hC.2.2.2.2.2.2.2.2.1 (k := k - 1) (by omega)  σ_12 _ h) rfl rfl (Nat.le_of_ble_eq_true rfl) dX8_least_26 (rfl : 26 + 3 = 29) (fun  σ_14 h => ?_)
      refine r_iconst hC dX8_least_29 (rfl : 29 + 1 = 30) (v := 1) (by decide) ?_
      refine r_istore hC dX8_least_30 (rfl : 30 + 2 = 32) (by decide) rfl (lv2 := [(4, .int 1), (0, .ref (G.1 0)), (1, .int x1), (2, .int x2), (3, .int x3)]) rfl ?_
      obtain ⟨nn, h⟩ := h
      exact (sX8_least_32 rfl hC d hk  Q  nn x1 x2 x3 1 σ_14 h).sub [1, 2, 3, 4, 0] rfl
    · replace h := if_t h q
      refine r_ldc2 hC dX8_least_21 (rfl : 21 + 3 = 24) wd_890 ?_
      exact r_lret hC rfl h dX8_least_24
set_option maxHeartbeats 1000000 in
set_option maxRecDepth 100000 in
theorem sX8_shown_117 {G : Gx} {b k : Nat} {K : Kx} {l : Launch} (hl : K.2.1 = l) (hC : Cx YM G b K cX8_shown RX8 9 (some .int) k) (d : Nat) (hk : 2 * d + 9 ≤ k) (K55 : Int32 → Int32 → Int32 → Int32 → Int32 → Int64 → Sg → Prop) (Q : Int32 → Sg → Prop) (h55 : ∀ (x1 : Int32) (x2 : Int32) (x3 : Int32) (x4 : Int32) (x5 : Int32) (x6 : Int64) (σ : Sg), K55 x1 x2 x3 x4 x5 x6 σ → V YM G K (Zi YM G K Q) 9 σ 55 [(0, .ref (G.1 0)), (1, .int x1), (2, .int x2), (3, .int x3), (4, .int x4), (5, .int x5), (6, .long x6)] []) (x1 : Int32) (x2 : Int32) (x3 : Int32) (x4 : Int32) (x5 : Int32) (x6 : Int64) (σ : Sg) (h : wX8_shown_117 d K55 x1 x2 x3 x4 x5 x6 σ Q) : V YM G K (Zi YM G K Q) 9 σ 117 [(0, .ref (G.1 0)), (1, .int x1), (2, .int x2), (3, .int x3), (4, .int x4), (5, .int x5), (6, .long x6)] [] := by
  subst hl
  unfold wX8_shown_117 at h
  refine r_lload hC 6 dX8_shown_117 (rfl : 117 + 2 = 119) rfl ?_
  refine r_lconst hC dX8_shown_119 (rfl : 119 + 1 = 120) (v := 1) (by decide) ?_
  refine r_ladd hC dX8_shown_120 (rfl : 120 + 1 = 121) ?_
  obtain ⟨x6_1, e_2, h⟩ := lt_nm h
  refine r_lstore hC dX8_shown_121 (rfl : 121 + 2 = 123) (by decide) e_2 (lv2 := [(6, .long x6_1), (0, .ref (G.1 0)), (1, .int x1), (2, .int x2), (3, .int x3), (4, .int x4), (5, .int x5)]) rfl ?_
  refine r_goto hC dX8_shown_123 (tgt := 55) (by decide) ?_
  exact (h55 x1 x2 x3 x4 x5 x6_1 σ h).sub [1, 2, 3, 4, 5, 6, 0] rfl
set_option maxHeartbeats 1000000 in
set_option maxRecDepth 100000 in
theorem sX8_shown_114 {G : Gx} {b k : Nat} {K : Kx} {l : Launch} (hl : K.2.1 = l) (hC : Cx YM G b K cX8_shown RX8 9 (some .int) k) (d : Nat) (hk : 2 * d + 9 ≤ k) (K55 : Int32 → Int32 → Int32 → Int32 → Int32 → Int64 → Sg → Prop) (Q : Int32 → Sg → Prop) (h55 : ∀ (x1 : Int32) (x2 : Int32) (x3 : Int32) (x4 : Int32) (x5 : Int32) (x6 : Int64) (σ : Sg), K55 x1 x2 x3 x4 x5 x6 σ → V YM G K (Zi YM G K Q) 9 σ 55 [(0, .ref (G.1 0)), (1, .int x1), (2, .int x2), (3, .int x3), (4, .int x4), (5, .int x5), (6, .long x6)] []) (x1 : Int32) (x2 : Int32) (x3 : Int32) (x4 : Int32) (x6 : Int64) (s0 : Int32) (s1 : Int32) (σ : Sg) (h : wX8_shown_114 d K55 x1 x2 x3 x4 x6 s0 s1 σ Q) : V YM G K (Zi YM G K Q) 9 σ 114 [(0, .ref (G.1 0)), (1, .int x1), (2, .int x2), (3, .int x3), (4, .int x4), (6, .long x6)] [.int s1, .int s0] := by
  subst hl
  unfold wX8_shown_114 at h
  refine r_iadd hC dX8_shown_114 (rfl : 114 + 1 = 115) ?_
  obtain ⟨x5_3, e_4, h⟩ := lt_nm h
  refine r_istore hC dX8_shown_115 (rfl : 115 + 2 = 117) (by decide) e_4 (lv2 := [(5, .int x5_3), (0, .ref (G.1 0)), (1, .int x1), (2, .int x2), (3, .int x3), (4, .int x4), (6, .long x6)]) rfl ?_
  exact (sX8_shown_117 rfl hC d hk K55 Q h55 x1 x2 x3 x4 x5_3 x6 σ h).sub [1, 2, 3, 4, 5, 0, 6] rfl
set_option maxHeartbeats 1000000 in
set_option maxRecDepth 100000 in
theorem sX8_shown_109 {G : Gx} {b k : Nat} {K : Kx} {l : Launch} (hl : K.2.1 = l) (hC : Cx YM G b K cX8_shown RX8 9 (some .int) k) (d : Nat) (hk : 2 * d + 9 ≤ k) (K55 : Int32 → Int32 → Int32 → Int32 → Int32 → Int64 → Sg → Prop) (Q : Int32 → Sg → Prop) (h55 : ∀ (x1 : Int32) (x2 : Int32) (x3 : Int32) (x4 : Int32) (x5 : Int32) (x6 : Int64) (σ : Sg), K55 x1 x2 x3 x4 x5 x6 σ → V YM G K (Zi YM G K Q) 9 σ 55 [(0, .ref (G.1 0)), (1, .int x1), (2, .int x2), (3, .int x3), (4, .int x4), (5, .int x5), (6, .long x6)] []) (x1 : Int32) (x2 : Int32) (x3 : Int32) (x4 : Int32) (x6 : Int64) (s0 : Int32) (σ : Sg) (h : wX8_shown_109 d K55 x1 x2 x3 x4 x6 s0 σ Q) : V YM G K (Zi YM G K Q) 9 σ 109 [(0, .ref (G.1 0)), (1, .int x1), (2, .int x2), (3, .int x3), (4, .int x4), (6, .long x6)] [.int s0] := by
  subst hl
  unfold wX8_shown_109 at h
  refine r_iconst hC dX8_shown_109 (rfl : 109 + 1 = 110) (v := 1) (by decide) ?_
  refine r_goto hC dX8_shown_110 (tgt := 114) (by decide) ?_
  exact (sX8_shown_114 rfl hC d hk K55 Q h55 x1 x2 x3 x4 x6 s0 1 σ h).sub [0, 1, 2, 3, 4, 5] rfl
set_option maxHeartbeats 1000000 in
set_option maxRecDepth 100000 in
theorem sX8_shown_55 {G : Gx} {b k : Nat} {K : Kx} {l : Launch} (hl : K.2.1 = l) (hC : Cx YM G b K cX8_shown RX8 9 (some .int) k) (d : Nat) (hk : 2 * d + 9 ≤ k)  (Q : Int32 → Sg → Prop)  : ∀ (n : Nat) (x1 : Int32) (x2 : Int32) (x3 : Int32) (x4 : Int32) (x5 : Int32) (x6 : Int64) (σ : Sg), wX8_shown_55 d Q n x1 x2 x3 x4 x5 x6 σ → V YM G K (Zi YM G K Q) 9 σ 55 [(0, .ref (G.1 0)), (1, .int x1), (2, .int x2), (3, .int x3), (4, .int x4), (5, .int x5), (6, .long x6)] [] := by
  subst hl
  intro n
  induction n with
  | zero =>
    intro x1 x2 x3 x4 x5 x6 σ h
    exact h.elim
  | succ n ih =>
    intro x1 x2 x3 x4 x5 x6 σ h
    have h : wX8_shown_55_b d (wX8_shown_55 d Q n) x1 x2 x3 x4 x5 x6 σ Q := h
    unfold wX8_shown_55_b at h
    refine r_lload hC 6 dX8_shown_55 (rfl : 55 + 2 = 57) rfl ?_
    refine r_aload_n hC 0 dX8_shown_57 (rfl : 57 + 1 = 58) rfl rfl ?_
    refine r_getr hC 0 7 19 12 (o := 12) fw_X8_43 rfl rfl dX8_shown_58 (rfl : 58 + 3 = 61) ?_
    refine r_iload_n hC 2 dX8_shown_61 (rfl : 61 + 1 = 62) rfl rfl ?_
    obtain ⟨q_5, h⟩ := h
    refine r_lald hC 12 rfl q_5 dX8_shown_62 (rfl : 62 + 1 = 63) ?_
    refine r_lcmp hC dX8_shown_63 (rfl : 63 + 1 = 64) ?_
    refine r_if_ge hC dX8_shown_64 (rfl : 64 + 3 = 67) (tgt := 126) (by decide) (fun q => ?_) (fun q => ?_)
    · replace h := if_t h ((lg_cmp_ge _ _).1 q)
      refine r_iload hC 5 dX8_shown_126 (rfl : 126 + 2 = 128) rfl ?_
      exact r_iret hC rfl h dX8_shown_128
    · replace h := if_f h (fun z => q ((lg_cmp_ge _ _).2 z))
      refine r_aload_n hC 0 dX8_shown_67 (rfl : 67 + 1 = 68) rfl rfl ?_
      refine r_iload_n hC 2 dX8_shown_68 (rfl : 68 + 1 = 69) rfl rfl ?_
      refine r_lload hC 6 dX8_shown_69 (rfl : 69 + 2 = 71) rfl ?_
      refine r_callVi hC cs_X8_326 rfl (by omega) (mX8_nthTree hC.2.2.2.2.2.2.2.2.1 d (k := k - 1) (by omega) x2 x6 σ _ h) rfl rfl (Nat.le_of_ble_eq_true rfl) dX8_shown_71 (rfl : 71 + 3 = 74) (fun r_7 σ_6 h => ?_)
      refine r_istore hC dX8_shown_74 (rfl : 74 + 2 = 76) (by decide) rfl (lv2 := [(8, .int r_7), (0, .ref (G.1 0)), (1, .int x1), (2, .int x2), (3, .int x3), (4, .int x4), (5, .int x5), (6, .long x6)]) rfl ?_
      refine r_aload_n hC 1 dX8_shown_76 (rfl : 76 + 1 = 77) rfl rfl ?_
      refine r_iload hC 0 dX8_shown_77 (rfl : 77 + 2 = 79) rfl ?_
      refine r_iload_n hC 4 dX8_shown_79 (rfl : 79 + 1 = 80) rfl rfl ?_
      refine r_callVi hC cs_X8_270 rfl (by omega) (mX8_isSafe hC.2.2.2.2.2.2.2.2.1 d (k := k - 1) (by omega) r_7 x3 σ_6 _ h) rfl rfl (Nat.le_of_ble_eq_true rfl) dX8_shown_80 (rfl : 80 + 3 = 83) (fun r_9 σ_8 h => ?_)
      refine r_if_ne hC dX8_shown_83 (rfl : 83 + 3 = 86) (tgt := 89) (by decide) (fun q => ?_) (fun q => ?_)
      · replace h := if_f h q
        refine r_iload hC 6 dX8_shown_89 (rfl : 89 + 2 = 91) rfl ?_
        refine r_iload hC 5 dX8_shown_91 (rfl : 91 + 2 = 93) rfl ?_
        refine r_if_eq hC dX8_shown_93 (rfl : 93 + 3 = 96) (tgt := 109) (by decide) (fun q => ?_) (fun q => ?_)
        · replace h := if_t h q
          exact (sX8_shown_109 rfl hC d hk (wX8_shown_55 d Q n) Q ih x1 x2 x3 x4 x6 x5 σ_8 h).sub [1, 2, 3, 4, 5, 7] rfl
        · replace h := if_f h q
          refine r_aload_n hC 1 dX8_shown_96 (rfl : 96 + 1 = 97) rfl rfl ?_
          refine r_iload hC 0 dX8_shown_97 (rfl : 97 + 2 = 99) rfl ?_
          refine r_iload_n hC 2 dX8_shown_99 (rfl : 99 + 1 = 100) rfl rfl ?_
          refine r_iload_n hC 4 dX8_shown_100 (rfl : 100 + 1 = 101) rfl rfl ?_
          refine r_callVi hC cs_X8_305 rfl (by omega) (mX8_firstOf hC.2.2.2.2.2.2.2.2.1 d (k := k - 1) (by omega) r_7 x1 x3 σ_8 _ h) rfl rfl (Nat.le_of_ble_eq_true rfl) dX8_shown_101 (rfl : 101 + 3 = 104) (fun r_11 σ_10 h => ?_)
          refine r_bipush hC dX8_shown_104 (rfl : 104 + 2 = 106) (v := -5) (by decide) ?_
          refine r_icmp_eq hC dX8_shown_106 (rfl : 106 + 3 = 109) (tgt := 113) (by decide) (fun q => ?_) (fun q => ?_)
          · replace h := if_t h q
            refine r_iconst hC dX8_shown_113 (rfl : 113 + 1 = 114) (v := 0) (by decide) ?_
            exact (sX8_shown_114 rfl hC d hk (wX8_shown_55 d Q n) Q ih x1 x2 x3 x4 x6 x5 0 σ_10 h).sub [1, 2, 3, 4, 5, 7] rfl
          · replace h := if_f h q
            exact (sX8_shown_109 rfl hC d hk (wX8_shown_55 d Q n) Q ih x1 x2 x3 x4 x6 x5 σ_10 h).sub [1, 2, 3, 4, 5, 7] rfl
      · replace h := if_t h q
        refine r_goto hC dX8_shown_86 (tgt := 117) (by decide) ?_
        exact (sX8_shown_117 rfl hC d hk (wX8_shown_55 d Q n) Q ih x1 x2 x3 x4 x5 x6 σ_8 h).sub [1, 2, 3, 4, 5, 6, 7] rfl
set_option maxHeartbeats 1000000 in
set_option maxRecDepth 100000 in
theorem mX8_shown {G : Gx} {b k : Nat} {l : Launch} (hS : Sok YM G) (d : Nat) (hk : 2 * d + 9 ≤ k) (x1 : Int32) (x2 : Int32) (x3 : Int32) (x4 : Int32) (σ : Sg) (Q : Int32 → Sg → Prop) (h : wX8_shown d x1 x2 x3 x4 σ Q) : Mi YM G b l yX8_shown cX8_shown 9 .int k [.ref (G.1 0), .int x1, .int x2, .int x3, .int x4] σ Q := by
  refine enter hS (by decide +kernel) (Nat.le_of_ble_eq_true rfl) (lv := [(0, .ref (G.1 0)), (1, .int x1), (2, .int x2), (3, .int x3), (4, .int x4)]) rfl (fun K hl hC => ?_)
  subst hl
  unfold wX8_shown at h
  show V YM G K (Zi YM G K Q) 9 σ 0 [(0, .ref (G.1 0)), (1, .int x1), (2, .int x2), (3, .int x3), (4, .int x4)] []
  refine r_aload_n hC 0 dX8_shown_0 (rfl : 0 + 1 = 1) rfl rfl ?_
  refine r_iload_n hC 1 dX8_shown_1 (rfl : 1 + 1 = 2) rfl rfl ?_
  refine r_callVi hC cs_X8_286 rfl (by omega) (mX8_isMaker hC.2.2.2.2.2.2.2.2.1 (k := k - 1) (by omega) x1 σ _ h) rfl rfl (Nat.le_of_ble_eq_true rfl) dX8_shown_2 (rfl : 2 + 3 = 5) (fun r_13 σ_12 h => ?_)
  refine r_if_eq hC dX8_shown_5 (rfl : 5 + 3 = 8) (tgt := 43) (by decide) (fun q => ?_) (fun q => ?_)
  · replace h := if_t h q
    refine r_iconst hC dX8_shown_43 (rfl : 43 + 1 = 44) (v := -1) (by decide) ?_
    exact r_iret hC rfl h dX8_shown_44
  · replace h := if_f h q
    refine r_iload_n hC 2 dX8_shown_8 (rfl : 8 + 1 = 9) rfl rfl ?_
    refine r_i2l hC dX8_shown_9 (rfl : 9 + 1 = 10) ?_
    refine r_lconst hC dX8_shown_10 (rfl : 10 + 1 = 11) (v := 1) (by decide) ?_
    refine r_ldc2 hC dX8_shown_11 (rfl : 11 + 3 = 14) wd_895 ?_
    refine r_callSi hC cs_X8_177 (by omega) (mX8_in hC.2.2.2.2.2.2.2.2.1 (k := k - 1) (by omega) (Int32.toInt64 x2) 1 5 σ_12 _ h) rfl rfl (Nat.le_of_ble_eq_true rfl) dX8_shown_14 (rfl : 14 + 3 = 17) (fun r_15 σ_14 h => ?_)
    refine r_if_eq hC dX8_shown_17 (rfl : 17 + 3 = 20) (tgt := 43) (by decide) (fun q => ?_) (fun q => ?_)
    · replace h := if_t h q
      refine r_iconst hC dX8_shown_43 (rfl : 43 + 1 = 44) (v := -1) (by decide) ?_
      exact r_iret hC rfl h dX8_shown_44
    · replace h := if_f h q
      refine r_iload_n hC 3 dX8_shown_20 (rfl : 20 + 1 = 21) rfl rfl ?_
      refine r_i2l hC dX8_shown_21 (rfl : 21 + 1 = 22) ?_
      refine r_lconst hC dX8_shown_22 (rfl : 22 + 1 = 23) (v := 0) (by decide) ?_
      refine r_ldc2 hC dX8_shown_23 (rfl : 23 + 3 = 26) wd_939 ?_
      refine r_callSi hC cs_X8_177 (by omega) (mX8_in hC.2.2.2.2.2.2.2.2.1 (k := k - 1) (by omega) (Int32.toInt64 x3) 0 2 σ_14 _ h) rfl rfl (Nat.le_of_ble_eq_true rfl) dX8_shown_26 (rfl : 26 + 3 = 29) (fun r_17 σ_16 h => ?_)
      refine r_if_eq hC dX8_shown_29 (rfl : 29 + 3 = 32) (tgt := 43) (by decide) (fun q => ?_) (fun q => ?_)
      · replace h := if_t h q
        refine r_iconst hC dX8_shown_43 (rfl : 43 + 1 = 44) (v := -1) (by decide) ?_
        exact r_iret hC rfl h dX8_shown_44
      · replace h := if_f h q
        refine r_iload hC 4 dX8_shown_32 (rfl : 32 + 2 = 34) rfl ?_
        refine r_i2l hC dX8_shown_34 (rfl : 34 + 1 = 35) ?_
        refine r_lconst hC dX8_shown_35 (rfl : 35 + 1 = 36) (v := 0) (by decide) ?_
        refine r_lconst hC dX8_shown_36 (rfl : 36 + 1 = 37) (v := 1) (by decide) ?_
        refine r_callSi hC cs_X8_177 (by omega) (mX8_in hC.2.2.2.2.2.2.2.2.1 (k := k - 1) (by omega) (Int32.toInt64 x4) 0 1 σ_16 _ h) rfl rfl (Nat.le_of_ble_eq_true rfl) dX8_shown_37 (rfl : 37 + 3 = 40) (fun r_19 σ_18 h => ?_)
        refine r_if_ne hC dX8_shown_40 (rfl : 40 + 3 = 43) (tgt := 45) (by decide) (fun q => ?_) (fun q => ?_)
        · replace h := if_f h q
          refine r_aload_n hC 0 dX8_shown_45 (rfl : 45 + 1 = 46) rfl rfl ?_
          refine r_callVv hC cs_X8_220 rfl (by omega) (mX8_count0 hC.2.2.2.2.2.2.2.2.1 (k := k - 1) (by omega)  σ_18 _ h) rfl rfl (Nat.le_of_ble_eq_true rfl) dX8_shown_46 (rfl : 46 + 3 = 49) (fun  σ_20 h => ?_)
          refine r_iconst hC dX8_shown_49 (rfl : 49 + 1 = 50) (v := 0) (by decide) ?_
          refine r_istore hC dX8_shown_50 (rfl : 50 + 2 = 52) (by decide) rfl (lv2 := [(5, .int 0), (0, .ref (G.1 0)), (1, .int x1), (2, .int x2), (3, .int x3), (4, .int x4)]) rfl ?_
          refine r_lconst hC dX8_shown_52 (rfl : 52 + 1 = 53) (v := 0) (by decide) ?_
          refine r_lstore hC dX8_shown_53 (rfl : 53 + 2 = 55) (by decide) rfl (lv2 := [(6, .long 0), (5, .int 0), (0, .ref (G.1 0)), (1, .int x1), (2, .int x2), (3, .int x3), (4, .int x4)]) rfl ?_
          obtain ⟨nn, h⟩ := h
          exact (sX8_shown_55 rfl hC d hk  Q  nn x1 x2 x3 x4 0 0 σ_20 h).sub [2, 3, 4, 5, 6, 1, 0] rfl
        · replace h := if_t h q
          refine r_iconst hC dX8_shown_43 (rfl : 43 + 1 = 44) (v := -1) (by decide) ?_
          exact r_iret hC rfl h dX8_shown_44
set_option maxHeartbeats 1000000 in
set_option maxRecDepth 100000 in
theorem sX0_endParts_85 {G : Gx} {b k : Nat} {K : Kx} {l : Launch} (hl : K.2.1 = l) (hC : Cx YC G b K cX0_endParts RX0 3 (some .int) k)  (hk : 2 ≤ k) (K4 : Nat → Int32 → Sg → Prop) (Q : Int32 → Sg → Prop) (h4 : ∀ (t : Nat) (x2 : Int32) (σ : Sg), K4 t x2 σ → V YC G K (Zi YC G K Q) 3 σ 4 [(0, .ref (G.1 t)), (2, .int x2)] []) (t : Nat) (x2 : Int32) (σ : Sg) (h : wX0_endParts_85 K4 t x2 σ Q) : V YC G K (Zi YC G K Q) 3 σ 85 [(0, .ref (G.1 t)), (2, .int x2)] [] := by
  subst hl
  unfold wX0_endParts_85 at h
  obtain ⟨x2_1, e_2, h⟩ := lt_nm h
  refine r_iinc hC (j := 1) dX0_endParts_85 (rfl : 85 + 3 = 88) rfl (zz := -1) (by decide) e_2 (by decide) (lv2 := [(2, .int x2_1), (0, .ref (G.1 t))]) rfl ?_
  refine r_goto hC dX0_endParts_88 (tgt := 4) (by decide) ?_
  exact (h4 t x2_1 σ h).sub [1, 0] rfl
set_option maxHeartbeats 1000000 in
set_option maxRecDepth 100000 in
theorem sX0_endParts_41 {G : Gx} {b k : Nat} {K : Kx} {l : Launch} (hl : K.2.1 = l) (hC : Cx YC G b K cX0_endParts RX0 3 (some .int) k)  (hk : 2 ≤ k) (K4 : Nat → Int32 → Sg → Prop) (Q : Int32 → Sg → Prop) (h4 : ∀ (t : Nat) (x2 : Int32) (σ : Sg), K4 t x2 σ → V YC G K (Zi YC G K Q) 3 σ 4 [(0, .ref (G.1 t)), (2, .int x2)] []) (t : Nat) (x2 : Int32) (σ : Sg) (h : wX0_endParts_41 K4 t x2 σ Q) : V YC G K (Zi YC G K Q) 3 σ 41 [(0, .ref (G.1 t)), (2, .int x2)] [] := by
  subst hl
  unfold wX0_endParts_41 at h
  refine r_aload_n hC 0 dX0_endParts_41 (rfl : 41 + 1 = 42) rfl rfl ?_
  obtain ⟨ty_3, h⟩ := h
  refine r_getr hC t 0 7 (t + 4) (o := 4) fw_X0_35 ty_3 rfl dX0_endParts_42 (rfl : 42 + 3 = 45) ?_
  refine r_iload_n hC 1 dX0_endParts_45 (rfl : 45 + 1 = 46) rfl rfl ?_
  obtain ⟨q_4, h⟩ := h
  refine r_iald hC (t + 4) (la0_4 ty_3).1 (by rw [(la0_4 ty_3).2]; exact q_4) dX0_endParts_46 (rfl : 46 + 1 = 47) ?_
  refine r_aload_n hC 0 dX0_endParts_47 (rfl : 47 + 1 = 48) rfl rfl ?_
  refine r_getr hC t 0 6 (t + 3) (o := 3) fw_X0_32 ty_3 rfl dX0_endParts_48 (rfl : 48 + 3 = 51) ?_
  refine r_iload_n hC 1 dX0_endParts_51 (rfl : 51 + 1 = 52) rfl rfl ?_
  refine r_iald hC (t + 3) (la0_3 ty_3).1 (by rw [(la0_3 ty_3).2]; exact q_4) dX0_endParts_52 (rfl : 52 + 1 = 53) ?_
  refine r_callSi hC cs_X0_57 (by omega) (mX7_partsOf hC.2.2.2.2.2.2.2.2.1 (k := k - 1) (by omega) (σ.1 (t + 3) (Int32.toNatClampNeg x2)) σ _ h) rfl rfl (Nat.le_of_ble_eq_true rfl) dX0_endParts_53 (rfl : 53 + 3 = 56) (fun r_6 σ_5 h => ?_)
  refine r_icmp_ge hC dX0_endParts_56 (rfl : 56 + 3 = 59) (tgt := 63) (by decide) (fun q => ?_) (fun q => ?_)
  · replace h := if_t h q
    refine r_aload_n hC 0 dX0_endParts_63 (rfl : 63 + 1 = 64) rfl rfl ?_
    refine r_getr hC t 0 6 (t + 3) (o := 3) fw_X0_32 ty_3 rfl dX0_endParts_64 (rfl : 64 + 3 = 67) ?_
    refine r_iload_n hC 1 dX0_endParts_67 (rfl : 67 + 1 = 68) rfl rfl ?_
    refine r_iald hC (t + 3) (la0_3 ty_3).1 (by rw [(la0_3 ty_3).2]; exact q_4) dX0_endParts_68 (rfl : 68 + 1 = 69) ?_
    refine r_bipush hC dX0_endParts_69 (rfl : 69 + 2 = 71) (v := 8) (by decide) ?_
    refine r_icmp_eq hC dX0_endParts_71 (rfl : 71 + 3 = 74) (tgt := 85) (by decide) (fun q => ?_) (fun q => ?_)
    · replace h := if_t h q
      exact (sX0_endParts_85 rfl hC hk K4 Q h4 t x2 σ_5 h).sub [0, 1] rfl
    · replace h := if_f h q
      refine r_aload_n hC 0 dX0_endParts_74 (rfl : 74 + 1 = 75) rfl rfl ?_
      refine r_aload_n hC 0 dX0_endParts_75 (rfl : 75 + 1 = 76) rfl rfl ?_
      refine r_getr hC t 0 6 (t + 3) (o := 3) fw_X0_32 ty_3 rfl dX0_endParts_76 (rfl : 76 + 3 = 79) ?_
      refine r_iload_n hC 1 dX0_endParts_79 (rfl : 79 + 1 = 80) rfl rfl ?_
      refine r_iald hC (t + 3) (la0_3 ty_3).1 (by rw [(la0_3 ty_3).2]; exact q_4) dX0_endParts_80 (rfl : 80 + 1 = 81) ?_
      refine r_iconst hC dX0_endParts_81 (rfl : 81 + 1 = 82) (v := 0) (by decide) ?_
      refine r_callVv hC cs_X0_63 ty_3 (by omega) (mX0_add hC.2.2.2.2.2.2.2.2.1 (k := k - 1) (by omega) t (σ_5.1 (t + 3) (Int32.toNatClampNeg x2)) 0 σ_5 _ h) rfl rfl (Nat.le_of_ble_eq_true rfl) dX0_endParts_82 (rfl : 82 + 3 = 85) (fun  σ_7 h => ?_)
      exact (sX0_endParts_85 rfl hC hk K4 Q h4 t x2 σ_7 h).sub [0, 1] rfl
  · replace h := if_f h q
    refine r_iload_n hC 1 dX0_endParts_59 (rfl : 59 + 1 = 60) rfl rfl ?_
    refine r_iconst hC dX0_endParts_60 (rfl : 60 + 1 = 61) (v := 1) (by decide) ?_
    refine r_iadd hC dX0_endParts_61 (rfl : 61 + 1 = 62) ?_
    exact r_iret hC rfl h dX0_endParts_62
set_option maxHeartbeats 1000000 in
set_option maxRecDepth 100000 in
theorem sX0_endParts_4 {G : Gx} {b k : Nat} {K : Kx} {l : Launch} (hl : K.2.1 = l) (hC : Cx YC G b K cX0_endParts RX0 3 (some .int) k)  (hk : 2 ≤ k)  (Q : Int32 → Sg → Prop)  : ∀ (n : Nat) (t : Nat) (x2 : Int32) (σ : Sg), wX0_endParts_4  Q n t x2 σ → V YC G K (Zi YC G K Q) 3 σ 4 [(0, .ref (G.1 t)), (2, .int x2)] [] := by
  subst hl
  intro n
  induction n with
  | zero =>
    intro t x2 σ h
    exact h.elim
  | succ n ih =>
    intro t x2 σ h
    have h : wX0_endParts_4_b  (wX0_endParts_4  Q n) t x2 σ Q := h
    unfold wX0_endParts_4_b at h
    refine r_iload_n hC 1 dX0_endParts_4 (rfl : 4 + 1 = 5) rfl rfl ?_
    refine r_if_lt hC dX0_endParts_5 (rfl : 5 + 3 = 8) (tgt := 91) (by decide) (fun q => ?_) (fun q => ?_)
    · replace h := if_t h q
      refine r_iconst hC dX0_endParts_91 (rfl : 91 + 1 = 92) (v := 0) (by decide) ?_
      exact r_iret hC rfl h dX0_endParts_92
    · replace h := if_f h q
      refine r_iload_n hC 1 dX0_endParts_8 (rfl : 8 + 1 = 9) rfl rfl ?_
      refine r_sipush hC dX0_endParts_9 (rfl : 9 + 3 = 12) (v := 200) (by decide) ?_
      refine r_icmp_ge hC dX0_endParts_12 (rfl : 12 + 3 = 15) (tgt := 91) (by decide) (fun q => ?_) (fun q => ?_)
      · replace h := if_t h q
        refine r_iconst hC dX0_endParts_91 (rfl : 91 + 1 = 92) (v := 0) (by decide) ?_
        exact r_iret hC rfl h dX0_endParts_92
      · replace h := if_f h q
        refine r_aload_n hC 0 dX0_endParts_15 (rfl : 15 + 1 = 16) rfl rfl ?_
        obtain ⟨ty_8, h⟩ := h
        refine r_getr hC t 0 7 (t + 4) (o := 4) fw_X0_35 ty_8 rfl dX0_endParts_16 (rfl : 16 + 3 = 19) ?_
        refine r_iload_n hC 1 dX0_endParts_19 (rfl : 19 + 1 = 20) rfl rfl ?_
        refine r_dup2 hC dX0_endParts_20 (rfl : 20 + 1 = 21) rfl rfl ?_
        obtain ⟨q_9, h⟩ := h
        refine r_iald hC (t + 4) (la0_4 ty_8).1 (by rw [(la0_4 ty_8).2]; exact q_9) dX0_endParts_21 (rfl : 21 + 1 = 22) ?_
        refine r_iconst hC dX0_endParts_22 (rfl : 22 + 1 = 23) (v := 1) (by decide) ?_
        refine r_iadd hC dX0_endParts_23 (rfl : 23 + 1 = 24) ?_
        obtain ⟨σ_10, e_11, h⟩ := lt_nm h
        refine r_iast hC (t + 4) (la0_4 ty_8).1 (by rw [(la0_4 ty_8).2]; exact q_9) e_11 dX0_endParts_24 (rfl : 24 + 1 = 25) ?_
        refine r_aload_n hC 0 dX0_endParts_25 (rfl : 25 + 1 = 26) rfl rfl ?_
        refine r_getr hC t 0 6 (t + 3) (o := 3) fw_X0_32 ty_8 rfl dX0_endParts_26 (rfl : 26 + 3 = 29) ?_
        refine r_iload_n hC 1 dX0_endParts_29 (rfl : 29 + 1 = 30) rfl rfl ?_
        refine r_iald hC (t + 3) (la0_3 ty_8).1 (by rw [(la0_3 ty_8).2]; exact q_9) dX0_endParts_30 (rfl : 30 + 1 = 31) ?_
        refine r_bipush hC dX0_endParts_31 (rfl : 31 + 2 = 33) (v := 8) (by decide) ?_
        refine r_icmp_ne hC dX0_endParts_33 (rfl : 33 + 3 = 36) (tgt := 41) (by decide) (fun q => ?_) (fun q => ?_)
        · replace h := if_f h q
          exact (sX0_endParts_41 rfl hC hk (wX0_endParts_4  Q n) Q ih t x2 σ_10 h).sub [0, 1] rfl
        · replace h := if_t h q
          refine r_aload_n hC 0 dX0_endParts_36 (rfl : 36 + 1 = 37) rfl rfl ?_
          refine r_iload_n hC 1 dX0_endParts_37 (rfl : 37 + 1 = 38) rfl rfl ?_
          refine r_callVv hC cs_X0_70 ty_8 (by omega) (mX0_jumpBehindPart hC.2.2.2.2.2.2.2.2.1 (k := k - 1) (by omega) t x2 σ_10 _ h) rfl rfl (Nat.le_of_ble_eq_true rfl) dX0_endParts_38 (rfl : 38 + 3 = 41) (fun  σ_12 h => ?_)
          exact (sX0_endParts_41 rfl hC hk (wX0_endParts_4  Q n) Q ih t x2 σ_12 h).sub [0, 1] rfl
set_option maxHeartbeats 1000000 in
set_option maxRecDepth 100000 in
theorem mX0_endParts {G : Gx} {b k : Nat} {l : Launch} (hS : Sok YC G)  (hk : 2 ≤ k) (t : Nat) (x1 : Int32) (σ : Sg) (Q : Int32 → Sg → Prop) (h : wX0_endParts  t x1 σ Q) : Mi YC G b l yX0_endParts cX0_endParts 3 .int k [.ref (G.1 t), .int x1] σ Q := by
  refine enter hS (by decide +kernel) (Nat.le_of_ble_eq_true rfl) (lv := [(0, .ref (G.1 t)), (1, .int x1)]) rfl (fun K hl hC => ?_)
  subst hl
  unfold wX0_endParts at h
  show V YC G K (Zi YC G K Q) 3 σ 0 [(0, .ref (G.1 t)), (1, .int x1)] []
  refine r_iload_n hC 1 dX0_endParts_0 (rfl : 0 + 1 = 1) rfl rfl ?_
  refine r_iconst hC dX0_endParts_1 (rfl : 1 + 1 = 2) (v := 1) (by decide) ?_
  refine r_isub hC dX0_endParts_2 (rfl : 2 + 1 = 3) ?_
  obtain ⟨x2_13, e_14, h⟩ := lt_nm h
  refine r_istore_n hC dX0_endParts_3 (rfl : 3 + 1 = 4) rfl (by decide) e_14 (lv2 := [(2, .int x2_13), (0, .ref (G.1 t)), (1, .int x1)]) rfl ?_
  obtain ⟨nn, h⟩ := h
  exact (sX0_endParts_4 rfl hC hk  Q  nn t x2_13 σ h).sub [1, 0] rfl
