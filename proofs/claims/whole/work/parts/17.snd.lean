set_option maxHeartbeats 1000000 in
set_option maxRecDepth 100000 in
theorem sX1_unfoldNode_113 {G : Gx} {b k : Nat} {K : Kx} {l : Launch} (hl : K.2.1 = l) (hC : Cx YC G b K cX1_unfoldNode RX1 10 none k)  (hk : 4 ≤ k)  (Q : Sg → Prop)  (q1 : Nat) (x5 : Int32) (x6 : Int64) (x8 : Int64) (σ : Sg) (h : wX1_unfoldNode_113  q1 x5 x6 x8 σ Q) : V YC G K (Zv YC G K Q) 10 σ 113 [(0, .ref (G.1 1)), (1, .ref (G.1 q1)), (5, .int x5), (6, .long x6), (8, .long x8)] [] := by
  subst hl
  unfold wX1_unfoldNode_113 at h
  refine r_aload_n hC 1 dX1_unfoldNode_113 (rfl : 113 + 1 = 114) rfl rfl ?_
  refine r_bipush hC dX1_unfoldNode_114 (rfl : 114 + 2 = 116) (v := 8) (by decide) ?_
  refine r_iconst hC dX1_unfoldNode_116 (rfl : 116 + 1 = 117) (v := 0) (by decide) ?_
  obtain ⟨ty_1, h⟩ := h
  refine r_callVv hC cs_X1_67 ty_1 (by omega) (mX5_append hC.2.2.2.2.2.2.2.2.1 (k := k - 1) (by omega) q1 8 0 σ _ h) rfl rfl (Nat.le_of_ble_eq_true rfl) dX1_unfoldNode_117 (rfl : 117 + 3 = 120) (fun  σ_2 h => ?_)
  refine r_aload_n hC 0 dX1_unfoldNode_120 (rfl : 120 + 1 = 121) rfl rfl ?_
  refine r_iload hC 2 dX1_unfoldNode_121 (rfl : 121 + 2 = 123) rfl ?_
  refine r_lload hC 3 dX1_unfoldNode_123 (rfl : 123 + 2 = 125) rfl ?_
  refine r_ldc2 hC dX1_unfoldNode_125 (rfl : 125 + 3 = 128) wd_102 ?_
  refine r_lload hC 4 dX1_unfoldNode_128 (rfl : 128 + 2 = 130) rfl ?_
  refine r_lmul hC dX1_unfoldNode_130 (rfl : 130 + 1 = 131) ?_
  refine r_lsub hC dX1_unfoldNode_131 (rfl : 131 + 1 = 132) ?_
  refine r_callVv hC cs_X1_74 rfl (by omega) (mX1_deferThree hC.2.2.2.2.2.2.2.2.1 (k := k - 1) (by omega) x5 (x6 - (4 * x8)) σ_2 _ h) rfl rfl (Nat.le_of_ble_eq_true rfl) dX1_unfoldNode_132 (rfl : 132 + 3 = 135) (fun  σ_3 h => ?_)
  exact r_vret hC rfl h dX1_unfoldNode_135
set_option maxHeartbeats 1000000 in
set_option maxRecDepth 100000 in
theorem sX1_unfoldNode_67 {G : Gx} {b k : Nat} {K : Kx} {l : Launch} (hl : K.2.1 = l) (hC : Cx YC G b K cX1_unfoldNode RX1 10 none k)  (hk : 4 ≤ k)  (Q : Sg → Prop)  (q1 : Nat) (x5 : Int32) (x6 : Int64) (s0 : Int64) (σ : Sg) (h : wX1_unfoldNode_67  q1 x5 x6 s0 σ Q) : V YC G K (Zv YC G K Q) 10 σ 67 [(0, .ref (G.1 1)), (1, .ref (G.1 q1)), (5, .int x5), (6, .long x6)] [.long s0] := by
  subst hl
  unfold wX1_unfoldNode_67 at h
  refine r_lstore hC dX1_unfoldNode_67 (rfl : 67 + 2 = 69) (by decide) rfl (lv2 := [(8, .long s0), (0, .ref (G.1 1)), (1, .ref (G.1 q1)), (5, .int x5), (6, .long x6)]) rfl ?_
  refine r_lload hC 0 dX1_unfoldNode_69 (rfl : 69 + 2 = 71) rfl ?_
  refine r_lconst hC dX1_unfoldNode_71 (rfl : 71 + 1 = 72) (v := 0) (by decide) ?_
  refine r_lcmp hC dX1_unfoldNode_72 (rfl : 72 + 1 = 73) ?_
  refine r_if_le hC dX1_unfoldNode_73 (rfl : 73 + 3 = 76) (tgt := 113) (by decide) (fun q => ?_) (fun q => ?_)
  · replace h := if_t h ((lg_cmp_le _ _).1 q)
    exact (sX1_unfoldNode_113 rfl hC hk  Q  q1 x5 x6 s0 σ h).sub [1, 2, 3, 4, 0] rfl
  · replace h := if_f h (fun z => q ((lg_cmp_le _ _).2 z))
    refine r_lload hC 4 dX1_unfoldNode_76 (rfl : 76 + 2 = 78) rfl ?_
    refine r_ldc2 hC dX1_unfoldNode_78 (rfl : 78 + 3 = 81) wd_102 ?_
    refine r_lload hC 0 dX1_unfoldNode_81 (rfl : 81 + 2 = 83) rfl ?_
    refine r_lmul hC dX1_unfoldNode_83 (rfl : 83 + 1 = 84) ?_
    refine r_lcmp hC dX1_unfoldNode_84 (rfl : 84 + 1 = 85) ?_
    refine r_if_ge hC dX1_unfoldNode_85 (rfl : 85 + 3 = 88) (tgt := 113) (by decide) (fun q => ?_) (fun q => ?_)
    · replace h := if_t h ((lg_cmp_ge _ _).1 q)
      exact (sX1_unfoldNode_113 rfl hC hk  Q  q1 x5 x6 s0 σ h).sub [1, 2, 3, 4, 0] rfl
    · replace h := if_f h (fun z => q ((lg_cmp_ge _ _).2 z))
      refine r_aload_n hC 2 dX1_unfoldNode_88 (rfl : 88 + 1 = 89) rfl rfl ?_
      refine r_iconst hC dX1_unfoldNode_89 (rfl : 89 + 1 = 90) (v := 4) (by decide) ?_
      refine r_lload hC 4 dX1_unfoldNode_90 (rfl : 90 + 2 = 92) rfl ?_
      refine r_lload hC 0 dX1_unfoldNode_92 (rfl : 92 + 2 = 94) rfl ?_
      obtain ⟨q_4, h⟩ := h
      refine r_ldiv hC dX1_unfoldNode_94 (rfl : 94 + 1 = 95) q_4 ?_
      refine r_l2i hC dX1_unfoldNode_95 (rfl : 95 + 1 = 96) ?_
      refine r_iadd hC dX1_unfoldNode_96 (rfl : 96 + 1 = 97) ?_
      refine r_iconst hC dX1_unfoldNode_97 (rfl : 97 + 1 = 98) (v := 0) (by decide) ?_
      obtain ⟨ty_5, h⟩ := h
      refine r_callVv hC cs_X1_67 ty_5 (by omega) (mX5_append hC.2.2.2.2.2.2.2.2.1 (k := k - 1) (by omega) q1 (4 + (Int64.toInt32 (x6 / s0))) 0 σ _ h) rfl rfl (Nat.le_of_ble_eq_true rfl) dX1_unfoldNode_98 (rfl : 98 + 3 = 101) (fun  σ_6 h => ?_)
      refine r_aload_n hC 1 dX1_unfoldNode_101 (rfl : 101 + 1 = 102) rfl rfl ?_
      refine r_iload hC 3 dX1_unfoldNode_102 (rfl : 102 + 2 = 104) rfl ?_
      refine r_lload hC 4 dX1_unfoldNode_104 (rfl : 104 + 2 = 106) rfl ?_
      refine r_lload hC 0 dX1_unfoldNode_106 (rfl : 106 + 2 = 108) rfl ?_
      refine r_lrem hC dX1_unfoldNode_108 (rfl : 108 + 1 = 109) q_4 ?_
      refine r_callVv hC cs_X1_71 rfl (by omega) (mX1_deferTwo hC.2.2.2.2.2.2.2.2.1 (k := k - 1) (by omega) x5 (x6 - x6 / s0 * s0) σ_6 _ h) rfl rfl (Nat.le_of_ble_eq_true rfl) dX1_unfoldNode_109 (rfl : 109 + 3 = 112) (fun  σ_7 h => ?_)
      exact r_vret hC rfl h dX1_unfoldNode_112
set_option maxHeartbeats 1000000 in
set_option maxRecDepth 100000 in
theorem mX1_unfoldNode {G : Gx} {b k : Nat} {l : Launch} (hS : Sok YC G)  (hk : 4 ≤ k) (q1 : Nat) (x2 : Int32) (x3 : Int64) (σ : Sg) (Q : Sg → Prop) (h : wX1_unfoldNode  q1 x2 x3 σ Q) : Mv YC G b l yX1_unfoldNode cX1_unfoldNode 10 k [.ref (G.1 1), .ref (G.1 q1), .int x2, .long x3] σ Q := by
  refine enter hS (by decide +kernel) (Nat.le_of_ble_eq_true rfl) (lv := [(0, .ref (G.1 1)), (1, .ref (G.1 q1)), (2, .int x2), (3, .long x3)]) rfl (fun K hl hC => ?_)
  subst hl
  unfold wX1_unfoldNode at h
  show V YC G K (Zv YC G K Q) 10 σ 0 [(0, .ref (G.1 1)), (1, .ref (G.1 q1)), (2, .int x2), (3, .long x3)] []
  refine r_iload_n hC 2 dX1_unfoldNode_0 (rfl : 0 + 1 = 1) rfl rfl ?_
  refine r_iconst hC dX1_unfoldNode_1 (rfl : 1 + 1 = 2) (v := 2) (by decide) ?_
  refine r_icmp_ge hC dX1_unfoldNode_2 (rfl : 2 + 3 = 5) (tgt := 13) (by decide) (fun q => ?_) (fun q => ?_)
  · replace h := if_t h q
    refine r_iload_n hC 2 dX1_unfoldNode_13 (rfl : 13 + 1 = 14) rfl rfl ?_
    refine r_iconst hC dX1_unfoldNode_14 (rfl : 14 + 1 = 15) (v := 1) (by decide) ?_
    refine r_isub hC dX1_unfoldNode_15 (rfl : 15 + 1 = 16) ?_
    obtain ⟨x5_8, e_9, h⟩ := lt_nm h
    refine r_istore hC dX1_unfoldNode_16 (rfl : 16 + 2 = 18) (by decide) e_9 (lv2 := [(5, .int x5_8), (0, .ref (G.1 1)), (1, .ref (G.1 q1)), (2, .int x2), (3, .long x3)]) rfl ?_
    refine r_lload_n hC 4 dX1_unfoldNode_18 (rfl : 18 + 1 = 19) rfl rfl ?_
    refine r_aload_n hC 1 dX1_unfoldNode_19 (rfl : 19 + 1 = 20) rfl rfl ?_
    refine r_iload hC 0 dX1_unfoldNode_20 (rfl : 20 + 2 = 22) rfl ?_
    refine r_callVl hC cs_X1_63 rfl (by omega) (mX1_howMany hC.2.2.2.2.2.2.2.2.1 (k := k - 1) (by omega) x5_8 σ _ h) rfl rfl (Nat.le_of_ble_eq_true rfl) dX1_unfoldNode_22 (rfl : 22 + 3 = 25) (fun r_11 σ_10 h => ?_)
    refine r_lsub hC dX1_unfoldNode_25 (rfl : 25 + 1 = 26) ?_
    obtain ⟨x6_12, e_13, h⟩ := lt_nm h
    refine r_lstore hC dX1_unfoldNode_26 (rfl : 26 + 2 = 28) (by decide) e_13 (lv2 := [(6, .long x6_12), (5, .int x5_8), (0, .ref (G.1 1)), (1, .ref (G.1 q1)), (2, .int x2), (3, .long x3)]) rfl ?_
    refine r_lload hC 0 dX1_unfoldNode_28 (rfl : 28 + 2 = 30) rfl ?_
    refine r_lconst hC dX1_unfoldNode_30 (rfl : 30 + 1 = 31) (v := 0) (by decide) ?_
    refine r_lcmp hC dX1_unfoldNode_31 (rfl : 31 + 1 = 32) ?_
    refine r_if_ge hC dX1_unfoldNode_32 (rfl : 32 + 3 = 35) (tgt := 49) (by decide) (fun q => ?_) (fun q => ?_)
    · replace h := if_t h ((lg_cmp_ge _ _).1 q)
      refine r_iload hC 1 dX1_unfoldNode_49 (rfl : 49 + 2 = 51) rfl ?_
      refine r_bipush hC dX1_unfoldNode_51 (rfl : 51 + 2 = 53) (v := 15) (by decide) ?_
      refine r_icmp_gt hC dX1_unfoldNode_53 (rfl : 53 + 3 = 56) (tgt := 66) (by decide) (fun q => ?_) (fun q => ?_)
      · replace h := if_t h q
        refine r_lconst hC dX1_unfoldNode_66 (rfl : 66 + 1 = 67) (v := 0) (by decide) ?_
        exact (sX1_unfoldNode_67 rfl hC hk  Q  q1 x5_8 x6_12 0 σ_10 h).sub [2, 3, 1, 0] rfl
      · replace h := if_f h q
        refine r_aload_n hC 2 dX1_unfoldNode_56 (rfl : 56 + 1 = 57) rfl rfl ?_
        refine r_getr hC 1 1 1 3 (o := 2) fw_X1_15 rfl rfl dX1_unfoldNode_57 (rfl : 57 + 3 = 60) ?_
        refine r_iload hC 1 dX1_unfoldNode_60 (rfl : 60 + 2 = 62) rfl ?_
        obtain ⟨q_14, h⟩ := h
        refine r_lald hC 3 rfl q_14 dX1_unfoldNode_62 (rfl : 62 + 1 = 63) ?_
        refine r_goto hC dX1_unfoldNode_63 (tgt := 67) (by decide) ?_
        exact (sX1_unfoldNode_67 rfl hC hk  Q  q1 x5_8 x6_12 (σ_10.2.1 3 (Int32.toNatClampNeg x5_8)) σ_10 h).sub [2, 3, 1, 0] rfl
    · replace h := if_f h (fun z => q ((lg_cmp_ge _ _).2 z))
      refine r_aload_n hC 3 dX1_unfoldNode_35 (rfl : 35 + 1 = 36) rfl rfl ?_
      refine r_iconst hC dX1_unfoldNode_36 (rfl : 36 + 1 = 37) (v := 3) (by decide) ?_
      refine r_iconst hC dX1_unfoldNode_37 (rfl : 37 + 1 = 38) (v := 0) (by decide) ?_
      obtain ⟨ty_15, h⟩ := h
      refine r_callVv hC cs_X1_67 ty_15 (by omega) (mX5_append hC.2.2.2.2.2.2.2.2.1 (k := k - 1) (by omega) q1 3 0 σ_10 _ h) rfl rfl (Nat.le_of_ble_eq_true rfl) dX1_unfoldNode_38 (rfl : 38 + 3 = 41) (fun  σ_16 h => ?_)
      refine r_aload_n hC 2 dX1_unfoldNode_41 (rfl : 41 + 1 = 42) rfl rfl ?_
      refine r_iload hC 1 dX1_unfoldNode_42 (rfl : 42 + 2 = 44) rfl ?_
      refine r_lload_n hC 5 dX1_unfoldNode_44 (rfl : 44 + 1 = 45) rfl rfl ?_
      refine r_callVv hC cs_X1_48 rfl (by omega) (mX1_defer hC.2.2.2.2.2.2.2.2.1 (k := k - 1) (by omega) x5_8 x3 σ_16 _ h) rfl rfl (Nat.le_of_ble_eq_true rfl) dX1_unfoldNode_45 (rfl : 45 + 3 = 48) (fun  σ_17 h => ?_)
      exact r_vret hC rfl h dX1_unfoldNode_48
  · replace h := if_f h q
    refine r_aload_n hC 0 dX1_unfoldNode_5 (rfl : 5 + 1 = 6) rfl rfl ?_
    refine r_aload_n hC 1 dX1_unfoldNode_6 (rfl : 6 + 1 = 7) rfl rfl ?_
    refine r_lload_n hC 3 dX1_unfoldNode_7 (rfl : 7 + 1 = 8) rfl rfl ?_
    refine r_l2i hC dX1_unfoldNode_8 (rfl : 8 + 1 = 9) ?_
    refine r_callVv hC cs_X1_59 rfl (by omega) (mX1_unfoldLeaf hC.2.2.2.2.2.2.2.2.1 (k := k - 1) (by omega) q1 (Int64.toInt32 x3) σ _ h) rfl rfl (Nat.le_of_ble_eq_true rfl) dX1_unfoldNode_9 (rfl : 9 + 3 = 12) (fun  σ_18 h => ?_)
    exact r_vret hC rfl h dX1_unfoldNode_12
set_option maxHeartbeats 1000000 in
set_option maxRecDepth 100000 in
theorem sX1_rankOfNode_78 {G : Gx} {b k : Nat} {K : Kx} {l : Launch} (hl : K.2.1 = l) (hC : Cx YC G b K cX1_rankOfNode RX1 7 (some .long) k)  (hk : 4 ≤ k)  (Q : Int64 → Sg → Prop)  (q1 : Nat) (x2 : Int32) (x3 : Int32) (x4 : Int32) (s0 : Int64) (σ : Sg) (h : wX1_rankOfNode_78  q1 x2 x3 x4 s0 σ Q) : V YC G K (Zl YC G K Q) 7 σ 78 [(0, .ref (G.1 1)), (1, .ref (G.1 q1)), (2, .int x2), (3, .int x3), (4, .int x4)] [.long s0] := by
  subst hl
  unfold wX1_rankOfNode_78 at h
  refine r_lstore hC dX1_rankOfNode_78 (rfl : 78 + 2 = 80) (by decide) rfl (lv2 := [(5, .long s0), (0, .ref (G.1 1)), (1, .ref (G.1 q1)), (2, .int x2), (3, .int x3), (4, .int x4)]) rfl ?_
  refine r_iload_n hC 4 dX1_rankOfNode_80 (rfl : 80 + 1 = 81) rfl rfl ?_
  refine r_bipush hC dX1_rankOfNode_81 (rfl : 81 + 2 = 83) (v := 8) (by decide) ?_
  refine r_icmp_ne hC dX1_rankOfNode_83 (rfl : 83 + 3 = 86) (tgt := 111) (by decide) (fun q => ?_) (fun q => ?_)
  · replace h := if_f h q
    refine r_aload_n hC 1 dX1_rankOfNode_111 (rfl : 111 + 1 = 112) rfl rfl ?_
    refine r_iload hC 5 dX1_rankOfNode_112 (rfl : 112 + 2 = 114) rfl ?_
    refine r_callVl hC cs_X1_63 rfl (by omega) (mX1_howMany hC.2.2.2.2.2.2.2.2.1 (k := k - 1) (by omega) x4 σ _ h) rfl rfl (Nat.le_of_ble_eq_true rfl) dX1_rankOfNode_114 (rfl : 114 + 3 = 117) (fun r_2 σ_1 h => ?_)
    refine r_iload_n hC 4 dX1_rankOfNode_117 (rfl : 117 + 1 = 118) rfl rfl ?_
    refine r_iconst hC dX1_rankOfNode_118 (rfl : 118 + 1 = 119) (v := 4) (by decide) ?_
    refine r_isub hC dX1_rankOfNode_119 (rfl : 119 + 1 = 120) ?_
    refine r_i2l hC dX1_rankOfNode_120 (rfl : 120 + 1 = 121) ?_
    refine r_lload hC 0 dX1_rankOfNode_121 (rfl : 121 + 2 = 123) rfl ?_
    refine r_lmul hC dX1_rankOfNode_123 (rfl : 123 + 1 = 124) ?_
    refine r_ladd hC dX1_rankOfNode_124 (rfl : 124 + 1 = 125) ?_
    refine r_aload_n hC 1 dX1_rankOfNode_125 (rfl : 125 + 1 = 126) rfl rfl ?_
    refine r_aload_n hC 2 dX1_rankOfNode_126 (rfl : 126 + 1 = 127) rfl rfl ?_
    refine r_iload_n hC 3 dX1_rankOfNode_127 (rfl : 127 + 1 = 128) rfl rfl ?_
    refine r_iconst hC dX1_rankOfNode_128 (rfl : 128 + 1 = 129) (v := 1) (by decide) ?_
    refine r_iadd hC dX1_rankOfNode_129 (rfl : 129 + 1 = 130) ?_
    refine r_callVl hC cs_X1_107 rfl (by omega) (mX1_rankOfTwo hC.2.2.2.2.2.2.2.2.1 (k := k - 1) (by omega) q1 (x2 + 1) σ_1 _ h) rfl rfl (Nat.le_of_ble_eq_true rfl) dX1_rankOfNode_130 (rfl : 130 + 3 = 133) (fun r_4 σ_3 h => ?_)
    refine r_ladd hC dX1_rankOfNode_133 (rfl : 133 + 1 = 134) ?_
    exact r_lret hC rfl h dX1_rankOfNode_134
  · replace h := if_t h q
    refine r_aload_n hC 1 dX1_rankOfNode_86 (rfl : 86 + 1 = 87) rfl rfl ?_
    refine r_iload hC 5 dX1_rankOfNode_87 (rfl : 87 + 2 = 89) rfl ?_
    refine r_callVl hC cs_X1_63 rfl (by omega) (mX1_howMany hC.2.2.2.2.2.2.2.2.1 (k := k - 1) (by omega) x4 σ _ h) rfl rfl (Nat.le_of_ble_eq_true rfl) dX1_rankOfNode_89 (rfl : 89 + 3 = 92) (fun r_6 σ_5 h => ?_)
    refine r_ldc2 hC dX1_rankOfNode_92 (rfl : 92 + 3 = 95) wd_102 ?_
    refine r_lload hC 0 dX1_rankOfNode_95 (rfl : 95 + 2 = 97) rfl ?_
    refine r_lmul hC dX1_rankOfNode_97 (rfl : 97 + 1 = 98) ?_
    refine r_ladd hC dX1_rankOfNode_98 (rfl : 98 + 1 = 99) ?_
    refine r_aload_n hC 1 dX1_rankOfNode_99 (rfl : 99 + 1 = 100) rfl rfl ?_
    refine r_aload_n hC 2 dX1_rankOfNode_100 (rfl : 100 + 1 = 101) rfl rfl ?_
    refine r_iload_n hC 3 dX1_rankOfNode_101 (rfl : 101 + 1 = 102) rfl rfl ?_
    refine r_iconst hC dX1_rankOfNode_102 (rfl : 102 + 1 = 103) (v := 1) (by decide) ?_
    refine r_iadd hC dX1_rankOfNode_103 (rfl : 103 + 1 = 104) ?_
    refine r_iload hC 5 dX1_rankOfNode_104 (rfl : 104 + 2 = 106) rfl ?_
    refine r_callVl hC cs_X1_103 rfl (by omega) (mX1_rankOfThree hC.2.2.2.2.2.2.2.2.1 (k := k - 1) (by omega) q1 (x2 + 1) x4 σ_5 _ h) rfl rfl (Nat.le_of_ble_eq_true rfl) dX1_rankOfNode_106 (rfl : 106 + 3 = 109) (fun r_8 σ_7 h => ?_)
    refine r_ladd hC dX1_rankOfNode_109 (rfl : 109 + 1 = 110) ?_
    exact r_lret hC rfl h dX1_rankOfNode_110
set_option maxHeartbeats 1000000 in
set_option maxRecDepth 100000 in
theorem sX1_rankOfNode_36 {G : Gx} {b k : Nat} {K : Kx} {l : Launch} (hl : K.2.1 = l) (hC : Cx YC G b K cX1_rankOfNode RX1 7 (some .long) k)  (hk : 4 ≤ k)  (Q : Int64 → Sg → Prop)  (x3 : Int32) (σ : Sg) (h : wX1_rankOfNode_36  x3 σ Q) : V YC G K (Zl YC G K Q) 7 σ 36 [(3, .int x3)] [] := by
  subst hl
  unfold wX1_rankOfNode_36 at h
  refine r_iconst hC dX1_rankOfNode_36 (rfl : 36 + 1 = 37) (v := 3) (by decide) ?_
  refine r_iload_n hC 0 dX1_rankOfNode_37 (rfl : 37 + 1 = 38) rfl rfl ?_
  refine r_iadd hC dX1_rankOfNode_38 (rfl : 38 + 1 = 39) ?_
  refine r_iconst hC dX1_rankOfNode_39 (rfl : 39 + 1 = 40) (v := 1) (by decide) ?_
  refine r_isub hC dX1_rankOfNode_40 (rfl : 40 + 1 = 41) ?_
  refine r_i2l hC dX1_rankOfNode_41 (rfl : 41 + 1 = 42) ?_
  exact r_lret hC rfl h dX1_rankOfNode_42
set_option maxHeartbeats 1000000 in
set_option maxRecDepth 100000 in
theorem mX1_rankOfNode {G : Gx} {b k : Nat} {l : Launch} (hS : Sok YC G)  (hk : 4 ≤ k) (q1 : Nat) (x2 : Int32) (σ : Sg) (Q : Int64 → Sg → Prop) (h : wX1_rankOfNode  q1 x2 σ Q) : Ml YC G b l yX1_rankOfNode cX1_rankOfNode 7 k [.ref (G.1 1), .ref (G.1 q1), .int x2] σ Q := by
  refine enter hS (by decide +kernel) (Nat.le_of_ble_eq_true rfl) (lv := [(0, .ref (G.1 1)), (1, .ref (G.1 q1)), (2, .int x2)]) rfl (fun K hl hC => ?_)
  subst hl
  unfold wX1_rankOfNode at h
  show V YC G K (Zl YC G K Q) 7 σ 0 [(0, .ref (G.1 1)), (1, .ref (G.1 q1)), (2, .int x2)] []
  refine r_aload_n hC 1 dX1_rankOfNode_0 (rfl : 0 + 1 = 1) rfl rfl ?_
  refine r_iload_n hC 2 dX1_rankOfNode_1 (rfl : 1 + 1 = 2) rfl rfl ?_
  obtain ⟨ty_9, h⟩ := h
  refine r_callVi hC cs_X1_80 ty_9 (by omega) (mX5_kindOf hC.2.2.2.2.2.2.2.2.1 (k := k - 1) (by omega) q1 x2 σ _ h) rfl rfl (Nat.le_of_ble_eq_true rfl) dX1_rankOfNode_2 (rfl : 2 + 3 = 5) (fun r_11 σ_10 h => ?_)
  refine r_istore_n hC dX1_rankOfNode_5 (rfl : 5 + 1 = 6) rfl (by decide) rfl (lv2 := [(3, .int r_11), (0, .ref (G.1 1)), (1, .ref (G.1 q1)), (2, .int x2)]) rfl ?_
  refine r_aload_n hC 2 dX1_rankOfNode_6 (rfl : 6 + 1 = 7) rfl rfl ?_
  refine r_iload_n hC 3 dX1_rankOfNode_7 (rfl : 7 + 1 = 8) rfl rfl ?_
  refine r_callVi hC cs_X1_97 ty_9 (by omega) (mX5_sizeOf hC.2.2.2.2.2.2.2.2.1 (k := k - 1) (by omega) q1 x2 σ_10 _ h) rfl rfl (Nat.le_of_ble_eq_true rfl) dX1_rankOfNode_8 (rfl : 8 + 3 = 11) (fun r_13 σ_12 h => ?_)
  refine r_iconst hC dX1_rankOfNode_11 (rfl : 11 + 1 = 12) (v := 1) (by decide) ?_
  refine r_isub hC dX1_rankOfNode_12 (rfl : 12 + 1 = 13) ?_
  obtain ⟨x4_14, e_15, h⟩ := lt_nm h
  refine r_istore hC dX1_rankOfNode_13 (rfl : 13 + 2 = 15) (by decide) e_15 (lv2 := [(4, .int x4_14), (3, .int r_11), (0, .ref (G.1 1)), (1, .ref (G.1 q1)), (2, .int x2)]) rfl ?_
  refine r_iload_n hC 1 dX1_rankOfNode_15 (rfl : 15 + 1 = 16) rfl rfl ?_
  refine r_if_ne hC dX1_rankOfNode_16 (rfl : 16 + 3 = 19) (tgt := 26) (by decide) (fun q => ?_) (fun q => ?_)
  · replace h := if_f h q
    refine r_iload_n hC 1 dX1_rankOfNode_26 (rfl : 26 + 1 = 27) rfl rfl ?_
    refine r_iconst hC dX1_rankOfNode_27 (rfl : 27 + 1 = 28) (v := 1) (by decide) ?_
    refine r_icmp_eq hC dX1_rankOfNode_28 (rfl : 28 + 3 = 31) (tgt := 36) (by decide) (fun q => ?_) (fun q => ?_)
    · replace h := if_t h q
      exact (sX1_rankOfNode_36 rfl hC hk  Q  r_11 σ_12 h).sub [1] rfl
    · replace h := if_f h q
      refine r_iload_n hC 1 dX1_rankOfNode_31 (rfl : 31 + 1 = 32) rfl rfl ?_
      refine r_iconst hC dX1_rankOfNode_32 (rfl : 32 + 1 = 33) (v := 2) (by decide) ?_
      refine r_icmp_ne hC dX1_rankOfNode_33 (rfl : 33 + 3 = 36) (tgt := 43) (by decide) (fun q => ?_) (fun q => ?_)
      · replace h := if_f h q
        refine r_iload_n hC 1 dX1_rankOfNode_43 (rfl : 43 + 1 = 44) rfl rfl ?_
        refine r_iconst hC dX1_rankOfNode_44 (rfl : 44 + 1 = 45) (v := 3) (by decide) ?_
        refine r_icmp_ne hC dX1_rankOfNode_45 (rfl : 45 + 3 = 48) (tgt := 56) (by decide) (fun q => ?_) (fun q => ?_)
        · replace h := if_f h q
          refine r_iload hC 0 dX1_rankOfNode_56 (rfl : 56 + 2 = 58) rfl ?_
          refine r_iconst hC dX1_rankOfNode_58 (rfl : 58 + 1 = 59) (v := 0) (by decide) ?_
          refine r_bipush hC dX1_rankOfNode_59 (rfl : 59 + 2 = 61) (v := 15) (by decide) ?_
          refine r_callSi hC cs_X1_39 (by omega) (mX7_within hC.2.2.2.2.2.2.2.2.1 (k := k - 1) (by omega) x4_14 0 15 σ_12 _ h) rfl rfl (Nat.le_of_ble_eq_true rfl) dX1_rankOfNode_61 (rfl : 61 + 3 = 64) (fun r_17 σ_16 h => ?_)
          refine r_if_eq hC dX1_rankOfNode_64 (rfl : 64 + 3 = 67) (tgt := 77) (by decide) (fun q => ?_) (fun q => ?_)
          · replace h := if_t h q
            refine r_lconst hC dX1_rankOfNode_77 (rfl : 77 + 1 = 78) (v := 0) (by decide) ?_
            exact (sX1_rankOfNode_78 rfl hC hk  Q  q1 x2 r_11 x4_14 0 σ_16 h).sub [2, 3, 4, 1, 0] rfl
          · replace h := if_f h q
            refine r_aload_n hC 2 dX1_rankOfNode_67 (rfl : 67 + 1 = 68) rfl rfl ?_
            refine r_getr hC 1 1 1 3 (o := 2) fw_X1_15 rfl rfl dX1_rankOfNode_68 (rfl : 68 + 3 = 71) ?_
            refine r_iload hC 0 dX1_rankOfNode_71 (rfl : 71 + 2 = 73) rfl ?_
            obtain ⟨q_18, h⟩ := h
            refine r_lald hC 3 rfl q_18 dX1_rankOfNode_73 (rfl : 73 + 1 = 74) ?_
            refine r_goto hC dX1_rankOfNode_74 (tgt := 78) (by decide) ?_
            exact (sX1_rankOfNode_78 rfl hC hk  Q  q1 x2 r_11 x4_14 (σ_16.2.1 3 (Int32.toNatClampNeg x4_14)) σ_16 h).sub [2, 3, 4, 1, 0] rfl
        · replace h := if_t h q
          refine r_aload_n hC 2 dX1_rankOfNode_48 (rfl : 48 + 1 = 49) rfl rfl ?_
          refine r_iload_n hC 4 dX1_rankOfNode_49 (rfl : 49 + 1 = 50) rfl rfl ?_
          refine r_iconst hC dX1_rankOfNode_50 (rfl : 50 + 1 = 51) (v := 1) (by decide) ?_
          refine r_iadd hC dX1_rankOfNode_51 (rfl : 51 + 1 = 52) ?_
          refine r_callVl hC cs_X1_100 rfl (by omega) (mX1_rankAt hC.2.2.2.2.2.2.2.2.1 (k := k - 1) (by omega) (x2 + 1) σ_12 _ h) rfl rfl (Nat.le_of_ble_eq_true rfl) dX1_rankOfNode_52 (rfl : 52 + 3 = 55) (fun r_20 σ_19 h => ?_)
          exact r_lret hC rfl h dX1_rankOfNode_55
      · replace h := if_t h q
        exact (sX1_rankOfNode_36 rfl hC hk  Q  r_11 σ_12 h).sub [1] rfl
  · replace h := if_t h q
    refine r_aload_n hC 3 dX1_rankOfNode_19 (rfl : 19 + 1 = 20) rfl rfl ?_
    refine r_iload_n hC 4 dX1_rankOfNode_20 (rfl : 20 + 1 = 21) rfl rfl ?_
    refine r_callVi hC cs_X1_84 ty_9 (by omega) (mX5_numberOf hC.2.2.2.2.2.2.2.2.1 (k := k - 1) (by omega) q1 x2 σ_12 _ h) rfl rfl (Nat.le_of_ble_eq_true rfl) dX1_rankOfNode_21 (rfl : 21 + 3 = 24) (fun r_22 σ_21 h => ?_)
    refine r_i2l hC dX1_rankOfNode_24 (rfl : 24 + 1 = 25) ?_
    exact r_lret hC rfl h dX1_rankOfNode_25
set_option maxHeartbeats 1000000 in
set_option maxRecDepth 100000 in
theorem sX4_zero_154 {G : Gx} {b k : Nat} {K : Kx} {l : Launch} (hl : K.2.1 = l) (hC : Cx YC G b K cX4_zero RX4 6 (some .boolean) k)  (hk : 2 ≤ k)  (Q : Int32 → Sg → Prop)  (q0 : Nat) (x1 : Int32) (x5 : Int32) (σ : Sg) (h : wX4_zero_154  q0 x1 x5 σ Q) : V YC G K (Zi YC G K Q) 6 σ 154 [(0, .ref (G.1 q0)), (1, .int x1), (5, .int x5)] [] := by
  subst hl
  unfold wX4_zero_154 at h
  refine r_iload hC 2 dX4_zero_154 (rfl : 154 + 2 = 156) rfl ?_
  refine r_if_ge hC dX4_zero_156 (rfl : 156 + 3 = 159) (tgt := 161) (by decide) (fun q => ?_) (fun q => ?_)
  · replace h := if_t h q
    refine r_aload_n hC 0 dX4_zero_161 (rfl : 161 + 1 = 162) rfl rfl ?_
    refine r_iload_n hC 1 dX4_zero_162 (rfl : 162 + 1 = 163) rfl rfl ?_
    refine r_iload hC 2 dX4_zero_163 (rfl : 163 + 2 = 165) rfl ?_
    obtain ⟨ty_1, h⟩ := h
    refine r_callVv hC cs_X4_62 ty_1 (by omega) (mX5_endAsPart hC.2.2.2.2.2.2.2.2.1 (k := k - 1) (by omega) q0 x1 x5 σ _ h) rfl rfl (Nat.le_of_ble_eq_true rfl) dX4_zero_165 (rfl : 165 + 3 = 168) (fun  σ_2 h => ?_)
    refine r_iconst hC dX4_zero_168 (rfl : 168 + 1 = 169) (v := 1) (by decide) ?_
    exact r_zret hC rfl (by decide) h dX4_zero_169
  · replace h := if_f h q
    refine r_iconst hC dX4_zero_159 (rfl : 159 + 1 = 160) (v := 0) (by decide) ?_
    exact r_zret hC rfl (by decide) h dX4_zero_160
set_option maxHeartbeats 1000000 in
set_option maxRecDepth 100000 in
theorem sX4_zero_149 {G : Gx} {b k : Nat} {K : Kx} {l : Launch} (hl : K.2.1 = l) (hC : Cx YC G b K cX4_zero RX4 6 (some .boolean) k)  (hk : 2 ≤ k)  (Q : Int32 → Sg → Prop)  (q0 : Nat) (x1 : Int32) (s0 : Int32) (σ : Sg) (h : wX4_zero_149  q0 x1 s0 σ Q) : V YC G K (Zi YC G K Q) 6 σ 149 [(0, .ref (G.1 q0)), (1, .int x1)] [.int s0] := by
  subst hl
  unfold wX4_zero_149 at h
  refine r_istore hC dX4_zero_149 (rfl : 149 + 2 = 151) (by decide) rfl (lv2 := [(5, .int s0), (0, .ref (G.1 q0)), (1, .int x1)]) rfl ?_
  refine r_goto hC dX4_zero_151 (tgt := 154) (by decide) ?_
  exact (sX4_zero_154 rfl hC hk  Q  q0 x1 s0 σ h).sub [1, 2, 0] rfl
set_option maxHeartbeats 1000000 in
set_option maxRecDepth 100000 in
theorem sX4_zero_116 {G : Gx} {b k : Nat} {K : Kx} {l : Launch} (hl : K.2.1 = l) (hC : Cx YC G b K cX4_zero RX4 6 (some .boolean) k)  (hk : 2 ≤ k)  (Q : Int32 → Sg → Prop)  (q0 : Nat) (x1 : Int32) (s0 : Int32) (σ : Sg) (h : wX4_zero_116  q0 x1 s0 σ Q) : V YC G K (Zi YC G K Q) 6 σ 116 [(0, .ref (G.1 q0)), (1, .int x1)] [.int s0] := by
  subst hl
  unfold wX4_zero_116 at h
  refine r_istore hC dX4_zero_116 (rfl : 116 + 2 = 118) (by decide) rfl (lv2 := [(5, .int s0), (0, .ref (G.1 q0)), (1, .int x1)]) rfl ?_
  refine r_goto hC dX4_zero_118 (tgt := 154) (by decide) ?_
  exact (sX4_zero_154 rfl hC hk  Q  q0 x1 s0 σ h).sub [1, 2, 0] rfl
set_option maxHeartbeats 1000000 in
set_option maxRecDepth 100000 in
theorem sX4_zero_115 {G : Gx} {b k : Nat} {K : Kx} {l : Launch} (hl : K.2.1 = l) (hC : Cx YC G b K cX4_zero RX4 6 (some .boolean) k)  (hk : 2 ≤ k)  (Q : Int32 → Sg → Prop)  (q0 : Nat) (x1 : Int32) (σ : Sg) (h : wX4_zero_115  q0 x1 σ Q) : V YC G K (Zi YC G K Q) 6 σ 115 [(0, .ref (G.1 q0)), (1, .int x1)] [] := by
  subst hl
  unfold wX4_zero_115 at h
  refine r_iconst hC dX4_zero_115 (rfl : 115 + 1 = 116) (v := -1) (by decide) ?_
  exact (sX4_zero_116 rfl hC hk  Q  q0 x1 (-1) σ h).sub [0, 1] rfl
set_option maxHeartbeats 1000000 in
set_option maxRecDepth 100000 in
theorem sX4_zero_77 {G : Gx} {b k : Nat} {K : Kx} {l : Launch} (hl : K.2.1 = l) (hC : Cx YC G b K cX4_zero RX4 6 (some .boolean) k)  (hk : 2 ≤ k)  (Q : Int32 → Sg → Prop)  (q0 : Nat) (x1 : Int32) (s0 : Int32) (σ : Sg) (h : wX4_zero_77  q0 x1 s0 σ Q) : V YC G K (Zi YC G K Q) 6 σ 77 [(0, .ref (G.1 q0)), (1, .int x1)] [.int s0] := by
  subst hl
  unfold wX4_zero_77 at h
  refine r_istore hC dX4_zero_77 (rfl : 77 + 2 = 79) (by decide) rfl (lv2 := [(5, .int s0), (0, .ref (G.1 q0)), (1, .int x1)]) rfl ?_
  refine r_goto hC dX4_zero_79 (tgt := 154) (by decide) ?_
  exact (sX4_zero_154 rfl hC hk  Q  q0 x1 s0 σ h).sub [1, 2, 0] rfl
set_option maxHeartbeats 1000000 in
set_option maxRecDepth 100000 in
theorem mX4_zero {G : Gx} {b k : Nat} {l : Launch} (hS : Sok YC G)  (hk : 2 ≤ k) (q0 : Nat) (x1 : Int32) (x2 : Int32) (σ : Sg) (Q : Int32 → Sg → Prop) (h : wX4_zero  q0 x1 x2 σ Q) : Mi YC G b l yX4_zero cX4_zero 6 .boolean k [.ref (G.1 q0), .int x1, .int x2] σ Q := by
  refine enter hS (by decide +kernel) (Nat.le_of_ble_eq_true rfl) (lv := [(0, .ref (G.1 q0)), (1, .int x1), (2, .int x2)]) rfl (fun K hl hC => ?_)
  subst hl
  unfold wX4_zero at h
  show V YC G K (Zi YC G K Q) 6 σ 0 [(0, .ref (G.1 q0)), (1, .int x1), (2, .int x2)] []
  refine r_iload_n hC 1 dX4_zero_0 (rfl : 0 + 1 = 1) rfl rfl ?_
  refine r_iconst hC dX4_zero_1 (rfl : 1 + 1 = 2) (v := 1) (by decide) ?_
  refine r_iadd hC dX4_zero_2 (rfl : 2 + 1 = 3) ?_
  obtain ⟨x3_3, e_4, h⟩ := lt_nm h
  refine r_istore_n hC dX4_zero_3 (rfl : 3 + 1 = 4) rfl (by decide) e_4 (lv2 := [(3, .int x3_3), (0, .ref (G.1 q0)), (1, .int x1), (2, .int x2)]) rfl ?_
  refine r_aload_n hC 1 dX4_zero_4 (rfl : 4 + 1 = 5) rfl rfl ?_
  refine r_iload_n hC 0 dX4_zero_5 (rfl : 5 + 1 = 6) rfl rfl ?_
  obtain ⟨ty_5, h⟩ := h
  refine r_callVi hC cs_X4_47 ty_5 (by omega) (mX5_behind hC.2.2.2.2.2.2.2.2.1 (k := k - 1) (by omega) q0 x3_3 σ _ h) rfl rfl (Nat.le_of_ble_eq_true rfl) dX4_zero_6 (rfl : 6 + 3 = 9) (fun r_7 σ_6 h => ?_)
  refine r_istore hC dX4_zero_9 (rfl : 9 + 2 = 11) (by decide) rfl (lv2 := [(4, .int r_7), (3, .int x3_3), (0, .ref (G.1 q0)), (1, .int x1), (2, .int x2)]) rfl ?_
  refine r_iconst hC dX4_zero_11 (rfl : 11 + 1 = 12) (v := -1) (by decide) ?_
  refine r_istore hC dX4_zero_12 (rfl : 12 + 2 = 14) (by decide) rfl (lv2 := [(5, .int (-1)), (4, .int r_7), (3, .int x3_3), (0, .ref (G.1 q0)), (1, .int x1), (2, .int x2)]) rfl ?_
  refine r_aload_n hC 3 dX4_zero_14 (rfl : 14 + 1 = 15) rfl rfl ?_
  refine r_iload_n hC 4 dX4_zero_15 (rfl : 15 + 1 = 16) rfl rfl ?_
  refine r_callVi hC cs_X4_34 ty_5 (by omega) (mX5_kindOf hC.2.2.2.2.2.2.2.2.1 (k := k - 1) (by omega) q0 x1 σ_6 _ h) rfl rfl (Nat.le_of_ble_eq_true rfl) dX4_zero_16 (rfl : 16 + 3 = 19) (fun r_9 σ_8 h => ?_)
  by_cases sw4 : r_9 = 4
  · replace h := if_t h sw4
    refine r_swIn hC dX4_zero_19 (tgt := 48) (by rw [sw4]; decide) (by rw [sw4]; decide) (by rw [sw4]; rfl) (by decide) ?_
    refine r_aload_n hC 3 dX4_zero_48 (rfl : 48 + 1 = 49) rfl rfl ?_
    refine r_iload hC 1 dX4_zero_49 (rfl : 49 + 2 = 51) rfl ?_
    refine r_iconst hC dX4_zero_51 (rfl : 51 + 1 = 52) (v := 0) (by decide) ?_
    refine r_callVi hC cs_X4_54 ty_5 (by omega) (mX5_isNumber hC.2.2.2.2.2.2.2.2.1 (k := k - 1) (by omega) q0 r_7 0 σ_8 _ h) rfl rfl (Nat.le_of_ble_eq_true rfl) dX4_zero_52 (rfl : 52 + 3 = 55) (fun r_11 σ_10 h => ?_)
    refine r_if_eq hC dX4_zero_55 (rfl : 55 + 3 = 58) (tgt := 62) (by decide) (fun q => ?_) (fun q => ?_)
    · replace h := if_t h q
      refine r_aload_n hC 3 dX4_zero_62 (rfl : 62 + 1 = 63) rfl rfl ?_
      refine r_iload_n hC 2 dX4_zero_63 (rfl : 63 + 1 = 64) rfl rfl ?_
      refine r_iconst hC dX4_zero_64 (rfl : 64 + 1 = 65) (v := 0) (by decide) ?_
      refine r_callVi hC cs_X4_54 ty_5 (by omega) (mX5_isNumber hC.2.2.2.2.2.2.2.2.1 (k := k - 1) (by omega) q0 x3_3 0 σ_10 _ h) rfl rfl (Nat.le_of_ble_eq_true rfl) dX4_zero_65 (rfl : 65 + 3 = 68) (fun r_13 σ_12 h => ?_)
      refine r_if_eq hC dX4_zero_68 (rfl : 68 + 3 = 71) (tgt := 76) (by decide) (fun q => ?_) (fun q => ?_)
      · replace h := if_t h q
        refine r_iconst hC dX4_zero_76 (rfl : 76 + 1 = 77) (v := -1) (by decide) ?_
        exact (sX4_zero_77 rfl hC hk  Q  q0 x1 (-1) σ_12 h).sub [3, 4] rfl
      · replace h := if_f h q
        refine r_iload hC 1 dX4_zero_71 (rfl : 71 + 2 = 73) rfl ?_
        refine r_goto hC dX4_zero_73 (tgt := 77) (by decide) ?_
        exact (sX4_zero_77 rfl hC hk  Q  q0 x1 r_7 σ_12 h).sub [3, 4] rfl
    · replace h := if_f h q
      refine r_iload_n hC 2 dX4_zero_58 (rfl : 58 + 1 = 59) rfl rfl ?_
      refine r_goto hC dX4_zero_59 (tgt := 77) (by decide) ?_
      exact (sX4_zero_77 rfl hC hk  Q  q0 x1 x3_3 σ_10 h).sub [3, 4] rfl
  replace h := if_f h sw4
  by_cases sw5 : r_9 = 5
  · replace h := if_t h sw5
    refine r_swIn hC dX4_zero_19 (tgt := 82) (by rw [sw5]; decide) (by rw [sw5]; decide) (by rw [sw5]; rfl) (by decide) ?_
    refine r_aload_n hC 3 dX4_zero_82 (rfl : 82 + 1 = 83) rfl rfl ?_
    refine r_iload hC 1 dX4_zero_83 (rfl : 83 + 2 = 85) rfl ?_
    refine r_iconst hC dX4_zero_85 (rfl : 85 + 1 = 86) (v := 0) (by decide) ?_
    refine r_callVi hC cs_X4_54 ty_5 (by omega) (mX5_isNumber hC.2.2.2.2.2.2.2.2.1 (k := k - 1) (by omega) q0 r_7 0 σ_8 _ h) rfl rfl (Nat.le_of_ble_eq_true rfl) dX4_zero_86 (rfl : 86 + 3 = 89) (fun r_15 σ_14 h => ?_)
    refine r_if_eq hC dX4_zero_89 (rfl : 89 + 3 = 92) (tgt := 96) (by decide) (fun q => ?_) (fun q => ?_)
    · replace h := if_t h q
      refine r_iload_n hC 5 dX4_zero_96 (rfl : 96 + 1 = 97) rfl rfl ?_
      refine r_iconst hC dX4_zero_97 (rfl : 97 + 1 = 98) (v := 1) (by decide) ?_
      refine r_icmp_ne hC dX4_zero_98 (rfl : 98 + 3 = 101) (tgt := 115) (by decide) (fun q => ?_) (fun q => ?_)
      · replace h := if_f h q
        exact (sX4_zero_115 rfl hC hk  Q  q0 x1 σ_14 h).sub [3, 4] rfl
      · replace h := if_t h q
        refine r_aload_n hC 3 dX4_zero_101 (rfl : 101 + 1 = 102) rfl rfl ?_
        refine r_iload_n hC 2 dX4_zero_102 (rfl : 102 + 1 = 103) rfl rfl ?_
        refine r_iconst hC dX4_zero_103 (rfl : 103 + 1 = 104) (v := 0) (by decide) ?_
        refine r_callVi hC cs_X4_54 ty_5 (by omega) (mX5_isNumber hC.2.2.2.2.2.2.2.2.1 (k := k - 1) (by omega) q0 x3_3 0 σ_14 _ h) rfl rfl (Nat.le_of_ble_eq_true rfl) dX4_zero_104 (rfl : 104 + 3 = 107) (fun r_17 σ_16 h => ?_)
        refine r_if_eq hC dX4_zero_107 (rfl : 107 + 3 = 110) (tgt := 115) (by decide) (fun q => ?_) (fun q => ?_)
        · replace h := if_t h q
          exact (sX4_zero_115 rfl hC hk  Q  q0 x1 σ_16 h).sub [3, 4] rfl
        · replace h := if_f h q
          refine r_iload hC 1 dX4_zero_110 (rfl : 110 + 2 = 112) rfl ?_
          refine r_goto hC dX4_zero_112 (tgt := 116) (by decide) ?_
          exact (sX4_zero_116 rfl hC hk  Q  q0 x1 r_7 σ_16 h).sub [3, 4] rfl
    · replace h := if_f h q
      refine r_iload_n hC 2 dX4_zero_92 (rfl : 92 + 1 = 93) rfl rfl ?_
      refine r_goto hC dX4_zero_93 (tgt := 116) (by decide) ?_
      exact (sX4_zero_116 rfl hC hk  Q  q0 x1 x3_3 σ_14 h).sub [3, 4] rfl
  replace h := if_f h sw5
  by_cases sw6 : r_9 = 6
  · replace h := if_t h sw6
    refine r_swIn hC dX4_zero_19 (tgt := 121) (by rw [sw6]; decide) (by rw [sw6]; decide) (by rw [sw6]; rfl) (by decide) ?_
    refine r_aload_n hC 3 dX4_zero_121 (rfl : 121 + 1 = 122) rfl rfl ?_
    refine r_iload_n hC 2 dX4_zero_122 (rfl : 122 + 1 = 123) rfl rfl ?_
    refine r_iload hC 1 dX4_zero_123 (rfl : 123 + 2 = 125) rfl ?_
    refine r_iload_n hC 5 dX4_zero_125 (rfl : 125 + 1 = 126) rfl rfl ?_
    refine r_callSi hC cs_X4_58 (by omega) (mX4_staysOfTimes hC.2.2.2.2.2.2.2.2.1 (k := k - 1) (by omega) q0 x3_3 r_7 x2 σ_8 _ h) rfl rfl (Nat.le_of_ble_eq_true rfl) dX4_zero_126 (rfl : 126 + 3 = 129) (fun r_19 σ_18 h => ?_)
    refine r_istore hC dX4_zero_129 (rfl : 129 + 2 = 131) (by decide) rfl (lv2 := [(5, .int r_19), (4, .int r_7), (3, .int x3_3), (0, .ref (G.1 q0)), (1, .int x1), (2, .int x2)]) rfl ?_
    refine r_goto hC dX4_zero_131 (tgt := 154) (by decide) ?_
    exact (sX4_zero_154 rfl hC hk  Q  q0 x1 r_19 σ_18 h).sub [3, 4, 0] rfl
  replace h := if_f h sw6
  by_cases sw7 : r_9 = 7
  · replace h := if_t h sw7
    refine r_swIn hC dX4_zero_19 (tgt := 134) (by rw [sw7]; decide) (by rw [sw7]; decide) (by rw [sw7]; rfl) (by decide) ?_
    refine r_aload_n hC 3 dX4_zero_134 (rfl : 134 + 1 = 135) rfl rfl ?_
    refine r_iload hC 1 dX4_zero_135 (rfl : 135 + 2 = 137) rfl ?_
    refine r_iconst hC dX4_zero_137 (rfl : 137 + 1 = 138) (v := 1) (by decide) ?_
    refine r_callVi hC cs_X4_54 ty_5 (by omega) (mX5_isNumber hC.2.2.2.2.2.2.2.2.1 (k := k - 1) (by omega) q0 r_7 1 σ_8 _ h) rfl rfl (Nat.le_of_ble_eq_true rfl) dX4_zero_138 (rfl : 138 + 3 = 141) (fun r_21 σ_20 h => ?_)
    refine r_if_eq hC dX4_zero_141 (rfl : 141 + 3 = 144) (tgt := 148) (by decide) (fun q => ?_) (fun q => ?_)
    · replace h := if_t h q
      refine r_iconst hC dX4_zero_148 (rfl : 148 + 1 = 149) (v := -1) (by decide) ?_
      exact (sX4_zero_149 rfl hC hk  Q  q0 x1 (-1) σ_20 h).sub [3, 4] rfl
    · replace h := if_f h q
      refine r_iload_n hC 2 dX4_zero_144 (rfl : 144 + 1 = 145) rfl rfl ?_
      refine r_goto hC dX4_zero_145 (tgt := 149) (by decide) ?_
      exact (sX4_zero_149 rfl hC hk  Q  q0 x1 x3_3 σ_20 h).sub [3, 4] rfl
  replace h := if_f h sw7
  refine r_swOut hC dX4_zero_19 (tgt := 154) (sw_out 4 7 (by decide) (fun j h1 h2 => by rcases (show j = 4 ∨ j = 5 ∨ j = 6 ∨ j = 7 by omega) with rfl | rfl | rfl | rfl <;> assumption)) (by decide) ?_
  exact (sX4_zero_154 rfl hC hk  Q  q0 x1 (-1) σ_8 h).sub [3, 4, 0] rfl
set_option maxHeartbeats 1000000 in
set_option maxRecDepth 100000 in
theorem sX4_same_68 {G : Gx} {b k : Nat} {K : Kx} {l : Launch} (hl : K.2.1 = l) (hC : Cx YC G b K cX4_same RX4 6 (some .boolean) k)  (hk : 2 ≤ k)  (Q : Int32 → Sg → Prop)  (q0 : Nat) (x1 : Int32) (σ : Sg) (h : wX4_same_68  q0 x1 σ Q) : V YC G K (Zi YC G K Q) 6 σ 68 [(0, .ref (G.1 q0)), (1, .int x1)] [] := by
  subst hl
  unfold wX4_same_68 at h
  refine r_aload_n hC 0 dX4_same_68 (rfl : 68 + 1 = 69) rfl rfl ?_
  refine r_iload_n hC 1 dX4_same_69 (rfl : 69 + 1 = 70) rfl rfl ?_
  refine r_iconst hC dX4_same_70 (rfl : 70 + 1 = 71) (v := 0) (by decide) ?_
  obtain ⟨ty_1, h⟩ := h
  refine r_callVv hC cs_X4_43 ty_1 (by omega) (mX5_endAsNumber hC.2.2.2.2.2.2.2.2.1 (k := k - 1) (by omega) q0 x1 0 σ _ h) rfl rfl (Nat.le_of_ble_eq_true rfl) dX4_same_71 (rfl : 71 + 3 = 74) (fun  σ_2 h => ?_)
  refine r_iconst hC dX4_same_74 (rfl : 74 + 1 = 75) (v := 1) (by decide) ?_
  exact r_zret hC rfl (by decide) h dX4_same_75
set_option maxHeartbeats 1000000 in
set_option maxRecDepth 100000 in
theorem sX4_same_23 {G : Gx} {b k : Nat} {K : Kx} {l : Launch} (hl : K.2.1 = l) (hC : Cx YC G b K cX4_same RX4 6 (some .boolean) k)  (hk : 2 ≤ k)  (Q : Int32 → Sg → Prop)  (q0 : Nat) (x1 : Int32) (x2 : Int32) (σ : Sg) (h : wX4_same_23  q0 x1 x2 σ Q) : V YC G K (Zi YC G K Q) 6 σ 23 [(0, .ref (G.1 q0)), (1, .int x1), (2, .int x2)] [] := by
  subst hl
  unfold wX4_same_23 at h
  refine r_iload_n hC 1 dX4_same_23 (rfl : 23 + 1 = 24) rfl rfl ?_
  refine r_iconst hC dX4_same_24 (rfl : 24 + 1 = 25) (v := 1) (by decide) ?_
  refine r_iadd hC dX4_same_25 (rfl : 25 + 1 = 26) ?_
  obtain ⟨x4_3, e_4, h⟩ := lt_nm h
  refine r_istore hC dX4_same_26 (rfl : 26 + 2 = 28) (by decide) e_4 (lv2 := [(4, .int x4_3), (0, .ref (G.1 q0)), (1, .int x1), (2, .int x2)]) rfl ?_
  refine r_aload_n hC 1 dX4_same_28 (rfl : 28 + 1 = 29) rfl rfl ?_
  refine r_iload hC 0 dX4_same_29 (rfl : 29 + 2 = 31) rfl ?_
  obtain ⟨ty_5, h⟩ := h
  refine r_callVi hC cs_X4_47 ty_5 (by omega) (mX5_behind hC.2.2.2.2.2.2.2.2.1 (k := k - 1) (by omega) q0 x4_3 σ _ h) rfl rfl (Nat.le_of_ble_eq_true rfl) dX4_same_31 (rfl : 31 + 3 = 34) (fun r_7 σ_6 h => ?_)
  refine r_istore hC dX4_same_34 (rfl : 34 + 2 = 36) (by decide) rfl (lv2 := [(5, .int r_7), (4, .int x4_3), (0, .ref (G.1 q0)), (1, .int x1), (2, .int x2)]) rfl ?_
  refine r_iload_n hC 4 dX4_same_36 (rfl : 36 + 1 = 37) rfl rfl ?_
  refine r_iconst hC dX4_same_37 (rfl : 37 + 1 = 38) (v := 2) (by decide) ?_
  refine r_icmp_ne hC dX4_same_38 (rfl : 38 + 3 = 41) (tgt := 55) (by decide) (fun q => ?_) (fun q => ?_)
  · replace h := if_f h q
    refine r_aload_n hC 2 dX4_same_55 (rfl : 55 + 1 = 56) rfl rfl ?_
    refine r_iload hC 1 dX4_same_56 (rfl : 56 + 2 = 58) rfl ?_
    refine r_iload hC 0 dX4_same_58 (rfl : 58 + 2 = 60) rfl ?_
    refine r_callVi hC cs_X4_68 ty_5 (by omega) (mX5_isSame hC.2.2.2.2.2.2.2.2.1 (k := k - 1) (by omega) q0 x4_3 r_7 σ_6 _ h) rfl rfl (Nat.le_of_ble_eq_true rfl) dX4_same_60 (rfl : 60 + 3 = 63) (fun r_9 σ_8 h => ?_)
    refine r_if_ne hC dX4_same_63 (rfl : 63 + 3 = 66) (tgt := 68) (by decide) (fun q => ?_) (fun q => ?_)
    · replace h := if_f h q
      exact (sX4_same_68 rfl hC hk  Q  q0 x1 σ_8 h).sub [2, 3] rfl
    · replace h := if_t h q
      refine r_iconst hC dX4_same_66 (rfl : 66 + 1 = 67) (v := 0) (by decide) ?_
      exact r_zret hC rfl (by decide) h dX4_same_67
  · replace h := if_t h q
    refine r_aload_n hC 2 dX4_same_41 (rfl : 41 + 1 = 42) rfl rfl ?_
    refine r_iload hC 1 dX4_same_42 (rfl : 42 + 2 = 44) rfl ?_
    refine r_iload hC 0 dX4_same_44 (rfl : 44 + 2 = 46) rfl ?_
    refine r_callSi hC cs_X4_65 (by omega) (mX4_isAlike hC.2.2.2.2.2.2.2.2.1 (k := k - 1) (by omega) q0 x4_3 r_7 σ_6 _ h) rfl rfl (Nat.le_of_ble_eq_true rfl) dX4_same_46 (rfl : 46 + 3 = 49) (fun r_11 σ_10 h => ?_)
    refine r_if_eq hC dX4_same_49 (rfl : 49 + 3 = 52) (tgt := 66) (by decide) (fun q => ?_) (fun q => ?_)
    · replace h := if_t h q
      refine r_iconst hC dX4_same_66 (rfl : 66 + 1 = 67) (v := 0) (by decide) ?_
      exact r_zret hC rfl (by decide) h dX4_same_67
    · replace h := if_f h q
      refine r_goto hC dX4_same_52 (tgt := 68) (by decide) ?_
      exact (sX4_same_68 rfl hC hk  Q  q0 x1 σ_10 h).sub [2, 3] rfl
set_option maxHeartbeats 1000000 in
set_option maxRecDepth 100000 in
theorem mX4_same {G : Gx} {b k : Nat} {l : Launch} (hS : Sok YC G)  (hk : 2 ≤ k) (q0 : Nat) (x1 : Int32) (x2 : Int32) (σ : Sg) (Q : Int32 → Sg → Prop) (h : wX4_same  q0 x1 x2 σ Q) : Mi YC G b l yX4_same cX4_same 6 .boolean k [.ref (G.1 q0), .int x1, .int x2] σ Q := by
  refine enter hS (by decide +kernel) (Nat.le_of_ble_eq_true rfl) (lv := [(0, .ref (G.1 q0)), (1, .int x1), (2, .int x2)]) rfl (fun K hl hC => ?_)
  subst hl
  unfold wX4_same at h
  show V YC G K (Zi YC G K Q) 6 σ 0 [(0, .ref (G.1 q0)), (1, .int x1), (2, .int x2)] []
  refine r_aload_n hC 0 dX4_same_0 (rfl : 0 + 1 = 1) rfl rfl ?_
  refine r_iload_n hC 1 dX4_same_1 (rfl : 1 + 1 = 2) rfl rfl ?_
  obtain ⟨ty_12, h⟩ := h
  refine r_callVi hC cs_X4_34 ty_12 (by omega) (mX5_kindOf hC.2.2.2.2.2.2.2.2.1 (k := k - 1) (by omega) q0 x1 σ _ h) rfl rfl (Nat.le_of_ble_eq_true rfl) dX4_same_2 (rfl : 2 + 3 = 5) (fun r_14 σ_13 h => ?_)
  refine r_istore_n hC dX4_same_5 (rfl : 5 + 1 = 6) rfl (by decide) rfl (lv2 := [(3, .int r_14), (0, .ref (G.1 q0)), (1, .int x1), (2, .int x2)]) rfl ?_
  refine r_iload_n hC 0 dX4_same_6 (rfl : 6 + 1 = 7) rfl rfl ?_
  refine r_iconst hC dX4_same_7 (rfl : 7 + 1 = 8) (v := 5) (by decide) ?_
  refine r_icmp_eq hC dX4_same_8 (rfl : 8 + 3 = 11) (tgt := 23) (by decide) (fun q => ?_) (fun q => ?_)
  · replace h := if_t h q
    exact (sX4_same_23 rfl hC hk  Q  q0 x1 x2 σ_13 h).sub [1, 2, 3] rfl
  · replace h := if_f h q
    refine r_iload_n hC 0 dX4_same_11 (rfl : 11 + 1 = 12) rfl rfl ?_
    refine r_iconst hC dX4_same_12 (rfl : 12 + 1 = 13) (v := 4) (by decide) ?_
    refine r_icmp_ne hC dX4_same_13 (rfl : 13 + 3 = 16) (tgt := 21) (by decide) (fun q => ?_) (fun q => ?_)
    · replace h := if_f h q
      refine r_iconst hC dX4_same_21 (rfl : 21 + 1 = 22) (v := 0) (by decide) ?_
      exact r_zret hC rfl (by decide) h dX4_same_22
    · replace h := if_t h q
      refine r_iload_n hC 3 dX4_same_16 (rfl : 16 + 1 = 17) rfl rfl ?_
      refine r_iconst hC dX4_same_17 (rfl : 17 + 1 = 18) (v := 1) (by decide) ?_
      refine r_icmp_eq hC dX4_same_18 (rfl : 18 + 3 = 21) (tgt := 23) (by decide) (fun q => ?_) (fun q => ?_)
      · replace h := if_t h q
        exact (sX4_same_23 rfl hC hk  Q  q0 x1 x2 σ_13 h).sub [1, 2, 3] rfl
      · replace h := if_f h q
        refine r_iconst hC dX4_same_21 (rfl : 21 + 1 = 22) (v := 0) (by decide) ?_
        exact r_zret hC rfl (by decide) h dX4_same_22
set_option maxHeartbeats 1000000 in
set_option maxRecDepth 100000 in
theorem sX4_twice_147 {G : Gx} {b k : Nat} {K : Kx} {l : Launch} (hl : K.2.1 = l) (hC : Cx YC G b K cX4_twice RX4 9 (some .boolean) k)  (hk : 2 ≤ k)  (Q : Int32 → Sg → Prop)  (q0 : Nat) (x1 : Int32) (x8 : Int32) (s0 : Nat) (s1 : Int32) (s2 : Int32) (σ : Sg) (h : wX4_twice_147  q0 x1 x8 s0 s1 s2 σ Q) : V YC G K (Zi YC G K Q) 9 σ 147 [(0, .ref (G.1 q0)), (1, .int x1), (8, .int x8)] [.int s2, .int s1, .ref (G.1 s0)] := by
  subst hl
  unfold wX4_twice_147 at h
  refine r_iconst hC dX4_twice_147 (rfl : 147 + 1 = 148) (v := 0) (by decide) ?_
  obtain ⟨ty_1, h⟩ := h
  refine r_callVv hC cs_X4_81 ty_1 (by omega) (mX5_insert hC.2.2.2.2.2.2.2.2.1 (k := k - 1) (by omega) s0 s1 s2 0 σ _ h) rfl rfl (Nat.le_of_ble_eq_true rfl) dX4_twice_148 (rfl : 148 + 3 = 151) (fun  σ_2 h => ?_)
  refine r_aload_n hC 0 dX4_twice_151 (rfl : 151 + 1 = 152) rfl rfl ?_
  refine r_aload_n hC 0 dX4_twice_152 (rfl : 152 + 1 = 153) rfl rfl ?_
  refine r_iload_n hC 1 dX4_twice_153 (rfl : 153 + 1 = 154) rfl rfl ?_
  refine r_iconst hC dX4_twice_154 (rfl : 154 + 1 = 155) (v := 1) (by decide) ?_
  refine r_iadd hC dX4_twice_155 (rfl : 155 + 1 = 156) ?_
  refine r_iload hC 2 dX4_twice_156 (rfl : 156 + 2 = 158) rfl ?_
  obtain ⟨ty_3, h⟩ := h
  refine r_callVv hC cs_X4_85 ty_3 (by omega) (mX5_appendRun hC.2.2.2.2.2.2.2.2.1 (k := k - 1) (by omega) q0 q0 (x1 + 1) x8 σ_2 _ h) rfl rfl (Nat.le_of_ble_eq_true rfl) dX4_twice_158 (rfl : 158 + 3 = 161) (fun  σ_4 h => ?_)
  refine r_aload_n hC 0 dX4_twice_161 (rfl : 161 + 1 = 162) rfl rfl ?_
  refine r_iload_n hC 1 dX4_twice_162 (rfl : 162 + 1 = 163) rfl rfl ?_
  refine r_callVv hC cs_X4_89 ty_3 (by omega) (mX5_close hC.2.2.2.2.2.2.2.2.1 (k := k - 1) (by omega) q0 x1 σ_4 _ h) rfl rfl (Nat.le_of_ble_eq_true rfl) dX4_twice_163 (rfl : 163 + 3 = 166) (fun  σ_5 h => ?_)
  refine r_iconst hC dX4_twice_166 (rfl : 166 + 1 = 167) (v := 1) (by decide) ?_
  exact r_zret hC rfl (by decide) h dX4_twice_167
set_option maxHeartbeats 1000000 in
set_option maxRecDepth 100000 in
theorem sX4_twice_91 {G : Gx} {b k : Nat} {K : Kx} {l : Launch} (hl : K.2.1 = l) (hC : Cx YC G b K cX4_twice RX4 9 (some .boolean) k)  (hk : 2 ≤ k)  (Q : Int32 → Sg → Prop)  (q0 : Nat) (x1 : Int32) (x3 : Int32) (x6 : Int32) (x7 : Int32) (σ : Sg) (h : wX4_twice_91  q0 x1 x3 x6 x7 σ Q) : V YC G K (Zi YC G K Q) 9 σ 91 [(0, .ref (G.1 q0)), (1, .int x1), (3, .int x3), (6, .int x6), (7, .int x7)] [] := by
  subst hl
  unfold wX4_twice_91 at h
  refine r_iload hC 4 dX4_twice_91 (rfl : 91 + 2 = 93) rfl ?_
  refine r_if_lt hC dX4_twice_93 (rfl : 93 + 3 = 96) (tgt := 117) (by decide) (fun q => ?_) (fun q => ?_)
  · replace h := if_t h q
    refine r_iconst hC dX4_twice_117 (rfl : 117 + 1 = 118) (v := 0) (by decide) ?_
    exact r_zret hC rfl (by decide) h dX4_twice_118
  · replace h := if_f h q
    refine r_aload_n hC 0 dX4_twice_96 (rfl : 96 + 1 = 97) rfl rfl ?_
    obtain ⟨ty_6, h⟩ := h
    refine r_geti hC q0 4 3 fw_X4_77 ty_6 dX4_twice_97 (rfl : 97 + 3 = 100) ?_
    refine r_iload_n hC 2 dX4_twice_100 (rfl : 100 + 1 = 101) rfl rfl ?_
    refine r_iadd hC dX4_twice_101 (rfl : 101 + 1 = 102) ?_
    refine r_aload_n hC 0 dX4_twice_102 (rfl : 102 + 1 = 103) rfl rfl ?_
    refine r_iload hC 4 dX4_twice_103 (rfl : 103 + 2 = 105) rfl ?_
    refine r_callVi hC cs_X4_71 ty_6 (by omega) (mX5_sizeOf hC.2.2.2.2.2.2.2.2.1 (k := k - 1) (by omega) q0 x7 σ _ h) rfl rfl (Nat.le_of_ble_eq_true rfl) dX4_twice_105 (rfl : 105 + 3 = 108) (fun r_8 σ_7 h => ?_)
    refine r_iadd hC dX4_twice_108 (rfl : 108 + 1 = 109) ?_
    refine r_iconst hC dX4_twice_109 (rfl : 109 + 1 = 110) (v := 1) (by decide) ?_
    refine r_isub hC dX4_twice_110 (rfl : 110 + 1 = 111) ?_
    refine r_sipush hC dX4_twice_111 (rfl : 111 + 3 = 114) (v := 200) (by decide) ?_
    refine r_icmp_le hC dX4_twice_114 (rfl : 114 + 3 = 117) (tgt := 119) (by decide) (fun q => ?_) (fun q => ?_)
    · replace h := if_t h q
      refine r_aload_n hC 0 dX4_twice_119 (rfl : 119 + 1 = 120) rfl rfl ?_
      refine r_iload_n hC 1 dX4_twice_120 (rfl : 120 + 1 = 121) rfl rfl ?_
      refine r_iload hC 4 dX4_twice_121 (rfl : 121 + 2 = 123) rfl ?_
      refine r_callVv hC cs_X4_62 ty_6 (by omega) (mX5_endAsPart hC.2.2.2.2.2.2.2.2.1 (k := k - 1) (by omega) q0 x1 x7 σ_7 _ h) rfl rfl (Nat.le_of_ble_eq_true rfl) dX4_twice_123 (rfl : 123 + 3 = 126) (fun  σ_9 h => ?_)
      refine r_aload_n hC 0 dX4_twice_126 (rfl : 126 + 1 = 127) rfl rfl ?_
      refine r_iload_n hC 1 dX4_twice_127 (rfl : 127 + 1 = 128) rfl rfl ?_
      refine r_callVi hC cs_X4_71 ty_6 (by omega) (mX5_sizeOf hC.2.2.2.2.2.2.2.2.1 (k := k - 1) (by omega) q0 x1 σ_9 _ h) rfl rfl (Nat.le_of_ble_eq_true rfl) dX4_twice_128 (rfl : 128 + 3 = 131) (fun r_11 σ_10 h => ?_)
      refine r_istore hC dX4_twice_131 (rfl : 131 + 2 = 133) (by decide) rfl (lv2 := [(8, .int r_11), (0, .ref (G.1 q0)), (1, .int x1), (3, .int x3), (6, .int x6), (7, .int x7)]) rfl ?_
      refine r_aload_n hC 1 dX4_twice_133 (rfl : 133 + 1 = 134) rfl rfl ?_
      refine r_iload_n hC 2 dX4_twice_134 (rfl : 134 + 1 = 135) rfl rfl ?_
      refine r_iload hC 4 dX4_twice_135 (rfl : 135 + 2 = 137) rfl ?_
      refine r_bipush hC dX4_twice_137 (rfl : 137 + 2 = 139) (v := 6) (by decide) ?_
      refine r_icmp_ne hC dX4_twice_139 (rfl : 139 + 3 = 142) (tgt := 146) (by decide) (fun q => ?_) (fun q => ?_)
      · replace h := if_f h q
        refine r_iconst hC dX4_twice_146 (rfl : 146 + 1 = 147) (v := 5) (by decide) ?_
        exact (sX4_twice_147 rfl hC hk  Q  q0 x1 r_11 q0 x1 5 σ_10 h).sub [1, 2, 0] rfl
      · replace h := if_t h q
        refine r_iconst hC dX4_twice_142 (rfl : 142 + 1 = 143) (v := 4) (by decide) ?_
        refine r_goto hC dX4_twice_143 (tgt := 147) (by decide) ?_
        exact (sX4_twice_147 rfl hC hk  Q  q0 x1 r_11 q0 x1 4 σ_10 h).sub [1, 2, 0] rfl
    · replace h := if_f h q
      refine r_iconst hC dX4_twice_117 (rfl : 117 + 1 = 118) (v := 0) (by decide) ?_
      exact r_zret hC rfl (by decide) h dX4_twice_118
set_option maxHeartbeats 1000000 in
set_option maxRecDepth 100000 in
theorem mX4_twice {G : Gx} {b k : Nat} {l : Launch} (hS : Sok YC G)  (hk : 2 ≤ k) (q0 : Nat) (x1 : Int32) (x2 : Int32) (x3 : Int32) (σ : Sg) (Q : Int32 → Sg → Prop) (h : wX4_twice  q0 x1 x2 x3 σ Q) : Mi YC G b l yX4_twice cX4_twice 9 .boolean k [.ref (G.1 q0), .int x1, .int x2, .int x3] σ Q := by
  refine enter hS (by decide +kernel) (Nat.le_of_ble_eq_true rfl) (lv := [(0, .ref (G.1 q0)), (1, .int x1), (2, .int x2), (3, .int x3)]) rfl (fun K hl hC => ?_)
  subst hl
  unfold wX4_twice at h
  show V YC G K (Zi YC G K Q) 9 σ 0 [(0, .ref (G.1 q0)), (1, .int x1), (2, .int x2), (3, .int x3)] []
  refine r_iload_n hC 1 dX4_twice_0 (rfl : 0 + 1 = 1) rfl rfl ?_
  refine r_iconst hC dX4_twice_1 (rfl : 1 + 1 = 2) (v := 1) (by decide) ?_
  refine r_iadd hC dX4_twice_2 (rfl : 2 + 1 = 3) ?_
  obtain ⟨x4_12, e_13, h⟩ := lt_nm h
  refine r_istore hC dX4_twice_3 (rfl : 3 + 2 = 5) (by decide) e_13 (lv2 := [(4, .int x4_12), (0, .ref (G.1 q0)), (1, .int x1), (2, .int x2), (3, .int x3)]) rfl ?_
  refine r_aload_n hC 1 dX4_twice_5 (rfl : 5 + 1 = 6) rfl rfl ?_
  refine r_iload hC 0 dX4_twice_6 (rfl : 6 + 2 = 8) rfl ?_
  obtain ⟨ty_14, h⟩ := h
  refine r_callVi hC cs_X4_47 ty_14 (by omega) (mX5_behind hC.2.2.2.2.2.2.2.2.1 (k := k - 1) (by omega) q0 x4_12 σ _ h) rfl rfl (Nat.le_of_ble_eq_true rfl) dX4_twice_8 (rfl : 8 + 3 = 11) (fun r_16 σ_15 h => ?_)
  refine r_istore hC dX4_twice_11 (rfl : 11 + 2 = 13) (by decide) rfl (lv2 := [(5, .int r_16), (4, .int x4_12), (0, .ref (G.1 q0)), (1, .int x1), (2, .int x2), (3, .int x3)]) rfl ?_
  refine r_aload_n hC 2 dX4_twice_13 (rfl : 13 + 1 = 14) rfl rfl ?_
  refine r_iload_n hC 3 dX4_twice_14 (rfl : 14 + 1 = 15) rfl rfl ?_
  refine r_callVi hC cs_X4_34 ty_14 (by omega) (mX5_kindOf hC.2.2.2.2.2.2.2.2.1 (k := k - 1) (by omega) q0 x1 σ_15 _ h) rfl rfl (Nat.le_of_ble_eq_true rfl) dX4_twice_15 (rfl : 15 + 3 = 18) (fun r_18 σ_17 h => ?_)
  refine r_istore hC dX4_twice_18 (rfl : 18 + 2 = 20) (by decide) rfl (lv2 := [(6, .int r_18), (5, .int r_16), (4, .int x4_12), (0, .ref (G.1 q0)), (1, .int x1), (2, .int x2), (3, .int x3)]) rfl ?_
  refine r_iconst hC dX4_twice_20 (rfl : 20 + 1 = 21) (v := -1) (by decide) ?_
  refine r_istore hC dX4_twice_21 (rfl : 21 + 2 = 23) (by decide) rfl (lv2 := [(7, .int (-1)), (6, .int r_18), (5, .int r_16), (4, .int x4_12), (0, .ref (G.1 q0)), (1, .int x1), (2, .int x2), (3, .int x3)]) rfl ?_
  refine r_iload hC 1 dX4_twice_23 (rfl : 23 + 2 = 25) rfl ?_
  refine r_bipush hC dX4_twice_25 (rfl : 25 + 2 = 27) (v := 6) (by decide) ?_
  refine r_icmp_ne hC dX4_twice_27 (rfl : 27 + 3 = 30) (tgt := 65) (by decide) (fun q => ?_) (fun q => ?_)
  · replace h := if_f h q
    refine r_iload hC 1 dX4_twice_65 (rfl : 65 + 2 = 67) rfl ?_
    refine r_bipush hC dX4_twice_67 (rfl : 67 + 2 = 69) (v := 7) (by decide) ?_
    refine r_icmp_ne hC dX4_twice_69 (rfl : 69 + 3 = 72) (tgt := 91) (by decide) (fun q => ?_) (fun q => ?_)
    · replace h := if_f h q
      exact (sX4_twice_91 rfl hC hk  Q  q0 x1 x3 r_18 (-1) σ_17 h).sub [4, 5, 7, 1, 0] rfl
    · replace h := if_t h q
      refine r_iload_n hC 6 dX4_twice_72 (rfl : 72 + 1 = 73) rfl rfl ?_
      refine r_iconst hC dX4_twice_73 (rfl : 73 + 1 = 74) (v := 2) (by decide) ?_
      refine r_icmp_ne hC dX4_twice_74 (rfl : 74 + 3 = 77) (tgt := 91) (by decide) (fun q => ?_) (fun q => ?_)
      · replace h := if_f h q
        exact (sX4_twice_91 rfl hC hk  Q  q0 x1 x3 r_18 (-1) σ_17 h).sub [4, 5, 7, 1, 0] rfl
      · replace h := if_t h q
        refine r_aload_n hC 4 dX4_twice_77 (rfl : 77 + 1 = 78) rfl rfl ?_
        refine r_iload hC 2 dX4_twice_78 (rfl : 78 + 2 = 80) rfl ?_
        refine r_iconst hC dX4_twice_80 (rfl : 80 + 1 = 81) (v := 2) (by decide) ?_
        refine r_callVi hC cs_X4_54 ty_14 (by omega) (mX5_isNumber hC.2.2.2.2.2.2.2.2.1 (k := k - 1) (by omega) q0 r_16 2 σ_17 _ h) rfl rfl (Nat.le_of_ble_eq_true rfl) dX4_twice_81 (rfl : 81 + 3 = 84) (fun r_20 σ_19 h => ?_)
        refine r_if_eq hC dX4_twice_84 (rfl : 84 + 3 = 87) (tgt := 91) (by decide) (fun q => ?_) (fun q => ?_)
        · replace h := if_t h q
          exact (sX4_twice_91 rfl hC hk  Q  q0 x1 x3 r_18 (-1) σ_19 h).sub [4, 5, 7, 1, 0] rfl
        · replace h := if_f h q
          refine r_iload hC 3 dX4_twice_87 (rfl : 87 + 2 = 89) rfl ?_
          refine r_istore hC dX4_twice_89 (rfl : 89 + 2 = 91) (by decide) rfl (lv2 := [(7, .int x4_12), (6, .int r_18), (5, .int r_16), (4, .int x4_12), (0, .ref (G.1 q0)), (1, .int x1), (2, .int x2), (3, .int x3)]) rfl ?_
          exact (sX4_twice_91 rfl hC hk  Q  q0 x1 x3 r_18 x4_12 σ_19 h).sub [4, 5, 7, 1, 0] rfl
  · replace h := if_t h q
    refine r_aload_n hC 4 dX4_twice_30 (rfl : 30 + 1 = 31) rfl rfl ?_
    refine r_iload hC 3 dX4_twice_31 (rfl : 31 + 2 = 33) rfl ?_
    refine r_iload hC 2 dX4_twice_33 (rfl : 33 + 2 = 35) rfl ?_
    refine r_iconst hC dX4_twice_35 (rfl : 35 + 1 = 36) (v := 2) (by decide) ?_
    refine r_callSi hC cs_X4_74 (by omega) (mX4_otherThan hC.2.2.2.2.2.2.2.2.1 (k := k - 1) (by omega) q0 x4_12 r_16 2 σ_17 _ h) rfl rfl (Nat.le_of_ble_eq_true rfl) dX4_twice_36 (rfl : 36 + 3 = 39) (fun r_22 σ_21 h => ?_)
    refine r_istore hC dX4_twice_39 (rfl : 39 + 2 = 41) (by decide) rfl (lv2 := [(7, .int r_22), (6, .int r_18), (5, .int r_16), (4, .int x4_12), (0, .ref (G.1 q0)), (1, .int x1), (2, .int x2), (3, .int x3)]) rfl ?_
    refine r_iload hC 0 dX4_twice_41 (rfl : 41 + 2 = 43) rfl ?_
    refine r_if_ge hC dX4_twice_43 (rfl : 43 + 3 = 46) (tgt := 91) (by decide) (fun q => ?_) (fun q => ?_)
    · replace h := if_t h q
      exact (sX4_twice_91 rfl hC hk  Q  q0 x1 x3 r_18 r_22 σ_21 h).sub [4, 5, 7, 1, 0] rfl
    · replace h := if_f h q
      refine r_iload_n hC 6 dX4_twice_46 (rfl : 46 + 1 = 47) rfl rfl ?_
      refine r_iconst hC dX4_twice_47 (rfl : 47 + 1 = 48) (v := 1) (by decide) ?_
      refine r_icmp_ne hC dX4_twice_48 (rfl : 48 + 3 = 51) (tgt := 91) (by decide) (fun q => ?_) (fun q => ?_)
      · replace h := if_f h q
        exact (sX4_twice_91 rfl hC hk  Q  q0 x1 x3 r_18 r_22 σ_21 h).sub [4, 5, 7, 1, 0] rfl
      · replace h := if_t h q
        refine r_aload_n hC 4 dX4_twice_51 (rfl : 51 + 1 = 52) rfl rfl ?_
        refine r_iload hC 3 dX4_twice_52 (rfl : 52 + 2 = 54) rfl ?_
        refine r_iload hC 2 dX4_twice_54 (rfl : 54 + 2 = 56) rfl ?_
        refine r_iconst hC dX4_twice_56 (rfl : 56 + 1 = 57) (v := 3) (by decide) ?_
        refine r_callSi hC cs_X4_74 (by omega) (mX4_otherThan hC.2.2.2.2.2.2.2.2.1 (k := k - 1) (by omega) q0 x4_12 r_16 3 σ_21 _ h) rfl rfl (Nat.le_of_ble_eq_true rfl) dX4_twice_57 (rfl : 57 + 3 = 60) (fun r_24 σ_23 h => ?_)
        refine r_istore hC dX4_twice_60 (rfl : 60 + 2 = 62) (by decide) rfl (lv2 := [(7, .int r_24), (6, .int r_18), (5, .int r_16), (4, .int x4_12), (0, .ref (G.1 q0)), (1, .int x1), (2, .int x2), (3, .int x3)]) rfl ?_
        refine r_goto hC dX4_twice_62 (tgt := 91) (by decide) ?_
        exact (sX4_twice_91 rfl hC hk  Q  q0 x1 x3 r_18 r_24 σ_23 h).sub [4, 5, 7, 1, 0] rfl
set_option maxHeartbeats 1000000 in
set_option maxRecDepth 100000 in
theorem mX5_join {G : Gx} {b k : Nat} {l : Launch} (hS : Sok YC G)  (hk : 2 ≤ k) (t : Nat) (q1 : Nat) (x2 : Int32) (q3 : Nat) (x4 : Int32) (σ : Sg) (Q : Sg → Prop) (h : wX5_join  t q1 x2 q3 x4 σ Q) : Mv YC G b l yX5_join cX5_join 5 k [.ref (G.1 t), .ref (G.1 q1), .int x2, .ref (G.1 q3), .int x4] σ Q := by
  refine enter hS (by decide +kernel) (Nat.le_of_ble_eq_true rfl) (lv := [(0, .ref (G.1 t)), (1, .ref (G.1 q1)), (2, .int x2), (3, .ref (G.1 q3)), (4, .int x4)]) rfl (fun K hl hC => ?_)
  subst hl
  unfold wX5_join at h
  show V YC G K (Zv YC G K Q) 5 σ 0 [(0, .ref (G.1 t)), (1, .ref (G.1 q1)), (2, .int x2), (3, .ref (G.1 q3)), (4, .int x4)] []
  refine r_aload_n hC 0 dX5_join_0 (rfl : 0 + 1 = 1) rfl rfl ?_
  refine r_iconst hC dX5_join_1 (rfl : 1 + 1 = 2) (v := 0) (by decide) ?_
  obtain ⟨ty_1, h⟩ := h
  obtain ⟨σ_2, e_3, h⟩ := lt_nm h
  refine r_puti hC t 4 3 fw_X5_21 fp_5_3 ty_1 e_3 dX5_join_2 (rfl : 2 + 3 = 5) ?_
  refine r_aload_n hC 0 dX5_join_5 (rfl : 5 + 1 = 6) rfl rfl ?_
  refine r_aload_n hC 1 dX5_join_6 (rfl : 6 + 1 = 7) rfl rfl ?_
  refine r_iconst hC dX5_join_7 (rfl : 7 + 1 = 8) (v := 0) (by decide) ?_
  refine r_iload_n hC 2 dX5_join_8 (rfl : 8 + 1 = 9) rfl rfl ?_
  refine r_callVv hC cs_X5_41 ty_1 (by omega) (mX5_appendRun hC.2.2.2.2.2.2.2.2.1 (k := k - 1) (by omega) t q1 0 x2 σ_2 _ h) rfl rfl (Nat.le_of_ble_eq_true rfl) dX5_join_9 (rfl : 9 + 3 = 12) (fun  σ_4 h => ?_)
  refine r_aload_n hC 0 dX5_join_12 (rfl : 12 + 1 = 13) rfl rfl ?_
  refine r_aload_n hC 3 dX5_join_13 (rfl : 13 + 1 = 14) rfl rfl ?_
  refine r_iload hC 4 dX5_join_14 (rfl : 14 + 2 = 16) rfl ?_
  refine r_aload_n hC 3 dX5_join_16 (rfl : 16 + 1 = 17) rfl rfl ?_
  refine r_iload hC 4 dX5_join_17 (rfl : 17 + 2 = 19) rfl ?_
  obtain ⟨ty_5, h⟩ := h
  refine r_callVi hC cs_X5_25 ty_5 (by omega) (mX5_sizeOf hC.2.2.2.2.2.2.2.2.1 (k := k - 1) (by omega) q3 x4 σ_4 _ h) rfl rfl (Nat.le_of_ble_eq_true rfl) dX5_join_19 (rfl : 19 + 3 = 22) (fun r_7 σ_6 h => ?_)
  refine r_callVv hC cs_X5_41 ty_1 (by omega) (mX5_appendRun hC.2.2.2.2.2.2.2.2.1 (k := k - 1) (by omega) t q3 x4 r_7 σ_6 _ h) rfl rfl (Nat.le_of_ble_eq_true rfl) dX5_join_22 (rfl : 22 + 3 = 25) (fun  σ_8 h => ?_)
  refine r_aload_n hC 0 dX5_join_25 (rfl : 25 + 1 = 26) rfl rfl ?_
  refine r_aload_n hC 1 dX5_join_26 (rfl : 26 + 1 = 27) rfl rfl ?_
  refine r_aload_n hC 1 dX5_join_27 (rfl : 27 + 1 = 28) rfl rfl ?_
  refine r_iload_n hC 2 dX5_join_28 (rfl : 28 + 1 = 29) rfl rfl ?_
  obtain ⟨ty_9, h⟩ := h
  refine r_callVi hC cs_X5_45 ty_9 (by omega) (mX5_behind hC.2.2.2.2.2.2.2.2.1 (k := k - 1) (by omega) q1 x2 σ_8 _ h) rfl rfl (Nat.le_of_ble_eq_true rfl) dX5_join_29 (rfl : 29 + 3 = 32) (fun r_11 σ_10 h => ?_)
  refine r_aload_n hC 1 dX5_join_32 (rfl : 32 + 1 = 33) rfl rfl ?_
  refine r_geti hC q1 4 3 fw_X5_21 ty_9 dX5_join_33 (rfl : 33 + 3 = 36) ?_
  refine r_aload_n hC 1 dX5_join_36 (rfl : 36 + 1 = 37) rfl rfl ?_
  refine r_iload_n hC 2 dX5_join_37 (rfl : 37 + 1 = 38) rfl rfl ?_
  refine r_callVi hC cs_X5_45 ty_9 (by omega) (mX5_behind hC.2.2.2.2.2.2.2.2.1 (k := k - 1) (by omega) q1 x2 σ_10 _ h) rfl rfl (Nat.le_of_ble_eq_true rfl) dX5_join_38 (rfl : 38 + 3 = 41) (fun r_13 σ_12 h => ?_)
  refine r_isub hC dX5_join_41 (rfl : 41 + 1 = 42) ?_
  refine r_callVv hC cs_X5_41 ty_1 (by omega) (mX5_appendRun hC.2.2.2.2.2.2.2.2.1 (k := k - 1) (by omega) t q1 r_11 ((σ_10.1 q1 3) - r_13) σ_12 _ h) rfl rfl (Nat.le_of_ble_eq_true rfl) dX5_join_42 (rfl : 42 + 3 = 45) (fun  σ_14 h => ?_)
  refine r_aload_n hC 0 dX5_join_45 (rfl : 45 + 1 = 46) rfl rfl ?_
  refine r_callVv hC cs_X5_48 ty_1 (by omega) (mX5_measure hC.2.2.2.2.2.2.2.2.1 (k := k - 1) (by omega) t σ_14 _ h) rfl rfl (Nat.le_of_ble_eq_true rfl) dX5_join_46 (rfl : 46 + 3 = 49) (fun  σ_15 h => ?_)
  exact r_vret hC rfl h dX5_join_49
set_option maxHeartbeats 1000000 in
set_option maxRecDepth 100000 in
theorem mX7_breed {G : Gx} {b k : Nat} {l : Launch} (hS : Sok YC G)  (hk : 3 ≤ k) (x1 : Int32) (x2 : Int32) (x3 : Int32) (x4 : Int32) (x5 : Int32) (σ : Sg) (Q : Int32 → Sg → Prop) (h : wX7_breed  x1 x2 x3 x4 x5 σ Q) : Mi YC G b l yX7_breed cX7_breed 9 .int k [.ref (G.1 0), .int x1, .int x2, .int x3, .int x4, .int x5] σ Q := by
  refine enter hS (by decide +kernel) (Nat.le_of_ble_eq_true rfl) (lv := [(0, .ref (G.1 0)), (1, .int x1), (2, .int x2), (3, .int x3), (4, .int x4), (5, .int x5)]) rfl (fun K hl hC => ?_)
  subst hl
  unfold wX7_breed at h
  show V YC G K (Zi YC G K Q) 9 σ 0 [(0, .ref (G.1 0)), (1, .int x1), (2, .int x2), (3, .int x3), (4, .int x4), (5, .int x5)] []
  refine r_aload_n hC 0 dX7_breed_0 (rfl : 0 + 1 = 1) rfl rfl ?_
  refine r_iload_n hC 1 dX7_breed_1 (rfl : 1 + 1 = 2) rfl rfl ?_
  refine r_callVq hC cs_X7_85 rfl (by omega) (mX7_placeAt hC.2.2.2.2.2.2.2.2.1 (k := k - 1) (by omega) x1 σ _ h) rfl rfl (Nat.le_of_ble_eq_true rfl) dX7_breed_2 (rfl : 2 + 3 = 5) (fun o_2 σ_1 h => ?_)
  refine r_astoreQ hC dX7_breed_5 (rfl : 5 + 2 = 7) (by decide) (lv2 := [(6, rv G o_2), (0, .ref (G.1 0)), (1, .int x1), (2, .int x2), (3, .int x3), (4, .int x4), (5, .int x5)]) rfl ?_
  refine r_aload_n hC 1 dX7_breed_7 (rfl : 7 + 1 = 8) rfl rfl ?_
  refine r_iload_n hC 3 dX7_breed_8 (rfl : 8 + 1 = 9) rfl rfl ?_
  refine r_callVq hC cs_X7_96 rfl (by omega) (mX7_programAt hC.2.2.2.2.2.2.2.2.1 (k := k - 1) (by omega) x2 σ_1 _ h) rfl rfl (Nat.le_of_ble_eq_true rfl) dX7_breed_9 (rfl : 9 + 3 = 12) (fun o_4 σ_3 h => ?_)
  refine r_astoreQ hC dX7_breed_12 (rfl : 12 + 2 = 14) (by decide) (lv2 := [(7, rv G o_4), (6, rv G o_2), (0, .ref (G.1 0)), (1, .int x1), (2, .int x2), (3, .int x3), (4, .int x4), (5, .int x5)]) (by cases o_2 <;> rfl) ?_
  refine r_aload_n hC 2 dX7_breed_14 (rfl : 14 + 1 = 15) rfl rfl ?_
  refine r_iload hC 6 dX7_breed_15 (rfl : 15 + 2 = 17) rfl ?_
  refine r_callVq hC cs_X7_96 rfl (by omega) (mX7_programAt hC.2.2.2.2.2.2.2.2.1 (k := k - 1) (by omega) x4 σ_3 _ h) rfl rfl (Nat.le_of_ble_eq_true rfl) dX7_breed_17 (rfl : 17 + 3 = 20) (fun o_6 σ_5 h => ?_)
  refine r_astoreQ hC dX7_breed_20 (rfl : 20 + 2 = 22) (by decide) (lv2 := [(8, rv G o_6), (7, rv G o_4), (6, rv G o_2), (0, .ref (G.1 0)), (1, .int x1), (2, .int x2), (3, .int x3), (4, .int x4), (5, .int x5)]) (by cases o_4 <;> rfl) ?_
  refine r_aloadQ hC 2 dX7_breed_22 (rfl : 22 + 2 = 24) rfl ?_
  refine r_ifnull hC dX7_breed_24 (rfl : 24 + 3 = 27) (tgt := 56) (by decide) (fun q => ?_) (fun z_7 q => ?_)
  · subst q
    replace h := h.1 rfl
    refine r_iconst hC dX7_breed_56 (rfl : 56 + 1 = 57) (v := -1) (by decide) ?_
    exact r_iret hC rfl h dX7_breed_57
  · subst q
    replace h := h.2 z_7 rfl
    refine r_aloadQ hC 1 dX7_breed_27 (rfl : 27 + 2 = 29) rfl ?_
    refine r_ifnull hC dX7_breed_29 (rfl : 29 + 3 = 32) (tgt := 56) (by decide) (fun q => ?_) (fun z_8 q => ?_)
    · subst q
      replace h := h.1 rfl
      refine r_iconst hC dX7_breed_56 (rfl : 56 + 1 = 57) (v := -1) (by decide) ?_
      exact r_iret hC rfl h dX7_breed_57
    · subst q
      replace h := h.2 z_8 rfl
      refine r_aloadQ hC 0 dX7_breed_32 (rfl : 32 + 2 = 34) rfl ?_
      refine r_ifnull hC dX7_breed_34 (rfl : 34 + 3 = 37) (tgt := 56) (by decide) (fun q => ?_) (fun z_9 q => ?_)
      · subst q
        replace h := h.1 rfl
        refine r_iconst hC dX7_breed_56 (rfl : 56 + 1 = 57) (v := -1) (by decide) ?_
        exact r_iret hC rfl h dX7_breed_57
      · subst q
        replace h := h.2 z_9 rfl
        refine r_aload hC 1 dX7_breed_37 (rfl : 37 + 2 = 39) rfl ?_
        refine r_iload_n hC 6 dX7_breed_39 (rfl : 39 + 1 = 40) rfl rfl ?_
        obtain ⟨ty_10, h⟩ := h
        refine r_callVi hC cs_X7_149 ty_10 (by omega) (mX5_has hC.2.2.2.2.2.2.2.2.1 (k := k - 1) (by omega) z_8 x3 σ_5 _ h) rfl rfl (Nat.le_of_ble_eq_true rfl) dX7_breed_40 (rfl : 40 + 3 = 43) (fun r_12 σ_11 h => ?_)
        refine r_if_eq hC dX7_breed_43 (rfl : 43 + 3 = 46) (tgt := 56) (by decide) (fun q => ?_) (fun q => ?_)
        · replace h := if_t h q
          refine r_iconst hC dX7_breed_56 (rfl : 56 + 1 = 57) (v := -1) (by decide) ?_
          exact r_iret hC rfl h dX7_breed_57
        · replace h := if_f h q
          refine r_aload hC 0 dX7_breed_46 (rfl : 46 + 2 = 48) rfl ?_
          refine r_iload hC 8 dX7_breed_48 (rfl : 48 + 2 = 50) rfl ?_
          obtain ⟨ty_13, h⟩ := h
          refine r_callVi hC cs_X7_149 ty_13 (by omega) (mX5_has hC.2.2.2.2.2.2.2.2.1 (k := k - 1) (by omega) z_9 x5 σ_11 _ h) rfl rfl (Nat.le_of_ble_eq_true rfl) dX7_breed_50 (rfl : 50 + 3 = 53) (fun r_15 σ_14 h => ?_)
          refine r_if_ne hC dX7_breed_53 (rfl : 53 + 3 = 56) (tgt := 58) (by decide) (fun q => ?_) (fun q => ?_)
          · replace h := if_f h q
            refine r_aload hC 1 dX7_breed_58 (rfl : 58 + 2 = 60) rfl ?_
            refine r_geti hC z_8 4 3 fw_X7_93 ty_10 dX7_breed_60 (rfl : 60 + 3 = 63) ?_
            refine r_aload hC 1 dX7_breed_63 (rfl : 63 + 2 = 65) rfl ?_
            refine r_iload_n hC 6 dX7_breed_65 (rfl : 65 + 1 = 66) rfl rfl ?_
            refine r_callVi hC cs_X7_153 ty_10 (by omega) (mX5_sizeOf hC.2.2.2.2.2.2.2.2.1 (k := k - 1) (by omega) z_8 x3 σ_14 _ h) rfl rfl (Nat.le_of_ble_eq_true rfl) dX7_breed_66 (rfl : 66 + 3 = 69) (fun r_17 σ_16 h => ?_)
            refine r_isub hC dX7_breed_69 (rfl : 69 + 1 = 70) ?_
            refine r_aload hC 0 dX7_breed_70 (rfl : 70 + 2 = 72) rfl ?_
            refine r_iload hC 8 dX7_breed_72 (rfl : 72 + 2 = 74) rfl ?_
            refine r_callVi hC cs_X7_153 ty_13 (by omega) (mX5_sizeOf hC.2.2.2.2.2.2.2.2.1 (k := k - 1) (by omega) z_9 x5 σ_16 _ h) rfl rfl (Nat.le_of_ble_eq_true rfl) dX7_breed_74 (rfl : 74 + 3 = 77) (fun r_19 σ_18 h => ?_)
            refine r_iadd hC dX7_breed_77 (rfl : 77 + 1 = 78) ?_
            refine r_bipush hC dX7_breed_78 (rfl : 78 + 2 = 80) (v := 60) (by decide) ?_
            refine r_icmp_le hC dX7_breed_80 (rfl : 80 + 3 = 83) (tgt := 86) (by decide) (fun q => ?_) (fun q => ?_)
            · replace h := if_t h q
              refine r_aload_n hC 3 dX7_breed_86 (rfl : 86 + 1 = 87) rfl rfl ?_
              refine r_getr hC 0 6 8 45 (o := 45) fw_X7_57 rfl rfl dX7_breed_87 (rfl : 87 + 3 = 90) ?_
              refine r_aload hC 1 dX7_breed_90 (rfl : 90 + 2 = 92) rfl ?_
              refine r_iload_n hC 6 dX7_breed_92 (rfl : 92 + 1 = 93) rfl rfl ?_
              refine r_aload hC 0 dX7_breed_93 (rfl : 93 + 2 = 95) rfl ?_
              refine r_iload hC 8 dX7_breed_95 (rfl : 95 + 2 = 97) rfl ?_
              refine r_callVv hC cs_X7_156 rfl (by omega) (mX5_join hC.2.2.2.2.2.2.2.2.1 (k := k - 1) (by omega) 45 z_8 x3 z_9 x5 σ_18 _ h) rfl rfl (Nat.le_of_ble_eq_true rfl) dX7_breed_97 (rfl : 97 + 3 = 100) (fun  σ_20 h => ?_)
              refine r_aload hC 2 dX7_breed_100 (rfl : 100 + 2 = 102) rfl ?_
              refine r_aload_n hC 3 dX7_breed_102 (rfl : 102 + 1 = 103) rfl rfl ?_
              refine r_getr hC 0 6 8 45 (o := 45) fw_X7_57 rfl rfl dX7_breed_103 (rfl : 103 + 3 = 106) ?_
              obtain ⟨ty_21, h⟩ := h
              refine r_callVv hC cs_X7_122 ty_21 (by omega) (mX5_become hC.2.2.2.2.2.2.2.2.1 (k := k - 1) (by omega) z_7 45 σ_20 _ h) rfl rfl (Nat.le_of_ble_eq_true rfl) dX7_breed_106 (rfl : 106 + 3 = 109) (fun  σ_22 h => ?_)
              refine r_aload hC 2 dX7_breed_109 (rfl : 109 + 2 = 111) rfl ?_
              refine r_geti hC z_7 4 3 fw_X7_93 ty_21 dX7_breed_111 (rfl : 111 + 3 = 114) ?_
              exact r_iret hC rfl h dX7_breed_114
            · replace h := if_f h q
              refine r_bipush hC dX7_breed_83 (rfl : 83 + 2 = 85) (v := -3) (by decide) ?_
              exact r_iret hC rfl h dX7_breed_85
          · replace h := if_t h q
            refine r_iconst hC dX7_breed_56 (rfl : 56 + 1 = 57) (v := -1) (by decide) ?_
            exact r_iret hC rfl h dX7_breed_57
set_option maxHeartbeats 1000000 in
set_option maxRecDepth 100000 in
theorem sX0_write_92 {G : Gx} {b k : Nat} {K : Kx} {l : Launch} (hl : K.2.1 = l) (hC : Cx YC G b K cX0_write RX0 5 none k)  (hk : 3 ≤ k) (K24 : Nat → Nat → Int32 → Int32 → Sg → Prop) (Q : Sg → Prop) (h24 : ∀ (t : Nat) (q1 : Nat) (x2 : Int32) (x3 : Int32) (σ : Sg), K24 t q1 x2 x3 σ → V YC G K (Zv YC G K Q) 5 σ 24 [(0, .ref (G.1 t)), (1, .ref (G.1 q1)), (2, .int x2), (3, .int x3)] []) (t : Nat) (q1 : Nat) (x2 : Int32) (x3 : Int32) (σ : Sg) (h : wX0_write_92 K24 t q1 x2 x3 σ Q) : V YC G K (Zv YC G K Q) 5 σ 92 [(0, .ref (G.1 t)), (1, .ref (G.1 q1)), (2, .int x2), (3, .int x3)] [] := by
  subst hl
  unfold wX0_write_92 at h
  obtain ⟨x3_1, e_2, h⟩ := lt_nm h
  refine r_iinc hC (j := 3) dX0_write_92 (rfl : 92 + 3 = 95) rfl (zz := 1) (by decide) e_2 (by decide) (lv2 := [(3, .int x3_1), (0, .ref (G.1 t)), (1, .ref (G.1 q1)), (2, .int x2)]) rfl ?_
  refine r_goto hC dX0_write_95 (tgt := 24) (by decide) ?_
  exact (h24 t q1 x2 x3_1 σ h).sub [1, 2, 3, 0] rfl
set_option maxHeartbeats 1000000 in
set_option maxRecDepth 100000 in
theorem sX0_write_24 {G : Gx} {b k : Nat} {K : Kx} {l : Launch} (hl : K.2.1 = l) (hC : Cx YC G b K cX0_write RX0 5 none k)  (hk : 3 ≤ k)  (Q : Sg → Prop)  : ∀ (n : Nat) (t : Nat) (q1 : Nat) (x2 : Int32) (x3 : Int32) (σ : Sg), wX0_write_24  Q n t q1 x2 x3 σ → V YC G K (Zv YC G K Q) 5 σ 24 [(0, .ref (G.1 t)), (1, .ref (G.1 q1)), (2, .int x2), (3, .int x3)] [] := by
  subst hl
  intro n
  induction n with
  | zero =>
    intro t q1 x2 x3 σ h
    exact h.elim
  | succ n ih =>
    intro t q1 x2 x3 σ h
    have h : wX0_write_24_b  (wX0_write_24  Q n) t q1 x2 x3 σ Q := h
    unfold wX0_write_24_b at h
    refine r_iload_n hC 3 dX0_write_24 (rfl : 24 + 1 = 25) rfl rfl ?_
    refine r_aload_n hC 1 dX0_write_25 (rfl : 25 + 1 = 26) rfl rfl ?_
    obtain ⟨ty_3, h⟩ := h
    refine r_geti hC q1 4 3 fw_X0_50 ty_3 dX0_write_26 (rfl : 26 + 3 = 29) ?_
    refine r_icmp_ge hC dX0_write_29 (rfl : 29 + 3 = 32) (tgt := 98) (by decide) (fun q => ?_) (fun q => ?_)
    · replace h := if_t h q
      exact r_vret hC rfl h dX0_write_98
    · replace h := if_f h q
      refine r_iload_n hC 2 dX0_write_32 (rfl : 32 + 1 = 33) rfl rfl ?_
      refine r_sipush hC dX0_write_33 (rfl : 33 + 3 = 36) (v := 200) (by decide) ?_
      refine r_icmp_ge hC dX0_write_36 (rfl : 36 + 3 = 39) (tgt := 98) (by decide) (fun q => ?_) (fun q => ?_)
      · replace h := if_t h q
        exact r_vret hC rfl h dX0_write_98
      · replace h := if_f h q
        refine r_aload_n hC 1 dX0_write_39 (rfl : 39 + 1 = 40) rfl rfl ?_
        refine r_iload_n hC 3 dX0_write_40 (rfl : 40 + 1 = 41) rfl rfl ?_
        refine r_callVi hC cs_X0_53 ty_3 (by omega) (mX5_kindOf hC.2.2.2.2.2.2.2.2.1 (k := k - 1) (by omega) q1 x3 σ _ h) rfl rfl (Nat.le_of_ble_eq_true rfl) dX0_write_41 (rfl : 41 + 3 = 44) (fun r_5 σ_4 h => ?_)
        refine r_istore hC dX0_write_44 (rfl : 44 + 2 = 46) (by decide) rfl (lv2 := [(4, .int r_5), (0, .ref (G.1 t)), (1, .ref (G.1 q1)), (2, .int x2), (3, .int x3)]) rfl ?_
        refine r_iload hC 0 dX0_write_46 (rfl : 46 + 2 = 48) rfl ?_
        refine r_callSi hC cs_X0_57 (by omega) (mX7_partsOf hC.2.2.2.2.2.2.2.2.1 (k := k - 1) (by omega) r_5 σ_4 _ h) rfl rfl (Nat.le_of_ble_eq_true rfl) dX0_write_48 (rfl : 48 + 3 = 51) (fun r_7 σ_6 h => ?_)
        refine r_if_le hC dX0_write_51 (rfl : 51 + 3 = 54) (tgt := 75) (by decide) (fun q => ?_) (fun q => ?_)
        · replace h := if_t h q
          refine r_aload_n hC 1 dX0_write_75 (rfl : 75 + 1 = 76) rfl rfl ?_
          refine r_iload hC 0 dX0_write_76 (rfl : 76 + 2 = 78) rfl ?_
          refine r_aload_n hC 2 dX0_write_78 (rfl : 78 + 1 = 79) rfl rfl ?_
          refine r_iload_n hC 4 dX0_write_79 (rfl : 79 + 1 = 80) rfl rfl ?_
          refine r_callVi hC cs_X0_60 ty_3 (by omega) (mX5_numberOf hC.2.2.2.2.2.2.2.2.1 (k := k - 1) (by omega) q1 x3 σ_6 _ h) rfl rfl (Nat.le_of_ble_eq_true rfl) dX0_write_80 (rfl : 80 + 3 = 83) (fun r_9 σ_8 h => ?_)
          obtain ⟨ty_10, h⟩ := h
          refine r_callVv hC cs_X0_63 ty_10 (by omega) (mX0_add hC.2.2.2.2.2.2.2.2.1 (k := k - 1) (by omega) t r_5 r_9 σ_8 _ h) rfl rfl (Nat.le_of_ble_eq_true rfl) dX0_write_83 (rfl : 83 + 3 = 86) (fun  σ_11 h => ?_)
          refine r_aload_n hC 1 dX0_write_86 (rfl : 86 + 1 = 87) rfl rfl ?_
          refine r_iload_n hC 3 dX0_write_87 (rfl : 87 + 1 = 88) rfl rfl ?_
          refine r_callVi hC cs_X0_67 ty_10 (by omega) (mX0_endParts hC.2.2.2.2.2.2.2.2.1 (k := k - 1) (by omega) t x2 σ_11 _ h) rfl rfl (Nat.le_of_ble_eq_true rfl) dX0_write_88 (rfl : 88 + 3 = 91) (fun r_13 σ_12 h => ?_)
          refine r_istore_n hC dX0_write_91 (rfl : 91 + 1 = 92) rfl (by decide) rfl (lv2 := [(2, .int r_13), (4, .int r_5), (0, .ref (G.1 t)), (1, .ref (G.1 q1)), (3, .int x3)]) rfl ?_
          exact (sX0_write_92 rfl hC hk (wX0_write_24  Q n) Q ih t q1 r_13 x3 σ_12 h).sub [2, 3, 0, 4] rfl
        · replace h := if_f h q
          refine r_aload_n hC 1 dX0_write_54 (rfl : 54 + 1 = 55) rfl rfl ?_
          obtain ⟨ty_14, h⟩ := h
          refine r_getr hC t 0 6 (t + 3) (o := 3) fw_X0_32 ty_14 rfl dX0_write_55 (rfl : 55 + 3 = 58) ?_
          refine r_iload_n hC 3 dX0_write_58 (rfl : 58 + 1 = 59) rfl rfl ?_
          refine r_iload hC 0 dX0_write_59 (rfl : 59 + 2 = 61) rfl ?_
          obtain ⟨q_15, h⟩ := h
          obtain ⟨σ_16, e_17, h⟩ := lt_nm h
          refine r_iast hC (t + 3) (la0_3 ty_14).1 (by rw [(la0_3 ty_14).2]; exact q_15) e_17 dX0_write_61 (rfl : 61 + 1 = 62) ?_
          refine r_aload_n hC 1 dX0_write_62 (rfl : 62 + 1 = 63) rfl rfl ?_
          refine r_getr hC t 0 7 (t + 4) (o := 4) fw_X0_35 ty_14 rfl dX0_write_63 (rfl : 63 + 3 = 66) ?_
          refine r_iload_n hC 3 dX0_write_66 (rfl : 66 + 1 = 67) rfl rfl ?_
          refine r_iconst hC dX0_write_67 (rfl : 67 + 1 = 68) (v := 0) (by decide) ?_
          obtain ⟨σ_18, e_19, h⟩ := lt_nm h
          refine r_iast hC (t + 4) (la0_4 ty_14).1 (by rw [(la0_4 ty_14).2]; exact q_15) e_19 dX0_write_68 (rfl : 68 + 1 = 69) ?_
          obtain ⟨x2_20, e_21, h⟩ := lt_nm h
          refine r_iinc hC (j := 3) dX0_write_69 (rfl : 69 + 3 = 72) rfl (zz := 1) (by decide) e_21 (by decide) (lv2 := [(2, .int x2_20), (4, .int r_5), (0, .ref (G.1 t)), (1, .ref (G.1 q1)), (3, .int x3)]) rfl ?_
          refine r_goto hC dX0_write_72 (tgt := 92) (by decide) ?_
          exact (sX0_write_92 rfl hC hk (wX0_write_24  Q n) Q ih t q1 x2_20 x3 σ_18 h).sub [2, 3, 0, 4] rfl
set_option maxHeartbeats 1000000 in
set_option maxRecDepth 100000 in
theorem mX0_write {G : Gx} {b k : Nat} {l : Launch} (hS : Sok YC G)  (hk : 3 ≤ k) (t : Nat) (q1 : Nat) (σ : Sg) (Q : Sg → Prop) (h : wX0_write  t q1 σ Q) : Mv YC G b l yX0_write cX0_write 5 k [.ref (G.1 t), .ref (G.1 q1)] σ Q := by
  refine enter hS (by decide +kernel) (Nat.le_of_ble_eq_true rfl) (lv := [(0, .ref (G.1 t)), (1, .ref (G.1 q1))]) rfl (fun K hl hC => ?_)
  subst hl
  unfold wX0_write at h
  show V YC G K (Zv YC G K Q) 5 σ 0 [(0, .ref (G.1 t)), (1, .ref (G.1 q1))] []
  refine r_aload_n hC 0 dX0_write_0 (rfl : 0 + 1 = 1) rfl rfl ?_
  refine r_iconst hC dX0_write_1 (rfl : 1 + 1 = 2) (v := 0) (by decide) ?_
  obtain ⟨ty_22, h⟩ := h
  obtain ⟨σ_23, e_24, h⟩ := lt_nm h
  refine r_puti hC t 0 2 fw_X0_18 fp_0_2 ty_22 e_24 dX0_write_2 (rfl : 2 + 3 = 5) ?_
  refine r_aload_n hC 0 dX0_write_5 (rfl : 5 + 1 = 6) rfl rfl ?_
  refine r_iconst hC dX0_write_6 (rfl : 6 + 1 = 7) (v := 0) (by decide) ?_
  obtain ⟨σ_25, e_26, h⟩ := lt_nm h
  refine r_putz hC t 0 3 fw_X0_22 fp_0_3 ty_22 (by decide) e_26 dX0_write_7 (rfl : 7 + 3 = 10) ?_
  refine r_aload_n hC 0 dX0_write_10 (rfl : 10 + 1 = 11) rfl rfl ?_
  refine r_iconst hC dX0_write_11 (rfl : 11 + 1 = 12) (v := 0) (by decide) ?_
  obtain ⟨σ_27, e_28, h⟩ := lt_nm h
  refine r_putz hC t 0 4 fw_X0_26 fp_0_4 ty_22 (by decide) e_28 dX0_write_12 (rfl : 12 + 3 = 15) ?_
  refine r_aload_n hC 0 dX0_write_15 (rfl : 15 + 1 = 16) rfl rfl ?_
  refine r_iconst hC dX0_write_16 (rfl : 16 + 1 = 17) (v := 0) (by decide) ?_
  obtain ⟨σ_29, e_30, h⟩ := lt_nm h
  refine r_putz hC t 0 5 fw_X0_29 fp_0_5 ty_22 (by decide) e_30 dX0_write_17 (rfl : 17 + 3 = 20) ?_
  refine r_iconst hC dX0_write_20 (rfl : 20 + 1 = 21) (v := 0) (by decide) ?_
  refine r_istore_n hC dX0_write_21 (rfl : 21 + 1 = 22) rfl (by decide) rfl (lv2 := [(2, .int 0), (0, .ref (G.1 t)), (1, .ref (G.1 q1))]) rfl ?_
  refine r_iconst hC dX0_write_22 (rfl : 22 + 1 = 23) (v := 0) (by decide) ?_
  refine r_istore_n hC dX0_write_23 (rfl : 23 + 1 = 24) rfl (by decide) rfl (lv2 := [(3, .int 0), (2, .int 0), (0, .ref (G.1 t)), (1, .ref (G.1 q1))]) rfl ?_
  obtain ⟨nn, h⟩ := h
  exact (sX0_write_24 rfl hC hk  Q  nn t q1 0 0 σ_29 h).sub [2, 3, 1, 0] rfl
set_option maxHeartbeats 1000000 in
set_option maxRecDepth 100000 in
theorem sX1_unfold_79 {G : Gx} {b k : Nat} {K : Kx} {l : Launch} (hl : K.2.1 = l) (hC : Cx YC G b K cX1_unfold RX1 6 none k)  (hk : 5 ≤ k)  (Q : Sg → Prop)  (q1 : Nat) (σ : Sg) (h : wX1_unfold_79  q1 σ Q) : V YC G K (Zv YC G K Q) 6 σ 79 [(1, .ref (G.1 q1))] [] := by
  subst hl
  unfold wX1_unfold_79 at h
  refine r_aload_n hC 0 dX1_unfold_79 (rfl : 79 + 1 = 80) rfl rfl ?_
  obtain ⟨ty_1, h⟩ := h
  refine r_callVv hC cs_X1_56 ty_1 (by omega) (mX5_measure hC.2.2.2.2.2.2.2.2.1 (k := k - 1) (by omega) q1 σ _ h) rfl rfl (Nat.le_of_ble_eq_true rfl) dX1_unfold_80 (rfl : 80 + 3 = 83) (fun  σ_2 h => ?_)
  exact r_vret hC rfl h dX1_unfold_83
set_option maxHeartbeats 1000000 in
set_option maxRecDepth 100000 in
theorem sX1_unfold_18 {G : Gx} {b k : Nat} {K : Kx} {l : Launch} (hl : K.2.1 = l) (hC : Cx YC G b K cX1_unfold RX1 6 none k)  (hk : 5 ≤ k)  (Q : Sg → Prop)  : ∀ (n : Nat) (q1 : Nat) (x2 : Int32) (x5 : Int32) (σ : Sg), wX1_unfold_18  Q n q1 x2 x5 σ → V YC G K (Zv YC G K Q) 6 σ 18 [(0, .ref (G.1 1)), (1, .ref (G.1 q1)), (2, .int x2), (5, .int x5)] [] := by
  subst hl
  intro n
  induction n with
  | zero =>
    intro q1 x2 x5 σ h
    exact h.elim
  | succ n ih =>
    intro q1 x2 x5 σ h
    have h : wX1_unfold_18_b  (wX1_unfold_18  Q n) q1 x2 x5 σ Q := h
    unfold wX1_unfold_18_b at h
    refine r_iload hC 3 dX1_unfold_18 (rfl : 18 + 2 = 20) rfl ?_
    refine r_iload_n hC 2 dX1_unfold_20 (rfl : 20 + 1 = 21) rfl rfl ?_
    refine r_icmp_ge hC dX1_unfold_21 (rfl : 21 + 3 = 24) (tgt := 79) (by decide) (fun q => ?_) (fun q => ?_)
    · replace h := if_t h q
      exact (sX1_unfold_79 rfl hC hk  Q  q1 σ h).sub [1] rfl
    · replace h := if_f h q
      refine r_aload_n hC 0 dX1_unfold_24 (rfl : 24 + 1 = 25) rfl rfl ?_
      refine r_geti hC 1 1 5 fw_X1_28 rfl dX1_unfold_25 (rfl : 25 + 3 = 28) ?_
      refine r_if_le hC dX1_unfold_28 (rfl : 28 + 3 = 31) (tgt := 79) (by decide) (fun q => ?_) (fun q => ?_)
      · replace h := if_t h q
        exact (sX1_unfold_79 rfl hC hk  Q  q1 σ h).sub [1] rfl
      · replace h := if_f h q
        refine r_aload_n hC 0 dX1_unfold_31 (rfl : 31 + 1 = 32) rfl rfl ?_
        refine r_geti hC 1 1 5 fw_X1_28 rfl dX1_unfold_32 (rfl : 32 + 3 = 35) ?_
        refine r_bipush hC dX1_unfold_35 (rfl : 35 + 2 = 37) (v := 15) (by decide) ?_
        refine r_icmp_gt hC dX1_unfold_37 (rfl : 37 + 3 = 40) (tgt := 79) (by decide) (fun q => ?_) (fun q => ?_)
        · replace h := if_t h q
          exact (sX1_unfold_79 rfl hC hk  Q  q1 σ h).sub [1] rfl
        · replace h := if_f h q
          refine r_aload_n hC 0 dX1_unfold_40 (rfl : 40 + 1 = 41) rfl rfl ?_
          refine r_dup hC dX1_unfold_41 (rfl : 41 + 1 = 42) rfl ?_
          refine r_geti hC 1 1 5 fw_X1_28 rfl dX1_unfold_42 (rfl : 42 + 3 = 45) ?_
          refine r_iconst hC dX1_unfold_45 (rfl : 45 + 1 = 46) (v := 1) (by decide) ?_
          refine r_isub hC dX1_unfold_46 (rfl : 46 + 1 = 47) ?_
          obtain ⟨σ_3, e_4, h⟩ := lt_nm h
          refine r_puti hC 1 1 5 fw_X1_28 fp_1_5 rfl e_4 dX1_unfold_47 (rfl : 47 + 3 = 50) ?_
          refine r_aload_n hC 0 dX1_unfold_50 (rfl : 50 + 1 = 51) rfl rfl ?_
          refine r_aload_n hC 1 dX1_unfold_51 (rfl : 51 + 1 = 52) rfl rfl ?_
          refine r_aload_n hC 0 dX1_unfold_52 (rfl : 52 + 1 = 53) rfl rfl ?_
          refine r_getr hC 1 1 3 5 (o := 4) fw_X1_21 rfl rfl dX1_unfold_53 (rfl : 53 + 3 = 56) ?_
          refine r_aload_n hC 0 dX1_unfold_56 (rfl : 56 + 1 = 57) rfl rfl ?_
          refine r_geti hC 1 1 5 fw_X1_28 rfl dX1_unfold_57 (rfl : 57 + 3 = 60) ?_
          obtain ⟨q_5, h⟩ := h
          refine r_iald hC 5 rfl q_5 dX1_unfold_60 (rfl : 60 + 1 = 61) ?_
          refine r_aload_n hC 0 dX1_unfold_61 (rfl : 61 + 1 = 62) rfl rfl ?_
          refine r_getr hC 1 1 4 6 (o := 5) fw_X1_25 rfl rfl dX1_unfold_62 (rfl : 62 + 3 = 65) ?_
          refine r_aload_n hC 0 dX1_unfold_65 (rfl : 65 + 1 = 66) rfl rfl ?_
          refine r_geti hC 1 1 5 fw_X1_28 rfl dX1_unfold_66 (rfl : 66 + 3 = 69) ?_
          refine r_lald hC 6 rfl q_5 dX1_unfold_69 (rfl : 69 + 1 = 70) ?_
          refine r_callVv hC cs_X1_52 rfl (by omega) (mX1_unfoldNode hC.2.2.2.2.2.2.2.2.1 (k := k - 1) (by omega) q1 (σ_3.1 5 (Int32.toNatClampNeg (σ_3.1 1 5))) (σ_3.2.1 6 (Int32.toNatClampNeg (σ_3.1 1 5))) σ_3 _ h) rfl rfl (Nat.le_of_ble_eq_true rfl) dX1_unfold_70 (rfl : 70 + 3 = 73) (fun  σ_6 h => ?_)
          obtain ⟨x5_7, e_8, h⟩ := lt_nm h
          refine r_iinc hC (j := 3) dX1_unfold_73 (rfl : 73 + 3 = 76) rfl (zz := 1) (by decide) e_8 (by decide) (lv2 := [(5, .int x5_7), (0, .ref (G.1 1)), (1, .ref (G.1 q1)), (2, .int x2)]) rfl ?_
          refine r_goto hC dX1_unfold_76 (tgt := 18) (by decide) ?_
          exact (ih q1 x2 x5_7 σ_6 h).sub [1, 2, 3, 0] rfl
set_option maxHeartbeats 1000000 in
set_option maxRecDepth 100000 in
theorem mX1_unfold {G : Gx} {b k : Nat} {l : Launch} (hS : Sok YC G)  (hk : 5 ≤ k) (q1 : Nat) (x2 : Int32) (x3 : Int64) (σ : Sg) (Q : Sg → Prop) (h : wX1_unfold  q1 x2 x3 σ Q) : Mv YC G b l yX1_unfold cX1_unfold 6 k [.ref (G.1 1), .ref (G.1 q1), .int x2, .long x3] σ Q := by
  refine enter hS (by decide +kernel) (Nat.le_of_ble_eq_true rfl) (lv := [(0, .ref (G.1 1)), (1, .ref (G.1 q1)), (2, .int x2), (3, .long x3)]) rfl (fun K hl hC => ?_)
  subst hl
  unfold wX1_unfold at h
  show V YC G K (Zv YC G K Q) 6 σ 0 [(0, .ref (G.1 1)), (1, .ref (G.1 q1)), (2, .int x2), (3, .long x3)] []
  refine r_aload_n hC 1 dX1_unfold_0 (rfl : 0 + 1 = 1) rfl rfl ?_
  obtain ⟨ty_9, h⟩ := h
  refine r_callVv hC cs_X1_43 ty_9 (by omega) (mX5_clear hC.2.2.2.2.2.2.2.2.1 (k := k - 1) (by omega) q1 σ _ h) rfl rfl (Nat.le_of_ble_eq_true rfl) dX1_unfold_1 (rfl : 1 + 3 = 4) (fun  σ_10 h => ?_)
  refine r_aload_n hC 0 dX1_unfold_4 (rfl : 4 + 1 = 5) rfl rfl ?_
  refine r_iconst hC dX1_unfold_5 (rfl : 5 + 1 = 6) (v := 0) (by decide) ?_
  obtain ⟨σ_11, e_12, h⟩ := lt_nm h
  refine r_puti hC 1 1 5 fw_X1_28 fp_1_5 rfl e_12 dX1_unfold_6 (rfl : 6 + 3 = 9) ?_
  refine r_aload_n hC 0 dX1_unfold_9 (rfl : 9 + 1 = 10) rfl rfl ?_
  refine r_iload_n hC 2 dX1_unfold_10 (rfl : 10 + 1 = 11) rfl rfl ?_
  refine r_lload_n hC 3 dX1_unfold_11 (rfl : 11 + 1 = 12) rfl rfl ?_
  refine r_callVv hC cs_X1_48 rfl (by omega) (mX1_defer hC.2.2.2.2.2.2.2.2.1 (k := k - 1) (by omega) x2 x3 σ_11 _ h) rfl rfl (Nat.le_of_ble_eq_true rfl) dX1_unfold_12 (rfl : 12 + 3 = 15) (fun  σ_13 h => ?_)
  refine r_iconst hC dX1_unfold_15 (rfl : 15 + 1 = 16) (v := 0) (by decide) ?_
  refine r_istore hC dX1_unfold_16 (rfl : 16 + 2 = 18) (by decide) rfl (lv2 := [(5, .int 0), (0, .ref (G.1 1)), (1, .ref (G.1 q1)), (2, .int x2), (3, .long x3)]) rfl ?_
  obtain ⟨nn, h⟩ := h
  exact (sX1_unfold_18 rfl hC hk  Q  nn q1 x2 0 σ_13 h).sub [1, 2, 3, 0] rfl
set_option maxHeartbeats 1000000 in
set_option maxRecDepth 100000 in
theorem sX1_rank_12 {G : Gx} {b k : Nat} {K : Kx} {l : Launch} (hl : K.2.1 = l) (hC : Cx YC G b K cX1_rank RX1 3 (some .long) k)  (hk : 5 ≤ k)  (Q : Int64 → Sg → Prop)  : ∀ (n : Nat) (q1 : Nat) (x2 : Int32) (σ : Sg), wX1_rank_12  Q n q1 x2 σ → V YC G K (Zl YC G K Q) 3 σ 12 [(0, .ref (G.1 1)), (1, .ref (G.1 q1)), (2, .int x2)] [] := by
  subst hl
  intro n
  induction n with
  | zero =>
    intro q1 x2 σ h
    exact h.elim
  | succ n ih =>
    intro q1 x2 σ h
    have h : wX1_rank_12_b  (wX1_rank_12  Q n) q1 x2 σ Q := h
    unfold wX1_rank_12_b at h
    refine r_iload_n hC 2 dX1_rank_12 (rfl : 12 + 1 = 13) rfl rfl ?_
    refine r_if_lt hC dX1_rank_13 (rfl : 13 + 3 = 16) (tgt := 34) (by decide) (fun q => ?_) (fun q => ?_)
    · replace h := if_t h q
      refine r_aload_n hC 0 dX1_rank_34 (rfl : 34 + 1 = 35) rfl rfl ?_
      refine r_getr hC 1 1 6 7 (o := 6) fw_X1_32 rfl rfl dX1_rank_35 (rfl : 35 + 3 = 38) ?_
      refine r_iconst hC dX1_rank_38 (rfl : 38 + 1 = 39) (v := 0) (by decide) ?_
      obtain ⟨q_1, h⟩ := h
      refine r_lald hC 7 rfl q_1 dX1_rank_39 (rfl : 39 + 1 = 40) ?_
      exact r_lret hC rfl h dX1_rank_40
    · replace h := if_f h q
      refine r_aload_n hC 0 dX1_rank_16 (rfl : 16 + 1 = 17) rfl rfl ?_
      refine r_getr hC 1 1 6 7 (o := 6) fw_X1_32 rfl rfl dX1_rank_17 (rfl : 17 + 3 = 20) ?_
      refine r_iload_n hC 2 dX1_rank_20 (rfl : 20 + 1 = 21) rfl rfl ?_
      refine r_aload_n hC 0 dX1_rank_21 (rfl : 21 + 1 = 22) rfl rfl ?_
      refine r_aload_n hC 1 dX1_rank_22 (rfl : 22 + 1 = 23) rfl rfl ?_
      refine r_iload_n hC 2 dX1_rank_23 (rfl : 23 + 1 = 24) rfl rfl ?_
      refine r_callVl hC cs_X1_93 rfl (by omega) (mX1_rankOfNode hC.2.2.2.2.2.2.2.2.1 (k := k - 1) (by omega) q1 x2 σ _ h) rfl rfl (Nat.le_of_ble_eq_true rfl) dX1_rank_24 (rfl : 24 + 3 = 27) (fun r_3 σ_2 h => ?_)
      obtain ⟨q_4, h⟩ := h
      obtain ⟨σ_5, e_6, h⟩ := lt_nm h
      refine r_last hC 7 rfl q_4 e_6 dX1_rank_27 (rfl : 27 + 1 = 28) ?_
      obtain ⟨x2_7, e_8, h⟩ := lt_nm h
      refine r_iinc hC (j := 2) dX1_rank_28 (rfl : 28 + 3 = 31) rfl (zz := -1) (by decide) e_8 (by decide) (lv2 := [(2, .int x2_7), (0, .ref (G.1 1)), (1, .ref (G.1 q1))]) rfl ?_
      refine r_goto hC dX1_rank_31 (tgt := 12) (by decide) ?_
      exact (ih q1 x2_7 σ_5 h).sub [1, 2, 0] rfl
set_option maxHeartbeats 1000000 in
set_option maxRecDepth 100000 in
theorem mX1_rank {G : Gx} {b k : Nat} {l : Launch} (hS : Sok YC G)  (hk : 5 ≤ k) (q1 : Nat) (σ : Sg) (Q : Int64 → Sg → Prop) (h : wX1_rank  q1 σ Q) : Ml YC G b l yX1_rank cX1_rank 3 k [.ref (G.1 1), .ref (G.1 q1)] σ Q := by
  refine enter hS (by decide +kernel) (Nat.le_of_ble_eq_true rfl) (lv := [(0, .ref (G.1 1)), (1, .ref (G.1 q1))]) rfl (fun K hl hC => ?_)
  subst hl
  unfold wX1_rank at h
  show V YC G K (Zl YC G K Q) 3 σ 0 [(0, .ref (G.1 1)), (1, .ref (G.1 q1))] []
  refine r_aload_n hC 1 dX1_rank_0 (rfl : 0 + 1 = 1) rfl rfl ?_
  obtain ⟨ty_9, h⟩ := h
  refine r_geti hC q1 4 3 fw_X1_77 ty_9 dX1_rank_1 (rfl : 1 + 3 = 4) ?_
  refine r_bipush hC dX1_rank_4 (rfl : 4 + 2 = 6) (v := 15) (by decide) ?_
  refine r_mmin hC cs_X1_87 (by omega) (Nat.le_of_ble_eq_true rfl) dX1_rank_6 (rfl : 6 + 3 = 9) ?_
  refine r_iconst hC dX1_rank_9 (rfl : 9 + 1 = 10) (v := 1) (by decide) ?_
  refine r_isub hC dX1_rank_10 (rfl : 10 + 1 = 11) ?_
  obtain ⟨x2_10, e_11, h⟩ := lt_nm h
  refine r_istore_n hC dX1_rank_11 (rfl : 11 + 1 = 12) rfl (by decide) e_11 (lv2 := [(2, .int x2_10), (0, .ref (G.1 1)), (1, .ref (G.1 q1))]) rfl ?_
  obtain ⟨nn, h⟩ := h
  exact (sX1_rank_12 rfl hC hk  Q  nn q1 x2_10 σ h).sub [1, 2, 0] rfl
set_option maxHeartbeats 1000000 in
set_option maxRecDepth 100000 in
theorem mX4_fire {G : Gx} {b k : Nat} {l : Launch} (hS : Sok YC G)  (hk : 3 ≤ k) (q0 : Nat) (x1 : Int32) (x2 : Int32) (x3 : Int32) (x4 : Int32) (σ : Sg) (Q : Int32 → Sg → Prop) (h : wX4_fire  q0 x1 x2 x3 x4 σ Q) : Mi YC G b l yX4_fire cX4_fire 5 .boolean k [.ref (G.1 q0), .int x1, .int x2, .int x3, .int x4] σ Q := by
  refine enter hS (by decide +kernel) (Nat.le_of_ble_eq_true rfl) (lv := [(0, .ref (G.1 q0)), (1, .int x1), (2, .int x2), (3, .int x3), (4, .int x4)]) rfl (fun K hl hC => ?_)
  subst hl
  unfold wX4_fire at h
  show V YC G K (Zi YC G K Q) 5 σ 0 [(0, .ref (G.1 q0)), (1, .int x1), (2, .int x2), (3, .int x3), (4, .int x4)] []
  refine r_iload_n hC 2 dX4_fire_0 (rfl : 0 + 1 = 1) rfl rfl ?_
  by_cases sw0 : x2 = 0
  · replace h := if_t h sw0
    refine r_swIn hC dX4_fire_1 (tgt := 44) (by rw [sw0]; decide) (by rw [sw0]; decide) (by rw [sw0]; rfl) (by decide) ?_
    refine r_aload_n hC 0 dX4_fire_44 (rfl : 44 + 1 = 45) rfl rfl ?_
    refine r_iload_n hC 1 dX4_fire_45 (rfl : 45 + 1 = 46) rfl rfl ?_
    refine r_iload_n hC 3 dX4_fire_46 (rfl : 46 + 1 = 47) rfl rfl ?_
    refine r_callSi hC cs_X4_9 (by omega) (mX4_fold hC.2.2.2.2.2.2.2.2.1 (k := k - 1) (by omega) q0 x1 x3 σ _ h) rfl rfl (Nat.le_of_ble_eq_true rfl) dX4_fire_47 (rfl : 47 + 3 = 50) (fun r_2 σ_1 h => ?_)
    obtain ⟨q_3, h⟩ := h
    exact r_zret hC rfl q_3 h dX4_fire_50
  replace h := if_f h sw0
  by_cases sw1 : x2 = 1
  · replace h := if_t h sw1
    refine r_swIn hC dX4_fire_1 (tgt := 51) (by rw [sw1]; decide) (by rw [sw1]; decide) (by rw [sw1]; rfl) (by decide) ?_
    refine r_aload_n hC 0 dX4_fire_51 (rfl : 51 + 1 = 52) rfl rfl ?_
    refine r_iload_n hC 1 dX4_fire_52 (rfl : 52 + 1 = 53) rfl rfl ?_
    refine r_iload_n hC 3 dX4_fire_53 (rfl : 53 + 1 = 54) rfl rfl ?_
    refine r_callSi hC cs_X4_15 (by omega) (mX4_zero hC.2.2.2.2.2.2.2.2.1 (k := k - 1) (by omega) q0 x1 x3 σ _ h) rfl rfl (Nat.le_of_ble_eq_true rfl) dX4_fire_54 (rfl : 54 + 3 = 57) (fun r_5 σ_4 h => ?_)
    obtain ⟨q_6, h⟩ := h
    exact r_zret hC rfl q_6 h dX4_fire_57
  replace h := if_f h sw1
  by_cases sw2 : x2 = 2
  · replace h := if_t h sw2
    refine r_swIn hC dX4_fire_1 (tgt := 58) (by rw [sw2]; decide) (by rw [sw2]; decide) (by rw [sw2]; rfl) (by decide) ?_
    refine r_aload_n hC 0 dX4_fire_58 (rfl : 58 + 1 = 59) rfl rfl ?_
    refine r_iload_n hC 1 dX4_fire_59 (rfl : 59 + 1 = 60) rfl rfl ?_
    refine r_iload_n hC 3 dX4_fire_60 (rfl : 60 + 1 = 61) rfl rfl ?_
    refine r_callSi hC cs_X4_18 (by omega) (mX4_same hC.2.2.2.2.2.2.2.2.1 (k := k - 1) (by omega) q0 x1 x3 σ _ h) rfl rfl (Nat.le_of_ble_eq_true rfl) dX4_fire_61 (rfl : 61 + 3 = 64) (fun r_8 σ_7 h => ?_)
    obtain ⟨q_9, h⟩ := h
    exact r_zret hC rfl q_9 h dX4_fire_64
  replace h := if_f h sw2
  by_cases sw3 : x2 = 3
  · replace h := if_t h sw3
    refine r_swIn hC dX4_fire_1 (tgt := 65) (by rw [sw3]; decide) (by rw [sw3]; decide) (by rw [sw3]; rfl) (by decide) ?_
    refine r_aload_n hC 0 dX4_fire_65 (rfl : 65 + 1 = 66) rfl rfl ?_
    refine r_iload_n hC 1 dX4_fire_66 (rfl : 66 + 1 = 67) rfl rfl ?_
    refine r_iload_n hC 3 dX4_fire_67 (rfl : 67 + 1 = 68) rfl rfl ?_
    refine r_callSi hC cs_X4_21 (by omega) (mX4_pick hC.2.2.2.2.2.2.2.2.1 (k := k - 1) (by omega) q0 x1 x3 σ _ h) rfl rfl (Nat.le_of_ble_eq_true rfl) dX4_fire_68 (rfl : 68 + 3 = 71) (fun r_11 σ_10 h => ?_)
    obtain ⟨q_12, h⟩ := h
    exact r_zret hC rfl q_12 h dX4_fire_71
  replace h := if_f h sw3
  by_cases sw4 : x2 = 4
  · replace h := if_t h sw4
    refine r_swIn hC dX4_fire_1 (tgt := 72) (by rw [sw4]; decide) (by rw [sw4]; decide) (by rw [sw4]; rfl) (by decide) ?_
    refine r_aload_n hC 0 dX4_fire_72 (rfl : 72 + 1 = 73) rfl rfl ?_
    refine r_iload_n hC 1 dX4_fire_73 (rfl : 73 + 1 = 74) rfl rfl ?_
    refine r_iload_n hC 3 dX4_fire_74 (rfl : 74 + 1 = 75) rfl rfl ?_
    refine r_callSi hC cs_X4_24 (by omega) (mX4_melt hC.2.2.2.2.2.2.2.2.1 (k := k - 1) (by omega) q0 x1 x3 σ _ h) rfl rfl (Nat.le_of_ble_eq_true rfl) dX4_fire_75 (rfl : 75 + 3 = 78) (fun r_14 σ_13 h => ?_)
    obtain ⟨q_15, h⟩ := h
    exact r_zret hC rfl q_15 h dX4_fire_78
  replace h := if_f h sw4
  by_cases sw5 : x2 = 5
  · replace h := if_t h sw5
    refine r_swIn hC dX4_fire_1 (tgt := 79) (by rw [sw5]; decide) (by rw [sw5]; decide) (by rw [sw5]; rfl) (by decide) ?_
    refine r_aload_n hC 0 dX4_fire_79 (rfl : 79 + 1 = 80) rfl rfl ?_
    refine r_iload_n hC 1 dX4_fire_80 (rfl : 80 + 1 = 81) rfl rfl ?_
    refine r_iload_n hC 3 dX4_fire_81 (rfl : 81 + 1 = 82) rfl rfl ?_
    refine r_iload hC 4 dX4_fire_82 (rfl : 82 + 2 = 84) rfl ?_
    refine r_callSi hC cs_X4_27 (by omega) (mX4_twice hC.2.2.2.2.2.2.2.2.1 (k := k - 1) (by omega) q0 x1 x3 x4 σ _ h) rfl rfl (Nat.le_of_ble_eq_true rfl) dX4_fire_84 (rfl : 84 + 3 = 87) (fun r_17 σ_16 h => ?_)
    obtain ⟨q_18, h⟩ := h
    exact r_zret hC rfl q_18 h dX4_fire_87
  replace h := if_f h sw5
  by_cases sw6 : x2 = 6
  · replace h := if_t h sw6
    refine r_swIn hC dX4_fire_1 (tgt := 88) (by rw [sw6]; decide) (by rw [sw6]; decide) (by rw [sw6]; rfl) (by decide) ?_
    refine r_aload_n hC 0 dX4_fire_88 (rfl : 88 + 1 = 89) rfl rfl ?_
    refine r_iload_n hC 1 dX4_fire_89 (rfl : 89 + 1 = 90) rfl rfl ?_
    refine r_iload_n hC 3 dX4_fire_90 (rfl : 90 + 1 = 91) rfl rfl ?_
    refine r_callSi hC cs_X4_31 (by omega) (mX4_sink hC.2.2.2.2.2.2.2.2.1 (k := k - 1) (by omega) q0 x1 x3 σ _ h) rfl rfl (Nat.le_of_ble_eq_true rfl) dX4_fire_91 (rfl : 91 + 3 = 94) (fun r_20 σ_19 h => ?_)
    obtain ⟨q_21, h⟩ := h
    exact r_zret hC rfl q_21 h dX4_fire_94
  replace h := if_f h sw6
  refine r_swOut hC dX4_fire_1 (tgt := 95) (sw_out 0 6 (by decide) (fun j h1 h2 => by rcases (show j = 0 ∨ j = 1 ∨ j = 2 ∨ j = 3 ∨ j = 4 ∨ j = 5 ∨ j = 6 by omega) with rfl | rfl | rfl | rfl | rfl | rfl | rfl <;> assumption)) (by decide) ?_
  refine r_iconst hC dX4_fire_95 (rfl : 95 + 1 = 96) (v := 0) (by decide) ?_
  exact r_zret hC rfl (by decide) h dX4_fire_96
set_option maxHeartbeats 1000000 in
set_option maxRecDepth 100000 in
theorem sX6_apply_205 {G : Gx} {b k : Nat} {K : Kx} {l : Launch} (hl : K.2.1 = l) (hC : Cx YC G b K cX6_apply RX6 8 (some .int) k)  (hk : 4 ≤ k)  (Q : Int32 → Sg → Prop)  (x3 : Int32) (σ : Sg) (h : wX6_apply_205  x3 σ Q) : V YC G K (Zi YC G K Q) 8 σ 205 [(0, .ref (G.1 16)), (3, .int x3)] [] := by
  subst hl
  unfold wX6_apply_205 at h
  refine r_aload_n hC 0 dX6_apply_205 (rfl : 205 + 1 = 206) rfl rfl ?_
  refine r_getd hC 16 5 2 fw_X6_21 rfl dX6_apply_206 (rfl : 206 + 3 = 209) ?_
  refine r_astore hC dX6_apply_209 (rfl : 209 + 2 = 211) (by decide) rfl (lv2 := [(5, .ref (G.1 (σ.2.2 16 2))), (0, .ref (G.1 16)), (3, .int x3)]) rfl ?_
  refine r_aload_n hC 1 dX6_apply_211 (rfl : 211 + 1 = 212) rfl rfl ?_
  refine r_aload_n hC 1 dX6_apply_212 (rfl : 212 + 1 = 213) rfl rfl ?_
  refine r_getd hC 16 5 3 fw_X6_25 rfl dX6_apply_213 (rfl : 213 + 3 = 216) ?_
  obtain ⟨σ_1, e_2, h⟩ := lt_nm h
  refine r_putr hC 16 5 2 fw_X6_21 fp_6_2 rfl e_2 dX6_apply_216 (rfl : 216 + 3 = 219) ?_
  refine r_aload_n hC 1 dX6_apply_219 (rfl : 219 + 1 = 220) rfl rfl ?_
  refine r_aload hC 0 dX6_apply_220 (rfl : 220 + 2 = 222) rfl ?_
  obtain ⟨σ_3, e_4, h⟩ := lt_nm h
  refine r_putr hC 16 5 3 fw_X6_25 fp_6_3 rfl e_4 dX6_apply_222 (rfl : 222 + 3 = 225) ?_
  refine r_iload_n hC 2 dX6_apply_225 (rfl : 225 + 1 = 226) rfl rfl ?_
  exact r_iret hC rfl h dX6_apply_226
set_option maxHeartbeats 1000000 in
set_option maxRecDepth 100000 in
theorem sX6_apply_199 {G : Gx} {b k : Nat} {K : Kx} {l : Launch} (hl : K.2.1 = l) (hC : Cx YC G b K cX6_apply RX6 8 (some .int) k)  (hk : 4 ≤ k) (K15 : Int32 → Int32 → Int32 → Int32 → Int32 → Sg → Prop) (Q : Int32 → Sg → Prop) (h15 : ∀ (x1 : Int32) (x2 : Int32) (x3 : Int32) (x4 : Int32) (x5 : Int32) (σ : Sg), K15 x1 x2 x3 x4 x5 σ → V YC G K (Zi YC G K Q) 8 σ 15 [(0, .ref (G.1 16)), (1, .int x1), (2, .int x2), (3, .int x3), (4, .int x4), (5, .int x5)] []) (x1 : Int32) (x2 : Int32) (x3 : Int32) (x4 : Int32) (x5 : Int32) (σ : Sg) (h : wX6_apply_199 K15 x1 x2 x3 x4 x5 σ Q) : V YC G K (Zi YC G K Q) 8 σ 199 [(0, .ref (G.1 16)), (1, .int x1), (2, .int x2), (3, .int x3), (4, .int x4), (5, .int x5)] [] := by
  subst hl
  unfold wX6_apply_199 at h
  obtain ⟨x5_5, e_6, h⟩ := lt_nm h
  refine r_iinc hC (j := 5) dX6_apply_199 (rfl : 199 + 3 = 202) rfl (zz := 1) (by decide) e_6 (by decide) (lv2 := [(5, .int x5_5), (0, .ref (G.1 16)), (1, .int x1), (2, .int x2), (3, .int x3), (4, .int x4)]) rfl ?_
  refine r_goto hC dX6_apply_202 (tgt := 15) (by decide) ?_
  exact (h15 x1 x2 x3 x4 x5_5 σ h).sub [1, 2, 3, 4, 5, 0] rfl
set_option maxHeartbeats 1000000 in
set_option maxRecDepth 100000 in
theorem sX6_apply_193 {G : Gx} {b k : Nat} {K : Kx} {l : Launch} (hl : K.2.1 = l) (hC : Cx YC G b K cX6_apply RX6 8 (some .int) k)  (hk : 4 ≤ k) (K15 : Int32 → Int32 → Int32 → Int32 → Int32 → Sg → Prop) (K112 : Int32 → Int32 → Int32 → Int32 → Int32 → Int32 → Sg → Prop) (Q : Int32 → Sg → Prop) (h15 : ∀ (x1 : Int32) (x2 : Int32) (x3 : Int32) (x4 : Int32) (x5 : Int32) (σ : Sg), K15 x1 x2 x3 x4 x5 σ → V YC G K (Zi YC G K Q) 8 σ 15 [(0, .ref (G.1 16)), (1, .int x1), (2, .int x2), (3, .int x3), (4, .int x4), (5, .int x5)] []) (h112 : ∀ (x1 : Int32) (x2 : Int32) (x3 : Int32) (x4 : Int32) (x5 : Int32) (x7 : Int32) (σ : Sg), K112 x1 x2 x3 x4 x5 x7 σ → V YC G K (Zi YC G K Q) 8 σ 112 [(0, .ref (G.1 16)), (1, .int x1), (2, .int x2), (3, .int x3), (4, .int x4), (5, .int x5), (7, .int x7)] []) (x1 : Int32) (x2 : Int32) (x3 : Int32) (x4 : Int32) (x5 : Int32) (x7 : Int32) (σ : Sg) (h : wX6_apply_193 K15 K112 x1 x2 x3 x4 x5 x7 σ Q) : V YC G K (Zi YC G K Q) 8 σ 193 [(0, .ref (G.1 16)), (1, .int x1), (2, .int x2), (3, .int x3), (4, .int x4), (5, .int x5), (7, .int x7)] [] := by
  subst hl
  unfold wX6_apply_193 at h
  obtain ⟨x7_7, e_8, h⟩ := lt_nm h
  refine r_iinc hC (j := 6) dX6_apply_193 (rfl : 193 + 3 = 196) rfl (zz := -1) (by decide) e_8 (by decide) (lv2 := [(7, .int x7_7), (0, .ref (G.1 16)), (1, .int x1), (2, .int x2), (3, .int x3), (4, .int x4), (5, .int x5)]) rfl ?_
  refine r_goto hC dX6_apply_196 (tgt := 112) (by decide) ?_
  exact (h112 x1 x2 x3 x4 x5 x7_7 σ h).sub [1, 2, 3, 4, 5, 6, 0] rfl
set_option maxHeartbeats 1000000 in
set_option maxRecDepth 100000 in
theorem sX6_apply_112 {G : Gx} {b k : Nat} {K : Kx} {l : Launch} (hl : K.2.1 = l) (hC : Cx YC G b K cX6_apply RX6 8 (some .int) k)  (hk : 4 ≤ k) (K15 : Int32 → Int32 → Int32 → Int32 → Int32 → Sg → Prop) (Q : Int32 → Sg → Prop) (h15 : ∀ (x1 : Int32) (x2 : Int32) (x3 : Int32) (x4 : Int32) (x5 : Int32) (σ : Sg), K15 x1 x2 x3 x4 x5 σ → V YC G K (Zi YC G K Q) 8 σ 15 [(0, .ref (G.1 16)), (1, .int x1), (2, .int x2), (3, .int x3), (4, .int x4), (5, .int x5)] []) : ∀ (n : Nat) (x1 : Int32) (x2 : Int32) (x3 : Int32) (x4 : Int32) (x5 : Int32) (x7 : Int32) (σ : Sg), wX6_apply_112 K15 Q n x1 x2 x3 x4 x5 x7 σ → V YC G K (Zi YC G K Q) 8 σ 112 [(0, .ref (G.1 16)), (1, .int x1), (2, .int x2), (3, .int x3), (4, .int x4), (5, .int x5), (7, .int x7)] [] := by
  subst hl
  intro n
  induction n with
  | zero =>
    intro x1 x2 x3 x4 x5 x7 σ h
    exact h.elim
  | succ n ih =>
    intro x1 x2 x3 x4 x5 x7 σ h
    have h : wX6_apply_112_b K15 (wX6_apply_112 K15 Q n) x1 x2 x3 x4 x5 x7 σ Q := h
    unfold wX6_apply_112_b at h
    refine r_iload hC 6 dX6_apply_112 (rfl : 112 + 2 = 114) rfl ?_
    refine r_if_lt hC dX6_apply_114 (rfl : 114 + 3 = 117) (tgt := 199) (by decide) (fun q => ?_) (fun q => ?_)
    · replace h := if_t h q
      exact (sX6_apply_199 rfl hC hk K15 Q h15 x1 x2 x3 x4 x5 σ h).sub [0, 1, 2, 3, 4, 5] rfl
    · replace h := if_f h q
      refine r_aload_n hC 0 dX6_apply_117 (rfl : 117 + 1 = 118) rfl rfl ?_
      refine r_getr hC 16 5 1 18 (o := 2) fw_X6_15 rfl rfl dX6_apply_118 (rfl : 118 + 3 = 121) ?_
      refine r_iload hC 6 dX6_apply_121 (rfl : 121 + 2 = 123) rfl ?_
      refine r_dup2 hC dX6_apply_123 (rfl : 123 + 1 = 124) rfl rfl ?_
      obtain ⟨q_9, h⟩ := h
      refine r_iald hC 18 rfl q_9 dX6_apply_124 (rfl : 124 + 1 = 125) ?_
      refine r_iconst hC dX6_apply_125 (rfl : 125 + 1 = 126) (v := 1) (by decide) ?_
      refine r_isub hC dX6_apply_126 (rfl : 126 + 1 = 127) ?_
      obtain ⟨σ_10, e_11, h⟩ := lt_nm h
      refine r_iast hC 18 rfl q_9 e_11 dX6_apply_127 (rfl : 127 + 1 = 128) ?_
      refine r_aload_n hC 0 dX6_apply_128 (rfl : 128 + 1 = 129) rfl rfl ?_
      refine r_getr hC 16 5 1 18 (o := 2) fw_X6_15 rfl rfl dX6_apply_129 (rfl : 129 + 3 = 132) ?_
      refine r_iload hC 6 dX6_apply_132 (rfl : 132 + 2 = 134) rfl ?_
      refine r_iald hC 18 rfl q_9 dX6_apply_134 (rfl : 134 + 1 = 135) ?_
      refine r_if_le hC dX6_apply_135 (rfl : 135 + 3 = 138) (tgt := 141) (by decide) (fun q => ?_) (fun q => ?_)
      · replace h := if_t h q
        refine r_iload hC 6 dX6_apply_141 (rfl : 141 + 2 = 143) rfl ?_
        refine r_istore hC dX6_apply_143 (rfl : 143 + 2 = 145) (by decide) rfl (lv2 := [(4, .int x7), (0, .ref (G.1 16)), (1, .int x1), (2, .int x2), (3, .int x3), (5, .int x5), (7, .int x7)]) rfl ?_
        refine r_aload_n hC 1 dX6_apply_145 (rfl : 145 + 1 = 146) rfl rfl ?_
        refine r_getd hC 16 5 3 fw_X6_25 rfl dX6_apply_146 (rfl : 146 + 3 = 149) ?_
        refine r_aload_n hC 1 dX6_apply_149 (rfl : 149 + 1 = 150) rfl rfl ?_
        refine r_getr hC 16 5 0 17 (o := 1) fw_X6_9 rfl rfl dX6_apply_150 (rfl : 150 + 3 = 153) ?_
        refine r_iload hC 6 dX6_apply_153 (rfl : 153 + 2 = 155) rfl ?_
        refine r_iald hC 17 rfl q_9 dX6_apply_155 (rfl : 155 + 1 = 156) ?_
        obtain ⟨ty_12, h⟩ := h
        refine r_callVv hC cs_X6_72 ty_12 (by omega) (mX5_close hC.2.2.2.2.2.2.2.2.1 (k := k - 1) (by omega) (σ_10.2.2 16 3) (σ_10.1 17 (Int32.toNatClampNeg x7)) σ_10 _ h) rfl rfl (Nat.le_of_ble_eq_true rfl) dX6_apply_156 (rfl : 156 + 3 = 159) (fun  σ_13 h => ?_)
        refine r_aload_n hC 1 dX6_apply_159 (rfl : 159 + 1 = 160) rfl rfl ?_
        refine r_getd hC 16 5 3 fw_X6_25 rfl dX6_apply_160 (rfl : 160 + 3 = 163) ?_
        refine r_aload_n hC 1 dX6_apply_163 (rfl : 163 + 1 = 164) rfl rfl ?_
        refine r_getr hC 16 5 0 17 (o := 1) fw_X6_9 rfl rfl dX6_apply_164 (rfl : 164 + 3 = 167) ?_
        refine r_iload hC 6 dX6_apply_167 (rfl : 167 + 2 = 169) rfl ?_
        refine r_iald hC 17 rfl q_9 dX6_apply_169 (rfl : 169 + 1 = 170) ?_
        refine r_iload_n hC 2 dX6_apply_170 (rfl : 170 + 1 = 171) rfl rfl ?_
        refine r_iload_n hC 3 dX6_apply_171 (rfl : 171 + 1 = 172) rfl rfl ?_
        refine r_aload_n hC 1 dX6_apply_172 (rfl : 172 + 1 = 173) rfl rfl ?_
        refine r_getd hC 16 5 2 fw_X6_21 rfl dX6_apply_173 (rfl : 173 + 3 = 176) ?_
        obtain ⟨ty_14, h⟩ := h
        refine r_geti hC (σ_13.2.2 16 2) 4 3 fw_X6_56 ty_14 dX6_apply_176 (rfl : 176 + 3 = 179) ?_
        refine r_iconst hC dX6_apply_179 (rfl : 179 + 1 = 180) (v := 1) (by decide) ?_
        refine r_isub hC dX6_apply_180 (rfl : 180 + 1 = 181) ?_
        refine r_iload hC 5 dX6_apply_181 (rfl : 181 + 2 = 183) rfl ?_
        refine r_isub hC dX6_apply_183 (rfl : 183 + 1 = 184) ?_
        refine r_callSi hC cs_X6_76 (by omega) (mX4_fire hC.2.2.2.2.2.2.2.2.1 (k := k - 1) (by omega) (σ_13.2.2 16 3) (σ_13.1 17 (Int32.toNatClampNeg x7)) x1 x2 (((σ_13.1 (σ_13.2.2 16 2) 3) - 1) - x5) σ_13 _ h) rfl rfl (Nat.le_of_ble_eq_true rfl) dX6_apply_184 (rfl : 184 + 3 = 187) (fun r_16 σ_15 h => ?_)
        refine r_if_eq hC dX6_apply_187 (rfl : 187 + 3 = 190) (tgt := 193) (by decide) (fun q => ?_) (fun q => ?_)
        · replace h := if_t h q
          exact (sX6_apply_193 rfl hC hk K15 (wX6_apply_112 K15 Q n) Q h15 ih x1 x2 x3 x7 x5 x7 σ_15 h).sub [1, 2, 3, 4, 0, 5, 6] rfl
        · replace h := if_f h q
          obtain ⟨x3_17, e_18, h⟩ := lt_nm h
          refine r_iinc hC (j := 4) dX6_apply_190 (rfl : 190 + 3 = 193) rfl (zz := 1) (by decide) e_18 (by decide) (lv2 := [(3, .int x3_17), (4, .int x7), (0, .ref (G.1 16)), (1, .int x1), (2, .int x2), (5, .int x5), (7, .int x7)]) rfl ?_
          exact (sX6_apply_193 rfl hC hk K15 (wX6_apply_112 K15 Q n) Q h15 ih x1 x2 x3_17 x7 x5 x7 σ_15 h).sub [2, 3, 4, 0, 1, 5, 6] rfl
      · replace h := if_f h q
        refine r_goto hC dX6_apply_138 (tgt := 199) (by decide) ?_
        exact (sX6_apply_199 rfl hC hk K15 Q h15 x1 x2 x3 x4 x5 σ_10 h).sub [0, 1, 2, 3, 4, 5] rfl
set_option maxHeartbeats 1000000 in
set_option maxRecDepth 100000 in
theorem sX6_apply_15 {G : Gx} {b k : Nat} {K : Kx} {l : Launch} (hl : K.2.1 = l) (hC : Cx YC G b K cX6_apply RX6 8 (some .int) k)  (hk : 4 ≤ k)  (Q : Int32 → Sg → Prop)  : ∀ (n : Nat) (x1 : Int32) (x2 : Int32) (x3 : Int32) (x4 : Int32) (x5 : Int32) (σ : Sg), wX6_apply_15  Q n x1 x2 x3 x4 x5 σ → V YC G K (Zi YC G K Q) 8 σ 15 [(0, .ref (G.1 16)), (1, .int x1), (2, .int x2), (3, .int x3), (4, .int x4), (5, .int x5)] [] := by
  subst hl
  intro n
  induction n with
  | zero =>
    intro x1 x2 x3 x4 x5 σ h
    exact h.elim
  | succ n ih =>
    intro x1 x2 x3 x4 x5 σ h
    have h : wX6_apply_15_b  (wX6_apply_15  Q n) x1 x2 x3 x4 x5 σ Q := h
    unfold wX6_apply_15_b at h
    refine r_iload hC 5 dX6_apply_15 (rfl : 15 + 2 = 17) rfl ?_
    refine r_aload_n hC 0 dX6_apply_17 (rfl : 17 + 1 = 18) rfl rfl ?_
    refine r_getd hC 16 5 2 fw_X6_21 rfl dX6_apply_18 (rfl : 18 + 3 = 21) ?_
    obtain ⟨ty_19, h⟩ := h
    refine r_geti hC (σ.2.2 16 2) 4 3 fw_X6_56 ty_19 dX6_apply_21 (rfl : 21 + 3 = 24) ?_
    refine r_icmp_ge hC dX6_apply_24 (rfl : 24 + 3 = 27) (tgt := 205) (by decide) (fun q => ?_) (fun q => ?_)
    · replace h := if_t h q
      exact (sX6_apply_205 rfl hC hk  Q  x3 σ h).sub [0, 3] rfl
    · replace h := if_f h q
      refine r_iload hC 4 dX6_apply_27 (rfl : 27 + 2 = 29) rfl ?_
      refine r_sipush hC dX6_apply_29 (rfl : 29 + 3 = 32) (v := 200) (by decide) ?_
      refine r_icmp_ge hC dX6_apply_32 (rfl : 32 + 3 = 35) (tgt := 205) (by decide) (fun q => ?_) (fun q => ?_)
      · replace h := if_t h q
        exact (sX6_apply_205 rfl hC hk  Q  x3 σ h).sub [0, 3] rfl
      · replace h := if_f h q
        refine r_aload_n hC 0 dX6_apply_35 (rfl : 35 + 1 = 36) rfl rfl ?_
        refine r_getd hC 16 5 2 fw_X6_21 rfl dX6_apply_36 (rfl : 36 + 3 = 39) ?_
        refine r_iload hC 5 dX6_apply_39 (rfl : 39 + 2 = 41) rfl ?_
        refine r_callVi hC cs_X6_59 ty_19 (by omega) (mX5_kindOf hC.2.2.2.2.2.2.2.2.1 (k := k - 1) (by omega) (σ.2.2 16 2) x5 σ _ h) rfl rfl (Nat.le_of_ble_eq_true rfl) dX6_apply_41 (rfl : 41 + 3 = 44) (fun r_21 σ_20 h => ?_)
        refine r_istore hC dX6_apply_44 (rfl : 44 + 2 = 46) (by decide) rfl (lv2 := [(6, .int r_21), (0, .ref (G.1 16)), (1, .int x1), (2, .int x2), (3, .int x3), (4, .int x4), (5, .int x5)]) rfl ?_
        refine r_aload_n hC 1 dX6_apply_46 (rfl : 46 + 1 = 47) rfl rfl ?_
        refine r_getd hC 16 5 3 fw_X6_25 rfl dX6_apply_47 (rfl : 47 + 3 = 50) ?_
        refine r_iload hC 0 dX6_apply_50 (rfl : 50 + 2 = 52) rfl ?_
        refine r_aload_n hC 1 dX6_apply_52 (rfl : 52 + 1 = 53) rfl rfl ?_
        refine r_getd hC 16 5 2 fw_X6_21 rfl dX6_apply_53 (rfl : 53 + 3 = 56) ?_
        refine r_iload hC 6 dX6_apply_56 (rfl : 56 + 2 = 58) rfl ?_
        obtain ⟨ty_22, h⟩ := h
        refine r_callVi hC cs_X6_62 ty_22 (by omega) (mX5_numberOf hC.2.2.2.2.2.2.2.2.1 (k := k - 1) (by omega) (σ_20.2.2 16 2) x5 σ_20 _ h) rfl rfl (Nat.le_of_ble_eq_true rfl) dX6_apply_58 (rfl : 58 + 3 = 61) (fun r_24 σ_23 h => ?_)
        obtain ⟨ty_25, h⟩ := h
        refine r_callVv hC cs_X6_65 ty_25 (by omega) (mX5_append hC.2.2.2.2.2.2.2.2.1 (k := k - 1) (by omega) (σ_20.2.2 16 3) r_21 r_24 σ_23 _ h) rfl rfl (Nat.le_of_ble_eq_true rfl) dX6_apply_61 (rfl : 61 + 3 = 64) (fun  σ_26 h => ?_)
        refine r_iload hC 0 dX6_apply_64 (rfl : 64 + 2 = 66) rfl ?_
        refine r_callSi hC cs_X6_69 (by omega) (mX7_partsOf hC.2.2.2.2.2.2.2.2.1 (k := k - 1) (by omega) r_21 σ_26 _ h) rfl rfl (Nat.le_of_ble_eq_true rfl) dX6_apply_66 (rfl : 66 + 3 = 69) (fun r_28 σ_27 h => ?_)
        refine r_if_le hC dX6_apply_69 (rfl : 69 + 3 = 72) (tgt := 106) (by decide) (fun q => ?_) (fun q => ?_)
        · replace h := if_t h q
          refine r_iload hC 5 dX6_apply_106 (rfl : 106 + 2 = 108) rfl ?_
          refine r_iconst hC dX6_apply_108 (rfl : 108 + 1 = 109) (v := 1) (by decide) ?_
          refine r_isub hC dX6_apply_109 (rfl : 109 + 1 = 110) ?_
          obtain ⟨x7_29, e_30, h⟩ := lt_nm h
          refine r_istore hC dX6_apply_110 (rfl : 110 + 2 = 112) (by decide) e_30 (lv2 := [(7, .int x7_29), (6, .int r_21), (0, .ref (G.1 16)), (1, .int x1), (2, .int x2), (3, .int x3), (4, .int x4), (5, .int x5)]) rfl ?_
          obtain ⟨nn, h⟩ := h
          exact (sX6_apply_112 rfl hC hk (wX6_apply_15  Q n) Q ih nn x1 x2 x3 x4 x5 x7_29 σ_27 h).sub [2, 3, 4, 5, 6, 7, 0] rfl
        · replace h := if_f h q
          refine r_aload_n hC 1 dX6_apply_72 (rfl : 72 + 1 = 73) rfl rfl ?_
          refine r_getr hC 16 5 0 17 (o := 1) fw_X6_9 rfl rfl dX6_apply_73 (rfl : 73 + 3 = 76) ?_
          refine r_iload hC 5 dX6_apply_76 (rfl : 76 + 2 = 78) rfl ?_
          refine r_aload_n hC 1 dX6_apply_78 (rfl : 78 + 1 = 79) rfl rfl ?_
          refine r_getd hC 16 5 3 fw_X6_25 rfl dX6_apply_79 (rfl : 79 + 3 = 82) ?_
          obtain ⟨ty_31, h⟩ := h
          refine r_geti hC (σ_27.2.2 16 3) 4 3 fw_X6_56 ty_31 dX6_apply_82 (rfl : 82 + 3 = 85) ?_
          refine r_iconst hC dX6_apply_85 (rfl : 85 + 1 = 86) (v := 1) (by decide) ?_
          refine r_isub hC dX6_apply_86 (rfl : 86 + 1 = 87) ?_
          obtain ⟨q_32, h⟩ := h
          obtain ⟨σ_33, e_34, h⟩ := lt_nm h
          refine r_iast hC 17 rfl q_32 e_34 dX6_apply_87 (rfl : 87 + 1 = 88) ?_
          refine r_aload_n hC 1 dX6_apply_88 (rfl : 88 + 1 = 89) rfl rfl ?_
          refine r_getr hC 16 5 1 18 (o := 2) fw_X6_15 rfl rfl dX6_apply_89 (rfl : 89 + 3 = 92) ?_
          refine r_iload hC 5 dX6_apply_92 (rfl : 92 + 2 = 94) rfl ?_
          refine r_iload hC 0 dX6_apply_94 (rfl : 94 + 2 = 96) rfl ?_
          refine r_callSi hC cs_X6_69 (by omega) (mX7_partsOf hC.2.2.2.2.2.2.2.2.1 (k := k - 1) (by omega) r_21 σ_33 _ h) rfl rfl (Nat.le_of_ble_eq_true rfl) dX6_apply_96 (rfl : 96 + 3 = 99) (fun r_36 σ_35 h => ?_)
          obtain ⟨σ_37, e_38, h⟩ := lt_nm h
          refine r_iast hC 18 rfl q_32 e_38 dX6_apply_99 (rfl : 99 + 1 = 100) ?_
          obtain ⟨x4_39, e_40, h⟩ := lt_nm h
          refine r_iinc hC (j := 5) dX6_apply_100 (rfl : 100 + 3 = 103) rfl (zz := 1) (by decide) e_40 (by decide) (lv2 := [(4, .int x4_39), (6, .int r_21), (0, .ref (G.1 16)), (1, .int x1), (2, .int x2), (3, .int x3), (5, .int x5)]) rfl ?_
          refine r_goto hC dX6_apply_103 (tgt := 199) (by decide) ?_
          exact (sX6_apply_199 rfl hC hk (wX6_apply_15  Q n) Q ih x1 x2 x3 x4_39 x5 σ_37 h).sub [2, 3, 4, 5, 0, 6] rfl
set_option maxHeartbeats 1000000 in
set_option maxRecDepth 100000 in
theorem mX6_apply {G : Gx} {b k : Nat} {l : Launch} (hS : Sok YC G)  (hk : 4 ≤ k) (x1 : Int32) (x2 : Int32) (σ : Sg) (Q : Int32 → Sg → Prop) (h : wX6_apply  x1 x2 σ Q) : Mi YC G b l yX6_apply cX6_apply 8 .int k [.ref (G.1 16), .int x1, .int x2] σ Q := by
  refine enter hS (by decide +kernel) (Nat.le_of_ble_eq_true rfl) (lv := [(0, .ref (G.1 16)), (1, .int x1), (2, .int x2)]) rfl (fun K hl hC => ?_)
  subst hl
  unfold wX6_apply at h
  show V YC G K (Zi YC G K Q) 8 σ 0 [(0, .ref (G.1 16)), (1, .int x1), (2, .int x2)] []
  refine r_iconst hC dX6_apply_0 (rfl : 0 + 1 = 1) (v := 0) (by decide) ?_
  refine r_istore_n hC dX6_apply_1 (rfl : 1 + 1 = 2) rfl (by decide) rfl (lv2 := [(3, .int 0), (0, .ref (G.1 16)), (1, .int x1), (2, .int x2)]) rfl ?_
  refine r_iconst hC dX6_apply_2 (rfl : 2 + 1 = 3) (v := 0) (by decide) ?_
  refine r_istore hC dX6_apply_3 (rfl : 3 + 2 = 5) (by decide) rfl (lv2 := [(4, .int 0), (3, .int 0), (0, .ref (G.1 16)), (1, .int x1), (2, .int x2)]) rfl ?_
  refine r_aload_n hC 2 dX6_apply_5 (rfl : 5 + 1 = 6) rfl rfl ?_
  refine r_getd hC 16 5 3 fw_X6_25 rfl dX6_apply_6 (rfl : 6 + 3 = 9) ?_
  obtain ⟨ty_41, h⟩ := h
  refine r_callVv hC cs_X6_53 ty_41 (by omega) (mX5_clear hC.2.2.2.2.2.2.2.2.1 (k := k - 1) (by omega) (σ.2.2 16 3) σ _ h) rfl rfl (Nat.le_of_ble_eq_true rfl) dX6_apply_9 (rfl : 9 + 3 = 12) (fun  σ_42 h => ?_)
  refine r_iconst hC dX6_apply_12 (rfl : 12 + 1 = 13) (v := 0) (by decide) ?_
  refine r_istore hC dX6_apply_13 (rfl : 13 + 2 = 15) (by decide) rfl (lv2 := [(5, .int 0), (4, .int 0), (3, .int 0), (0, .ref (G.1 16)), (1, .int x1), (2, .int x2)]) rfl ?_
  obtain ⟨nn, h⟩ := h
  exact (sX6_apply_15 rfl hC hk  Q  nn x1 x2 0 0 0 σ_42 h).sub [3, 4, 5, 2, 1, 0] rfl
set_option maxHeartbeats 1000000 in
set_option maxRecDepth 100000 in
theorem mX7_nth {G : Gx} {b k : Nat} {l : Launch} (hS : Sok YC G)  (hk : 6 ≤ k) (x1 : Int32) (x2 : Int32) (x3 : Int64) (σ : Sg) (Q : Int32 → Sg → Prop) (h : wX7_nth  x1 x2 x3 σ Q) : Mi YC G b l yX7_nth cX7_nth 6 .int k [.ref (G.1 0), .int x1, .int x2, .long x3] σ Q := by
  refine enter hS (by decide +kernel) (Nat.le_of_ble_eq_true rfl) (lv := [(0, .ref (G.1 0)), (1, .int x1), (2, .int x2), (3, .long x3)]) rfl (fun K hl hC => ?_)
  subst hl
  unfold wX7_nth at h
  show V YC G K (Zi YC G K Q) 6 σ 0 [(0, .ref (G.1 0)), (1, .int x1), (2, .int x2), (3, .long x3)] []
  refine r_aload_n hC 0 dX7_nth_0 (rfl : 0 + 1 = 1) rfl rfl ?_
  refine r_iload_n hC 1 dX7_nth_1 (rfl : 1 + 1 = 2) rfl rfl ?_
  refine r_callVq hC cs_X7_85 rfl (by omega) (mX7_placeAt hC.2.2.2.2.2.2.2.2.1 (k := k - 1) (by omega) x1 σ _ h) rfl rfl (Nat.le_of_ble_eq_true rfl) dX7_nth_2 (rfl : 2 + 3 = 5) (fun o_2 σ_1 h => ?_)
  refine r_astoreQ hC dX7_nth_5 (rfl : 5 + 2 = 7) (by decide) (lv2 := [(5, rv G o_2), (0, .ref (G.1 0)), (1, .int x1), (2, .int x2), (3, .long x3)]) rfl ?_
  refine r_aloadQ hC 0 dX7_nth_7 (rfl : 7 + 2 = 9) rfl ?_
  refine r_ifnull hC dX7_nth_9 (rfl : 9 + 3 = 12) (tgt := 41) (by decide) (fun q => ?_) (fun z_3 q => ?_)
  · subst q
    replace h := h.1 rfl
    refine r_iconst hC dX7_nth_41 (rfl : 41 + 1 = 42) (v := -1) (by decide) ?_
    exact r_iret hC rfl h dX7_nth_42
  · subst q
    replace h := h.2 z_3 rfl
    refine r_iload_n hC 3 dX7_nth_12 (rfl : 12 + 1 = 13) rfl rfl ?_
    refine r_iconst hC dX7_nth_13 (rfl : 13 + 1 = 14) (v := 1) (by decide) ?_
    refine r_bipush hC dX7_nth_14 (rfl : 14 + 2 = 16) (v := 15) (by decide) ?_
    refine r_callSi hC cs_X7_75 (by omega) (mX7_within hC.2.2.2.2.2.2.2.2.1 (k := k - 1) (by omega) x2 1 15 σ_1 _ h) rfl rfl (Nat.le_of_ble_eq_true rfl) dX7_nth_16 (rfl : 16 + 3 = 19) (fun r_5 σ_4 h => ?_)
    refine r_if_eq hC dX7_nth_19 (rfl : 19 + 3 = 22) (tgt := 41) (by decide) (fun q => ?_) (fun q => ?_)
    · replace h := if_t h q
      refine r_iconst hC dX7_nth_41 (rfl : 41 + 1 = 42) (v := -1) (by decide) ?_
      exact r_iret hC rfl h dX7_nth_42
    · replace h := if_f h q
      refine r_lload_n hC 4 dX7_nth_22 (rfl : 22 + 1 = 23) rfl rfl ?_
      refine r_lconst hC dX7_nth_23 (rfl : 23 + 1 = 24) (v := 0) (by decide) ?_
      refine r_lcmp hC dX7_nth_24 (rfl : 24 + 1 = 25) ?_
      refine r_if_lt hC dX7_nth_25 (rfl : 25 + 3 = 28) (tgt := 41) (by decide) (fun q => ?_) (fun q => ?_)
      · replace h := if_t h ((lg_cmp_lt _ _).1 q)
        refine r_iconst hC dX7_nth_41 (rfl : 41 + 1 = 42) (v := -1) (by decide) ?_
        exact r_iret hC rfl h dX7_nth_42
      · replace h := if_f h (fun z => q ((lg_cmp_lt _ _).2 z))
        refine r_lload_n hC 4 dX7_nth_28 (rfl : 28 + 1 = 29) rfl rfl ?_
        refine r_aload_n hC 1 dX7_nth_29 (rfl : 29 + 1 = 30) rfl rfl ?_
        refine r_getr hC 0 6 0 1 (o := 1) fw_X7_10 rfl rfl dX7_nth_30 (rfl : 30 + 3 = 33) ?_
        refine r_iload_n hC 3 dX7_nth_33 (rfl : 33 + 1 = 34) rfl rfl ?_
        refine r_callVl hC cs_X7_79 rfl (by omega) (mX1_howMany hC.2.2.2.2.2.2.2.2.1 (k := k - 1) (by omega) x2 σ_4 _ h) rfl rfl (Nat.le_of_ble_eq_true rfl) dX7_nth_34 (rfl : 34 + 3 = 37) (fun r_7 σ_6 h => ?_)
        refine r_lcmp hC dX7_nth_37 (rfl : 37 + 1 = 38) ?_
        refine r_if_lt hC dX7_nth_38 (rfl : 38 + 3 = 41) (tgt := 43) (by decide) (fun q => ?_) (fun q => ?_)
        · replace h := if_t h ((lg_cmp_lt _ _).1 q)
          refine r_aload_n hC 1 dX7_nth_43 (rfl : 43 + 1 = 44) rfl rfl ?_
          refine r_getr hC 0 6 0 1 (o := 1) fw_X7_10 rfl rfl dX7_nth_44 (rfl : 44 + 3 = 47) ?_
          refine r_aload hC 0 dX7_nth_47 (rfl : 47 + 2 = 49) rfl ?_
          refine r_iload_n hC 3 dX7_nth_49 (rfl : 49 + 1 = 50) rfl rfl ?_
          refine r_lload_n hC 4 dX7_nth_50 (rfl : 50 + 1 = 51) rfl rfl ?_
          refine r_callVv hC cs_X7_89 rfl (by omega) (mX1_unfold hC.2.2.2.2.2.2.2.2.1 (k := k - 1) (by omega) z_3 x2 x3 σ_6 _ h) rfl rfl (Nat.le_of_ble_eq_true rfl) dX7_nth_51 (rfl : 51 + 3 = 54) (fun  σ_8 h => ?_)
          refine r_aload hC 0 dX7_nth_54 (rfl : 54 + 2 = 56) rfl ?_
          obtain ⟨ty_9, h⟩ := h
          refine r_geti hC z_3 4 3 fw_X7_93 ty_9 dX7_nth_56 (rfl : 56 + 3 = 59) ?_
          exact r_iret hC rfl h dX7_nth_59
        · replace h := if_f h (fun z => q ((lg_cmp_lt _ _).2 z))
          refine r_iconst hC dX7_nth_41 (rfl : 41 + 1 = 42) (v := -1) (by decide) ?_
          exact r_iret hC rfl h dX7_nth_42
set_option maxHeartbeats 1000000 in
set_option maxRecDepth 100000 in
theorem mX7_number {G : Gx} {b k : Nat} {l : Launch} (hS : Sok YC G)  (hk : 6 ≤ k) (x1 : Int32) (σ : Sg) (Q : Int64 → Sg → Prop) (h : wX7_number  x1 σ Q) : Ml YC G b l yX7_number cX7_number 3 k [.ref (G.1 0), .int x1] σ Q := by
  refine enter hS (by decide +kernel) (Nat.le_of_ble_eq_true rfl) (lv := [(0, .ref (G.1 0)), (1, .int x1)]) rfl (fun K hl hC => ?_)
  subst hl
  unfold wX7_number at h
  show V YC G K (Zl YC G K Q) 3 σ 0 [(0, .ref (G.1 0)), (1, .int x1)] []
  refine r_aload_n hC 0 dX7_number_0 (rfl : 0 + 1 = 1) rfl rfl ?_
  refine r_iload_n hC 1 dX7_number_1 (rfl : 1 + 1 = 2) rfl rfl ?_
  refine r_callVq hC cs_X7_96 rfl (by omega) (mX7_programAt hC.2.2.2.2.2.2.2.2.1 (k := k - 1) (by omega) x1 σ _ h) rfl rfl (Nat.le_of_ble_eq_true rfl) dX7_number_2 (rfl : 2 + 3 = 5) (fun o_2 σ_1 h => ?_)
  refine r_astore_nQ hC dX7_number_5 (rfl : 5 + 1 = 6) rfl (by decide) (lv2 := [(2, rv G o_2), (0, .ref (G.1 0)), (1, .int x1)]) rfl ?_
  refine r_aload_nQ hC 0 dX7_number_6 (rfl : 6 + 1 = 7) rfl rfl ?_
  refine r_ifnonnull hC dX7_number_7 (rfl : 7 + 3 = 10) (tgt := 14) (by decide) (fun z_3 q => ?_) (fun q => ?_)
  · subst q
    replace h := h.2 z_3 rfl
    refine r_aload_n hC 1 dX7_number_14 (rfl : 14 + 1 = 15) rfl rfl ?_
    refine r_getr hC 0 6 0 1 (o := 1) fw_X7_10 rfl rfl dX7_number_15 (rfl : 15 + 3 = 18) ?_
    refine r_aload_n hC 0 dX7_number_18 (rfl : 18 + 1 = 19) rfl rfl ?_
    refine r_callVi hC cs_X7_99 rfl (by omega) (mX1_isNumbered hC.2.2.2.2.2.2.2.2.1 (k := k - 1) (by omega) z_3 σ_1 _ h) rfl rfl (Nat.le_of_ble_eq_true rfl) dX7_number_19 (rfl : 19 + 3 = 22) (fun r_5 σ_4 h => ?_)
    refine r_if_eq hC dX7_number_22 (rfl : 22 + 3 = 25) (tgt := 36) (by decide) (fun q => ?_) (fun q => ?_)
    · replace h := if_t h q
      refine r_ldc2 hC dX7_number_36 (rfl : 36 + 3 = 39) wd_415 ?_
      exact r_lret hC rfl h dX7_number_39
    · replace h := if_f h q
      refine r_aload_n hC 1 dX7_number_25 (rfl : 25 + 1 = 26) rfl rfl ?_
      refine r_getr hC 0 6 0 1 (o := 1) fw_X7_10 rfl rfl dX7_number_26 (rfl : 26 + 3 = 29) ?_
      refine r_aload_n hC 0 dX7_number_29 (rfl : 29 + 1 = 30) rfl rfl ?_
      refine r_callVl hC cs_X7_103 rfl (by omega) (mX1_rank hC.2.2.2.2.2.2.2.2.1 (k := k - 1) (by omega) z_3 σ_4 _ h) rfl rfl (Nat.le_of_ble_eq_true rfl) dX7_number_30 (rfl : 30 + 3 = 33) (fun r_7 σ_6 h => ?_)
      refine r_goto hC dX7_number_33 (tgt := 39) (by decide) ?_
      exact r_lret hC rfl h dX7_number_39
  · subst q
    replace h := h.1 rfl
    refine r_ldc2 hC dX7_number_10 (rfl : 10 + 3 = 13) wd_315 ?_
    exact r_lret hC rfl h dX7_number_13
set_option maxHeartbeats 1000000 in
set_option maxRecDepth 100000 in
theorem mX7_value {G : Gx} {b k : Nat} {l : Launch} (hS : Sok YC G)  (hk : 4 ≤ k) (x1 : Int32) (x2 : Int32) (x3 : Int32) (σ : Sg) (Q : Int32 → Sg → Prop) (h : wX7_value  x1 x2 x3 σ Q) : Mi YC G b l yX7_value cX7_value 5 .int k [.ref (G.1 0), .int x1, .int x2, .int x3] σ Q := by
  refine enter hS (by decide +kernel) (Nat.le_of_ble_eq_true rfl) (lv := [(0, .ref (G.1 0)), (1, .int x1), (2, .int x2), (3, .int x3)]) rfl (fun K hl hC => ?_)
  subst hl
  unfold wX7_value at h
  show V YC G K (Zi YC G K Q) 5 σ 0 [(0, .ref (G.1 0)), (1, .int x1), (2, .int x2), (3, .int x3)] []
  refine r_aload_n hC 0 dX7_value_0 (rfl : 0 + 1 = 1) rfl rfl ?_
  refine r_iload_n hC 1 dX7_value_1 (rfl : 1 + 1 = 2) rfl rfl ?_
  refine r_callVq hC cs_X7_96 rfl (by omega) (mX7_programAt hC.2.2.2.2.2.2.2.2.1 (k := k - 1) (by omega) x1 σ _ h) rfl rfl (Nat.le_of_ble_eq_true rfl) dX7_value_2 (rfl : 2 + 3 = 5) (fun o_2 σ_1 h => ?_)
  refine r_astoreQ hC dX7_value_5 (rfl : 5 + 2 = 7) (by decide) (lv2 := [(4, rv G o_2), (0, .ref (G.1 0)), (1, .int x1), (2, .int x2), (3, .int x3)]) rfl ?_
  refine r_aloadQ hC 0 dX7_value_7 (rfl : 7 + 2 = 9) rfl ?_
  refine r_ifnonnull hC dX7_value_9 (rfl : 9 + 3 = 12) (tgt := 15) (by decide) (fun z_3 q => ?_) (fun q => ?_)
  · subst q
    replace h := h.2 z_3 rfl
    refine r_aload_n hC 1 dX7_value_15 (rfl : 15 + 1 = 16) rfl rfl ?_
    refine r_getr hC 0 6 5 27 (o := 27) fw_X7_45 rfl rfl dX7_value_16 (rfl : 16 + 3 = 19) ?_
    refine r_aload hC 0 dX7_value_19 (rfl : 19 + 2 = 21) rfl ?_
    refine r_callVv hC cs_X7_135 rfl (by omega) (mX0_write hC.2.2.2.2.2.2.2.2.1 (k := k - 1) (by omega) 27 z_3 σ_1 _ h) rfl rfl (Nat.le_of_ble_eq_true rfl) dX7_value_21 (rfl : 21 + 3 = 24) (fun  σ_4 h => ?_)
    refine r_aload_n hC 1 dX7_value_24 (rfl : 24 + 1 = 25) rfl rfl ?_
    refine r_getr hC 0 6 5 27 (o := 27) fw_X7_45 rfl rfl dX7_value_25 (rfl : 25 + 3 = 28) ?_
    refine r_iload_n hC 3 dX7_value_28 (rfl : 28 + 1 = 29) rfl rfl ?_
    refine r_iload_n hC 4 dX7_value_29 (rfl : 29 + 1 = 30) rfl rfl ?_
    refine r_callVi hC cs_X7_138 rfl (by omega) (mX0_run hC.2.2.2.2.2.2.2.2.1 (k := k - 1) (by omega) 27 x2 x3 σ_4 _ h) rfl rfl (Nat.le_of_ble_eq_true rfl) dX7_value_30 (rfl : 30 + 3 = 33) (fun r_6 σ_5 h => ?_)
    refine r_if_eq hC dX7_value_33 (rfl : 33 + 3 = 36) (tgt := 46) (by decide) (fun q => ?_) (fun q => ?_)
    · replace h := if_t h q
      refine r_ldc hC dX7_value_46 (rfl : 46 + 2 = 48) wd_459 ?_
      exact r_iret hC rfl h dX7_value_48
    · replace h := if_f h q
      refine r_aload_n hC 1 dX7_value_36 (rfl : 36 + 1 = 37) rfl rfl ?_
      refine r_getr hC 0 6 5 27 (o := 27) fw_X7_45 rfl rfl dX7_value_37 (rfl : 37 + 3 = 40) ?_
      refine r_geti hC 27 0 10 fw_X7_142 rfl dX7_value_40 (rfl : 40 + 3 = 43) ?_
      refine r_goto hC dX7_value_43 (tgt := 48) (by decide) ?_
      exact r_iret hC rfl h dX7_value_48
  · subst q
    replace h := h.1 rfl
    refine r_ldc hC dX7_value_12 (rfl : 12 + 2 = 14) wd_459 ?_
    exact r_iret hC rfl h dX7_value_14
