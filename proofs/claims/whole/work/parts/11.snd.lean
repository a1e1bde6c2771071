set_option maxHeartbeats 1000000 in
set_option maxRecDepth 100000 in
theorem sX8_make_109 {G : Gx} {b k : Nat} {K : Kx} {l : Launch} (hl : K.2.1 = l) (hC : Cx YM G b K cX8_make RX8 6 (some .int) k)  (hk : 0 ≤ k)  (Q : Int32 → Sg → Prop)  (s1 : Int32) (s2 : Int32) (s3 : Int32) (σ : Sg) (h : wX8_make_109  s1 s2 s3 σ Q) : V YM G K (Zi YM G K Q) 6 σ 109 [(0, .ref (G.1 0))] [.int s3, .int s2, .int s1, .ref (G.1 6)] := by
  subst hl
  unfold wX8_make_109 at h
  refine r_iadd hC dX8_make_109 (rfl : 109 + 1 = 110) ?_
  obtain ⟨q_1, h⟩ := h
  obtain ⟨σ_2, e_3, h⟩ := lt_nm h
  refine r_iast hC 6 rfl q_1 e_3 dX8_make_110 (rfl : 110 + 1 = 111) ?_
  refine r_aload_n hC 0 dX8_make_111 (rfl : 111 + 1 = 112) rfl rfl ?_
  refine r_dup hC dX8_make_112 (rfl : 112 + 1 = 113) rfl ?_
  refine r_geti hC 0 7 1 fw_X8_93 rfl dX8_make_113 (rfl : 113 + 3 = 116) ?_
  refine r_iconst hC dX8_make_116 (rfl : 116 + 1 = 117) (v := 1) (by decide) ?_
  refine r_iadd hC dX8_make_117 (rfl : 117 + 1 = 118) ?_
  obtain ⟨σ_4, e_5, h⟩ := lt_nm h
  refine r_puti hC 0 7 1 fw_X8_93 fp_8_1 rfl e_5 dX8_make_118 (rfl : 118 + 3 = 121) ?_
  refine r_aload_n hC 0 dX8_make_121 (rfl : 121 + 1 = 122) rfl rfl ?_
  refine r_geti hC 0 7 1 fw_X8_93 rfl dX8_make_122 (rfl : 122 + 3 = 125) ?_
  refine r_iconst hC dX8_make_125 (rfl : 125 + 1 = 126) (v := 1) (by decide) ?_
  refine r_isub hC dX8_make_126 (rfl : 126 + 1 = 127) ?_
  exact r_iret hC rfl h dX8_make_127
set_option maxHeartbeats 1000000 in
set_option maxRecDepth 100000 in
theorem sX8_make_92 {G : Gx} {b k : Nat} {K : Kx} {l : Launch} (hl : K.2.1 = l) (hC : Cx YM G b K cX8_make RX8 6 (some .int) k)  (hk : 0 ≤ k)  (Q : Int32 → Sg → Prop)  (x5 : Int32) (s1 : Int32) (s2 : Int32) (s3 : Int32) (σ : Sg) (h : wX8_make_92  x5 s1 s2 s3 σ Q) : V YM G K (Zi YM G K Q) 6 σ 92 [(0, .ref (G.1 0)), (5, .int x5)] [.int s3, .int s2, .int s1, .ref (G.1 6)] := by
  subst hl
  unfold wX8_make_92 at h
  refine r_iadd hC dX8_make_92 (rfl : 92 + 1 = 93) ?_
  refine r_iload hC 1 dX8_make_93 (rfl : 93 + 2 = 95) rfl ?_
  refine r_if_ge hC dX8_make_95 (rfl : 95 + 3 = 98) (tgt := 102) (by decide) (fun q => ?_) (fun q => ?_)
  · replace h := if_t h q
    refine r_aload_n hC 0 dX8_make_102 (rfl : 102 + 1 = 103) rfl rfl ?_
    refine r_getr hC 0 7 7 6 (o := 6) fw_X8_25 rfl rfl dX8_make_103 (rfl : 103 + 3 = 106) ?_
    refine r_iload hC 1 dX8_make_106 (rfl : 106 + 2 = 108) rfl ?_
    obtain ⟨q_6, h⟩ := h
    refine r_iald hC 6 rfl q_6 dX8_make_108 (rfl : 108 + 1 = 109) ?_
    exact (sX8_make_109 rfl hC hk  Q  s1 (s2 + s3) (σ.1 6 (Int32.toNatClampNeg x5)) σ h).sub [0] rfl
  · replace h := if_f h q
    refine r_iconst hC dX8_make_98 (rfl : 98 + 1 = 99) (v := 0) (by decide) ?_
    refine r_goto hC dX8_make_99 (tgt := 109) (by decide) ?_
    exact (sX8_make_109 rfl hC hk  Q  s1 (s2 + s3) 0 σ h).sub [0] rfl
set_option maxHeartbeats 1000000 in
set_option maxRecDepth 100000 in
theorem sX8_make_75 {G : Gx} {b k : Nat} {K : Kx} {l : Launch} (hl : K.2.1 = l) (hC : Cx YM G b K cX8_make RX8 6 (some .int) k)  (hk : 0 ≤ k)  (Q : Int32 → Sg → Prop)  (x4 : Int32) (x5 : Int32) (s1 : Int32) (s2 : Int32) (s3 : Int32) (σ : Sg) (h : wX8_make_75  x4 x5 s1 s2 s3 σ Q) : V YM G K (Zi YM G K Q) 6 σ 75 [(0, .ref (G.1 0)), (4, .int x4), (5, .int x5)] [.int s3, .int s2, .int s1, .ref (G.1 6)] := by
  subst hl
  unfold wX8_make_75 at h
  refine r_iadd hC dX8_make_75 (rfl : 75 + 1 = 76) ?_
  refine r_iload hC 1 dX8_make_76 (rfl : 76 + 2 = 78) rfl ?_
  refine r_if_ge hC dX8_make_78 (rfl : 78 + 3 = 81) (tgt := 85) (by decide) (fun q => ?_) (fun q => ?_)
  · replace h := if_t h q
    refine r_aload_n hC 0 dX8_make_85 (rfl : 85 + 1 = 86) rfl rfl ?_
    refine r_getr hC 0 7 7 6 (o := 6) fw_X8_25 rfl rfl dX8_make_86 (rfl : 86 + 3 = 89) ?_
    refine r_iload hC 1 dX8_make_89 (rfl : 89 + 2 = 91) rfl ?_
    obtain ⟨q_7, h⟩ := h
    refine r_iald hC 6 rfl q_7 dX8_make_91 (rfl : 91 + 1 = 92) ?_
    exact (sX8_make_92 rfl hC hk  Q  x5 s1 (s2 + s3) (σ.1 6 (Int32.toNatClampNeg x4)) σ h).sub [0, 2] rfl
  · replace h := if_f h q
    refine r_iconst hC dX8_make_81 (rfl : 81 + 1 = 82) (v := 0) (by decide) ?_
    refine r_goto hC dX8_make_82 (tgt := 92) (by decide) ?_
    exact (sX8_make_92 rfl hC hk  Q  x5 s1 (s2 + s3) 0 σ h).sub [0, 2] rfl
set_option maxHeartbeats 1000000 in
set_option maxRecDepth 100000 in
theorem mX8_make {G : Gx} {b k : Nat} {l : Launch} (hS : Sok YM G)  (hk : 0 ≤ k) (x1 : Int32) (x2 : Int32) (x3 : Int32) (x4 : Int32) (x5 : Int32) (σ : Sg) (Q : Int32 → Sg → Prop) (h : wX8_make  x1 x2 x3 x4 x5 σ Q) : Mi YM G b l yX8_make cX8_make 6 .int k [.ref (G.1 0), .int x1, .int x2, .int x3, .int x4, .int x5] σ Q := by
  refine enter hS (by decide +kernel) (Nat.le_of_ble_eq_true rfl) (lv := [(0, .ref (G.1 0)), (1, .int x1), (2, .int x2), (3, .int x3), (4, .int x4), (5, .int x5)]) rfl (fun K hl hC => ?_)
  subst hl
  unfold wX8_make at h
  show V YM G K (Zi YM G K Q) 6 σ 0 [(0, .ref (G.1 0)), (1, .int x1), (2, .int x2), (3, .int x3), (4, .int x4), (5, .int x5)] []
  refine r_aload_n hC 0 dX8_make_0 (rfl : 0 + 1 = 1) rfl rfl ?_
  refine r_getr hC 0 7 2 1 (o := 1) fw_X8_7 rfl rfl dX8_make_1 (rfl : 1 + 3 = 4) ?_
  refine r_aload_n hC 0 dX8_make_4 (rfl : 4 + 1 = 5) rfl rfl ?_
  refine r_geti hC 0 7 1 fw_X8_93 rfl dX8_make_5 (rfl : 5 + 3 = 8) ?_
  refine r_iload_n hC 1 dX8_make_8 (rfl : 8 + 1 = 9) rfl rfl ?_
  obtain ⟨q_8, h⟩ := h
  obtain ⟨σ_9, e_10, h⟩ := lt_nm h
  refine r_iast hC 1 rfl q_8 e_10 dX8_make_9 (rfl : 9 + 1 = 10) ?_
  refine r_aload_n hC 0 dX8_make_10 (rfl : 10 + 1 = 11) rfl rfl ?_
  refine r_getr hC 0 7 3 2 (o := 2) fw_X8_13 rfl rfl dX8_make_11 (rfl : 11 + 3 = 14) ?_
  refine r_aload_n hC 0 dX8_make_14 (rfl : 14 + 1 = 15) rfl rfl ?_
  refine r_geti hC 0 7 1 fw_X8_93 rfl dX8_make_15 (rfl : 15 + 3 = 18) ?_
  refine r_iload_n hC 2 dX8_make_18 (rfl : 18 + 1 = 19) rfl rfl ?_
  obtain ⟨q_11, h⟩ := h
  obtain ⟨σ_12, e_13, h⟩ := lt_nm h
  refine r_iast hC 2 rfl q_11 e_13 dX8_make_19 (rfl : 19 + 1 = 20) ?_
  refine r_aload_n hC 0 dX8_make_20 (rfl : 20 + 1 = 21) rfl rfl ?_
  refine r_getr hC 0 7 4 3 (o := 3) fw_X8_16 rfl rfl dX8_make_21 (rfl : 21 + 3 = 24) ?_
  refine r_aload_n hC 0 dX8_make_24 (rfl : 24 + 1 = 25) rfl rfl ?_
  refine r_geti hC 0 7 1 fw_X8_93 rfl dX8_make_25 (rfl : 25 + 3 = 28) ?_
  refine r_iload_n hC 3 dX8_make_28 (rfl : 28 + 1 = 29) rfl rfl ?_
  obtain ⟨q_14, h⟩ := h
  obtain ⟨σ_15, e_16, h⟩ := lt_nm h
  refine r_iast hC 3 rfl q_14 e_16 dX8_make_29 (rfl : 29 + 1 = 30) ?_
  refine r_aload_n hC 0 dX8_make_30 (rfl : 30 + 1 = 31) rfl rfl ?_
  refine r_getr hC 0 7 5 4 (o := 4) fw_X8_19 rfl rfl dX8_make_31 (rfl : 31 + 3 = 34) ?_
  refine r_aload_n hC 0 dX8_make_34 (rfl : 34 + 1 = 35) rfl rfl ?_
  refine r_geti hC 0 7 1 fw_X8_93 rfl dX8_make_35 (rfl : 35 + 3 = 38) ?_
  refine r_iload hC 4 dX8_make_38 (rfl : 38 + 2 = 40) rfl ?_
  obtain ⟨q_17, h⟩ := h
  obtain ⟨σ_18, e_19, h⟩ := lt_nm h
  refine r_iast hC 4 rfl q_17 e_19 dX8_make_40 (rfl : 40 + 1 = 41) ?_
  refine r_aload_n hC 0 dX8_make_41 (rfl : 41 + 1 = 42) rfl rfl ?_
  refine r_getr hC 0 7 6 5 (o := 5) fw_X8_22 rfl rfl dX8_make_42 (rfl : 42 + 3 = 45) ?_
  refine r_aload_n hC 0 dX8_make_45 (rfl : 45 + 1 = 46) rfl rfl ?_
  refine r_geti hC 0 7 1 fw_X8_93 rfl dX8_make_46 (rfl : 46 + 3 = 49) ?_
  refine r_iload hC 5 dX8_make_49 (rfl : 49 + 2 = 51) rfl ?_
  obtain ⟨q_20, h⟩ := h
  obtain ⟨σ_21, e_22, h⟩ := lt_nm h
  refine r_iast hC 5 rfl q_20 e_22 dX8_make_51 (rfl : 51 + 1 = 52) ?_
  refine r_aload_n hC 0 dX8_make_52 (rfl : 52 + 1 = 53) rfl rfl ?_
  refine r_getr hC 0 7 7 6 (o := 6) fw_X8_25 rfl rfl dX8_make_53 (rfl : 53 + 3 = 56) ?_
  refine r_aload_n hC 0 dX8_make_56 (rfl : 56 + 1 = 57) rfl rfl ?_
  refine r_geti hC 0 7 1 fw_X8_93 rfl dX8_make_57 (rfl : 57 + 3 = 60) ?_
  refine r_iconst hC dX8_make_60 (rfl : 60 + 1 = 61) (v := 1) (by decide) ?_
  refine r_iload_n hC 3 dX8_make_61 (rfl : 61 + 1 = 62) rfl rfl ?_
  refine r_if_ge hC dX8_make_62 (rfl : 62 + 3 = 65) (tgt := 69) (by decide) (fun q => ?_) (fun q => ?_)
  · replace h := if_t h q
    refine r_aload_n hC 0 dX8_make_69 (rfl : 69 + 1 = 70) rfl rfl ?_
    refine r_getr hC 0 7 7 6 (o := 6) fw_X8_25 rfl rfl dX8_make_70 (rfl : 70 + 3 = 73) ?_
    refine r_iload_n hC 3 dX8_make_73 (rfl : 73 + 1 = 74) rfl rfl ?_
    obtain ⟨q_23, h⟩ := h
    refine r_iald hC 6 rfl q_23 dX8_make_74 (rfl : 74 + 1 = 75) ?_
    exact (sX8_make_75 rfl hC hk  Q  x4 x5 (σ_21.1 0 1) 1 (σ_21.1 6 (Int32.toNatClampNeg x3)) σ_21 h).sub [0, 4, 5] rfl
  · replace h := if_f h q
    refine r_iconst hC dX8_make_65 (rfl : 65 + 1 = 66) (v := 0) (by decide) ?_
    refine r_goto hC dX8_make_66 (tgt := 75) (by decide) ?_
    exact (sX8_make_75 rfl hC hk  Q  x4 x5 (σ_21.1 0 1) 1 0 σ_21 h).sub [0, 4, 5] rfl
set_option maxHeartbeats 1000000 in
set_option maxRecDepth 100000 in
theorem mX8_numeral {G : Gx} {b k : Nat} {l : Launch} (hS : Sok YM G)  (hk : 1 ≤ k) (x1 : Int32) (σ : Sg) (Q : Int32 → Sg → Prop) (h : wX8_numeral  x1 σ Q) : Mi YM G b l yX8_numeral cX8_numeral 2 .int k [.ref (G.1 0), .int x1] σ Q := by
  refine enter hS (by decide +kernel) (Nat.le_of_ble_eq_true rfl) (lv := [(0, .ref (G.1 0)), (1, .int x1)]) rfl (fun K hl hC => ?_)
  subst hl
  unfold wX8_numeral at h
  show V YM G K (Zi YM G K Q) 2 σ 0 [(0, .ref (G.1 0)), (1, .int x1)] []
  refine r_aload_n hC 0 dX8_numeral_0 (rfl : 0 + 1 = 1) rfl rfl ?_
  refine r_iconst hC dX8_numeral_1 (rfl : 1 + 1 = 2) (v := 0) (by decide) ?_
  refine r_iload_n hC 1 dX8_numeral_2 (rfl : 2 + 1 = 3) rfl rfl ?_
  refine r_iconst hC dX8_numeral_3 (rfl : 3 + 1 = 4) (v := -1) (by decide) ?_
  refine r_iconst hC dX8_numeral_4 (rfl : 4 + 1 = 5) (v := -1) (by decide) ?_
  refine r_iconst hC dX8_numeral_5 (rfl : 5 + 1 = 6) (v := -1) (by decide) ?_
  refine r_callVi hC cs_X8_96 rfl (by omega) (mX8_make hC.2.2.2.2.2.2.2.2.1 (k := k - 1) (by omega) 0 x1 (-1) (-1) (-1) σ _ h) rfl rfl (Nat.le_of_ble_eq_true rfl) dX8_numeral_6 (rfl : 6 + 3 = 9) (fun r_2 σ_1 h => ?_)
  exact r_iret hC rfl h dX8_numeral_9
set_option maxHeartbeats 1000000 in
set_option maxRecDepth 100000 in
theorem mX8_pair {G : Gx} {b k : Nat} {l : Launch} (hS : Sok YM G)  (hk : 1 ≤ k) (x1 : Int32) (x2 : Int32) (x3 : Int32) (σ : Sg) (Q : Int32 → Sg → Prop) (h : wX8_pair  x1 x2 x3 σ Q) : Mi YM G b l yX8_pair cX8_pair 4 .int k [.ref (G.1 0), .int x1, .int x2, .int x3] σ Q := by
  refine enter hS (by decide +kernel) (Nat.le_of_ble_eq_true rfl) (lv := [(0, .ref (G.1 0)), (1, .int x1), (2, .int x2), (3, .int x3)]) rfl (fun K hl hC => ?_)
  subst hl
  unfold wX8_pair at h
  show V YM G K (Zi YM G K Q) 4 σ 0 [(0, .ref (G.1 0)), (1, .int x1), (2, .int x2), (3, .int x3)] []
  refine r_aload_n hC 0 dX8_pair_0 (rfl : 0 + 1 = 1) rfl rfl ?_
  refine r_iload_n hC 1 dX8_pair_1 (rfl : 1 + 1 = 2) rfl rfl ?_
  refine r_iconst hC dX8_pair_2 (rfl : 2 + 1 = 3) (v := 0) (by decide) ?_
  refine r_iload_n hC 2 dX8_pair_3 (rfl : 3 + 1 = 4) rfl rfl ?_
  refine r_iload_n hC 3 dX8_pair_4 (rfl : 4 + 1 = 5) rfl rfl ?_
  refine r_iconst hC dX8_pair_5 (rfl : 5 + 1 = 6) (v := -1) (by decide) ?_
  refine r_callVi hC cs_X8_96 rfl (by omega) (mX8_make hC.2.2.2.2.2.2.2.2.1 (k := k - 1) (by omega) x1 0 x2 x3 (-1) σ _ h) rfl rfl (Nat.le_of_ble_eq_true rfl) dX8_pair_6 (rfl : 6 + 3 = 9) (fun r_2 σ_1 h => ?_)
  exact r_iret hC rfl h dX8_pair_9
set_option maxHeartbeats 1000000 in
set_option maxRecDepth 100000 in
theorem mX8_isNumber {G : Gx} {b k : Nat} {l : Launch} (hS : Sok YM G)  (hk : 0 ≤ k) (x1 : Int32) (x2 : Int32) (σ : Sg) (Q : Int32 → Sg → Prop) (h : wX8_isNumber  x1 x2 σ Q) : Mi YM G b l yX8_isNumber cX8_isNumber 3 .boolean k [.ref (G.1 0), .int x1, .int x2] σ Q := by
  refine enter hS (by decide +kernel) (Nat.le_of_ble_eq_true rfl) (lv := [(0, .ref (G.1 0)), (1, .int x1), (2, .int x2)]) rfl (fun K hl hC => ?_)
  subst hl
  unfold wX8_isNumber at h
  show V YM G K (Zi YM G K Q) 3 σ 0 [(0, .ref (G.1 0)), (1, .int x1), (2, .int x2)] []
  refine r_aload_n hC 0 dX8_isNumber_0 (rfl : 0 + 1 = 1) rfl rfl ?_
  refine r_getr hC 0 7 2 1 (o := 1) fw_X8_7 rfl rfl dX8_isNumber_1 (rfl : 1 + 3 = 4) ?_
  refine r_iload_n hC 1 dX8_isNumber_4 (rfl : 4 + 1 = 5) rfl rfl ?_
  obtain ⟨q_1, h⟩ := h
  refine r_iald hC 1 rfl q_1 dX8_isNumber_5 (rfl : 5 + 1 = 6) ?_
  refine r_if_ne hC dX8_isNumber_6 (rfl : 6 + 3 = 9) (tgt := 23) (by decide) (fun q => ?_) (fun q => ?_)
  · replace h := if_f h q
    refine r_iconst hC dX8_isNumber_23 (rfl : 23 + 1 = 24) (v := 0) (by decide) ?_
    exact r_zret hC rfl (by decide) h dX8_isNumber_24
  · replace h := if_t h q
    refine r_aload_n hC 0 dX8_isNumber_9 (rfl : 9 + 1 = 10) rfl rfl ?_
    refine r_getr hC 0 7 3 2 (o := 2) fw_X8_13 rfl rfl dX8_isNumber_10 (rfl : 10 + 3 = 13) ?_
    refine r_iload_n hC 1 dX8_isNumber_13 (rfl : 13 + 1 = 14) rfl rfl ?_
    refine r_iald hC 2 rfl q_1 dX8_isNumber_14 (rfl : 14 + 1 = 15) ?_
    refine r_iload_n hC 2 dX8_isNumber_15 (rfl : 15 + 1 = 16) rfl rfl ?_
    refine r_icmp_ne hC dX8_isNumber_16 (rfl : 16 + 3 = 19) (tgt := 23) (by decide) (fun q => ?_) (fun q => ?_)
    · replace h := if_f h q
      refine r_iconst hC dX8_isNumber_23 (rfl : 23 + 1 = 24) (v := 0) (by decide) ?_
      exact r_zret hC rfl (by decide) h dX8_isNumber_24
    · replace h := if_t h q
      refine r_iconst hC dX8_isNumber_19 (rfl : 19 + 1 = 20) (v := 1) (by decide) ?_
      refine r_goto hC dX8_isNumber_20 (tgt := 24) (by decide) ?_
      exact r_zret hC rfl (by decide) h dX8_isNumber_24
set_option maxHeartbeats 1000000 in
set_option maxRecDepth 100000 in
theorem mX8_areSame_b {G : Gx} {b k : Nat} {l : Launch} (hS : Sok YM G) (F : Int32 → Int32 → Sg → (Int32 → Sg → Prop) → Prop) {kf : Nat} (hF : ∀ (x1 : Int32) (x2 : Int32) (σ : Sg) (Q : Int32 → Sg → Prop), F x1 x2 σ Q → Mi YM G b l yX8_areSame cX8_areSame 3 .boolean kf [.ref (G.1 0), .int x1, .int x2] σ Q) (hk : kf + 1 ≤ k ∧ 0 ≤ k + 0) (x1 : Int32) (x2 : Int32) (σ : Sg) (Q : Int32 → Sg → Prop) (h : wX8_areSame_b F x1 x2 σ Q) : Mi YM G b l yX8_areSame cX8_areSame 3 .boolean k [.ref (G.1 0), .int x1, .int x2] σ Q := by
  refine enter hS (by decide +kernel) (Nat.le_of_ble_eq_true rfl) (lv := [(0, .ref (G.1 0)), (1, .int x1), (2, .int x2)]) rfl (fun K hl hC => ?_)
  subst hl
  unfold wX8_areSame_b at h
  show V YM G K (Zi YM G K Q) 3 σ 0 [(0, .ref (G.1 0)), (1, .int x1), (2, .int x2)] []
  refine r_iload_n hC 1 dX8_areSame_0 (rfl : 0 + 1 = 1) rfl rfl ?_
  refine r_iload_n hC 2 dX8_areSame_1 (rfl : 1 + 1 = 2) rfl rfl ?_
  refine r_icmp_ne hC dX8_areSame_2 (rfl : 2 + 3 = 5) (tgt := 7) (by decide) (fun q => ?_) (fun q => ?_)
  · replace h := if_f h q
    refine r_iload_n hC 1 dX8_areSame_7 (rfl : 7 + 1 = 8) rfl rfl ?_
    refine r_if_lt hC dX8_areSame_8 (rfl : 8 + 3 = 11) (tgt := 60) (by decide) (fun q => ?_) (fun q => ?_)
    · replace h := if_t h q
      refine r_iconst hC dX8_areSame_60 (rfl : 60 + 1 = 61) (v := 0) (by decide) ?_
      exact r_zret hC rfl (by decide) h dX8_areSame_61
    · replace h := if_f h q
      refine r_iload_n hC 2 dX8_areSame_11 (rfl : 11 + 1 = 12) rfl rfl ?_
      refine r_if_lt hC dX8_areSame_12 (rfl : 12 + 3 = 15) (tgt := 60) (by decide) (fun q => ?_) (fun q => ?_)
      · replace h := if_t h q
        refine r_iconst hC dX8_areSame_60 (rfl : 60 + 1 = 61) (v := 0) (by decide) ?_
        exact r_zret hC rfl (by decide) h dX8_areSame_61
      · replace h := if_f h q
        refine r_aload_n hC 0 dX8_areSame_15 (rfl : 15 + 1 = 16) rfl rfl ?_
        refine r_getr hC 0 7 2 1 (o := 1) fw_X8_7 rfl rfl dX8_areSame_16 (rfl : 16 + 3 = 19) ?_
        refine r_iload_n hC 1 dX8_areSame_19 (rfl : 19 + 1 = 20) rfl rfl ?_
        obtain ⟨q_1, h⟩ := h
        refine r_iald hC 1 rfl q_1 dX8_areSame_20 (rfl : 20 + 1 = 21) ?_
        refine r_aload_n hC 0 dX8_areSame_21 (rfl : 21 + 1 = 22) rfl rfl ?_
        refine r_getr hC 0 7 2 1 (o := 1) fw_X8_7 rfl rfl dX8_areSame_22 (rfl : 22 + 3 = 25) ?_
        refine r_iload_n hC 2 dX8_areSame_25 (rfl : 25 + 1 = 26) rfl rfl ?_
        obtain ⟨q_2, h⟩ := h
        refine r_iald hC 1 rfl q_2 dX8_areSame_26 (rfl : 26 + 1 = 27) ?_
        refine r_icmp_ne hC dX8_areSame_27 (rfl : 27 + 3 = 30) (tgt := 60) (by decide) (fun q => ?_) (fun q => ?_)
        · replace h := if_f h q
          refine r_iconst hC dX8_areSame_60 (rfl : 60 + 1 = 61) (v := 0) (by decide) ?_
          exact r_zret hC rfl (by decide) h dX8_areSame_61
        · replace h := if_t h q
          refine r_aload_n hC 0 dX8_areSame_30 (rfl : 30 + 1 = 31) rfl rfl ?_
          refine r_getr hC 0 7 3 2 (o := 2) fw_X8_13 rfl rfl dX8_areSame_31 (rfl : 31 + 3 = 34) ?_
          refine r_iload_n hC 1 dX8_areSame_34 (rfl : 34 + 1 = 35) rfl rfl ?_
          refine r_iald hC 2 rfl q_1 dX8_areSame_35 (rfl : 35 + 1 = 36) ?_
          refine r_aload_n hC 0 dX8_areSame_36 (rfl : 36 + 1 = 37) rfl rfl ?_
          refine r_getr hC 0 7 3 2 (o := 2) fw_X8_13 rfl rfl dX8_areSame_37 (rfl : 37 + 3 = 40) ?_
          refine r_iload_n hC 2 dX8_areSame_40 (rfl : 40 + 1 = 41) rfl rfl ?_
          refine r_iald hC 2 rfl q_2 dX8_areSame_41 (rfl : 41 + 1 = 42) ?_
          refine r_icmp_ne hC dX8_areSame_42 (rfl : 42 + 3 = 45) (tgt := 60) (by decide) (fun q => ?_) (fun q => ?_)
          · replace h := if_f h q
            refine r_iconst hC dX8_areSame_60 (rfl : 60 + 1 = 61) (v := 0) (by decide) ?_
            exact r_zret hC rfl (by decide) h dX8_areSame_61
          · replace h := if_t h q
            refine r_aload_n hC 0 dX8_areSame_45 (rfl : 45 + 1 = 46) rfl rfl ?_
            refine r_getr hC 0 7 7 6 (o := 6) fw_X8_25 rfl rfl dX8_areSame_46 (rfl : 46 + 3 = 49) ?_
            refine r_iload_n hC 1 dX8_areSame_49 (rfl : 49 + 1 = 50) rfl rfl ?_
            refine r_iald hC 6 rfl q_1 dX8_areSame_50 (rfl : 50 + 1 = 51) ?_
            refine r_aload_n hC 0 dX8_areSame_51 (rfl : 51 + 1 = 52) rfl rfl ?_
            refine r_getr hC 0 7 7 6 (o := 6) fw_X8_25 rfl rfl dX8_areSame_52 (rfl : 52 + 3 = 55) ?_
            refine r_iload_n hC 2 dX8_areSame_55 (rfl : 55 + 1 = 56) rfl rfl ?_
            refine r_iald hC 6 rfl q_2 dX8_areSame_56 (rfl : 56 + 1 = 57) ?_
            refine r_icmp_eq hC dX8_areSame_57 (rfl : 57 + 3 = 60) (tgt := 62) (by decide) (fun q => ?_) (fun q => ?_)
            · replace h := if_t h q
              refine r_aload_n hC 0 dX8_areSame_62 (rfl : 62 + 1 = 63) rfl rfl ?_
              refine r_aload_n hC 0 dX8_areSame_63 (rfl : 63 + 1 = 64) rfl rfl ?_
              refine r_getr hC 0 7 4 3 (o := 3) fw_X8_16 rfl rfl dX8_areSame_64 (rfl : 64 + 3 = 67) ?_
              refine r_iload_n hC 1 dX8_areSame_67 (rfl : 67 + 1 = 68) rfl rfl ?_
              refine r_iald hC 3 rfl q_1 dX8_areSame_68 (rfl : 68 + 1 = 69) ?_
              refine r_aload_n hC 0 dX8_areSame_69 (rfl : 69 + 1 = 70) rfl rfl ?_
              refine r_getr hC 0 7 4 3 (o := 3) fw_X8_16 rfl rfl dX8_areSame_70 (rfl : 70 + 3 = 73) ?_
              refine r_iload_n hC 2 dX8_areSame_73 (rfl : 73 + 1 = 74) rfl rfl ?_
              refine r_iald hC 3 rfl q_2 dX8_areSame_74 (rfl : 74 + 1 = 75) ?_
              refine r_callVi hC cs_X8_100 rfl (by omega) (hF (σ.1 3 (Int32.toNatClampNeg x1)) (σ.1 3 (Int32.toNatClampNeg x2)) σ _ h) rfl rfl (Nat.le_of_ble_eq_true rfl) dX8_areSame_75 (rfl : 75 + 3 = 78) (fun r_4 σ_3 h => ?_)
              refine r_if_eq hC dX8_areSame_78 (rfl : 78 + 3 = 81) (tgt := 123) (by decide) (fun q => ?_) (fun q => ?_)
              · replace h := if_t h q
                refine r_iconst hC dX8_areSame_123 (rfl : 123 + 1 = 124) (v := 0) (by decide) ?_
                exact r_zret hC rfl (by decide) h dX8_areSame_124
              · replace h := if_f h q
                refine r_aload_n hC 0 dX8_areSame_81 (rfl : 81 + 1 = 82) rfl rfl ?_
                refine r_aload_n hC 0 dX8_areSame_82 (rfl : 82 + 1 = 83) rfl rfl ?_
                refine r_getr hC 0 7 5 4 (o := 4) fw_X8_19 rfl rfl dX8_areSame_83 (rfl : 83 + 3 = 86) ?_
                refine r_iload_n hC 1 dX8_areSame_86 (rfl : 86 + 1 = 87) rfl rfl ?_
                refine r_iald hC 4 rfl q_1 dX8_areSame_87 (rfl : 87 + 1 = 88) ?_
                refine r_aload_n hC 0 dX8_areSame_88 (rfl : 88 + 1 = 89) rfl rfl ?_
                refine r_getr hC 0 7 5 4 (o := 4) fw_X8_19 rfl rfl dX8_areSame_89 (rfl : 89 + 3 = 92) ?_
                refine r_iload_n hC 2 dX8_areSame_92 (rfl : 92 + 1 = 93) rfl rfl ?_
                refine r_iald hC 4 rfl q_2 dX8_areSame_93 (rfl : 93 + 1 = 94) ?_
                refine r_callVi hC cs_X8_100 rfl (by omega) (hF (σ_3.1 4 (Int32.toNatClampNeg x1)) (σ_3.1 4 (Int32.toNatClampNeg x2)) σ_3 _ h) rfl rfl (Nat.le_of_ble_eq_true rfl) dX8_areSame_94 (rfl : 94 + 3 = 97) (fun r_6 σ_5 h => ?_)
                refine r_if_eq hC dX8_areSame_97 (rfl : 97 + 3 = 100) (tgt := 123) (by decide) (fun q => ?_) (fun q => ?_)
                · replace h := if_t h q
                  refine r_iconst hC dX8_areSame_123 (rfl : 123 + 1 = 124) (v := 0) (by decide) ?_
                  exact r_zret hC rfl (by decide) h dX8_areSame_124
                · replace h := if_f h q
                  refine r_aload_n hC 0 dX8_areSame_100 (rfl : 100 + 1 = 101) rfl rfl ?_
                  refine r_aload_n hC 0 dX8_areSame_101 (rfl : 101 + 1 = 102) rfl rfl ?_
                  refine r_getr hC 0 7 6 5 (o := 5) fw_X8_22 rfl rfl dX8_areSame_102 (rfl : 102 + 3 = 105) ?_
                  refine r_iload_n hC 1 dX8_areSame_105 (rfl : 105 + 1 = 106) rfl rfl ?_
                  refine r_iald hC 5 rfl q_1 dX8_areSame_106 (rfl : 106 + 1 = 107) ?_
                  refine r_aload_n hC 0 dX8_areSame_107 (rfl : 107 + 1 = 108) rfl rfl ?_
                  refine r_getr hC 0 7 6 5 (o := 5) fw_X8_22 rfl rfl dX8_areSame_108 (rfl : 108 + 3 = 111) ?_
                  refine r_iload_n hC 2 dX8_areSame_111 (rfl : 111 + 1 = 112) rfl rfl ?_
                  refine r_iald hC 5 rfl q_2 dX8_areSame_112 (rfl : 112 + 1 = 113) ?_
                  refine r_callVi hC cs_X8_100 rfl (by omega) (hF (σ_5.1 5 (Int32.toNatClampNeg x1)) (σ_5.1 5 (Int32.toNatClampNeg x2)) σ_5 _ h) rfl rfl (Nat.le_of_ble_eq_true rfl) dX8_areSame_113 (rfl : 113 + 3 = 116) (fun r_8 σ_7 h => ?_)
                  refine r_if_eq hC dX8_areSame_116 (rfl : 116 + 3 = 119) (tgt := 123) (by decide) (fun q => ?_) (fun q => ?_)
                  · replace h := if_t h q
                    refine r_iconst hC dX8_areSame_123 (rfl : 123 + 1 = 124) (v := 0) (by decide) ?_
                    exact r_zret hC rfl (by decide) h dX8_areSame_124
                  · replace h := if_f h q
                    refine r_iconst hC dX8_areSame_119 (rfl : 119 + 1 = 120) (v := 1) (by decide) ?_
                    refine r_goto hC dX8_areSame_120 (tgt := 124) (by decide) ?_
                    exact r_zret hC rfl (by decide) h dX8_areSame_124
            · replace h := if_f h q
              refine r_iconst hC dX8_areSame_60 (rfl : 60 + 1 = 61) (v := 0) (by decide) ?_
              exact r_zret hC rfl (by decide) h dX8_areSame_61
  · replace h := if_t h q
    refine r_iconst hC dX8_areSame_5 (rfl : 5 + 1 = 6) (v := 1) (by decide) ?_
    exact r_zret hC rfl (by decide) h dX8_areSame_6
set_option maxHeartbeats 1000000 in
set_option maxRecDepth 100000 in
theorem mX8_areSame {G : Gx} {b : Nat} {l : Launch} (hS : Sok YM G) : ∀ (e k : Nat), 1 * e + (0) ≤ k → ∀ (x1 : Int32) (x2 : Int32) (σ : Sg) (Q : Int32 → Sg → Prop), wX8_areSame e x1 x2 σ Q → Mi YM G b l yX8_areSame cX8_areSame 3 .boolean k [.ref (G.1 0), .int x1, .int x2] σ Q := by
  intro e
  induction e with
  | zero =>
    intro k _ x1 x2 σ Q h
    exact h.elim
  | succ e ih =>
    intro k hk x1 x2 σ Q h
    exact mX8_areSame_b hS (wX8_areSame e) (kf := 1 * e + (0)) (fun x1 x2 σ Q h => ih _ (Nat.le_refl _) x1 x2 σ Q h) ⟨by omega, by omega⟩ x1 x2 σ Q h
set_option maxHeartbeats 1000000 in
set_option maxRecDepth 100000 in
theorem mX8_both {G : Gx} {b k : Nat} {l : Launch} (hS : Sok YM G)  (hk : 0 ≤ k) (x0 : Int32) (x1 : Int32) (x2 : Int32) (σ : Sg) (Q : Int32 → Sg → Prop) (h : wX8_both  x0 x1 x2 σ Q) : Mi YM G b l yX8_both cX8_both 3 .int k [.int x0, .int x1, .int x2] σ Q := by
  refine enter hS (by decide +kernel) (Nat.le_of_ble_eq_true rfl) (lv := [(0, .int x0), (1, .int x1), (2, .int x2)]) rfl (fun K hl hC => ?_)
  subst hl
  unfold wX8_both at h
  show V YM G K (Zi YM G K Q) 3 σ 0 [(0, .int x0), (1, .int x1), (2, .int x2)] []
  refine r_iload_n hC 0 dX8_both_0 (rfl : 0 + 1 = 1) rfl rfl ?_
  refine r_iconst hC dX8_both_1 (rfl : 1 + 1 = 2) (v := 4) (by decide) ?_
  refine r_icmp_ne hC dX8_both_2 (rfl : 2 + 3 = 5) (tgt := 11) (by decide) (fun q => ?_) (fun q => ?_)
  · replace h := if_f h q
    refine r_iload_n hC 0 dX8_both_11 (rfl : 11 + 1 = 12) rfl rfl ?_
    refine r_iconst hC dX8_both_12 (rfl : 12 + 1 = 13) (v := 5) (by decide) ?_
    refine r_icmp_ne hC dX8_both_13 (rfl : 13 + 3 = 16) (tgt := 22) (by decide) (fun q => ?_) (fun q => ?_)
    · replace h := if_f h q
      refine r_iload_n hC 0 dX8_both_22 (rfl : 22 + 1 = 23) rfl rfl ?_
      refine r_bipush hC dX8_both_23 (rfl : 23 + 2 = 25) (v := 6) (by decide) ?_
      refine r_icmp_ne hC dX8_both_25 (rfl : 25 + 3 = 28) (tgt := 34) (by decide) (fun q => ?_) (fun q => ?_)
      · replace h := if_f h q
        refine r_iload_n hC 2 dX8_both_34 (rfl : 34 + 1 = 35) rfl rfl ?_
        refine r_iconst hC dX8_both_35 (rfl : 35 + 1 = 36) (v := -1) (by decide) ?_
        refine r_icmp_ne hC dX8_both_36 (rfl : 36 + 3 = 39) (tgt := 44) (by decide) (fun q => ?_) (fun q => ?_)
        · replace h := if_f h q
          refine r_iload_n hC 1 dX8_both_44 (rfl : 44 + 1 = 45) rfl rfl ?_
          refine r_iload_n hC 2 dX8_both_45 (rfl : 45 + 1 = 46) rfl rfl ?_
          obtain ⟨q_1, h⟩ := h
          refine r_idiv hC dX8_both_46 (rfl : 46 + 1 = 47) q_1 ?_
          exact r_iret hC rfl h dX8_both_47
        · replace h := if_t h q
          refine r_iload_n hC 1 dX8_both_39 (rfl : 39 + 1 = 40) rfl rfl ?_
          refine r_ineg hC dX8_both_40 (rfl : 40 + 1 = 41) ?_
          refine r_goto hC dX8_both_41 (tgt := 47) (by decide) ?_
          exact r_iret hC rfl h dX8_both_47
      · replace h := if_t h q
        refine r_iload_n hC 1 dX8_both_28 (rfl : 28 + 1 = 29) rfl rfl ?_
        refine r_iload_n hC 2 dX8_both_29 (rfl : 29 + 1 = 30) rfl rfl ?_
        refine r_imul hC dX8_both_30 (rfl : 30 + 1 = 31) ?_
        refine r_goto hC dX8_both_31 (tgt := 47) (by decide) ?_
        exact r_iret hC rfl h dX8_both_47
    · replace h := if_t h q
      refine r_iload_n hC 1 dX8_both_16 (rfl : 16 + 1 = 17) rfl rfl ?_
      refine r_iload_n hC 2 dX8_both_17 (rfl : 17 + 1 = 18) rfl rfl ?_
      refine r_isub hC dX8_both_18 (rfl : 18 + 1 = 19) ?_
      refine r_goto hC dX8_both_19 (tgt := 47) (by decide) ?_
      exact r_iret hC rfl h dX8_both_47
  · replace h := if_t h q
    refine r_iload_n hC 1 dX8_both_5 (rfl : 5 + 1 = 6) rfl rfl ?_
    refine r_iload_n hC 2 dX8_both_6 (rfl : 6 + 1 = 7) rfl rfl ?_
    refine r_iadd hC dX8_both_7 (rfl : 7 + 1 = 8) ?_
    refine r_goto hC dX8_both_8 (tgt := 47) (by decide) ?_
    exact r_iret hC rfl h dX8_both_47
set_option maxHeartbeats 1000000 in
set_option maxRecDepth 100000 in
theorem sX8_works_242 {G : Gx} {b k : Nat} {K : Kx} {l : Launch} (hl : K.2.1 = l) (hC : Cx YM G b K cX8_works RX8 6 (some .int) k) (F : Int32 → Int32 → Int32 → Sg → (Int32 → Sg → Prop) → Prop) {kf : Nat} (hF : ∀ (x1 : Int32) (x2 : Int32) (x3 : Int32) (σ : Sg) (Q : Int32 → Sg → Prop), F x1 x2 x3 σ Q → Mi YM G b l yX8_works cX8_works 6 .int kf [.ref (G.1 0), .int x1, .int x2, .int x3] σ Q) (hk : kf + 1 ≤ k ∧ 1 ≤ k + 0)  (Q : Int32 → Sg → Prop)  (x1 : Int32) (x4 : Int32) (x5 : Int32) (s1 : Int32) (σ : Sg) (h : wX8_works_242 F x1 x4 x5 s1 σ Q) : V YM G K (Zi YM G K Q) 6 σ 242 [(0, .ref (G.1 0)), (1, .int x1), (4, .int x4), (5, .int x5)] [.int s1, .ref (G.1 0)] := by
  subst hl
  unfold wX8_works_242 at h
  obtain ⟨q_1, h⟩ := h
  obtain ⟨σ_2, e_3, h⟩ := lt_nm h
  refine r_putz hC 0 7 8 fw_X8_104 fp_8_8 rfl q_1 e_3 dX8_works_242 (rfl : 242 + 3 = 245) ?_
  refine r_aload_n hC 0 dX8_works_245 (rfl : 245 + 1 = 246) rfl rfl ?_
  refine r_geti hC 0 7 8 fw_X8_104 rfl dX8_works_246 (rfl : 246 + 3 = 249) ?_
  refine r_if_eq hC dX8_works_249 (rfl : 249 + 3 = 252) (tgt := 256) (by decide) (fun q => ?_) (fun q => ?_)
  · replace h := if_t h q
    refine r_aload_n hC 0 dX8_works_256 (rfl : 256 + 1 = 257) rfl rfl ?_
    refine r_getr hC 0 7 2 1 (o := 1) fw_X8_7 rfl rfl dX8_works_257 (rfl : 257 + 3 = 260) ?_
    refine r_iload_n hC 1 dX8_works_260 (rfl : 260 + 1 = 261) rfl rfl ?_
    obtain ⟨q_4, h⟩ := h
    refine r_iald hC 1 rfl q_4 dX8_works_261 (rfl : 261 + 1 = 262) ?_
    refine r_iload hC 2 dX8_works_262 (rfl : 262 + 2 = 264) rfl ?_
    refine r_iload hC 3 dX8_works_264 (rfl : 264 + 2 = 266) rfl ?_
    refine r_callSi hC cs_X8_115 (by omega) (mX8_both hC.2.2.2.2.2.2.2.2.1 (k := k - 1) (by omega) (σ_2.1 1 (Int32.toNatClampNeg x1)) x4 x5 σ_2 _ h) rfl rfl (Nat.le_of_ble_eq_true rfl) dX8_works_266 (rfl : 266 + 3 = 269) (fun r_6 σ_5 h => ?_)
    exact r_iret hC rfl h dX8_works_269
  · replace h := if_f h q
    refine r_iconst hC dX8_works_252 (rfl : 252 + 1 = 253) (v := 0) (by decide) ?_
    refine r_goto hC dX8_works_253 (tgt := 269) (by decide) ?_
    exact r_iret hC rfl h dX8_works_269
set_option maxHeartbeats 1000000 in
set_option maxRecDepth 100000 in
theorem sX8_works_241 {G : Gx} {b k : Nat} {K : Kx} {l : Launch} (hl : K.2.1 = l) (hC : Cx YM G b K cX8_works RX8 6 (some .int) k) (F : Int32 → Int32 → Int32 → Sg → (Int32 → Sg → Prop) → Prop) {kf : Nat} (hF : ∀ (x1 : Int32) (x2 : Int32) (x3 : Int32) (σ : Sg) (Q : Int32 → Sg → Prop), F x1 x2 x3 σ Q → Mi YM G b l yX8_works cX8_works 6 .int kf [.ref (G.1 0), .int x1, .int x2, .int x3] σ Q) (hk : kf + 1 ≤ k ∧ 1 ≤ k + 0)  (Q : Int32 → Sg → Prop)  (x1 : Int32) (x4 : Int32) (x5 : Int32) (σ : Sg) (h : wX8_works_241 F x1 x4 x5 σ Q) : V YM G K (Zi YM G K Q) 6 σ 241 [(0, .ref (G.1 0)), (1, .int x1), (4, .int x4), (5, .int x5)] [.ref (G.1 0)] := by
  subst hl
  unfold wX8_works_241 at h
  refine r_iconst hC dX8_works_241 (rfl : 241 + 1 = 242) (v := 0) (by decide) ?_
  exact (sX8_works_242 rfl hC F hF hk  Q  x1 x4 x5 0 σ h).sub [0, 1, 2, 3] rfl
set_option maxHeartbeats 1000000 in
set_option maxRecDepth 100000 in
theorem sX8_works_180 {G : Gx} {b k : Nat} {K : Kx} {l : Launch} (hl : K.2.1 = l) (hC : Cx YM G b K cX8_works RX8 6 (some .int) k) (F : Int32 → Int32 → Int32 → Sg → (Int32 → Sg → Prop) → Prop) {kf : Nat} (hF : ∀ (x1 : Int32) (x2 : Int32) (x3 : Int32) (σ : Sg) (Q : Int32 → Sg → Prop), F x1 x2 x3 σ Q → Mi YM G b l yX8_works cX8_works 6 .int kf [.ref (G.1 0), .int x1, .int x2, .int x3] σ Q) (hk : kf + 1 ≤ k ∧ 1 ≤ k + 0)  (Q : Int32 → Sg → Prop)  (x5 : Int32) (s1 : Int32) (s2 : Int32) (σ : Sg) (h : wX8_works_180 F x5 s1 s2 σ Q) : V YM G K (Zi YM G K Q) 6 σ 180 [(5, .int x5)] [.int s2, .int s1, .ref (G.1 0)] := by
  subst hl
  unfold wX8_works_180 at h
  refine r_iadd hC dX8_works_180 (rfl : 180 + 1 = 181) ?_
  obtain ⟨σ_7, e_8, h⟩ := lt_nm h
  refine r_puti hC 0 7 9 fw_X8_108 fp_8_9 rfl e_8 dX8_works_181 (rfl : 181 + 3 = 184) ?_
  refine r_iload hC 0 dX8_works_184 (rfl : 184 + 2 = 186) rfl ?_
  exact r_iret hC rfl h dX8_works_186
set_option maxHeartbeats 1000000 in
set_option maxRecDepth 100000 in
theorem mX8_works_b {G : Gx} {b k : Nat} {l : Launch} (hS : Sok YM G) (F : Int32 → Int32 → Int32 → Sg → (Int32 → Sg → Prop) → Prop) {kf : Nat} (hF : ∀ (x1 : Int32) (x2 : Int32) (x3 : Int32) (σ : Sg) (Q : Int32 → Sg → Prop), F x1 x2 x3 σ Q → Mi YM G b l yX8_works cX8_works 6 .int kf [.ref (G.1 0), .int x1, .int x2, .int x3] σ Q) (hk : kf + 1 ≤ k ∧ 1 ≤ k + 0) (x1 : Int32) (x2 : Int32) (x3 : Int32) (σ : Sg) (Q : Int32 → Sg → Prop) (h : wX8_works_b F x1 x2 x3 σ Q) : Mi YM G b l yX8_works cX8_works 6 .int k [.ref (G.1 0), .int x1, .int x2, .int x3] σ Q := by
  refine enter hS (by decide +kernel) (Nat.le_of_ble_eq_true rfl) (lv := [(0, .ref (G.1 0)), (1, .int x1), (2, .int x2), (3, .int x3)]) rfl (fun K hl hC => ?_)
  subst hl
  unfold wX8_works_b at h
  show V YM G K (Zi YM G K Q) 6 σ 0 [(0, .ref (G.1 0)), (1, .int x1), (2, .int x2), (3, .int x3)] []
  refine r_aload_n hC 0 dX8_works_0 (rfl : 0 + 1 = 1) rfl rfl ?_
  refine r_geti hC 0 7 8 fw_X8_104 rfl dX8_works_1 (rfl : 1 + 3 = 4) ?_
  refine r_if_eq hC dX8_works_4 (rfl : 4 + 3 = 7) (tgt := 9) (by decide) (fun q => ?_) (fun q => ?_)
  · replace h := if_t h q
    refine r_aload_n hC 0 dX8_works_9 (rfl : 9 + 1 = 10) rfl rfl ?_
    refine r_getr hC 0 7 2 1 (o := 1) fw_X8_7 rfl rfl dX8_works_10 (rfl : 10 + 3 = 13) ?_
    refine r_iload_n hC 1 dX8_works_13 (rfl : 13 + 1 = 14) rfl rfl ?_
    obtain ⟨q_9, h⟩ := h
    refine r_iald hC 1 rfl q_9 dX8_works_14 (rfl : 14 + 1 = 15) ?_
    refine r_iconst hC dX8_works_15 (rfl : 15 + 1 = 16) (v := 3) (by decide) ?_
    refine r_icmp_ge hC dX8_works_16 (rfl : 16 + 3 = 19) (tgt := 63) (by decide) (fun q => ?_) (fun q => ?_)
    · replace h := if_t h q
      refine r_aload_n hC 0 dX8_works_63 (rfl : 63 + 1 = 64) rfl rfl ?_
      refine r_aload_n hC 0 dX8_works_64 (rfl : 64 + 1 = 65) rfl rfl ?_
      refine r_getr hC 0 7 4 3 (o := 3) fw_X8_16 rfl rfl dX8_works_65 (rfl : 65 + 3 = 68) ?_
      refine r_iload_n hC 1 dX8_works_68 (rfl : 68 + 1 = 69) rfl rfl ?_
      refine r_iald hC 3 rfl q_9 dX8_works_69 (rfl : 69 + 1 = 70) ?_
      refine r_iload_n hC 2 dX8_works_70 (rfl : 70 + 1 = 71) rfl rfl ?_
      refine r_iload_n hC 3 dX8_works_71 (rfl : 71 + 1 = 72) rfl rfl ?_
      refine r_callVi hC cs_X8_111 rfl (by omega) (hF (σ.1 3 (Int32.toNatClampNeg x1)) x2 x3 σ _ h) rfl rfl (Nat.le_of_ble_eq_true rfl) dX8_works_72 (rfl : 72 + 3 = 75) (fun r_11 σ_10 h => ?_)
      refine r_istore hC dX8_works_75 (rfl : 75 + 2 = 77) (by decide) rfl (lv2 := [(4, .int r_11), (0, .ref (G.1 0)), (1, .int x1), (2, .int x2), (3, .int x3)]) rfl ?_
      refine r_aload_n hC 1 dX8_works_77 (rfl : 77 + 1 = 78) rfl rfl ?_
      refine r_geti hC 0 7 8 fw_X8_104 rfl dX8_works_78 (rfl : 78 + 3 = 81) ?_
      refine r_if_eq hC dX8_works_81 (rfl : 81 + 3 = 84) (tgt := 86) (by decide) (fun q => ?_) (fun q => ?_)
      · replace h := if_t h q
        refine r_aload_n hC 1 dX8_works_86 (rfl : 86 + 1 = 87) rfl rfl ?_
        refine r_getr hC 0 7 2 1 (o := 1) fw_X8_7 rfl rfl dX8_works_87 (rfl : 87 + 3 = 90) ?_
        refine r_iload_n hC 2 dX8_works_90 (rfl : 90 + 1 = 91) rfl rfl ?_
        refine r_iald hC 1 rfl q_9 dX8_works_91 (rfl : 91 + 1 = 92) ?_
        refine r_iconst hC dX8_works_92 (rfl : 92 + 1 = 93) (v := 3) (by decide) ?_
        refine r_icmp_ne hC dX8_works_93 (rfl : 93 + 3 = 96) (tgt := 110) (by decide) (fun q => ?_) (fun q => ?_)
        · replace h := if_f h q
          refine r_aload_n hC 1 dX8_works_110 (rfl : 110 + 1 = 111) rfl rfl ?_
          refine r_getr hC 0 7 2 1 (o := 1) fw_X8_7 rfl rfl dX8_works_111 (rfl : 111 + 3 = 114) ?_
          refine r_iload_n hC 2 dX8_works_114 (rfl : 114 + 1 = 115) rfl rfl ?_
          refine r_iald hC 1 rfl q_9 dX8_works_115 (rfl : 115 + 1 = 116) ?_
          refine r_bipush hC dX8_works_116 (rfl : 116 + 2 = 118) (v := 8) (by decide) ?_
          refine r_icmp_ne hC dX8_works_118 (rfl : 118 + 3 = 121) (tgt := 187) (by decide) (fun q => ?_) (fun q => ?_)
          · replace h := if_f h q
            refine r_aload_n hC 1 dX8_works_187 (rfl : 187 + 1 = 188) rfl rfl ?_
            refine r_aload_n hC 1 dX8_works_188 (rfl : 188 + 1 = 189) rfl rfl ?_
            refine r_getr hC 0 7 5 4 (o := 4) fw_X8_19 rfl rfl dX8_works_189 (rfl : 189 + 3 = 192) ?_
            refine r_iload_n hC 2 dX8_works_192 (rfl : 192 + 1 = 193) rfl rfl ?_
            refine r_iald hC 4 rfl q_9 dX8_works_193 (rfl : 193 + 1 = 194) ?_
            refine r_iload_n hC 3 dX8_works_194 (rfl : 194 + 1 = 195) rfl rfl ?_
            refine r_iload_n hC 4 dX8_works_195 (rfl : 195 + 1 = 196) rfl rfl ?_
            refine r_callVi hC cs_X8_111 rfl (by omega) (hF (σ_10.1 4 (Int32.toNatClampNeg x1)) x2 x3 σ_10 _ h) rfl rfl (Nat.le_of_ble_eq_true rfl) dX8_works_196 (rfl : 196 + 3 = 199) (fun r_13 σ_12 h => ?_)
            refine r_istore hC dX8_works_199 (rfl : 199 + 2 = 201) (by decide) rfl (lv2 := [(5, .int r_13), (4, .int r_11), (0, .ref (G.1 0)), (1, .int x1), (2, .int x2), (3, .int x3)]) rfl ?_
            refine r_aload_n hC 2 dX8_works_201 (rfl : 201 + 1 = 202) rfl rfl ?_
            refine r_geti hC 0 7 8 fw_X8_104 rfl dX8_works_202 (rfl : 202 + 3 = 205) ?_
            refine r_if_eq hC dX8_works_205 (rfl : 205 + 3 = 208) (tgt := 210) (by decide) (fun q => ?_) (fun q => ?_)
            · replace h := if_t h q
              refine r_aload_n hC 2 dX8_works_210 (rfl : 210 + 1 = 211) rfl rfl ?_
              refine r_dup hC dX8_works_211 (rfl : 211 + 1 = 212) rfl ?_
              refine r_geti hC 0 7 9 fw_X8_108 rfl dX8_works_212 (rfl : 212 + 3 = 215) ?_
              refine r_iconst hC dX8_works_215 (rfl : 215 + 1 = 216) (v := 1) (by decide) ?_
              refine r_iadd hC dX8_works_216 (rfl : 216 + 1 = 217) ?_
              obtain ⟨σ_14, e_15, h⟩ := lt_nm h
              refine r_puti hC 0 7 9 fw_X8_108 fp_8_9 rfl e_15 dX8_works_217 (rfl : 217 + 3 = 220) ?_
              refine r_aload_n hC 2 dX8_works_220 (rfl : 220 + 1 = 221) rfl rfl ?_
              refine r_aload_n hC 2 dX8_works_221 (rfl : 221 + 1 = 222) rfl rfl ?_
              refine r_getr hC 0 7 2 1 (o := 1) fw_X8_7 rfl rfl dX8_works_222 (rfl : 222 + 3 = 225) ?_
              refine r_iload_n hC 3 dX8_works_225 (rfl : 225 + 1 = 226) rfl rfl ?_
              refine r_iald hC 1 rfl q_9 dX8_works_226 (rfl : 226 + 1 = 227) ?_
              refine r_bipush hC dX8_works_227 (rfl : 227 + 2 = 229) (v := 7) (by decide) ?_
              refine r_icmp_ne hC dX8_works_229 (rfl : 229 + 3 = 232) (tgt := 241) (by decide) (fun q => ?_) (fun q => ?_)
              · replace h := if_f h q
                exact (sX8_works_241 rfl hC F hF hk  Q  x1 r_11 r_13 σ_14 h).sub [2, 3, 1, 0] rfl
              · replace h := if_t h q
                refine r_iload hC 0 dX8_works_232 (rfl : 232 + 2 = 234) rfl ?_
                refine r_if_ne hC dX8_works_234 (rfl : 234 + 3 = 237) (tgt := 241) (by decide) (fun q => ?_) (fun q => ?_)
                · replace h := if_f h q
                  exact (sX8_works_241 rfl hC F hF hk  Q  x1 r_11 r_13 σ_14 h).sub [2, 3, 1, 0] rfl
                · replace h := if_t h q
                  refine r_iconst hC dX8_works_237 (rfl : 237 + 1 = 238) (v := 1) (by decide) ?_
                  refine r_goto hC dX8_works_238 (tgt := 242) (by decide) ?_
                  exact (sX8_works_242 rfl hC F hF hk  Q  x1 r_11 r_13 1 σ_14 h).sub [2, 3, 1, 0] rfl
            · replace h := if_f h q
              refine r_iconst hC dX8_works_208 (rfl : 208 + 1 = 209) (v := 0) (by decide) ?_
              exact r_iret hC rfl h dX8_works_209
          · replace h := if_t h q
            refine r_aload_n hC 1 dX8_works_121 (rfl : 121 + 1 = 122) rfl rfl ?_
            refine r_dup hC dX8_works_122 (rfl : 122 + 1 = 123) rfl ?_
            refine r_geti hC 0 7 9 fw_X8_108 rfl dX8_works_123 (rfl : 123 + 3 = 126) ?_
            refine r_iconst hC dX8_works_126 (rfl : 126 + 1 = 127) (v := 1) (by decide) ?_
            refine r_iadd hC dX8_works_127 (rfl : 127 + 1 = 128) ?_
            obtain ⟨σ_16, e_17, h⟩ := lt_nm h
            refine r_puti hC 0 7 9 fw_X8_108 fp_8_9 rfl e_17 dX8_works_128 (rfl : 128 + 3 = 131) ?_
            refine r_iload hC 0 dX8_works_131 (rfl : 131 + 2 = 133) rfl ?_
            refine r_if_ne hC dX8_works_133 (rfl : 133 + 3 = 136) (tgt := 149) (by decide) (fun q => ?_) (fun q => ?_)
            · replace h := if_f h q
              refine r_aload_n hC 1 dX8_works_149 (rfl : 149 + 1 = 150) rfl rfl ?_
              refine r_aload_n hC 1 dX8_works_150 (rfl : 150 + 1 = 151) rfl rfl ?_
              refine r_getr hC 0 7 5 4 (o := 4) fw_X8_19 rfl rfl dX8_works_151 (rfl : 151 + 3 = 154) ?_
              refine r_iload_n hC 2 dX8_works_154 (rfl : 154 + 1 = 155) rfl rfl ?_
              refine r_iald hC 4 rfl q_9 dX8_works_155 (rfl : 155 + 1 = 156) ?_
              refine r_iload_n hC 3 dX8_works_156 (rfl : 156 + 1 = 157) rfl rfl ?_
              refine r_iload_n hC 4 dX8_works_157 (rfl : 157 + 1 = 158) rfl rfl ?_
              refine r_callVi hC cs_X8_111 rfl (by omega) (hF (σ_16.1 4 (Int32.toNatClampNeg x1)) x2 x3 σ_16 _ h) rfl rfl (Nat.le_of_ble_eq_true rfl) dX8_works_158 (rfl : 158 + 3 = 161) (fun r_19 σ_18 h => ?_)
              refine r_istore hC dX8_works_161 (rfl : 161 + 2 = 163) (by decide) rfl (lv2 := [(5, .int r_19), (4, .int r_11), (0, .ref (G.1 0)), (1, .int x1), (2, .int x2), (3, .int x3)]) rfl ?_
              refine r_aload_n hC 2 dX8_works_163 (rfl : 163 + 1 = 164) rfl rfl ?_
              refine r_dup hC dX8_works_164 (rfl : 164 + 1 = 165) rfl ?_
              refine r_geti hC 0 7 9 fw_X8_108 rfl dX8_works_165 (rfl : 165 + 3 = 168) ?_
              refine r_aload_n hC 2 dX8_works_168 (rfl : 168 + 1 = 169) rfl rfl ?_
              refine r_geti hC 0 7 8 fw_X8_104 rfl dX8_works_169 (rfl : 169 + 3 = 172) ?_
              refine r_if_eq hC dX8_works_172 (rfl : 172 + 3 = 175) (tgt := 179) (by decide) (fun q => ?_) (fun q => ?_)
              · replace h := if_t h q
                refine r_iconst hC dX8_works_179 (rfl : 179 + 1 = 180) (v := 1) (by decide) ?_
                exact (sX8_works_180 rfl hC F hF hk  Q  r_19 (σ_18.1 0 9) 1 σ_18 h).sub [0] rfl
              · replace h := if_f h q
                refine r_iconst hC dX8_works_175 (rfl : 175 + 1 = 176) (v := 0) (by decide) ?_
                refine r_goto hC dX8_works_176 (tgt := 180) (by decide) ?_
                exact (sX8_works_180 rfl hC F hF hk  Q  r_19 (σ_18.1 0 9) 0 σ_18 h).sub [0] rfl
            · replace h := if_t h q
              refine r_aload_n hC 1 dX8_works_136 (rfl : 136 + 1 = 137) rfl rfl ?_
              refine r_aload_n hC 1 dX8_works_137 (rfl : 137 + 1 = 138) rfl rfl ?_
              refine r_getr hC 0 7 6 5 (o := 5) fw_X8_22 rfl rfl dX8_works_138 (rfl : 138 + 3 = 141) ?_
              refine r_iload_n hC 2 dX8_works_141 (rfl : 141 + 1 = 142) rfl rfl ?_
              refine r_iald hC 5 rfl q_9 dX8_works_142 (rfl : 142 + 1 = 143) ?_
              refine r_iload_n hC 3 dX8_works_143 (rfl : 143 + 1 = 144) rfl rfl ?_
              refine r_iload_n hC 4 dX8_works_144 (rfl : 144 + 1 = 145) rfl rfl ?_
              refine r_callVi hC cs_X8_111 rfl (by omega) (hF (σ_16.1 5 (Int32.toNatClampNeg x1)) x2 x3 σ_16 _ h) rfl rfl (Nat.le_of_ble_eq_true rfl) dX8_works_145 (rfl : 145 + 3 = 148) (fun r_21 σ_20 h => ?_)
              exact r_iret hC rfl h dX8_works_148
        · replace h := if_t h q
          refine r_aload_n hC 1 dX8_works_96 (rfl : 96 + 1 = 97) rfl rfl ?_
          refine r_dup hC dX8_works_97 (rfl : 97 + 1 = 98) rfl ?_
          refine r_geti hC 0 7 9 fw_X8_108 rfl dX8_works_98 (rfl : 98 + 3 = 101) ?_
          refine r_iconst hC dX8_works_101 (rfl : 101 + 1 = 102) (v := 1) (by decide) ?_
          refine r_iadd hC dX8_works_102 (rfl : 102 + 1 = 103) ?_
          obtain ⟨σ_22, e_23, h⟩ := lt_nm h
          refine r_puti hC 0 7 9 fw_X8_108 fp_8_9 rfl e_23 dX8_works_103 (rfl : 103 + 3 = 106) ?_
          refine r_iload hC 0 dX8_works_106 (rfl : 106 + 2 = 108) rfl ?_
          refine r_ineg hC dX8_works_108 (rfl : 108 + 1 = 109) ?_
          exact r_iret hC rfl h dX8_works_109
      · replace h := if_f h q
        refine r_iconst hC dX8_works_84 (rfl : 84 + 1 = 85) (v := 0) (by decide) ?_
        exact r_iret hC rfl h dX8_works_85
    · replace h := if_f h q
      refine r_aload_n hC 0 dX8_works_19 (rfl : 19 + 1 = 20) rfl rfl ?_
      refine r_dup hC dX8_works_20 (rfl : 20 + 1 = 21) rfl ?_
      refine r_geti hC 0 7 9 fw_X8_108 rfl dX8_works_21 (rfl : 21 + 3 = 24) ?_
      refine r_iconst hC dX8_works_24 (rfl : 24 + 1 = 25) (v := 1) (by decide) ?_
      refine r_iadd hC dX8_works_25 (rfl : 25 + 1 = 26) ?_
      obtain ⟨σ_24, e_25, h⟩ := lt_nm h
      refine r_puti hC 0 7 9 fw_X8_108 fp_8_9 rfl e_25 dX8_works_26 (rfl : 26 + 3 = 29) ?_
      refine r_aload_n hC 0 dX8_works_29 (rfl : 29 + 1 = 30) rfl rfl ?_
      refine r_getr hC 0 7 2 1 (o := 1) fw_X8_7 rfl rfl dX8_works_30 (rfl : 30 + 3 = 33) ?_
      refine r_iload_n hC 1 dX8_works_33 (rfl : 33 + 1 = 34) rfl rfl ?_
      refine r_iald hC 1 rfl q_9 dX8_works_34 (rfl : 34 + 1 = 35) ?_
      refine r_if_ne hC dX8_works_35 (rfl : 35 + 3 = 38) (tgt := 47) (by decide) (fun q => ?_) (fun q => ?_)
      · replace h := if_f h q
        refine r_aload_n hC 0 dX8_works_47 (rfl : 47 + 1 = 48) rfl rfl ?_
        refine r_getr hC 0 7 2 1 (o := 1) fw_X8_7 rfl rfl dX8_works_48 (rfl : 48 + 3 = 51) ?_
        refine r_iload_n hC 1 dX8_works_51 (rfl : 51 + 1 = 52) rfl rfl ?_
        refine r_iald hC 1 rfl q_9 dX8_works_52 (rfl : 52 + 1 = 53) ?_
        refine r_iconst hC dX8_works_53 (rfl : 53 + 1 = 54) (v := 1) (by decide) ?_
        refine r_icmp_ne hC dX8_works_54 (rfl : 54 + 3 = 57) (tgt := 61) (by decide) (fun q => ?_) (fun q => ?_)
        · replace h := if_f h q
          refine r_iload_n hC 3 dX8_works_61 (rfl : 61 + 1 = 62) rfl rfl ?_
          exact r_iret hC rfl h dX8_works_62
        · replace h := if_t h q
          refine r_iload_n hC 2 dX8_works_57 (rfl : 57 + 1 = 58) rfl rfl ?_
          refine r_goto hC dX8_works_58 (tgt := 62) (by decide) ?_
          exact r_iret hC rfl h dX8_works_62
      · replace h := if_t h q
        refine r_aload_n hC 0 dX8_works_38 (rfl : 38 + 1 = 39) rfl rfl ?_
        refine r_getr hC 0 7 3 2 (o := 2) fw_X8_13 rfl rfl dX8_works_39 (rfl : 39 + 3 = 42) ?_
        refine r_iload_n hC 1 dX8_works_42 (rfl : 42 + 1 = 43) rfl rfl ?_
        refine r_iald hC 2 rfl q_9 dX8_works_43 (rfl : 43 + 1 = 44) ?_
        refine r_goto hC dX8_works_44 (tgt := 62) (by decide) ?_
        exact r_iret hC rfl h dX8_works_62
  · replace h := if_f h q
    refine r_iconst hC dX8_works_7 (rfl : 7 + 1 = 8) (v := 0) (by decide) ?_
    exact r_iret hC rfl h dX8_works_8
set_option maxHeartbeats 1000000 in
set_option maxRecDepth 100000 in
theorem mX8_works {G : Gx} {b : Nat} {l : Launch} (hS : Sok YM G) : ∀ (e k : Nat), 1 * e + (1) ≤ k → ∀ (x1 : Int32) (x2 : Int32) (x3 : Int32) (σ : Sg) (Q : Int32 → Sg → Prop), wX8_works e x1 x2 x3 σ Q → Mi YM G b l yX8_works cX8_works 6 .int k [.ref (G.1 0), .int x1, .int x2, .int x3] σ Q := by
  intro e
  induction e with
  | zero =>
    intro k _ x1 x2 x3 σ Q h
    exact h.elim
  | succ e ih =>
    intro k hk x1 x2 x3 σ Q h
    exact mX8_works_b hS (wX8_works e) (kf := 1 * e + (1)) (fun x1 x2 x3 σ Q h => ih _ (Nat.le_refl _) x1 x2 x3 σ Q h) ⟨by omega, by omega⟩ x1 x2 x3 σ Q h
set_option maxHeartbeats 1000000 in
set_option maxRecDepth 100000 in
theorem mX8_valueOf {G : Gx} {b k : Nat} {l : Launch} (hS : Sok YM G) (d : Nat) (hk : 1 * d + 2 ≤ k) (x1 : Int32) (x2 : Int32) (x3 : Int32) (σ : Sg) (Q : Int32 → Sg → Prop) (h : wX8_valueOf d x1 x2 x3 σ Q) : Mi YM G b l yX8_valueOf cX8_valueOf 4 .int k [.ref (G.1 0), .int x1, .int x2, .int x3] σ Q := by
  refine enter hS (by decide +kernel) (Nat.le_of_ble_eq_true rfl) (lv := [(0, .ref (G.1 0)), (1, .int x1), (2, .int x2), (3, .int x3)]) rfl (fun K hl hC => ?_)
  subst hl
  unfold wX8_valueOf at h
  show V YM G K (Zi YM G K Q) 4 σ 0 [(0, .ref (G.1 0)), (1, .int x1), (2, .int x2), (3, .int x3)] []
  refine r_aload_n hC 0 dX8_valueOf_0 (rfl : 0 + 1 = 1) rfl rfl ?_
  refine r_iconst hC dX8_valueOf_1 (rfl : 1 + 1 = 2) (v := 0) (by decide) ?_
  obtain ⟨σ_1, e_2, h⟩ := lt_nm h
  refine r_putz hC 0 7 8 fw_X8_104 fp_8_8 rfl (by decide) e_2 dX8_valueOf_2 (rfl : 2 + 3 = 5) ?_
  refine r_aload_n hC 0 dX8_valueOf_5 (rfl : 5 + 1 = 6) rfl rfl ?_
  refine r_iconst hC dX8_valueOf_6 (rfl : 6 + 1 = 7) (v := 0) (by decide) ?_
  obtain ⟨σ_3, e_4, h⟩ := lt_nm h
  refine r_puti hC 0 7 9 fw_X8_108 fp_8_9 rfl e_4 dX8_valueOf_7 (rfl : 7 + 3 = 10) ?_
  refine r_aload_n hC 0 dX8_valueOf_10 (rfl : 10 + 1 = 11) rfl rfl ?_
  refine r_iload_n hC 1 dX8_valueOf_11 (rfl : 11 + 1 = 12) rfl rfl ?_
  refine r_iload_n hC 2 dX8_valueOf_12 (rfl : 12 + 1 = 13) rfl rfl ?_
  refine r_iload_n hC 3 dX8_valueOf_13 (rfl : 13 + 1 = 14) rfl rfl ?_
  refine r_callVi hC cs_X8_111 rfl (by omega) (mX8_works hC.2.2.2.2.2.2.2.2.1 d (k - 1) (by omega) x1 x2 x3 σ_3 _ h) rfl rfl (Nat.le_of_ble_eq_true rfl) dX8_valueOf_14 (rfl : 14 + 3 = 17) (fun r_6 σ_5 h => ?_)
  exact r_iret hC rfl h dX8_valueOf_17
set_option maxHeartbeats 1000000 in
set_option maxRecDepth 100000 in
theorem sX8_isSafe_12 {G : Gx} {b k : Nat} {K : Kx} {l : Launch} (hl : K.2.1 = l) (hC : Cx YM G b K cX8_isSafe RX8 6 (some .boolean) k) (d : Nat) (hk : 1 * d + 3 ≤ k) (K3 : Int32 → Int32 → Int32 → Sg → Prop) (Q : Int32 → Sg → Prop) (h3 : ∀ (x1 : Int32) (x2 : Int32) (x3 : Int32) (σ : Sg), K3 x1 x2 x3 σ → V YM G K (Zi YM G K Q) 6 σ 3 [(0, .ref (G.1 0)), (1, .int x1), (2, .int x2), (3, .int x3)] []) : ∀ (n : Nat) (x1 : Int32) (x2 : Int32) (x3 : Int32) (x4 : Int32) (σ : Sg), wX8_isSafe_12 d K3 Q n x1 x2 x3 x4 σ → V YM G K (Zi YM G K Q) 6 σ 12 [(0, .ref (G.1 0)), (1, .int x1), (2, .int x2), (3, .int x3), (4, .int x4)] [] := by
  subst hl
  intro n
  induction n with
  | zero =>
    intro x1 x2 x3 x4 σ h
    exact h.elim
  | succ n ih =>
    intro x1 x2 x3 x4 σ h
    have h : wX8_isSafe_12_b d K3 (wX8_isSafe_12 d K3 Q n) x1 x2 x3 x4 σ Q := h
    unfold wX8_isSafe_12_b at h
    refine r_iload hC 4 dX8_isSafe_12 (rfl : 12 + 2 = 14) rfl ?_
    refine r_iload_n hC 2 dX8_isSafe_14 (rfl : 14 + 1 = 15) rfl rfl ?_
    refine r_icmp_gt hC dX8_isSafe_15 (rfl : 15 + 3 = 18) (tgt := 43) (by decide) (fun q => ?_) (fun q => ?_)
    · replace h := if_t h q
      obtain ⟨x3_1, e_2, h⟩ := lt_nm h
      refine r_iinc hC (j := 3) dX8_isSafe_43 (rfl : 43 + 3 = 46) rfl (zz := 1) (by decide) e_2 (by decide) (lv2 := [(3, .int x3_1), (0, .ref (G.1 0)), (1, .int x1), (2, .int x2), (4, .int x4)]) rfl ?_
      refine r_goto hC dX8_isSafe_46 (tgt := 3) (by decide) ?_
      exact (h3 x1 x2 x3_1 σ h).sub [1, 2, 3, 0] rfl
    · replace h := if_f h q
      refine r_aload_n hC 0 dX8_isSafe_18 (rfl : 18 + 1 = 19) rfl rfl ?_
      refine r_iload_n hC 1 dX8_isSafe_19 (rfl : 19 + 1 = 20) rfl rfl ?_
      refine r_iload_n hC 3 dX8_isSafe_20 (rfl : 20 + 1 = 21) rfl rfl ?_
      refine r_iload hC 4 dX8_isSafe_21 (rfl : 21 + 2 = 23) rfl ?_
      refine r_callVi hC cs_X8_118 rfl (by omega) (mX8_valueOf hC.2.2.2.2.2.2.2.2.1 d (k := k - 1) (by omega) x1 x3 x4 σ _ h) rfl rfl (Nat.le_of_ble_eq_true rfl) dX8_isSafe_23 (rfl : 23 + 3 = 26) (fun r_4 σ_3 h => ?_)
      refine r_istore hC dX8_isSafe_26 (rfl : 26 + 2 = 28) (by decide) rfl (lv2 := [(5, .int r_4), (0, .ref (G.1 0)), (1, .int x1), (2, .int x2), (3, .int x3), (4, .int x4)]) rfl ?_
      refine r_aload_n hC 1 dX8_isSafe_28 (rfl : 28 + 1 = 29) rfl rfl ?_
      refine r_geti hC 0 7 8 fw_X8_104 rfl dX8_isSafe_29 (rfl : 29 + 3 = 32) ?_
      refine r_if_eq hC dX8_isSafe_32 (rfl : 32 + 3 = 35) (tgt := 37) (by decide) (fun q => ?_) (fun q => ?_)
      · replace h := if_t h q
        obtain ⟨x4_5, e_6, h⟩ := lt_nm h
        refine r_iinc hC (j := 5) dX8_isSafe_37 (rfl : 37 + 3 = 40) rfl (zz := 1) (by decide) e_6 (by decide) (lv2 := [(4, .int x4_5), (5, .int r_4), (0, .ref (G.1 0)), (1, .int x1), (2, .int x2), (3, .int x3)]) rfl ?_
        refine r_goto hC dX8_isSafe_40 (tgt := 12) (by decide) ?_
        exact (ih x1 x2 x3 x4_5 σ_3 h).sub [2, 3, 4, 5, 0] rfl
      · replace h := if_f h q
        refine r_iconst hC dX8_isSafe_35 (rfl : 35 + 1 = 36) (v := 0) (by decide) ?_
        exact r_zret hC rfl (by decide) h dX8_isSafe_36
set_option maxHeartbeats 1000000 in
set_option maxRecDepth 100000 in
theorem sX8_isSafe_3 {G : Gx} {b k : Nat} {K : Kx} {l : Launch} (hl : K.2.1 = l) (hC : Cx YM G b K cX8_isSafe RX8 6 (some .boolean) k) (d : Nat) (hk : 1 * d + 3 ≤ k)  (Q : Int32 → Sg → Prop)  : ∀ (n : Nat) (x1 : Int32) (x2 : Int32) (x3 : Int32) (σ : Sg), wX8_isSafe_3 d Q n x1 x2 x3 σ → V YM G K (Zi YM G K Q) 6 σ 3 [(0, .ref (G.1 0)), (1, .int x1), (2, .int x2), (3, .int x3)] [] := by
  subst hl
  intro n
  induction n with
  | zero =>
    intro x1 x2 x3 σ h
    exact h.elim
  | succ n ih =>
    intro x1 x2 x3 σ h
    have h : wX8_isSafe_3_b d (wX8_isSafe_3 d Q n) x1 x2 x3 σ Q := h
    unfold wX8_isSafe_3_b at h
    refine r_iload_n hC 3 dX8_isSafe_3 (rfl : 3 + 1 = 4) rfl rfl ?_
    refine r_iload_n hC 2 dX8_isSafe_4 (rfl : 4 + 1 = 5) rfl rfl ?_
    refine r_icmp_gt hC dX8_isSafe_5 (rfl : 5 + 3 = 8) (tgt := 49) (by decide) (fun q => ?_) (fun q => ?_)
    · replace h := if_t h q
      refine r_iconst hC dX8_isSafe_49 (rfl : 49 + 1 = 50) (v := 1) (by decide) ?_
      exact r_zret hC rfl (by decide) h dX8_isSafe_50
    · replace h := if_f h q
      refine r_iload_n hC 2 dX8_isSafe_8 (rfl : 8 + 1 = 9) rfl rfl ?_
      refine r_ineg hC dX8_isSafe_9 (rfl : 9 + 1 = 10) ?_
      obtain ⟨x4_7, e_8, h⟩ := lt_nm h
      refine r_istore hC dX8_isSafe_10 (rfl : 10 + 2 = 12) (by decide) e_8 (lv2 := [(4, .int x4_7), (0, .ref (G.1 0)), (1, .int x1), (2, .int x2), (3, .int x3)]) rfl ?_
      obtain ⟨nn, h⟩ := h
      exact (sX8_isSafe_12 rfl hC d hk (wX8_isSafe_3 d Q n) Q ih nn x1 x2 x3 x4_7 σ h).sub [1, 2, 3, 4, 0] rfl
set_option maxHeartbeats 1000000 in
set_option maxRecDepth 100000 in
theorem mX8_isSafe {G : Gx} {b k : Nat} {l : Launch} (hS : Sok YM G) (d : Nat) (hk : 1 * d + 3 ≤ k) (x1 : Int32) (x2 : Int32) (σ : Sg) (Q : Int32 → Sg → Prop) (h : wX8_isSafe d x1 x2 σ Q) : Mi YM G b l yX8_isSafe cX8_isSafe 6 .boolean k [.ref (G.1 0), .int x1, .int x2] σ Q := by
  refine enter hS (by decide +kernel) (Nat.le_of_ble_eq_true rfl) (lv := [(0, .ref (G.1 0)), (1, .int x1), (2, .int x2)]) rfl (fun K hl hC => ?_)
  subst hl
  unfold wX8_isSafe at h
  show V YM G K (Zi YM G K Q) 6 σ 0 [(0, .ref (G.1 0)), (1, .int x1), (2, .int x2)] []
  refine r_iload_n hC 2 dX8_isSafe_0 (rfl : 0 + 1 = 1) rfl rfl ?_
  refine r_ineg hC dX8_isSafe_1 (rfl : 1 + 1 = 2) ?_
  obtain ⟨x3_9, e_10, h⟩ := lt_nm h
  refine r_istore_n hC dX8_isSafe_2 (rfl : 2 + 1 = 3) rfl (by decide) e_10 (lv2 := [(3, .int x3_9), (0, .ref (G.1 0)), (1, .int x1), (2, .int x2)]) rfl ?_
  obtain ⟨nn, h⟩ := h
  exact (sX8_isSafe_3 rfl hC d hk  Q  nn x1 x2 x3_9 σ h).sub [1, 2, 3, 0] rfl
set_option maxHeartbeats 1000000 in
set_option maxRecDepth 100000 in
theorem sX8_folded_151 {G : Gx} {b k : Nat} {K : Kx} {l : Launch} (hl : K.2.1 = l) (hC : Cx YM G b K cX8_folded RX8 6 (some .int) k)  (hk : 2 ≤ k)  (Q : Int32 → Sg → Prop)  (s1 : Int32) (σ : Sg) (h : wX8_folded_151  s1 σ Q) : V YM G K (Zi YM G K Q) 6 σ 151 [] [.int s1, .ref (G.1 0)] := by
  subst hl
  unfold wX8_folded_151 at h
  refine r_callVi hC cs_X8_143 rfl (by omega) (mX8_numeral hC.2.2.2.2.2.2.2.2.1 (k := k - 1) (by omega) s1 σ _ h) rfl rfl (Nat.le_of_ble_eq_true rfl) dX8_folded_151 (rfl : 151 + 3 = 154) (fun r_2 σ_1 h => ?_)
  exact r_iret hC rfl h dX8_folded_154
set_option maxHeartbeats 1000000 in
set_option maxRecDepth 100000 in
theorem sX8_folded_143 {G : Gx} {b k : Nat} {K : Kx} {l : Launch} (hl : K.2.1 = l) (hC : Cx YM G b K cX8_folded RX8 6 (some .int) k)  (hk : 2 ≤ k)  (Q : Int32 → Sg → Prop)  (x3 : Int32) (x4 : Int32) (x5 : Int32) (σ : Sg) (h : wX8_folded_143  x3 x4 x5 σ Q) : V YM G K (Zi YM G K Q) 6 σ 143 [(3, .int x3), (4, .int x4), (5, .int x5)] [.ref (G.1 0)] := by
  subst hl
  unfold wX8_folded_143 at h
  refine r_iload_n hC 0 dX8_folded_143 (rfl : 143 + 1 = 144) rfl rfl ?_
  refine r_iload hC 1 dX8_folded_144 (rfl : 144 + 2 = 146) rfl ?_
  refine r_iload hC 2 dX8_folded_146 (rfl : 146 + 2 = 148) rfl ?_
  refine r_callSi hC cs_X8_115 (by omega) (mX8_both hC.2.2.2.2.2.2.2.2.1 (k := k - 1) (by omega) x3 x4 x5 σ _ h) rfl rfl (Nat.le_of_ble_eq_true rfl) dX8_folded_148 (rfl : 148 + 3 = 151) (fun r_4 σ_3 h => ?_)
  exact (sX8_folded_151 rfl hC hk  Q  r_4 σ_3 h).sub [] rfl
set_option maxHeartbeats 1000000 in
set_option maxRecDepth 100000 in
theorem sX8_folded_122 {G : Gx} {b k : Nat} {K : Kx} {l : Launch} (hl : K.2.1 = l) (hC : Cx YM G b K cX8_folded RX8 6 (some .int) k)  (hk : 2 ≤ k)  (Q : Int32 → Sg → Prop)  (x2 : Int32) (x3 : Int32) (x4 : Int32) (x5 : Int32) (σ : Sg) (h : wX8_folded_122  x2 x3 x4 x5 σ Q) : V YM G K (Zi YM G K Q) 6 σ 122 [(0, .ref (G.1 0)), (2, .int x2), (3, .int x3), (4, .int x4), (5, .int x5)] [] := by
  subst hl
  unfold wX8_folded_122 at h
  refine r_aload_n hC 0 dX8_folded_122 (rfl : 122 + 1 = 123) rfl rfl ?_
  refine r_iload_n hC 2 dX8_folded_123 (rfl : 123 + 1 = 124) rfl rfl ?_
  refine r_bipush hC dX8_folded_124 (rfl : 124 + 2 = 126) (v := 6) (by decide) ?_
  refine r_icmp_ne hC dX8_folded_126 (rfl : 126 + 3 = 129) (tgt := 143) (by decide) (fun q => ?_) (fun q => ?_)
  · replace h := if_f h q
    exact (sX8_folded_143 rfl hC hk  Q  x3 x4 x5 σ h).sub [2, 3, 4] rfl
  · replace h := if_t h q
    refine r_iload_n hC 1 dX8_folded_129 (rfl : 129 + 1 = 130) rfl rfl ?_
    refine r_iconst hC dX8_folded_130 (rfl : 130 + 1 = 131) (v := 2) (by decide) ?_
    refine r_icmp_ne hC dX8_folded_131 (rfl : 131 + 3 = 134) (tgt := 143) (by decide) (fun q => ?_) (fun q => ?_)
    · replace h := if_f h q
      exact (sX8_folded_143 rfl hC hk  Q  x3 x4 x5 σ h).sub [2, 3, 4] rfl
    · replace h := if_t h q
      refine r_iload hC 3 dX8_folded_134 (rfl : 134 + 2 = 136) rfl ?_
      refine r_iload hC 4 dX8_folded_136 (rfl : 136 + 2 = 138) rfl ?_
      refine r_imul hC dX8_folded_138 (rfl : 138 + 1 = 139) ?_
      refine r_i2s hC dX8_folded_139 (rfl : 139 + 1 = 140) ?_
      refine r_goto hC dX8_folded_140 (tgt := 151) (by decide) ?_
      exact (sX8_folded_151 rfl hC hk  Q  (Int16.toInt32 (Int32.toInt16 (x4 * x5))) σ h).sub [] rfl
set_option maxHeartbeats 1000000 in
set_option maxRecDepth 100000 in
theorem sX8_folded_102 {G : Gx} {b k : Nat} {K : Kx} {l : Launch} (hl : K.2.1 = l) (hC : Cx YM G b K cX8_folded RX8 6 (some .int) k)  (hk : 2 ≤ k)  (Q : Int32 → Sg → Prop)  (x2 : Int32) (x3 : Int32) (x4 : Int32) (x5 : Int32) (σ : Sg) (h : wX8_folded_102  x2 x3 x4 x5 σ Q) : V YM G K (Zi YM G K Q) 6 σ 102 [(0, .ref (G.1 0)), (2, .int x2), (3, .int x3), (4, .int x4), (5, .int x5)] [] := by
  subst hl
  unfold wX8_folded_102 at h
  refine r_iload_n hC 2 dX8_folded_102 (rfl : 102 + 1 = 103) rfl rfl ?_
  refine r_iconst hC dX8_folded_103 (rfl : 103 + 1 = 104) (v := 5) (by decide) ?_
  refine r_icmp_ne hC dX8_folded_104 (rfl : 104 + 3 = 107) (tgt := 122) (by decide) (fun q => ?_) (fun q => ?_)
  · replace h := if_f h q
    exact (sX8_folded_122 rfl hC hk  Q  x2 x3 x4 x5 σ h).sub [0, 1, 2, 3, 4] rfl
  · replace h := if_t h q
    refine r_iload_n hC 1 dX8_folded_107 (rfl : 107 + 1 = 108) rfl rfl ?_
    refine r_iconst hC dX8_folded_108 (rfl : 108 + 1 = 109) (v := 1) (by decide) ?_
    refine r_icmp_ne hC dX8_folded_109 (rfl : 109 + 3 = 112) (tgt := 122) (by decide) (fun q => ?_) (fun q => ?_)
    · replace h := if_f h q
      exact (sX8_folded_122 rfl hC hk  Q  x2 x3 x4 x5 σ h).sub [0, 1, 2, 3, 4] rfl
    · replace h := if_t h q
      refine r_aload_n hC 0 dX8_folded_112 (rfl : 112 + 1 = 113) rfl rfl ?_
      refine r_iload hC 4 dX8_folded_113 (rfl : 113 + 2 = 115) rfl ?_
      refine r_iload hC 3 dX8_folded_115 (rfl : 115 + 2 = 117) rfl ?_
      refine r_isub hC dX8_folded_117 (rfl : 117 + 1 = 118) ?_
      refine r_callVi hC cs_X8_143 rfl (by omega) (mX8_numeral hC.2.2.2.2.2.2.2.2.1 (k := k - 1) (by omega) (x5 - x4) σ _ h) rfl rfl (Nat.le_of_ble_eq_true rfl) dX8_folded_118 (rfl : 118 + 3 = 121) (fun r_6 σ_5 h => ?_)
      exact r_iret hC rfl h dX8_folded_121
set_option maxHeartbeats 1000000 in
set_option maxRecDepth 100000 in
theorem mX8_folded {G : Gx} {b k : Nat} {l : Launch} (hS : Sok YM G)  (hk : 2 ≤ k) (x1 : Int32) (x2 : Int32) (σ : Sg) (Q : Int32 → Sg → Prop) (h : wX8_folded  x1 x2 σ Q) : Mi YM G b l yX8_folded cX8_folded 6 .int k [.ref (G.1 0), .int x1, .int x2] σ Q := by
  refine enter hS (by decide +kernel) (Nat.le_of_ble_eq_true rfl) (lv := [(0, .ref (G.1 0)), (1, .int x1), (2, .int x2)]) rfl (fun K hl hC => ?_)
  subst hl
  unfold wX8_folded at h
  show V YM G K (Zi YM G K Q) 6 σ 0 [(0, .ref (G.1 0)), (1, .int x1), (2, .int x2)] []
  refine r_aload_n hC 0 dX8_folded_0 (rfl : 0 + 1 = 1) rfl rfl ?_
  refine r_getr hC 0 7 2 1 (o := 1) fw_X8_7 rfl rfl dX8_folded_1 (rfl : 1 + 3 = 4) ?_
  refine r_iload_n hC 1 dX8_folded_4 (rfl : 4 + 1 = 5) rfl rfl ?_
  obtain ⟨q_7, h⟩ := h
  refine r_iald hC 1 rfl q_7 dX8_folded_5 (rfl : 5 + 1 = 6) ?_
  obtain ⟨x3_8, e_9, h⟩ := lt_nm h
  refine r_istore_n hC dX8_folded_6 (rfl : 6 + 1 = 7) rfl (by decide) e_9 (lv2 := [(3, .int x3_8), (0, .ref (G.1 0)), (1, .int x1), (2, .int x2)]) rfl ?_
  refine r_iload_n hC 0 dX8_folded_7 (rfl : 7 + 1 = 8) rfl rfl ?_
  refine r_iconst hC dX8_folded_8 (rfl : 8 + 1 = 9) (v := 3) (by decide) ?_
  refine r_icmp_lt hC dX8_folded_9 (rfl : 9 + 3 = 12) (tgt := 32) (by decide) (fun q => ?_) (fun q => ?_)
  · replace h := if_t h q
    refine r_iload_n hC 2 dX8_folded_32 (rfl : 32 + 1 = 33) rfl rfl ?_
    exact r_iret hC rfl h dX8_folded_33
  · replace h := if_f h q
    refine r_iload_n hC 0 dX8_folded_12 (rfl : 12 + 1 = 13) rfl rfl ?_
    refine r_bipush hC dX8_folded_13 (rfl : 13 + 2 = 15) (v := 8) (by decide) ?_
    refine r_icmp_eq hC dX8_folded_15 (rfl : 15 + 3 = 18) (tgt := 32) (by decide) (fun q => ?_) (fun q => ?_)
    · replace h := if_t h q
      refine r_iload_n hC 2 dX8_folded_32 (rfl : 32 + 1 = 33) rfl rfl ?_
      exact r_iret hC rfl h dX8_folded_33
    · replace h := if_f h q
      refine r_aload_n hC 1 dX8_folded_18 (rfl : 18 + 1 = 19) rfl rfl ?_
      refine r_getr hC 0 7 2 1 (o := 1) fw_X8_7 rfl rfl dX8_folded_19 (rfl : 19 + 3 = 22) ?_
      refine r_aload_n hC 1 dX8_folded_22 (rfl : 22 + 1 = 23) rfl rfl ?_
      refine r_getr hC 0 7 4 3 (o := 3) fw_X8_16 rfl rfl dX8_folded_23 (rfl : 23 + 3 = 26) ?_
      refine r_iload_n hC 2 dX8_folded_26 (rfl : 26 + 1 = 27) rfl rfl ?_
      refine r_iald hC 3 rfl q_7 dX8_folded_27 (rfl : 27 + 1 = 28) ?_
      obtain ⟨q_10, h⟩ := h
      refine r_iald hC 1 rfl q_10 dX8_folded_28 (rfl : 28 + 1 = 29) ?_
      refine r_if_eq hC dX8_folded_29 (rfl : 29 + 3 = 32) (tgt := 34) (by decide) (fun q => ?_) (fun q => ?_)
      · replace h := if_t h q
        refine r_aload_n hC 1 dX8_folded_34 (rfl : 34 + 1 = 35) rfl rfl ?_
        refine r_getr hC 0 7 3 2 (o := 2) fw_X8_13 rfl rfl dX8_folded_35 (rfl : 35 + 3 = 38) ?_
        refine r_aload_n hC 1 dX8_folded_38 (rfl : 38 + 1 = 39) rfl rfl ?_
        refine r_getr hC 0 7 4 3 (o := 3) fw_X8_16 rfl rfl dX8_folded_39 (rfl : 39 + 3 = 42) ?_
        refine r_iload_n hC 2 dX8_folded_42 (rfl : 42 + 1 = 43) rfl rfl ?_
        refine r_iald hC 3 rfl q_7 dX8_folded_43 (rfl : 43 + 1 = 44) ?_
        refine r_iald hC 2 rfl q_10 dX8_folded_44 (rfl : 44 + 1 = 45) ?_
        obtain ⟨x4_11, e_12, h⟩ := lt_nm h
        refine r_istore hC dX8_folded_45 (rfl : 45 + 2 = 47) (by decide) e_12 (lv2 := [(4, .int x4_11), (3, .int x3_8), (0, .ref (G.1 0)), (1, .int x1), (2, .int x2)]) rfl ?_
        refine r_iload_n hC 1 dX8_folded_47 (rfl : 47 + 1 = 48) rfl rfl ?_
        refine r_iconst hC dX8_folded_48 (rfl : 48 + 1 = 49) (v := 3) (by decide) ?_
        refine r_icmp_ne hC dX8_folded_49 (rfl : 49 + 3 = 52) (tgt := 60) (by decide) (fun q => ?_) (fun q => ?_)
        · replace h := if_f h q
          refine r_aload_n hC 2 dX8_folded_60 (rfl : 60 + 1 = 61) rfl rfl ?_
          refine r_getr hC 0 7 2 1 (o := 1) fw_X8_7 rfl rfl dX8_folded_61 (rfl : 61 + 3 = 64) ?_
          refine r_aload_n hC 2 dX8_folded_64 (rfl : 64 + 1 = 65) rfl rfl ?_
          refine r_getr hC 0 7 5 4 (o := 4) fw_X8_19 rfl rfl dX8_folded_65 (rfl : 65 + 3 = 68) ?_
          refine r_iload_n hC 3 dX8_folded_68 (rfl : 68 + 1 = 69) rfl rfl ?_
          refine r_iald hC 4 rfl q_7 dX8_folded_69 (rfl : 69 + 1 = 70) ?_
          obtain ⟨q_13, h⟩ := h
          refine r_iald hC 1 rfl q_13 dX8_folded_70 (rfl : 70 + 1 = 71) ?_
          refine r_if_eq hC dX8_folded_71 (rfl : 71 + 3 = 74) (tgt := 76) (by decide) (fun q => ?_) (fun q => ?_)
          · replace h := if_t h q
            refine r_aload_n hC 2 dX8_folded_76 (rfl : 76 + 1 = 77) rfl rfl ?_
            refine r_getr hC 0 7 3 2 (o := 2) fw_X8_13 rfl rfl dX8_folded_77 (rfl : 77 + 3 = 80) ?_
            refine r_aload_n hC 2 dX8_folded_80 (rfl : 80 + 1 = 81) rfl rfl ?_
            refine r_getr hC 0 7 5 4 (o := 4) fw_X8_19 rfl rfl dX8_folded_81 (rfl : 81 + 3 = 84) ?_
            refine r_iload_n hC 3 dX8_folded_84 (rfl : 84 + 1 = 85) rfl rfl ?_
            refine r_iald hC 4 rfl q_7 dX8_folded_85 (rfl : 85 + 1 = 86) ?_
            refine r_iald hC 2 rfl q_13 dX8_folded_86 (rfl : 86 + 1 = 87) ?_
            obtain ⟨x5_14, e_15, h⟩ := lt_nm h
            refine r_istore hC dX8_folded_87 (rfl : 87 + 2 = 89) (by decide) e_15 (lv2 := [(5, .int x5_14), (4, .int x4_11), (3, .int x3_8), (0, .ref (G.1 0)), (1, .int x1), (2, .int x2)]) rfl ?_
            refine r_iload_n hC 2 dX8_folded_89 (rfl : 89 + 1 = 90) rfl rfl ?_
            refine r_bipush hC dX8_folded_90 (rfl : 90 + 2 = 92) (v := 7) (by decide) ?_
            refine r_icmp_ne hC dX8_folded_92 (rfl : 92 + 3 = 95) (tgt := 102) (by decide) (fun q => ?_) (fun q => ?_)
            · replace h := if_f h q
              exact (sX8_folded_102 rfl hC hk  Q  x2 x3_8 x4_11 x5_14 σ h).sub [3, 5, 2, 1, 0] rfl
            · replace h := if_t h q
              refine r_iload hC 0 dX8_folded_95 (rfl : 95 + 2 = 97) rfl ?_
              refine r_if_ne hC dX8_folded_97 (rfl : 97 + 3 = 100) (tgt := 102) (by decide) (fun q => ?_) (fun q => ?_)
              · replace h := if_f h q
                exact (sX8_folded_102 rfl hC hk  Q  x2 x3_8 x4_11 x5_14 σ h).sub [3, 5, 2, 1, 0] rfl
              · replace h := if_t h q
                refine r_iload_n hC 4 dX8_folded_100 (rfl : 100 + 1 = 101) rfl rfl ?_
                exact r_iret hC rfl h dX8_folded_101
          · replace h := if_f h q
            refine r_iload_n hC 3 dX8_folded_74 (rfl : 74 + 1 = 75) rfl rfl ?_
            exact r_iret hC rfl h dX8_folded_75
        · replace h := if_t h q
          refine r_aload_n hC 2 dX8_folded_52 (rfl : 52 + 1 = 53) rfl rfl ?_
          refine r_iload hC 0 dX8_folded_53 (rfl : 53 + 2 = 55) rfl ?_
          refine r_ineg hC dX8_folded_55 (rfl : 55 + 1 = 56) ?_
          refine r_callVi hC cs_X8_143 rfl (by omega) (mX8_numeral hC.2.2.2.2.2.2.2.2.1 (k := k - 1) (by omega) (-x4_11) σ _ h) rfl rfl (Nat.le_of_ble_eq_true rfl) dX8_folded_56 (rfl : 56 + 3 = 59) (fun r_17 σ_16 h => ?_)
          exact r_iret hC rfl h dX8_folded_59
      · replace h := if_f h q
        refine r_iload_n hC 2 dX8_folded_32 (rfl : 32 + 1 = 33) rfl rfl ?_
        exact r_iret hC rfl h dX8_folded_33
set_option maxHeartbeats 1000000 in
set_option maxRecDepth 100000 in
theorem mX8_zeroed {G : Gx} {b k : Nat} {l : Launch} (hS : Sok YM G)  (hk : 2 ≤ k) (x1 : Int32) (x2 : Int32) (σ : Sg) (Q : Int32 → Sg → Prop) (h : wX8_zeroed  x1 x2 σ Q) : Mi YM G b l yX8_zeroed cX8_zeroed 6 .int k [.ref (G.1 0), .int x1, .int x2] σ Q := by
  refine enter hS (by decide +kernel) (Nat.le_of_ble_eq_true rfl) (lv := [(0, .ref (G.1 0)), (1, .int x1), (2, .int x2)]) rfl (fun K hl hC => ?_)
  subst hl
  unfold wX8_zeroed at h
  show V YM G K (Zi YM G K Q) 6 σ 0 [(0, .ref (G.1 0)), (1, .int x1), (2, .int x2)] []
  refine r_aload_n hC 0 dX8_zeroed_0 (rfl : 0 + 1 = 1) rfl rfl ?_
  refine r_getr hC 0 7 2 1 (o := 1) fw_X8_7 rfl rfl dX8_zeroed_1 (rfl : 1 + 3 = 4) ?_
  refine r_iload_n hC 1 dX8_zeroed_4 (rfl : 4 + 1 = 5) rfl rfl ?_
  obtain ⟨q_1, h⟩ := h
  refine r_iald hC 1 rfl q_1 dX8_zeroed_5 (rfl : 5 + 1 = 6) ?_
  obtain ⟨x3_2, e_3, h⟩ := lt_nm h
  refine r_istore_n hC dX8_zeroed_6 (rfl : 6 + 1 = 7) rfl (by decide) e_3 (lv2 := [(3, .int x3_2), (0, .ref (G.1 0)), (1, .int x1), (2, .int x2)]) rfl ?_
  refine r_iload_n hC 0 dX8_zeroed_7 (rfl : 7 + 1 = 8) rfl rfl ?_
  refine r_iconst hC dX8_zeroed_8 (rfl : 8 + 1 = 9) (v := 4) (by decide) ?_
  refine r_icmp_lt hC dX8_zeroed_9 (rfl : 9 + 3 = 12) (tgt := 18) (by decide) (fun q => ?_) (fun q => ?_)
  · replace h := if_t h q
    refine r_iload_n hC 2 dX8_zeroed_18 (rfl : 18 + 1 = 19) rfl rfl ?_
    exact r_iret hC rfl h dX8_zeroed_19
  · replace h := if_f h q
    refine r_iload_n hC 0 dX8_zeroed_12 (rfl : 12 + 1 = 13) rfl rfl ?_
    refine r_bipush hC dX8_zeroed_13 (rfl : 13 + 2 = 15) (v := 8) (by decide) ?_
    refine r_icmp_ne hC dX8_zeroed_15 (rfl : 15 + 3 = 18) (tgt := 20) (by decide) (fun q => ?_) (fun q => ?_)
    · replace h := if_f h q
      refine r_aload_n hC 1 dX8_zeroed_20 (rfl : 20 + 1 = 21) rfl rfl ?_
      refine r_getr hC 0 7 4 3 (o := 3) fw_X8_16 rfl rfl dX8_zeroed_21 (rfl : 21 + 3 = 24) ?_
      refine r_iload_n hC 2 dX8_zeroed_24 (rfl : 24 + 1 = 25) rfl rfl ?_
      refine r_iald hC 3 rfl q_1 dX8_zeroed_25 (rfl : 25 + 1 = 26) ?_
      obtain ⟨x4_4, e_5, h⟩ := lt_nm h
      refine r_istore hC dX8_zeroed_26 (rfl : 26 + 2 = 28) (by decide) e_5 (lv2 := [(4, .int x4_4), (3, .int x3_2), (0, .ref (G.1 0)), (1, .int x1), (2, .int x2)]) rfl ?_
      refine r_aload_n hC 2 dX8_zeroed_28 (rfl : 28 + 1 = 29) rfl rfl ?_
      refine r_getr hC 0 7 5 4 (o := 4) fw_X8_19 rfl rfl dX8_zeroed_29 (rfl : 29 + 3 = 32) ?_
      refine r_iload_n hC 3 dX8_zeroed_32 (rfl : 32 + 1 = 33) rfl rfl ?_
      refine r_iald hC 4 rfl q_1 dX8_zeroed_33 (rfl : 33 + 1 = 34) ?_
      obtain ⟨x5_6, e_7, h⟩ := lt_nm h
      refine r_istore hC dX8_zeroed_34 (rfl : 34 + 2 = 36) (by decide) e_7 (lv2 := [(5, .int x5_6), (4, .int x4_4), (3, .int x3_2), (0, .ref (G.1 0)), (1, .int x1), (2, .int x2)]) rfl ?_
      refine r_iload_n hC 2 dX8_zeroed_36 (rfl : 36 + 1 = 37) rfl rfl ?_
      refine r_iconst hC dX8_zeroed_37 (rfl : 37 + 1 = 38) (v := 4) (by decide) ?_
      refine r_icmp_ne hC dX8_zeroed_38 (rfl : 38 + 3 = 41) (tgt := 73) (by decide) (fun q => ?_) (fun q => ?_)
      · replace h := if_f h q
        refine r_iload_n hC 2 dX8_zeroed_73 (rfl : 73 + 1 = 74) rfl rfl ?_
        refine r_iconst hC dX8_zeroed_74 (rfl : 74 + 1 = 75) (v := 5) (by decide) ?_
        refine r_icmp_ne hC dX8_zeroed_75 (rfl : 75 + 3 = 78) (tgt := 115) (by decide) (fun q => ?_) (fun q => ?_)
        · replace h := if_f h q
          refine r_iload_n hC 2 dX8_zeroed_115 (rfl : 115 + 1 = 116) rfl rfl ?_
          refine r_bipush hC dX8_zeroed_116 (rfl : 116 + 2 = 118) (v := 7) (by decide) ?_
          refine r_icmp_ne hC dX8_zeroed_118 (rfl : 118 + 3 = 121) (tgt := 138) (by decide) (fun q => ?_) (fun q => ?_)
          · replace h := if_f h q
            refine r_aload_n hC 3 dX8_zeroed_138 (rfl : 138 + 1 = 139) rfl rfl ?_
            refine r_iload hC 0 dX8_zeroed_139 (rfl : 139 + 2 = 141) rfl ?_
            refine r_iconst hC dX8_zeroed_141 (rfl : 141 + 1 = 142) (v := 1) (by decide) ?_
            refine r_callVi hC cs_X8_147 rfl (by omega) (mX8_isNumber hC.2.2.2.2.2.2.2.2.1 (k := k - 1) (by omega) x5_6 1 σ _ h) rfl rfl (Nat.le_of_ble_eq_true rfl) dX8_zeroed_142 (rfl : 142 + 3 = 145) (fun r_9 σ_8 h => ?_)
            refine r_if_eq hC dX8_zeroed_145 (rfl : 145 + 3 = 148) (tgt := 151) (by decide) (fun q => ?_) (fun q => ?_)
            · replace h := if_t h q
              refine r_aload_n hC 3 dX8_zeroed_151 (rfl : 151 + 1 = 152) rfl rfl ?_
              refine r_iload hC 1 dX8_zeroed_152 (rfl : 152 + 2 = 154) rfl ?_
              refine r_iconst hC dX8_zeroed_154 (rfl : 154 + 1 = 155) (v := 1) (by decide) ?_
              refine r_callVi hC cs_X8_147 rfl (by omega) (mX8_isNumber hC.2.2.2.2.2.2.2.2.1 (k := k - 1) (by omega) x4_4 1 σ_8 _ h) rfl rfl (Nat.le_of_ble_eq_true rfl) dX8_zeroed_155 (rfl : 155 + 3 = 158) (fun r_11 σ_10 h => ?_)
              refine r_if_eq hC dX8_zeroed_158 (rfl : 158 + 3 = 161) (tgt := 164) (by decide) (fun q => ?_) (fun q => ?_)
              · replace h := if_t h q
                refine r_aload_n hC 3 dX8_zeroed_164 (rfl : 164 + 1 = 165) rfl rfl ?_
                refine r_iload hC 0 dX8_zeroed_165 (rfl : 165 + 2 = 167) rfl ?_
                refine r_iconst hC dX8_zeroed_167 (rfl : 167 + 1 = 168) (v := 0) (by decide) ?_
                refine r_callVi hC cs_X8_147 rfl (by omega) (mX8_isNumber hC.2.2.2.2.2.2.2.2.1 (k := k - 1) (by omega) x5_6 0 σ_10 _ h) rfl rfl (Nat.le_of_ble_eq_true rfl) dX8_zeroed_168 (rfl : 168 + 3 = 171) (fun r_13 σ_12 h => ?_)
                refine r_if_eq hC dX8_zeroed_171 (rfl : 171 + 3 = 174) (tgt := 190) (by decide) (fun q => ?_) (fun q => ?_)
                · replace h := if_t h q
                  refine r_aload_n hC 3 dX8_zeroed_190 (rfl : 190 + 1 = 191) rfl rfl ?_
                  refine r_iload hC 1 dX8_zeroed_191 (rfl : 191 + 2 = 193) rfl ?_
                  refine r_iconst hC dX8_zeroed_193 (rfl : 193 + 1 = 194) (v := 0) (by decide) ?_
                  refine r_callVi hC cs_X8_147 rfl (by omega) (mX8_isNumber hC.2.2.2.2.2.2.2.2.1 (k := k - 1) (by omega) x4_4 0 σ_12 _ h) rfl rfl (Nat.le_of_ble_eq_true rfl) dX8_zeroed_194 (rfl : 194 + 3 = 197) (fun r_15 σ_14 h => ?_)
                  refine r_if_ne hC dX8_zeroed_197 (rfl : 197 + 3 = 200) (tgt := 204) (by decide) (fun q => ?_) (fun q => ?_)
                  · replace h := if_f h q
                    refine r_iload_n hC 5 dX8_zeroed_204 (rfl : 204 + 1 = 205) rfl rfl ?_
                    refine r_iconst hC dX8_zeroed_205 (rfl : 205 + 1 = 206) (v := 2) (by decide) ?_
                    refine r_icmp_ne hC dX8_zeroed_206 (rfl : 206 + 3 = 209) (tgt := 214) (by decide) (fun q => ?_) (fun q => ?_)
                    · replace h := if_f h q
                      refine r_aload_n hC 3 dX8_zeroed_214 (rfl : 214 + 1 = 215) rfl rfl ?_
                      refine r_iconst hC dX8_zeroed_215 (rfl : 215 + 1 = 216) (v := 0) (by decide) ?_
                      refine r_callVi hC cs_X8_143 rfl (by omega) (mX8_numeral hC.2.2.2.2.2.2.2.2.1 (k := k - 1) (by omega) 0 σ_14 _ h) rfl rfl (Nat.le_of_ble_eq_true rfl) dX8_zeroed_216 (rfl : 216 + 3 = 219) (fun r_17 σ_16 h => ?_)
                      exact r_iret hC rfl h dX8_zeroed_219
                    · replace h := if_t h q
                      refine r_iload hC 0 dX8_zeroed_209 (rfl : 209 + 2 = 211) rfl ?_
                      refine r_goto hC dX8_zeroed_211 (tgt := 219) (by decide) ?_
                      exact r_iret hC rfl h dX8_zeroed_219
                  · replace h := if_t h q
                    refine r_iload_n hC 4 dX8_zeroed_200 (rfl : 200 + 1 = 201) rfl rfl ?_
                    refine r_goto hC dX8_zeroed_201 (tgt := 219) (by decide) ?_
                    exact r_iret hC rfl h dX8_zeroed_219
                · replace h := if_f h q
                  refine r_iload_n hC 5 dX8_zeroed_174 (rfl : 174 + 1 = 175) rfl rfl ?_
                  refine r_iconst hC dX8_zeroed_175 (rfl : 175 + 1 = 176) (v := 2) (by decide) ?_
                  refine r_icmp_ne hC dX8_zeroed_176 (rfl : 176 + 3 = 179) (tgt := 184) (by decide) (fun q => ?_) (fun q => ?_)
                  · replace h := if_f h q
                    refine r_aload_n hC 3 dX8_zeroed_184 (rfl : 184 + 1 = 185) rfl rfl ?_
                    refine r_iconst hC dX8_zeroed_185 (rfl : 185 + 1 = 186) (v := 0) (by decide) ?_
                    refine r_callVi hC cs_X8_143 rfl (by omega) (mX8_numeral hC.2.2.2.2.2.2.2.2.1 (k := k - 1) (by omega) 0 σ_12 _ h) rfl rfl (Nat.le_of_ble_eq_true rfl) dX8_zeroed_186 (rfl : 186 + 3 = 189) (fun r_19 σ_18 h => ?_)
                    exact r_iret hC rfl h dX8_zeroed_189
                  · replace h := if_t h q
                    refine r_iload hC 1 dX8_zeroed_179 (rfl : 179 + 2 = 181) rfl ?_
                    refine r_goto hC dX8_zeroed_181 (tgt := 189) (by decide) ?_
                    exact r_iret hC rfl h dX8_zeroed_189
              · replace h := if_f h q
                refine r_iload hC 0 dX8_zeroed_161 (rfl : 161 + 2 = 163) rfl ?_
                exact r_iret hC rfl h dX8_zeroed_163
            · replace h := if_f h q
              refine r_iload hC 1 dX8_zeroed_148 (rfl : 148 + 2 = 150) rfl ?_
              exact r_iret hC rfl h dX8_zeroed_150
          · replace h := if_t h q
            refine r_aload_n hC 3 dX8_zeroed_121 (rfl : 121 + 1 = 122) rfl rfl ?_
            refine r_iload hC 0 dX8_zeroed_122 (rfl : 122 + 2 = 124) rfl ?_
            refine r_iconst hC dX8_zeroed_124 (rfl : 124 + 1 = 125) (v := 1) (by decide) ?_
            refine r_callVi hC cs_X8_147 rfl (by omega) (mX8_isNumber hC.2.2.2.2.2.2.2.2.1 (k := k - 1) (by omega) x5_6 1 σ _ h) rfl rfl (Nat.le_of_ble_eq_true rfl) dX8_zeroed_125 (rfl : 125 + 3 = 128) (fun r_21 σ_20 h => ?_)
            refine r_if_eq hC dX8_zeroed_128 (rfl : 128 + 3 = 131) (tgt := 136) (by decide) (fun q => ?_) (fun q => ?_)
            · replace h := if_t h q
              refine r_iload_n hC 4 dX8_zeroed_136 (rfl : 136 + 1 = 137) rfl rfl ?_
              exact r_iret hC rfl h dX8_zeroed_137
            · replace h := if_f h q
              refine r_iload hC 1 dX8_zeroed_131 (rfl : 131 + 2 = 133) rfl ?_
              refine r_goto hC dX8_zeroed_133 (tgt := 137) (by decide) ?_
              exact r_iret hC rfl h dX8_zeroed_137
        · replace h := if_t h q
          refine r_aload_n hC 3 dX8_zeroed_78 (rfl : 78 + 1 = 79) rfl rfl ?_
          refine r_iload hC 0 dX8_zeroed_79 (rfl : 79 + 2 = 81) rfl ?_
          refine r_iconst hC dX8_zeroed_81 (rfl : 81 + 1 = 82) (v := 0) (by decide) ?_
          refine r_callVi hC cs_X8_147 rfl (by omega) (mX8_isNumber hC.2.2.2.2.2.2.2.2.1 (k := k - 1) (by omega) x5_6 0 σ _ h) rfl rfl (Nat.le_of_ble_eq_true rfl) dX8_zeroed_82 (rfl : 82 + 3 = 85) (fun r_23 σ_22 h => ?_)
          refine r_if_eq hC dX8_zeroed_85 (rfl : 85 + 3 = 88) (tgt := 93) (by decide) (fun q => ?_) (fun q => ?_)
          · replace h := if_t h q
            refine r_iload_n hC 5 dX8_zeroed_93 (rfl : 93 + 1 = 94) rfl rfl ?_
            refine r_iconst hC dX8_zeroed_94 (rfl : 94 + 1 = 95) (v := 1) (by decide) ?_
            refine r_icmp_ne hC dX8_zeroed_95 (rfl : 95 + 3 = 98) (tgt := 113) (by decide) (fun q => ?_) (fun q => ?_)
            · replace h := if_f h q
              refine r_iload_n hC 4 dX8_zeroed_113 (rfl : 113 + 1 = 114) rfl rfl ?_
              exact r_iret hC rfl h dX8_zeroed_114
            · replace h := if_t h q
              refine r_aload_n hC 3 dX8_zeroed_98 (rfl : 98 + 1 = 99) rfl rfl ?_
              refine r_iload hC 1 dX8_zeroed_99 (rfl : 99 + 2 = 101) rfl ?_
              refine r_iconst hC dX8_zeroed_101 (rfl : 101 + 1 = 102) (v := 0) (by decide) ?_
              refine r_callVi hC cs_X8_147 rfl (by omega) (mX8_isNumber hC.2.2.2.2.2.2.2.2.1 (k := k - 1) (by omega) x4_4 0 σ_22 _ h) rfl rfl (Nat.le_of_ble_eq_true rfl) dX8_zeroed_102 (rfl : 102 + 3 = 105) (fun r_25 σ_24 h => ?_)
              refine r_if_eq hC dX8_zeroed_105 (rfl : 105 + 3 = 108) (tgt := 113) (by decide) (fun q => ?_) (fun q => ?_)
              · replace h := if_t h q
                refine r_iload_n hC 4 dX8_zeroed_113 (rfl : 113 + 1 = 114) rfl rfl ?_
                exact r_iret hC rfl h dX8_zeroed_114
              · replace h := if_f h q
                refine r_iload hC 0 dX8_zeroed_108 (rfl : 108 + 2 = 110) rfl ?_
                refine r_goto hC dX8_zeroed_110 (tgt := 114) (by decide) ?_
                exact r_iret hC rfl h dX8_zeroed_114
          · replace h := if_f h q
            refine r_iload hC 1 dX8_zeroed_88 (rfl : 88 + 2 = 90) rfl ?_
            refine r_goto hC dX8_zeroed_90 (tgt := 114) (by decide) ?_
            exact r_iret hC rfl h dX8_zeroed_114
      · replace h := if_t h q
        refine r_aload_n hC 3 dX8_zeroed_41 (rfl : 41 + 1 = 42) rfl rfl ?_
        refine r_iload hC 0 dX8_zeroed_42 (rfl : 42 + 2 = 44) rfl ?_
        refine r_iconst hC dX8_zeroed_44 (rfl : 44 + 1 = 45) (v := 0) (by decide) ?_
        refine r_callVi hC cs_X8_147 rfl (by omega) (mX8_isNumber hC.2.2.2.2.2.2.2.2.1 (k := k - 1) (by omega) x5_6 0 σ _ h) rfl rfl (Nat.le_of_ble_eq_true rfl) dX8_zeroed_45 (rfl : 45 + 3 = 48) (fun r_27 σ_26 h => ?_)
        refine r_if_eq hC dX8_zeroed_48 (rfl : 48 + 3 = 51) (tgt := 56) (by decide) (fun q => ?_) (fun q => ?_)
        · replace h := if_t h q
          refine r_aload_n hC 3 dX8_zeroed_56 (rfl : 56 + 1 = 57) rfl rfl ?_
          refine r_iload hC 1 dX8_zeroed_57 (rfl : 57 + 2 = 59) rfl ?_
          refine r_iconst hC dX8_zeroed_59 (rfl : 59 + 1 = 60) (v := 0) (by decide) ?_
          refine r_callVi hC cs_X8_147 rfl (by omega) (mX8_isNumber hC.2.2.2.2.2.2.2.2.1 (k := k - 1) (by omega) x4_4 0 σ_26 _ h) rfl rfl (Nat.le_of_ble_eq_true rfl) dX8_zeroed_60 (rfl : 60 + 3 = 63) (fun r_29 σ_28 h => ?_)
          refine r_if_eq hC dX8_zeroed_63 (rfl : 63 + 3 = 66) (tgt := 71) (by decide) (fun q => ?_) (fun q => ?_)
          · replace h := if_t h q
            refine r_iload_n hC 4 dX8_zeroed_71 (rfl : 71 + 1 = 72) rfl rfl ?_
            exact r_iret hC rfl h dX8_zeroed_72
          · replace h := if_f h q
            refine r_iload hC 0 dX8_zeroed_66 (rfl : 66 + 2 = 68) rfl ?_
            refine r_goto hC dX8_zeroed_68 (tgt := 72) (by decide) ?_
            exact r_iret hC rfl h dX8_zeroed_72
        · replace h := if_f h q
          refine r_iload hC 1 dX8_zeroed_51 (rfl : 51 + 2 = 53) rfl ?_
          refine r_goto hC dX8_zeroed_53 (tgt := 72) (by decide) ?_
          exact r_iret hC rfl h dX8_zeroed_72
    · replace h := if_t h q
      refine r_iload_n hC 2 dX8_zeroed_18 (rfl : 18 + 1 = 19) rfl rfl ?_
      exact r_iret hC rfl h dX8_zeroed_19
set_option maxHeartbeats 1000000 in
set_option maxRecDepth 100000 in
theorem sX8_lookSame_63 {G : Gx} {b k : Nat} {K : Kx} {l : Launch} (hl : K.2.1 = l) (hC : Cx YM G b K cX8_lookSame RX8 4 (some .boolean) k) (d : Nat) (hk : 1 * d + 1 ≤ k)  (Q : Int32 → Sg → Prop)   (σ : Sg) (h : wX8_lookSame_63 d  σ Q) : V YM G K (Zi YM G K Q) 4 σ 63 [] [] := by
  subst hl
  unfold wX8_lookSame_63 at h
  refine r_iconst hC dX8_lookSame_63 (rfl : 63 + 1 = 64) (v := 0) (by decide) ?_
  refine r_goto hC dX8_lookSame_64 (tgt := 73) (by decide) ?_
  exact r_zret hC rfl (by decide) h dX8_lookSame_73
set_option maxHeartbeats 1000000 in
set_option maxRecDepth 100000 in
theorem sX8_lookSame_59 {G : Gx} {b k : Nat} {K : Kx} {l : Launch} (hl : K.2.1 = l) (hC : Cx YM G b K cX8_lookSame RX8 4 (some .boolean) k) (d : Nat) (hk : 1 * d + 1 ≤ k)  (Q : Int32 → Sg → Prop)   (σ : Sg) (h : wX8_lookSame_59 d  σ Q) : V YM G K (Zi YM G K Q) 4 σ 59 [] [] := by
  subst hl
  unfold wX8_lookSame_59 at h
  refine r_iconst hC dX8_lookSame_59 (rfl : 59 + 1 = 60) (v := 1) (by decide) ?_
  refine r_goto hC dX8_lookSame_60 (tgt := 73) (by decide) ?_
  exact r_zret hC rfl (by decide) h dX8_lookSame_73
set_option maxHeartbeats 1000000 in
set_option maxRecDepth 100000 in
theorem mX8_lookSame {G : Gx} {b k : Nat} {l : Launch} (hS : Sok YM G) (d : Nat) (hk : 1 * d + 1 ≤ k) (x1 : Int32) (x2 : Int32) (x3 : Int32) (σ : Sg) (Q : Int32 → Sg → Prop) (h : wX8_lookSame d x1 x2 x3 σ Q) : Mi YM G b l yX8_lookSame cX8_lookSame 4 .boolean k [.ref (G.1 0), .int x1, .int x2, .int x3] σ Q := by
  refine enter hS (by decide +kernel) (Nat.le_of_ble_eq_true rfl) (lv := [(0, .ref (G.1 0)), (1, .int x1), (2, .int x2), (3, .int x3)]) rfl (fun K hl hC => ?_)
  subst hl
  unfold wX8_lookSame at h
  show V YM G K (Zi YM G K Q) 4 σ 0 [(0, .ref (G.1 0)), (1, .int x1), (2, .int x2), (3, .int x3)] []
  refine r_iload_n hC 3 dX8_lookSame_0 (rfl : 0 + 1 = 1) rfl rfl ?_
  refine r_iconst hC dX8_lookSame_1 (rfl : 1 + 1 = 2) (v := 2) (by decide) ?_
  refine r_icmp_ne hC dX8_lookSame_2 (rfl : 2 + 3 = 5) (tgt := 67) (by decide) (fun q => ?_) (fun q => ?_)
  · replace h := if_f h q
    refine r_aload_n hC 0 dX8_lookSame_67 (rfl : 67 + 1 = 68) rfl rfl ?_
    refine r_iload_n hC 1 dX8_lookSame_68 (rfl : 68 + 1 = 69) rfl rfl ?_
    refine r_iload_n hC 2 dX8_lookSame_69 (rfl : 69 + 1 = 70) rfl rfl ?_
    refine r_callVi hC cs_X8_100 rfl (by omega) (mX8_areSame hC.2.2.2.2.2.2.2.2.1 d (k - 1) (by omega) x1 x2 σ _ h) rfl rfl (Nat.le_of_ble_eq_true rfl) dX8_lookSame_70 (rfl : 70 + 3 = 73) (fun r_2 σ_1 h => ?_)
    obtain ⟨q_3, h⟩ := h
    exact r_zret hC rfl q_3 h dX8_lookSame_73
  · replace h := if_t h q
    refine r_aload_n hC 0 dX8_lookSame_5 (rfl : 5 + 1 = 6) rfl rfl ?_
    refine r_getr hC 0 7 2 1 (o := 1) fw_X8_7 rfl rfl dX8_lookSame_6 (rfl : 6 + 3 = 9) ?_
    refine r_iload_n hC 1 dX8_lookSame_9 (rfl : 9 + 1 = 10) rfl rfl ?_
    obtain ⟨q_4, h⟩ := h
    refine r_iald hC 1 rfl q_4 dX8_lookSame_10 (rfl : 10 + 1 = 11) ?_
    refine r_aload_n hC 0 dX8_lookSame_11 (rfl : 11 + 1 = 12) rfl rfl ?_
    refine r_getr hC 0 7 2 1 (o := 1) fw_X8_7 rfl rfl dX8_lookSame_12 (rfl : 12 + 3 = 15) ?_
    refine r_iload_n hC 2 dX8_lookSame_15 (rfl : 15 + 1 = 16) rfl rfl ?_
    obtain ⟨q_5, h⟩ := h
    refine r_iald hC 1 rfl q_5 dX8_lookSame_16 (rfl : 16 + 1 = 17) ?_
    refine r_icmp_ne hC dX8_lookSame_17 (rfl : 17 + 3 = 20) (tgt := 63) (by decide) (fun q => ?_) (fun q => ?_)
    · replace h := if_f h q
      exact (sX8_lookSame_63 rfl hC d hk  Q   σ h).sub [] rfl
    · replace h := if_t h q
      refine r_aload_n hC 0 dX8_lookSame_20 (rfl : 20 + 1 = 21) rfl rfl ?_
      refine r_getr hC 0 7 7 6 (o := 6) fw_X8_25 rfl rfl dX8_lookSame_21 (rfl : 21 + 3 = 24) ?_
      refine r_iload_n hC 1 dX8_lookSame_24 (rfl : 24 + 1 = 25) rfl rfl ?_
      refine r_iald hC 6 rfl q_4 dX8_lookSame_25 (rfl : 25 + 1 = 26) ?_
      refine r_aload_n hC 0 dX8_lookSame_26 (rfl : 26 + 1 = 27) rfl rfl ?_
      refine r_getr hC 0 7 7 6 (o := 6) fw_X8_25 rfl rfl dX8_lookSame_27 (rfl : 27 + 3 = 30) ?_
      refine r_iload_n hC 2 dX8_lookSame_30 (rfl : 30 + 1 = 31) rfl rfl ?_
      refine r_iald hC 6 rfl q_5 dX8_lookSame_31 (rfl : 31 + 1 = 32) ?_
      refine r_icmp_ne hC dX8_lookSame_32 (rfl : 32 + 3 = 35) (tgt := 63) (by decide) (fun q => ?_) (fun q => ?_)
      · replace h := if_f h q
        exact (sX8_lookSame_63 rfl hC d hk  Q   σ h).sub [] rfl
      · replace h := if_t h q
        refine r_aload_n hC 0 dX8_lookSame_35 (rfl : 35 + 1 = 36) rfl rfl ?_
        refine r_getr hC 0 7 2 1 (o := 1) fw_X8_7 rfl rfl dX8_lookSame_36 (rfl : 36 + 3 = 39) ?_
        refine r_iload_n hC 1 dX8_lookSame_39 (rfl : 39 + 1 = 40) rfl rfl ?_
        refine r_iald hC 1 rfl q_4 dX8_lookSame_40 (rfl : 40 + 1 = 41) ?_
        refine r_if_ne hC dX8_lookSame_41 (rfl : 41 + 3 = 44) (tgt := 59) (by decide) (fun q => ?_) (fun q => ?_)
        · replace h := if_f h q
          exact (sX8_lookSame_59 rfl hC d hk  Q   σ h).sub [] rfl
        · replace h := if_t h q
          refine r_aload_n hC 0 dX8_lookSame_44 (rfl : 44 + 1 = 45) rfl rfl ?_
          refine r_getr hC 0 7 3 2 (o := 2) fw_X8_13 rfl rfl dX8_lookSame_45 (rfl : 45 + 3 = 48) ?_
          refine r_iload_n hC 1 dX8_lookSame_48 (rfl : 48 + 1 = 49) rfl rfl ?_
          refine r_iald hC 2 rfl q_4 dX8_lookSame_49 (rfl : 49 + 1 = 50) ?_
          refine r_aload_n hC 0 dX8_lookSame_50 (rfl : 50 + 1 = 51) rfl rfl ?_
          refine r_getr hC 0 7 3 2 (o := 2) fw_X8_13 rfl rfl dX8_lookSame_51 (rfl : 51 + 3 = 54) ?_
          refine r_iload_n hC 2 dX8_lookSame_54 (rfl : 54 + 1 = 55) rfl rfl ?_
          refine r_iald hC 2 rfl q_5 dX8_lookSame_55 (rfl : 55 + 1 = 56) ?_
          refine r_icmp_ne hC dX8_lookSame_56 (rfl : 56 + 3 = 59) (tgt := 63) (by decide) (fun q => ?_) (fun q => ?_)
          · replace h := if_f h q
            exact (sX8_lookSame_63 rfl hC d hk  Q   σ h).sub [] rfl
          · replace h := if_t h q
            exact (sX8_lookSame_59 rfl hC d hk  Q   σ h).sub [] rfl
set_option maxHeartbeats 1000000 in
set_option maxRecDepth 100000 in
theorem sX8_samed_36 {G : Gx} {b k : Nat} {K : Kx} {l : Launch} (hl : K.2.1 = l) (hC : Cx YM G b K cX8_samed RX8 3 (some .int) k) (d : Nat) (hk : 1 * d + 2 ≤ k)  (Q : Int32 → Sg → Prop)  (x1 : Int32) (x2 : Int32) (σ : Sg) (h : wX8_samed_36 d x1 x2 σ Q) : V YM G K (Zi YM G K Q) 3 σ 36 [(0, .ref (G.1 0)), (1, .int x1), (2, .int x2)] [] := by
  subst hl
  unfold wX8_samed_36 at h
  refine r_aload_n hC 0 dX8_samed_36 (rfl : 36 + 1 = 37) rfl rfl ?_
  refine r_getr hC 0 7 2 1 (o := 1) fw_X8_7 rfl rfl dX8_samed_37 (rfl : 37 + 3 = 40) ?_
  refine r_iload_n hC 1 dX8_samed_40 (rfl : 40 + 1 = 41) rfl rfl ?_
  obtain ⟨q_1, h⟩ := h
  refine r_iald hC 1 rfl q_1 dX8_samed_41 (rfl : 41 + 1 = 42) ?_
  refine r_iconst hC dX8_samed_42 (rfl : 42 + 1 = 43) (v := 4) (by decide) ?_
  refine r_icmp_ne hC dX8_samed_43 (rfl : 43 + 3 = 46) (tgt := 78) (by decide) (fun q => ?_) (fun q => ?_)
  · replace h := if_f h q
    refine r_iload_n hC 1 dX8_samed_78 (rfl : 78 + 1 = 79) rfl rfl ?_
    exact r_iret hC rfl h dX8_samed_79
  · replace h := if_t h q
    refine r_iload_n hC 2 dX8_samed_46 (rfl : 46 + 1 = 47) rfl rfl ?_
    refine r_iconst hC dX8_samed_47 (rfl : 47 + 1 = 48) (v := 1) (by decide) ?_
    refine r_icmp_ne hC dX8_samed_48 (rfl : 48 + 3 = 51) (tgt := 78) (by decide) (fun q => ?_) (fun q => ?_)
    · replace h := if_f h q
      refine r_iload_n hC 1 dX8_samed_78 (rfl : 78 + 1 = 79) rfl rfl ?_
      exact r_iret hC rfl h dX8_samed_79
    · replace h := if_t h q
      refine r_aload_n hC 0 dX8_samed_51 (rfl : 51 + 1 = 52) rfl rfl ?_
      refine r_aload_n hC 0 dX8_samed_52 (rfl : 52 + 1 = 53) rfl rfl ?_
      refine r_getr hC 0 7 4 3 (o := 3) fw_X8_16 rfl rfl dX8_samed_53 (rfl : 53 + 3 = 56) ?_
      refine r_iload_n hC 1 dX8_samed_56 (rfl : 56 + 1 = 57) rfl rfl ?_
      refine r_iald hC 3 rfl q_1 dX8_samed_57 (rfl : 57 + 1 = 58) ?_
      refine r_aload_n hC 0 dX8_samed_58 (rfl : 58 + 1 = 59) rfl rfl ?_
      refine r_getr hC 0 7 5 4 (o := 4) fw_X8_19 rfl rfl dX8_samed_59 (rfl : 59 + 3 = 62) ?_
      refine r_iload_n hC 1 dX8_samed_62 (rfl : 62 + 1 = 63) rfl rfl ?_
      refine r_iald hC 4 rfl q_1 dX8_samed_63 (rfl : 63 + 1 = 64) ?_
      refine r_callVi hC cs_X8_100 rfl (by omega) (mX8_areSame hC.2.2.2.2.2.2.2.2.1 d (k - 1) (by omega) (σ.1 3 (Int32.toNatClampNeg x1)) (σ.1 4 (Int32.toNatClampNeg x1)) σ _ h) rfl rfl (Nat.le_of_ble_eq_true rfl) dX8_samed_64 (rfl : 64 + 3 = 67) (fun r_3 σ_2 h => ?_)
      refine r_if_eq hC dX8_samed_67 (rfl : 67 + 3 = 70) (tgt := 78) (by decide) (fun q => ?_) (fun q => ?_)
      · replace h := if_t h q
        refine r_iload_n hC 1 dX8_samed_78 (rfl : 78 + 1 = 79) rfl rfl ?_
        exact r_iret hC rfl h dX8_samed_79
      · replace h := if_f h q
        refine r_aload_n hC 0 dX8_samed_70 (rfl : 70 + 1 = 71) rfl rfl ?_
        refine r_iconst hC dX8_samed_71 (rfl : 71 + 1 = 72) (v := 0) (by decide) ?_
        refine r_callVi hC cs_X8_143 rfl (by omega) (mX8_numeral hC.2.2.2.2.2.2.2.2.1 (k := k - 1) (by omega) 0 σ_2 _ h) rfl rfl (Nat.le_of_ble_eq_true rfl) dX8_samed_72 (rfl : 72 + 3 = 75) (fun r_5 σ_4 h => ?_)
        refine r_goto hC dX8_samed_75 (tgt := 79) (by decide) ?_
        exact r_iret hC rfl h dX8_samed_79
set_option maxHeartbeats 1000000 in
set_option maxRecDepth 100000 in
theorem mX8_samed {G : Gx} {b k : Nat} {l : Launch} (hS : Sok YM G) (d : Nat) (hk : 1 * d + 2 ≤ k) (x1 : Int32) (x2 : Int32) (σ : Sg) (Q : Int32 → Sg → Prop) (h : wX8_samed d x1 x2 σ Q) : Mi YM G b l yX8_samed cX8_samed 3 .int k [.ref (G.1 0), .int x1, .int x2] σ Q := by
  refine enter hS (by decide +kernel) (Nat.le_of_ble_eq_true rfl) (lv := [(0, .ref (G.1 0)), (1, .int x1), (2, .int x2)]) rfl (fun K hl hC => ?_)
  subst hl
  unfold wX8_samed at h
  show V YM G K (Zi YM G K Q) 3 σ 0 [(0, .ref (G.1 0)), (1, .int x1), (2, .int x2)] []
  refine r_aload_n hC 0 dX8_samed_0 (rfl : 0 + 1 = 1) rfl rfl ?_
  refine r_getr hC 0 7 2 1 (o := 1) fw_X8_7 rfl rfl dX8_samed_1 (rfl : 1 + 3 = 4) ?_
  refine r_iload_n hC 1 dX8_samed_4 (rfl : 4 + 1 = 5) rfl rfl ?_
  obtain ⟨q_6, h⟩ := h
  refine r_iald hC 1 rfl q_6 dX8_samed_5 (rfl : 5 + 1 = 6) ?_
  refine r_iconst hC dX8_samed_6 (rfl : 6 + 1 = 7) (v := 5) (by decide) ?_
  refine r_icmp_ne hC dX8_samed_7 (rfl : 7 + 3 = 10) (tgt := 36) (by decide) (fun q => ?_) (fun q => ?_)
  · replace h := if_f h q
    exact (sX8_samed_36 rfl hC d hk  Q  x1 x2 σ h).sub [0, 1, 2] rfl
  · replace h := if_t h q
    refine r_aload_n hC 0 dX8_samed_10 (rfl : 10 + 1 = 11) rfl rfl ?_
    refine r_aload_n hC 0 dX8_samed_11 (rfl : 11 + 1 = 12) rfl rfl ?_
    refine r_getr hC 0 7 4 3 (o := 3) fw_X8_16 rfl rfl dX8_samed_12 (rfl : 12 + 3 = 15) ?_
    refine r_iload_n hC 1 dX8_samed_15 (rfl : 15 + 1 = 16) rfl rfl ?_
    refine r_iald hC 3 rfl q_6 dX8_samed_16 (rfl : 16 + 1 = 17) ?_
    refine r_aload_n hC 0 dX8_samed_17 (rfl : 17 + 1 = 18) rfl rfl ?_
    refine r_getr hC 0 7 5 4 (o := 4) fw_X8_19 rfl rfl dX8_samed_18 (rfl : 18 + 3 = 21) ?_
    refine r_iload_n hC 1 dX8_samed_21 (rfl : 21 + 1 = 22) rfl rfl ?_
    refine r_iald hC 4 rfl q_6 dX8_samed_22 (rfl : 22 + 1 = 23) ?_
    refine r_iload_n hC 2 dX8_samed_23 (rfl : 23 + 1 = 24) rfl rfl ?_
    refine r_callVi hC cs_X8_150 rfl (by omega) (mX8_lookSame hC.2.2.2.2.2.2.2.2.1 d (k := k - 1) (by omega) (σ.1 3 (Int32.toNatClampNeg x1)) (σ.1 4 (Int32.toNatClampNeg x1)) x2 σ _ h) rfl rfl (Nat.le_of_ble_eq_true rfl) dX8_samed_24 (rfl : 24 + 3 = 27) (fun r_8 σ_7 h => ?_)
    refine r_if_eq hC dX8_samed_27 (rfl : 27 + 3 = 30) (tgt := 36) (by decide) (fun q => ?_) (fun q => ?_)
    · replace h := if_t h q
      exact (sX8_samed_36 rfl hC d hk  Q  x1 x2 σ_7 h).sub [0, 1, 2] rfl
    · replace h := if_f h q
      refine r_aload_n hC 0 dX8_samed_30 (rfl : 30 + 1 = 31) rfl rfl ?_
      refine r_iconst hC dX8_samed_31 (rfl : 31 + 1 = 32) (v := 0) (by decide) ?_
      refine r_callVi hC cs_X8_143 rfl (by omega) (mX8_numeral hC.2.2.2.2.2.2.2.2.1 (k := k - 1) (by omega) 0 σ_7 _ h) rfl rfl (Nat.le_of_ble_eq_true rfl) dX8_samed_32 (rfl : 32 + 3 = 35) (fun r_10 σ_9 h => ?_)
      exact r_iret hC rfl h dX8_samed_35
set_option maxHeartbeats 1000000 in
set_option maxRecDepth 100000 in
theorem sX8_picked_73 {G : Gx} {b k : Nat} {K : Kx} {l : Launch} (hl : K.2.1 = l) (hC : Cx YM G b K cX8_picked RX8 4 (some .int) k)  (hk : 0 ≤ k)  (Q : Int32 → Sg → Prop)  (x1 : Int32) (σ : Sg) (h : wX8_picked_73  x1 σ Q) : V YM G K (Zi YM G K Q) 4 σ 73 [(0, .ref (G.1 0)), (1, .int x1)] [] := by
  subst hl
  unfold wX8_picked_73 at h
  refine r_aload_n hC 0 dX8_picked_73 (rfl : 73 + 1 = 74) rfl rfl ?_
  refine r_getr hC 0 7 5 4 (o := 4) fw_X8_19 rfl rfl dX8_picked_74 (rfl : 74 + 3 = 77) ?_
  refine r_iload_n hC 1 dX8_picked_77 (rfl : 77 + 1 = 78) rfl rfl ?_
  obtain ⟨q_1, h⟩ := h
  refine r_iald hC 4 rfl q_1 dX8_picked_78 (rfl : 78 + 1 = 79) ?_
  exact r_iret hC rfl h dX8_picked_79
set_option maxHeartbeats 1000000 in
set_option maxRecDepth 100000 in
theorem sX8_picked_64 {G : Gx} {b k : Nat} {K : Kx} {l : Launch} (hl : K.2.1 = l) (hC : Cx YM G b K cX8_picked RX8 4 (some .int) k)  (hk : 0 ≤ k)  (Q : Int32 → Sg → Prop)  (x1 : Int32) (σ : Sg) (h : wX8_picked_64  x1 σ Q) : V YM G K (Zi YM G K Q) 4 σ 64 [(0, .ref (G.1 0)), (1, .int x1)] [] := by
  subst hl
  unfold wX8_picked_64 at h
  refine r_aload_n hC 0 dX8_picked_64 (rfl : 64 + 1 = 65) rfl rfl ?_
  refine r_getr hC 0 7 6 5 (o := 5) fw_X8_22 rfl rfl dX8_picked_65 (rfl : 65 + 3 = 68) ?_
  refine r_iload_n hC 1 dX8_picked_68 (rfl : 68 + 1 = 69) rfl rfl ?_
  obtain ⟨q_2, h⟩ := h
  refine r_iald hC 5 rfl q_2 dX8_picked_69 (rfl : 69 + 1 = 70) ?_
  refine r_goto hC dX8_picked_70 (tgt := 79) (by decide) ?_
  exact r_iret hC rfl h dX8_picked_79
set_option maxHeartbeats 1000000 in
set_option maxRecDepth 100000 in
theorem mX8_picked {G : Gx} {b k : Nat} {l : Launch} (hS : Sok YM G)  (hk : 0 ≤ k) (x1 : Int32) (x2 : Int32) (σ : Sg) (Q : Int32 → Sg → Prop) (h : wX8_picked  x1 x2 σ Q) : Mi YM G b l yX8_picked cX8_picked 4 .int k [.ref (G.1 0), .int x1, .int x2] σ Q := by
  refine enter hS (by decide +kernel) (Nat.le_of_ble_eq_true rfl) (lv := [(0, .ref (G.1 0)), (1, .int x1), (2, .int x2)]) rfl (fun K hl hC => ?_)
  subst hl
  unfold wX8_picked at h
  show V YM G K (Zi YM G K Q) 4 σ 0 [(0, .ref (G.1 0)), (1, .int x1), (2, .int x2)] []
  refine r_aload_n hC 0 dX8_picked_0 (rfl : 0 + 1 = 1) rfl rfl ?_
  refine r_getr hC 0 7 2 1 (o := 1) fw_X8_7 rfl rfl dX8_picked_1 (rfl : 1 + 3 = 4) ?_
  refine r_iload_n hC 1 dX8_picked_4 (rfl : 4 + 1 = 5) rfl rfl ?_
  obtain ⟨q_3, h⟩ := h
  refine r_iald hC 1 rfl q_3 dX8_picked_5 (rfl : 5 + 1 = 6) ?_
  refine r_bipush hC dX8_picked_6 (rfl : 6 + 2 = 8) (v := 8) (by decide) ?_
  refine r_icmp_ne hC dX8_picked_8 (rfl : 8 + 3 = 11) (tgt := 25) (by decide) (fun q => ?_) (fun q => ?_)
  · replace h := if_f h q
    refine r_iload_n hC 1 dX8_picked_25 (rfl : 25 + 1 = 26) rfl rfl ?_
    exact r_iret hC rfl h dX8_picked_26
  · replace h := if_t h q
    refine r_aload_n hC 0 dX8_picked_11 (rfl : 11 + 1 = 12) rfl rfl ?_
    refine r_getr hC 0 7 2 1 (o := 1) fw_X8_7 rfl rfl dX8_picked_12 (rfl : 12 + 3 = 15) ?_
    refine r_aload_n hC 0 dX8_picked_15 (rfl : 15 + 1 = 16) rfl rfl ?_
    refine r_getr hC 0 7 4 3 (o := 3) fw_X8_16 rfl rfl dX8_picked_16 (rfl : 16 + 3 = 19) ?_
    refine r_iload_n hC 1 dX8_picked_19 (rfl : 19 + 1 = 20) rfl rfl ?_
    refine r_iald hC 3 rfl q_3 dX8_picked_20 (rfl : 20 + 1 = 21) ?_
    obtain ⟨q_4, h⟩ := h
    refine r_iald hC 1 rfl q_4 dX8_picked_21 (rfl : 21 + 1 = 22) ?_
    refine r_if_eq hC dX8_picked_22 (rfl : 22 + 3 = 25) (tgt := 27) (by decide) (fun q => ?_) (fun q => ?_)
    · replace h := if_t h q
      refine r_aload_n hC 0 dX8_picked_27 (rfl : 27 + 1 = 28) rfl rfl ?_
      refine r_getr hC 0 7 3 2 (o := 2) fw_X8_13 rfl rfl dX8_picked_28 (rfl : 28 + 3 = 31) ?_
      refine r_aload_n hC 0 dX8_picked_31 (rfl : 31 + 1 = 32) rfl rfl ?_
      refine r_getr hC 0 7 4 3 (o := 3) fw_X8_16 rfl rfl dX8_picked_32 (rfl : 32 + 3 = 35) ?_
      refine r_iload_n hC 1 dX8_picked_35 (rfl : 35 + 1 = 36) rfl rfl ?_
      refine r_iald hC 3 rfl q_3 dX8_picked_36 (rfl : 36 + 1 = 37) ?_
      refine r_iald hC 2 rfl q_4 dX8_picked_37 (rfl : 37 + 1 = 38) ?_
      obtain ⟨x3_5, e_6, h⟩ := lt_nm h
      refine r_istore_n hC dX8_picked_38 (rfl : 38 + 1 = 39) rfl (by decide) e_6 (lv2 := [(3, .int x3_5), (0, .ref (G.1 0)), (1, .int x1), (2, .int x2)]) rfl ?_
      refine r_iload_n hC 3 dX8_picked_39 (rfl : 39 + 1 = 40) rfl rfl ?_
      refine r_iconst hC dX8_picked_40 (rfl : 40 + 1 = 41) (v := 2) (by decide) ?_
      refine r_icmp_ne hC dX8_picked_41 (rfl : 41 + 3 = 44) (tgt := 51) (by decide) (fun q => ?_) (fun q => ?_)
      · replace h := if_f h q
        refine r_iload_n hC 0 dX8_picked_51 (rfl : 51 + 1 = 52) rfl rfl ?_
        refine r_if_eq hC dX8_picked_52 (rfl : 52 + 3 = 55) (tgt := 64) (by decide) (fun q => ?_) (fun q => ?_)
        · replace h := if_t h q
          exact (sX8_picked_64 rfl hC hk  Q  x1 σ h).sub [1, 2] rfl
        · replace h := if_f h q
          refine r_iload_n hC 3 dX8_picked_55 (rfl : 55 + 1 = 56) rfl rfl ?_
          refine r_iconst hC dX8_picked_56 (rfl : 56 + 1 = 57) (v := 1) (by decide) ?_
          refine r_icmp_ne hC dX8_picked_57 (rfl : 57 + 3 = 60) (tgt := 73) (by decide) (fun q => ?_) (fun q => ?_)
          · replace h := if_f h q
            exact (sX8_picked_73 rfl hC hk  Q  x1 σ h).sub [1, 2] rfl
          · replace h := if_t h q
            refine r_iload_n hC 0 dX8_picked_60 (rfl : 60 + 1 = 61) rfl rfl ?_
            refine r_if_ge hC dX8_picked_61 (rfl : 61 + 3 = 64) (tgt := 73) (by decide) (fun q => ?_) (fun q => ?_)
            · replace h := if_t h q
              exact (sX8_picked_73 rfl hC hk  Q  x1 σ h).sub [1, 2] rfl
            · replace h := if_f h q
              exact (sX8_picked_64 rfl hC hk  Q  x1 σ h).sub [1, 2] rfl
      · replace h := if_t h q
        refine r_aload_n hC 1 dX8_picked_44 (rfl : 44 + 1 = 45) rfl rfl ?_
        refine r_getr hC 0 7 5 4 (o := 4) fw_X8_19 rfl rfl dX8_picked_45 (rfl : 45 + 3 = 48) ?_
        refine r_iload_n hC 2 dX8_picked_48 (rfl : 48 + 1 = 49) rfl rfl ?_
        refine r_iald hC 4 rfl q_3 dX8_picked_49 (rfl : 49 + 1 = 50) ?_
        exact r_iret hC rfl h dX8_picked_50
    · replace h := if_f h q
      refine r_iload_n hC 1 dX8_picked_25 (rfl : 25 + 1 = 26) rfl rfl ?_
      exact r_iret hC rfl h dX8_picked_26
set_option maxHeartbeats 1000000 in
set_option maxRecDepth 100000 in
theorem sX8_melted_67 {G : Gx} {b k : Nat} {K : Kx} {l : Launch} (hl : K.2.1 = l) (hC : Cx YM G b K cX8_melted RX8 4 (some .int) k) (d : Nat) (hk : 1 * d + 1 ≤ k)  (Q : Int32 → Sg → Prop)  (x1 : Int32) (x2 : Int32) (s0 : Int32) (σ : Sg) (h : wX8_melted_67 d x1 x2 s0 σ Q) : V YM G K (Zi YM G K Q) 4 σ 67 [(0, .ref (G.1 0)), (1, .int x1), (2, .int x2)] [.int s0] := by
  subst hl
  unfold wX8_melted_67 at h
  refine r_istore_n hC dX8_melted_67 (rfl : 67 + 1 = 68) rfl (by decide) rfl (lv2 := [(3, .int s0), (0, .ref (G.1 0)), (1, .int x1), (2, .int x2)]) rfl ?_
  refine r_iload_n hC 0 dX8_melted_68 (rfl : 68 + 1 = 69) rfl rfl ?_
  refine r_if_eq hC dX8_melted_69 (rfl : 69 + 3 = 72) (tgt := 79) (by decide) (fun q => ?_) (fun q => ?_)
  · replace h := if_t h q
    refine r_iload_n hC 3 dX8_melted_79 (rfl : 79 + 1 = 80) rfl rfl ?_
    refine r_iconst hC dX8_melted_80 (rfl : 80 + 1 = 81) (v := 2) (by decide) ?_
    refine r_icmp_ne hC dX8_melted_81 (rfl : 81 + 3 = 84) (tgt := 112) (by decide) (fun q => ?_) (fun q => ?_)
    · replace h := if_f h q
      refine r_iload_n hC 2 dX8_melted_112 (rfl : 112 + 1 = 113) rfl rfl ?_
      exact r_iret hC rfl h dX8_melted_113
    · replace h := if_t h q
      refine r_aload_n hC 1 dX8_melted_84 (rfl : 84 + 1 = 85) rfl rfl ?_
      refine r_aload_n hC 1 dX8_melted_85 (rfl : 85 + 1 = 86) rfl rfl ?_
      refine r_getr hC 0 7 4 3 (o := 3) fw_X8_16 rfl rfl dX8_melted_86 (rfl : 86 + 3 = 89) ?_
      refine r_iload_n hC 2 dX8_melted_89 (rfl : 89 + 1 = 90) rfl rfl ?_
      obtain ⟨q_1, h⟩ := h
      refine r_iald hC 3 rfl q_1 dX8_melted_90 (rfl : 90 + 1 = 91) ?_
      refine r_aload_n hC 1 dX8_melted_91 (rfl : 91 + 1 = 92) rfl rfl ?_
      refine r_getr hC 0 7 5 4 (o := 4) fw_X8_19 rfl rfl dX8_melted_92 (rfl : 92 + 3 = 95) ?_
      refine r_iload_n hC 2 dX8_melted_95 (rfl : 95 + 1 = 96) rfl rfl ?_
      refine r_iald hC 4 rfl q_1 dX8_melted_96 (rfl : 96 + 1 = 97) ?_
      refine r_callVi hC cs_X8_100 rfl (by omega) (mX8_areSame hC.2.2.2.2.2.2.2.2.1 d (k - 1) (by omega) (σ.1 3 (Int32.toNatClampNeg x1)) (σ.1 4 (Int32.toNatClampNeg x1)) σ _ h) rfl rfl (Nat.le_of_ble_eq_true rfl) dX8_melted_97 (rfl : 97 + 3 = 100) (fun r_3 σ_2 h => ?_)
      refine r_if_eq hC dX8_melted_100 (rfl : 100 + 3 = 103) (tgt := 112) (by decide) (fun q => ?_) (fun q => ?_)
      · replace h := if_t h q
        refine r_iload_n hC 2 dX8_melted_112 (rfl : 112 + 1 = 113) rfl rfl ?_
        exact r_iret hC rfl h dX8_melted_113
      · replace h := if_f h q
        refine r_aload_n hC 1 dX8_melted_103 (rfl : 103 + 1 = 104) rfl rfl ?_
        refine r_getr hC 0 7 4 3 (o := 3) fw_X8_16 rfl rfl dX8_melted_104 (rfl : 104 + 3 = 107) ?_
        refine r_iload_n hC 2 dX8_melted_107 (rfl : 107 + 1 = 108) rfl rfl ?_
        refine r_iald hC 3 rfl q_1 dX8_melted_108 (rfl : 108 + 1 = 109) ?_
        refine r_goto hC dX8_melted_109 (tgt := 113) (by decide) ?_
        exact r_iret hC rfl h dX8_melted_113
  · replace h := if_f h q
    refine r_aload_n hC 1 dX8_melted_72 (rfl : 72 + 1 = 73) rfl rfl ?_
    refine r_getr hC 0 7 5 4 (o := 4) fw_X8_19 rfl rfl dX8_melted_73 (rfl : 73 + 3 = 76) ?_
    refine r_iload_n hC 2 dX8_melted_76 (rfl : 76 + 1 = 77) rfl rfl ?_
    obtain ⟨q_4, h⟩ := h
    refine r_iald hC 4 rfl q_4 dX8_melted_77 (rfl : 77 + 1 = 78) ?_
    exact r_iret hC rfl h dX8_melted_78
set_option maxHeartbeats 1000000 in
set_option maxRecDepth 100000 in
theorem mX8_melted {G : Gx} {b k : Nat} {l : Launch} (hS : Sok YM G) (d : Nat) (hk : 1 * d + 1 ≤ k) (x1 : Int32) (x2 : Int32) (σ : Sg) (Q : Int32 → Sg → Prop) (h : wX8_melted d x1 x2 σ Q) : Mi YM G b l yX8_melted cX8_melted 4 .int k [.ref (G.1 0), .int x1, .int x2] σ Q := by
  refine enter hS (by decide +kernel) (Nat.le_of_ble_eq_true rfl) (lv := [(0, .ref (G.1 0)), (1, .int x1), (2, .int x2)]) rfl (fun K hl hC => ?_)
  subst hl
  unfold wX8_melted at h
  show V YM G K (Zi YM G K Q) 4 σ 0 [(0, .ref (G.1 0)), (1, .int x1), (2, .int x2)] []
  refine r_aload_n hC 0 dX8_melted_0 (rfl : 0 + 1 = 1) rfl rfl ?_
  refine r_getr hC 0 7 2 1 (o := 1) fw_X8_7 rfl rfl dX8_melted_1 (rfl : 1 + 3 = 4) ?_
  refine r_iload_n hC 1 dX8_melted_4 (rfl : 4 + 1 = 5) rfl rfl ?_
  obtain ⟨q_5, h⟩ := h
  refine r_iald hC 1 rfl q_5 dX8_melted_5 (rfl : 5 + 1 = 6) ?_
  refine r_bipush hC dX8_melted_6 (rfl : 6 + 2 = 8) (v := 8) (by decide) ?_
  refine r_icmp_eq hC dX8_melted_8 (rfl : 8 + 3 = 11) (tgt := 13) (by decide) (fun q => ?_) (fun q => ?_)
  · replace h := if_t h q
    refine r_iload_n hC 2 dX8_melted_13 (rfl : 13 + 1 = 14) rfl rfl ?_
    refine r_iconst hC dX8_melted_14 (rfl : 14 + 1 = 15) (v := 1) (by decide) ?_
    refine r_icmp_ne hC dX8_melted_15 (rfl : 15 + 3 = 18) (tgt := 51) (by decide) (fun q => ?_) (fun q => ?_)
    · replace h := if_f h q
      refine r_aload_n hC 0 dX8_melted_51 (rfl : 51 + 1 = 52) rfl rfl ?_
      refine r_aload_n hC 0 dX8_melted_52 (rfl : 52 + 1 = 53) rfl rfl ?_
      refine r_getr hC 0 7 5 4 (o := 4) fw_X8_19 rfl rfl dX8_melted_53 (rfl : 53 + 3 = 56) ?_
      refine r_iload_n hC 1 dX8_melted_56 (rfl : 56 + 1 = 57) rfl rfl ?_
      refine r_iald hC 4 rfl q_5 dX8_melted_57 (rfl : 57 + 1 = 58) ?_
      refine r_aload_n hC 0 dX8_melted_58 (rfl : 58 + 1 = 59) rfl rfl ?_
      refine r_getr hC 0 7 6 5 (o := 5) fw_X8_22 rfl rfl dX8_melted_59 (rfl : 59 + 3 = 62) ?_
      refine r_iload_n hC 1 dX8_melted_62 (rfl : 62 + 1 = 63) rfl rfl ?_
      refine r_iald hC 5 rfl q_5 dX8_melted_63 (rfl : 63 + 1 = 64) ?_
      refine r_callVi hC cs_X8_100 rfl (by omega) (mX8_areSame hC.2.2.2.2.2.2.2.2.1 d (k - 1) (by omega) (σ.1 4 (Int32.toNatClampNeg x1)) (σ.1 5 (Int32.toNatClampNeg x1)) σ _ h) rfl rfl (Nat.le_of_ble_eq_true rfl) dX8_melted_64 (rfl : 64 + 3 = 67) (fun r_7 σ_6 h => ?_)
      exact (sX8_melted_67 rfl hC d hk  Q  x1 x2 r_7 σ_6 h).sub [0, 1, 2] rfl
    · replace h := if_t h q
      refine r_aload_n hC 0 dX8_melted_18 (rfl : 18 + 1 = 19) rfl rfl ?_
      refine r_getr hC 0 7 7 6 (o := 6) fw_X8_25 rfl rfl dX8_melted_19 (rfl : 19 + 3 = 22) ?_
      refine r_aload_n hC 0 dX8_melted_22 (rfl : 22 + 1 = 23) rfl rfl ?_
      refine r_getr hC 0 7 5 4 (o := 4) fw_X8_19 rfl rfl dX8_melted_23 (rfl : 23 + 3 = 26) ?_
      refine r_iload_n hC 1 dX8_melted_26 (rfl : 26 + 1 = 27) rfl rfl ?_
      refine r_iald hC 4 rfl q_5 dX8_melted_27 (rfl : 27 + 1 = 28) ?_
      obtain ⟨q_8, h⟩ := h
      refine r_iald hC 6 rfl q_8 dX8_melted_28 (rfl : 28 + 1 = 29) ?_
      refine r_aload_n hC 0 dX8_melted_29 (rfl : 29 + 1 = 30) rfl rfl ?_
      refine r_getr hC 0 7 7 6 (o := 6) fw_X8_25 rfl rfl dX8_melted_30 (rfl : 30 + 3 = 33) ?_
      refine r_aload_n hC 0 dX8_melted_33 (rfl : 33 + 1 = 34) rfl rfl ?_
      refine r_getr hC 0 7 6 5 (o := 5) fw_X8_22 rfl rfl dX8_melted_34 (rfl : 34 + 3 = 37) ?_
      refine r_iload_n hC 1 dX8_melted_37 (rfl : 37 + 1 = 38) rfl rfl ?_
      refine r_iald hC 5 rfl q_5 dX8_melted_38 (rfl : 38 + 1 = 39) ?_
      obtain ⟨q_9, h⟩ := h
      refine r_iald hC 6 rfl q_9 dX8_melted_39 (rfl : 39 + 1 = 40) ?_
      refine r_icmp_ne hC dX8_melted_40 (rfl : 40 + 3 = 43) (tgt := 47) (by decide) (fun q => ?_) (fun q => ?_)
      · replace h := if_f h q
        refine r_iconst hC dX8_melted_47 (rfl : 47 + 1 = 48) (v := 0) (by decide) ?_
        refine r_goto hC dX8_melted_48 (tgt := 67) (by decide) ?_
        exact (sX8_melted_67 rfl hC d hk  Q  x1 x2 0 σ h).sub [0, 1, 2] rfl
      · replace h := if_t h q
        refine r_iconst hC dX8_melted_43 (rfl : 43 + 1 = 44) (v := 1) (by decide) ?_
        refine r_goto hC dX8_melted_44 (tgt := 67) (by decide) ?_
        exact (sX8_melted_67 rfl hC d hk  Q  x1 x2 1 σ h).sub [0, 1, 2] rfl
  · replace h := if_f h q
    refine r_iload_n hC 1 dX8_melted_11 (rfl : 11 + 1 = 12) rfl rfl ?_
    exact r_iret hC rfl h dX8_melted_12
set_option maxHeartbeats 1000000 in
set_option maxRecDepth 100000 in
theorem mX8_twice {G : Gx} {b k : Nat} {l : Launch} (hS : Sok YM G)  (hk : 2 ≤ k) (x1 : Int32) (x2 : Int32) (x3 : Int32) (σ : Sg) (Q : Int32 → Sg → Prop) (h : wX8_twice  x1 x2 x3 σ Q) : Mi YM G b l yX8_twice cX8_twice 4 .int k [.ref (G.1 0), .int x1, .int x2, .int x3] σ Q := by
  refine enter hS (by decide +kernel) (Nat.le_of_ble_eq_true rfl) (lv := [(0, .ref (G.1 0)), (1, .int x1), (2, .int x2), (3, .int x3)]) rfl (fun K hl hC => ?_)
  subst hl
  unfold wX8_twice at h
  show V YM G K (Zi YM G K Q) 4 σ 0 [(0, .ref (G.1 0)), (1, .int x1), (2, .int x2), (3, .int x3)] []
  refine r_aload_n hC 0 dX8_twice_0 (rfl : 0 + 1 = 1) rfl rfl ?_
  refine r_geti hC 0 7 11 fw_X8_154 rfl dX8_twice_1 (rfl : 1 + 3 = 4) ?_
  refine r_aload_n hC 0 dX8_twice_4 (rfl : 4 + 1 = 5) rfl rfl ?_
  refine r_getr hC 0 7 7 6 (o := 6) fw_X8_25 rfl rfl dX8_twice_5 (rfl : 5 + 3 = 8) ?_
  refine r_iload_n hC 1 dX8_twice_8 (rfl : 8 + 1 = 9) rfl rfl ?_
  obtain ⟨q_1, h⟩ := h
  refine r_iald hC 6 rfl q_1 dX8_twice_9 (rfl : 9 + 1 = 10) ?_
  refine r_isub hC dX8_twice_10 (rfl : 10 + 1 = 11) ?_
  refine r_iconst hC dX8_twice_11 (rfl : 11 + 1 = 12) (v := 1) (by decide) ?_
  refine r_iadd hC dX8_twice_12 (rfl : 12 + 1 = 13) ?_
  refine r_iconst hC dX8_twice_13 (rfl : 13 + 1 = 14) (v := 2) (by decide) ?_
  refine r_aload_n hC 0 dX8_twice_14 (rfl : 14 + 1 = 15) rfl rfl ?_
  refine r_getr hC 0 7 7 6 (o := 6) fw_X8_25 rfl rfl dX8_twice_15 (rfl : 15 + 3 = 18) ?_
  refine r_iload_n hC 3 dX8_twice_18 (rfl : 18 + 1 = 19) rfl rfl ?_
  obtain ⟨q_2, h⟩ := h
  refine r_iald hC 6 rfl q_2 dX8_twice_19 (rfl : 19 + 1 = 20) ?_
  refine r_imul hC dX8_twice_20 (rfl : 20 + 1 = 21) ?_
  refine r_iadd hC dX8_twice_21 (rfl : 21 + 1 = 22) ?_
  refine r_sipush hC dX8_twice_22 (rfl : 22 + 3 = 25) (v := 200) (by decide) ?_
  refine r_icmp_le hC dX8_twice_25 (rfl : 25 + 3 = 28) (tgt := 32) (by decide) (fun q => ?_) (fun q => ?_)
  · replace h := if_t h q
    refine r_aload_n hC 0 dX8_twice_32 (rfl : 32 + 1 = 33) rfl rfl ?_
    refine r_iload_n hC 2 dX8_twice_33 (rfl : 33 + 1 = 34) rfl rfl ?_
    refine r_iload_n hC 3 dX8_twice_34 (rfl : 34 + 1 = 35) rfl rfl ?_
    refine r_iload_n hC 3 dX8_twice_35 (rfl : 35 + 1 = 36) rfl rfl ?_
    refine r_callVi hC cs_X8_157 rfl (by omega) (mX8_pair hC.2.2.2.2.2.2.2.2.1 (k := k - 1) (by omega) x2 x3 x3 σ _ h) rfl rfl (Nat.le_of_ble_eq_true rfl) dX8_twice_36 (rfl : 36 + 3 = 39) (fun r_4 σ_3 h => ?_)
    exact r_iret hC rfl h dX8_twice_39
  · replace h := if_f h q
    refine r_iload_n hC 1 dX8_twice_28 (rfl : 28 + 1 = 29) rfl rfl ?_
    refine r_goto hC dX8_twice_29 (tgt := 39) (by decide) ?_
    exact r_iret hC rfl h dX8_twice_39
