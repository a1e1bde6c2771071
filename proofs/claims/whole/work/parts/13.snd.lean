set_option maxHeartbeats 1000000 in
set_option maxRecDepth 100000 in
theorem sX8_node_91 {G : Gx} {b k : Nat} {K : Kx} {l : Launch} (hl : K.2.1 = l) (hC : Cx YM G b K cX8_node RX8 5 (some .int) k)  (hk : 1 ≤ k)  (Q : Int32 → Sg → Prop)  : ∀ (n : Nat) (x1 : Int32) (x2 : Int32) (x3 : Int32) (x4 : Int32) (σ : Sg), wX8_node_91  Q n x1 x2 x3 x4 σ → V YM G K (Zi YM G K Q) 5 σ 91 [(0, .ref (G.1 0)), (1, .int x1), (2, .int x2), (3, .int x3), (4, .int x4)] [] := by
  subst hl
  intro n
  induction n with
  | zero =>
    intro x1 x2 x3 x4 σ h
    exact h.elim
  | succ n ih =>
    intro x1 x2 x3 x4 σ h
    have h : wX8_node_91_b  (wX8_node_91  Q n) x1 x2 x3 x4 σ Q := h
    unfold wX8_node_91_b at h
    refine r_iload hC 4 dX8_node_91 (rfl : 91 + 2 = 93) rfl ?_
    refine r_iload_n hC 3 dX8_node_93 (rfl : 93 + 1 = 94) rfl rfl ?_
    refine r_icmp_le hC dX8_node_94 (rfl : 94 + 3 = 97) (tgt := 135) (by decide) (fun q => ?_) (fun q => ?_)
    · replace h := if_t h q
      refine r_aload_n hC 0 dX8_node_135 (rfl : 135 + 1 = 136) rfl rfl ?_
      refine r_getr hC 0 7 22 14 (o := 14) fw_X8_50 rfl rfl dX8_node_136 (rfl : 136 + 3 = 139) ?_
      refine r_iload_n hC 3 dX8_node_139 (rfl : 139 + 1 = 140) rfl rfl ?_
      refine r_iload_n hC 1 dX8_node_140 (rfl : 140 + 1 = 141) rfl rfl ?_
      obtain ⟨q_1, h⟩ := h
      obtain ⟨σ_2, e_3, h⟩ := lt_nm h
      refine r_iast hC 14 rfl q_1 e_3 dX8_node_141 (rfl : 141 + 1 = 142) ?_
      refine r_aload_n hC 0 dX8_node_142 (rfl : 142 + 1 = 143) rfl rfl ?_
      refine r_getr hC 0 7 23 15 (o := 15) fw_X8_53 rfl rfl dX8_node_143 (rfl : 143 + 3 = 146) ?_
      refine r_iload_n hC 3 dX8_node_146 (rfl : 146 + 1 = 147) rfl rfl ?_
      refine r_iload_n hC 2 dX8_node_147 (rfl : 147 + 1 = 148) rfl rfl ?_
      obtain ⟨σ_4, e_5, h⟩ := lt_nm h
      refine r_iast hC 15 rfl q_1 e_5 dX8_node_148 (rfl : 148 + 1 = 149) ?_
      refine r_aload_n hC 0 dX8_node_149 (rfl : 149 + 1 = 150) rfl rfl ?_
      refine r_dup hC dX8_node_150 (rfl : 150 + 1 = 151) rfl ?_
      refine r_geti hC 0 7 24 fw_X8_258 rfl dX8_node_151 (rfl : 151 + 3 = 154) ?_
      refine r_iconst hC dX8_node_154 (rfl : 154 + 1 = 155) (v := 1) (by decide) ?_
      refine r_iadd hC dX8_node_155 (rfl : 155 + 1 = 156) ?_
      obtain ⟨σ_6, e_7, h⟩ := lt_nm h
      refine r_puti hC 0 7 24 fw_X8_258 fp_8_24 rfl e_7 dX8_node_156 (rfl : 156 + 3 = 159) ?_
      refine r_aload_n hC 0 dX8_node_159 (rfl : 159 + 1 = 160) rfl rfl ?_
      refine r_getr hC 0 7 21 13 (o := 13) fw_X8_47 rfl rfl dX8_node_160 (rfl : 160 + 3 = 163) ?_
      refine r_aload_n hC 0 dX8_node_163 (rfl : 163 + 1 = 164) rfl rfl ?_
      refine r_geti hC 0 7 20 fw_X8_255 rfl dX8_node_164 (rfl : 164 + 3 = 167) ?_
      refine r_iload_n hC 3 dX8_node_167 (rfl : 167 + 1 = 168) rfl rfl ?_
      obtain ⟨q_8, h⟩ := h
      obtain ⟨σ_9, e_10, h⟩ := lt_nm h
      refine r_iast hC 13 rfl q_8 e_10 dX8_node_168 (rfl : 168 + 1 = 169) ?_
      refine r_aload_n hC 0 dX8_node_169 (rfl : 169 + 1 = 170) rfl rfl ?_
      refine r_dup hC dX8_node_170 (rfl : 170 + 1 = 171) rfl ?_
      refine r_geti hC 0 7 20 fw_X8_255 rfl dX8_node_171 (rfl : 171 + 3 = 174) ?_
      refine r_iconst hC dX8_node_174 (rfl : 174 + 1 = 175) (v := 1) (by decide) ?_
      refine r_iadd hC dX8_node_175 (rfl : 175 + 1 = 176) ?_
      obtain ⟨σ_11, e_12, h⟩ := lt_nm h
      refine r_puti hC 0 7 20 fw_X8_255 fp_8_20 rfl e_12 dX8_node_176 (rfl : 176 + 3 = 179) ?_
      refine r_aload_n hC 0 dX8_node_179 (rfl : 179 + 1 = 180) rfl rfl ?_
      refine r_geti hC 0 7 20 fw_X8_255 rfl dX8_node_180 (rfl : 180 + 3 = 183) ?_
      exact r_iret hC rfl h dX8_node_183
    · replace h := if_f h q
      refine r_aload_n hC 0 dX8_node_97 (rfl : 97 + 1 = 98) rfl rfl ?_
      refine r_getr hC 0 7 22 14 (o := 14) fw_X8_50 rfl rfl dX8_node_98 (rfl : 98 + 3 = 101) ?_
      refine r_iload hC 4 dX8_node_101 (rfl : 101 + 2 = 103) rfl ?_
      refine r_aload_n hC 0 dX8_node_103 (rfl : 103 + 1 = 104) rfl rfl ?_
      refine r_getr hC 0 7 22 14 (o := 14) fw_X8_50 rfl rfl dX8_node_104 (rfl : 104 + 3 = 107) ?_
      refine r_iload hC 4 dX8_node_107 (rfl : 107 + 2 = 109) rfl ?_
      refine r_iconst hC dX8_node_109 (rfl : 109 + 1 = 110) (v := 1) (by decide) ?_
      refine r_isub hC dX8_node_110 (rfl : 110 + 1 = 111) ?_
      obtain ⟨q_13, h⟩ := h
      refine r_iald hC 14 rfl q_13 dX8_node_111 (rfl : 111 + 1 = 112) ?_
      obtain ⟨q_14, h⟩ := h
      obtain ⟨σ_15, e_16, h⟩ := lt_nm h
      refine r_iast hC 14 rfl q_14 e_16 dX8_node_112 (rfl : 112 + 1 = 113) ?_
      refine r_aload_n hC 0 dX8_node_113 (rfl : 113 + 1 = 114) rfl rfl ?_
      refine r_getr hC 0 7 23 15 (o := 15) fw_X8_53 rfl rfl dX8_node_114 (rfl : 114 + 3 = 117) ?_
      refine r_iload hC 4 dX8_node_117 (rfl : 117 + 2 = 119) rfl ?_
      refine r_aload_n hC 0 dX8_node_119 (rfl : 119 + 1 = 120) rfl rfl ?_
      refine r_getr hC 0 7 23 15 (o := 15) fw_X8_53 rfl rfl dX8_node_120 (rfl : 120 + 3 = 123) ?_
      refine r_iload hC 4 dX8_node_123 (rfl : 123 + 2 = 125) rfl ?_
      refine r_iconst hC dX8_node_125 (rfl : 125 + 1 = 126) (v := 1) (by decide) ?_
      refine r_isub hC dX8_node_126 (rfl : 126 + 1 = 127) ?_
      refine r_iald hC 15 rfl q_13 dX8_node_127 (rfl : 127 + 1 = 128) ?_
      obtain ⟨σ_17, e_18, h⟩ := lt_nm h
      refine r_iast hC 15 rfl q_14 e_18 dX8_node_128 (rfl : 128 + 1 = 129) ?_
      obtain ⟨x4_19, e_20, h⟩ := lt_nm h
      refine r_iinc hC (j := 4) dX8_node_129 (rfl : 129 + 3 = 132) rfl (zz := -1) (by decide) e_20 (by decide) (lv2 := [(4, .int x4_19), (0, .ref (G.1 0)), (1, .int x1), (2, .int x2), (3, .int x3)]) rfl ?_
      refine r_goto hC dX8_node_132 (tgt := 91) (by decide) ?_
      exact (ih x1 x2 x3 x4_19 σ_17 h).sub [1, 2, 3, 4, 0] rfl
set_option maxHeartbeats 1000000 in
set_option maxRecDepth 100000 in
theorem sX8_node_84 {G : Gx} {b k : Nat} {K : Kx} {l : Launch} (hl : K.2.1 = l) (hC : Cx YM G b K cX8_node RX8 5 (some .int) k)  (hk : 1 ≤ k)  (Q : Int32 → Sg → Prop)  (x1 : Int32) (x2 : Int32) (s0 : Int32) (σ : Sg) (h : wX8_node_84  x1 x2 s0 σ Q) : V YM G K (Zi YM G K Q) 5 σ 84 [(0, .ref (G.1 0)), (1, .int x1), (2, .int x2)] [.int s0] := by
  subst hl
  unfold wX8_node_84 at h
  refine r_istore_n hC dX8_node_84 (rfl : 84 + 1 = 85) rfl (by decide) rfl (lv2 := [(3, .int s0), (0, .ref (G.1 0)), (1, .int x1), (2, .int x2)]) rfl ?_
  refine r_aload_n hC 1 dX8_node_85 (rfl : 85 + 1 = 86) rfl rfl ?_
  refine r_geti hC 0 7 24 fw_X8_258 rfl dX8_node_86 (rfl : 86 + 3 = 89) ?_
  obtain ⟨x4_21, e_22, h⟩ := lt_nm h
  refine r_istore hC dX8_node_89 (rfl : 89 + 2 = 91) (by decide) e_22 (lv2 := [(4, .int x4_21), (3, .int s0), (0, .ref (G.1 0)), (1, .int x1), (2, .int x2)]) rfl ?_
  obtain ⟨nn, h⟩ := h
  exact (sX8_node_91 rfl hC hk  Q  nn x1 x2 s0 x4_21 σ h).sub [2, 3, 4, 1, 0] rfl
set_option maxHeartbeats 1000000 in
set_option maxRecDepth 100000 in
theorem sX8_node_22 {G : Gx} {b k : Nat} {K : Kx} {l : Launch} (hl : K.2.1 = l) (hC : Cx YM G b K cX8_node RX8 5 (some .int) k)  (hk : 1 ≤ k)  (Q : Int32 → Sg → Prop)  (x1 : Int32) (x2 : Int32) (σ : Sg) (h : wX8_node_22  x1 x2 σ Q) : V YM G K (Zi YM G K Q) 5 σ 22 [(0, .ref (G.1 0)), (1, .int x1), (2, .int x2)] [] := by
  subst hl
  unfold wX8_node_22 at h
  refine r_aload_n hC 0 dX8_node_22 (rfl : 22 + 1 = 23) rfl rfl ?_
  refine r_geti hC 0 7 20 fw_X8_255 rfl dX8_node_23 (rfl : 23 + 3 = 26) ?_
  refine r_iload_n hC 1 dX8_node_26 (rfl : 26 + 1 = 27) rfl rfl ?_
  refine r_callSi hC cs_X8_191 (by omega) (mX8_parts hC.2.2.2.2.2.2.2.2.1 (k := k - 1) (by omega) x1 σ _ h) rfl rfl (Nat.le_of_ble_eq_true rfl) dX8_node_27 (rfl : 27 + 3 = 30) (fun r_24 σ_23 h => ?_)
  refine r_icmp_ge hC dX8_node_30 (rfl : 30 + 3 = 33) (tgt := 36) (by decide) (fun q => ?_) (fun q => ?_)
  · replace h := if_t h q
    refine r_aload_n hC 0 dX8_node_36 (rfl : 36 + 1 = 37) rfl rfl ?_
    refine r_geti hC 0 7 24 fw_X8_258 rfl dX8_node_37 (rfl : 37 + 3 = 40) ?_
    refine r_bipush hC dX8_node_40 (rfl : 40 + 2 = 42) (v := 60) (by decide) ?_
    refine r_icmp_ne hC dX8_node_42 (rfl : 42 + 3 = 45) (tgt := 48) (by decide) (fun q => ?_) (fun q => ?_)
    · replace h := if_f h q
      refine r_aload_n hC 0 dX8_node_48 (rfl : 48 + 1 = 49) rfl rfl ?_
      refine r_dup hC dX8_node_49 (rfl : 49 + 1 = 50) rfl ?_
      refine r_geti hC 0 7 20 fw_X8_255 rfl dX8_node_50 (rfl : 50 + 3 = 53) ?_
      refine r_iload_n hC 1 dX8_node_53 (rfl : 53 + 1 = 54) rfl rfl ?_
      refine r_callSi hC cs_X8_191 (by omega) (mX8_parts hC.2.2.2.2.2.2.2.2.1 (k := k - 1) (by omega) x1 σ_23 _ h) rfl rfl (Nat.le_of_ble_eq_true rfl) dX8_node_54 (rfl : 54 + 3 = 57) (fun r_26 σ_25 h => ?_)
      refine r_isub hC dX8_node_57 (rfl : 57 + 1 = 58) ?_
      obtain ⟨σ_27, e_28, h⟩ := lt_nm h
      refine r_puti hC 0 7 20 fw_X8_255 fp_8_20 rfl e_28 dX8_node_58 (rfl : 58 + 3 = 61) ?_
      refine r_iload_n hC 1 dX8_node_61 (rfl : 61 + 1 = 62) rfl rfl ?_
      refine r_callSi hC cs_X8_191 (by omega) (mX8_parts hC.2.2.2.2.2.2.2.2.1 (k := k - 1) (by omega) x1 σ_27 _ h) rfl rfl (Nat.le_of_ble_eq_true rfl) dX8_node_62 (rfl : 62 + 3 = 65) (fun r_30 σ_29 h => ?_)
      refine r_if_ne hC dX8_node_65 (rfl : 65 + 3 = 68) (tgt := 75) (by decide) (fun q => ?_) (fun q => ?_)
      · replace h := if_f h q
        refine r_aload_n hC 0 dX8_node_75 (rfl : 75 + 1 = 76) rfl rfl ?_
        refine r_getr hC 0 7 21 13 (o := 13) fw_X8_47 rfl rfl dX8_node_76 (rfl : 76 + 3 = 79) ?_
        refine r_aload_n hC 0 dX8_node_79 (rfl : 79 + 1 = 80) rfl rfl ?_
        refine r_geti hC 0 7 20 fw_X8_255 rfl dX8_node_80 (rfl : 80 + 3 = 83) ?_
        obtain ⟨q_31, h⟩ := h
        refine r_iald hC 13 rfl q_31 dX8_node_83 (rfl : 83 + 1 = 84) ?_
        exact (sX8_node_84 rfl hC hk  Q  x1 x2 (σ_29.1 13 (Int32.toNatClampNeg (σ_29.1 0 20))) σ_29 h).sub [0, 1, 2] rfl
      · replace h := if_t h q
        refine r_aload_n hC 0 dX8_node_68 (rfl : 68 + 1 = 69) rfl rfl ?_
        refine r_geti hC 0 7 24 fw_X8_258 rfl dX8_node_69 (rfl : 69 + 3 = 72) ?_
        refine r_goto hC dX8_node_72 (tgt := 84) (by decide) ?_
        exact (sX8_node_84 rfl hC hk  Q  x1 x2 (σ_29.1 0 24) σ_29 h).sub [0, 1, 2] rfl
    · replace h := if_t h q
      refine r_bipush hC dX8_node_45 (rfl : 45 + 2 = 47) (v := -3) (by decide) ?_
      exact r_iret hC rfl h dX8_node_47
  · replace h := if_f h q
    refine r_bipush hC dX8_node_33 (rfl : 33 + 2 = 35) (v := -2) (by decide) ?_
    exact r_iret hC rfl h dX8_node_35
set_option maxHeartbeats 1000000 in
set_option maxRecDepth 100000 in
theorem mX8_node {G : Gx} {b k : Nat} {l : Launch} (hS : Sok YM G)  (hk : 1 ≤ k) (x1 : Int32) (x2 : Int32) (σ : Sg) (Q : Int32 → Sg → Prop) (h : wX8_node  x1 x2 σ Q) : Mi YM G b l yX8_node cX8_node 5 .int k [.ref (G.1 0), .int x1, .int x2] σ Q := by
  refine enter hS (by decide +kernel) (Nat.le_of_ble_eq_true rfl) (lv := [(0, .ref (G.1 0)), (1, .int x1), (2, .int x2)]) rfl (fun K hl hC => ?_)
  subst hl
  unfold wX8_node at h
  show V YM G K (Zi YM G K Q) 5 σ 0 [(0, .ref (G.1 0)), (1, .int x1), (2, .int x2)] []
  refine r_iload_n hC 1 dX8_node_0 (rfl : 0 + 1 = 1) rfl rfl ?_
  refine r_i2l hC dX8_node_1 (rfl : 1 + 1 = 2) ?_
  refine r_lconst hC dX8_node_2 (rfl : 2 + 1 = 3) (v := 0) (by decide) ?_
  refine r_ldc2 hC dX8_node_3 (rfl : 3 + 3 = 6) wd_967 ?_
  refine r_callSi hC cs_X8_177 (by omega) (mX8_in hC.2.2.2.2.2.2.2.2.1 (k := k - 1) (by omega) (Int32.toInt64 x1) 0 8 σ _ h) rfl rfl (Nat.le_of_ble_eq_true rfl) dX8_node_6 (rfl : 6 + 3 = 9) (fun r_33 σ_32 h => ?_)
  refine r_if_eq hC dX8_node_9 (rfl : 9 + 3 = 12) (tgt := 20) (by decide) (fun q => ?_) (fun q => ?_)
  · replace h := if_t h q
    refine r_iconst hC dX8_node_20 (rfl : 20 + 1 = 21) (v := -1) (by decide) ?_
    exact r_iret hC rfl h dX8_node_21
  · replace h := if_f h q
    refine r_iload_n hC 1 dX8_node_12 (rfl : 12 + 1 = 13) rfl rfl ?_
    refine r_if_eq hC dX8_node_13 (rfl : 13 + 3 = 16) (tgt := 22) (by decide) (fun q => ?_) (fun q => ?_)
    · replace h := if_t h q
      exact (sX8_node_22 rfl hC hk  Q  x1 x2 σ_32 h).sub [0, 1, 2] rfl
    · replace h := if_f h q
      refine r_iload_n hC 2 dX8_node_16 (rfl : 16 + 1 = 17) rfl rfl ?_
      refine r_if_eq hC dX8_node_17 (rfl : 17 + 3 = 20) (tgt := 22) (by decide) (fun q => ?_) (fun q => ?_)
      · replace h := if_t h q
        exact (sX8_node_22 rfl hC hk  Q  x1 x2 σ_32 h).sub [0, 1, 2] rfl
      · replace h := if_f h q
        refine r_iconst hC dX8_node_20 (rfl : 20 + 1 = 21) (v := -1) (by decide) ?_
        exact r_iret hC rfl h dX8_node_21
set_option maxHeartbeats 1000000 in
set_option maxRecDepth 100000 in
theorem sX8_keep_30 {G : Gx} {b k : Nat} {K : Kx} {l : Launch} (hl : K.2.1 = l) (hC : Cx YM G b K cX8_keep RX8 3 (some .int) k)  (hk : 2 ≤ k)  (Q : Int32 → Sg → Prop)  : ∀ (n : Nat) (x1 : Int32) (x2 : Int32) (σ : Sg), wX8_keep_30  Q n x1 x2 σ → V YM G K (Zi YM G K Q) 3 σ 30 [(0, .ref (G.1 0)), (1, .int x1), (2, .int x2)] [] := by
  subst hl
  intro n
  induction n with
  | zero =>
    intro x1 x2 σ h
    exact h.elim
  | succ n ih =>
    intro x1 x2 σ h
    have h : wX8_keep_30_b  (wX8_keep_30  Q n) x1 x2 σ Q := h
    unfold wX8_keep_30_b at h
    refine r_iload_n hC 2 dX8_keep_30 (rfl : 30 + 1 = 31) rfl rfl ?_
    refine r_aload_n hC 0 dX8_keep_31 (rfl : 31 + 1 = 32) rfl rfl ?_
    refine r_geti hC 0 7 24 fw_X8_258 rfl dX8_keep_32 (rfl : 32 + 3 = 35) ?_
    refine r_icmp_ge hC dX8_keep_35 (rfl : 35 + 3 = 38) (tgt := 68) (by decide) (fun q => ?_) (fun q => ?_)
    · replace h := if_t h q
      refine r_aload_n hC 0 dX8_keep_68 (rfl : 68 + 1 = 69) rfl rfl ?_
      refine r_iconst hC dX8_keep_69 (rfl : 69 + 1 = 70) (v := 0) (by decide) ?_
      obtain ⟨σ_1, e_2, h⟩ := lt_nm h
      refine r_puti hC 0 7 20 fw_X8_255 fp_8_20 rfl e_2 dX8_keep_70 (rfl : 70 + 3 = 73) ?_
      refine r_aload_n hC 0 dX8_keep_73 (rfl : 73 + 1 = 74) rfl rfl ?_
      refine r_iconst hC dX8_keep_74 (rfl : 74 + 1 = 75) (v := 0) (by decide) ?_
      obtain ⟨σ_3, e_4, h⟩ := lt_nm h
      refine r_puti hC 0 7 24 fw_X8_258 fp_8_24 rfl e_4 dX8_keep_75 (rfl : 75 + 3 = 78) ?_
      refine r_aload_n hC 0 dX8_keep_78 (rfl : 78 + 1 = 79) rfl rfl ?_
      refine r_iload_n hC 1 dX8_keep_79 (rfl : 79 + 1 = 80) rfl rfl ?_
      refine r_callVi hC cs_X8_236 rfl (by omega) (mX8_put hC.2.2.2.2.2.2.2.2.1 (k := k - 1) (by omega) x1 σ_3 _ h) rfl rfl (Nat.le_of_ble_eq_true rfl) dX8_keep_80 (rfl : 80 + 3 = 83) (fun r_6 σ_5 h => ?_)
      exact r_iret hC rfl h dX8_keep_83
    · replace h := if_f h q
      refine r_aload_n hC 0 dX8_keep_38 (rfl : 38 + 1 = 39) rfl rfl ?_
      refine r_getr hC 0 7 15 10 (o := 10) fw_X8_37 rfl rfl dX8_keep_39 (rfl : 39 + 3 = 42) ?_
      refine r_iload_n hC 2 dX8_keep_42 (rfl : 42 + 1 = 43) rfl rfl ?_
      refine r_aload_n hC 0 dX8_keep_43 (rfl : 43 + 1 = 44) rfl rfl ?_
      refine r_getr hC 0 7 22 14 (o := 14) fw_X8_50 rfl rfl dX8_keep_44 (rfl : 44 + 3 = 47) ?_
      refine r_iload_n hC 2 dX8_keep_47 (rfl : 47 + 1 = 48) rfl rfl ?_
      obtain ⟨q_7, h⟩ := h
      refine r_iald hC 14 rfl q_7 dX8_keep_48 (rfl : 48 + 1 = 49) ?_
      obtain ⟨q_8, h⟩ := h
      obtain ⟨σ_9, e_10, h⟩ := lt_nm h
      refine r_iast hC 10 rfl q_8 e_10 dX8_keep_49 (rfl : 49 + 1 = 50) ?_
      refine r_aload_n hC 0 dX8_keep_50 (rfl : 50 + 1 = 51) rfl rfl ?_
      refine r_getr hC 0 7 16 11 (o := 11) fw_X8_40 rfl rfl dX8_keep_51 (rfl : 51 + 3 = 54) ?_
      refine r_iload_n hC 2 dX8_keep_54 (rfl : 54 + 1 = 55) rfl rfl ?_
      refine r_aload_n hC 0 dX8_keep_55 (rfl : 55 + 1 = 56) rfl rfl ?_
      refine r_getr hC 0 7 23 15 (o := 15) fw_X8_53 rfl rfl dX8_keep_56 (rfl : 56 + 3 = 59) ?_
      refine r_iload_n hC 2 dX8_keep_59 (rfl : 59 + 1 = 60) rfl rfl ?_
      refine r_iald hC 15 rfl q_7 dX8_keep_60 (rfl : 60 + 1 = 61) ?_
      obtain ⟨σ_11, e_12, h⟩ := lt_nm h
      refine r_iast hC 11 rfl q_8 e_12 dX8_keep_61 (rfl : 61 + 1 = 62) ?_
      obtain ⟨x2_13, e_14, h⟩ := lt_nm h
      refine r_iinc hC (j := 2) dX8_keep_62 (rfl : 62 + 3 = 65) rfl (zz := 1) (by decide) e_14 (by decide) (lv2 := [(2, .int x2_13), (0, .ref (G.1 0)), (1, .int x1)]) rfl ?_
      refine r_goto hC dX8_keep_65 (tgt := 30) (by decide) ?_
      exact (ih x1 x2_13 σ_11 h).sub [1, 2, 0] rfl
set_option maxHeartbeats 1000000 in
set_option maxRecDepth 100000 in
theorem mX8_keep {G : Gx} {b k : Nat} {l : Launch} (hS : Sok YM G)  (hk : 2 ≤ k) (x1 : Int32) (σ : Sg) (Q : Int32 → Sg → Prop) (h : wX8_keep  x1 σ Q) : Mi YM G b l yX8_keep cX8_keep 3 .int k [.ref (G.1 0), .int x1] σ Q := by
  refine enter hS (by decide +kernel) (Nat.le_of_ble_eq_true rfl) (lv := [(0, .ref (G.1 0)), (1, .int x1)]) rfl (fun K hl hC => ?_)
  subst hl
  unfold wX8_keep at h
  show V YM G K (Zi YM G K Q) 3 σ 0 [(0, .ref (G.1 0)), (1, .int x1)] []
  refine r_iload_n hC 1 dX8_keep_0 (rfl : 0 + 1 = 1) rfl rfl ?_
  refine r_callSi hC cs_X8_181 (by omega) (mX8_isPlace hC.2.2.2.2.2.2.2.2.1 (k := k - 1) (by omega) x1 σ _ h) rfl rfl (Nat.le_of_ble_eq_true rfl) dX8_keep_1 (rfl : 1 + 3 = 4) (fun r_16 σ_15 h => ?_)
  refine r_if_ne hC dX8_keep_4 (rfl : 4 + 3 = 7) (tgt := 9) (by decide) (fun q => ?_) (fun q => ?_)
  · replace h := if_f h q
    refine r_aload_n hC 0 dX8_keep_9 (rfl : 9 + 1 = 10) rfl rfl ?_
    refine r_geti hC 0 7 20 fw_X8_255 rfl dX8_keep_10 (rfl : 10 + 3 = 13) ?_
    refine r_iconst hC dX8_keep_13 (rfl : 13 + 1 = 14) (v := 1) (by decide) ?_
    refine r_icmp_eq hC dX8_keep_14 (rfl : 14 + 3 = 17) (tgt := 20) (by decide) (fun q => ?_) (fun q => ?_)
    · replace h := if_t h q
      refine r_aload_n hC 0 dX8_keep_20 (rfl : 20 + 1 = 21) rfl rfl ?_
      refine r_aload_n hC 0 dX8_keep_21 (rfl : 21 + 1 = 22) rfl rfl ?_
      refine r_geti hC 0 7 24 fw_X8_258 rfl dX8_keep_22 (rfl : 22 + 3 = 25) ?_
      obtain ⟨σ_17, e_18, h⟩ := lt_nm h
      refine r_puti hC 0 7 17 fw_X8_185 fp_8_17 rfl e_18 dX8_keep_25 (rfl : 25 + 3 = 28) ?_
      refine r_iconst hC dX8_keep_28 (rfl : 28 + 1 = 29) (v := 0) (by decide) ?_
      refine r_istore_n hC dX8_keep_29 (rfl : 29 + 1 = 30) rfl (by decide) rfl (lv2 := [(2, .int 0), (0, .ref (G.1 0)), (1, .int x1)]) rfl ?_
      obtain ⟨nn, h⟩ := h
      exact (sX8_keep_30 rfl hC hk  Q  nn x1 0 σ_17 h).sub [1, 2, 0] rfl
    · replace h := if_f h q
      refine r_bipush hC dX8_keep_17 (rfl : 17 + 2 = 19) (v := -2) (by decide) ?_
      exact r_iret hC rfl h dX8_keep_19
  · replace h := if_t h q
    refine r_iconst hC dX8_keep_7 (rfl : 7 + 1 = 8) (v := -1) (by decide) ?_
    exact r_iret hC rfl h dX8_keep_8
set_option maxHeartbeats 1000000 in
set_option maxRecDepth 100000 in
theorem mX8_drop {G : Gx} {b k : Nat} {l : Launch} (hS : Sok YM G)  (hk : 3 ≤ k) (x1 : Int32) (σ : Sg) (Q : Int32 → Sg → Prop) (h : wX8_drop  x1 σ Q) : Mi YM G b l yX8_drop cX8_drop 3 .int k [.ref (G.1 0), .int x1] σ Q := by
  refine enter hS (by decide +kernel) (Nat.le_of_ble_eq_true rfl) (lv := [(0, .ref (G.1 0)), (1, .int x1)]) rfl (fun K hl hC => ?_)
  subst hl
  unfold wX8_drop at h
  show V YM G K (Zi YM G K Q) 3 σ 0 [(0, .ref (G.1 0)), (1, .int x1)] []
  refine r_aload_n hC 0 dX8_drop_0 (rfl : 0 + 1 = 1) rfl rfl ?_
  refine r_iload_n hC 1 dX8_drop_1 (rfl : 1 + 1 = 2) rfl rfl ?_
  refine r_callVi hC cs_X8_246 rfl (by omega) (mX8_has hC.2.2.2.2.2.2.2.2.1 (k := k - 1) (by omega) x1 σ _ h) rfl rfl (Nat.le_of_ble_eq_true rfl) dX8_drop_2 (rfl : 2 + 3 = 5) (fun r_2 σ_1 h => ?_)
  refine r_if_ne hC dX8_drop_5 (rfl : 5 + 3 = 8) (tgt := 10) (by decide) (fun q => ?_) (fun q => ?_)
  · replace h := if_f h q
    refine r_aload_n hC 0 dX8_drop_10 (rfl : 10 + 1 = 11) rfl rfl ?_
    refine r_getr hC 0 7 12 7 (o := 7) fw_X8_28 rfl rfl dX8_drop_11 (rfl : 11 + 3 = 14) ?_
    refine r_iload_n hC 1 dX8_drop_14 (rfl : 14 + 1 = 15) rfl rfl ?_
    obtain ⟨q_3, h⟩ := h
    refine r_iald hC 7 rfl q_3 dX8_drop_15 (rfl : 15 + 1 = 16) ?_
    obtain ⟨x2_4, e_5, h⟩ := lt_nm h
    refine r_istore_n hC dX8_drop_16 (rfl : 16 + 1 = 17) rfl (by decide) e_5 (lv2 := [(2, .int x2_4), (0, .ref (G.1 0)), (1, .int x1)]) rfl ?_
    refine r_aload_n hC 1 dX8_drop_17 (rfl : 17 + 1 = 18) rfl rfl ?_
    refine r_getr hC 0 7 12 7 (o := 7) fw_X8_28 rfl rfl dX8_drop_18 (rfl : 18 + 3 = 21) ?_
    refine r_iload_n hC 2 dX8_drop_21 (rfl : 21 + 1 = 22) rfl rfl ?_
    refine r_iconst hC dX8_drop_22 (rfl : 22 + 1 = 23) (v := 0) (by decide) ?_
    obtain ⟨σ_6, e_7, h⟩ := lt_nm h
    refine r_iast hC 7 rfl q_3 e_7 dX8_drop_23 (rfl : 23 + 1 = 24) ?_
    refine r_iload_n hC 0 dX8_drop_24 (rfl : 24 + 1 = 25) rfl rfl ?_
    exact r_iret hC rfl h dX8_drop_25
  · replace h := if_t h q
    refine r_iconst hC dX8_drop_8 (rfl : 8 + 1 = 9) (v := -1) (by decide) ?_
    exact r_iret hC rfl h dX8_drop_9
set_option maxHeartbeats 1000000 in
set_option maxRecDepth 100000 in
theorem mX8_read {G : Gx} {b k : Nat} {l : Launch} (hS : Sok YM G)  (hk : 3 ≤ k) (x1 : Int32) (x2 : Int32) (x3 : Int32) (σ : Sg) (Q : Int32 → Sg → Prop) (h : wX8_read  x1 x2 x3 σ Q) : Mi YM G b l yX8_read cX8_read 4 .int k [.ref (G.1 0), .int x1, .int x2, .int x3] σ Q := by
  refine enter hS (by decide +kernel) (Nat.le_of_ble_eq_true rfl) (lv := [(0, .ref (G.1 0)), (1, .int x1), (2, .int x2), (3, .int x3)]) rfl (fun K hl hC => ?_)
  subst hl
  unfold wX8_read at h
  show V YM G K (Zi YM G K Q) 4 σ 0 [(0, .ref (G.1 0)), (1, .int x1), (2, .int x2), (3, .int x3)] []
  refine r_aload_n hC 0 dX8_read_0 (rfl : 0 + 1 = 1) rfl rfl ?_
  refine r_iload_n hC 1 dX8_read_1 (rfl : 1 + 1 = 2) rfl rfl ?_
  refine r_callVi hC cs_X8_246 rfl (by omega) (mX8_has hC.2.2.2.2.2.2.2.2.1 (k := k - 1) (by omega) x1 σ _ h) rfl rfl (Nat.le_of_ble_eq_true rfl) dX8_read_2 (rfl : 2 + 3 = 5) (fun r_2 σ_1 h => ?_)
  refine r_if_eq hC dX8_read_5 (rfl : 5 + 3 = 8) (tgt := 38) (by decide) (fun q => ?_) (fun q => ?_)
  · replace h := if_t h q
    refine r_ldcw hC dX8_read_38 (rfl : 38 + 3 = 41) wd_980 ?_
    exact r_iret hC rfl h dX8_read_41
  · replace h := if_f h q
    refine r_iload_n hC 2 dX8_read_8 (rfl : 8 + 1 = 9) rfl rfl ?_
    refine r_i2l hC dX8_read_9 (rfl : 9 + 1 = 10) ?_
    refine r_lconst hC dX8_read_10 (rfl : 10 + 1 = 11) (v := 0) (by decide) ?_
    refine r_aload_n hC 0 dX8_read_11 (rfl : 11 + 1 = 12) rfl rfl ?_
    refine r_getr hC 0 7 12 7 (o := 7) fw_X8_28 rfl rfl dX8_read_12 (rfl : 12 + 3 = 15) ?_
    refine r_iload_n hC 1 dX8_read_15 (rfl : 15 + 1 = 16) rfl rfl ?_
    obtain ⟨q_3, h⟩ := h
    refine r_iald hC 7 rfl q_3 dX8_read_16 (rfl : 16 + 1 = 17) ?_
    refine r_iconst hC dX8_read_17 (rfl : 17 + 1 = 18) (v := 1) (by decide) ?_
    refine r_isub hC dX8_read_18 (rfl : 18 + 1 = 19) ?_
    refine r_i2l hC dX8_read_19 (rfl : 19 + 1 = 20) ?_
    refine r_callSi hC cs_X8_177 (by omega) (mX8_in hC.2.2.2.2.2.2.2.2.1 (k := k - 1) (by omega) (Int32.toInt64 x2) 0 (Int32.toInt64 ((σ_1.1 7 (Int32.toNatClampNeg x1)) - 1)) σ_1 _ h) rfl rfl (Nat.le_of_ble_eq_true rfl) dX8_read_20 (rfl : 20 + 3 = 23) (fun r_5 σ_4 h => ?_)
    refine r_if_eq hC dX8_read_23 (rfl : 23 + 3 = 26) (tgt := 38) (by decide) (fun q => ?_) (fun q => ?_)
    · replace h := if_t h q
      refine r_ldcw hC dX8_read_38 (rfl : 38 + 3 = 41) wd_980 ?_
      exact r_iret hC rfl h dX8_read_41
    · replace h := if_f h q
      refine r_iload_n hC 3 dX8_read_26 (rfl : 26 + 1 = 27) rfl rfl ?_
      refine r_i2l hC dX8_read_27 (rfl : 27 + 1 = 28) ?_
      refine r_lconst hC dX8_read_28 (rfl : 28 + 1 = 29) (v := 0) (by decide) ?_
      refine r_ldc2 hC dX8_read_29 (rfl : 29 + 3 = 32) wd_939 ?_
      refine r_callSi hC cs_X8_177 (by omega) (mX8_in hC.2.2.2.2.2.2.2.2.1 (k := k - 1) (by omega) (Int32.toInt64 x3) 0 2 σ_4 _ h) rfl rfl (Nat.le_of_ble_eq_true rfl) dX8_read_32 (rfl : 32 + 3 = 35) (fun r_7 σ_6 h => ?_)
      refine r_if_ne hC dX8_read_35 (rfl : 35 + 3 = 38) (tgt := 42) (by decide) (fun q => ?_) (fun q => ?_)
      · replace h := if_f h q
        refine r_aload_n hC 0 dX8_read_42 (rfl : 42 + 1 = 43) rfl rfl ?_
        refine r_iload_n hC 1 dX8_read_43 (rfl : 43 + 1 = 44) rfl rfl ?_
        refine r_callVv hC cs_X8_198 rfl (by omega) (mX8_take hC.2.2.2.2.2.2.2.2.1 (k := k - 1) (by omega) x1 σ_6 _ h) rfl rfl (Nat.le_of_ble_eq_true rfl) dX8_read_44 (rfl : 44 + 3 = 47) (fun  σ_8 h => ?_)
        refine r_iload_n hC 3 dX8_read_47 (rfl : 47 + 1 = 48) rfl rfl ?_
        refine r_if_ne hC dX8_read_48 (rfl : 48 + 3 = 51) (tgt := 60) (by decide) (fun q => ?_) (fun q => ?_)
        · replace h := if_f h q
          refine r_iload_n hC 3 dX8_read_60 (rfl : 60 + 1 = 61) rfl rfl ?_
          refine r_iconst hC dX8_read_61 (rfl : 61 + 1 = 62) (v := 1) (by decide) ?_
          refine r_icmp_ne hC dX8_read_62 (rfl : 62 + 3 = 65) (tgt := 74) (by decide) (fun q => ?_) (fun q => ?_)
          · replace h := if_f h q
            refine r_aload_n hC 0 dX8_read_74 (rfl : 74 + 1 = 75) rfl rfl ?_
            refine r_iload_n hC 2 dX8_read_75 (rfl : 75 + 1 = 76) rfl rfl ?_
            refine r_callVi hC cs_X8_262 rfl (by omega) (mX8_endOf hC.2.2.2.2.2.2.2.2.1 (k := k - 1) (by omega) x2 σ_8 _ h) rfl rfl (Nat.le_of_ble_eq_true rfl) dX8_read_76 (rfl : 76 + 3 = 79) (fun r_10 σ_9 h => ?_)
            refine r_iload_n hC 2 dX8_read_79 (rfl : 79 + 1 = 80) rfl rfl ?_
            refine r_isub hC dX8_read_80 (rfl : 80 + 1 = 81) ?_
            exact r_iret hC rfl h dX8_read_81
          · replace h := if_t h q
            refine r_aload_n hC 0 dX8_read_65 (rfl : 65 + 1 = 66) rfl rfl ?_
            refine r_getr hC 0 7 16 11 (o := 11) fw_X8_40 rfl rfl dX8_read_66 (rfl : 66 + 3 = 69) ?_
            refine r_iload_n hC 2 dX8_read_69 (rfl : 69 + 1 = 70) rfl rfl ?_
            obtain ⟨q_11, h⟩ := h
            refine r_iald hC 11 rfl q_11 dX8_read_70 (rfl : 70 + 1 = 71) ?_
            refine r_goto hC dX8_read_71 (tgt := 81) (by decide) ?_
            exact r_iret hC rfl h dX8_read_81
        · replace h := if_t h q
          refine r_aload_n hC 0 dX8_read_51 (rfl : 51 + 1 = 52) rfl rfl ?_
          refine r_getr hC 0 7 15 10 (o := 10) fw_X8_37 rfl rfl dX8_read_52 (rfl : 52 + 3 = 55) ?_
          refine r_iload_n hC 2 dX8_read_55 (rfl : 55 + 1 = 56) rfl rfl ?_
          obtain ⟨q_12, h⟩ := h
          refine r_iald hC 10 rfl q_12 dX8_read_56 (rfl : 56 + 1 = 57) ?_
          refine r_goto hC dX8_read_57 (tgt := 81) (by decide) ?_
          exact r_iret hC rfl h dX8_read_81
      · replace h := if_t h q
        refine r_ldcw hC dX8_read_38 (rfl : 38 + 3 = 41) wd_980 ?_
        exact r_iret hC rfl h dX8_read_41
set_option maxHeartbeats 1000000 in
set_option maxRecDepth 100000 in
theorem mX8_value {G : Gx} {b k : Nat} {l : Launch} (hS : Sok YM G) (d : Nat) (hk : 1 * d + 4 ≤ k) (x1 : Int32) (x2 : Int32) (x3 : Int32) (σ : Sg) (Q : Int32 → Sg → Prop) (h : wX8_value d x1 x2 x3 σ Q) : Mi YM G b l yX8_value cX8_value 5 .int k [.ref (G.1 0), .int x1, .int x2, .int x3] σ Q := by
  refine enter hS (by decide +kernel) (Nat.le_of_ble_eq_true rfl) (lv := [(0, .ref (G.1 0)), (1, .int x1), (2, .int x2), (3, .int x3)]) rfl (fun K hl hC => ?_)
  subst hl
  unfold wX8_value at h
  show V YM G K (Zi YM G K Q) 5 σ 0 [(0, .ref (G.1 0)), (1, .int x1), (2, .int x2), (3, .int x3)] []
  refine r_aload_n hC 0 dX8_value_0 (rfl : 0 + 1 = 1) rfl rfl ?_
  refine r_iload_n hC 1 dX8_value_1 (rfl : 1 + 1 = 2) rfl rfl ?_
  refine r_callVi hC cs_X8_246 rfl (by omega) (mX8_has hC.2.2.2.2.2.2.2.2.1 (k := k - 1) (by omega) x1 σ _ h) rfl rfl (Nat.le_of_ble_eq_true rfl) dX8_value_2 (rfl : 2 + 3 = 5) (fun r_2 σ_1 h => ?_)
  refine r_if_ne hC dX8_value_5 (rfl : 5 + 3 = 8) (tgt := 12) (by decide) (fun q => ?_) (fun q => ?_)
  · replace h := if_f h q
    refine r_aload_n hC 0 dX8_value_12 (rfl : 12 + 1 = 13) rfl rfl ?_
    refine r_aload_n hC 0 dX8_value_13 (rfl : 13 + 1 = 14) rfl rfl ?_
    refine r_iload_n hC 1 dX8_value_14 (rfl : 14 + 1 = 15) rfl rfl ?_
    refine r_callVi hC cs_X8_265 rfl (by omega) (mX8_treeOf hC.2.2.2.2.2.2.2.2.1 d (k := k - 1) (by omega) x1 σ_1 _ h) rfl rfl (Nat.le_of_ble_eq_true rfl) dX8_value_15 (rfl : 15 + 3 = 18) (fun r_4 σ_3 h => ?_)
    refine r_iload_n hC 2 dX8_value_18 (rfl : 18 + 1 = 19) rfl rfl ?_
    refine r_iload_n hC 3 dX8_value_19 (rfl : 19 + 1 = 20) rfl rfl ?_
    refine r_callVi hC cs_X8_118 rfl (by omega) (mX8_valueOf hC.2.2.2.2.2.2.2.2.1 d (k := k - 1) (by omega) r_4 x2 x3 σ_3 _ h) rfl rfl (Nat.le_of_ble_eq_true rfl) dX8_value_20 (rfl : 20 + 3 = 23) (fun r_6 σ_5 h => ?_)
    refine r_istore hC dX8_value_23 (rfl : 23 + 2 = 25) (by decide) rfl (lv2 := [(4, .int r_6), (0, .ref (G.1 0)), (1, .int x1), (2, .int x2), (3, .int x3)]) rfl ?_
    refine r_aload_n hC 1 dX8_value_25 (rfl : 25 + 1 = 26) rfl rfl ?_
    refine r_geti hC 0 7 8 fw_X8_104 rfl dX8_value_26 (rfl : 26 + 3 = 29) ?_
    refine r_if_eq hC dX8_value_29 (rfl : 29 + 3 = 32) (tgt := 38) (by decide) (fun q => ?_) (fun q => ?_)
    · replace h := if_t h q
      refine r_iload hC 0 dX8_value_38 (rfl : 38 + 2 = 40) rfl ?_
      exact r_iret hC rfl h dX8_value_40
    · replace h := if_f h q
      refine r_ldcw hC dX8_value_32 (rfl : 32 + 3 = 35) wd_980 ?_
      refine r_goto hC dX8_value_35 (tgt := 40) (by decide) ?_
      exact r_iret hC rfl h dX8_value_40
  · replace h := if_t h q
    refine r_ldcw hC dX8_value_8 (rfl : 8 + 3 = 11) wd_980 ?_
    exact r_iret hC rfl h dX8_value_11
set_option maxHeartbeats 1000000 in
set_option maxRecDepth 100000 in
theorem sX8_safe_20 {G : Gx} {b k : Nat} {K : Kx} {l : Launch} (hl : K.2.1 = l) (hC : Cx YM G b K cX8_safe RX8 3 (some .int) k) (d : Nat) (hk : 1 * d + 4 ≤ k)  (Q : Int32 → Sg → Prop)   (σ : Sg) (h : wX8_safe_20 d  σ Q) : V YM G K (Zi YM G K Q) 3 σ 20 [] [] := by
  subst hl
  unfold wX8_safe_20 at h
  refine r_iconst hC dX8_safe_20 (rfl : 20 + 1 = 21) (v := -1) (by decide) ?_
  refine r_goto hC dX8_safe_21 (tgt := 42) (by decide) ?_
  exact r_iret hC rfl h dX8_safe_42
set_option maxHeartbeats 1000000 in
set_option maxRecDepth 100000 in
theorem mX8_safe {G : Gx} {b k : Nat} {l : Launch} (hS : Sok YM G) (d : Nat) (hk : 1 * d + 4 ≤ k) (x1 : Int32) (x2 : Int32) (σ : Sg) (Q : Int32 → Sg → Prop) (h : wX8_safe d x1 x2 σ Q) : Mi YM G b l yX8_safe cX8_safe 3 .int k [.ref (G.1 0), .int x1, .int x2] σ Q := by
  refine enter hS (by decide +kernel) (Nat.le_of_ble_eq_true rfl) (lv := [(0, .ref (G.1 0)), (1, .int x1), (2, .int x2)]) rfl (fun K hl hC => ?_)
  subst hl
  unfold wX8_safe at h
  show V YM G K (Zi YM G K Q) 3 σ 0 [(0, .ref (G.1 0)), (1, .int x1), (2, .int x2)] []
  refine r_aload_n hC 0 dX8_safe_0 (rfl : 0 + 1 = 1) rfl rfl ?_
  refine r_iload_n hC 1 dX8_safe_1 (rfl : 1 + 1 = 2) rfl rfl ?_
  refine r_callVi hC cs_X8_246 rfl (by omega) (mX8_has hC.2.2.2.2.2.2.2.2.1 (k := k - 1) (by omega) x1 σ _ h) rfl rfl (Nat.le_of_ble_eq_true rfl) dX8_safe_2 (rfl : 2 + 3 = 5) (fun r_2 σ_1 h => ?_)
  refine r_if_eq hC dX8_safe_5 (rfl : 5 + 3 = 8) (tgt := 20) (by decide) (fun q => ?_) (fun q => ?_)
  · replace h := if_t h q
    exact (sX8_safe_20 rfl hC d hk  Q   σ_1 h).sub [] rfl
  · replace h := if_f h q
    refine r_iload_n hC 2 dX8_safe_8 (rfl : 8 + 1 = 9) rfl rfl ?_
    refine r_i2l hC dX8_safe_9 (rfl : 9 + 1 = 10) ?_
    refine r_lconst hC dX8_safe_10 (rfl : 10 + 1 = 11) (v := 0) (by decide) ?_
    refine r_ldc2 hC dX8_safe_11 (rfl : 11 + 3 = 14) wd_1008 ?_
    refine r_callSi hC cs_X8_177 (by omega) (mX8_in hC.2.2.2.2.2.2.2.2.1 (k := k - 1) (by omega) (Int32.toInt64 x2) 0 6 σ_1 _ h) rfl rfl (Nat.le_of_ble_eq_true rfl) dX8_safe_14 (rfl : 14 + 3 = 17) (fun r_4 σ_3 h => ?_)
    refine r_if_ne hC dX8_safe_17 (rfl : 17 + 3 = 20) (tgt := 24) (by decide) (fun q => ?_) (fun q => ?_)
    · replace h := if_f h q
      refine r_aload_n hC 0 dX8_safe_24 (rfl : 24 + 1 = 25) rfl rfl ?_
      refine r_aload_n hC 0 dX8_safe_25 (rfl : 25 + 1 = 26) rfl rfl ?_
      refine r_iload_n hC 1 dX8_safe_26 (rfl : 26 + 1 = 27) rfl rfl ?_
      refine r_callVi hC cs_X8_265 rfl (by omega) (mX8_treeOf hC.2.2.2.2.2.2.2.2.1 d (k := k - 1) (by omega) x1 σ_3 _ h) rfl rfl (Nat.le_of_ble_eq_true rfl) dX8_safe_27 (rfl : 27 + 3 = 30) (fun r_6 σ_5 h => ?_)
      refine r_iload_n hC 2 dX8_safe_30 (rfl : 30 + 1 = 31) rfl rfl ?_
      refine r_callVi hC cs_X8_270 rfl (by omega) (mX8_isSafe hC.2.2.2.2.2.2.2.2.1 d (k := k - 1) (by omega) r_6 x2 σ_5 _ h) rfl rfl (Nat.le_of_ble_eq_true rfl) dX8_safe_31 (rfl : 31 + 3 = 34) (fun r_8 σ_7 h => ?_)
      refine r_if_eq hC dX8_safe_34 (rfl : 34 + 3 = 37) (tgt := 41) (by decide) (fun q => ?_) (fun q => ?_)
      · replace h := if_t h q
        refine r_iconst hC dX8_safe_41 (rfl : 41 + 1 = 42) (v := 0) (by decide) ?_
        exact r_iret hC rfl h dX8_safe_42
      · replace h := if_f h q
        refine r_iconst hC dX8_safe_37 (rfl : 37 + 1 = 38) (v := 1) (by decide) ?_
        refine r_goto hC dX8_safe_38 (tgt := 42) (by decide) ?_
        exact r_iret hC rfl h dX8_safe_42
    · replace h := if_t h q
      exact (sX8_safe_20 rfl hC d hk  Q   σ_3 h).sub [] rfl
set_option maxHeartbeats 1000000 in
set_option maxRecDepth 100000 in
theorem mX8_shift {G : Gx} {b k : Nat} {l : Launch} (hS : Sok YM G)  (hk : 0 ≤ k) (x1 : Int32) (x2 : Int32) (σ : Sg) (Q : Sg → Prop) (h : wX8_shift  x1 x2 σ Q) : Mv YM G b l yX8_shift cX8_shift 3 k [.ref (G.1 0), .int x1, .int x2] σ Q := by
  refine enter hS (by decide +kernel) (Nat.le_of_ble_eq_true rfl) (lv := [(0, .ref (G.1 0)), (1, .int x1), (2, .int x2)]) rfl (fun K hl hC => ?_)
  subst hl
  unfold wX8_shift at h
  show V YM G K (Zv YM G K Q) 3 σ 0 [(0, .ref (G.1 0)), (1, .int x1), (2, .int x2)] []
  refine r_aload_n hC 0 dX8_shift_0 (rfl : 0 + 1 = 1) rfl rfl ?_
  refine r_getr hC 0 7 15 10 (o := 10) fw_X8_37 rfl rfl dX8_shift_1 (rfl : 1 + 3 = 4) ?_
  refine r_iload_n hC 2 dX8_shift_4 (rfl : 4 + 1 = 5) rfl rfl ?_
  refine r_aload_n hC 0 dX8_shift_5 (rfl : 5 + 1 = 6) rfl rfl ?_
  refine r_getr hC 0 7 15 10 (o := 10) fw_X8_37 rfl rfl dX8_shift_6 (rfl : 6 + 3 = 9) ?_
  refine r_iload_n hC 1 dX8_shift_9 (rfl : 9 + 1 = 10) rfl rfl ?_
  obtain ⟨q_1, h⟩ := h
  refine r_iald hC 10 rfl q_1 dX8_shift_10 (rfl : 10 + 1 = 11) ?_
  obtain ⟨q_2, h⟩ := h
  obtain ⟨σ_3, e_4, h⟩ := lt_nm h
  refine r_iast hC 10 rfl q_2 e_4 dX8_shift_11 (rfl : 11 + 1 = 12) ?_
  refine r_aload_n hC 0 dX8_shift_12 (rfl : 12 + 1 = 13) rfl rfl ?_
  refine r_getr hC 0 7 16 11 (o := 11) fw_X8_40 rfl rfl dX8_shift_13 (rfl : 13 + 3 = 16) ?_
  refine r_iload_n hC 2 dX8_shift_16 (rfl : 16 + 1 = 17) rfl rfl ?_
  refine r_aload_n hC 0 dX8_shift_17 (rfl : 17 + 1 = 18) rfl rfl ?_
  refine r_getr hC 0 7 16 11 (o := 11) fw_X8_40 rfl rfl dX8_shift_18 (rfl : 18 + 3 = 21) ?_
  refine r_iload_n hC 1 dX8_shift_21 (rfl : 21 + 1 = 22) rfl rfl ?_
  refine r_iald hC 11 rfl q_1 dX8_shift_22 (rfl : 22 + 1 = 23) ?_
  obtain ⟨σ_5, e_6, h⟩ := lt_nm h
  refine r_iast hC 11 rfl q_2 e_6 dX8_shift_23 (rfl : 23 + 1 = 24) ?_
  exact r_vret hC rfl h dX8_shift_24
set_option maxHeartbeats 1000000 in
set_option maxRecDepth 100000 in
theorem sX8_spare_2 {G : Gx} {b k : Nat} {K : Kx} {l : Launch} (hl : K.2.1 = l) (hC : Cx YM G b K cX8_spare RX8 4 none k)  (hk : 0 ≤ k)  (Q : Sg → Prop)  : ∀ (n : Nat) (x1 : Int32) (x2 : Int32) (x3 : Int32) (σ : Sg), wX8_spare_2  Q n x1 x2 x3 σ → V YM G K (Zv YM G K Q) 4 σ 2 [(0, .ref (G.1 0)), (1, .int x1), (2, .int x2), (3, .int x3)] [] := by
  subst hl
  intro n
  induction n with
  | zero =>
    intro x1 x2 x3 σ h
    exact h.elim
  | succ n ih =>
    intro x1 x2 x3 σ h
    have h : wX8_spare_2_b  (wX8_spare_2  Q n) x1 x2 x3 σ Q := h
    unfold wX8_spare_2_b at h
    refine r_iload_n hC 3 dX8_spare_2 (rfl : 2 + 1 = 3) rfl rfl ?_
    refine r_iload_n hC 2 dX8_spare_3 (rfl : 3 + 1 = 4) rfl rfl ?_
    refine r_icmp_ge hC dX8_spare_4 (rfl : 4 + 3 = 7) (tgt := 41) (by decide) (fun q => ?_) (fun q => ?_)
    · replace h := if_t h q
      exact r_vret hC rfl h dX8_spare_41
    · replace h := if_f h q
      refine r_aload_n hC 0 dX8_spare_7 (rfl : 7 + 1 = 8) rfl rfl ?_
      refine r_getr hC 0 7 25 16 (o := 16) fw_X8_56 rfl rfl dX8_spare_8 (rfl : 8 + 3 = 11) ?_
      refine r_iload_n hC 3 dX8_spare_11 (rfl : 11 + 1 = 12) rfl rfl ?_
      refine r_iload_n hC 1 dX8_spare_12 (rfl : 12 + 1 = 13) rfl rfl ?_
      refine r_isub hC dX8_spare_13 (rfl : 13 + 1 = 14) ?_
      refine r_aload_n hC 0 dX8_spare_14 (rfl : 14 + 1 = 15) rfl rfl ?_
      refine r_getr hC 0 7 15 10 (o := 10) fw_X8_37 rfl rfl dX8_spare_15 (rfl : 15 + 3 = 18) ?_
      refine r_iload_n hC 3 dX8_spare_18 (rfl : 18 + 1 = 19) rfl rfl ?_
      obtain ⟨q_1, h⟩ := h
      refine r_iald hC 10 rfl q_1 dX8_spare_19 (rfl : 19 + 1 = 20) ?_
      obtain ⟨q_2, h⟩ := h
      obtain ⟨σ_3, e_4, h⟩ := lt_nm h
      refine r_iast hC 16 rfl q_2 e_4 dX8_spare_20 (rfl : 20 + 1 = 21) ?_
      refine r_aload_n hC 0 dX8_spare_21 (rfl : 21 + 1 = 22) rfl rfl ?_
      refine r_getr hC 0 7 26 17 (o := 17) fw_X8_59 rfl rfl dX8_spare_22 (rfl : 22 + 3 = 25) ?_
      refine r_iload_n hC 3 dX8_spare_25 (rfl : 25 + 1 = 26) rfl rfl ?_
      refine r_iload_n hC 1 dX8_spare_26 (rfl : 26 + 1 = 27) rfl rfl ?_
      refine r_isub hC dX8_spare_27 (rfl : 27 + 1 = 28) ?_
      refine r_aload_n hC 0 dX8_spare_28 (rfl : 28 + 1 = 29) rfl rfl ?_
      refine r_getr hC 0 7 16 11 (o := 11) fw_X8_40 rfl rfl dX8_spare_29 (rfl : 29 + 3 = 32) ?_
      refine r_iload_n hC 3 dX8_spare_32 (rfl : 32 + 1 = 33) rfl rfl ?_
      refine r_iald hC 11 rfl q_1 dX8_spare_33 (rfl : 33 + 1 = 34) ?_
      obtain ⟨σ_5, e_6, h⟩ := lt_nm h
      refine r_iast hC 17 rfl q_2 e_6 dX8_spare_34 (rfl : 34 + 1 = 35) ?_
      obtain ⟨x3_7, e_8, h⟩ := lt_nm h
      refine r_iinc hC (j := 3) dX8_spare_35 (rfl : 35 + 3 = 38) rfl (zz := 1) (by decide) e_8 (by decide) (lv2 := [(3, .int x3_7), (0, .ref (G.1 0)), (1, .int x1), (2, .int x2)]) rfl ?_
      refine r_goto hC dX8_spare_38 (tgt := 2) (by decide) ?_
      exact (ih x1 x2 x3_7 σ_5 h).sub [1, 2, 3, 0] rfl
set_option maxHeartbeats 1000000 in
set_option maxRecDepth 100000 in
theorem mX8_spare {G : Gx} {b k : Nat} {l : Launch} (hS : Sok YM G)  (hk : 0 ≤ k) (x1 : Int32) (x2 : Int32) (σ : Sg) (Q : Sg → Prop) (h : wX8_spare  x1 x2 σ Q) : Mv YM G b l yX8_spare cX8_spare 4 k [.ref (G.1 0), .int x1, .int x2] σ Q := by
  refine enter hS (by decide +kernel) (Nat.le_of_ble_eq_true rfl) (lv := [(0, .ref (G.1 0)), (1, .int x1), (2, .int x2)]) rfl (fun K hl hC => ?_)
  subst hl
  unfold wX8_spare at h
  show V YM G K (Zv YM G K Q) 4 σ 0 [(0, .ref (G.1 0)), (1, .int x1), (2, .int x2)] []
  refine r_iload_n hC 1 dX8_spare_0 (rfl : 0 + 1 = 1) rfl rfl ?_
  refine r_istore_n hC dX8_spare_1 (rfl : 1 + 1 = 2) rfl (by decide) rfl (lv2 := [(3, .int x1), (0, .ref (G.1 0)), (1, .int x1), (2, .int x2)]) rfl ?_
  obtain ⟨nn, h⟩ := h
  exact (sX8_spare_2 rfl hC hk  Q  nn x1 x2 x1 σ h).sub [1, 2, 3, 0] rfl
set_option maxHeartbeats 1000000 in
set_option maxRecDepth 100000 in
theorem mX8_isMaker {G : Gx} {b k : Nat} {l : Launch} (hS : Sok YM G)  (hk : 1 ≤ k) (x1 : Int32) (σ : Sg) (Q : Int32 → Sg → Prop) (h : wX8_isMaker  x1 σ Q) : Mi YM G b l yX8_isMaker cX8_isMaker 2 .boolean k [.ref (G.1 0), .int x1] σ Q := by
  refine enter hS (by decide +kernel) (Nat.le_of_ble_eq_true rfl) (lv := [(0, .ref (G.1 0)), (1, .int x1)]) rfl (fun K hl hC => ?_)
  subst hl
  unfold wX8_isMaker at h
  show V YM G K (Zi YM G K Q) 2 σ 0 [(0, .ref (G.1 0)), (1, .int x1)] []
  refine r_iload_n hC 1 dX8_isMaker_0 (rfl : 0 + 1 = 1) rfl rfl ?_
  refine r_i2l hC dX8_isMaker_1 (rfl : 1 + 1 = 2) ?_
  refine r_lconst hC dX8_isMaker_2 (rfl : 2 + 1 = 3) (v := 0) (by decide) ?_
  refine r_aload_n hC 0 dX8_isMaker_3 (rfl : 3 + 1 = 4) rfl rfl ?_
  refine r_geti hC 0 7 27 fw_X8_283 rfl dX8_isMaker_4 (rfl : 4 + 3 = 7) ?_
  refine r_iconst hC dX8_isMaker_7 (rfl : 7 + 1 = 8) (v := 1) (by decide) ?_
  refine r_isub hC dX8_isMaker_8 (rfl : 8 + 1 = 9) ?_
  refine r_i2l hC dX8_isMaker_9 (rfl : 9 + 1 = 10) ?_
  refine r_callSi hC cs_X8_177 (by omega) (mX8_in hC.2.2.2.2.2.2.2.2.1 (k := k - 1) (by omega) (Int32.toInt64 x1) 0 (Int32.toInt64 ((σ.1 0 27) - 1)) σ _ h) rfl rfl (Nat.le_of_ble_eq_true rfl) dX8_isMaker_10 (rfl : 10 + 3 = 13) (fun r_2 σ_1 h => ?_)
  obtain ⟨q_3, h⟩ := h
  exact r_zret hC rfl q_3 h dX8_isMaker_13
set_option maxHeartbeats 1000000 in
set_option maxRecDepth 100000 in
theorem mX8_isTurn {G : Gx} {b k : Nat} {l : Launch} (hS : Sok YM G)  (hk : 2 ≤ k) (x1 : Int32) (x2 : Int32) (σ : Sg) (Q : Int32 → Sg → Prop) (h : wX8_isTurn  x1 x2 σ Q) : Mi YM G b l yX8_isTurn cX8_isTurn 3 .boolean k [.ref (G.1 0), .int x1, .int x2] σ Q := by
  refine enter hS (by decide +kernel) (Nat.le_of_ble_eq_true rfl) (lv := [(0, .ref (G.1 0)), (1, .int x1), (2, .int x2)]) rfl (fun K hl hC => ?_)
  subst hl
  unfold wX8_isTurn at h
  show V YM G K (Zi YM G K Q) 3 σ 0 [(0, .ref (G.1 0)), (1, .int x1), (2, .int x2)] []
  refine r_aload_n hC 0 dX8_isTurn_0 (rfl : 0 + 1 = 1) rfl rfl ?_
  refine r_iload_n hC 1 dX8_isTurn_1 (rfl : 1 + 1 = 2) rfl rfl ?_
  refine r_callVi hC cs_X8_286 rfl (by omega) (mX8_isMaker hC.2.2.2.2.2.2.2.2.1 (k := k - 1) (by omega) x1 σ _ h) rfl rfl (Nat.le_of_ble_eq_true rfl) dX8_isTurn_2 (rfl : 2 + 3 = 5) (fun r_2 σ_1 h => ?_)
  refine r_if_eq hC dX8_isTurn_5 (rfl : 5 + 3 = 8) (tgt := 30) (by decide) (fun q => ?_) (fun q => ?_)
  · replace h := if_t h q
    refine r_iconst hC dX8_isTurn_30 (rfl : 30 + 1 = 31) (v := 0) (by decide) ?_
    exact r_zret hC rfl (by decide) h dX8_isTurn_31
  · replace h := if_f h q
    refine r_iload_n hC 2 dX8_isTurn_8 (rfl : 8 + 1 = 9) rfl rfl ?_
    refine r_i2l hC dX8_isTurn_9 (rfl : 9 + 1 = 10) ?_
    refine r_lconst hC dX8_isTurn_10 (rfl : 10 + 1 = 11) (v := 0) (by decide) ?_
    refine r_aload_n hC 0 dX8_isTurn_11 (rfl : 11 + 1 = 12) rfl rfl ?_
    refine r_getr hC 0 7 28 18 (o := 18) fw_X8_62 rfl rfl dX8_isTurn_12 (rfl : 12 + 3 = 15) ?_
    refine r_iload_n hC 1 dX8_isTurn_15 (rfl : 15 + 1 = 16) rfl rfl ?_
    obtain ⟨q_3, h⟩ := h
    refine r_iald hC 18 rfl q_3 dX8_isTurn_16 (rfl : 16 + 1 = 17) ?_
    refine r_iconst hC dX8_isTurn_17 (rfl : 17 + 1 = 18) (v := 1) (by decide) ?_
    refine r_isub hC dX8_isTurn_18 (rfl : 18 + 1 = 19) ?_
    refine r_i2l hC dX8_isTurn_19 (rfl : 19 + 1 = 20) ?_
    refine r_callSi hC cs_X8_177 (by omega) (mX8_in hC.2.2.2.2.2.2.2.2.1 (k := k - 1) (by omega) (Int32.toInt64 x2) 0 (Int32.toInt64 ((σ_1.1 18 (Int32.toNatClampNeg x1)) - 1)) σ_1 _ h) rfl rfl (Nat.le_of_ble_eq_true rfl) dX8_isTurn_20 (rfl : 20 + 3 = 23) (fun r_5 σ_4 h => ?_)
    refine r_if_eq hC dX8_isTurn_23 (rfl : 23 + 3 = 26) (tgt := 30) (by decide) (fun q => ?_) (fun q => ?_)
    · replace h := if_t h q
      refine r_iconst hC dX8_isTurn_30 (rfl : 30 + 1 = 31) (v := 0) (by decide) ?_
      exact r_zret hC rfl (by decide) h dX8_isTurn_31
    · replace h := if_f h q
      refine r_iconst hC dX8_isTurn_26 (rfl : 26 + 1 = 27) (v := 1) (by decide) ?_
      refine r_goto hC dX8_isTurn_27 (tgt := 31) (by decide) ?_
      exact r_zret hC rfl (by decide) h dX8_isTurn_31
set_option maxHeartbeats 1000000 in
set_option maxRecDepth 100000 in
theorem mX8_maker {G : Gx} {b k : Nat} {l : Launch} (hS : Sok YM G)  (hk : 0 ≤ k)  (σ : Sg) (Q : Int32 → Sg → Prop) (h : wX8_maker   σ Q) : Mi YM G b l yX8_maker cX8_maker 1 .int k [.ref (G.1 0)] σ Q := by
  refine enter hS (by decide +kernel) (Nat.le_of_ble_eq_true rfl) (lv := [(0, .ref (G.1 0))]) rfl (fun K hl hC => ?_)
  subst hl
  unfold wX8_maker at h
  show V YM G K (Zi YM G K Q) 1 σ 0 [(0, .ref (G.1 0))] []
  refine r_aload_n hC 0 dX8_maker_0 (rfl : 0 + 1 = 1) rfl rfl ?_
  refine r_geti hC 0 7 27 fw_X8_283 rfl dX8_maker_1 (rfl : 1 + 3 = 4) ?_
  refine r_bipush hC dX8_maker_4 (rfl : 4 + 2 = 6) (v := 8) (by decide) ?_
  refine r_icmp_ne hC dX8_maker_6 (rfl : 6 + 3 = 9) (tgt := 12) (by decide) (fun q => ?_) (fun q => ?_)
  · replace h := if_f h q
    refine r_aload_n hC 0 dX8_maker_12 (rfl : 12 + 1 = 13) rfl rfl ?_
    refine r_dup hC dX8_maker_13 (rfl : 13 + 1 = 14) rfl ?_
    refine r_geti hC 0 7 27 fw_X8_283 rfl dX8_maker_14 (rfl : 14 + 3 = 17) ?_
    refine r_iconst hC dX8_maker_17 (rfl : 17 + 1 = 18) (v := 1) (by decide) ?_
    refine r_iadd hC dX8_maker_18 (rfl : 18 + 1 = 19) ?_
    obtain ⟨σ_1, e_2, h⟩ := lt_nm h
    refine r_puti hC 0 7 27 fw_X8_283 fp_8_27 rfl e_2 dX8_maker_19 (rfl : 19 + 3 = 22) ?_
    refine r_aload_n hC 0 dX8_maker_22 (rfl : 22 + 1 = 23) rfl rfl ?_
    refine r_geti hC 0 7 27 fw_X8_283 rfl dX8_maker_23 (rfl : 23 + 3 = 26) ?_
    refine r_iconst hC dX8_maker_26 (rfl : 26 + 1 = 27) (v := 1) (by decide) ?_
    refine r_isub hC dX8_maker_27 (rfl : 27 + 1 = 28) ?_
    exact r_iret hC rfl h dX8_maker_28
  · replace h := if_t h q
    refine r_bipush hC dX8_maker_9 (rfl : 9 + 2 = 11) (v := -3) (by decide) ?_
    exact r_iret hC rfl h dX8_maker_11
set_option maxHeartbeats 1000000 in
set_option maxRecDepth 100000 in
theorem mX8_turn {G : Gx} {b k : Nat} {l : Launch} (hS : Sok YM G)  (hk : 2 ≤ k) (x1 : Int32) (x2 : Int32) (x3 : Int32) (σ : Sg) (Q : Int32 → Sg → Prop) (h : wX8_turn  x1 x2 x3 σ Q) : Mi YM G b l yX8_turn cX8_turn 4 .int k [.ref (G.1 0), .int x1, .int x2, .int x3] σ Q := by
  refine enter hS (by decide +kernel) (Nat.le_of_ble_eq_true rfl) (lv := [(0, .ref (G.1 0)), (1, .int x1), (2, .int x2), (3, .int x3)]) rfl (fun K hl hC => ?_)
  subst hl
  unfold wX8_turn at h
  show V YM G K (Zi YM G K Q) 4 σ 0 [(0, .ref (G.1 0)), (1, .int x1), (2, .int x2), (3, .int x3)] []
  refine r_aload_n hC 0 dX8_turn_0 (rfl : 0 + 1 = 1) rfl rfl ?_
  refine r_iload_n hC 1 dX8_turn_1 (rfl : 1 + 1 = 2) rfl rfl ?_
  refine r_callVi hC cs_X8_286 rfl (by omega) (mX8_isMaker hC.2.2.2.2.2.2.2.2.1 (k := k - 1) (by omega) x1 σ _ h) rfl rfl (Nat.le_of_ble_eq_true rfl) dX8_turn_2 (rfl : 2 + 3 = 5) (fun r_2 σ_1 h => ?_)
  refine r_if_eq hC dX8_turn_5 (rfl : 5 + 3 = 8) (tgt := 32) (by decide) (fun q => ?_) (fun q => ?_)
  · replace h := if_t h q
    refine r_iconst hC dX8_turn_32 (rfl : 32 + 1 = 33) (v := -1) (by decide) ?_
    exact r_iret hC rfl h dX8_turn_33
  · replace h := if_f h q
    refine r_iload_n hC 2 dX8_turn_8 (rfl : 8 + 1 = 9) rfl rfl ?_
    refine r_i2l hC dX8_turn_9 (rfl : 9 + 1 = 10) ?_
    refine r_lconst hC dX8_turn_10 (rfl : 10 + 1 = 11) (v := 0) (by decide) ?_
    refine r_ldc2 hC dX8_turn_11 (rfl : 11 + 3 = 14) wd_1008 ?_
    refine r_callSi hC cs_X8_177 (by omega) (mX8_in hC.2.2.2.2.2.2.2.2.1 (k := k - 1) (by omega) (Int32.toInt64 x2) 0 6 σ_1 _ h) rfl rfl (Nat.le_of_ble_eq_true rfl) dX8_turn_14 (rfl : 14 + 3 = 17) (fun r_4 σ_3 h => ?_)
    refine r_if_eq hC dX8_turn_17 (rfl : 17 + 3 = 20) (tgt := 32) (by decide) (fun q => ?_) (fun q => ?_)
    · replace h := if_t h q
      refine r_iconst hC dX8_turn_32 (rfl : 32 + 1 = 33) (v := -1) (by decide) ?_
      exact r_iret hC rfl h dX8_turn_33
    · replace h := if_f h q
      refine r_iload_n hC 3 dX8_turn_20 (rfl : 20 + 1 = 21) rfl rfl ?_
      refine r_i2l hC dX8_turn_21 (rfl : 21 + 1 = 22) ?_
      refine r_lconst hC dX8_turn_22 (rfl : 22 + 1 = 23) (v := 0) (by decide) ?_
      refine r_ldc2 hC dX8_turn_23 (rfl : 23 + 3 = 26) wd_939 ?_
      refine r_callSi hC cs_X8_177 (by omega) (mX8_in hC.2.2.2.2.2.2.2.2.1 (k := k - 1) (by omega) (Int32.toInt64 x3) 0 2 σ_3 _ h) rfl rfl (Nat.le_of_ble_eq_true rfl) dX8_turn_26 (rfl : 26 + 3 = 29) (fun r_6 σ_5 h => ?_)
      refine r_if_ne hC dX8_turn_29 (rfl : 29 + 3 = 32) (tgt := 34) (by decide) (fun q => ?_) (fun q => ?_)
      · replace h := if_f h q
        refine r_aload_n hC 0 dX8_turn_34 (rfl : 34 + 1 = 35) rfl rfl ?_
        refine r_getr hC 0 7 28 18 (o := 18) fw_X8_62 rfl rfl dX8_turn_35 (rfl : 35 + 3 = 38) ?_
        refine r_iload_n hC 1 dX8_turn_38 (rfl : 38 + 1 = 39) rfl rfl ?_
        obtain ⟨q_7, h⟩ := h
        refine r_iald hC 18 rfl q_7 dX8_turn_39 (rfl : 39 + 1 = 40) ?_
        refine r_bipush hC dX8_turn_40 (rfl : 40 + 2 = 42) (v := 10) (by decide) ?_
        refine r_icmp_ne hC dX8_turn_42 (rfl : 42 + 3 = 45) (tgt := 48) (by decide) (fun q => ?_) (fun q => ?_)
        · replace h := if_f h q
          refine r_aload_n hC 0 dX8_turn_48 (rfl : 48 + 1 = 49) rfl rfl ?_
          refine r_getr hC 0 7 29 19 (o := 19) fw_X8_65 rfl rfl dX8_turn_49 (rfl : 49 + 3 = 52) ?_
          refine r_bipush hC dX8_turn_52 (rfl : 52 + 2 = 54) (v := 10) (by decide) ?_
          refine r_iload_n hC 1 dX8_turn_54 (rfl : 54 + 1 = 55) rfl rfl ?_
          refine r_imul hC dX8_turn_55 (rfl : 55 + 1 = 56) ?_
          refine r_aload_n hC 0 dX8_turn_56 (rfl : 56 + 1 = 57) rfl rfl ?_
          refine r_getr hC 0 7 28 18 (o := 18) fw_X8_62 rfl rfl dX8_turn_57 (rfl : 57 + 3 = 60) ?_
          refine r_iload_n hC 1 dX8_turn_60 (rfl : 60 + 1 = 61) rfl rfl ?_
          refine r_iald hC 18 rfl q_7 dX8_turn_61 (rfl : 61 + 1 = 62) ?_
          refine r_iadd hC dX8_turn_62 (rfl : 62 + 1 = 63) ?_
          refine r_iload_n hC 2 dX8_turn_63 (rfl : 63 + 1 = 64) rfl rfl ?_
          obtain ⟨q_8, h⟩ := h
          obtain ⟨σ_9, e_10, h⟩ := lt_nm h
          refine r_iast hC 19 rfl q_8 e_10 dX8_turn_64 (rfl : 64 + 1 = 65) ?_
          refine r_aload_n hC 0 dX8_turn_65 (rfl : 65 + 1 = 66) rfl rfl ?_
          refine r_getr hC 0 7 30 20 (o := 20) fw_X8_68 rfl rfl dX8_turn_66 (rfl : 66 + 3 = 69) ?_
          refine r_bipush hC dX8_turn_69 (rfl : 69 + 2 = 71) (v := 10) (by decide) ?_
          refine r_iload_n hC 1 dX8_turn_71 (rfl : 71 + 1 = 72) rfl rfl ?_
          refine r_imul hC dX8_turn_72 (rfl : 72 + 1 = 73) ?_
          refine r_aload_n hC 0 dX8_turn_73 (rfl : 73 + 1 = 74) rfl rfl ?_
          refine r_getr hC 0 7 28 18 (o := 18) fw_X8_62 rfl rfl dX8_turn_74 (rfl : 74 + 3 = 77) ?_
          refine r_iload_n hC 1 dX8_turn_77 (rfl : 77 + 1 = 78) rfl rfl ?_
          refine r_iald hC 18 rfl q_7 dX8_turn_78 (rfl : 78 + 1 = 79) ?_
          refine r_iadd hC dX8_turn_79 (rfl : 79 + 1 = 80) ?_
          refine r_iload_n hC 3 dX8_turn_80 (rfl : 80 + 1 = 81) rfl rfl ?_
          obtain ⟨q_11, h⟩ := h
          obtain ⟨σ_12, e_13, h⟩ := lt_nm h
          refine r_iast hC 20 rfl q_11 e_13 dX8_turn_81 (rfl : 81 + 1 = 82) ?_
          refine r_aload_n hC 0 dX8_turn_82 (rfl : 82 + 1 = 83) rfl rfl ?_
          refine r_getr hC 0 7 28 18 (o := 18) fw_X8_62 rfl rfl dX8_turn_83 (rfl : 83 + 3 = 86) ?_
          refine r_iload_n hC 1 dX8_turn_86 (rfl : 86 + 1 = 87) rfl rfl ?_
          refine r_dup2 hC dX8_turn_87 (rfl : 87 + 1 = 88) rfl rfl ?_
          refine r_iald hC 18 rfl q_7 dX8_turn_88 (rfl : 88 + 1 = 89) ?_
          refine r_iconst hC dX8_turn_89 (rfl : 89 + 1 = 90) (v := 1) (by decide) ?_
          refine r_iadd hC dX8_turn_90 (rfl : 90 + 1 = 91) ?_
          obtain ⟨σ_14, e_15, h⟩ := lt_nm h
          refine r_iast hC 18 rfl q_7 e_15 dX8_turn_91 (rfl : 91 + 1 = 92) ?_
          refine r_aload_n hC 0 dX8_turn_92 (rfl : 92 + 1 = 93) rfl rfl ?_
          refine r_getr hC 0 7 28 18 (o := 18) fw_X8_62 rfl rfl dX8_turn_93 (rfl : 93 + 3 = 96) ?_
          refine r_iload_n hC 1 dX8_turn_96 (rfl : 96 + 1 = 97) rfl rfl ?_
          refine r_iald hC 18 rfl q_7 dX8_turn_97 (rfl : 97 + 1 = 98) ?_
          exact r_iret hC rfl h dX8_turn_98
        · replace h := if_t h q
          refine r_bipush hC dX8_turn_45 (rfl : 45 + 2 = 47) (v := -3) (by decide) ?_
          exact r_iret hC rfl h dX8_turn_47
      · replace h := if_t h q
        refine r_iconst hC dX8_turn_32 (rfl : 32 + 1 = 33) (v := -1) (by decide) ?_
        exact r_iret hC rfl h dX8_turn_33
set_option maxHeartbeats 1000000 in
set_option maxRecDepth 100000 in
theorem mX8_plant {G : Gx} {b k : Nat} {l : Launch} (hS : Sok YM G)  (hk : 3 ≤ k) (x1 : Int32) (x2 : Int32) (x3 : Int32) (σ : Sg) (Q : Int32 → Sg → Prop) (h : wX8_plant  x1 x2 x3 σ Q) : Mi YM G b l yX8_plant cX8_plant 5 .int k [.ref (G.1 0), .int x1, .int x2, .int x3] σ Q := by
  refine enter hS (by decide +kernel) (Nat.le_of_ble_eq_true rfl) (lv := [(0, .ref (G.1 0)), (1, .int x1), (2, .int x2), (3, .int x3)]) rfl (fun K hl hC => ?_)
  subst hl
  unfold wX8_plant at h
  show V YM G K (Zi YM G K Q) 5 σ 0 [(0, .ref (G.1 0)), (1, .int x1), (2, .int x2), (3, .int x3)] []
  refine r_aload_n hC 0 dX8_plant_0 (rfl : 0 + 1 = 1) rfl rfl ?_
  refine r_iload_n hC 1 dX8_plant_1 (rfl : 1 + 1 = 2) rfl rfl ?_
  refine r_iload_n hC 2 dX8_plant_2 (rfl : 2 + 1 = 3) rfl rfl ?_
  refine r_callVi hC cs_X8_289 rfl (by omega) (mX8_isTurn hC.2.2.2.2.2.2.2.2.1 (k := k - 1) (by omega) x1 x2 σ _ h) rfl rfl (Nat.le_of_ble_eq_true rfl) dX8_plant_3 (rfl : 3 + 3 = 6) (fun r_2 σ_1 h => ?_)
  refine r_if_eq hC dX8_plant_6 (rfl : 6 + 3 = 9) (tgt := 21) (by decide) (fun q => ?_) (fun q => ?_)
  · replace h := if_t h q
    refine r_iconst hC dX8_plant_21 (rfl : 21 + 1 = 22) (v := -1) (by decide) ?_
    exact r_iret hC rfl h dX8_plant_22
  · replace h := if_f h q
    refine r_iload_n hC 3 dX8_plant_9 (rfl : 9 + 1 = 10) rfl rfl ?_
    refine r_i2l hC dX8_plant_10 (rfl : 10 + 1 = 11) ?_
    refine r_lconst hC dX8_plant_11 (rfl : 11 + 1 = 12) (v := 0) (by decide) ?_
    refine r_ldc2 hC dX8_plant_12 (rfl : 12 + 3 = 15) wd_939 ?_
    refine r_callSi hC cs_X8_177 (by omega) (mX8_in hC.2.2.2.2.2.2.2.2.1 (k := k - 1) (by omega) (Int32.toInt64 x3) 0 2 σ_1 _ h) rfl rfl (Nat.le_of_ble_eq_true rfl) dX8_plant_15 (rfl : 15 + 3 = 18) (fun r_4 σ_3 h => ?_)
    refine r_if_ne hC dX8_plant_18 (rfl : 18 + 3 = 21) (tgt := 23) (by decide) (fun q => ?_) (fun q => ?_)
    · replace h := if_f h q
      refine r_aload_n hC 0 dX8_plant_23 (rfl : 23 + 1 = 24) rfl rfl ?_
      refine r_getr hC 0 7 30 20 (o := 20) fw_X8_68 rfl rfl dX8_plant_24 (rfl : 24 + 3 = 27) ?_
      refine r_bipush hC dX8_plant_27 (rfl : 27 + 2 = 29) (v := 10) (by decide) ?_
      refine r_iload_n hC 1 dX8_plant_29 (rfl : 29 + 1 = 30) rfl rfl ?_
      refine r_imul hC dX8_plant_30 (rfl : 30 + 1 = 31) ?_
      refine r_iload_n hC 2 dX8_plant_31 (rfl : 31 + 1 = 32) rfl rfl ?_
      refine r_iadd hC dX8_plant_32 (rfl : 32 + 1 = 33) ?_
      obtain ⟨q_5, h⟩ := h
      refine r_iald hC 20 rfl q_5 dX8_plant_33 (rfl : 33 + 1 = 34) ?_
      obtain ⟨x4_6, e_7, h⟩ := lt_nm h
      refine r_istore hC dX8_plant_34 (rfl : 34 + 2 = 36) (by decide) e_7 (lv2 := [(4, .int x4_6), (0, .ref (G.1 0)), (1, .int x1), (2, .int x2), (3, .int x3)]) rfl ?_
      refine r_aload_n hC 1 dX8_plant_36 (rfl : 36 + 1 = 37) rfl rfl ?_
      refine r_getr hC 0 7 30 20 (o := 20) fw_X8_68 rfl rfl dX8_plant_37 (rfl : 37 + 3 = 40) ?_
      refine r_bipush hC dX8_plant_40 (rfl : 40 + 2 = 42) (v := 10) (by decide) ?_
      refine r_iload_n hC 2 dX8_plant_42 (rfl : 42 + 1 = 43) rfl rfl ?_
      refine r_imul hC dX8_plant_43 (rfl : 43 + 1 = 44) ?_
      refine r_iload_n hC 3 dX8_plant_44 (rfl : 44 + 1 = 45) rfl rfl ?_
      refine r_iadd hC dX8_plant_45 (rfl : 45 + 1 = 46) ?_
      refine r_iload_n hC 4 dX8_plant_46 (rfl : 46 + 1 = 47) rfl rfl ?_
      obtain ⟨σ_8, e_9, h⟩ := lt_nm h
      refine r_iast hC 20 rfl q_5 e_9 dX8_plant_47 (rfl : 47 + 1 = 48) ?_
      refine r_iload hC 0 dX8_plant_48 (rfl : 48 + 2 = 50) rfl ?_
      exact r_iret hC rfl h dX8_plant_50
    · replace h := if_t h q
      refine r_iconst hC dX8_plant_21 (rfl : 21 + 1 = 22) (v := -1) (by decide) ?_
      exact r_iret hC rfl h dX8_plant_22
set_option maxHeartbeats 1000000 in
set_option maxRecDepth 100000 in
theorem mX8_part {G : Gx} {b k : Nat} {l : Launch} (hS : Sok YM G)  (hk : 1 ≤ k) (x1 : Int32) (x2 : Int32) (σ : Sg) (Q : Int32 → Sg → Prop) (h : wX8_part  x1 x2 σ Q) : Mi YM G b l yX8_part cX8_part 3 .int k [.ref (G.1 0), .int x1, .int x2] σ Q := by
  refine enter hS (by decide +kernel) (Nat.le_of_ble_eq_true rfl) (lv := [(0, .ref (G.1 0)), (1, .int x1), (2, .int x2)]) rfl (fun K hl hC => ?_)
  subst hl
  unfold wX8_part at h
  show V YM G K (Zi YM G K Q) 3 σ 0 [(0, .ref (G.1 0)), (1, .int x1), (2, .int x2)] []
  refine r_iload_n hC 1 dX8_part_0 (rfl : 0 + 1 = 1) rfl rfl ?_
  refine r_i2l hC dX8_part_1 (rfl : 1 + 1 = 2) ?_
  refine r_lconst hC dX8_part_2 (rfl : 2 + 1 = 3) (v := 0) (by decide) ?_
  refine r_aload_n hC 0 dX8_part_3 (rfl : 3 + 1 = 4) rfl rfl ?_
  refine r_geti hC 0 7 31 fw_X8_295 rfl dX8_part_4 (rfl : 4 + 3 = 7) ?_
  refine r_iconst hC dX8_part_7 (rfl : 7 + 1 = 8) (v := 1) (by decide) ?_
  refine r_isub hC dX8_part_8 (rfl : 8 + 1 = 9) ?_
  refine r_i2l hC dX8_part_9 (rfl : 9 + 1 = 10) ?_
  refine r_callSi hC cs_X8_177 (by omega) (mX8_in hC.2.2.2.2.2.2.2.2.1 (k := k - 1) (by omega) (Int32.toInt64 x1) 0 (Int32.toInt64 ((σ.1 0 31) - 1)) σ _ h) rfl rfl (Nat.le_of_ble_eq_true rfl) dX8_part_10 (rfl : 10 + 3 = 13) (fun r_2 σ_1 h => ?_)
  refine r_if_eq hC dX8_part_13 (rfl : 13 + 3 = 16) (tgt := 28) (by decide) (fun q => ?_) (fun q => ?_)
  · replace h := if_t h q
    refine r_ldcw hC dX8_part_28 (rfl : 28 + 3 = 31) wd_980 ?_
    exact r_iret hC rfl h dX8_part_31
  · replace h := if_f h q
    refine r_iload_n hC 2 dX8_part_16 (rfl : 16 + 1 = 17) rfl rfl ?_
    refine r_i2l hC dX8_part_17 (rfl : 17 + 1 = 18) ?_
    refine r_lconst hC dX8_part_18 (rfl : 18 + 1 = 19) (v := 0) (by decide) ?_
    refine r_ldc2 hC dX8_part_19 (rfl : 19 + 3 = 22) wd_939 ?_
    refine r_callSi hC cs_X8_177 (by omega) (mX8_in hC.2.2.2.2.2.2.2.2.1 (k := k - 1) (by omega) (Int32.toInt64 x2) 0 2 σ_1 _ h) rfl rfl (Nat.le_of_ble_eq_true rfl) dX8_part_22 (rfl : 22 + 3 = 25) (fun r_4 σ_3 h => ?_)
    refine r_if_ne hC dX8_part_25 (rfl : 25 + 3 = 28) (tgt := 32) (by decide) (fun q => ?_) (fun q => ?_)
    · replace h := if_f h q
      refine r_iload_n hC 2 dX8_part_32 (rfl : 32 + 1 = 33) rfl rfl ?_
      refine r_if_ne hC dX8_part_33 (rfl : 33 + 3 = 36) (tgt := 45) (by decide) (fun q => ?_) (fun q => ?_)
      · replace h := if_f h q
        refine r_iload_n hC 2 dX8_part_45 (rfl : 45 + 1 = 46) rfl rfl ?_
        refine r_iconst hC dX8_part_46 (rfl : 46 + 1 = 47) (v := 1) (by decide) ?_
        refine r_icmp_ne hC dX8_part_47 (rfl : 47 + 3 = 50) (tgt := 59) (by decide) (fun q => ?_) (fun q => ?_)
        · replace h := if_f h q
          refine r_aload_n hC 0 dX8_part_59 (rfl : 59 + 1 = 60) rfl rfl ?_
          refine r_getr hC 0 7 34 23 (o := 23) fw_X8_77 rfl rfl dX8_part_60 (rfl : 60 + 3 = 63) ?_
          refine r_iload_n hC 1 dX8_part_63 (rfl : 63 + 1 = 64) rfl rfl ?_
          obtain ⟨q_5, h⟩ := h
          refine r_iald hC 23 rfl q_5 dX8_part_64 (rfl : 64 + 1 = 65) ?_
          exact r_iret hC rfl h dX8_part_65
        · replace h := if_t h q
          refine r_aload_n hC 0 dX8_part_50 (rfl : 50 + 1 = 51) rfl rfl ?_
          refine r_getr hC 0 7 33 22 (o := 22) fw_X8_74 rfl rfl dX8_part_51 (rfl : 51 + 3 = 54) ?_
          refine r_iload_n hC 1 dX8_part_54 (rfl : 54 + 1 = 55) rfl rfl ?_
          obtain ⟨q_6, h⟩ := h
          refine r_iald hC 22 rfl q_6 dX8_part_55 (rfl : 55 + 1 = 56) ?_
          refine r_goto hC dX8_part_56 (tgt := 65) (by decide) ?_
          exact r_iret hC rfl h dX8_part_65
      · replace h := if_t h q
        refine r_aload_n hC 0 dX8_part_36 (rfl : 36 + 1 = 37) rfl rfl ?_
        refine r_getr hC 0 7 32 21 (o := 21) fw_X8_71 rfl rfl dX8_part_37 (rfl : 37 + 3 = 40) ?_
        refine r_iload_n hC 1 dX8_part_40 (rfl : 40 + 1 = 41) rfl rfl ?_
        obtain ⟨q_7, h⟩ := h
        refine r_iald hC 21 rfl q_7 dX8_part_41 (rfl : 41 + 1 = 42) ?_
        refine r_goto hC dX8_part_42 (tgt := 65) (by decide) ?_
        exact r_iret hC rfl h dX8_part_65
    · replace h := if_t h q
      refine r_ldcw hC dX8_part_28 (rfl : 28 + 3 = 31) wd_980 ?_
      exact r_iret hC rfl h dX8_part_31
set_option maxHeartbeats 1000000 in
set_option maxRecDepth 100000 in
theorem sX8_isOther_34 {G : Gx} {b k : Nat} {K : Kx} {l : Launch} (hl : K.2.1 = l) (hC : Cx YM G b K cX8_isOther RX8 7 (some .boolean) k) (d : Nat) (hk : 1 * d + 3 ≤ k)  (Q : Int32 → Sg → Prop)   (σ : Sg) (h : wX8_isOther_34 d  σ Q) : V YM G K (Zi YM G K Q) 7 σ 34 [] [] := by
  subst hl
  unfold wX8_isOther_34 at h
  refine r_iconst hC dX8_isOther_34 (rfl : 34 + 1 = 35) (v := 1) (by decide) ?_
  refine r_goto hC dX8_isOther_35 (tgt := 39) (by decide) ?_
  exact r_zret hC rfl (by decide) h dX8_isOther_39
set_option maxHeartbeats 1000000 in
set_option maxRecDepth 100000 in
theorem mX8_isOther {G : Gx} {b k : Nat} {l : Launch} (hS : Sok YM G) (d : Nat) (hk : 1 * d + 3 ≤ k) (x1 : Int32) (x2 : Int32) (x3 : Int32) (x4 : Int32) (σ : Sg) (Q : Int32 → Sg → Prop) (h : wX8_isOther d x1 x2 x3 x4 σ Q) : Mi YM G b l yX8_isOther cX8_isOther 7 .boolean k [.ref (G.1 0), .int x1, .int x2, .int x3, .int x4] σ Q := by
  refine enter hS (by decide +kernel) (Nat.le_of_ble_eq_true rfl) (lv := [(0, .ref (G.1 0)), (1, .int x1), (2, .int x2), (3, .int x3), (4, .int x4)]) rfl (fun K hl hC => ?_)
  subst hl
  unfold wX8_isOther at h
  show V YM G K (Zi YM G K Q) 7 σ 0 [(0, .ref (G.1 0)), (1, .int x1), (2, .int x2), (3, .int x3), (4, .int x4)] []
  refine r_aload_n hC 0 dX8_isOther_0 (rfl : 0 + 1 = 1) rfl rfl ?_
  refine r_iload_n hC 1 dX8_isOther_1 (rfl : 1 + 1 = 2) rfl rfl ?_
  refine r_iload_n hC 3 dX8_isOther_2 (rfl : 2 + 1 = 3) rfl rfl ?_
  refine r_iload hC 4 dX8_isOther_3 (rfl : 3 + 2 = 5) rfl ?_
  refine r_callVi hC cs_X8_118 rfl (by omega) (mX8_valueOf hC.2.2.2.2.2.2.2.2.1 d (k := k - 1) (by omega) x1 x3 x4 σ _ h) rfl rfl (Nat.le_of_ble_eq_true rfl) dX8_isOther_5 (rfl : 5 + 3 = 8) (fun r_2 σ_1 h => ?_)
  refine r_istore hC dX8_isOther_8 (rfl : 8 + 2 = 10) (by decide) rfl (lv2 := [(5, .int r_2), (0, .ref (G.1 0)), (1, .int x1), (2, .int x2), (3, .int x3), (4, .int x4)]) rfl ?_
  refine r_aload_n hC 1 dX8_isOther_10 (rfl : 10 + 1 = 11) rfl rfl ?_
  refine r_iload_n hC 3 dX8_isOther_11 (rfl : 11 + 1 = 12) rfl rfl ?_
  refine r_iload_n hC 4 dX8_isOther_12 (rfl : 12 + 1 = 13) rfl rfl ?_
  refine r_iload hC 5 dX8_isOther_13 (rfl : 13 + 2 = 15) rfl ?_
  refine r_callVi hC cs_X8_118 rfl (by omega) (mX8_valueOf hC.2.2.2.2.2.2.2.2.1 d (k := k - 1) (by omega) x2 x3 x4 σ_1 _ h) rfl rfl (Nat.le_of_ble_eq_true rfl) dX8_isOther_15 (rfl : 15 + 3 = 18) (fun r_4 σ_3 h => ?_)
  refine r_istore hC dX8_isOther_18 (rfl : 18 + 2 = 20) (by decide) rfl (lv2 := [(6, .int r_4), (5, .int r_2), (0, .ref (G.1 0)), (1, .int x1), (2, .int x2), (3, .int x3), (4, .int x4)]) rfl ?_
  refine r_aload_n hC 2 dX8_isOther_20 (rfl : 20 + 1 = 21) rfl rfl ?_
  refine r_geti hC 0 7 8 fw_X8_104 rfl dX8_isOther_21 (rfl : 21 + 3 = 24) ?_
  refine r_if_ne hC dX8_isOther_24 (rfl : 24 + 3 = 27) (tgt := 34) (by decide) (fun q => ?_) (fun q => ?_)
  · replace h := if_f h q
    exact (sX8_isOther_34 rfl hC d hk  Q   σ_3 h).sub [] rfl
  · replace h := if_t h q
    refine r_iload hC 1 dX8_isOther_27 (rfl : 27 + 2 = 29) rfl ?_
    refine r_iload hC 0 dX8_isOther_29 (rfl : 29 + 2 = 31) rfl ?_
    refine r_icmp_eq hC dX8_isOther_31 (rfl : 31 + 3 = 34) (tgt := 38) (by decide) (fun q => ?_) (fun q => ?_)
    · replace h := if_t h q
      refine r_iconst hC dX8_isOther_38 (rfl : 38 + 1 = 39) (v := 0) (by decide) ?_
      exact r_zret hC rfl (by decide) h dX8_isOther_39
    · replace h := if_f h q
      exact (sX8_isOther_34 rfl hC d hk  Q   σ_3 h).sub [] rfl
set_option maxHeartbeats 1000000 in
set_option maxRecDepth 100000 in
theorem sX8_remember_10 {G : Gx} {b k : Nat} {K : Kx} {l : Launch} (hl : K.2.1 = l) (hC : Cx YM G b K cX8_remember RX8 2 none k)  (hk : 0 ≤ k)  (Q : Sg → Prop)  : ∀ (n : Nat) (x1 : Int32) (σ : Sg), wX8_remember_10  Q n x1 σ → V YM G K (Zv YM G K Q) 2 σ 10 [(0, .ref (G.1 0)), (1, .int x1)] [] := by
  subst hl
  intro n
  induction n with
  | zero =>
    intro x1 σ h
    exact h.elim
  | succ n ih =>
    intro x1 σ h
    have h : wX8_remember_10_b  (wX8_remember_10  Q n) x1 σ Q := h
    unfold wX8_remember_10_b at h
    refine r_iload_n hC 1 dX8_remember_10 (rfl : 10 + 1 = 11) rfl rfl ?_
    refine r_aload_n hC 0 dX8_remember_11 (rfl : 11 + 1 = 12) rfl rfl ?_
    refine r_geti hC 0 7 17 fw_X8_185 rfl dX8_remember_12 (rfl : 12 + 3 = 15) ?_
    refine r_icmp_ge hC dX8_remember_15 (rfl : 15 + 3 = 18) (tgt := 48) (by decide) (fun q => ?_) (fun q => ?_)
    · replace h := if_t h q
      exact r_vret hC rfl h dX8_remember_48
    · replace h := if_f h q
      refine r_aload_n hC 0 dX8_remember_18 (rfl : 18 + 1 = 19) rfl rfl ?_
      refine r_getr hC 0 7 36 24 (o := 24) fw_X8_84 rfl rfl dX8_remember_19 (rfl : 19 + 3 = 22) ?_
      refine r_iload_n hC 1 dX8_remember_22 (rfl : 22 + 1 = 23) rfl rfl ?_
      refine r_aload_n hC 0 dX8_remember_23 (rfl : 23 + 1 = 24) rfl rfl ?_
      refine r_getr hC 0 7 15 10 (o := 10) fw_X8_37 rfl rfl dX8_remember_24 (rfl : 24 + 3 = 27) ?_
      refine r_iload_n hC 1 dX8_remember_27 (rfl : 27 + 1 = 28) rfl rfl ?_
      obtain ⟨q_1, h⟩ := h
      refine r_iald hC 10 rfl q_1 dX8_remember_28 (rfl : 28 + 1 = 29) ?_
      obtain ⟨q_2, h⟩ := h
      obtain ⟨σ_3, e_4, h⟩ := lt_nm h
      refine r_iast hC 24 rfl q_2 e_4 dX8_remember_29 (rfl : 29 + 1 = 30) ?_
      refine r_aload_n hC 0 dX8_remember_30 (rfl : 30 + 1 = 31) rfl rfl ?_
      refine r_getr hC 0 7 37 25 (o := 25) fw_X8_87 rfl rfl dX8_remember_31 (rfl : 31 + 3 = 34) ?_
      refine r_iload_n hC 1 dX8_remember_34 (rfl : 34 + 1 = 35) rfl rfl ?_
      refine r_aload_n hC 0 dX8_remember_35 (rfl : 35 + 1 = 36) rfl rfl ?_
      refine r_getr hC 0 7 16 11 (o := 11) fw_X8_40 rfl rfl dX8_remember_36 (rfl : 36 + 3 = 39) ?_
      refine r_iload_n hC 1 dX8_remember_39 (rfl : 39 + 1 = 40) rfl rfl ?_
      refine r_iald hC 11 rfl q_1 dX8_remember_40 (rfl : 40 + 1 = 41) ?_
      obtain ⟨σ_5, e_6, h⟩ := lt_nm h
      refine r_iast hC 25 rfl q_2 e_6 dX8_remember_41 (rfl : 41 + 1 = 42) ?_
      obtain ⟨x1_7, e_8, h⟩ := lt_nm h
      refine r_iinc hC (j := 1) dX8_remember_42 (rfl : 42 + 3 = 45) rfl (zz := 1) (by decide) e_8 (by decide) (lv2 := [(1, .int x1_7), (0, .ref (G.1 0))]) rfl ?_
      refine r_goto hC dX8_remember_45 (tgt := 10) (by decide) ?_
      exact (ih x1_7 σ_5 h).sub [1, 0] rfl
set_option maxHeartbeats 1000000 in
set_option maxRecDepth 100000 in
theorem mX8_remember {G : Gx} {b k : Nat} {l : Launch} (hS : Sok YM G)  (hk : 0 ≤ k)  (σ : Sg) (Q : Sg → Prop) (h : wX8_remember   σ Q) : Mv YM G b l yX8_remember cX8_remember 2 k [.ref (G.1 0)] σ Q := by
  refine enter hS (by decide +kernel) (Nat.le_of_ble_eq_true rfl) (lv := [(0, .ref (G.1 0))]) rfl (fun K hl hC => ?_)
  subst hl
  unfold wX8_remember at h
  show V YM G K (Zv YM G K Q) 2 σ 0 [(0, .ref (G.1 0))] []
  refine r_aload_n hC 0 dX8_remember_0 (rfl : 0 + 1 = 1) rfl rfl ?_
  refine r_aload_n hC 0 dX8_remember_1 (rfl : 1 + 1 = 2) rfl rfl ?_
  refine r_geti hC 0 7 17 fw_X8_185 rfl dX8_remember_2 (rfl : 2 + 3 = 5) ?_
  obtain ⟨σ_9, e_10, h⟩ := lt_nm h
  refine r_puti hC 0 7 38 fw_X8_308 fp_8_38 rfl e_10 dX8_remember_5 (rfl : 5 + 3 = 8) ?_
  refine r_iconst hC dX8_remember_8 (rfl : 8 + 1 = 9) (v := 0) (by decide) ?_
  refine r_istore_n hC dX8_remember_9 (rfl : 9 + 1 = 10) rfl (by decide) rfl (lv2 := [(1, .int 0), (0, .ref (G.1 0))]) rfl ?_
  obtain ⟨nn, h⟩ := h
  exact (sX8_remember_10 rfl hC hk  Q  nn 0 σ_9 h).sub [1, 0] rfl
set_option maxHeartbeats 1000000 in
set_option maxRecDepth 100000 in
theorem sX8_recall_10 {G : Gx} {b k : Nat} {K : Kx} {l : Launch} (hl : K.2.1 = l) (hC : Cx YM G b K cX8_recall RX8 2 none k)  (hk : 0 ≤ k)  (Q : Sg → Prop)  : ∀ (n : Nat) (x1 : Int32) (σ : Sg), wX8_recall_10  Q n x1 σ → V YM G K (Zv YM G K Q) 2 σ 10 [(0, .ref (G.1 0)), (1, .int x1)] [] := by
  subst hl
  intro n
  induction n with
  | zero =>
    intro x1 σ h
    exact h.elim
  | succ n ih =>
    intro x1 σ h
    have h : wX8_recall_10_b  (wX8_recall_10  Q n) x1 σ Q := h
    unfold wX8_recall_10_b at h
    refine r_iload_n hC 1 dX8_recall_10 (rfl : 10 + 1 = 11) rfl rfl ?_
    refine r_aload_n hC 0 dX8_recall_11 (rfl : 11 + 1 = 12) rfl rfl ?_
    refine r_geti hC 0 7 38 fw_X8_308 rfl dX8_recall_12 (rfl : 12 + 3 = 15) ?_
    refine r_icmp_ge hC dX8_recall_15 (rfl : 15 + 3 = 18) (tgt := 48) (by decide) (fun q => ?_) (fun q => ?_)
    · replace h := if_t h q
      exact r_vret hC rfl h dX8_recall_48
    · replace h := if_f h q
      refine r_aload_n hC 0 dX8_recall_18 (rfl : 18 + 1 = 19) rfl rfl ?_
      refine r_getr hC 0 7 15 10 (o := 10) fw_X8_37 rfl rfl dX8_recall_19 (rfl : 19 + 3 = 22) ?_
      refine r_iload_n hC 1 dX8_recall_22 (rfl : 22 + 1 = 23) rfl rfl ?_
      refine r_aload_n hC 0 dX8_recall_23 (rfl : 23 + 1 = 24) rfl rfl ?_
      refine r_getr hC 0 7 36 24 (o := 24) fw_X8_84 rfl rfl dX8_recall_24 (rfl : 24 + 3 = 27) ?_
      refine r_iload_n hC 1 dX8_recall_27 (rfl : 27 + 1 = 28) rfl rfl ?_
      obtain ⟨q_1, h⟩ := h
      refine r_iald hC 24 rfl q_1 dX8_recall_28 (rfl : 28 + 1 = 29) ?_
      obtain ⟨q_2, h⟩ := h
      obtain ⟨σ_3, e_4, h⟩ := lt_nm h
      refine r_iast hC 10 rfl q_2 e_4 dX8_recall_29 (rfl : 29 + 1 = 30) ?_
      refine r_aload_n hC 0 dX8_recall_30 (rfl : 30 + 1 = 31) rfl rfl ?_
      refine r_getr hC 0 7 16 11 (o := 11) fw_X8_40 rfl rfl dX8_recall_31 (rfl : 31 + 3 = 34) ?_
      refine r_iload_n hC 1 dX8_recall_34 (rfl : 34 + 1 = 35) rfl rfl ?_
      refine r_aload_n hC 0 dX8_recall_35 (rfl : 35 + 1 = 36) rfl rfl ?_
      refine r_getr hC 0 7 37 25 (o := 25) fw_X8_87 rfl rfl dX8_recall_36 (rfl : 36 + 3 = 39) ?_
      refine r_iload_n hC 1 dX8_recall_39 (rfl : 39 + 1 = 40) rfl rfl ?_
      refine r_iald hC 25 rfl q_1 dX8_recall_40 (rfl : 40 + 1 = 41) ?_
      obtain ⟨σ_5, e_6, h⟩ := lt_nm h
      refine r_iast hC 11 rfl q_2 e_6 dX8_recall_41 (rfl : 41 + 1 = 42) ?_
      obtain ⟨x1_7, e_8, h⟩ := lt_nm h
      refine r_iinc hC (j := 1) dX8_recall_42 (rfl : 42 + 3 = 45) rfl (zz := 1) (by decide) e_8 (by decide) (lv2 := [(1, .int x1_7), (0, .ref (G.1 0))]) rfl ?_
      refine r_goto hC dX8_recall_45 (tgt := 10) (by decide) ?_
      exact (ih x1_7 σ_5 h).sub [1, 0] rfl
set_option maxHeartbeats 1000000 in
set_option maxRecDepth 100000 in
theorem mX8_recall {G : Gx} {b k : Nat} {l : Launch} (hS : Sok YM G)  (hk : 0 ≤ k)  (σ : Sg) (Q : Sg → Prop) (h : wX8_recall   σ Q) : Mv YM G b l yX8_recall cX8_recall 2 k [.ref (G.1 0)] σ Q := by
  refine enter hS (by decide +kernel) (Nat.le_of_ble_eq_true rfl) (lv := [(0, .ref (G.1 0))]) rfl (fun K hl hC => ?_)
  subst hl
  unfold wX8_recall at h
  show V YM G K (Zv YM G K Q) 2 σ 0 [(0, .ref (G.1 0))] []
  refine r_aload_n hC 0 dX8_recall_0 (rfl : 0 + 1 = 1) rfl rfl ?_
  refine r_aload_n hC 0 dX8_recall_1 (rfl : 1 + 1 = 2) rfl rfl ?_
  refine r_geti hC 0 7 38 fw_X8_308 rfl dX8_recall_2 (rfl : 2 + 3 = 5) ?_
  obtain ⟨σ_9, e_10, h⟩ := lt_nm h
  refine r_puti hC 0 7 17 fw_X8_185 fp_8_17 rfl e_10 dX8_recall_5 (rfl : 5 + 3 = 8) ?_
  refine r_iconst hC dX8_recall_8 (rfl : 8 + 1 = 9) (v := 0) (by decide) ?_
  refine r_istore_n hC dX8_recall_9 (rfl : 9 + 1 = 10) rfl (by decide) rfl (lv2 := [(1, .int 0), (0, .ref (G.1 0))]) rfl ?_
  obtain ⟨nn, h⟩ := h
  exact (sX8_recall_10 rfl hC hk  Q  nn 0 σ_9 h).sub [1, 0] rfl
set_option maxHeartbeats 1000000 in
set_option maxRecDepth 100000 in
theorem mX8_steps {G : Gx} {b k : Nat} {l : Launch} (hS : Sok YM G)  (hk : 0 ≤ k)  (σ : Sg) (Q : Int32 → Sg → Prop) (h : wX8_steps   σ Q) : Mi YM G b l yX8_steps cX8_steps 1 .int k [.ref (G.1 0)] σ Q := by
  refine enter hS (by decide +kernel) (Nat.le_of_ble_eq_true rfl) (lv := [(0, .ref (G.1 0))]) rfl (fun K hl hC => ?_)
  subst hl
  unfold wX8_steps at h
  show V YM G K (Zi YM G K Q) 1 σ 0 [(0, .ref (G.1 0))] []
  refine r_aload_n hC 0 dX8_steps_0 (rfl : 0 + 1 = 1) rfl rfl ?_
  refine r_geti hC 0 7 35 fw_X8_80 rfl dX8_steps_1 (rfl : 1 + 3 = 4) ?_
  exact r_iret hC rfl h dX8_steps_4
set_option maxHeartbeats 1000000 in
set_option maxRecDepth 100000 in
theorem mX8_nthTree {G : Gx} {b k : Nat} {l : Launch} (hS : Sok YM G) (d : Nat) (hk : 2 * d + 3 ≤ k) (x1 : Int32) (x2 : Int64) (σ : Sg) (Q : Int32 → Sg → Prop) (h : wX8_nthTree d x1 x2 σ Q) : Mi YM G b l yX8_nthTree cX8_nthTree 4 .int k [.ref (G.1 0), .int x1, .long x2] σ Q := by
  refine enter hS (by decide +kernel) (Nat.le_of_ble_eq_true rfl) (lv := [(0, .ref (G.1 0)), (1, .int x1), (2, .long x2)]) rfl (fun K hl hC => ?_)
  subst hl
  unfold wX8_nthTree at h
  show V YM G K (Zi YM G K Q) 4 σ 0 [(0, .ref (G.1 0)), (1, .int x1), (2, .long x2)] []
  refine r_aload_n hC 0 dX8_nthTree_0 (rfl : 0 + 1 = 1) rfl rfl ?_
  refine r_iconst hC dX8_nthTree_1 (rfl : 1 + 1 = 2) (v := 0) (by decide) ?_
  obtain ⟨σ_1, e_2, h⟩ := lt_nm h
  refine r_puti hC 0 7 17 fw_X8_185 fp_8_17 rfl e_2 dX8_nthTree_2 (rfl : 2 + 3 = 5) ?_
  refine r_aload_n hC 0 dX8_nthTree_5 (rfl : 5 + 1 = 6) rfl rfl ?_
  refine r_iload_n hC 1 dX8_nthTree_6 (rfl : 6 + 1 = 7) rfl rfl ?_
  refine r_lload_n hC 2 dX8_nthTree_7 (rfl : 7 + 1 = 8) rfl rfl ?_
  refine r_callVv hC cs_X8_223 rfl (by omega) (mX8_nth0 hC.2.2.2.2.2.2.2.2.1 d (k - 1) (by omega) x1 x2 σ_1 _ h) rfl rfl (Nat.le_of_ble_eq_true rfl) dX8_nthTree_8 (rfl : 8 + 3 = 11) (fun  σ_3 h => ?_)
  refine r_aload_n hC 0 dX8_nthTree_11 (rfl : 11 + 1 = 12) rfl rfl ?_
  refine r_callVi hC cs_X8_202 rfl (by omega) (mX8_tree hC.2.2.2.2.2.2.2.2.1 d (k := k - 1) (by omega)  σ_3 _ h) rfl rfl (Nat.le_of_ble_eq_true rfl) dX8_nthTree_12 (rfl : 12 + 3 = 15) (fun r_5 σ_4 h => ?_)
  exact r_iret hC rfl h dX8_nthTree_15
set_option maxHeartbeats 1000000 in
set_option maxRecDepth 100000 in
theorem sX8_count_86 {G : Gx} {b k : Nat} {K : Kx} {l : Launch} (hl : K.2.1 = l) (hC : Cx YM G b K cX8_count RX8 4 (some .int) k)  (hk : 0 ≤ k)  (Q : Int32 → Sg → Prop)  : ∀ (n : Nat) (x2 : Int32) (x3 : Int32) (σ : Sg), wX8_count_86  Q n x2 x3 σ → V YM G K (Zi YM G K Q) 4 σ 86 [(0, .ref (G.1 0)), (2, .int x2), (3, .int x3)] [] := by
  subst hl
  intro n
  induction n with
  | zero =>
    intro x2 x3 σ h
    exact h.elim
  | succ n ih =>
    intro x2 x3 σ h
    have h : wX8_count_86_b  (wX8_count_86  Q n) x2 x3 σ Q := h
    unfold wX8_count_86_b at h
    refine r_iload_n hC 2 dX8_count_86 (rfl : 86 + 1 = 87) rfl rfl ?_
    refine r_bipush hC dX8_count_87 (rfl : 87 + 2 = 89) (v := 20) (by decide) ?_
    refine r_icmp_ge hC dX8_count_89 (rfl : 89 + 3 = 92) (tgt := 107) (by decide) (fun q => ?_) (fun q => ?_)
    · replace h := if_t h q
      refine r_iload_n hC 1 dX8_count_107 (rfl : 107 + 1 = 108) rfl rfl ?_
      exact r_iret hC rfl h dX8_count_108
    · replace h := if_f h q
      refine r_iload_n hC 1 dX8_count_92 (rfl : 92 + 1 = 93) rfl rfl ?_
      refine r_aload_n hC 0 dX8_count_93 (rfl : 93 + 1 = 94) rfl rfl ?_
      refine r_getr hC 0 7 12 7 (o := 7) fw_X8_28 rfl rfl dX8_count_94 (rfl : 94 + 3 = 97) ?_
      refine r_iload_n hC 2 dX8_count_97 (rfl : 97 + 1 = 98) rfl rfl ?_
      obtain ⟨q_1, h⟩ := h
      refine r_iald hC 7 rfl q_1 dX8_count_98 (rfl : 98 + 1 = 99) ?_
      refine r_iadd hC dX8_count_99 (rfl : 99 + 1 = 100) ?_
      obtain ⟨x2_2, e_3, h⟩ := lt_nm h
      refine r_istore_n hC dX8_count_100 (rfl : 100 + 1 = 101) rfl (by decide) e_3 (lv2 := [(2, .int x2_2), (0, .ref (G.1 0)), (3, .int x3)]) rfl ?_
      obtain ⟨x3_4, e_5, h⟩ := lt_nm h
      refine r_iinc hC (j := 2) dX8_count_101 (rfl : 101 + 3 = 104) rfl (zz := 1) (by decide) e_5 (by decide) (lv2 := [(3, .int x3_4), (2, .int x2_2), (0, .ref (G.1 0))]) rfl ?_
      refine r_goto hC dX8_count_104 (tgt := 86) (by decide) ?_
      exact (ih x2_2 x3_4 σ h).sub [2, 1, 0] rfl
set_option maxHeartbeats 1000000 in
set_option maxRecDepth 100000 in
theorem sX8_count_59 {G : Gx} {b k : Nat} {K : Kx} {l : Launch} (hl : K.2.1 = l) (hC : Cx YM G b K cX8_count RX8 4 (some .int) k)  (hk : 0 ≤ k) (K38 : Int32 → Int32 → Sg → Prop) (Q : Int32 → Sg → Prop) (h38 : ∀ (x2 : Int32) (x3 : Int32) (σ : Sg), K38 x2 x3 σ → V YM G K (Zi YM G K Q) 4 σ 38 [(0, .ref (G.1 0)), (2, .int x2), (3, .int x3)] []) (x3 : Int32) (s0 : Int32) (s1 : Int32) (σ : Sg) (h : wX8_count_59 K38 x3 s0 s1 σ Q) : V YM G K (Zi YM G K Q) 4 σ 59 [(0, .ref (G.1 0)), (3, .int x3)] [.int s1, .int s0] := by
  subst hl
  unfold wX8_count_59 at h
  refine r_iadd hC dX8_count_59 (rfl : 59 + 1 = 60) ?_
  obtain ⟨x2_6, e_7, h⟩ := lt_nm h
  refine r_istore_n hC dX8_count_60 (rfl : 60 + 1 = 61) rfl (by decide) e_7 (lv2 := [(2, .int x2_6), (0, .ref (G.1 0)), (3, .int x3)]) rfl ?_
  obtain ⟨x3_8, e_9, h⟩ := lt_nm h
  refine r_iinc hC (j := 2) dX8_count_61 (rfl : 61 + 3 = 64) rfl (zz := 1) (by decide) e_9 (by decide) (lv2 := [(3, .int x3_8), (2, .int x2_6), (0, .ref (G.1 0))]) rfl ?_
  refine r_goto hC dX8_count_64 (tgt := 38) (by decide) ?_
  exact (h38 x2_6 x3_8 σ h).sub [2, 1, 0] rfl
set_option maxHeartbeats 1000000 in
set_option maxRecDepth 100000 in
theorem sX8_count_38 {G : Gx} {b k : Nat} {K : Kx} {l : Launch} (hl : K.2.1 = l) (hC : Cx YM G b K cX8_count RX8 4 (some .int) k)  (hk : 0 ≤ k)  (Q : Int32 → Sg → Prop)  : ∀ (n : Nat) (x2 : Int32) (x3 : Int32) (σ : Sg), wX8_count_38  Q n x2 x3 σ → V YM G K (Zi YM G K Q) 4 σ 38 [(0, .ref (G.1 0)), (2, .int x2), (3, .int x3)] [] := by
  subst hl
  intro n
  induction n with
  | zero =>
    intro x2 x3 σ h
    exact h.elim
  | succ n ih =>
    intro x2 x3 σ h
    have h : wX8_count_38_b  (wX8_count_38  Q n) x2 x3 σ Q := h
    unfold wX8_count_38_b at h
    refine r_iload_n hC 2 dX8_count_38 (rfl : 38 + 1 = 39) rfl rfl ?_
    refine r_bipush hC dX8_count_39 (rfl : 39 + 2 = 41) (v := 20) (by decide) ?_
    refine r_icmp_ge hC dX8_count_41 (rfl : 41 + 3 = 44) (tgt := 67) (by decide) (fun q => ?_) (fun q => ?_)
    · replace h := if_t h q
      refine r_iload_n hC 1 dX8_count_67 (rfl : 67 + 1 = 68) rfl rfl ?_
      exact r_iret hC rfl h dX8_count_68
    · replace h := if_f h q
      refine r_iload_n hC 1 dX8_count_44 (rfl : 44 + 1 = 45) rfl rfl ?_
      refine r_aload_n hC 0 dX8_count_45 (rfl : 45 + 1 = 46) rfl rfl ?_
      refine r_getr hC 0 7 12 7 (o := 7) fw_X8_28 rfl rfl dX8_count_46 (rfl : 46 + 3 = 49) ?_
      refine r_iload_n hC 2 dX8_count_49 (rfl : 49 + 1 = 50) rfl rfl ?_
      obtain ⟨q_10, h⟩ := h
      refine r_iald hC 7 rfl q_10 dX8_count_50 (rfl : 50 + 1 = 51) ?_
      refine r_if_le hC dX8_count_51 (rfl : 51 + 3 = 54) (tgt := 58) (by decide) (fun q => ?_) (fun q => ?_)
      · replace h := if_t h q
        refine r_iconst hC dX8_count_58 (rfl : 58 + 1 = 59) (v := 0) (by decide) ?_
        exact (sX8_count_59 rfl hC hk (wX8_count_38  Q n) Q ih x3 x2 0 σ h).sub [0, 2] rfl
      · replace h := if_f h q
        refine r_iconst hC dX8_count_54 (rfl : 54 + 1 = 55) (v := 1) (by decide) ?_
        refine r_goto hC dX8_count_55 (tgt := 59) (by decide) ?_
        exact (sX8_count_59 rfl hC hk (wX8_count_38  Q n) Q ih x3 x2 1 σ h).sub [0, 2] rfl
set_option maxHeartbeats 1000000 in
set_option maxRecDepth 100000 in
theorem mX8_count {G : Gx} {b k : Nat} {l : Launch} (hS : Sok YM G)  (hk : 0 ≤ k) (x1 : Int32) (σ : Sg) (Q : Int32 → Sg → Prop) (h : wX8_count  x1 σ Q) : Mi YM G b l yX8_count cX8_count 4 .int k [.ref (G.1 0), .int x1] σ Q := by
  refine enter hS (by decide +kernel) (Nat.le_of_ble_eq_true rfl) (lv := [(0, .ref (G.1 0)), (1, .int x1)]) rfl (fun K hl hC => ?_)
  subst hl
  unfold wX8_count at h
  show V YM G K (Zi YM G K Q) 4 σ 0 [(0, .ref (G.1 0)), (1, .int x1)] []
  refine r_iconst hC dX8_count_0 (rfl : 0 + 1 = 1) (v := 0) (by decide) ?_
  refine r_istore_n hC dX8_count_1 (rfl : 1 + 1 = 2) rfl (by decide) rfl (lv2 := [(2, .int 0), (0, .ref (G.1 0)), (1, .int x1)]) rfl ?_
  refine r_iload_n hC 2 dX8_count_2 (rfl : 2 + 1 = 3) rfl rfl ?_
  by_cases sw0 : x1 = 0
  · replace h := if_t h sw0
    refine r_swIn hC dX8_count_3 (tgt := 36) (by rw [sw0]; decide) (by rw [sw0]; decide) (by rw [sw0]; rfl) (by decide) ?_
    refine r_iconst hC dX8_count_36 (rfl : 36 + 1 = 37) (v := 0) (by decide) ?_
    refine r_istore_n hC dX8_count_37 (rfl : 37 + 1 = 38) rfl (by decide) rfl (lv2 := [(3, .int 0), (2, .int 0), (0, .ref (G.1 0)), (1, .int x1)]) rfl ?_
    obtain ⟨nn, h⟩ := h
    exact (sX8_count_38 rfl hC hk  Q  nn 0 0 σ h).sub [2, 1, 0] rfl
  replace h := if_f h sw0
  by_cases sw1 : x1 = 1
  · replace h := if_t h sw1
    refine r_swIn hC dX8_count_3 (tgt := 69) (by rw [sw1]; decide) (by rw [sw1]; decide) (by rw [sw1]; rfl) (by decide) ?_
    refine r_aload_n hC 1 dX8_count_69 (rfl : 69 + 1 = 70) rfl rfl ?_
    refine r_geti hC 0 7 27 fw_X8_283 rfl dX8_count_70 (rfl : 70 + 3 = 73) ?_
    exact r_iret hC rfl h dX8_count_73
  replace h := if_f h sw1
  by_cases sw2 : x1 = 2
  · replace h := if_t h sw2
    refine r_swIn hC dX8_count_3 (tgt := 74) (by rw [sw2]; decide) (by rw [sw2]; decide) (by rw [sw2]; rfl) (by decide) ?_
    refine r_aload_n hC 1 dX8_count_74 (rfl : 74 + 1 = 75) rfl rfl ?_
    refine r_geti hC 0 7 20 fw_X8_255 rfl dX8_count_75 (rfl : 75 + 3 = 78) ?_
    exact r_iret hC rfl h dX8_count_78
  replace h := if_f h sw2
  by_cases sw3 : x1 = 3
  · replace h := if_t h sw3
    refine r_swIn hC dX8_count_3 (tgt := 79) (by rw [sw3]; decide) (by rw [sw3]; decide) (by rw [sw3]; rfl) (by decide) ?_
    refine r_aload_n hC 1 dX8_count_79 (rfl : 79 + 1 = 80) rfl rfl ?_
    refine r_geti hC 0 7 24 fw_X8_258 rfl dX8_count_80 (rfl : 80 + 3 = 83) ?_
    exact r_iret hC rfl h dX8_count_83
  replace h := if_f h sw3
  by_cases sw4 : x1 = 4
  · replace h := if_t h sw4
    refine r_swIn hC dX8_count_3 (tgt := 84) (by rw [sw4]; decide) (by rw [sw4]; decide) (by rw [sw4]; rfl) (by decide) ?_
    refine r_iconst hC dX8_count_84 (rfl : 84 + 1 = 85) (v := 0) (by decide) ?_
    refine r_istore_n hC dX8_count_85 (rfl : 85 + 1 = 86) rfl (by decide) rfl (lv2 := [(3, .int 0), (2, .int 0), (0, .ref (G.1 0)), (1, .int x1)]) rfl ?_
    obtain ⟨nn, h⟩ := h
    exact (sX8_count_86 rfl hC hk  Q  nn 0 0 σ h).sub [2, 1, 0] rfl
  replace h := if_f h sw4
  refine r_swOut hC dX8_count_3 (tgt := 109) (sw_out 0 4 (by decide) (fun j h1 h2 => by rcases (show j = 0 ∨ j = 1 ∨ j = 2 ∨ j = 3 ∨ j = 4 by omega) with rfl | rfl | rfl | rfl | rfl <;> assumption)) (by decide) ?_
  refine r_iconst hC dX8_count_109 (rfl : 109 + 1 = 110) (v := -1) (by decide) ?_
  exact r_iret hC rfl h dX8_count_110
set_option maxHeartbeats 1000000 in
set_option maxRecDepth 100000 in
theorem mX8_ofMaker {G : Gx} {b k : Nat} {l : Launch} (hS : Sok YM G)  (hk : 2 ≤ k) (x1 : Int32) (x2 : Int32) (σ : Sg) (Q : Int32 → Sg → Prop) (h : wX8_ofMaker  x1 x2 σ Q) : Mi YM G b l yX8_ofMaker cX8_ofMaker 3 .int k [.ref (G.1 0), .int x1, .int x2] σ Q := by
  refine enter hS (by decide +kernel) (Nat.le_of_ble_eq_true rfl) (lv := [(0, .ref (G.1 0)), (1, .int x1), (2, .int x2)]) rfl (fun K hl hC => ?_)
  subst hl
  unfold wX8_ofMaker at h
  show V YM G K (Zi YM G K Q) 3 σ 0 [(0, .ref (G.1 0)), (1, .int x1), (2, .int x2)] []
  refine r_aload_n hC 0 dX8_ofMaker_0 (rfl : 0 + 1 = 1) rfl rfl ?_
  refine r_iload_n hC 1 dX8_ofMaker_1 (rfl : 1 + 1 = 2) rfl rfl ?_
  refine r_callVi hC cs_X8_286 rfl (by omega) (mX8_isMaker hC.2.2.2.2.2.2.2.2.1 (k := k - 1) (by omega) x1 σ _ h) rfl rfl (Nat.le_of_ble_eq_true rfl) dX8_ofMaker_2 (rfl : 2 + 3 = 5) (fun r_2 σ_1 h => ?_)
  refine r_if_eq hC dX8_ofMaker_5 (rfl : 5 + 3 = 8) (tgt := 28) (by decide) (fun q => ?_) (fun q => ?_)
  · replace h := if_t h q
    refine r_iconst hC dX8_ofMaker_28 (rfl : 28 + 1 = 29) (v := -1) (by decide) ?_
    exact r_iret hC rfl h dX8_ofMaker_29
  · replace h := if_f h q
    refine r_iload_n hC 2 dX8_ofMaker_8 (rfl : 8 + 1 = 9) rfl rfl ?_
    refine r_i2l hC dX8_ofMaker_9 (rfl : 9 + 1 = 10) ?_
    refine r_ldc2 hC dX8_ofMaker_10 (rfl : 10 + 3 = 13) wd_890 ?_
    refine r_aload_n hC 0 dX8_ofMaker_13 (rfl : 13 + 1 = 14) rfl rfl ?_
    refine r_getr hC 0 7 28 18 (o := 18) fw_X8_62 rfl rfl dX8_ofMaker_14 (rfl : 14 + 3 = 17) ?_
    refine r_iload_n hC 1 dX8_ofMaker_17 (rfl : 17 + 1 = 18) rfl rfl ?_
    obtain ⟨q_3, h⟩ := h
    refine r_iald hC 18 rfl q_3 dX8_ofMaker_18 (rfl : 18 + 1 = 19) ?_
    refine r_iconst hC dX8_ofMaker_19 (rfl : 19 + 1 = 20) (v := 1) (by decide) ?_
    refine r_isub hC dX8_ofMaker_20 (rfl : 20 + 1 = 21) ?_
    refine r_i2l hC dX8_ofMaker_21 (rfl : 21 + 1 = 22) ?_
    refine r_callSi hC cs_X8_177 (by omega) (mX8_in hC.2.2.2.2.2.2.2.2.1 (k := k - 1) (by omega) (Int32.toInt64 x2) (-1) (Int32.toInt64 ((σ_1.1 18 (Int32.toNatClampNeg x1)) - 1)) σ_1 _ h) rfl rfl (Nat.le_of_ble_eq_true rfl) dX8_ofMaker_22 (rfl : 22 + 3 = 25) (fun r_5 σ_4 h => ?_)
    refine r_if_ne hC dX8_ofMaker_25 (rfl : 25 + 3 = 28) (tgt := 30) (by decide) (fun q => ?_) (fun q => ?_)
    · replace h := if_f h q
      refine r_iload_n hC 2 dX8_ofMaker_30 (rfl : 30 + 1 = 31) rfl rfl ?_
      refine r_if_ge hC dX8_ofMaker_31 (rfl : 31 + 3 = 34) (tgt := 43) (by decide) (fun q => ?_) (fun q => ?_)
      · replace h := if_t h q
        refine r_bipush hC dX8_ofMaker_43 (rfl : 43 + 2 = 45) (v := 10) (by decide) ?_
        refine r_aload_n hC 0 dX8_ofMaker_45 (rfl : 45 + 1 = 46) rfl rfl ?_
        refine r_getr hC 0 7 29 19 (o := 19) fw_X8_65 rfl rfl dX8_ofMaker_46 (rfl : 46 + 3 = 49) ?_
        refine r_bipush hC dX8_ofMaker_49 (rfl : 49 + 2 = 51) (v := 10) (by decide) ?_
        refine r_iload_n hC 1 dX8_ofMaker_51 (rfl : 51 + 1 = 52) rfl rfl ?_
        refine r_imul hC dX8_ofMaker_52 (rfl : 52 + 1 = 53) ?_
        refine r_iload_n hC 2 dX8_ofMaker_53 (rfl : 53 + 1 = 54) rfl rfl ?_
        refine r_iadd hC dX8_ofMaker_54 (rfl : 54 + 1 = 55) ?_
        obtain ⟨q_6, h⟩ := h
        refine r_iald hC 19 rfl q_6 dX8_ofMaker_55 (rfl : 55 + 1 = 56) ?_
        refine r_imul hC dX8_ofMaker_56 (rfl : 56 + 1 = 57) ?_
        refine r_aload_n hC 0 dX8_ofMaker_57 (rfl : 57 + 1 = 58) rfl rfl ?_
        refine r_getr hC 0 7 30 20 (o := 20) fw_X8_68 rfl rfl dX8_ofMaker_58 (rfl : 58 + 3 = 61) ?_
        refine r_bipush hC dX8_ofMaker_61 (rfl : 61 + 2 = 63) (v := 10) (by decide) ?_
        refine r_iload_n hC 1 dX8_ofMaker_63 (rfl : 63 + 1 = 64) rfl rfl ?_
        refine r_imul hC dX8_ofMaker_64 (rfl : 64 + 1 = 65) ?_
        refine r_iload_n hC 2 dX8_ofMaker_65 (rfl : 65 + 1 = 66) rfl rfl ?_
        refine r_iadd hC dX8_ofMaker_66 (rfl : 66 + 1 = 67) ?_
        refine r_iald hC 20 rfl q_6 dX8_ofMaker_67 (rfl : 67 + 1 = 68) ?_
        refine r_iadd hC dX8_ofMaker_68 (rfl : 68 + 1 = 69) ?_
        exact r_iret hC rfl h dX8_ofMaker_69
      · replace h := if_f h q
        refine r_aload_n hC 0 dX8_ofMaker_34 (rfl : 34 + 1 = 35) rfl rfl ?_
        refine r_getr hC 0 7 28 18 (o := 18) fw_X8_62 rfl rfl dX8_ofMaker_35 (rfl : 35 + 3 = 38) ?_
        refine r_iload_n hC 1 dX8_ofMaker_38 (rfl : 38 + 1 = 39) rfl rfl ?_
        refine r_iald hC 18 rfl q_3 dX8_ofMaker_39 (rfl : 39 + 1 = 40) ?_
        refine r_goto hC dX8_ofMaker_40 (tgt := 69) (by decide) ?_
        exact r_iret hC rfl h dX8_ofMaker_69
    · replace h := if_t h q
      refine r_iconst hC dX8_ofMaker_28 (rfl : 28 + 1 = 29) (v := -1) (by decide) ?_
      exact r_iret hC rfl h dX8_ofMaker_29
set_option maxHeartbeats 1000000 in
set_option maxRecDepth 100000 in
theorem mX0_jumpBehindPart {G : Gx} {b k : Nat} {l : Launch} (hS : Sok YC G)  (hk : 1 ≤ k) (t : Nat) (x1 : Int32) (σ : Sg) (Q : Sg → Prop) (h : wX0_jumpBehindPart  t x1 σ Q) : Mv YC G b l yX0_jumpBehindPart cX0_jumpBehindPart 2 k [.ref (G.1 t), .int x1] σ Q := by
  refine enter hS (by decide +kernel) (Nat.le_of_ble_eq_true rfl) (lv := [(0, .ref (G.1 t)), (1, .int x1)]) rfl (fun K hl hC => ?_)
  subst hl
  unfold wX0_jumpBehindPart at h
  show V YC G K (Zv YC G K Q) 2 σ 0 [(0, .ref (G.1 t)), (1, .int x1)] []
  refine r_aload_n hC 0 dX0_jumpBehindPart_0 (rfl : 0 + 1 = 1) rfl rfl ?_
  obtain ⟨ty_1, h⟩ := h
  refine r_getr hC t 0 7 (t + 4) (o := 4) fw_X0_35 ty_1 rfl dX0_jumpBehindPart_1 (rfl : 1 + 3 = 4) ?_
  refine r_iload_n hC 1 dX0_jumpBehindPart_4 (rfl : 4 + 1 = 5) rfl rfl ?_
  obtain ⟨q_2, h⟩ := h
  refine r_iald hC (t + 4) (la0_4 ty_1).1 (by rw [(la0_4 ty_1).2]; exact q_2) dX0_jumpBehindPart_5 (rfl : 5 + 1 = 6) ?_
  refine r_iconst hC dX0_jumpBehindPart_6 (rfl : 6 + 1 = 7) (v := 1) (by decide) ?_
  refine r_icmp_ne hC dX0_jumpBehindPart_7 (rfl : 7 + 3 = 10) (tgt := 30) (by decide) (fun q => ?_) (fun q => ?_)
  · replace h := if_f h q
    refine r_aload_n hC 0 dX0_jumpBehindPart_30 (rfl : 30 + 1 = 31) rfl rfl ?_
    refine r_getr hC t 0 7 (t + 4) (o := 4) fw_X0_35 ty_1 rfl dX0_jumpBehindPart_31 (rfl : 31 + 3 = 34) ?_
    refine r_iload_n hC 1 dX0_jumpBehindPart_34 (rfl : 34 + 1 = 35) rfl rfl ?_
    refine r_iald hC (t + 4) (la0_4 ty_1).1 (by rw [(la0_4 ty_1).2]; exact q_2) dX0_jumpBehindPart_35 (rfl : 35 + 1 = 36) ?_
    refine r_iconst hC dX0_jumpBehindPart_36 (rfl : 36 + 1 = 37) (v := 2) (by decide) ?_
    refine r_icmp_ne hC dX0_jumpBehindPart_37 (rfl : 37 + 3 = 40) (tgt := 76) (by decide) (fun q => ?_) (fun q => ?_)
    · replace h := if_f h q
      refine r_aload_n hC 0 dX0_jumpBehindPart_76 (rfl : 76 + 1 = 77) rfl rfl ?_
      refine r_aload_n hC 0 dX0_jumpBehindPart_77 (rfl : 77 + 1 = 78) rfl rfl ?_
      refine r_getr hC t 0 8 (t + 5) (o := 5) fw_X0_38 ty_1 rfl dX0_jumpBehindPart_78 (rfl : 78 + 3 = 81) ?_
      refine r_iload_n hC 1 dX0_jumpBehindPart_81 (rfl : 81 + 1 = 82) rfl rfl ?_
      refine r_iald hC (t + 5) (la0_5 ty_1).1 (by rw [(la0_5 ty_1).2]; exact q_2) dX0_jumpBehindPart_82 (rfl : 82 + 1 = 83) ?_
      refine r_aload_n hC 0 dX0_jumpBehindPart_83 (rfl : 83 + 1 = 84) rfl rfl ?_
      refine r_geti hC t 0 2 fw_X0_18 ty_1 dX0_jumpBehindPart_84 (rfl : 84 + 3 = 87) ?_
      refine r_callVv hC cs_X0_74 ty_1 (by omega) (mX0_aim hC.2.2.2.2.2.2.2.2.1 (k := k - 1) (by omega) t (σ.1 (t + 5) (Int32.toNatClampNeg x1)) (σ.1 t 2) σ _ h) rfl rfl (Nat.le_of_ble_eq_true rfl) dX0_jumpBehindPart_87 (rfl : 87 + 3 = 90) (fun  σ_3 h => ?_)
      exact r_vret hC rfl h dX0_jumpBehindPart_90
    · replace h := if_t h q
      refine r_aload_n hC 0 dX0_jumpBehindPart_40 (rfl : 40 + 1 = 41) rfl rfl ?_
      refine r_aload_n hC 0 dX0_jumpBehindPart_41 (rfl : 41 + 1 = 42) rfl rfl ?_
      refine r_getr hC t 0 8 (t + 5) (o := 5) fw_X0_38 ty_1 rfl dX0_jumpBehindPart_42 (rfl : 42 + 3 = 45) ?_
      refine r_iload_n hC 1 dX0_jumpBehindPart_45 (rfl : 45 + 1 = 46) rfl rfl ?_
      refine r_iald hC (t + 5) (la0_5 ty_1).1 (by rw [(la0_5 ty_1).2]; exact q_2) dX0_jumpBehindPart_46 (rfl : 46 + 1 = 47) ?_
      refine r_aload_n hC 0 dX0_jumpBehindPart_47 (rfl : 47 + 1 = 48) rfl rfl ?_
      refine r_geti hC t 0 2 fw_X0_18 ty_1 dX0_jumpBehindPart_48 (rfl : 48 + 3 = 51) ?_
      refine r_iconst hC dX0_jumpBehindPart_51 (rfl : 51 + 1 = 52) (v := 1) (by decide) ?_
      refine r_iadd hC dX0_jumpBehindPart_52 (rfl : 52 + 1 = 53) ?_
      refine r_callVv hC cs_X0_74 ty_1 (by omega) (mX0_aim hC.2.2.2.2.2.2.2.2.1 (k := k - 1) (by omega) t (σ.1 (t + 5) (Int32.toNatClampNeg x1)) ((σ.1 t 2) + 1) σ _ h) rfl rfl (Nat.le_of_ble_eq_true rfl) dX0_jumpBehindPart_53 (rfl : 53 + 3 = 56) (fun  σ_4 h => ?_)
      refine r_aload_n hC 0 dX0_jumpBehindPart_56 (rfl : 56 + 1 = 57) rfl rfl ?_
      refine r_getr hC t 0 8 (t + 5) (o := 5) fw_X0_38 ty_1 rfl dX0_jumpBehindPart_57 (rfl : 57 + 3 = 60) ?_
      refine r_iload_n hC 1 dX0_jumpBehindPart_60 (rfl : 60 + 1 = 61) rfl rfl ?_
      refine r_aload_n hC 0 dX0_jumpBehindPart_61 (rfl : 61 + 1 = 62) rfl rfl ?_
      refine r_geti hC t 0 2 fw_X0_18 ty_1 dX0_jumpBehindPart_62 (rfl : 62 + 3 = 65) ?_
      obtain ⟨σ_5, e_6, h⟩ := lt_nm h
      refine r_iast hC (t + 5) (la0_5 ty_1).1 (by rw [(la0_5 ty_1).2]; exact q_2) e_6 dX0_jumpBehindPart_65 (rfl : 65 + 1 = 66) ?_
      refine r_aload_n hC 0 dX0_jumpBehindPart_66 (rfl : 66 + 1 = 67) rfl rfl ?_
      refine r_bipush hC dX0_jumpBehindPart_67 (rfl : 67 + 2 = 69) (v := 10) (by decide) ?_
      refine r_iconst hC dX0_jumpBehindPart_69 (rfl : 69 + 1 = 70) (v := 0) (by decide) ?_
      refine r_callVv hC cs_X0_63 ty_1 (by omega) (mX0_add hC.2.2.2.2.2.2.2.2.1 (k := k - 1) (by omega) t 10 0 σ_5 _ h) rfl rfl (Nat.le_of_ble_eq_true rfl) dX0_jumpBehindPart_70 (rfl : 70 + 3 = 73) (fun  σ_7 h => ?_)
      refine r_goto hC dX0_jumpBehindPart_73 (tgt := 90) (by decide) ?_
      exact r_vret hC rfl h dX0_jumpBehindPart_90
  · replace h := if_t h q
    refine r_aload_n hC 0 dX0_jumpBehindPart_10 (rfl : 10 + 1 = 11) rfl rfl ?_
    refine r_getr hC t 0 8 (t + 5) (o := 5) fw_X0_38 ty_1 rfl dX0_jumpBehindPart_11 (rfl : 11 + 3 = 14) ?_
    refine r_iload_n hC 1 dX0_jumpBehindPart_14 (rfl : 14 + 1 = 15) rfl rfl ?_
    refine r_aload_n hC 0 dX0_jumpBehindPart_15 (rfl : 15 + 1 = 16) rfl rfl ?_
    refine r_geti hC t 0 2 fw_X0_18 ty_1 dX0_jumpBehindPart_16 (rfl : 16 + 3 = 19) ?_
    obtain ⟨σ_8, e_9, h⟩ := lt_nm h
    refine r_iast hC (t + 5) (la0_5 ty_1).1 (by rw [(la0_5 ty_1).2]; exact q_2) e_9 dX0_jumpBehindPart_19 (rfl : 19 + 1 = 20) ?_
    refine r_aload_n hC 0 dX0_jumpBehindPart_20 (rfl : 20 + 1 = 21) rfl rfl ?_
    refine r_bipush hC dX0_jumpBehindPart_21 (rfl : 21 + 2 = 23) (v := 9) (by decide) ?_
    refine r_iconst hC dX0_jumpBehindPart_23 (rfl : 23 + 1 = 24) (v := 0) (by decide) ?_
    refine r_callVv hC cs_X0_63 ty_1 (by omega) (mX0_add hC.2.2.2.2.2.2.2.2.1 (k := k - 1) (by omega) t 9 0 σ_8 _ h) rfl rfl (Nat.le_of_ble_eq_true rfl) dX0_jumpBehindPart_24 (rfl : 24 + 3 = 27) (fun  σ_10 h => ?_)
    refine r_goto hC dX0_jumpBehindPart_27 (tgt := 90) (by decide) ?_
    exact r_vret hC rfl h dX0_jumpBehindPart_90
set_option maxHeartbeats 1000000 in
set_option maxRecDepth 100000 in
theorem sX0_run_267 {G : Gx} {b k : Nat} {K : Kx} {l : Launch} (hl : K.2.1 = l) (hC : Cx YC G b K cX0_run RX0 8 (some .boolean) k)  (hk : 1 ≤ k)  (Q : Int32 → Sg → Prop)  (t : Nat) (s1 : Int32) (σ : Sg) (h : wX0_run_267  t s1 σ Q) : V YC G K (Zi YC G K Q) 8 σ 267 [] [.int s1, .ref (G.1 t)] := by
  subst hl
  unfold wX0_run_267 at h
  obtain ⟨ty_1, h⟩ := h
  obtain ⟨σ_2, e_3, h⟩ := lt_nm h
  refine r_puti hC t 0 10 fw_X0_44 fp_0_10 ty_1 e_3 dX0_run_267 (rfl : 267 + 3 = 270) ?_
  refine r_iconst hC dX0_run_270 (rfl : 270 + 1 = 271) (v := 1) (by decide) ?_
  exact r_zret hC rfl (by decide) h dX0_run_271
set_option maxHeartbeats 1000000 in
set_option maxRecDepth 100000 in
theorem sX0_run_250 {G : Gx} {b k : Nat} {K : Kx} {l : Launch} (hl : K.2.1 = l) (hC : Cx YC G b K cX0_run RX0 8 (some .boolean) k)  (hk : 1 ≤ k)  (Q : Int32 → Sg → Prop)  (t : Nat) (x3 : Int32) (σ : Sg) (h : wX0_run_250  t x3 σ Q) : V YC G K (Zi YC G K Q) 8 σ 250 [(0, .ref (G.1 t)), (3, .int x3)] [] := by
  subst hl
  unfold wX0_run_250 at h
  refine r_aload_n hC 0 dX0_run_250 (rfl : 250 + 1 = 251) rfl rfl ?_
  refine r_iload_n hC 1 dX0_run_251 (rfl : 251 + 1 = 252) rfl rfl ?_
  refine r_if_le hC dX0_run_252 (rfl : 252 + 3 = 255) (tgt := 266) (by decide) (fun q => ?_) (fun q => ?_)
  · replace h := if_t h q
    refine r_iconst hC dX0_run_266 (rfl : 266 + 1 = 267) (v := 0) (by decide) ?_
    exact (sX0_run_267 rfl hC hk  Q  t 0 σ h).sub [] rfl
  · replace h := if_f h q
    refine r_aload_n hC 0 dX0_run_255 (rfl : 255 + 1 = 256) rfl rfl ?_
    obtain ⟨ty_4, h⟩ := h
    refine r_getr hC t 0 9 (t + 6) (o := 6) fw_X0_41 ty_4 rfl dX0_run_256 (rfl : 256 + 3 = 259) ?_
    refine r_iload_n hC 1 dX0_run_259 (rfl : 259 + 1 = 260) rfl rfl ?_
    refine r_iconst hC dX0_run_260 (rfl : 260 + 1 = 261) (v := 1) (by decide) ?_
    refine r_isub hC dX0_run_261 (rfl : 261 + 1 = 262) ?_
    obtain ⟨q_5, h⟩ := h
    refine r_iald hC (t + 6) (la0_6 ty_4).1 (by rw [(la0_6 ty_4).2]; exact q_5) dX0_run_262 (rfl : 262 + 1 = 263) ?_
    refine r_goto hC dX0_run_263 (tgt := 267) (by decide) ?_
    exact (sX0_run_267 rfl hC hk  Q  t (σ.1 (t + 6) (Int32.toNatClampNeg (x3 - 1))) σ h).sub [] rfl
set_option maxHeartbeats 1000000 in
set_option maxRecDepth 100000 in
theorem sX0_run_244 {G : Gx} {b k : Nat} {K : Kx} {l : Launch} (hl : K.2.1 = l) (hC : Cx YC G b K cX0_run RX0 8 (some .boolean) k)  (hk : 1 ≤ k) (K8 : Nat → Int32 → Int32 → Int32 → Int32 → Int32 → Sg → Prop) (Q : Int32 → Sg → Prop) (h8 : ∀ (t : Nat) (x1 : Int32) (x2 : Int32) (x3 : Int32) (x4 : Int32) (x5 : Int32) (σ : Sg), K8 t x1 x2 x3 x4 x5 σ → V YC G K (Zi YC G K Q) 8 σ 8 [(0, .ref (G.1 t)), (1, .int x1), (2, .int x2), (3, .int x3), (4, .int x4), (5, .int x5)] []) (t : Nat) (x1 : Int32) (x2 : Int32) (x3 : Int32) (x4 : Int32) (x5 : Int32) (σ : Sg) (h : wX0_run_244 K8 t x1 x2 x3 x4 x5 σ Q) : V YC G K (Zi YC G K Q) 8 σ 244 [(0, .ref (G.1 t)), (1, .int x1), (2, .int x2), (3, .int x3), (4, .int x4), (5, .int x5)] [] := by
  subst hl
  unfold wX0_run_244 at h
  obtain ⟨x5_6, e_7, h⟩ := lt_nm h
  refine r_iinc hC (j := 5) dX0_run_244 (rfl : 244 + 3 = 247) rfl (zz := 1) (by decide) e_7 (by decide) (lv2 := [(5, .int x5_6), (0, .ref (G.1 t)), (1, .int x1), (2, .int x2), (3, .int x3), (4, .int x4)]) rfl ?_
  refine r_goto hC dX0_run_247 (tgt := 8) (by decide) ?_
  exact (h8 t x1 x2 x3 x4 x5_6 σ h).sub [1, 2, 3, 4, 5, 0] rfl
set_option maxHeartbeats 1000000 in
set_option maxRecDepth 100000 in
theorem sX0_run_214 {G : Gx} {b k : Nat} {K : Kx} {l : Launch} (hl : K.2.1 = l) (hC : Cx YC G b K cX0_run RX0 8 (some .boolean) k)  (hk : 1 ≤ k) (K8 : Nat → Int32 → Int32 → Int32 → Int32 → Int32 → Sg → Prop) (Q : Int32 → Sg → Prop) (h8 : ∀ (t : Nat) (x1 : Int32) (x2 : Int32) (x3 : Int32) (x4 : Int32) (x5 : Int32) (σ : Sg), K8 t x1 x2 x3 x4 x5 σ → V YC G K (Zi YC G K Q) 8 σ 8 [(0, .ref (G.1 t)), (1, .int x1), (2, .int x2), (3, .int x3), (4, .int x4), (5, .int x5)] []) (t : Nat) (x1 : Int32) (x2 : Int32) (x3 : Int32) (x4 : Int32) (x5 : Int32) (x6 : Int32) (σ : Sg) (h : wX0_run_214 K8 t x1 x2 x3 x4 x5 x6 σ Q) : V YC G K (Zi YC G K Q) 8 σ 214 [(0, .ref (G.1 t)), (1, .int x1), (2, .int x2), (3, .int x3), (4, .int x4), (5, .int x5), (6, .int x6)] [] := by
  subst hl
  unfold wX0_run_214 at h
  obtain ⟨x3_8, e_9, h⟩ := lt_nm h
  refine r_iinc hC (j := 3) dX0_run_214 (rfl : 214 + 3 = 217) rfl (zz := -1) (by decide) e_9 (by decide) (lv2 := [(3, .int x3_8), (0, .ref (G.1 t)), (1, .int x1), (2, .int x2), (4, .int x4), (5, .int x5), (6, .int x6)]) rfl ?_
  refine r_aload_n hC 1 dX0_run_217 (rfl : 217 + 1 = 218) rfl rfl ?_
  obtain ⟨ty_10, h⟩ := h
  refine r_getr hC t 0 9 (t + 6) (o := 6) fw_X0_41 ty_10 rfl dX0_run_218 (rfl : 218 + 3 = 221) ?_
  refine r_iload_n hC 0 dX0_run_221 (rfl : 221 + 1 = 222) rfl rfl ?_
  refine r_iconst hC dX0_run_222 (rfl : 222 + 1 = 223) (v := 1) (by decide) ?_
  refine r_isub hC dX0_run_223 (rfl : 223 + 1 = 224) ?_
  refine r_iload hC 6 dX0_run_224 (rfl : 224 + 2 = 226) rfl ?_
  refine r_aload_n hC 1 dX0_run_226 (rfl : 226 + 1 = 227) rfl rfl ?_
  refine r_getr hC t 0 9 (t + 6) (o := 6) fw_X0_41 ty_10 rfl dX0_run_227 (rfl : 227 + 3 = 230) ?_
  refine r_iload_n hC 0 dX0_run_230 (rfl : 230 + 1 = 231) rfl rfl ?_
  refine r_iconst hC dX0_run_231 (rfl : 231 + 1 = 232) (v := 1) (by decide) ?_
  refine r_isub hC dX0_run_232 (rfl : 232 + 1 = 233) ?_
  obtain ⟨q_11, h⟩ := h
  refine r_iald hC (t + 6) (la0_6 ty_10).1 (by rw [(la0_6 ty_10).2]; exact q_11) dX0_run_233 (rfl : 233 + 1 = 234) ?_
  refine r_aload_n hC 1 dX0_run_234 (rfl : 234 + 1 = 235) rfl rfl ?_
  refine r_getr hC t 0 9 (t + 6) (o := 6) fw_X0_41 ty_10 rfl dX0_run_235 (rfl : 235 + 3 = 238) ?_
  refine r_iload_n hC 0 dX0_run_238 (rfl : 238 + 1 = 239) rfl rfl ?_
  obtain ⟨q_12, h⟩ := h
  refine r_iald hC (t + 6) (la0_6 ty_10).1 (by rw [(la0_6 ty_10).2]; exact q_12) dX0_run_239 (rfl : 239 + 1 = 240) ?_
  refine r_callSi hC cs_X0_83 (by omega) (mX7_combine hC.2.2.2.2.2.2.2.2.1 (k := k - 1) (by omega) x6 (σ.1 (t + 6) (Int32.toNatClampNeg (x3_8 - 1))) (σ.1 (t + 6) (Int32.toNatClampNeg x3_8)) σ _ h) rfl rfl (Nat.le_of_ble_eq_true rfl) dX0_run_240 (rfl : 240 + 3 = 243) (fun r_14 σ_13 h => ?_)
  obtain ⟨σ_15, e_16, h⟩ := lt_nm h
  refine r_iast hC (t + 6) (la0_6 ty_10).1 (by rw [(la0_6 ty_10).2]; exact q_11) e_16 dX0_run_243 (rfl : 243 + 1 = 244) ?_
  exact (sX0_run_244 rfl hC hk K8 Q h8 t x1 x2 x3_8 x4 x5 σ_15 h).sub [1, 2, 3, 0, 4, 5] rfl
set_option maxHeartbeats 1000000 in
set_option maxRecDepth 100000 in
theorem sX0_run_158 {G : Gx} {b k : Nat} {K : Kx} {l : Launch} (hl : K.2.1 = l) (hC : Cx YC G b K cX0_run RX0 8 (some .boolean) k)  (hk : 1 ≤ k) (K8 : Nat → Int32 → Int32 → Int32 → Int32 → Int32 → Sg → Prop) (Q : Int32 → Sg → Prop) (h8 : ∀ (t : Nat) (x1 : Int32) (x2 : Int32) (x3 : Int32) (x4 : Int32) (x5 : Int32) (σ : Sg), K8 t x1 x2 x3 x4 x5 σ → V YC G K (Zi YC G K Q) 8 σ 8 [(0, .ref (G.1 t)), (1, .int x1), (2, .int x2), (3, .int x3), (4, .int x4), (5, .int x5)] []) (t : Nat) (x1 : Int32) (x2 : Int32) (x3 : Int32) (x5 : Int32) (s0 : Int32) (σ : Sg) (h : wX0_run_158 K8 t x1 x2 x3 x5 s0 σ Q) : V YC G K (Zi YC G K Q) 8 σ 158 [(0, .ref (G.1 t)), (1, .int x1), (2, .int x2), (3, .int x3), (5, .int x5)] [.int s0] := by
  subst hl
  unfold wX0_run_158 at h
  refine r_istore hC dX0_run_158 (rfl : 158 + 2 = 160) (by decide) rfl (lv2 := [(4, .int s0), (0, .ref (G.1 t)), (1, .int x1), (2, .int x2), (3, .int x3), (5, .int x5)]) rfl ?_
  refine r_goto hC dX0_run_160 (tgt := 244) (by decide) ?_
  exact (sX0_run_244 rfl hC hk K8 Q h8 t x1 x2 x3 s0 x5 σ h).sub [1, 2, 3, 4, 0, 5] rfl
set_option maxHeartbeats 1000000 in
set_option maxRecDepth 100000 in
theorem sX0_run_94 {G : Gx} {b k : Nat} {K : Kx} {l : Launch} (hl : K.2.1 = l) (hC : Cx YC G b K cX0_run RX0 8 (some .boolean) k)  (hk : 1 ≤ k) (K8 : Nat → Int32 → Int32 → Int32 → Int32 → Int32 → Sg → Prop) (Q : Int32 → Sg → Prop) (h8 : ∀ (t : Nat) (x1 : Int32) (x2 : Int32) (x3 : Int32) (x4 : Int32) (x5 : Int32) (σ : Sg), K8 t x1 x2 x3 x4 x5 σ → V YC G K (Zi YC G K Q) 8 σ 8 [(0, .ref (G.1 t)), (1, .int x1), (2, .int x2), (3, .int x3), (4, .int x4), (5, .int x5)] []) (t : Nat) (x1 : Int32) (x2 : Int32) (x3 : Int32) (x4 : Int32) (x5 : Int32) (s1 : Int32) (s2 : Int32) (σ : Sg) (h : wX0_run_94 K8 t x1 x2 x3 x4 x5 s1 s2 σ Q) : V YC G K (Zi YC G K Q) 8 σ 94 [(0, .ref (G.1 t)), (1, .int x1), (2, .int x2), (3, .int x3), (4, .int x4), (5, .int x5)] [.int s2, .int s1, .ref (G.1 (t + 6))] := by
  subst hl
  unfold wX0_run_94 at h
  obtain ⟨ty_17, h⟩ := h
  obtain ⟨q_18, h⟩ := h
  obtain ⟨σ_19, e_20, h⟩ := lt_nm h
  refine r_iast hC (t + 6) (la0_6 ty_17).1 (by rw [(la0_6 ty_17).2]; exact q_18) e_20 dX0_run_94 (rfl : 94 + 1 = 95) ?_
  obtain ⟨x3_21, e_22, h⟩ := lt_nm h
  refine r_iinc hC (j := 3) dX0_run_95 (rfl : 95 + 3 = 98) rfl (zz := 1) (by decide) e_22 (by decide) (lv2 := [(3, .int x3_21), (0, .ref (G.1 t)), (1, .int x1), (2, .int x2), (4, .int x4), (5, .int x5)]) rfl ?_
  refine r_goto hC dX0_run_98 (tgt := 244) (by decide) ?_
  exact (sX0_run_244 rfl hC hk K8 Q h8 t x1 x2 x3_21 x4 x5 σ_19 h).sub [1, 2, 3, 0, 4, 5] rfl
set_option maxHeartbeats 1000000 in
set_option maxRecDepth 100000 in
theorem sX0_run_8 {G : Gx} {b k : Nat} {K : Kx} {l : Launch} (hl : K.2.1 = l) (hC : Cx YC G b K cX0_run RX0 8 (some .boolean) k)  (hk : 1 ≤ k)  (Q : Int32 → Sg → Prop)  : ∀ (n : Nat) (t : Nat) (x1 : Int32) (x2 : Int32) (x3 : Int32) (x4 : Int32) (x5 : Int32) (σ : Sg), wX0_run_8  Q n t x1 x2 x3 x4 x5 σ → V YC G K (Zi YC G K Q) 8 σ 8 [(0, .ref (G.1 t)), (1, .int x1), (2, .int x2), (3, .int x3), (4, .int x4), (5, .int x5)] [] := by
  subst hl
  intro n
  induction n with
  | zero =>
    intro t x1 x2 x3 x4 x5 σ h
    exact h.elim
  | succ n ih =>
    intro t x1 x2 x3 x4 x5 σ h
    have h : wX0_run_8_b  (wX0_run_8  Q n) t x1 x2 x3 x4 x5 σ Q := h
    unfold wX0_run_8_b at h
    refine r_iload hC 5 dX0_run_8 (rfl : 8 + 2 = 10) rfl ?_
    refine r_aload_n hC 0 dX0_run_10 (rfl : 10 + 1 = 11) rfl rfl ?_
    obtain ⟨ty_23, h⟩ := h
    refine r_geti hC t 0 2 fw_X0_18 ty_23 dX0_run_11 (rfl : 11 + 3 = 14) ?_
    refine r_icmp_gt hC dX0_run_14 (rfl : 14 + 3 = 17) (tgt := 250) (by decide) (fun q => ?_) (fun q => ?_)
    · replace h := if_t h q
      exact (sX0_run_250 rfl hC hk  Q  t x3 σ h).sub [0, 3] rfl
    · replace h := if_f h q
      refine r_iload hC 4 dX0_run_17 (rfl : 17 + 2 = 19) rfl ?_
      refine r_aload_n hC 0 dX0_run_19 (rfl : 19 + 1 = 20) rfl rfl ?_
      refine r_geti hC t 0 2 fw_X0_18 ty_23 dX0_run_20 (rfl : 20 + 3 = 23) ?_
      refine r_icmp_ge hC dX0_run_23 (rfl : 23 + 3 = 26) (tgt := 250) (by decide) (fun q => ?_) (fun q => ?_)
      · replace h := if_t h q
        exact (sX0_run_250 rfl hC hk  Q  t x3 σ h).sub [0, 3] rfl
      · replace h := if_f h q
        refine r_aload_n hC 0 dX0_run_26 (rfl : 26 + 1 = 27) rfl rfl ?_
        refine r_iload hC 5 dX0_run_27 (rfl : 27 + 2 = 29) rfl ?_
        obtain ⟨σ_24, e_25, h⟩ := lt_nm h
        refine r_puti hC t 0 11 fw_X0_47 fp_0_11 ty_23 e_25 dX0_run_29 (rfl : 29 + 3 = 32) ?_
        refine r_aload_n hC 0 dX0_run_32 (rfl : 32 + 1 = 33) rfl rfl ?_
        refine r_getr hC t 0 0 (t + 1) (o := 1) fw_X0_11 ty_23 rfl dX0_run_33 (rfl : 33 + 3 = 36) ?_
        refine r_iload hC 4 dX0_run_36 (rfl : 36 + 2 = 38) rfl ?_
        obtain ⟨q_26, h⟩ := h
        refine r_iald hC (t + 1) (la0_1 ty_23).1 (by rw [(la0_1 ty_23).2]; exact q_26) dX0_run_38 (rfl : 38 + 1 = 39) ?_
        obtain ⟨x6_27, e_28, h⟩ := lt_nm h
        refine r_istore hC dX0_run_39 (rfl : 39 + 2 = 41) (by decide) e_28 (lv2 := [(6, .int x6_27), (0, .ref (G.1 t)), (1, .int x1), (2, .int x2), (3, .int x3), (4, .int x4), (5, .int x5)]) rfl ?_
        refine r_aload_n hC 1 dX0_run_41 (rfl : 41 + 1 = 42) rfl rfl ?_
        refine r_getr hC t 0 1 (t + 2) (o := 2) fw_X0_15 ty_23 rfl dX0_run_42 (rfl : 42 + 3 = 45) ?_
        refine r_iload hC 5 dX0_run_45 (rfl : 45 + 2 = 47) rfl ?_
        refine r_iald hC (t + 2) (la0_2 ty_23).1 (by rw [(la0_2 ty_23).2]; exact q_26) dX0_run_47 (rfl : 47 + 1 = 48) ?_
        obtain ⟨x7_29, e_30, h⟩ := lt_nm h
        refine r_istore hC dX0_run_48 (rfl : 48 + 2 = 50) (by decide) e_30 (lv2 := [(7, .int x7_29), (6, .int x6_27), (0, .ref (G.1 t)), (1, .int x1), (2, .int x2), (3, .int x3), (4, .int x4), (5, .int x5)]) rfl ?_
        obtain ⟨x4_31, e_32, h⟩ := lt_nm h
        refine r_iinc hC (j := 6) dX0_run_50 (rfl : 50 + 3 = 53) rfl (zz := 1) (by decide) e_32 (by decide) (lv2 := [(4, .int x4_31), (7, .int x7_29), (6, .int x6_27), (0, .ref (G.1 t)), (1, .int x1), (2, .int x2), (3, .int x3), (5, .int x5)]) rfl ?_
        refine r_iload hC 2 dX0_run_53 (rfl : 53 + 2 = 55) rfl ?_
        refine r_iconst hC dX0_run_55 (rfl : 55 + 1 = 56) (v := 2) (by decide) ?_
        refine r_icmp_gt hC dX0_run_56 (rfl : 56 + 3 = 59) (tgt := 101) (by decide) (fun q => ?_) (fun q => ?_)
        · replace h := if_t h q
          refine r_iload hC 2 dX0_run_101 (rfl : 101 + 2 = 103) rfl ?_
          refine r_bipush hC dX0_run_103 (rfl : 103 + 2 = 105) (v := 10) (by decide) ?_
          refine r_icmp_ne hC dX0_run_105 (rfl : 105 + 3 = 108) (tgt := 120) (by decide) (fun q => ?_) (fun q => ?_)
          · replace h := if_f h q
            refine r_iload_n hC 6 dX0_run_120 (rfl : 120 + 1 = 121) rfl rfl ?_
            refine r_iconst hC dX0_run_121 (rfl : 121 + 1 = 122) (v := 1) (by decide) ?_
            refine r_icmp_ge hC dX0_run_122 (rfl : 122 + 3 = 125) (tgt := 127) (by decide) (fun q => ?_) (fun q => ?_)
            · replace h := if_t h q
              refine r_iload hC 2 dX0_run_127 (rfl : 127 + 2 = 129) rfl ?_
              refine r_bipush hC dX0_run_129 (rfl : 129 + 2 = 131) (v := 9) (by decide) ?_
              refine r_icmp_ne hC dX0_run_131 (rfl : 131 + 3 = 134) (tgt := 163) (by decide) (fun q => ?_) (fun q => ?_)
              · replace h := if_f h q
                refine r_iload hC 2 dX0_run_163 (rfl : 163 + 2 = 165) rfl ?_
                refine r_iconst hC dX0_run_165 (rfl : 165 + 1 = 166) (v := 3) (by decide) ?_
                refine r_icmp_ne hC dX0_run_166 (rfl : 166 + 3 = 169) (tgt := 189) (by decide) (fun q => ?_) (fun q => ?_)
                · replace h := if_f h q
                  refine r_iload_n hC 6 dX0_run_189 (rfl : 189 + 1 = 190) rfl rfl ?_
                  refine r_iconst hC dX0_run_190 (rfl : 190 + 1 = 191) (v := 2) (by decide) ?_
                  refine r_icmp_lt hC dX0_run_191 (rfl : 191 + 3 = 194) (tgt := 212) (by decide) (fun q => ?_) (fun q => ?_)
                  · replace h := if_t h q
                    refine r_iconst hC dX0_run_212 (rfl : 212 + 1 = 213) (v := 0) (by decide) ?_
                    exact r_zret hC rfl (by decide) h dX0_run_213
                  · replace h := if_f h q
                    refine r_iload hC 2 dX0_run_194 (rfl : 194 + 2 = 196) rfl ?_
                    refine r_bipush hC dX0_run_196 (rfl : 196 + 2 = 198) (v := 7) (by decide) ?_
                    refine r_icmp_ne hC dX0_run_198 (rfl : 198 + 3 = 201) (tgt := 214) (by decide) (fun q => ?_) (fun q => ?_)
                    · replace h := if_f h q
                      exact (sX0_run_214 rfl hC hk (wX0_run_8  Q n) Q ih t x1 x2 x3 x4_31 x5 x6_27 σ_24 h).sub [3, 4, 5, 6, 0, 7, 2] rfl
                    · replace h := if_t h q
                      refine r_aload_n hC 3 dX0_run_201 (rfl : 201 + 1 = 202) rfl rfl ?_
                      refine r_getr hC t 0 9 (t + 6) (o := 6) fw_X0_41 ty_23 rfl dX0_run_202 (rfl : 202 + 3 = 205) ?_
                      refine r_iload_n hC 6 dX0_run_205 (rfl : 205 + 1 = 206) rfl rfl ?_
                      refine r_iconst hC dX0_run_206 (rfl : 206 + 1 = 207) (v := 1) (by decide) ?_
                      refine r_isub hC dX0_run_207 (rfl : 207 + 1 = 208) ?_
                      obtain ⟨q_33, h⟩ := h
                      refine r_iald hC (t + 6) (la0_6 ty_23).1 (by rw [(la0_6 ty_23).2]; exact q_33) dX0_run_208 (rfl : 208 + 1 = 209) ?_
                      refine r_if_ne hC dX0_run_209 (rfl : 209 + 3 = 212) (tgt := 214) (by decide) (fun q => ?_) (fun q => ?_)
                      · replace h := if_f h q
                        exact (sX0_run_214 rfl hC hk (wX0_run_8  Q n) Q ih t x1 x2 x3 x4_31 x5 x6_27 σ_24 h).sub [3, 4, 5, 6, 0, 7, 2] rfl
                      · replace h := if_t h q
                        refine r_iconst hC dX0_run_212 (rfl : 212 + 1 = 213) (v := 0) (by decide) ?_
                        exact r_zret hC rfl (by decide) h dX0_run_213
                · replace h := if_t h q
                  refine r_aload_n hC 3 dX0_run_169 (rfl : 169 + 1 = 170) rfl rfl ?_
                  refine r_getr hC t 0 9 (t + 6) (o := 6) fw_X0_41 ty_23 rfl dX0_run_170 (rfl : 170 + 3 = 173) ?_
                  refine r_iload_n hC 6 dX0_run_173 (rfl : 173 + 1 = 174) rfl rfl ?_
                  refine r_iconst hC dX0_run_174 (rfl : 174 + 1 = 175) (v := 1) (by decide) ?_
                  refine r_isub hC dX0_run_175 (rfl : 175 + 1 = 176) ?_
                  refine r_aload_n hC 3 dX0_run_176 (rfl : 176 + 1 = 177) rfl rfl ?_
                  refine r_getr hC t 0 9 (t + 6) (o := 6) fw_X0_41 ty_23 rfl dX0_run_177 (rfl : 177 + 3 = 180) ?_
                  refine r_iload_n hC 6 dX0_run_180 (rfl : 180 + 1 = 181) rfl rfl ?_
                  refine r_iconst hC dX0_run_181 (rfl : 181 + 1 = 182) (v := 1) (by decide) ?_
                  refine r_isub hC dX0_run_182 (rfl : 182 + 1 = 183) ?_
                  obtain ⟨q_34, h⟩ := h
                  refine r_iald hC (t + 6) (la0_6 ty_23).1 (by rw [(la0_6 ty_23).2]; exact q_34) dX0_run_183 (rfl : 183 + 1 = 184) ?_
                  refine r_ineg hC dX0_run_184 (rfl : 184 + 1 = 185) ?_
                  obtain ⟨σ_35, e_36, h⟩ := lt_nm h
                  refine r_iast hC (t + 6) (la0_6 ty_23).1 (by rw [(la0_6 ty_23).2]; exact q_34) e_36 dX0_run_185 (rfl : 185 + 1 = 186) ?_
                  refine r_goto hC dX0_run_186 (tgt := 244) (by decide) ?_
                  exact (sX0_run_244 rfl hC hk (wX0_run_8  Q n) Q ih t x1 x2 x3 x4_31 x5 σ_35 h).sub [3, 4, 5, 6, 0, 7] rfl
              · replace h := if_t h q
                obtain ⟨x3_37, e_38, h⟩ := lt_nm h
                refine r_iinc hC (j := 6) dX0_run_134 (rfl : 134 + 3 = 137) rfl (zz := -1) (by decide) e_38 (by decide) (lv2 := [(3, .int x3_37), (4, .int x4_31), (7, .int x7_29), (6, .int x6_27), (0, .ref (G.1 t)), (1, .int x1), (2, .int x2), (5, .int x5)]) rfl ?_
                refine r_aload_n hC 4 dX0_run_137 (rfl : 137 + 1 = 138) rfl rfl ?_
                refine r_getr hC t 0 9 (t + 6) (o := 6) fw_X0_41 ty_23 rfl dX0_run_138 (rfl : 138 + 3 = 141) ?_
                refine r_iload_n hC 0 dX0_run_141 (rfl : 141 + 1 = 142) rfl rfl ?_
                obtain ⟨q_39, h⟩ := h
                refine r_iald hC (t + 6) (la0_6 ty_23).1 (by rw [(la0_6 ty_23).2]; exact q_39) dX0_run_142 (rfl : 142 + 1 = 143) ?_
                refine r_if_ne hC dX0_run_143 (rfl : 143 + 3 = 146) (tgt := 156) (by decide) (fun q => ?_) (fun q => ?_)
                · replace h := if_f h q
                  refine r_iload hC 1 dX0_run_156 (rfl : 156 + 2 = 158) rfl ?_
                  exact (sX0_run_158 rfl hC hk (wX0_run_8  Q n) Q ih t x1 x2 x3_37 x5 x4_31 σ_24 h).sub [4, 5, 6, 0, 7] rfl
                · replace h := if_t h q
                  refine r_iload hC 1 dX0_run_146 (rfl : 146 + 2 = 148) rfl ?_
                  refine r_iload hC 2 dX0_run_148 (rfl : 148 + 2 = 150) rfl ?_
                  refine r_mmax hC cs_X0_77 (by omega) (Nat.le_of_ble_eq_true rfl) dX0_run_150 (rfl : 150 + 3 = 153) ?_
                  refine r_goto hC dX0_run_153 (tgt := 158) (by decide) ?_
                  exact (sX0_run_158 rfl hC hk (wX0_run_8  Q n) Q ih t x1 x2 x3_37 x5 (if x4_31 < x7_29 then x7_29 else x4_31) σ_24 h).sub [4, 5, 6, 0, 7] rfl
            · replace h := if_f h q
              refine r_iconst hC dX0_run_125 (rfl : 125 + 1 = 126) (v := 0) (by decide) ?_
              exact r_zret hC rfl (by decide) h dX0_run_126
          · replace h := if_t h q
            refine r_iload hC 0 dX0_run_108 (rfl : 108 + 2 = 110) rfl ?_
            refine r_iload hC 1 dX0_run_110 (rfl : 110 + 2 = 112) rfl ?_
            refine r_mmax hC cs_X0_77 (by omega) (Nat.le_of_ble_eq_true rfl) dX0_run_112 (rfl : 112 + 3 = 115) ?_
            obtain ⟨x4_40, e_41, h⟩ := lt_nm h
            refine r_istore hC dX0_run_115 (rfl : 115 + 2 = 117) (by decide) e_41 (lv2 := [(4, .int x4_40), (7, .int x7_29), (6, .int x6_27), (0, .ref (G.1 t)), (1, .int x1), (2, .int x2), (3, .int x3), (5, .int x5)]) rfl ?_
            refine r_goto hC dX0_run_117 (tgt := 244) (by decide) ?_
            exact (sX0_run_244 rfl hC hk (wX0_run_8  Q n) Q ih t x1 x2 x3 x4_40 x5 σ_24 h).sub [3, 4, 5, 6, 0, 7] rfl
        · replace h := if_f h q
          refine r_iload_n hC 6 dX0_run_59 (rfl : 59 + 1 = 60) rfl rfl ?_
          refine r_sipush hC dX0_run_60 (rfl : 60 + 3 = 63) (v := 200) (by decide) ?_
          refine r_icmp_lt hC dX0_run_63 (rfl : 63 + 3 = 66) (tgt := 68) (by decide) (fun q => ?_) (fun q => ?_)
          · replace h := if_t h q
            refine r_aload_n hC 3 dX0_run_68 (rfl : 68 + 1 = 69) rfl rfl ?_
            refine r_getr hC t 0 9 (t + 6) (o := 6) fw_X0_41 ty_23 rfl dX0_run_69 (rfl : 69 + 3 = 72) ?_
            refine r_iload_n hC 6 dX0_run_72 (rfl : 72 + 1 = 73) rfl rfl ?_
            refine r_iload hC 2 dX0_run_73 (rfl : 73 + 2 = 75) rfl ?_
            refine r_if_ne hC dX0_run_75 (rfl : 75 + 3 = 78) (tgt := 83) (by decide) (fun q => ?_) (fun q => ?_)
            · replace h := if_f h q
              refine r_iload hC 2 dX0_run_83 (rfl : 83 + 2 = 85) rfl ?_
              refine r_iconst hC dX0_run_85 (rfl : 85 + 1 = 86) (v := 1) (by decide) ?_
              refine r_icmp_ne hC dX0_run_86 (rfl : 86 + 3 = 89) (tgt := 93) (by decide) (fun q => ?_) (fun q => ?_)
              · replace h := if_f h q
                refine r_iload_n hC 5 dX0_run_93 (rfl : 93 + 1 = 94) rfl rfl ?_
                exact (sX0_run_94 rfl hC hk (wX0_run_8  Q n) Q ih t x1 x2 x3 x4_31 x5 x3 x2 σ_24 h).sub [3, 4, 5, 6, 0, 7] rfl
              · replace h := if_t h q
                refine r_iload_n hC 4 dX0_run_89 (rfl : 89 + 1 = 90) rfl rfl ?_
                refine r_goto hC dX0_run_90 (tgt := 94) (by decide) ?_
                exact (sX0_run_94 rfl hC hk (wX0_run_8  Q n) Q ih t x1 x2 x3 x4_31 x5 x3 x1 σ_24 h).sub [3, 4, 5, 6, 0, 7] rfl
            · replace h := if_t h q
              refine r_iload hC 1 dX0_run_78 (rfl : 78 + 2 = 80) rfl ?_
              refine r_goto hC dX0_run_80 (tgt := 94) (by decide) ?_
              exact (sX0_run_94 rfl hC hk (wX0_run_8  Q n) Q ih t x1 x2 x3 x4_31 x5 x3 x7_29 σ_24 h).sub [3, 4, 5, 6, 0, 7] rfl
          · replace h := if_f h q
            refine r_iconst hC dX0_run_66 (rfl : 66 + 1 = 67) (v := 0) (by decide) ?_
            exact r_zret hC rfl (by decide) h dX0_run_67
set_option maxHeartbeats 1000000 in
set_option maxRecDepth 100000 in
theorem mX0_run {G : Gx} {b k : Nat} {l : Launch} (hS : Sok YC G)  (hk : 1 ≤ k) (t : Nat) (x1 : Int32) (x2 : Int32) (σ : Sg) (Q : Int32 → Sg → Prop) (h : wX0_run  t x1 x2 σ Q) : Mi YC G b l yX0_run cX0_run 8 .boolean k [.ref (G.1 t), .int x1, .int x2] σ Q := by
  refine enter hS (by decide +kernel) (Nat.le_of_ble_eq_true rfl) (lv := [(0, .ref (G.1 t)), (1, .int x1), (2, .int x2)]) rfl (fun K hl hC => ?_)
  subst hl
  unfold wX0_run at h
  show V YC G K (Zi YC G K Q) 8 σ 0 [(0, .ref (G.1 t)), (1, .int x1), (2, .int x2)] []
  refine r_iconst hC dX0_run_0 (rfl : 0 + 1 = 1) (v := 0) (by decide) ?_
  refine r_istore_n hC dX0_run_1 (rfl : 1 + 1 = 2) rfl (by decide) rfl (lv2 := [(3, .int 0), (0, .ref (G.1 t)), (1, .int x1), (2, .int x2)]) rfl ?_
  refine r_iconst hC dX0_run_2 (rfl : 2 + 1 = 3) (v := 0) (by decide) ?_
  refine r_istore hC dX0_run_3 (rfl : 3 + 2 = 5) (by decide) rfl (lv2 := [(4, .int 0), (3, .int 0), (0, .ref (G.1 t)), (1, .int x1), (2, .int x2)]) rfl ?_
  refine r_iconst hC dX0_run_5 (rfl : 5 + 1 = 6) (v := 1) (by decide) ?_
  refine r_istore hC dX0_run_6 (rfl : 6 + 2 = 8) (by decide) rfl (lv2 := [(5, .int 1), (4, .int 0), (3, .int 0), (0, .ref (G.1 t)), (1, .int x1), (2, .int x2)]) rfl ?_
  obtain ⟨nn, h⟩ := h
  exact (sX0_run_8 rfl hC hk  Q  nn t x1 x2 0 0 1 σ h).sub [3, 4, 5, 2, 1, 0] rfl
