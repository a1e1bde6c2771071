set_option maxHeartbeats 1000000 in
set_option maxRecDepth 100000 in
theorem sX8_twiced_129 {G : Gx} {b k : Nat} {K : Kx} {l : Launch} (hl : K.2.1 = l) (hC : Cx YM G b K cX8_twiced RX8 3 (some .int) k)  (hk : 3 ≤ k)  (Q : Int32 → Sg → Prop)  (x1 : Int32) (x2 : Int32) (σ : Sg) (h : wX8_twiced_129  x1 x2 σ Q) : V YM G K (Zi YM G K Q) 3 σ 129 [(0, .ref (G.1 0)), (1, .int x1), (2, .int x2)] [] := by
  subst hl
  unfold wX8_twiced_129 at h
  refine r_aload_n hC 0 dX8_twiced_129 (rfl : 129 + 1 = 130) rfl rfl ?_
  refine r_getr hC 0 7 2 1 (o := 1) fw_X8_7 rfl rfl dX8_twiced_130 (rfl : 130 + 3 = 133) ?_
  refine r_iload_n hC 1 dX8_twiced_133 (rfl : 133 + 1 = 134) rfl rfl ?_
  obtain ⟨q_1, h⟩ := h
  refine r_iald hC 1 rfl q_1 dX8_twiced_134 (rfl : 134 + 1 = 135) ?_
  refine r_bipush hC dX8_twiced_135 (rfl : 135 + 2 = 137) (v := 7) (by decide) ?_
  refine r_icmp_ne hC dX8_twiced_137 (rfl : 137 + 3 = 140) (tgt := 174) (by decide) (fun q => ?_) (fun q => ?_)
  · replace h := if_f h q
    refine r_iload_n hC 1 dX8_twiced_174 (rfl : 174 + 1 = 175) rfl rfl ?_
    exact r_iret hC rfl h dX8_twiced_175
  · replace h := if_t h q
    refine r_iload_n hC 2 dX8_twiced_140 (rfl : 140 + 1 = 141) rfl rfl ?_
    refine r_iconst hC dX8_twiced_141 (rfl : 141 + 1 = 142) (v := 2) (by decide) ?_
    refine r_icmp_ne hC dX8_twiced_142 (rfl : 142 + 3 = 145) (tgt := 174) (by decide) (fun q => ?_) (fun q => ?_)
    · replace h := if_f h q
      refine r_iload_n hC 1 dX8_twiced_174 (rfl : 174 + 1 = 175) rfl rfl ?_
      exact r_iret hC rfl h dX8_twiced_175
    · replace h := if_t h q
      refine r_aload_n hC 0 dX8_twiced_145 (rfl : 145 + 1 = 146) rfl rfl ?_
      refine r_aload_n hC 0 dX8_twiced_146 (rfl : 146 + 1 = 147) rfl rfl ?_
      refine r_getr hC 0 7 5 4 (o := 4) fw_X8_19 rfl rfl dX8_twiced_147 (rfl : 147 + 3 = 150) ?_
      refine r_iload_n hC 1 dX8_twiced_150 (rfl : 150 + 1 = 151) rfl rfl ?_
      refine r_iald hC 4 rfl q_1 dX8_twiced_151 (rfl : 151 + 1 = 152) ?_
      refine r_iconst hC dX8_twiced_152 (rfl : 152 + 1 = 153) (v := 2) (by decide) ?_
      refine r_callVi hC cs_X8_147 rfl (by omega) (mX8_isNumber hC.2.2.2.2.2.2.2.2.1 (k := k - 1) (by omega) (σ.1 4 (Int32.toNatClampNeg x1)) 2 σ _ h) rfl rfl (Nat.le_of_ble_eq_true rfl) dX8_twiced_153 (rfl : 153 + 3 = 156) (fun r_3 σ_2 h => ?_)
      refine r_if_eq hC dX8_twiced_156 (rfl : 156 + 3 = 159) (tgt := 174) (by decide) (fun q => ?_) (fun q => ?_)
      · replace h := if_t h q
        refine r_iload_n hC 1 dX8_twiced_174 (rfl : 174 + 1 = 175) rfl rfl ?_
        exact r_iret hC rfl h dX8_twiced_175
      · replace h := if_f h q
        refine r_aload_n hC 0 dX8_twiced_159 (rfl : 159 + 1 = 160) rfl rfl ?_
        refine r_iload_n hC 1 dX8_twiced_160 (rfl : 160 + 1 = 161) rfl rfl ?_
        refine r_iconst hC dX8_twiced_161 (rfl : 161 + 1 = 162) (v := 5) (by decide) ?_
        refine r_aload_n hC 0 dX8_twiced_162 (rfl : 162 + 1 = 163) rfl rfl ?_
        refine r_getr hC 0 7 4 3 (o := 3) fw_X8_16 rfl rfl dX8_twiced_163 (rfl : 163 + 3 = 166) ?_
        refine r_iload_n hC 1 dX8_twiced_166 (rfl : 166 + 1 = 167) rfl rfl ?_
        refine r_iald hC 3 rfl q_1 dX8_twiced_167 (rfl : 167 + 1 = 168) ?_
        refine r_callVi hC cs_X8_160 rfl (by omega) (mX8_twice hC.2.2.2.2.2.2.2.2.1 (k := k - 1) (by omega) x1 5 (σ_2.1 3 (Int32.toNatClampNeg x1)) σ_2 _ h) rfl rfl (Nat.le_of_ble_eq_true rfl) dX8_twiced_168 (rfl : 168 + 3 = 171) (fun r_5 σ_4 h => ?_)
        refine r_goto hC dX8_twiced_171 (tgt := 175) (by decide) ?_
        exact r_iret hC rfl h dX8_twiced_175
set_option maxHeartbeats 1000000 in
set_option maxRecDepth 100000 in
theorem sX8_twiced_97 {G : Gx} {b k : Nat} {K : Kx} {l : Launch} (hl : K.2.1 = l) (hC : Cx YM G b K cX8_twiced RX8 3 (some .int) k)  (hk : 3 ≤ k)  (Q : Int32 → Sg → Prop)  (x1 : Int32) (x2 : Int32) (σ : Sg) (h : wX8_twiced_97  x1 x2 σ Q) : V YM G K (Zi YM G K Q) 3 σ 97 [(0, .ref (G.1 0)), (1, .int x1), (2, .int x2)] [] := by
  subst hl
  unfold wX8_twiced_97 at h
  refine r_iload_n hC 2 dX8_twiced_97 (rfl : 97 + 1 = 98) rfl rfl ?_
  refine r_iconst hC dX8_twiced_98 (rfl : 98 + 1 = 99) (v := 1) (by decide) ?_
  refine r_icmp_ne hC dX8_twiced_99 (rfl : 99 + 3 = 102) (tgt := 129) (by decide) (fun q => ?_) (fun q => ?_)
  · replace h := if_f h q
    exact (sX8_twiced_129 rfl hC hk  Q  x1 x2 σ h).sub [0, 1, 2] rfl
  · replace h := if_t h q
    refine r_aload_n hC 0 dX8_twiced_102 (rfl : 102 + 1 = 103) rfl rfl ?_
    refine r_aload_n hC 0 dX8_twiced_103 (rfl : 103 + 1 = 104) rfl rfl ?_
    refine r_getr hC 0 7 4 3 (o := 3) fw_X8_16 rfl rfl dX8_twiced_104 (rfl : 104 + 3 = 107) ?_
    refine r_iload_n hC 1 dX8_twiced_107 (rfl : 107 + 1 = 108) rfl rfl ?_
    obtain ⟨q_6, h⟩ := h
    refine r_iald hC 3 rfl q_6 dX8_twiced_108 (rfl : 108 + 1 = 109) ?_
    refine r_iconst hC dX8_twiced_109 (rfl : 109 + 1 = 110) (v := 3) (by decide) ?_
    refine r_callVi hC cs_X8_147 rfl (by omega) (mX8_isNumber hC.2.2.2.2.2.2.2.2.1 (k := k - 1) (by omega) (σ.1 3 (Int32.toNatClampNeg x1)) 3 σ _ h) rfl rfl (Nat.le_of_ble_eq_true rfl) dX8_twiced_110 (rfl : 110 + 3 = 113) (fun r_8 σ_7 h => ?_)
    refine r_if_eq hC dX8_twiced_113 (rfl : 113 + 3 = 116) (tgt := 129) (by decide) (fun q => ?_) (fun q => ?_)
    · replace h := if_t h q
      exact (sX8_twiced_129 rfl hC hk  Q  x1 x2 σ_7 h).sub [0, 1, 2] rfl
    · replace h := if_f h q
      refine r_aload_n hC 0 dX8_twiced_116 (rfl : 116 + 1 = 117) rfl rfl ?_
      refine r_iload_n hC 1 dX8_twiced_117 (rfl : 117 + 1 = 118) rfl rfl ?_
      refine r_iconst hC dX8_twiced_118 (rfl : 118 + 1 = 119) (v := 4) (by decide) ?_
      refine r_aload_n hC 0 dX8_twiced_119 (rfl : 119 + 1 = 120) rfl rfl ?_
      refine r_getr hC 0 7 5 4 (o := 4) fw_X8_19 rfl rfl dX8_twiced_120 (rfl : 120 + 3 = 123) ?_
      refine r_iload_n hC 1 dX8_twiced_123 (rfl : 123 + 1 = 124) rfl rfl ?_
      refine r_iald hC 4 rfl q_6 dX8_twiced_124 (rfl : 124 + 1 = 125) ?_
      refine r_callVi hC cs_X8_160 rfl (by omega) (mX8_twice hC.2.2.2.2.2.2.2.2.1 (k := k - 1) (by omega) x1 4 (σ_7.1 4 (Int32.toNatClampNeg x1)) σ_7 _ h) rfl rfl (Nat.le_of_ble_eq_true rfl) dX8_twiced_125 (rfl : 125 + 3 = 128) (fun r_10 σ_9 h => ?_)
      exact r_iret hC rfl h dX8_twiced_128
set_option maxHeartbeats 1000000 in
set_option maxRecDepth 100000 in
theorem mX8_twiced {G : Gx} {b k : Nat} {l : Launch} (hS : Sok YM G)  (hk : 3 ≤ k) (x1 : Int32) (x2 : Int32) (σ : Sg) (Q : Int32 → Sg → Prop) (h : wX8_twiced  x1 x2 σ Q) : Mi YM G b l yX8_twiced cX8_twiced 3 .int k [.ref (G.1 0), .int x1, .int x2] σ Q := by
  refine enter hS (by decide +kernel) (Nat.le_of_ble_eq_true rfl) (lv := [(0, .ref (G.1 0)), (1, .int x1), (2, .int x2)]) rfl (fun K hl hC => ?_)
  subst hl
  unfold wX8_twiced at h
  show V YM G K (Zi YM G K Q) 3 σ 0 [(0, .ref (G.1 0)), (1, .int x1), (2, .int x2)] []
  refine r_aload_n hC 0 dX8_twiced_0 (rfl : 0 + 1 = 1) rfl rfl ?_
  refine r_getr hC 0 7 2 1 (o := 1) fw_X8_7 rfl rfl dX8_twiced_1 (rfl : 1 + 3 = 4) ?_
  refine r_iload_n hC 1 dX8_twiced_4 (rfl : 4 + 1 = 5) rfl rfl ?_
  obtain ⟨q_11, h⟩ := h
  refine r_iald hC 1 rfl q_11 dX8_twiced_5 (rfl : 5 + 1 = 6) ?_
  refine r_bipush hC dX8_twiced_6 (rfl : 6 + 2 = 8) (v := 6) (by decide) ?_
  refine r_icmp_ne hC dX8_twiced_8 (rfl : 8 + 3 = 11) (tgt := 129) (by decide) (fun q => ?_) (fun q => ?_)
  · replace h := if_f h q
    exact (sX8_twiced_129 rfl hC hk  Q  x1 x2 σ h).sub [0, 1, 2] rfl
  · replace h := if_t h q
    refine r_aload_n hC 0 dX8_twiced_11 (rfl : 11 + 1 = 12) rfl rfl ?_
    refine r_aload_n hC 0 dX8_twiced_12 (rfl : 12 + 1 = 13) rfl rfl ?_
    refine r_getr hC 0 7 5 4 (o := 4) fw_X8_19 rfl rfl dX8_twiced_13 (rfl : 13 + 3 = 16) ?_
    refine r_iload_n hC 1 dX8_twiced_16 (rfl : 16 + 1 = 17) rfl rfl ?_
    refine r_iald hC 4 rfl q_11 dX8_twiced_17 (rfl : 17 + 1 = 18) ?_
    refine r_iconst hC dX8_twiced_18 (rfl : 18 + 1 = 19) (v := 2) (by decide) ?_
    refine r_callVi hC cs_X8_147 rfl (by omega) (mX8_isNumber hC.2.2.2.2.2.2.2.2.1 (k := k - 1) (by omega) (σ.1 4 (Int32.toNatClampNeg x1)) 2 σ _ h) rfl rfl (Nat.le_of_ble_eq_true rfl) dX8_twiced_19 (rfl : 19 + 3 = 22) (fun r_13 σ_12 h => ?_)
    refine r_if_eq hC dX8_twiced_22 (rfl : 22 + 3 = 25) (tgt := 38) (by decide) (fun q => ?_) (fun q => ?_)
    · replace h := if_t h q
      refine r_aload_n hC 0 dX8_twiced_38 (rfl : 38 + 1 = 39) rfl rfl ?_
      refine r_aload_n hC 0 dX8_twiced_39 (rfl : 39 + 1 = 40) rfl rfl ?_
      refine r_getr hC 0 7 4 3 (o := 3) fw_X8_16 rfl rfl dX8_twiced_40 (rfl : 40 + 3 = 43) ?_
      refine r_iload_n hC 1 dX8_twiced_43 (rfl : 43 + 1 = 44) rfl rfl ?_
      refine r_iald hC 3 rfl q_11 dX8_twiced_44 (rfl : 44 + 1 = 45) ?_
      refine r_iconst hC dX8_twiced_45 (rfl : 45 + 1 = 46) (v := 2) (by decide) ?_
      refine r_callVi hC cs_X8_147 rfl (by omega) (mX8_isNumber hC.2.2.2.2.2.2.2.2.1 (k := k - 1) (by omega) (σ_12.1 3 (Int32.toNatClampNeg x1)) 2 σ_12 _ h) rfl rfl (Nat.le_of_ble_eq_true rfl) dX8_twiced_46 (rfl : 46 + 3 = 49) (fun r_15 σ_14 h => ?_)
      refine r_if_eq hC dX8_twiced_49 (rfl : 49 + 3 = 52) (tgt := 65) (by decide) (fun q => ?_) (fun q => ?_)
      · replace h := if_t h q
        refine r_iload_n hC 2 dX8_twiced_65 (rfl : 65 + 1 = 66) rfl rfl ?_
        refine r_iconst hC dX8_twiced_66 (rfl : 66 + 1 = 67) (v := 1) (by decide) ?_
        refine r_icmp_ne hC dX8_twiced_67 (rfl : 67 + 3 = 70) (tgt := 97) (by decide) (fun q => ?_) (fun q => ?_)
        · replace h := if_f h q
          exact (sX8_twiced_97 rfl hC hk  Q  x1 x2 σ_14 h).sub [0, 1, 2] rfl
        · replace h := if_t h q
          refine r_aload_n hC 0 dX8_twiced_70 (rfl : 70 + 1 = 71) rfl rfl ?_
          refine r_aload_n hC 0 dX8_twiced_71 (rfl : 71 + 1 = 72) rfl rfl ?_
          refine r_getr hC 0 7 5 4 (o := 4) fw_X8_19 rfl rfl dX8_twiced_72 (rfl : 72 + 3 = 75) ?_
          refine r_iload_n hC 1 dX8_twiced_75 (rfl : 75 + 1 = 76) rfl rfl ?_
          refine r_iald hC 4 rfl q_11 dX8_twiced_76 (rfl : 76 + 1 = 77) ?_
          refine r_iconst hC dX8_twiced_77 (rfl : 77 + 1 = 78) (v := 3) (by decide) ?_
          refine r_callVi hC cs_X8_147 rfl (by omega) (mX8_isNumber hC.2.2.2.2.2.2.2.2.1 (k := k - 1) (by omega) (σ_14.1 4 (Int32.toNatClampNeg x1)) 3 σ_14 _ h) rfl rfl (Nat.le_of_ble_eq_true rfl) dX8_twiced_78 (rfl : 78 + 3 = 81) (fun r_17 σ_16 h => ?_)
          refine r_if_eq hC dX8_twiced_81 (rfl : 81 + 3 = 84) (tgt := 97) (by decide) (fun q => ?_) (fun q => ?_)
          · replace h := if_t h q
            exact (sX8_twiced_97 rfl hC hk  Q  x1 x2 σ_16 h).sub [0, 1, 2] rfl
          · replace h := if_f h q
            refine r_aload_n hC 0 dX8_twiced_84 (rfl : 84 + 1 = 85) rfl rfl ?_
            refine r_iload_n hC 1 dX8_twiced_85 (rfl : 85 + 1 = 86) rfl rfl ?_
            refine r_iconst hC dX8_twiced_86 (rfl : 86 + 1 = 87) (v := 4) (by decide) ?_
            refine r_aload_n hC 0 dX8_twiced_87 (rfl : 87 + 1 = 88) rfl rfl ?_
            refine r_getr hC 0 7 4 3 (o := 3) fw_X8_16 rfl rfl dX8_twiced_88 (rfl : 88 + 3 = 91) ?_
            refine r_iload_n hC 1 dX8_twiced_91 (rfl : 91 + 1 = 92) rfl rfl ?_
            refine r_iald hC 3 rfl q_11 dX8_twiced_92 (rfl : 92 + 1 = 93) ?_
            refine r_callVi hC cs_X8_160 rfl (by omega) (mX8_twice hC.2.2.2.2.2.2.2.2.1 (k := k - 1) (by omega) x1 4 (σ_16.1 3 (Int32.toNatClampNeg x1)) σ_16 _ h) rfl rfl (Nat.le_of_ble_eq_true rfl) dX8_twiced_93 (rfl : 93 + 3 = 96) (fun r_19 σ_18 h => ?_)
            exact r_iret hC rfl h dX8_twiced_96
      · replace h := if_f h q
        refine r_aload_n hC 0 dX8_twiced_52 (rfl : 52 + 1 = 53) rfl rfl ?_
        refine r_iload_n hC 1 dX8_twiced_53 (rfl : 53 + 1 = 54) rfl rfl ?_
        refine r_iconst hC dX8_twiced_54 (rfl : 54 + 1 = 55) (v := 4) (by decide) ?_
        refine r_aload_n hC 0 dX8_twiced_55 (rfl : 55 + 1 = 56) rfl rfl ?_
        refine r_getr hC 0 7 5 4 (o := 4) fw_X8_19 rfl rfl dX8_twiced_56 (rfl : 56 + 3 = 59) ?_
        refine r_iload_n hC 1 dX8_twiced_59 (rfl : 59 + 1 = 60) rfl rfl ?_
        refine r_iald hC 4 rfl q_11 dX8_twiced_60 (rfl : 60 + 1 = 61) ?_
        refine r_callVi hC cs_X8_160 rfl (by omega) (mX8_twice hC.2.2.2.2.2.2.2.2.1 (k := k - 1) (by omega) x1 4 (σ_14.1 4 (Int32.toNatClampNeg x1)) σ_14 _ h) rfl rfl (Nat.le_of_ble_eq_true rfl) dX8_twiced_61 (rfl : 61 + 3 = 64) (fun r_21 σ_20 h => ?_)
        exact r_iret hC rfl h dX8_twiced_64
    · replace h := if_f h q
      refine r_aload_n hC 0 dX8_twiced_25 (rfl : 25 + 1 = 26) rfl rfl ?_
      refine r_iload_n hC 1 dX8_twiced_26 (rfl : 26 + 1 = 27) rfl rfl ?_
      refine r_iconst hC dX8_twiced_27 (rfl : 27 + 1 = 28) (v := 4) (by decide) ?_
      refine r_aload_n hC 0 dX8_twiced_28 (rfl : 28 + 1 = 29) rfl rfl ?_
      refine r_getr hC 0 7 4 3 (o := 3) fw_X8_16 rfl rfl dX8_twiced_29 (rfl : 29 + 3 = 32) ?_
      refine r_iload_n hC 1 dX8_twiced_32 (rfl : 32 + 1 = 33) rfl rfl ?_
      refine r_iald hC 3 rfl q_11 dX8_twiced_33 (rfl : 33 + 1 = 34) ?_
      refine r_callVi hC cs_X8_160 rfl (by omega) (mX8_twice hC.2.2.2.2.2.2.2.2.1 (k := k - 1) (by omega) x1 4 (σ_12.1 3 (Int32.toNatClampNeg x1)) σ_12 _ h) rfl rfl (Nat.le_of_ble_eq_true rfl) dX8_twiced_34 (rfl : 34 + 3 = 37) (fun r_23 σ_22 h => ?_)
      exact r_iret hC rfl h dX8_twiced_37
set_option maxHeartbeats 1000000 in
set_option maxRecDepth 100000 in
theorem sX8_sunk_172 {G : Gx} {b k : Nat} {K : Kx} {l : Launch} (hl : K.2.1 = l) (hC : Cx YM G b K cX8_sunk RX8 3 (some .int) k)  (hk : 2 ≤ k)  (Q : Int32 → Sg → Prop)  (x1 : Int32) (s1 : Int32) (σ : Sg) (h : wX8_sunk_172  x1 s1 σ Q) : V YM G K (Zi YM G K Q) 3 σ 172 [(0, .ref (G.1 0)), (1, .int x1)] [.int s1, .ref (G.1 0)] := by
  subst hl
  unfold wX8_sunk_172 at h
  refine r_aload_n hC 0 dX8_sunk_172 (rfl : 172 + 1 = 173) rfl rfl ?_
  refine r_getr hC 0 7 4 3 (o := 3) fw_X8_16 rfl rfl dX8_sunk_173 (rfl : 173 + 3 = 176) ?_
  refine r_iload_n hC 1 dX8_sunk_176 (rfl : 176 + 1 = 177) rfl rfl ?_
  obtain ⟨q_1, h⟩ := h
  refine r_iald hC 3 rfl q_1 dX8_sunk_177 (rfl : 177 + 1 = 178) ?_
  refine r_aload_n hC 0 dX8_sunk_178 (rfl : 178 + 1 = 179) rfl rfl ?_
  refine r_getr hC 0 7 4 3 (o := 3) fw_X8_16 rfl rfl dX8_sunk_179 (rfl : 179 + 3 = 182) ?_
  refine r_aload_n hC 0 dX8_sunk_182 (rfl : 182 + 1 = 183) rfl rfl ?_
  refine r_getr hC 0 7 5 4 (o := 4) fw_X8_19 rfl rfl dX8_sunk_183 (rfl : 183 + 3 = 186) ?_
  refine r_iload_n hC 1 dX8_sunk_186 (rfl : 186 + 1 = 187) rfl rfl ?_
  refine r_iald hC 4 rfl q_1 dX8_sunk_187 (rfl : 187 + 1 = 188) ?_
  obtain ⟨q_2, h⟩ := h
  refine r_iald hC 3 rfl q_2 dX8_sunk_188 (rfl : 188 + 1 = 189) ?_
  refine r_callVi hC cs_X8_157 rfl (by omega) (mX8_pair hC.2.2.2.2.2.2.2.2.1 (k := k - 1) (by omega) s1 (σ.1 3 (Int32.toNatClampNeg x1)) (σ.1 3 (Int32.toNatClampNeg (σ.1 4 (Int32.toNatClampNeg x1)))) σ _ h) rfl rfl (Nat.le_of_ble_eq_true rfl) dX8_sunk_189 (rfl : 189 + 3 = 192) (fun r_4 σ_3 h => ?_)
  refine r_goto hC dX8_sunk_192 (tgt := 196) (by decide) ?_
  exact r_iret hC rfl h dX8_sunk_196
set_option maxHeartbeats 1000000 in
set_option maxRecDepth 100000 in
theorem mX8_sunk {G : Gx} {b k : Nat} {l : Launch} (hS : Sok YM G)  (hk : 2 ≤ k) (x1 : Int32) (x2 : Int32) (σ : Sg) (Q : Int32 → Sg → Prop) (h : wX8_sunk  x1 x2 σ Q) : Mi YM G b l yX8_sunk cX8_sunk 3 .int k [.ref (G.1 0), .int x1, .int x2] σ Q := by
  refine enter hS (by decide +kernel) (Nat.le_of_ble_eq_true rfl) (lv := [(0, .ref (G.1 0)), (1, .int x1), (2, .int x2)]) rfl (fun K hl hC => ?_)
  subst hl
  unfold wX8_sunk at h
  show V YM G K (Zi YM G K Q) 3 σ 0 [(0, .ref (G.1 0)), (1, .int x1), (2, .int x2)] []
  refine r_aload_n hC 0 dX8_sunk_0 (rfl : 0 + 1 = 1) rfl rfl ?_
  refine r_getr hC 0 7 2 1 (o := 1) fw_X8_7 rfl rfl dX8_sunk_1 (rfl : 1 + 3 = 4) ?_
  refine r_iload_n hC 1 dX8_sunk_4 (rfl : 4 + 1 = 5) rfl rfl ?_
  obtain ⟨q_5, h⟩ := h
  refine r_iald hC 1 rfl q_5 dX8_sunk_5 (rfl : 5 + 1 = 6) ?_
  refine r_iconst hC dX8_sunk_6 (rfl : 6 + 1 = 7) (v := 3) (by decide) ?_
  refine r_icmp_ne hC dX8_sunk_7 (rfl : 7 + 3 = 10) (tgt := 41) (by decide) (fun q => ?_) (fun q => ?_)
  · replace h := if_f h q
    refine r_aload_n hC 0 dX8_sunk_41 (rfl : 41 + 1 = 42) rfl rfl ?_
    refine r_getr hC 0 7 2 1 (o := 1) fw_X8_7 rfl rfl dX8_sunk_42 (rfl : 42 + 3 = 45) ?_
    refine r_iload_n hC 1 dX8_sunk_45 (rfl : 45 + 1 = 46) rfl rfl ?_
    refine r_iald hC 1 rfl q_5 dX8_sunk_46 (rfl : 46 + 1 = 47) ?_
    refine r_iconst hC dX8_sunk_47 (rfl : 47 + 1 = 48) (v := 4) (by decide) ?_
    refine r_icmp_ne hC dX8_sunk_48 (rfl : 48 + 3 = 51) (tgt := 136) (by decide) (fun q => ?_) (fun q => ?_)
    · replace h := if_f h q
      refine r_aload_n hC 0 dX8_sunk_136 (rfl : 136 + 1 = 137) rfl rfl ?_
      refine r_getr hC 0 7 2 1 (o := 1) fw_X8_7 rfl rfl dX8_sunk_137 (rfl : 137 + 3 = 140) ?_
      refine r_iload_n hC 1 dX8_sunk_140 (rfl : 140 + 1 = 141) rfl rfl ?_
      refine r_iald hC 1 rfl q_5 dX8_sunk_141 (rfl : 141 + 1 = 142) ?_
      refine r_iconst hC dX8_sunk_142 (rfl : 142 + 1 = 143) (v := 5) (by decide) ?_
      refine r_icmp_ne hC dX8_sunk_143 (rfl : 143 + 3 = 146) (tgt := 195) (by decide) (fun q => ?_) (fun q => ?_)
      · replace h := if_f h q
        refine r_iload_n hC 1 dX8_sunk_195 (rfl : 195 + 1 = 196) rfl rfl ?_
        exact r_iret hC rfl h dX8_sunk_196
      · replace h := if_t h q
        refine r_aload_n hC 0 dX8_sunk_146 (rfl : 146 + 1 = 147) rfl rfl ?_
        refine r_getr hC 0 7 2 1 (o := 1) fw_X8_7 rfl rfl dX8_sunk_147 (rfl : 147 + 3 = 150) ?_
        refine r_aload_n hC 0 dX8_sunk_150 (rfl : 150 + 1 = 151) rfl rfl ?_
        refine r_getr hC 0 7 5 4 (o := 4) fw_X8_19 rfl rfl dX8_sunk_151 (rfl : 151 + 3 = 154) ?_
        refine r_iload_n hC 1 dX8_sunk_154 (rfl : 154 + 1 = 155) rfl rfl ?_
        refine r_iald hC 4 rfl q_5 dX8_sunk_155 (rfl : 155 + 1 = 156) ?_
        obtain ⟨q_6, h⟩ := h
        refine r_iald hC 1 rfl q_6 dX8_sunk_156 (rfl : 156 + 1 = 157) ?_
        refine r_iconst hC dX8_sunk_157 (rfl : 157 + 1 = 158) (v := 3) (by decide) ?_
        refine r_icmp_ne hC dX8_sunk_158 (rfl : 158 + 3 = 161) (tgt := 195) (by decide) (fun q => ?_) (fun q => ?_)
        · replace h := if_f h q
          refine r_iload_n hC 1 dX8_sunk_195 (rfl : 195 + 1 = 196) rfl rfl ?_
          exact r_iret hC rfl h dX8_sunk_196
        · replace h := if_t h q
          refine r_aload_n hC 0 dX8_sunk_161 (rfl : 161 + 1 = 162) rfl rfl ?_
          refine r_iload_n hC 2 dX8_sunk_162 (rfl : 162 + 1 = 163) rfl rfl ?_
          refine r_iconst hC dX8_sunk_163 (rfl : 163 + 1 = 164) (v := 2) (by decide) ?_
          refine r_icmp_ne hC dX8_sunk_164 (rfl : 164 + 3 = 167) (tgt := 171) (by decide) (fun q => ?_) (fun q => ?_)
          · replace h := if_f h q
            refine r_iconst hC dX8_sunk_171 (rfl : 171 + 1 = 172) (v := 4) (by decide) ?_
            exact (sX8_sunk_172 rfl hC hk  Q  x1 4 σ h).sub [0, 1] rfl
          · replace h := if_t h q
            refine r_iconst hC dX8_sunk_167 (rfl : 167 + 1 = 168) (v := 5) (by decide) ?_
            refine r_goto hC dX8_sunk_168 (tgt := 172) (by decide) ?_
            exact (sX8_sunk_172 rfl hC hk  Q  x1 5 σ h).sub [0, 1] rfl
    · replace h := if_t h q
      refine r_aload_n hC 0 dX8_sunk_51 (rfl : 51 + 1 = 52) rfl rfl ?_
      refine r_getr hC 0 7 2 1 (o := 1) fw_X8_7 rfl rfl dX8_sunk_52 (rfl : 52 + 3 = 55) ?_
      refine r_aload_n hC 0 dX8_sunk_55 (rfl : 55 + 1 = 56) rfl rfl ?_
      refine r_getr hC 0 7 5 4 (o := 4) fw_X8_19 rfl rfl dX8_sunk_56 (rfl : 56 + 3 = 59) ?_
      refine r_iload_n hC 1 dX8_sunk_59 (rfl : 59 + 1 = 60) rfl rfl ?_
      refine r_iald hC 4 rfl q_5 dX8_sunk_60 (rfl : 60 + 1 = 61) ?_
      obtain ⟨q_7, h⟩ := h
      refine r_iald hC 1 rfl q_7 dX8_sunk_61 (rfl : 61 + 1 = 62) ?_
      refine r_iconst hC dX8_sunk_62 (rfl : 62 + 1 = 63) (v := 3) (by decide) ?_
      refine r_icmp_ne hC dX8_sunk_63 (rfl : 63 + 3 = 66) (tgt := 89) (by decide) (fun q => ?_) (fun q => ?_)
      · replace h := if_f h q
        refine r_iload_n hC 2 dX8_sunk_89 (rfl : 89 + 1 = 90) rfl rfl ?_
        refine r_iconst hC dX8_sunk_90 (rfl : 90 + 1 = 91) (v := 1) (by decide) ?_
        refine r_icmp_ne hC dX8_sunk_91 (rfl : 91 + 3 = 94) (tgt := 134) (by decide) (fun q => ?_) (fun q => ?_)
        · replace h := if_f h q
          refine r_iload_n hC 1 dX8_sunk_134 (rfl : 134 + 1 = 135) rfl rfl ?_
          exact r_iret hC rfl h dX8_sunk_135
        · replace h := if_t h q
          refine r_aload_n hC 0 dX8_sunk_94 (rfl : 94 + 1 = 95) rfl rfl ?_
          refine r_getr hC 0 7 2 1 (o := 1) fw_X8_7 rfl rfl dX8_sunk_95 (rfl : 95 + 3 = 98) ?_
          refine r_aload_n hC 0 dX8_sunk_98 (rfl : 98 + 1 = 99) rfl rfl ?_
          refine r_getr hC 0 7 4 3 (o := 3) fw_X8_16 rfl rfl dX8_sunk_99 (rfl : 99 + 3 = 102) ?_
          refine r_iload_n hC 1 dX8_sunk_102 (rfl : 102 + 1 = 103) rfl rfl ?_
          refine r_iald hC 3 rfl q_5 dX8_sunk_103 (rfl : 103 + 1 = 104) ?_
          obtain ⟨q_8, h⟩ := h
          refine r_iald hC 1 rfl q_8 dX8_sunk_104 (rfl : 104 + 1 = 105) ?_
          refine r_iconst hC dX8_sunk_105 (rfl : 105 + 1 = 106) (v := 3) (by decide) ?_
          refine r_icmp_ne hC dX8_sunk_106 (rfl : 106 + 3 = 109) (tgt := 134) (by decide) (fun q => ?_) (fun q => ?_)
          · replace h := if_f h q
            refine r_iload_n hC 1 dX8_sunk_134 (rfl : 134 + 1 = 135) rfl rfl ?_
            exact r_iret hC rfl h dX8_sunk_135
          · replace h := if_t h q
            refine r_aload_n hC 0 dX8_sunk_109 (rfl : 109 + 1 = 110) rfl rfl ?_
            refine r_iconst hC dX8_sunk_110 (rfl : 110 + 1 = 111) (v := 5) (by decide) ?_
            refine r_aload_n hC 0 dX8_sunk_111 (rfl : 111 + 1 = 112) rfl rfl ?_
            refine r_getr hC 0 7 4 3 (o := 3) fw_X8_16 rfl rfl dX8_sunk_112 (rfl : 112 + 3 = 115) ?_
            refine r_aload_n hC 0 dX8_sunk_115 (rfl : 115 + 1 = 116) rfl rfl ?_
            refine r_getr hC 0 7 4 3 (o := 3) fw_X8_16 rfl rfl dX8_sunk_116 (rfl : 116 + 3 = 119) ?_
            refine r_iload_n hC 1 dX8_sunk_119 (rfl : 119 + 1 = 120) rfl rfl ?_
            refine r_iald hC 3 rfl q_5 dX8_sunk_120 (rfl : 120 + 1 = 121) ?_
            refine r_iald hC 3 rfl q_8 dX8_sunk_121 (rfl : 121 + 1 = 122) ?_
            refine r_aload_n hC 0 dX8_sunk_122 (rfl : 122 + 1 = 123) rfl rfl ?_
            refine r_getr hC 0 7 5 4 (o := 4) fw_X8_19 rfl rfl dX8_sunk_123 (rfl : 123 + 3 = 126) ?_
            refine r_iload_n hC 1 dX8_sunk_126 (rfl : 126 + 1 = 127) rfl rfl ?_
            refine r_iald hC 4 rfl q_5 dX8_sunk_127 (rfl : 127 + 1 = 128) ?_
            refine r_callVi hC cs_X8_157 rfl (by omega) (mX8_pair hC.2.2.2.2.2.2.2.2.1 (k := k - 1) (by omega) 5 (σ.1 3 (Int32.toNatClampNeg (σ.1 3 (Int32.toNatClampNeg x1)))) (σ.1 4 (Int32.toNatClampNeg x1)) σ _ h) rfl rfl (Nat.le_of_ble_eq_true rfl) dX8_sunk_128 (rfl : 128 + 3 = 131) (fun r_10 σ_9 h => ?_)
            refine r_goto hC dX8_sunk_131 (tgt := 135) (by decide) ?_
            exact r_iret hC rfl h dX8_sunk_135
      · replace h := if_t h q
        refine r_aload_n hC 0 dX8_sunk_66 (rfl : 66 + 1 = 67) rfl rfl ?_
        refine r_iconst hC dX8_sunk_67 (rfl : 67 + 1 = 68) (v := 5) (by decide) ?_
        refine r_aload_n hC 0 dX8_sunk_68 (rfl : 68 + 1 = 69) rfl rfl ?_
        refine r_getr hC 0 7 4 3 (o := 3) fw_X8_16 rfl rfl dX8_sunk_69 (rfl : 69 + 3 = 72) ?_
        refine r_iload_n hC 1 dX8_sunk_72 (rfl : 72 + 1 = 73) rfl rfl ?_
        refine r_iald hC 3 rfl q_5 dX8_sunk_73 (rfl : 73 + 1 = 74) ?_
        refine r_aload_n hC 0 dX8_sunk_74 (rfl : 74 + 1 = 75) rfl rfl ?_
        refine r_getr hC 0 7 4 3 (o := 3) fw_X8_16 rfl rfl dX8_sunk_75 (rfl : 75 + 3 = 78) ?_
        refine r_aload_n hC 0 dX8_sunk_78 (rfl : 78 + 1 = 79) rfl rfl ?_
        refine r_getr hC 0 7 5 4 (o := 4) fw_X8_19 rfl rfl dX8_sunk_79 (rfl : 79 + 3 = 82) ?_
        refine r_iload_n hC 1 dX8_sunk_82 (rfl : 82 + 1 = 83) rfl rfl ?_
        refine r_iald hC 4 rfl q_5 dX8_sunk_83 (rfl : 83 + 1 = 84) ?_
        refine r_iald hC 3 rfl q_7 dX8_sunk_84 (rfl : 84 + 1 = 85) ?_
        refine r_callVi hC cs_X8_157 rfl (by omega) (mX8_pair hC.2.2.2.2.2.2.2.2.1 (k := k - 1) (by omega) 5 (σ.1 3 (Int32.toNatClampNeg x1)) (σ.1 3 (Int32.toNatClampNeg (σ.1 4 (Int32.toNatClampNeg x1)))) σ _ h) rfl rfl (Nat.le_of_ble_eq_true rfl) dX8_sunk_85 (rfl : 85 + 3 = 88) (fun r_12 σ_11 h => ?_)
        exact r_iret hC rfl h dX8_sunk_88
  · replace h := if_t h q
    refine r_aload_n hC 0 dX8_sunk_10 (rfl : 10 + 1 = 11) rfl rfl ?_
    refine r_getr hC 0 7 2 1 (o := 1) fw_X8_7 rfl rfl dX8_sunk_11 (rfl : 11 + 3 = 14) ?_
    refine r_aload_n hC 0 dX8_sunk_14 (rfl : 14 + 1 = 15) rfl rfl ?_
    refine r_getr hC 0 7 4 3 (o := 3) fw_X8_16 rfl rfl dX8_sunk_15 (rfl : 15 + 3 = 18) ?_
    refine r_iload_n hC 1 dX8_sunk_18 (rfl : 18 + 1 = 19) rfl rfl ?_
    refine r_iald hC 3 rfl q_5 dX8_sunk_19 (rfl : 19 + 1 = 20) ?_
    obtain ⟨q_13, h⟩ := h
    refine r_iald hC 1 rfl q_13 dX8_sunk_20 (rfl : 20 + 1 = 21) ?_
    refine r_iconst hC dX8_sunk_21 (rfl : 21 + 1 = 22) (v := 3) (by decide) ?_
    refine r_icmp_ne hC dX8_sunk_22 (rfl : 22 + 3 = 25) (tgt := 39) (by decide) (fun q => ?_) (fun q => ?_)
    · replace h := if_f h q
      refine r_iload_n hC 1 dX8_sunk_39 (rfl : 39 + 1 = 40) rfl rfl ?_
      exact r_iret hC rfl h dX8_sunk_40
    · replace h := if_t h q
      refine r_aload_n hC 0 dX8_sunk_25 (rfl : 25 + 1 = 26) rfl rfl ?_
      refine r_getr hC 0 7 4 3 (o := 3) fw_X8_16 rfl rfl dX8_sunk_26 (rfl : 26 + 3 = 29) ?_
      refine r_aload_n hC 0 dX8_sunk_29 (rfl : 29 + 1 = 30) rfl rfl ?_
      refine r_getr hC 0 7 4 3 (o := 3) fw_X8_16 rfl rfl dX8_sunk_30 (rfl : 30 + 3 = 33) ?_
      refine r_iload_n hC 1 dX8_sunk_33 (rfl : 33 + 1 = 34) rfl rfl ?_
      refine r_iald hC 3 rfl q_5 dX8_sunk_34 (rfl : 34 + 1 = 35) ?_
      refine r_iald hC 3 rfl q_13 dX8_sunk_35 (rfl : 35 + 1 = 36) ?_
      refine r_goto hC dX8_sunk_36 (tgt := 40) (by decide) ?_
      exact r_iret hC rfl h dX8_sunk_40
set_option maxHeartbeats 1000000 in
set_option maxRecDepth 100000 in
theorem mX8_isPlace {G : Gx} {b k : Nat} {l : Launch} (hS : Sok YM G)  (hk : 1 ≤ k) (x0 : Int32) (σ : Sg) (Q : Int32 → Sg → Prop) (h : wX8_isPlace  x0 σ Q) : Mi YM G b l yX8_isPlace cX8_isPlace 1 .boolean k [.int x0] σ Q := by
  refine enter hS (by decide +kernel) (Nat.le_of_ble_eq_true rfl) (lv := [(0, .int x0)]) rfl (fun K hl hC => ?_)
  subst hl
  unfold wX8_isPlace at h
  show V YM G K (Zi YM G K Q) 1 σ 0 [(0, .int x0)] []
  refine r_iload_n hC 0 dX8_isPlace_0 (rfl : 0 + 1 = 1) rfl rfl ?_
  refine r_i2l hC dX8_isPlace_1 (rfl : 1 + 1 = 2) ?_
  refine r_lconst hC dX8_isPlace_2 (rfl : 2 + 1 = 3) (v := 0) (by decide) ?_
  refine r_ldc2 hC dX8_isPlace_3 (rfl : 3 + 3 = 6) wd_908 ?_
  refine r_callSi hC cs_X8_177 (by omega) (mX8_in hC.2.2.2.2.2.2.2.2.1 (k := k - 1) (by omega) (Int32.toInt64 x0) 0 19 σ _ h) rfl rfl (Nat.le_of_ble_eq_true rfl) dX8_isPlace_6 (rfl : 6 + 3 = 9) (fun r_2 σ_1 h => ?_)
  obtain ⟨q_3, h⟩ := h
  exact r_zret hC rfl q_3 h dX8_isPlace_9
set_option maxHeartbeats 1000000 in
set_option maxRecDepth 100000 in
theorem mX8_has {G : Gx} {b k : Nat} {l : Launch} (hS : Sok YM G)  (hk : 2 ≤ k) (x1 : Int32) (σ : Sg) (Q : Int32 → Sg → Prop) (h : wX8_has  x1 σ Q) : Mi YM G b l yX8_has cX8_has 2 .boolean k [.ref (G.1 0), .int x1] σ Q := by
  refine enter hS (by decide +kernel) (Nat.le_of_ble_eq_true rfl) (lv := [(0, .ref (G.1 0)), (1, .int x1)]) rfl (fun K hl hC => ?_)
  subst hl
  unfold wX8_has at h
  show V YM G K (Zi YM G K Q) 2 σ 0 [(0, .ref (G.1 0)), (1, .int x1)] []
  refine r_iload_n hC 1 dX8_has_0 (rfl : 0 + 1 = 1) rfl rfl ?_
  refine r_callSi hC cs_X8_181 (by omega) (mX8_isPlace hC.2.2.2.2.2.2.2.2.1 (k := k - 1) (by omega) x1 σ _ h) rfl rfl (Nat.le_of_ble_eq_true rfl) dX8_has_1 (rfl : 1 + 3 = 4) (fun r_2 σ_1 h => ?_)
  refine r_if_eq hC dX8_has_4 (rfl : 4 + 3 = 7) (tgt := 20) (by decide) (fun q => ?_) (fun q => ?_)
  · replace h := if_t h q
    refine r_iconst hC dX8_has_20 (rfl : 20 + 1 = 21) (v := 0) (by decide) ?_
    exact r_zret hC rfl (by decide) h dX8_has_21
  · replace h := if_f h q
    refine r_aload_n hC 0 dX8_has_7 (rfl : 7 + 1 = 8) rfl rfl ?_
    refine r_getr hC 0 7 12 7 (o := 7) fw_X8_28 rfl rfl dX8_has_8 (rfl : 8 + 3 = 11) ?_
    refine r_iload_n hC 1 dX8_has_11 (rfl : 11 + 1 = 12) rfl rfl ?_
    obtain ⟨q_3, h⟩ := h
    refine r_iald hC 7 rfl q_3 dX8_has_12 (rfl : 12 + 1 = 13) ?_
    refine r_if_le hC dX8_has_13 (rfl : 13 + 3 = 16) (tgt := 20) (by decide) (fun q => ?_) (fun q => ?_)
    · replace h := if_t h q
      refine r_iconst hC dX8_has_20 (rfl : 20 + 1 = 21) (v := 0) (by decide) ?_
      exact r_zret hC rfl (by decide) h dX8_has_21
    · replace h := if_f h q
      refine r_iconst hC dX8_has_16 (rfl : 16 + 1 = 17) (v := 1) (by decide) ?_
      refine r_goto hC dX8_has_17 (tgt := 21) (by decide) ?_
      exact r_zret hC rfl (by decide) h dX8_has_21
set_option maxHeartbeats 1000000 in
set_option maxRecDepth 100000 in
theorem sX8_take_12 {G : Gx} {b k : Nat} {K : Kx} {l : Launch} (hl : K.2.1 = l) (hC : Cx YM G b K cX8_take RX8 3 none k)  (hk : 0 ≤ k)  (Q : Sg → Prop)  : ∀ (n : Nat) (x1 : Int32) (x2 : Int32) (σ : Sg), wX8_take_12  Q n x1 x2 σ → V YM G K (Zv YM G K Q) 3 σ 12 [(0, .ref (G.1 0)), (1, .int x1), (2, .int x2)] [] := by
  subst hl
  intro n
  induction n with
  | zero =>
    intro x1 x2 σ h
    exact h.elim
  | succ n ih =>
    intro x1 x2 σ h
    have h : wX8_take_12_b  (wX8_take_12  Q n) x1 x2 σ Q := h
    unfold wX8_take_12_b at h
    refine r_iload_n hC 2 dX8_take_12 (rfl : 12 + 1 = 13) rfl rfl ?_
    refine r_aload_n hC 0 dX8_take_13 (rfl : 13 + 1 = 14) rfl rfl ?_
    refine r_geti hC 0 7 17 fw_X8_185 rfl dX8_take_14 (rfl : 14 + 3 = 17) ?_
    refine r_icmp_ge hC dX8_take_17 (rfl : 17 + 3 = 20) (tgt := 60) (by decide) (fun q => ?_) (fun q => ?_)
    · replace h := if_t h q
      exact r_vret hC rfl h dX8_take_60
    · replace h := if_f h q
      refine r_aload_n hC 0 dX8_take_20 (rfl : 20 + 1 = 21) rfl rfl ?_
      refine r_getr hC 0 7 15 10 (o := 10) fw_X8_37 rfl rfl dX8_take_21 (rfl : 21 + 3 = 24) ?_
      refine r_iload_n hC 2 dX8_take_24 (rfl : 24 + 1 = 25) rfl rfl ?_
      refine r_aload_n hC 0 dX8_take_25 (rfl : 25 + 1 = 26) rfl rfl ?_
      refine r_getr hC 0 7 13 8 (o := 8) fw_X8_31 rfl rfl dX8_take_26 (rfl : 26 + 3 = 29) ?_
      refine r_bipush hC dX8_take_29 (rfl : 29 + 2 = 31) (v := 60) (by decide) ?_
      refine r_iload_n hC 1 dX8_take_31 (rfl : 31 + 1 = 32) rfl rfl ?_
      refine r_imul hC dX8_take_32 (rfl : 32 + 1 = 33) ?_
      refine r_iload_n hC 2 dX8_take_33 (rfl : 33 + 1 = 34) rfl rfl ?_
      refine r_iadd hC dX8_take_34 (rfl : 34 + 1 = 35) ?_
      obtain ⟨q_1, h⟩ := h
      refine r_iald hC 8 rfl q_1 dX8_take_35 (rfl : 35 + 1 = 36) ?_
      obtain ⟨q_2, h⟩ := h
      obtain ⟨σ_3, e_4, h⟩ := lt_nm h
      refine r_iast hC 10 rfl q_2 e_4 dX8_take_36 (rfl : 36 + 1 = 37) ?_
      refine r_aload_n hC 0 dX8_take_37 (rfl : 37 + 1 = 38) rfl rfl ?_
      refine r_getr hC 0 7 16 11 (o := 11) fw_X8_40 rfl rfl dX8_take_38 (rfl : 38 + 3 = 41) ?_
      refine r_iload_n hC 2 dX8_take_41 (rfl : 41 + 1 = 42) rfl rfl ?_
      refine r_aload_n hC 0 dX8_take_42 (rfl : 42 + 1 = 43) rfl rfl ?_
      refine r_getr hC 0 7 14 9 (o := 9) fw_X8_34 rfl rfl dX8_take_43 (rfl : 43 + 3 = 46) ?_
      refine r_bipush hC dX8_take_46 (rfl : 46 + 2 = 48) (v := 60) (by decide) ?_
      refine r_iload_n hC 1 dX8_take_48 (rfl : 48 + 1 = 49) rfl rfl ?_
      refine r_imul hC dX8_take_49 (rfl : 49 + 1 = 50) ?_
      refine r_iload_n hC 2 dX8_take_50 (rfl : 50 + 1 = 51) rfl rfl ?_
      refine r_iadd hC dX8_take_51 (rfl : 51 + 1 = 52) ?_
      refine r_iald hC 9 rfl q_1 dX8_take_52 (rfl : 52 + 1 = 53) ?_
      obtain ⟨σ_5, e_6, h⟩ := lt_nm h
      refine r_iast hC 11 rfl q_2 e_6 dX8_take_53 (rfl : 53 + 1 = 54) ?_
      obtain ⟨x2_7, e_8, h⟩ := lt_nm h
      refine r_iinc hC (j := 2) dX8_take_54 (rfl : 54 + 3 = 57) rfl (zz := 1) (by decide) e_8 (by decide) (lv2 := [(2, .int x2_7), (0, .ref (G.1 0)), (1, .int x1)]) rfl ?_
      refine r_goto hC dX8_take_57 (tgt := 12) (by decide) ?_
      exact (ih x1 x2_7 σ_5 h).sub [1, 2, 0] rfl
set_option maxHeartbeats 1000000 in
set_option maxRecDepth 100000 in
theorem mX8_take {G : Gx} {b k : Nat} {l : Launch} (hS : Sok YM G)  (hk : 0 ≤ k) (x1 : Int32) (σ : Sg) (Q : Sg → Prop) (h : wX8_take  x1 σ Q) : Mv YM G b l yX8_take cX8_take 3 k [.ref (G.1 0), .int x1] σ Q := by
  refine enter hS (by decide +kernel) (Nat.le_of_ble_eq_true rfl) (lv := [(0, .ref (G.1 0)), (1, .int x1)]) rfl (fun K hl hC => ?_)
  subst hl
  unfold wX8_take at h
  show V YM G K (Zv YM G K Q) 3 σ 0 [(0, .ref (G.1 0)), (1, .int x1)] []
  refine r_aload_n hC 0 dX8_take_0 (rfl : 0 + 1 = 1) rfl rfl ?_
  refine r_aload_n hC 0 dX8_take_1 (rfl : 1 + 1 = 2) rfl rfl ?_
  refine r_getr hC 0 7 12 7 (o := 7) fw_X8_28 rfl rfl dX8_take_2 (rfl : 2 + 3 = 5) ?_
  refine r_iload_n hC 1 dX8_take_5 (rfl : 5 + 1 = 6) rfl rfl ?_
  obtain ⟨q_9, h⟩ := h
  refine r_iald hC 7 rfl q_9 dX8_take_6 (rfl : 6 + 1 = 7) ?_
  obtain ⟨σ_10, e_11, h⟩ := lt_nm h
  refine r_puti hC 0 7 17 fw_X8_185 fp_8_17 rfl e_11 dX8_take_7 (rfl : 7 + 3 = 10) ?_
  refine r_iconst hC dX8_take_10 (rfl : 10 + 1 = 11) (v := 0) (by decide) ?_
  refine r_istore_n hC dX8_take_11 (rfl : 11 + 1 = 12) rfl (by decide) rfl (lv2 := [(2, .int 0), (0, .ref (G.1 0)), (1, .int x1)]) rfl ?_
  obtain ⟨nn, h⟩ := h
  exact (sX8_take_12 rfl hC hk  Q  nn x1 0 σ_10 h).sub [1, 2, 0] rfl
set_option maxHeartbeats 1000000 in
set_option maxRecDepth 100000 in
theorem sX8_put_12 {G : Gx} {b k : Nat} {K : Kx} {l : Launch} (hl : K.2.1 = l) (hC : Cx YM G b K cX8_put RX8 3 (some .int) k)  (hk : 0 ≤ k)  (Q : Int32 → Sg → Prop)  : ∀ (n : Nat) (x1 : Int32) (x2 : Int32) (σ : Sg), wX8_put_12  Q n x1 x2 σ → V YM G K (Zi YM G K Q) 3 σ 12 [(0, .ref (G.1 0)), (1, .int x1), (2, .int x2)] [] := by
  subst hl
  intro n
  induction n with
  | zero =>
    intro x1 x2 σ h
    exact h.elim
  | succ n ih =>
    intro x1 x2 σ h
    have h : wX8_put_12_b  (wX8_put_12  Q n) x1 x2 σ Q := h
    unfold wX8_put_12_b at h
    refine r_iload_n hC 2 dX8_put_12 (rfl : 12 + 1 = 13) rfl rfl ?_
    refine r_aload_n hC 0 dX8_put_13 (rfl : 13 + 1 = 14) rfl rfl ?_
    refine r_geti hC 0 7 17 fw_X8_185 rfl dX8_put_14 (rfl : 14 + 3 = 17) ?_
    refine r_icmp_ge hC dX8_put_17 (rfl : 17 + 3 = 20) (tgt := 60) (by decide) (fun q => ?_) (fun q => ?_)
    · replace h := if_t h q
      refine r_aload_n hC 0 dX8_put_60 (rfl : 60 + 1 = 61) rfl rfl ?_
      refine r_geti hC 0 7 17 fw_X8_185 rfl dX8_put_61 (rfl : 61 + 3 = 64) ?_
      exact r_iret hC rfl h dX8_put_64
    · replace h := if_f h q
      refine r_aload_n hC 0 dX8_put_20 (rfl : 20 + 1 = 21) rfl rfl ?_
      refine r_getr hC 0 7 13 8 (o := 8) fw_X8_31 rfl rfl dX8_put_21 (rfl : 21 + 3 = 24) ?_
      refine r_bipush hC dX8_put_24 (rfl : 24 + 2 = 26) (v := 60) (by decide) ?_
      refine r_iload_n hC 1 dX8_put_26 (rfl : 26 + 1 = 27) rfl rfl ?_
      refine r_imul hC dX8_put_27 (rfl : 27 + 1 = 28) ?_
      refine r_iload_n hC 2 dX8_put_28 (rfl : 28 + 1 = 29) rfl rfl ?_
      refine r_iadd hC dX8_put_29 (rfl : 29 + 1 = 30) ?_
      refine r_aload_n hC 0 dX8_put_30 (rfl : 30 + 1 = 31) rfl rfl ?_
      refine r_getr hC 0 7 15 10 (o := 10) fw_X8_37 rfl rfl dX8_put_31 (rfl : 31 + 3 = 34) ?_
      refine r_iload_n hC 2 dX8_put_34 (rfl : 34 + 1 = 35) rfl rfl ?_
      obtain ⟨q_1, h⟩ := h
      refine r_iald hC 10 rfl q_1 dX8_put_35 (rfl : 35 + 1 = 36) ?_
      obtain ⟨q_2, h⟩ := h
      obtain ⟨σ_3, e_4, h⟩ := lt_nm h
      refine r_iast hC 8 rfl q_2 e_4 dX8_put_36 (rfl : 36 + 1 = 37) ?_
      refine r_aload_n hC 0 dX8_put_37 (rfl : 37 + 1 = 38) rfl rfl ?_
      refine r_getr hC 0 7 14 9 (o := 9) fw_X8_34 rfl rfl dX8_put_38 (rfl : 38 + 3 = 41) ?_
      refine r_bipush hC dX8_put_41 (rfl : 41 + 2 = 43) (v := 60) (by decide) ?_
      refine r_iload_n hC 1 dX8_put_43 (rfl : 43 + 1 = 44) rfl rfl ?_
      refine r_imul hC dX8_put_44 (rfl : 44 + 1 = 45) ?_
      refine r_iload_n hC 2 dX8_put_45 (rfl : 45 + 1 = 46) rfl rfl ?_
      refine r_iadd hC dX8_put_46 (rfl : 46 + 1 = 47) ?_
      refine r_aload_n hC 0 dX8_put_47 (rfl : 47 + 1 = 48) rfl rfl ?_
      refine r_getr hC 0 7 16 11 (o := 11) fw_X8_40 rfl rfl dX8_put_48 (rfl : 48 + 3 = 51) ?_
      refine r_iload_n hC 2 dX8_put_51 (rfl : 51 + 1 = 52) rfl rfl ?_
      refine r_iald hC 11 rfl q_1 dX8_put_52 (rfl : 52 + 1 = 53) ?_
      obtain ⟨σ_5, e_6, h⟩ := lt_nm h
      refine r_iast hC 9 rfl q_2 e_6 dX8_put_53 (rfl : 53 + 1 = 54) ?_
      obtain ⟨x2_7, e_8, h⟩ := lt_nm h
      refine r_iinc hC (j := 2) dX8_put_54 (rfl : 54 + 3 = 57) rfl (zz := 1) (by decide) e_8 (by decide) (lv2 := [(2, .int x2_7), (0, .ref (G.1 0)), (1, .int x1)]) rfl ?_
      refine r_goto hC dX8_put_57 (tgt := 12) (by decide) ?_
      exact (ih x1 x2_7 σ_5 h).sub [1, 2, 0] rfl
set_option maxHeartbeats 1000000 in
set_option maxRecDepth 100000 in
theorem mX8_put {G : Gx} {b k : Nat} {l : Launch} (hS : Sok YM G)  (hk : 0 ≤ k) (x1 : Int32) (σ : Sg) (Q : Int32 → Sg → Prop) (h : wX8_put  x1 σ Q) : Mi YM G b l yX8_put cX8_put 3 .int k [.ref (G.1 0), .int x1] σ Q := by
  refine enter hS (by decide +kernel) (Nat.le_of_ble_eq_true rfl) (lv := [(0, .ref (G.1 0)), (1, .int x1)]) rfl (fun K hl hC => ?_)
  subst hl
  unfold wX8_put at h
  show V YM G K (Zi YM G K Q) 3 σ 0 [(0, .ref (G.1 0)), (1, .int x1)] []
  refine r_aload_n hC 0 dX8_put_0 (rfl : 0 + 1 = 1) rfl rfl ?_
  refine r_getr hC 0 7 12 7 (o := 7) fw_X8_28 rfl rfl dX8_put_1 (rfl : 1 + 3 = 4) ?_
  refine r_iload_n hC 1 dX8_put_4 (rfl : 4 + 1 = 5) rfl rfl ?_
  refine r_aload_n hC 0 dX8_put_5 (rfl : 5 + 1 = 6) rfl rfl ?_
  refine r_geti hC 0 7 17 fw_X8_185 rfl dX8_put_6 (rfl : 6 + 3 = 9) ?_
  obtain ⟨q_9, h⟩ := h
  obtain ⟨σ_10, e_11, h⟩ := lt_nm h
  refine r_iast hC 7 rfl q_9 e_11 dX8_put_9 (rfl : 9 + 1 = 10) ?_
  refine r_iconst hC dX8_put_10 (rfl : 10 + 1 = 11) (v := 0) (by decide) ?_
  refine r_istore_n hC dX8_put_11 (rfl : 11 + 1 = 12) rfl (by decide) rfl (lv2 := [(2, .int 0), (0, .ref (G.1 0)), (1, .int x1)]) rfl ?_
  obtain ⟨nn, h⟩ := h
  exact (sX8_put_12 rfl hC hk  Q  nn x1 0 σ_10 h).sub [1, 2, 0] rfl
set_option maxHeartbeats 1000000 in
set_option maxRecDepth 100000 in
theorem sX8_grow_80 {G : Gx} {b k : Nat} {K : Kx} {l : Launch} (hl : K.2.1 = l) (hC : Cx YM G b K cX8_grow RX8 6 (some .int) k) (F : Sg → (Int32 → Sg → Prop) → Prop) {kf : Nat} (hF : ∀  (σ : Sg) (Q : Int32 → Sg → Prop), F  σ Q → Mi YM G b l yX8_grow cX8_grow 6 .int kf [.ref (G.1 0)] σ Q) (hk : kf + 1 ≤ k ∧ 1 ≤ k + 0)  (Q : Int32 → Sg → Prop)  (x1 : Int32) (x2 : Int32) (x3 : Int32) (x4 : Int32) (s0 : Int32) (σ : Sg) (h : wX8_grow_80 F x1 x2 x3 x4 s0 σ Q) : V YM G K (Zi YM G K Q) 6 σ 80 [(0, .ref (G.1 0)), (1, .int x1), (2, .int x2), (3, .int x3), (4, .int x4)] [.int s0] := by
  subst hl
  unfold wX8_grow_80 at h
  refine r_istore hC dX8_grow_80 (rfl : 80 + 2 = 82) (by decide) rfl (lv2 := [(5, .int s0), (0, .ref (G.1 0)), (1, .int x1), (2, .int x2), (3, .int x3), (4, .int x4)]) rfl ?_
  refine r_aload_n hC 1 dX8_grow_82 (rfl : 82 + 1 = 83) rfl rfl ?_
  refine r_iload_n hC 2 dX8_grow_83 (rfl : 83 + 1 = 84) rfl rfl ?_
  refine r_iload_n hC 3 dX8_grow_84 (rfl : 84 + 1 = 85) rfl rfl ?_
  refine r_iload_n hC 4 dX8_grow_85 (rfl : 85 + 1 = 86) rfl rfl ?_
  refine r_iload hC 5 dX8_grow_86 (rfl : 86 + 2 = 88) rfl ?_
  refine r_iload hC 0 dX8_grow_88 (rfl : 88 + 2 = 90) rfl ?_
  refine r_callVi hC cs_X8_96 rfl (by omega) (mX8_make hC.2.2.2.2.2.2.2.2.1 (k := k - 1) (by omega) x1 x2 x3 x4 s0 σ _ h) rfl rfl (Nat.le_of_ble_eq_true rfl) dX8_grow_90 (rfl : 90 + 3 = 93) (fun r_2 σ_1 h => ?_)
  exact r_iret hC rfl h dX8_grow_93
set_option maxHeartbeats 1000000 in
set_option maxRecDepth 100000 in
theorem sX8_grow_62 {G : Gx} {b k : Nat} {K : Kx} {l : Launch} (hl : K.2.1 = l) (hC : Cx YM G b K cX8_grow RX8 6 (some .int) k) (F : Sg → (Int32 → Sg → Prop) → Prop) {kf : Nat} (hF : ∀  (σ : Sg) (Q : Int32 → Sg → Prop), F  σ Q → Mi YM G b l yX8_grow cX8_grow 6 .int kf [.ref (G.1 0)] σ Q) (hk : kf + 1 ≤ k ∧ 1 ≤ k + 0)  (Q : Int32 → Sg → Prop)  (x1 : Int32) (x2 : Int32) (x3 : Int32) (s0 : Int32) (σ : Sg) (h : wX8_grow_62 F x1 x2 x3 s0 σ Q) : V YM G K (Zi YM G K Q) 6 σ 62 [(0, .ref (G.1 0)), (1, .int x1), (2, .int x2), (3, .int x3)] [.int s0] := by
  subst hl
  unfold wX8_grow_62 at h
  refine r_istore hC dX8_grow_62 (rfl : 62 + 2 = 64) (by decide) rfl (lv2 := [(4, .int s0), (0, .ref (G.1 0)), (1, .int x1), (2, .int x2), (3, .int x3)]) rfl ?_
  refine r_iload_n hC 2 dX8_grow_64 (rfl : 64 + 1 = 65) rfl rfl ?_
  refine r_callSi hC cs_X8_191 (by omega) (mX8_parts hC.2.2.2.2.2.2.2.2.1 (k := k - 1) (by omega) x1 σ _ h) rfl rfl (Nat.le_of_ble_eq_true rfl) dX8_grow_65 (rfl : 65 + 3 = 68) (fun r_4 σ_3 h => ?_)
  refine r_iconst hC dX8_grow_68 (rfl : 68 + 1 = 69) (v := 2) (by decide) ?_
  refine r_icmp_le hC dX8_grow_69 (rfl : 69 + 3 = 72) (tgt := 79) (by decide) (fun q => ?_) (fun q => ?_)
  · replace h := if_t h q
    refine r_iconst hC dX8_grow_79 (rfl : 79 + 1 = 80) (v := -1) (by decide) ?_
    exact (sX8_grow_80 rfl hC F hF hk  Q  x1 x2 x3 s0 (-1) σ_3 h).sub [1, 2, 3, 4, 0] rfl
  · replace h := if_f h q
    refine r_aload_n hC 1 dX8_grow_72 (rfl : 72 + 1 = 73) rfl rfl ?_
    refine r_callVi hC cs_X8_194 rfl (by omega) (hF  σ_3 _ h) rfl rfl (Nat.le_of_ble_eq_true rfl) dX8_grow_73 (rfl : 73 + 3 = 76) (fun r_6 σ_5 h => ?_)
    refine r_goto hC dX8_grow_76 (tgt := 80) (by decide) ?_
    exact (sX8_grow_80 rfl hC F hF hk  Q  x1 x2 x3 s0 r_6 σ_5 h).sub [1, 2, 3, 4, 0] rfl
set_option maxHeartbeats 1000000 in
set_option maxRecDepth 100000 in
theorem sX8_grow_45 {G : Gx} {b k : Nat} {K : Kx} {l : Launch} (hl : K.2.1 = l) (hC : Cx YM G b K cX8_grow RX8 6 (some .int) k) (F : Sg → (Int32 → Sg → Prop) → Prop) {kf : Nat} (hF : ∀  (σ : Sg) (Q : Int32 → Sg → Prop), F  σ Q → Mi YM G b l yX8_grow cX8_grow 6 .int kf [.ref (G.1 0)] σ Q) (hk : kf + 1 ≤ k ∧ 1 ≤ k + 0)  (Q : Int32 → Sg → Prop)  (x1 : Int32) (x2 : Int32) (s0 : Int32) (σ : Sg) (h : wX8_grow_45 F x1 x2 s0 σ Q) : V YM G K (Zi YM G K Q) 6 σ 45 [(0, .ref (G.1 0)), (1, .int x1), (2, .int x2)] [.int s0] := by
  subst hl
  unfold wX8_grow_45 at h
  refine r_istore_n hC dX8_grow_45 (rfl : 45 + 1 = 46) rfl (by decide) rfl (lv2 := [(3, .int s0), (0, .ref (G.1 0)), (1, .int x1), (2, .int x2)]) rfl ?_
  refine r_iload_n hC 2 dX8_grow_46 (rfl : 46 + 1 = 47) rfl rfl ?_
  refine r_callSi hC cs_X8_191 (by omega) (mX8_parts hC.2.2.2.2.2.2.2.2.1 (k := k - 1) (by omega) x1 σ _ h) rfl rfl (Nat.le_of_ble_eq_true rfl) dX8_grow_47 (rfl : 47 + 3 = 50) (fun r_8 σ_7 h => ?_)
  refine r_iconst hC dX8_grow_50 (rfl : 50 + 1 = 51) (v := 1) (by decide) ?_
  refine r_icmp_le hC dX8_grow_51 (rfl : 51 + 3 = 54) (tgt := 61) (by decide) (fun q => ?_) (fun q => ?_)
  · replace h := if_t h q
    refine r_iconst hC dX8_grow_61 (rfl : 61 + 1 = 62) (v := -1) (by decide) ?_
    exact (sX8_grow_62 rfl hC F hF hk  Q  x1 x2 s0 (-1) σ_7 h).sub [1, 2, 3, 0] rfl
  · replace h := if_f h q
    refine r_aload_n hC 1 dX8_grow_54 (rfl : 54 + 1 = 55) rfl rfl ?_
    refine r_callVi hC cs_X8_194 rfl (by omega) (hF  σ_7 _ h) rfl rfl (Nat.le_of_ble_eq_true rfl) dX8_grow_55 (rfl : 55 + 3 = 58) (fun r_10 σ_9 h => ?_)
    refine r_goto hC dX8_grow_58 (tgt := 62) (by decide) ?_
    exact (sX8_grow_62 rfl hC F hF hk  Q  x1 x2 s0 r_10 σ_9 h).sub [1, 2, 3, 0] rfl
set_option maxHeartbeats 1000000 in
set_option maxRecDepth 100000 in
theorem mX8_grow_b {G : Gx} {b k : Nat} {l : Launch} (hS : Sok YM G) (F : Sg → (Int32 → Sg → Prop) → Prop) {kf : Nat} (hF : ∀  (σ : Sg) (Q : Int32 → Sg → Prop), F  σ Q → Mi YM G b l yX8_grow cX8_grow 6 .int kf [.ref (G.1 0)] σ Q) (hk : kf + 1 ≤ k ∧ 1 ≤ k + 0)  (σ : Sg) (Q : Int32 → Sg → Prop) (h : wX8_grow_b F  σ Q) : Mi YM G b l yX8_grow cX8_grow 6 .int k [.ref (G.1 0)] σ Q := by
  refine enter hS (by decide +kernel) (Nat.le_of_ble_eq_true rfl) (lv := [(0, .ref (G.1 0))]) rfl (fun K hl hC => ?_)
  subst hl
  unfold wX8_grow_b at h
  show V YM G K (Zi YM G K Q) 6 σ 0 [(0, .ref (G.1 0))] []
  refine r_aload_n hC 0 dX8_grow_0 (rfl : 0 + 1 = 1) rfl rfl ?_
  refine r_getr hC 0 7 15 10 (o := 10) fw_X8_37 rfl rfl dX8_grow_1 (rfl : 1 + 3 = 4) ?_
  refine r_aload_n hC 0 dX8_grow_4 (rfl : 4 + 1 = 5) rfl rfl ?_
  refine r_geti hC 0 7 18 fw_X8_188 rfl dX8_grow_5 (rfl : 5 + 3 = 8) ?_
  obtain ⟨q_11, h⟩ := h
  refine r_iald hC 10 rfl q_11 dX8_grow_8 (rfl : 8 + 1 = 9) ?_
  obtain ⟨x1_12, e_13, h⟩ := lt_nm h
  refine r_istore_n hC dX8_grow_9 (rfl : 9 + 1 = 10) rfl (by decide) e_13 (lv2 := [(1, .int x1_12), (0, .ref (G.1 0))]) rfl ?_
  refine r_aload_n hC 1 dX8_grow_10 (rfl : 10 + 1 = 11) rfl rfl ?_
  refine r_getr hC 0 7 16 11 (o := 11) fw_X8_40 rfl rfl dX8_grow_11 (rfl : 11 + 3 = 14) ?_
  refine r_aload_n hC 1 dX8_grow_14 (rfl : 14 + 1 = 15) rfl rfl ?_
  refine r_geti hC 0 7 18 fw_X8_188 rfl dX8_grow_15 (rfl : 15 + 3 = 18) ?_
  refine r_iald hC 11 rfl q_11 dX8_grow_18 (rfl : 18 + 1 = 19) ?_
  obtain ⟨x2_14, e_15, h⟩ := lt_nm h
  refine r_istore_n hC dX8_grow_19 (rfl : 19 + 1 = 20) rfl (by decide) e_15 (lv2 := [(2, .int x2_14), (1, .int x1_12), (0, .ref (G.1 0))]) rfl ?_
  refine r_aload_n hC 2 dX8_grow_20 (rfl : 20 + 1 = 21) rfl rfl ?_
  refine r_dup hC dX8_grow_21 (rfl : 21 + 1 = 22) rfl ?_
  refine r_geti hC 0 7 18 fw_X8_188 rfl dX8_grow_22 (rfl : 22 + 3 = 25) ?_
  refine r_iconst hC dX8_grow_25 (rfl : 25 + 1 = 26) (v := 1) (by decide) ?_
  refine r_iadd hC dX8_grow_26 (rfl : 26 + 1 = 27) ?_
  obtain ⟨σ_16, e_17, h⟩ := lt_nm h
  refine r_puti hC 0 7 18 fw_X8_188 fp_8_18 rfl e_17 dX8_grow_27 (rfl : 27 + 3 = 30) ?_
  refine r_iload_n hC 1 dX8_grow_30 (rfl : 30 + 1 = 31) rfl rfl ?_
  refine r_callSi hC cs_X8_191 (by omega) (mX8_parts hC.2.2.2.2.2.2.2.2.1 (k := k - 1) (by omega) x1_12 σ_16 _ h) rfl rfl (Nat.le_of_ble_eq_true rfl) dX8_grow_31 (rfl : 31 + 3 = 34) (fun r_19 σ_18 h => ?_)
  refine r_if_le hC dX8_grow_34 (rfl : 34 + 3 = 37) (tgt := 44) (by decide) (fun q => ?_) (fun q => ?_)
  · replace h := if_t h q
    refine r_iconst hC dX8_grow_44 (rfl : 44 + 1 = 45) (v := -1) (by decide) ?_
    exact (sX8_grow_45 rfl hC F hF hk  Q  x1_12 x2_14 (-1) σ_18 h).sub [2, 1, 0] rfl
  · replace h := if_f h q
    refine r_aload_n hC 2 dX8_grow_37 (rfl : 37 + 1 = 38) rfl rfl ?_
    refine r_callVi hC cs_X8_194 rfl (by omega) (hF  σ_18 _ h) rfl rfl (Nat.le_of_ble_eq_true rfl) dX8_grow_38 (rfl : 38 + 3 = 41) (fun r_21 σ_20 h => ?_)
    refine r_goto hC dX8_grow_41 (tgt := 45) (by decide) ?_
    exact (sX8_grow_45 rfl hC F hF hk  Q  x1_12 x2_14 r_21 σ_20 h).sub [2, 1, 0] rfl
set_option maxHeartbeats 1000000 in
set_option maxRecDepth 100000 in
theorem mX8_grow {G : Gx} {b : Nat} {l : Launch} (hS : Sok YM G) : ∀ (e k : Nat), 1 * e + (1) ≤ k → ∀  (σ : Sg) (Q : Int32 → Sg → Prop), wX8_grow e  σ Q → Mi YM G b l yX8_grow cX8_grow 6 .int k [.ref (G.1 0)] σ Q := by
  intro e
  induction e with
  | zero =>
    intro k _  σ Q h
    exact h.elim
  | succ e ih =>
    intro k hk  σ Q h
    exact mX8_grow_b hS (wX8_grow e) (kf := 1 * e + (1)) (fun  σ Q h => ih _ (Nat.le_refl _)  σ Q h) ⟨by omega, by omega⟩  σ Q h
set_option maxHeartbeats 1000000 in
set_option maxRecDepth 100000 in
theorem mX8_tree {G : Gx} {b k : Nat} {l : Launch} (hS : Sok YM G) (d : Nat) (hk : 1 * d + 2 ≤ k)  (σ : Sg) (Q : Int32 → Sg → Prop) (h : wX8_tree d  σ Q) : Mi YM G b l yX8_tree cX8_tree 1 .int k [.ref (G.1 0)] σ Q := by
  refine enter hS (by decide +kernel) (Nat.le_of_ble_eq_true rfl) (lv := [(0, .ref (G.1 0))]) rfl (fun K hl hC => ?_)
  subst hl
  unfold wX8_tree at h
  show V YM G K (Zi YM G K Q) 1 σ 0 [(0, .ref (G.1 0))] []
  refine r_aload_n hC 0 dX8_tree_0 (rfl : 0 + 1 = 1) rfl rfl ?_
  refine r_iconst hC dX8_tree_1 (rfl : 1 + 1 = 2) (v := 0) (by decide) ?_
  obtain ⟨σ_1, e_2, h⟩ := lt_nm h
  refine r_puti hC 0 7 1 fw_X8_93 fp_8_1 rfl e_2 dX8_tree_2 (rfl : 2 + 3 = 5) ?_
  refine r_aload_n hC 0 dX8_tree_5 (rfl : 5 + 1 = 6) rfl rfl ?_
  refine r_iconst hC dX8_tree_6 (rfl : 6 + 1 = 7) (v := 0) (by decide) ?_
  obtain ⟨σ_3, e_4, h⟩ := lt_nm h
  refine r_puti hC 0 7 18 fw_X8_188 fp_8_18 rfl e_4 dX8_tree_7 (rfl : 7 + 3 = 10) ?_
  refine r_aload_n hC 0 dX8_tree_10 (rfl : 10 + 1 = 11) rfl rfl ?_
  refine r_callVi hC cs_X8_194 rfl (by omega) (mX8_grow hC.2.2.2.2.2.2.2.2.1 d (k - 1) (by omega)  σ_3 _ h) rfl rfl (Nat.le_of_ble_eq_true rfl) dX8_tree_11 (rfl : 11 + 3 = 14) (fun r_6 σ_5 h => ?_)
  exact r_iret hC rfl h dX8_tree_14
set_option maxHeartbeats 1000000 in
set_option maxRecDepth 100000 in
theorem mX8_treeOf {G : Gx} {b k : Nat} {l : Launch} (hS : Sok YM G) (d : Nat) (hk : 1 * d + 3 ≤ k) (x1 : Int32) (σ : Sg) (Q : Int32 → Sg → Prop) (h : wX8_treeOf d x1 σ Q) : Mi YM G b l yX8_treeOf cX8_treeOf 2 .int k [.ref (G.1 0), .int x1] σ Q := by
  refine enter hS (by decide +kernel) (Nat.le_of_ble_eq_true rfl) (lv := [(0, .ref (G.1 0)), (1, .int x1)]) rfl (fun K hl hC => ?_)
  subst hl
  unfold wX8_treeOf at h
  show V YM G K (Zi YM G K Q) 2 σ 0 [(0, .ref (G.1 0)), (1, .int x1)] []
  refine r_aload_n hC 0 dX8_treeOf_0 (rfl : 0 + 1 = 1) rfl rfl ?_
  refine r_iload_n hC 1 dX8_treeOf_1 (rfl : 1 + 1 = 2) rfl rfl ?_
  refine r_callVv hC cs_X8_198 rfl (by omega) (mX8_take hC.2.2.2.2.2.2.2.2.1 (k := k - 1) (by omega) x1 σ _ h) rfl rfl (Nat.le_of_ble_eq_true rfl) dX8_treeOf_2 (rfl : 2 + 3 = 5) (fun  σ_1 h => ?_)
  refine r_aload_n hC 0 dX8_treeOf_5 (rfl : 5 + 1 = 6) rfl rfl ?_
  refine r_callVi hC cs_X8_202 rfl (by omega) (mX8_tree hC.2.2.2.2.2.2.2.2.1 d (k := k - 1) (by omega)  σ_1 _ h) rfl rfl (Nat.le_of_ble_eq_true rfl) dX8_treeOf_6 (rfl : 6 + 3 = 9) (fun r_3 σ_2 h => ?_)
  exact r_iret hC rfl h dX8_treeOf_9
set_option maxHeartbeats 1000000 in
set_option maxRecDepth 100000 in
theorem sX8_flatten_78 {G : Gx} {b k : Nat} {K : Kx} {l : Launch} (hl : K.2.1 = l) (hC : Cx YM G b K cX8_flatten RX8 2 none k) (F : Int32 → Sg → (Sg → Prop) → Prop) {kf : Nat} (hF : ∀ (x1 : Int32) (σ : Sg) (Q : Sg → Prop), F x1 σ Q → Mv YM G b l yX8_flatten cX8_flatten 2 kf [.ref (G.1 0), .int x1] σ Q) (hk : kf + 1 ≤ k ∧ 0 ≤ k + 0)  (Q : Sg → Prop)  (x1 : Int32) (σ : Sg) (h : wX8_flatten_78 F x1 σ Q) : V YM G K (Zv YM G K Q) 2 σ 78 [(0, .ref (G.1 0)), (1, .int x1)] [] := by
  subst hl
  unfold wX8_flatten_78 at h
  refine r_aload_n hC 0 dX8_flatten_78 (rfl : 78 + 1 = 79) rfl rfl ?_
  refine r_getr hC 0 7 6 5 (o := 5) fw_X8_22 rfl rfl dX8_flatten_79 (rfl : 79 + 3 = 82) ?_
  refine r_iload_n hC 1 dX8_flatten_82 (rfl : 82 + 1 = 83) rfl rfl ?_
  obtain ⟨q_1, h⟩ := h
  refine r_iald hC 5 rfl q_1 dX8_flatten_83 (rfl : 83 + 1 = 84) ?_
  refine r_if_lt hC dX8_flatten_84 (rfl : 84 + 3 = 87) (tgt := 97) (by decide) (fun q => ?_) (fun q => ?_)
  · replace h := if_t h q
    exact r_vret hC rfl h dX8_flatten_97
  · replace h := if_f h q
    refine r_aload_n hC 0 dX8_flatten_87 (rfl : 87 + 1 = 88) rfl rfl ?_
    refine r_aload_n hC 0 dX8_flatten_88 (rfl : 88 + 1 = 89) rfl rfl ?_
    refine r_getr hC 0 7 6 5 (o := 5) fw_X8_22 rfl rfl dX8_flatten_89 (rfl : 89 + 3 = 92) ?_
    refine r_iload_n hC 1 dX8_flatten_92 (rfl : 92 + 1 = 93) rfl rfl ?_
    refine r_iald hC 5 rfl q_1 dX8_flatten_93 (rfl : 93 + 1 = 94) ?_
    refine r_callVv hC cs_X8_205 rfl (by omega) (hF (σ.1 5 (Int32.toNatClampNeg x1)) σ _ h) rfl rfl (Nat.le_of_ble_eq_true rfl) dX8_flatten_94 (rfl : 94 + 3 = 97) (fun  σ_2 h => ?_)
    exact r_vret hC rfl h dX8_flatten_97
set_option maxHeartbeats 1000000 in
set_option maxRecDepth 100000 in
theorem sX8_flatten_59 {G : Gx} {b k : Nat} {K : Kx} {l : Launch} (hl : K.2.1 = l) (hC : Cx YM G b K cX8_flatten RX8 2 none k) (F : Int32 → Sg → (Sg → Prop) → Prop) {kf : Nat} (hF : ∀ (x1 : Int32) (σ : Sg) (Q : Sg → Prop), F x1 σ Q → Mv YM G b l yX8_flatten cX8_flatten 2 kf [.ref (G.1 0), .int x1] σ Q) (hk : kf + 1 ≤ k ∧ 0 ≤ k + 0)  (Q : Sg → Prop)  (x1 : Int32) (σ : Sg) (h : wX8_flatten_59 F x1 σ Q) : V YM G K (Zv YM G K Q) 2 σ 59 [(0, .ref (G.1 0)), (1, .int x1)] [] := by
  subst hl
  unfold wX8_flatten_59 at h
  refine r_aload_n hC 0 dX8_flatten_59 (rfl : 59 + 1 = 60) rfl rfl ?_
  refine r_getr hC 0 7 5 4 (o := 4) fw_X8_19 rfl rfl dX8_flatten_60 (rfl : 60 + 3 = 63) ?_
  refine r_iload_n hC 1 dX8_flatten_63 (rfl : 63 + 1 = 64) rfl rfl ?_
  obtain ⟨q_3, h⟩ := h
  refine r_iald hC 4 rfl q_3 dX8_flatten_64 (rfl : 64 + 1 = 65) ?_
  refine r_if_lt hC dX8_flatten_65 (rfl : 65 + 3 = 68) (tgt := 78) (by decide) (fun q => ?_) (fun q => ?_)
  · replace h := if_t h q
    exact (sX8_flatten_78 rfl hC F hF hk  Q  x1 σ h).sub [0, 1] rfl
  · replace h := if_f h q
    refine r_aload_n hC 0 dX8_flatten_68 (rfl : 68 + 1 = 69) rfl rfl ?_
    refine r_aload_n hC 0 dX8_flatten_69 (rfl : 69 + 1 = 70) rfl rfl ?_
    refine r_getr hC 0 7 5 4 (o := 4) fw_X8_19 rfl rfl dX8_flatten_70 (rfl : 70 + 3 = 73) ?_
    refine r_iload_n hC 1 dX8_flatten_73 (rfl : 73 + 1 = 74) rfl rfl ?_
    refine r_iald hC 4 rfl q_3 dX8_flatten_74 (rfl : 74 + 1 = 75) ?_
    refine r_callVv hC cs_X8_205 rfl (by omega) (hF (σ.1 4 (Int32.toNatClampNeg x1)) σ _ h) rfl rfl (Nat.le_of_ble_eq_true rfl) dX8_flatten_75 (rfl : 75 + 3 = 78) (fun  σ_4 h => ?_)
    exact (sX8_flatten_78 rfl hC F hF hk  Q  x1 σ_4 h).sub [0, 1] rfl
set_option maxHeartbeats 1000000 in
set_option maxRecDepth 100000 in
theorem mX8_flatten_b {G : Gx} {b k : Nat} {l : Launch} (hS : Sok YM G) (F : Int32 → Sg → (Sg → Prop) → Prop) {kf : Nat} (hF : ∀ (x1 : Int32) (σ : Sg) (Q : Sg → Prop), F x1 σ Q → Mv YM G b l yX8_flatten cX8_flatten 2 kf [.ref (G.1 0), .int x1] σ Q) (hk : kf + 1 ≤ k ∧ 0 ≤ k + 0) (x1 : Int32) (σ : Sg) (Q : Sg → Prop) (h : wX8_flatten_b F x1 σ Q) : Mv YM G b l yX8_flatten cX8_flatten 2 k [.ref (G.1 0), .int x1] σ Q := by
  refine enter hS (by decide +kernel) (Nat.le_of_ble_eq_true rfl) (lv := [(0, .ref (G.1 0)), (1, .int x1)]) rfl (fun K hl hC => ?_)
  subst hl
  unfold wX8_flatten_b at h
  show V YM G K (Zv YM G K Q) 2 σ 0 [(0, .ref (G.1 0)), (1, .int x1)] []
  refine r_aload_n hC 0 dX8_flatten_0 (rfl : 0 + 1 = 1) rfl rfl ?_
  refine r_getr hC 0 7 15 10 (o := 10) fw_X8_37 rfl rfl dX8_flatten_1 (rfl : 1 + 3 = 4) ?_
  refine r_aload_n hC 0 dX8_flatten_4 (rfl : 4 + 1 = 5) rfl rfl ?_
  refine r_geti hC 0 7 17 fw_X8_185 rfl dX8_flatten_5 (rfl : 5 + 3 = 8) ?_
  refine r_aload_n hC 0 dX8_flatten_8 (rfl : 8 + 1 = 9) rfl rfl ?_
  refine r_getr hC 0 7 2 1 (o := 1) fw_X8_7 rfl rfl dX8_flatten_9 (rfl : 9 + 3 = 12) ?_
  refine r_iload_n hC 1 dX8_flatten_12 (rfl : 12 + 1 = 13) rfl rfl ?_
  obtain ⟨q_5, h⟩ := h
  refine r_iald hC 1 rfl q_5 dX8_flatten_13 (rfl : 13 + 1 = 14) ?_
  obtain ⟨q_6, h⟩ := h
  obtain ⟨σ_7, e_8, h⟩ := lt_nm h
  refine r_iast hC 10 rfl q_6 e_8 dX8_flatten_14 (rfl : 14 + 1 = 15) ?_
  refine r_aload_n hC 0 dX8_flatten_15 (rfl : 15 + 1 = 16) rfl rfl ?_
  refine r_getr hC 0 7 16 11 (o := 11) fw_X8_40 rfl rfl dX8_flatten_16 (rfl : 16 + 3 = 19) ?_
  refine r_aload_n hC 0 dX8_flatten_19 (rfl : 19 + 1 = 20) rfl rfl ?_
  refine r_geti hC 0 7 17 fw_X8_185 rfl dX8_flatten_20 (rfl : 20 + 3 = 23) ?_
  refine r_aload_n hC 0 dX8_flatten_23 (rfl : 23 + 1 = 24) rfl rfl ?_
  refine r_getr hC 0 7 3 2 (o := 2) fw_X8_13 rfl rfl dX8_flatten_24 (rfl : 24 + 3 = 27) ?_
  refine r_iload_n hC 1 dX8_flatten_27 (rfl : 27 + 1 = 28) rfl rfl ?_
  refine r_iald hC 2 rfl q_5 dX8_flatten_28 (rfl : 28 + 1 = 29) ?_
  obtain ⟨q_9, h⟩ := h
  obtain ⟨σ_10, e_11, h⟩ := lt_nm h
  refine r_iast hC 11 rfl q_9 e_11 dX8_flatten_29 (rfl : 29 + 1 = 30) ?_
  refine r_aload_n hC 0 dX8_flatten_30 (rfl : 30 + 1 = 31) rfl rfl ?_
  refine r_dup hC dX8_flatten_31 (rfl : 31 + 1 = 32) rfl ?_
  refine r_geti hC 0 7 17 fw_X8_185 rfl dX8_flatten_32 (rfl : 32 + 3 = 35) ?_
  refine r_iconst hC dX8_flatten_35 (rfl : 35 + 1 = 36) (v := 1) (by decide) ?_
  refine r_iadd hC dX8_flatten_36 (rfl : 36 + 1 = 37) ?_
  obtain ⟨σ_12, e_13, h⟩ := lt_nm h
  refine r_puti hC 0 7 17 fw_X8_185 fp_8_17 rfl e_13 dX8_flatten_37 (rfl : 37 + 3 = 40) ?_
  refine r_aload_n hC 0 dX8_flatten_40 (rfl : 40 + 1 = 41) rfl rfl ?_
  refine r_getr hC 0 7 4 3 (o := 3) fw_X8_16 rfl rfl dX8_flatten_41 (rfl : 41 + 3 = 44) ?_
  refine r_iload_n hC 1 dX8_flatten_44 (rfl : 44 + 1 = 45) rfl rfl ?_
  refine r_iald hC 3 rfl q_5 dX8_flatten_45 (rfl : 45 + 1 = 46) ?_
  refine r_if_lt hC dX8_flatten_46 (rfl : 46 + 3 = 49) (tgt := 59) (by decide) (fun q => ?_) (fun q => ?_)
  · replace h := if_t h q
    exact (sX8_flatten_59 rfl hC F hF hk  Q  x1 σ_12 h).sub [0, 1] rfl
  · replace h := if_f h q
    refine r_aload_n hC 0 dX8_flatten_49 (rfl : 49 + 1 = 50) rfl rfl ?_
    refine r_aload_n hC 0 dX8_flatten_50 (rfl : 50 + 1 = 51) rfl rfl ?_
    refine r_getr hC 0 7 4 3 (o := 3) fw_X8_16 rfl rfl dX8_flatten_51 (rfl : 51 + 3 = 54) ?_
    refine r_iload_n hC 1 dX8_flatten_54 (rfl : 54 + 1 = 55) rfl rfl ?_
    refine r_iald hC 3 rfl q_5 dX8_flatten_55 (rfl : 55 + 1 = 56) ?_
    refine r_callVv hC cs_X8_205 rfl (by omega) (hF (σ_12.1 3 (Int32.toNatClampNeg x1)) σ_12 _ h) rfl rfl (Nat.le_of_ble_eq_true rfl) dX8_flatten_56 (rfl : 56 + 3 = 59) (fun  σ_14 h => ?_)
    exact (sX8_flatten_59 rfl hC F hF hk  Q  x1 σ_14 h).sub [0, 1] rfl
set_option maxHeartbeats 1000000 in
set_option maxRecDepth 100000 in
theorem mX8_flatten {G : Gx} {b : Nat} {l : Launch} (hS : Sok YM G) : ∀ (e k : Nat), 1 * e + (0) ≤ k → ∀ (x1 : Int32) (σ : Sg) (Q : Sg → Prop), wX8_flatten e x1 σ Q → Mv YM G b l yX8_flatten cX8_flatten 2 k [.ref (G.1 0), .int x1] σ Q := by
  intro e
  induction e with
  | zero =>
    intro k _ x1 σ Q h
    exact h.elim
  | succ e ih =>
    intro k hk x1 σ Q h
    exact mX8_flatten_b hS (wX8_flatten e) (kf := 1 * e + (0)) (fun x1 σ Q h => ih _ (Nat.le_refl _) x1 σ Q h) ⟨by omega, by omega⟩ x1 σ Q h
set_option maxHeartbeats 1000000 in
set_option maxRecDepth 100000 in
theorem sX8_endOf_4 {G : Gx} {b k : Nat} {K : Kx} {l : Launch} (hl : K.2.1 = l) (hC : Cx YM G b K cX8_endOf RX8 4 (some .int) k)  (hk : 1 ≤ k)  (Q : Int32 → Sg → Prop)  : ∀ (n : Nat) (x2 : Int32) (x3 : Int32) (σ : Sg), wX8_endOf_4  Q n x2 x3 σ → V YM G K (Zi YM G K Q) 4 σ 4 [(0, .ref (G.1 0)), (2, .int x2), (3, .int x3)] [] := by
  subst hl
  intro n
  induction n with
  | zero =>
    intro x2 x3 σ h
    exact h.elim
  | succ n ih =>
    intro x2 x3 σ h
    have h : wX8_endOf_4_b  (wX8_endOf_4  Q n) x2 x3 σ Q := h
    unfold wX8_endOf_4_b at h
    refine r_iload_n hC 1 dX8_endOf_4 (rfl : 4 + 1 = 5) rfl rfl ?_
    refine r_if_le hC dX8_endOf_5 (rfl : 5 + 3 = 8) (tgt := 28) (by decide) (fun q => ?_) (fun q => ?_)
    · replace h := if_t h q
      refine r_iload_n hC 2 dX8_endOf_28 (rfl : 28 + 1 = 29) rfl rfl ?_
      exact r_iret hC rfl h dX8_endOf_29
    · replace h := if_f h q
      refine r_iload_n hC 1 dX8_endOf_8 (rfl : 8 + 1 = 9) rfl rfl ?_
      refine r_aload_n hC 0 dX8_endOf_9 (rfl : 9 + 1 = 10) rfl rfl ?_
      refine r_getr hC 0 7 15 10 (o := 10) fw_X8_37 rfl rfl dX8_endOf_10 (rfl : 10 + 3 = 13) ?_
      refine r_iload_n hC 2 dX8_endOf_13 (rfl : 13 + 1 = 14) rfl rfl ?_
      obtain ⟨q_1, h⟩ := h
      refine r_iald hC 10 rfl q_1 dX8_endOf_14 (rfl : 14 + 1 = 15) ?_
      refine r_callSi hC cs_X8_191 (by omega) (mX8_parts hC.2.2.2.2.2.2.2.2.1 (k := k - 1) (by omega) (σ.1 10 (Int32.toNatClampNeg x3)) σ _ h) rfl rfl (Nat.le_of_ble_eq_true rfl) dX8_endOf_15 (rfl : 15 + 3 = 18) (fun r_3 σ_2 h => ?_)
      refine r_iconst hC dX8_endOf_18 (rfl : 18 + 1 = 19) (v := 1) (by decide) ?_
      refine r_isub hC dX8_endOf_19 (rfl : 19 + 1 = 20) ?_
      refine r_iadd hC dX8_endOf_20 (rfl : 20 + 1 = 21) ?_
      obtain ⟨x2_4, e_5, h⟩ := lt_nm h
      refine r_istore_n hC dX8_endOf_21 (rfl : 21 + 1 = 22) rfl (by decide) e_5 (lv2 := [(2, .int x2_4), (0, .ref (G.1 0)), (3, .int x3)]) rfl ?_
      obtain ⟨x3_6, e_7, h⟩ := lt_nm h
      refine r_iinc hC (j := 2) dX8_endOf_22 (rfl : 22 + 3 = 25) rfl (zz := 1) (by decide) e_7 (by decide) (lv2 := [(3, .int x3_6), (2, .int x2_4), (0, .ref (G.1 0))]) rfl ?_
      refine r_goto hC dX8_endOf_25 (tgt := 4) (by decide) ?_
      exact (ih x2_4 x3_6 σ_2 h).sub [2, 1, 0] rfl
set_option maxHeartbeats 1000000 in
set_option maxRecDepth 100000 in
theorem mX8_endOf {G : Gx} {b k : Nat} {l : Launch} (hS : Sok YM G)  (hk : 1 ≤ k) (x1 : Int32) (σ : Sg) (Q : Int32 → Sg → Prop) (h : wX8_endOf  x1 σ Q) : Mi YM G b l yX8_endOf cX8_endOf 4 .int k [.ref (G.1 0), .int x1] σ Q := by
  refine enter hS (by decide +kernel) (Nat.le_of_ble_eq_true rfl) (lv := [(0, .ref (G.1 0)), (1, .int x1)]) rfl (fun K hl hC => ?_)
  subst hl
  unfold wX8_endOf at h
  show V YM G K (Zi YM G K Q) 4 σ 0 [(0, .ref (G.1 0)), (1, .int x1)] []
  refine r_iconst hC dX8_endOf_0 (rfl : 0 + 1 = 1) (v := 1) (by decide) ?_
  refine r_istore_n hC dX8_endOf_1 (rfl : 1 + 1 = 2) rfl (by decide) rfl (lv2 := [(2, .int 1), (0, .ref (G.1 0)), (1, .int x1)]) rfl ?_
  refine r_iload_n hC 2 dX8_endOf_2 (rfl : 2 + 1 = 3) rfl rfl ?_
  refine r_istore_n hC dX8_endOf_3 (rfl : 3 + 1 = 4) rfl (by decide) rfl (lv2 := [(3, .int x1), (2, .int 1), (0, .ref (G.1 0)), (1, .int x1)]) rfl ?_
  obtain ⟨nn, h⟩ := h
  exact (sX8_endOf_4 rfl hC hk  Q  nn 1 x1 σ h).sub [2, 1, 0] rfl
set_option maxHeartbeats 1000000 in
set_option maxRecDepth 100000 in
theorem sX8_pairs_5 {G : Gx} {b k : Nat} {K : Kx} {l : Launch} (hl : K.2.1 = l) (hC : Cx YM G b K cX8_pairs RX8 5 (some .long) k)  (hk : 0 ≤ k)  (Q : Int64 → Sg → Prop)  : ∀ (n : Nat) (x1 : Int32) (x2 : Int64) (x4 : Int32) (σ : Sg), wX8_pairs_5  Q n x1 x2 x4 σ → V YM G K (Zl YM G K Q) 5 σ 5 [(0, .ref (G.1 0)), (1, .int x1), (2, .long x2), (4, .int x4)] [] := by
  subst hl
  intro n
  induction n with
  | zero =>
    intro x1 x2 x4 σ h
    exact h.elim
  | succ n ih =>
    intro x1 x2 x4 σ h
    have h : wX8_pairs_5_b  (wX8_pairs_5  Q n) x1 x2 x4 σ Q := h
    unfold wX8_pairs_5_b at h
    refine r_iload hC 3 dX8_pairs_5 (rfl : 5 + 2 = 7) rfl ?_
    refine r_iload_n hC 1 dX8_pairs_7 (rfl : 7 + 1 = 8) rfl rfl ?_
    refine r_icmp_ge hC dX8_pairs_8 (rfl : 8 + 3 = 11) (tgt := 37) (by decide) (fun q => ?_) (fun q => ?_)
    · replace h := if_t h q
      refine r_lload_n hC 2 dX8_pairs_37 (rfl : 37 + 1 = 38) rfl rfl ?_
      exact r_lret hC rfl h dX8_pairs_38
    · replace h := if_f h q
      refine r_lload_n hC 2 dX8_pairs_11 (rfl : 11 + 1 = 12) rfl rfl ?_
      refine r_aload_n hC 0 dX8_pairs_12 (rfl : 12 + 1 = 13) rfl rfl ?_
      refine r_getr hC 0 7 19 12 (o := 12) fw_X8_43 rfl rfl dX8_pairs_13 (rfl : 13 + 3 = 16) ?_
      refine r_iload hC 3 dX8_pairs_16 (rfl : 16 + 2 = 18) rfl ?_
      obtain ⟨q_1, h⟩ := h
      refine r_lald hC 12 rfl q_1 dX8_pairs_18 (rfl : 18 + 1 = 19) ?_
      refine r_aload_n hC 0 dX8_pairs_19 (rfl : 19 + 1 = 20) rfl rfl ?_
      refine r_getr hC 0 7 19 12 (o := 12) fw_X8_43 rfl rfl dX8_pairs_20 (rfl : 20 + 3 = 23) ?_
      refine r_iload_n hC 1 dX8_pairs_23 (rfl : 23 + 1 = 24) rfl rfl ?_
      refine r_iload hC 3 dX8_pairs_24 (rfl : 24 + 2 = 26) rfl ?_
      refine r_isub hC dX8_pairs_26 (rfl : 26 + 1 = 27) ?_
      obtain ⟨q_2, h⟩ := h
      refine r_lald hC 12 rfl q_2 dX8_pairs_27 (rfl : 27 + 1 = 28) ?_
      refine r_lmul hC dX8_pairs_28 (rfl : 28 + 1 = 29) ?_
      refine r_ladd hC dX8_pairs_29 (rfl : 29 + 1 = 30) ?_
      obtain ⟨x2_3, e_4, h⟩ := lt_nm h
      refine r_lstore_n hC dX8_pairs_30 (rfl : 30 + 1 = 31) rfl (by decide) e_4 (lv2 := [(2, .long x2_3), (0, .ref (G.1 0)), (1, .int x1), (4, .int x4)]) rfl ?_
      obtain ⟨x4_5, e_6, h⟩ := lt_nm h
      refine r_iinc hC (j := 3) dX8_pairs_31 (rfl : 31 + 3 = 34) rfl (zz := 1) (by decide) e_6 (by decide) (lv2 := [(4, .int x4_5), (2, .long x2_3), (0, .ref (G.1 0)), (1, .int x1)]) rfl ?_
      refine r_goto hC dX8_pairs_34 (tgt := 5) (by decide) ?_
      exact (ih x1 x2_3 x4_5 σ h).sub [2, 3, 1, 0] rfl
set_option maxHeartbeats 1000000 in
set_option maxRecDepth 100000 in
theorem mX8_pairs {G : Gx} {b k : Nat} {l : Launch} (hS : Sok YM G)  (hk : 0 ≤ k) (x1 : Int32) (σ : Sg) (Q : Int64 → Sg → Prop) (h : wX8_pairs  x1 σ Q) : Ml YM G b l yX8_pairs cX8_pairs 5 k [.ref (G.1 0), .int x1] σ Q := by
  refine enter hS (by decide +kernel) (Nat.le_of_ble_eq_true rfl) (lv := [(0, .ref (G.1 0)), (1, .int x1)]) rfl (fun K hl hC => ?_)
  subst hl
  unfold wX8_pairs at h
  show V YM G K (Zl YM G K Q) 5 σ 0 [(0, .ref (G.1 0)), (1, .int x1)] []
  refine r_lconst hC dX8_pairs_0 (rfl : 0 + 1 = 1) (v := 0) (by decide) ?_
  refine r_lstore_n hC dX8_pairs_1 (rfl : 1 + 1 = 2) rfl (by decide) rfl (lv2 := [(2, .long 0), (0, .ref (G.1 0)), (1, .int x1)]) rfl ?_
  refine r_iconst hC dX8_pairs_2 (rfl : 2 + 1 = 3) (v := 1) (by decide) ?_
  refine r_istore hC dX8_pairs_3 (rfl : 3 + 2 = 5) (by decide) rfl (lv2 := [(4, .int 1), (2, .long 0), (0, .ref (G.1 0)), (1, .int x1)]) rfl ?_
  obtain ⟨nn, h⟩ := h
  exact (sX8_pairs_5 rfl hC hk  Q  nn x1 0 1 σ h).sub [2, 3, 1, 0] rfl
set_option maxHeartbeats 1000000 in
set_option maxRecDepth 100000 in
theorem mX8_hand {G : Gx} {b k : Nat} {l : Launch} (hS : Sok YM G)  (hk : 0 ≤ k) (x1 : Int32) (x2 : Int32) (σ : Sg) (Q : Sg → Prop) (h : wX8_hand  x1 x2 σ Q) : Mv YM G b l yX8_hand cX8_hand 3 k [.ref (G.1 0), .int x1, .int x2] σ Q := by
  refine enter hS (by decide +kernel) (Nat.le_of_ble_eq_true rfl) (lv := [(0, .ref (G.1 0)), (1, .int x1), (2, .int x2)]) rfl (fun K hl hC => ?_)
  subst hl
  unfold wX8_hand at h
  show V YM G K (Zv YM G K Q) 3 σ 0 [(0, .ref (G.1 0)), (1, .int x1), (2, .int x2)] []
  refine r_aload_n hC 0 dX8_hand_0 (rfl : 0 + 1 = 1) rfl rfl ?_
  refine r_getr hC 0 7 15 10 (o := 10) fw_X8_37 rfl rfl dX8_hand_1 (rfl : 1 + 3 = 4) ?_
  refine r_aload_n hC 0 dX8_hand_4 (rfl : 4 + 1 = 5) rfl rfl ?_
  refine r_geti hC 0 7 17 fw_X8_185 rfl dX8_hand_5 (rfl : 5 + 3 = 8) ?_
  refine r_iload_n hC 1 dX8_hand_8 (rfl : 8 + 1 = 9) rfl rfl ?_
  obtain ⟨q_1, h⟩ := h
  obtain ⟨σ_2, e_3, h⟩ := lt_nm h
  refine r_iast hC 10 rfl q_1 e_3 dX8_hand_9 (rfl : 9 + 1 = 10) ?_
  refine r_aload_n hC 0 dX8_hand_10 (rfl : 10 + 1 = 11) rfl rfl ?_
  refine r_getr hC 0 7 16 11 (o := 11) fw_X8_40 rfl rfl dX8_hand_11 (rfl : 11 + 3 = 14) ?_
  refine r_aload_n hC 0 dX8_hand_14 (rfl : 14 + 1 = 15) rfl rfl ?_
  refine r_geti hC 0 7 17 fw_X8_185 rfl dX8_hand_15 (rfl : 15 + 3 = 18) ?_
  refine r_iload_n hC 2 dX8_hand_18 (rfl : 18 + 1 = 19) rfl rfl ?_
  obtain ⟨q_4, h⟩ := h
  obtain ⟨σ_5, e_6, h⟩ := lt_nm h
  refine r_iast hC 11 rfl q_4 e_6 dX8_hand_19 (rfl : 19 + 1 = 20) ?_
  refine r_aload_n hC 0 dX8_hand_20 (rfl : 20 + 1 = 21) rfl rfl ?_
  refine r_dup hC dX8_hand_21 (rfl : 21 + 1 = 22) rfl ?_
  refine r_geti hC 0 7 17 fw_X8_185 rfl dX8_hand_22 (rfl : 22 + 3 = 25) ?_
  refine r_iconst hC dX8_hand_25 (rfl : 25 + 1 = 26) (v := 1) (by decide) ?_
  refine r_iadd hC dX8_hand_26 (rfl : 26 + 1 = 27) ?_
  obtain ⟨σ_7, e_8, h⟩ := lt_nm h
  refine r_puti hC 0 7 17 fw_X8_185 fp_8_17 rfl e_8 dX8_hand_27 (rfl : 27 + 3 = 30) ?_
  exact r_vret hC rfl h dX8_hand_30
set_option maxHeartbeats 1000000 in
set_option maxRecDepth 100000 in
theorem sX8_nthPair_6 {G : Gx} {b k : Nat} {K : Kx} {l : Launch} (hl : K.2.1 = l) (hC : Cx YM G b K cX8_nthPair RX8 7 none k) (F : Int32 → Int64 → Sg → (Sg → Prop) → Prop) {kf : Nat} (hF : ∀ (x1 : Int32) (x2 : Int64) (σ : Sg) (Q : Sg → Prop), F x1 x2 σ Q → Mv YM G b l yX8_nth0 cX8_nth0 11 kf [.ref (G.1 0), .int x1, .long x2] σ Q) (hk : kf + 1 ≤ k ∧ 1 ≤ k + 1)  (Q : Sg → Prop)  : ∀ (n : Nat) (x1 : Int32) (x4 : Int64) (x6 : Int32) (σ : Sg), wX8_nthPair_6 F Q n x1 x4 x6 σ → V YM G K (Zv YM G K Q) 7 σ 6 [(0, .ref (G.1 0)), (1, .int x1), (4, .long x4), (6, .int x6)] [] := by
  subst hl
  intro n
  induction n with
  | zero =>
    intro x1 x4 x6 σ h
    exact h.elim
  | succ n ih =>
    intro x1 x4 x6 σ h
    have h : wX8_nthPair_6_b F (wX8_nthPair_6 F Q n) x1 x4 x6 σ Q := h
    unfold wX8_nthPair_6_b at h
    refine r_lload hC 2 dX8_nthPair_6 (rfl : 6 + 2 = 8) rfl ?_
    refine r_aload_n hC 0 dX8_nthPair_8 (rfl : 8 + 1 = 9) rfl rfl ?_
    refine r_getr hC 0 7 19 12 (o := 12) fw_X8_43 rfl rfl dX8_nthPair_9 (rfl : 9 + 3 = 12) ?_
    refine r_iload hC 3 dX8_nthPair_12 (rfl : 12 + 2 = 14) rfl ?_
    obtain ⟨q_1, h⟩ := h
    refine r_lald hC 12 rfl q_1 dX8_nthPair_14 (rfl : 14 + 1 = 15) ?_
    refine r_aload_n hC 0 dX8_nthPair_15 (rfl : 15 + 1 = 16) rfl rfl ?_
    refine r_getr hC 0 7 19 12 (o := 12) fw_X8_43 rfl rfl dX8_nthPair_16 (rfl : 16 + 3 = 19) ?_
    refine r_iload_n hC 1 dX8_nthPair_19 (rfl : 19 + 1 = 20) rfl rfl ?_
    refine r_iload hC 3 dX8_nthPair_20 (rfl : 20 + 2 = 22) rfl ?_
    refine r_isub hC dX8_nthPair_22 (rfl : 22 + 1 = 23) ?_
    obtain ⟨q_2, h⟩ := h
    refine r_lald hC 12 rfl q_2 dX8_nthPair_23 (rfl : 23 + 1 = 24) ?_
    refine r_lmul hC dX8_nthPair_24 (rfl : 24 + 1 = 25) ?_
    refine r_lcmp hC dX8_nthPair_25 (rfl : 25 + 1 = 26) ?_
    refine r_if_lt hC dX8_nthPair_26 (rfl : 26 + 3 = 29) (tgt := 57) (by decide) (fun q => ?_) (fun q => ?_)
    · replace h := if_t h ((lg_cmp_lt _ _).1 q)
      refine r_aload_n hC 0 dX8_nthPair_57 (rfl : 57 + 1 = 58) rfl rfl ?_
      refine r_iload hC 3 dX8_nthPair_58 (rfl : 58 + 2 = 60) rfl ?_
      refine r_lload hC 2 dX8_nthPair_60 (rfl : 60 + 2 = 62) rfl ?_
      refine r_aload_n hC 0 dX8_nthPair_62 (rfl : 62 + 1 = 63) rfl rfl ?_
      refine r_getr hC 0 7 19 12 (o := 12) fw_X8_43 rfl rfl dX8_nthPair_63 (rfl : 63 + 3 = 66) ?_
      refine r_iload_n hC 1 dX8_nthPair_66 (rfl : 66 + 1 = 67) rfl rfl ?_
      refine r_iload hC 3 dX8_nthPair_67 (rfl : 67 + 2 = 69) rfl ?_
      refine r_isub hC dX8_nthPair_69 (rfl : 69 + 1 = 70) ?_
      refine r_lald hC 12 rfl q_2 dX8_nthPair_70 (rfl : 70 + 1 = 71) ?_
      obtain ⟨q_3, h⟩ := h
      refine r_ldiv hC dX8_nthPair_71 (rfl : 71 + 1 = 72) q_3 ?_
      refine r_callVv hC cs_X8_223 rfl (by omega) (hF x6 (x4 / (σ.2.1 12 (Int32.toNatClampNeg (x1 - x6)))) σ _ h) rfl rfl (Nat.le_of_ble_eq_true rfl) dX8_nthPair_72 (rfl : 72 + 3 = 75) (fun  σ_4 h => ?_)
      refine r_aload_n hC 0 dX8_nthPair_75 (rfl : 75 + 1 = 76) rfl rfl ?_
      refine r_iload_n hC 1 dX8_nthPair_76 (rfl : 76 + 1 = 77) rfl rfl ?_
      refine r_iload hC 3 dX8_nthPair_77 (rfl : 77 + 2 = 79) rfl ?_
      refine r_isub hC dX8_nthPair_79 (rfl : 79 + 1 = 80) ?_
      refine r_lload hC 2 dX8_nthPair_80 (rfl : 80 + 2 = 82) rfl ?_
      refine r_aload_n hC 0 dX8_nthPair_82 (rfl : 82 + 1 = 83) rfl rfl ?_
      refine r_getr hC 0 7 19 12 (o := 12) fw_X8_43 rfl rfl dX8_nthPair_83 (rfl : 83 + 3 = 86) ?_
      refine r_iload_n hC 1 dX8_nthPair_86 (rfl : 86 + 1 = 87) rfl rfl ?_
      refine r_iload hC 3 dX8_nthPair_87 (rfl : 87 + 2 = 89) rfl ?_
      refine r_isub hC dX8_nthPair_89 (rfl : 89 + 1 = 90) ?_
      refine r_lald hC 12 rfl q_2 dX8_nthPair_90 (rfl : 90 + 1 = 91) ?_
      obtain ⟨q_5, h⟩ := h
      refine r_lrem hC dX8_nthPair_91 (rfl : 91 + 1 = 92) q_5 ?_
      refine r_callVv hC cs_X8_223 rfl (by omega) (hF (x1 - x6) (x4 - x4 / (σ_4.2.1 12 (Int32.toNatClampNeg (x1 - x6))) * (σ_4.2.1 12 (Int32.toNatClampNeg (x1 - x6)))) σ_4 _ h) rfl rfl (Nat.le_of_ble_eq_true rfl) dX8_nthPair_92 (rfl : 92 + 3 = 95) (fun  σ_6 h => ?_)
      exact r_vret hC rfl h dX8_nthPair_95
    · replace h := if_f h (fun z => q ((lg_cmp_lt _ _).2 z))
      refine r_lload hC 2 dX8_nthPair_29 (rfl : 29 + 2 = 31) rfl ?_
      refine r_aload_n hC 0 dX8_nthPair_31 (rfl : 31 + 1 = 32) rfl rfl ?_
      refine r_getr hC 0 7 19 12 (o := 12) fw_X8_43 rfl rfl dX8_nthPair_32 (rfl : 32 + 3 = 35) ?_
      refine r_iload hC 3 dX8_nthPair_35 (rfl : 35 + 2 = 37) rfl ?_
      refine r_lald hC 12 rfl q_1 dX8_nthPair_37 (rfl : 37 + 1 = 38) ?_
      refine r_aload_n hC 0 dX8_nthPair_38 (rfl : 38 + 1 = 39) rfl rfl ?_
      refine r_getr hC 0 7 19 12 (o := 12) fw_X8_43 rfl rfl dX8_nthPair_39 (rfl : 39 + 3 = 42) ?_
      refine r_iload_n hC 1 dX8_nthPair_42 (rfl : 42 + 1 = 43) rfl rfl ?_
      refine r_iload hC 3 dX8_nthPair_43 (rfl : 43 + 2 = 45) rfl ?_
      refine r_isub hC dX8_nthPair_45 (rfl : 45 + 1 = 46) ?_
      refine r_lald hC 12 rfl q_2 dX8_nthPair_46 (rfl : 46 + 1 = 47) ?_
      refine r_lmul hC dX8_nthPair_47 (rfl : 47 + 1 = 48) ?_
      refine r_lsub hC dX8_nthPair_48 (rfl : 48 + 1 = 49) ?_
      obtain ⟨x4_7, e_8, h⟩ := lt_nm h
      refine r_lstore hC dX8_nthPair_49 (rfl : 49 + 2 = 51) (by decide) e_8 (lv2 := [(4, .long x4_7), (0, .ref (G.1 0)), (1, .int x1), (6, .int x6)]) rfl ?_
      obtain ⟨x6_9, e_10, h⟩ := lt_nm h
      refine r_iinc hC (j := 3) dX8_nthPair_51 (rfl : 51 + 3 = 54) rfl (zz := 1) (by decide) e_10 (by decide) (lv2 := [(6, .int x6_9), (4, .long x4_7), (0, .ref (G.1 0)), (1, .int x1)]) rfl ?_
      refine r_goto hC dX8_nthPair_54 (tgt := 6) (by decide) ?_
      exact (ih x1 x4_7 x6_9 σ h).sub [2, 3, 1, 0] rfl
set_option maxHeartbeats 1000000 in
set_option maxRecDepth 100000 in
theorem mX8_nthPair {G : Gx} {b k : Nat} {l : Launch} (hS : Sok YM G) (F : Int32 → Int64 → Sg → (Sg → Prop) → Prop) {kf : Nat} (hF : ∀ (x1 : Int32) (x2 : Int64) (σ : Sg) (Q : Sg → Prop), F x1 x2 σ Q → Mv YM G b l yX8_nth0 cX8_nth0 11 kf [.ref (G.1 0), .int x1, .long x2] σ Q) (hk : kf + 1 ≤ k ∧ 1 ≤ k + 1) (x1 : Int32) (x2 : Int64) (σ : Sg) (Q : Sg → Prop) (h : wX8_nthPair F x1 x2 σ Q) : Mv YM G b l yX8_nthPair cX8_nthPair 7 k [.ref (G.1 0), .int x1, .long x2] σ Q := by
  refine enter hS (by decide +kernel) (Nat.le_of_ble_eq_true rfl) (lv := [(0, .ref (G.1 0)), (1, .int x1), (2, .long x2)]) rfl (fun K hl hC => ?_)
  subst hl
  unfold wX8_nthPair at h
  show V YM G K (Zv YM G K Q) 7 σ 0 [(0, .ref (G.1 0)), (1, .int x1), (2, .long x2)] []
  refine r_lload_n hC 2 dX8_nthPair_0 (rfl : 0 + 1 = 1) rfl rfl ?_
  refine r_lstore hC dX8_nthPair_1 (rfl : 1 + 2 = 3) (by decide) rfl (lv2 := [(4, .long x2), (0, .ref (G.1 0)), (1, .int x1), (2, .long x2)]) rfl ?_
  refine r_iconst hC dX8_nthPair_3 (rfl : 3 + 1 = 4) (v := 1) (by decide) ?_
  refine r_istore hC dX8_nthPair_4 (rfl : 4 + 2 = 6) (by decide) rfl (lv2 := [(6, .int 1), (4, .long x2), (0, .ref (G.1 0)), (1, .int x1), (2, .long x2)]) rfl ?_
  obtain ⟨nn, h⟩ := h
  exact (sX8_nthPair_6 rfl hC F hF hk  Q  nn x1 x2 1 σ h).sub [2, 3, 1, 0] rfl
set_option maxHeartbeats 1000000 in
set_option maxRecDepth 100000 in
theorem sX8_nth0_153 {G : Gx} {b k : Nat} {K : Kx} {l : Launch} (hl : K.2.1 = l) (hC : Cx YM G b K cX8_nth0 RX8 11 none k) (F : Int32 → Int64 → Sg → (Sg → Prop) → Prop) {kf : Nat} (hF : ∀ (x1 : Int32) (x2 : Int64) (σ : Sg) (Q : Sg → Prop), F x1 x2 σ Q → Mv YM G b l yX8_nth0 cX8_nth0 11 kf [.ref (G.1 0), .int x1, .long x2] σ Q) (hk : kf + 2 ≤ k ∧ 1 ≤ k + 0)  (Q : Sg → Prop)  : ∀ (n : Nat) (x1 : Int32) (x4 : Int64) (x8 : Int32) (σ : Sg), wX8_nth0_153 F Q n x1 x4 x8 σ → V YM G K (Zv YM G K Q) 11 σ 153 [(0, .ref (G.1 0)), (1, .int x1), (4, .long x4), (8, .int x8)] [] := by
  subst hl
  intro n
  induction n with
  | zero =>
    intro x1 x4 x8 σ h
    exact h.elim
  | succ n ih =>
    intro x1 x4 x8 σ h
    have h : wX8_nth0_153_b F (wX8_nth0_153 F Q n) x1 x4 x8 σ Q := h
    unfold wX8_nth0_153_b at h
    refine r_lload hC 2 dX8_nth0_153 (rfl : 153 + 2 = 155) rfl ?_
    refine r_aload_n hC 0 dX8_nth0_155 (rfl : 155 + 1 = 156) rfl rfl ?_
    refine r_getr hC 0 7 19 12 (o := 12) fw_X8_43 rfl rfl dX8_nth0_156 (rfl : 156 + 3 = 159) ?_
    refine r_iload hC 3 dX8_nth0_159 (rfl : 159 + 2 = 161) rfl ?_
    obtain ⟨q_1, h⟩ := h
    refine r_lald hC 12 rfl q_1 dX8_nth0_161 (rfl : 161 + 1 = 162) ?_
    refine r_aload_n hC 0 dX8_nth0_162 (rfl : 162 + 1 = 163) rfl rfl ?_
    refine r_iload_n hC 1 dX8_nth0_163 (rfl : 163 + 1 = 164) rfl rfl ?_
    refine r_iconst hC dX8_nth0_164 (rfl : 164 + 1 = 165) (v := 1) (by decide) ?_
    refine r_isub hC dX8_nth0_165 (rfl : 165 + 1 = 166) ?_
    refine r_iload hC 3 dX8_nth0_166 (rfl : 166 + 2 = 168) rfl ?_
    refine r_isub hC dX8_nth0_168 (rfl : 168 + 1 = 169) ?_
    refine r_callVl hC cs_X8_212 rfl (by omega) (mX8_pairs hC.2.2.2.2.2.2.2.2.1 (k := k - 1) (by omega) ((x1 - 1) - x8) σ _ h) rfl rfl (Nat.le_of_ble_eq_true rfl) dX8_nth0_169 (rfl : 169 + 3 = 172) (fun r_3 σ_2 h => ?_)
    refine r_lmul hC dX8_nth0_172 (rfl : 172 + 1 = 173) ?_
    refine r_lcmp hC dX8_nth0_173 (rfl : 173 + 1 = 174) ?_
    refine r_if_lt hC dX8_nth0_174 (rfl : 174 + 3 = 177) (tgt := 206) (by decide) (fun q => ?_) (fun q => ?_)
    · replace h := if_t h ((lg_cmp_lt _ _).1 q)
      refine r_aload_n hC 0 dX8_nth0_206 (rfl : 206 + 1 = 207) rfl rfl ?_
      refine r_iload_n hC 1 dX8_nth0_207 (rfl : 207 + 1 = 208) rfl rfl ?_
      refine r_iconst hC dX8_nth0_208 (rfl : 208 + 1 = 209) (v := 1) (by decide) ?_
      refine r_isub hC dX8_nth0_209 (rfl : 209 + 1 = 210) ?_
      refine r_iload hC 3 dX8_nth0_210 (rfl : 210 + 2 = 212) rfl ?_
      refine r_isub hC dX8_nth0_212 (rfl : 212 + 1 = 213) ?_
      refine r_callVl hC cs_X8_212 rfl (by omega) (mX8_pairs hC.2.2.2.2.2.2.2.2.1 (k := k - 1) (by omega) ((x1 - 1) - x8) σ_2 _ h) rfl rfl (Nat.le_of_ble_eq_true rfl) dX8_nth0_213 (rfl : 213 + 3 = 216) (fun r_5 σ_4 h => ?_)
      refine r_lstore hC dX8_nth0_216 (rfl : 216 + 2 = 218) (by decide) rfl (lv2 := [(9, .long r_5), (0, .ref (G.1 0)), (1, .int x1), (4, .long x4), (8, .int x8)]) rfl ?_
      refine r_aload_n hC 1 dX8_nth0_218 (rfl : 218 + 1 = 219) rfl rfl ?_
      refine r_iload hC 4 dX8_nth0_219 (rfl : 219 + 2 = 221) rfl ?_
      refine r_lload hC 3 dX8_nth0_221 (rfl : 221 + 2 = 223) rfl ?_
      refine r_lload hC 0 dX8_nth0_223 (rfl : 223 + 2 = 225) rfl ?_
      obtain ⟨q_6, h⟩ := h
      refine r_ldiv hC dX8_nth0_225 (rfl : 225 + 1 = 226) q_6 ?_
      refine r_callVv hC cs_X8_223 rfl (by omega) (hF x8 (x4 / r_5) σ_4 _ h) rfl rfl (Nat.le_of_ble_eq_true rfl) dX8_nth0_226 (rfl : 226 + 3 = 229) (fun  σ_7 h => ?_)
      refine r_aload_n hC 1 dX8_nth0_229 (rfl : 229 + 1 = 230) rfl rfl ?_
      refine r_iload_n hC 2 dX8_nth0_230 (rfl : 230 + 1 = 231) rfl rfl ?_
      refine r_iconst hC dX8_nth0_231 (rfl : 231 + 1 = 232) (v := 1) (by decide) ?_
      refine r_isub hC dX8_nth0_232 (rfl : 232 + 1 = 233) ?_
      refine r_iload hC 4 dX8_nth0_233 (rfl : 233 + 2 = 235) rfl ?_
      refine r_isub hC dX8_nth0_235 (rfl : 235 + 1 = 236) ?_
      refine r_lload hC 3 dX8_nth0_236 (rfl : 236 + 2 = 238) rfl ?_
      refine r_lload hC 0 dX8_nth0_238 (rfl : 238 + 2 = 240) rfl ?_
      refine r_lrem hC dX8_nth0_240 (rfl : 240 + 1 = 241) q_6 ?_
      refine r_callVv hC cs_X8_233 rfl (by omega) (mX8_nthPair hC.2.2.2.2.2.2.2.2.1 F hF (k := k - 1) ⟨by omega, by omega⟩ ((x1 - 1) - x8) (x4 - x4 / r_5 * r_5) σ_7 _ h) rfl rfl (Nat.le_of_ble_eq_true rfl) dX8_nth0_241 (rfl : 241 + 3 = 244) (fun  σ_8 h => ?_)
      exact r_vret hC rfl h dX8_nth0_244
    · replace h := if_f h (fun z => q ((lg_cmp_lt _ _).2 z))
      refine r_lload hC 2 dX8_nth0_177 (rfl : 177 + 2 = 179) rfl ?_
      refine r_aload_n hC 0 dX8_nth0_179 (rfl : 179 + 1 = 180) rfl rfl ?_
      refine r_getr hC 0 7 19 12 (o := 12) fw_X8_43 rfl rfl dX8_nth0_180 (rfl : 180 + 3 = 183) ?_
      refine r_iload hC 3 dX8_nth0_183 (rfl : 183 + 2 = 185) rfl ?_
      refine r_lald hC 12 rfl q_1 dX8_nth0_185 (rfl : 185 + 1 = 186) ?_
      refine r_aload_n hC 0 dX8_nth0_186 (rfl : 186 + 1 = 187) rfl rfl ?_
      refine r_iload_n hC 1 dX8_nth0_187 (rfl : 187 + 1 = 188) rfl rfl ?_
      refine r_iconst hC dX8_nth0_188 (rfl : 188 + 1 = 189) (v := 1) (by decide) ?_
      refine r_isub hC dX8_nth0_189 (rfl : 189 + 1 = 190) ?_
      refine r_iload hC 3 dX8_nth0_190 (rfl : 190 + 2 = 192) rfl ?_
      refine r_isub hC dX8_nth0_192 (rfl : 192 + 1 = 193) ?_
      refine r_callVl hC cs_X8_212 rfl (by omega) (mX8_pairs hC.2.2.2.2.2.2.2.2.1 (k := k - 1) (by omega) ((x1 - 1) - x8) σ_2 _ h) rfl rfl (Nat.le_of_ble_eq_true rfl) dX8_nth0_193 (rfl : 193 + 3 = 196) (fun r_10 σ_9 h => ?_)
      refine r_lmul hC dX8_nth0_196 (rfl : 196 + 1 = 197) ?_
      refine r_lsub hC dX8_nth0_197 (rfl : 197 + 1 = 198) ?_
      obtain ⟨x4_11, e_12, h⟩ := lt_nm h
      refine r_lstore hC dX8_nth0_198 (rfl : 198 + 2 = 200) (by decide) e_12 (lv2 := [(4, .long x4_11), (0, .ref (G.1 0)), (1, .int x1), (8, .int x8)]) rfl ?_
      obtain ⟨x8_13, e_14, h⟩ := lt_nm h
      refine r_iinc hC (j := 3) dX8_nth0_200 (rfl : 200 + 3 = 203) rfl (zz := 1) (by decide) e_14 (by decide) (lv2 := [(8, .int x8_13), (4, .long x4_11), (0, .ref (G.1 0)), (1, .int x1)]) rfl ?_
      refine r_goto hC dX8_nth0_203 (tgt := 153) (by decide) ?_
      exact (ih x1 x4_11 x8_13 σ_9 h).sub [2, 3, 1, 0] rfl
set_option maxHeartbeats 1000000 in
set_option maxRecDepth 100000 in
theorem sX8_nth0_98 {G : Gx} {b k : Nat} {K : Kx} {l : Launch} (hl : K.2.1 = l) (hC : Cx YM G b K cX8_nth0 RX8 11 none k) (F : Int32 → Int64 → Sg → (Sg → Prop) → Prop) {kf : Nat} (hF : ∀ (x1 : Int32) (x2 : Int64) (σ : Sg) (Q : Sg → Prop), F x1 x2 σ Q → Mv YM G b l yX8_nth0 cX8_nth0 11 kf [.ref (G.1 0), .int x1, .long x2] σ Q) (hk : kf + 2 ≤ k ∧ 1 ≤ k + 0)  (Q : Sg → Prop)  : ∀ (n : Nat) (x1 : Int32) (x4 : Int64) (x6 : Int64) (x8 : Int32) (σ : Sg), wX8_nth0_98 F Q n x1 x4 x6 x8 σ → V YM G K (Zv YM G K Q) 11 σ 98 [(0, .ref (G.1 0)), (1, .int x1), (4, .long x4), (6, .long x6), (8, .int x8)] [] := by
  subst hl
  intro n
  induction n with
  | zero =>
    intro x1 x4 x6 x8 σ h
    exact h.elim
  | succ n ih =>
    intro x1 x4 x6 x8 σ h
    have h : wX8_nth0_98_b F (wX8_nth0_98 F Q n) x1 x4 x6 x8 σ Q := h
    unfold wX8_nth0_98_b at h
    refine r_iload hC 4 dX8_nth0_98 (rfl : 98 + 2 = 100) rfl ?_
    refine r_bipush hC dX8_nth0_100 (rfl : 100 + 2 = 102) (v := 7) (by decide) ?_
    refine r_icmp_gt hC dX8_nth0_102 (rfl : 102 + 3 = 105) (tgt := 143) (by decide) (fun q => ?_) (fun q => ?_)
    · replace h := if_t h q
      refine r_aload_n hC 0 dX8_nth0_143 (rfl : 143 + 1 = 144) rfl rfl ?_
      refine r_bipush hC dX8_nth0_144 (rfl : 144 + 2 = 146) (v := 8) (by decide) ?_
      refine r_iconst hC dX8_nth0_146 (rfl : 146 + 1 = 147) (v := 0) (by decide) ?_
      refine r_callVv hC cs_X8_229 rfl (by omega) (mX8_hand hC.2.2.2.2.2.2.2.2.1 (k := k - 1) (by omega) 8 0 σ _ h) rfl rfl (Nat.le_of_ble_eq_true rfl) dX8_nth0_147 (rfl : 147 + 3 = 150) (fun  σ_15 h => ?_)
      refine r_iconst hC dX8_nth0_150 (rfl : 150 + 1 = 151) (v := 1) (by decide) ?_
      refine r_istore hC dX8_nth0_151 (rfl : 151 + 2 = 153) (by decide) rfl (lv2 := [(8, .int 1), (0, .ref (G.1 0)), (1, .int x1), (4, .long x4), (6, .long x6)]) rfl ?_
      obtain ⟨nn, h⟩ := h
      exact (sX8_nth0_153 rfl hC F hF hk  Q  nn x1 x4 1 σ_15 h).sub [1, 2, 3, 0] rfl
    · replace h := if_f h q
      refine r_lload hC 2 dX8_nth0_105 (rfl : 105 + 2 = 107) rfl ?_
      refine r_lload hC 3 dX8_nth0_107 (rfl : 107 + 2 = 109) rfl ?_
      refine r_lcmp hC dX8_nth0_109 (rfl : 109 + 1 = 110) ?_
      refine r_if_ge hC dX8_nth0_110 (rfl : 110 + 3 = 113) (tgt := 130) (by decide) (fun q => ?_) (fun q => ?_)
      · replace h := if_t h ((lg_cmp_ge _ _).1 q)
        refine r_lload hC 2 dX8_nth0_130 (rfl : 130 + 2 = 132) rfl ?_
        refine r_lload hC 3 dX8_nth0_132 (rfl : 132 + 2 = 134) rfl ?_
        refine r_lsub hC dX8_nth0_134 (rfl : 134 + 1 = 135) ?_
        obtain ⟨x4_16, e_17, h⟩ := lt_nm h
        refine r_lstore hC dX8_nth0_135 (rfl : 135 + 2 = 137) (by decide) e_17 (lv2 := [(4, .long x4_16), (0, .ref (G.1 0)), (1, .int x1), (6, .long x6), (8, .int x8)]) rfl ?_
        obtain ⟨x8_18, e_19, h⟩ := lt_nm h
        refine r_iinc hC (j := 4) dX8_nth0_137 (rfl : 137 + 3 = 140) rfl (zz := 1) (by decide) e_19 (by decide) (lv2 := [(8, .int x8_18), (4, .long x4_16), (0, .ref (G.1 0)), (1, .int x1), (6, .long x6)]) rfl ?_
        refine r_goto hC dX8_nth0_140 (tgt := 98) (by decide) ?_
        exact (ih x1 x4_16 x6 x8_18 σ h).sub [2, 3, 1, 4, 0] rfl
      · replace h := if_f h (fun z => q ((lg_cmp_ge _ _).2 z))
        refine r_aload_n hC 0 dX8_nth0_113 (rfl : 113 + 1 = 114) rfl rfl ?_
        refine r_iload hC 4 dX8_nth0_114 (rfl : 114 + 2 = 116) rfl ?_
        refine r_iconst hC dX8_nth0_116 (rfl : 116 + 1 = 117) (v := 0) (by decide) ?_
        refine r_callVv hC cs_X8_229 rfl (by omega) (mX8_hand hC.2.2.2.2.2.2.2.2.1 (k := k - 1) (by omega) x8 0 σ _ h) rfl rfl (Nat.le_of_ble_eq_true rfl) dX8_nth0_117 (rfl : 117 + 3 = 120) (fun  σ_20 h => ?_)
        refine r_aload_n hC 0 dX8_nth0_120 (rfl : 120 + 1 = 121) rfl rfl ?_
        refine r_iload_n hC 1 dX8_nth0_121 (rfl : 121 + 1 = 122) rfl rfl ?_
        refine r_iconst hC dX8_nth0_122 (rfl : 122 + 1 = 123) (v := 1) (by decide) ?_
        refine r_isub hC dX8_nth0_123 (rfl : 123 + 1 = 124) ?_
        refine r_lload hC 2 dX8_nth0_124 (rfl : 124 + 2 = 126) rfl ?_
        refine r_callVv hC cs_X8_233 rfl (by omega) (mX8_nthPair hC.2.2.2.2.2.2.2.2.1 F hF (k := k - 1) ⟨by omega, by omega⟩ (x1 - 1) x4 σ_20 _ h) rfl rfl (Nat.le_of_ble_eq_true rfl) dX8_nth0_126 (rfl : 126 + 3 = 129) (fun  σ_21 h => ?_)
        exact r_vret hC rfl h dX8_nth0_129
set_option maxHeartbeats 1000000 in
set_option maxRecDepth 100000 in
theorem sX8_nth0_36 {G : Gx} {b k : Nat} {K : Kx} {l : Launch} (hl : K.2.1 = l) (hC : Cx YM G b K cX8_nth0 RX8 11 none k) (F : Int32 → Int64 → Sg → (Sg → Prop) → Prop) {kf : Nat} (hF : ∀ (x1 : Int32) (x2 : Int64) (σ : Sg) (Q : Sg → Prop), F x1 x2 σ Q → Mv YM G b l yX8_nth0 cX8_nth0 11 kf [.ref (G.1 0), .int x1, .long x2] σ Q) (hk : kf + 2 ≤ k ∧ 1 ≤ k + 0)  (Q : Sg → Prop)  (s1 : Int32) (s2 : Int32) (σ : Sg) (h : wX8_nth0_36 F s1 s2 σ Q) : V YM G K (Zv YM G K Q) 11 σ 36 [] [.int s2, .int s1, .ref (G.1 0)] := by
  subst hl
  unfold wX8_nth0_36 at h
  refine r_callVv hC cs_X8_229 rfl (by omega) (mX8_hand hC.2.2.2.2.2.2.2.2.1 (k := k - 1) (by omega) s1 s2 σ _ h) rfl rfl (Nat.le_of_ble_eq_true rfl) dX8_nth0_36 (rfl : 36 + 3 = 39) (fun  σ_22 h => ?_)
  exact r_vret hC rfl h dX8_nth0_39
set_option maxHeartbeats 1000000 in
set_option maxRecDepth 100000 in
theorem sX8_nth0_22 {G : Gx} {b k : Nat} {K : Kx} {l : Launch} (hl : K.2.1 = l) (hC : Cx YM G b K cX8_nth0 RX8 11 none k) (F : Int32 → Int64 → Sg → (Sg → Prop) → Prop) {kf : Nat} (hF : ∀ (x1 : Int32) (x2 : Int64) (σ : Sg) (Q : Sg → Prop), F x1 x2 σ Q → Mv YM G b l yX8_nth0 cX8_nth0 11 kf [.ref (G.1 0), .int x1, .long x2] σ Q) (hk : kf + 2 ≤ k ∧ 1 ≤ k + 0)  (Q : Sg → Prop)  (x2 : Int64) (s1 : Int32) (σ : Sg) (h : wX8_nth0_22 F x2 s1 σ Q) : V YM G K (Zv YM G K Q) 11 σ 22 [(2, .long x2)] [.int s1, .ref (G.1 0)] := by
  subst hl
  unfold wX8_nth0_22 at h
  refine r_lload_n hC 0 dX8_nth0_22 (rfl : 22 + 1 = 23) rfl rfl ?_
  refine r_ldc2 hC dX8_nth0_23 (rfl : 23 + 3 = 26) wd_913 ?_
  refine r_lcmp hC dX8_nth0_26 (rfl : 26 + 1 = 27) ?_
  refine r_if_ge hC dX8_nth0_27 (rfl : 27 + 3 = 30) (tgt := 35) (by decide) (fun q => ?_) (fun q => ?_)
  · replace h := if_t h ((lg_cmp_ge _ _).1 q)
    refine r_iconst hC dX8_nth0_35 (rfl : 35 + 1 = 36) (v := 0) (by decide) ?_
    exact (sX8_nth0_36 rfl hC F hF hk  Q  s1 0 σ h).sub [] rfl
  · replace h := if_f h (fun z => q ((lg_cmp_ge _ _).2 z))
    refine r_lload_n hC 0 dX8_nth0_30 (rfl : 30 + 1 = 31) rfl rfl ?_
    refine r_l2i hC dX8_nth0_31 (rfl : 31 + 1 = 32) ?_
    refine r_goto hC dX8_nth0_32 (tgt := 36) (by decide) ?_
    exact (sX8_nth0_36 rfl hC F hF hk  Q  s1 (Int64.toInt32 x2) σ h).sub [] rfl
set_option maxHeartbeats 1000000 in
set_option maxRecDepth 100000 in
theorem mX8_nth0_b {G : Gx} {b k : Nat} {l : Launch} (hS : Sok YM G) (F : Int32 → Int64 → Sg → (Sg → Prop) → Prop) {kf : Nat} (hF : ∀ (x1 : Int32) (x2 : Int64) (σ : Sg) (Q : Sg → Prop), F x1 x2 σ Q → Mv YM G b l yX8_nth0 cX8_nth0 11 kf [.ref (G.1 0), .int x1, .long x2] σ Q) (hk : kf + 2 ≤ k ∧ 1 ≤ k + 0) (x1 : Int32) (x2 : Int64) (σ : Sg) (Q : Sg → Prop) (h : wX8_nth0_b F x1 x2 σ Q) : Mv YM G b l yX8_nth0 cX8_nth0 11 k [.ref (G.1 0), .int x1, .long x2] σ Q := by
  refine enter hS (by decide +kernel) (Nat.le_of_ble_eq_true rfl) (lv := [(0, .ref (G.1 0)), (1, .int x1), (2, .long x2)]) rfl (fun K hl hC => ?_)
  subst hl
  unfold wX8_nth0_b at h
  show V YM G K (Zv YM G K Q) 11 σ 0 [(0, .ref (G.1 0)), (1, .int x1), (2, .long x2)] []
  refine r_iload_n hC 1 dX8_nth0_0 (rfl : 0 + 1 = 1) rfl rfl ?_
  refine r_iconst hC dX8_nth0_1 (rfl : 1 + 1 = 2) (v := 1) (by decide) ?_
  refine r_icmp_ne hC dX8_nth0_2 (rfl : 2 + 3 = 5) (tgt := 40) (by decide) (fun q => ?_) (fun q => ?_)
  · replace h := if_f h q
    refine r_lload_n hC 2 dX8_nth0_40 (rfl : 40 + 1 = 41) rfl rfl ?_
    refine r_lstore hC dX8_nth0_41 (rfl : 41 + 2 = 43) (by decide) rfl (lv2 := [(4, .long x2), (0, .ref (G.1 0)), (1, .int x1), (2, .long x2)]) rfl ?_
    refine r_lload hC 0 dX8_nth0_43 (rfl : 43 + 2 = 45) rfl ?_
    refine r_aload_n hC 1 dX8_nth0_45 (rfl : 45 + 1 = 46) rfl rfl ?_
    refine r_getr hC 0 7 19 12 (o := 12) fw_X8_43 rfl rfl dX8_nth0_46 (rfl : 46 + 3 = 49) ?_
    refine r_iload_n hC 2 dX8_nth0_49 (rfl : 49 + 1 = 50) rfl rfl ?_
    refine r_iconst hC dX8_nth0_50 (rfl : 50 + 1 = 51) (v := 1) (by decide) ?_
    refine r_isub hC dX8_nth0_51 (rfl : 51 + 1 = 52) ?_
    obtain ⟨q_23, h⟩ := h
    refine r_lald hC 12 rfl q_23 dX8_nth0_52 (rfl : 52 + 1 = 53) ?_
    refine r_lcmp hC dX8_nth0_53 (rfl : 53 + 1 = 54) ?_
    refine r_if_ge hC dX8_nth0_54 (rfl : 54 + 3 = 57) (tgt := 73) (by decide) (fun q => ?_) (fun q => ?_)
    · replace h := if_t h ((lg_cmp_ge _ _).1 q)
      refine r_lload hC 0 dX8_nth0_73 (rfl : 73 + 2 = 75) rfl ?_
      refine r_aload_n hC 1 dX8_nth0_75 (rfl : 75 + 1 = 76) rfl rfl ?_
      refine r_getr hC 0 7 19 12 (o := 12) fw_X8_43 rfl rfl dX8_nth0_76 (rfl : 76 + 3 = 79) ?_
      refine r_iload_n hC 2 dX8_nth0_79 (rfl : 79 + 1 = 80) rfl rfl ?_
      refine r_iconst hC dX8_nth0_80 (rfl : 80 + 1 = 81) (v := 1) (by decide) ?_
      refine r_isub hC dX8_nth0_81 (rfl : 81 + 1 = 82) ?_
      refine r_lald hC 12 rfl q_23 dX8_nth0_82 (rfl : 82 + 1 = 83) ?_
      refine r_lsub hC dX8_nth0_83 (rfl : 83 + 1 = 84) ?_
      obtain ⟨x4_24, e_25, h⟩ := lt_nm h
      refine r_lstore hC dX8_nth0_84 (rfl : 84 + 2 = 86) (by decide) e_25 (lv2 := [(4, .long x4_24), (0, .ref (G.1 0)), (1, .int x1), (2, .long x2)]) rfl ?_
      refine r_aload_n hC 1 dX8_nth0_86 (rfl : 86 + 1 = 87) rfl rfl ?_
      refine r_iload_n hC 2 dX8_nth0_87 (rfl : 87 + 1 = 88) rfl rfl ?_
      refine r_iconst hC dX8_nth0_88 (rfl : 88 + 1 = 89) (v := 1) (by decide) ?_
      refine r_isub hC dX8_nth0_89 (rfl : 89 + 1 = 90) ?_
      refine r_callVl hC cs_X8_212 rfl (by omega) (mX8_pairs hC.2.2.2.2.2.2.2.2.1 (k := k - 1) (by omega) (x1 - 1) σ _ h) rfl rfl (Nat.le_of_ble_eq_true rfl) dX8_nth0_90 (rfl : 90 + 3 = 93) (fun r_27 σ_26 h => ?_)
      refine r_lstore hC dX8_nth0_93 (rfl : 93 + 2 = 95) (by decide) rfl (lv2 := [(6, .long r_27), (4, .long x4_24), (0, .ref (G.1 0)), (1, .int x1), (2, .long x2)]) rfl ?_
      refine r_iconst hC dX8_nth0_95 (rfl : 95 + 1 = 96) (v := 4) (by decide) ?_
      refine r_istore hC dX8_nth0_96 (rfl : 96 + 2 = 98) (by decide) rfl (lv2 := [(8, .int 4), (6, .long r_27), (4, .long x4_24), (0, .ref (G.1 0)), (1, .int x1), (2, .long x2)]) rfl ?_
      obtain ⟨nn, h⟩ := h
      exact (sX8_nth0_98 rfl hC F hF hk  Q  nn x1 x4_24 r_27 4 σ_26 h).sub [3, 4, 2, 1, 0] rfl
    · replace h := if_f h (fun z => q ((lg_cmp_ge _ _).2 z))
      refine r_aload_n hC 1 dX8_nth0_57 (rfl : 57 + 1 = 58) rfl rfl ?_
      refine r_iconst hC dX8_nth0_58 (rfl : 58 + 1 = 59) (v := 3) (by decide) ?_
      refine r_iconst hC dX8_nth0_59 (rfl : 59 + 1 = 60) (v := 0) (by decide) ?_
      refine r_callVv hC cs_X8_229 rfl (by omega) (mX8_hand hC.2.2.2.2.2.2.2.2.1 (k := k - 1) (by omega) 3 0 σ _ h) rfl rfl (Nat.le_of_ble_eq_true rfl) dX8_nth0_60 (rfl : 60 + 3 = 63) (fun  σ_28 h => ?_)
      refine r_aload_n hC 1 dX8_nth0_63 (rfl : 63 + 1 = 64) rfl rfl ?_
      refine r_iload_n hC 2 dX8_nth0_64 (rfl : 64 + 1 = 65) rfl rfl ?_
      refine r_iconst hC dX8_nth0_65 (rfl : 65 + 1 = 66) (v := 1) (by decide) ?_
      refine r_isub hC dX8_nth0_66 (rfl : 66 + 1 = 67) ?_
      refine r_lload hC 0 dX8_nth0_67 (rfl : 67 + 2 = 69) rfl ?_
      refine r_callVv hC cs_X8_223 rfl (by omega) (hF (x1 - 1) x2 σ_28 _ h) rfl rfl (Nat.le_of_ble_eq_true rfl) dX8_nth0_69 (rfl : 69 + 3 = 72) (fun  σ_29 h => ?_)
      exact r_vret hC rfl h dX8_nth0_72
  · replace h := if_t h q
    refine r_aload_n hC 0 dX8_nth0_5 (rfl : 5 + 1 = 6) rfl rfl ?_
    refine r_lload_n hC 2 dX8_nth0_6 (rfl : 6 + 1 = 7) rfl rfl ?_
    refine r_ldc2 hC dX8_nth0_7 (rfl : 7 + 3 = 10) wd_913 ?_
    refine r_lcmp hC dX8_nth0_10 (rfl : 10 + 1 = 11) ?_
    refine r_if_ge hC dX8_nth0_11 (rfl : 11 + 3 = 14) (tgt := 18) (by decide) (fun q => ?_) (fun q => ?_)
    · replace h := if_t h ((lg_cmp_ge _ _).1 q)
      refine r_lload_n hC 2 dX8_nth0_18 (rfl : 18 + 1 = 19) rfl rfl ?_
      refine r_l2i hC dX8_nth0_19 (rfl : 19 + 1 = 20) ?_
      refine r_iconst hC dX8_nth0_20 (rfl : 20 + 1 = 21) (v := 2) (by decide) ?_
      refine r_isub hC dX8_nth0_21 (rfl : 21 + 1 = 22) ?_
      exact (sX8_nth0_22 rfl hC F hF hk  Q  x2 ((Int64.toInt32 x2) - 2) σ h).sub [2] rfl
    · replace h := if_f h (fun z => q ((lg_cmp_ge _ _).2 z))
      refine r_iconst hC dX8_nth0_14 (rfl : 14 + 1 = 15) (v := 0) (by decide) ?_
      refine r_goto hC dX8_nth0_15 (tgt := 22) (by decide) ?_
      exact (sX8_nth0_22 rfl hC F hF hk  Q  x2 0 σ h).sub [2] rfl
set_option maxHeartbeats 1000000 in
set_option maxRecDepth 100000 in
theorem mX8_nth0 {G : Gx} {b : Nat} {l : Launch} (hS : Sok YM G) : ∀ (e k : Nat), 2 * e + (1) ≤ k → ∀ (x1 : Int32) (x2 : Int64) (σ : Sg) (Q : Sg → Prop), wX8_nth0 e x1 x2 σ Q → Mv YM G b l yX8_nth0 cX8_nth0 11 k [.ref (G.1 0), .int x1, .long x2] σ Q := by
  intro e
  induction e with
  | zero =>
    intro k _ x1 x2 σ Q h
    exact h.elim
  | succ e ih =>
    intro k hk x1 x2 σ Q h
    exact mX8_nth0_b hS (wX8_nth0 e) (kf := 2 * e + (1)) (fun x1 x2 σ Q h => ih _ (Nat.le_refl _) x1 x2 σ Q h) ⟨by omega, by omega⟩ x1 x2 σ Q h
set_option maxHeartbeats 1000000 in
set_option maxRecDepth 100000 in
theorem sX8_pairRank_20 {G : Gx} {b k : Nat} {K : Kx} {l : Launch} (hl : K.2.1 = l) (hC : Cx YM G b K cX8_pairRank RX8 7 (some .long) k) (F : Int32 → Sg → (Int64 → Sg → Prop) → Prop) {kf : Nat} (hF : ∀ (x1 : Int32) (σ : Sg) (Q : Int64 → Sg → Prop), F x1 σ Q → Ml YM G b l yX8_rank cX8_rank 6 kf [.ref (G.1 0), .int x1] σ Q) (hk : kf + 1 ≤ k ∧ 1 ≤ k + 1)  (Q : Int64 → Sg → Prop)  : ∀ (n : Nat) (x1 : Int32) (x2 : Int32) (x3 : Int32) (x4 : Int64) (x6 : Int32) (σ : Sg), wX8_pairRank_20 F Q n x1 x2 x3 x4 x6 σ → V YM G K (Zl YM G K Q) 7 σ 20 [(0, .ref (G.1 0)), (1, .int x1), (2, .int x2), (3, .int x3), (4, .long x4), (6, .int x6)] [] := by
  subst hl
  intro n
  induction n with
  | zero =>
    intro x1 x2 x3 x4 x6 σ h
    exact h.elim
  | succ n ih =>
    intro x1 x2 x3 x4 x6 σ h
    have h : wX8_pairRank_20_b F (wX8_pairRank_20 F Q n) x1 x2 x3 x4 x6 σ Q := h
    unfold wX8_pairRank_20_b at h
    refine r_iload hC 5 dX8_pairRank_20 (rfl : 20 + 2 = 22) rfl ?_
    refine r_aload_n hC 0 dX8_pairRank_22 (rfl : 22 + 1 = 23) rfl rfl ?_
    refine r_getr hC 0 7 7 6 (o := 6) fw_X8_25 rfl rfl dX8_pairRank_23 (rfl : 23 + 3 = 26) ?_
    refine r_iload_n hC 1 dX8_pairRank_26 (rfl : 26 + 1 = 27) rfl rfl ?_
    obtain ⟨q_1, h⟩ := h
    refine r_iald hC 6 rfl q_1 dX8_pairRank_27 (rfl : 27 + 1 = 28) ?_
    refine r_icmp_ge hC dX8_pairRank_28 (rfl : 28 + 3 = 31) (tgt := 59) (by decide) (fun q => ?_) (fun q => ?_)
    · replace h := if_t h q
      refine r_lload hC 4 dX8_pairRank_59 (rfl : 59 + 2 = 61) rfl ?_
      refine r_aload_n hC 0 dX8_pairRank_61 (rfl : 61 + 1 = 62) rfl rfl ?_
      refine r_iload_n hC 1 dX8_pairRank_62 (rfl : 62 + 1 = 63) rfl rfl ?_
      refine r_callVl hC cs_X8_239 rfl (by omega) (hF x1 σ _ h) rfl rfl (Nat.le_of_ble_eq_true rfl) dX8_pairRank_63 (rfl : 63 + 3 = 66) (fun r_3 σ_2 h => ?_)
      refine r_aload_n hC 0 dX8_pairRank_66 (rfl : 66 + 1 = 67) rfl rfl ?_
      refine r_getr hC 0 7 19 12 (o := 12) fw_X8_43 rfl rfl dX8_pairRank_67 (rfl : 67 + 3 = 70) ?_
      refine r_aload_n hC 0 dX8_pairRank_70 (rfl : 70 + 1 = 71) rfl rfl ?_
      refine r_getr hC 0 7 7 6 (o := 6) fw_X8_25 rfl rfl dX8_pairRank_71 (rfl : 71 + 3 = 74) ?_
      refine r_iload_n hC 2 dX8_pairRank_74 (rfl : 74 + 1 = 75) rfl rfl ?_
      obtain ⟨q_4, h⟩ := h
      refine r_iald hC 6 rfl q_4 dX8_pairRank_75 (rfl : 75 + 1 = 76) ?_
      obtain ⟨q_5, h⟩ := h
      refine r_lald hC 12 rfl q_5 dX8_pairRank_76 (rfl : 76 + 1 = 77) ?_
      refine r_lmul hC dX8_pairRank_77 (rfl : 77 + 1 = 78) ?_
      refine r_ladd hC dX8_pairRank_78 (rfl : 78 + 1 = 79) ?_
      refine r_aload_n hC 0 dX8_pairRank_79 (rfl : 79 + 1 = 80) rfl rfl ?_
      refine r_iload_n hC 2 dX8_pairRank_80 (rfl : 80 + 1 = 81) rfl rfl ?_
      refine r_callVl hC cs_X8_239 rfl (by omega) (hF x2 σ_2 _ h) rfl rfl (Nat.le_of_ble_eq_true rfl) dX8_pairRank_81 (rfl : 81 + 3 = 84) (fun r_7 σ_6 h => ?_)
      refine r_ladd hC dX8_pairRank_84 (rfl : 84 + 1 = 85) ?_
      exact r_lret hC rfl h dX8_pairRank_85
    · replace h := if_f h q
      refine r_lload hC 4 dX8_pairRank_31 (rfl : 31 + 2 = 33) rfl ?_
      refine r_aload_n hC 0 dX8_pairRank_33 (rfl : 33 + 1 = 34) rfl rfl ?_
      refine r_getr hC 0 7 19 12 (o := 12) fw_X8_43 rfl rfl dX8_pairRank_34 (rfl : 34 + 3 = 37) ?_
      refine r_iload hC 5 dX8_pairRank_37 (rfl : 37 + 2 = 39) rfl ?_
      obtain ⟨q_8, h⟩ := h
      refine r_lald hC 12 rfl q_8 dX8_pairRank_39 (rfl : 39 + 1 = 40) ?_
      refine r_aload_n hC 0 dX8_pairRank_40 (rfl : 40 + 1 = 41) rfl rfl ?_
      refine r_getr hC 0 7 19 12 (o := 12) fw_X8_43 rfl rfl dX8_pairRank_41 (rfl : 41 + 3 = 44) ?_
      refine r_iload_n hC 3 dX8_pairRank_44 (rfl : 44 + 1 = 45) rfl rfl ?_
      refine r_iload hC 5 dX8_pairRank_45 (rfl : 45 + 2 = 47) rfl ?_
      refine r_isub hC dX8_pairRank_47 (rfl : 47 + 1 = 48) ?_
      obtain ⟨q_9, h⟩ := h
      refine r_lald hC 12 rfl q_9 dX8_pairRank_48 (rfl : 48 + 1 = 49) ?_
      refine r_lmul hC dX8_pairRank_49 (rfl : 49 + 1 = 50) ?_
      refine r_ladd hC dX8_pairRank_50 (rfl : 50 + 1 = 51) ?_
      obtain ⟨x4_10, e_11, h⟩ := lt_nm h
      refine r_lstore hC dX8_pairRank_51 (rfl : 51 + 2 = 53) (by decide) e_11 (lv2 := [(4, .long x4_10), (0, .ref (G.1 0)), (1, .int x1), (2, .int x2), (3, .int x3), (6, .int x6)]) rfl ?_
      obtain ⟨x6_12, e_13, h⟩ := lt_nm h
      refine r_iinc hC (j := 5) dX8_pairRank_53 (rfl : 53 + 3 = 56) rfl (zz := 1) (by decide) e_13 (by decide) (lv2 := [(6, .int x6_12), (4, .long x4_10), (0, .ref (G.1 0)), (1, .int x1), (2, .int x2), (3, .int x3)]) rfl ?_
      refine r_goto hC dX8_pairRank_56 (tgt := 20) (by decide) ?_
      exact (ih x1 x2 x3 x4_10 x6_12 σ h).sub [2, 3, 4, 5, 1, 0] rfl
set_option maxHeartbeats 1000000 in
set_option maxRecDepth 100000 in
theorem mX8_pairRank {G : Gx} {b k : Nat} {l : Launch} (hS : Sok YM G) (F : Int32 → Sg → (Int64 → Sg → Prop) → Prop) {kf : Nat} (hF : ∀ (x1 : Int32) (σ : Sg) (Q : Int64 → Sg → Prop), F x1 σ Q → Ml YM G b l yX8_rank cX8_rank 6 kf [.ref (G.1 0), .int x1] σ Q) (hk : kf + 1 ≤ k ∧ 1 ≤ k + 1) (x1 : Int32) (x2 : Int32) (σ : Sg) (Q : Int64 → Sg → Prop) (h : wX8_pairRank F x1 x2 σ Q) : Ml YM G b l yX8_pairRank cX8_pairRank 7 k [.ref (G.1 0), .int x1, .int x2] σ Q := by
  refine enter hS (by decide +kernel) (Nat.le_of_ble_eq_true rfl) (lv := [(0, .ref (G.1 0)), (1, .int x1), (2, .int x2)]) rfl (fun K hl hC => ?_)
  subst hl
  unfold wX8_pairRank at h
  show V YM G K (Zl YM G K Q) 7 σ 0 [(0, .ref (G.1 0)), (1, .int x1), (2, .int x2)] []
  refine r_aload_n hC 0 dX8_pairRank_0 (rfl : 0 + 1 = 1) rfl rfl ?_
  refine r_getr hC 0 7 7 6 (o := 6) fw_X8_25 rfl rfl dX8_pairRank_1 (rfl : 1 + 3 = 4) ?_
  refine r_iload_n hC 1 dX8_pairRank_4 (rfl : 4 + 1 = 5) rfl rfl ?_
  obtain ⟨q_14, h⟩ := h
  refine r_iald hC 6 rfl q_14 dX8_pairRank_5 (rfl : 5 + 1 = 6) ?_
  refine r_aload_n hC 0 dX8_pairRank_6 (rfl : 6 + 1 = 7) rfl rfl ?_
  refine r_getr hC 0 7 7 6 (o := 6) fw_X8_25 rfl rfl dX8_pairRank_7 (rfl : 7 + 3 = 10) ?_
  refine r_iload_n hC 2 dX8_pairRank_10 (rfl : 10 + 1 = 11) rfl rfl ?_
  obtain ⟨q_15, h⟩ := h
  refine r_iald hC 6 rfl q_15 dX8_pairRank_11 (rfl : 11 + 1 = 12) ?_
  refine r_iadd hC dX8_pairRank_12 (rfl : 12 + 1 = 13) ?_
  obtain ⟨x3_16, e_17, h⟩ := lt_nm h
  refine r_istore_n hC dX8_pairRank_13 (rfl : 13 + 1 = 14) rfl (by decide) e_17 (lv2 := [(3, .int x3_16), (0, .ref (G.1 0)), (1, .int x1), (2, .int x2)]) rfl ?_
  refine r_lconst hC dX8_pairRank_14 (rfl : 14 + 1 = 15) (v := 0) (by decide) ?_
  refine r_lstore hC dX8_pairRank_15 (rfl : 15 + 2 = 17) (by decide) rfl (lv2 := [(4, .long 0), (3, .int x3_16), (0, .ref (G.1 0)), (1, .int x1), (2, .int x2)]) rfl ?_
  refine r_iconst hC dX8_pairRank_17 (rfl : 17 + 1 = 18) (v := 1) (by decide) ?_
  refine r_istore hC dX8_pairRank_18 (rfl : 18 + 2 = 20) (by decide) rfl (lv2 := [(6, .int 1), (4, .long 0), (3, .int x3_16), (0, .ref (G.1 0)), (1, .int x1), (2, .int x2)]) rfl ?_
  obtain ⟨nn, h⟩ := h
  exact (sX8_pairRank_20 rfl hC F hF hk  Q  nn x1 x2 x3_16 0 1 σ h).sub [3, 4, 5, 2, 1, 0] rfl
set_option maxHeartbeats 1000000 in
set_option maxRecDepth 100000 in
theorem sX8_rank_136 {G : Gx} {b k : Nat} {K : Kx} {l : Launch} (hl : K.2.1 = l) (hC : Cx YM G b K cX8_rank RX8 6 (some .long) k) (F : Int32 → Sg → (Int64 → Sg → Prop) → Prop) {kf : Nat} (hF : ∀ (x1 : Int32) (σ : Sg) (Q : Int64 → Sg → Prop), F x1 σ Q → Ml YM G b l yX8_rank cX8_rank 6 kf [.ref (G.1 0), .int x1] σ Q) (hk : kf + 2 ≤ k ∧ 1 ≤ k + 0)  (Q : Int64 → Sg → Prop)  : ∀ (n : Nat) (x1 : Int32) (x2 : Int32) (x3 : Int64) (x5 : Int32) (σ : Sg), wX8_rank_136 F Q n x1 x2 x3 x5 σ → V YM G K (Zl YM G K Q) 6 σ 136 [(0, .ref (G.1 0)), (1, .int x1), (2, .int x2), (3, .long x3), (5, .int x5)] [] := by
  subst hl
  intro n
  induction n with
  | zero =>
    intro x1 x2 x3 x5 σ h
    exact h.elim
  | succ n ih =>
    intro x1 x2 x3 x5 σ h
    have h : wX8_rank_136_b F (wX8_rank_136 F Q n) x1 x2 x3 x5 σ Q := h
    unfold wX8_rank_136_b at h
    refine r_iload hC 4 dX8_rank_136 (rfl : 136 + 2 = 138) rfl ?_
    refine r_aload_n hC 0 dX8_rank_138 (rfl : 138 + 1 = 139) rfl rfl ?_
    refine r_getr hC 0 7 7 6 (o := 6) fw_X8_25 rfl rfl dX8_rank_139 (rfl : 139 + 3 = 142) ?_
    refine r_aload_n hC 0 dX8_rank_142 (rfl : 142 + 1 = 143) rfl rfl ?_
    refine r_getr hC 0 7 4 3 (o := 3) fw_X8_16 rfl rfl dX8_rank_143 (rfl : 143 + 3 = 146) ?_
    refine r_iload_n hC 1 dX8_rank_146 (rfl : 146 + 1 = 147) rfl rfl ?_
    obtain ⟨q_1, h⟩ := h
    refine r_iald hC 3 rfl q_1 dX8_rank_147 (rfl : 147 + 1 = 148) ?_
    obtain ⟨q_2, h⟩ := h
    refine r_iald hC 6 rfl q_2 dX8_rank_148 (rfl : 148 + 1 = 149) ?_
    refine r_icmp_ge hC dX8_rank_149 (rfl : 149 + 3 = 152) (tgt := 179) (by decide) (fun q => ?_) (fun q => ?_)
    · replace h := if_t h q
      refine r_lload_n hC 3 dX8_rank_179 (rfl : 179 + 1 = 180) rfl rfl ?_
      refine r_aload_n hC 0 dX8_rank_180 (rfl : 180 + 1 = 181) rfl rfl ?_
      refine r_aload_n hC 0 dX8_rank_181 (rfl : 181 + 1 = 182) rfl rfl ?_
      refine r_getr hC 0 7 4 3 (o := 3) fw_X8_16 rfl rfl dX8_rank_182 (rfl : 182 + 3 = 185) ?_
      refine r_iload_n hC 1 dX8_rank_185 (rfl : 185 + 1 = 186) rfl rfl ?_
      refine r_iald hC 3 rfl q_1 dX8_rank_186 (rfl : 186 + 1 = 187) ?_
      refine r_callVl hC cs_X8_239 rfl (by omega) (hF (σ.1 3 (Int32.toNatClampNeg x1)) σ _ h) rfl rfl (Nat.le_of_ble_eq_true rfl) dX8_rank_187 (rfl : 187 + 3 = 190) (fun r_4 σ_3 h => ?_)
      refine r_aload_n hC 0 dX8_rank_190 (rfl : 190 + 1 = 191) rfl rfl ?_
      refine r_iload_n hC 2 dX8_rank_191 (rfl : 191 + 1 = 192) rfl rfl ?_
      refine r_iconst hC dX8_rank_192 (rfl : 192 + 1 = 193) (v := 1) (by decide) ?_
      refine r_isub hC dX8_rank_193 (rfl : 193 + 1 = 194) ?_
      refine r_aload_n hC 0 dX8_rank_194 (rfl : 194 + 1 = 195) rfl rfl ?_
      refine r_getr hC 0 7 7 6 (o := 6) fw_X8_25 rfl rfl dX8_rank_195 (rfl : 195 + 3 = 198) ?_
      refine r_aload_n hC 0 dX8_rank_198 (rfl : 198 + 1 = 199) rfl rfl ?_
      refine r_getr hC 0 7 4 3 (o := 3) fw_X8_16 rfl rfl dX8_rank_199 (rfl : 199 + 3 = 202) ?_
      refine r_iload_n hC 1 dX8_rank_202 (rfl : 202 + 1 = 203) rfl rfl ?_
      refine r_iald hC 3 rfl q_1 dX8_rank_203 (rfl : 203 + 1 = 204) ?_
      obtain ⟨q_5, h⟩ := h
      refine r_iald hC 6 rfl q_5 dX8_rank_204 (rfl : 204 + 1 = 205) ?_
      refine r_isub hC dX8_rank_205 (rfl : 205 + 1 = 206) ?_
      refine r_callVl hC cs_X8_212 rfl (by omega) (mX8_pairs hC.2.2.2.2.2.2.2.2.1 (k := k - 1) (by omega) ((x2 - 1) - (σ_3.1 6 (Int32.toNatClampNeg (σ_3.1 3 (Int32.toNatClampNeg x1))))) σ_3 _ h) rfl rfl (Nat.le_of_ble_eq_true rfl) dX8_rank_206 (rfl : 206 + 3 = 209) (fun r_7 σ_6 h => ?_)
      refine r_lmul hC dX8_rank_209 (rfl : 209 + 1 = 210) ?_
      refine r_ladd hC dX8_rank_210 (rfl : 210 + 1 = 211) ?_
      refine r_aload_n hC 0 dX8_rank_211 (rfl : 211 + 1 = 212) rfl rfl ?_
      refine r_aload_n hC 0 dX8_rank_212 (rfl : 212 + 1 = 213) rfl rfl ?_
      refine r_getr hC 0 7 5 4 (o := 4) fw_X8_19 rfl rfl dX8_rank_213 (rfl : 213 + 3 = 216) ?_
      refine r_iload_n hC 1 dX8_rank_216 (rfl : 216 + 1 = 217) rfl rfl ?_
      refine r_iald hC 4 rfl q_1 dX8_rank_217 (rfl : 217 + 1 = 218) ?_
      refine r_aload_n hC 0 dX8_rank_218 (rfl : 218 + 1 = 219) rfl rfl ?_
      refine r_getr hC 0 7 6 5 (o := 5) fw_X8_22 rfl rfl dX8_rank_219 (rfl : 219 + 3 = 222) ?_
      refine r_iload_n hC 1 dX8_rank_222 (rfl : 222 + 1 = 223) rfl rfl ?_
      refine r_iald hC 5 rfl q_1 dX8_rank_223 (rfl : 223 + 1 = 224) ?_
      refine r_callVl hC cs_X8_242 rfl (by omega) (mX8_pairRank hC.2.2.2.2.2.2.2.2.1 F hF (k := k - 1) ⟨by omega, by omega⟩ (σ_6.1 4 (Int32.toNatClampNeg x1)) (σ_6.1 5 (Int32.toNatClampNeg x1)) σ_6 _ h) rfl rfl (Nat.le_of_ble_eq_true rfl) dX8_rank_224 (rfl : 224 + 3 = 227) (fun r_9 σ_8 h => ?_)
      refine r_ladd hC dX8_rank_227 (rfl : 227 + 1 = 228) ?_
      exact r_lret hC rfl h dX8_rank_228
    · replace h := if_f h q
      refine r_lload_n hC 3 dX8_rank_152 (rfl : 152 + 1 = 153) rfl rfl ?_
      refine r_aload_n hC 0 dX8_rank_153 (rfl : 153 + 1 = 154) rfl rfl ?_
      refine r_getr hC 0 7 19 12 (o := 12) fw_X8_43 rfl rfl dX8_rank_154 (rfl : 154 + 3 = 157) ?_
      refine r_iload hC 4 dX8_rank_157 (rfl : 157 + 2 = 159) rfl ?_
      obtain ⟨q_10, h⟩ := h
      refine r_lald hC 12 rfl q_10 dX8_rank_159 (rfl : 159 + 1 = 160) ?_
      refine r_aload_n hC 0 dX8_rank_160 (rfl : 160 + 1 = 161) rfl rfl ?_
      refine r_iload_n hC 2 dX8_rank_161 (rfl : 161 + 1 = 162) rfl rfl ?_
      refine r_iconst hC dX8_rank_162 (rfl : 162 + 1 = 163) (v := 1) (by decide) ?_
      refine r_isub hC dX8_rank_163 (rfl : 163 + 1 = 164) ?_
      refine r_iload hC 4 dX8_rank_164 (rfl : 164 + 2 = 166) rfl ?_
      refine r_isub hC dX8_rank_166 (rfl : 166 + 1 = 167) ?_
      refine r_callVl hC cs_X8_212 rfl (by omega) (mX8_pairs hC.2.2.2.2.2.2.2.2.1 (k := k - 1) (by omega) ((x2 - 1) - x5) σ _ h) rfl rfl (Nat.le_of_ble_eq_true rfl) dX8_rank_167 (rfl : 167 + 3 = 170) (fun r_12 σ_11 h => ?_)
      refine r_lmul hC dX8_rank_170 (rfl : 170 + 1 = 171) ?_
      refine r_ladd hC dX8_rank_171 (rfl : 171 + 1 = 172) ?_
      obtain ⟨x3_13, e_14, h⟩ := lt_nm h
      refine r_lstore_n hC dX8_rank_172 (rfl : 172 + 1 = 173) rfl (by decide) e_14 (lv2 := [(3, .long x3_13), (0, .ref (G.1 0)), (1, .int x1), (2, .int x2), (5, .int x5)]) rfl ?_
      obtain ⟨x5_15, e_16, h⟩ := lt_nm h
      refine r_iinc hC (j := 4) dX8_rank_173 (rfl : 173 + 3 = 176) rfl (zz := 1) (by decide) e_16 (by decide) (lv2 := [(5, .int x5_15), (3, .long x3_13), (0, .ref (G.1 0)), (1, .int x1), (2, .int x2)]) rfl ?_
      refine r_goto hC dX8_rank_176 (tgt := 136) (by decide) ?_
      exact (ih x1 x2 x3_13 x5_15 σ_11 h).sub [2, 3, 4, 1, 0] rfl
set_option maxHeartbeats 1000000 in
set_option maxRecDepth 100000 in
theorem mX8_rank_b {G : Gx} {b k : Nat} {l : Launch} (hS : Sok YM G) (F : Int32 → Sg → (Int64 → Sg → Prop) → Prop) {kf : Nat} (hF : ∀ (x1 : Int32) (σ : Sg) (Q : Int64 → Sg → Prop), F x1 σ Q → Ml YM G b l yX8_rank cX8_rank 6 kf [.ref (G.1 0), .int x1] σ Q) (hk : kf + 2 ≤ k ∧ 1 ≤ k + 0) (x1 : Int32) (σ : Sg) (Q : Int64 → Sg → Prop) (h : wX8_rank_b F x1 σ Q) : Ml YM G b l yX8_rank cX8_rank 6 k [.ref (G.1 0), .int x1] σ Q := by
  refine enter hS (by decide +kernel) (Nat.le_of_ble_eq_true rfl) (lv := [(0, .ref (G.1 0)), (1, .int x1)]) rfl (fun K hl hC => ?_)
  subst hl
  unfold wX8_rank_b at h
  show V YM G K (Zl YM G K Q) 6 σ 0 [(0, .ref (G.1 0)), (1, .int x1)] []
  refine r_aload_n hC 0 dX8_rank_0 (rfl : 0 + 1 = 1) rfl rfl ?_
  refine r_getr hC 0 7 7 6 (o := 6) fw_X8_25 rfl rfl dX8_rank_1 (rfl : 1 + 3 = 4) ?_
  refine r_iload_n hC 1 dX8_rank_4 (rfl : 4 + 1 = 5) rfl rfl ?_
  obtain ⟨q_17, h⟩ := h
  refine r_iald hC 6 rfl q_17 dX8_rank_5 (rfl : 5 + 1 = 6) ?_
  obtain ⟨x2_18, e_19, h⟩ := lt_nm h
  refine r_istore_n hC dX8_rank_6 (rfl : 6 + 1 = 7) rfl (by decide) e_19 (lv2 := [(2, .int x2_18), (0, .ref (G.1 0)), (1, .int x1)]) rfl ?_
  refine r_iload_n hC 0 dX8_rank_7 (rfl : 7 + 1 = 8) rfl rfl ?_
  refine r_iconst hC dX8_rank_8 (rfl : 8 + 1 = 9) (v := 1) (by decide) ?_
  refine r_icmp_ne hC dX8_rank_9 (rfl : 9 + 3 = 12) (tgt := 41) (by decide) (fun q => ?_) (fun q => ?_)
  · replace h := if_f h q
    refine r_aload_n hC 1 dX8_rank_41 (rfl : 41 + 1 = 42) rfl rfl ?_
    refine r_getr hC 0 7 2 1 (o := 1) fw_X8_7 rfl rfl dX8_rank_42 (rfl : 42 + 3 = 45) ?_
    refine r_iload_n hC 2 dX8_rank_45 (rfl : 45 + 1 = 46) rfl rfl ?_
    refine r_iald hC 1 rfl q_17 dX8_rank_46 (rfl : 46 + 1 = 47) ?_
    refine r_iconst hC dX8_rank_47 (rfl : 47 + 1 = 48) (v := 3) (by decide) ?_
    refine r_icmp_ne hC dX8_rank_48 (rfl : 48 + 3 = 51) (tgt := 62) (by decide) (fun q => ?_) (fun q => ?_)
    · replace h := if_f h q
      refine r_aload_n hC 1 dX8_rank_62 (rfl : 62 + 1 = 63) rfl rfl ?_
      refine r_getr hC 0 7 19 12 (o := 12) fw_X8_43 rfl rfl dX8_rank_63 (rfl : 63 + 3 = 66) ?_
      refine r_iload_n hC 0 dX8_rank_66 (rfl : 66 + 1 = 67) rfl rfl ?_
      refine r_iconst hC dX8_rank_67 (rfl : 67 + 1 = 68) (v := 1) (by decide) ?_
      refine r_isub hC dX8_rank_68 (rfl : 68 + 1 = 69) ?_
      obtain ⟨q_20, h⟩ := h
      refine r_lald hC 12 rfl q_20 dX8_rank_69 (rfl : 69 + 1 = 70) ?_
      obtain ⟨x3_21, e_22, h⟩ := lt_nm h
      refine r_lstore_n hC dX8_rank_70 (rfl : 70 + 1 = 71) rfl (by decide) e_22 (lv2 := [(3, .long x3_21), (2, .int x2_18), (0, .ref (G.1 0)), (1, .int x1)]) rfl ?_
      refine r_aload_n hC 2 dX8_rank_71 (rfl : 71 + 1 = 72) rfl rfl ?_
      refine r_getr hC 0 7 2 1 (o := 1) fw_X8_7 rfl rfl dX8_rank_72 (rfl : 72 + 3 = 75) ?_
      refine r_iload_n hC 3 dX8_rank_75 (rfl : 75 + 1 = 76) rfl rfl ?_
      refine r_iald hC 1 rfl q_17 dX8_rank_76 (rfl : 76 + 1 = 77) ?_
      refine r_bipush hC dX8_rank_77 (rfl : 77 + 2 = 79) (v := 8) (by decide) ?_
      refine r_icmp_eq hC dX8_rank_79 (rfl : 79 + 3 = 82) (tgt := 119) (by decide) (fun q => ?_) (fun q => ?_)
      · replace h := if_t h q
        refine r_lload_n hC 0 dX8_rank_119 (rfl : 119 + 1 = 120) rfl rfl ?_
        refine r_ldc2 hC dX8_rank_120 (rfl : 120 + 3 = 123) wd_896 ?_
        refine r_aload_n hC 2 dX8_rank_123 (rfl : 123 + 1 = 124) rfl rfl ?_
        refine r_iload_n hC 1 dX8_rank_124 (rfl : 124 + 1 = 125) rfl rfl ?_
        refine r_iconst hC dX8_rank_125 (rfl : 125 + 1 = 126) (v := 1) (by decide) ?_
        refine r_isub hC dX8_rank_126 (rfl : 126 + 1 = 127) ?_
        refine r_callVl hC cs_X8_212 rfl (by omega) (mX8_pairs hC.2.2.2.2.2.2.2.2.1 (k := k - 1) (by omega) (x2_18 - 1) σ _ h) rfl rfl (Nat.le_of_ble_eq_true rfl) dX8_rank_127 (rfl : 127 + 3 = 130) (fun r_24 σ_23 h => ?_)
        refine r_lmul hC dX8_rank_130 (rfl : 130 + 1 = 131) ?_
        refine r_ladd hC dX8_rank_131 (rfl : 131 + 1 = 132) ?_
        obtain ⟨x3_25, e_26, h⟩ := lt_nm h
        refine r_lstore_n hC dX8_rank_132 (rfl : 132 + 1 = 133) rfl (by decide) e_26 (lv2 := [(3, .long x3_25), (2, .int x2_18), (0, .ref (G.1 0)), (1, .int x1)]) rfl ?_
        refine r_iconst hC dX8_rank_133 (rfl : 133 + 1 = 134) (v := 1) (by decide) ?_
        refine r_istore hC dX8_rank_134 (rfl : 134 + 2 = 136) (by decide) rfl (lv2 := [(5, .int 1), (3, .long x3_25), (2, .int x2_18), (0, .ref (G.1 0)), (1, .int x1)]) rfl ?_
        obtain ⟨nn, h⟩ := h
        exact (sX8_rank_136 rfl hC F hF hk  Q  nn x1 x2_18 x3_25 1 σ_23 h).sub [3, 4, 2, 1, 0] rfl
      · replace h := if_f h q
        refine r_lload_n hC 0 dX8_rank_82 (rfl : 82 + 1 = 83) rfl rfl ?_
        refine r_aload_n hC 2 dX8_rank_83 (rfl : 83 + 1 = 84) rfl rfl ?_
        refine r_getr hC 0 7 2 1 (o := 1) fw_X8_7 rfl rfl dX8_rank_84 (rfl : 84 + 3 = 87) ?_
        refine r_iload_n hC 3 dX8_rank_87 (rfl : 87 + 1 = 88) rfl rfl ?_
        refine r_iald hC 1 rfl q_17 dX8_rank_88 (rfl : 88 + 1 = 89) ?_
        refine r_iconst hC dX8_rank_89 (rfl : 89 + 1 = 90) (v := 4) (by decide) ?_
        refine r_isub hC dX8_rank_90 (rfl : 90 + 1 = 91) ?_
        refine r_i2l hC dX8_rank_91 (rfl : 91 + 1 = 92) ?_
        refine r_aload_n hC 2 dX8_rank_92 (rfl : 92 + 1 = 93) rfl rfl ?_
        refine r_iload_n hC 1 dX8_rank_93 (rfl : 93 + 1 = 94) rfl rfl ?_
        refine r_iconst hC dX8_rank_94 (rfl : 94 + 1 = 95) (v := 1) (by decide) ?_
        refine r_isub hC dX8_rank_95 (rfl : 95 + 1 = 96) ?_
        refine r_callVl hC cs_X8_212 rfl (by omega) (mX8_pairs hC.2.2.2.2.2.2.2.2.1 (k := k - 1) (by omega) (x2_18 - 1) σ _ h) rfl rfl (Nat.le_of_ble_eq_true rfl) dX8_rank_96 (rfl : 96 + 3 = 99) (fun r_28 σ_27 h => ?_)
        refine r_lmul hC dX8_rank_99 (rfl : 99 + 1 = 100) ?_
        refine r_ladd hC dX8_rank_100 (rfl : 100 + 1 = 101) ?_
        refine r_aload_n hC 2 dX8_rank_101 (rfl : 101 + 1 = 102) rfl rfl ?_
        refine r_aload_n hC 2 dX8_rank_102 (rfl : 102 + 1 = 103) rfl rfl ?_
        refine r_getr hC 0 7 4 3 (o := 3) fw_X8_16 rfl rfl dX8_rank_103 (rfl : 103 + 3 = 106) ?_
        refine r_iload_n hC 3 dX8_rank_106 (rfl : 106 + 1 = 107) rfl rfl ?_
        refine r_iald hC 3 rfl q_17 dX8_rank_107 (rfl : 107 + 1 = 108) ?_
        refine r_aload_n hC 2 dX8_rank_108 (rfl : 108 + 1 = 109) rfl rfl ?_
        refine r_getr hC 0 7 5 4 (o := 4) fw_X8_19 rfl rfl dX8_rank_109 (rfl : 109 + 3 = 112) ?_
        refine r_iload_n hC 3 dX8_rank_112 (rfl : 112 + 1 = 113) rfl rfl ?_
        refine r_iald hC 4 rfl q_17 dX8_rank_113 (rfl : 113 + 1 = 114) ?_
        refine r_callVl hC cs_X8_242 rfl (by omega) (mX8_pairRank hC.2.2.2.2.2.2.2.2.1 F hF (k := k - 1) ⟨by omega, by omega⟩ (σ_27.1 3 (Int32.toNatClampNeg x1)) (σ_27.1 4 (Int32.toNatClampNeg x1)) σ_27 _ h) rfl rfl (Nat.le_of_ble_eq_true rfl) dX8_rank_114 (rfl : 114 + 3 = 117) (fun r_30 σ_29 h => ?_)
        refine r_ladd hC dX8_rank_117 (rfl : 117 + 1 = 118) ?_
        exact r_lret hC rfl h dX8_rank_118
    · replace h := if_t h q
      refine r_aload_n hC 1 dX8_rank_51 (rfl : 51 + 1 = 52) rfl rfl ?_
      refine r_aload_n hC 1 dX8_rank_52 (rfl : 52 + 1 = 53) rfl rfl ?_
      refine r_getr hC 0 7 4 3 (o := 3) fw_X8_16 rfl rfl dX8_rank_53 (rfl : 53 + 3 = 56) ?_
      refine r_iload_n hC 2 dX8_rank_56 (rfl : 56 + 1 = 57) rfl rfl ?_
      refine r_iald hC 3 rfl q_17 dX8_rank_57 (rfl : 57 + 1 = 58) ?_
      refine r_callVl hC cs_X8_239 rfl (by omega) (hF (σ.1 3 (Int32.toNatClampNeg x1)) σ _ h) rfl rfl (Nat.le_of_ble_eq_true rfl) dX8_rank_58 (rfl : 58 + 3 = 61) (fun r_32 σ_31 h => ?_)
      exact r_lret hC rfl h dX8_rank_61
  · replace h := if_t h q
    refine r_aload_n hC 1 dX8_rank_12 (rfl : 12 + 1 = 13) rfl rfl ?_
    refine r_getr hC 0 7 2 1 (o := 1) fw_X8_7 rfl rfl dX8_rank_13 (rfl : 13 + 3 = 16) ?_
    refine r_iload_n hC 2 dX8_rank_16 (rfl : 16 + 1 = 17) rfl rfl ?_
    refine r_iald hC 1 rfl q_17 dX8_rank_17 (rfl : 17 + 1 = 18) ?_
    refine r_if_ne hC dX8_rank_18 (rfl : 18 + 3 = 21) (tgt := 31) (by decide) (fun q => ?_) (fun q => ?_)
    · replace h := if_f h q
      refine r_aload_n hC 1 dX8_rank_31 (rfl : 31 + 1 = 32) rfl rfl ?_
      refine r_getr hC 0 7 2 1 (o := 1) fw_X8_7 rfl rfl dX8_rank_32 (rfl : 32 + 3 = 35) ?_
      refine r_iload_n hC 2 dX8_rank_35 (rfl : 35 + 1 = 36) rfl rfl ?_
      refine r_iald hC 1 rfl q_17 dX8_rank_36 (rfl : 36 + 1 = 37) ?_
      refine r_iconst hC dX8_rank_37 (rfl : 37 + 1 = 38) (v := 2) (by decide) ?_
      refine r_iadd hC dX8_rank_38 (rfl : 38 + 1 = 39) ?_
      refine r_i2l hC dX8_rank_39 (rfl : 39 + 1 = 40) ?_
      exact r_lret hC rfl h dX8_rank_40
    · replace h := if_t h q
      refine r_aload_n hC 1 dX8_rank_21 (rfl : 21 + 1 = 22) rfl rfl ?_
      refine r_getr hC 0 7 3 2 (o := 2) fw_X8_13 rfl rfl dX8_rank_22 (rfl : 22 + 3 = 25) ?_
      refine r_iload_n hC 2 dX8_rank_25 (rfl : 25 + 1 = 26) rfl rfl ?_
      refine r_iald hC 2 rfl q_17 dX8_rank_26 (rfl : 26 + 1 = 27) ?_
      refine r_i2l hC dX8_rank_27 (rfl : 27 + 1 = 28) ?_
      refine r_goto hC dX8_rank_28 (tgt := 40) (by decide) ?_
      exact r_lret hC rfl h dX8_rank_40
set_option maxHeartbeats 1000000 in
set_option maxRecDepth 100000 in
theorem mX8_rank {G : Gx} {b : Nat} {l : Launch} (hS : Sok YM G) : ∀ (e k : Nat), 2 * e + (1) ≤ k → ∀ (x1 : Int32) (σ : Sg) (Q : Int64 → Sg → Prop), wX8_rank e x1 σ Q → Ml YM G b l yX8_rank cX8_rank 6 k [.ref (G.1 0), .int x1] σ Q := by
  intro e
  induction e with
  | zero =>
    intro k _ x1 σ Q h
    exact h.elim
  | succ e ih =>
    intro k hk x1 σ Q h
    exact mX8_rank_b hS (wX8_rank e) (kf := 2 * e + (1)) (fun x1 σ Q h => ih _ (Nat.le_refl _) x1 σ Q h) ⟨by omega, by omega⟩ x1 σ Q h
