set_option maxHeartbeats 1000000 in
set_option maxRecDepth 100000 in
theorem sX7_cause_66 {G : Gx} {b k : Nat} {K : Kx} {l : Launch} (hl : K.2.1 = l) (hC : Cx YC G b K cX7_cause RX7 8 (some .int) k)  (hk : 5 ≤ k)  (Q : Int32 → Sg → Prop)  : ∀ (n : Nat) (x3 : Int32) (x4 : Int32) (q5 : Nat) (x7 : Int32) (σ : Sg), wX7_cause_66  Q n x3 x4 q5 x7 σ → V YC G K (Zi YC G K Q) 8 σ 66 [(0, .ref (G.1 0)), (3, .int x3), (4, .int x4), (5, .ref (G.1 q5)), (7, .int x7)] [] := by
  subst hl
  intro n
  induction n with
  | zero =>
    intro x3 x4 q5 x7 σ h
    exact h.elim
  | succ n ih =>
    intro x3 x4 q5 x7 σ h
    have h : wX7_cause_66_b  (wX7_cause_66  Q n) x3 x4 q5 x7 σ Q := h
    unfold wX7_cause_66_b at h
    refine r_iload hC 4 dX7_cause_66 (rfl : 66 + 2 = 68) rfl ?_
    refine r_aload hC 3 dX7_cause_68 (rfl : 68 + 2 = 70) rfl ?_
    obtain ⟨ty_1, h⟩ := h
    refine r_geti hC q5 2 2 fw_X7_164 ty_1 dX7_cause_70 (rfl : 70 + 3 = 73) ?_
    refine r_icmp_ge hC dX7_cause_73 (rfl : 73 + 3 = 76) (tgt := 151) (by decide) (fun q => ?_) (fun q => ?_)
    · replace h := if_t h q
      refine r_bipush hC dX7_cause_151 (rfl : 151 + 2 = 153) (v := -2) (by decide) ?_
      exact r_iret hC rfl h dX7_cause_153
    · replace h := if_f h q
      refine r_aload_n hC 0 dX7_cause_76 (rfl : 76 + 1 = 77) rfl rfl ?_
      refine r_getr hC 0 6 4 16 (o := 16) fw_X7_38 rfl rfl dX7_cause_77 (rfl : 77 + 3 = 80) ?_
      refine r_aload hC 3 dX7_cause_80 (rfl : 80 + 2 = 82) rfl ?_
      refine r_iload hC 4 dX7_cause_82 (rfl : 82 + 2 = 84) rfl ?_
      refine r_callVi hC cs_X7_202 ty_1 (by omega) (mX2_sortOf hC.2.2.2.2.2.2.2.2.1 (k := k - 1) (by omega) q5 x7 σ _ h) rfl rfl (Nat.le_of_ble_eq_true rfl) dX7_cause_84 (rfl : 84 + 3 = 87) (fun r_3 σ_2 h => ?_)
      refine r_aload hC 3 dX7_cause_87 (rfl : 87 + 2 = 89) rfl ?_
      refine r_iload hC 4 dX7_cause_89 (rfl : 89 + 2 = 91) rfl ?_
      refine r_callVi hC cs_X7_171 ty_1 (by omega) (mX2_faultOf hC.2.2.2.2.2.2.2.2.1 (k := k - 1) (by omega) q5 x7 σ_2 _ h) rfl rfl (Nat.le_of_ble_eq_true rfl) dX7_cause_91 (rfl : 91 + 3 = 94) (fun r_5 σ_4 h => ?_)
      refine r_callVi hC cs_X7_205 rfl (by omega) (mX6_apply hC.2.2.2.2.2.2.2.2.1 (k := k - 1) (by omega) r_3 r_5 σ_4 _ h) rfl rfl (Nat.le_of_ble_eq_true rfl) dX7_cause_94 (rfl : 94 + 3 = 97) (fun r_7 σ_6 h => ?_)
      refine r_pop hC dX7_cause_97 (rfl : 97 + 1 = 98) rfl ?_
      refine r_aload_n hC 0 dX7_cause_98 (rfl : 98 + 1 = 99) rfl rfl ?_
      refine r_getr hC 0 6 6 34 (o := 34) fw_X7_49 rfl rfl dX7_cause_99 (rfl : 99 + 3 = 102) ?_
      refine r_aload_n hC 0 dX7_cause_102 (rfl : 102 + 1 = 103) rfl rfl ?_
      refine r_getr hC 0 6 4 16 (o := 16) fw_X7_38 rfl rfl dX7_cause_103 (rfl : 103 + 3 = 106) ?_
      refine r_getd hC 16 5 2 fw_X7_181 rfl dX7_cause_106 (rfl : 106 + 3 = 109) ?_
      refine r_callVv hC cs_X7_135 rfl (by omega) (mX0_write hC.2.2.2.2.2.2.2.2.1 (k := k - 1) (by omega) 34 (σ_6.2.2 16 2) σ_6 _ h) rfl rfl (Nat.le_of_ble_eq_true rfl) dX7_cause_109 (rfl : 109 + 3 = 112) (fun  σ_8 h => ?_)
      refine r_aload_n hC 0 dX7_cause_112 (rfl : 112 + 1 = 113) rfl rfl ?_
      refine r_getr hC 0 6 6 34 (o := 34) fw_X7_49 rfl rfl dX7_cause_113 (rfl : 113 + 3 = 116) ?_
      refine r_iload_n hC 1 dX7_cause_116 (rfl : 116 + 1 = 117) rfl rfl ?_
      refine r_iload hC 2 dX7_cause_117 (rfl : 117 + 2 = 119) rfl ?_
      refine r_callVi hC cs_X7_138 rfl (by omega) (mX0_run hC.2.2.2.2.2.2.2.2.1 (k := k - 1) (by omega) 34 x3 x4 σ_8 _ h) rfl rfl (Nat.le_of_ble_eq_true rfl) dX7_cause_119 (rfl : 119 + 3 = 122) (fun r_10 σ_9 h => ?_)
      refine r_if_eq hC dX7_cause_122 (rfl : 122 + 3 = 125) (tgt := 142) (by decide) (fun q => ?_) (fun q => ?_)
      · replace h := if_t h q
        refine r_iload hC 4 dX7_cause_142 (rfl : 142 + 2 = 144) rfl ?_
        exact r_iret hC rfl h dX7_cause_144
      · replace h := if_f h q
        refine r_aload_n hC 0 dX7_cause_125 (rfl : 125 + 1 = 126) rfl rfl ?_
        refine r_getr hC 0 6 6 34 (o := 34) fw_X7_49 rfl rfl dX7_cause_126 (rfl : 126 + 3 = 129) ?_
        refine r_geti hC 34 0 10 fw_X7_142 rfl dX7_cause_129 (rfl : 129 + 3 = 132) ?_
        refine r_aload_n hC 0 dX7_cause_132 (rfl : 132 + 1 = 133) rfl rfl ?_
        refine r_getr hC 0 6 5 27 (o := 27) fw_X7_45 rfl rfl dX7_cause_133 (rfl : 133 + 3 = 136) ?_
        refine r_geti hC 27 0 10 fw_X7_142 rfl dX7_cause_136 (rfl : 136 + 3 = 139) ?_
        refine r_icmp_eq hC dX7_cause_139 (rfl : 139 + 3 = 142) (tgt := 145) (by decide) (fun q => ?_) (fun q => ?_)
        · replace h := if_t h q
          obtain ⟨x7_11, e_12, h⟩ := lt_nm h
          refine r_iinc hC (j := 4) dX7_cause_145 (rfl : 145 + 3 = 148) rfl (zz := 1) (by decide) e_12 (by decide) (lv2 := [(7, .int x7_11), (0, .ref (G.1 0)), (3, .int x3), (4, .int x4), (5, .ref (G.1 q5))]) rfl ?_
          refine r_goto hC dX7_cause_148 (tgt := 66) (by decide) ?_
          exact (ih x3 x4 q5 x7_11 σ_9 h).sub [1, 2, 3, 4, 0] rfl
        · replace h := if_f h q
          refine r_iload hC 4 dX7_cause_142 (rfl : 142 + 2 = 144) rfl ?_
          exact r_iret hC rfl h dX7_cause_144
set_option maxHeartbeats 1000000 in
set_option maxRecDepth 100000 in
theorem mX7_cause {G : Gx} {b k : Nat} {l : Launch} (hS : Sok YC G)  (hk : 5 ≤ k) (x1 : Int32) (x2 : Int32) (x3 : Int32) (x4 : Int32) (σ : Sg) (Q : Int32 → Sg → Prop) (h : wX7_cause  x1 x2 x3 x4 σ Q) : Mi YC G b l yX7_cause cX7_cause 8 .int k [.ref (G.1 0), .int x1, .int x2, .int x3, .int x4] σ Q := by
  refine enter hS (by decide +kernel) (Nat.le_of_ble_eq_true rfl) (lv := [(0, .ref (G.1 0)), (1, .int x1), (2, .int x2), (3, .int x3), (4, .int x4)]) rfl (fun K hl hC => ?_)
  subst hl
  unfold wX7_cause at h
  show V YC G K (Zi YC G K Q) 8 σ 0 [(0, .ref (G.1 0)), (1, .int x1), (2, .int x2), (3, .int x3), (4, .int x4)] []
  refine r_aload_n hC 0 dX7_cause_0 (rfl : 0 + 1 = 1) rfl rfl ?_
  refine r_iload_n hC 1 dX7_cause_1 (rfl : 1 + 1 = 2) rfl rfl ?_
  refine r_callVq hC cs_X7_160 rfl (by omega) (mX7_makerAt hC.2.2.2.2.2.2.2.2.1 (k := k - 1) (by omega) x1 σ _ h) rfl rfl (Nat.le_of_ble_eq_true rfl) dX7_cause_2 (rfl : 2 + 3 = 5) (fun o_14 σ_13 h => ?_)
  refine r_astoreQ hC dX7_cause_5 (rfl : 5 + 2 = 7) (by decide) (lv2 := [(5, rv G o_14), (0, .ref (G.1 0)), (1, .int x1), (2, .int x2), (3, .int x3), (4, .int x4)]) rfl ?_
  refine r_aload_n hC 1 dX7_cause_7 (rfl : 7 + 1 = 8) rfl rfl ?_
  refine r_iload_n hC 3 dX7_cause_8 (rfl : 8 + 1 = 9) rfl rfl ?_
  refine r_callVq hC cs_X7_96 rfl (by omega) (mX7_programAt hC.2.2.2.2.2.2.2.2.1 (k := k - 1) (by omega) x2 σ_13 _ h) rfl rfl (Nat.le_of_ble_eq_true rfl) dX7_cause_9 (rfl : 9 + 3 = 12) (fun o_16 σ_15 h => ?_)
  refine r_astoreQ hC dX7_cause_12 (rfl : 12 + 2 = 14) (by decide) (lv2 := [(6, rv G o_16), (5, rv G o_14), (0, .ref (G.1 0)), (1, .int x1), (2, .int x2), (3, .int x3), (4, .int x4)]) (by cases o_14 <;> rfl) ?_
  refine r_aloadQ hC 1 dX7_cause_14 (rfl : 14 + 2 = 16) rfl ?_
  refine r_ifnull hC dX7_cause_16 (rfl : 16 + 3 = 19) (tgt := 24) (by decide) (fun q => ?_) (fun z_17 q => ?_)
  · subst q
    replace h := h.1 rfl
    refine r_iconst hC dX7_cause_24 (rfl : 24 + 1 = 25) (v := -1) (by decide) ?_
    exact r_iret hC rfl h dX7_cause_25
  · subst q
    replace h := h.2 z_17 rfl
    refine r_aloadQ hC 0 dX7_cause_19 (rfl : 19 + 2 = 21) rfl ?_
    refine r_ifnonnull hC dX7_cause_21 (rfl : 21 + 3 = 24) (tgt := 26) (by decide) (fun z_18 q => ?_) (fun q => ?_)
    · subst q
      replace h := h.2 z_18 rfl
      refine r_aload_n hC 2 dX7_cause_26 (rfl : 26 + 1 = 27) rfl rfl ?_
      refine r_getr hC 0 6 5 27 (o := 27) fw_X7_45 rfl rfl dX7_cause_27 (rfl : 27 + 3 = 30) ?_
      refine r_aload hC 0 dX7_cause_30 (rfl : 30 + 2 = 32) rfl ?_
      refine r_callVv hC cs_X7_135 rfl (by omega) (mX0_write hC.2.2.2.2.2.2.2.2.1 (k := k - 1) (by omega) 27 z_18 σ_15 _ h) rfl rfl (Nat.le_of_ble_eq_true rfl) dX7_cause_32 (rfl : 32 + 3 = 35) (fun  σ_19 h => ?_)
      refine r_aload_n hC 2 dX7_cause_35 (rfl : 35 + 1 = 36) rfl rfl ?_
      refine r_getr hC 0 6 5 27 (o := 27) fw_X7_45 rfl rfl dX7_cause_36 (rfl : 36 + 3 = 39) ?_
      refine r_iload_n hC 5 dX7_cause_39 (rfl : 39 + 1 = 40) rfl rfl ?_
      refine r_iload hC 6 dX7_cause_40 (rfl : 40 + 2 = 42) rfl ?_
      refine r_callVi hC cs_X7_138 rfl (by omega) (mX0_run hC.2.2.2.2.2.2.2.2.1 (k := k - 1) (by omega) 27 x3 x4 σ_19 _ h) rfl rfl (Nat.le_of_ble_eq_true rfl) dX7_cause_42 (rfl : 42 + 3 = 45) (fun r_21 σ_20 h => ?_)
      refine r_if_ne hC dX7_cause_45 (rfl : 45 + 3 = 48) (tgt := 51) (by decide) (fun q => ?_) (fun q => ?_)
      · replace h := if_f h q
        refine r_aload_n hC 2 dX7_cause_51 (rfl : 51 + 1 = 52) rfl rfl ?_
        refine r_getr hC 0 6 4 16 (o := 16) fw_X7_38 rfl rfl dX7_cause_52 (rfl : 52 + 3 = 55) ?_
        refine r_getd hC 16 5 2 fw_X7_181 rfl dX7_cause_55 (rfl : 55 + 3 = 58) ?_
        refine r_aload hC 0 dX7_cause_58 (rfl : 58 + 2 = 60) rfl ?_
        obtain ⟨ty_22, h⟩ := h
        refine r_callVv hC cs_X7_122 ty_22 (by omega) (mX5_become hC.2.2.2.2.2.2.2.2.1 (k := k - 1) (by omega) (σ_20.2.2 16 2) z_18 σ_20 _ h) rfl rfl (Nat.le_of_ble_eq_true rfl) dX7_cause_60 (rfl : 60 + 3 = 63) (fun  σ_23 h => ?_)
        refine r_iconst hC dX7_cause_63 (rfl : 63 + 1 = 64) (v := 0) (by decide) ?_
        refine r_istore hC dX7_cause_64 (rfl : 64 + 2 = 66) (by decide) rfl (lv2 := [(7, .int 0), (6, .ref (G.1 z_18)), (5, .ref (G.1 z_17)), (0, .ref (G.1 0)), (1, .int x1), (2, .int x2), (3, .int x3), (4, .int x4)]) rfl ?_
        obtain ⟨nn, h⟩ := h
        exact (sX7_cause_66 rfl hC hk  Q  nn x3 x4 z_17 0 σ_23 h).sub [3, 6, 7, 2, 0] rfl
      · replace h := if_t h q
        refine r_bipush hC dX7_cause_48 (rfl : 48 + 2 = 50) (v := -2) (by decide) ?_
        exact r_iret hC rfl h dX7_cause_50
    · subst q
      replace h := h.1 rfl
      refine r_iconst hC dX7_cause_24 (rfl : 24 + 1 = 25) (v := -1) (by decide) ?_
      exact r_iret hC rfl h dX7_cause_25
set_option maxHeartbeats 1000000 in
set_option maxRecDepth 100000 in
theorem mX7_isSafe {G : Gx} {b k : Nat} {l : Launch} (hS : Sok YC G)  (hk : 4 ≤ k) (q1 : Nat) (x2 : Int32) (σ : Sg) (Q : Int32 → Sg → Prop) (h : wX7_isSafe  q1 x2 σ Q) : Mi YC G b l yX7_isSafe cX7_isSafe 3 .boolean k [.ref (G.1 0), .ref (G.1 q1), .int x2] σ Q := by
  refine enter hS (by decide +kernel) (Nat.le_of_ble_eq_true rfl) (lv := [(0, .ref (G.1 0)), (1, .ref (G.1 q1)), (2, .int x2)]) rfl (fun K hl hC => ?_)
  subst hl
  unfold wX7_isSafe at h
  show V YC G K (Zi YC G K Q) 3 σ 0 [(0, .ref (G.1 0)), (1, .ref (G.1 q1)), (2, .int x2)] []
  refine r_aload_n hC 0 dX7_isSafe_0 (rfl : 0 + 1 = 1) rfl rfl ?_
  refine r_getr hC 0 6 5 27 (o := 27) fw_X7_45 rfl rfl dX7_isSafe_1 (rfl : 1 + 3 = 4) ?_
  refine r_aload_n hC 1 dX7_isSafe_4 (rfl : 4 + 1 = 5) rfl rfl ?_
  refine r_callVv hC cs_X7_135 rfl (by omega) (mX0_write hC.2.2.2.2.2.2.2.2.1 (k := k - 1) (by omega) 27 q1 σ _ h) rfl rfl (Nat.le_of_ble_eq_true rfl) dX7_isSafe_5 (rfl : 5 + 3 = 8) (fun  σ_1 h => ?_)
  refine r_aload_n hC 0 dX7_isSafe_8 (rfl : 8 + 1 = 9) rfl rfl ?_
  refine r_getr hC 0 6 5 27 (o := 27) fw_X7_45 rfl rfl dX7_isSafe_9 (rfl : 9 + 3 = 12) ?_
  refine r_iload_n hC 2 dX7_isSafe_12 (rfl : 12 + 1 = 13) rfl rfl ?_
  refine r_callVi hC cs_X7_196 rfl (by omega) (mX0_isNeverFree hC.2.2.2.2.2.2.2.2.1 (k := k - 1) (by omega) 27 x2 σ_1 _ h) rfl rfl (Nat.le_of_ble_eq_true rfl) dX7_isSafe_13 (rfl : 13 + 3 = 16) (fun r_3 σ_2 h => ?_)
  obtain ⟨q_4, h⟩ := h
  exact r_zret hC rfl q_4 h dX7_isSafe_16
set_option maxHeartbeats 1000000 in
set_option maxRecDepth 100000 in
theorem sX7_showsFault_157 {G : Gx} {b k : Nat} {K : Kx} {l : Launch} (hl : K.2.1 = l) (hC : Cx YC G b K cX7_showsFault RX7 8 (some .boolean) k)  (hk : 4 ≤ k) (K64 : Int32 → Int32 → Int32 → Int32 → Int32 → Sg → Prop) (K74 : Int32 → Int32 → Int32 → Int32 → Int32 → Int32 → Sg → Prop) (Q : Int32 → Sg → Prop) (h64 : ∀ (x2 : Int32) (x3 : Int32) (x4 : Int32) (x5 : Int32) (x6 : Int32) (σ : Sg), K64 x2 x3 x4 x5 x6 σ → V YC G K (Zi YC G K Q) 8 σ 64 [(0, .ref (G.1 0)), (2, .int x2), (3, .int x3), (4, .int x4), (5, .int x5), (6, .int x6)] []) (h74 : ∀ (x2 : Int32) (x3 : Int32) (x4 : Int32) (x5 : Int32) (x6 : Int32) (x7 : Int32) (σ : Sg), K74 x2 x3 x4 x5 x6 x7 σ → V YC G K (Zi YC G K Q) 8 σ 74 [(0, .ref (G.1 0)), (2, .int x2), (3, .int x3), (4, .int x4), (5, .int x5), (6, .int x6), (7, .int x7)] []) (x2 : Int32) (x3 : Int32) (x4 : Int32) (x5 : Int32) (x6 : Int32) (x7 : Int32) (σ : Sg) (h : wX7_showsFault_157 K64 K74 x2 x3 x4 x5 x6 x7 σ Q) : V YC G K (Zi YC G K Q) 8 σ 157 [(0, .ref (G.1 0)), (2, .int x2), (3, .int x3), (4, .int x4), (5, .int x5), (6, .int x6), (7, .int x7)] [] := by
  subst hl
  unfold wX7_showsFault_157 at h
  obtain ⟨x7_1, e_2, h⟩ := lt_nm h
  refine r_iinc hC (j := 6) dX7_showsFault_157 (rfl : 157 + 3 = 160) rfl (zz := 1) (by decide) e_2 (by decide) (lv2 := [(7, .int x7_1), (0, .ref (G.1 0)), (2, .int x2), (3, .int x3), (4, .int x4), (5, .int x5), (6, .int x6)]) rfl ?_
  refine r_goto hC dX7_showsFault_160 (tgt := 74) (by decide) ?_
  exact (h74 x2 x3 x4 x5 x6 x7_1 σ h).sub [1, 2, 3, 4, 5, 6, 0] rfl
set_option maxHeartbeats 1000000 in
set_option maxRecDepth 100000 in
theorem sX7_showsFault_138 {G : Gx} {b k : Nat} {K : Kx} {l : Launch} (hl : K.2.1 = l) (hC : Cx YC G b K cX7_showsFault RX7 8 (some .boolean) k)  (hk : 4 ≤ k) (K64 : Int32 → Int32 → Int32 → Int32 → Int32 → Sg → Prop) (K74 : Int32 → Int32 → Int32 → Int32 → Int32 → Int32 → Sg → Prop) (Q : Int32 → Sg → Prop) (h64 : ∀ (x2 : Int32) (x3 : Int32) (x4 : Int32) (x5 : Int32) (x6 : Int32) (σ : Sg), K64 x2 x3 x4 x5 x6 σ → V YC G K (Zi YC G K Q) 8 σ 64 [(0, .ref (G.1 0)), (2, .int x2), (3, .int x3), (4, .int x4), (5, .int x5), (6, .int x6)] []) (h74 : ∀ (x2 : Int32) (x3 : Int32) (x4 : Int32) (x5 : Int32) (x6 : Int32) (x7 : Int32) (σ : Sg), K74 x2 x3 x4 x5 x6 x7 σ → V YC G K (Zi YC G K Q) 8 σ 74 [(0, .ref (G.1 0)), (2, .int x2), (3, .int x3), (4, .int x4), (5, .int x5), (6, .int x6), (7, .int x7)] []) (x2 : Int32) (x3 : Int32) (x4 : Int32) (x6 : Int32) (x7 : Int32) (s0 : Int32) (σ : Sg) (h : wX7_showsFault_138 K64 K74 x2 x3 x4 x6 x7 s0 σ Q) : V YC G K (Zi YC G K Q) 8 σ 138 [(0, .ref (G.1 0)), (2, .int x2), (3, .int x3), (4, .int x4), (6, .int x6), (7, .int x7)] [.int s0] := by
  subst hl
  unfold wX7_showsFault_138 at h
  refine r_istore hC dX7_showsFault_138 (rfl : 138 + 2 = 140) (by decide) rfl (lv2 := [(5, .int s0), (0, .ref (G.1 0)), (2, .int x2), (3, .int x3), (4, .int x4), (6, .int x6), (7, .int x7)]) rfl ?_
  refine r_iload hC 0 dX7_showsFault_140 (rfl : 140 + 2 = 142) rfl ?_
  refine r_if_eq hC dX7_showsFault_142 (rfl : 142 + 3 = 145) (tgt := 157) (by decide) (fun q => ?_) (fun q => ?_)
  · replace h := if_t h q
    exact (sX7_showsFault_157 rfl hC hk K64 K74 Q h64 h74 x2 x3 x4 s0 x6 x7 σ h).sub [1, 2, 3, 4, 0, 5, 6] rfl
  · replace h := if_f h q
    refine r_aload_n hC 1 dX7_showsFault_145 (rfl : 145 + 1 = 146) rfl rfl ?_
    refine r_getr hC 0 6 5 27 (o := 27) fw_X7_45 rfl rfl dX7_showsFault_146 (rfl : 146 + 3 = 149) ?_
    refine r_geti hC 27 0 5 fw_X7_247 rfl dX7_showsFault_149 (rfl : 149 + 3 = 152) ?_
    refine r_if_ne hC dX7_showsFault_152 (rfl : 152 + 3 = 155) (tgt := 157) (by decide) (fun q => ?_) (fun q => ?_)
    · replace h := if_f h q
      exact (sX7_showsFault_157 rfl hC hk K64 K74 Q h64 h74 x2 x3 x4 s0 x6 x7 σ h).sub [1, 2, 3, 4, 0, 5, 6] rfl
    · replace h := if_t h q
      refine r_iconst hC dX7_showsFault_155 (rfl : 155 + 1 = 156) (v := 1) (by decide) ?_
      exact r_zret hC rfl (by decide) h dX7_showsFault_156
set_option maxHeartbeats 1000000 in
set_option maxRecDepth 100000 in
theorem sX7_showsFault_133 {G : Gx} {b k : Nat} {K : Kx} {l : Launch} (hl : K.2.1 = l) (hC : Cx YC G b K cX7_showsFault RX7 8 (some .boolean) k)  (hk : 4 ≤ k) (K64 : Int32 → Int32 → Int32 → Int32 → Int32 → Sg → Prop) (K74 : Int32 → Int32 → Int32 → Int32 → Int32 → Int32 → Sg → Prop) (Q : Int32 → Sg → Prop) (h64 : ∀ (x2 : Int32) (x3 : Int32) (x4 : Int32) (x5 : Int32) (x6 : Int32) (σ : Sg), K64 x2 x3 x4 x5 x6 σ → V YC G K (Zi YC G K Q) 8 σ 64 [(0, .ref (G.1 0)), (2, .int x2), (3, .int x3), (4, .int x4), (5, .int x5), (6, .int x6)] []) (h74 : ∀ (x2 : Int32) (x3 : Int32) (x4 : Int32) (x5 : Int32) (x6 : Int32) (x7 : Int32) (σ : Sg), K74 x2 x3 x4 x5 x6 x7 σ → V YC G K (Zi YC G K Q) 8 σ 74 [(0, .ref (G.1 0)), (2, .int x2), (3, .int x3), (4, .int x4), (5, .int x5), (6, .int x6), (7, .int x7)] []) (x2 : Int32) (x3 : Int32) (x4 : Int32) (x6 : Int32) (x7 : Int32) (σ : Sg) (h : wX7_showsFault_133 K64 K74 x2 x3 x4 x6 x7 σ Q) : V YC G K (Zi YC G K Q) 8 σ 133 [(0, .ref (G.1 0)), (2, .int x2), (3, .int x3), (4, .int x4), (6, .int x6), (7, .int x7)] [] := by
  subst hl
  unfold wX7_showsFault_133 at h
  refine r_iconst hC dX7_showsFault_133 (rfl : 133 + 1 = 134) (v := 1) (by decide) ?_
  refine r_goto hC dX7_showsFault_134 (tgt := 138) (by decide) ?_
  exact (sX7_showsFault_138 rfl hC hk K64 K74 Q h64 h74 x2 x3 x4 x6 x7 1 σ h).sub [0, 1, 2, 3, 4, 5] rfl
set_option maxHeartbeats 1000000 in
set_option maxRecDepth 100000 in
theorem sX7_showsFault_74 {G : Gx} {b k : Nat} {K : Kx} {l : Launch} (hl : K.2.1 = l) (hC : Cx YC G b K cX7_showsFault RX7 8 (some .boolean) k)  (hk : 4 ≤ k) (K64 : Int32 → Int32 → Int32 → Int32 → Int32 → Sg → Prop) (Q : Int32 → Sg → Prop) (h64 : ∀ (x2 : Int32) (x3 : Int32) (x4 : Int32) (x5 : Int32) (x6 : Int32) (σ : Sg), K64 x2 x3 x4 x5 x6 σ → V YC G K (Zi YC G K Q) 8 σ 64 [(0, .ref (G.1 0)), (2, .int x2), (3, .int x3), (4, .int x4), (5, .int x5), (6, .int x6)] []) : ∀ (n : Nat) (x2 : Int32) (x3 : Int32) (x4 : Int32) (x5 : Int32) (x6 : Int32) (x7 : Int32) (σ : Sg), wX7_showsFault_74 K64 Q n x2 x3 x4 x5 x6 x7 σ → V YC G K (Zi YC G K Q) 8 σ 74 [(0, .ref (G.1 0)), (2, .int x2), (3, .int x3), (4, .int x4), (5, .int x5), (6, .int x6), (7, .int x7)] [] := by
  subst hl
  intro n
  induction n with
  | zero =>
    intro x2 x3 x4 x5 x6 x7 σ h
    exact h.elim
  | succ n ih =>
    intro x2 x3 x4 x5 x6 x7 σ h
    have h : wX7_showsFault_74_b K64 (wX7_showsFault_74 K64 Q n) x2 x3 x4 x5 x6 x7 σ Q := h
    unfold wX7_showsFault_74_b at h
    refine r_iload hC 6 dX7_showsFault_74 (rfl : 74 + 2 = 76) rfl ?_
    refine r_iload hC 3 dX7_showsFault_76 (rfl : 76 + 2 = 78) rfl ?_
    refine r_icmp_gt hC dX7_showsFault_78 (rfl : 78 + 3 = 81) (tgt := 163) (by decide) (fun q => ?_) (fun q => ?_)
    · replace h := if_t h q
      obtain ⟨x6_3, e_4, h⟩ := lt_nm h
      refine r_iinc hC (j := 5) dX7_showsFault_163 (rfl : 163 + 3 = 166) rfl (zz := 1) (by decide) e_4 (by decide) (lv2 := [(6, .int x6_3), (0, .ref (G.1 0)), (2, .int x2), (3, .int x3), (4, .int x4), (5, .int x5), (7, .int x7)]) rfl ?_
      refine r_goto hC dX7_showsFault_166 (tgt := 64) (by decide) ?_
      exact (h64 x2 x3 x4 x5 x6_3 σ h).sub [1, 2, 3, 4, 5, 0] rfl
    · replace h := if_f h q
      refine r_aload_n hC 0 dX7_showsFault_81 (rfl : 81 + 1 = 82) rfl rfl ?_
      refine r_getr hC 0 6 5 27 (o := 27) fw_X7_45 rfl rfl dX7_showsFault_82 (rfl : 82 + 3 = 85) ?_
      refine r_iload hC 5 dX7_showsFault_85 (rfl : 85 + 2 = 87) rfl ?_
      refine r_iload hC 6 dX7_showsFault_87 (rfl : 87 + 2 = 89) rfl ?_
      refine r_callVi hC cs_X7_138 rfl (by omega) (mX0_run hC.2.2.2.2.2.2.2.2.1 (k := k - 1) (by omega) 27 x6 x7 σ _ h) rfl rfl (Nat.le_of_ble_eq_true rfl) dX7_showsFault_89 (rfl : 89 + 3 = 92) (fun r_6 σ_5 h => ?_)
      refine r_if_ne hC dX7_showsFault_92 (rfl : 92 + 3 = 95) (tgt := 97) (by decide) (fun q => ?_) (fun q => ?_)
      · replace h := if_f h q
        refine r_iload hC 4 dX7_showsFault_97 (rfl : 97 + 2 = 99) rfl ?_
        refine r_if_ne hC dX7_showsFault_99 (rfl : 99 + 3 = 102) (tgt := 133) (by decide) (fun q => ?_) (fun q => ?_)
        · replace h := if_f h q
          exact (sX7_showsFault_133 rfl hC hk K64 (wX7_showsFault_74 K64 Q n) Q h64 ih x2 x3 x4 x6 x7 σ_5 h).sub [0, 1, 2, 3, 5, 6] rfl
        · replace h := if_t h q
          refine r_aload_n hC 0 dX7_showsFault_102 (rfl : 102 + 1 = 103) rfl rfl ?_
          refine r_getr hC 0 6 6 34 (o := 34) fw_X7_49 rfl rfl dX7_showsFault_103 (rfl : 103 + 3 = 106) ?_
          refine r_iload hC 5 dX7_showsFault_106 (rfl : 106 + 2 = 108) rfl ?_
          refine r_iload hC 6 dX7_showsFault_108 (rfl : 108 + 2 = 110) rfl ?_
          refine r_callVi hC cs_X7_138 rfl (by omega) (mX0_run hC.2.2.2.2.2.2.2.2.1 (k := k - 1) (by omega) 34 x6 x7 σ_5 _ h) rfl rfl (Nat.le_of_ble_eq_true rfl) dX7_showsFault_110 (rfl : 110 + 3 = 113) (fun r_8 σ_7 h => ?_)
          refine r_if_eq hC dX7_showsFault_113 (rfl : 113 + 3 = 116) (tgt := 133) (by decide) (fun q => ?_) (fun q => ?_)
          · replace h := if_t h q
            exact (sX7_showsFault_133 rfl hC hk K64 (wX7_showsFault_74 K64 Q n) Q h64 ih x2 x3 x4 x6 x7 σ_7 h).sub [0, 1, 2, 3, 5, 6] rfl
          · replace h := if_f h q
            refine r_aload_n hC 0 dX7_showsFault_116 (rfl : 116 + 1 = 117) rfl rfl ?_
            refine r_getr hC 0 6 6 34 (o := 34) fw_X7_49 rfl rfl dX7_showsFault_117 (rfl : 117 + 3 = 120) ?_
            refine r_geti hC 34 0 10 fw_X7_142 rfl dX7_showsFault_120 (rfl : 120 + 3 = 123) ?_
            refine r_aload_n hC 0 dX7_showsFault_123 (rfl : 123 + 1 = 124) rfl rfl ?_
            refine r_getr hC 0 6 5 27 (o := 27) fw_X7_45 rfl rfl dX7_showsFault_124 (rfl : 124 + 3 = 127) ?_
            refine r_geti hC 27 0 10 fw_X7_142 rfl dX7_showsFault_127 (rfl : 127 + 3 = 130) ?_
            refine r_icmp_eq hC dX7_showsFault_130 (rfl : 130 + 3 = 133) (tgt := 137) (by decide) (fun q => ?_) (fun q => ?_)
            · replace h := if_t h q
              refine r_iconst hC dX7_showsFault_137 (rfl : 137 + 1 = 138) (v := 0) (by decide) ?_
              exact (sX7_showsFault_138 rfl hC hk K64 (wX7_showsFault_74 K64 Q n) Q h64 ih x2 x3 x4 x6 x7 0 σ_7 h).sub [0, 1, 2, 3, 5, 6] rfl
            · replace h := if_f h q
              exact (sX7_showsFault_133 rfl hC hk K64 (wX7_showsFault_74 K64 Q n) Q h64 ih x2 x3 x4 x6 x7 σ_7 h).sub [0, 1, 2, 3, 5, 6] rfl
      · replace h := if_t h q
        refine r_iconst hC dX7_showsFault_95 (rfl : 95 + 1 = 96) (v := 0) (by decide) ?_
        exact r_zret hC rfl (by decide) h dX7_showsFault_96
set_option maxHeartbeats 1000000 in
set_option maxRecDepth 100000 in
theorem sX7_showsFault_64 {G : Gx} {b k : Nat} {K : Kx} {l : Launch} (hl : K.2.1 = l) (hC : Cx YC G b K cX7_showsFault RX7 8 (some .boolean) k)  (hk : 4 ≤ k)  (Q : Int32 → Sg → Prop)  : ∀ (n : Nat) (x2 : Int32) (x3 : Int32) (x4 : Int32) (x5 : Int32) (x6 : Int32) (σ : Sg), wX7_showsFault_64  Q n x2 x3 x4 x5 x6 σ → V YC G K (Zi YC G K Q) 8 σ 64 [(0, .ref (G.1 0)), (2, .int x2), (3, .int x3), (4, .int x4), (5, .int x5), (6, .int x6)] [] := by
  subst hl
  intro n
  induction n with
  | zero =>
    intro x2 x3 x4 x5 x6 σ h
    exact h.elim
  | succ n ih =>
    intro x2 x3 x4 x5 x6 σ h
    have h : wX7_showsFault_64_b  (wX7_showsFault_64  Q n) x2 x3 x4 x5 x6 σ Q := h
    unfold wX7_showsFault_64_b at h
    refine r_iload hC 5 dX7_showsFault_64 (rfl : 64 + 2 = 66) rfl ?_
    refine r_iload_n hC 2 dX7_showsFault_66 (rfl : 66 + 1 = 67) rfl rfl ?_
    refine r_icmp_gt hC dX7_showsFault_67 (rfl : 67 + 3 = 70) (tgt := 169) (by decide) (fun q => ?_) (fun q => ?_)
    · replace h := if_t h q
      refine r_iload hC 4 dX7_showsFault_169 (rfl : 169 + 2 = 171) rfl ?_
      obtain ⟨q_9, h⟩ := h
      exact r_zret hC rfl q_9 h dX7_showsFault_171
    · replace h := if_f h q
      refine r_iload_n hC 1 dX7_showsFault_70 (rfl : 70 + 1 = 71) rfl rfl ?_
      refine r_ineg hC dX7_showsFault_71 (rfl : 71 + 1 = 72) ?_
      obtain ⟨x7_10, e_11, h⟩ := lt_nm h
      refine r_istore hC dX7_showsFault_72 (rfl : 72 + 2 = 74) (by decide) e_11 (lv2 := [(7, .int x7_10), (0, .ref (G.1 0)), (2, .int x2), (3, .int x3), (4, .int x4), (5, .int x5), (6, .int x6)]) rfl ?_
      obtain ⟨nn, h⟩ := h
      exact (sX7_showsFault_74 rfl hC hk (wX7_showsFault_64  Q n) Q ih nn x2 x3 x4 x5 x6 x7_10 σ h).sub [1, 2, 3, 4, 5, 6, 0] rfl
set_option maxHeartbeats 1000000 in
set_option maxRecDepth 100000 in
theorem sX7_showsFault_55 {G : Gx} {b k : Nat} {K : Kx} {l : Launch} (hl : K.2.1 = l) (hC : Cx YC G b K cX7_showsFault RX7 8 (some .boolean) k)  (hk : 4 ≤ k)  (Q : Int32 → Sg → Prop)  (x2 : Int32) (x3 : Int32) (s0 : Int32) (σ : Sg) (h : wX7_showsFault_55  x2 x3 s0 σ Q) : V YC G K (Zi YC G K Q) 8 σ 55 [(0, .ref (G.1 0)), (2, .int x2), (3, .int x3)] [.int s0] := by
  subst hl
  unfold wX7_showsFault_55 at h
  refine r_istore hC dX7_showsFault_55 (rfl : 55 + 2 = 57) (by decide) rfl (lv2 := [(4, .int s0), (0, .ref (G.1 0)), (2, .int x2), (3, .int x3)]) rfl ?_
  refine r_iconst hC dX7_showsFault_57 (rfl : 57 + 1 = 58) (v := 0) (by decide) ?_
  refine r_istore hC dX7_showsFault_58 (rfl : 58 + 2 = 60) (by decide) rfl (lv2 := [(5, .int 0), (4, .int s0), (0, .ref (G.1 0)), (2, .int x2), (3, .int x3)]) rfl ?_
  refine r_iload_n hC 3 dX7_showsFault_60 (rfl : 60 + 1 = 61) rfl rfl ?_
  refine r_ineg hC dX7_showsFault_61 (rfl : 61 + 1 = 62) ?_
  obtain ⟨x6_12, e_13, h⟩ := lt_nm h
  refine r_istore hC dX7_showsFault_62 (rfl : 62 + 2 = 64) (by decide) e_13 (lv2 := [(6, .int x6_12), (5, .int 0), (4, .int s0), (0, .ref (G.1 0)), (2, .int x2), (3, .int x3)]) rfl ?_
  obtain ⟨nn, h⟩ := h
  exact (sX7_showsFault_64 rfl hC hk  Q  nn x2 x3 s0 0 x6_12 σ h).sub [3, 4, 5, 2, 1, 0] rfl
set_option maxHeartbeats 1000000 in
set_option maxRecDepth 100000 in
theorem sX7_showsFault_38 {G : Gx} {b k : Nat} {K : Kx} {l : Launch} (hl : K.2.1 = l) (hC : Cx YC G b K cX7_showsFault RX7 8 (some .boolean) k)  (hk : 4 ≤ k)  (Q : Int32 → Sg → Prop)  (x2 : Int32) (s0 : Int32) (σ : Sg) (h : wX7_showsFault_38  x2 s0 σ Q) : V YC G K (Zi YC G K Q) 8 σ 38 [(0, .ref (G.1 0)), (2, .int x2)] [.int s0] := by
  subst hl
  unfold wX7_showsFault_38 at h
  refine r_istore_n hC dX7_showsFault_38 (rfl : 38 + 1 = 39) rfl (by decide) rfl (lv2 := [(3, .int s0), (0, .ref (G.1 0)), (2, .int x2)]) rfl ?_
  refine r_aload_n hC 1 dX7_showsFault_39 (rfl : 39 + 1 = 40) rfl rfl ?_
  refine r_getr hC 0 6 5 27 (o := 27) fw_X7_45 rfl rfl dX7_showsFault_40 (rfl : 40 + 3 = 43) ?_
  refine r_geti hC 27 0 4 fw_X7_244 rfl dX7_showsFault_43 (rfl : 43 + 3 = 46) ?_
  refine r_if_eq hC dX7_showsFault_46 (rfl : 46 + 3 = 49) (tgt := 53) (by decide) (fun q => ?_) (fun q => ?_)
  · replace h := if_t h q
    refine r_iload_n hC 2 dX7_showsFault_53 (rfl : 53 + 1 = 54) rfl rfl ?_
    refine r_ineg hC dX7_showsFault_54 (rfl : 54 + 1 = 55) ?_
    exact (sX7_showsFault_55 rfl hC hk  Q  x2 s0 (-x2) σ h).sub [1, 2, 0] rfl
  · replace h := if_f h q
    refine r_iload_n hC 2 dX7_showsFault_49 (rfl : 49 + 1 = 50) rfl rfl ?_
    refine r_goto hC dX7_showsFault_50 (tgt := 55) (by decide) ?_
    exact (sX7_showsFault_55 rfl hC hk  Q  x2 s0 x2 σ h).sub [1, 2, 0] rfl
set_option maxHeartbeats 1000000 in
set_option maxRecDepth 100000 in
theorem mX7_showsFault {G : Gx} {b k : Nat} {l : Launch} (hS : Sok YC G)  (hk : 4 ≤ k) (q1 : Nat) (x2 : Int32) (σ : Sg) (Q : Int32 → Sg → Prop) (h : wX7_showsFault  q1 x2 σ Q) : Mi YC G b l yX7_showsFault cX7_showsFault 8 .boolean k [.ref (G.1 0), .ref (G.1 q1), .int x2] σ Q := by
  refine enter hS (by decide +kernel) (Nat.le_of_ble_eq_true rfl) (lv := [(0, .ref (G.1 0)), (1, .ref (G.1 q1)), (2, .int x2)]) rfl (fun K hl hC => ?_)
  subst hl
  unfold wX7_showsFault at h
  show V YC G K (Zi YC G K Q) 8 σ 0 [(0, .ref (G.1 0)), (1, .ref (G.1 q1)), (2, .int x2)] []
  refine r_aload_n hC 0 dX7_showsFault_0 (rfl : 0 + 1 = 1) rfl rfl ?_
  refine r_getr hC 0 6 5 27 (o := 27) fw_X7_45 rfl rfl dX7_showsFault_1 (rfl : 1 + 3 = 4) ?_
  refine r_aload_n hC 1 dX7_showsFault_4 (rfl : 4 + 1 = 5) rfl rfl ?_
  refine r_callVv hC cs_X7_135 rfl (by omega) (mX0_write hC.2.2.2.2.2.2.2.2.1 (k := k - 1) (by omega) 27 q1 σ _ h) rfl rfl (Nat.le_of_ble_eq_true rfl) dX7_showsFault_5 (rfl : 5 + 3 = 8) (fun  σ_14 h => ?_)
  refine r_aload_n hC 0 dX7_showsFault_8 (rfl : 8 + 1 = 9) rfl rfl ?_
  refine r_getr hC 0 6 6 34 (o := 34) fw_X7_49 rfl rfl dX7_showsFault_9 (rfl : 9 + 3 = 12) ?_
  refine r_aload_n hC 0 dX7_showsFault_12 (rfl : 12 + 1 = 13) rfl rfl ?_
  refine r_getr hC 0 6 4 16 (o := 16) fw_X7_38 rfl rfl dX7_showsFault_13 (rfl : 13 + 3 = 16) ?_
  refine r_getd hC 16 5 2 fw_X7_181 rfl dX7_showsFault_16 (rfl : 16 + 3 = 19) ?_
  refine r_callVv hC cs_X7_135 rfl (by omega) (mX0_write hC.2.2.2.2.2.2.2.2.1 (k := k - 1) (by omega) 34 (σ_14.2.2 16 2) σ_14 _ h) rfl rfl (Nat.le_of_ble_eq_true rfl) dX7_showsFault_19 (rfl : 19 + 3 = 22) (fun  σ_15 h => ?_)
  refine r_aload_n hC 0 dX7_showsFault_22 (rfl : 22 + 1 = 23) rfl rfl ?_
  refine r_getr hC 0 6 5 27 (o := 27) fw_X7_45 rfl rfl dX7_showsFault_23 (rfl : 23 + 3 = 26) ?_
  refine r_geti hC 27 0 3 fw_X7_240 rfl dX7_showsFault_26 (rfl : 26 + 3 = 29) ?_
  refine r_if_eq hC dX7_showsFault_29 (rfl : 29 + 3 = 32) (tgt := 36) (by decide) (fun q => ?_) (fun q => ?_)
  · replace h := if_t h q
    refine r_iload_n hC 2 dX7_showsFault_36 (rfl : 36 + 1 = 37) rfl rfl ?_
    refine r_ineg hC dX7_showsFault_37 (rfl : 37 + 1 = 38) ?_
    exact (sX7_showsFault_38 rfl hC hk  Q  x2 (-x2) σ_15 h).sub [0, 2] rfl
  · replace h := if_f h q
    refine r_iload_n hC 2 dX7_showsFault_32 (rfl : 32 + 1 = 33) rfl rfl ?_
    refine r_goto hC dX7_showsFault_33 (tgt := 38) (by decide) ?_
    exact (sX7_showsFault_38 rfl hC hk  Q  x2 x2 σ_15 h).sub [0, 2] rfl
set_option maxHeartbeats 1000000 in
set_option maxRecDepth 100000 in
theorem sX6_make_14 {G : Gx} {b k : Nat} {K : Kx} {l : Launch} (hl : K.2.1 = l) (hC : Cx YC G b K cX6_make RX6 6 (some .int) k)  (hk : 5 ≤ k)  (Q : Int32 → Sg → Prop)  : ∀ (n : Nat) (q1 : Nat) (x3 : Int32) (x4 : Int32) (x5 : Int32) (σ : Sg), wX6_make_14  Q n q1 x3 x4 x5 σ → V YC G K (Zi YC G K Q) 6 σ 14 [(0, .ref (G.1 16)), (1, .ref (G.1 q1)), (3, .int x3), (4, .int x4), (5, .int x5)] [] := by
  subst hl
  intro n
  induction n with
  | zero =>
    intro q1 x3 x4 x5 σ h
    exact h.elim
  | succ n ih =>
    intro q1 x3 x4 x5 σ h
    have h : wX6_make_14_b  (wX6_make_14  Q n) q1 x3 x4 x5 σ Q := h
    unfold wX6_make_14_b at h
    refine r_iload hC 4 dX6_make_14 (rfl : 14 + 2 = 16) rfl ?_
    refine r_iload_n hC 2 dX6_make_16 (rfl : 16 + 1 = 17) rfl rfl ?_
    refine r_icmp_ge hC dX6_make_17 (rfl : 17 + 3 = 20) (tgt := 47) (by decide) (fun q => ?_) (fun q => ?_)
    · replace h := if_t h q
      refine r_iload hC 3 dX6_make_47 (rfl : 47 + 2 = 49) rfl ?_
      exact r_iret hC rfl h dX6_make_49
    · replace h := if_f h q
      refine r_iload hC 3 dX6_make_20 (rfl : 20 + 2 = 22) rfl ?_
      refine r_aload_n hC 0 dX6_make_22 (rfl : 22 + 1 = 23) rfl rfl ?_
      refine r_aload_n hC 1 dX6_make_23 (rfl : 23 + 1 = 24) rfl rfl ?_
      refine r_iload hC 4 dX6_make_24 (rfl : 24 + 2 = 26) rfl ?_
      obtain ⟨ty_1, h⟩ := h
      refine r_callVi hC cs_X6_32 ty_1 (by omega) (mX2_sortOf hC.2.2.2.2.2.2.2.2.1 (k := k - 1) (by omega) q1 x5 σ _ h) rfl rfl (Nat.le_of_ble_eq_true rfl) dX6_make_26 (rfl : 26 + 3 = 29) (fun r_3 σ_2 h => ?_)
      refine r_aload_n hC 1 dX6_make_29 (rfl : 29 + 1 = 30) rfl rfl ?_
      refine r_iload hC 4 dX6_make_30 (rfl : 30 + 2 = 32) rfl ?_
      refine r_callVi hC cs_X6_38 ty_1 (by omega) (mX2_faultOf hC.2.2.2.2.2.2.2.2.1 (k := k - 1) (by omega) q1 x5 σ_2 _ h) rfl rfl (Nat.le_of_ble_eq_true rfl) dX6_make_32 (rfl : 32 + 3 = 35) (fun r_5 σ_4 h => ?_)
      refine r_callVi hC cs_X6_41 rfl (by omega) (mX6_apply hC.2.2.2.2.2.2.2.2.1 (k := k - 1) (by omega) r_3 r_5 σ_4 _ h) rfl rfl (Nat.le_of_ble_eq_true rfl) dX6_make_35 (rfl : 35 + 3 = 38) (fun r_7 σ_6 h => ?_)
      refine r_iadd hC dX6_make_38 (rfl : 38 + 1 = 39) ?_
      obtain ⟨x4_8, e_9, h⟩ := lt_nm h
      refine r_istore hC dX6_make_39 (rfl : 39 + 2 = 41) (by decide) e_9 (lv2 := [(4, .int x4_8), (0, .ref (G.1 16)), (1, .ref (G.1 q1)), (3, .int x3), (5, .int x5)]) rfl ?_
      obtain ⟨x5_10, e_11, h⟩ := lt_nm h
      refine r_iinc hC (j := 4) dX6_make_41 (rfl : 41 + 3 = 44) rfl (zz := 1) (by decide) e_11 (by decide) (lv2 := [(5, .int x5_10), (4, .int x4_8), (0, .ref (G.1 16)), (1, .ref (G.1 q1)), (3, .int x3)]) rfl ?_
      refine r_goto hC dX6_make_44 (tgt := 14) (by decide) ?_
      exact (ih q1 x3 x4_8 x5_10 σ_6 h).sub [2, 3, 4, 1, 0] rfl
set_option maxHeartbeats 1000000 in
set_option maxRecDepth 100000 in
theorem mX6_make {G : Gx} {b k : Nat} {l : Launch} (hS : Sok YC G)  (hk : 5 ≤ k) (q1 : Nat) (q2 : Nat) (x3 : Int32) (σ : Sg) (Q : Int32 → Sg → Prop) (h : wX6_make  q1 q2 x3 σ Q) : Mi YC G b l yX6_make cX6_make 6 .int k [.ref (G.1 16), .ref (G.1 q1), .ref (G.1 q2), .int x3] σ Q := by
  refine enter hS (by decide +kernel) (Nat.le_of_ble_eq_true rfl) (lv := [(0, .ref (G.1 16)), (1, .ref (G.1 q1)), (2, .ref (G.1 q2)), (3, .int x3)]) rfl (fun K hl hC => ?_)
  subst hl
  unfold wX6_make at h
  show V YC G K (Zi YC G K Q) 6 σ 0 [(0, .ref (G.1 16)), (1, .ref (G.1 q1)), (2, .ref (G.1 q2)), (3, .int x3)] []
  refine r_aload_n hC 0 dX6_make_0 (rfl : 0 + 1 = 1) rfl rfl ?_
  refine r_getd hC 16 5 2 fw_X6_21 rfl dX6_make_1 (rfl : 1 + 3 = 4) ?_
  refine r_aload_n hC 2 dX6_make_4 (rfl : 4 + 1 = 5) rfl rfl ?_
  obtain ⟨ty_12, h⟩ := h
  refine r_callVv hC cs_X6_28 ty_12 (by omega) (mX5_become hC.2.2.2.2.2.2.2.2.1 (k := k - 1) (by omega) (σ.2.2 16 2) q2 σ _ h) rfl rfl (Nat.le_of_ble_eq_true rfl) dX6_make_5 (rfl : 5 + 3 = 8) (fun  σ_13 h => ?_)
  refine r_iconst hC dX6_make_8 (rfl : 8 + 1 = 9) (v := 0) (by decide) ?_
  refine r_istore hC dX6_make_9 (rfl : 9 + 2 = 11) (by decide) rfl (lv2 := [(4, .int 0), (0, .ref (G.1 16)), (1, .ref (G.1 q1)), (2, .ref (G.1 q2)), (3, .int x3)]) rfl ?_
  refine r_iconst hC dX6_make_11 (rfl : 11 + 1 = 12) (v := 0) (by decide) ?_
  refine r_istore hC dX6_make_12 (rfl : 12 + 2 = 14) (by decide) rfl (lv2 := [(5, .int 0), (4, .int 0), (0, .ref (G.1 16)), (1, .ref (G.1 q1)), (2, .ref (G.1 q2)), (3, .int x3)]) rfl ?_
  obtain ⟨nn, h⟩ := h
  exact (sX6_make_14 rfl hC hk  Q  nn q1 x3 0 0 σ_13 h).sub [2, 3, 5, 1, 0] rfl
set_option maxHeartbeats 1000000 in
set_option maxRecDepth 100000 in
theorem mX6_firings {G : Gx} {b k : Nat} {l : Launch} (hS : Sok YC G)  (hk : 6 ≤ k) (q1 : Nat) (q2 : Nat) (x3 : Int32) (σ : Sg) (Q : Int32 → Sg → Prop) (h : wX6_firings  q1 q2 x3 σ Q) : Mi YC G b l yX6_firings cX6_firings 4 .int k [.ref (G.1 16), .ref (G.1 q1), .ref (G.1 q2), .int x3] σ Q := by
  refine enter hS (by decide +kernel) (Nat.le_of_ble_eq_true rfl) (lv := [(0, .ref (G.1 16)), (1, .ref (G.1 q1)), (2, .ref (G.1 q2)), (3, .int x3)]) rfl (fun K hl hC => ?_)
  subst hl
  unfold wX6_firings at h
  show V YC G K (Zi YC G K Q) 4 σ 0 [(0, .ref (G.1 16)), (1, .ref (G.1 q1)), (2, .ref (G.1 q2)), (3, .int x3)] []
  refine r_aload_n hC 0 dX6_firings_0 (rfl : 0 + 1 = 1) rfl rfl ?_
  refine r_aload_n hC 1 dX6_firings_1 (rfl : 1 + 1 = 2) rfl rfl ?_
  refine r_aload_n hC 2 dX6_firings_2 (rfl : 2 + 1 = 3) rfl rfl ?_
  refine r_iload_n hC 3 dX6_firings_3 (rfl : 3 + 1 = 4) rfl rfl ?_
  refine r_callVi hC cs_X6_45 rfl (by omega) (mX6_make hC.2.2.2.2.2.2.2.2.1 (k := k - 1) (by omega) q1 q2 x3 σ _ h) rfl rfl (Nat.le_of_ble_eq_true rfl) dX6_firings_4 (rfl : 4 + 3 = 7) (fun r_2 σ_1 h => ?_)
  refine r_pop hC dX6_firings_7 (rfl : 7 + 1 = 8) rfl ?_
  refine r_aload_n hC 0 dX6_firings_8 (rfl : 8 + 1 = 9) rfl rfl ?_
  refine r_aload_n hC 1 dX6_firings_9 (rfl : 9 + 1 = 10) rfl rfl ?_
  refine r_iload_n hC 3 dX6_firings_10 (rfl : 10 + 1 = 11) rfl rfl ?_
  obtain ⟨ty_3, h⟩ := h
  refine r_callVi hC cs_X6_32 ty_3 (by omega) (mX2_sortOf hC.2.2.2.2.2.2.2.2.1 (k := k - 1) (by omega) q1 x3 σ_1 _ h) rfl rfl (Nat.le_of_ble_eq_true rfl) dX6_firings_11 (rfl : 11 + 3 = 14) (fun r_5 σ_4 h => ?_)
  refine r_aload_n hC 1 dX6_firings_14 (rfl : 14 + 1 = 15) rfl rfl ?_
  refine r_iload_n hC 3 dX6_firings_15 (rfl : 15 + 1 = 16) rfl rfl ?_
  refine r_callVi hC cs_X6_38 ty_3 (by omega) (mX2_faultOf hC.2.2.2.2.2.2.2.2.1 (k := k - 1) (by omega) q1 x3 σ_4 _ h) rfl rfl (Nat.le_of_ble_eq_true rfl) dX6_firings_16 (rfl : 16 + 3 = 19) (fun r_7 σ_6 h => ?_)
  refine r_callVi hC cs_X6_41 rfl (by omega) (mX6_apply hC.2.2.2.2.2.2.2.2.1 (k := k - 1) (by omega) r_5 r_7 σ_6 _ h) rfl rfl (Nat.le_of_ble_eq_true rfl) dX6_firings_19 (rfl : 19 + 3 = 22) (fun r_9 σ_8 h => ?_)
  exact r_iret hC rfl h dX6_firings_22
set_option maxHeartbeats 1000000 in
set_option maxRecDepth 100000 in
theorem sX6_firingTurns_48 {G : Gx} {b k : Nat} {K : Kx} {l : Launch} (hl : K.2.1 = l) (hC : Cx YC G b K cX6_firingTurns RX6 5 (some .int) k)  (hk : 5 ≤ k) (K13 : Nat → Int32 → Int32 → Sg → Prop) (Q : Int32 → Sg → Prop) (h13 : ∀ (q1 : Nat) (x3 : Int32) (x4 : Int32) (σ : Sg), K13 q1 x3 x4 σ → V YC G K (Zi YC G K Q) 5 σ 13 [(0, .ref (G.1 16)), (1, .ref (G.1 q1)), (3, .int x3), (4, .int x4)] []) (q1 : Nat) (x3 : Int32) (x4 : Int32) (σ : Sg) (h : wX6_firingTurns_48 K13 q1 x3 x4 σ Q) : V YC G K (Zi YC G K Q) 5 σ 48 [(0, .ref (G.1 16)), (1, .ref (G.1 q1)), (3, .int x3), (4, .int x4)] [] := by
  subst hl
  unfold wX6_firingTurns_48 at h
  obtain ⟨x4_1, e_2, h⟩ := lt_nm h
  refine r_iinc hC (j := 3) dX6_firingTurns_48 (rfl : 48 + 3 = 51) rfl (zz := 1) (by decide) e_2 (by decide) (lv2 := [(4, .int x4_1), (0, .ref (G.1 16)), (1, .ref (G.1 q1)), (3, .int x3)]) rfl ?_
  refine r_goto hC dX6_firingTurns_51 (tgt := 13) (by decide) ?_
  exact (h13 q1 x3 x4_1 σ h).sub [1, 2, 3, 0] rfl
set_option maxHeartbeats 1000000 in
set_option maxRecDepth 100000 in
theorem sX6_firingTurns_13 {G : Gx} {b k : Nat} {K : Kx} {l : Launch} (hl : K.2.1 = l) (hC : Cx YC G b K cX6_firingTurns RX6 5 (some .int) k)  (hk : 5 ≤ k)  (Q : Int32 → Sg → Prop)  : ∀ (n : Nat) (q1 : Nat) (x3 : Int32) (x4 : Int32) (σ : Sg), wX6_firingTurns_13  Q n q1 x3 x4 σ → V YC G K (Zi YC G K Q) 5 σ 13 [(0, .ref (G.1 16)), (1, .ref (G.1 q1)), (3, .int x3), (4, .int x4)] [] := by
  subst hl
  intro n
  induction n with
  | zero =>
    intro q1 x3 x4 σ h
    exact h.elim
  | succ n ih =>
    intro q1 x3 x4 σ h
    have h : wX6_firingTurns_13_b  (wX6_firingTurns_13  Q n) q1 x3 x4 σ Q := h
    unfold wX6_firingTurns_13_b at h
    refine r_iload hC 3 dX6_firingTurns_13 (rfl : 13 + 2 = 15) rfl ?_
    refine r_aload_n hC 1 dX6_firingTurns_15 (rfl : 15 + 1 = 16) rfl rfl ?_
    obtain ⟨ty_3, h⟩ := h
    refine r_geti hC q1 2 2 fw_X6_49 ty_3 dX6_firingTurns_16 (rfl : 16 + 3 = 19) ?_
    refine r_icmp_ge hC dX6_firingTurns_19 (rfl : 19 + 3 = 22) (tgt := 54) (by decide) (fun q => ?_) (fun q => ?_)
    · replace h := if_t h q
      refine r_iload_n hC 2 dX6_firingTurns_54 (rfl : 54 + 1 = 55) rfl rfl ?_
      exact r_iret hC rfl h dX6_firingTurns_55
    · replace h := if_f h q
      refine r_aload_n hC 0 dX6_firingTurns_22 (rfl : 22 + 1 = 23) rfl rfl ?_
      refine r_aload_n hC 1 dX6_firingTurns_23 (rfl : 23 + 1 = 24) rfl rfl ?_
      refine r_iload hC 3 dX6_firingTurns_24 (rfl : 24 + 2 = 26) rfl ?_
      refine r_callVi hC cs_X6_32 ty_3 (by omega) (mX2_sortOf hC.2.2.2.2.2.2.2.2.1 (k := k - 1) (by omega) q1 x4 σ _ h) rfl rfl (Nat.le_of_ble_eq_true rfl) dX6_firingTurns_26 (rfl : 26 + 3 = 29) (fun r_5 σ_4 h => ?_)
      refine r_aload_n hC 1 dX6_firingTurns_29 (rfl : 29 + 1 = 30) rfl rfl ?_
      refine r_iload hC 3 dX6_firingTurns_30 (rfl : 30 + 2 = 32) rfl ?_
      refine r_callVi hC cs_X6_38 ty_3 (by omega) (mX2_faultOf hC.2.2.2.2.2.2.2.2.1 (k := k - 1) (by omega) q1 x4 σ_4 _ h) rfl rfl (Nat.le_of_ble_eq_true rfl) dX6_firingTurns_32 (rfl : 32 + 3 = 35) (fun r_7 σ_6 h => ?_)
      refine r_callVi hC cs_X6_41 rfl (by omega) (mX6_apply hC.2.2.2.2.2.2.2.2.1 (k := k - 1) (by omega) r_5 r_7 σ_6 _ h) rfl rfl (Nat.le_of_ble_eq_true rfl) dX6_firingTurns_35 (rfl : 35 + 3 = 38) (fun r_9 σ_8 h => ?_)
      refine r_if_le hC dX6_firingTurns_38 (rfl : 38 + 3 = 41) (tgt := 48) (by decide) (fun q => ?_) (fun q => ?_)
      · replace h := if_t h q
        exact (sX6_firingTurns_48 rfl hC hk (wX6_firingTurns_13  Q n) Q ih q1 x3 x4 σ_8 h).sub [0, 1, 2, 3] rfl
      · replace h := if_f h q
        refine r_iload_n hC 2 dX6_firingTurns_41 (rfl : 41 + 1 = 42) rfl rfl ?_
        refine r_iconst hC dX6_firingTurns_42 (rfl : 42 + 1 = 43) (v := 1) (by decide) ?_
        refine r_iload hC 3 dX6_firingTurns_43 (rfl : 43 + 2 = 45) rfl ?_
        refine r_ishl hC dX6_firingTurns_45 (rfl : 45 + 1 = 46) ?_
        refine r_ior hC dX6_firingTurns_46 (rfl : 46 + 1 = 47) ?_
        obtain ⟨x3_10, e_11, h⟩ := lt_nm h
        refine r_istore_n hC dX6_firingTurns_47 (rfl : 47 + 1 = 48) rfl (by decide) e_11 (lv2 := [(3, .int x3_10), (0, .ref (G.1 16)), (1, .ref (G.1 q1)), (4, .int x4)]) rfl ?_
        exact (sX6_firingTurns_48 rfl hC hk (wX6_firingTurns_13  Q n) Q ih q1 x3_10 x4 σ_8 h).sub [1, 2, 0, 3] rfl
set_option maxHeartbeats 1000000 in
set_option maxRecDepth 100000 in
theorem mX6_firingTurns {G : Gx} {b k : Nat} {l : Launch} (hS : Sok YC G)  (hk : 5 ≤ k) (q1 : Nat) (q2 : Nat) (σ : Sg) (Q : Int32 → Sg → Prop) (h : wX6_firingTurns  q1 q2 σ Q) : Mi YC G b l yX6_firingTurns cX6_firingTurns 5 .int k [.ref (G.1 16), .ref (G.1 q1), .ref (G.1 q2)] σ Q := by
  refine enter hS (by decide +kernel) (Nat.le_of_ble_eq_true rfl) (lv := [(0, .ref (G.1 16)), (1, .ref (G.1 q1)), (2, .ref (G.1 q2))]) rfl (fun K hl hC => ?_)
  subst hl
  unfold wX6_firingTurns at h
  show V YC G K (Zi YC G K Q) 5 σ 0 [(0, .ref (G.1 16)), (1, .ref (G.1 q1)), (2, .ref (G.1 q2))] []
  refine r_aload_n hC 0 dX6_firingTurns_0 (rfl : 0 + 1 = 1) rfl rfl ?_
  refine r_getd hC 16 5 2 fw_X6_21 rfl dX6_firingTurns_1 (rfl : 1 + 3 = 4) ?_
  refine r_aload_n hC 2 dX6_firingTurns_4 (rfl : 4 + 1 = 5) rfl rfl ?_
  obtain ⟨ty_12, h⟩ := h
  refine r_callVv hC cs_X6_28 ty_12 (by omega) (mX5_become hC.2.2.2.2.2.2.2.2.1 (k := k - 1) (by omega) (σ.2.2 16 2) q2 σ _ h) rfl rfl (Nat.le_of_ble_eq_true rfl) dX6_firingTurns_5 (rfl : 5 + 3 = 8) (fun  σ_13 h => ?_)
  refine r_iconst hC dX6_firingTurns_8 (rfl : 8 + 1 = 9) (v := 0) (by decide) ?_
  refine r_istore_n hC dX6_firingTurns_9 (rfl : 9 + 1 = 10) rfl (by decide) rfl (lv2 := [(3, .int 0), (0, .ref (G.1 16)), (1, .ref (G.1 q1)), (2, .ref (G.1 q2))]) rfl ?_
  refine r_iconst hC dX6_firingTurns_10 (rfl : 10 + 1 = 11) (v := 0) (by decide) ?_
  refine r_istore hC dX6_firingTurns_11 (rfl : 11 + 2 = 13) (by decide) rfl (lv2 := [(4, .int 0), (3, .int 0), (0, .ref (G.1 16)), (1, .ref (G.1 q1)), (2, .ref (G.1 q2))]) rfl ?_
  obtain ⟨nn, h⟩ := h
  exact (sX6_firingTurns_13 rfl hC hk  Q  nn q1 0 0 σ_13 h).sub [2, 3, 1, 0] rfl
set_option maxHeartbeats 1000000 in
set_option maxRecDepth 100000 in
theorem mX7_safe {G : Gx} {b k : Nat} {l : Launch} (hS : Sok YC G)  (hk : 5 ≤ k) (x1 : Int32) (x2 : Int32) (σ : Sg) (Q : Int32 → Sg → Prop) (h : wX7_safe  x1 x2 σ Q) : Mi YC G b l yX7_safe cX7_safe 4 .int k [.ref (G.1 0), .int x1, .int x2] σ Q := by
  refine enter hS (by decide +kernel) (Nat.le_of_ble_eq_true rfl) (lv := [(0, .ref (G.1 0)), (1, .int x1), (2, .int x2)]) rfl (fun K hl hC => ?_)
  subst hl
  unfold wX7_safe at h
  show V YC G K (Zi YC G K Q) 4 σ 0 [(0, .ref (G.1 0)), (1, .int x1), (2, .int x2)] []
  refine r_aload_n hC 0 dX7_safe_0 (rfl : 0 + 1 = 1) rfl rfl ?_
  refine r_iload_n hC 1 dX7_safe_1 (rfl : 1 + 1 = 2) rfl rfl ?_
  refine r_callVq hC cs_X7_96 rfl (by omega) (mX7_programAt hC.2.2.2.2.2.2.2.2.1 (k := k - 1) (by omega) x1 σ _ h) rfl rfl (Nat.le_of_ble_eq_true rfl) dX7_safe_2 (rfl : 2 + 3 = 5) (fun o_2 σ_1 h => ?_)
  refine r_astore_nQ hC dX7_safe_5 (rfl : 5 + 1 = 6) rfl (by decide) (lv2 := [(3, rv G o_2), (0, .ref (G.1 0)), (1, .int x1), (2, .int x2)]) rfl ?_
  refine r_aload_nQ hC 0 dX7_safe_6 (rfl : 6 + 1 = 7) rfl rfl ?_
  refine r_ifnull hC dX7_safe_7 (rfl : 7 + 3 = 10) (tgt := 20) (by decide) (fun q => ?_) (fun z_3 q => ?_)
  · subst q
    replace h := h.1 rfl
    refine r_iconst hC dX7_safe_20 (rfl : 20 + 1 = 21) (v := -1) (by decide) ?_
    exact r_iret hC rfl h dX7_safe_21
  · subst q
    replace h := h.2 z_3 rfl
    refine r_iload_n hC 3 dX7_safe_10 (rfl : 10 + 1 = 11) rfl rfl ?_
    refine r_iconst hC dX7_safe_11 (rfl : 11 + 1 = 12) (v := 0) (by decide) ?_
    refine r_bipush hC dX7_safe_12 (rfl : 12 + 2 = 14) (v := 6) (by decide) ?_
    refine r_callSi hC cs_X7_75 (by omega) (mX7_within hC.2.2.2.2.2.2.2.2.1 (k := k - 1) (by omega) x2 0 6 σ_1 _ h) rfl rfl (Nat.le_of_ble_eq_true rfl) dX7_safe_14 (rfl : 14 + 3 = 17) (fun r_5 σ_4 h => ?_)
    refine r_if_ne hC dX7_safe_17 (rfl : 17 + 3 = 20) (tgt := 22) (by decide) (fun q => ?_) (fun q => ?_)
    · replace h := if_f h q
      refine r_aload_n hC 1 dX7_safe_22 (rfl : 22 + 1 = 23) rfl rfl ?_
      refine r_aload_n hC 0 dX7_safe_23 (rfl : 23 + 1 = 24) rfl rfl ?_
      refine r_iload_n hC 3 dX7_safe_24 (rfl : 24 + 1 = 25) rfl rfl ?_
      refine r_callVi hC cs_X7_145 rfl (by omega) (mX7_isSafe hC.2.2.2.2.2.2.2.2.1 (k := k - 1) (by omega) z_3 x2 σ_4 _ h) rfl rfl (Nat.le_of_ble_eq_true rfl) dX7_safe_25 (rfl : 25 + 3 = 28) (fun r_7 σ_6 h => ?_)
      refine r_if_eq hC dX7_safe_28 (rfl : 28 + 3 = 31) (tgt := 35) (by decide) (fun q => ?_) (fun q => ?_)
      · replace h := if_t h q
        refine r_iconst hC dX7_safe_35 (rfl : 35 + 1 = 36) (v := 0) (by decide) ?_
        exact r_iret hC rfl h dX7_safe_36
      · replace h := if_f h q
        refine r_iconst hC dX7_safe_31 (rfl : 31 + 1 = 32) (v := 1) (by decide) ?_
        refine r_goto hC dX7_safe_32 (tgt := 36) (by decide) ?_
        exact r_iret hC rfl h dX7_safe_36
    · replace h := if_t h q
      refine r_iconst hC dX7_safe_20 (rfl : 20 + 1 = 21) (v := -1) (by decide) ?_
      exact r_iret hC rfl h dX7_safe_21
set_option maxHeartbeats 1000000 in
set_option maxRecDepth 100000 in
theorem mX7_made {G : Gx} {b k : Nat} {l : Launch} (hS : Sok YC G)  (hk : 6 ≤ k) (x1 : Int32) (x2 : Int32) (x3 : Int32) (σ : Sg) (Q : Int32 → Sg → Prop) (h : wX7_made  x1 x2 x3 σ Q) : Mi YC G b l yX7_made cX7_made 6 .int k [.ref (G.1 0), .int x1, .int x2, .int x3] σ Q := by
  refine enter hS (by decide +kernel) (Nat.le_of_ble_eq_true rfl) (lv := [(0, .ref (G.1 0)), (1, .int x1), (2, .int x2), (3, .int x3)]) rfl (fun K hl hC => ?_)
  subst hl
  unfold wX7_made at h
  show V YC G K (Zi YC G K Q) 6 σ 0 [(0, .ref (G.1 0)), (1, .int x1), (2, .int x2), (3, .int x3)] []
  refine r_aload_n hC 0 dX7_made_0 (rfl : 0 + 1 = 1) rfl rfl ?_
  refine r_iload_n hC 1 dX7_made_1 (rfl : 1 + 1 = 2) rfl rfl ?_
  refine r_callVq hC cs_X7_160 rfl (by omega) (mX7_makerAt hC.2.2.2.2.2.2.2.2.1 (k := k - 1) (by omega) x1 σ _ h) rfl rfl (Nat.le_of_ble_eq_true rfl) dX7_made_2 (rfl : 2 + 3 = 5) (fun o_2 σ_1 h => ?_)
  refine r_astoreQ hC dX7_made_5 (rfl : 5 + 2 = 7) (by decide) (lv2 := [(4, rv G o_2), (0, .ref (G.1 0)), (1, .int x1), (2, .int x2), (3, .int x3)]) rfl ?_
  refine r_aload_n hC 1 dX7_made_7 (rfl : 7 + 1 = 8) rfl rfl ?_
  refine r_iload_n hC 3 dX7_made_8 (rfl : 8 + 1 = 9) rfl rfl ?_
  refine r_callVq hC cs_X7_96 rfl (by omega) (mX7_programAt hC.2.2.2.2.2.2.2.2.1 (k := k - 1) (by omega) x2 σ_1 _ h) rfl rfl (Nat.le_of_ble_eq_true rfl) dX7_made_9 (rfl : 9 + 3 = 12) (fun o_4 σ_3 h => ?_)
  refine r_astoreQ hC dX7_made_12 (rfl : 12 + 2 = 14) (by decide) (lv2 := [(5, rv G o_4), (4, rv G o_2), (0, .ref (G.1 0)), (1, .int x1), (2, .int x2), (3, .int x3)]) (by cases o_2 <;> rfl) ?_
  refine r_aloadQ hC 1 dX7_made_14 (rfl : 14 + 2 = 16) rfl ?_
  refine r_ifnull hC dX7_made_16 (rfl : 16 + 3 = 19) (tgt := 37) (by decide) (fun q => ?_) (fun z_5 q => ?_)
  · subst q
    replace h := h.1 rfl
    refine r_iconst hC dX7_made_37 (rfl : 37 + 1 = 38) (v := -1) (by decide) ?_
    exact r_iret hC rfl h dX7_made_38
  · subst q
    replace h := h.2 z_5 rfl
    refine r_aloadQ hC 0 dX7_made_19 (rfl : 19 + 2 = 21) rfl ?_
    refine r_ifnull hC dX7_made_21 (rfl : 21 + 3 = 24) (tgt := 37) (by decide) (fun q => ?_) (fun z_6 q => ?_)
    · subst q
      replace h := h.1 rfl
      refine r_iconst hC dX7_made_37 (rfl : 37 + 1 = 38) (v := -1) (by decide) ?_
      exact r_iret hC rfl h dX7_made_38
    · subst q
      replace h := h.2 z_6 rfl
      refine r_iload_n hC 5 dX7_made_24 (rfl : 24 + 1 = 25) rfl rfl ?_
      refine r_iconst hC dX7_made_25 (rfl : 25 + 1 = 26) (v := 0) (by decide) ?_
      refine r_aload hC 1 dX7_made_26 (rfl : 26 + 2 = 28) rfl ?_
      obtain ⟨ty_7, h⟩ := h
      refine r_geti hC z_5 2 2 fw_X7_164 ty_7 dX7_made_28 (rfl : 28 + 3 = 31) ?_
      refine r_callSi hC cs_X7_75 (by omega) (mX7_within hC.2.2.2.2.2.2.2.2.1 (k := k - 1) (by omega) x3 0 (σ_3.1 z_5 2) σ_3 _ h) rfl rfl (Nat.le_of_ble_eq_true rfl) dX7_made_31 (rfl : 31 + 3 = 34) (fun r_9 σ_8 h => ?_)
      refine r_if_ne hC dX7_made_34 (rfl : 34 + 3 = 37) (tgt := 39) (by decide) (fun q => ?_) (fun q => ?_)
      · replace h := if_f h q
        refine r_aload_n hC 2 dX7_made_39 (rfl : 39 + 1 = 40) rfl rfl ?_
        refine r_getr hC 0 6 4 16 (o := 16) fw_X7_38 rfl rfl dX7_made_40 (rfl : 40 + 3 = 43) ?_
        refine r_aload hC 1 dX7_made_43 (rfl : 43 + 2 = 45) rfl ?_
        refine r_aload hC 0 dX7_made_45 (rfl : 45 + 2 = 47) rfl ?_
        refine r_iload_n hC 5 dX7_made_47 (rfl : 47 + 1 = 48) rfl rfl ?_
        refine r_callVi hC cs_X7_177 rfl (by omega) (mX6_make hC.2.2.2.2.2.2.2.2.1 (k := k - 1) (by omega) z_5 z_6 x3 σ_8 _ h) rfl rfl (Nat.le_of_ble_eq_true rfl) dX7_made_48 (rfl : 48 + 3 = 51) (fun r_11 σ_10 h => ?_)
        refine r_pop hC dX7_made_51 (rfl : 51 + 1 = 52) rfl ?_
        refine r_aload_n hC 2 dX7_made_52 (rfl : 52 + 1 = 53) rfl rfl ?_
        refine r_getr hC 0 6 7 41 (o := 41) fw_X7_53 rfl rfl dX7_made_53 (rfl : 53 + 3 = 56) ?_
        refine r_aload_n hC 2 dX7_made_56 (rfl : 56 + 1 = 57) rfl rfl ?_
        refine r_getr hC 0 6 4 16 (o := 16) fw_X7_38 rfl rfl dX7_made_57 (rfl : 57 + 3 = 60) ?_
        refine r_getd hC 16 5 2 fw_X7_181 rfl dX7_made_60 (rfl : 60 + 3 = 63) ?_
        refine r_callVv hC cs_X7_122 rfl (by omega) (mX5_become hC.2.2.2.2.2.2.2.2.1 (k := k - 1) (by omega) 41 (σ_10.2.2 16 2) σ_10 _ h) rfl rfl (Nat.le_of_ble_eq_true rfl) dX7_made_63 (rfl : 63 + 3 = 66) (fun  σ_12 h => ?_)
        refine r_aload_n hC 2 dX7_made_66 (rfl : 66 + 1 = 67) rfl rfl ?_
        refine r_getr hC 0 6 7 41 (o := 41) fw_X7_53 rfl rfl dX7_made_67 (rfl : 67 + 3 = 70) ?_
        refine r_geti hC 41 4 3 fw_X7_93 rfl dX7_made_70 (rfl : 70 + 3 = 73) ?_
        exact r_iret hC rfl h dX7_made_73
      · replace h := if_t h q
        refine r_iconst hC dX7_made_37 (rfl : 37 + 1 = 38) (v := -1) (by decide) ?_
        exact r_iret hC rfl h dX7_made_38
set_option maxHeartbeats 1000000 in
set_option maxRecDepth 100000 in
theorem mX7_fires {G : Gx} {b k : Nat} {l : Launch} (hS : Sok YC G)  (hk : 7 ≤ k) (x1 : Int32) (x2 : Int32) (x3 : Int32) (σ : Sg) (Q : Int32 → Sg → Prop) (h : wX7_fires  x1 x2 x3 σ Q) : Mi YC G b l yX7_fires cX7_fires 6 .int k [.ref (G.1 0), .int x1, .int x2, .int x3] σ Q := by
  refine enter hS (by decide +kernel) (Nat.le_of_ble_eq_true rfl) (lv := [(0, .ref (G.1 0)), (1, .int x1), (2, .int x2), (3, .int x3)]) rfl (fun K hl hC => ?_)
  subst hl
  unfold wX7_fires at h
  show V YC G K (Zi YC G K Q) 6 σ 0 [(0, .ref (G.1 0)), (1, .int x1), (2, .int x2), (3, .int x3)] []
  refine r_aload_n hC 0 dX7_fires_0 (rfl : 0 + 1 = 1) rfl rfl ?_
  refine r_iload_n hC 1 dX7_fires_1 (rfl : 1 + 1 = 2) rfl rfl ?_
  refine r_callVq hC cs_X7_160 rfl (by omega) (mX7_makerAt hC.2.2.2.2.2.2.2.2.1 (k := k - 1) (by omega) x1 σ _ h) rfl rfl (Nat.le_of_ble_eq_true rfl) dX7_fires_2 (rfl : 2 + 3 = 5) (fun o_2 σ_1 h => ?_)
  refine r_astoreQ hC dX7_fires_5 (rfl : 5 + 2 = 7) (by decide) (lv2 := [(4, rv G o_2), (0, .ref (G.1 0)), (1, .int x1), (2, .int x2), (3, .int x3)]) rfl ?_
  refine r_aload_n hC 1 dX7_fires_7 (rfl : 7 + 1 = 8) rfl rfl ?_
  refine r_iload_n hC 3 dX7_fires_8 (rfl : 8 + 1 = 9) rfl rfl ?_
  refine r_callVq hC cs_X7_96 rfl (by omega) (mX7_programAt hC.2.2.2.2.2.2.2.2.1 (k := k - 1) (by omega) x2 σ_1 _ h) rfl rfl (Nat.le_of_ble_eq_true rfl) dX7_fires_9 (rfl : 9 + 3 = 12) (fun o_4 σ_3 h => ?_)
  refine r_astoreQ hC dX7_fires_12 (rfl : 12 + 2 = 14) (by decide) (lv2 := [(5, rv G o_4), (4, rv G o_2), (0, .ref (G.1 0)), (1, .int x1), (2, .int x2), (3, .int x3)]) (by cases o_2 <;> rfl) ?_
  refine r_aloadQ hC 1 dX7_fires_14 (rfl : 14 + 2 = 16) rfl ?_
  refine r_ifnull hC dX7_fires_16 (rfl : 16 + 3 = 19) (tgt := 33) (by decide) (fun q => ?_) (fun z_5 q => ?_)
  · subst q
    replace h := h.1 rfl
    refine r_iconst hC dX7_fires_33 (rfl : 33 + 1 = 34) (v := -1) (by decide) ?_
    exact r_iret hC rfl h dX7_fires_34
  · subst q
    replace h := h.2 z_5 rfl
    refine r_aloadQ hC 0 dX7_fires_19 (rfl : 19 + 2 = 21) rfl ?_
    refine r_ifnull hC dX7_fires_21 (rfl : 21 + 3 = 24) (tgt := 33) (by decide) (fun q => ?_) (fun z_6 q => ?_)
    · subst q
      replace h := h.1 rfl
      refine r_iconst hC dX7_fires_33 (rfl : 33 + 1 = 34) (v := -1) (by decide) ?_
      exact r_iret hC rfl h dX7_fires_34
    · subst q
      replace h := h.2 z_6 rfl
      refine r_aload hC 1 dX7_fires_24 (rfl : 24 + 2 = 26) rfl ?_
      refine r_iload_n hC 5 dX7_fires_26 (rfl : 26 + 1 = 27) rfl rfl ?_
      obtain ⟨ty_7, h⟩ := h
      refine r_callVi hC cs_X7_170 ty_7 (by omega) (mX2_has hC.2.2.2.2.2.2.2.2.1 (k := k - 1) (by omega) z_5 x3 σ_3 _ h) rfl rfl (Nat.le_of_ble_eq_true rfl) dX7_fires_27 (rfl : 27 + 3 = 30) (fun r_9 σ_8 h => ?_)
      refine r_if_ne hC dX7_fires_30 (rfl : 30 + 3 = 33) (tgt := 35) (by decide) (fun q => ?_) (fun q => ?_)
      · replace h := if_f h q
        refine r_aload_n hC 2 dX7_fires_35 (rfl : 35 + 1 = 36) rfl rfl ?_
        refine r_getr hC 0 6 4 16 (o := 16) fw_X7_38 rfl rfl dX7_fires_36 (rfl : 36 + 3 = 39) ?_
        refine r_aload hC 1 dX7_fires_39 (rfl : 39 + 2 = 41) rfl ?_
        refine r_aload hC 0 dX7_fires_41 (rfl : 41 + 2 = 43) rfl ?_
        refine r_iload_n hC 5 dX7_fires_43 (rfl : 43 + 1 = 44) rfl rfl ?_
        refine r_callVi hC cs_X7_189 rfl (by omega) (mX6_firings hC.2.2.2.2.2.2.2.2.1 (k := k - 1) (by omega) z_5 z_6 x3 σ_8 _ h) rfl rfl (Nat.le_of_ble_eq_true rfl) dX7_fires_44 (rfl : 44 + 3 = 47) (fun r_11 σ_10 h => ?_)
        exact r_iret hC rfl h dX7_fires_47
      · replace h := if_t h q
        refine r_iconst hC dX7_fires_33 (rfl : 33 + 1 = 34) (v := -1) (by decide) ?_
        exact r_iret hC rfl h dX7_fires_34
set_option maxHeartbeats 1000000 in
set_option maxRecDepth 100000 in
theorem sX7_never_59 {G : Gx} {b k : Nat} {K : Kx} {l : Launch} (hl : K.2.1 = l) (hC : Cx YC G b K cX7_never RX7 6 (some .int) k)  (hk : 6 ≤ k) (K24 : Nat → Int32 → Int32 → Sg → Prop) (Q : Int32 → Sg → Prop) (h24 : ∀ (q2 : Nat) (x3 : Int32) (x4 : Int32) (σ : Sg), K24 q2 x3 x4 σ → V YC G K (Zi YC G K Q) 6 σ 24 [(0, .ref (G.1 0)), (2, .ref (G.1 q2)), (3, .int x3), (4, .int x4)] []) (q2 : Nat) (x3 : Int32) (x4 : Int32) (σ : Sg) (h : wX7_never_59 K24 q2 x3 x4 σ Q) : V YC G K (Zi YC G K Q) 6 σ 59 [(0, .ref (G.1 0)), (2, .ref (G.1 q2)), (3, .int x3), (4, .int x4)] [] := by
  subst hl
  unfold wX7_never_59 at h
  obtain ⟨x4_1, e_2, h⟩ := lt_nm h
  refine r_iinc hC (j := 3) dX7_never_59 (rfl : 59 + 3 = 62) rfl (zz := 1) (by decide) e_2 (by decide) (lv2 := [(4, .int x4_1), (0, .ref (G.1 0)), (2, .ref (G.1 q2)), (3, .int x3)]) rfl ?_
  refine r_goto hC dX7_never_62 (tgt := 24) (by decide) ?_
  exact (h24 q2 x3 x4_1 σ h).sub [1, 2, 3, 0] rfl
set_option maxHeartbeats 1000000 in
set_option maxRecDepth 100000 in
theorem sX7_never_24 {G : Gx} {b k : Nat} {K : Kx} {l : Launch} (hl : K.2.1 = l) (hC : Cx YC G b K cX7_never RX7 6 (some .int) k)  (hk : 6 ≤ k)  (Q : Int32 → Sg → Prop)  : ∀ (n : Nat) (q2 : Nat) (x3 : Int32) (x4 : Int32) (σ : Sg), wX7_never_24  Q n q2 x3 x4 σ → V YC G K (Zi YC G K Q) 6 σ 24 [(0, .ref (G.1 0)), (2, .ref (G.1 q2)), (3, .int x3), (4, .int x4)] [] := by
  subst hl
  intro n
  induction n with
  | zero =>
    intro q2 x3 x4 σ h
    exact h.elim
  | succ n ih =>
    intro q2 x3 x4 σ h
    have h : wX7_never_24_b  (wX7_never_24  Q n) q2 x3 x4 σ Q := h
    unfold wX7_never_24_b at h
    refine r_iload hC 3 dX7_never_24 (rfl : 24 + 2 = 26) rfl ?_
    refine r_bipush hC dX7_never_26 (rfl : 26 + 2 = 28) (v := 20) (by decide) ?_
    refine r_icmp_ge hC dX7_never_28 (rfl : 28 + 3 = 31) (tgt := 65) (by decide) (fun q => ?_) (fun q => ?_)
    · replace h := if_t h q
      refine r_iload_n hC 2 dX7_never_65 (rfl : 65 + 1 = 66) rfl rfl ?_
      exact r_iret hC rfl h dX7_never_66
    · replace h := if_f h q
      refine r_aload_n hC 0 dX7_never_31 (rfl : 31 + 1 = 32) rfl rfl ?_
      refine r_iload hC 3 dX7_never_32 (rfl : 32 + 2 = 34) rfl ?_
      refine r_callVq hC cs_X7_96 rfl (by omega) (mX7_programAt hC.2.2.2.2.2.2.2.2.1 (k := k - 1) (by omega) x4 σ _ h) rfl rfl (Nat.le_of_ble_eq_true rfl) dX7_never_34 (rfl : 34 + 3 = 37) (fun o_4 σ_3 h => ?_)
      refine r_astoreQ hC dX7_never_37 (rfl : 37 + 2 = 39) (by decide) (lv2 := [(5, rv G o_4), (0, .ref (G.1 0)), (2, .ref (G.1 q2)), (3, .int x3), (4, .int x4)]) rfl ?_
      refine r_aloadQ hC 0 dX7_never_39 (rfl : 39 + 2 = 41) rfl ?_
      refine r_ifnull hC dX7_never_41 (rfl : 41 + 3 = 44) (tgt := 59) (by decide) (fun q => ?_) (fun z_5 q => ?_)
      · subst q
        replace h := h.1 rfl
        exact (sX7_never_59 rfl hC hk (wX7_never_24  Q n) Q ih q2 x3 x4 σ_3 h).sub [1, 2, 3, 4] rfl
      · subst q
        replace h := h.2 z_5 rfl
        refine r_iload_n hC 3 dX7_never_44 (rfl : 44 + 1 = 45) rfl rfl ?_
        refine r_aload_n hC 1 dX7_never_45 (rfl : 45 + 1 = 46) rfl rfl ?_
        refine r_getr hC 0 6 4 16 (o := 16) fw_X7_38 rfl rfl dX7_never_46 (rfl : 46 + 3 = 49) ?_
        refine r_aload_n hC 2 dX7_never_49 (rfl : 49 + 1 = 50) rfl rfl ?_
        refine r_aload hC 0 dX7_never_50 (rfl : 50 + 2 = 52) rfl ?_
        refine r_callVi hC cs_X7_192 rfl (by omega) (mX6_firingTurns hC.2.2.2.2.2.2.2.2.1 (k := k - 1) (by omega) q2 z_5 σ_3 _ h) rfl rfl (Nat.le_of_ble_eq_true rfl) dX7_never_52 (rfl : 52 + 3 = 55) (fun r_7 σ_6 h => ?_)
        refine r_iconst hC dX7_never_55 (rfl : 55 + 1 = 56) (v := -1) (by decide) ?_
        refine r_ixor hC dX7_never_56 (rfl : 56 + 1 = 57) ?_
        refine r_iand hC dX7_never_57 (rfl : 57 + 1 = 58) ?_
        obtain ⟨x3_8, e_9, h⟩ := lt_nm h
        refine r_istore_n hC dX7_never_58 (rfl : 58 + 1 = 59) rfl (by decide) e_9 (lv2 := [(3, .int x3_8), (5, .ref (G.1 z_5)), (0, .ref (G.1 0)), (2, .ref (G.1 q2)), (4, .int x4)]) rfl ?_
        exact (sX7_never_59 rfl hC hk (wX7_never_24  Q n) Q ih q2 x3_8 x4 σ_6 h).sub [2, 3, 0, 4] rfl
set_option maxHeartbeats 1000000 in
set_option maxRecDepth 100000 in
theorem mX7_never {G : Gx} {b k : Nat} {l : Launch} (hS : Sok YC G)  (hk : 6 ≤ k) (x1 : Int32) (σ : Sg) (Q : Int32 → Sg → Prop) (h : wX7_never  x1 σ Q) : Mi YC G b l yX7_never cX7_never 6 .int k [.ref (G.1 0), .int x1] σ Q := by
  refine enter hS (by decide +kernel) (Nat.le_of_ble_eq_true rfl) (lv := [(0, .ref (G.1 0)), (1, .int x1)]) rfl (fun K hl hC => ?_)
  subst hl
  unfold wX7_never at h
  show V YC G K (Zi YC G K Q) 6 σ 0 [(0, .ref (G.1 0)), (1, .int x1)] []
  refine r_aload_n hC 0 dX7_never_0 (rfl : 0 + 1 = 1) rfl rfl ?_
  refine r_iload_n hC 1 dX7_never_1 (rfl : 1 + 1 = 2) rfl rfl ?_
  refine r_callVq hC cs_X7_160 rfl (by omega) (mX7_makerAt hC.2.2.2.2.2.2.2.2.1 (k := k - 1) (by omega) x1 σ _ h) rfl rfl (Nat.le_of_ble_eq_true rfl) dX7_never_2 (rfl : 2 + 3 = 5) (fun o_11 σ_10 h => ?_)
  refine r_astore_nQ hC dX7_never_5 (rfl : 5 + 1 = 6) rfl (by decide) (lv2 := [(2, rv G o_11), (0, .ref (G.1 0)), (1, .int x1)]) rfl ?_
  refine r_aload_nQ hC 0 dX7_never_6 (rfl : 6 + 1 = 7) rfl rfl ?_
  refine r_ifnonnull hC dX7_never_7 (rfl : 7 + 3 = 10) (tgt := 12) (by decide) (fun z_12 q => ?_) (fun q => ?_)
  · subst q
    replace h := h.2 z_12 rfl
    refine r_iconst hC dX7_never_12 (rfl : 12 + 1 = 13) (v := 1) (by decide) ?_
    refine r_aload_n hC 0 dX7_never_13 (rfl : 13 + 1 = 14) rfl rfl ?_
    obtain ⟨ty_13, h⟩ := h
    refine r_geti hC z_12 2 2 fw_X7_164 ty_13 dX7_never_14 (rfl : 14 + 3 = 17) ?_
    refine r_ishl hC dX7_never_17 (rfl : 17 + 1 = 18) ?_
    refine r_iconst hC dX7_never_18 (rfl : 18 + 1 = 19) (v := 1) (by decide) ?_
    refine r_isub hC dX7_never_19 (rfl : 19 + 1 = 20) ?_
    obtain ⟨x3_14, e_15, h⟩ := lt_nm h
    refine r_istore_n hC dX7_never_20 (rfl : 20 + 1 = 21) rfl (by decide) e_15 (lv2 := [(3, .int x3_14), (2, .ref (G.1 z_12)), (0, .ref (G.1 0)), (1, .int x1)]) rfl ?_
    refine r_iconst hC dX7_never_21 (rfl : 21 + 1 = 22) (v := 0) (by decide) ?_
    refine r_istore hC dX7_never_22 (rfl : 22 + 2 = 24) (by decide) rfl (lv2 := [(4, .int 0), (3, .int x3_14), (2, .ref (G.1 z_12)), (0, .ref (G.1 0)), (1, .int x1)]) rfl ?_
    obtain ⟨nn, h⟩ := h
    exact (sX7_never_24 rfl hC hk  Q  nn z_12 x3_14 0 σ_10 h).sub [3, 2, 1, 0] rfl
  · subst q
    replace h := h.1 rfl
    refine r_iconst hC dX7_never_10 (rfl : 10 + 1 = 11) (v := -1) (by decide) ?_
    exact r_iret hC rfl h dX7_never_11
set_option maxHeartbeats 1000000 in
set_option maxRecDepth 100000 in
theorem sX7_least_57 {G : Gx} {b k : Nat} {K : Kx} {l : Launch} (hl : K.2.1 = l) (hC : Cx YC G b K cX7_least RX7 10 (some .long) k)  (hk : 7 ≤ k) (K37 : Int32 → Int32 → Nat → Int32 → Sg → Prop) (Q : Int64 → Sg → Prop) (h37 : ∀ (x2 : Int32) (x3 : Int32) (q4 : Nat) (x5 : Int32) (σ : Sg), K37 x2 x3 q4 x5 σ → V YC G K (Zl YC G K Q) 10 σ 37 [(0, .ref (G.1 0)), (2, .int x2), (3, .int x3), (4, .ref (G.1 q4)), (5, .int x5)] []) : ∀ (n : Nat) (x2 : Int32) (x3 : Int32) (q4 : Nat) (x5 : Int32) (x6 : Int64) (x8 : Int64) (σ : Sg), wX7_least_57 K37 Q n x2 x3 q4 x5 x6 x8 σ → V YC G K (Zl YC G K Q) 10 σ 57 [(0, .ref (G.1 0)), (2, .int x2), (3, .int x3), (4, .ref (G.1 q4)), (5, .int x5), (6, .long x6), (8, .long x8)] [] := by
  subst hl
  intro n
  induction n with
  | zero =>
    intro x2 x3 q4 x5 x6 x8 σ h
    exact h.elim
  | succ n ih =>
    intro x2 x3 q4 x5 x6 x8 σ h
    have h : wX7_least_57_b K37 (wX7_least_57 K37 Q n) x2 x3 q4 x5 x6 x8 σ Q := h
    unfold wX7_least_57_b at h
    refine r_lload hC 6 dX7_least_57 (rfl : 57 + 2 = 59) rfl ?_
    refine r_lload hC 5 dX7_least_59 (rfl : 59 + 2 = 61) rfl ?_
    refine r_lcmp hC dX7_least_61 (rfl : 61 + 1 = 62) ?_
    refine r_if_ge hC dX7_least_62 (rfl : 62 + 3 = 65) (tgt := 117) (by decide) (fun q => ?_) (fun q => ?_)
    · replace h := if_t h ((lg_cmp_ge _ _).1 q)
      obtain ⟨x5_1, e_2, h⟩ := lt_nm h
      refine r_iinc hC (j := 4) dX7_least_117 (rfl : 117 + 3 = 120) rfl (zz := 1) (by decide) e_2 (by decide) (lv2 := [(5, .int x5_1), (0, .ref (G.1 0)), (2, .int x2), (3, .int x3), (4, .ref (G.1 q4)), (6, .long x6), (8, .long x8)]) rfl ?_
      refine r_goto hC dX7_least_120 (tgt := 37) (by decide) ?_
      exact (h37 x2 x3 q4 x5_1 σ h).sub [1, 2, 3, 4, 0] rfl
    · replace h := if_f h (fun z => q ((lg_cmp_ge _ _).2 z))
      refine r_aload_n hC 0 dX7_least_65 (rfl : 65 + 1 = 66) rfl rfl ?_
      refine r_getr hC 0 6 0 1 (o := 1) fw_X7_10 rfl rfl dX7_least_66 (rfl : 66 + 3 = 69) ?_
      refine r_aload_n hC 0 dX7_least_69 (rfl : 69 + 1 = 70) rfl rfl ?_
      refine r_getr hC 0 6 8 45 (o := 45) fw_X7_57 rfl rfl dX7_least_70 (rfl : 70 + 3 = 73) ?_
      refine r_iload hC 4 dX7_least_73 (rfl : 73 + 2 = 75) rfl ?_
      refine r_lload hC 6 dX7_least_75 (rfl : 75 + 2 = 77) rfl ?_
      refine r_callVv hC cs_X7_89 rfl (by omega) (mX1_unfold hC.2.2.2.2.2.2.2.2.1 (k := k - 1) (by omega) 45 x5 x8 σ _ h) rfl rfl (Nat.le_of_ble_eq_true rfl) dX7_least_77 (rfl : 77 + 3 = 80) (fun  σ_3 h => ?_)
      refine r_aload_n hC 0 dX7_least_80 (rfl : 80 + 1 = 81) rfl rfl ?_
      refine r_getr hC 0 6 4 16 (o := 16) fw_X7_38 rfl rfl dX7_least_81 (rfl : 81 + 3 = 84) ?_
      refine r_aload hC 3 dX7_least_84 (rfl : 84 + 2 = 86) rfl ?_
      refine r_aload_n hC 0 dX7_least_86 (rfl : 86 + 1 = 87) rfl rfl ?_
      refine r_getr hC 0 6 8 45 (o := 45) fw_X7_57 rfl rfl dX7_least_87 (rfl : 87 + 3 = 90) ?_
      refine r_iload_n hC 1 dX7_least_90 (rfl : 90 + 1 = 91) rfl rfl ?_
      refine r_callVi hC cs_X7_189 rfl (by omega) (mX6_firings hC.2.2.2.2.2.2.2.2.1 (k := k - 1) (by omega) q4 45 x2 σ_3 _ h) rfl rfl (Nat.le_of_ble_eq_true rfl) dX7_least_91 (rfl : 91 + 3 = 94) (fun r_5 σ_4 h => ?_)
      refine r_if_le hC dX7_least_94 (rfl : 94 + 3 = 97) (tgt := 108) (by decide) (fun q => ?_) (fun q => ?_)
      · replace h := if_t h q
        refine r_lload hC 6 dX7_least_108 (rfl : 108 + 2 = 110) rfl ?_
        refine r_lconst hC dX7_least_110 (rfl : 110 + 1 = 111) (v := 1) (by decide) ?_
        refine r_ladd hC dX7_least_111 (rfl : 111 + 1 = 112) ?_
        obtain ⟨x8_6, e_7, h⟩ := lt_nm h
        refine r_lstore hC dX7_least_112 (rfl : 112 + 2 = 114) (by decide) e_7 (lv2 := [(8, .long x8_6), (0, .ref (G.1 0)), (2, .int x2), (3, .int x3), (4, .ref (G.1 q4)), (5, .int x5), (6, .long x6)]) rfl ?_
        refine r_goto hC dX7_least_114 (tgt := 57) (by decide) ?_
        exact (ih x2 x3 q4 x5 x6 x8_6 σ_4 h).sub [1, 2, 3, 4, 5, 6, 0] rfl
      · replace h := if_f h q
        refine r_ldc2 hC dX7_least_97 (rfl : 97 + 3 = 100) wd_737 ?_
        refine r_lload hC 6 dX7_least_100 (rfl : 100 + 2 = 102) rfl ?_
        refine r_lmul hC dX7_least_102 (rfl : 102 + 1 = 103) ?_
        refine r_iload hC 4 dX7_least_103 (rfl : 103 + 2 = 105) rfl ?_
        refine r_i2l hC dX7_least_105 (rfl : 105 + 1 = 106) ?_
        refine r_ladd hC dX7_least_106 (rfl : 106 + 1 = 107) ?_
        exact r_lret hC rfl h dX7_least_107
set_option maxHeartbeats 1000000 in
set_option maxRecDepth 100000 in
theorem sX7_least_37 {G : Gx} {b k : Nat} {K : Kx} {l : Launch} (hl : K.2.1 = l) (hC : Cx YC G b K cX7_least RX7 10 (some .long) k)  (hk : 7 ≤ k)  (Q : Int64 → Sg → Prop)  : ∀ (n : Nat) (x2 : Int32) (x3 : Int32) (q4 : Nat) (x5 : Int32) (σ : Sg), wX7_least_37  Q n x2 x3 q4 x5 σ → V YC G K (Zl YC G K Q) 10 σ 37 [(0, .ref (G.1 0)), (2, .int x2), (3, .int x3), (4, .ref (G.1 q4)), (5, .int x5)] [] := by
  subst hl
  intro n
  induction n with
  | zero =>
    intro x2 x3 q4 x5 σ h
    exact h.elim
  | succ n ih =>
    intro x2 x3 q4 x5 σ h
    have h : wX7_least_37_b  (wX7_least_37  Q n) x2 x3 q4 x5 σ Q := h
    unfold wX7_least_37_b at h
    refine r_iload hC 4 dX7_least_37 (rfl : 37 + 2 = 39) rfl ?_
    refine r_iload_n hC 2 dX7_least_39 (rfl : 39 + 1 = 40) rfl rfl ?_
    refine r_icmp_gt hC dX7_least_40 (rfl : 40 + 3 = 43) (tgt := 123) (by decide) (fun q => ?_) (fun q => ?_)
    · replace h := if_t h q
      refine r_ldc2 hC dX7_least_123 (rfl : 123 + 3 = 126) wd_738 ?_
      exact r_lret hC rfl h dX7_least_126
    · replace h := if_f h q
      refine r_aload_n hC 0 dX7_least_43 (rfl : 43 + 1 = 44) rfl rfl ?_
      refine r_getr hC 0 6 0 1 (o := 1) fw_X7_10 rfl rfl dX7_least_44 (rfl : 44 + 3 = 47) ?_
      refine r_iload hC 4 dX7_least_47 (rfl : 47 + 2 = 49) rfl ?_
      refine r_callVl hC cs_X7_79 rfl (by omega) (mX1_howMany hC.2.2.2.2.2.2.2.2.1 (k := k - 1) (by omega) x5 σ _ h) rfl rfl (Nat.le_of_ble_eq_true rfl) dX7_least_49 (rfl : 49 + 3 = 52) (fun r_9 σ_8 h => ?_)
      refine r_lstore hC dX7_least_52 (rfl : 52 + 2 = 54) (by decide) rfl (lv2 := [(6, .long r_9), (0, .ref (G.1 0)), (2, .int x2), (3, .int x3), (4, .ref (G.1 q4)), (5, .int x5)]) rfl ?_
      refine r_lconst hC dX7_least_54 (rfl : 54 + 1 = 55) (v := 0) (by decide) ?_
      refine r_lstore hC dX7_least_55 (rfl : 55 + 2 = 57) (by decide) rfl (lv2 := [(8, .long 0), (6, .long r_9), (0, .ref (G.1 0)), (2, .int x2), (3, .int x3), (4, .ref (G.1 q4)), (5, .int x5)]) rfl ?_
      obtain ⟨nn, h⟩ := h
      exact (sX7_least_57 rfl hC hk (wX7_least_37  Q n) Q ih nn x2 x3 q4 x5 r_9 0 σ_8 h).sub [2, 3, 4, 5, 6, 1, 0] rfl
set_option maxHeartbeats 1000000 in
set_option maxRecDepth 100000 in
theorem mX7_least {G : Gx} {b k : Nat} {l : Launch} (hS : Sok YC G)  (hk : 7 ≤ k) (x1 : Int32) (x2 : Int32) (x3 : Int32) (σ : Sg) (Q : Int64 → Sg → Prop) (h : wX7_least  x1 x2 x3 σ Q) : Ml YC G b l yX7_least cX7_least 10 k [.ref (G.1 0), .int x1, .int x2, .int x3] σ Q := by
  refine enter hS (by decide +kernel) (Nat.le_of_ble_eq_true rfl) (lv := [(0, .ref (G.1 0)), (1, .int x1), (2, .int x2), (3, .int x3)]) rfl (fun K hl hC => ?_)
  subst hl
  unfold wX7_least at h
  show V YC G K (Zl YC G K Q) 10 σ 0 [(0, .ref (G.1 0)), (1, .int x1), (2, .int x2), (3, .int x3)] []
  refine r_aload_n hC 0 dX7_least_0 (rfl : 0 + 1 = 1) rfl rfl ?_
  refine r_iload_n hC 1 dX7_least_1 (rfl : 1 + 1 = 2) rfl rfl ?_
  refine r_callVq hC cs_X7_160 rfl (by omega) (mX7_makerAt hC.2.2.2.2.2.2.2.2.1 (k := k - 1) (by omega) x1 σ _ h) rfl rfl (Nat.le_of_ble_eq_true rfl) dX7_least_2 (rfl : 2 + 3 = 5) (fun o_11 σ_10 h => ?_)
  refine r_astoreQ hC dX7_least_5 (rfl : 5 + 2 = 7) (by decide) (lv2 := [(4, rv G o_11), (0, .ref (G.1 0)), (1, .int x1), (2, .int x2), (3, .int x3)]) rfl ?_
  refine r_aloadQ hC 0 dX7_least_7 (rfl : 7 + 2 = 9) rfl ?_
  refine r_ifnull hC dX7_least_9 (rfl : 9 + 3 = 12) (tgt := 30) (by decide) (fun q => ?_) (fun z_12 q => ?_)
  · subst q
    replace h := h.1 rfl
    refine r_ldc2 hC dX7_least_30 (rfl : 30 + 3 = 33) wd_315 ?_
    exact r_lret hC rfl h dX7_least_33
  · subst q
    replace h := h.2 z_12 rfl
    refine r_aload hC 0 dX7_least_12 (rfl : 12 + 2 = 14) rfl ?_
    refine r_iload_n hC 3 dX7_least_14 (rfl : 14 + 1 = 15) rfl rfl ?_
    obtain ⟨ty_13, h⟩ := h
    refine r_callVi hC cs_X7_170 ty_13 (by omega) (mX2_has hC.2.2.2.2.2.2.2.2.1 (k := k - 1) (by omega) z_12 x2 σ_10 _ h) rfl rfl (Nat.le_of_ble_eq_true rfl) dX7_least_15 (rfl : 15 + 3 = 18) (fun r_15 σ_14 h => ?_)
    refine r_if_eq hC dX7_least_18 (rfl : 18 + 3 = 21) (tgt := 30) (by decide) (fun q => ?_) (fun q => ?_)
    · replace h := if_t h q
      refine r_ldc2 hC dX7_least_30 (rfl : 30 + 3 = 33) wd_315 ?_
      exact r_lret hC rfl h dX7_least_33
    · replace h := if_f h q
      refine r_iload_n hC 4 dX7_least_21 (rfl : 21 + 1 = 22) rfl rfl ?_
      refine r_iconst hC dX7_least_22 (rfl : 22 + 1 = 23) (v := 1) (by decide) ?_
      refine r_iconst hC dX7_least_23 (rfl : 23 + 1 = 24) (v := 5) (by decide) ?_
      refine r_callSi hC cs_X7_75 (by omega) (mX7_within hC.2.2.2.2.2.2.2.2.1 (k := k - 1) (by omega) x3 1 5 σ_14 _ h) rfl rfl (Nat.le_of_ble_eq_true rfl) dX7_least_24 (rfl : 24 + 3 = 27) (fun r_17 σ_16 h => ?_)
      refine r_if_ne hC dX7_least_27 (rfl : 27 + 3 = 30) (tgt := 34) (by decide) (fun q => ?_) (fun q => ?_)
      · replace h := if_f h q
        refine r_iconst hC dX7_least_34 (rfl : 34 + 1 = 35) (v := 1) (by decide) ?_
        refine r_istore hC dX7_least_35 (rfl : 35 + 2 = 37) (by decide) rfl (lv2 := [(5, .int 1), (4, .ref (G.1 z_12)), (0, .ref (G.1 0)), (1, .int x1), (2, .int x2), (3, .int x3)]) rfl ?_
        obtain ⟨nn, h⟩ := h
        exact (sX7_least_37 rfl hC hk  Q  nn x2 x3 z_12 1 σ_16 h).sub [2, 4, 5, 1, 0] rfl
      · replace h := if_t h q
        refine r_ldc2 hC dX7_least_30 (rfl : 30 + 3 = 33) wd_315 ?_
        exact r_lret hC rfl h dX7_least_33
set_option maxHeartbeats 1000000 in
set_option maxRecDepth 100000 in
theorem mX7_write {G : Gx} {b k : Nat} {l : Launch} (hS : Sok YC G)  (hk : 6 ≤ k) (x1 : Int32) (x2 : Int32) (σ : Sg) (Q : Int32 → Sg → Prop) (h : wX7_write  x1 x2 σ Q) : Mi YC G b l yX7_write cX7_write 5 .boolean k [.ref (G.1 0), .int x1, .int x2] σ Q := by
  refine enter hS (by decide +kernel) (Nat.le_of_ble_eq_true rfl) (lv := [(0, .ref (G.1 0)), (1, .int x1), (2, .int x2)]) rfl (fun K hl hC => ?_)
  subst hl
  unfold wX7_write at h
  show V YC G K (Zi YC G K Q) 5 σ 0 [(0, .ref (G.1 0)), (1, .int x1), (2, .int x2)] []
  refine r_aload_n hC 0 dX7_write_0 (rfl : 0 + 1 = 1) rfl rfl ?_
  refine r_iload_n hC 1 dX7_write_1 (rfl : 1 + 1 = 2) rfl rfl ?_
  refine r_callVq hC cs_X7_160 rfl (by omega) (mX7_makerAt hC.2.2.2.2.2.2.2.2.1 (k := k - 1) (by omega) x1 σ _ h) rfl rfl (Nat.le_of_ble_eq_true rfl) dX7_write_2 (rfl : 2 + 3 = 5) (fun o_2 σ_1 h => ?_)
  refine r_astore_nQ hC dX7_write_5 (rfl : 5 + 1 = 6) rfl (by decide) (lv2 := [(3, rv G o_2), (0, .ref (G.1 0)), (1, .int x1), (2, .int x2)]) rfl ?_
  refine r_aload_n hC 1 dX7_write_6 (rfl : 6 + 1 = 7) rfl rfl ?_
  refine r_iload_n hC 3 dX7_write_7 (rfl : 7 + 1 = 8) rfl rfl ?_
  refine r_callVq hC cs_X7_96 rfl (by omega) (mX7_programAt hC.2.2.2.2.2.2.2.2.1 (k := k - 1) (by omega) x2 σ_1 _ h) rfl rfl (Nat.le_of_ble_eq_true rfl) dX7_write_8 (rfl : 8 + 3 = 11) (fun o_4 σ_3 h => ?_)
  refine r_astoreQ hC dX7_write_11 (rfl : 11 + 2 = 13) (by decide) (lv2 := [(4, rv G o_4), (3, rv G o_2), (0, .ref (G.1 0)), (1, .int x1), (2, .int x2)]) (by cases o_2 <;> rfl) ?_
  refine r_aload_nQ hC 1 dX7_write_13 (rfl : 13 + 1 = 14) rfl rfl ?_
  refine r_ifnull hC dX7_write_14 (rfl : 14 + 3 = 17) (tgt := 22) (by decide) (fun q => ?_) (fun z_5 q => ?_)
  · subst q
    replace h := h.1 rfl
    refine r_iconst hC dX7_write_22 (rfl : 22 + 1 = 23) (v := 0) (by decide) ?_
    exact r_zret hC rfl (by decide) h dX7_write_23
  · subst q
    replace h := h.2 z_5 rfl
    refine r_aloadQ hC 0 dX7_write_17 (rfl : 17 + 2 = 19) rfl ?_
    refine r_ifnonnull hC dX7_write_19 (rfl : 19 + 3 = 22) (tgt := 24) (by decide) (fun z_6 q => ?_) (fun q => ?_)
    · subst q
      replace h := h.2 z_6 rfl
      refine r_aload_n hC 2 dX7_write_24 (rfl : 24 + 1 = 25) rfl rfl ?_
      refine r_getr hC 0 6 4 16 (o := 16) fw_X7_38 rfl rfl dX7_write_25 (rfl : 25 + 3 = 28) ?_
      refine r_aload_n hC 1 dX7_write_28 (rfl : 28 + 1 = 29) rfl rfl ?_
      refine r_aload hC 0 dX7_write_29 (rfl : 29 + 2 = 31) rfl ?_
      refine r_aload_n hC 1 dX7_write_31 (rfl : 31 + 1 = 32) rfl rfl ?_
      obtain ⟨ty_7, h⟩ := h
      refine r_geti hC z_5 2 2 fw_X7_164 ty_7 dX7_write_32 (rfl : 32 + 3 = 35) ?_
      refine r_callVi hC cs_X7_177 rfl (by omega) (mX6_make hC.2.2.2.2.2.2.2.2.1 (k := k - 1) (by omega) z_5 z_6 (σ_3.1 z_5 2) σ_3 _ h) rfl rfl (Nat.le_of_ble_eq_true rfl) dX7_write_35 (rfl : 35 + 3 = 38) (fun r_9 σ_8 h => ?_)
      refine r_pop hC dX7_write_38 (rfl : 38 + 1 = 39) rfl ?_
      refine r_aload_n hC 2 dX7_write_39 (rfl : 39 + 1 = 40) rfl rfl ?_
      refine r_getr hC 0 6 5 27 (o := 27) fw_X7_45 rfl rfl dX7_write_40 (rfl : 40 + 3 = 43) ?_
      refine r_aload hC 0 dX7_write_43 (rfl : 43 + 2 = 45) rfl ?_
      refine r_callVv hC cs_X7_135 rfl (by omega) (mX0_write hC.2.2.2.2.2.2.2.2.1 (k := k - 1) (by omega) 27 z_6 σ_8 _ h) rfl rfl (Nat.le_of_ble_eq_true rfl) dX7_write_45 (rfl : 45 + 3 = 48) (fun  σ_10 h => ?_)
      refine r_aload_n hC 2 dX7_write_48 (rfl : 48 + 1 = 49) rfl rfl ?_
      refine r_getr hC 0 6 6 34 (o := 34) fw_X7_49 rfl rfl dX7_write_49 (rfl : 49 + 3 = 52) ?_
      refine r_aload_n hC 2 dX7_write_52 (rfl : 52 + 1 = 53) rfl rfl ?_
      refine r_getr hC 0 6 4 16 (o := 16) fw_X7_38 rfl rfl dX7_write_53 (rfl : 53 + 3 = 56) ?_
      refine r_getd hC 16 5 2 fw_X7_181 rfl dX7_write_56 (rfl : 56 + 3 = 59) ?_
      refine r_callVv hC cs_X7_135 rfl (by omega) (mX0_write hC.2.2.2.2.2.2.2.2.1 (k := k - 1) (by omega) 34 (σ_10.2.2 16 2) σ_10 _ h) rfl rfl (Nat.le_of_ble_eq_true rfl) dX7_write_59 (rfl : 59 + 3 = 62) (fun  σ_11 h => ?_)
      refine r_iconst hC dX7_write_62 (rfl : 62 + 1 = 63) (v := 1) (by decide) ?_
      exact r_zret hC rfl (by decide) h dX7_write_63
    · subst q
      replace h := h.1 rfl
      refine r_iconst hC dX7_write_22 (rfl : 22 + 1 = 23) (v := 0) (by decide) ?_
      exact r_zret hC rfl (by decide) h dX7_write_23
set_option maxHeartbeats 1000000 in
set_option maxRecDepth 100000 in
theorem mX7_isFaulty {G : Gx} {b k : Nat} {l : Launch} (hS : Sok YC G)  (hk : 6 ≤ k) (q1 : Nat) (q2 : Nat) (x3 : Int32) (σ : Sg) (Q : Int32 → Sg → Prop) (h : wX7_isFaulty  q1 q2 x3 σ Q) : Mi YC G b l yX7_isFaulty cX7_isFaulty 4 .boolean k [.ref (G.1 0), .ref (G.1 q1), .ref (G.1 q2), .int x3] σ Q := by
  refine enter hS (by decide +kernel) (Nat.le_of_ble_eq_true rfl) (lv := [(0, .ref (G.1 0)), (1, .ref (G.1 q1)), (2, .ref (G.1 q2)), (3, .int x3)]) rfl (fun K hl hC => ?_)
  subst hl
  unfold wX7_isFaulty at h
  show V YC G K (Zi YC G K Q) 4 σ 0 [(0, .ref (G.1 0)), (1, .ref (G.1 q1)), (2, .ref (G.1 q2)), (3, .int x3)] []
  refine r_aload_n hC 0 dX7_isFaulty_0 (rfl : 0 + 1 = 1) rfl rfl ?_
  refine r_getr hC 0 6 4 16 (o := 16) fw_X7_38 rfl rfl dX7_isFaulty_1 (rfl : 1 + 3 = 4) ?_
  refine r_aload_n hC 1 dX7_isFaulty_4 (rfl : 4 + 1 = 5) rfl rfl ?_
  refine r_aload_n hC 2 dX7_isFaulty_5 (rfl : 5 + 1 = 6) rfl rfl ?_
  refine r_aload_n hC 1 dX7_isFaulty_6 (rfl : 6 + 1 = 7) rfl rfl ?_
  obtain ⟨ty_1, h⟩ := h
  refine r_geti hC q1 2 2 fw_X7_164 ty_1 dX7_isFaulty_7 (rfl : 7 + 3 = 10) ?_
  refine r_callVi hC cs_X7_177 rfl (by omega) (mX6_make hC.2.2.2.2.2.2.2.2.1 (k := k - 1) (by omega) q1 q2 (σ.1 q1 2) σ _ h) rfl rfl (Nat.le_of_ble_eq_true rfl) dX7_isFaulty_10 (rfl : 10 + 3 = 13) (fun r_3 σ_2 h => ?_)
  refine r_if_le hC dX7_isFaulty_13 (rfl : 13 + 3 = 16) (tgt := 29) (by decide) (fun q => ?_) (fun q => ?_)
  · replace h := if_t h q
    refine r_iconst hC dX7_isFaulty_29 (rfl : 29 + 1 = 30) (v := 0) (by decide) ?_
    exact r_zret hC rfl (by decide) h dX7_isFaulty_30
  · replace h := if_f h q
    refine r_aload_n hC 0 dX7_isFaulty_16 (rfl : 16 + 1 = 17) rfl rfl ?_
    refine r_aload_n hC 2 dX7_isFaulty_17 (rfl : 17 + 1 = 18) rfl rfl ?_
    refine r_iload_n hC 3 dX7_isFaulty_18 (rfl : 18 + 1 = 19) rfl rfl ?_
    refine r_callVi hC cs_X7_237 rfl (by omega) (mX7_showsFault hC.2.2.2.2.2.2.2.2.1 (k := k - 1) (by omega) q2 x3 σ_2 _ h) rfl rfl (Nat.le_of_ble_eq_true rfl) dX7_isFaulty_19 (rfl : 19 + 3 = 22) (fun r_5 σ_4 h => ?_)
    refine r_if_eq hC dX7_isFaulty_22 (rfl : 22 + 3 = 25) (tgt := 29) (by decide) (fun q => ?_) (fun q => ?_)
    · replace h := if_t h q
      refine r_iconst hC dX7_isFaulty_29 (rfl : 29 + 1 = 30) (v := 0) (by decide) ?_
      exact r_zret hC rfl (by decide) h dX7_isFaulty_30
    · replace h := if_f h q
      refine r_iconst hC dX7_isFaulty_25 (rfl : 25 + 1 = 26) (v := 1) (by decide) ?_
      refine r_goto hC dX7_isFaulty_26 (tgt := 30) (by decide) ?_
      exact r_zret hC rfl (by decide) h dX7_isFaulty_30
set_option maxHeartbeats 1000000 in
set_option maxRecDepth 100000 in
theorem sX7_shrink_146 {G : Gx} {b k : Nat} {K : Kx} {l : Launch} (hl : K.2.1 = l) (hC : Cx YC G b K cX7_shrink RX7 9 (some .boolean) k)  (hk : 6 ≤ k) (K3 : Nat → Nat → Int32 → Int32 → Sg → Prop) (K32 : Nat → Nat → Int32 → Int32 → Int32 → Int32 → Int32 → Sg → Prop) (Q : Int32 → Sg → Prop) (h3 : ∀ (q1 : Nat) (q2 : Nat) (x3 : Int32) (x4 : Int32) (σ : Sg), K3 q1 q2 x3 x4 σ → V YC G K (Zi YC G K Q) 9 σ 3 [(0, .ref (G.1 0)), (1, .ref (G.1 q1)), (2, .ref (G.1 q2)), (3, .int x3), (4, .int x4)] []) (h32 : ∀ (q1 : Nat) (q2 : Nat) (x3 : Int32) (x4 : Int32) (x5 : Int32) (x6 : Int32) (x7 : Int32) (σ : Sg), K32 q1 q2 x3 x4 x5 x6 x7 σ → V YC G K (Zi YC G K Q) 9 σ 32 [(0, .ref (G.1 0)), (1, .ref (G.1 q1)), (2, .ref (G.1 q2)), (3, .int x3), (4, .int x4), (5, .int x5), (6, .int x6), (7, .int x7)] []) (q1 : Nat) (q2 : Nat) (x3 : Int32) (x4 : Int32) (x5 : Int32) (x6 : Int32) (x7 : Int32) (σ : Sg) (h : wX7_shrink_146 K3 K32 q1 q2 x3 x4 x5 x6 x7 σ Q) : V YC G K (Zi YC G K Q) 9 σ 146 [(0, .ref (G.1 0)), (1, .ref (G.1 q1)), (2, .ref (G.1 q2)), (3, .int x3), (4, .int x4), (5, .int x5), (6, .int x6), (7, .int x7)] [] := by
  subst hl
  unfold wX7_shrink_146 at h
  obtain ⟨x7_1, e_2, h⟩ := lt_nm h
  refine r_iinc hC (j := 7) dX7_shrink_146 (rfl : 146 + 3 = 149) rfl (zz := 1) (by decide) e_2 (by decide) (lv2 := [(7, .int x7_1), (0, .ref (G.1 0)), (1, .ref (G.1 q1)), (2, .ref (G.1 q2)), (3, .int x3), (4, .int x4), (5, .int x5), (6, .int x6)]) rfl ?_
  refine r_goto hC dX7_shrink_149 (tgt := 32) (by decide) ?_
  exact (h32 q1 q2 x3 x4 x5 x6 x7_1 σ h).sub [1, 2, 3, 4, 5, 6, 7, 0] rfl
set_option maxHeartbeats 1000000 in
set_option maxRecDepth 100000 in
theorem sX7_shrink_138 {G : Gx} {b k : Nat} {K : Kx} {l : Launch} (hl : K.2.1 = l) (hC : Cx YC G b K cX7_shrink RX7 9 (some .boolean) k)  (hk : 6 ≤ k) (K3 : Nat → Nat → Int32 → Int32 → Sg → Prop) (K32 : Nat → Nat → Int32 → Int32 → Int32 → Int32 → Int32 → Sg → Prop) (Q : Int32 → Sg → Prop) (h3 : ∀ (q1 : Nat) (q2 : Nat) (x3 : Int32) (x4 : Int32) (σ : Sg), K3 q1 q2 x3 x4 σ → V YC G K (Zi YC G K Q) 9 σ 3 [(0, .ref (G.1 0)), (1, .ref (G.1 q1)), (2, .ref (G.1 q2)), (3, .int x3), (4, .int x4)] []) (h32 : ∀ (q1 : Nat) (q2 : Nat) (x3 : Int32) (x4 : Int32) (x5 : Int32) (x6 : Int32) (x7 : Int32) (σ : Sg), K32 q1 q2 x3 x4 x5 x6 x7 σ → V YC G K (Zi YC G K Q) 9 σ 32 [(0, .ref (G.1 0)), (1, .ref (G.1 q1)), (2, .ref (G.1 q2)), (3, .int x3), (4, .int x4), (5, .int x5), (6, .int x6), (7, .int x7)] []) (q1 : Nat) (q2 : Nat) (x3 : Int32) (x4 : Int32) (x5 : Int32) (x6 : Int32) (x7 : Int32) (σ : Sg) (h : wX7_shrink_138 K3 K32 q1 q2 x3 x4 x5 x6 x7 σ Q) : V YC G K (Zi YC G K Q) 9 σ 138 [(0, .ref (G.1 0)), (1, .ref (G.1 q1)), (2, .ref (G.1 q2)), (3, .int x3), (4, .int x4), (5, .int x5), (6, .int x6), (7, .int x7)] [] := by
  subst hl
  unfold wX7_shrink_138 at h
  refine r_aload_n hC 2 dX7_shrink_138 (rfl : 138 + 1 = 139) rfl rfl ?_
  refine r_iload hC 6 dX7_shrink_139 (rfl : 139 + 2 = 141) rfl ?_
  obtain ⟨ty_3, h⟩ := h
  refine r_callVi hC cs_X7_253 ty_3 (by omega) (mX5_behind hC.2.2.2.2.2.2.2.2.1 (k := k - 1) (by omega) q2 x6 σ _ h) rfl rfl (Nat.le_of_ble_eq_true rfl) dX7_shrink_141 (rfl : 141 + 3 = 144) (fun r_5 σ_4 h => ?_)
  refine r_istore hC dX7_shrink_144 (rfl : 144 + 2 = 146) (by decide) rfl (lv2 := [(6, .int r_5), (0, .ref (G.1 0)), (1, .ref (G.1 q1)), (2, .ref (G.1 q2)), (3, .int x3), (4, .int x4), (5, .int x5), (7, .int x7)]) rfl ?_
  exact (sX7_shrink_146 rfl hC hk K3 K32 Q h3 h32 q1 q2 x3 x4 x5 r_5 x7 σ_4 h).sub [1, 2, 3, 4, 5, 6, 0, 7] rfl
set_option maxHeartbeats 1000000 in
set_option maxRecDepth 100000 in
theorem sX7_shrink_102 {G : Gx} {b k : Nat} {K : Kx} {l : Launch} (hl : K.2.1 = l) (hC : Cx YC G b K cX7_shrink RX7 9 (some .boolean) k)  (hk : 6 ≤ k) (K3 : Nat → Nat → Int32 → Int32 → Sg → Prop) (K32 : Nat → Nat → Int32 → Int32 → Int32 → Int32 → Int32 → Sg → Prop) (Q : Int32 → Sg → Prop) (h3 : ∀ (q1 : Nat) (q2 : Nat) (x3 : Int32) (x4 : Int32) (σ : Sg), K3 q1 q2 x3 x4 σ → V YC G K (Zi YC G K Q) 9 σ 3 [(0, .ref (G.1 0)), (1, .ref (G.1 q1)), (2, .ref (G.1 q2)), (3, .int x3), (4, .int x4)] []) (h32 : ∀ (q1 : Nat) (q2 : Nat) (x3 : Int32) (x4 : Int32) (x5 : Int32) (x6 : Int32) (x7 : Int32) (σ : Sg), K32 q1 q2 x3 x4 x5 x6 x7 σ → V YC G K (Zi YC G K Q) 9 σ 32 [(0, .ref (G.1 0)), (1, .ref (G.1 q1)), (2, .ref (G.1 q2)), (3, .int x3), (4, .int x4), (5, .int x5), (6, .int x6), (7, .int x7)] []) (q1 : Nat) (q2 : Nat) (x3 : Int32) (x4 : Int32) (x5 : Int32) (x6 : Int32) (x7 : Int32) (s0 : Nat) (s1 : Nat) (s2 : Int32) (s3 : Nat) (s4 : Int32) (σ : Sg) (h : wX7_shrink_102 K3 K32 q1 q2 x3 x4 x5 x6 x7 s0 s1 s2 s3 s4 σ Q) : V YC G K (Zi YC G K Q) 9 σ 102 [(0, .ref (G.1 0)), (1, .ref (G.1 q1)), (2, .ref (G.1 q2)), (3, .int x3), (4, .int x4), (5, .int x5), (6, .int x6), (7, .int x7)] [.int s4, .ref (G.1 s3), .int s2, .ref (G.1 s1), .ref (G.1 s0)] := by
  subst hl
  unfold wX7_shrink_102 at h
  obtain ⟨ty_6, h⟩ := h
  refine r_callVv hC cs_X7_156 ty_6 (by omega) (mX5_join hC.2.2.2.2.2.2.2.2.1 (k := k - 1) (by omega) s0 s1 s2 s3 s4 σ _ h) rfl rfl (Nat.le_of_ble_eq_true rfl) dX7_shrink_102 (rfl : 102 + 3 = 105) (fun  σ_7 h => ?_)
  refine r_aload_n hC 0 dX7_shrink_105 (rfl : 105 + 1 = 106) rfl rfl ?_
  refine r_getr hC 0 6 4 16 (o := 16) fw_X7_38 rfl rfl dX7_shrink_106 (rfl : 106 + 3 = 109) ?_
  refine r_aload_n hC 1 dX7_shrink_109 (rfl : 109 + 1 = 110) rfl rfl ?_
  refine r_aload_n hC 0 dX7_shrink_110 (rfl : 110 + 1 = 111) rfl rfl ?_
  refine r_getr hC 0 6 8 45 (o := 45) fw_X7_57 rfl rfl dX7_shrink_111 (rfl : 111 + 3 = 114) ?_
  refine r_aload_n hC 1 dX7_shrink_114 (rfl : 114 + 1 = 115) rfl rfl ?_
  obtain ⟨ty_8, h⟩ := h
  refine r_geti hC q1 2 2 fw_X7_164 ty_8 dX7_shrink_115 (rfl : 115 + 3 = 118) ?_
  refine r_callVi hC cs_X7_177 rfl (by omega) (mX6_make hC.2.2.2.2.2.2.2.2.1 (k := k - 1) (by omega) q1 45 (σ_7.1 q1 2) σ_7 _ h) rfl rfl (Nat.le_of_ble_eq_true rfl) dX7_shrink_118 (rfl : 118 + 3 = 121) (fun r_10 σ_9 h => ?_)
  refine r_if_le hC dX7_shrink_121 (rfl : 121 + 3 = 124) (tgt := 138) (by decide) (fun q => ?_) (fun q => ?_)
  · replace h := if_t h q
    exact (sX7_shrink_138 rfl hC hk K3 K32 Q h3 h32 q1 q2 x3 x4 x5 x6 x7 σ_9 h).sub [0, 1, 2, 3, 4, 5, 6, 7] rfl
  · replace h := if_f h q
    refine r_aload_n hC 0 dX7_shrink_124 (rfl : 124 + 1 = 125) rfl rfl ?_
    refine r_aload_n hC 0 dX7_shrink_125 (rfl : 125 + 1 = 126) rfl rfl ?_
    refine r_getr hC 0 6 8 45 (o := 45) fw_X7_57 rfl rfl dX7_shrink_126 (rfl : 126 + 3 = 129) ?_
    refine r_iload_n hC 3 dX7_shrink_129 (rfl : 129 + 1 = 130) rfl rfl ?_
    refine r_callVi hC cs_X7_237 rfl (by omega) (mX7_showsFault hC.2.2.2.2.2.2.2.2.1 (k := k - 1) (by omega) 45 x3 σ_9 _ h) rfl rfl (Nat.le_of_ble_eq_true rfl) dX7_shrink_130 (rfl : 130 + 3 = 133) (fun r_12 σ_11 h => ?_)
    refine r_if_eq hC dX7_shrink_133 (rfl : 133 + 3 = 136) (tgt := 138) (by decide) (fun q => ?_) (fun q => ?_)
    · replace h := if_t h q
      exact (sX7_shrink_138 rfl hC hk K3 K32 Q h3 h32 q1 q2 x3 x4 x5 x6 x7 σ_11 h).sub [0, 1, 2, 3, 4, 5, 6, 7] rfl
    · replace h := if_f h q
      refine r_iconst hC dX7_shrink_136 (rfl : 136 + 1 = 137) (v := 1) (by decide) ?_
      exact r_zret hC rfl (by decide) h dX7_shrink_137
set_option maxHeartbeats 1000000 in
set_option maxRecDepth 100000 in
theorem sX7_shrink_91 {G : Gx} {b k : Nat} {K : Kx} {l : Launch} (hl : K.2.1 = l) (hC : Cx YC G b K cX7_shrink RX7 9 (some .boolean) k)  (hk : 6 ≤ k) (K3 : Nat → Nat → Int32 → Int32 → Sg → Prop) (K32 : Nat → Nat → Int32 → Int32 → Int32 → Int32 → Int32 → Sg → Prop) (Q : Int32 → Sg → Prop) (h3 : ∀ (q1 : Nat) (q2 : Nat) (x3 : Int32) (x4 : Int32) (σ : Sg), K3 q1 q2 x3 x4 σ → V YC G K (Zi YC G K Q) 9 σ 3 [(0, .ref (G.1 0)), (1, .ref (G.1 q1)), (2, .ref (G.1 q2)), (3, .int x3), (4, .int x4)] []) (h32 : ∀ (q1 : Nat) (q2 : Nat) (x3 : Int32) (x4 : Int32) (x5 : Int32) (x6 : Int32) (x7 : Int32) (σ : Sg), K32 q1 q2 x3 x4 x5 x6 x7 σ → V YC G K (Zi YC G K Q) 9 σ 32 [(0, .ref (G.1 0)), (1, .ref (G.1 q1)), (2, .ref (G.1 q2)), (3, .int x3), (4, .int x4), (5, .int x5), (6, .int x6), (7, .int x7)] []) (q1 : Nat) (q2 : Nat) (x3 : Int32) (x4 : Int32) (x5 : Int32) (x6 : Int32) (x7 : Int32) (x8 : Int32) (s0 : Nat) (s1 : Nat) (s2 : Int32) (s3 : Nat) (σ : Sg) (h : wX7_shrink_91 K3 K32 q1 q2 x3 x4 x5 x6 x7 x8 s0 s1 s2 s3 σ Q) : V YC G K (Zi YC G K Q) 9 σ 91 [(0, .ref (G.1 0)), (1, .ref (G.1 q1)), (2, .ref (G.1 q2)), (3, .int x3), (4, .int x4), (5, .int x5), (6, .int x6), (7, .int x7), (8, .int x8)] [.ref (G.1 s3), .int s2, .ref (G.1 s1), .ref (G.1 s0)] := by
  subst hl
  unfold wX7_shrink_91 at h
  refine r_iload hC 8 dX7_shrink_91 (rfl : 91 + 2 = 93) rfl ?_
  refine r_if_eq hC dX7_shrink_93 (rfl : 93 + 3 = 96) (tgt := 100) (by decide) (fun q => ?_) (fun q => ?_)
  · replace h := if_t h q
    refine r_iload hC 6 dX7_shrink_100 (rfl : 100 + 2 = 102) rfl ?_
    exact (sX7_shrink_102 rfl hC hk K3 K32 Q h3 h32 q1 q2 x3 x4 x5 x6 x7 s0 s1 s2 s3 x6 σ h).sub [0, 1, 2, 3, 4, 5, 6, 7] rfl
  · replace h := if_f h q
    refine r_iconst hC dX7_shrink_96 (rfl : 96 + 1 = 97) (v := 0) (by decide) ?_
    refine r_goto hC dX7_shrink_97 (tgt := 102) (by decide) ?_
    exact (sX7_shrink_102 rfl hC hk K3 K32 Q h3 h32 q1 q2 x3 x4 x5 x6 x7 s0 s1 s2 s3 0 σ h).sub [0, 1, 2, 3, 4, 5, 6, 7] rfl
set_option maxHeartbeats 1000000 in
set_option maxRecDepth 100000 in
theorem sX7_shrink_71 {G : Gx} {b k : Nat} {K : Kx} {l : Launch} (hl : K.2.1 = l) (hC : Cx YC G b K cX7_shrink RX7 9 (some .boolean) k)  (hk : 6 ≤ k) (K3 : Nat → Nat → Int32 → Int32 → Sg → Prop) (K32 : Nat → Nat → Int32 → Int32 → Int32 → Int32 → Int32 → Sg → Prop) (Q : Int32 → Sg → Prop) (h3 : ∀ (q1 : Nat) (q2 : Nat) (x3 : Int32) (x4 : Int32) (σ : Sg), K3 q1 q2 x3 x4 σ → V YC G K (Zi YC G K Q) 9 σ 3 [(0, .ref (G.1 0)), (1, .ref (G.1 q1)), (2, .ref (G.1 q2)), (3, .int x3), (4, .int x4)] []) (h32 : ∀ (q1 : Nat) (q2 : Nat) (x3 : Int32) (x4 : Int32) (x5 : Int32) (x6 : Int32) (x7 : Int32) (σ : Sg), K32 q1 q2 x3 x4 x5 x6 x7 σ → V YC G K (Zi YC G K Q) 9 σ 32 [(0, .ref (G.1 0)), (1, .ref (G.1 q1)), (2, .ref (G.1 q2)), (3, .int x3), (4, .int x4), (5, .int x5), (6, .int x6), (7, .int x7)] []) (q1 : Nat) (q2 : Nat) (x3 : Int32) (x4 : Int32) (x5 : Int32) (x6 : Int32) (x7 : Int32) (x8 : Int32) (σ : Sg) (h : wX7_shrink_71 K3 K32 q1 q2 x3 x4 x5 x6 x7 x8 σ Q) : V YC G K (Zi YC G K Q) 9 σ 71 [(0, .ref (G.1 0)), (1, .ref (G.1 q1)), (2, .ref (G.1 q2)), (3, .int x3), (4, .int x4), (5, .int x5), (6, .int x6), (7, .int x7), (8, .int x8)] [] := by
  subst hl
  unfold wX7_shrink_71 at h
  refine r_aload_n hC 0 dX7_shrink_71 (rfl : 71 + 1 = 72) rfl rfl ?_
  refine r_getr hC 0 6 8 45 (o := 45) fw_X7_57 rfl rfl dX7_shrink_72 (rfl : 72 + 3 = 75) ?_
  refine r_aload_n hC 2 dX7_shrink_75 (rfl : 75 + 1 = 76) rfl rfl ?_
  refine r_iload hC 4 dX7_shrink_76 (rfl : 76 + 2 = 78) rfl ?_
  refine r_iload hC 8 dX7_shrink_78 (rfl : 78 + 2 = 80) rfl ?_
  refine r_if_eq hC dX7_shrink_80 (rfl : 80 + 3 = 83) (tgt := 90) (by decide) (fun q => ?_) (fun q => ?_)
  · replace h := if_t h q
    refine r_aload_n hC 2 dX7_shrink_90 (rfl : 90 + 1 = 91) rfl rfl ?_
    exact (sX7_shrink_91 rfl hC hk K3 K32 Q h3 h32 q1 q2 x3 x4 x5 x6 x7 x8 45 q2 x4 q2 σ h).sub [0, 1, 2, 3, 4, 5, 6, 7, 8] rfl
  · replace h := if_f h q
    refine r_aload_n hC 0 dX7_shrink_83 (rfl : 83 + 1 = 84) rfl rfl ?_
    refine r_getr hC 0 6 9 49 (o := 49) fw_X7_60 rfl rfl dX7_shrink_84 (rfl : 84 + 3 = 87) ?_
    refine r_goto hC dX7_shrink_87 (tgt := 91) (by decide) ?_
    exact (sX7_shrink_91 rfl hC hk K3 K32 Q h3 h32 q1 q2 x3 x4 x5 x6 x7 x8 45 q2 x4 49 σ h).sub [0, 1, 2, 3, 4, 5, 6, 7, 8] rfl
set_option maxHeartbeats 1000000 in
set_option maxRecDepth 100000 in
theorem sX7_shrink_51 {G : Gx} {b k : Nat} {K : Kx} {l : Launch} (hl : K.2.1 = l) (hC : Cx YC G b K cX7_shrink RX7 9 (some .boolean) k)  (hk : 6 ≤ k) (K3 : Nat → Nat → Int32 → Int32 → Sg → Prop) (K32 : Nat → Nat → Int32 → Int32 → Int32 → Int32 → Int32 → Sg → Prop) (Q : Int32 → Sg → Prop) (h3 : ∀ (q1 : Nat) (q2 : Nat) (x3 : Int32) (x4 : Int32) (σ : Sg), K3 q1 q2 x3 x4 σ → V YC G K (Zi YC G K Q) 9 σ 3 [(0, .ref (G.1 0)), (1, .ref (G.1 q1)), (2, .ref (G.1 q2)), (3, .int x3), (4, .int x4)] []) (h32 : ∀ (q1 : Nat) (q2 : Nat) (x3 : Int32) (x4 : Int32) (x5 : Int32) (x6 : Int32) (x7 : Int32) (σ : Sg), K32 q1 q2 x3 x4 x5 x6 x7 σ → V YC G K (Zi YC G K Q) 9 σ 32 [(0, .ref (G.1 0)), (1, .ref (G.1 q1)), (2, .ref (G.1 q2)), (3, .int x3), (4, .int x4), (5, .int x5), (6, .int x6), (7, .int x7)] []) (q1 : Nat) (q2 : Nat) (x3 : Int32) (x4 : Int32) (x5 : Int32) (x6 : Int32) (x7 : Int32) (s0 : Int32) (σ : Sg) (h : wX7_shrink_51 K3 K32 q1 q2 x3 x4 x5 x6 x7 s0 σ Q) : V YC G K (Zi YC G K Q) 9 σ 51 [(0, .ref (G.1 0)), (1, .ref (G.1 q1)), (2, .ref (G.1 q2)), (3, .int x3), (4, .int x4), (5, .int x5), (6, .int x6), (7, .int x7)] [.int s0] := by
  subst hl
  unfold wX7_shrink_51 at h
  refine r_istore hC dX7_shrink_51 (rfl : 51 + 2 = 53) (by decide) rfl (lv2 := [(8, .int s0), (0, .ref (G.1 0)), (1, .ref (G.1 q1)), (2, .ref (G.1 q2)), (3, .int x3), (4, .int x4), (5, .int x5), (6, .int x6), (7, .int x7)]) rfl ?_
  refine r_iload hC 0 dX7_shrink_53 (rfl : 53 + 2 = 55) rfl ?_
  refine r_if_eq hC dX7_shrink_55 (rfl : 55 + 3 = 58) (tgt := 71) (by decide) (fun q => ?_) (fun q => ?_)
  · replace h := if_t h q
    exact (sX7_shrink_71 rfl hC hk K3 K32 Q h3 h32 q1 q2 x3 x4 x5 x6 x7 s0 σ h).sub [1, 2, 3, 4, 5, 6, 7, 8, 0] rfl
  · replace h := if_f h q
    refine r_aload_n hC 3 dX7_shrink_58 (rfl : 58 + 1 = 59) rfl rfl ?_
    refine r_iload hC 5 dX7_shrink_59 (rfl : 59 + 2 = 61) rfl ?_
    refine r_iconst hC dX7_shrink_61 (rfl : 61 + 1 = 62) (v := 0) (by decide) ?_
    obtain ⟨ty_13, h⟩ := h
    refine r_callVi hC cs_X7_250 ty_13 (by omega) (mX5_isNumber hC.2.2.2.2.2.2.2.2.1 (k := k - 1) (by omega) q2 x4 0 σ _ h) rfl rfl (Nat.le_of_ble_eq_true rfl) dX7_shrink_62 (rfl : 62 + 3 = 65) (fun r_15 σ_14 h => ?_)
    refine r_if_eq hC dX7_shrink_65 (rfl : 65 + 3 = 68) (tgt := 71) (by decide) (fun q => ?_) (fun q => ?_)
    · replace h := if_t h q
      exact (sX7_shrink_71 rfl hC hk K3 K32 Q h3 h32 q1 q2 x3 x4 x5 x6 x7 s0 σ_14 h).sub [1, 2, 3, 4, 5, 6, 7, 8, 0] rfl
    · replace h := if_f h q
      refine r_goto hC dX7_shrink_68 (tgt := 146) (by decide) ?_
      exact (sX7_shrink_146 rfl hC hk K3 K32 Q h3 h32 q1 q2 x3 x4 x5 x6 x7 σ_14 h).sub [1, 2, 3, 4, 5, 6, 7, 8] rfl
set_option maxHeartbeats 1000000 in
set_option maxRecDepth 100000 in
theorem sX7_shrink_32 {G : Gx} {b k : Nat} {K : Kx} {l : Launch} (hl : K.2.1 = l) (hC : Cx YC G b K cX7_shrink RX7 9 (some .boolean) k)  (hk : 6 ≤ k) (K3 : Nat → Nat → Int32 → Int32 → Sg → Prop) (Q : Int32 → Sg → Prop) (h3 : ∀ (q1 : Nat) (q2 : Nat) (x3 : Int32) (x4 : Int32) (σ : Sg), K3 q1 q2 x3 x4 σ → V YC G K (Zi YC G K Q) 9 σ 3 [(0, .ref (G.1 0)), (1, .ref (G.1 q1)), (2, .ref (G.1 q2)), (3, .int x3), (4, .int x4)] []) : ∀ (n : Nat) (q1 : Nat) (q2 : Nat) (x3 : Int32) (x4 : Int32) (x5 : Int32) (x6 : Int32) (x7 : Int32) (σ : Sg), wX7_shrink_32 K3 Q n q1 q2 x3 x4 x5 x6 x7 σ → V YC G K (Zi YC G K Q) 9 σ 32 [(0, .ref (G.1 0)), (1, .ref (G.1 q1)), (2, .ref (G.1 q2)), (3, .int x3), (4, .int x4), (5, .int x5), (6, .int x6), (7, .int x7)] [] := by
  subst hl
  intro n
  induction n with
  | zero =>
    intro q1 q2 x3 x4 x5 x6 x7 σ h
    exact h.elim
  | succ n ih =>
    intro q1 q2 x3 x4 x5 x6 x7 σ h
    have h : wX7_shrink_32_b K3 (wX7_shrink_32 K3 Q n) q1 q2 x3 x4 x5 x6 x7 σ Q := h
    unfold wX7_shrink_32_b at h
    refine r_iload hC 7 dX7_shrink_32 (rfl : 32 + 2 = 34) rfl ?_
    refine r_iload hC 5 dX7_shrink_34 (rfl : 34 + 2 = 36) rfl ?_
    refine r_icmp_gt hC dX7_shrink_36 (rfl : 36 + 3 = 39) (tgt := 152) (by decide) (fun q => ?_) (fun q => ?_)
    · replace h := if_t h q
      obtain ⟨x4_16, e_17, h⟩ := lt_nm h
      refine r_iinc hC (j := 4) dX7_shrink_152 (rfl : 152 + 3 = 155) rfl (zz := 1) (by decide) e_17 (by decide) (lv2 := [(4, .int x4_16), (0, .ref (G.1 0)), (1, .ref (G.1 q1)), (2, .ref (G.1 q2)), (3, .int x3), (5, .int x5), (6, .int x6), (7, .int x7)]) rfl ?_
      refine r_goto hC dX7_shrink_155 (tgt := 3) (by decide) ?_
      exact (h3 q1 q2 x3 x4_16 σ h).sub [1, 2, 3, 4, 0] rfl
    · replace h := if_f h q
      refine r_iload hC 7 dX7_shrink_39 (rfl : 39 + 2 = 41) rfl ?_
      refine r_iload hC 5 dX7_shrink_41 (rfl : 41 + 2 = 43) rfl ?_
      refine r_icmp_ne hC dX7_shrink_43 (rfl : 43 + 3 = 46) (tgt := 50) (by decide) (fun q => ?_) (fun q => ?_)
      · replace h := if_f h q
        refine r_iconst hC dX7_shrink_50 (rfl : 50 + 1 = 51) (v := 0) (by decide) ?_
        exact (sX7_shrink_51 rfl hC hk K3 (wX7_shrink_32 K3 Q n) Q h3 ih q1 q2 x3 x4 x5 x6 x7 0 σ h).sub [0, 1, 2, 3, 4, 5, 6, 7] rfl
      · replace h := if_t h q
        refine r_iconst hC dX7_shrink_46 (rfl : 46 + 1 = 47) (v := 1) (by decide) ?_
        refine r_goto hC dX7_shrink_47 (tgt := 51) (by decide) ?_
        exact (sX7_shrink_51 rfl hC hk K3 (wX7_shrink_32 K3 Q n) Q h3 ih q1 q2 x3 x4 x5 x6 x7 1 σ h).sub [0, 1, 2, 3, 4, 5, 6, 7] rfl
set_option maxHeartbeats 1000000 in
set_option maxRecDepth 100000 in
theorem sX7_shrink_3 {G : Gx} {b k : Nat} {K : Kx} {l : Launch} (hl : K.2.1 = l) (hC : Cx YC G b K cX7_shrink RX7 9 (some .boolean) k)  (hk : 6 ≤ k)  (Q : Int32 → Sg → Prop)  : ∀ (n : Nat) (q1 : Nat) (q2 : Nat) (x3 : Int32) (x4 : Int32) (σ : Sg), wX7_shrink_3  Q n q1 q2 x3 x4 σ → V YC G K (Zi YC G K Q) 9 σ 3 [(0, .ref (G.1 0)), (1, .ref (G.1 q1)), (2, .ref (G.1 q2)), (3, .int x3), (4, .int x4)] [] := by
  subst hl
  intro n
  induction n with
  | zero =>
    intro q1 q2 x3 x4 σ h
    exact h.elim
  | succ n ih =>
    intro q1 q2 x3 x4 σ h
    have h : wX7_shrink_3_b  (wX7_shrink_3  Q n) q1 q2 x3 x4 σ Q := h
    unfold wX7_shrink_3_b at h
    refine r_iload hC 4 dX7_shrink_3 (rfl : 3 + 2 = 5) rfl ?_
    refine r_aload_n hC 2 dX7_shrink_5 (rfl : 5 + 1 = 6) rfl rfl ?_
    obtain ⟨ty_18, h⟩ := h
    refine r_geti hC q2 4 3 fw_X7_93 ty_18 dX7_shrink_6 (rfl : 6 + 3 = 9) ?_
    refine r_icmp_ge hC dX7_shrink_9 (rfl : 9 + 3 = 12) (tgt := 158) (by decide) (fun q => ?_) (fun q => ?_)
    · replace h := if_t h q
      refine r_iconst hC dX7_shrink_158 (rfl : 158 + 1 = 159) (v := 0) (by decide) ?_
      exact r_zret hC rfl (by decide) h dX7_shrink_159
    · replace h := if_f h q
      refine r_aload_n hC 2 dX7_shrink_12 (rfl : 12 + 1 = 13) rfl rfl ?_
      refine r_iload hC 4 dX7_shrink_13 (rfl : 13 + 2 = 15) rfl ?_
      refine r_callVi hC cs_X7_231 ty_18 (by omega) (mX5_kindOf hC.2.2.2.2.2.2.2.2.1 (k := k - 1) (by omega) q2 x4 σ _ h) rfl rfl (Nat.le_of_ble_eq_true rfl) dX7_shrink_15 (rfl : 15 + 3 = 18) (fun r_20 σ_19 h => ?_)
      refine r_callSi hC cs_X7_112 (by omega) (mX7_partsOf hC.2.2.2.2.2.2.2.2.1 (k := k - 1) (by omega) r_20 σ_19 _ h) rfl rfl (Nat.le_of_ble_eq_true rfl) dX7_shrink_18 (rfl : 18 + 3 = 21) (fun r_22 σ_21 h => ?_)
      refine r_istore hC dX7_shrink_21 (rfl : 21 + 2 = 23) (by decide) rfl (lv2 := [(5, .int r_22), (0, .ref (G.1 0)), (1, .ref (G.1 q1)), (2, .ref (G.1 q2)), (3, .int x3), (4, .int x4)]) rfl ?_
      refine r_iload hC 5 dX7_shrink_23 (rfl : 23 + 2 = 25) rfl ?_
      refine r_iconst hC dX7_shrink_25 (rfl : 25 + 1 = 26) (v := 1) (by decide) ?_
      refine r_iadd hC dX7_shrink_26 (rfl : 26 + 1 = 27) ?_
      obtain ⟨x6_23, e_24, h⟩ := lt_nm h
      refine r_istore hC dX7_shrink_27 (rfl : 27 + 2 = 29) (by decide) e_24 (lv2 := [(6, .int x6_23), (5, .int r_22), (0, .ref (G.1 0)), (1, .ref (G.1 q1)), (2, .ref (G.1 q2)), (3, .int x3), (4, .int x4)]) rfl ?_
      refine r_iconst hC dX7_shrink_29 (rfl : 29 + 1 = 30) (v := 0) (by decide) ?_
      refine r_istore hC dX7_shrink_30 (rfl : 30 + 2 = 32) (by decide) rfl (lv2 := [(7, .int 0), (6, .int x6_23), (5, .int r_22), (0, .ref (G.1 0)), (1, .ref (G.1 q1)), (2, .ref (G.1 q2)), (3, .int x3), (4, .int x4)]) rfl ?_
      obtain ⟨nn, h⟩ := h
      exact (sX7_shrink_32 rfl hC hk (wX7_shrink_3  Q n) Q ih nn q1 q2 x3 x4 r_22 x6_23 0 σ_21 h).sub [3, 4, 5, 6, 7, 2, 1, 0] rfl
set_option maxHeartbeats 1000000 in
set_option maxRecDepth 100000 in
theorem mX7_shrink {G : Gx} {b k : Nat} {l : Launch} (hS : Sok YC G)  (hk : 6 ≤ k) (q1 : Nat) (q2 : Nat) (x3 : Int32) (σ : Sg) (Q : Int32 → Sg → Prop) (h : wX7_shrink  q1 q2 x3 σ Q) : Mi YC G b l yX7_shrink cX7_shrink 9 .boolean k [.ref (G.1 0), .ref (G.1 q1), .ref (G.1 q2), .int x3] σ Q := by
  refine enter hS (by decide +kernel) (Nat.le_of_ble_eq_true rfl) (lv := [(0, .ref (G.1 0)), (1, .ref (G.1 q1)), (2, .ref (G.1 q2)), (3, .int x3)]) rfl (fun K hl hC => ?_)
  subst hl
  unfold wX7_shrink at h
  show V YC G K (Zi YC G K Q) 9 σ 0 [(0, .ref (G.1 0)), (1, .ref (G.1 q1)), (2, .ref (G.1 q2)), (3, .int x3)] []
  refine r_iconst hC dX7_shrink_0 (rfl : 0 + 1 = 1) (v := 0) (by decide) ?_
  refine r_istore hC dX7_shrink_1 (rfl : 1 + 2 = 3) (by decide) rfl (lv2 := [(4, .int 0), (0, .ref (G.1 0)), (1, .ref (G.1 q1)), (2, .ref (G.1 q2)), (3, .int x3)]) rfl ?_
  obtain ⟨nn, h⟩ := h
  exact (sX7_shrink_3 rfl hC hk  Q  nn q1 q2 x3 0 σ h).sub [1, 2, 3, 4, 0] rfl
set_option maxHeartbeats 1000000 in
set_option maxRecDepth 100000 in
theorem mX7_answer {G : Gx} {b k : Nat} {l : Launch} (hS : Sok YC G)  (hk : 7 ≤ k) (x1 : Int32) (x2 : Int32) (x3 : Int32) (x4 : Int32) (σ : Sg) (Q : Int32 → Sg → Prop) (h : wX7_answer  x1 x2 x3 x4 σ Q) : Mi YC G b l yX7_answer cX7_answer 5 .int k [.ref (G.1 0), .int x1, .int x2, .int x3, .int x4] σ Q := by
  refine enter hS (by decide +kernel) (Nat.le_of_ble_eq_true rfl) (lv := [(0, .ref (G.1 0)), (1, .int x1), (2, .int x2), (3, .int x3), (4, .int x4)]) rfl (fun K hl hC => ?_)
  subst hl
  unfold wX7_answer at h
  show V YC G K (Zi YC G K Q) 5 σ 0 [(0, .ref (G.1 0)), (1, .int x1), (2, .int x2), (3, .int x3), (4, .int x4)] []
  refine r_aload_n hC 0 dX7_answer_0 (rfl : 0 + 1 = 1) rfl rfl ?_
  refine r_iload_n hC 1 dX7_answer_1 (rfl : 1 + 1 = 2) rfl rfl ?_
  refine r_iload_n hC 2 dX7_answer_2 (rfl : 2 + 1 = 3) rfl rfl ?_
  refine r_callVi hC cs_X7_184 rfl (by omega) (mX7_write hC.2.2.2.2.2.2.2.2.1 (k := k - 1) (by omega) x1 x2 σ _ h) rfl rfl (Nat.le_of_ble_eq_true rfl) dX7_answer_3 (rfl : 3 + 3 = 6) (fun r_2 σ_1 h => ?_)
  refine r_if_ne hC dX7_answer_6 (rfl : 6 + 3 = 9) (tgt := 12) (by decide) (fun q => ?_) (fun q => ?_)
  · replace h := if_f h q
    refine r_aload_n hC 0 dX7_answer_12 (rfl : 12 + 1 = 13) rfl rfl ?_
    refine r_getr hC 0 6 6 34 (o := 34) fw_X7_49 rfl rfl dX7_answer_13 (rfl : 13 + 3 = 16) ?_
    refine r_iload_n hC 3 dX7_answer_16 (rfl : 16 + 1 = 17) rfl rfl ?_
    refine r_iload hC 4 dX7_answer_17 (rfl : 17 + 2 = 19) rfl ?_
    refine r_callVi hC cs_X7_138 rfl (by omega) (mX0_run hC.2.2.2.2.2.2.2.2.1 (k := k - 1) (by omega) 34 x3 x4 σ_1 _ h) rfl rfl (Nat.le_of_ble_eq_true rfl) dX7_answer_19 (rfl : 19 + 3 = 22) (fun r_4 σ_3 h => ?_)
    refine r_if_eq hC dX7_answer_22 (rfl : 22 + 3 = 25) (tgt := 35) (by decide) (fun q => ?_) (fun q => ?_)
    · replace h := if_t h q
      refine r_ldc hC dX7_answer_35 (rfl : 35 + 2 = 37) wd_459 ?_
      exact r_iret hC rfl h dX7_answer_37
    · replace h := if_f h q
      refine r_aload_n hC 0 dX7_answer_25 (rfl : 25 + 1 = 26) rfl rfl ?_
      refine r_getr hC 0 6 6 34 (o := 34) fw_X7_49 rfl rfl dX7_answer_26 (rfl : 26 + 3 = 29) ?_
      refine r_geti hC 34 0 10 fw_X7_142 rfl dX7_answer_29 (rfl : 29 + 3 = 32) ?_
      refine r_goto hC dX7_answer_32 (tgt := 37) (by decide) ?_
      exact r_iret hC rfl h dX7_answer_37
  · replace h := if_t h q
    refine r_ldc hC dX7_answer_9 (rfl : 9 + 2 = 11) wd_459 ?_
    exact r_iret hC rfl h dX7_answer_11
set_option maxHeartbeats 1000000 in
set_option maxRecDepth 100000 in
theorem mX7_cost {G : Gx} {b k : Nat} {l : Launch} (hS : Sok YC G)  (hk : 7 ≤ k) (x1 : Int32) (x2 : Int32) (x3 : Int32) (x4 : Int32) (σ : Sg) (Q : Int32 → Sg → Prop) (h : wX7_cost  x1 x2 x3 x4 σ Q) : Mi YC G b l yX7_cost cX7_cost 5 .int k [.ref (G.1 0), .int x1, .int x2, .int x3, .int x4] σ Q := by
  refine enter hS (by decide +kernel) (Nat.le_of_ble_eq_true rfl) (lv := [(0, .ref (G.1 0)), (1, .int x1), (2, .int x2), (3, .int x3), (4, .int x4)]) rfl (fun K hl hC => ?_)
  subst hl
  unfold wX7_cost at h
  show V YC G K (Zi YC G K Q) 5 σ 0 [(0, .ref (G.1 0)), (1, .int x1), (2, .int x2), (3, .int x3), (4, .int x4)] []
  refine r_aload_n hC 0 dX7_cost_0 (rfl : 0 + 1 = 1) rfl rfl ?_
  refine r_iload_n hC 1 dX7_cost_1 (rfl : 1 + 1 = 2) rfl rfl ?_
  refine r_iload_n hC 2 dX7_cost_2 (rfl : 2 + 1 = 3) rfl rfl ?_
  refine r_callVi hC cs_X7_184 rfl (by omega) (mX7_write hC.2.2.2.2.2.2.2.2.1 (k := k - 1) (by omega) x1 x2 σ _ h) rfl rfl (Nat.le_of_ble_eq_true rfl) dX7_cost_3 (rfl : 3 + 3 = 6) (fun r_2 σ_1 h => ?_)
  refine r_if_ne hC dX7_cost_6 (rfl : 6 + 3 = 9) (tgt := 11) (by decide) (fun q => ?_) (fun q => ?_)
  · replace h := if_f h q
    refine r_aload_n hC 0 dX7_cost_11 (rfl : 11 + 1 = 12) rfl rfl ?_
    refine r_getr hC 0 6 6 34 (o := 34) fw_X7_49 rfl rfl dX7_cost_12 (rfl : 12 + 3 = 15) ?_
    refine r_iload_n hC 3 dX7_cost_15 (rfl : 15 + 1 = 16) rfl rfl ?_
    refine r_iload hC 4 dX7_cost_16 (rfl : 16 + 2 = 18) rfl ?_
    refine r_callVi hC cs_X7_138 rfl (by omega) (mX0_run hC.2.2.2.2.2.2.2.2.1 (k := k - 1) (by omega) 34 x3 x4 σ_1 _ h) rfl rfl (Nat.le_of_ble_eq_true rfl) dX7_cost_18 (rfl : 18 + 3 = 21) (fun r_4 σ_3 h => ?_)
    refine r_pop hC dX7_cost_21 (rfl : 21 + 1 = 22) rfl ?_
    refine r_aload_n hC 0 dX7_cost_22 (rfl : 22 + 1 = 23) rfl rfl ?_
    refine r_getr hC 0 6 6 34 (o := 34) fw_X7_49 rfl rfl dX7_cost_23 (rfl : 23 + 3 = 26) ?_
    refine r_geti hC 34 0 11 fw_X7_186 rfl dX7_cost_26 (rfl : 26 + 3 = 29) ?_
    exact r_iret hC rfl h dX7_cost_29
  · replace h := if_t h q
    refine r_iconst hC dX7_cost_9 (rfl : 9 + 1 = 10) (v := -1) (by decide) ?_
    exact r_iret hC rfl h dX7_cost_10
set_option maxHeartbeats 1000000 in
set_option maxRecDepth 100000 in
theorem sX7_differ_72 {G : Gx} {b k : Nat} {K : Kx} {l : Launch} (hl : K.2.1 = l) (hC : Cx YC G b K cX7_differ RX7 7 (some .int) k)  (hk : 7 ≤ k) (K42 : Int32 → Int32 → Int32 → Sg → Prop) (K52 : Int32 → Int32 → Int32 → Int32 → Sg → Prop) (Q : Int32 → Sg → Prop) (h42 : ∀ (x3 : Int32) (x4 : Int32) (x5 : Int32) (σ : Sg), K42 x3 x4 x5 σ → V YC G K (Zi YC G K Q) 7 σ 42 [(0, .ref (G.1 0)), (3, .int x3), (4, .int x4), (5, .int x5)] []) (h52 : ∀ (x3 : Int32) (x4 : Int32) (x5 : Int32) (x6 : Int32) (σ : Sg), K52 x3 x4 x5 x6 σ → V YC G K (Zi YC G K Q) 7 σ 52 [(0, .ref (G.1 0)), (3, .int x3), (4, .int x4), (5, .int x5), (6, .int x6)] []) (x3 : Int32) (x4 : Int32) (x5 : Int32) (x6 : Int32) (σ : Sg) (h : wX7_differ_72 K42 K52 x3 x4 x5 x6 σ Q) : V YC G K (Zi YC G K Q) 7 σ 72 [(0, .ref (G.1 0)), (3, .int x3), (4, .int x4), (5, .int x5), (6, .int x6)] [] := by
  subst hl
  unfold wX7_differ_72 at h
  obtain ⟨x6_1, e_2, h⟩ := lt_nm h
  refine r_iinc hC (j := 4) dX7_differ_72 (rfl : 72 + 3 = 75) rfl (zz := 1) (by decide) e_2 (by decide) (lv2 := [(6, .int x6_1), (0, .ref (G.1 0)), (3, .int x3), (4, .int x4), (5, .int x5)]) rfl ?_
  refine r_goto hC dX7_differ_75 (tgt := 52) (by decide) ?_
  exact (h52 x3 x4 x5 x6_1 σ h).sub [1, 2, 3, 4, 0] rfl
set_option maxHeartbeats 1000000 in
set_option maxRecDepth 100000 in
theorem sX7_differ_52 {G : Gx} {b k : Nat} {K : Kx} {l : Launch} (hl : K.2.1 = l) (hC : Cx YC G b K cX7_differ RX7 7 (some .int) k)  (hk : 7 ≤ k) (K42 : Int32 → Int32 → Int32 → Sg → Prop) (Q : Int32 → Sg → Prop) (h42 : ∀ (x3 : Int32) (x4 : Int32) (x5 : Int32) (σ : Sg), K42 x3 x4 x5 σ → V YC G K (Zi YC G K Q) 7 σ 42 [(0, .ref (G.1 0)), (3, .int x3), (4, .int x4), (5, .int x5)] []) : ∀ (n : Nat) (x3 : Int32) (x4 : Int32) (x5 : Int32) (x6 : Int32) (σ : Sg), wX7_differ_52 K42 Q n x3 x4 x5 x6 σ → V YC G K (Zi YC G K Q) 7 σ 52 [(0, .ref (G.1 0)), (3, .int x3), (4, .int x4), (5, .int x5), (6, .int x6)] [] := by
  subst hl
  intro n
  induction n with
  | zero =>
    intro x3 x4 x5 x6 σ h
    exact h.elim
  | succ n ih =>
    intro x3 x4 x5 x6 σ h
    have h : wX7_differ_52_b K42 (wX7_differ_52 K42 Q n) x3 x4 x5 x6 σ Q := h
    unfold wX7_differ_52_b at h
    refine r_iload hC 4 dX7_differ_52 (rfl : 52 + 2 = 54) rfl ?_
    refine r_iload_n hC 1 dX7_differ_54 (rfl : 54 + 1 = 55) rfl rfl ?_
    refine r_icmp_gt hC dX7_differ_55 (rfl : 55 + 3 = 58) (tgt := 78) (by decide) (fun q => ?_) (fun q => ?_)
    · replace h := if_t h q
      obtain ⟨x5_3, e_4, h⟩ := lt_nm h
      refine r_iinc hC (j := 3) dX7_differ_78 (rfl : 78 + 3 = 81) rfl (zz := 1) (by decide) e_4 (by decide) (lv2 := [(5, .int x5_3), (0, .ref (G.1 0)), (3, .int x3), (4, .int x4), (6, .int x6)]) rfl ?_
      refine r_goto hC dX7_differ_81 (tgt := 42) (by decide) ?_
      exact (h42 x3 x4 x5_3 σ h).sub [1, 2, 3, 0] rfl
    · replace h := if_f h q
      refine r_aload_n hC 0 dX7_differ_58 (rfl : 58 + 1 = 59) rfl rfl ?_
      refine r_iload hC 3 dX7_differ_59 (rfl : 59 + 2 = 61) rfl ?_
      refine r_iload hC 4 dX7_differ_61 (rfl : 61 + 2 = 63) rfl ?_
      refine r_callVi hC cs_X7_199 rfl (by omega) (mX7_isWrongAt hC.2.2.2.2.2.2.2.2.1 (k := k - 1) (by omega) x5 x6 σ _ h) rfl rfl (Nat.le_of_ble_eq_true rfl) dX7_differ_63 (rfl : 63 + 3 = 66) (fun r_6 σ_5 h => ?_)
      refine r_if_eq hC dX7_differ_66 (rfl : 66 + 3 = 69) (tgt := 72) (by decide) (fun q => ?_) (fun q => ?_)
      · replace h := if_t h q
        exact (sX7_differ_72 rfl hC hk K42 (wX7_differ_52 K42 Q n) Q h42 ih x3 x4 x5 x6 σ_5 h).sub [0, 1, 2, 3, 4] rfl
      · replace h := if_f h q
        obtain ⟨x4_7, e_8, h⟩ := lt_nm h
        refine r_iinc hC (j := 2) dX7_differ_69 (rfl : 69 + 3 = 72) rfl (zz := 1) (by decide) e_8 (by decide) (lv2 := [(4, .int x4_7), (0, .ref (G.1 0)), (3, .int x3), (5, .int x5), (6, .int x6)]) rfl ?_
        exact (sX7_differ_72 rfl hC hk K42 (wX7_differ_52 K42 Q n) Q h42 ih x3 x4_7 x5 x6 σ_5 h).sub [1, 2, 0, 3, 4] rfl
set_option maxHeartbeats 1000000 in
set_option maxRecDepth 100000 in
theorem sX7_differ_42 {G : Gx} {b k : Nat} {K : Kx} {l : Launch} (hl : K.2.1 = l) (hC : Cx YC G b K cX7_differ RX7 7 (some .int) k)  (hk : 7 ≤ k)  (Q : Int32 → Sg → Prop)  : ∀ (n : Nat) (x3 : Int32) (x4 : Int32) (x5 : Int32) (σ : Sg), wX7_differ_42  Q n x3 x4 x5 σ → V YC G K (Zi YC G K Q) 7 σ 42 [(0, .ref (G.1 0)), (3, .int x3), (4, .int x4), (5, .int x5)] [] := by
  subst hl
  intro n
  induction n with
  | zero =>
    intro x3 x4 x5 σ h
    exact h.elim
  | succ n ih =>
    intro x3 x4 x5 σ h
    have h : wX7_differ_42_b  (wX7_differ_42  Q n) x3 x4 x5 σ Q := h
    unfold wX7_differ_42_b at h
    refine r_iload hC 3 dX7_differ_42 (rfl : 42 + 2 = 44) rfl ?_
    refine r_iload_n hC 1 dX7_differ_44 (rfl : 44 + 1 = 45) rfl rfl ?_
    refine r_icmp_gt hC dX7_differ_45 (rfl : 45 + 3 = 48) (tgt := 84) (by decide) (fun q => ?_) (fun q => ?_)
    · replace h := if_t h q
      refine r_iload hC 2 dX7_differ_84 (rfl : 84 + 2 = 86) rfl ?_
      exact r_iret hC rfl h dX7_differ_86
    · replace h := if_f h q
      refine r_iload_n hC 1 dX7_differ_48 (rfl : 48 + 1 = 49) rfl rfl ?_
      refine r_ineg hC dX7_differ_49 (rfl : 49 + 1 = 50) ?_
      obtain ⟨x6_9, e_10, h⟩ := lt_nm h
      refine r_istore hC dX7_differ_50 (rfl : 50 + 2 = 52) (by decide) e_10 (lv2 := [(6, .int x6_9), (0, .ref (G.1 0)), (3, .int x3), (4, .int x4), (5, .int x5)]) rfl ?_
      obtain ⟨nn, h⟩ := h
      exact (sX7_differ_52 rfl hC hk (wX7_differ_42  Q n) Q ih nn x3 x4 x5 x6_9 σ h).sub [1, 2, 3, 4, 0] rfl
set_option maxHeartbeats 1000000 in
set_option maxRecDepth 100000 in
theorem mX7_differ {G : Gx} {b k : Nat} {l : Launch} (hS : Sok YC G)  (hk : 7 ≤ k) (x1 : Int32) (x2 : Int32) (x3 : Int32) (σ : Sg) (Q : Int32 → Sg → Prop) (h : wX7_differ  x1 x2 x3 σ Q) : Mi YC G b l yX7_differ cX7_differ 7 .int k [.ref (G.1 0), .int x1, .int x2, .int x3] σ Q := by
  refine enter hS (by decide +kernel) (Nat.le_of_ble_eq_true rfl) (lv := [(0, .ref (G.1 0)), (1, .int x1), (2, .int x2), (3, .int x3)]) rfl (fun K hl hC => ?_)
  subst hl
  unfold wX7_differ at h
  show V YC G K (Zi YC G K Q) 7 σ 0 [(0, .ref (G.1 0)), (1, .int x1), (2, .int x2), (3, .int x3)] []
  refine r_iload_n hC 3 dX7_differ_0 (rfl : 0 + 1 = 1) rfl rfl ?_
  refine r_iconst hC dX7_differ_1 (rfl : 1 + 1 = 2) (v := 0) (by decide) ?_
  refine r_bipush hC dX7_differ_2 (rfl : 2 + 2 = 4) (v := 6) (by decide) ?_
  refine r_callSi hC cs_X7_75 (by omega) (mX7_within hC.2.2.2.2.2.2.2.2.1 (k := k - 1) (by omega) x3 0 6 σ _ h) rfl rfl (Nat.le_of_ble_eq_true rfl) dX7_differ_4 (rfl : 4 + 3 = 7) (fun r_12 σ_11 h => ?_)
  refine r_if_eq hC dX7_differ_7 (rfl : 7 + 3 = 10) (tgt := 19) (by decide) (fun q => ?_) (fun q => ?_)
  · replace h := if_t h q
    refine r_iconst hC dX7_differ_19 (rfl : 19 + 1 = 20) (v := -1) (by decide) ?_
    exact r_iret hC rfl h dX7_differ_20
  · replace h := if_f h q
    refine r_aload_n hC 0 dX7_differ_10 (rfl : 10 + 1 = 11) rfl rfl ?_
    refine r_iload_n hC 1 dX7_differ_11 (rfl : 11 + 1 = 12) rfl rfl ?_
    refine r_iload_n hC 2 dX7_differ_12 (rfl : 12 + 1 = 13) rfl rfl ?_
    refine r_callVi hC cs_X7_184 rfl (by omega) (mX7_write hC.2.2.2.2.2.2.2.2.1 (k := k - 1) (by omega) x1 x2 σ_11 _ h) rfl rfl (Nat.le_of_ble_eq_true rfl) dX7_differ_13 (rfl : 13 + 3 = 16) (fun r_14 σ_13 h => ?_)
    refine r_if_ne hC dX7_differ_16 (rfl : 16 + 3 = 19) (tgt := 21) (by decide) (fun q => ?_) (fun q => ?_)
    · replace h := if_f h q
      refine r_aload_n hC 0 dX7_differ_21 (rfl : 21 + 1 = 22) rfl rfl ?_
      refine r_getr hC 0 6 5 27 (o := 27) fw_X7_45 rfl rfl dX7_differ_22 (rfl : 22 + 3 = 25) ?_
      refine r_iload_n hC 3 dX7_differ_25 (rfl : 25 + 1 = 26) rfl rfl ?_
      refine r_callVi hC cs_X7_196 rfl (by omega) (mX0_isNeverFree hC.2.2.2.2.2.2.2.2.1 (k := k - 1) (by omega) 27 x3 σ_13 _ h) rfl rfl (Nat.le_of_ble_eq_true rfl) dX7_differ_26 (rfl : 26 + 3 = 29) (fun r_16 σ_15 h => ?_)
      refine r_if_ne hC dX7_differ_29 (rfl : 29 + 3 = 32) (tgt := 35) (by decide) (fun q => ?_) (fun q => ?_)
      · replace h := if_f h q
        refine r_iconst hC dX7_differ_35 (rfl : 35 + 1 = 36) (v := 0) (by decide) ?_
        refine r_istore hC dX7_differ_36 (rfl : 36 + 2 = 38) (by decide) rfl (lv2 := [(4, .int 0), (0, .ref (G.1 0)), (1, .int x1), (2, .int x2), (3, .int x3)]) rfl ?_
        refine r_iload_n hC 4 dX7_differ_38 (rfl : 38 + 1 = 39) rfl rfl ?_
        refine r_ineg hC dX7_differ_39 (rfl : 39 + 1 = 40) ?_
        obtain ⟨x5_17, e_18, h⟩ := lt_nm h
        refine r_istore hC dX7_differ_40 (rfl : 40 + 2 = 42) (by decide) e_18 (lv2 := [(5, .int x5_17), (4, .int 0), (0, .ref (G.1 0)), (1, .int x1), (2, .int x2), (3, .int x3)]) rfl ?_
        obtain ⟨nn, h⟩ := h
        exact (sX7_differ_42 rfl hC hk  Q  nn x3 0 x5_17 σ_15 h).sub [2, 5, 1, 0] rfl
      · replace h := if_t h q
        refine r_bipush hC dX7_differ_32 (rfl : 32 + 2 = 34) (v := -2) (by decide) ?_
        exact r_iret hC rfl h dX7_differ_34
    · replace h := if_t h q
      refine r_iconst hC dX7_differ_19 (rfl : 19 + 1 = 20) (v := -1) (by decide) ?_
      exact r_iret hC rfl h dX7_differ_20
set_option maxHeartbeats 1000000 in
set_option maxRecDepth 100000 in
theorem sX7_first_49 {G : Gx} {b k : Nat} {K : Kx} {l : Launch} (hl : K.2.1 = l) (hC : Cx YC G b K cX7_first RX7 6 (some .int) k)  (hk : 7 ≤ k) (K39 : Int32 → Int32 → Sg → Prop) (Q : Int32 → Sg → Prop) (h39 : ∀ (x3 : Int32) (x4 : Int32) (σ : Sg), K39 x3 x4 σ → V YC G K (Zi YC G K Q) 6 σ 39 [(0, .ref (G.1 0)), (3, .int x3), (4, .int x4)] []) : ∀ (n : Nat) (x3 : Int32) (x4 : Int32) (x5 : Int32) (σ : Sg), wX7_first_49 K39 Q n x3 x4 x5 σ → V YC G K (Zi YC G K Q) 6 σ 49 [(0, .ref (G.1 0)), (3, .int x3), (4, .int x4), (5, .int x5)] [] := by
  subst hl
  intro n
  induction n with
  | zero =>
    intro x3 x4 x5 σ h
    exact h.elim
  | succ n ih =>
    intro x3 x4 x5 σ h
    have h : wX7_first_49_b K39 (wX7_first_49 K39 Q n) x3 x4 x5 σ Q := h
    unfold wX7_first_49_b at h
    refine r_iload hC 3 dX7_first_49 (rfl : 49 + 2 = 51) rfl ?_
    refine r_iload_n hC 1 dX7_first_51 (rfl : 51 + 1 = 52) rfl rfl ?_
    refine r_icmp_gt hC dX7_first_52 (rfl : 52 + 3 = 55) (tgt := 87) (by decide) (fun q => ?_) (fun q => ?_)
    · replace h := if_t h q
      obtain ⟨x4_1, e_2, h⟩ := lt_nm h
      refine r_iinc hC (j := 2) dX7_first_87 (rfl : 87 + 3 = 90) rfl (zz := 1) (by decide) e_2 (by decide) (lv2 := [(4, .int x4_1), (0, .ref (G.1 0)), (3, .int x3), (5, .int x5)]) rfl ?_
      refine r_goto hC dX7_first_90 (tgt := 39) (by decide) ?_
      exact (h39 x3 x4_1 σ h).sub [1, 2, 0] rfl
    · replace h := if_f h q
      refine r_aload_n hC 0 dX7_first_55 (rfl : 55 + 1 = 56) rfl rfl ?_
      refine r_iload hC 2 dX7_first_56 (rfl : 56 + 2 = 58) rfl ?_
      refine r_iload hC 3 dX7_first_58 (rfl : 58 + 2 = 60) rfl ?_
      refine r_callVi hC cs_X7_199 rfl (by omega) (mX7_isWrongAt hC.2.2.2.2.2.2.2.2.1 (k := k - 1) (by omega) x4 x5 σ _ h) rfl rfl (Nat.le_of_ble_eq_true rfl) dX7_first_60 (rfl : 60 + 3 = 63) (fun r_4 σ_3 h => ?_)
      refine r_if_eq hC dX7_first_63 (rfl : 63 + 3 = 66) (tgt := 81) (by decide) (fun q => ?_) (fun q => ?_)
      · replace h := if_t h q
        obtain ⟨x5_5, e_6, h⟩ := lt_nm h
        refine r_iinc hC (j := 3) dX7_first_81 (rfl : 81 + 3 = 84) rfl (zz := 1) (by decide) e_6 (by decide) (lv2 := [(5, .int x5_5), (0, .ref (G.1 0)), (3, .int x3), (4, .int x4)]) rfl ?_
        refine r_goto hC dX7_first_84 (tgt := 49) (by decide) ?_
        exact (ih x3 x4 x5_5 σ_3 h).sub [1, 2, 3, 0] rfl
      · replace h := if_f h q
        refine r_bipush hC dX7_first_66 (rfl : 66 + 2 = 68) (v := 100) (by decide) ?_
        refine r_iload hC 2 dX7_first_68 (rfl : 68 + 2 = 70) rfl ?_
        refine r_bipush hC dX7_first_70 (rfl : 70 + 2 = 72) (v := 6) (by decide) ?_
        refine r_iadd hC dX7_first_72 (rfl : 72 + 1 = 73) ?_
        refine r_imul hC dX7_first_73 (rfl : 73 + 1 = 74) ?_
        refine r_iload hC 3 dX7_first_74 (rfl : 74 + 2 = 76) rfl ?_
        refine r_iadd hC dX7_first_76 (rfl : 76 + 1 = 77) ?_
        refine r_bipush hC dX7_first_77 (rfl : 77 + 2 = 79) (v := 6) (by decide) ?_
        refine r_iadd hC dX7_first_79 (rfl : 79 + 1 = 80) ?_
        exact r_iret hC rfl h dX7_first_80
set_option maxHeartbeats 1000000 in
set_option maxRecDepth 100000 in
theorem sX7_first_39 {G : Gx} {b k : Nat} {K : Kx} {l : Launch} (hl : K.2.1 = l) (hC : Cx YC G b K cX7_first RX7 6 (some .int) k)  (hk : 7 ≤ k)  (Q : Int32 → Sg → Prop)  : ∀ (n : Nat) (x3 : Int32) (x4 : Int32) (σ : Sg), wX7_first_39  Q n x3 x4 σ → V YC G K (Zi YC G K Q) 6 σ 39 [(0, .ref (G.1 0)), (3, .int x3), (4, .int x4)] [] := by
  subst hl
  intro n
  induction n with
  | zero =>
    intro x3 x4 σ h
    exact h.elim
  | succ n ih =>
    intro x3 x4 σ h
    have h : wX7_first_39_b  (wX7_first_39  Q n) x3 x4 σ Q := h
    unfold wX7_first_39_b at h
    refine r_iload hC 2 dX7_first_39 (rfl : 39 + 2 = 41) rfl ?_
    refine r_iload_n hC 1 dX7_first_41 (rfl : 41 + 1 = 42) rfl rfl ?_
    refine r_icmp_gt hC dX7_first_42 (rfl : 42 + 3 = 45) (tgt := 93) (by decide) (fun q => ?_) (fun q => ?_)
    · replace h := if_t h q
      refine r_bipush hC dX7_first_93 (rfl : 93 + 2 = 95) (v := -5) (by decide) ?_
      exact r_iret hC rfl h dX7_first_95
    · replace h := if_f h q
      refine r_iload_n hC 1 dX7_first_45 (rfl : 45 + 1 = 46) rfl rfl ?_
      refine r_ineg hC dX7_first_46 (rfl : 46 + 1 = 47) ?_
      obtain ⟨x5_7, e_8, h⟩ := lt_nm h
      refine r_istore hC dX7_first_47 (rfl : 47 + 2 = 49) (by decide) e_8 (lv2 := [(5, .int x5_7), (0, .ref (G.1 0)), (3, .int x3), (4, .int x4)]) rfl ?_
      obtain ⟨nn, h⟩ := h
      exact (sX7_first_49 rfl hC hk (wX7_first_39  Q n) Q ih nn x3 x4 x5_7 σ h).sub [1, 2, 3, 0] rfl
set_option maxHeartbeats 1000000 in
set_option maxRecDepth 100000 in
theorem mX7_first {G : Gx} {b k : Nat} {l : Launch} (hS : Sok YC G)  (hk : 7 ≤ k) (x1 : Int32) (x2 : Int32) (x3 : Int32) (σ : Sg) (Q : Int32 → Sg → Prop) (h : wX7_first  x1 x2 x3 σ Q) : Mi YC G b l yX7_first cX7_first 6 .int k [.ref (G.1 0), .int x1, .int x2, .int x3] σ Q := by
  refine enter hS (by decide +kernel) (Nat.le_of_ble_eq_true rfl) (lv := [(0, .ref (G.1 0)), (1, .int x1), (2, .int x2), (3, .int x3)]) rfl (fun K hl hC => ?_)
  subst hl
  unfold wX7_first at h
  show V YC G K (Zi YC G K Q) 6 σ 0 [(0, .ref (G.1 0)), (1, .int x1), (2, .int x2), (3, .int x3)] []
  refine r_iload_n hC 3 dX7_first_0 (rfl : 0 + 1 = 1) rfl rfl ?_
  refine r_iconst hC dX7_first_1 (rfl : 1 + 1 = 2) (v := 0) (by decide) ?_
  refine r_bipush hC dX7_first_2 (rfl : 2 + 2 = 4) (v := 6) (by decide) ?_
  refine r_callSi hC cs_X7_75 (by omega) (mX7_within hC.2.2.2.2.2.2.2.2.1 (k := k - 1) (by omega) x3 0 6 σ _ h) rfl rfl (Nat.le_of_ble_eq_true rfl) dX7_first_4 (rfl : 4 + 3 = 7) (fun r_10 σ_9 h => ?_)
  refine r_if_eq hC dX7_first_7 (rfl : 7 + 3 = 10) (tgt := 19) (by decide) (fun q => ?_) (fun q => ?_)
  · replace h := if_t h q
    refine r_iconst hC dX7_first_19 (rfl : 19 + 1 = 20) (v := -1) (by decide) ?_
    exact r_iret hC rfl h dX7_first_20
  · replace h := if_f h q
    refine r_aload_n hC 0 dX7_first_10 (rfl : 10 + 1 = 11) rfl rfl ?_
    refine r_iload_n hC 1 dX7_first_11 (rfl : 11 + 1 = 12) rfl rfl ?_
    refine r_iload_n hC 2 dX7_first_12 (rfl : 12 + 1 = 13) rfl rfl ?_
    refine r_callVi hC cs_X7_184 rfl (by omega) (mX7_write hC.2.2.2.2.2.2.2.2.1 (k := k - 1) (by omega) x1 x2 σ_9 _ h) rfl rfl (Nat.le_of_ble_eq_true rfl) dX7_first_13 (rfl : 13 + 3 = 16) (fun r_12 σ_11 h => ?_)
    refine r_if_ne hC dX7_first_16 (rfl : 16 + 3 = 19) (tgt := 21) (by decide) (fun q => ?_) (fun q => ?_)
    · replace h := if_f h q
      refine r_aload_n hC 0 dX7_first_21 (rfl : 21 + 1 = 22) rfl rfl ?_
      refine r_getr hC 0 6 5 27 (o := 27) fw_X7_45 rfl rfl dX7_first_22 (rfl : 22 + 3 = 25) ?_
      refine r_iload_n hC 3 dX7_first_25 (rfl : 25 + 1 = 26) rfl rfl ?_
      refine r_callVi hC cs_X7_196 rfl (by omega) (mX0_isNeverFree hC.2.2.2.2.2.2.2.2.1 (k := k - 1) (by omega) 27 x3 σ_11 _ h) rfl rfl (Nat.le_of_ble_eq_true rfl) dX7_first_26 (rfl : 26 + 3 = 29) (fun r_14 σ_13 h => ?_)
      refine r_if_ne hC dX7_first_29 (rfl : 29 + 3 = 32) (tgt := 35) (by decide) (fun q => ?_) (fun q => ?_)
      · replace h := if_f h q
        refine r_iload_n hC 3 dX7_first_35 (rfl : 35 + 1 = 36) rfl rfl ?_
        refine r_ineg hC dX7_first_36 (rfl : 36 + 1 = 37) ?_
        obtain ⟨x4_15, e_16, h⟩ := lt_nm h
        refine r_istore hC dX7_first_37 (rfl : 37 + 2 = 39) (by decide) e_16 (lv2 := [(4, .int x4_15), (0, .ref (G.1 0)), (1, .int x1), (2, .int x2), (3, .int x3)]) rfl ?_
        obtain ⟨nn, h⟩ := h
        exact (sX7_first_39 rfl hC hk  Q  nn x3 x4_15 σ_13 h).sub [1, 4, 0] rfl
      · replace h := if_t h q
        refine r_bipush hC dX7_first_32 (rfl : 32 + 2 = 34) (v := -2) (by decide) ?_
        exact r_iret hC rfl h dX7_first_34
    · replace h := if_t h q
      refine r_iconst hC dX7_first_19 (rfl : 19 + 1 = 20) (v := -1) (by decide) ?_
      exact r_iret hC rfl h dX7_first_20
