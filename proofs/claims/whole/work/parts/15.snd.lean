set_option maxHeartbeats 1000000 in
set_option maxRecDepth 100000 in
theorem sX7_node_20 {G : Gx} {b k : Nat} {K : Kx} {l : Launch} (hl : K.2.1 = l) (hC : Cx YC G b K cX7_node RX7 3 (some .int) k)  (hk : 3 ≤ k)  (Q : Int32 → Sg → Prop)  (x1 : Int32) (x2 : Int32) (σ : Sg) (h : wX7_node_20  x1 x2 σ Q) : V YC G K (Zi YC G K Q) 3 σ 20 [(0, .ref (G.1 0)), (1, .int x1), (2, .int x2)] [] := by
  subst hl
  unfold wX7_node_20 at h
  refine r_aload_n hC 0 dX7_node_20 (rfl : 20 + 1 = 21) rfl rfl ?_
  refine r_getr hC 0 6 1 8 (o := 8) fw_X7_19 rfl rfl dX7_node_21 (rfl : 21 + 3 = 24) ?_
  refine r_geti hC 8 3 2 fw_X7_109 rfl dX7_node_24 (rfl : 24 + 3 = 27) ?_
  refine r_iload_n hC 1 dX7_node_27 (rfl : 27 + 1 = 28) rfl rfl ?_
  refine r_callSi hC cs_X7_112 (by omega) (mX7_partsOf hC.2.2.2.2.2.2.2.2.1 (k := k - 1) (by omega) x1 σ _ h) rfl rfl (Nat.le_of_ble_eq_true rfl) dX7_node_28 (rfl : 28 + 3 = 31) (fun r_2 σ_1 h => ?_)
  refine r_icmp_ge hC dX7_node_31 (rfl : 31 + 3 = 34) (tgt := 37) (by decide) (fun q => ?_) (fun q => ?_)
  · replace h := if_t h q
    refine r_aload_n hC 0 dX7_node_37 (rfl : 37 + 1 = 38) rfl rfl ?_
    refine r_getr hC 0 6 1 8 (o := 8) fw_X7_19 rfl rfl dX7_node_38 (rfl : 38 + 3 = 41) ?_
    refine r_getr hC 8 3 0 9 (o := 1) fw_X7_116 rfl rfl dX7_node_41 (rfl : 41 + 3 = 44) ?_
    refine r_geti hC 9 4 3 fw_X7_93 rfl dX7_node_44 (rfl : 44 + 3 = 47) ?_
    refine r_bipush hC dX7_node_47 (rfl : 47 + 2 = 49) (v := 60) (by decide) ?_
    refine r_icmp_lt hC dX7_node_49 (rfl : 49 + 3 = 52) (tgt := 55) (by decide) (fun q => ?_) (fun q => ?_)
    · replace h := if_t h q
      refine r_aload_n hC 0 dX7_node_55 (rfl : 55 + 1 = 56) rfl rfl ?_
      refine r_getr hC 0 6 1 8 (o := 8) fw_X7_19 rfl rfl dX7_node_56 (rfl : 56 + 3 = 59) ?_
      refine r_iload_n hC 1 dX7_node_59 (rfl : 59 + 1 = 60) rfl rfl ?_
      refine r_iload_n hC 2 dX7_node_60 (rfl : 60 + 1 = 61) rfl rfl ?_
      refine r_callVv hC cs_X7_119 rfl (by omega) (mX3_put hC.2.2.2.2.2.2.2.2.1 (k := k - 1) (by omega) x1 x2 σ_1 _ h) rfl rfl (Nat.le_of_ble_eq_true rfl) dX7_node_61 (rfl : 61 + 3 = 64) (fun  σ_3 h => ?_)
      refine r_aload_n hC 0 dX7_node_64 (rfl : 64 + 1 = 65) rfl rfl ?_
      refine r_getr hC 0 6 1 8 (o := 8) fw_X7_19 rfl rfl dX7_node_65 (rfl : 65 + 3 = 68) ?_
      refine r_geti hC 8 3 2 fw_X7_109 rfl dX7_node_68 (rfl : 68 + 3 = 71) ?_
      exact r_iret hC rfl h dX7_node_71
    · replace h := if_f h q
      refine r_bipush hC dX7_node_52 (rfl : 52 + 2 = 54) (v := -3) (by decide) ?_
      exact r_iret hC rfl h dX7_node_54
  · replace h := if_f h q
    refine r_bipush hC dX7_node_34 (rfl : 34 + 2 = 36) (v := -2) (by decide) ?_
    exact r_iret hC rfl h dX7_node_36
set_option maxHeartbeats 1000000 in
set_option maxRecDepth 100000 in
theorem mX7_node {G : Gx} {b k : Nat} {l : Launch} (hS : Sok YC G)  (hk : 3 ≤ k) (x1 : Int32) (x2 : Int32) (σ : Sg) (Q : Int32 → Sg → Prop) (h : wX7_node  x1 x2 σ Q) : Mi YC G b l yX7_node cX7_node 3 .int k [.ref (G.1 0), .int x1, .int x2] σ Q := by
  refine enter hS (by decide +kernel) (Nat.le_of_ble_eq_true rfl) (lv := [(0, .ref (G.1 0)), (1, .int x1), (2, .int x2)]) rfl (fun K hl hC => ?_)
  subst hl
  unfold wX7_node at h
  show V YC G K (Zi YC G K Q) 3 σ 0 [(0, .ref (G.1 0)), (1, .int x1), (2, .int x2)] []
  refine r_iload_n hC 1 dX7_node_0 (rfl : 0 + 1 = 1) rfl rfl ?_
  refine r_iconst hC dX7_node_1 (rfl : 1 + 1 = 2) (v := 0) (by decide) ?_
  refine r_bipush hC dX7_node_2 (rfl : 2 + 2 = 4) (v := 8) (by decide) ?_
  refine r_callSi hC cs_X7_75 (by omega) (mX7_within hC.2.2.2.2.2.2.2.2.1 (k := k - 1) (by omega) x1 0 8 σ _ h) rfl rfl (Nat.le_of_ble_eq_true rfl) dX7_node_4 (rfl : 4 + 3 = 7) (fun r_5 σ_4 h => ?_)
  refine r_if_eq hC dX7_node_7 (rfl : 7 + 3 = 10) (tgt := 18) (by decide) (fun q => ?_) (fun q => ?_)
  · replace h := if_t h q
    refine r_iconst hC dX7_node_18 (rfl : 18 + 1 = 19) (v := -1) (by decide) ?_
    exact r_iret hC rfl h dX7_node_19
  · replace h := if_f h q
    refine r_iload_n hC 1 dX7_node_10 (rfl : 10 + 1 = 11) rfl rfl ?_
    refine r_if_eq hC dX7_node_11 (rfl : 11 + 3 = 14) (tgt := 20) (by decide) (fun q => ?_) (fun q => ?_)
    · replace h := if_t h q
      exact (sX7_node_20 rfl hC hk  Q  x1 x2 σ_4 h).sub [0, 1, 2] rfl
    · replace h := if_f h q
      refine r_iload_n hC 2 dX7_node_14 (rfl : 14 + 1 = 15) rfl rfl ?_
      refine r_if_eq hC dX7_node_15 (rfl : 15 + 3 = 18) (tgt := 20) (by decide) (fun q => ?_) (fun q => ?_)
      · replace h := if_t h q
        exact (sX7_node_20 rfl hC hk  Q  x1 x2 σ_4 h).sub [0, 1, 2] rfl
      · replace h := if_f h q
        refine r_iconst hC dX7_node_18 (rfl : 18 + 1 = 19) (v := -1) (by decide) ?_
        exact r_iret hC rfl h dX7_node_19
set_option maxHeartbeats 1000000 in
set_option maxRecDepth 100000 in
theorem mX7_keep {G : Gx} {b k : Nat} {l : Launch} (hS : Sok YC G)  (hk : 3 ≤ k) (x1 : Int32) (σ : Sg) (Q : Int32 → Sg → Prop) (h : wX7_keep  x1 σ Q) : Mi YC G b l yX7_keep cX7_keep 3 .int k [.ref (G.1 0), .int x1] σ Q := by
  refine enter hS (by decide +kernel) (Nat.le_of_ble_eq_true rfl) (lv := [(0, .ref (G.1 0)), (1, .int x1)]) rfl (fun K hl hC => ?_)
  subst hl
  unfold wX7_keep at h
  show V YC G K (Zi YC G K Q) 3 σ 0 [(0, .ref (G.1 0)), (1, .int x1)] []
  refine r_aload_n hC 0 dX7_keep_0 (rfl : 0 + 1 = 1) rfl rfl ?_
  refine r_iload_n hC 1 dX7_keep_1 (rfl : 1 + 1 = 2) rfl rfl ?_
  refine r_callVq hC cs_X7_85 rfl (by omega) (mX7_placeAt hC.2.2.2.2.2.2.2.2.1 (k := k - 1) (by omega) x1 σ _ h) rfl rfl (Nat.le_of_ble_eq_true rfl) dX7_keep_2 (rfl : 2 + 3 = 5) (fun o_2 σ_1 h => ?_)
  refine r_astore_nQ hC dX7_keep_5 (rfl : 5 + 1 = 6) rfl (by decide) (lv2 := [(2, rv G o_2), (0, .ref (G.1 0)), (1, .int x1)]) rfl ?_
  refine r_aload_nQ hC 0 dX7_keep_6 (rfl : 6 + 1 = 7) rfl rfl ?_
  refine r_ifnonnull hC dX7_keep_7 (rfl : 7 + 3 = 10) (tgt := 12) (by decide) (fun z_3 q => ?_) (fun q => ?_)
  · subst q
    replace h := h.2 z_3 rfl
    refine r_aload_n hC 1 dX7_keep_12 (rfl : 12 + 1 = 13) rfl rfl ?_
    refine r_getr hC 0 6 1 8 (o := 8) fw_X7_19 rfl rfl dX7_keep_13 (rfl : 13 + 3 = 16) ?_
    refine r_geti hC 8 3 2 fw_X7_109 rfl dX7_keep_16 (rfl : 16 + 3 = 19) ?_
    refine r_iconst hC dX7_keep_19 (rfl : 19 + 1 = 20) (v := 1) (by decide) ?_
    refine r_icmp_eq hC dX7_keep_20 (rfl : 20 + 3 = 23) (tgt := 26) (by decide) (fun q => ?_) (fun q => ?_)
    · replace h := if_t h q
      refine r_aload_n hC 0 dX7_keep_26 (rfl : 26 + 1 = 27) rfl rfl ?_
      refine r_aload_n hC 1 dX7_keep_27 (rfl : 27 + 1 = 28) rfl rfl ?_
      refine r_getr hC 0 6 1 8 (o := 8) fw_X7_19 rfl rfl dX7_keep_28 (rfl : 28 + 3 = 31) ?_
      refine r_getr hC 8 3 0 9 (o := 1) fw_X7_116 rfl rfl dX7_keep_31 (rfl : 31 + 3 = 34) ?_
      obtain ⟨ty_4, h⟩ := h
      refine r_callVv hC cs_X7_122 ty_4 (by omega) (mX5_become hC.2.2.2.2.2.2.2.2.1 (k := k - 1) (by omega) z_3 9 σ_1 _ h) rfl rfl (Nat.le_of_ble_eq_true rfl) dX7_keep_34 (rfl : 34 + 3 = 37) (fun  σ_5 h => ?_)
      refine r_aload_n hC 1 dX7_keep_37 (rfl : 37 + 1 = 38) rfl rfl ?_
      refine r_getr hC 0 6 1 8 (o := 8) fw_X7_19 rfl rfl dX7_keep_38 (rfl : 38 + 3 = 41) ?_
      refine r_callVv hC cs_X7_126 rfl (by omega) (mX3_clear hC.2.2.2.2.2.2.2.2.1 (k := k - 1) (by omega)  σ_5 _ h) rfl rfl (Nat.le_of_ble_eq_true rfl) dX7_keep_41 (rfl : 41 + 3 = 44) (fun  σ_6 h => ?_)
      refine r_aload_n hC 0 dX7_keep_44 (rfl : 44 + 1 = 45) rfl rfl ?_
      refine r_geti hC z_3 4 3 fw_X7_93 ty_4 dX7_keep_45 (rfl : 45 + 3 = 48) ?_
      exact r_iret hC rfl h dX7_keep_48
    · replace h := if_f h q
      refine r_bipush hC dX7_keep_23 (rfl : 23 + 2 = 25) (v := -2) (by decide) ?_
      exact r_iret hC rfl h dX7_keep_25
  · subst q
    replace h := h.1 rfl
    refine r_iconst hC dX7_keep_10 (rfl : 10 + 1 = 11) (v := -1) (by decide) ?_
    exact r_iret hC rfl h dX7_keep_11
set_option maxHeartbeats 1000000 in
set_option maxRecDepth 100000 in
theorem mX7_drop {G : Gx} {b k : Nat} {l : Launch} (hS : Sok YC G)  (hk : 3 ≤ k) (x1 : Int32) (σ : Sg) (Q : Int32 → Sg → Prop) (h : wX7_drop  x1 σ Q) : Mi YC G b l yX7_drop cX7_drop 4 .int k [.ref (G.1 0), .int x1] σ Q := by
  refine enter hS (by decide +kernel) (Nat.le_of_ble_eq_true rfl) (lv := [(0, .ref (G.1 0)), (1, .int x1)]) rfl (fun K hl hC => ?_)
  subst hl
  unfold wX7_drop at h
  show V YC G K (Zi YC G K Q) 4 σ 0 [(0, .ref (G.1 0)), (1, .int x1)] []
  refine r_aload_n hC 0 dX7_drop_0 (rfl : 0 + 1 = 1) rfl rfl ?_
  refine r_iload_n hC 1 dX7_drop_1 (rfl : 1 + 1 = 2) rfl rfl ?_
  refine r_callVq hC cs_X7_96 rfl (by omega) (mX7_programAt hC.2.2.2.2.2.2.2.2.1 (k := k - 1) (by omega) x1 σ _ h) rfl rfl (Nat.le_of_ble_eq_true rfl) dX7_drop_2 (rfl : 2 + 3 = 5) (fun o_2 σ_1 h => ?_)
  refine r_astore_nQ hC dX7_drop_5 (rfl : 5 + 1 = 6) rfl (by decide) (lv2 := [(2, rv G o_2), (0, .ref (G.1 0)), (1, .int x1)]) rfl ?_
  refine r_aload_nQ hC 0 dX7_drop_6 (rfl : 6 + 1 = 7) rfl rfl ?_
  refine r_ifnonnull hC dX7_drop_7 (rfl : 7 + 3 = 10) (tgt := 12) (by decide) (fun z_3 q => ?_) (fun q => ?_)
  · subst q
    replace h := h.2 z_3 rfl
    refine r_aload_n hC 0 dX7_drop_12 (rfl : 12 + 1 = 13) rfl rfl ?_
    obtain ⟨ty_4, h⟩ := h
    refine r_geti hC z_3 4 3 fw_X7_93 ty_4 dX7_drop_13 (rfl : 13 + 3 = 16) ?_
    obtain ⟨x3_5, e_6, h⟩ := lt_nm h
    refine r_istore_n hC dX7_drop_16 (rfl : 16 + 1 = 17) rfl (by decide) e_6 (lv2 := [(3, .int x3_5), (2, .ref (G.1 z_3)), (0, .ref (G.1 0)), (1, .int x1)]) rfl ?_
    refine r_aload_n hC 1 dX7_drop_17 (rfl : 17 + 1 = 18) rfl rfl ?_
    refine r_callVv hC cs_X7_129 ty_4 (by omega) (mX5_clear hC.2.2.2.2.2.2.2.2.1 (k := k - 1) (by omega) z_3 σ_1 _ h) rfl rfl (Nat.le_of_ble_eq_true rfl) dX7_drop_18 (rfl : 18 + 3 = 21) (fun  σ_7 h => ?_)
    refine r_iload_n hC 0 dX7_drop_21 (rfl : 21 + 1 = 22) rfl rfl ?_
    exact r_iret hC rfl h dX7_drop_22
  · subst q
    replace h := h.1 rfl
    refine r_iconst hC dX7_drop_10 (rfl : 10 + 1 = 11) (v := -1) (by decide) ?_
    exact r_iret hC rfl h dX7_drop_11
set_option maxHeartbeats 1000000 in
set_option maxRecDepth 100000 in
theorem mX7_read {G : Gx} {b k : Nat} {l : Launch} (hS : Sok YC G)  (hk : 3 ≤ k) (x1 : Int32) (x2 : Int32) (x3 : Int32) (σ : Sg) (Q : Int32 → Sg → Prop) (h : wX7_read  x1 x2 x3 σ Q) : Mi YC G b l yX7_read cX7_read 5 .int k [.ref (G.1 0), .int x1, .int x2, .int x3] σ Q := by
  refine enter hS (by decide +kernel) (Nat.le_of_ble_eq_true rfl) (lv := [(0, .ref (G.1 0)), (1, .int x1), (2, .int x2), (3, .int x3)]) rfl (fun K hl hC => ?_)
  subst hl
  unfold wX7_read at h
  show V YC G K (Zi YC G K Q) 5 σ 0 [(0, .ref (G.1 0)), (1, .int x1), (2, .int x2), (3, .int x3)] []
  refine r_aload_n hC 0 dX7_read_0 (rfl : 0 + 1 = 1) rfl rfl ?_
  refine r_iload_n hC 1 dX7_read_1 (rfl : 1 + 1 = 2) rfl rfl ?_
  refine r_callVq hC cs_X7_96 rfl (by omega) (mX7_programAt hC.2.2.2.2.2.2.2.2.1 (k := k - 1) (by omega) x1 σ _ h) rfl rfl (Nat.le_of_ble_eq_true rfl) dX7_read_2 (rfl : 2 + 3 = 5) (fun o_2 σ_1 h => ?_)
  refine r_astoreQ hC dX7_read_5 (rfl : 5 + 2 = 7) (by decide) (lv2 := [(4, rv G o_2), (0, .ref (G.1 0)), (1, .int x1), (2, .int x2), (3, .int x3)]) rfl ?_
  refine r_aloadQ hC 0 dX7_read_7 (rfl : 7 + 2 = 9) rfl ?_
  refine r_ifnonnull hC dX7_read_9 (rfl : 9 + 3 = 12) (tgt := 17) (by decide) (fun z_3 q => ?_) (fun q => ?_)
  · subst q
    replace h := h.2 z_3 rfl
    refine r_aload hC 0 dX7_read_17 (rfl : 17 + 2 = 19) rfl ?_
    refine r_iload_n hC 3 dX7_read_19 (rfl : 19 + 1 = 20) rfl rfl ?_
    refine r_iload_n hC 4 dX7_read_20 (rfl : 20 + 1 = 21) rfl rfl ?_
    refine r_callSi hC cs_X7_131 (by omega) (mX7_tell hC.2.2.2.2.2.2.2.2.1 (k := k - 1) (by omega) z_3 x2 x3 σ_1 _ h) rfl rfl (Nat.le_of_ble_eq_true rfl) dX7_read_21 (rfl : 21 + 3 = 24) (fun r_5 σ_4 h => ?_)
    exact r_iret hC rfl h dX7_read_24
  · subst q
    replace h := h.1 rfl
    refine r_ldc hC dX7_read_12 (rfl : 12 + 2 = 14) wd_459 ?_
    refine r_goto hC dX7_read_14 (tgt := 24) (by decide) ?_
    exact r_iret hC rfl h dX7_read_24
set_option maxHeartbeats 1000000 in
set_option maxRecDepth 100000 in
theorem mX7_turn {G : Gx} {b k : Nat} {l : Launch} (hS : Sok YC G)  (hk : 2 ≤ k) (x1 : Int32) (x2 : Int32) (x3 : Int32) (σ : Sg) (Q : Int32 → Sg → Prop) (h : wX7_turn  x1 x2 x3 σ Q) : Mi YC G b l yX7_turn cX7_turn 5 .int k [.ref (G.1 0), .int x1, .int x2, .int x3] σ Q := by
  refine enter hS (by decide +kernel) (Nat.le_of_ble_eq_true rfl) (lv := [(0, .ref (G.1 0)), (1, .int x1), (2, .int x2), (3, .int x3)]) rfl (fun K hl hC => ?_)
  subst hl
  unfold wX7_turn at h
  show V YC G K (Zi YC G K Q) 5 σ 0 [(0, .ref (G.1 0)), (1, .int x1), (2, .int x2), (3, .int x3)] []
  refine r_aload_n hC 0 dX7_turn_0 (rfl : 0 + 1 = 1) rfl rfl ?_
  refine r_iload_n hC 1 dX7_turn_1 (rfl : 1 + 1 = 2) rfl rfl ?_
  refine r_callVq hC cs_X7_160 rfl (by omega) (mX7_makerAt hC.2.2.2.2.2.2.2.2.1 (k := k - 1) (by omega) x1 σ _ h) rfl rfl (Nat.le_of_ble_eq_true rfl) dX7_turn_2 (rfl : 2 + 3 = 5) (fun o_2 σ_1 h => ?_)
  refine r_astoreQ hC dX7_turn_5 (rfl : 5 + 2 = 7) (by decide) (lv2 := [(4, rv G o_2), (0, .ref (G.1 0)), (1, .int x1), (2, .int x2), (3, .int x3)]) rfl ?_
  refine r_aloadQ hC 0 dX7_turn_7 (rfl : 7 + 2 = 9) rfl ?_
  refine r_ifnull hC dX7_turn_9 (rfl : 9 + 3 = 12) (tgt := 31) (by decide) (fun q => ?_) (fun z_3 q => ?_)
  · subst q
    replace h := h.1 rfl
    refine r_iconst hC dX7_turn_31 (rfl : 31 + 1 = 32) (v := -1) (by decide) ?_
    exact r_iret hC rfl h dX7_turn_32
  · subst q
    replace h := h.2 z_3 rfl
    refine r_iload_n hC 3 dX7_turn_12 (rfl : 12 + 1 = 13) rfl rfl ?_
    refine r_iconst hC dX7_turn_13 (rfl : 13 + 1 = 14) (v := 0) (by decide) ?_
    refine r_bipush hC dX7_turn_14 (rfl : 14 + 2 = 16) (v := 6) (by decide) ?_
    refine r_callSi hC cs_X7_75 (by omega) (mX7_within hC.2.2.2.2.2.2.2.2.1 (k := k - 1) (by omega) x2 0 6 σ_1 _ h) rfl rfl (Nat.le_of_ble_eq_true rfl) dX7_turn_16 (rfl : 16 + 3 = 19) (fun r_5 σ_4 h => ?_)
    refine r_if_eq hC dX7_turn_19 (rfl : 19 + 3 = 22) (tgt := 31) (by decide) (fun q => ?_) (fun q => ?_)
    · replace h := if_t h q
      refine r_iconst hC dX7_turn_31 (rfl : 31 + 1 = 32) (v := -1) (by decide) ?_
      exact r_iret hC rfl h dX7_turn_32
    · replace h := if_f h q
      refine r_iload_n hC 4 dX7_turn_22 (rfl : 22 + 1 = 23) rfl rfl ?_
      refine r_iconst hC dX7_turn_23 (rfl : 23 + 1 = 24) (v := 0) (by decide) ?_
      refine r_iconst hC dX7_turn_24 (rfl : 24 + 1 = 25) (v := 2) (by decide) ?_
      refine r_callSi hC cs_X7_75 (by omega) (mX7_within hC.2.2.2.2.2.2.2.2.1 (k := k - 1) (by omega) x3 0 2 σ_4 _ h) rfl rfl (Nat.le_of_ble_eq_true rfl) dX7_turn_25 (rfl : 25 + 3 = 28) (fun r_7 σ_6 h => ?_)
      refine r_if_ne hC dX7_turn_28 (rfl : 28 + 3 = 31) (tgt := 33) (by decide) (fun q => ?_) (fun q => ?_)
      · replace h := if_f h q
        refine r_aload hC 0 dX7_turn_33 (rfl : 33 + 2 = 35) rfl ?_
        obtain ⟨ty_8, h⟩ := h
        refine r_geti hC z_3 2 2 fw_X7_164 ty_8 dX7_turn_35 (rfl : 35 + 3 = 38) ?_
        refine r_bipush hC dX7_turn_38 (rfl : 38 + 2 = 40) (v := 10) (by decide) ?_
        refine r_icmp_lt hC dX7_turn_40 (rfl : 40 + 3 = 43) (tgt := 46) (by decide) (fun q => ?_) (fun q => ?_)
        · replace h := if_t h q
          refine r_aload hC 0 dX7_turn_46 (rfl : 46 + 2 = 48) rfl ?_
          refine r_iload_n hC 3 dX7_turn_48 (rfl : 48 + 1 = 49) rfl rfl ?_
          refine r_iload_n hC 4 dX7_turn_49 (rfl : 49 + 1 = 50) rfl rfl ?_
          refine r_callVv hC cs_X7_167 ty_8 (by omega) (mX2_addTurn hC.2.2.2.2.2.2.2.2.1 (k := k - 1) (by omega) z_3 x2 x3 σ_6 _ h) rfl rfl (Nat.le_of_ble_eq_true rfl) dX7_turn_50 (rfl : 50 + 3 = 53) (fun  σ_9 h => ?_)
          refine r_aload hC 0 dX7_turn_53 (rfl : 53 + 2 = 55) rfl ?_
          refine r_geti hC z_3 2 2 fw_X7_164 ty_8 dX7_turn_55 (rfl : 55 + 3 = 58) ?_
          exact r_iret hC rfl h dX7_turn_58
        · replace h := if_f h q
          refine r_bipush hC dX7_turn_43 (rfl : 43 + 2 = 45) (v := -3) (by decide) ?_
          exact r_iret hC rfl h dX7_turn_45
      · replace h := if_t h q
        refine r_iconst hC dX7_turn_31 (rfl : 31 + 1 = 32) (v := -1) (by decide) ?_
        exact r_iret hC rfl h dX7_turn_32
set_option maxHeartbeats 1000000 in
set_option maxRecDepth 100000 in
theorem mX7_plant {G : Gx} {b k : Nat} {l : Launch} (hS : Sok YC G)  (hk : 2 ≤ k) (x1 : Int32) (x2 : Int32) (x3 : Int32) (σ : Sg) (Q : Int32 → Sg → Prop) (h : wX7_plant  x1 x2 x3 σ Q) : Mi YC G b l yX7_plant cX7_plant 6 .int k [.ref (G.1 0), .int x1, .int x2, .int x3] σ Q := by
  refine enter hS (by decide +kernel) (Nat.le_of_ble_eq_true rfl) (lv := [(0, .ref (G.1 0)), (1, .int x1), (2, .int x2), (3, .int x3)]) rfl (fun K hl hC => ?_)
  subst hl
  unfold wX7_plant at h
  show V YC G K (Zi YC G K Q) 6 σ 0 [(0, .ref (G.1 0)), (1, .int x1), (2, .int x2), (3, .int x3)] []
  refine r_aload_n hC 0 dX7_plant_0 (rfl : 0 + 1 = 1) rfl rfl ?_
  refine r_iload_n hC 1 dX7_plant_1 (rfl : 1 + 1 = 2) rfl rfl ?_
  refine r_callVq hC cs_X7_160 rfl (by omega) (mX7_makerAt hC.2.2.2.2.2.2.2.2.1 (k := k - 1) (by omega) x1 σ _ h) rfl rfl (Nat.le_of_ble_eq_true rfl) dX7_plant_2 (rfl : 2 + 3 = 5) (fun o_2 σ_1 h => ?_)
  refine r_astoreQ hC dX7_plant_5 (rfl : 5 + 2 = 7) (by decide) (lv2 := [(4, rv G o_2), (0, .ref (G.1 0)), (1, .int x1), (2, .int x2), (3, .int x3)]) rfl ?_
  refine r_aloadQ hC 0 dX7_plant_7 (rfl : 7 + 2 = 9) rfl ?_
  refine r_ifnull hC dX7_plant_9 (rfl : 9 + 3 = 12) (tgt := 30) (by decide) (fun q => ?_) (fun z_3 q => ?_)
  · subst q
    replace h := h.1 rfl
    refine r_iconst hC dX7_plant_30 (rfl : 30 + 1 = 31) (v := -1) (by decide) ?_
    exact r_iret hC rfl h dX7_plant_31
  · subst q
    replace h := h.2 z_3 rfl
    refine r_aload hC 0 dX7_plant_12 (rfl : 12 + 2 = 14) rfl ?_
    refine r_iload_n hC 3 dX7_plant_14 (rfl : 14 + 1 = 15) rfl rfl ?_
    obtain ⟨ty_4, h⟩ := h
    refine r_callVi hC cs_X7_170 ty_4 (by omega) (mX2_has hC.2.2.2.2.2.2.2.2.1 (k := k - 1) (by omega) z_3 x2 σ_1 _ h) rfl rfl (Nat.le_of_ble_eq_true rfl) dX7_plant_15 (rfl : 15 + 3 = 18) (fun r_6 σ_5 h => ?_)
    refine r_if_eq hC dX7_plant_18 (rfl : 18 + 3 = 21) (tgt := 30) (by decide) (fun q => ?_) (fun q => ?_)
    · replace h := if_t h q
      refine r_iconst hC dX7_plant_30 (rfl : 30 + 1 = 31) (v := -1) (by decide) ?_
      exact r_iret hC rfl h dX7_plant_31
    · replace h := if_f h q
      refine r_iload_n hC 4 dX7_plant_21 (rfl : 21 + 1 = 22) rfl rfl ?_
      refine r_iconst hC dX7_plant_22 (rfl : 22 + 1 = 23) (v := 0) (by decide) ?_
      refine r_iconst hC dX7_plant_23 (rfl : 23 + 1 = 24) (v := 2) (by decide) ?_
      refine r_callSi hC cs_X7_75 (by omega) (mX7_within hC.2.2.2.2.2.2.2.2.1 (k := k - 1) (by omega) x3 0 2 σ_5 _ h) rfl rfl (Nat.le_of_ble_eq_true rfl) dX7_plant_24 (rfl : 24 + 3 = 27) (fun r_8 σ_7 h => ?_)
      refine r_if_ne hC dX7_plant_27 (rfl : 27 + 3 = 30) (tgt := 32) (by decide) (fun q => ?_) (fun q => ?_)
      · replace h := if_f h q
        refine r_aload hC 0 dX7_plant_32 (rfl : 32 + 2 = 34) rfl ?_
        refine r_iload_n hC 3 dX7_plant_34 (rfl : 34 + 1 = 35) rfl rfl ?_
        refine r_callVi hC cs_X7_171 ty_4 (by omega) (mX2_faultOf hC.2.2.2.2.2.2.2.2.1 (k := k - 1) (by omega) z_3 x2 σ_7 _ h) rfl rfl (Nat.le_of_ble_eq_true rfl) dX7_plant_35 (rfl : 35 + 3 = 38) (fun r_10 σ_9 h => ?_)
        refine r_istore hC dX7_plant_38 (rfl : 38 + 2 = 40) (by decide) rfl (lv2 := [(5, .int r_10), (4, .ref (G.1 z_3)), (0, .ref (G.1 0)), (1, .int x1), (2, .int x2), (3, .int x3)]) rfl ?_
        refine r_aload hC 1 dX7_plant_40 (rfl : 40 + 2 = 42) rfl ?_
        refine r_iload_n hC 4 dX7_plant_42 (rfl : 42 + 1 = 43) rfl rfl ?_
        refine r_iload_n hC 5 dX7_plant_43 (rfl : 43 + 1 = 44) rfl rfl ?_
        refine r_callVv hC cs_X7_174 ty_4 (by omega) (mX2_setFault hC.2.2.2.2.2.2.2.2.1 (k := k - 1) (by omega) z_3 x2 x3 σ_9 _ h) rfl rfl (Nat.le_of_ble_eq_true rfl) dX7_plant_44 (rfl : 44 + 3 = 47) (fun  σ_11 h => ?_)
        refine r_iload hC 0 dX7_plant_47 (rfl : 47 + 2 = 49) rfl ?_
        exact r_iret hC rfl h dX7_plant_49
      · replace h := if_t h q
        refine r_iconst hC dX7_plant_30 (rfl : 30 + 1 = 31) (v := -1) (by decide) ?_
        exact r_iret hC rfl h dX7_plant_31
set_option maxHeartbeats 1000000 in
set_option maxRecDepth 100000 in
theorem mX7_part {G : Gx} {b k : Nat} {l : Launch} (hS : Sok YC G)  (hk : 2 ≤ k) (x1 : Int32) (x2 : Int32) (σ : Sg) (Q : Int32 → Sg → Prop) (h : wX7_part  x1 x2 σ Q) : Mi YC G b l yX7_part cX7_part 3 .int k [.ref (G.1 0), .int x1, .int x2] σ Q := by
  refine enter hS (by decide +kernel) (Nat.le_of_ble_eq_true rfl) (lv := [(0, .ref (G.1 0)), (1, .int x1), (2, .int x2)]) rfl (fun K hl hC => ?_)
  subst hl
  unfold wX7_part at h
  show V YC G K (Zi YC G K Q) 3 σ 0 [(0, .ref (G.1 0)), (1, .int x1), (2, .int x2)] []
  refine r_aload_n hC 0 dX7_part_0 (rfl : 0 + 1 = 1) rfl rfl ?_
  refine r_getr hC 0 6 7 41 (o := 41) fw_X7_53 rfl rfl dX7_part_1 (rfl : 1 + 3 = 4) ?_
  refine r_iload_n hC 1 dX7_part_4 (rfl : 4 + 1 = 5) rfl rfl ?_
  refine r_iload_n hC 2 dX7_part_5 (rfl : 5 + 1 = 6) rfl rfl ?_
  refine r_callSi hC cs_X7_131 (by omega) (mX7_tell hC.2.2.2.2.2.2.2.2.1 (k := k - 1) (by omega) 41 x1 x2 σ _ h) rfl rfl (Nat.le_of_ble_eq_true rfl) dX7_part_6 (rfl : 6 + 3 = 9) (fun r_2 σ_1 h => ?_)
  exact r_iret hC rfl h dX7_part_9
set_option maxHeartbeats 1000000 in
set_option maxRecDepth 100000 in
theorem mX7_count {G : Gx} {b k : Nat} {l : Launch} (hS : Sok YC G)  (hk : 4 ≤ k) (x1 : Int32) (σ : Sg) (Q : Int32 → Sg → Prop) (h : wX7_count  x1 σ Q) : Mi YC G b l yX7_count cX7_count 2 .int k [.ref (G.1 0), .int x1] σ Q := by
  refine enter hS (by decide +kernel) (Nat.le_of_ble_eq_true rfl) (lv := [(0, .ref (G.1 0)), (1, .int x1)]) rfl (fun K hl hC => ?_)
  subst hl
  unfold wX7_count at h
  show V YC G K (Zi YC G K Q) 2 σ 0 [(0, .ref (G.1 0)), (1, .int x1)] []
  refine r_iload_n hC 1 dX7_count_0 (rfl : 0 + 1 = 1) rfl rfl ?_
  by_cases sw0 : x1 = 0
  · replace h := if_t h sw0
    refine r_swIn hC dX7_count_1 (tgt := 36) (by rw [sw0]; decide) (by rw [sw0]; decide) (by rw [sw0]; rfl) (by decide) ?_
    refine r_aload_n hC 0 dX7_count_36 (rfl : 36 + 1 = 37) rfl rfl ?_
    refine r_callVi hC cs_X7_220 rfl (by omega) (mX7_keptPrograms hC.2.2.2.2.2.2.2.2.1 (k := k - 1) (by omega)  σ _ h) rfl rfl (Nat.le_of_ble_eq_true rfl) dX7_count_37 (rfl : 37 + 3 = 40) (fun r_2 σ_1 h => ?_)
    exact r_iret hC rfl h dX7_count_40
  replace h := if_f h sw0
  by_cases sw1 : x1 = 1
  · replace h := if_t h sw1
    refine r_swIn hC dX7_count_1 (tgt := 41) (by rw [sw1]; decide) (by rw [sw1]; decide) (by rw [sw1]; rfl) (by decide) ?_
    refine r_aload_n hC 0 dX7_count_41 (rfl : 41 + 1 = 42) rfl rfl ?_
    refine r_geti hC 0 6 10 fw_X7_63 rfl dX7_count_42 (rfl : 42 + 3 = 45) ?_
    exact r_iret hC rfl h dX7_count_45
  replace h := if_f h sw1
  by_cases sw2 : x1 = 2
  · replace h := if_t h sw2
    refine r_swIn hC dX7_count_1 (tgt := 46) (by rw [sw2]; decide) (by rw [sw2]; decide) (by rw [sw2]; rfl) (by decide) ?_
    refine r_aload_n hC 0 dX7_count_46 (rfl : 46 + 1 = 47) rfl rfl ?_
    refine r_getr hC 0 6 1 8 (o := 8) fw_X7_19 rfl rfl dX7_count_47 (rfl : 47 + 3 = 50) ?_
    refine r_geti hC 8 3 2 fw_X7_109 rfl dX7_count_50 (rfl : 50 + 3 = 53) ?_
    exact r_iret hC rfl h dX7_count_53
  replace h := if_f h sw2
  by_cases sw3 : x1 = 3
  · replace h := if_t h sw3
    refine r_swIn hC dX7_count_1 (tgt := 54) (by rw [sw3]; decide) (by rw [sw3]; decide) (by rw [sw3]; rfl) (by decide) ?_
    refine r_aload_n hC 0 dX7_count_54 (rfl : 54 + 1 = 55) rfl rfl ?_
    refine r_getr hC 0 6 1 8 (o := 8) fw_X7_19 rfl rfl dX7_count_55 (rfl : 55 + 3 = 58) ?_
    refine r_getr hC 8 3 0 9 (o := 1) fw_X7_116 rfl rfl dX7_count_58 (rfl : 58 + 3 = 61) ?_
    refine r_geti hC 9 4 3 fw_X7_93 rfl dX7_count_61 (rfl : 61 + 3 = 64) ?_
    exact r_iret hC rfl h dX7_count_64
  replace h := if_f h sw3
  by_cases sw4 : x1 = 4
  · replace h := if_t h sw4
    refine r_swIn hC dX7_count_1 (tgt := 65) (by rw [sw4]; decide) (by rw [sw4]; decide) (by rw [sw4]; rfl) (by decide) ?_
    refine r_aload_n hC 0 dX7_count_65 (rfl : 65 + 1 = 66) rfl rfl ?_
    refine r_callVi hC cs_X7_224 rfl (by omega) (mX7_keptNodes hC.2.2.2.2.2.2.2.2.1 (k := k - 1) (by omega)  σ _ h) rfl rfl (Nat.le_of_ble_eq_true rfl) dX7_count_66 (rfl : 66 + 3 = 69) (fun r_4 σ_3 h => ?_)
    exact r_iret hC rfl h dX7_count_69
  replace h := if_f h sw4
  refine r_swOut hC dX7_count_1 (tgt := 70) (sw_out 0 4 (by decide) (fun j h1 h2 => by rcases (show j = 0 ∨ j = 1 ∨ j = 2 ∨ j = 3 ∨ j = 4 by omega) with rfl | rfl | rfl | rfl | rfl <;> assumption)) (by decide) ?_
  refine r_iconst hC dX7_count_70 (rfl : 70 + 1 = 71) (v := -1) (by decide) ?_
  exact r_iret hC rfl h dX7_count_71
set_option maxHeartbeats 1000000 in
set_option maxRecDepth 100000 in
theorem mX7_ofMaker {G : Gx} {b k : Nat} {l : Launch} (hS : Sok YC G)  (hk : 2 ≤ k) (x1 : Int32) (x2 : Int32) (σ : Sg) (Q : Int32 → Sg → Prop) (h : wX7_ofMaker  x1 x2 σ Q) : Mi YC G b l yX7_ofMaker cX7_ofMaker 4 .int k [.ref (G.1 0), .int x1, .int x2] σ Q := by
  refine enter hS (by decide +kernel) (Nat.le_of_ble_eq_true rfl) (lv := [(0, .ref (G.1 0)), (1, .int x1), (2, .int x2)]) rfl (fun K hl hC => ?_)
  subst hl
  unfold wX7_ofMaker at h
  show V YC G K (Zi YC G K Q) 4 σ 0 [(0, .ref (G.1 0)), (1, .int x1), (2, .int x2)] []
  refine r_aload_n hC 0 dX7_ofMaker_0 (rfl : 0 + 1 = 1) rfl rfl ?_
  refine r_iload_n hC 1 dX7_ofMaker_1 (rfl : 1 + 1 = 2) rfl rfl ?_
  refine r_callVq hC cs_X7_160 rfl (by omega) (mX7_makerAt hC.2.2.2.2.2.2.2.2.1 (k := k - 1) (by omega) x1 σ _ h) rfl rfl (Nat.le_of_ble_eq_true rfl) dX7_ofMaker_2 (rfl : 2 + 3 = 5) (fun o_2 σ_1 h => ?_)
  refine r_astore_nQ hC dX7_ofMaker_5 (rfl : 5 + 1 = 6) rfl (by decide) (lv2 := [(3, rv G o_2), (0, .ref (G.1 0)), (1, .int x1), (2, .int x2)]) rfl ?_
  refine r_aload_nQ hC 0 dX7_ofMaker_6 (rfl : 6 + 1 = 7) rfl rfl ?_
  refine r_ifnonnull hC dX7_ofMaker_7 (rfl : 7 + 3 = 10) (tgt := 12) (by decide) (fun z_3 q => ?_) (fun q => ?_)
  · subst q
    replace h := h.2 z_3 rfl
    refine r_iload_n hC 3 dX7_ofMaker_12 (rfl : 12 + 1 = 13) rfl rfl ?_
    refine r_iconst hC dX7_ofMaker_13 (rfl : 13 + 1 = 14) (v := -1) (by decide) ?_
    refine r_icmp_ne hC dX7_ofMaker_14 (rfl : 14 + 3 = 17) (tgt := 22) (by decide) (fun q => ?_) (fun q => ?_)
    · replace h := if_f h q
      refine r_aload_n hC 0 dX7_ofMaker_22 (rfl : 22 + 1 = 23) rfl rfl ?_
      refine r_iload_n hC 3 dX7_ofMaker_23 (rfl : 23 + 1 = 24) rfl rfl ?_
      obtain ⟨ty_4, h⟩ := h
      refine r_callVi hC cs_X7_170 ty_4 (by omega) (mX2_has hC.2.2.2.2.2.2.2.2.1 (k := k - 1) (by omega) z_3 x2 σ_1 _ h) rfl rfl (Nat.le_of_ble_eq_true rfl) dX7_ofMaker_24 (rfl : 24 + 3 = 27) (fun r_6 σ_5 h => ?_)
      refine r_if_eq hC dX7_ofMaker_27 (rfl : 27 + 3 = 30) (tgt := 47) (by decide) (fun q => ?_) (fun q => ?_)
      · replace h := if_t h q
        refine r_iconst hC dX7_ofMaker_47 (rfl : 47 + 1 = 48) (v := -1) (by decide) ?_
        exact r_iret hC rfl h dX7_ofMaker_48
      · replace h := if_f h q
        refine r_bipush hC dX7_ofMaker_30 (rfl : 30 + 2 = 32) (v := 10) (by decide) ?_
        refine r_aload_n hC 0 dX7_ofMaker_32 (rfl : 32 + 1 = 33) rfl rfl ?_
        refine r_iload_n hC 3 dX7_ofMaker_33 (rfl : 33 + 1 = 34) rfl rfl ?_
        refine r_callVi hC cs_X7_202 ty_4 (by omega) (mX2_sortOf hC.2.2.2.2.2.2.2.2.1 (k := k - 1) (by omega) z_3 x2 σ_5 _ h) rfl rfl (Nat.le_of_ble_eq_true rfl) dX7_ofMaker_34 (rfl : 34 + 3 = 37) (fun r_8 σ_7 h => ?_)
        refine r_imul hC dX7_ofMaker_37 (rfl : 37 + 1 = 38) ?_
        refine r_aload_n hC 0 dX7_ofMaker_38 (rfl : 38 + 1 = 39) rfl rfl ?_
        refine r_iload_n hC 3 dX7_ofMaker_39 (rfl : 39 + 1 = 40) rfl rfl ?_
        refine r_callVi hC cs_X7_171 ty_4 (by omega) (mX2_faultOf hC.2.2.2.2.2.2.2.2.1 (k := k - 1) (by omega) z_3 x2 σ_7 _ h) rfl rfl (Nat.le_of_ble_eq_true rfl) dX7_ofMaker_40 (rfl : 40 + 3 = 43) (fun r_10 σ_9 h => ?_)
        refine r_iadd hC dX7_ofMaker_43 (rfl : 43 + 1 = 44) ?_
        refine r_goto hC dX7_ofMaker_44 (tgt := 48) (by decide) ?_
        exact r_iret hC rfl h dX7_ofMaker_48
    · replace h := if_t h q
      refine r_aload_n hC 0 dX7_ofMaker_17 (rfl : 17 + 1 = 18) rfl rfl ?_
      obtain ⟨ty_11, h⟩ := h
      refine r_geti hC z_3 2 2 fw_X7_164 ty_11 dX7_ofMaker_18 (rfl : 18 + 3 = 21) ?_
      exact r_iret hC rfl h dX7_ofMaker_21
  · subst q
    replace h := h.1 rfl
    refine r_iconst hC dX7_ofMaker_10 (rfl : 10 + 1 = 11) (v := -1) (by decide) ?_
    exact r_iret hC rfl h dX7_ofMaker_11
set_option maxHeartbeats 1000000 in
set_option maxRecDepth 100000 in
theorem sX7_isWrongAt_39 {G : Gx} {b k : Nat} {K : Kx} {l : Launch} (hl : K.2.1 = l) (hC : Cx YC G b K cX7_isWrongAt RX7 3 (some .boolean) k)  (hk : 2 ≤ k)  (Q : Int32 → Sg → Prop)   (σ : Sg) (h : wX7_isWrongAt_39   σ Q) : V YC G K (Zi YC G K Q) 3 σ 39 [] [] := by
  subst hl
  unfold wX7_isWrongAt_39 at h
  refine r_iconst hC dX7_isWrongAt_39 (rfl : 39 + 1 = 40) (v := 1) (by decide) ?_
  refine r_goto hC dX7_isWrongAt_40 (tgt := 44) (by decide) ?_
  exact r_zret hC rfl (by decide) h dX7_isWrongAt_44
set_option maxHeartbeats 1000000 in
set_option maxRecDepth 100000 in
theorem mX7_isWrongAt {G : Gx} {b k : Nat} {l : Launch} (hS : Sok YC G)  (hk : 2 ≤ k) (x1 : Int32) (x2 : Int32) (σ : Sg) (Q : Int32 → Sg → Prop) (h : wX7_isWrongAt  x1 x2 σ Q) : Mi YC G b l yX7_isWrongAt cX7_isWrongAt 3 .boolean k [.ref (G.1 0), .int x1, .int x2] σ Q := by
  refine enter hS (by decide +kernel) (Nat.le_of_ble_eq_true rfl) (lv := [(0, .ref (G.1 0)), (1, .int x1), (2, .int x2)]) rfl (fun K hl hC => ?_)
  subst hl
  unfold wX7_isWrongAt at h
  show V YC G K (Zi YC G K Q) 3 σ 0 [(0, .ref (G.1 0)), (1, .int x1), (2, .int x2)] []
  refine r_aload_n hC 0 dX7_isWrongAt_0 (rfl : 0 + 1 = 1) rfl rfl ?_
  refine r_getr hC 0 6 5 27 (o := 27) fw_X7_45 rfl rfl dX7_isWrongAt_1 (rfl : 1 + 3 = 4) ?_
  refine r_iload_n hC 1 dX7_isWrongAt_4 (rfl : 4 + 1 = 5) rfl rfl ?_
  refine r_iload_n hC 2 dX7_isWrongAt_5 (rfl : 5 + 1 = 6) rfl rfl ?_
  refine r_callVi hC cs_X7_138 rfl (by omega) (mX0_run hC.2.2.2.2.2.2.2.2.1 (k := k - 1) (by omega) 27 x1 x2 σ _ h) rfl rfl (Nat.le_of_ble_eq_true rfl) dX7_isWrongAt_6 (rfl : 6 + 3 = 9) (fun r_2 σ_1 h => ?_)
  refine r_pop hC dX7_isWrongAt_9 (rfl : 9 + 1 = 10) rfl ?_
  refine r_aload_n hC 0 dX7_isWrongAt_10 (rfl : 10 + 1 = 11) rfl rfl ?_
  refine r_getr hC 0 6 6 34 (o := 34) fw_X7_49 rfl rfl dX7_isWrongAt_11 (rfl : 11 + 3 = 14) ?_
  refine r_iload_n hC 1 dX7_isWrongAt_14 (rfl : 14 + 1 = 15) rfl rfl ?_
  refine r_iload_n hC 2 dX7_isWrongAt_15 (rfl : 15 + 1 = 16) rfl rfl ?_
  refine r_callVi hC cs_X7_138 rfl (by omega) (mX0_run hC.2.2.2.2.2.2.2.2.1 (k := k - 1) (by omega) 34 x1 x2 σ_1 _ h) rfl rfl (Nat.le_of_ble_eq_true rfl) dX7_isWrongAt_16 (rfl : 16 + 3 = 19) (fun r_4 σ_3 h => ?_)
  refine r_if_eq hC dX7_isWrongAt_19 (rfl : 19 + 3 = 22) (tgt := 39) (by decide) (fun q => ?_) (fun q => ?_)
  · replace h := if_t h q
    exact (sX7_isWrongAt_39 rfl hC hk  Q   σ_3 h).sub [] rfl
  · replace h := if_f h q
    refine r_aload_n hC 0 dX7_isWrongAt_22 (rfl : 22 + 1 = 23) rfl rfl ?_
    refine r_getr hC 0 6 6 34 (o := 34) fw_X7_49 rfl rfl dX7_isWrongAt_23 (rfl : 23 + 3 = 26) ?_
    refine r_geti hC 34 0 10 fw_X7_142 rfl dX7_isWrongAt_26 (rfl : 26 + 3 = 29) ?_
    refine r_aload_n hC 0 dX7_isWrongAt_29 (rfl : 29 + 1 = 30) rfl rfl ?_
    refine r_getr hC 0 6 5 27 (o := 27) fw_X7_45 rfl rfl dX7_isWrongAt_30 (rfl : 30 + 3 = 33) ?_
    refine r_geti hC 27 0 10 fw_X7_142 rfl dX7_isWrongAt_33 (rfl : 33 + 3 = 36) ?_
    refine r_icmp_eq hC dX7_isWrongAt_36 (rfl : 36 + 3 = 39) (tgt := 43) (by decide) (fun q => ?_) (fun q => ?_)
    · replace h := if_t h q
      refine r_iconst hC dX7_isWrongAt_43 (rfl : 43 + 1 = 44) (v := 0) (by decide) ?_
      exact r_zret hC rfl (by decide) h dX7_isWrongAt_44
    · replace h := if_f h q
      exact (sX7_isWrongAt_39 rfl hC hk  Q   σ_3 h).sub [] rfl
set_option maxHeartbeats 1000000 in
set_option maxRecDepth 100000 in
theorem mX8_becomes {G : Gx} {b k : Nat} {l : Launch} (hS : Sok YM G) (d : Nat) (hk : 1 * d + 4 ≤ k) (x1 : Int32) (x2 : Int32) (x3 : Int32) (σ : Sg) (Q : Int32 → Sg → Prop) (h : wX8_becomes d x1 x2 x3 σ Q) : Mi YM G b l yX8_becomes cX8_becomes 4 .int k [.ref (G.1 0), .int x1, .int x2, .int x3] σ Q := by
  refine enter hS (by decide +kernel) (Nat.le_of_ble_eq_true rfl) (lv := [(0, .ref (G.1 0)), (1, .int x1), (2, .int x2), (3, .int x3)]) rfl (fun K hl hC => ?_)
  subst hl
  unfold wX8_becomes at h
  show V YM G K (Zi YM G K Q) 4 σ 0 [(0, .ref (G.1 0)), (1, .int x1), (2, .int x2), (3, .int x3)] []
  refine r_iload_n hC 2 dX8_becomes_0 (rfl : 0 + 1 = 1) rfl rfl ?_
  by_cases sw0 : x2 = 0
  · replace h := if_t h sw0
    refine r_swIn hC dX8_becomes_1 (tgt := 40) (by rw [sw0]; decide) (by rw [sw0]; decide) (by rw [sw0]; rfl) (by decide) ?_
    refine r_aload_n hC 0 dX8_becomes_40 (rfl : 40 + 1 = 41) rfl rfl ?_
    refine r_iload_n hC 1 dX8_becomes_41 (rfl : 41 + 1 = 42) rfl rfl ?_
    refine r_iload_n hC 3 dX8_becomes_42 (rfl : 42 + 1 = 43) rfl rfl ?_
    refine r_callVi hC cs_X8_121 rfl (by omega) (mX8_folded hC.2.2.2.2.2.2.2.2.1 (k := k - 1) (by omega) x1 x3 σ _ h) rfl rfl (Nat.le_of_ble_eq_true rfl) dX8_becomes_43 (rfl : 43 + 3 = 46) (fun r_2 σ_1 h => ?_)
    exact r_iret hC rfl h dX8_becomes_46
  replace h := if_f h sw0
  by_cases sw1 : x2 = 1
  · replace h := if_t h sw1
    refine r_swIn hC dX8_becomes_1 (tgt := 47) (by rw [sw1]; decide) (by rw [sw1]; decide) (by rw [sw1]; rfl) (by decide) ?_
    refine r_aload_n hC 0 dX8_becomes_47 (rfl : 47 + 1 = 48) rfl rfl ?_
    refine r_iload_n hC 1 dX8_becomes_48 (rfl : 48 + 1 = 49) rfl rfl ?_
    refine r_iload_n hC 3 dX8_becomes_49 (rfl : 49 + 1 = 50) rfl rfl ?_
    refine r_callVi hC cs_X8_125 rfl (by omega) (mX8_zeroed hC.2.2.2.2.2.2.2.2.1 (k := k - 1) (by omega) x1 x3 σ _ h) rfl rfl (Nat.le_of_ble_eq_true rfl) dX8_becomes_50 (rfl : 50 + 3 = 53) (fun r_4 σ_3 h => ?_)
    exact r_iret hC rfl h dX8_becomes_53
  replace h := if_f h sw1
  by_cases sw2 : x2 = 2
  · replace h := if_t h sw2
    refine r_swIn hC dX8_becomes_1 (tgt := 54) (by rw [sw2]; decide) (by rw [sw2]; decide) (by rw [sw2]; rfl) (by decide) ?_
    refine r_aload_n hC 0 dX8_becomes_54 (rfl : 54 + 1 = 55) rfl rfl ?_
    refine r_iload_n hC 1 dX8_becomes_55 (rfl : 55 + 1 = 56) rfl rfl ?_
    refine r_iload_n hC 3 dX8_becomes_56 (rfl : 56 + 1 = 57) rfl rfl ?_
    refine r_callVi hC cs_X8_128 rfl (by omega) (mX8_samed hC.2.2.2.2.2.2.2.2.1 d (k := k - 1) (by omega) x1 x3 σ _ h) rfl rfl (Nat.le_of_ble_eq_true rfl) dX8_becomes_57 (rfl : 57 + 3 = 60) (fun r_6 σ_5 h => ?_)
    exact r_iret hC rfl h dX8_becomes_60
  replace h := if_f h sw2
  by_cases sw3 : x2 = 3
  · replace h := if_t h sw3
    refine r_swIn hC dX8_becomes_1 (tgt := 61) (by rw [sw3]; decide) (by rw [sw3]; decide) (by rw [sw3]; rfl) (by decide) ?_
    refine r_aload_n hC 0 dX8_becomes_61 (rfl : 61 + 1 = 62) rfl rfl ?_
    refine r_iload_n hC 1 dX8_becomes_62 (rfl : 62 + 1 = 63) rfl rfl ?_
    refine r_iload_n hC 3 dX8_becomes_63 (rfl : 63 + 1 = 64) rfl rfl ?_
    refine r_callVi hC cs_X8_131 rfl (by omega) (mX8_picked hC.2.2.2.2.2.2.2.2.1 (k := k - 1) (by omega) x1 x3 σ _ h) rfl rfl (Nat.le_of_ble_eq_true rfl) dX8_becomes_64 (rfl : 64 + 3 = 67) (fun r_8 σ_7 h => ?_)
    exact r_iret hC rfl h dX8_becomes_67
  replace h := if_f h sw3
  by_cases sw4 : x2 = 4
  · replace h := if_t h sw4
    refine r_swIn hC dX8_becomes_1 (tgt := 68) (by rw [sw4]; decide) (by rw [sw4]; decide) (by rw [sw4]; rfl) (by decide) ?_
    refine r_aload_n hC 0 dX8_becomes_68 (rfl : 68 + 1 = 69) rfl rfl ?_
    refine r_iload_n hC 1 dX8_becomes_69 (rfl : 69 + 1 = 70) rfl rfl ?_
    refine r_iload_n hC 3 dX8_becomes_70 (rfl : 70 + 1 = 71) rfl rfl ?_
    refine r_callVi hC cs_X8_134 rfl (by omega) (mX8_melted hC.2.2.2.2.2.2.2.2.1 d (k := k - 1) (by omega) x1 x3 σ _ h) rfl rfl (Nat.le_of_ble_eq_true rfl) dX8_becomes_71 (rfl : 71 + 3 = 74) (fun r_10 σ_9 h => ?_)
    exact r_iret hC rfl h dX8_becomes_74
  replace h := if_f h sw4
  by_cases sw5 : x2 = 5
  · replace h := if_t h sw5
    refine r_swIn hC dX8_becomes_1 (tgt := 75) (by rw [sw5]; decide) (by rw [sw5]; decide) (by rw [sw5]; rfl) (by decide) ?_
    refine r_aload_n hC 0 dX8_becomes_75 (rfl : 75 + 1 = 76) rfl rfl ?_
    refine r_iload_n hC 1 dX8_becomes_76 (rfl : 76 + 1 = 77) rfl rfl ?_
    refine r_iload_n hC 3 dX8_becomes_77 (rfl : 77 + 1 = 78) rfl rfl ?_
    refine r_callVi hC cs_X8_137 rfl (by omega) (mX8_twiced hC.2.2.2.2.2.2.2.2.1 (k := k - 1) (by omega) x1 x3 σ _ h) rfl rfl (Nat.le_of_ble_eq_true rfl) dX8_becomes_78 (rfl : 78 + 3 = 81) (fun r_12 σ_11 h => ?_)
    exact r_iret hC rfl h dX8_becomes_81
  replace h := if_f h sw5
  refine r_swOut hC dX8_becomes_1 (tgt := 82) (sw_out 0 5 (by decide) (fun j h1 h2 => by rcases (show j = 0 ∨ j = 1 ∨ j = 2 ∨ j = 3 ∨ j = 4 ∨ j = 5 by omega) with rfl | rfl | rfl | rfl | rfl | rfl <;> assumption)) (by decide) ?_
  refine r_aload_n hC 0 dX8_becomes_82 (rfl : 82 + 1 = 83) rfl rfl ?_
  refine r_iload_n hC 1 dX8_becomes_83 (rfl : 83 + 1 = 84) rfl rfl ?_
  refine r_iload_n hC 3 dX8_becomes_84 (rfl : 84 + 1 = 85) rfl rfl ?_
  refine r_callVi hC cs_X8_140 rfl (by omega) (mX8_sunk hC.2.2.2.2.2.2.2.2.1 (k := k - 1) (by omega) x1 x3 σ _ h) rfl rfl (Nat.le_of_ble_eq_true rfl) dX8_becomes_85 (rfl : 85 + 3 = 88) (fun r_14 σ_13 h => ?_)
  exact r_iret hC rfl h dX8_becomes_88
set_option maxHeartbeats 1000000 in
set_option maxRecDepth 100000 in
theorem sX8_turned_140 {G : Gx} {b k : Nat} {K : Kx} {l : Launch} (hl : K.2.1 = l) (hC : Cx YM G b K cX8_turned RX8 9 (some .int) k) (F : Int32 → Int32 → Int32 → Sg → (Int32 → Sg → Prop) → Prop) (d : Nat) {kf : Nat} (hF : ∀ (x1 : Int32) (x2 : Int32) (x3 : Int32) (σ : Sg) (Q : Int32 → Sg → Prop), F x1 x2 x3 σ Q → Mi YM G b l yX8_turned cX8_turned 9 .int kf [.ref (G.1 0), .int x1, .int x2, .int x3] σ Q) (hk : kf + 1 ≤ k ∧ 1 * d + 5 ≤ k + 0)  (Q : Int32 → Sg → Prop)  (x2 : Int32) (x3 : Int32) (s0 : Int32) (σ : Sg) (h : wX8_turned_140 F d x2 x3 s0 σ Q) : V YM G K (Zi YM G K Q) 9 σ 140 [(0, .ref (G.1 0)), (2, .int x2), (3, .int x3)] [.int s0] := by
  subst hl
  unfold wX8_turned_140 at h
  refine r_istore hC dX8_turned_140 (rfl : 140 + 2 = 142) (by decide) rfl (lv2 := [(7, .int s0), (0, .ref (G.1 0)), (2, .int x2), (3, .int x3)]) rfl ?_
  refine r_aload_n hC 1 dX8_turned_142 (rfl : 142 + 1 = 143) rfl rfl ?_
  refine r_iload hC 0 dX8_turned_143 (rfl : 143 + 2 = 145) rfl ?_
  refine r_iload_n hC 2 dX8_turned_145 (rfl : 145 + 1 = 146) rfl rfl ?_
  refine r_iload_n hC 3 dX8_turned_146 (rfl : 146 + 1 = 147) rfl rfl ?_
  refine r_callVi hC cs_X8_166 rfl (by omega) (mX8_becomes hC.2.2.2.2.2.2.2.2.1 d (k := k - 1) (by omega) s0 x2 x3 σ _ h) rfl rfl (Nat.le_of_ble_eq_true rfl) dX8_turned_147 (rfl : 147 + 3 = 150) (fun r_2 σ_1 h => ?_)
  refine r_istore hC dX8_turned_150 (rfl : 150 + 2 = 152) (by decide) rfl (lv2 := [(8, .int r_2), (7, .int s0), (0, .ref (G.1 0)), (2, .int x2), (3, .int x3)]) rfl ?_
  refine r_iload hC 0 dX8_turned_152 (rfl : 152 + 2 = 154) rfl ?_
  refine r_iload hC 1 dX8_turned_154 (rfl : 154 + 2 = 156) rfl ?_
  refine r_icmp_eq hC dX8_turned_156 (rfl : 156 + 3 = 159) (tgt := 193) (by decide) (fun q => ?_) (fun q => ?_)
  · replace h := if_t h q
    refine r_iload hC 0 dX8_turned_193 (rfl : 193 + 2 = 195) rfl ?_
    exact r_iret hC rfl h dX8_turned_195
  · replace h := if_f h q
    refine r_aload_n hC 2 dX8_turned_159 (rfl : 159 + 1 = 160) rfl rfl ?_
    refine r_dup hC dX8_turned_160 (rfl : 160 + 1 = 161) rfl ?_
    refine r_geti hC 0 7 10 fw_X8_169 rfl dX8_turned_161 (rfl : 161 + 3 = 164) ?_
    refine r_iconst hC dX8_turned_164 (rfl : 164 + 1 = 165) (v := 1) (by decide) ?_
    refine r_iadd hC dX8_turned_165 (rfl : 165 + 1 = 166) ?_
    obtain ⟨σ_3, e_4, h⟩ := lt_nm h
    refine r_puti hC 0 7 10 fw_X8_169 fp_8_10 rfl e_4 dX8_turned_166 (rfl : 166 + 3 = 169) ?_
    refine r_aload_n hC 2 dX8_turned_169 (rfl : 169 + 1 = 170) rfl rfl ?_
    refine r_dup hC dX8_turned_170 (rfl : 170 + 1 = 171) rfl ?_
    refine r_geti hC 0 7 11 fw_X8_154 rfl dX8_turned_171 (rfl : 171 + 3 = 174) ?_
    refine r_aload_n hC 2 dX8_turned_174 (rfl : 174 + 1 = 175) rfl rfl ?_
    refine r_getr hC 0 7 7 6 (o := 6) fw_X8_25 rfl rfl dX8_turned_175 (rfl : 175 + 3 = 178) ?_
    refine r_iload hC 0 dX8_turned_178 (rfl : 178 + 2 = 180) rfl ?_
    obtain ⟨q_5, h⟩ := h
    refine r_iald hC 6 rfl q_5 dX8_turned_180 (rfl : 180 + 1 = 181) ?_
    refine r_aload_n hC 2 dX8_turned_181 (rfl : 181 + 1 = 182) rfl rfl ?_
    refine r_getr hC 0 7 7 6 (o := 6) fw_X8_25 rfl rfl dX8_turned_182 (rfl : 182 + 3 = 185) ?_
    refine r_iload hC 1 dX8_turned_185 (rfl : 185 + 2 = 187) rfl ?_
    obtain ⟨q_6, h⟩ := h
    refine r_iald hC 6 rfl q_6 dX8_turned_187 (rfl : 187 + 1 = 188) ?_
    refine r_isub hC dX8_turned_188 (rfl : 188 + 1 = 189) ?_
    refine r_iadd hC dX8_turned_189 (rfl : 189 + 1 = 190) ?_
    obtain ⟨σ_7, e_8, h⟩ := lt_nm h
    refine r_puti hC 0 7 11 fw_X8_154 fp_8_11 rfl e_8 dX8_turned_190 (rfl : 190 + 3 = 193) ?_
    refine r_iload hC 0 dX8_turned_193 (rfl : 193 + 2 = 195) rfl ?_
    exact r_iret hC rfl h dX8_turned_195
set_option maxHeartbeats 1000000 in
set_option maxRecDepth 100000 in
theorem sX8_turned_118 {G : Gx} {b k : Nat} {K : Kx} {l : Launch} (hl : K.2.1 = l) (hC : Cx YM G b K cX8_turned RX8 9 (some .int) k) (F : Int32 → Int32 → Int32 → Sg → (Int32 → Sg → Prop) → Prop) (d : Nat) {kf : Nat} (hF : ∀ (x1 : Int32) (x2 : Int32) (x3 : Int32) (σ : Sg) (Q : Int32 → Sg → Prop), F x1 x2 x3 σ Q → Mi YM G b l yX8_turned cX8_turned 9 .int kf [.ref (G.1 0), .int x1, .int x2, .int x3] σ Q) (hk : kf + 1 ≤ k ∧ 1 * d + 5 ≤ k + 0)  (Q : Int32 → Sg → Prop)  (x1 : Int32) (x2 : Int32) (x3 : Int32) (x4 : Int32) (x5 : Int32) (x6 : Int32) (σ : Sg) (h : wX8_turned_118 F d x1 x2 x3 x4 x5 x6 σ Q) : V YM G K (Zi YM G K Q) 9 σ 118 [(0, .ref (G.1 0)), (1, .int x1), (2, .int x2), (3, .int x3), (4, .int x4), (5, .int x5), (6, .int x6)] [] := by
  subst hl
  unfold wX8_turned_118 at h
  refine r_aload_n hC 0 dX8_turned_118 (rfl : 118 + 1 = 119) rfl rfl ?_
  refine r_aload_n hC 0 dX8_turned_119 (rfl : 119 + 1 = 120) rfl rfl ?_
  refine r_getr hC 0 7 2 1 (o := 1) fw_X8_7 rfl rfl dX8_turned_120 (rfl : 120 + 3 = 123) ?_
  refine r_iload_n hC 1 dX8_turned_123 (rfl : 123 + 1 = 124) rfl rfl ?_
  obtain ⟨q_9, h⟩ := h
  refine r_iald hC 1 rfl q_9 dX8_turned_124 (rfl : 124 + 1 = 125) ?_
  refine r_aload_n hC 0 dX8_turned_125 (rfl : 125 + 1 = 126) rfl rfl ?_
  refine r_getr hC 0 7 3 2 (o := 2) fw_X8_13 rfl rfl dX8_turned_126 (rfl : 126 + 3 = 129) ?_
  refine r_iload_n hC 1 dX8_turned_129 (rfl : 129 + 1 = 130) rfl rfl ?_
  refine r_iald hC 2 rfl q_9 dX8_turned_130 (rfl : 130 + 1 = 131) ?_
  refine r_iload hC 4 dX8_turned_131 (rfl : 131 + 2 = 133) rfl ?_
  refine r_iload hC 5 dX8_turned_133 (rfl : 133 + 2 = 135) rfl ?_
  refine r_iload hC 6 dX8_turned_135 (rfl : 135 + 2 = 137) rfl ?_
  refine r_callVi hC cs_X8_96 rfl (by omega) (mX8_make hC.2.2.2.2.2.2.2.2.1 (k := k - 1) (by omega) (σ.1 1 (Int32.toNatClampNeg x1)) (σ.1 2 (Int32.toNatClampNeg x1)) x4 x5 x6 σ _ h) rfl rfl (Nat.le_of_ble_eq_true rfl) dX8_turned_137 (rfl : 137 + 3 = 140) (fun r_11 σ_10 h => ?_)
  exact (sX8_turned_140 rfl hC F d hF hk  Q  x2 x3 r_11 σ_10 h).sub [0, 2, 3] rfl
set_option maxHeartbeats 1000000 in
set_option maxRecDepth 100000 in
theorem sX8_turned_79 {G : Gx} {b k : Nat} {K : Kx} {l : Launch} (hl : K.2.1 = l) (hC : Cx YM G b K cX8_turned RX8 9 (some .int) k) (F : Int32 → Int32 → Int32 → Sg → (Int32 → Sg → Prop) → Prop) (d : Nat) {kf : Nat} (hF : ∀ (x1 : Int32) (x2 : Int32) (x3 : Int32) (σ : Sg) (Q : Int32 → Sg → Prop), F x1 x2 x3 σ Q → Mi YM G b l yX8_turned cX8_turned 9 .int kf [.ref (G.1 0), .int x1, .int x2, .int x3] σ Q) (hk : kf + 1 ≤ k ∧ 1 * d + 5 ≤ k + 0)  (Q : Int32 → Sg → Prop)  (x1 : Int32) (x2 : Int32) (x3 : Int32) (x4 : Int32) (x5 : Int32) (s0 : Int32) (σ : Sg) (h : wX8_turned_79 F d x1 x2 x3 x4 x5 s0 σ Q) : V YM G K (Zi YM G K Q) 9 σ 79 [(0, .ref (G.1 0)), (1, .int x1), (2, .int x2), (3, .int x3), (4, .int x4), (5, .int x5)] [.int s0] := by
  subst hl
  unfold wX8_turned_79 at h
  refine r_istore hC dX8_turned_79 (rfl : 79 + 2 = 81) (by decide) rfl (lv2 := [(6, .int s0), (0, .ref (G.1 0)), (1, .int x1), (2, .int x2), (3, .int x3), (4, .int x4), (5, .int x5)]) rfl ?_
  refine r_iload hC 5 dX8_turned_81 (rfl : 81 + 2 = 83) rfl ?_
  refine r_aload_n hC 1 dX8_turned_83 (rfl : 83 + 1 = 84) rfl rfl ?_
  refine r_getr hC 0 7 4 3 (o := 3) fw_X8_16 rfl rfl dX8_turned_84 (rfl : 84 + 3 = 87) ?_
  refine r_iload_n hC 2 dX8_turned_87 (rfl : 87 + 1 = 88) rfl rfl ?_
  obtain ⟨q_12, h⟩ := h
  refine r_iald hC 3 rfl q_12 dX8_turned_88 (rfl : 88 + 1 = 89) ?_
  refine r_icmp_ne hC dX8_turned_89 (rfl : 89 + 3 = 92) (tgt := 118) (by decide) (fun q => ?_) (fun q => ?_)
  · replace h := if_f h q
    exact (sX8_turned_118 rfl hC F d hF hk  Q  x1 x2 x3 x4 x5 s0 σ h).sub [1, 2, 3, 4, 5, 6, 0] rfl
  · replace h := if_t h q
    refine r_iload hC 6 dX8_turned_92 (rfl : 92 + 2 = 94) rfl ?_
    refine r_aload_n hC 1 dX8_turned_94 (rfl : 94 + 1 = 95) rfl rfl ?_
    refine r_getr hC 0 7 5 4 (o := 4) fw_X8_19 rfl rfl dX8_turned_95 (rfl : 95 + 3 = 98) ?_
    refine r_iload_n hC 2 dX8_turned_98 (rfl : 98 + 1 = 99) rfl rfl ?_
    refine r_iald hC 4 rfl q_12 dX8_turned_99 (rfl : 99 + 1 = 100) ?_
    refine r_icmp_ne hC dX8_turned_100 (rfl : 100 + 3 = 103) (tgt := 118) (by decide) (fun q => ?_) (fun q => ?_)
    · replace h := if_f h q
      exact (sX8_turned_118 rfl hC F d hF hk  Q  x1 x2 x3 x4 x5 s0 σ h).sub [1, 2, 3, 4, 5, 6, 0] rfl
    · replace h := if_t h q
      refine r_iload hC 0 dX8_turned_103 (rfl : 103 + 2 = 105) rfl ?_
      refine r_aload_n hC 1 dX8_turned_105 (rfl : 105 + 1 = 106) rfl rfl ?_
      refine r_getr hC 0 7 6 5 (o := 5) fw_X8_22 rfl rfl dX8_turned_106 (rfl : 106 + 3 = 109) ?_
      refine r_iload_n hC 2 dX8_turned_109 (rfl : 109 + 1 = 110) rfl rfl ?_
      refine r_iald hC 5 rfl q_12 dX8_turned_110 (rfl : 110 + 1 = 111) ?_
      refine r_icmp_ne hC dX8_turned_111 (rfl : 111 + 3 = 114) (tgt := 118) (by decide) (fun q => ?_) (fun q => ?_)
      · replace h := if_f h q
        exact (sX8_turned_118 rfl hC F d hF hk  Q  x1 x2 x3 x4 x5 s0 σ h).sub [1, 2, 3, 4, 5, 6, 0] rfl
      · replace h := if_t h q
        refine r_iload_n hC 2 dX8_turned_114 (rfl : 114 + 1 = 115) rfl rfl ?_
        refine r_goto hC dX8_turned_115 (tgt := 140) (by decide) ?_
        exact (sX8_turned_140 rfl hC F d hF hk  Q  x2 x3 x1 σ h).sub [1, 3, 4] rfl
set_option maxHeartbeats 1000000 in
set_option maxRecDepth 100000 in
theorem sX8_turned_52 {G : Gx} {b k : Nat} {K : Kx} {l : Launch} (hl : K.2.1 = l) (hC : Cx YM G b K cX8_turned RX8 9 (some .int) k) (F : Int32 → Int32 → Int32 → Sg → (Int32 → Sg → Prop) → Prop) (d : Nat) {kf : Nat} (hF : ∀ (x1 : Int32) (x2 : Int32) (x3 : Int32) (σ : Sg) (Q : Int32 → Sg → Prop), F x1 x2 x3 σ Q → Mi YM G b l yX8_turned cX8_turned 9 .int kf [.ref (G.1 0), .int x1, .int x2, .int x3] σ Q) (hk : kf + 1 ≤ k ∧ 1 * d + 5 ≤ k + 0)  (Q : Int32 → Sg → Prop)  (x1 : Int32) (x2 : Int32) (x3 : Int32) (x4 : Int32) (s0 : Int32) (σ : Sg) (h : wX8_turned_52 F d x1 x2 x3 x4 s0 σ Q) : V YM G K (Zi YM G K Q) 9 σ 52 [(0, .ref (G.1 0)), (1, .int x1), (2, .int x2), (3, .int x3), (4, .int x4)] [.int s0] := by
  subst hl
  unfold wX8_turned_52 at h
  refine r_istore hC dX8_turned_52 (rfl : 52 + 2 = 54) (by decide) rfl (lv2 := [(5, .int s0), (0, .ref (G.1 0)), (1, .int x1), (2, .int x2), (3, .int x3), (4, .int x4)]) rfl ?_
  refine r_aload_n hC 1 dX8_turned_54 (rfl : 54 + 1 = 55) rfl rfl ?_
  refine r_getr hC 0 7 6 5 (o := 5) fw_X8_22 rfl rfl dX8_turned_55 (rfl : 55 + 3 = 58) ?_
  refine r_iload_n hC 2 dX8_turned_58 (rfl : 58 + 1 = 59) rfl rfl ?_
  obtain ⟨q_13, h⟩ := h
  refine r_iald hC 5 rfl q_13 dX8_turned_59 (rfl : 59 + 1 = 60) ?_
  refine r_if_ge hC dX8_turned_60 (rfl : 60 + 3 = 63) (tgt := 67) (by decide) (fun q => ?_) (fun q => ?_)
  · replace h := if_t h q
    refine r_aload_n hC 1 dX8_turned_67 (rfl : 67 + 1 = 68) rfl rfl ?_
    refine r_aload_n hC 1 dX8_turned_68 (rfl : 68 + 1 = 69) rfl rfl ?_
    refine r_getr hC 0 7 6 5 (o := 5) fw_X8_22 rfl rfl dX8_turned_69 (rfl : 69 + 3 = 72) ?_
    refine r_iload_n hC 2 dX8_turned_72 (rfl : 72 + 1 = 73) rfl rfl ?_
    refine r_iald hC 5 rfl q_13 dX8_turned_73 (rfl : 73 + 1 = 74) ?_
    refine r_iload_n hC 3 dX8_turned_74 (rfl : 74 + 1 = 75) rfl rfl ?_
    refine r_iload_n hC 4 dX8_turned_75 (rfl : 75 + 1 = 76) rfl rfl ?_
    refine r_callVi hC cs_X8_163 rfl (by omega) (hF (σ.1 5 (Int32.toNatClampNeg x1)) x2 x3 σ _ h) rfl rfl (Nat.le_of_ble_eq_true rfl) dX8_turned_76 (rfl : 76 + 3 = 79) (fun r_15 σ_14 h => ?_)
    exact (sX8_turned_79 rfl hC F d hF hk  Q  x1 x2 x3 x4 s0 r_15 σ_14 h).sub [1, 2, 3, 4, 5, 0] rfl
  · replace h := if_f h q
    refine r_iconst hC dX8_turned_63 (rfl : 63 + 1 = 64) (v := -1) (by decide) ?_
    refine r_goto hC dX8_turned_64 (tgt := 79) (by decide) ?_
    exact (sX8_turned_79 rfl hC F d hF hk  Q  x1 x2 x3 x4 s0 (-1) σ h).sub [1, 2, 3, 4, 5, 0] rfl
set_option maxHeartbeats 1000000 in
set_option maxRecDepth 100000 in
theorem sX8_turned_25 {G : Gx} {b k : Nat} {K : Kx} {l : Launch} (hl : K.2.1 = l) (hC : Cx YM G b K cX8_turned RX8 9 (some .int) k) (F : Int32 → Int32 → Int32 → Sg → (Int32 → Sg → Prop) → Prop) (d : Nat) {kf : Nat} (hF : ∀ (x1 : Int32) (x2 : Int32) (x3 : Int32) (σ : Sg) (Q : Int32 → Sg → Prop), F x1 x2 x3 σ Q → Mi YM G b l yX8_turned cX8_turned 9 .int kf [.ref (G.1 0), .int x1, .int x2, .int x3] σ Q) (hk : kf + 1 ≤ k ∧ 1 * d + 5 ≤ k + 0)  (Q : Int32 → Sg → Prop)  (x1 : Int32) (x2 : Int32) (x3 : Int32) (s0 : Int32) (σ : Sg) (h : wX8_turned_25 F d x1 x2 x3 s0 σ Q) : V YM G K (Zi YM G K Q) 9 σ 25 [(0, .ref (G.1 0)), (1, .int x1), (2, .int x2), (3, .int x3)] [.int s0] := by
  subst hl
  unfold wX8_turned_25 at h
  refine r_istore hC dX8_turned_25 (rfl : 25 + 2 = 27) (by decide) rfl (lv2 := [(4, .int s0), (0, .ref (G.1 0)), (1, .int x1), (2, .int x2), (3, .int x3)]) rfl ?_
  refine r_aload_n hC 1 dX8_turned_27 (rfl : 27 + 1 = 28) rfl rfl ?_
  refine r_getr hC 0 7 5 4 (o := 4) fw_X8_19 rfl rfl dX8_turned_28 (rfl : 28 + 3 = 31) ?_
  refine r_iload_n hC 2 dX8_turned_31 (rfl : 31 + 1 = 32) rfl rfl ?_
  obtain ⟨q_16, h⟩ := h
  refine r_iald hC 4 rfl q_16 dX8_turned_32 (rfl : 32 + 1 = 33) ?_
  refine r_if_ge hC dX8_turned_33 (rfl : 33 + 3 = 36) (tgt := 40) (by decide) (fun q => ?_) (fun q => ?_)
  · replace h := if_t h q
    refine r_aload_n hC 1 dX8_turned_40 (rfl : 40 + 1 = 41) rfl rfl ?_
    refine r_aload_n hC 1 dX8_turned_41 (rfl : 41 + 1 = 42) rfl rfl ?_
    refine r_getr hC 0 7 5 4 (o := 4) fw_X8_19 rfl rfl dX8_turned_42 (rfl : 42 + 3 = 45) ?_
    refine r_iload_n hC 2 dX8_turned_45 (rfl : 45 + 1 = 46) rfl rfl ?_
    refine r_iald hC 4 rfl q_16 dX8_turned_46 (rfl : 46 + 1 = 47) ?_
    refine r_iload_n hC 3 dX8_turned_47 (rfl : 47 + 1 = 48) rfl rfl ?_
    refine r_iload_n hC 4 dX8_turned_48 (rfl : 48 + 1 = 49) rfl rfl ?_
    refine r_callVi hC cs_X8_163 rfl (by omega) (hF (σ.1 4 (Int32.toNatClampNeg x1)) x2 x3 σ _ h) rfl rfl (Nat.le_of_ble_eq_true rfl) dX8_turned_49 (rfl : 49 + 3 = 52) (fun r_18 σ_17 h => ?_)
    exact (sX8_turned_52 rfl hC F d hF hk  Q  x1 x2 x3 s0 r_18 σ_17 h).sub [1, 2, 3, 4, 0] rfl
  · replace h := if_f h q
    refine r_iconst hC dX8_turned_36 (rfl : 36 + 1 = 37) (v := -1) (by decide) ?_
    refine r_goto hC dX8_turned_37 (tgt := 52) (by decide) ?_
    exact (sX8_turned_52 rfl hC F d hF hk  Q  x1 x2 x3 s0 (-1) σ h).sub [1, 2, 3, 4, 0] rfl
set_option maxHeartbeats 1000000 in
set_option maxRecDepth 100000 in
theorem mX8_turned_b {G : Gx} {b k : Nat} {l : Launch} (hS : Sok YM G) (F : Int32 → Int32 → Int32 → Sg → (Int32 → Sg → Prop) → Prop) (d : Nat) {kf : Nat} (hF : ∀ (x1 : Int32) (x2 : Int32) (x3 : Int32) (σ : Sg) (Q : Int32 → Sg → Prop), F x1 x2 x3 σ Q → Mi YM G b l yX8_turned cX8_turned 9 .int kf [.ref (G.1 0), .int x1, .int x2, .int x3] σ Q) (hk : kf + 1 ≤ k ∧ 1 * d + 5 ≤ k + 0) (x1 : Int32) (x2 : Int32) (x3 : Int32) (σ : Sg) (Q : Int32 → Sg → Prop) (h : wX8_turned_b F d x1 x2 x3 σ Q) : Mi YM G b l yX8_turned cX8_turned 9 .int k [.ref (G.1 0), .int x1, .int x2, .int x3] σ Q := by
  refine enter hS (by decide +kernel) (Nat.le_of_ble_eq_true rfl) (lv := [(0, .ref (G.1 0)), (1, .int x1), (2, .int x2), (3, .int x3)]) rfl (fun K hl hC => ?_)
  subst hl
  unfold wX8_turned_b at h
  show V YM G K (Zi YM G K Q) 9 σ 0 [(0, .ref (G.1 0)), (1, .int x1), (2, .int x2), (3, .int x3)] []
  refine r_aload_n hC 0 dX8_turned_0 (rfl : 0 + 1 = 1) rfl rfl ?_
  refine r_getr hC 0 7 4 3 (o := 3) fw_X8_16 rfl rfl dX8_turned_1 (rfl : 1 + 3 = 4) ?_
  refine r_iload_n hC 1 dX8_turned_4 (rfl : 4 + 1 = 5) rfl rfl ?_
  obtain ⟨q_19, h⟩ := h
  refine r_iald hC 3 rfl q_19 dX8_turned_5 (rfl : 5 + 1 = 6) ?_
  refine r_if_ge hC dX8_turned_6 (rfl : 6 + 3 = 9) (tgt := 13) (by decide) (fun q => ?_) (fun q => ?_)
  · replace h := if_t h q
    refine r_aload_n hC 0 dX8_turned_13 (rfl : 13 + 1 = 14) rfl rfl ?_
    refine r_aload_n hC 0 dX8_turned_14 (rfl : 14 + 1 = 15) rfl rfl ?_
    refine r_getr hC 0 7 4 3 (o := 3) fw_X8_16 rfl rfl dX8_turned_15 (rfl : 15 + 3 = 18) ?_
    refine r_iload_n hC 1 dX8_turned_18 (rfl : 18 + 1 = 19) rfl rfl ?_
    refine r_iald hC 3 rfl q_19 dX8_turned_19 (rfl : 19 + 1 = 20) ?_
    refine r_iload_n hC 2 dX8_turned_20 (rfl : 20 + 1 = 21) rfl rfl ?_
    refine r_iload_n hC 3 dX8_turned_21 (rfl : 21 + 1 = 22) rfl rfl ?_
    refine r_callVi hC cs_X8_163 rfl (by omega) (hF (σ.1 3 (Int32.toNatClampNeg x1)) x2 x3 σ _ h) rfl rfl (Nat.le_of_ble_eq_true rfl) dX8_turned_22 (rfl : 22 + 3 = 25) (fun r_21 σ_20 h => ?_)
    exact (sX8_turned_25 rfl hC F d hF hk  Q  x1 x2 x3 r_21 σ_20 h).sub [0, 1, 2, 3] rfl
  · replace h := if_f h q
    refine r_iconst hC dX8_turned_9 (rfl : 9 + 1 = 10) (v := -1) (by decide) ?_
    refine r_goto hC dX8_turned_10 (tgt := 25) (by decide) ?_
    exact (sX8_turned_25 rfl hC F d hF hk  Q  x1 x2 x3 (-1) σ h).sub [0, 1, 2, 3] rfl
set_option maxHeartbeats 1000000 in
set_option maxRecDepth 100000 in
theorem mX8_turned {G : Gx} {b : Nat} {l : Launch} (hS : Sok YM G) (d : Nat) : ∀ (e k : Nat), 1 * e + (1 * d + 5) ≤ k → ∀ (x1 : Int32) (x2 : Int32) (x3 : Int32) (σ : Sg) (Q : Int32 → Sg → Prop), wX8_turned d e x1 x2 x3 σ Q → Mi YM G b l yX8_turned cX8_turned 9 .int k [.ref (G.1 0), .int x1, .int x2, .int x3] σ Q := by
  intro e
  induction e with
  | zero =>
    intro k _ x1 x2 x3 σ Q h
    exact h.elim
  | succ e ih =>
    intro k hk x1 x2 x3 σ Q h
    exact mX8_turned_b hS (wX8_turned d e) d (kf := 1 * e + (1 * d + 5)) (fun x1 x2 x3 σ Q h => ih _ (Nat.le_refl _) x1 x2 x3 σ Q h) ⟨by omega, by omega⟩ x1 x2 x3 σ Q h
set_option maxHeartbeats 1000000 in
set_option maxRecDepth 100000 in
theorem mX8_goOver {G : Gx} {b k : Nat} {l : Launch} (hS : Sok YM G) (d : Nat) (hk : 2 * d + 6 ≤ k) (x1 : Int32) (x2 : Int32) (x3 : Int32) (σ : Sg) (Q : Int32 → Sg → Prop) (h : wX8_goOver d x1 x2 x3 σ Q) : Mi YM G b l yX8_goOver cX8_goOver 4 .int k [.ref (G.1 0), .int x1, .int x2, .int x3] σ Q := by
  refine enter hS (by decide +kernel) (Nat.le_of_ble_eq_true rfl) (lv := [(0, .ref (G.1 0)), (1, .int x1), (2, .int x2), (3, .int x3)]) rfl (fun K hl hC => ?_)
  subst hl
  unfold wX8_goOver at h
  show V YM G K (Zi YM G K Q) 4 σ 0 [(0, .ref (G.1 0)), (1, .int x1), (2, .int x2), (3, .int x3)] []
  refine r_aload_n hC 0 dX8_goOver_0 (rfl : 0 + 1 = 1) rfl rfl ?_
  refine r_iconst hC dX8_goOver_1 (rfl : 1 + 1 = 2) (v := 0) (by decide) ?_
  obtain ⟨σ_1, e_2, h⟩ := lt_nm h
  refine r_puti hC 0 7 10 fw_X8_169 fp_8_10 rfl e_2 dX8_goOver_2 (rfl : 2 + 3 = 5) ?_
  refine r_aload_n hC 0 dX8_goOver_5 (rfl : 5 + 1 = 6) rfl rfl ?_
  refine r_aload_n hC 0 dX8_goOver_6 (rfl : 6 + 1 = 7) rfl rfl ?_
  refine r_getr hC 0 7 7 6 (o := 6) fw_X8_25 rfl rfl dX8_goOver_7 (rfl : 7 + 3 = 10) ?_
  refine r_iload_n hC 1 dX8_goOver_10 (rfl : 10 + 1 = 11) rfl rfl ?_
  obtain ⟨q_3, h⟩ := h
  refine r_iald hC 6 rfl q_3 dX8_goOver_11 (rfl : 11 + 1 = 12) ?_
  obtain ⟨σ_4, e_5, h⟩ := lt_nm h
  refine r_puti hC 0 7 11 fw_X8_154 fp_8_11 rfl e_5 dX8_goOver_12 (rfl : 12 + 3 = 15) ?_
  refine r_aload_n hC 0 dX8_goOver_15 (rfl : 15 + 1 = 16) rfl rfl ?_
  refine r_iload_n hC 1 dX8_goOver_16 (rfl : 16 + 1 = 17) rfl rfl ?_
  refine r_aload_n hC 0 dX8_goOver_17 (rfl : 17 + 1 = 18) rfl rfl ?_
  refine r_getr hC 0 7 29 19 (o := 19) fw_X8_65 rfl rfl dX8_goOver_18 (rfl : 18 + 3 = 21) ?_
  refine r_bipush hC dX8_goOver_21 (rfl : 21 + 2 = 23) (v := 10) (by decide) ?_
  refine r_iload_n hC 2 dX8_goOver_23 (rfl : 23 + 1 = 24) rfl rfl ?_
  refine r_imul hC dX8_goOver_24 (rfl : 24 + 1 = 25) ?_
  refine r_iload_n hC 3 dX8_goOver_25 (rfl : 25 + 1 = 26) rfl rfl ?_
  refine r_iadd hC dX8_goOver_26 (rfl : 26 + 1 = 27) ?_
  obtain ⟨q_6, h⟩ := h
  refine r_iald hC 19 rfl q_6 dX8_goOver_27 (rfl : 27 + 1 = 28) ?_
  refine r_aload_n hC 0 dX8_goOver_28 (rfl : 28 + 1 = 29) rfl rfl ?_
  refine r_getr hC 0 7 30 20 (o := 20) fw_X8_68 rfl rfl dX8_goOver_29 (rfl : 29 + 3 = 32) ?_
  refine r_bipush hC dX8_goOver_32 (rfl : 32 + 2 = 34) (v := 10) (by decide) ?_
  refine r_iload_n hC 2 dX8_goOver_34 (rfl : 34 + 1 = 35) rfl rfl ?_
  refine r_imul hC dX8_goOver_35 (rfl : 35 + 1 = 36) ?_
  refine r_iload_n hC 3 dX8_goOver_36 (rfl : 36 + 1 = 37) rfl rfl ?_
  refine r_iadd hC dX8_goOver_37 (rfl : 37 + 1 = 38) ?_
  refine r_iald hC 20 rfl q_6 dX8_goOver_38 (rfl : 38 + 1 = 39) ?_
  refine r_callVi hC cs_X8_163 rfl (by omega) (mX8_turned hC.2.2.2.2.2.2.2.2.1 d d (k - 1) (by omega) x1 (σ_4.1 19 (Int32.toNatClampNeg ((10 * x2) + x3))) (σ_4.1 20 (Int32.toNatClampNeg ((10 * x2) + x3))) σ_4 _ h) rfl rfl (Nat.le_of_ble_eq_true rfl) dX8_goOver_39 (rfl : 39 + 3 = 42) (fun r_8 σ_7 h => ?_)
  exact r_iret hC rfl h dX8_goOver_42
set_option maxHeartbeats 1000000 in
set_option maxRecDepth 100000 in
theorem sX8_madeBy_6 {G : Gx} {b k : Nat} {K : Kx} {l : Launch} (hl : K.2.1 = l) (hC : Cx YM G b K cX8_madeBy RX8 6 (some .int) k) (d : Nat) (hk : 2 * d + 7 ≤ k)  (Q : Int32 → Sg → Prop)  : ∀ (n : Nat) (x2 : Int32) (x3 : Int32) (x4 : Int32) (x5 : Int32) (σ : Sg), wX8_madeBy_6 d Q n x2 x3 x4 x5 σ → V YM G K (Zi YM G K Q) 6 σ 6 [(0, .ref (G.1 0)), (2, .int x2), (3, .int x3), (4, .int x4), (5, .int x5)] [] := by
  subst hl
  intro n
  induction n with
  | zero =>
    intro x2 x3 x4 x5 σ h
    exact h.elim
  | succ n ih =>
    intro x2 x3 x4 x5 σ h
    have h : wX8_madeBy_6_b d (wX8_madeBy_6 d Q n) x2 x3 x4 x5 σ Q := h
    unfold wX8_madeBy_6_b at h
    refine r_iload hC 4 dX8_madeBy_6 (rfl : 6 + 2 = 8) rfl ?_
    refine r_iload_n hC 2 dX8_madeBy_8 (rfl : 8 + 1 = 9) rfl rfl ?_
    refine r_icmp_ge hC dX8_madeBy_9 (rfl : 9 + 3 = 12) (tgt := 29) (by decide) (fun q => ?_) (fun q => ?_)
    · replace h := if_t h q
      refine r_iload hC 3 dX8_madeBy_29 (rfl : 29 + 2 = 31) rfl ?_
      exact r_iret hC rfl h dX8_madeBy_31
    · replace h := if_f h q
      refine r_aload_n hC 0 dX8_madeBy_12 (rfl : 12 + 1 = 13) rfl rfl ?_
      refine r_iload hC 3 dX8_madeBy_13 (rfl : 13 + 2 = 15) rfl ?_
      refine r_iload_n hC 1 dX8_madeBy_15 (rfl : 15 + 1 = 16) rfl rfl ?_
      refine r_iload hC 4 dX8_madeBy_16 (rfl : 16 + 2 = 18) rfl ?_
      refine r_callVi hC cs_X8_172 rfl (by omega) (mX8_goOver hC.2.2.2.2.2.2.2.2.1 d (k := k - 1) (by omega) x4 x2 x5 σ _ h) rfl rfl (Nat.le_of_ble_eq_true rfl) dX8_madeBy_18 (rfl : 18 + 3 = 21) (fun r_2 σ_1 h => ?_)
      refine r_istore hC dX8_madeBy_21 (rfl : 21 + 2 = 23) (by decide) rfl (lv2 := [(4, .int r_2), (0, .ref (G.1 0)), (2, .int x2), (3, .int x3), (5, .int x5)]) rfl ?_
      obtain ⟨x5_3, e_4, h⟩ := lt_nm h
      refine r_iinc hC (j := 4) dX8_madeBy_23 (rfl : 23 + 3 = 26) rfl (zz := 1) (by decide) e_4 (by decide) (lv2 := [(5, .int x5_3), (4, .int r_2), (0, .ref (G.1 0)), (2, .int x2), (3, .int x3)]) rfl ?_
      refine r_goto hC dX8_madeBy_26 (tgt := 6) (by decide) ?_
      exact (ih x2 x3 r_2 x5_3 σ_1 h).sub [2, 3, 4, 1, 0] rfl
set_option maxHeartbeats 1000000 in
set_option maxRecDepth 100000 in
theorem mX8_madeBy {G : Gx} {b k : Nat} {l : Launch} (hS : Sok YM G) (d : Nat) (hk : 2 * d + 7 ≤ k) (x1 : Int32) (x2 : Int32) (x3 : Int32) (σ : Sg) (Q : Int32 → Sg → Prop) (h : wX8_madeBy d x1 x2 x3 σ Q) : Mi YM G b l yX8_madeBy cX8_madeBy 6 .int k [.ref (G.1 0), .int x1, .int x2, .int x3] σ Q := by
  refine enter hS (by decide +kernel) (Nat.le_of_ble_eq_true rfl) (lv := [(0, .ref (G.1 0)), (1, .int x1), (2, .int x2), (3, .int x3)]) rfl (fun K hl hC => ?_)
  subst hl
  unfold wX8_madeBy at h
  show V YM G K (Zi YM G K Q) 6 σ 0 [(0, .ref (G.1 0)), (1, .int x1), (2, .int x2), (3, .int x3)] []
  refine r_iload_n hC 1 dX8_madeBy_0 (rfl : 0 + 1 = 1) rfl rfl ?_
  refine r_istore hC dX8_madeBy_1 (rfl : 1 + 2 = 3) (by decide) rfl (lv2 := [(4, .int x1), (0, .ref (G.1 0)), (1, .int x1), (2, .int x2), (3, .int x3)]) rfl ?_
  refine r_iconst hC dX8_madeBy_3 (rfl : 3 + 1 = 4) (v := 0) (by decide) ?_
  refine r_istore hC dX8_madeBy_4 (rfl : 4 + 2 = 6) (by decide) rfl (lv2 := [(5, .int 0), (4, .int x1), (0, .ref (G.1 0)), (1, .int x1), (2, .int x2), (3, .int x3)]) rfl ?_
  obtain ⟨nn, h⟩ := h
  exact (sX8_madeBy_6 rfl hC d hk  Q  nn x2 x3 x1 0 σ h).sub [2, 4, 5, 1, 0] rfl
set_option maxHeartbeats 1000000 in
set_option maxRecDepth 100000 in
theorem sX8_count0_84 {G : Gx} {b k : Nat} {K : Kx} {l : Launch} (hl : K.2.1 = l) (hC : Cx YM G b K cX8_count0 RX8 5 none k)  (hk : 1 ≤ k) (K23 : Int32 → Sg → Prop) (Q : Sg → Prop) (h23 : ∀ (x1 : Int32) (σ : Sg), K23 x1 σ → V YM G K (Zv YM G K Q) 5 σ 23 [(0, .ref (G.1 0)), (1, .int x1)] []) : ∀ (n : Nat) (x1 : Int32) (x2 : Int64) (x4 : Int32) (σ : Sg), wX8_count0_84 K23 Q n x1 x2 x4 σ → V YM G K (Zv YM G K Q) 5 σ 84 [(0, .ref (G.1 0)), (1, .int x1), (2, .long x2), (4, .int x4)] [] := by
  subst hl
  intro n
  induction n with
  | zero =>
    intro x1 x2 x4 σ h
    exact h.elim
  | succ n ih =>
    intro x1 x2 x4 σ h
    have h : wX8_count0_84_b K23 (wX8_count0_84 K23 Q n) x1 x2 x4 σ Q := h
    unfold wX8_count0_84_b at h
    refine r_iload hC 3 dX8_count0_84 (rfl : 84 + 2 = 86) rfl ?_
    refine r_iload_n hC 1 dX8_count0_86 (rfl : 86 + 1 = 87) rfl rfl ?_
    refine r_iconst hC dX8_count0_87 (rfl : 87 + 1 = 88) (v := 2) (by decide) ?_
    refine r_isub hC dX8_count0_88 (rfl : 88 + 1 = 89) ?_
    refine r_icmp_ge hC dX8_count0_89 (rfl : 89 + 3 = 92) (tgt := 119) (by decide) (fun q => ?_) (fun q => ?_)
    · replace h := if_t h q
      refine r_aload_n hC 0 dX8_count0_119 (rfl : 119 + 1 = 120) rfl rfl ?_
      refine r_getr hC 0 7 19 12 (o := 12) fw_X8_43 rfl rfl dX8_count0_120 (rfl : 120 + 3 = 123) ?_
      refine r_iload_n hC 1 dX8_count0_123 (rfl : 123 + 1 = 124) rfl rfl ?_
      refine r_lload_n hC 2 dX8_count0_124 (rfl : 124 + 1 = 125) rfl rfl ?_
      obtain ⟨q_1, h⟩ := h
      obtain ⟨σ_2, e_3, h⟩ := lt_nm h
      refine r_last hC 12 rfl q_1 e_3 dX8_count0_125 (rfl : 125 + 1 = 126) ?_
      obtain ⟨x1_4, e_5, h⟩ := lt_nm h
      refine r_iinc hC (j := 1) dX8_count0_126 (rfl : 126 + 3 = 129) rfl (zz := 1) (by decide) e_5 (by decide) (lv2 := [(1, .int x1_4), (0, .ref (G.1 0)), (2, .long x2), (4, .int x4)]) rfl ?_
      refine r_goto hC dX8_count0_129 (tgt := 23) (by decide) ?_
      exact (h23 x1_4 σ_2 h).sub [1, 0] rfl
    · replace h := if_f h q
      refine r_lload_n hC 2 dX8_count0_92 (rfl : 92 + 1 = 93) rfl rfl ?_
      refine r_aload_n hC 0 dX8_count0_93 (rfl : 93 + 1 = 94) rfl rfl ?_
      refine r_getr hC 0 7 19 12 (o := 12) fw_X8_43 rfl rfl dX8_count0_94 (rfl : 94 + 3 = 97) ?_
      refine r_iload hC 3 dX8_count0_97 (rfl : 97 + 2 = 99) rfl ?_
      obtain ⟨q_6, h⟩ := h
      refine r_lald hC 12 rfl q_6 dX8_count0_99 (rfl : 99 + 1 = 100) ?_
      refine r_aload_n hC 0 dX8_count0_100 (rfl : 100 + 1 = 101) rfl rfl ?_
      refine r_iload_n hC 1 dX8_count0_101 (rfl : 101 + 1 = 102) rfl rfl ?_
      refine r_iconst hC dX8_count0_102 (rfl : 102 + 1 = 103) (v := 1) (by decide) ?_
      refine r_isub hC dX8_count0_103 (rfl : 103 + 1 = 104) ?_
      refine r_iload hC 3 dX8_count0_104 (rfl : 104 + 2 = 106) rfl ?_
      refine r_isub hC dX8_count0_106 (rfl : 106 + 1 = 107) ?_
      refine r_callVl hC cs_X8_212 rfl (by omega) (mX8_pairs hC.2.2.2.2.2.2.2.2.1 (k := k - 1) (by omega) ((x1 - 1) - x4) σ _ h) rfl rfl (Nat.le_of_ble_eq_true rfl) dX8_count0_107 (rfl : 107 + 3 = 110) (fun r_8 σ_7 h => ?_)
      refine r_lmul hC dX8_count0_110 (rfl : 110 + 1 = 111) ?_
      refine r_ladd hC dX8_count0_111 (rfl : 111 + 1 = 112) ?_
      obtain ⟨x2_9, e_10, h⟩ := lt_nm h
      refine r_lstore_n hC dX8_count0_112 (rfl : 112 + 1 = 113) rfl (by decide) e_10 (lv2 := [(2, .long x2_9), (0, .ref (G.1 0)), (1, .int x1), (4, .int x4)]) rfl ?_
      obtain ⟨x4_11, e_12, h⟩ := lt_nm h
      refine r_iinc hC (j := 3) dX8_count0_113 (rfl : 113 + 3 = 116) rfl (zz := 1) (by decide) e_12 (by decide) (lv2 := [(4, .int x4_11), (2, .long x2_9), (0, .ref (G.1 0)), (1, .int x1)]) rfl ?_
      refine r_goto hC dX8_count0_116 (tgt := 84) (by decide) ?_
      exact (ih x1 x2_9 x4_11 σ_7 h).sub [2, 3, 1, 0] rfl
set_option maxHeartbeats 1000000 in
set_option maxRecDepth 100000 in
theorem sX8_count0_41 {G : Gx} {b k : Nat} {K : Kx} {l : Launch} (hl : K.2.1 = l) (hC : Cx YM G b K cX8_count0 RX8 5 none k)  (hk : 1 ≤ k) (K23 : Int32 → Sg → Prop) (Q : Sg → Prop) (h23 : ∀ (x1 : Int32) (σ : Sg), K23 x1 σ → V YM G K (Zv YM G K Q) 5 σ 23 [(0, .ref (G.1 0)), (1, .int x1)] []) : ∀ (n : Nat) (x1 : Int32) (x2 : Int64) (x4 : Int32) (σ : Sg), wX8_count0_41 K23 Q n x1 x2 x4 σ → V YM G K (Zv YM G K Q) 5 σ 41 [(0, .ref (G.1 0)), (1, .int x1), (2, .long x2), (4, .int x4)] [] := by
  subst hl
  intro n
  induction n with
  | zero =>
    intro x1 x2 x4 σ h
    exact h.elim
  | succ n ih =>
    intro x1 x2 x4 σ h
    have h : wX8_count0_41_b K23 (wX8_count0_41 K23 Q n) x1 x2 x4 σ Q := h
    unfold wX8_count0_41_b at h
    refine r_iload hC 3 dX8_count0_41 (rfl : 41 + 2 = 43) rfl ?_
    refine r_iload_n hC 1 dX8_count0_43 (rfl : 43 + 1 = 44) rfl rfl ?_
    refine r_iconst hC dX8_count0_44 (rfl : 44 + 1 = 45) (v := 1) (by decide) ?_
    refine r_isub hC dX8_count0_45 (rfl : 45 + 1 = 46) ?_
    refine r_icmp_ge hC dX8_count0_46 (rfl : 46 + 3 = 49) (tgt := 81) (by decide) (fun q => ?_) (fun q => ?_)
    · replace h := if_t h q
      refine r_iconst hC dX8_count0_81 (rfl : 81 + 1 = 82) (v := 1) (by decide) ?_
      refine r_istore hC dX8_count0_82 (rfl : 82 + 2 = 84) (by decide) rfl (lv2 := [(4, .int 1), (0, .ref (G.1 0)), (1, .int x1), (2, .long x2)]) rfl ?_
      obtain ⟨nn, h⟩ := h
      exact (sX8_count0_84 rfl hC hk K23 Q h23 nn x1 x2 1 σ h).sub [1, 2, 3, 0] rfl
    · replace h := if_f h q
      refine r_lload_n hC 2 dX8_count0_49 (rfl : 49 + 1 = 50) rfl rfl ?_
      refine r_ldc2 hC dX8_count0_50 (rfl : 50 + 3 = 53) wd_896 ?_
      refine r_aload_n hC 0 dX8_count0_53 (rfl : 53 + 1 = 54) rfl rfl ?_
      refine r_getr hC 0 7 19 12 (o := 12) fw_X8_43 rfl rfl dX8_count0_54 (rfl : 54 + 3 = 57) ?_
      refine r_iload hC 3 dX8_count0_57 (rfl : 57 + 2 = 59) rfl ?_
      obtain ⟨q_13, h⟩ := h
      refine r_lald hC 12 rfl q_13 dX8_count0_59 (rfl : 59 + 1 = 60) ?_
      refine r_lmul hC dX8_count0_60 (rfl : 60 + 1 = 61) ?_
      refine r_aload_n hC 0 dX8_count0_61 (rfl : 61 + 1 = 62) rfl rfl ?_
      refine r_getr hC 0 7 19 12 (o := 12) fw_X8_43 rfl rfl dX8_count0_62 (rfl : 62 + 3 = 65) ?_
      refine r_iload_n hC 1 dX8_count0_65 (rfl : 65 + 1 = 66) rfl rfl ?_
      refine r_iconst hC dX8_count0_66 (rfl : 66 + 1 = 67) (v := 1) (by decide) ?_
      refine r_isub hC dX8_count0_67 (rfl : 67 + 1 = 68) ?_
      refine r_iload hC 3 dX8_count0_68 (rfl : 68 + 2 = 70) rfl ?_
      refine r_isub hC dX8_count0_70 (rfl : 70 + 1 = 71) ?_
      obtain ⟨q_14, h⟩ := h
      refine r_lald hC 12 rfl q_14 dX8_count0_71 (rfl : 71 + 1 = 72) ?_
      refine r_lmul hC dX8_count0_72 (rfl : 72 + 1 = 73) ?_
      refine r_ladd hC dX8_count0_73 (rfl : 73 + 1 = 74) ?_
      obtain ⟨x2_15, e_16, h⟩ := lt_nm h
      refine r_lstore_n hC dX8_count0_74 (rfl : 74 + 1 = 75) rfl (by decide) e_16 (lv2 := [(2, .long x2_15), (0, .ref (G.1 0)), (1, .int x1), (4, .int x4)]) rfl ?_
      obtain ⟨x4_17, e_18, h⟩ := lt_nm h
      refine r_iinc hC (j := 3) dX8_count0_75 (rfl : 75 + 3 = 78) rfl (zz := 1) (by decide) e_18 (by decide) (lv2 := [(4, .int x4_17), (2, .long x2_15), (0, .ref (G.1 0)), (1, .int x1)]) rfl ?_
      refine r_goto hC dX8_count0_78 (tgt := 41) (by decide) ?_
      exact (ih x1 x2_15 x4_17 σ h).sub [2, 3, 1, 0] rfl
set_option maxHeartbeats 1000000 in
set_option maxRecDepth 100000 in
theorem sX8_count0_23 {G : Gx} {b k : Nat} {K : Kx} {l : Launch} (hl : K.2.1 = l) (hC : Cx YM G b K cX8_count0 RX8 5 none k)  (hk : 1 ≤ k)  (Q : Sg → Prop)  : ∀ (n : Nat) (x1 : Int32) (σ : Sg), wX8_count0_23  Q n x1 σ → V YM G K (Zv YM G K Q) 5 σ 23 [(0, .ref (G.1 0)), (1, .int x1)] [] := by
  subst hl
  intro n
  induction n with
  | zero =>
    intro x1 σ h
    exact h.elim
  | succ n ih =>
    intro x1 σ h
    have h : wX8_count0_23_b  (wX8_count0_23  Q n) x1 σ Q := h
    unfold wX8_count0_23_b at h
    refine r_iload_n hC 1 dX8_count0_23 (rfl : 23 + 1 = 24) rfl rfl ?_
    refine r_bipush hC dX8_count0_24 (rfl : 24 + 2 = 26) (v := 15) (by decide) ?_
    refine r_icmp_gt hC dX8_count0_26 (rfl : 26 + 3 = 29) (tgt := 132) (by decide) (fun q => ?_) (fun q => ?_)
    · replace h := if_t h q
      exact r_vret hC rfl h dX8_count0_132
    · replace h := if_f h q
      refine r_aload_n hC 0 dX8_count0_29 (rfl : 29 + 1 = 30) rfl rfl ?_
      refine r_getr hC 0 7 19 12 (o := 12) fw_X8_43 rfl rfl dX8_count0_30 (rfl : 30 + 3 = 33) ?_
      refine r_iload_n hC 1 dX8_count0_33 (rfl : 33 + 1 = 34) rfl rfl ?_
      refine r_iconst hC dX8_count0_34 (rfl : 34 + 1 = 35) (v := 1) (by decide) ?_
      refine r_isub hC dX8_count0_35 (rfl : 35 + 1 = 36) ?_
      obtain ⟨q_19, h⟩ := h
      refine r_lald hC 12 rfl q_19 dX8_count0_36 (rfl : 36 + 1 = 37) ?_
      obtain ⟨x2_20, e_21, h⟩ := lt_nm h
      refine r_lstore_n hC dX8_count0_37 (rfl : 37 + 1 = 38) rfl (by decide) e_21 (lv2 := [(2, .long x2_20), (0, .ref (G.1 0)), (1, .int x1)]) rfl ?_
      refine r_iconst hC dX8_count0_38 (rfl : 38 + 1 = 39) (v := 1) (by decide) ?_
      refine r_istore hC dX8_count0_39 (rfl : 39 + 2 = 41) (by decide) rfl (lv2 := [(4, .int 1), (2, .long x2_20), (0, .ref (G.1 0)), (1, .int x1)]) rfl ?_
      obtain ⟨nn, h⟩ := h
      exact (sX8_count0_41 rfl hC hk (wX8_count0_23  Q n) Q ih nn x1 x2_20 1 σ h).sub [2, 3, 1, 0] rfl
set_option maxHeartbeats 1000000 in
set_option maxRecDepth 100000 in
theorem mX8_count0 {G : Gx} {b k : Nat} {l : Launch} (hS : Sok YM G)  (hk : 1 ≤ k)  (σ : Sg) (Q : Sg → Prop) (h : wX8_count0   σ Q) : Mv YM G b l yX8_count0 cX8_count0 5 k [.ref (G.1 0)] σ Q := by
  refine enter hS (by decide +kernel) (Nat.le_of_ble_eq_true rfl) (lv := [(0, .ref (G.1 0))]) rfl (fun K hl hC => ?_)
  subst hl
  unfold wX8_count0 at h
  show V YM G K (Zv YM G K Q) 5 σ 0 [(0, .ref (G.1 0))] []
  refine r_aload_n hC 0 dX8_count0_0 (rfl : 0 + 1 = 1) rfl rfl ?_
  refine r_getr hC 0 7 19 12 (o := 12) fw_X8_43 rfl rfl dX8_count0_1 (rfl : 1 + 3 = 4) ?_
  refine r_iconst hC dX8_count0_4 (rfl : 4 + 1 = 5) (v := 1) (by decide) ?_
  obtain ⟨q_22, h⟩ := h
  refine r_lald hC 12 rfl q_22 dX8_count0_5 (rfl : 5 + 1 = 6) ?_
  refine r_lconst hC dX8_count0_6 (rfl : 6 + 1 = 7) (v := 0) (by decide) ?_
  refine r_lcmp hC dX8_count0_7 (rfl : 7 + 1 = 8) ?_
  refine r_if_le hC dX8_count0_8 (rfl : 8 + 3 = 11) (tgt := 12) (by decide) (fun q => ?_) (fun q => ?_)
  · replace h := if_t h ((lg_cmp_le _ _).1 q)
    refine r_aload_n hC 0 dX8_count0_12 (rfl : 12 + 1 = 13) rfl rfl ?_
    refine r_getr hC 0 7 19 12 (o := 12) fw_X8_43 rfl rfl dX8_count0_13 (rfl : 13 + 3 = 16) ?_
    refine r_iconst hC dX8_count0_16 (rfl : 16 + 1 = 17) (v := 1) (by decide) ?_
    refine r_ldc2 hC dX8_count0_17 (rfl : 17 + 3 = 20) wd_895 ?_
    obtain ⟨σ_23, e_24, h⟩ := lt_nm h
    refine r_last hC 12 rfl q_22 e_24 dX8_count0_20 (rfl : 20 + 1 = 21) ?_
    refine r_iconst hC dX8_count0_21 (rfl : 21 + 1 = 22) (v := 2) (by decide) ?_
    refine r_istore_n hC dX8_count0_22 (rfl : 22 + 1 = 23) rfl (by decide) rfl (lv2 := [(1, .int 2), (0, .ref (G.1 0))]) rfl ?_
    obtain ⟨nn, h⟩ := h
    exact (sX8_count0_23 rfl hC hk  Q  nn 2 σ_23 h).sub [1, 0] rfl
  · replace h := if_f h (fun z => q ((lg_cmp_le _ _).2 z))
    exact r_vret hC rfl h dX8_count0_11
set_option maxHeartbeats 1000000 in
set_option maxRecDepth 100000 in
theorem mX8_many {G : Gx} {b k : Nat} {l : Launch} (hS : Sok YM G)  (hk : 2 ≤ k) (x1 : Int32) (σ : Sg) (Q : Int64 → Sg → Prop) (h : wX8_many  x1 σ Q) : Ml YM G b l yX8_many cX8_many 2 k [.ref (G.1 0), .int x1] σ Q := by
  refine enter hS (by decide +kernel) (Nat.le_of_ble_eq_true rfl) (lv := [(0, .ref (G.1 0)), (1, .int x1)]) rfl (fun K hl hC => ?_)
  subst hl
  unfold wX8_many at h
  show V YM G K (Zl YM G K Q) 2 σ 0 [(0, .ref (G.1 0)), (1, .int x1)] []
  refine r_iload_n hC 1 dX8_many_0 (rfl : 0 + 1 = 1) rfl rfl ?_
  refine r_i2l hC dX8_many_1 (rfl : 1 + 1 = 2) ?_
  refine r_lconst hC dX8_many_2 (rfl : 2 + 1 = 3) (v := 1) (by decide) ?_
  refine r_ldc2 hC dX8_many_3 (rfl : 3 + 3 = 6) wd_886 ?_
  refine r_callSi hC cs_X8_177 (by omega) (mX8_in hC.2.2.2.2.2.2.2.2.1 (k := k - 1) (by omega) (Int32.toInt64 x1) 1 15 σ _ h) rfl rfl (Nat.le_of_ble_eq_true rfl) dX8_many_6 (rfl : 6 + 3 = 9) (fun r_2 σ_1 h => ?_)
  refine r_if_ne hC dX8_many_9 (rfl : 9 + 3 = 12) (tgt := 16) (by decide) (fun q => ?_) (fun q => ?_)
  · replace h := if_f h q
    refine r_aload_n hC 0 dX8_many_16 (rfl : 16 + 1 = 17) rfl rfl ?_
    refine r_callVv hC cs_X8_220 rfl (by omega) (mX8_count0 hC.2.2.2.2.2.2.2.2.1 (k := k - 1) (by omega)  σ_1 _ h) rfl rfl (Nat.le_of_ble_eq_true rfl) dX8_many_17 (rfl : 17 + 3 = 20) (fun  σ_3 h => ?_)
    refine r_aload_n hC 0 dX8_many_20 (rfl : 20 + 1 = 21) rfl rfl ?_
    refine r_getr hC 0 7 19 12 (o := 12) fw_X8_43 rfl rfl dX8_many_21 (rfl : 21 + 3 = 24) ?_
    refine r_iload_n hC 1 dX8_many_24 (rfl : 24 + 1 = 25) rfl rfl ?_
    obtain ⟨q_4, h⟩ := h
    refine r_lald hC 12 rfl q_4 dX8_many_25 (rfl : 25 + 1 = 26) ?_
    exact r_lret hC rfl h dX8_many_26
  · replace h := if_t h q
    refine r_ldc2 hC dX8_many_12 (rfl : 12 + 3 = 15) wd_890 ?_
    exact r_lret hC rfl h dX8_many_15
set_option maxHeartbeats 1000000 in
set_option maxRecDepth 100000 in
theorem mX8_nth {G : Gx} {b k : Nat} {l : Launch} (hS : Sok YM G) (d : Nat) (hk : 2 * d + 2 ≤ k) (x1 : Int32) (x2 : Int32) (x3 : Int64) (σ : Sg) (Q : Int32 → Sg → Prop) (h : wX8_nth d x1 x2 x3 σ Q) : Mi YM G b l yX8_nth cX8_nth 5 .int k [.ref (G.1 0), .int x1, .int x2, .long x3] σ Q := by
  refine enter hS (by decide +kernel) (Nat.le_of_ble_eq_true rfl) (lv := [(0, .ref (G.1 0)), (1, .int x1), (2, .int x2), (3, .long x3)]) rfl (fun K hl hC => ?_)
  subst hl
  unfold wX8_nth at h
  show V YM G K (Zi YM G K Q) 5 σ 0 [(0, .ref (G.1 0)), (1, .int x1), (2, .int x2), (3, .long x3)] []
  refine r_iload_n hC 1 dX8_nth_0 (rfl : 0 + 1 = 1) rfl rfl ?_
  refine r_callSi hC cs_X8_181 (by omega) (mX8_isPlace hC.2.2.2.2.2.2.2.2.1 (k := k - 1) (by omega) x1 σ _ h) rfl rfl (Nat.le_of_ble_eq_true rfl) dX8_nth_1 (rfl : 1 + 3 = 4) (fun r_2 σ_1 h => ?_)
  refine r_if_eq hC dX8_nth_4 (rfl : 4 + 3 = 7) (tgt := 19) (by decide) (fun q => ?_) (fun q => ?_)
  · replace h := if_t h q
    refine r_iconst hC dX8_nth_19 (rfl : 19 + 1 = 20) (v := -1) (by decide) ?_
    exact r_iret hC rfl h dX8_nth_20
  · replace h := if_f h q
    refine r_iload_n hC 2 dX8_nth_7 (rfl : 7 + 1 = 8) rfl rfl ?_
    refine r_i2l hC dX8_nth_8 (rfl : 8 + 1 = 9) ?_
    refine r_lconst hC dX8_nth_9 (rfl : 9 + 1 = 10) (v := 1) (by decide) ?_
    refine r_ldc2 hC dX8_nth_10 (rfl : 10 + 3 = 13) wd_886 ?_
    refine r_callSi hC cs_X8_177 (by omega) (mX8_in hC.2.2.2.2.2.2.2.2.1 (k := k - 1) (by omega) (Int32.toInt64 x2) 1 15 σ_1 _ h) rfl rfl (Nat.le_of_ble_eq_true rfl) dX8_nth_13 (rfl : 13 + 3 = 16) (fun r_4 σ_3 h => ?_)
    refine r_if_ne hC dX8_nth_16 (rfl : 16 + 3 = 19) (tgt := 21) (by decide) (fun q => ?_) (fun q => ?_)
    · replace h := if_f h q
      refine r_aload_n hC 0 dX8_nth_21 (rfl : 21 + 1 = 22) rfl rfl ?_
      refine r_callVv hC cs_X8_220 rfl (by omega) (mX8_count0 hC.2.2.2.2.2.2.2.2.1 (k := k - 1) (by omega)  σ_3 _ h) rfl rfl (Nat.le_of_ble_eq_true rfl) dX8_nth_22 (rfl : 22 + 3 = 25) (fun  σ_5 h => ?_)
      refine r_lload_n hC 3 dX8_nth_25 (rfl : 25 + 1 = 26) rfl rfl ?_
      refine r_lconst hC dX8_nth_26 (rfl : 26 + 1 = 27) (v := 0) (by decide) ?_
      refine r_aload_n hC 0 dX8_nth_27 (rfl : 27 + 1 = 28) rfl rfl ?_
      refine r_getr hC 0 7 19 12 (o := 12) fw_X8_43 rfl rfl dX8_nth_28 (rfl : 28 + 3 = 31) ?_
      refine r_iload_n hC 2 dX8_nth_31 (rfl : 31 + 1 = 32) rfl rfl ?_
      obtain ⟨q_6, h⟩ := h
      refine r_lald hC 12 rfl q_6 dX8_nth_32 (rfl : 32 + 1 = 33) ?_
      refine r_lconst hC dX8_nth_33 (rfl : 33 + 1 = 34) (v := 1) (by decide) ?_
      refine r_lsub hC dX8_nth_34 (rfl : 34 + 1 = 35) ?_
      refine r_callSi hC cs_X8_177 (by omega) (mX8_in hC.2.2.2.2.2.2.2.2.1 (k := k - 1) (by omega) x3 0 ((σ_5.2.1 12 (Int32.toNatClampNeg x2)) - 1) σ_5 _ h) rfl rfl (Nat.le_of_ble_eq_true rfl) dX8_nth_35 (rfl : 35 + 3 = 38) (fun r_8 σ_7 h => ?_)
      refine r_if_ne hC dX8_nth_38 (rfl : 38 + 3 = 41) (tgt := 43) (by decide) (fun q => ?_) (fun q => ?_)
      · replace h := if_f h q
        refine r_aload_n hC 0 dX8_nth_43 (rfl : 43 + 1 = 44) rfl rfl ?_
        refine r_iconst hC dX8_nth_44 (rfl : 44 + 1 = 45) (v := 0) (by decide) ?_
        obtain ⟨σ_9, e_10, h⟩ := lt_nm h
        refine r_puti hC 0 7 17 fw_X8_185 fp_8_17 rfl e_10 dX8_nth_45 (rfl : 45 + 3 = 48) ?_
        refine r_aload_n hC 0 dX8_nth_48 (rfl : 48 + 1 = 49) rfl rfl ?_
        refine r_iload_n hC 2 dX8_nth_49 (rfl : 49 + 1 = 50) rfl rfl ?_
        refine r_lload_n hC 3 dX8_nth_50 (rfl : 50 + 1 = 51) rfl rfl ?_
        refine r_callVv hC cs_X8_223 rfl (by omega) (mX8_nth0 hC.2.2.2.2.2.2.2.2.1 d (k - 1) (by omega) x2 x3 σ_9 _ h) rfl rfl (Nat.le_of_ble_eq_true rfl) dX8_nth_51 (rfl : 51 + 3 = 54) (fun  σ_11 h => ?_)
        refine r_aload_n hC 0 dX8_nth_54 (rfl : 54 + 1 = 55) rfl rfl ?_
        refine r_iload_n hC 1 dX8_nth_55 (rfl : 55 + 1 = 56) rfl rfl ?_
        refine r_callVi hC cs_X8_236 rfl (by omega) (mX8_put hC.2.2.2.2.2.2.2.2.1 (k := k - 1) (by omega) x1 σ_11 _ h) rfl rfl (Nat.le_of_ble_eq_true rfl) dX8_nth_56 (rfl : 56 + 3 = 59) (fun r_13 σ_12 h => ?_)
        exact r_iret hC rfl h dX8_nth_59
      · replace h := if_t h q
        refine r_iconst hC dX8_nth_41 (rfl : 41 + 1 = 42) (v := -1) (by decide) ?_
        exact r_iret hC rfl h dX8_nth_42
    · replace h := if_t h q
      refine r_iconst hC dX8_nth_19 (rfl : 19 + 1 = 20) (v := -1) (by decide) ?_
      exact r_iret hC rfl h dX8_nth_20
set_option maxHeartbeats 1000000 in
set_option maxRecDepth 100000 in
theorem sX8_number_70 {G : Gx} {b k : Nat} {K : Kx} {l : Launch} (hl : K.2.1 = l) (hC : Cx YM G b K cX8_number RX8 3 (some .long) k) (d : Nat) (hk : 2 * d + 3 ≤ k) (K32 : Int32 → Sg → Prop) (Q : Int64 → Sg → Prop) (h32 : ∀ (x2 : Int32) (σ : Sg), K32 x2 σ → V YM G K (Zl YM G K Q) 3 σ 32 [(0, .ref (G.1 0)), (2, .int x2)] []) (x2 : Int32) (σ : Sg) (h : wX8_number_70 d K32 x2 σ Q) : V YM G K (Zl YM G K Q) 3 σ 70 [(0, .ref (G.1 0)), (2, .int x2)] [] := by
  subst hl
  unfold wX8_number_70 at h
  obtain ⟨x2_1, e_2, h⟩ := lt_nm h
  refine r_iinc hC (j := 1) dX8_number_70 (rfl : 70 + 3 = 73) rfl (zz := 1) (by decide) e_2 (by decide) (lv2 := [(2, .int x2_1), (0, .ref (G.1 0))]) rfl ?_
  refine r_goto hC dX8_number_73 (tgt := 32) (by decide) ?_
  exact (h32 x2_1 σ h).sub [1, 0] rfl
set_option maxHeartbeats 1000000 in
set_option maxRecDepth 100000 in
theorem sX8_number_32 {G : Gx} {b k : Nat} {K : Kx} {l : Launch} (hl : K.2.1 = l) (hC : Cx YM G b K cX8_number RX8 3 (some .long) k) (d : Nat) (hk : 2 * d + 3 ≤ k)  (Q : Int64 → Sg → Prop)  : ∀ (n : Nat) (x2 : Int32) (σ : Sg), wX8_number_32 d Q n x2 σ → V YM G K (Zl YM G K Q) 3 σ 32 [(0, .ref (G.1 0)), (2, .int x2)] [] := by
  subst hl
  intro n
  induction n with
  | zero =>
    intro x2 σ h
    exact h.elim
  | succ n ih =>
    intro x2 σ h
    have h : wX8_number_32_b d (wX8_number_32 d Q n) x2 σ Q := h
    unfold wX8_number_32_b at h
    refine r_iload_n hC 1 dX8_number_32 (rfl : 32 + 1 = 33) rfl rfl ?_
    refine r_aload_n hC 0 dX8_number_33 (rfl : 33 + 1 = 34) rfl rfl ?_
    refine r_geti hC 0 7 17 fw_X8_185 rfl dX8_number_34 (rfl : 34 + 3 = 37) ?_
    refine r_icmp_ge hC dX8_number_37 (rfl : 37 + 3 = 40) (tgt := 76) (by decide) (fun q => ?_) (fun q => ?_)
    · replace h := if_t h q
      refine r_aload_n hC 0 dX8_number_76 (rfl : 76 + 1 = 77) rfl rfl ?_
      refine r_callVv hC cs_X8_220 rfl (by omega) (mX8_count0 hC.2.2.2.2.2.2.2.2.1 (k := k - 1) (by omega)  σ _ h) rfl rfl (Nat.le_of_ble_eq_true rfl) dX8_number_77 (rfl : 77 + 3 = 80) (fun  σ_3 h => ?_)
      refine r_aload_n hC 0 dX8_number_80 (rfl : 80 + 1 = 81) rfl rfl ?_
      refine r_aload_n hC 0 dX8_number_81 (rfl : 81 + 1 = 82) rfl rfl ?_
      refine r_callVi hC cs_X8_202 rfl (by omega) (mX8_tree hC.2.2.2.2.2.2.2.2.1 d (k := k - 1) (by omega)  σ_3 _ h) rfl rfl (Nat.le_of_ble_eq_true rfl) dX8_number_82 (rfl : 82 + 3 = 85) (fun r_5 σ_4 h => ?_)
      refine r_callVl hC cs_X8_239 rfl (by omega) (mX8_rank hC.2.2.2.2.2.2.2.2.1 d (k - 1) (by omega) r_5 σ_4 _ h) rfl rfl (Nat.le_of_ble_eq_true rfl) dX8_number_85 (rfl : 85 + 3 = 88) (fun r_7 σ_6 h => ?_)
      exact r_lret hC rfl h dX8_number_88
    · replace h := if_f h q
      refine r_aload_n hC 0 dX8_number_40 (rfl : 40 + 1 = 41) rfl rfl ?_
      refine r_getr hC 0 7 15 10 (o := 10) fw_X8_37 rfl rfl dX8_number_41 (rfl : 41 + 3 = 44) ?_
      refine r_iload_n hC 1 dX8_number_44 (rfl : 44 + 1 = 45) rfl rfl ?_
      obtain ⟨q_8, h⟩ := h
      refine r_iald hC 10 rfl q_8 dX8_number_45 (rfl : 45 + 1 = 46) ?_
      refine r_if_ne hC dX8_number_46 (rfl : 46 + 3 = 49) (tgt := 70) (by decide) (fun q => ?_) (fun q => ?_)
      · replace h := if_f h q
        exact (sX8_number_70 rfl hC d hk (wX8_number_32 d Q n) Q ih x2 σ h).sub [0, 1] rfl
      · replace h := if_t h q
        refine r_aload_n hC 0 dX8_number_49 (rfl : 49 + 1 = 50) rfl rfl ?_
        refine r_getr hC 0 7 16 11 (o := 11) fw_X8_40 rfl rfl dX8_number_50 (rfl : 50 + 3 = 53) ?_
        refine r_iload_n hC 1 dX8_number_53 (rfl : 53 + 1 = 54) rfl rfl ?_
        refine r_iald hC 11 rfl q_8 dX8_number_54 (rfl : 54 + 1 = 55) ?_
        refine r_i2l hC dX8_number_55 (rfl : 55 + 1 = 56) ?_
        refine r_lconst hC dX8_number_56 (rfl : 56 + 1 = 57) (v := 0) (by decide) ?_
        refine r_ldc2 hC dX8_number_57 (rfl : 57 + 3 = 60) wd_939 ?_
        refine r_callSi hC cs_X8_177 (by omega) (mX8_in hC.2.2.2.2.2.2.2.2.1 (k := k - 1) (by omega) (Int32.toInt64 (σ.1 11 (Int32.toNatClampNeg x2))) 0 2 σ _ h) rfl rfl (Nat.le_of_ble_eq_true rfl) dX8_number_60 (rfl : 60 + 3 = 63) (fun r_10 σ_9 h => ?_)
        refine r_if_ne hC dX8_number_63 (rfl : 63 + 3 = 66) (tgt := 70) (by decide) (fun q => ?_) (fun q => ?_)
        · replace h := if_f h q
          exact (sX8_number_70 rfl hC d hk (wX8_number_32 d Q n) Q ih x2 σ_9 h).sub [0, 1] rfl
        · replace h := if_t h q
          refine r_ldc2 hC dX8_number_66 (rfl : 66 + 3 = 69) wd_938 ?_
          exact r_lret hC rfl h dX8_number_69
set_option maxHeartbeats 1000000 in
set_option maxRecDepth 100000 in
theorem mX8_number {G : Gx} {b k : Nat} {l : Launch} (hS : Sok YM G) (d : Nat) (hk : 2 * d + 3 ≤ k) (x1 : Int32) (σ : Sg) (Q : Int64 → Sg → Prop) (h : wX8_number d x1 σ Q) : Ml YM G b l yX8_number cX8_number 3 k [.ref (G.1 0), .int x1] σ Q := by
  refine enter hS (by decide +kernel) (Nat.le_of_ble_eq_true rfl) (lv := [(0, .ref (G.1 0)), (1, .int x1)]) rfl (fun K hl hC => ?_)
  subst hl
  unfold wX8_number at h
  show V YM G K (Zl YM G K Q) 3 σ 0 [(0, .ref (G.1 0)), (1, .int x1)] []
  refine r_aload_n hC 0 dX8_number_0 (rfl : 0 + 1 = 1) rfl rfl ?_
  refine r_iload_n hC 1 dX8_number_1 (rfl : 1 + 1 = 2) rfl rfl ?_
  refine r_callVi hC cs_X8_246 rfl (by omega) (mX8_has hC.2.2.2.2.2.2.2.2.1 (k := k - 1) (by omega) x1 σ _ h) rfl rfl (Nat.le_of_ble_eq_true rfl) dX8_number_2 (rfl : 2 + 3 = 5) (fun r_12 σ_11 h => ?_)
  refine r_if_ne hC dX8_number_5 (rfl : 5 + 3 = 8) (tgt := 12) (by decide) (fun q => ?_) (fun q => ?_)
  · replace h := if_f h q
    refine r_aload_n hC 0 dX8_number_12 (rfl : 12 + 1 = 13) rfl rfl ?_
    refine r_iload_n hC 1 dX8_number_13 (rfl : 13 + 1 = 14) rfl rfl ?_
    refine r_callVv hC cs_X8_198 rfl (by omega) (mX8_take hC.2.2.2.2.2.2.2.2.1 (k := k - 1) (by omega) x1 σ_11 _ h) rfl rfl (Nat.le_of_ble_eq_true rfl) dX8_number_14 (rfl : 14 + 3 = 17) (fun  σ_13 h => ?_)
    refine r_aload_n hC 0 dX8_number_17 (rfl : 17 + 1 = 18) rfl rfl ?_
    refine r_geti hC 0 7 17 fw_X8_185 rfl dX8_number_18 (rfl : 18 + 3 = 21) ?_
    refine r_bipush hC dX8_number_21 (rfl : 21 + 2 = 23) (v := 15) (by decide) ?_
    refine r_icmp_le hC dX8_number_23 (rfl : 23 + 3 = 26) (tgt := 30) (by decide) (fun q => ?_) (fun q => ?_)
    · replace h := if_t h q
      refine r_iconst hC dX8_number_30 (rfl : 30 + 1 = 31) (v := 0) (by decide) ?_
      refine r_istore_n hC dX8_number_31 (rfl : 31 + 1 = 32) rfl (by decide) rfl (lv2 := [(2, .int 0), (0, .ref (G.1 0)), (1, .int x1)]) rfl ?_
      obtain ⟨nn, h⟩ := h
      exact (sX8_number_32 rfl hC d hk  Q  nn 0 σ_13 h).sub [1, 0] rfl
    · replace h := if_f h q
      refine r_ldc2 hC dX8_number_26 (rfl : 26 + 3 = 29) wd_938 ?_
      exact r_lret hC rfl h dX8_number_29
  · replace h := if_t h q
    refine r_ldc2 hC dX8_number_8 (rfl : 8 + 3 = 11) wd_890 ?_
    exact r_lret hC rfl h dX8_number_11
set_option maxHeartbeats 1000000 in
set_option maxRecDepth 100000 in
theorem sX8_splice_82 {G : Gx} {b k : Nat} {K : Kx} {l : Launch} (hl : K.2.1 = l) (hC : Cx YM G b K cX8_splice RX8 6 none k)  (hk : 1 ≤ k)  (Q : Sg → Prop)  : ∀ (n : Nat) (x1 : Int32) (x3 : Int32) (x4 : Int32) (x5 : Int32) (σ : Sg), wX8_splice_82  Q n x1 x3 x4 x5 σ → V YM G K (Zv YM G K Q) 6 σ 82 [(0, .ref (G.1 0)), (1, .int x1), (3, .int x3), (4, .int x4), (5, .int x5)] [] := by
  subst hl
  intro n
  induction n with
  | zero =>
    intro x1 x3 x4 x5 σ h
    exact h.elim
  | succ n ih =>
    intro x1 x3 x4 x5 σ h
    have h : wX8_splice_82_b  (wX8_splice_82  Q n) x1 x3 x4 x5 σ Q := h
    unfold wX8_splice_82_b at h
    refine r_iload hC 4 dX8_splice_82 (rfl : 82 + 2 = 84) rfl ?_
    refine r_iload_n hC 2 dX8_splice_84 (rfl : 84 + 1 = 85) rfl rfl ?_
    refine r_icmp_ge hC dX8_splice_85 (rfl : 85 + 3 = 88) (tgt := 126) (by decide) (fun q => ?_) (fun q => ?_)
    · replace h := if_t h q
      refine r_aload_n hC 0 dX8_splice_126 (rfl : 126 + 1 = 127) rfl rfl ?_
      refine r_iload_n hC 1 dX8_splice_127 (rfl : 127 + 1 = 128) rfl rfl ?_
      refine r_iload_n hC 2 dX8_splice_128 (rfl : 128 + 1 = 129) rfl rfl ?_
      refine r_iadd hC dX8_splice_129 (rfl : 129 + 1 = 130) ?_
      refine r_iload hC 3 dX8_splice_130 (rfl : 130 + 2 = 132) rfl ?_
      refine r_iadd hC dX8_splice_132 (rfl : 132 + 1 = 133) ?_
      obtain ⟨σ_1, e_2, h⟩ := lt_nm h
      refine r_puti hC 0 7 17 fw_X8_185 fp_8_17 rfl e_2 dX8_splice_133 (rfl : 133 + 3 = 136) ?_
      exact r_vret hC rfl h dX8_splice_136
    · replace h := if_f h q
      refine r_aload_n hC 0 dX8_splice_88 (rfl : 88 + 1 = 89) rfl rfl ?_
      refine r_getr hC 0 7 15 10 (o := 10) fw_X8_37 rfl rfl dX8_splice_89 (rfl : 89 + 3 = 92) ?_
      refine r_iload_n hC 1 dX8_splice_92 (rfl : 92 + 1 = 93) rfl rfl ?_
      refine r_iload hC 4 dX8_splice_93 (rfl : 93 + 2 = 95) rfl ?_
      refine r_iadd hC dX8_splice_95 (rfl : 95 + 1 = 96) ?_
      refine r_aload_n hC 0 dX8_splice_96 (rfl : 96 + 1 = 97) rfl rfl ?_
      refine r_getr hC 0 7 25 16 (o := 16) fw_X8_56 rfl rfl dX8_splice_97 (rfl : 97 + 3 = 100) ?_
      refine r_iload hC 4 dX8_splice_100 (rfl : 100 + 2 = 102) rfl ?_
      obtain ⟨q_3, h⟩ := h
      refine r_iald hC 16 rfl q_3 dX8_splice_102 (rfl : 102 + 1 = 103) ?_
      obtain ⟨q_4, h⟩ := h
      obtain ⟨σ_5, e_6, h⟩ := lt_nm h
      refine r_iast hC 10 rfl q_4 e_6 dX8_splice_103 (rfl : 103 + 1 = 104) ?_
      refine r_aload_n hC 0 dX8_splice_104 (rfl : 104 + 1 = 105) rfl rfl ?_
      refine r_getr hC 0 7 16 11 (o := 11) fw_X8_40 rfl rfl dX8_splice_105 (rfl : 105 + 3 = 108) ?_
      refine r_iload_n hC 1 dX8_splice_108 (rfl : 108 + 1 = 109) rfl rfl ?_
      refine r_iload hC 4 dX8_splice_109 (rfl : 109 + 2 = 111) rfl ?_
      refine r_iadd hC dX8_splice_111 (rfl : 111 + 1 = 112) ?_
      refine r_aload_n hC 0 dX8_splice_112 (rfl : 112 + 1 = 113) rfl rfl ?_
      refine r_getr hC 0 7 26 17 (o := 17) fw_X8_59 rfl rfl dX8_splice_113 (rfl : 113 + 3 = 116) ?_
      refine r_iload hC 4 dX8_splice_116 (rfl : 116 + 2 = 118) rfl ?_
      refine r_iald hC 17 rfl q_3 dX8_splice_118 (rfl : 118 + 1 = 119) ?_
      obtain ⟨σ_7, e_8, h⟩ := lt_nm h
      refine r_iast hC 11 rfl q_4 e_8 dX8_splice_119 (rfl : 119 + 1 = 120) ?_
      obtain ⟨x5_9, e_10, h⟩ := lt_nm h
      refine r_iinc hC (j := 4) dX8_splice_120 (rfl : 120 + 3 = 123) rfl (zz := 1) (by decide) e_10 (by decide) (lv2 := [(5, .int x5_9), (0, .ref (G.1 0)), (1, .int x1), (3, .int x3), (4, .int x4)]) rfl ?_
      refine r_goto hC dX8_splice_123 (tgt := 82) (by decide) ?_
      exact (ih x1 x3 x4 x5_9 σ_7 h).sub [1, 2, 3, 4, 0] rfl
set_option maxHeartbeats 1000000 in
set_option maxRecDepth 100000 in
theorem sX8_splice_79 {G : Gx} {b k : Nat} {K : Kx} {l : Launch} (hl : K.2.1 = l) (hC : Cx YM G b K cX8_splice RX8 6 none k)  (hk : 1 ≤ k)  (Q : Sg → Prop)  (x1 : Int32) (x3 : Int32) (x4 : Int32) (σ : Sg) (h : wX8_splice_79  x1 x3 x4 σ Q) : V YM G K (Zv YM G K Q) 6 σ 79 [(0, .ref (G.1 0)), (1, .int x1), (3, .int x3), (4, .int x4)] [] := by
  subst hl
  unfold wX8_splice_79 at h
  refine r_iconst hC dX8_splice_79 (rfl : 79 + 1 = 80) (v := 0) (by decide) ?_
  refine r_istore hC dX8_splice_80 (rfl : 80 + 2 = 82) (by decide) rfl (lv2 := [(5, .int 0), (0, .ref (G.1 0)), (1, .int x1), (3, .int x3), (4, .int x4)]) rfl ?_
  obtain ⟨nn, h⟩ := h
  exact (sX8_splice_82 rfl hC hk  Q  nn x1 x3 x4 0 σ h).sub [1, 2, 3, 4, 0] rfl
set_option maxHeartbeats 1000000 in
set_option maxRecDepth 100000 in
theorem sX8_splice_52 {G : Gx} {b k : Nat} {K : Kx} {l : Launch} (hl : K.2.1 = l) (hC : Cx YM G b K cX8_splice RX8 6 none k)  (hk : 1 ≤ k)  (Q : Sg → Prop)  : ∀ (n : Nat) (x1 : Int32) (x2 : Int32) (x3 : Int32) (x4 : Int32) (x5 : Int32) (σ : Sg), wX8_splice_52  Q n x1 x2 x3 x4 x5 σ → V YM G K (Zv YM G K Q) 6 σ 52 [(0, .ref (G.1 0)), (1, .int x1), (2, .int x2), (3, .int x3), (4, .int x4), (5, .int x5)] [] := by
  subst hl
  intro n
  induction n with
  | zero =>
    intro x1 x2 x3 x4 x5 σ h
    exact h.elim
  | succ n ih =>
    intro x1 x2 x3 x4 x5 σ h
    have h : wX8_splice_52_b  (wX8_splice_52  Q n) x1 x2 x3 x4 x5 σ Q := h
    unfold wX8_splice_52_b at h
    refine r_iload hC 5 dX8_splice_52 (rfl : 52 + 2 = 54) rfl ?_
    refine r_iload hC 4 dX8_splice_54 (rfl : 54 + 2 = 56) rfl ?_
    refine r_icmp_ge hC dX8_splice_56 (rfl : 56 + 3 = 59) (tgt := 79) (by decide) (fun q => ?_) (fun q => ?_)
    · replace h := if_t h q
      exact (sX8_splice_79 rfl hC hk  Q  x1 x3 x4 σ h).sub [0, 1, 3, 4] rfl
    · replace h := if_f h q
      refine r_aload_n hC 0 dX8_splice_59 (rfl : 59 + 1 = 60) rfl rfl ?_
      refine r_iload_n hC 2 dX8_splice_60 (rfl : 60 + 1 = 61) rfl rfl ?_
      refine r_iload hC 5 dX8_splice_61 (rfl : 61 + 2 = 63) rfl ?_
      refine r_iadd hC dX8_splice_63 (rfl : 63 + 1 = 64) ?_
      refine r_iload_n hC 1 dX8_splice_64 (rfl : 64 + 1 = 65) rfl rfl ?_
      refine r_iload_n hC 3 dX8_splice_65 (rfl : 65 + 1 = 66) rfl rfl ?_
      refine r_iadd hC dX8_splice_66 (rfl : 66 + 1 = 67) ?_
      refine r_iload hC 5 dX8_splice_67 (rfl : 67 + 2 = 69) rfl ?_
      refine r_iadd hC dX8_splice_69 (rfl : 69 + 1 = 70) ?_
      refine r_callVv hC cs_X8_273 rfl (by omega) (mX8_shift hC.2.2.2.2.2.2.2.2.1 (k := k - 1) (by omega) (x2 + x5) ((x1 + x3) + x5) σ _ h) rfl rfl (Nat.le_of_ble_eq_true rfl) dX8_splice_70 (rfl : 70 + 3 = 73) (fun  σ_11 h => ?_)
      obtain ⟨x5_12, e_13, h⟩ := lt_nm h
      refine r_iinc hC (j := 5) dX8_splice_73 (rfl : 73 + 3 = 76) rfl (zz := 1) (by decide) e_13 (by decide) (lv2 := [(5, .int x5_12), (0, .ref (G.1 0)), (1, .int x1), (2, .int x2), (3, .int x3), (4, .int x4)]) rfl ?_
      refine r_goto hC dX8_splice_76 (tgt := 52) (by decide) ?_
      exact (ih x1 x2 x3 x4 x5_12 σ_11 h).sub [1, 2, 3, 4, 5, 0] rfl
set_option maxHeartbeats 1000000 in
set_option maxRecDepth 100000 in
theorem sX8_splice_21 {G : Gx} {b k : Nat} {K : Kx} {l : Launch} (hl : K.2.1 = l) (hC : Cx YM G b K cX8_splice RX8 6 none k)  (hk : 1 ≤ k)  (Q : Sg → Prop)  : ∀ (n : Nat) (x1 : Int32) (x2 : Int32) (x3 : Int32) (x4 : Int32) (x5 : Int32) (σ : Sg), wX8_splice_21  Q n x1 x2 x3 x4 x5 σ → V YM G K (Zv YM G K Q) 6 σ 21 [(0, .ref (G.1 0)), (1, .int x1), (2, .int x2), (3, .int x3), (4, .int x4), (5, .int x5)] [] := by
  subst hl
  intro n
  induction n with
  | zero =>
    intro x1 x2 x3 x4 x5 σ h
    exact h.elim
  | succ n ih =>
    intro x1 x2 x3 x4 x5 σ h
    have h : wX8_splice_21_b  (wX8_splice_21  Q n) x1 x2 x3 x4 x5 σ Q := h
    unfold wX8_splice_21_b at h
    refine r_iload hC 5 dX8_splice_21 (rfl : 21 + 2 = 23) rfl ?_
    refine r_if_lt hC dX8_splice_23 (rfl : 23 + 3 = 26) (tgt := 46) (by decide) (fun q => ?_) (fun q => ?_)
    · replace h := if_t h q
      refine r_goto hC dX8_splice_46 (tgt := 79) (by decide) ?_
      exact (sX8_splice_79 rfl hC hk  Q  x1 x3 x4 σ h).sub [0, 1, 3, 4] rfl
    · replace h := if_f h q
      refine r_aload_n hC 0 dX8_splice_26 (rfl : 26 + 1 = 27) rfl rfl ?_
      refine r_iload_n hC 2 dX8_splice_27 (rfl : 27 + 1 = 28) rfl rfl ?_
      refine r_iload hC 5 dX8_splice_28 (rfl : 28 + 2 = 30) rfl ?_
      refine r_iadd hC dX8_splice_30 (rfl : 30 + 1 = 31) ?_
      refine r_iload_n hC 1 dX8_splice_31 (rfl : 31 + 1 = 32) rfl rfl ?_
      refine r_iload_n hC 3 dX8_splice_32 (rfl : 32 + 1 = 33) rfl rfl ?_
      refine r_iadd hC dX8_splice_33 (rfl : 33 + 1 = 34) ?_
      refine r_iload hC 5 dX8_splice_34 (rfl : 34 + 2 = 36) rfl ?_
      refine r_iadd hC dX8_splice_36 (rfl : 36 + 1 = 37) ?_
      refine r_callVv hC cs_X8_273 rfl (by omega) (mX8_shift hC.2.2.2.2.2.2.2.2.1 (k := k - 1) (by omega) (x2 + x5) ((x1 + x3) + x5) σ _ h) rfl rfl (Nat.le_of_ble_eq_true rfl) dX8_splice_37 (rfl : 37 + 3 = 40) (fun  σ_14 h => ?_)
      obtain ⟨x5_15, e_16, h⟩ := lt_nm h
      refine r_iinc hC (j := 5) dX8_splice_40 (rfl : 40 + 3 = 43) rfl (zz := -1) (by decide) e_16 (by decide) (lv2 := [(5, .int x5_15), (0, .ref (G.1 0)), (1, .int x1), (2, .int x2), (3, .int x3), (4, .int x4)]) rfl ?_
      refine r_goto hC dX8_splice_43 (tgt := 21) (by decide) ?_
      exact (ih x1 x2 x3 x4 x5_15 σ_14 h).sub [1, 2, 3, 4, 5, 0] rfl
set_option maxHeartbeats 1000000 in
set_option maxRecDepth 100000 in
theorem mX8_splice {G : Gx} {b k : Nat} {l : Launch} (hS : Sok YM G)  (hk : 1 ≤ k) (x1 : Int32) (x2 : Int32) (x3 : Int32) (σ : Sg) (Q : Sg → Prop) (h : wX8_splice  x1 x2 x3 σ Q) : Mv YM G b l yX8_splice cX8_splice 6 k [.ref (G.1 0), .int x1, .int x2, .int x3] σ Q := by
  refine enter hS (by decide +kernel) (Nat.le_of_ble_eq_true rfl) (lv := [(0, .ref (G.1 0)), (1, .int x1), (2, .int x2), (3, .int x3)]) rfl (fun K hl hC => ?_)
  subst hl
  unfold wX8_splice at h
  show V YM G K (Zv YM G K Q) 6 σ 0 [(0, .ref (G.1 0)), (1, .int x1), (2, .int x2), (3, .int x3)] []
  refine r_aload_n hC 0 dX8_splice_0 (rfl : 0 + 1 = 1) rfl rfl ?_
  refine r_geti hC 0 7 17 fw_X8_185 rfl dX8_splice_1 (rfl : 1 + 3 = 4) ?_
  refine r_iload_n hC 2 dX8_splice_4 (rfl : 4 + 1 = 5) rfl rfl ?_
  refine r_isub hC dX8_splice_5 (rfl : 5 + 1 = 6) ?_
  obtain ⟨x4_17, e_18, h⟩ := lt_nm h
  refine r_istore hC dX8_splice_6 (rfl : 6 + 2 = 8) (by decide) e_18 (lv2 := [(4, .int x4_17), (0, .ref (G.1 0)), (1, .int x1), (2, .int x2), (3, .int x3)]) rfl ?_
  refine r_iload_n hC 4 dX8_splice_8 (rfl : 8 + 1 = 9) rfl rfl ?_
  refine r_iload_n hC 3 dX8_splice_9 (rfl : 9 + 1 = 10) rfl rfl ?_
  refine r_iload_n hC 2 dX8_splice_10 (rfl : 10 + 1 = 11) rfl rfl ?_
  refine r_isub hC dX8_splice_11 (rfl : 11 + 1 = 12) ?_
  refine r_icmp_le hC dX8_splice_12 (rfl : 12 + 3 = 15) (tgt := 49) (by decide) (fun q => ?_) (fun q => ?_)
  · replace h := if_t h q
    refine r_iconst hC dX8_splice_49 (rfl : 49 + 1 = 50) (v := 0) (by decide) ?_
    refine r_istore hC dX8_splice_50 (rfl : 50 + 2 = 52) (by decide) rfl (lv2 := [(5, .int 0), (4, .int x4_17), (0, .ref (G.1 0)), (1, .int x1), (2, .int x2), (3, .int x3)]) rfl ?_
    obtain ⟨nn, h⟩ := h
    exact (sX8_splice_52 rfl hC hk  Q  nn x1 x2 x3 x4_17 0 σ h).sub [2, 3, 4, 5, 1, 0] rfl
  · replace h := if_f h q
    refine r_iload hC 0 dX8_splice_15 (rfl : 15 + 2 = 17) rfl ?_
    refine r_iconst hC dX8_splice_17 (rfl : 17 + 1 = 18) (v := 1) (by decide) ?_
    refine r_isub hC dX8_splice_18 (rfl : 18 + 1 = 19) ?_
    obtain ⟨x5_19, e_20, h⟩ := lt_nm h
    refine r_istore hC dX8_splice_19 (rfl : 19 + 2 = 21) (by decide) e_20 (lv2 := [(5, .int x5_19), (4, .int x4_17), (0, .ref (G.1 0)), (1, .int x1), (2, .int x2), (3, .int x3)]) rfl ?_
    obtain ⟨nn, h⟩ := h
    exact (sX8_splice_21 rfl hC hk  Q  nn x1 x2 x3 x4_17 x5_19 σ h).sub [2, 3, 4, 5, 1, 0] rfl
set_option maxHeartbeats 1000000 in
set_option maxRecDepth 100000 in
theorem mX8_breed {G : Gx} {b k : Nat} {l : Launch} (hS : Sok YM G)  (hk : 3 ≤ k) (x1 : Int32) (x2 : Int32) (x3 : Int32) (x4 : Int32) (x5 : Int32) (σ : Sg) (Q : Int32 → Sg → Prop) (h : wX8_breed  x1 x2 x3 x4 x5 σ Q) : Mi YM G b l yX8_breed cX8_breed 7 .int k [.ref (G.1 0), .int x1, .int x2, .int x3, .int x4, .int x5] σ Q := by
  refine enter hS (by decide +kernel) (Nat.le_of_ble_eq_true rfl) (lv := [(0, .ref (G.1 0)), (1, .int x1), (2, .int x2), (3, .int x3), (4, .int x4), (5, .int x5)]) rfl (fun K hl hC => ?_)
  subst hl
  unfold wX8_breed at h
  show V YM G K (Zi YM G K Q) 7 σ 0 [(0, .ref (G.1 0)), (1, .int x1), (2, .int x2), (3, .int x3), (4, .int x4), (5, .int x5)] []
  refine r_iload_n hC 1 dX8_breed_0 (rfl : 0 + 1 = 1) rfl rfl ?_
  refine r_callSi hC cs_X8_181 (by omega) (mX8_isPlace hC.2.2.2.2.2.2.2.2.1 (k := k - 1) (by omega) x1 σ _ h) rfl rfl (Nat.le_of_ble_eq_true rfl) dX8_breed_1 (rfl : 1 + 3 = 4) (fun r_2 σ_1 h => ?_)
  refine r_if_eq hC dX8_breed_4 (rfl : 4 + 3 = 7) (tgt := 62) (by decide) (fun q => ?_) (fun q => ?_)
  · replace h := if_t h q
    refine r_iconst hC dX8_breed_62 (rfl : 62 + 1 = 63) (v := -1) (by decide) ?_
    exact r_iret hC rfl h dX8_breed_63
  · replace h := if_f h q
    refine r_aload_n hC 0 dX8_breed_7 (rfl : 7 + 1 = 8) rfl rfl ?_
    refine r_iload_n hC 2 dX8_breed_8 (rfl : 8 + 1 = 9) rfl rfl ?_
    refine r_callVi hC cs_X8_246 rfl (by omega) (mX8_has hC.2.2.2.2.2.2.2.2.1 (k := k - 1) (by omega) x2 σ_1 _ h) rfl rfl (Nat.le_of_ble_eq_true rfl) dX8_breed_9 (rfl : 9 + 3 = 12) (fun r_4 σ_3 h => ?_)
    refine r_if_eq hC dX8_breed_12 (rfl : 12 + 3 = 15) (tgt := 62) (by decide) (fun q => ?_) (fun q => ?_)
    · replace h := if_t h q
      refine r_iconst hC dX8_breed_62 (rfl : 62 + 1 = 63) (v := -1) (by decide) ?_
      exact r_iret hC rfl h dX8_breed_63
    · replace h := if_f h q
      refine r_aload_n hC 0 dX8_breed_15 (rfl : 15 + 1 = 16) rfl rfl ?_
      refine r_iload hC 4 dX8_breed_16 (rfl : 16 + 2 = 18) rfl ?_
      refine r_callVi hC cs_X8_246 rfl (by omega) (mX8_has hC.2.2.2.2.2.2.2.2.1 (k := k - 1) (by omega) x4 σ_3 _ h) rfl rfl (Nat.le_of_ble_eq_true rfl) dX8_breed_18 (rfl : 18 + 3 = 21) (fun r_6 σ_5 h => ?_)
      refine r_if_eq hC dX8_breed_21 (rfl : 21 + 3 = 24) (tgt := 62) (by decide) (fun q => ?_) (fun q => ?_)
      · replace h := if_t h q
        refine r_iconst hC dX8_breed_62 (rfl : 62 + 1 = 63) (v := -1) (by decide) ?_
        exact r_iret hC rfl h dX8_breed_63
      · replace h := if_f h q
        refine r_iload_n hC 3 dX8_breed_24 (rfl : 24 + 1 = 25) rfl rfl ?_
        refine r_i2l hC dX8_breed_25 (rfl : 25 + 1 = 26) ?_
        refine r_lconst hC dX8_breed_26 (rfl : 26 + 1 = 27) (v := 0) (by decide) ?_
        refine r_aload_n hC 0 dX8_breed_27 (rfl : 27 + 1 = 28) rfl rfl ?_
        refine r_getr hC 0 7 12 7 (o := 7) fw_X8_28 rfl rfl dX8_breed_28 (rfl : 28 + 3 = 31) ?_
        refine r_iload_n hC 2 dX8_breed_31 (rfl : 31 + 1 = 32) rfl rfl ?_
        obtain ⟨q_7, h⟩ := h
        refine r_iald hC 7 rfl q_7 dX8_breed_32 (rfl : 32 + 1 = 33) ?_
        refine r_iconst hC dX8_breed_33 (rfl : 33 + 1 = 34) (v := 1) (by decide) ?_
        refine r_isub hC dX8_breed_34 (rfl : 34 + 1 = 35) ?_
        refine r_i2l hC dX8_breed_35 (rfl : 35 + 1 = 36) ?_
        refine r_callSi hC cs_X8_177 (by omega) (mX8_in hC.2.2.2.2.2.2.2.2.1 (k := k - 1) (by omega) (Int32.toInt64 x3) 0 (Int32.toInt64 ((σ_5.1 7 (Int32.toNatClampNeg x2)) - 1)) σ_5 _ h) rfl rfl (Nat.le_of_ble_eq_true rfl) dX8_breed_36 (rfl : 36 + 3 = 39) (fun r_9 σ_8 h => ?_)
        refine r_if_eq hC dX8_breed_39 (rfl : 39 + 3 = 42) (tgt := 62) (by decide) (fun q => ?_) (fun q => ?_)
        · replace h := if_t h q
          refine r_iconst hC dX8_breed_62 (rfl : 62 + 1 = 63) (v := -1) (by decide) ?_
          exact r_iret hC rfl h dX8_breed_63
        · replace h := if_f h q
          refine r_iload hC 5 dX8_breed_42 (rfl : 42 + 2 = 44) rfl ?_
          refine r_i2l hC dX8_breed_44 (rfl : 44 + 1 = 45) ?_
          refine r_lconst hC dX8_breed_45 (rfl : 45 + 1 = 46) (v := 0) (by decide) ?_
          refine r_aload_n hC 0 dX8_breed_46 (rfl : 46 + 1 = 47) rfl rfl ?_
          refine r_getr hC 0 7 12 7 (o := 7) fw_X8_28 rfl rfl dX8_breed_47 (rfl : 47 + 3 = 50) ?_
          refine r_iload hC 4 dX8_breed_50 (rfl : 50 + 2 = 52) rfl ?_
          obtain ⟨q_10, h⟩ := h
          refine r_iald hC 7 rfl q_10 dX8_breed_52 (rfl : 52 + 1 = 53) ?_
          refine r_iconst hC dX8_breed_53 (rfl : 53 + 1 = 54) (v := 1) (by decide) ?_
          refine r_isub hC dX8_breed_54 (rfl : 54 + 1 = 55) ?_
          refine r_i2l hC dX8_breed_55 (rfl : 55 + 1 = 56) ?_
          refine r_callSi hC cs_X8_177 (by omega) (mX8_in hC.2.2.2.2.2.2.2.2.1 (k := k - 1) (by omega) (Int32.toInt64 x5) 0 (Int32.toInt64 ((σ_8.1 7 (Int32.toNatClampNeg x4)) - 1)) σ_8 _ h) rfl rfl (Nat.le_of_ble_eq_true rfl) dX8_breed_56 (rfl : 56 + 3 = 59) (fun r_12 σ_11 h => ?_)
          refine r_if_ne hC dX8_breed_59 (rfl : 59 + 3 = 62) (tgt := 64) (by decide) (fun q => ?_) (fun q => ?_)
          · replace h := if_f h q
            refine r_aload_n hC 0 dX8_breed_64 (rfl : 64 + 1 = 65) rfl rfl ?_
            refine r_iload hC 4 dX8_breed_65 (rfl : 65 + 2 = 67) rfl ?_
            refine r_callVv hC cs_X8_198 rfl (by omega) (mX8_take hC.2.2.2.2.2.2.2.2.1 (k := k - 1) (by omega) x4 σ_11 _ h) rfl rfl (Nat.le_of_ble_eq_true rfl) dX8_breed_67 (rfl : 67 + 3 = 70) (fun  σ_13 h => ?_)
            refine r_aload_n hC 0 dX8_breed_70 (rfl : 70 + 1 = 71) rfl rfl ?_
            refine r_iload hC 5 dX8_breed_71 (rfl : 71 + 2 = 73) rfl ?_
            refine r_callVi hC cs_X8_262 rfl (by omega) (mX8_endOf hC.2.2.2.2.2.2.2.2.1 (k := k - 1) (by omega) x5 σ_13 _ h) rfl rfl (Nat.le_of_ble_eq_true rfl) dX8_breed_73 (rfl : 73 + 3 = 76) (fun r_15 σ_14 h => ?_)
            refine r_istore hC dX8_breed_76 (rfl : 76 + 2 = 78) (by decide) rfl (lv2 := [(6, .int r_15), (0, .ref (G.1 0)), (1, .int x1), (2, .int x2), (3, .int x3), (4, .int x4), (5, .int x5)]) rfl ?_
            refine r_aload_n hC 1 dX8_breed_78 (rfl : 78 + 1 = 79) rfl rfl ?_
            refine r_iload hC 6 dX8_breed_79 (rfl : 79 + 2 = 81) rfl ?_
            refine r_iload hC 0 dX8_breed_81 (rfl : 81 + 2 = 83) rfl ?_
            refine r_callVv hC cs_X8_276 rfl (by omega) (mX8_spare hC.2.2.2.2.2.2.2.2.1 (k := k - 1) (by omega) x5 r_15 σ_14 _ h) rfl rfl (Nat.le_of_ble_eq_true rfl) dX8_breed_83 (rfl : 83 + 3 = 86) (fun  σ_16 h => ?_)
            refine r_aload_n hC 1 dX8_breed_86 (rfl : 86 + 1 = 87) rfl rfl ?_
            refine r_iload_n hC 3 dX8_breed_87 (rfl : 87 + 1 = 88) rfl rfl ?_
            refine r_callVv hC cs_X8_198 rfl (by omega) (mX8_take hC.2.2.2.2.2.2.2.2.1 (k := k - 1) (by omega) x2 σ_16 _ h) rfl rfl (Nat.le_of_ble_eq_true rfl) dX8_breed_88 (rfl : 88 + 3 = 91) (fun  σ_17 h => ?_)
            refine r_aload_n hC 1 dX8_breed_91 (rfl : 91 + 1 = 92) rfl rfl ?_
            refine r_geti hC 0 7 17 fw_X8_185 rfl dX8_breed_92 (rfl : 92 + 3 = 95) ?_
            refine r_aload_n hC 1 dX8_breed_95 (rfl : 95 + 1 = 96) rfl rfl ?_
            refine r_iload_n hC 4 dX8_breed_96 (rfl : 96 + 1 = 97) rfl rfl ?_
            refine r_callVi hC cs_X8_262 rfl (by omega) (mX8_endOf hC.2.2.2.2.2.2.2.2.1 (k := k - 1) (by omega) x3 σ_17 _ h) rfl rfl (Nat.le_of_ble_eq_true rfl) dX8_breed_97 (rfl : 97 + 3 = 100) (fun r_19 σ_18 h => ?_)
            refine r_iload_n hC 4 dX8_breed_100 (rfl : 100 + 1 = 101) rfl rfl ?_
            refine r_isub hC dX8_breed_101 (rfl : 101 + 1 = 102) ?_
            refine r_isub hC dX8_breed_102 (rfl : 102 + 1 = 103) ?_
            refine r_iload hC 0 dX8_breed_103 (rfl : 103 + 2 = 105) rfl ?_
            refine r_iadd hC dX8_breed_105 (rfl : 105 + 1 = 106) ?_
            refine r_iload hC 6 dX8_breed_106 (rfl : 106 + 2 = 108) rfl ?_
            refine r_isub hC dX8_breed_108 (rfl : 108 + 1 = 109) ?_
            refine r_bipush hC dX8_breed_109 (rfl : 109 + 2 = 111) (v := 60) (by decide) ?_
            refine r_icmp_le hC dX8_breed_111 (rfl : 111 + 3 = 114) (tgt := 117) (by decide) (fun q => ?_) (fun q => ?_)
            · replace h := if_t h q
              refine r_aload_n hC 1 dX8_breed_117 (rfl : 117 + 1 = 118) rfl rfl ?_
              refine r_iload_n hC 4 dX8_breed_118 (rfl : 118 + 1 = 119) rfl rfl ?_
              refine r_aload_n hC 1 dX8_breed_119 (rfl : 119 + 1 = 120) rfl rfl ?_
              refine r_iload_n hC 4 dX8_breed_120 (rfl : 120 + 1 = 121) rfl rfl ?_
              refine r_callVi hC cs_X8_262 rfl (by omega) (mX8_endOf hC.2.2.2.2.2.2.2.2.1 (k := k - 1) (by omega) x3 σ_18 _ h) rfl rfl (Nat.le_of_ble_eq_true rfl) dX8_breed_121 (rfl : 121 + 3 = 124) (fun r_21 σ_20 h => ?_)
              refine r_iload hC 0 dX8_breed_124 (rfl : 124 + 2 = 126) rfl ?_
              refine r_iload hC 6 dX8_breed_126 (rfl : 126 + 2 = 128) rfl ?_
              refine r_isub hC dX8_breed_128 (rfl : 128 + 1 = 129) ?_
              refine r_callVv hC cs_X8_279 rfl (by omega) (mX8_splice hC.2.2.2.2.2.2.2.2.1 (k := k - 1) (by omega) x3 r_21 (r_15 - x5) σ_20 _ h) rfl rfl (Nat.le_of_ble_eq_true rfl) dX8_breed_129 (rfl : 129 + 3 = 132) (fun  σ_22 h => ?_)
              refine r_aload_n hC 1 dX8_breed_132 (rfl : 132 + 1 = 133) rfl rfl ?_
              refine r_iload_n hC 2 dX8_breed_133 (rfl : 133 + 1 = 134) rfl rfl ?_
              refine r_callVi hC cs_X8_236 rfl (by omega) (mX8_put hC.2.2.2.2.2.2.2.2.1 (k := k - 1) (by omega) x1 σ_22 _ h) rfl rfl (Nat.le_of_ble_eq_true rfl) dX8_breed_134 (rfl : 134 + 3 = 137) (fun r_24 σ_23 h => ?_)
              exact r_iret hC rfl h dX8_breed_137
            · replace h := if_f h q
              refine r_bipush hC dX8_breed_114 (rfl : 114 + 2 = 116) (v := -3) (by decide) ?_
              exact r_iret hC rfl h dX8_breed_116
          · replace h := if_t h q
            refine r_iconst hC dX8_breed_62 (rfl : 62 + 1 = 63) (v := -1) (by decide) ?_
            exact r_iret hC rfl h dX8_breed_63
set_option maxHeartbeats 1000000 in
set_option maxRecDepth 100000 in
theorem sX8_made_69 {G : Gx} {b k : Nat} {K : Kx} {l : Launch} (hl : K.2.1 = l) (hC : Cx YM G b K cX8_made RX8 6 (some .int) k) (d : Nat) (hk : 2 * d + 8 ≤ k)  (Q : Int32 → Sg → Prop)  : ∀ (n : Nat) (x5 : Int32) (σ : Sg), wX8_made_69 d Q n x5 σ → V YM G K (Zi YM G K Q) 6 σ 69 [(0, .ref (G.1 0)), (5, .int x5)] [] := by
  subst hl
  intro n
  induction n with
  | zero =>
    intro x5 σ h
    exact h.elim
  | succ n ih =>
    intro x5 σ h
    have h : wX8_made_69_b d (wX8_made_69 d Q n) x5 σ Q := h
    unfold wX8_made_69_b at h
    refine r_iload hC 1 dX8_made_69 (rfl : 69 + 2 = 71) rfl ?_
    refine r_aload_n hC 0 dX8_made_71 (rfl : 71 + 1 = 72) rfl rfl ?_
    refine r_geti hC 0 7 31 fw_X8_295 rfl dX8_made_72 (rfl : 72 + 3 = 75) ?_
    refine r_icmp_ge hC dX8_made_75 (rfl : 75 + 3 = 78) (tgt := 128) (by decide) (fun q => ?_) (fun q => ?_)
    · replace h := if_t h q
      refine r_aload_n hC 0 dX8_made_128 (rfl : 128 + 1 = 129) rfl rfl ?_
      refine r_geti hC 0 7 31 fw_X8_295 rfl dX8_made_129 (rfl : 129 + 3 = 132) ?_
      exact r_iret hC rfl h dX8_made_132
    · replace h := if_f h q
      refine r_aload_n hC 0 dX8_made_78 (rfl : 78 + 1 = 79) rfl rfl ?_
      refine r_getr hC 0 7 32 21 (o := 21) fw_X8_71 rfl rfl dX8_made_79 (rfl : 79 + 3 = 82) ?_
      refine r_iload hC 1 dX8_made_82 (rfl : 82 + 2 = 84) rfl ?_
      refine r_aload_n hC 0 dX8_made_84 (rfl : 84 + 1 = 85) rfl rfl ?_
      refine r_getr hC 0 7 15 10 (o := 10) fw_X8_37 rfl rfl dX8_made_85 (rfl : 85 + 3 = 88) ?_
      refine r_iload hC 1 dX8_made_88 (rfl : 88 + 2 = 90) rfl ?_
      obtain ⟨q_1, h⟩ := h
      refine r_iald hC 10 rfl q_1 dX8_made_90 (rfl : 90 + 1 = 91) ?_
      obtain ⟨σ_2, e_3, h⟩ := lt_nm h
      refine r_iast hC 21 rfl q_1 e_3 dX8_made_91 (rfl : 91 + 1 = 92) ?_
      refine r_aload_n hC 0 dX8_made_92 (rfl : 92 + 1 = 93) rfl rfl ?_
      refine r_getr hC 0 7 33 22 (o := 22) fw_X8_74 rfl rfl dX8_made_93 (rfl : 93 + 3 = 96) ?_
      refine r_iload hC 1 dX8_made_96 (rfl : 96 + 2 = 98) rfl ?_
      refine r_aload_n hC 0 dX8_made_98 (rfl : 98 + 1 = 99) rfl rfl ?_
      refine r_getr hC 0 7 16 11 (o := 11) fw_X8_40 rfl rfl dX8_made_99 (rfl : 99 + 3 = 102) ?_
      refine r_iload hC 1 dX8_made_102 (rfl : 102 + 2 = 104) rfl ?_
      refine r_iald hC 11 rfl q_1 dX8_made_104 (rfl : 104 + 1 = 105) ?_
      obtain ⟨σ_4, e_5, h⟩ := lt_nm h
      refine r_iast hC 22 rfl q_1 e_5 dX8_made_105 (rfl : 105 + 1 = 106) ?_
      refine r_aload_n hC 0 dX8_made_106 (rfl : 106 + 1 = 107) rfl rfl ?_
      refine r_getr hC 0 7 34 23 (o := 23) fw_X8_77 rfl rfl dX8_made_107 (rfl : 107 + 3 = 110) ?_
      refine r_iload hC 1 dX8_made_110 (rfl : 110 + 2 = 112) rfl ?_
      refine r_aload_n hC 0 dX8_made_112 (rfl : 112 + 1 = 113) rfl rfl ?_
      refine r_iload hC 1 dX8_made_113 (rfl : 113 + 2 = 115) rfl ?_
      refine r_callVi hC cs_X8_262 rfl (by omega) (mX8_endOf hC.2.2.2.2.2.2.2.2.1 (k := k - 1) (by omega) x5 σ_4 _ h) rfl rfl (Nat.le_of_ble_eq_true rfl) dX8_made_115 (rfl : 115 + 3 = 118) (fun r_7 σ_6 h => ?_)
      refine r_iload hC 1 dX8_made_118 (rfl : 118 + 2 = 120) rfl ?_
      refine r_isub hC dX8_made_120 (rfl : 120 + 1 = 121) ?_
      obtain ⟨σ_8, e_9, h⟩ := lt_nm h
      refine r_iast hC 23 rfl q_1 e_9 dX8_made_121 (rfl : 121 + 1 = 122) ?_
      obtain ⟨x5_10, e_11, h⟩ := lt_nm h
      refine r_iinc hC (j := 1) dX8_made_122 (rfl : 122 + 3 = 125) rfl (zz := 1) (by decide) e_11 (by decide) (lv2 := [(5, .int x5_10), (0, .ref (G.1 0))]) rfl ?_
      refine r_goto hC dX8_made_125 (tgt := 69) (by decide) ?_
      exact (ih x5_10 σ_8 h).sub [1, 0] rfl
set_option maxHeartbeats 1000000 in
set_option maxRecDepth 100000 in
theorem mX8_made {G : Gx} {b k : Nat} {l : Launch} (hS : Sok YM G) (d : Nat) (hk : 2 * d + 8 ≤ k) (x1 : Int32) (x2 : Int32) (x3 : Int32) (σ : Sg) (Q : Int32 → Sg → Prop) (h : wX8_made d x1 x2 x3 σ Q) : Mi YM G b l yX8_made cX8_made 6 .int k [.ref (G.1 0), .int x1, .int x2, .int x3] σ Q := by
  refine enter hS (by decide +kernel) (Nat.le_of_ble_eq_true rfl) (lv := [(0, .ref (G.1 0)), (1, .int x1), (2, .int x2), (3, .int x3)]) rfl (fun K hl hC => ?_)
  subst hl
  unfold wX8_made at h
  show V YM G K (Zi YM G K Q) 6 σ 0 [(0, .ref (G.1 0)), (1, .int x1), (2, .int x2), (3, .int x3)] []
  refine r_aload_n hC 0 dX8_made_0 (rfl : 0 + 1 = 1) rfl rfl ?_
  refine r_iload_n hC 1 dX8_made_1 (rfl : 1 + 1 = 2) rfl rfl ?_
  refine r_callVi hC cs_X8_286 rfl (by omega) (mX8_isMaker hC.2.2.2.2.2.2.2.2.1 (k := k - 1) (by omega) x1 σ _ h) rfl rfl (Nat.le_of_ble_eq_true rfl) dX8_made_2 (rfl : 2 + 3 = 5) (fun r_13 σ_12 h => ?_)
  refine r_if_eq hC dX8_made_5 (rfl : 5 + 3 = 8) (tgt := 32) (by decide) (fun q => ?_) (fun q => ?_)
  · replace h := if_t h q
    refine r_iconst hC dX8_made_32 (rfl : 32 + 1 = 33) (v := -1) (by decide) ?_
    exact r_iret hC rfl h dX8_made_33
  · replace h := if_f h q
    refine r_aload_n hC 0 dX8_made_8 (rfl : 8 + 1 = 9) rfl rfl ?_
    refine r_iload_n hC 2 dX8_made_9 (rfl : 9 + 1 = 10) rfl rfl ?_
    refine r_callVi hC cs_X8_246 rfl (by omega) (mX8_has hC.2.2.2.2.2.2.2.2.1 (k := k - 1) (by omega) x2 σ_12 _ h) rfl rfl (Nat.le_of_ble_eq_true rfl) dX8_made_10 (rfl : 10 + 3 = 13) (fun r_15 σ_14 h => ?_)
    refine r_if_eq hC dX8_made_13 (rfl : 13 + 3 = 16) (tgt := 32) (by decide) (fun q => ?_) (fun q => ?_)
    · replace h := if_t h q
      refine r_iconst hC dX8_made_32 (rfl : 32 + 1 = 33) (v := -1) (by decide) ?_
      exact r_iret hC rfl h dX8_made_33
    · replace h := if_f h q
      refine r_iload_n hC 3 dX8_made_16 (rfl : 16 + 1 = 17) rfl rfl ?_
      refine r_i2l hC dX8_made_17 (rfl : 17 + 1 = 18) ?_
      refine r_lconst hC dX8_made_18 (rfl : 18 + 1 = 19) (v := 0) (by decide) ?_
      refine r_aload_n hC 0 dX8_made_19 (rfl : 19 + 1 = 20) rfl rfl ?_
      refine r_getr hC 0 7 28 18 (o := 18) fw_X8_62 rfl rfl dX8_made_20 (rfl : 20 + 3 = 23) ?_
      refine r_iload_n hC 1 dX8_made_23 (rfl : 23 + 1 = 24) rfl rfl ?_
      obtain ⟨q_16, h⟩ := h
      refine r_iald hC 18 rfl q_16 dX8_made_24 (rfl : 24 + 1 = 25) ?_
      refine r_i2l hC dX8_made_25 (rfl : 25 + 1 = 26) ?_
      refine r_callSi hC cs_X8_177 (by omega) (mX8_in hC.2.2.2.2.2.2.2.2.1 (k := k - 1) (by omega) (Int32.toInt64 x3) 0 (Int32.toInt64 (σ_14.1 18 (Int32.toNatClampNeg x1))) σ_14 _ h) rfl rfl (Nat.le_of_ble_eq_true rfl) dX8_made_26 (rfl : 26 + 3 = 29) (fun r_18 σ_17 h => ?_)
      refine r_if_ne hC dX8_made_29 (rfl : 29 + 3 = 32) (tgt := 34) (by decide) (fun q => ?_) (fun q => ?_)
      · replace h := if_f h q
        refine r_aload_n hC 0 dX8_made_34 (rfl : 34 + 1 = 35) rfl rfl ?_
        refine r_aload_n hC 0 dX8_made_35 (rfl : 35 + 1 = 36) rfl rfl ?_
        refine r_iload_n hC 2 dX8_made_36 (rfl : 36 + 1 = 37) rfl rfl ?_
        refine r_callVi hC cs_X8_265 rfl (by omega) (mX8_treeOf hC.2.2.2.2.2.2.2.2.1 d (k := k - 1) (by omega) x2 σ_17 _ h) rfl rfl (Nat.le_of_ble_eq_true rfl) dX8_made_37 (rfl : 37 + 3 = 40) (fun r_20 σ_19 h => ?_)
        refine r_iload_n hC 1 dX8_made_40 (rfl : 40 + 1 = 41) rfl rfl ?_
        refine r_iload_n hC 3 dX8_made_41 (rfl : 41 + 1 = 42) rfl rfl ?_
        refine r_callVi hC cs_X8_292 rfl (by omega) (mX8_madeBy hC.2.2.2.2.2.2.2.2.1 d (k := k - 1) (by omega) r_20 x1 x3 σ_19 _ h) rfl rfl (Nat.le_of_ble_eq_true rfl) dX8_made_42 (rfl : 42 + 3 = 45) (fun r_22 σ_21 h => ?_)
        refine r_istore hC dX8_made_45 (rfl : 45 + 2 = 47) (by decide) rfl (lv2 := [(4, .int r_22), (0, .ref (G.1 0)), (1, .int x1), (2, .int x2), (3, .int x3)]) rfl ?_
        refine r_aload_n hC 1 dX8_made_47 (rfl : 47 + 1 = 48) rfl rfl ?_
        refine r_iconst hC dX8_made_48 (rfl : 48 + 1 = 49) (v := 0) (by decide) ?_
        obtain ⟨σ_23, e_24, h⟩ := lt_nm h
        refine r_puti hC 0 7 17 fw_X8_185 fp_8_17 rfl e_24 dX8_made_49 (rfl : 49 + 3 = 52) ?_
        refine r_aload_n hC 1 dX8_made_52 (rfl : 52 + 1 = 53) rfl rfl ?_
        refine r_iload hC 0 dX8_made_53 (rfl : 53 + 2 = 55) rfl ?_
        refine r_callVv hC cs_X8_205 rfl (by omega) (mX8_flatten hC.2.2.2.2.2.2.2.2.1 d (k - 1) (by omega) r_22 σ_23 _ h) rfl rfl (Nat.le_of_ble_eq_true rfl) dX8_made_55 (rfl : 55 + 3 = 58) (fun  σ_25 h => ?_)
        refine r_aload_n hC 1 dX8_made_58 (rfl : 58 + 1 = 59) rfl rfl ?_
        refine r_aload_n hC 1 dX8_made_59 (rfl : 59 + 1 = 60) rfl rfl ?_
        refine r_geti hC 0 7 17 fw_X8_185 rfl dX8_made_60 (rfl : 60 + 3 = 63) ?_
        obtain ⟨σ_26, e_27, h⟩ := lt_nm h
        refine r_puti hC 0 7 31 fw_X8_295 fp_8_31 rfl e_27 dX8_made_63 (rfl : 63 + 3 = 66) ?_
        refine r_iconst hC dX8_made_66 (rfl : 66 + 1 = 67) (v := 0) (by decide) ?_
        refine r_istore hC dX8_made_67 (rfl : 67 + 2 = 69) (by decide) rfl (lv2 := [(5, .int 0), (4, .int r_22), (0, .ref (G.1 0)), (1, .int x1), (2, .int x2), (3, .int x3)]) rfl ?_
        obtain ⟨nn, h⟩ := h
        exact (sX8_made_69 rfl hC d hk  Q  nn 0 σ_26 h).sub [2, 0] rfl
      · replace h := if_t h q
        refine r_iconst hC dX8_made_32 (rfl : 32 + 1 = 33) (v := -1) (by decide) ?_
        exact r_iret hC rfl h dX8_made_33
set_option maxHeartbeats 1000000 in
set_option maxRecDepth 100000 in
theorem mX8_answer {G : Gx} {b k : Nat} {l : Launch} (hS : Sok YM G) (d : Nat) (hk : 2 * d + 8 ≤ k) (x1 : Int32) (x2 : Int32) (x3 : Int32) (x4 : Int32) (σ : Sg) (Q : Int32 → Sg → Prop) (h : wX8_answer d x1 x2 x3 x4 σ Q) : Mi YM G b l yX8_answer cX8_answer 6 .int k [.ref (G.1 0), .int x1, .int x2, .int x3, .int x4] σ Q := by
  refine enter hS (by decide +kernel) (Nat.le_of_ble_eq_true rfl) (lv := [(0, .ref (G.1 0)), (1, .int x1), (2, .int x2), (3, .int x3), (4, .int x4)]) rfl (fun K hl hC => ?_)
  subst hl
  unfold wX8_answer at h
  show V YM G K (Zi YM G K Q) 6 σ 0 [(0, .ref (G.1 0)), (1, .int x1), (2, .int x2), (3, .int x3), (4, .int x4)] []
  refine r_aload_n hC 0 dX8_answer_0 (rfl : 0 + 1 = 1) rfl rfl ?_
  refine r_iload_n hC 1 dX8_answer_1 (rfl : 1 + 1 = 2) rfl rfl ?_
  refine r_callVi hC cs_X8_286 rfl (by omega) (mX8_isMaker hC.2.2.2.2.2.2.2.2.1 (k := k - 1) (by omega) x1 σ _ h) rfl rfl (Nat.le_of_ble_eq_true rfl) dX8_answer_2 (rfl : 2 + 3 = 5) (fun r_2 σ_1 h => ?_)
  refine r_if_eq hC dX8_answer_5 (rfl : 5 + 3 = 8) (tgt := 16) (by decide) (fun q => ?_) (fun q => ?_)
  · replace h := if_t h q
    refine r_ldcw hC dX8_answer_16 (rfl : 16 + 3 = 19) wd_980 ?_
    exact r_iret hC rfl h dX8_answer_19
  · replace h := if_f h q
    refine r_aload_n hC 0 dX8_answer_8 (rfl : 8 + 1 = 9) rfl rfl ?_
    refine r_iload_n hC 2 dX8_answer_9 (rfl : 9 + 1 = 10) rfl rfl ?_
    refine r_callVi hC cs_X8_246 rfl (by omega) (mX8_has hC.2.2.2.2.2.2.2.2.1 (k := k - 1) (by omega) x2 σ_1 _ h) rfl rfl (Nat.le_of_ble_eq_true rfl) dX8_answer_10 (rfl : 10 + 3 = 13) (fun r_4 σ_3 h => ?_)
    refine r_if_ne hC dX8_answer_13 (rfl : 13 + 3 = 16) (tgt := 20) (by decide) (fun q => ?_) (fun q => ?_)
    · replace h := if_f h q
      refine r_aload_n hC 0 dX8_answer_20 (rfl : 20 + 1 = 21) rfl rfl ?_
      refine r_aload_n hC 0 dX8_answer_21 (rfl : 21 + 1 = 22) rfl rfl ?_
      refine r_aload_n hC 0 dX8_answer_22 (rfl : 22 + 1 = 23) rfl rfl ?_
      refine r_iload_n hC 2 dX8_answer_23 (rfl : 23 + 1 = 24) rfl rfl ?_
      refine r_callVi hC cs_X8_265 rfl (by omega) (mX8_treeOf hC.2.2.2.2.2.2.2.2.1 d (k := k - 1) (by omega) x2 σ_3 _ h) rfl rfl (Nat.le_of_ble_eq_true rfl) dX8_answer_24 (rfl : 24 + 3 = 27) (fun r_6 σ_5 h => ?_)
      refine r_iload_n hC 1 dX8_answer_27 (rfl : 27 + 1 = 28) rfl rfl ?_
      refine r_aload_n hC 0 dX8_answer_28 (rfl : 28 + 1 = 29) rfl rfl ?_
      refine r_getr hC 0 7 28 18 (o := 18) fw_X8_62 rfl rfl dX8_answer_29 (rfl : 29 + 3 = 32) ?_
      refine r_iload_n hC 1 dX8_answer_32 (rfl : 32 + 1 = 33) rfl rfl ?_
      obtain ⟨q_7, h⟩ := h
      refine r_iald hC 18 rfl q_7 dX8_answer_33 (rfl : 33 + 1 = 34) ?_
      refine r_callVi hC cs_X8_292 rfl (by omega) (mX8_madeBy hC.2.2.2.2.2.2.2.2.1 d (k := k - 1) (by omega) r_6 x1 (σ_5.1 18 (Int32.toNatClampNeg x1)) σ_5 _ h) rfl rfl (Nat.le_of_ble_eq_true rfl) dX8_answer_34 (rfl : 34 + 3 = 37) (fun r_9 σ_8 h => ?_)
      refine r_iload_n hC 3 dX8_answer_37 (rfl : 37 + 1 = 38) rfl rfl ?_
      refine r_iload hC 4 dX8_answer_38 (rfl : 38 + 2 = 40) rfl ?_
      refine r_callVi hC cs_X8_118 rfl (by omega) (mX8_valueOf hC.2.2.2.2.2.2.2.2.1 d (k := k - 1) (by omega) r_9 x3 x4 σ_8 _ h) rfl rfl (Nat.le_of_ble_eq_true rfl) dX8_answer_40 (rfl : 40 + 3 = 43) (fun r_11 σ_10 h => ?_)
      refine r_istore hC dX8_answer_43 (rfl : 43 + 2 = 45) (by decide) rfl (lv2 := [(5, .int r_11), (0, .ref (G.1 0)), (1, .int x1), (2, .int x2), (3, .int x3), (4, .int x4)]) rfl ?_
      refine r_aload_n hC 1 dX8_answer_45 (rfl : 45 + 1 = 46) rfl rfl ?_
      refine r_geti hC 0 7 8 fw_X8_104 rfl dX8_answer_46 (rfl : 46 + 3 = 49) ?_
      refine r_if_eq hC dX8_answer_49 (rfl : 49 + 3 = 52) (tgt := 58) (by decide) (fun q => ?_) (fun q => ?_)
      · replace h := if_t h q
        refine r_iload hC 0 dX8_answer_58 (rfl : 58 + 2 = 60) rfl ?_
        exact r_iret hC rfl h dX8_answer_60
      · replace h := if_f h q
        refine r_ldcw hC dX8_answer_52 (rfl : 52 + 3 = 55) wd_980 ?_
        refine r_goto hC dX8_answer_55 (tgt := 60) (by decide) ?_
        exact r_iret hC rfl h dX8_answer_60
    · replace h := if_t h q
      refine r_ldcw hC dX8_answer_16 (rfl : 16 + 3 = 19) wd_980 ?_
      exact r_iret hC rfl h dX8_answer_19
