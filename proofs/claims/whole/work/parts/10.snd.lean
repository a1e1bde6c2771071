set_option maxHeartbeats 1000000 in
set_option maxRecDepth 100000 in
theorem sX0_add_109 {G : Gx} {b k : Nat} {K : Kx} {l : Launch} (hl : K.2.1 = l) (hC : Cx YC G b K cX0_add RX0 3 none k)  (hk : 0 ≤ k)  (Q : Sg → Prop)  (t : Nat) (s1 : Int32) (σ : Sg) (h : wX0_add_109  t s1 σ Q) : V YC G K (Zv YC G K Q) 3 σ 109 [] [.int s1, .ref (G.1 t)] := by
  subst hl
  unfold wX0_add_109 at h
  obtain ⟨ty_1, h⟩ := h
  obtain ⟨q_2, h⟩ := h
  obtain ⟨σ_3, e_4, h⟩ := lt_nm h
  refine r_putz hC t 0 5 fw_X0_29 fp_0_5 ty_1 q_2 e_4 dX0_add_109 (rfl : 109 + 3 = 112) ?_
  exact r_vret hC rfl h dX0_add_112
set_option maxHeartbeats 1000000 in
set_option maxRecDepth 100000 in
theorem sX0_add_104 {G : Gx} {b k : Nat} {K : Kx} {l : Launch} (hl : K.2.1 = l) (hC : Cx YC G b K cX0_add RX0 3 none k)  (hk : 0 ≤ k)  (Q : Sg → Prop)  (t : Nat) (σ : Sg) (h : wX0_add_104  t σ Q) : V YC G K (Zv YC G K Q) 3 σ 104 [] [.ref (G.1 t)] := by
  subst hl
  unfold wX0_add_104 at h
  refine r_iconst hC dX0_add_104 (rfl : 104 + 1 = 105) (v := 1) (by decide) ?_
  refine r_goto hC dX0_add_105 (tgt := 109) (by decide) ?_
  exact (sX0_add_109 rfl hC hk  Q  t 1 σ h).sub [] rfl
set_option maxHeartbeats 1000000 in
set_option maxRecDepth 100000 in
theorem sX0_add_87 {G : Gx} {b k : Nat} {K : Kx} {l : Launch} (hl : K.2.1 = l) (hC : Cx YC G b K cX0_add RX0 3 none k)  (hk : 0 ≤ k)  (Q : Sg → Prop)  (t : Nat) (x1 : Int32) (s1 : Int32) (σ : Sg) (h : wX0_add_87  t x1 s1 σ Q) : V YC G K (Zv YC G K Q) 3 σ 87 [(0, .ref (G.1 t)), (1, .int x1)] [.int s1, .ref (G.1 t)] := by
  subst hl
  unfold wX0_add_87 at h
  obtain ⟨ty_5, h⟩ := h
  obtain ⟨q_6, h⟩ := h
  obtain ⟨σ_7, e_8, h⟩ := lt_nm h
  refine r_putz hC t 0 4 fw_X0_26 fp_0_4 ty_5 q_6 e_8 dX0_add_87 (rfl : 87 + 3 = 90) ?_
  refine r_aload_n hC 0 dX0_add_90 (rfl : 90 + 1 = 91) rfl rfl ?_
  refine r_aload_n hC 0 dX0_add_91 (rfl : 91 + 1 = 92) rfl rfl ?_
  refine r_geti hC t 0 5 fw_X0_29 ty_5 dX0_add_92 (rfl : 92 + 3 = 95) ?_
  refine r_if_ne hC dX0_add_95 (rfl : 95 + 3 = 98) (tgt := 104) (by decide) (fun q => ?_) (fun q => ?_)
  · replace h := if_f h q
    exact (sX0_add_104 rfl hC hk  Q  t σ_7 h).sub [] rfl
  · replace h := if_t h q
    refine r_iload_n hC 1 dX0_add_98 (rfl : 98 + 1 = 99) rfl rfl ?_
    refine r_bipush hC dX0_add_99 (rfl : 99 + 2 = 101) (v := 7) (by decide) ?_
    refine r_icmp_ne hC dX0_add_101 (rfl : 101 + 3 = 104) (tgt := 108) (by decide) (fun q => ?_) (fun q => ?_)
    · replace h := if_f h q
      refine r_iconst hC dX0_add_108 (rfl : 108 + 1 = 109) (v := 0) (by decide) ?_
      exact (sX0_add_109 rfl hC hk  Q  t 0 σ_7 h).sub [] rfl
    · replace h := if_t h q
      exact (sX0_add_104 rfl hC hk  Q  t σ_7 h).sub [] rfl
set_option maxHeartbeats 1000000 in
set_option maxRecDepth 100000 in
theorem sX0_add_82 {G : Gx} {b k : Nat} {K : Kx} {l : Launch} (hl : K.2.1 = l) (hC : Cx YC G b K cX0_add RX0 3 none k)  (hk : 0 ≤ k)  (Q : Sg → Prop)  (t : Nat) (x1 : Int32) (σ : Sg) (h : wX0_add_82  t x1 σ Q) : V YC G K (Zv YC G K Q) 3 σ 82 [(0, .ref (G.1 t)), (1, .int x1)] [.ref (G.1 t)] := by
  subst hl
  unfold wX0_add_82 at h
  refine r_iconst hC dX0_add_82 (rfl : 82 + 1 = 83) (v := 1) (by decide) ?_
  refine r_goto hC dX0_add_83 (tgt := 87) (by decide) ?_
  exact (sX0_add_87 rfl hC hk  Q  t x1 1 σ h).sub [0, 1] rfl
set_option maxHeartbeats 1000000 in
set_option maxRecDepth 100000 in
theorem sX0_add_66 {G : Gx} {b k : Nat} {K : Kx} {l : Launch} (hl : K.2.1 = l) (hC : Cx YC G b K cX0_add RX0 3 none k)  (hk : 0 ≤ k)  (Q : Sg → Prop)  (t : Nat) (x1 : Int32) (s1 : Int32) (σ : Sg) (h : wX0_add_66  t x1 s1 σ Q) : V YC G K (Zv YC G K Q) 3 σ 66 [(0, .ref (G.1 t)), (1, .int x1)] [.int s1, .ref (G.1 t)] := by
  subst hl
  unfold wX0_add_66 at h
  obtain ⟨ty_9, h⟩ := h
  obtain ⟨q_10, h⟩ := h
  obtain ⟨σ_11, e_12, h⟩ := lt_nm h
  refine r_putz hC t 0 3 fw_X0_22 fp_0_3 ty_9 q_10 e_12 dX0_add_66 (rfl : 66 + 3 = 69) ?_
  refine r_aload_n hC 0 dX0_add_69 (rfl : 69 + 1 = 70) rfl rfl ?_
  refine r_aload_n hC 0 dX0_add_70 (rfl : 70 + 1 = 71) rfl rfl ?_
  refine r_geti hC t 0 4 fw_X0_26 ty_9 dX0_add_71 (rfl : 71 + 3 = 74) ?_
  refine r_if_ne hC dX0_add_74 (rfl : 74 + 3 = 77) (tgt := 82) (by decide) (fun q => ?_) (fun q => ?_)
  · replace h := if_f h q
    exact (sX0_add_82 rfl hC hk  Q  t x1 σ_11 h).sub [0, 1] rfl
  · replace h := if_t h q
    refine r_iload_n hC 1 dX0_add_77 (rfl : 77 + 1 = 78) rfl rfl ?_
    refine r_iconst hC dX0_add_78 (rfl : 78 + 1 = 79) (v := 2) (by decide) ?_
    refine r_icmp_ne hC dX0_add_79 (rfl : 79 + 3 = 82) (tgt := 86) (by decide) (fun q => ?_) (fun q => ?_)
    · replace h := if_f h q
      refine r_iconst hC dX0_add_86 (rfl : 86 + 1 = 87) (v := 0) (by decide) ?_
      exact (sX0_add_87 rfl hC hk  Q  t x1 0 σ_11 h).sub [0, 1] rfl
    · replace h := if_t h q
      exact (sX0_add_82 rfl hC hk  Q  t x1 σ_11 h).sub [0, 1] rfl
set_option maxHeartbeats 1000000 in
set_option maxRecDepth 100000 in
theorem sX0_add_61 {G : Gx} {b k : Nat} {K : Kx} {l : Launch} (hl : K.2.1 = l) (hC : Cx YC G b K cX0_add RX0 3 none k)  (hk : 0 ≤ k)  (Q : Sg → Prop)  (t : Nat) (x1 : Int32) (σ : Sg) (h : wX0_add_61  t x1 σ Q) : V YC G K (Zv YC G K Q) 3 σ 61 [(0, .ref (G.1 t)), (1, .int x1)] [.ref (G.1 t)] := by
  subst hl
  unfold wX0_add_61 at h
  refine r_iconst hC dX0_add_61 (rfl : 61 + 1 = 62) (v := 1) (by decide) ?_
  refine r_goto hC dX0_add_62 (tgt := 66) (by decide) ?_
  exact (sX0_add_66 rfl hC hk  Q  t x1 1 σ h).sub [0, 1] rfl
set_option maxHeartbeats 1000000 in
set_option maxRecDepth 100000 in
theorem mX0_add {G : Gx} {b k : Nat} {l : Launch} (hS : Sok YC G)  (hk : 0 ≤ k) (t : Nat) (x1 : Int32) (x2 : Int32) (σ : Sg) (Q : Sg → Prop) (h : wX0_add  t x1 x2 σ Q) : Mv YC G b l yX0_add cX0_add 3 k [.ref (G.1 t), .int x1, .int x2] σ Q := by
  refine enter hS (by decide +kernel) (Nat.le_of_ble_eq_true rfl) (lv := [(0, .ref (G.1 t)), (1, .int x1), (2, .int x2)]) rfl (fun K hl hC => ?_)
  subst hl
  unfold wX0_add at h
  show V YC G K (Zv YC G K Q) 3 σ 0 [(0, .ref (G.1 t)), (1, .int x1), (2, .int x2)] []
  refine r_aload_n hC 0 dX0_add_0 (rfl : 0 + 1 = 1) rfl rfl ?_
  obtain ⟨ty_13, h⟩ := h
  refine r_geti hC t 0 2 fw_X0_18 ty_13 dX0_add_1 (rfl : 1 + 3 = 4) ?_
  refine r_if_lt hC dX0_add_4 (rfl : 4 + 3 = 7) (tgt := 17) (by decide) (fun q => ?_) (fun q => ?_)
  · replace h := if_t h q
    exact r_vret hC rfl h dX0_add_17
  · replace h := if_f h q
    refine r_aload_n hC 0 dX0_add_7 (rfl : 7 + 1 = 8) rfl rfl ?_
    refine r_geti hC t 0 2 fw_X0_18 ty_13 dX0_add_8 (rfl : 8 + 3 = 11) ?_
    refine r_sipush hC dX0_add_11 (rfl : 11 + 3 = 14) (v := 400) (by decide) ?_
    refine r_icmp_lt hC dX0_add_14 (rfl : 14 + 3 = 17) (tgt := 18) (by decide) (fun q => ?_) (fun q => ?_)
    · replace h := if_t h q
      refine r_aload_n hC 0 dX0_add_18 (rfl : 18 + 1 = 19) rfl rfl ?_
      refine r_getr hC t 0 0 (t + 1) (o := 1) fw_X0_11 ty_13 rfl dX0_add_19 (rfl : 19 + 3 = 22) ?_
      refine r_aload_n hC 0 dX0_add_22 (rfl : 22 + 1 = 23) rfl rfl ?_
      refine r_geti hC t 0 2 fw_X0_18 ty_13 dX0_add_23 (rfl : 23 + 3 = 26) ?_
      refine r_iload_n hC 1 dX0_add_26 (rfl : 26 + 1 = 27) rfl rfl ?_
      obtain ⟨q_14, h⟩ := h
      obtain ⟨σ_15, e_16, h⟩ := lt_nm h
      refine r_iast hC (t + 1) (la0_1 ty_13).1 (by rw [(la0_1 ty_13).2]; exact q_14) e_16 dX0_add_27 (rfl : 27 + 1 = 28) ?_
      refine r_aload_n hC 0 dX0_add_28 (rfl : 28 + 1 = 29) rfl rfl ?_
      refine r_getr hC t 0 1 (t + 2) (o := 2) fw_X0_15 ty_13 rfl dX0_add_29 (rfl : 29 + 3 = 32) ?_
      refine r_aload_n hC 0 dX0_add_32 (rfl : 32 + 1 = 33) rfl rfl ?_
      refine r_geti hC t 0 2 fw_X0_18 ty_13 dX0_add_33 (rfl : 33 + 3 = 36) ?_
      refine r_iload_n hC 2 dX0_add_36 (rfl : 36 + 1 = 37) rfl rfl ?_
      obtain ⟨q_17, h⟩ := h
      obtain ⟨σ_18, e_19, h⟩ := lt_nm h
      refine r_iast hC (t + 2) (la0_2 ty_13).1 (by rw [(la0_2 ty_13).2]; exact q_17) e_19 dX0_add_37 (rfl : 37 + 1 = 38) ?_
      refine r_aload_n hC 0 dX0_add_38 (rfl : 38 + 1 = 39) rfl rfl ?_
      refine r_dup hC dX0_add_39 (rfl : 39 + 1 = 40) rfl ?_
      refine r_geti hC t 0 2 fw_X0_18 ty_13 dX0_add_40 (rfl : 40 + 3 = 43) ?_
      refine r_iconst hC dX0_add_43 (rfl : 43 + 1 = 44) (v := 1) (by decide) ?_
      refine r_iadd hC dX0_add_44 (rfl : 44 + 1 = 45) ?_
      obtain ⟨σ_20, e_21, h⟩ := lt_nm h
      refine r_puti hC t 0 2 fw_X0_18 fp_0_2 ty_13 e_21 dX0_add_45 (rfl : 45 + 3 = 48) ?_
      refine r_aload_n hC 0 dX0_add_48 (rfl : 48 + 1 = 49) rfl rfl ?_
      refine r_aload_n hC 0 dX0_add_49 (rfl : 49 + 1 = 50) rfl rfl ?_
      refine r_geti hC t 0 3 fw_X0_22 ty_13 dX0_add_50 (rfl : 50 + 3 = 53) ?_
      refine r_if_ne hC dX0_add_53 (rfl : 53 + 3 = 56) (tgt := 61) (by decide) (fun q => ?_) (fun q => ?_)
      · replace h := if_f h q
        exact (sX0_add_61 rfl hC hk  Q  t x1 σ_20 h).sub [0, 1] rfl
      · replace h := if_t h q
        refine r_iload_n hC 1 dX0_add_56 (rfl : 56 + 1 = 57) rfl rfl ?_
        refine r_iconst hC dX0_add_57 (rfl : 57 + 1 = 58) (v := 1) (by decide) ?_
        refine r_icmp_ne hC dX0_add_58 (rfl : 58 + 3 = 61) (tgt := 65) (by decide) (fun q => ?_) (fun q => ?_)
        · replace h := if_f h q
          refine r_iconst hC dX0_add_65 (rfl : 65 + 1 = 66) (v := 0) (by decide) ?_
          exact (sX0_add_66 rfl hC hk  Q  t x1 0 σ_20 h).sub [0, 1] rfl
        · replace h := if_t h q
          exact (sX0_add_61 rfl hC hk  Q  t x1 σ_20 h).sub [0, 1] rfl
    · replace h := if_f h q
      exact r_vret hC rfl h dX0_add_17
set_option maxHeartbeats 1000000 in
set_option maxRecDepth 100000 in
theorem mX0_aim {G : Gx} {b k : Nat} {l : Launch} (hS : Sok YC G)  (hk : 0 ≤ k) (t : Nat) (x1 : Int32) (x2 : Int32) (σ : Sg) (Q : Sg → Prop) (h : wX0_aim  t x1 x2 σ Q) : Mv YC G b l yX0_aim cX0_aim 3 k [.ref (G.1 t), .int x1, .int x2] σ Q := by
  refine enter hS (by decide +kernel) (Nat.le_of_ble_eq_true rfl) (lv := [(0, .ref (G.1 t)), (1, .int x1), (2, .int x2)]) rfl (fun K hl hC => ?_)
  subst hl
  unfold wX0_aim at h
  show V YC G K (Zv YC G K Q) 3 σ 0 [(0, .ref (G.1 t)), (1, .int x1), (2, .int x2)] []
  refine r_iload_n hC 1 dX0_aim_0 (rfl : 0 + 1 = 1) rfl rfl ?_
  refine r_if_lt hC dX0_aim_1 (rfl : 1 + 3 = 4) (tgt := 19) (by decide) (fun q => ?_) (fun q => ?_)
  · replace h := if_t h q
    exact r_vret hC rfl h dX0_aim_19
  · replace h := if_f h q
    refine r_iload_n hC 1 dX0_aim_4 (rfl : 4 + 1 = 5) rfl rfl ?_
    refine r_aload_n hC 0 dX0_aim_5 (rfl : 5 + 1 = 6) rfl rfl ?_
    obtain ⟨ty_1, h⟩ := h
    refine r_geti hC t 0 2 fw_X0_18 ty_1 dX0_aim_6 (rfl : 6 + 3 = 9) ?_
    refine r_icmp_ge hC dX0_aim_9 (rfl : 9 + 3 = 12) (tgt := 19) (by decide) (fun q => ?_) (fun q => ?_)
    · replace h := if_t h q
      exact r_vret hC rfl h dX0_aim_19
    · replace h := if_f h q
      refine r_aload_n hC 0 dX0_aim_12 (rfl : 12 + 1 = 13) rfl rfl ?_
      refine r_getr hC t 0 1 (t + 2) (o := 2) fw_X0_15 ty_1 rfl dX0_aim_13 (rfl : 13 + 3 = 16) ?_
      refine r_iload_n hC 1 dX0_aim_16 (rfl : 16 + 1 = 17) rfl rfl ?_
      refine r_iload_n hC 2 dX0_aim_17 (rfl : 17 + 1 = 18) rfl rfl ?_
      obtain ⟨q_2, h⟩ := h
      obtain ⟨σ_3, e_4, h⟩ := lt_nm h
      refine r_iast hC (t + 2) (la0_2 ty_1).1 (by rw [(la0_2 ty_1).2]; exact q_2) e_4 dX0_aim_18 (rfl : 18 + 1 = 19) ?_
      exact r_vret hC rfl h dX0_aim_19
set_option maxHeartbeats 1000000 in
set_option maxRecDepth 100000 in
theorem mX1_defer {G : Gx} {b k : Nat} {l : Launch} (hS : Sok YC G)  (hk : 0 ≤ k) (x1 : Int32) (x2 : Int64) (σ : Sg) (Q : Sg → Prop) (h : wX1_defer  x1 x2 σ Q) : Mv YC G b l yX1_defer cX1_defer 4 k [.ref (G.1 1), .int x1, .long x2] σ Q := by
  refine enter hS (by decide +kernel) (Nat.le_of_ble_eq_true rfl) (lv := [(0, .ref (G.1 1)), (1, .int x1), (2, .long x2)]) rfl (fun K hl hC => ?_)
  subst hl
  unfold wX1_defer at h
  show V YC G K (Zv YC G K Q) 4 σ 0 [(0, .ref (G.1 1)), (1, .int x1), (2, .long x2)] []
  refine r_aload_n hC 0 dX1_defer_0 (rfl : 0 + 1 = 1) rfl rfl ?_
  refine r_geti hC 1 1 5 fw_X1_28 rfl dX1_defer_1 (rfl : 1 + 3 = 4) ?_
  refine r_if_lt hC dX1_defer_4 (rfl : 4 + 3 = 7) (tgt := 46) (by decide) (fun q => ?_) (fun q => ?_)
  · replace h := if_t h q
    exact r_vret hC rfl h dX1_defer_46
  · replace h := if_f h q
    refine r_aload_n hC 0 dX1_defer_7 (rfl : 7 + 1 = 8) rfl rfl ?_
    refine r_geti hC 1 1 5 fw_X1_28 rfl dX1_defer_8 (rfl : 8 + 3 = 11) ?_
    refine r_bipush hC dX1_defer_11 (rfl : 11 + 2 = 13) (v := 15) (by decide) ?_
    refine r_icmp_gt hC dX1_defer_13 (rfl : 13 + 3 = 16) (tgt := 46) (by decide) (fun q => ?_) (fun q => ?_)
    · replace h := if_t h q
      exact r_vret hC rfl h dX1_defer_46
    · replace h := if_f h q
      refine r_aload_n hC 0 dX1_defer_16 (rfl : 16 + 1 = 17) rfl rfl ?_
      refine r_getr hC 1 1 3 5 (o := 4) fw_X1_21 rfl rfl dX1_defer_17 (rfl : 17 + 3 = 20) ?_
      refine r_aload_n hC 0 dX1_defer_20 (rfl : 20 + 1 = 21) rfl rfl ?_
      refine r_geti hC 1 1 5 fw_X1_28 rfl dX1_defer_21 (rfl : 21 + 3 = 24) ?_
      refine r_iload_n hC 1 dX1_defer_24 (rfl : 24 + 1 = 25) rfl rfl ?_
      obtain ⟨q_1, h⟩ := h
      obtain ⟨σ_2, e_3, h⟩ := lt_nm h
      refine r_iast hC 5 rfl q_1 e_3 dX1_defer_25 (rfl : 25 + 1 = 26) ?_
      refine r_aload_n hC 0 dX1_defer_26 (rfl : 26 + 1 = 27) rfl rfl ?_
      refine r_getr hC 1 1 4 6 (o := 5) fw_X1_25 rfl rfl dX1_defer_27 (rfl : 27 + 3 = 30) ?_
      refine r_aload_n hC 0 dX1_defer_30 (rfl : 30 + 1 = 31) rfl rfl ?_
      refine r_geti hC 1 1 5 fw_X1_28 rfl dX1_defer_31 (rfl : 31 + 3 = 34) ?_
      refine r_lload_n hC 2 dX1_defer_34 (rfl : 34 + 1 = 35) rfl rfl ?_
      obtain ⟨q_4, h⟩ := h
      obtain ⟨σ_5, e_6, h⟩ := lt_nm h
      refine r_last hC 6 rfl q_4 e_6 dX1_defer_35 (rfl : 35 + 1 = 36) ?_
      refine r_aload_n hC 0 dX1_defer_36 (rfl : 36 + 1 = 37) rfl rfl ?_
      refine r_dup hC dX1_defer_37 (rfl : 37 + 1 = 38) rfl ?_
      refine r_geti hC 1 1 5 fw_X1_28 rfl dX1_defer_38 (rfl : 38 + 3 = 41) ?_
      refine r_iconst hC dX1_defer_41 (rfl : 41 + 1 = 42) (v := 1) (by decide) ?_
      refine r_iadd hC dX1_defer_42 (rfl : 42 + 1 = 43) ?_
      obtain ⟨σ_7, e_8, h⟩ := lt_nm h
      refine r_puti hC 1 1 5 fw_X1_28 fp_1_5 rfl e_8 dX1_defer_43 (rfl : 43 + 3 = 46) ?_
      exact r_vret hC rfl h dX1_defer_46
set_option maxHeartbeats 1000000 in
set_option maxRecDepth 100000 in
theorem mX2_has {G : Gx} {b k : Nat} {l : Launch} (hS : Sok YC G)  (hk : 0 ≤ k) (t : Nat) (x1 : Int32) (σ : Sg) (Q : Int32 → Sg → Prop) (h : wX2_has  t x1 σ Q) : Mi YC G b l yX2_has cX2_has 2 .boolean k [.ref (G.1 t), .int x1] σ Q := by
  refine enter hS (by decide +kernel) (Nat.le_of_ble_eq_true rfl) (lv := [(0, .ref (G.1 t)), (1, .int x1)]) rfl (fun K hl hC => ?_)
  subst hl
  unfold wX2_has at h
  show V YC G K (Zi YC G K Q) 2 σ 0 [(0, .ref (G.1 t)), (1, .int x1)] []
  refine r_iload_n hC 1 dX2_has_0 (rfl : 0 + 1 = 1) rfl rfl ?_
  refine r_if_lt hC dX2_has_1 (rfl : 1 + 3 = 4) (tgt := 16) (by decide) (fun q => ?_) (fun q => ?_)
  · replace h := if_t h q
    refine r_iconst hC dX2_has_16 (rfl : 16 + 1 = 17) (v := 0) (by decide) ?_
    exact r_zret hC rfl (by decide) h dX2_has_17
  · replace h := if_f h q
    refine r_iload_n hC 1 dX2_has_4 (rfl : 4 + 1 = 5) rfl rfl ?_
    refine r_aload_n hC 0 dX2_has_5 (rfl : 5 + 1 = 6) rfl rfl ?_
    obtain ⟨ty_1, h⟩ := h
    refine r_geti hC t 2 2 fw_X2_18 ty_1 dX2_has_6 (rfl : 6 + 3 = 9) ?_
    refine r_icmp_ge hC dX2_has_9 (rfl : 9 + 3 = 12) (tgt := 16) (by decide) (fun q => ?_) (fun q => ?_)
    · replace h := if_t h q
      refine r_iconst hC dX2_has_16 (rfl : 16 + 1 = 17) (v := 0) (by decide) ?_
      exact r_zret hC rfl (by decide) h dX2_has_17
    · replace h := if_f h q
      refine r_iconst hC dX2_has_12 (rfl : 12 + 1 = 13) (v := 1) (by decide) ?_
      refine r_goto hC dX2_has_13 (tgt := 17) (by decide) ?_
      exact r_zret hC rfl (by decide) h dX2_has_17
set_option maxHeartbeats 1000000 in
set_option maxRecDepth 100000 in
theorem mX2_sortOf {G : Gx} {b k : Nat} {l : Launch} (hS : Sok YC G)  (hk : 1 ≤ k) (t : Nat) (x1 : Int32) (σ : Sg) (Q : Int32 → Sg → Prop) (h : wX2_sortOf  t x1 σ Q) : Mi YC G b l yX2_sortOf cX2_sortOf 2 .int k [.ref (G.1 t), .int x1] σ Q := by
  refine enter hS (by decide +kernel) (Nat.le_of_ble_eq_true rfl) (lv := [(0, .ref (G.1 t)), (1, .int x1)]) rfl (fun K hl hC => ?_)
  subst hl
  unfold wX2_sortOf at h
  show V YC G K (Zi YC G K Q) 2 σ 0 [(0, .ref (G.1 t)), (1, .int x1)] []
  refine r_aload_n hC 0 dX2_sortOf_0 (rfl : 0 + 1 = 1) rfl rfl ?_
  refine r_iload_n hC 1 dX2_sortOf_1 (rfl : 1 + 1 = 2) rfl rfl ?_
  obtain ⟨ty_1, h⟩ := h
  refine r_callVi hC cs_X2_22 ty_1 (by omega) (mX2_has hC.2.2.2.2.2.2.2.2.1 (k := k - 1) (by omega) t x1 σ _ h) rfl rfl (Nat.le_of_ble_eq_true rfl) dX2_sortOf_2 (rfl : 2 + 3 = 5) (fun r_3 σ_2 h => ?_)
  refine r_if_eq hC dX2_sortOf_5 (rfl : 5 + 3 = 8) (tgt := 17) (by decide) (fun q => ?_) (fun q => ?_)
  · replace h := if_t h q
    refine r_iconst hC dX2_sortOf_17 (rfl : 17 + 1 = 18) (v := 0) (by decide) ?_
    exact r_iret hC rfl h dX2_sortOf_18
  · replace h := if_f h q
    refine r_aload_n hC 0 dX2_sortOf_8 (rfl : 8 + 1 = 9) rfl rfl ?_
    refine r_getr hC t 2 0 (t + 1) (o := 1) fw_X2_9 ty_1 rfl dX2_sortOf_9 (rfl : 9 + 3 = 12) ?_
    refine r_iload_n hC 1 dX2_sortOf_12 (rfl : 12 + 1 = 13) rfl rfl ?_
    obtain ⟨q_4, h⟩ := h
    refine r_iald hC (t + 1) (la2_1 ty_1).1 (by rw [(la2_1 ty_1).2]; exact q_4) dX2_sortOf_13 (rfl : 13 + 1 = 14) ?_
    refine r_goto hC dX2_sortOf_14 (tgt := 18) (by decide) ?_
    exact r_iret hC rfl h dX2_sortOf_18
set_option maxHeartbeats 1000000 in
set_option maxRecDepth 100000 in
theorem mX2_faultOf {G : Gx} {b k : Nat} {l : Launch} (hS : Sok YC G)  (hk : 1 ≤ k) (t : Nat) (x1 : Int32) (σ : Sg) (Q : Int32 → Sg → Prop) (h : wX2_faultOf  t x1 σ Q) : Mi YC G b l yX2_faultOf cX2_faultOf 2 .int k [.ref (G.1 t), .int x1] σ Q := by
  refine enter hS (by decide +kernel) (Nat.le_of_ble_eq_true rfl) (lv := [(0, .ref (G.1 t)), (1, .int x1)]) rfl (fun K hl hC => ?_)
  subst hl
  unfold wX2_faultOf at h
  show V YC G K (Zi YC G K Q) 2 σ 0 [(0, .ref (G.1 t)), (1, .int x1)] []
  refine r_aload_n hC 0 dX2_faultOf_0 (rfl : 0 + 1 = 1) rfl rfl ?_
  refine r_iload_n hC 1 dX2_faultOf_1 (rfl : 1 + 1 = 2) rfl rfl ?_
  obtain ⟨ty_1, h⟩ := h
  refine r_callVi hC cs_X2_22 ty_1 (by omega) (mX2_has hC.2.2.2.2.2.2.2.2.1 (k := k - 1) (by omega) t x1 σ _ h) rfl rfl (Nat.le_of_ble_eq_true rfl) dX2_faultOf_2 (rfl : 2 + 3 = 5) (fun r_3 σ_2 h => ?_)
  refine r_if_eq hC dX2_faultOf_5 (rfl : 5 + 3 = 8) (tgt := 17) (by decide) (fun q => ?_) (fun q => ?_)
  · replace h := if_t h q
    refine r_iconst hC dX2_faultOf_17 (rfl : 17 + 1 = 18) (v := 0) (by decide) ?_
    exact r_iret hC rfl h dX2_faultOf_18
  · replace h := if_f h q
    refine r_aload_n hC 0 dX2_faultOf_8 (rfl : 8 + 1 = 9) rfl rfl ?_
    refine r_getr hC t 2 1 (t + 2) (o := 2) fw_X2_15 ty_1 rfl dX2_faultOf_9 (rfl : 9 + 3 = 12) ?_
    refine r_iload_n hC 1 dX2_faultOf_12 (rfl : 12 + 1 = 13) rfl rfl ?_
    obtain ⟨q_4, h⟩ := h
    refine r_iald hC (t + 2) (la2_2 ty_1).1 (by rw [(la2_2 ty_1).2]; exact q_4) dX2_faultOf_13 (rfl : 13 + 1 = 14) ?_
    refine r_goto hC dX2_faultOf_14 (tgt := 18) (by decide) ?_
    exact r_iret hC rfl h dX2_faultOf_18
set_option maxHeartbeats 1000000 in
set_option maxRecDepth 100000 in
theorem mX2_setFault {G : Gx} {b k : Nat} {l : Launch} (hS : Sok YC G)  (hk : 1 ≤ k) (t : Nat) (x1 : Int32) (x2 : Int32) (σ : Sg) (Q : Sg → Prop) (h : wX2_setFault  t x1 x2 σ Q) : Mv YC G b l yX2_setFault cX2_setFault 3 k [.ref (G.1 t), .int x1, .int x2] σ Q := by
  refine enter hS (by decide +kernel) (Nat.le_of_ble_eq_true rfl) (lv := [(0, .ref (G.1 t)), (1, .int x1), (2, .int x2)]) rfl (fun K hl hC => ?_)
  subst hl
  unfold wX2_setFault at h
  show V YC G K (Zv YC G K Q) 3 σ 0 [(0, .ref (G.1 t)), (1, .int x1), (2, .int x2)] []
  refine r_aload_n hC 0 dX2_setFault_0 (rfl : 0 + 1 = 1) rfl rfl ?_
  refine r_iload_n hC 1 dX2_setFault_1 (rfl : 1 + 1 = 2) rfl rfl ?_
  obtain ⟨ty_1, h⟩ := h
  refine r_callVi hC cs_X2_22 ty_1 (by omega) (mX2_has hC.2.2.2.2.2.2.2.2.1 (k := k - 1) (by omega) t x1 σ _ h) rfl rfl (Nat.le_of_ble_eq_true rfl) dX2_setFault_2 (rfl : 2 + 3 = 5) (fun r_3 σ_2 h => ?_)
  refine r_if_eq hC dX2_setFault_5 (rfl : 5 + 3 = 8) (tgt := 15) (by decide) (fun q => ?_) (fun q => ?_)
  · replace h := if_t h q
    exact r_vret hC rfl h dX2_setFault_15
  · replace h := if_f h q
    refine r_aload_n hC 0 dX2_setFault_8 (rfl : 8 + 1 = 9) rfl rfl ?_
    refine r_getr hC t 2 1 (t + 2) (o := 2) fw_X2_15 ty_1 rfl dX2_setFault_9 (rfl : 9 + 3 = 12) ?_
    refine r_iload_n hC 1 dX2_setFault_12 (rfl : 12 + 1 = 13) rfl rfl ?_
    refine r_iload_n hC 2 dX2_setFault_13 (rfl : 13 + 1 = 14) rfl rfl ?_
    obtain ⟨q_4, h⟩ := h
    obtain ⟨σ_5, e_6, h⟩ := lt_nm h
    refine r_iast hC (t + 2) (la2_2 ty_1).1 (by rw [(la2_2 ty_1).2]; exact q_4) e_6 dX2_setFault_14 (rfl : 14 + 1 = 15) ?_
    exact r_vret hC rfl h dX2_setFault_15
set_option maxHeartbeats 1000000 in
set_option maxRecDepth 100000 in
theorem mX2_addTurn {G : Gx} {b k : Nat} {l : Launch} (hS : Sok YC G)  (hk : 0 ≤ k) (t : Nat) (x1 : Int32) (x2 : Int32) (σ : Sg) (Q : Sg → Prop) (h : wX2_addTurn  t x1 x2 σ Q) : Mv YC G b l yX2_addTurn cX2_addTurn 3 k [.ref (G.1 t), .int x1, .int x2] σ Q := by
  refine enter hS (by decide +kernel) (Nat.le_of_ble_eq_true rfl) (lv := [(0, .ref (G.1 t)), (1, .int x1), (2, .int x2)]) rfl (fun K hl hC => ?_)
  subst hl
  unfold wX2_addTurn at h
  show V YC G K (Zv YC G K Q) 3 σ 0 [(0, .ref (G.1 t)), (1, .int x1), (2, .int x2)] []
  refine r_aload_n hC 0 dX2_addTurn_0 (rfl : 0 + 1 = 1) rfl rfl ?_
  obtain ⟨ty_1, h⟩ := h
  refine r_geti hC t 2 2 fw_X2_18 ty_1 dX2_addTurn_1 (rfl : 1 + 3 = 4) ?_
  refine r_if_lt hC dX2_addTurn_4 (rfl : 4 + 3 = 7) (tgt := 46) (by decide) (fun q => ?_) (fun q => ?_)
  · replace h := if_t h q
    exact r_vret hC rfl h dX2_addTurn_46
  · replace h := if_f h q
    refine r_aload_n hC 0 dX2_addTurn_7 (rfl : 7 + 1 = 8) rfl rfl ?_
    refine r_geti hC t 2 2 fw_X2_18 ty_1 dX2_addTurn_8 (rfl : 8 + 3 = 11) ?_
    refine r_bipush hC dX2_addTurn_11 (rfl : 11 + 2 = 13) (v := 10) (by decide) ?_
    refine r_icmp_ge hC dX2_addTurn_13 (rfl : 13 + 3 = 16) (tgt := 46) (by decide) (fun q => ?_) (fun q => ?_)
    · replace h := if_t h q
      exact r_vret hC rfl h dX2_addTurn_46
    · replace h := if_f h q
      refine r_aload_n hC 0 dX2_addTurn_16 (rfl : 16 + 1 = 17) rfl rfl ?_
      refine r_getr hC t 2 0 (t + 1) (o := 1) fw_X2_9 ty_1 rfl dX2_addTurn_17 (rfl : 17 + 3 = 20) ?_
      refine r_aload_n hC 0 dX2_addTurn_20 (rfl : 20 + 1 = 21) rfl rfl ?_
      refine r_geti hC t 2 2 fw_X2_18 ty_1 dX2_addTurn_21 (rfl : 21 + 3 = 24) ?_
      refine r_iload_n hC 1 dX2_addTurn_24 (rfl : 24 + 1 = 25) rfl rfl ?_
      obtain ⟨q_2, h⟩ := h
      obtain ⟨σ_3, e_4, h⟩ := lt_nm h
      refine r_iast hC (t + 1) (la2_1 ty_1).1 (by rw [(la2_1 ty_1).2]; exact q_2) e_4 dX2_addTurn_25 (rfl : 25 + 1 = 26) ?_
      refine r_aload_n hC 0 dX2_addTurn_26 (rfl : 26 + 1 = 27) rfl rfl ?_
      refine r_getr hC t 2 1 (t + 2) (o := 2) fw_X2_15 ty_1 rfl dX2_addTurn_27 (rfl : 27 + 3 = 30) ?_
      refine r_aload_n hC 0 dX2_addTurn_30 (rfl : 30 + 1 = 31) rfl rfl ?_
      refine r_geti hC t 2 2 fw_X2_18 ty_1 dX2_addTurn_31 (rfl : 31 + 3 = 34) ?_
      refine r_iload_n hC 2 dX2_addTurn_34 (rfl : 34 + 1 = 35) rfl rfl ?_
      obtain ⟨q_5, h⟩ := h
      obtain ⟨σ_6, e_7, h⟩ := lt_nm h
      refine r_iast hC (t + 2) (la2_2 ty_1).1 (by rw [(la2_2 ty_1).2]; exact q_5) e_7 dX2_addTurn_35 (rfl : 35 + 1 = 36) ?_
      refine r_aload_n hC 0 dX2_addTurn_36 (rfl : 36 + 1 = 37) rfl rfl ?_
      refine r_dup hC dX2_addTurn_37 (rfl : 37 + 1 = 38) rfl ?_
      refine r_geti hC t 2 2 fw_X2_18 ty_1 dX2_addTurn_38 (rfl : 38 + 3 = 41) ?_
      refine r_iconst hC dX2_addTurn_41 (rfl : 41 + 1 = 42) (v := 1) (by decide) ?_
      refine r_iadd hC dX2_addTurn_42 (rfl : 42 + 1 = 43) ?_
      obtain ⟨σ_8, e_9, h⟩ := lt_nm h
      refine r_puti hC t 2 2 fw_X2_18 fp_2_2 ty_1 e_9 dX2_addTurn_43 (rfl : 43 + 3 = 46) ?_
      exact r_vret hC rfl h dX2_addTurn_46
set_option maxHeartbeats 1000000 in
set_option maxRecDepth 100000 in
theorem mX5_has {G : Gx} {b k : Nat} {l : Launch} (hS : Sok YC G)  (hk : 0 ≤ k) (t : Nat) (x1 : Int32) (σ : Sg) (Q : Int32 → Sg → Prop) (h : wX5_has  t x1 σ Q) : Mi YC G b l yX5_has cX5_has 2 .boolean k [.ref (G.1 t), .int x1] σ Q := by
  refine enter hS (by decide +kernel) (Nat.le_of_ble_eq_true rfl) (lv := [(0, .ref (G.1 t)), (1, .int x1)]) rfl (fun K hl hC => ?_)
  subst hl
  unfold wX5_has at h
  show V YC G K (Zi YC G K Q) 2 σ 0 [(0, .ref (G.1 t)), (1, .int x1)] []
  refine r_iload_n hC 1 dX5_has_0 (rfl : 0 + 1 = 1) rfl rfl ?_
  refine r_if_lt hC dX5_has_1 (rfl : 1 + 3 = 4) (tgt := 16) (by decide) (fun q => ?_) (fun q => ?_)
  · replace h := if_t h q
    refine r_iconst hC dX5_has_16 (rfl : 16 + 1 = 17) (v := 0) (by decide) ?_
    exact r_zret hC rfl (by decide) h dX5_has_17
  · replace h := if_f h q
    refine r_iload_n hC 1 dX5_has_4 (rfl : 4 + 1 = 5) rfl rfl ?_
    refine r_aload_n hC 0 dX5_has_5 (rfl : 5 + 1 = 6) rfl rfl ?_
    obtain ⟨ty_1, h⟩ := h
    refine r_geti hC t 4 3 fw_X5_21 ty_1 dX5_has_6 (rfl : 6 + 3 = 9) ?_
    refine r_icmp_ge hC dX5_has_9 (rfl : 9 + 3 = 12) (tgt := 16) (by decide) (fun q => ?_) (fun q => ?_)
    · replace h := if_t h q
      refine r_iconst hC dX5_has_16 (rfl : 16 + 1 = 17) (v := 0) (by decide) ?_
      exact r_zret hC rfl (by decide) h dX5_has_17
    · replace h := if_f h q
      refine r_iconst hC dX5_has_12 (rfl : 12 + 1 = 13) (v := 1) (by decide) ?_
      refine r_goto hC dX5_has_13 (tgt := 17) (by decide) ?_
      exact r_zret hC rfl (by decide) h dX5_has_17
set_option maxHeartbeats 1000000 in
set_option maxRecDepth 100000 in
theorem mX5_kindOf {G : Gx} {b k : Nat} {l : Launch} (hS : Sok YC G)  (hk : 0 ≤ k) (t : Nat) (x1 : Int32) (σ : Sg) (Q : Int32 → Sg → Prop) (h : wX5_kindOf  t x1 σ Q) : Mi YC G b l yX5_kindOf cX5_kindOf 2 .int k [.ref (G.1 t), .int x1] σ Q := by
  refine enter hS (by decide +kernel) (Nat.le_of_ble_eq_true rfl) (lv := [(0, .ref (G.1 t)), (1, .int x1)]) rfl (fun K hl hC => ?_)
  subst hl
  unfold wX5_kindOf at h
  show V YC G K (Zi YC G K Q) 2 σ 0 [(0, .ref (G.1 t)), (1, .int x1)] []
  refine r_iload_n hC 1 dX5_kindOf_0 (rfl : 0 + 1 = 1) rfl rfl ?_
  refine r_if_lt hC dX5_kindOf_1 (rfl : 1 + 3 = 4) (tgt := 21) (by decide) (fun q => ?_) (fun q => ?_)
  · replace h := if_t h q
    refine r_iconst hC dX5_kindOf_21 (rfl : 21 + 1 = 22) (v := 0) (by decide) ?_
    exact r_iret hC rfl h dX5_kindOf_22
  · replace h := if_f h q
    refine r_iload_n hC 1 dX5_kindOf_4 (rfl : 4 + 1 = 5) rfl rfl ?_
    refine r_aload_n hC 0 dX5_kindOf_5 (rfl : 5 + 1 = 6) rfl rfl ?_
    obtain ⟨ty_1, h⟩ := h
    refine r_geti hC t 4 3 fw_X5_21 ty_1 dX5_kindOf_6 (rfl : 6 + 3 = 9) ?_
    refine r_icmp_ge hC dX5_kindOf_9 (rfl : 9 + 3 = 12) (tgt := 21) (by decide) (fun q => ?_) (fun q => ?_)
    · replace h := if_t h q
      refine r_iconst hC dX5_kindOf_21 (rfl : 21 + 1 = 22) (v := 0) (by decide) ?_
      exact r_iret hC rfl h dX5_kindOf_22
    · replace h := if_f h q
      refine r_aload_n hC 0 dX5_kindOf_12 (rfl : 12 + 1 = 13) rfl rfl ?_
      refine r_getr hC t 4 0 (t + 1) (o := 1) fw_X5_9 ty_1 rfl dX5_kindOf_13 (rfl : 13 + 3 = 16) ?_
      refine r_iload_n hC 1 dX5_kindOf_16 (rfl : 16 + 1 = 17) rfl rfl ?_
      obtain ⟨q_2, h⟩ := h
      refine r_iald hC (t + 1) (la4_1 ty_1).1 (by rw [(la4_1 ty_1).2]; exact q_2) dX5_kindOf_17 (rfl : 17 + 1 = 18) ?_
      refine r_goto hC dX5_kindOf_18 (tgt := 22) (by decide) ?_
      exact r_iret hC rfl h dX5_kindOf_22
set_option maxHeartbeats 1000000 in
set_option maxRecDepth 100000 in
theorem mX5_numberOf {G : Gx} {b k : Nat} {l : Launch} (hS : Sok YC G)  (hk : 0 ≤ k) (t : Nat) (x1 : Int32) (σ : Sg) (Q : Int32 → Sg → Prop) (h : wX5_numberOf  t x1 σ Q) : Mi YC G b l yX5_numberOf cX5_numberOf 2 .int k [.ref (G.1 t), .int x1] σ Q := by
  refine enter hS (by decide +kernel) (Nat.le_of_ble_eq_true rfl) (lv := [(0, .ref (G.1 t)), (1, .int x1)]) rfl (fun K hl hC => ?_)
  subst hl
  unfold wX5_numberOf at h
  show V YC G K (Zi YC G K Q) 2 σ 0 [(0, .ref (G.1 t)), (1, .int x1)] []
  refine r_iload_n hC 1 dX5_numberOf_0 (rfl : 0 + 1 = 1) rfl rfl ?_
  refine r_if_lt hC dX5_numberOf_1 (rfl : 1 + 3 = 4) (tgt := 21) (by decide) (fun q => ?_) (fun q => ?_)
  · replace h := if_t h q
    refine r_iconst hC dX5_numberOf_21 (rfl : 21 + 1 = 22) (v := 0) (by decide) ?_
    exact r_iret hC rfl h dX5_numberOf_22
  · replace h := if_f h q
    refine r_iload_n hC 1 dX5_numberOf_4 (rfl : 4 + 1 = 5) rfl rfl ?_
    refine r_aload_n hC 0 dX5_numberOf_5 (rfl : 5 + 1 = 6) rfl rfl ?_
    obtain ⟨ty_1, h⟩ := h
    refine r_geti hC t 4 3 fw_X5_21 ty_1 dX5_numberOf_6 (rfl : 6 + 3 = 9) ?_
    refine r_icmp_ge hC dX5_numberOf_9 (rfl : 9 + 3 = 12) (tgt := 21) (by decide) (fun q => ?_) (fun q => ?_)
    · replace h := if_t h q
      refine r_iconst hC dX5_numberOf_21 (rfl : 21 + 1 = 22) (v := 0) (by decide) ?_
      exact r_iret hC rfl h dX5_numberOf_22
    · replace h := if_f h q
      refine r_aload_n hC 0 dX5_numberOf_12 (rfl : 12 + 1 = 13) rfl rfl ?_
      refine r_getr hC t 4 1 (t + 2) (o := 2) fw_X5_15 ty_1 rfl dX5_numberOf_13 (rfl : 13 + 3 = 16) ?_
      refine r_iload_n hC 1 dX5_numberOf_16 (rfl : 16 + 1 = 17) rfl rfl ?_
      obtain ⟨q_2, h⟩ := h
      refine r_iald hC (t + 2) (la4_2 ty_1).1 (by rw [(la4_2 ty_1).2]; exact q_2) dX5_numberOf_17 (rfl : 17 + 1 = 18) ?_
      refine r_goto hC dX5_numberOf_18 (tgt := 22) (by decide) ?_
      exact r_iret hC rfl h dX5_numberOf_22
set_option maxHeartbeats 1000000 in
set_option maxRecDepth 100000 in
theorem mX5_sizeOf {G : Gx} {b k : Nat} {l : Launch} (hS : Sok YC G)  (hk : 0 ≤ k) (t : Nat) (x1 : Int32) (σ : Sg) (Q : Int32 → Sg → Prop) (h : wX5_sizeOf  t x1 σ Q) : Mi YC G b l yX5_sizeOf cX5_sizeOf 2 .int k [.ref (G.1 t), .int x1] σ Q := by
  refine enter hS (by decide +kernel) (Nat.le_of_ble_eq_true rfl) (lv := [(0, .ref (G.1 t)), (1, .int x1)]) rfl (fun K hl hC => ?_)
  subst hl
  unfold wX5_sizeOf at h
  show V YC G K (Zi YC G K Q) 2 σ 0 [(0, .ref (G.1 t)), (1, .int x1)] []
  refine r_iload_n hC 1 dX5_sizeOf_0 (rfl : 0 + 1 = 1) rfl rfl ?_
  refine r_if_lt hC dX5_sizeOf_1 (rfl : 1 + 3 = 4) (tgt := 21) (by decide) (fun q => ?_) (fun q => ?_)
  · replace h := if_t h q
    refine r_iconst hC dX5_sizeOf_21 (rfl : 21 + 1 = 22) (v := 0) (by decide) ?_
    exact r_iret hC rfl h dX5_sizeOf_22
  · replace h := if_f h q
    refine r_iload_n hC 1 dX5_sizeOf_4 (rfl : 4 + 1 = 5) rfl rfl ?_
    refine r_aload_n hC 0 dX5_sizeOf_5 (rfl : 5 + 1 = 6) rfl rfl ?_
    obtain ⟨ty_1, h⟩ := h
    refine r_geti hC t 4 3 fw_X5_21 ty_1 dX5_sizeOf_6 (rfl : 6 + 3 = 9) ?_
    refine r_icmp_ge hC dX5_sizeOf_9 (rfl : 9 + 3 = 12) (tgt := 21) (by decide) (fun q => ?_) (fun q => ?_)
    · replace h := if_t h q
      refine r_iconst hC dX5_sizeOf_21 (rfl : 21 + 1 = 22) (v := 0) (by decide) ?_
      exact r_iret hC rfl h dX5_sizeOf_22
    · replace h := if_f h q
      refine r_aload_n hC 0 dX5_sizeOf_12 (rfl : 12 + 1 = 13) rfl rfl ?_
      refine r_getr hC t 4 2 (t + 3) (o := 3) fw_X5_18 ty_1 rfl dX5_sizeOf_13 (rfl : 13 + 3 = 16) ?_
      refine r_iload_n hC 1 dX5_sizeOf_16 (rfl : 16 + 1 = 17) rfl rfl ?_
      obtain ⟨q_2, h⟩ := h
      refine r_iald hC (t + 3) (la4_3 ty_1).1 (by rw [(la4_3 ty_1).2]; exact q_2) dX5_sizeOf_17 (rfl : 17 + 1 = 18) ?_
      refine r_goto hC dX5_sizeOf_18 (tgt := 22) (by decide) ?_
      exact r_iret hC rfl h dX5_sizeOf_22
set_option maxHeartbeats 1000000 in
set_option maxRecDepth 100000 in
theorem mX5_behind {G : Gx} {b k : Nat} {l : Launch} (hS : Sok YC G)  (hk : 0 ≤ k) (t : Nat) (x1 : Int32) (σ : Sg) (Q : Int32 → Sg → Prop) (h : wX5_behind  t x1 σ Q) : Mi YC G b l yX5_behind cX5_behind 2 .int k [.ref (G.1 t), .int x1] σ Q := by
  refine enter hS (by decide +kernel) (Nat.le_of_ble_eq_true rfl) (lv := [(0, .ref (G.1 t)), (1, .int x1)]) rfl (fun K hl hC => ?_)
  subst hl
  unfold wX5_behind at h
  show V YC G K (Zi YC G K Q) 2 σ 0 [(0, .ref (G.1 t)), (1, .int x1)] []
  refine r_iload_n hC 1 dX5_behind_0 (rfl : 0 + 1 = 1) rfl rfl ?_
  refine r_if_lt hC dX5_behind_1 (rfl : 1 + 3 = 4) (tgt := 23) (by decide) (fun q => ?_) (fun q => ?_)
  · replace h := if_t h q
    refine r_aload_n hC 0 dX5_behind_23 (rfl : 23 + 1 = 24) rfl rfl ?_
    obtain ⟨ty_1, h⟩ := h
    refine r_geti hC t 4 3 fw_X5_21 ty_1 dX5_behind_24 (rfl : 24 + 3 = 27) ?_
    exact r_iret hC rfl h dX5_behind_27
  · replace h := if_f h q
    refine r_iload_n hC 1 dX5_behind_4 (rfl : 4 + 1 = 5) rfl rfl ?_
    refine r_aload_n hC 0 dX5_behind_5 (rfl : 5 + 1 = 6) rfl rfl ?_
    obtain ⟨ty_2, h⟩ := h
    refine r_geti hC t 4 3 fw_X5_21 ty_2 dX5_behind_6 (rfl : 6 + 3 = 9) ?_
    refine r_icmp_ge hC dX5_behind_9 (rfl : 9 + 3 = 12) (tgt := 23) (by decide) (fun q => ?_) (fun q => ?_)
    · replace h := if_t h q
      refine r_aload_n hC 0 dX5_behind_23 (rfl : 23 + 1 = 24) rfl rfl ?_
      refine r_geti hC t 4 3 fw_X5_21 ty_2 dX5_behind_24 (rfl : 24 + 3 = 27) ?_
      exact r_iret hC rfl h dX5_behind_27
    · replace h := if_f h q
      refine r_iload_n hC 1 dX5_behind_12 (rfl : 12 + 1 = 13) rfl rfl ?_
      refine r_aload_n hC 0 dX5_behind_13 (rfl : 13 + 1 = 14) rfl rfl ?_
      refine r_getr hC t 4 2 (t + 3) (o := 3) fw_X5_18 ty_2 rfl dX5_behind_14 (rfl : 14 + 3 = 17) ?_
      refine r_iload_n hC 1 dX5_behind_17 (rfl : 17 + 1 = 18) rfl rfl ?_
      obtain ⟨q_3, h⟩ := h
      refine r_iald hC (t + 3) (la4_3 ty_2).1 (by rw [(la4_3 ty_2).2]; exact q_3) dX5_behind_18 (rfl : 18 + 1 = 19) ?_
      refine r_iadd hC dX5_behind_19 (rfl : 19 + 1 = 20) ?_
      refine r_goto hC dX5_behind_20 (tgt := 27) (by decide) ?_
      exact r_iret hC rfl h dX5_behind_27
set_option maxHeartbeats 1000000 in
set_option maxRecDepth 100000 in
theorem mX5_isNumber {G : Gx} {b k : Nat} {l : Launch} (hS : Sok YC G)  (hk : 0 ≤ k) (t : Nat) (x1 : Int32) (x2 : Int32) (σ : Sg) (Q : Int32 → Sg → Prop) (h : wX5_isNumber  t x1 x2 σ Q) : Mi YC G b l yX5_isNumber cX5_isNumber 3 .boolean k [.ref (G.1 t), .int x1, .int x2] σ Q := by
  refine enter hS (by decide +kernel) (Nat.le_of_ble_eq_true rfl) (lv := [(0, .ref (G.1 t)), (1, .int x1), (2, .int x2)]) rfl (fun K hl hC => ?_)
  subst hl
  unfold wX5_isNumber at h
  show V YC G K (Zi YC G K Q) 3 σ 0 [(0, .ref (G.1 t)), (1, .int x1), (2, .int x2)] []
  refine r_iload_n hC 1 dX5_isNumber_0 (rfl : 0 + 1 = 1) rfl rfl ?_
  refine r_if_lt hC dX5_isNumber_1 (rfl : 1 + 3 = 4) (tgt := 35) (by decide) (fun q => ?_) (fun q => ?_)
  · replace h := if_t h q
    refine r_iconst hC dX5_isNumber_35 (rfl : 35 + 1 = 36) (v := 0) (by decide) ?_
    exact r_zret hC rfl (by decide) h dX5_isNumber_36
  · replace h := if_f h q
    refine r_iload_n hC 1 dX5_isNumber_4 (rfl : 4 + 1 = 5) rfl rfl ?_
    refine r_aload_n hC 0 dX5_isNumber_5 (rfl : 5 + 1 = 6) rfl rfl ?_
    obtain ⟨ty_1, h⟩ := h
    refine r_geti hC t 4 3 fw_X5_21 ty_1 dX5_isNumber_6 (rfl : 6 + 3 = 9) ?_
    refine r_icmp_ge hC dX5_isNumber_9 (rfl : 9 + 3 = 12) (tgt := 35) (by decide) (fun q => ?_) (fun q => ?_)
    · replace h := if_t h q
      refine r_iconst hC dX5_isNumber_35 (rfl : 35 + 1 = 36) (v := 0) (by decide) ?_
      exact r_zret hC rfl (by decide) h dX5_isNumber_36
    · replace h := if_f h q
      refine r_aload_n hC 0 dX5_isNumber_12 (rfl : 12 + 1 = 13) rfl rfl ?_
      refine r_getr hC t 4 0 (t + 1) (o := 1) fw_X5_9 ty_1 rfl dX5_isNumber_13 (rfl : 13 + 3 = 16) ?_
      refine r_iload_n hC 1 dX5_isNumber_16 (rfl : 16 + 1 = 17) rfl rfl ?_
      obtain ⟨q_2, h⟩ := h
      refine r_iald hC (t + 1) (la4_1 ty_1).1 (by rw [(la4_1 ty_1).2]; exact q_2) dX5_isNumber_17 (rfl : 17 + 1 = 18) ?_
      refine r_if_ne hC dX5_isNumber_18 (rfl : 18 + 3 = 21) (tgt := 35) (by decide) (fun q => ?_) (fun q => ?_)
      · replace h := if_f h q
        refine r_iconst hC dX5_isNumber_35 (rfl : 35 + 1 = 36) (v := 0) (by decide) ?_
        exact r_zret hC rfl (by decide) h dX5_isNumber_36
      · replace h := if_t h q
        refine r_aload_n hC 0 dX5_isNumber_21 (rfl : 21 + 1 = 22) rfl rfl ?_
        refine r_getr hC t 4 1 (t + 2) (o := 2) fw_X5_15 ty_1 rfl dX5_isNumber_22 (rfl : 22 + 3 = 25) ?_
        refine r_iload_n hC 1 dX5_isNumber_25 (rfl : 25 + 1 = 26) rfl rfl ?_
        refine r_iald hC (t + 2) (la4_2 ty_1).1 (by rw [(la4_2 ty_1).2]; exact q_2) dX5_isNumber_26 (rfl : 26 + 1 = 27) ?_
        refine r_iload_n hC 2 dX5_isNumber_27 (rfl : 27 + 1 = 28) rfl rfl ?_
        refine r_icmp_ne hC dX5_isNumber_28 (rfl : 28 + 3 = 31) (tgt := 35) (by decide) (fun q => ?_) (fun q => ?_)
        · replace h := if_f h q
          refine r_iconst hC dX5_isNumber_35 (rfl : 35 + 1 = 36) (v := 0) (by decide) ?_
          exact r_zret hC rfl (by decide) h dX5_isNumber_36
        · replace h := if_t h q
          refine r_iconst hC dX5_isNumber_31 (rfl : 31 + 1 = 32) (v := 1) (by decide) ?_
          refine r_goto hC dX5_isNumber_32 (tgt := 36) (by decide) ?_
          exact r_zret hC rfl (by decide) h dX5_isNumber_36
set_option maxHeartbeats 1000000 in
set_option maxRecDepth 100000 in
theorem sX5_isSame_20 {G : Gx} {b k : Nat} {K : Kx} {l : Launch} (hl : K.2.1 = l) (hC : Cx YC G b K cX5_isSame RX5 5 (some .boolean) k)  (hk : 1 ≤ k)  (Q : Int32 → Sg → Prop)  : ∀ (n : Nat) (t : Nat) (x1 : Int32) (x2 : Int32) (x3 : Int32) (x4 : Int32) (σ : Sg), wX5_isSame_20  Q n t x1 x2 x3 x4 σ → V YC G K (Zi YC G K Q) 5 σ 20 [(0, .ref (G.1 t)), (1, .int x1), (2, .int x2), (3, .int x3), (4, .int x4)] [] := by
  subst hl
  intro n
  induction n with
  | zero =>
    intro t x1 x2 x3 x4 σ h
    exact h.elim
  | succ n ih =>
    intro t x1 x2 x3 x4 σ h
    have h : wX5_isSame_20_b  (wX5_isSame_20  Q n) t x1 x2 x3 x4 σ Q := h
    unfold wX5_isSame_20_b at h
    refine r_iload hC 4 dX5_isSame_20 (rfl : 20 + 2 = 22) rfl ?_
    refine r_iload_n hC 3 dX5_isSame_22 (rfl : 22 + 1 = 23) rfl rfl ?_
    refine r_icmp_ge hC dX5_isSame_23 (rfl : 23 + 3 = 26) (tgt := 72) (by decide) (fun q => ?_) (fun q => ?_)
    · replace h := if_t h q
      refine r_iconst hC dX5_isSame_72 (rfl : 72 + 1 = 73) (v := 1) (by decide) ?_
      exact r_zret hC rfl (by decide) h dX5_isSame_73
    · replace h := if_f h q
      refine r_aload_n hC 0 dX5_isSame_26 (rfl : 26 + 1 = 27) rfl rfl ?_
      refine r_iload_n hC 1 dX5_isSame_27 (rfl : 27 + 1 = 28) rfl rfl ?_
      refine r_iload hC 4 dX5_isSame_28 (rfl : 28 + 2 = 30) rfl ?_
      refine r_iadd hC dX5_isSame_30 (rfl : 30 + 1 = 31) ?_
      obtain ⟨ty_1, h⟩ := h
      refine r_callVi hC cs_X5_29 ty_1 (by omega) (mX5_kindOf hC.2.2.2.2.2.2.2.2.1 (k := k - 1) (by omega) t (x1 + x4) σ _ h) rfl rfl (Nat.le_of_ble_eq_true rfl) dX5_isSame_31 (rfl : 31 + 3 = 34) (fun r_3 σ_2 h => ?_)
      refine r_aload_n hC 0 dX5_isSame_34 (rfl : 34 + 1 = 35) rfl rfl ?_
      refine r_iload_n hC 2 dX5_isSame_35 (rfl : 35 + 1 = 36) rfl rfl ?_
      refine r_iload hC 4 dX5_isSame_36 (rfl : 36 + 2 = 38) rfl ?_
      refine r_iadd hC dX5_isSame_38 (rfl : 38 + 1 = 39) ?_
      refine r_callVi hC cs_X5_29 ty_1 (by omega) (mX5_kindOf hC.2.2.2.2.2.2.2.2.1 (k := k - 1) (by omega) t (x2 + x4) σ_2 _ h) rfl rfl (Nat.le_of_ble_eq_true rfl) dX5_isSame_39 (rfl : 39 + 3 = 42) (fun r_5 σ_4 h => ?_)
      refine r_icmp_ne hC dX5_isSame_42 (rfl : 42 + 3 = 45) (tgt := 64) (by decide) (fun q => ?_) (fun q => ?_)
      · replace h := if_f h q
        refine r_iconst hC dX5_isSame_64 (rfl : 64 + 1 = 65) (v := 0) (by decide) ?_
        exact r_zret hC rfl (by decide) h dX5_isSame_65
      · replace h := if_t h q
        refine r_aload_n hC 0 dX5_isSame_45 (rfl : 45 + 1 = 46) rfl rfl ?_
        refine r_iload_n hC 1 dX5_isSame_46 (rfl : 46 + 1 = 47) rfl rfl ?_
        refine r_iload hC 4 dX5_isSame_47 (rfl : 47 + 2 = 49) rfl ?_
        refine r_iadd hC dX5_isSame_49 (rfl : 49 + 1 = 50) ?_
        refine r_callVi hC cs_X5_32 ty_1 (by omega) (mX5_numberOf hC.2.2.2.2.2.2.2.2.1 (k := k - 1) (by omega) t (x1 + x4) σ_4 _ h) rfl rfl (Nat.le_of_ble_eq_true rfl) dX5_isSame_50 (rfl : 50 + 3 = 53) (fun r_7 σ_6 h => ?_)
        refine r_aload_n hC 0 dX5_isSame_53 (rfl : 53 + 1 = 54) rfl rfl ?_
        refine r_iload_n hC 2 dX5_isSame_54 (rfl : 54 + 1 = 55) rfl rfl ?_
        refine r_iload hC 4 dX5_isSame_55 (rfl : 55 + 2 = 57) rfl ?_
        refine r_iadd hC dX5_isSame_57 (rfl : 57 + 1 = 58) ?_
        refine r_callVi hC cs_X5_32 ty_1 (by omega) (mX5_numberOf hC.2.2.2.2.2.2.2.2.1 (k := k - 1) (by omega) t (x2 + x4) σ_6 _ h) rfl rfl (Nat.le_of_ble_eq_true rfl) dX5_isSame_58 (rfl : 58 + 3 = 61) (fun r_9 σ_8 h => ?_)
        refine r_icmp_eq hC dX5_isSame_61 (rfl : 61 + 3 = 64) (tgt := 66) (by decide) (fun q => ?_) (fun q => ?_)
        · replace h := if_t h q
          obtain ⟨x4_10, e_11, h⟩ := lt_nm h
          refine r_iinc hC (j := 4) dX5_isSame_66 (rfl : 66 + 3 = 69) rfl (zz := 1) (by decide) e_11 (by decide) (lv2 := [(4, .int x4_10), (0, .ref (G.1 t)), (1, .int x1), (2, .int x2), (3, .int x3)]) rfl ?_
          refine r_goto hC dX5_isSame_69 (tgt := 20) (by decide) ?_
          exact (ih t x1 x2 x3 x4_10 σ_8 h).sub [1, 2, 3, 4, 0] rfl
        · replace h := if_f h q
          refine r_iconst hC dX5_isSame_64 (rfl : 64 + 1 = 65) (v := 0) (by decide) ?_
          exact r_zret hC rfl (by decide) h dX5_isSame_65
set_option maxHeartbeats 1000000 in
set_option maxRecDepth 100000 in
theorem mX5_isSame {G : Gx} {b k : Nat} {l : Launch} (hS : Sok YC G)  (hk : 1 ≤ k) (t : Nat) (x1 : Int32) (x2 : Int32) (σ : Sg) (Q : Int32 → Sg → Prop) (h : wX5_isSame  t x1 x2 σ Q) : Mi YC G b l yX5_isSame cX5_isSame 5 .boolean k [.ref (G.1 t), .int x1, .int x2] σ Q := by
  refine enter hS (by decide +kernel) (Nat.le_of_ble_eq_true rfl) (lv := [(0, .ref (G.1 t)), (1, .int x1), (2, .int x2)]) rfl (fun K hl hC => ?_)
  subst hl
  unfold wX5_isSame at h
  show V YC G K (Zi YC G K Q) 5 σ 0 [(0, .ref (G.1 t)), (1, .int x1), (2, .int x2)] []
  refine r_aload_n hC 0 dX5_isSame_0 (rfl : 0 + 1 = 1) rfl rfl ?_
  refine r_iload_n hC 1 dX5_isSame_1 (rfl : 1 + 1 = 2) rfl rfl ?_
  obtain ⟨ty_12, h⟩ := h
  refine r_callVi hC cs_X5_25 ty_12 (by omega) (mX5_sizeOf hC.2.2.2.2.2.2.2.2.1 (k := k - 1) (by omega) t x1 σ _ h) rfl rfl (Nat.le_of_ble_eq_true rfl) dX5_isSame_2 (rfl : 2 + 3 = 5) (fun r_14 σ_13 h => ?_)
  refine r_istore_n hC dX5_isSame_5 (rfl : 5 + 1 = 6) rfl (by decide) rfl (lv2 := [(3, .int r_14), (0, .ref (G.1 t)), (1, .int x1), (2, .int x2)]) rfl ?_
  refine r_iload_n hC 0 dX5_isSame_6 (rfl : 6 + 1 = 7) rfl rfl ?_
  refine r_aload_n hC 1 dX5_isSame_7 (rfl : 7 + 1 = 8) rfl rfl ?_
  refine r_iload_n hC 3 dX5_isSame_8 (rfl : 8 + 1 = 9) rfl rfl ?_
  refine r_callVi hC cs_X5_25 ty_12 (by omega) (mX5_sizeOf hC.2.2.2.2.2.2.2.2.1 (k := k - 1) (by omega) t x2 σ_13 _ h) rfl rfl (Nat.le_of_ble_eq_true rfl) dX5_isSame_9 (rfl : 9 + 3 = 12) (fun r_16 σ_15 h => ?_)
  refine r_icmp_eq hC dX5_isSame_12 (rfl : 12 + 3 = 15) (tgt := 17) (by decide) (fun q => ?_) (fun q => ?_)
  · replace h := if_t h q
    refine r_iconst hC dX5_isSame_17 (rfl : 17 + 1 = 18) (v := 0) (by decide) ?_
    refine r_istore hC dX5_isSame_18 (rfl : 18 + 2 = 20) (by decide) rfl (lv2 := [(4, .int 0), (3, .int r_14), (0, .ref (G.1 t)), (1, .int x1), (2, .int x2)]) rfl ?_
    obtain ⟨nn, h⟩ := h
    exact (sX5_isSame_20 rfl hC hk  Q  nn t x1 x2 r_14 0 σ_15 h).sub [2, 3, 4, 1, 0] rfl
  · replace h := if_f h q
    refine r_iconst hC dX5_isSame_15 (rfl : 15 + 1 = 16) (v := 0) (by decide) ?_
    exact r_zret hC rfl (by decide) h dX5_isSame_16
set_option maxHeartbeats 1000000 in
set_option maxRecDepth 100000 in
theorem mX5_clear {G : Gx} {b k : Nat} {l : Launch} (hS : Sok YC G)  (hk : 0 ≤ k) (t : Nat) (σ : Sg) (Q : Sg → Prop) (h : wX5_clear  t σ Q) : Mv YC G b l yX5_clear cX5_clear 1 k [.ref (G.1 t)] σ Q := by
  refine enter hS (by decide +kernel) (Nat.le_of_ble_eq_true rfl) (lv := [(0, .ref (G.1 t))]) rfl (fun K hl hC => ?_)
  subst hl
  unfold wX5_clear at h
  show V YC G K (Zv YC G K Q) 1 σ 0 [(0, .ref (G.1 t))] []
  refine r_aload_n hC 0 dX5_clear_0 (rfl : 0 + 1 = 1) rfl rfl ?_
  refine r_iconst hC dX5_clear_1 (rfl : 1 + 1 = 2) (v := 0) (by decide) ?_
  obtain ⟨ty_1, h⟩ := h
  obtain ⟨σ_2, e_3, h⟩ := lt_nm h
  refine r_puti hC t 4 3 fw_X5_21 fp_5_3 ty_1 e_3 dX5_clear_2 (rfl : 2 + 3 = 5) ?_
  exact r_vret hC rfl h dX5_clear_5
set_option maxHeartbeats 1000000 in
set_option maxRecDepth 100000 in
theorem mX5_append {G : Gx} {b k : Nat} {l : Launch} (hS : Sok YC G)  (hk : 0 ≤ k) (t : Nat) (x1 : Int32) (x2 : Int32) (σ : Sg) (Q : Sg → Prop) (h : wX5_append  t x1 x2 σ Q) : Mv YC G b l yX5_append cX5_append 3 k [.ref (G.1 t), .int x1, .int x2] σ Q := by
  refine enter hS (by decide +kernel) (Nat.le_of_ble_eq_true rfl) (lv := [(0, .ref (G.1 t)), (1, .int x1), (2, .int x2)]) rfl (fun K hl hC => ?_)
  subst hl
  unfold wX5_append at h
  show V YC G K (Zv YC G K Q) 3 σ 0 [(0, .ref (G.1 t)), (1, .int x1), (2, .int x2)] []
  refine r_aload_n hC 0 dX5_append_0 (rfl : 0 + 1 = 1) rfl rfl ?_
  obtain ⟨ty_1, h⟩ := h
  refine r_geti hC t 4 3 fw_X5_21 ty_1 dX5_append_1 (rfl : 1 + 3 = 4) ?_
  refine r_if_lt hC dX5_append_4 (rfl : 4 + 3 = 7) (tgt := 57) (by decide) (fun q => ?_) (fun q => ?_)
  · replace h := if_t h q
    exact r_vret hC rfl h dX5_append_57
  · replace h := if_f h q
    refine r_aload_n hC 0 dX5_append_7 (rfl : 7 + 1 = 8) rfl rfl ?_
    refine r_geti hC t 4 3 fw_X5_21 ty_1 dX5_append_8 (rfl : 8 + 3 = 11) ?_
    refine r_sipush hC dX5_append_11 (rfl : 11 + 3 = 14) (v := 200) (by decide) ?_
    refine r_icmp_ge hC dX5_append_14 (rfl : 14 + 3 = 17) (tgt := 57) (by decide) (fun q => ?_) (fun q => ?_)
    · replace h := if_t h q
      exact r_vret hC rfl h dX5_append_57
    · replace h := if_f h q
      refine r_aload_n hC 0 dX5_append_17 (rfl : 17 + 1 = 18) rfl rfl ?_
      refine r_getr hC t 4 0 (t + 1) (o := 1) fw_X5_9 ty_1 rfl dX5_append_18 (rfl : 18 + 3 = 21) ?_
      refine r_aload_n hC 0 dX5_append_21 (rfl : 21 + 1 = 22) rfl rfl ?_
      refine r_geti hC t 4 3 fw_X5_21 ty_1 dX5_append_22 (rfl : 22 + 3 = 25) ?_
      refine r_iload_n hC 1 dX5_append_25 (rfl : 25 + 1 = 26) rfl rfl ?_
      obtain ⟨q_2, h⟩ := h
      obtain ⟨σ_3, e_4, h⟩ := lt_nm h
      refine r_iast hC (t + 1) (la4_1 ty_1).1 (by rw [(la4_1 ty_1).2]; exact q_2) e_4 dX5_append_26 (rfl : 26 + 1 = 27) ?_
      refine r_aload_n hC 0 dX5_append_27 (rfl : 27 + 1 = 28) rfl rfl ?_
      refine r_getr hC t 4 1 (t + 2) (o := 2) fw_X5_15 ty_1 rfl dX5_append_28 (rfl : 28 + 3 = 31) ?_
      refine r_aload_n hC 0 dX5_append_31 (rfl : 31 + 1 = 32) rfl rfl ?_
      refine r_geti hC t 4 3 fw_X5_21 ty_1 dX5_append_32 (rfl : 32 + 3 = 35) ?_
      refine r_iload_n hC 2 dX5_append_35 (rfl : 35 + 1 = 36) rfl rfl ?_
      obtain ⟨q_5, h⟩ := h
      obtain ⟨σ_6, e_7, h⟩ := lt_nm h
      refine r_iast hC (t + 2) (la4_2 ty_1).1 (by rw [(la4_2 ty_1).2]; exact q_5) e_7 dX5_append_36 (rfl : 36 + 1 = 37) ?_
      refine r_aload_n hC 0 dX5_append_37 (rfl : 37 + 1 = 38) rfl rfl ?_
      refine r_getr hC t 4 2 (t + 3) (o := 3) fw_X5_18 ty_1 rfl dX5_append_38 (rfl : 38 + 3 = 41) ?_
      refine r_aload_n hC 0 dX5_append_41 (rfl : 41 + 1 = 42) rfl rfl ?_
      refine r_geti hC t 4 3 fw_X5_21 ty_1 dX5_append_42 (rfl : 42 + 3 = 45) ?_
      refine r_iconst hC dX5_append_45 (rfl : 45 + 1 = 46) (v := 1) (by decide) ?_
      obtain ⟨q_8, h⟩ := h
      obtain ⟨σ_9, e_10, h⟩ := lt_nm h
      refine r_iast hC (t + 3) (la4_3 ty_1).1 (by rw [(la4_3 ty_1).2]; exact q_8) e_10 dX5_append_46 (rfl : 46 + 1 = 47) ?_
      refine r_aload_n hC 0 dX5_append_47 (rfl : 47 + 1 = 48) rfl rfl ?_
      refine r_dup hC dX5_append_48 (rfl : 48 + 1 = 49) rfl ?_
      refine r_geti hC t 4 3 fw_X5_21 ty_1 dX5_append_49 (rfl : 49 + 3 = 52) ?_
      refine r_iconst hC dX5_append_52 (rfl : 52 + 1 = 53) (v := 1) (by decide) ?_
      refine r_iadd hC dX5_append_53 (rfl : 53 + 1 = 54) ?_
      obtain ⟨σ_11, e_12, h⟩ := lt_nm h
      refine r_puti hC t 4 3 fw_X5_21 fp_5_3 ty_1 e_12 dX5_append_54 (rfl : 54 + 3 = 57) ?_
      exact r_vret hC rfl h dX5_append_57
set_option maxHeartbeats 1000000 in
set_option maxRecDepth 100000 in
theorem mX5_appendRun {G : Gx} {b k : Nat} {l : Launch} (hS : Sok YC G)  (hk : 1 ≤ k) (t : Nat) (q1 : Nat) (x2 : Int32) (x3 : Int32) (σ : Sg) (Q : Sg → Prop) (h : wX5_appendRun  t q1 x2 x3 σ Q) : Mv YC G b l yX5_appendRun cX5_appendRun 4 k [.ref (G.1 t), .ref (G.1 q1), .int x2, .int x3] σ Q := by
  refine enter hS (by decide +kernel) (Nat.le_of_ble_eq_true rfl) (lv := [(0, .ref (G.1 t)), (1, .ref (G.1 q1)), (2, .int x2), (3, .int x3)]) rfl (fun K hl hC => ?_)
  subst hl
  unfold wX5_appendRun at h
  show V YC G K (Zv YC G K Q) 4 σ 0 [(0, .ref (G.1 t)), (1, .ref (G.1 q1)), (2, .int x2), (3, .int x3)] []
  refine r_iload_n hC 2 dX5_appendRun_0 (rfl : 0 + 1 = 1) rfl rfl ?_
  refine r_if_lt hC dX5_appendRun_1 (rfl : 1 + 3 = 4) (tgt := 30) (by decide) (fun q => ?_) (fun q => ?_)
  · replace h := if_t h q
    exact r_vret hC rfl h dX5_appendRun_30
  · replace h := if_f h q
    refine r_iload_n hC 3 dX5_appendRun_4 (rfl : 4 + 1 = 5) rfl rfl ?_
    refine r_if_lt hC dX5_appendRun_5 (rfl : 5 + 3 = 8) (tgt := 30) (by decide) (fun q => ?_) (fun q => ?_)
    · replace h := if_t h q
      exact r_vret hC rfl h dX5_appendRun_30
    · replace h := if_f h q
      refine r_iload_n hC 2 dX5_appendRun_8 (rfl : 8 + 1 = 9) rfl rfl ?_
      refine r_aload_n hC 1 dX5_appendRun_9 (rfl : 9 + 1 = 10) rfl rfl ?_
      obtain ⟨ty_1, h⟩ := h
      refine r_geti hC q1 4 3 fw_X5_21 ty_1 dX5_appendRun_10 (rfl : 10 + 3 = 13) ?_
      refine r_iload_n hC 3 dX5_appendRun_13 (rfl : 13 + 1 = 14) rfl rfl ?_
      refine r_isub hC dX5_appendRun_14 (rfl : 14 + 1 = 15) ?_
      refine r_icmp_gt hC dX5_appendRun_15 (rfl : 15 + 3 = 18) (tgt := 30) (by decide) (fun q => ?_) (fun q => ?_)
      · replace h := if_t h q
        exact r_vret hC rfl h dX5_appendRun_30
      · replace h := if_f h q
        refine r_aload_n hC 0 dX5_appendRun_18 (rfl : 18 + 1 = 19) rfl rfl ?_
        obtain ⟨ty_2, h⟩ := h
        refine r_geti hC t 4 3 fw_X5_21 ty_2 dX5_appendRun_19 (rfl : 19 + 3 = 22) ?_
        refine r_sipush hC dX5_appendRun_22 (rfl : 22 + 3 = 25) (v := 200) (by decide) ?_
        refine r_iload_n hC 3 dX5_appendRun_25 (rfl : 25 + 1 = 26) rfl rfl ?_
        refine r_isub hC dX5_appendRun_26 (rfl : 26 + 1 = 27) ?_
        refine r_icmp_le hC dX5_appendRun_27 (rfl : 27 + 3 = 30) (tgt := 31) (by decide) (fun q => ?_) (fun q => ?_)
        · replace h := if_t h q
          refine r_aload_n hC 1 dX5_appendRun_31 (rfl : 31 + 1 = 32) rfl rfl ?_
          refine r_getr hC q1 4 0 (q1 + 1) (o := 1) fw_X5_9 ty_1 rfl dX5_appendRun_32 (rfl : 32 + 3 = 35) ?_
          refine r_iload_n hC 2 dX5_appendRun_35 (rfl : 35 + 1 = 36) rfl rfl ?_
          refine r_aload_n hC 0 dX5_appendRun_36 (rfl : 36 + 1 = 37) rfl rfl ?_
          refine r_getr hC t 4 0 (t + 1) (o := 1) fw_X5_9 ty_2 rfl dX5_appendRun_37 (rfl : 37 + 3 = 40) ?_
          refine r_aload_n hC 0 dX5_appendRun_40 (rfl : 40 + 1 = 41) rfl rfl ?_
          refine r_geti hC t 4 3 fw_X5_21 ty_2 dX5_appendRun_41 (rfl : 41 + 3 = 44) ?_
          refine r_iload_n hC 3 dX5_appendRun_44 (rfl : 44 + 1 = 45) rfl rfl ?_
          obtain ⟨q_3, h⟩ := h
          obtain ⟨σ_4, e_5, h⟩ := lt_nm h
          refine r_copy hC (q1 + 1) (t + 1) cs_X5_35 (by omega) (Nat.le_of_ble_eq_true rfl) (la4_1 ty_1).1 (la4_1 ty_2).1 (by first | (rw [(la4_1 ty_1).2, (la4_1 ty_2).2]; exact q_3) | (rw [(la4_1 ty_1).2]; exact q_3)) e_5 dX5_appendRun_45 (rfl : 45 + 3 = 48) ?_
          refine r_aload_n hC 1 dX5_appendRun_48 (rfl : 48 + 1 = 49) rfl rfl ?_
          refine r_getr hC q1 4 1 (q1 + 2) (o := 2) fw_X5_15 ty_1 rfl dX5_appendRun_49 (rfl : 49 + 3 = 52) ?_
          refine r_iload_n hC 2 dX5_appendRun_52 (rfl : 52 + 1 = 53) rfl rfl ?_
          refine r_aload_n hC 0 dX5_appendRun_53 (rfl : 53 + 1 = 54) rfl rfl ?_
          refine r_getr hC t 4 1 (t + 2) (o := 2) fw_X5_15 ty_2 rfl dX5_appendRun_54 (rfl : 54 + 3 = 57) ?_
          refine r_aload_n hC 0 dX5_appendRun_57 (rfl : 57 + 1 = 58) rfl rfl ?_
          refine r_geti hC t 4 3 fw_X5_21 ty_2 dX5_appendRun_58 (rfl : 58 + 3 = 61) ?_
          refine r_iload_n hC 3 dX5_appendRun_61 (rfl : 61 + 1 = 62) rfl rfl ?_
          obtain ⟨q_6, h⟩ := h
          obtain ⟨σ_7, e_8, h⟩ := lt_nm h
          refine r_copy hC (q1 + 2) (t + 2) cs_X5_35 (by omega) (Nat.le_of_ble_eq_true rfl) (la4_2 ty_1).1 (la4_2 ty_2).1 (by first | (rw [(la4_2 ty_1).2, (la4_2 ty_2).2]; exact q_6) | (rw [(la4_2 ty_1).2]; exact q_6)) e_8 dX5_appendRun_62 (rfl : 62 + 3 = 65) ?_
          refine r_aload_n hC 1 dX5_appendRun_65 (rfl : 65 + 1 = 66) rfl rfl ?_
          refine r_getr hC q1 4 2 (q1 + 3) (o := 3) fw_X5_18 ty_1 rfl dX5_appendRun_66 (rfl : 66 + 3 = 69) ?_
          refine r_iload_n hC 2 dX5_appendRun_69 (rfl : 69 + 1 = 70) rfl rfl ?_
          refine r_aload_n hC 0 dX5_appendRun_70 (rfl : 70 + 1 = 71) rfl rfl ?_
          refine r_getr hC t 4 2 (t + 3) (o := 3) fw_X5_18 ty_2 rfl dX5_appendRun_71 (rfl : 71 + 3 = 74) ?_
          refine r_aload_n hC 0 dX5_appendRun_74 (rfl : 74 + 1 = 75) rfl rfl ?_
          refine r_geti hC t 4 3 fw_X5_21 ty_2 dX5_appendRun_75 (rfl : 75 + 3 = 78) ?_
          refine r_iload_n hC 3 dX5_appendRun_78 (rfl : 78 + 1 = 79) rfl rfl ?_
          obtain ⟨q_9, h⟩ := h
          obtain ⟨σ_10, e_11, h⟩ := lt_nm h
          refine r_copy hC (q1 + 3) (t + 3) cs_X5_35 (by omega) (Nat.le_of_ble_eq_true rfl) (la4_3 ty_1).1 (la4_3 ty_2).1 (by first | (rw [(la4_3 ty_1).2, (la4_3 ty_2).2]; exact q_9) | (rw [(la4_3 ty_1).2]; exact q_9)) e_11 dX5_appendRun_79 (rfl : 79 + 3 = 82) ?_
          refine r_aload_n hC 0 dX5_appendRun_82 (rfl : 82 + 1 = 83) rfl rfl ?_
          refine r_dup hC dX5_appendRun_83 (rfl : 83 + 1 = 84) rfl ?_
          refine r_geti hC t 4 3 fw_X5_21 ty_2 dX5_appendRun_84 (rfl : 84 + 3 = 87) ?_
          refine r_iload_n hC 3 dX5_appendRun_87 (rfl : 87 + 1 = 88) rfl rfl ?_
          refine r_iadd hC dX5_appendRun_88 (rfl : 88 + 1 = 89) ?_
          obtain ⟨σ_12, e_13, h⟩ := lt_nm h
          refine r_puti hC t 4 3 fw_X5_21 fp_5_3 ty_2 e_13 dX5_appendRun_89 (rfl : 89 + 3 = 92) ?_
          exact r_vret hC rfl h dX5_appendRun_92
        · replace h := if_f h q
          exact r_vret hC rfl h dX5_appendRun_30
set_option maxHeartbeats 1000000 in
set_option maxRecDepth 100000 in
theorem mX5_become {G : Gx} {b k : Nat} {l : Launch} (hS : Sok YC G)  (hk : 2 ≤ k) (t : Nat) (q1 : Nat) (σ : Sg) (Q : Sg → Prop) (h : wX5_become  t q1 σ Q) : Mv YC G b l yX5_become cX5_become 2 k [.ref (G.1 t), .ref (G.1 q1)] σ Q := by
  refine enter hS (by decide +kernel) (Nat.le_of_ble_eq_true rfl) (lv := [(0, .ref (G.1 t)), (1, .ref (G.1 q1))]) rfl (fun K hl hC => ?_)
  subst hl
  unfold wX5_become at h
  show V YC G K (Zv YC G K Q) 2 σ 0 [(0, .ref (G.1 t)), (1, .ref (G.1 q1))] []
  refine r_aload_n hC 0 dX5_become_0 (rfl : 0 + 1 = 1) rfl rfl ?_
  refine r_iconst hC dX5_become_1 (rfl : 1 + 1 = 2) (v := 0) (by decide) ?_
  obtain ⟨ty_1, h⟩ := h
  obtain ⟨σ_2, e_3, h⟩ := lt_nm h
  refine r_puti hC t 4 3 fw_X5_21 fp_5_3 ty_1 e_3 dX5_become_2 (rfl : 2 + 3 = 5) ?_
  refine r_aload_n hC 0 dX5_become_5 (rfl : 5 + 1 = 6) rfl rfl ?_
  refine r_aload_n hC 1 dX5_become_6 (rfl : 6 + 1 = 7) rfl rfl ?_
  refine r_iconst hC dX5_become_7 (rfl : 7 + 1 = 8) (v := 0) (by decide) ?_
  refine r_aload_n hC 1 dX5_become_8 (rfl : 8 + 1 = 9) rfl rfl ?_
  obtain ⟨ty_4, h⟩ := h
  refine r_geti hC q1 4 3 fw_X5_21 ty_4 dX5_become_9 (rfl : 9 + 3 = 12) ?_
  refine r_callVv hC cs_X5_41 ty_1 (by omega) (mX5_appendRun hC.2.2.2.2.2.2.2.2.1 (k := k - 1) (by omega) t q1 0 (σ_2.1 q1 3) σ_2 _ h) rfl rfl (Nat.le_of_ble_eq_true rfl) dX5_become_12 (rfl : 12 + 3 = 15) (fun  σ_5 h => ?_)
  exact r_vret hC rfl h dX5_become_15
set_option maxHeartbeats 1000000 in
set_option maxRecDepth 100000 in
theorem mX5_close {G : Gx} {b k : Nat} {l : Launch} (hS : Sok YC G)  (hk : 1 ≤ k) (t : Nat) (x1 : Int32) (σ : Sg) (Q : Sg → Prop) (h : wX5_close  t x1 σ Q) : Mv YC G b l yX5_close cX5_close 2 k [.ref (G.1 t), .int x1] σ Q := by
  refine enter hS (by decide +kernel) (Nat.le_of_ble_eq_true rfl) (lv := [(0, .ref (G.1 t)), (1, .int x1)]) rfl (fun K hl hC => ?_)
  subst hl
  unfold wX5_close at h
  show V YC G K (Zv YC G K Q) 2 σ 0 [(0, .ref (G.1 t)), (1, .int x1)] []
  refine r_aload_n hC 0 dX5_close_0 (rfl : 0 + 1 = 1) rfl rfl ?_
  refine r_iload_n hC 1 dX5_close_1 (rfl : 1 + 1 = 2) rfl rfl ?_
  obtain ⟨ty_1, h⟩ := h
  refine r_callVi hC cs_X5_54 ty_1 (by omega) (mX5_has hC.2.2.2.2.2.2.2.2.1 (k := k - 1) (by omega) t x1 σ _ h) rfl rfl (Nat.le_of_ble_eq_true rfl) dX5_close_2 (rfl : 2 + 3 = 5) (fun r_3 σ_2 h => ?_)
  refine r_if_eq hC dX5_close_5 (rfl : 5 + 3 = 8) (tgt := 20) (by decide) (fun q => ?_) (fun q => ?_)
  · replace h := if_t h q
    exact r_vret hC rfl h dX5_close_20
  · replace h := if_f h q
    refine r_aload_n hC 0 dX5_close_8 (rfl : 8 + 1 = 9) rfl rfl ?_
    refine r_getr hC t 4 2 (t + 3) (o := 3) fw_X5_18 ty_1 rfl dX5_close_9 (rfl : 9 + 3 = 12) ?_
    refine r_iload_n hC 1 dX5_close_12 (rfl : 12 + 1 = 13) rfl rfl ?_
    refine r_aload_n hC 0 dX5_close_13 (rfl : 13 + 1 = 14) rfl rfl ?_
    refine r_geti hC t 4 3 fw_X5_21 ty_1 dX5_close_14 (rfl : 14 + 3 = 17) ?_
    refine r_iload_n hC 1 dX5_close_17 (rfl : 17 + 1 = 18) rfl rfl ?_
    refine r_isub hC dX5_close_18 (rfl : 18 + 1 = 19) ?_
    obtain ⟨q_4, h⟩ := h
    obtain ⟨σ_5, e_6, h⟩ := lt_nm h
    refine r_iast hC (t + 3) (la4_3 ty_1).1 (by rw [(la4_3 ty_1).2]; exact q_4) e_6 dX5_close_19 (rfl : 19 + 1 = 20) ?_
    exact r_vret hC rfl h dX5_close_20
set_option maxHeartbeats 1000000 in
set_option maxRecDepth 100000 in
theorem mX5_rename {G : Gx} {b k : Nat} {l : Launch} (hS : Sok YC G)  (hk : 1 ≤ k) (t : Nat) (x1 : Int32) (x2 : Int32) (σ : Sg) (Q : Sg → Prop) (h : wX5_rename  t x1 x2 σ Q) : Mv YC G b l yX5_rename cX5_rename 3 k [.ref (G.1 t), .int x1, .int x2] σ Q := by
  refine enter hS (by decide +kernel) (Nat.le_of_ble_eq_true rfl) (lv := [(0, .ref (G.1 t)), (1, .int x1), (2, .int x2)]) rfl (fun K hl hC => ?_)
  subst hl
  unfold wX5_rename at h
  show V YC G K (Zv YC G K Q) 3 σ 0 [(0, .ref (G.1 t)), (1, .int x1), (2, .int x2)] []
  refine r_aload_n hC 0 dX5_rename_0 (rfl : 0 + 1 = 1) rfl rfl ?_
  refine r_iload_n hC 1 dX5_rename_1 (rfl : 1 + 1 = 2) rfl rfl ?_
  obtain ⟨ty_1, h⟩ := h
  refine r_callVi hC cs_X5_54 ty_1 (by omega) (mX5_has hC.2.2.2.2.2.2.2.2.1 (k := k - 1) (by omega) t x1 σ _ h) rfl rfl (Nat.le_of_ble_eq_true rfl) dX5_rename_2 (rfl : 2 + 3 = 5) (fun r_3 σ_2 h => ?_)
  refine r_if_eq hC dX5_rename_5 (rfl : 5 + 3 = 8) (tgt := 34) (by decide) (fun q => ?_) (fun q => ?_)
  · replace h := if_t h q
    exact r_vret hC rfl h dX5_rename_34
  · replace h := if_f h q
    refine r_aload_n hC 0 dX5_rename_8 (rfl : 8 + 1 = 9) rfl rfl ?_
    refine r_getr hC t 4 0 (t + 1) (o := 1) fw_X5_9 ty_1 rfl dX5_rename_9 (rfl : 9 + 3 = 12) ?_
    refine r_iload_n hC 1 dX5_rename_12 (rfl : 12 + 1 = 13) rfl rfl ?_
    refine r_iload_n hC 2 dX5_rename_13 (rfl : 13 + 1 = 14) rfl rfl ?_
    obtain ⟨q_4, h⟩ := h
    obtain ⟨σ_5, e_6, h⟩ := lt_nm h
    refine r_iast hC (t + 1) (la4_1 ty_1).1 (by rw [(la4_1 ty_1).2]; exact q_4) e_6 dX5_rename_14 (rfl : 14 + 1 = 15) ?_
    refine r_aload_n hC 0 dX5_rename_15 (rfl : 15 + 1 = 16) rfl rfl ?_
    refine r_getr hC t 4 1 (t + 2) (o := 2) fw_X5_15 ty_1 rfl dX5_rename_16 (rfl : 16 + 3 = 19) ?_
    refine r_iload_n hC 1 dX5_rename_19 (rfl : 19 + 1 = 20) rfl rfl ?_
    refine r_iconst hC dX5_rename_20 (rfl : 20 + 1 = 21) (v := 0) (by decide) ?_
    obtain ⟨σ_7, e_8, h⟩ := lt_nm h
    refine r_iast hC (t + 2) (la4_2 ty_1).1 (by rw [(la4_2 ty_1).2]; exact q_4) e_8 dX5_rename_21 (rfl : 21 + 1 = 22) ?_
    refine r_aload_n hC 0 dX5_rename_22 (rfl : 22 + 1 = 23) rfl rfl ?_
    refine r_getr hC t 4 2 (t + 3) (o := 3) fw_X5_18 ty_1 rfl dX5_rename_23 (rfl : 23 + 3 = 26) ?_
    refine r_iload_n hC 1 dX5_rename_26 (rfl : 26 + 1 = 27) rfl rfl ?_
    refine r_aload_n hC 0 dX5_rename_27 (rfl : 27 + 1 = 28) rfl rfl ?_
    refine r_geti hC t 4 3 fw_X5_21 ty_1 dX5_rename_28 (rfl : 28 + 3 = 31) ?_
    refine r_iload_n hC 1 dX5_rename_31 (rfl : 31 + 1 = 32) rfl rfl ?_
    refine r_isub hC dX5_rename_32 (rfl : 32 + 1 = 33) ?_
    obtain ⟨σ_9, e_10, h⟩ := lt_nm h
    refine r_iast hC (t + 3) (la4_3 ty_1).1 (by rw [(la4_3 ty_1).2]; exact q_4) e_10 dX5_rename_33 (rfl : 33 + 1 = 34) ?_
    exact r_vret hC rfl h dX5_rename_34
set_option maxHeartbeats 1000000 in
set_option maxRecDepth 100000 in
theorem mX5_insert {G : Gx} {b k : Nat} {l : Launch} (hS : Sok YC G)  (hk : 1 ≤ k) (t : Nat) (x1 : Int32) (x2 : Int32) (x3 : Int32) (σ : Sg) (Q : Sg → Prop) (h : wX5_insert  t x1 x2 x3 σ Q) : Mv YC G b l yX5_insert cX5_insert 4 k [.ref (G.1 t), .int x1, .int x2, .int x3] σ Q := by
  refine enter hS (by decide +kernel) (Nat.le_of_ble_eq_true rfl) (lv := [(0, .ref (G.1 t)), (1, .int x1), (2, .int x2), (3, .int x3)]) rfl (fun K hl hC => ?_)
  subst hl
  unfold wX5_insert at h
  show V YC G K (Zv YC G K Q) 4 σ 0 [(0, .ref (G.1 t)), (1, .int x1), (2, .int x2), (3, .int x3)] []
  refine r_iload_n hC 1 dX5_insert_0 (rfl : 0 + 1 = 1) rfl rfl ?_
  refine r_if_lt hC dX5_insert_1 (rfl : 1 + 3 = 4) (tgt := 22) (by decide) (fun q => ?_) (fun q => ?_)
  · replace h := if_t h q
    exact r_vret hC rfl h dX5_insert_22
  · replace h := if_f h q
    refine r_iload_n hC 1 dX5_insert_4 (rfl : 4 + 1 = 5) rfl rfl ?_
    refine r_aload_n hC 0 dX5_insert_5 (rfl : 5 + 1 = 6) rfl rfl ?_
    obtain ⟨ty_1, h⟩ := h
    refine r_geti hC t 4 3 fw_X5_21 ty_1 dX5_insert_6 (rfl : 6 + 3 = 9) ?_
    refine r_icmp_gt hC dX5_insert_9 (rfl : 9 + 3 = 12) (tgt := 22) (by decide) (fun q => ?_) (fun q => ?_)
    · replace h := if_t h q
      exact r_vret hC rfl h dX5_insert_22
    · replace h := if_f h q
      refine r_aload_n hC 0 dX5_insert_12 (rfl : 12 + 1 = 13) rfl rfl ?_
      refine r_geti hC t 4 3 fw_X5_21 ty_1 dX5_insert_13 (rfl : 13 + 3 = 16) ?_
      refine r_sipush hC dX5_insert_16 (rfl : 16 + 3 = 19) (v := 200) (by decide) ?_
      refine r_icmp_lt hC dX5_insert_19 (rfl : 19 + 3 = 22) (tgt := 23) (by decide) (fun q => ?_) (fun q => ?_)
      · replace h := if_t h q
        refine r_aload_n hC 0 dX5_insert_23 (rfl : 23 + 1 = 24) rfl rfl ?_
        refine r_getr hC t 4 0 (t + 1) (o := 1) fw_X5_9 ty_1 rfl dX5_insert_24 (rfl : 24 + 3 = 27) ?_
        refine r_iload_n hC 1 dX5_insert_27 (rfl : 27 + 1 = 28) rfl rfl ?_
        refine r_aload_n hC 0 dX5_insert_28 (rfl : 28 + 1 = 29) rfl rfl ?_
        refine r_getr hC t 4 0 (t + 1) (o := 1) fw_X5_9 ty_1 rfl dX5_insert_29 (rfl : 29 + 3 = 32) ?_
        refine r_iload_n hC 1 dX5_insert_32 (rfl : 32 + 1 = 33) rfl rfl ?_
        refine r_iconst hC dX5_insert_33 (rfl : 33 + 1 = 34) (v := 1) (by decide) ?_
        refine r_iadd hC dX5_insert_34 (rfl : 34 + 1 = 35) ?_
        refine r_aload_n hC 0 dX5_insert_35 (rfl : 35 + 1 = 36) rfl rfl ?_
        refine r_geti hC t 4 3 fw_X5_21 ty_1 dX5_insert_36 (rfl : 36 + 3 = 39) ?_
        refine r_iload_n hC 1 dX5_insert_39 (rfl : 39 + 1 = 40) rfl rfl ?_
        refine r_isub hC dX5_insert_40 (rfl : 40 + 1 = 41) ?_
        obtain ⟨q_2, h⟩ := h
        obtain ⟨σ_3, e_4, h⟩ := lt_nm h
        refine r_copy hC (t + 1) (t + 1) cs_X5_35 (by omega) (Nat.le_of_ble_eq_true rfl) (la4_1 ty_1).1 (la4_1 ty_1).1 (by first | (rw [(la4_1 ty_1).2, (la4_1 ty_1).2]; exact q_2) | (rw [(la4_1 ty_1).2]; exact q_2)) e_4 dX5_insert_41 (rfl : 41 + 3 = 44) ?_
        refine r_aload_n hC 0 dX5_insert_44 (rfl : 44 + 1 = 45) rfl rfl ?_
        refine r_getr hC t 4 1 (t + 2) (o := 2) fw_X5_15 ty_1 rfl dX5_insert_45 (rfl : 45 + 3 = 48) ?_
        refine r_iload_n hC 1 dX5_insert_48 (rfl : 48 + 1 = 49) rfl rfl ?_
        refine r_aload_n hC 0 dX5_insert_49 (rfl : 49 + 1 = 50) rfl rfl ?_
        refine r_getr hC t 4 1 (t + 2) (o := 2) fw_X5_15 ty_1 rfl dX5_insert_50 (rfl : 50 + 3 = 53) ?_
        refine r_iload_n hC 1 dX5_insert_53 (rfl : 53 + 1 = 54) rfl rfl ?_
        refine r_iconst hC dX5_insert_54 (rfl : 54 + 1 = 55) (v := 1) (by decide) ?_
        refine r_iadd hC dX5_insert_55 (rfl : 55 + 1 = 56) ?_
        refine r_aload_n hC 0 dX5_insert_56 (rfl : 56 + 1 = 57) rfl rfl ?_
        refine r_geti hC t 4 3 fw_X5_21 ty_1 dX5_insert_57 (rfl : 57 + 3 = 60) ?_
        refine r_iload_n hC 1 dX5_insert_60 (rfl : 60 + 1 = 61) rfl rfl ?_
        refine r_isub hC dX5_insert_61 (rfl : 61 + 1 = 62) ?_
        obtain ⟨q_5, h⟩ := h
        obtain ⟨σ_6, e_7, h⟩ := lt_nm h
        refine r_copy hC (t + 2) (t + 2) cs_X5_35 (by omega) (Nat.le_of_ble_eq_true rfl) (la4_2 ty_1).1 (la4_2 ty_1).1 (by first | (rw [(la4_2 ty_1).2, (la4_2 ty_1).2]; exact q_5) | (rw [(la4_2 ty_1).2]; exact q_5)) e_7 dX5_insert_62 (rfl : 62 + 3 = 65) ?_
        refine r_aload_n hC 0 dX5_insert_65 (rfl : 65 + 1 = 66) rfl rfl ?_
        refine r_getr hC t 4 2 (t + 3) (o := 3) fw_X5_18 ty_1 rfl dX5_insert_66 (rfl : 66 + 3 = 69) ?_
        refine r_iload_n hC 1 dX5_insert_69 (rfl : 69 + 1 = 70) rfl rfl ?_
        refine r_aload_n hC 0 dX5_insert_70 (rfl : 70 + 1 = 71) rfl rfl ?_
        refine r_getr hC t 4 2 (t + 3) (o := 3) fw_X5_18 ty_1 rfl dX5_insert_71 (rfl : 71 + 3 = 74) ?_
        refine r_iload_n hC 1 dX5_insert_74 (rfl : 74 + 1 = 75) rfl rfl ?_
        refine r_iconst hC dX5_insert_75 (rfl : 75 + 1 = 76) (v := 1) (by decide) ?_
        refine r_iadd hC dX5_insert_76 (rfl : 76 + 1 = 77) ?_
        refine r_aload_n hC 0 dX5_insert_77 (rfl : 77 + 1 = 78) rfl rfl ?_
        refine r_geti hC t 4 3 fw_X5_21 ty_1 dX5_insert_78 (rfl : 78 + 3 = 81) ?_
        refine r_iload_n hC 1 dX5_insert_81 (rfl : 81 + 1 = 82) rfl rfl ?_
        refine r_isub hC dX5_insert_82 (rfl : 82 + 1 = 83) ?_
        obtain ⟨q_8, h⟩ := h
        obtain ⟨σ_9, e_10, h⟩ := lt_nm h
        refine r_copy hC (t + 3) (t + 3) cs_X5_35 (by omega) (Nat.le_of_ble_eq_true rfl) (la4_3 ty_1).1 (la4_3 ty_1).1 (by first | (rw [(la4_3 ty_1).2, (la4_3 ty_1).2]; exact q_8) | (rw [(la4_3 ty_1).2]; exact q_8)) e_10 dX5_insert_83 (rfl : 83 + 3 = 86) ?_
        refine r_aload_n hC 0 dX5_insert_86 (rfl : 86 + 1 = 87) rfl rfl ?_
        refine r_dup hC dX5_insert_87 (rfl : 87 + 1 = 88) rfl ?_
        refine r_geti hC t 4 3 fw_X5_21 ty_1 dX5_insert_88 (rfl : 88 + 3 = 91) ?_
        refine r_iconst hC dX5_insert_91 (rfl : 91 + 1 = 92) (v := 1) (by decide) ?_
        refine r_iadd hC dX5_insert_92 (rfl : 92 + 1 = 93) ?_
        obtain ⟨σ_11, e_12, h⟩ := lt_nm h
        refine r_puti hC t 4 3 fw_X5_21 fp_5_3 ty_1 e_12 dX5_insert_93 (rfl : 93 + 3 = 96) ?_
        refine r_aload_n hC 0 dX5_insert_96 (rfl : 96 + 1 = 97) rfl rfl ?_
        refine r_getr hC t 4 0 (t + 1) (o := 1) fw_X5_9 ty_1 rfl dX5_insert_97 (rfl : 97 + 3 = 100) ?_
        refine r_iload_n hC 1 dX5_insert_100 (rfl : 100 + 1 = 101) rfl rfl ?_
        refine r_iload_n hC 2 dX5_insert_101 (rfl : 101 + 1 = 102) rfl rfl ?_
        obtain ⟨q_13, h⟩ := h
        obtain ⟨σ_14, e_15, h⟩ := lt_nm h
        refine r_iast hC (t + 1) (la4_1 ty_1).1 (by rw [(la4_1 ty_1).2]; exact q_13) e_15 dX5_insert_102 (rfl : 102 + 1 = 103) ?_
        refine r_aload_n hC 0 dX5_insert_103 (rfl : 103 + 1 = 104) rfl rfl ?_
        refine r_getr hC t 4 1 (t + 2) (o := 2) fw_X5_15 ty_1 rfl dX5_insert_104 (rfl : 104 + 3 = 107) ?_
        refine r_iload_n hC 1 dX5_insert_107 (rfl : 107 + 1 = 108) rfl rfl ?_
        refine r_iload_n hC 3 dX5_insert_108 (rfl : 108 + 1 = 109) rfl rfl ?_
        obtain ⟨σ_16, e_17, h⟩ := lt_nm h
        refine r_iast hC (t + 2) (la4_2 ty_1).1 (by rw [(la4_2 ty_1).2]; exact q_13) e_17 dX5_insert_109 (rfl : 109 + 1 = 110) ?_
        refine r_aload_n hC 0 dX5_insert_110 (rfl : 110 + 1 = 111) rfl rfl ?_
        refine r_getr hC t 4 2 (t + 3) (o := 3) fw_X5_18 ty_1 rfl dX5_insert_111 (rfl : 111 + 3 = 114) ?_
        refine r_iload_n hC 1 dX5_insert_114 (rfl : 114 + 1 = 115) rfl rfl ?_
        refine r_aload_n hC 0 dX5_insert_115 (rfl : 115 + 1 = 116) rfl rfl ?_
        refine r_geti hC t 4 3 fw_X5_21 ty_1 dX5_insert_116 (rfl : 116 + 3 = 119) ?_
        refine r_iload_n hC 1 dX5_insert_119 (rfl : 119 + 1 = 120) rfl rfl ?_
        refine r_isub hC dX5_insert_120 (rfl : 120 + 1 = 121) ?_
        obtain ⟨σ_18, e_19, h⟩ := lt_nm h
        refine r_iast hC (t + 3) (la4_3 ty_1).1 (by rw [(la4_3 ty_1).2]; exact q_13) e_19 dX5_insert_121 (rfl : 121 + 1 = 122) ?_
        exact r_vret hC rfl h dX5_insert_122
      · replace h := if_f h q
        exact r_vret hC rfl h dX5_insert_22
set_option maxHeartbeats 1000000 in
set_option maxRecDepth 100000 in
theorem mX5_cut {G : Gx} {b k : Nat} {l : Launch} (hS : Sok YC G)  (hk : 1 ≤ k) (t : Nat) (x1 : Int32) (x2 : Int32) (σ : Sg) (Q : Sg → Prop) (h : wX5_cut  t x1 x2 σ Q) : Mv YC G b l yX5_cut cX5_cut 4 k [.ref (G.1 t), .int x1, .int x2] σ Q := by
  refine enter hS (by decide +kernel) (Nat.le_of_ble_eq_true rfl) (lv := [(0, .ref (G.1 t)), (1, .int x1), (2, .int x2)]) rfl (fun K hl hC => ?_)
  subst hl
  unfold wX5_cut at h
  show V YC G K (Zv YC G K Q) 4 σ 0 [(0, .ref (G.1 t)), (1, .int x1), (2, .int x2)] []
  refine r_iload_n hC 1 dX5_cut_0 (rfl : 0 + 1 = 1) rfl rfl ?_
  refine r_if_lt hC dX5_cut_1 (rfl : 1 + 3 = 4) (tgt := 18) (by decide) (fun q => ?_) (fun q => ?_)
  · replace h := if_t h q
    exact r_vret hC rfl h dX5_cut_18
  · replace h := if_f h q
    refine r_iload_n hC 2 dX5_cut_4 (rfl : 4 + 1 = 5) rfl rfl ?_
    refine r_if_lt hC dX5_cut_5 (rfl : 5 + 3 = 8) (tgt := 18) (by decide) (fun q => ?_) (fun q => ?_)
    · replace h := if_t h q
      exact r_vret hC rfl h dX5_cut_18
    · replace h := if_f h q
      refine r_iload_n hC 1 dX5_cut_8 (rfl : 8 + 1 = 9) rfl rfl ?_
      refine r_aload_n hC 0 dX5_cut_9 (rfl : 9 + 1 = 10) rfl rfl ?_
      obtain ⟨ty_1, h⟩ := h
      refine r_geti hC t 4 3 fw_X5_21 ty_1 dX5_cut_10 (rfl : 10 + 3 = 13) ?_
      refine r_iload_n hC 2 dX5_cut_13 (rfl : 13 + 1 = 14) rfl rfl ?_
      refine r_isub hC dX5_cut_14 (rfl : 14 + 1 = 15) ?_
      refine r_icmp_le hC dX5_cut_15 (rfl : 15 + 3 = 18) (tgt := 19) (by decide) (fun q => ?_) (fun q => ?_)
      · replace h := if_t h q
        refine r_iload_n hC 1 dX5_cut_19 (rfl : 19 + 1 = 20) rfl rfl ?_
        refine r_iload_n hC 2 dX5_cut_20 (rfl : 20 + 1 = 21) rfl rfl ?_
        refine r_iadd hC dX5_cut_21 (rfl : 21 + 1 = 22) ?_
        obtain ⟨x3_2, e_3, h⟩ := lt_nm h
        refine r_istore_n hC dX5_cut_22 (rfl : 22 + 1 = 23) rfl (by decide) e_3 (lv2 := [(3, .int x3_2), (0, .ref (G.1 t)), (1, .int x1), (2, .int x2)]) rfl ?_
        refine r_aload_n hC 1 dX5_cut_23 (rfl : 23 + 1 = 24) rfl rfl ?_
        refine r_getr hC t 4 0 (t + 1) (o := 1) fw_X5_9 ty_1 rfl dX5_cut_24 (rfl : 24 + 3 = 27) ?_
        refine r_iload_n hC 0 dX5_cut_27 (rfl : 27 + 1 = 28) rfl rfl ?_
        refine r_aload_n hC 1 dX5_cut_28 (rfl : 28 + 1 = 29) rfl rfl ?_
        refine r_getr hC t 4 0 (t + 1) (o := 1) fw_X5_9 ty_1 rfl dX5_cut_29 (rfl : 29 + 3 = 32) ?_
        refine r_iload_n hC 2 dX5_cut_32 (rfl : 32 + 1 = 33) rfl rfl ?_
        refine r_aload_n hC 1 dX5_cut_33 (rfl : 33 + 1 = 34) rfl rfl ?_
        refine r_geti hC t 4 3 fw_X5_21 ty_1 dX5_cut_34 (rfl : 34 + 3 = 37) ?_
        refine r_iload_n hC 0 dX5_cut_37 (rfl : 37 + 1 = 38) rfl rfl ?_
        refine r_isub hC dX5_cut_38 (rfl : 38 + 1 = 39) ?_
        obtain ⟨q_4, h⟩ := h
        obtain ⟨σ_5, e_6, h⟩ := lt_nm h
        refine r_copy hC (t + 1) (t + 1) cs_X5_35 (by omega) (Nat.le_of_ble_eq_true rfl) (la4_1 ty_1).1 (la4_1 ty_1).1 (by first | (rw [(la4_1 ty_1).2, (la4_1 ty_1).2]; exact q_4) | (rw [(la4_1 ty_1).2]; exact q_4)) e_6 dX5_cut_39 (rfl : 39 + 3 = 42) ?_
        refine r_aload_n hC 1 dX5_cut_42 (rfl : 42 + 1 = 43) rfl rfl ?_
        refine r_getr hC t 4 1 (t + 2) (o := 2) fw_X5_15 ty_1 rfl dX5_cut_43 (rfl : 43 + 3 = 46) ?_
        refine r_iload_n hC 0 dX5_cut_46 (rfl : 46 + 1 = 47) rfl rfl ?_
        refine r_aload_n hC 1 dX5_cut_47 (rfl : 47 + 1 = 48) rfl rfl ?_
        refine r_getr hC t 4 1 (t + 2) (o := 2) fw_X5_15 ty_1 rfl dX5_cut_48 (rfl : 48 + 3 = 51) ?_
        refine r_iload_n hC 2 dX5_cut_51 (rfl : 51 + 1 = 52) rfl rfl ?_
        refine r_aload_n hC 1 dX5_cut_52 (rfl : 52 + 1 = 53) rfl rfl ?_
        refine r_geti hC t 4 3 fw_X5_21 ty_1 dX5_cut_53 (rfl : 53 + 3 = 56) ?_
        refine r_iload_n hC 0 dX5_cut_56 (rfl : 56 + 1 = 57) rfl rfl ?_
        refine r_isub hC dX5_cut_57 (rfl : 57 + 1 = 58) ?_
        obtain ⟨q_7, h⟩ := h
        obtain ⟨σ_8, e_9, h⟩ := lt_nm h
        refine r_copy hC (t + 2) (t + 2) cs_X5_35 (by omega) (Nat.le_of_ble_eq_true rfl) (la4_2 ty_1).1 (la4_2 ty_1).1 (by first | (rw [(la4_2 ty_1).2, (la4_2 ty_1).2]; exact q_7) | (rw [(la4_2 ty_1).2]; exact q_7)) e_9 dX5_cut_58 (rfl : 58 + 3 = 61) ?_
        refine r_aload_n hC 1 dX5_cut_61 (rfl : 61 + 1 = 62) rfl rfl ?_
        refine r_getr hC t 4 2 (t + 3) (o := 3) fw_X5_18 ty_1 rfl dX5_cut_62 (rfl : 62 + 3 = 65) ?_
        refine r_iload_n hC 0 dX5_cut_65 (rfl : 65 + 1 = 66) rfl rfl ?_
        refine r_aload_n hC 1 dX5_cut_66 (rfl : 66 + 1 = 67) rfl rfl ?_
        refine r_getr hC t 4 2 (t + 3) (o := 3) fw_X5_18 ty_1 rfl dX5_cut_67 (rfl : 67 + 3 = 70) ?_
        refine r_iload_n hC 2 dX5_cut_70 (rfl : 70 + 1 = 71) rfl rfl ?_
        refine r_aload_n hC 1 dX5_cut_71 (rfl : 71 + 1 = 72) rfl rfl ?_
        refine r_geti hC t 4 3 fw_X5_21 ty_1 dX5_cut_72 (rfl : 72 + 3 = 75) ?_
        refine r_iload_n hC 0 dX5_cut_75 (rfl : 75 + 1 = 76) rfl rfl ?_
        refine r_isub hC dX5_cut_76 (rfl : 76 + 1 = 77) ?_
        obtain ⟨q_10, h⟩ := h
        obtain ⟨σ_11, e_12, h⟩ := lt_nm h
        refine r_copy hC (t + 3) (t + 3) cs_X5_35 (by omega) (Nat.le_of_ble_eq_true rfl) (la4_3 ty_1).1 (la4_3 ty_1).1 (by first | (rw [(la4_3 ty_1).2, (la4_3 ty_1).2]; exact q_10) | (rw [(la4_3 ty_1).2]; exact q_10)) e_12 dX5_cut_77 (rfl : 77 + 3 = 80) ?_
        refine r_aload_n hC 1 dX5_cut_80 (rfl : 80 + 1 = 81) rfl rfl ?_
        refine r_dup hC dX5_cut_81 (rfl : 81 + 1 = 82) rfl ?_
        refine r_geti hC t 4 3 fw_X5_21 ty_1 dX5_cut_82 (rfl : 82 + 3 = 85) ?_
        refine r_iload_n hC 3 dX5_cut_85 (rfl : 85 + 1 = 86) rfl rfl ?_
        refine r_isub hC dX5_cut_86 (rfl : 86 + 1 = 87) ?_
        obtain ⟨σ_13, e_14, h⟩ := lt_nm h
        refine r_puti hC t 4 3 fw_X5_21 fp_5_3 ty_1 e_14 dX5_cut_87 (rfl : 87 + 3 = 90) ?_
        exact r_vret hC rfl h dX5_cut_90
      · replace h := if_f h q
        exact r_vret hC rfl h dX5_cut_18
set_option maxHeartbeats 1000000 in
set_option maxRecDepth 100000 in
theorem mX5_endAsNumber {G : Gx} {b k : Nat} {l : Launch} (hS : Sok YC G)  (hk : 1 ≤ k) (t : Nat) (x1 : Int32) (x2 : Int32) (σ : Sg) (Q : Sg → Prop) (h : wX5_endAsNumber  t x1 x2 σ Q) : Mv YC G b l yX5_endAsNumber cX5_endAsNumber 3 k [.ref (G.1 t), .int x1, .int x2] σ Q := by
  refine enter hS (by decide +kernel) (Nat.le_of_ble_eq_true rfl) (lv := [(0, .ref (G.1 t)), (1, .int x1), (2, .int x2)]) rfl (fun K hl hC => ?_)
  subst hl
  unfold wX5_endAsNumber at h
  show V YC G K (Zv YC G K Q) 3 σ 0 [(0, .ref (G.1 t)), (1, .int x1), (2, .int x2)] []
  refine r_aload_n hC 0 dX5_endAsNumber_0 (rfl : 0 + 1 = 1) rfl rfl ?_
  refine r_iload_n hC 1 dX5_endAsNumber_1 (rfl : 1 + 1 = 2) rfl rfl ?_
  obtain ⟨ty_1, h⟩ := h
  refine r_callVi hC cs_X5_54 ty_1 (by omega) (mX5_has hC.2.2.2.2.2.2.2.2.1 (k := k - 1) (by omega) t x1 σ _ h) rfl rfl (Nat.le_of_ble_eq_true rfl) dX5_endAsNumber_2 (rfl : 2 + 3 = 5) (fun r_3 σ_2 h => ?_)
  refine r_if_eq hC dX5_endAsNumber_5 (rfl : 5 + 3 = 8) (tgt := 19) (by decide) (fun q => ?_) (fun q => ?_)
  · replace h := if_t h q
    exact r_vret hC rfl h dX5_endAsNumber_19
  · replace h := if_f h q
    refine r_aload_n hC 0 dX5_endAsNumber_8 (rfl : 8 + 1 = 9) rfl rfl ?_
    refine r_iload_n hC 1 dX5_endAsNumber_9 (rfl : 9 + 1 = 10) rfl rfl ?_
    obtain ⟨σ_4, e_5, h⟩ := lt_nm h
    refine r_puti hC t 4 3 fw_X5_21 fp_5_3 ty_1 e_5 dX5_endAsNumber_10 (rfl : 10 + 3 = 13) ?_
    refine r_aload_n hC 0 dX5_endAsNumber_13 (rfl : 13 + 1 = 14) rfl rfl ?_
    refine r_iconst hC dX5_endAsNumber_14 (rfl : 14 + 1 = 15) (v := 0) (by decide) ?_
    refine r_iload_n hC 2 dX5_endAsNumber_15 (rfl : 15 + 1 = 16) rfl rfl ?_
    refine r_callVv hC cs_X5_58 ty_1 (by omega) (mX5_append hC.2.2.2.2.2.2.2.2.1 (k := k - 1) (by omega) t 0 x2 σ_4 _ h) rfl rfl (Nat.le_of_ble_eq_true rfl) dX5_endAsNumber_16 (rfl : 16 + 3 = 19) (fun  σ_6 h => ?_)
    exact r_vret hC rfl h dX5_endAsNumber_19
set_option maxHeartbeats 1000000 in
set_option maxRecDepth 100000 in
theorem mX5_endAsPart {G : Gx} {b k : Nat} {l : Launch} (hS : Sok YC G)  (hk : 1 ≤ k) (t : Nat) (x1 : Int32) (x2 : Int32) (σ : Sg) (Q : Sg → Prop) (h : wX5_endAsPart  t x1 x2 σ Q) : Mv YC G b l yX5_endAsPart cX5_endAsPart 4 k [.ref (G.1 t), .int x1, .int x2] σ Q := by
  refine enter hS (by decide +kernel) (Nat.le_of_ble_eq_true rfl) (lv := [(0, .ref (G.1 t)), (1, .int x1), (2, .int x2)]) rfl (fun K hl hC => ?_)
  subst hl
  unfold wX5_endAsPart at h
  show V YC G K (Zv YC G K Q) 4 σ 0 [(0, .ref (G.1 t)), (1, .int x1), (2, .int x2)] []
  refine r_iload_n hC 1 dX5_endAsPart_0 (rfl : 0 + 1 = 1) rfl rfl ?_
  refine r_if_lt hC dX5_endAsPart_1 (rfl : 1 + 3 = 4) (tgt := 17) (by decide) (fun q => ?_) (fun q => ?_)
  · replace h := if_t h q
    exact r_vret hC rfl h dX5_endAsPart_17
  · replace h := if_f h q
    refine r_iload_n hC 2 dX5_endAsPart_4 (rfl : 4 + 1 = 5) rfl rfl ?_
    refine r_iload_n hC 1 dX5_endAsPart_5 (rfl : 5 + 1 = 6) rfl rfl ?_
    refine r_icmp_lt hC dX5_endAsPart_6 (rfl : 6 + 3 = 9) (tgt := 17) (by decide) (fun q => ?_) (fun q => ?_)
    · replace h := if_t h q
      exact r_vret hC rfl h dX5_endAsPart_17
    · replace h := if_f h q
      refine r_iload_n hC 2 dX5_endAsPart_9 (rfl : 9 + 1 = 10) rfl rfl ?_
      refine r_aload_n hC 0 dX5_endAsPart_10 (rfl : 10 + 1 = 11) rfl rfl ?_
      obtain ⟨ty_1, h⟩ := h
      refine r_geti hC t 4 3 fw_X5_21 ty_1 dX5_endAsPart_11 (rfl : 11 + 3 = 14) ?_
      refine r_icmp_lt hC dX5_endAsPart_14 (rfl : 14 + 3 = 17) (tgt := 18) (by decide) (fun q => ?_) (fun q => ?_)
      · replace h := if_t h q
        refine r_aload_n hC 0 dX5_endAsPart_18 (rfl : 18 + 1 = 19) rfl rfl ?_
        refine r_getr hC t 4 2 (t + 3) (o := 3) fw_X5_18 ty_1 rfl dX5_endAsPart_19 (rfl : 19 + 3 = 22) ?_
        refine r_iload_n hC 2 dX5_endAsPart_22 (rfl : 22 + 1 = 23) rfl rfl ?_
        obtain ⟨q_2, h⟩ := h
        refine r_iald hC (t + 3) (la4_3 ty_1).1 (by rw [(la4_3 ty_1).2]; exact q_2) dX5_endAsPart_23 (rfl : 23 + 1 = 24) ?_
        refine r_aload_n hC 0 dX5_endAsPart_24 (rfl : 24 + 1 = 25) rfl rfl ?_
        refine r_geti hC t 4 3 fw_X5_21 ty_1 dX5_endAsPart_25 (rfl : 25 + 3 = 28) ?_
        refine r_iload_n hC 2 dX5_endAsPart_28 (rfl : 28 + 1 = 29) rfl rfl ?_
        refine r_isub hC dX5_endAsPart_29 (rfl : 29 + 1 = 30) ?_
        refine r_mmin hC cs_X5_62 (by omega) (Nat.le_of_ble_eq_true rfl) dX5_endAsPart_30 (rfl : 30 + 3 = 33) ?_
        obtain ⟨x3_3, e_4, h⟩ := lt_nm h
        refine r_istore_n hC dX5_endAsPart_33 (rfl : 33 + 1 = 34) rfl (by decide) e_4 (lv2 := [(3, .int x3_3), (0, .ref (G.1 t)), (1, .int x1), (2, .int x2)]) rfl ?_
        refine r_aload_n hC 1 dX5_endAsPart_34 (rfl : 34 + 1 = 35) rfl rfl ?_
        refine r_getr hC t 4 0 (t + 1) (o := 1) fw_X5_9 ty_1 rfl dX5_endAsPart_35 (rfl : 35 + 3 = 38) ?_
        refine r_iload_n hC 3 dX5_endAsPart_38 (rfl : 38 + 1 = 39) rfl rfl ?_
        refine r_aload_n hC 1 dX5_endAsPart_39 (rfl : 39 + 1 = 40) rfl rfl ?_
        refine r_getr hC t 4 0 (t + 1) (o := 1) fw_X5_9 ty_1 rfl dX5_endAsPart_40 (rfl : 40 + 3 = 43) ?_
        refine r_iload_n hC 2 dX5_endAsPart_43 (rfl : 43 + 1 = 44) rfl rfl ?_
        refine r_iload_n hC 0 dX5_endAsPart_44 (rfl : 44 + 1 = 45) rfl rfl ?_
        obtain ⟨q_5, h⟩ := h
        obtain ⟨σ_6, e_7, h⟩ := lt_nm h
        refine r_copy hC (t + 1) (t + 1) cs_X5_35 (by omega) (Nat.le_of_ble_eq_true rfl) (la4_1 ty_1).1 (la4_1 ty_1).1 (by first | (rw [(la4_1 ty_1).2, (la4_1 ty_1).2]; exact q_5) | (rw [(la4_1 ty_1).2]; exact q_5)) e_7 dX5_endAsPart_45 (rfl : 45 + 3 = 48) ?_
        refine r_aload_n hC 1 dX5_endAsPart_48 (rfl : 48 + 1 = 49) rfl rfl ?_
        refine r_getr hC t 4 1 (t + 2) (o := 2) fw_X5_15 ty_1 rfl dX5_endAsPart_49 (rfl : 49 + 3 = 52) ?_
        refine r_iload_n hC 3 dX5_endAsPart_52 (rfl : 52 + 1 = 53) rfl rfl ?_
        refine r_aload_n hC 1 dX5_endAsPart_53 (rfl : 53 + 1 = 54) rfl rfl ?_
        refine r_getr hC t 4 1 (t + 2) (o := 2) fw_X5_15 ty_1 rfl dX5_endAsPart_54 (rfl : 54 + 3 = 57) ?_
        refine r_iload_n hC 2 dX5_endAsPart_57 (rfl : 57 + 1 = 58) rfl rfl ?_
        refine r_iload_n hC 0 dX5_endAsPart_58 (rfl : 58 + 1 = 59) rfl rfl ?_
        obtain ⟨σ_8, e_9, h⟩ := lt_nm h
        refine r_copy hC (t + 2) (t + 2) cs_X5_35 (by omega) (Nat.le_of_ble_eq_true rfl) (la4_2 ty_1).1 (la4_2 ty_1).1 (by first | (rw [(la4_2 ty_1).2, (la4_2 ty_1).2]; exact q_5) | (rw [(la4_2 ty_1).2]; exact q_5)) e_9 dX5_endAsPart_59 (rfl : 59 + 3 = 62) ?_
        refine r_aload_n hC 1 dX5_endAsPart_62 (rfl : 62 + 1 = 63) rfl rfl ?_
        refine r_getr hC t 4 2 (t + 3) (o := 3) fw_X5_18 ty_1 rfl dX5_endAsPart_63 (rfl : 63 + 3 = 66) ?_
        refine r_iload_n hC 3 dX5_endAsPart_66 (rfl : 66 + 1 = 67) rfl rfl ?_
        refine r_aload_n hC 1 dX5_endAsPart_67 (rfl : 67 + 1 = 68) rfl rfl ?_
        refine r_getr hC t 4 2 (t + 3) (o := 3) fw_X5_18 ty_1 rfl dX5_endAsPart_68 (rfl : 68 + 3 = 71) ?_
        refine r_iload_n hC 2 dX5_endAsPart_71 (rfl : 71 + 1 = 72) rfl rfl ?_
        refine r_iload_n hC 0 dX5_endAsPart_72 (rfl : 72 + 1 = 73) rfl rfl ?_
        obtain ⟨σ_10, e_11, h⟩ := lt_nm h
        refine r_copy hC (t + 3) (t + 3) cs_X5_35 (by omega) (Nat.le_of_ble_eq_true rfl) (la4_3 ty_1).1 (la4_3 ty_1).1 (by first | (rw [(la4_3 ty_1).2, (la4_3 ty_1).2]; exact q_5) | (rw [(la4_3 ty_1).2]; exact q_5)) e_11 dX5_endAsPart_73 (rfl : 73 + 3 = 76) ?_
        refine r_aload_n hC 1 dX5_endAsPart_76 (rfl : 76 + 1 = 77) rfl rfl ?_
        refine r_iload_n hC 2 dX5_endAsPart_77 (rfl : 77 + 1 = 78) rfl rfl ?_
        refine r_iload_n hC 0 dX5_endAsPart_78 (rfl : 78 + 1 = 79) rfl rfl ?_
        refine r_iadd hC dX5_endAsPart_79 (rfl : 79 + 1 = 80) ?_
        obtain ⟨σ_12, e_13, h⟩ := lt_nm h
        refine r_puti hC t 4 3 fw_X5_21 fp_5_3 ty_1 e_13 dX5_endAsPart_80 (rfl : 80 + 3 = 83) ?_
        exact r_vret hC rfl h dX5_endAsPart_83
      · replace h := if_f h q
        exact r_vret hC rfl h dX5_endAsPart_17
set_option maxHeartbeats 1000000 in
set_option maxRecDepth 100000 in
theorem mX7_maker {G : Gx} {b k : Nat} {l : Launch} (hS : Sok YC G)  (hk : 0 ≤ k)  (σ : Sg) (Q : Int32 → Sg → Prop) (h : wX7_maker   σ Q) : Mi YC G b l yX7_maker cX7_maker 1 .int k [.ref (G.1 0)] σ Q := by
  refine enter hS (by decide +kernel) (Nat.le_of_ble_eq_true rfl) (lv := [(0, .ref (G.1 0))]) rfl (fun K hl hC => ?_)
  subst hl
  unfold wX7_maker at h
  show V YC G K (Zi YC G K Q) 1 σ 0 [(0, .ref (G.1 0))] []
  refine r_aload_n hC 0 dX7_maker_0 (rfl : 0 + 1 = 1) rfl rfl ?_
  refine r_geti hC 0 6 10 fw_X7_63 rfl dX7_maker_1 (rfl : 1 + 3 = 4) ?_
  refine r_bipush hC dX7_maker_4 (rfl : 4 + 2 = 6) (v := 8) (by decide) ?_
  refine r_icmp_lt hC dX7_maker_6 (rfl : 6 + 3 = 9) (tgt := 12) (by decide) (fun q => ?_) (fun q => ?_)
  · replace h := if_t h q
    refine r_aload_n hC 0 dX7_maker_12 (rfl : 12 + 1 = 13) rfl rfl ?_
    refine r_dup hC dX7_maker_13 (rfl : 13 + 1 = 14) rfl ?_
    refine r_geti hC 0 6 10 fw_X7_63 rfl dX7_maker_14 (rfl : 14 + 3 = 17) ?_
    refine r_iconst hC dX7_maker_17 (rfl : 17 + 1 = 18) (v := 1) (by decide) ?_
    refine r_iadd hC dX7_maker_18 (rfl : 18 + 1 = 19) ?_
    obtain ⟨σ_1, e_2, h⟩ := lt_nm h
    refine r_puti hC 0 6 10 fw_X7_63 fp_7_10 rfl e_2 dX7_maker_19 (rfl : 19 + 3 = 22) ?_
    refine r_aload_n hC 0 dX7_maker_22 (rfl : 22 + 1 = 23) rfl rfl ?_
    refine r_geti hC 0 6 10 fw_X7_63 rfl dX7_maker_23 (rfl : 23 + 3 = 26) ?_
    refine r_iconst hC dX7_maker_26 (rfl : 26 + 1 = 27) (v := 1) (by decide) ?_
    refine r_isub hC dX7_maker_27 (rfl : 27 + 1 = 28) ?_
    exact r_iret hC rfl h dX7_maker_28
  · replace h := if_f h q
    refine r_bipush hC dX7_maker_9 (rfl : 9 + 2 = 11) (v := -3) (by decide) ?_
    exact r_iret hC rfl h dX7_maker_11
set_option maxHeartbeats 1000000 in
set_option maxRecDepth 100000 in
theorem mX7_steps {G : Gx} {b k : Nat} {l : Launch} (hS : Sok YC G)  (hk : 0 ≤ k)  (σ : Sg) (Q : Int32 → Sg → Prop) (h : wX7_steps   σ Q) : Mi YC G b l yX7_steps cX7_steps 1 .int k [.ref (G.1 0)] σ Q := by
  refine enter hS (by decide +kernel) (Nat.le_of_ble_eq_true rfl) (lv := [(0, .ref (G.1 0))]) rfl (fun K hl hC => ?_)
  subst hl
  unfold wX7_steps at h
  show V YC G K (Zi YC G K Q) 1 σ 0 [(0, .ref (G.1 0))] []
  refine r_aload_n hC 0 dX7_steps_0 (rfl : 0 + 1 = 1) rfl rfl ?_
  refine r_geti hC 0 6 11 fw_X7_67 rfl dX7_steps_1 (rfl : 1 + 3 = 4) ?_
  exact r_iret hC rfl h dX7_steps_4
set_option maxHeartbeats 1000000 in
set_option maxRecDepth 100000 in
theorem mX7_within {G : Gx} {b k : Nat} {l : Launch} (hS : Sok YC G)  (hk : 0 ≤ k) (x0 : Int32) (x1 : Int32) (x2 : Int32) (σ : Sg) (Q : Int32 → Sg → Prop) (h : wX7_within  x0 x1 x2 σ Q) : Mi YC G b l yX7_within cX7_within 3 .boolean k [.int x0, .int x1, .int x2] σ Q := by
  refine enter hS (by decide +kernel) (Nat.le_of_ble_eq_true rfl) (lv := [(0, .int x0), (1, .int x1), (2, .int x2)]) rfl (fun K hl hC => ?_)
  subst hl
  unfold wX7_within at h
  show V YC G K (Zi YC G K Q) 3 σ 0 [(0, .int x0), (1, .int x1), (2, .int x2)] []
  refine r_iload_n hC 0 dX7_within_0 (rfl : 0 + 1 = 1) rfl rfl ?_
  refine r_iload_n hC 1 dX7_within_1 (rfl : 1 + 1 = 2) rfl rfl ?_
  refine r_icmp_lt hC dX7_within_2 (rfl : 2 + 3 = 5) (tgt := 14) (by decide) (fun q => ?_) (fun q => ?_)
  · replace h := if_t h q
    refine r_iconst hC dX7_within_14 (rfl : 14 + 1 = 15) (v := 0) (by decide) ?_
    exact r_zret hC rfl (by decide) h dX7_within_15
  · replace h := if_f h q
    refine r_iload_n hC 0 dX7_within_5 (rfl : 5 + 1 = 6) rfl rfl ?_
    refine r_iload_n hC 2 dX7_within_6 (rfl : 6 + 1 = 7) rfl rfl ?_
    refine r_icmp_gt hC dX7_within_7 (rfl : 7 + 3 = 10) (tgt := 14) (by decide) (fun q => ?_) (fun q => ?_)
    · replace h := if_t h q
      refine r_iconst hC dX7_within_14 (rfl : 14 + 1 = 15) (v := 0) (by decide) ?_
      exact r_zret hC rfl (by decide) h dX7_within_15
    · replace h := if_f h q
      refine r_iconst hC dX7_within_10 (rfl : 10 + 1 = 11) (v := 1) (by decide) ?_
      refine r_goto hC dX7_within_11 (tgt := 15) (by decide) ?_
      exact r_zret hC rfl (by decide) h dX7_within_15
set_option maxHeartbeats 1000000 in
set_option maxRecDepth 100000 in
theorem mX7_partsOf {G : Gx} {b k : Nat} {l : Launch} (hS : Sok YC G)  (hk : 0 ≤ k) (x0 : Int32) (σ : Sg) (Q : Int32 → Sg → Prop) (h : wX7_partsOf  x0 σ Q) : Mi YC G b l yX7_partsOf cX7_partsOf 1 .int k [.int x0] σ Q := by
  refine enter hS (by decide +kernel) (Nat.le_of_ble_eq_true rfl) (lv := [(0, .int x0)]) rfl (fun K hl hC => ?_)
  subst hl
  unfold wX7_partsOf at h
  show V YC G K (Zi YC G K Q) 1 σ 0 [(0, .int x0)] []
  refine r_iload_n hC 0 dX7_partsOf_0 (rfl : 0 + 1 = 1) rfl rfl ?_
  refine r_if_lt hC dX7_partsOf_1 (rfl : 1 + 3 = 4) (tgt := 20) (by decide) (fun q => ?_) (fun q => ?_)
  · replace h := if_t h q
    refine r_iconst hC dX7_partsOf_20 (rfl : 20 + 1 = 21) (v := 0) (by decide) ?_
    exact r_iret hC rfl h dX7_partsOf_21
  · replace h := if_f h q
    refine r_iload_n hC 0 dX7_partsOf_4 (rfl : 4 + 1 = 5) rfl rfl ?_
    refine r_gets hC wd_361 dX7_partsOf_5 (rfl : 5 + 3 = 8) ?_
    refine r_slen hC dX7_partsOf_8 (rfl : 8 + 1 = 9) ?_
    refine r_icmp_ge hC dX7_partsOf_9 (rfl : 9 + 3 = 12) (tgt := 20) (by decide) (fun q => ?_) (fun q => ?_)
    · replace h := if_t h q
      refine r_iconst hC dX7_partsOf_20 (rfl : 20 + 1 = 21) (v := 0) (by decide) ?_
      exact r_iret hC rfl h dX7_partsOf_21
    · replace h := if_f h q
      refine r_gets hC wd_361 dX7_partsOf_12 (rfl : 12 + 3 = 15) ?_
      refine r_iload_n hC 0 dX7_partsOf_15 (rfl : 15 + 1 = 16) rfl rfl ?_
      obtain ⟨q_1, h⟩ := h
      refine r_sld hC q_1 dX7_partsOf_16 (rfl : 16 + 1 = 17) ?_
      refine r_goto hC dX7_partsOf_17 (tgt := 21) (by decide) ?_
      exact r_iret hC rfl h dX7_partsOf_21
set_option maxHeartbeats 1000000 in
set_option maxRecDepth 100000 in
theorem mX7_combine {G : Gx} {b k : Nat} {l : Launch} (hS : Sok YC G)  (hk : 0 ≤ k) (x0 : Int32) (x1 : Int32) (x2 : Int32) (σ : Sg) (Q : Int32 → Sg → Prop) (h : wX7_combine  x0 x1 x2 σ Q) : Mi YC G b l yX7_combine cX7_combine 3 .int k [.int x0, .int x1, .int x2] σ Q := by
  refine enter hS (by decide +kernel) (Nat.le_of_ble_eq_true rfl) (lv := [(0, .int x0), (1, .int x1), (2, .int x2)]) rfl (fun K hl hC => ?_)
  subst hl
  unfold wX7_combine at h
  show V YC G K (Zi YC G K Q) 3 σ 0 [(0, .int x0), (1, .int x1), (2, .int x2)] []
  refine r_iload_n hC 0 dX7_combine_0 (rfl : 0 + 1 = 1) rfl rfl ?_
  by_cases sw4 : x0 = 4
  · replace h := if_t h sw4
    refine r_swIn hC dX7_combine_1 (tgt := 28) (by rw [sw4]; decide) (by rw [sw4]; decide) (by rw [sw4]; rfl) (by decide) ?_
    refine r_iload_n hC 1 dX7_combine_28 (rfl : 28 + 1 = 29) rfl rfl ?_
    refine r_iload_n hC 2 dX7_combine_29 (rfl : 29 + 1 = 30) rfl rfl ?_
    refine r_iadd hC dX7_combine_30 (rfl : 30 + 1 = 31) ?_
    exact r_iret hC rfl h dX7_combine_31
  replace h := if_f h sw4
  by_cases sw5 : x0 = 5
  · replace h := if_t h sw5
    refine r_swIn hC dX7_combine_1 (tgt := 32) (by rw [sw5]; decide) (by rw [sw5]; decide) (by rw [sw5]; rfl) (by decide) ?_
    refine r_iload_n hC 1 dX7_combine_32 (rfl : 32 + 1 = 33) rfl rfl ?_
    refine r_iload_n hC 2 dX7_combine_33 (rfl : 33 + 1 = 34) rfl rfl ?_
    refine r_isub hC dX7_combine_34 (rfl : 34 + 1 = 35) ?_
    exact r_iret hC rfl h dX7_combine_35
  replace h := if_f h sw5
  by_cases sw6 : x0 = 6
  · replace h := if_t h sw6
    refine r_swIn hC dX7_combine_1 (tgt := 36) (by rw [sw6]; decide) (by rw [sw6]; decide) (by rw [sw6]; rfl) (by decide) ?_
    refine r_iload_n hC 1 dX7_combine_36 (rfl : 36 + 1 = 37) rfl rfl ?_
    refine r_iload_n hC 2 dX7_combine_37 (rfl : 37 + 1 = 38) rfl rfl ?_
    refine r_imul hC dX7_combine_38 (rfl : 38 + 1 = 39) ?_
    exact r_iret hC rfl h dX7_combine_39
  replace h := if_f h sw6
  refine r_swOut hC dX7_combine_1 (tgt := 40) (sw_out 4 6 (by decide) (fun j h1 h2 => by rcases (show j = 4 ∨ j = 5 ∨ j = 6 by omega) with rfl | rfl | rfl <;> assumption)) (by decide) ?_
  refine r_iload_n hC 2 dX7_combine_40 (rfl : 40 + 1 = 41) rfl rfl ?_
  refine r_if_ne hC dX7_combine_41 (rfl : 41 + 3 = 44) (tgt := 48) (by decide) (fun q => ?_) (fun q => ?_)
  · replace h := if_f h q
    refine r_iload_n hC 1 dX7_combine_48 (rfl : 48 + 1 = 49) rfl rfl ?_
    refine r_iload_n hC 2 dX7_combine_49 (rfl : 49 + 1 = 50) rfl rfl ?_
    obtain ⟨q_1, h⟩ := h
    refine r_idiv hC dX7_combine_50 (rfl : 50 + 1 = 51) q_1 ?_
    exact r_iret hC rfl h dX7_combine_51
  · replace h := if_t h q
    refine r_iconst hC dX7_combine_44 (rfl : 44 + 1 = 45) (v := 0) (by decide) ?_
    refine r_goto hC dX7_combine_45 (tgt := 51) (by decide) ?_
    exact r_iret hC rfl h dX7_combine_51
set_option maxHeartbeats 1000000 in
set_option maxRecDepth 100000 in
theorem mX7_tell {G : Gx} {b k : Nat} {l : Launch} (hS : Sok YC G)  (hk : 1 ≤ k) (q0 : Nat) (x1 : Int32) (x2 : Int32) (σ : Sg) (Q : Int32 → Sg → Prop) (h : wX7_tell  q0 x1 x2 σ Q) : Mi YC G b l yX7_tell cX7_tell 3 .int k [.ref (G.1 q0), .int x1, .int x2] σ Q := by
  refine enter hS (by decide +kernel) (Nat.le_of_ble_eq_true rfl) (lv := [(0, .ref (G.1 q0)), (1, .int x1), (2, .int x2)]) rfl (fun K hl hC => ?_)
  subst hl
  unfold wX7_tell at h
  show V YC G K (Zi YC G K Q) 3 σ 0 [(0, .ref (G.1 q0)), (1, .int x1), (2, .int x2)] []
  refine r_aload_n hC 0 dX7_tell_0 (rfl : 0 + 1 = 1) rfl rfl ?_
  refine r_iload_n hC 1 dX7_tell_1 (rfl : 1 + 1 = 2) rfl rfl ?_
  obtain ⟨ty_1, h⟩ := h
  refine r_callVi hC cs_X7_149 ty_1 (by omega) (mX5_has hC.2.2.2.2.2.2.2.2.1 (k := k - 1) (by omega) q0 x1 σ _ h) rfl rfl (Nat.le_of_ble_eq_true rfl) dX7_tell_2 (rfl : 2 + 3 = 5) (fun r_3 σ_2 h => ?_)
  refine r_if_ne hC dX7_tell_5 (rfl : 5 + 3 = 8) (tgt := 11) (by decide) (fun q => ?_) (fun q => ?_)
  · replace h := if_f h q
    refine r_iload_n hC 2 dX7_tell_11 (rfl : 11 + 1 = 12) rfl rfl ?_
    by_cases sw0 : x2 = 0
    · replace h := if_t h sw0
      refine r_swIn hC dX7_tell_12 (tgt := 40) (by rw [sw0]; decide) (by rw [sw0]; decide) (by rw [sw0]; rfl) (by decide) ?_
      refine r_aload_n hC 0 dX7_tell_40 (rfl : 40 + 1 = 41) rfl rfl ?_
      refine r_iload_n hC 1 dX7_tell_41 (rfl : 41 + 1 = 42) rfl rfl ?_
      refine r_callVi hC cs_X7_231 ty_1 (by omega) (mX5_kindOf hC.2.2.2.2.2.2.2.2.1 (k := k - 1) (by omega) q0 x1 σ_2 _ h) rfl rfl (Nat.le_of_ble_eq_true rfl) dX7_tell_42 (rfl : 42 + 3 = 45) (fun r_5 σ_4 h => ?_)
      exact r_iret hC rfl h dX7_tell_45
    replace h := if_f h sw0
    by_cases sw1 : x2 = 1
    · replace h := if_t h sw1
      refine r_swIn hC dX7_tell_12 (tgt := 46) (by rw [sw1]; decide) (by rw [sw1]; decide) (by rw [sw1]; rfl) (by decide) ?_
      refine r_aload_n hC 0 dX7_tell_46 (rfl : 46 + 1 = 47) rfl rfl ?_
      refine r_iload_n hC 1 dX7_tell_47 (rfl : 47 + 1 = 48) rfl rfl ?_
      refine r_callVi hC cs_X7_234 ty_1 (by omega) (mX5_numberOf hC.2.2.2.2.2.2.2.2.1 (k := k - 1) (by omega) q0 x1 σ_2 _ h) rfl rfl (Nat.le_of_ble_eq_true rfl) dX7_tell_48 (rfl : 48 + 3 = 51) (fun r_7 σ_6 h => ?_)
      exact r_iret hC rfl h dX7_tell_51
    replace h := if_f h sw1
    by_cases sw2 : x2 = 2
    · replace h := if_t h sw2
      refine r_swIn hC dX7_tell_12 (tgt := 52) (by rw [sw2]; decide) (by rw [sw2]; decide) (by rw [sw2]; rfl) (by decide) ?_
      refine r_aload_n hC 0 dX7_tell_52 (rfl : 52 + 1 = 53) rfl rfl ?_
      refine r_iload_n hC 1 dX7_tell_53 (rfl : 53 + 1 = 54) rfl rfl ?_
      refine r_callVi hC cs_X7_153 ty_1 (by omega) (mX5_sizeOf hC.2.2.2.2.2.2.2.2.1 (k := k - 1) (by omega) q0 x1 σ_2 _ h) rfl rfl (Nat.le_of_ble_eq_true rfl) dX7_tell_54 (rfl : 54 + 3 = 57) (fun r_9 σ_8 h => ?_)
      exact r_iret hC rfl h dX7_tell_57
    replace h := if_f h sw2
    refine r_swOut hC dX7_tell_12 (tgt := 58) (sw_out 0 2 (by decide) (fun j h1 h2 => by rcases (show j = 0 ∨ j = 1 ∨ j = 2 by omega) with rfl | rfl | rfl <;> assumption)) (by decide) ?_
    refine r_ldc hC dX7_tell_58 (rfl : 58 + 2 = 60) wd_459 ?_
    exact r_iret hC rfl h dX7_tell_60
  · replace h := if_t h q
    refine r_ldc hC dX7_tell_8 (rfl : 8 + 2 = 10) wd_459 ?_
    exact r_iret hC rfl h dX7_tell_10
set_option maxHeartbeats 1000000 in
set_option maxRecDepth 100000 in
theorem mX7_placeAt {G : Gx} {b k : Nat} {l : Launch} (hS : Sok YC G)  (hk : 1 ≤ k) (x1 : Int32) (σ : Sg) (Q : Option Nat → Sg → Prop) (h : wX7_placeAt  x1 σ Q) : Mq YC G b l yX7_placeAt cX7_placeAt 2 (.object "MakersBench$Tree") k [.ref (G.1 0), .int x1] σ Q := by
  refine enter hS (by decide +kernel) (Nat.le_of_ble_eq_true rfl) (lv := [(0, .ref (G.1 0)), (1, .int x1)]) rfl (fun K hl hC => ?_)
  subst hl
  unfold wX7_placeAt at h
  show V YC G K (Zq YC G K Q) 2 σ 0 [(0, .ref (G.1 0)), (1, .int x1)] []
  refine r_iload_n hC 1 dX7_placeAt_0 (rfl : 0 + 1 = 1) rfl rfl ?_
  refine r_iconst hC dX7_placeAt_1 (rfl : 1 + 1 = 2) (v := 0) (by decide) ?_
  refine r_bipush hC dX7_placeAt_2 (rfl : 2 + 2 = 4) (v := 19) (by decide) ?_
  refine r_callSi hC cs_X7_75 (by omega) (mX7_within hC.2.2.2.2.2.2.2.2.1 (k := k - 1) (by omega) x1 0 19 σ _ h) rfl rfl (Nat.le_of_ble_eq_true rfl) dX7_placeAt_4 (rfl : 4 + 3 = 7) (fun r_2 σ_1 h => ?_)
  refine r_if_eq hC dX7_placeAt_7 (rfl : 7 + 3 = 10) (tgt := 19) (by decide) (fun q => ?_) (fun q => ?_)
  · replace h := if_t h q
    refine r_null hC dX7_placeAt_19 (rfl : 19 + 1 = 20) ?_
    exact r_aret (o := none) hC rfl h dX7_placeAt_20
  · replace h := if_f h q
    refine r_aload_n hC 0 dX7_placeAt_10 (rfl : 10 + 1 = 11) rfl rfl ?_
    refine r_getr hC 0 6 2 14 (o := 14) fw_X7_25 rfl rfl dX7_placeAt_11 (rfl : 11 + 3 = 14) ?_
    refine r_iload_n hC 1 dX7_placeAt_14 (rfl : 14 + 1 = 15) rfl rfl ?_
    obtain ⟨q_3, h⟩ := h
    refine r_aald hC 14 (Or.inr rfl) q_3 dX7_placeAt_15 (rfl : 15 + 1 = 16) ?_
    refine r_goto hC dX7_placeAt_16 (tgt := 20) (by decide) ?_
    exact r_aret (o := (some (YC.2.2.2 14 (Int32.toNatClampNeg x1)))) hC rfl h dX7_placeAt_20
set_option maxHeartbeats 1000000 in
set_option maxRecDepth 100000 in
theorem sX7_programAt_17 {G : Gx} {b k : Nat} {K : Kx} {l : Launch} (hl : K.2.1 = l) (hC : Cx YC G b K cX7_programAt RX7 3 (some (.object "MakersBench$Tree")) k)  (hk : 2 ≤ k)  (Q : Option Nat → Sg → Prop)   (σ : Sg) (h : wX7_programAt_17   σ Q) : V YC G K (Zq YC G K Q) 3 σ 17 [] [] := by
  subst hl
  unfold wX7_programAt_17 at h
  refine r_null hC dX7_programAt_17 (rfl : 17 + 1 = 18) ?_
  refine r_goto hC dX7_programAt_18 (tgt := 22) (by decide) ?_
  exact r_aret (o := none) hC rfl h dX7_programAt_22
set_option maxHeartbeats 1000000 in
set_option maxRecDepth 100000 in
theorem mX7_programAt {G : Gx} {b k : Nat} {l : Launch} (hS : Sok YC G)  (hk : 2 ≤ k) (x1 : Int32) (σ : Sg) (Q : Option Nat → Sg → Prop) (h : wX7_programAt  x1 σ Q) : Mq YC G b l yX7_programAt cX7_programAt 3 (.object "MakersBench$Tree") k [.ref (G.1 0), .int x1] σ Q := by
  refine enter hS (by decide +kernel) (Nat.le_of_ble_eq_true rfl) (lv := [(0, .ref (G.1 0)), (1, .int x1)]) rfl (fun K hl hC => ?_)
  subst hl
  unfold wX7_programAt at h
  show V YC G K (Zq YC G K Q) 3 σ 0 [(0, .ref (G.1 0)), (1, .int x1)] []
  refine r_aload_n hC 0 dX7_programAt_0 (rfl : 0 + 1 = 1) rfl rfl ?_
  refine r_iload_n hC 1 dX7_programAt_1 (rfl : 1 + 1 = 2) rfl rfl ?_
  refine r_callVq hC cs_X7_85 rfl (by omega) (mX7_placeAt hC.2.2.2.2.2.2.2.2.1 (k := k - 1) (by omega) x1 σ _ h) rfl rfl (Nat.le_of_ble_eq_true rfl) dX7_programAt_2 (rfl : 2 + 3 = 5) (fun o_2 σ_1 h => ?_)
  refine r_astore_nQ hC dX7_programAt_5 (rfl : 5 + 1 = 6) rfl (by decide) (lv2 := [(2, rv G o_2), (0, .ref (G.1 0)), (1, .int x1)]) rfl ?_
  refine r_aload_nQ hC 0 dX7_programAt_6 (rfl : 6 + 1 = 7) rfl rfl ?_
  refine r_ifnull hC dX7_programAt_7 (rfl : 7 + 3 = 10) (tgt := 17) (by decide) (fun q => ?_) (fun z_3 q => ?_)
  · subst q
    replace h := h.1 rfl
    exact (sX7_programAt_17 rfl hC hk  Q   σ_1 h).sub [] rfl
  · subst q
    replace h := h.2 z_3 rfl
    refine r_aload_n hC 0 dX7_programAt_10 (rfl : 10 + 1 = 11) rfl rfl ?_
    obtain ⟨ty_4, h⟩ := h
    refine r_geti hC z_3 4 3 fw_X7_93 ty_4 dX7_programAt_11 (rfl : 11 + 3 = 14) ?_
    refine r_if_ne hC dX7_programAt_14 (rfl : 14 + 3 = 17) (tgt := 21) (by decide) (fun q => ?_) (fun q => ?_)
    · replace h := if_f h q
      refine r_aload_n hC 0 dX7_programAt_21 (rfl : 21 + 1 = 22) rfl rfl ?_
      exact r_aret (o := (some z_3)) hC rfl h dX7_programAt_22
    · replace h := if_t h q
      exact (sX7_programAt_17 rfl hC hk  Q   σ_1 h).sub [] rfl
set_option maxHeartbeats 1000000 in
set_option maxRecDepth 100000 in
theorem mX7_makerAt {G : Gx} {b k : Nat} {l : Launch} (hS : Sok YC G)  (hk : 1 ≤ k) (x1 : Int32) (σ : Sg) (Q : Option Nat → Sg → Prop) (h : wX7_makerAt  x1 σ Q) : Mq YC G b l yX7_makerAt cX7_makerAt 2 (.object "MakersBench$Maker") k [.ref (G.1 0), .int x1] σ Q := by
  refine enter hS (by decide +kernel) (Nat.le_of_ble_eq_true rfl) (lv := [(0, .ref (G.1 0)), (1, .int x1)]) rfl (fun K hl hC => ?_)
  subst hl
  unfold wX7_makerAt at h
  show V YC G K (Zq YC G K Q) 2 σ 0 [(0, .ref (G.1 0)), (1, .int x1)] []
  refine r_iload_n hC 1 dX7_makerAt_0 (rfl : 0 + 1 = 1) rfl rfl ?_
  refine r_iconst hC dX7_makerAt_1 (rfl : 1 + 1 = 2) (v := 0) (by decide) ?_
  refine r_aload_n hC 0 dX7_makerAt_2 (rfl : 2 + 1 = 3) rfl rfl ?_
  refine r_geti hC 0 6 10 fw_X7_63 rfl dX7_makerAt_3 (rfl : 3 + 3 = 6) ?_
  refine r_iconst hC dX7_makerAt_6 (rfl : 6 + 1 = 7) (v := 1) (by decide) ?_
  refine r_isub hC dX7_makerAt_7 (rfl : 7 + 1 = 8) ?_
  refine r_callSi hC cs_X7_75 (by omega) (mX7_within hC.2.2.2.2.2.2.2.2.1 (k := k - 1) (by omega) x1 0 ((σ.1 0 10) - 1) σ _ h) rfl rfl (Nat.le_of_ble_eq_true rfl) dX7_makerAt_8 (rfl : 8 + 3 = 11) (fun r_2 σ_1 h => ?_)
  refine r_if_eq hC dX7_makerAt_11 (rfl : 11 + 3 = 14) (tgt := 29) (by decide) (fun q => ?_) (fun q => ?_)
  · replace h := if_t h q
    refine r_null hC dX7_makerAt_29 (rfl : 29 + 1 = 30) ?_
    exact r_aret (o := none) hC rfl h dX7_makerAt_30
  · replace h := if_f h q
    refine r_iload_n hC 1 dX7_makerAt_14 (rfl : 14 + 1 = 15) rfl rfl ?_
    refine r_bipush hC dX7_makerAt_15 (rfl : 15 + 2 = 17) (v := 8) (by decide) ?_
    refine r_icmp_ge hC dX7_makerAt_17 (rfl : 17 + 3 = 20) (tgt := 29) (by decide) (fun q => ?_) (fun q => ?_)
    · replace h := if_t h q
      refine r_null hC dX7_makerAt_29 (rfl : 29 + 1 = 30) ?_
      exact r_aret (o := none) hC rfl h dX7_makerAt_30
    · replace h := if_f h q
      refine r_aload_n hC 0 dX7_makerAt_20 (rfl : 20 + 1 = 21) rfl rfl ?_
      refine r_getr hC 0 6 3 15 (o := 15) fw_X7_31 rfl rfl dX7_makerAt_21 (rfl : 21 + 3 = 24) ?_
      refine r_iload_n hC 1 dX7_makerAt_24 (rfl : 24 + 1 = 25) rfl rfl ?_
      obtain ⟨q_3, h⟩ := h
      refine r_aald hC 15 (Or.inl rfl) q_3 dX7_makerAt_25 (rfl : 25 + 1 = 26) ?_
      refine r_goto hC dX7_makerAt_26 (tgt := 30) (by decide) ?_
      exact r_aret (o := (some (YC.2.2.2 15 (Int32.toNatClampNeg x1)))) hC rfl h dX7_makerAt_30
set_option maxHeartbeats 1000000 in
set_option maxRecDepth 100000 in
theorem sX7_keptPrograms_21 {G : Gx} {b k : Nat} {K : Kx} {l : Launch} (hl : K.2.1 = l) (hC : Cx YC G b K cX7_keptPrograms RX7 3 (some .int) k)  (hk : 3 ≤ k) (K4 : Int32 → Int32 → Sg → Prop) (Q : Int32 → Sg → Prop) (h4 : ∀ (x1 : Int32) (x2 : Int32) (σ : Sg), K4 x1 x2 σ → V YC G K (Zi YC G K Q) 3 σ 4 [(0, .ref (G.1 0)), (1, .int x1), (2, .int x2)] []) (x1 : Int32) (x2 : Int32) (σ : Sg) (h : wX7_keptPrograms_21 K4 x1 x2 σ Q) : V YC G K (Zi YC G K Q) 3 σ 21 [(0, .ref (G.1 0)), (1, .int x1), (2, .int x2)] [] := by
  subst hl
  unfold wX7_keptPrograms_21 at h
  obtain ⟨x2_1, e_2, h⟩ := lt_nm h
  refine r_iinc hC (j := 2) dX7_keptPrograms_21 (rfl : 21 + 3 = 24) rfl (zz := 1) (by decide) e_2 (by decide) (lv2 := [(2, .int x2_1), (0, .ref (G.1 0)), (1, .int x1)]) rfl ?_
  refine r_goto hC dX7_keptPrograms_24 (tgt := 4) (by decide) ?_
  exact (h4 x1 x2_1 σ h).sub [1, 2, 0] rfl
set_option maxHeartbeats 1000000 in
set_option maxRecDepth 100000 in
theorem sX7_keptPrograms_4 {G : Gx} {b k : Nat} {K : Kx} {l : Launch} (hl : K.2.1 = l) (hC : Cx YC G b K cX7_keptPrograms RX7 3 (some .int) k)  (hk : 3 ≤ k)  (Q : Int32 → Sg → Prop)  : ∀ (n : Nat) (x1 : Int32) (x2 : Int32) (σ : Sg), wX7_keptPrograms_4  Q n x1 x2 σ → V YC G K (Zi YC G K Q) 3 σ 4 [(0, .ref (G.1 0)), (1, .int x1), (2, .int x2)] [] := by
  subst hl
  intro n
  induction n with
  | zero =>
    intro x1 x2 σ h
    exact h.elim
  | succ n ih =>
    intro x1 x2 σ h
    have h : wX7_keptPrograms_4_b  (wX7_keptPrograms_4  Q n) x1 x2 σ Q := h
    unfold wX7_keptPrograms_4_b at h
    refine r_iload_n hC 2 dX7_keptPrograms_4 (rfl : 4 + 1 = 5) rfl rfl ?_
    refine r_bipush hC dX7_keptPrograms_5 (rfl : 5 + 2 = 7) (v := 20) (by decide) ?_
    refine r_icmp_ge hC dX7_keptPrograms_7 (rfl : 7 + 3 = 10) (tgt := 27) (by decide) (fun q => ?_) (fun q => ?_)
    · replace h := if_t h q
      refine r_iload_n hC 1 dX7_keptPrograms_27 (rfl : 27 + 1 = 28) rfl rfl ?_
      exact r_iret hC rfl h dX7_keptPrograms_28
    · replace h := if_f h q
      refine r_aload_n hC 0 dX7_keptPrograms_10 (rfl : 10 + 1 = 11) rfl rfl ?_
      refine r_iload_n hC 2 dX7_keptPrograms_11 (rfl : 11 + 1 = 12) rfl rfl ?_
      refine r_callVq hC cs_X7_96 rfl (by omega) (mX7_programAt hC.2.2.2.2.2.2.2.2.1 (k := k - 1) (by omega) x2 σ _ h) rfl rfl (Nat.le_of_ble_eq_true rfl) dX7_keptPrograms_12 (rfl : 12 + 3 = 15) (fun o_4 σ_3 h => ?_)
      refine r_ifnull hC dX7_keptPrograms_15 (rfl : 15 + 3 = 18) (tgt := 21) (by decide) (fun q => ?_) (fun z_5 q => ?_)
      · subst q
        replace h := h.1 rfl
        exact (sX7_keptPrograms_21 rfl hC hk (wX7_keptPrograms_4  Q n) Q ih x1 x2 σ_3 h).sub [0, 1, 2] rfl
      · subst q
        replace h := h.2 z_5 rfl
        obtain ⟨x1_6, e_7, h⟩ := lt_nm h
        refine r_iinc hC (j := 1) dX7_keptPrograms_18 (rfl : 18 + 3 = 21) rfl (zz := 1) (by decide) e_7 (by decide) (lv2 := [(1, .int x1_6), (0, .ref (G.1 0)), (2, .int x2)]) rfl ?_
        exact (sX7_keptPrograms_21 rfl hC hk (wX7_keptPrograms_4  Q n) Q ih x1_6 x2 σ_3 h).sub [1, 0, 2] rfl
set_option maxHeartbeats 1000000 in
set_option maxRecDepth 100000 in
theorem mX7_keptPrograms {G : Gx} {b k : Nat} {l : Launch} (hS : Sok YC G)  (hk : 3 ≤ k)  (σ : Sg) (Q : Int32 → Sg → Prop) (h : wX7_keptPrograms   σ Q) : Mi YC G b l yX7_keptPrograms cX7_keptPrograms 3 .int k [.ref (G.1 0)] σ Q := by
  refine enter hS (by decide +kernel) (Nat.le_of_ble_eq_true rfl) (lv := [(0, .ref (G.1 0))]) rfl (fun K hl hC => ?_)
  subst hl
  unfold wX7_keptPrograms at h
  show V YC G K (Zi YC G K Q) 3 σ 0 [(0, .ref (G.1 0))] []
  refine r_iconst hC dX7_keptPrograms_0 (rfl : 0 + 1 = 1) (v := 0) (by decide) ?_
  refine r_istore_n hC dX7_keptPrograms_1 (rfl : 1 + 1 = 2) rfl (by decide) rfl (lv2 := [(1, .int 0), (0, .ref (G.1 0))]) rfl ?_
  refine r_iconst hC dX7_keptPrograms_2 (rfl : 2 + 1 = 3) (v := 0) (by decide) ?_
  refine r_istore_n hC dX7_keptPrograms_3 (rfl : 3 + 1 = 4) rfl (by decide) rfl (lv2 := [(2, .int 0), (1, .int 0), (0, .ref (G.1 0))]) rfl ?_
  obtain ⟨nn, h⟩ := h
  exact (sX7_keptPrograms_4 rfl hC hk  Q  nn 0 0 σ h).sub [2, 1, 0] rfl
set_option maxHeartbeats 1000000 in
set_option maxRecDepth 100000 in
theorem sX7_keptNodes_27 {G : Gx} {b k : Nat} {K : Kx} {l : Launch} (hl : K.2.1 = l) (hC : Cx YC G b K cX7_keptNodes RX7 4 (some .int) k)  (hk : 3 ≤ k) (K4 : Int32 → Int32 → Sg → Prop) (Q : Int32 → Sg → Prop) (h4 : ∀ (x1 : Int32) (x2 : Int32) (σ : Sg), K4 x1 x2 σ → V YC G K (Zi YC G K Q) 4 σ 4 [(0, .ref (G.1 0)), (1, .int x1), (2, .int x2)] []) (x1 : Int32) (x2 : Int32) (σ : Sg) (h : wX7_keptNodes_27 K4 x1 x2 σ Q) : V YC G K (Zi YC G K Q) 4 σ 27 [(0, .ref (G.1 0)), (1, .int x1), (2, .int x2)] [] := by
  subst hl
  unfold wX7_keptNodes_27 at h
  obtain ⟨x2_1, e_2, h⟩ := lt_nm h
  refine r_iinc hC (j := 2) dX7_keptNodes_27 (rfl : 27 + 3 = 30) rfl (zz := 1) (by decide) e_2 (by decide) (lv2 := [(2, .int x2_1), (0, .ref (G.1 0)), (1, .int x1)]) rfl ?_
  refine r_goto hC dX7_keptNodes_30 (tgt := 4) (by decide) ?_
  exact (h4 x1 x2_1 σ h).sub [1, 2, 0] rfl
set_option maxHeartbeats 1000000 in
set_option maxRecDepth 100000 in
theorem sX7_keptNodes_4 {G : Gx} {b k : Nat} {K : Kx} {l : Launch} (hl : K.2.1 = l) (hC : Cx YC G b K cX7_keptNodes RX7 4 (some .int) k)  (hk : 3 ≤ k)  (Q : Int32 → Sg → Prop)  : ∀ (n : Nat) (x1 : Int32) (x2 : Int32) (σ : Sg), wX7_keptNodes_4  Q n x1 x2 σ → V YC G K (Zi YC G K Q) 4 σ 4 [(0, .ref (G.1 0)), (1, .int x1), (2, .int x2)] [] := by
  subst hl
  intro n
  induction n with
  | zero =>
    intro x1 x2 σ h
    exact h.elim
  | succ n ih =>
    intro x1 x2 σ h
    have h : wX7_keptNodes_4_b  (wX7_keptNodes_4  Q n) x1 x2 σ Q := h
    unfold wX7_keptNodes_4_b at h
    refine r_iload_n hC 2 dX7_keptNodes_4 (rfl : 4 + 1 = 5) rfl rfl ?_
    refine r_bipush hC dX7_keptNodes_5 (rfl : 5 + 2 = 7) (v := 20) (by decide) ?_
    refine r_icmp_ge hC dX7_keptNodes_7 (rfl : 7 + 3 = 10) (tgt := 33) (by decide) (fun q => ?_) (fun q => ?_)
    · replace h := if_t h q
      refine r_iload_n hC 1 dX7_keptNodes_33 (rfl : 33 + 1 = 34) rfl rfl ?_
      exact r_iret hC rfl h dX7_keptNodes_34
    · replace h := if_f h q
      refine r_aload_n hC 0 dX7_keptNodes_10 (rfl : 10 + 1 = 11) rfl rfl ?_
      refine r_iload_n hC 2 dX7_keptNodes_11 (rfl : 11 + 1 = 12) rfl rfl ?_
      refine r_callVq hC cs_X7_96 rfl (by omega) (mX7_programAt hC.2.2.2.2.2.2.2.2.1 (k := k - 1) (by omega) x2 σ _ h) rfl rfl (Nat.le_of_ble_eq_true rfl) dX7_keptNodes_12 (rfl : 12 + 3 = 15) (fun o_4 σ_3 h => ?_)
      refine r_astore_nQ hC dX7_keptNodes_15 (rfl : 15 + 1 = 16) rfl (by decide) (lv2 := [(3, rv G o_4), (0, .ref (G.1 0)), (1, .int x1), (2, .int x2)]) rfl ?_
      refine r_aload_nQ hC 0 dX7_keptNodes_16 (rfl : 16 + 1 = 17) rfl rfl ?_
      refine r_ifnull hC dX7_keptNodes_17 (rfl : 17 + 3 = 20) (tgt := 27) (by decide) (fun q => ?_) (fun z_5 q => ?_)
      · subst q
        replace h := h.1 rfl
        exact (sX7_keptNodes_27 rfl hC hk (wX7_keptNodes_4  Q n) Q ih x1 x2 σ_3 h).sub [1, 2, 3] rfl
      · subst q
        replace h := h.2 z_5 rfl
        refine r_iload_n hC 2 dX7_keptNodes_20 (rfl : 20 + 1 = 21) rfl rfl ?_
        refine r_aload_n hC 0 dX7_keptNodes_21 (rfl : 21 + 1 = 22) rfl rfl ?_
        obtain ⟨ty_6, h⟩ := h
        refine r_geti hC z_5 4 3 fw_X7_93 ty_6 dX7_keptNodes_22 (rfl : 22 + 3 = 25) ?_
        refine r_iadd hC dX7_keptNodes_25 (rfl : 25 + 1 = 26) ?_
        obtain ⟨x1_7, e_8, h⟩ := lt_nm h
        refine r_istore_n hC dX7_keptNodes_26 (rfl : 26 + 1 = 27) rfl (by decide) e_8 (lv2 := [(1, .int x1_7), (3, .ref (G.1 z_5)), (0, .ref (G.1 0)), (2, .int x2)]) rfl ?_
        exact (sX7_keptNodes_27 rfl hC hk (wX7_keptNodes_4  Q n) Q ih x1_7 x2 σ_3 h).sub [2, 0, 3] rfl
set_option maxHeartbeats 1000000 in
set_option maxRecDepth 100000 in
theorem mX7_keptNodes {G : Gx} {b k : Nat} {l : Launch} (hS : Sok YC G)  (hk : 3 ≤ k)  (σ : Sg) (Q : Int32 → Sg → Prop) (h : wX7_keptNodes   σ Q) : Mi YC G b l yX7_keptNodes cX7_keptNodes 4 .int k [.ref (G.1 0)] σ Q := by
  refine enter hS (by decide +kernel) (Nat.le_of_ble_eq_true rfl) (lv := [(0, .ref (G.1 0))]) rfl (fun K hl hC => ?_)
  subst hl
  unfold wX7_keptNodes at h
  show V YC G K (Zi YC G K Q) 4 σ 0 [(0, .ref (G.1 0))] []
  refine r_iconst hC dX7_keptNodes_0 (rfl : 0 + 1 = 1) (v := 0) (by decide) ?_
  refine r_istore_n hC dX7_keptNodes_1 (rfl : 1 + 1 = 2) rfl (by decide) rfl (lv2 := [(1, .int 0), (0, .ref (G.1 0))]) rfl ?_
  refine r_iconst hC dX7_keptNodes_2 (rfl : 2 + 1 = 3) (v := 0) (by decide) ?_
  refine r_istore_n hC dX7_keptNodes_3 (rfl : 3 + 1 = 4) rfl (by decide) rfl (lv2 := [(2, .int 0), (1, .int 0), (0, .ref (G.1 0))]) rfl ?_
  obtain ⟨nn, h⟩ := h
  exact (sX7_keptNodes_4 rfl hC hk  Q  nn 0 0 σ h).sub [2, 1, 0] rfl
set_option maxHeartbeats 1000000 in
set_option maxRecDepth 100000 in
theorem mX8_in {G : Gx} {b k : Nat} {l : Launch} (hS : Sok YM G)  (hk : 0 ≤ k) (x0 : Int64) (x2 : Int64) (x4 : Int64) (σ : Sg) (Q : Int32 → Sg → Prop) (h : wX8_in  x0 x2 x4 σ Q) : Mi YM G b l yX8_in cX8_in 6 .boolean k [.long x0, .long x2, .long x4] σ Q := by
  refine enter hS (by decide +kernel) (Nat.le_of_ble_eq_true rfl) (lv := [(0, .long x0), (2, .long x2), (4, .long x4)]) rfl (fun K hl hC => ?_)
  subst hl
  unfold wX8_in at h
  show V YM G K (Zi YM G K Q) 6 σ 0 [(0, .long x0), (2, .long x2), (4, .long x4)] []
  refine r_lload_n hC 0 dX8_in_0 (rfl : 0 + 1 = 1) rfl rfl ?_
  refine r_lload_n hC 1 dX8_in_1 (rfl : 1 + 1 = 2) rfl rfl ?_
  refine r_lcmp hC dX8_in_2 (rfl : 2 + 1 = 3) ?_
  refine r_if_lt hC dX8_in_3 (rfl : 3 + 3 = 6) (tgt := 17) (by decide) (fun q => ?_) (fun q => ?_)
  · replace h := if_t h ((lg_cmp_lt _ _).1 q)
    refine r_iconst hC dX8_in_17 (rfl : 17 + 1 = 18) (v := 0) (by decide) ?_
    exact r_zret hC rfl (by decide) h dX8_in_18
  · replace h := if_f h (fun z => q ((lg_cmp_lt _ _).2 z))
    refine r_lload_n hC 0 dX8_in_6 (rfl : 6 + 1 = 7) rfl rfl ?_
    refine r_lload hC 2 dX8_in_7 (rfl : 7 + 2 = 9) rfl ?_
    refine r_lcmp hC dX8_in_9 (rfl : 9 + 1 = 10) ?_
    refine r_if_gt hC dX8_in_10 (rfl : 10 + 3 = 13) (tgt := 17) (by decide) (fun q => ?_) (fun q => ?_)
    · replace h := if_t h ((lg_cmp_gt _ _).1 q)
      refine r_iconst hC dX8_in_17 (rfl : 17 + 1 = 18) (v := 0) (by decide) ?_
      exact r_zret hC rfl (by decide) h dX8_in_18
    · replace h := if_f h (fun z => q ((lg_cmp_gt _ _).2 z))
      refine r_iconst hC dX8_in_13 (rfl : 13 + 1 = 14) (v := 1) (by decide) ?_
      refine r_goto hC dX8_in_14 (tgt := 18) (by decide) ?_
      exact r_zret hC rfl (by decide) h dX8_in_18
set_option maxHeartbeats 1000000 in
set_option maxRecDepth 100000 in
theorem mX8_parts {G : Gx} {b k : Nat} {l : Launch} (hS : Sok YM G)  (hk : 0 ≤ k) (x0 : Int32) (σ : Sg) (Q : Int32 → Sg → Prop) (h : wX8_parts  x0 σ Q) : Mi YM G b l yX8_parts cX8_parts 1 .int k [.int x0] σ Q := by
  refine enter hS (by decide +kernel) (Nat.le_of_ble_eq_true rfl) (lv := [(0, .int x0)]) rfl (fun K hl hC => ?_)
  subst hl
  unfold wX8_parts at h
  show V YM G K (Zi YM G K Q) 1 σ 0 [(0, .int x0)] []
  refine r_iload_n hC 0 dX8_parts_0 (rfl : 0 + 1 = 1) rfl rfl ?_
  refine r_iconst hC dX8_parts_1 (rfl : 1 + 1 = 2) (v := 3) (by decide) ?_
  refine r_icmp_ge hC dX8_parts_2 (rfl : 2 + 3 = 5) (tgt := 9) (by decide) (fun q => ?_) (fun q => ?_)
  · replace h := if_t h q
    refine r_iload_n hC 0 dX8_parts_9 (rfl : 9 + 1 = 10) rfl rfl ?_
    refine r_iconst hC dX8_parts_10 (rfl : 10 + 1 = 11) (v := 3) (by decide) ?_
    refine r_icmp_ne hC dX8_parts_11 (rfl : 11 + 3 = 14) (tgt := 18) (by decide) (fun q => ?_) (fun q => ?_)
    · replace h := if_f h q
      refine r_iload_n hC 0 dX8_parts_18 (rfl : 18 + 1 = 19) rfl rfl ?_
      refine r_bipush hC dX8_parts_19 (rfl : 19 + 2 = 21) (v := 8) (by decide) ?_
      refine r_icmp_ne hC dX8_parts_21 (rfl : 21 + 3 = 24) (tgt := 28) (by decide) (fun q => ?_) (fun q => ?_)
      · replace h := if_f h q
        refine r_iconst hC dX8_parts_28 (rfl : 28 + 1 = 29) (v := 2) (by decide) ?_
        exact r_iret hC rfl h dX8_parts_29
      · replace h := if_t h q
        refine r_iconst hC dX8_parts_24 (rfl : 24 + 1 = 25) (v := 3) (by decide) ?_
        refine r_goto hC dX8_parts_25 (tgt := 29) (by decide) ?_
        exact r_iret hC rfl h dX8_parts_29
    · replace h := if_t h q
      refine r_iconst hC dX8_parts_14 (rfl : 14 + 1 = 15) (v := 1) (by decide) ?_
      refine r_goto hC dX8_parts_15 (tgt := 29) (by decide) ?_
      exact r_iret hC rfl h dX8_parts_29
  · replace h := if_f h q
    refine r_iconst hC dX8_parts_5 (rfl : 5 + 1 = 6) (v := 0) (by decide) ?_
    refine r_goto hC dX8_parts_6 (tgt := 29) (by decide) ?_
    exact r_iret hC rfl h dX8_parts_29
