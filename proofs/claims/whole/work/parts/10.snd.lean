set_option maxHeartbeats 4000000 in
set_option maxRecDepth 100000 in
theorem mX5_kindOf {G : Gx} {b k : Nat} {l : Launch} (hS : Sok YC G)  (hk : 0 ≤ k) (t : Nat) (x1 : Int32) (σ : Sg) (Q : Int32 → Sg → Prop) (h : wX5_kindOf  t x1 σ Q) : Mi YC G b l yX5_kindOf cX5_kindOf 2 .int k [.ref (G.1 t), .int x1] σ Q := by
  refine enter hS (by decide +kernel) (by decide) (lv := [(0, .ref (G.1 t)), (1, .int x1)]) rfl (fun K hl hC => ?_)
  subst hl
  unfold wX5_kindOf at h
  show V YC G K (Zi YC G K Q) 2 σ 0 [(0, .ref (G.1 t)), (1, .int x1)] []
  refine r_iload_n hC 1 dX5_kindOf_0 (rfl : 0 + 1 = 1) rfl rfl ?_
  refine r_if_lt hC dX5_kindOf_1 (rfl : 1 + 3 = 4) (tgt := 21) (by decide) (fun q => ?_) (fun q => ?_)
  · replace h := if_t h q
    refine r_iconst hC dX5_kindOf_21 (rfl : 21 + 1 = 22) (v := 0) (by decide) ?_
    exact r_iret hC rfl h dX5_kindOf_22
  · replace h := if_f h q
    refine r_iload_n hC 1 dX5_kindOf_4 (rfl : 4 + 1 = 5) rfl rfl ?_
    refine r_aload_n hC 0 dX5_kindOf_5 (rfl : 5 + 1 = 6) rfl rfl ?_
    obtain ⟨ty_1, h⟩ := h
    refine r_geti hC t 4 3 fw_X5_21 ty_1 dX5_kindOf_6 (rfl : 6 + 3 = 9) ?_
    refine r_icmp_ge hC dX5_kindOf_9 (rfl : 9 + 3 = 12) (tgt := 21) (by decide) (fun q => ?_) (fun q => ?_)
    · replace h := if_t h q
      refine r_iconst hC dX5_kindOf_21 (rfl : 21 + 1 = 22) (v := 0) (by decide) ?_
      exact r_iret hC rfl h dX5_kindOf_22
    · replace h := if_f h q
      refine r_aload_n hC 0 dX5_kindOf_12 (rfl : 12 + 1 = 13) rfl rfl ?_
      refine r_getr hC t 4 0 (t + 1) (o := 1) fw_X5_9 ty_1 rfl dX5_kindOf_13 (rfl : 13 + 3 = 16) ?_
      refine r_iload_n hC 1 dX5_kindOf_16 (rfl : 16 + 1 = 17) rfl rfl ?_
      obtain ⟨q_2, h⟩ := h
      refine r_iald hC (t + 1) (la4_1 ty_1).1 (by rw [(la4_1 ty_1).2]; exact q_2) dX5_kindOf_17 (rfl : 17 + 1 = 18) ?_
      refine r_goto hC dX5_kindOf_18 (tgt := 22) (by decide) ?_
      exact r_iret hC rfl h dX5_kindOf_22
set_option maxHeartbeats 4000000 in
set_option maxRecDepth 100000 in
theorem mX5_numberOf {G : Gx} {b k : Nat} {l : Launch} (hS : Sok YC G)  (hk : 0 ≤ k) (t : Nat) (x1 : Int32) (σ : Sg) (Q : Int32 → Sg → Prop) (h : wX5_numberOf  t x1 σ Q) : Mi YC G b l yX5_numberOf cX5_numberOf 2 .int k [.ref (G.1 t), .int x1] σ Q := by
  refine enter hS (by decide +kernel) (by decide) (lv := [(0, .ref (G.1 t)), (1, .int x1)]) rfl (fun K hl hC => ?_)
  subst hl
  unfold wX5_numberOf at h
  show V YC G K (Zi YC G K Q) 2 σ 0 [(0, .ref (G.1 t)), (1, .int x1)] []
  refine r_iload_n hC 1 dX5_numberOf_0 (rfl : 0 + 1 = 1) rfl rfl ?_
  refine r_if_lt hC dX5_numberOf_1 (rfl : 1 + 3 = 4) (tgt := 21) (by decide) (fun q => ?_) (fun q => ?_)
  · replace h := if_t h q
    refine r_iconst hC dX5_numberOf_21 (rfl : 21 + 1 = 22) (v := 0) (by decide) ?_
    exact r_iret hC rfl h dX5_numberOf_22
  · replace h := if_f h q
    refine r_iload_n hC 1 dX5_numberOf_4 (rfl : 4 + 1 = 5) rfl rfl ?_
    refine r_aload_n hC 0 dX5_numberOf_5 (rfl : 5 + 1 = 6) rfl rfl ?_
    obtain ⟨ty_1, h⟩ := h
    refine r_geti hC t 4 3 fw_X5_21 ty_1 dX5_numberOf_6 (rfl : 6 + 3 = 9) ?_
    refine r_icmp_ge hC dX5_numberOf_9 (rfl : 9 + 3 = 12) (tgt := 21) (by decide) (fun q => ?_) (fun q => ?_)
    · replace h := if_t h q
      refine r_iconst hC dX5_numberOf_21 (rfl : 21 + 1 = 22) (v := 0) (by decide) ?_
      exact r_iret hC rfl h dX5_numberOf_22
    · replace h := if_f h q
      refine r_aload_n hC 0 dX5_numberOf_12 (rfl : 12 + 1 = 13) rfl rfl ?_
      refine r_getr hC t 4 1 (t + 2) (o := 2) fw_X5_15 ty_1 rfl dX5_numberOf_13 (rfl : 13 + 3 = 16) ?_
      refine r_iload_n hC 1 dX5_numberOf_16 (rfl : 16 + 1 = 17) rfl rfl ?_
      obtain ⟨q_2, h⟩ := h
      refine r_iald hC (t + 2) (la4_2 ty_1).1 (by rw [(la4_2 ty_1).2]; exact q_2) dX5_numberOf_17 (rfl : 17 + 1 = 18) ?_
      refine r_goto hC dX5_numberOf_18 (tgt := 22) (by decide) ?_
      exact r_iret hC rfl h dX5_numberOf_22
set_option maxHeartbeats 4000000 in
set_option maxRecDepth 100000 in
theorem mX5_sizeOf {G : Gx} {b k : Nat} {l : Launch} (hS : Sok YC G)  (hk : 0 ≤ k) (t : Nat) (x1 : Int32) (σ : Sg) (Q : Int32 → Sg → Prop) (h : wX5_sizeOf  t x1 σ Q) : Mi YC G b l yX5_sizeOf cX5_sizeOf 2 .int k [.ref (G.1 t), .int x1] σ Q := by
  refine enter hS (by decide +kernel) (by decide) (lv := [(0, .ref (G.1 t)), (1, .int x1)]) rfl (fun K hl hC => ?_)
  subst hl
  unfold wX5_sizeOf at h
  show V YC G K (Zi YC G K Q) 2 σ 0 [(0, .ref (G.1 t)), (1, .int x1)] []
  refine r_iload_n hC 1 dX5_sizeOf_0 (rfl : 0 + 1 = 1) rfl rfl ?_
  refine r_if_lt hC dX5_sizeOf_1 (rfl : 1 + 3 = 4) (tgt := 21) (by decide) (fun q => ?_) (fun q => ?_)
  · replace h := if_t h q
    refine r_iconst hC dX5_sizeOf_21 (rfl : 21 + 1 = 22) (v := 0) (by decide) ?_
    exact r_iret hC rfl h dX5_sizeOf_22
  · replace h := if_f h q
    refine r_iload_n hC 1 dX5_sizeOf_4 (rfl : 4 + 1 = 5) rfl rfl ?_
    refine r_aload_n hC 0 dX5_sizeOf_5 (rfl : 5 + 1 = 6) rfl rfl ?_
    obtain ⟨ty_1, h⟩ := h
    refine r_geti hC t 4 3 fw_X5_21 ty_1 dX5_sizeOf_6 (rfl : 6 + 3 = 9) ?_
    refine r_icmp_ge hC dX5_sizeOf_9 (rfl : 9 + 3 = 12) (tgt := 21) (by decide) (fun q => ?_) (fun q => ?_)
    · replace h := if_t h q
      refine r_iconst hC dX5_sizeOf_21 (rfl : 21 + 1 = 22) (v := 0) (by decide) ?_
      exact r_iret hC rfl h dX5_sizeOf_22
    · replace h := if_f h q
      refine r_aload_n hC 0 dX5_sizeOf_12 (rfl : 12 + 1 = 13) rfl rfl ?_
      refine r_getr hC t 4 2 (t + 3) (o := 3) fw_X5_18 ty_1 rfl dX5_sizeOf_13 (rfl : 13 + 3 = 16) ?_
      refine r_iload_n hC 1 dX5_sizeOf_16 (rfl : 16 + 1 = 17) rfl rfl ?_
      obtain ⟨q_2, h⟩ := h
      refine r_iald hC (t + 3) (la4_3 ty_1).1 (by rw [(la4_3 ty_1).2]; exact q_2) dX5_sizeOf_17 (rfl : 17 + 1 = 18) ?_
      refine r_goto hC dX5_sizeOf_18 (tgt := 22) (by decide) ?_
      exact r_iret hC rfl h dX5_sizeOf_22
set_option maxHeartbeats 4000000 in
set_option maxRecDepth 100000 in
theorem mX5_behind {G : Gx} {b k : Nat} {l : Launch} (hS : Sok YC G)  (hk : 0 ≤ k) (t : Nat) (x1 : Int32) (σ : Sg) (Q : Int32 → Sg → Prop) (h : wX5_behind  t x1 σ Q) : Mi YC G b l yX5_behind cX5_behind 2 .int k [.ref (G.1 t), .int x1] σ Q := by
  refine enter hS (by decide +kernel) (by decide) (lv := [(0, .ref (G.1 t)), (1, .int x1)]) rfl (fun K hl hC => ?_)
  subst hl
  unfold wX5_behind at h
  show V YC G K (Zi YC G K Q) 2 σ 0 [(0, .ref (G.1 t)), (1, .int x1)] []
  refine r_iload_n hC 1 dX5_behind_0 (rfl : 0 + 1 = 1) rfl rfl ?_
  refine r_if_lt hC dX5_behind_1 (rfl : 1 + 3 = 4) (tgt := 23) (by decide) (fun q => ?_) (fun q => ?_)
  · replace h := if_t h q
    refine r_aload_n hC 0 dX5_behind_23 (rfl : 23 + 1 = 24) rfl rfl ?_
    obtain ⟨ty_1, h⟩ := h
    refine r_geti hC t 4 3 fw_X5_21 ty_1 dX5_behind_24 (rfl : 24 + 3 = 27) ?_
    exact r_iret hC rfl h dX5_behind_27
  · replace h := if_f h q
    refine r_iload_n hC 1 dX5_behind_4 (rfl : 4 + 1 = 5) rfl rfl ?_
    refine r_aload_n hC 0 dX5_behind_5 (rfl : 5 + 1 = 6) rfl rfl ?_
    obtain ⟨ty_2, h⟩ := h
    refine r_geti hC t 4 3 fw_X5_21 ty_2 dX5_behind_6 (rfl : 6 + 3 = 9) ?_
    refine r_icmp_ge hC dX5_behind_9 (rfl : 9 + 3 = 12) (tgt := 23) (by decide) (fun q => ?_) (fun q => ?_)
    · replace h := if_t h q
      refine r_aload_n hC 0 dX5_behind_23 (rfl : 23 + 1 = 24) rfl rfl ?_
      refine r_geti hC t 4 3 fw_X5_21 ty_2 dX5_behind_24 (rfl : 24 + 3 = 27) ?_
      exact r_iret hC rfl h dX5_behind_27
    · replace h := if_f h q
      refine r_iload_n hC 1 dX5_behind_12 (rfl : 12 + 1 = 13) rfl rfl ?_
      refine r_aload_n hC 0 dX5_behind_13 (rfl : 13 + 1 = 14) rfl rfl ?_
      refine r_getr hC t 4 2 (t + 3) (o := 3) fw_X5_18 ty_2 rfl dX5_behind_14 (rfl : 14 + 3 = 17) ?_
      refine r_iload_n hC 1 dX5_behind_17 (rfl : 17 + 1 = 18) rfl rfl ?_
      obtain ⟨q_3, h⟩ := h
      refine r_iald hC (t + 3) (la4_3 ty_2).1 (by rw [(la4_3 ty_2).2]; exact q_3) dX5_behind_18 (rfl : 18 + 1 = 19) ?_
      refine r_iadd hC dX5_behind_19 (rfl : 19 + 1 = 20) ?_
      refine r_goto hC dX5_behind_20 (tgt := 27) (by decide) ?_
      exact r_iret hC rfl h dX5_behind_27
set_option maxHeartbeats 4000000 in
set_option maxRecDepth 100000 in
theorem sX5_isSame_20 {G : Gx} {b k : Nat} {K : Kx} {l : Launch} (hl : K.2.1 = l) (hC : Cx YC G b K cX5_isSame RX5 5 (some .boolean) k)  (hk : 1 ≤ k)  (Q : Int32 → Sg → Prop)  : ∀ (n : Nat) (t : Nat) (x1 : Int32) (x2 : Int32) (x3 : Int32) (x4 : Int32) (σ : Sg), wX5_isSame_20  Q n t x1 x2 x3 x4 σ → V YC G K (Zi YC G K Q) 5 σ 20 [(0, .ref (G.1 t)), (1, .int x1), (2, .int x2), (3, .int x3), (4, .int x4)] [] := by
  subst hl
  intro n
  induction n with
  | zero =>
    intro t x1 x2 x3 x4 σ h
    exact h.elim
  | succ n ih =>
    intro t x1 x2 x3 x4 σ h
    have h : wX5_isSame_20_b  (wX5_isSame_20  Q n) t x1 x2 x3 x4 σ Q := h
    unfold wX5_isSame_20_b at h
    refine r_iload hC 4 dX5_isSame_20 (rfl : 20 + 2 = 22) rfl ?_
    refine r_iload_n hC 3 dX5_isSame_22 (rfl : 22 + 1 = 23) rfl rfl ?_
    refine r_icmp_ge hC dX5_isSame_23 (rfl : 23 + 3 = 26) (tgt := 72) (by decide) (fun q => ?_) (fun q => ?_)
    · replace h := if_t h q
      refine r_iconst hC dX5_isSame_72 (rfl : 72 + 1 = 73) (v := 1) (by decide) ?_
      exact r_zret hC rfl (by decide) h dX5_isSame_73
    · replace h := if_f h q
      refine r_aload_n hC 0 dX5_isSame_26 (rfl : 26 + 1 = 27) rfl rfl ?_
      refine r_iload_n hC 1 dX5_isSame_27 (rfl : 27 + 1 = 28) rfl rfl ?_
      refine r_iload hC 4 dX5_isSame_28 (rfl : 28 + 2 = 30) rfl ?_
      refine r_iadd hC dX5_isSame_30 (rfl : 30 + 1 = 31) ?_
      obtain ⟨ty_1, h⟩ := h
      refine r_callVi hC cs_X5_29 ty_1 (by omega) (mX5_kindOf hC.2.2.2.2.2.2.2.2.1 (k := k - 1) (by omega) t (x1 + x4) σ _ h) rfl rfl (Nat.le_of_ble_eq_true rfl) dX5_isSame_31 (rfl : 31 + 3 = 34) (fun r_3 σ_2 h => ?_)
      refine r_aload_n hC 0 dX5_isSame_34 (rfl : 34 + 1 = 35) rfl rfl ?_
      refine r_iload_n hC 2 dX5_isSame_35 (rfl : 35 + 1 = 36) rfl rfl ?_
      refine r_iload hC 4 dX5_isSame_36 (rfl : 36 + 2 = 38) rfl ?_
      refine r_iadd hC dX5_isSame_38 (rfl : 38 + 1 = 39) ?_
      refine r_callVi hC cs_X5_29 ty_1 (by omega) (mX5_kindOf hC.2.2.2.2.2.2.2.2.1 (k := k - 1) (by omega) t (x2 + x4) σ_2 _ h) rfl rfl (Nat.le_of_ble_eq_true rfl) dX5_isSame_39 (rfl : 39 + 3 = 42) (fun r_5 σ_4 h => ?_)
      refine r_icmp_ne hC dX5_isSame_42 (rfl : 42 + 3 = 45) (tgt := 64) (by decide) (fun q => ?_) (fun q => ?_)
      · replace h := if_f h q
        refine r_iconst hC dX5_isSame_64 (rfl : 64 + 1 = 65) (v := 0) (by decide) ?_
        exact r_zret hC rfl (by decide) h dX5_isSame_65
      · replace h := if_t h q
        refine r_aload_n hC 0 dX5_isSame_45 (rfl : 45 + 1 = 46) rfl rfl ?_
        refine r_iload_n hC 1 dX5_isSame_46 (rfl : 46 + 1 = 47) rfl rfl ?_
        refine r_iload hC 4 dX5_isSame_47 (rfl : 47 + 2 = 49) rfl ?_
        refine r_iadd hC dX5_isSame_49 (rfl : 49 + 1 = 50) ?_
        refine r_callVi hC cs_X5_32 ty_1 (by omega) (mX5_numberOf hC.2.2.2.2.2.2.2.2.1 (k := k - 1) (by omega) t (x1 + x4) σ_4 _ h) rfl rfl (Nat.le_of_ble_eq_true rfl) dX5_isSame_50 (rfl : 50 + 3 = 53) (fun r_7 σ_6 h => ?_)
        refine r_aload_n hC 0 dX5_isSame_53 (rfl : 53 + 1 = 54) rfl rfl ?_
        refine r_iload_n hC 2 dX5_isSame_54 (rfl : 54 + 1 = 55) rfl rfl ?_
        refine r_iload hC 4 dX5_isSame_55 (rfl : 55 + 2 = 57) rfl ?_
        refine r_iadd hC dX5_isSame_57 (rfl : 57 + 1 = 58) ?_
        refine r_callVi hC cs_X5_32 ty_1 (by omega) (mX5_numberOf hC.2.2.2.2.2.2.2.2.1 (k := k - 1) (by omega) t (x2 + x4) σ_6 _ h) rfl rfl (Nat.le_of_ble_eq_true rfl) dX5_isSame_58 (rfl : 58 + 3 = 61) (fun r_9 σ_8 h => ?_)
        refine r_icmp_eq hC dX5_isSame_61 (rfl : 61 + 3 = 64) (tgt := 66) (by decide) (fun q => ?_) (fun q => ?_)
        · replace h := if_t h q
          obtain ⟨x4_10, e_11, h⟩ := lt_nm h
          refine r_iinc hC (j := 4) dX5_isSame_66 (rfl : 66 + 3 = 69) rfl (zz := 1) (by decide) e_11 (by decide) (lv2 := [(4, .int x4_10), (0, .ref (G.1 t)), (1, .int x1), (2, .int x2), (3, .int x3)]) rfl ?_
          refine r_goto hC dX5_isSame_69 (tgt := 20) (by decide) ?_
          exact (ih t x1 x2 x3 x4_10 σ_8 h).sub [1, 2, 3, 4, 0] rfl
        · replace h := if_f h q
          refine r_iconst hC dX5_isSame_64 (rfl : 64 + 1 = 65) (v := 0) (by decide) ?_
          exact r_zret hC rfl (by decide) h dX5_isSame_65
set_option maxHeartbeats 4000000 in
set_option maxRecDepth 100000 in
theorem mX5_isSame {G : Gx} {b k : Nat} {l : Launch} (hS : Sok YC G)  (hk : 1 ≤ k) (t : Nat) (x1 : Int32) (x2 : Int32) (σ : Sg) (Q : Int32 → Sg → Prop) (h : wX5_isSame  t x1 x2 σ Q) : Mi YC G b l yX5_isSame cX5_isSame 5 .boolean k [.ref (G.1 t), .int x1, .int x2] σ Q := by
  refine enter hS (by decide +kernel) (by decide) (lv := [(0, .ref (G.1 t)), (1, .int x1), (2, .int x2)]) rfl (fun K hl hC => ?_)
  subst hl
  unfold wX5_isSame at h
  show V YC G K (Zi YC G K Q) 5 σ 0 [(0, .ref (G.1 t)), (1, .int x1), (2, .int x2)] []
  refine r_aload_n hC 0 dX5_isSame_0 (rfl : 0 + 1 = 1) rfl rfl ?_
  refine r_iload_n hC 1 dX5_isSame_1 (rfl : 1 + 1 = 2) rfl rfl ?_
  obtain ⟨ty_12, h⟩ := h
  refine r_callVi hC cs_X5_25 ty_12 (by omega) (mX5_sizeOf hC.2.2.2.2.2.2.2.2.1 (k := k - 1) (by omega) t x1 σ _ h) rfl rfl (Nat.le_of_ble_eq_true rfl) dX5_isSame_2 (rfl : 2 + 3 = 5) (fun r_14 σ_13 h => ?_)
  refine r_istore_n hC dX5_isSame_5 (rfl : 5 + 1 = 6) rfl (by decide) rfl (lv2 := [(3, .int r_14), (0, .ref (G.1 t)), (1, .int x1), (2, .int x2)]) rfl ?_
  refine r_iload_n hC 0 dX5_isSame_6 (rfl : 6 + 1 = 7) rfl rfl ?_
  refine r_aload_n hC 1 dX5_isSame_7 (rfl : 7 + 1 = 8) rfl rfl ?_
  refine r_iload_n hC 3 dX5_isSame_8 (rfl : 8 + 1 = 9) rfl rfl ?_
  refine r_callVi hC cs_X5_25 ty_12 (by omega) (mX5_sizeOf hC.2.2.2.2.2.2.2.2.1 (k := k - 1) (by omega) t x2 σ_13 _ h) rfl rfl (Nat.le_of_ble_eq_true rfl) dX5_isSame_9 (rfl : 9 + 3 = 12) (fun r_16 σ_15 h => ?_)
  refine r_icmp_eq hC dX5_isSame_12 (rfl : 12 + 3 = 15) (tgt := 17) (by decide) (fun q => ?_) (fun q => ?_)
  · replace h := if_t h q
    refine r_iconst hC dX5_isSame_17 (rfl : 17 + 1 = 18) (v := 0) (by decide) ?_
    refine r_istore hC dX5_isSame_18 (rfl : 18 + 2 = 20) (by decide) rfl (lv2 := [(4, .int 0), (3, .int r_14), (0, .ref (G.1 t)), (1, .int x1), (2, .int x2)]) rfl ?_
    obtain ⟨nn, h⟩ := h
    exact (sX5_isSame_20 rfl hC hk  Q  nn t x1 x2 r_14 0 σ_15 h).sub [2, 3, 4, 1, 0] rfl
  · replace h := if_f h q
    refine r_iconst hC dX5_isSame_15 (rfl : 15 + 1 = 16) (v := 0) (by decide) ?_
    exact r_zret hC rfl (by decide) h dX5_isSame_16
set_option maxHeartbeats 4000000 in
set_option maxRecDepth 100000 in
theorem mX5_append {G : Gx} {b k : Nat} {l : Launch} (hS : Sok YC G)  (hk : 0 ≤ k) (t : Nat) (x1 : Int32) (x2 : Int32) (σ : Sg) (Q : Sg → Prop) (h : wX5_append  t x1 x2 σ Q) : Mv YC G b l yX5_append cX5_append 3 k [.ref (G.1 t), .int x1, .int x2] σ Q := by
  refine enter hS (by decide +kernel) (by decide) (lv := [(0, .ref (G.1 t)), (1, .int x1), (2, .int x2)]) rfl (fun K hl hC => ?_)
  subst hl
  unfold wX5_append at h
  show V YC G K (Zv YC G K Q) 3 σ 0 [(0, .ref (G.1 t)), (1, .int x1), (2, .int x2)] []
  refine r_aload_n hC 0 dX5_append_0 (rfl : 0 + 1 = 1) rfl rfl ?_
  obtain ⟨ty_1, h⟩ := h
  refine r_geti hC t 4 3 fw_X5_21 ty_1 dX5_append_1 (rfl : 1 + 3 = 4) ?_
  refine r_if_lt hC dX5_append_4 (rfl : 4 + 3 = 7) (tgt := 57) (by decide) (fun q => ?_) (fun q => ?_)
  · replace h := if_t h q
    exact r_vret hC rfl h dX5_append_57
  · replace h := if_f h q
    refine r_aload_n hC 0 dX5_append_7 (rfl : 7 + 1 = 8) rfl rfl ?_
    refine r_geti hC t 4 3 fw_X5_21 ty_1 dX5_append_8 (rfl : 8 + 3 = 11) ?_
    refine r_sipush hC dX5_append_11 (rfl : 11 + 3 = 14) (v := 200) (by decide) ?_
    refine r_icmp_ge hC dX5_append_14 (rfl : 14 + 3 = 17) (tgt := 57) (by decide) (fun q => ?_) (fun q => ?_)
    · replace h := if_t h q
      exact r_vret hC rfl h dX5_append_57
    · replace h := if_f h q
      refine r_aload_n hC 0 dX5_append_17 (rfl : 17 + 1 = 18) rfl rfl ?_
      refine r_getr hC t 4 0 (t + 1) (o := 1) fw_X5_9 ty_1 rfl dX5_append_18 (rfl : 18 + 3 = 21) ?_
      refine r_aload_n hC 0 dX5_append_21 (rfl : 21 + 1 = 22) rfl rfl ?_
      refine r_geti hC t 4 3 fw_X5_21 ty_1 dX5_append_22 (rfl : 22 + 3 = 25) ?_
      refine r_iload_n hC 1 dX5_append_25 (rfl : 25 + 1 = 26) rfl rfl ?_
      obtain ⟨q_2, h⟩ := h
      obtain ⟨σ_3, e_4, h⟩ := lt_nm h
      refine r_iast hC (t + 1) (la4_1 ty_1).1 (by rw [(la4_1 ty_1).2]; exact q_2) e_4 dX5_append_26 (rfl : 26 + 1 = 27) ?_
      refine r_aload_n hC 0 dX5_append_27 (rfl : 27 + 1 = 28) rfl rfl ?_
      refine r_getr hC t 4 1 (t + 2) (o := 2) fw_X5_15 ty_1 rfl dX5_append_28 (rfl : 28 + 3 = 31) ?_
      refine r_aload_n hC 0 dX5_append_31 (rfl : 31 + 1 = 32) rfl rfl ?_
      refine r_geti hC t 4 3 fw_X5_21 ty_1 dX5_append_32 (rfl : 32 + 3 = 35) ?_
      refine r_iload_n hC 2 dX5_append_35 (rfl : 35 + 1 = 36) rfl rfl ?_
      obtain ⟨q_5, h⟩ := h
      obtain ⟨σ_6, e_7, h⟩ := lt_nm h
      refine r_iast hC (t + 2) (la4_2 ty_1).1 (by rw [(la4_2 ty_1).2]; exact q_5) e_7 dX5_append_36 (rfl : 36 + 1 = 37) ?_
      refine r_aload_n hC 0 dX5_append_37 (rfl : 37 + 1 = 38) rfl rfl ?_
      refine r_getr hC t 4 2 (t + 3) (o := 3) fw_X5_18 ty_1 rfl dX5_append_38 (rfl : 38 + 3 = 41) ?_
      refine r_aload_n hC 0 dX5_append_41 (rfl : 41 + 1 = 42) rfl rfl ?_
      refine r_geti hC t 4 3 fw_X5_21 ty_1 dX5_append_42 (rfl : 42 + 3 = 45) ?_
      refine r_iconst hC dX5_append_45 (rfl : 45 + 1 = 46) (v := 1) (by decide) ?_
      obtain ⟨q_8, h⟩ := h
      obtain ⟨σ_9, e_10, h⟩ := lt_nm h
      refine r_iast hC (t + 3) (la4_3 ty_1).1 (by rw [(la4_3 ty_1).2]; exact q_8) e_10 dX5_append_46 (rfl : 46 + 1 = 47) ?_
      refine r_aload_n hC 0 dX5_append_47 (rfl : 47 + 1 = 48) rfl rfl ?_
      refine r_dup hC dX5_append_48 (rfl : 48 + 1 = 49) rfl ?_
      refine r_geti hC t 4 3 fw_X5_21 ty_1 dX5_append_49 (rfl : 49 + 3 = 52) ?_
      refine r_iconst hC dX5_append_52 (rfl : 52 + 1 = 53) (v := 1) (by decide) ?_
      refine r_iadd hC dX5_append_53 (rfl : 53 + 1 = 54) ?_
      obtain ⟨σ_11, e_12, h⟩ := lt_nm h
      refine r_puti hC t 4 3 fw_X5_21 fp_5_3 ty_1 e_12 dX5_append_54 (rfl : 54 + 3 = 57) ?_
      exact r_vret hC rfl h dX5_append_57
set_option maxHeartbeats 4000000 in
set_option maxRecDepth 100000 in
theorem mX5_appendRun {G : Gx} {b k : Nat} {l : Launch} (hS : Sok YC G)  (hk : 1 ≤ k) (t : Nat) (q1 : Nat) (x2 : Int32) (x3 : Int32) (σ : Sg) (Q : Sg → Prop) (h : wX5_appendRun  t q1 x2 x3 σ Q) : Mv YC G b l yX5_appendRun cX5_appendRun 4 k [.ref (G.1 t), .ref (G.1 q1), .int x2, .int x3] σ Q := by
  refine enter hS (by decide +kernel) (by decide) (lv := [(0, .ref (G.1 t)), (1, .ref (G.1 q1)), (2, .int x2), (3, .int x3)]) rfl (fun K hl hC => ?_)
  subst hl
  unfold wX5_appendRun at h
  show V YC G K (Zv YC G K Q) 4 σ 0 [(0, .ref (G.1 t)), (1, .ref (G.1 q1)), (2, .int x2), (3, .int x3)] []
  refine r_iload_n hC 2 dX5_appendRun_0 (rfl : 0 + 1 = 1) rfl rfl ?_
  refine r_if_lt hC dX5_appendRun_1 (rfl : 1 + 3 = 4) (tgt := 30) (by decide) (fun q => ?_) (fun q => ?_)
  · replace h := if_t h q
    exact r_vret hC rfl h dX5_appendRun_30
  · replace h := if_f h q
    refine r_iload_n hC 3 dX5_appendRun_4 (rfl : 4 + 1 = 5) rfl rfl ?_
    refine r_if_lt hC dX5_appendRun_5 (rfl : 5 + 3 = 8) (tgt := 30) (by decide) (fun q => ?_) (fun q => ?_)
    · replace h := if_t h q
      exact r_vret hC rfl h dX5_appendRun_30
    · replace h := if_f h q
      refine r_iload_n hC 2 dX5_appendRun_8 (rfl : 8 + 1 = 9) rfl rfl ?_
      refine r_aload_n hC 1 dX5_appendRun_9 (rfl : 9 + 1 = 10) rfl rfl ?_
      obtain ⟨ty_1, h⟩ := h
      refine r_geti hC q1 4 3 fw_X5_21 ty_1 dX5_appendRun_10 (rfl : 10 + 3 = 13) ?_
      refine r_iload_n hC 3 dX5_appendRun_13 (rfl : 13 + 1 = 14) rfl rfl ?_
      refine r_isub hC dX5_appendRun_14 (rfl : 14 + 1 = 15) ?_
      refine r_icmp_gt hC dX5_appendRun_15 (rfl : 15 + 3 = 18) (tgt := 30) (by decide) (fun q => ?_) (fun q => ?_)
      · replace h := if_t h q
        exact r_vret hC rfl h dX5_appendRun_30
      · replace h := if_f h q
        refine r_aload_n hC 0 dX5_appendRun_18 (rfl : 18 + 1 = 19) rfl rfl ?_
        obtain ⟨ty_2, h⟩ := h
        refine r_geti hC t 4 3 fw_X5_21 ty_2 dX5_appendRun_19 (rfl : 19 + 3 = 22) ?_
        refine r_sipush hC dX5_appendRun_22 (rfl : 22 + 3 = 25) (v := 200) (by decide) ?_
        refine r_iload_n hC 3 dX5_appendRun_25 (rfl : 25 + 1 = 26) rfl rfl ?_
        refine r_isub hC dX5_appendRun_26 (rfl : 26 + 1 = 27) ?_
        refine r_icmp_le hC dX5_appendRun_27 (rfl : 27 + 3 = 30) (tgt := 31) (by decide) (fun q => ?_) (fun q => ?_)
        · replace h := if_t h q
          refine r_aload_n hC 1 dX5_appendRun_31 (rfl : 31 + 1 = 32) rfl rfl ?_
          refine r_getr hC q1 4 0 (q1 + 1) (o := 1) fw_X5_9 ty_1 rfl dX5_appendRun_32 (rfl : 32 + 3 = 35) ?_
          refine r_iload_n hC 2 dX5_appendRun_35 (rfl : 35 + 1 = 36) rfl rfl ?_
          refine r_aload_n hC 0 dX5_appendRun_36 (rfl : 36 + 1 = 37) rfl rfl ?_
          refine r_getr hC t 4 0 (t + 1) (o := 1) fw_X5_9 ty_2 rfl dX5_appendRun_37 (rfl : 37 + 3 = 40) ?_
          refine r_aload_n hC 0 dX5_appendRun_40 (rfl : 40 + 1 = 41) rfl rfl ?_
          refine r_geti hC t 4 3 fw_X5_21 ty_2 dX5_appendRun_41 (rfl : 41 + 3 = 44) ?_
          refine r_iload_n hC 3 dX5_appendRun_44 (rfl : 44 + 1 = 45) rfl rfl ?_
          obtain ⟨q_3, h⟩ := h
          obtain ⟨σ_4, e_5, h⟩ := lt_nm h
          refine r_copy hC (q1 + 1) (t + 1) cs_X5_35 (by omega) (Nat.le_of_ble_eq_true rfl) (la4_1 ty_1).1 (la4_1 ty_2).1 (by rw [(la4_1 ty_1).2, (la4_1 ty_2).2]; exact q_3) e_5 dX5_appendRun_45 (rfl : 45 + 3 = 48) ?_
          refine r_aload_n hC 1 dX5_appendRun_48 (rfl : 48 + 1 = 49) rfl rfl ?_
          refine r_getr hC q1 4 1 (q1 + 2) (o := 2) fw_X5_15 ty_1 rfl dX5_appendRun_49 (rfl : 49 + 3 = 52) ?_
          refine r_iload_n hC 2 dX5_appendRun_52 (rfl : 52 + 1 = 53) rfl rfl ?_
          refine r_aload_n hC 0 dX5_appendRun_53 (rfl : 53 + 1 = 54) rfl rfl ?_
          refine r_getr hC t 4 1 (t + 2) (o := 2) fw_X5_15 ty_2 rfl dX5_appendRun_54 (rfl : 54 + 3 = 57) ?_
          refine r_aload_n hC 0 dX5_appendRun_57 (rfl : 57 + 1 = 58) rfl rfl ?_
          refine r_geti hC t 4 3 fw_X5_21 ty_2 dX5_appendRun_58 (rfl : 58 + 3 = 61) ?_
          refine r_iload_n hC 3 dX5_appendRun_61 (rfl : 61 + 1 = 62) rfl rfl ?_
          obtain ⟨q_6, h⟩ := h
          obtain ⟨σ_7, e_8, h⟩ := lt_nm h
          refine r_copy hC (q1 + 2) (t + 2) cs_X5_35 (by omega) (Nat.le_of_ble_eq_true rfl) (la4_2 ty_1).1 (la4_2 ty_2).1 (by rw [(la4_2 ty_1).2, (la4_2 ty_2).2]; exact q_6) e_8 dX5_appendRun_62 (rfl : 62 + 3 = 65) ?_
          refine r_aload_n hC 1 dX5_appendRun_65 (rfl : 65 + 1 = 66) rfl rfl ?_
          refine r_getr hC q1 4 2 (q1 + 3) (o := 3) fw_X5_18 ty_1 rfl dX5_appendRun_66 (rfl : 66 + 3 = 69) ?_
          refine r_iload_n hC 2 dX5_appendRun_69 (rfl : 69 + 1 = 70) rfl rfl ?_
          refine r_aload_n hC 0 dX5_appendRun_70 (rfl : 70 + 1 = 71) rfl rfl ?_
          refine r_getr hC t 4 2 (t + 3) (o := 3) fw_X5_18 ty_2 rfl dX5_appendRun_71 (rfl : 71 + 3 = 74) ?_
          refine r_aload_n hC 0 dX5_appendRun_74 (rfl : 74 + 1 = 75) rfl rfl ?_
          refine r_geti hC t 4 3 fw_X5_21 ty_2 dX5_appendRun_75 (rfl : 75 + 3 = 78) ?_
          refine r_iload_n hC 3 dX5_appendRun_78 (rfl : 78 + 1 = 79) rfl rfl ?_
          obtain ⟨q_9, h⟩ := h
          obtain ⟨σ_10, e_11, h⟩ := lt_nm h
          refine r_copy hC (q1 + 3) (t + 3) cs_X5_35 (by omega) (Nat.le_of_ble_eq_true rfl) (la4_3 ty_1).1 (la4_3 ty_2).1 (by rw [(la4_3 ty_1).2, (la4_3 ty_2).2]; exact q_9) e_11 dX5_appendRun_79 (rfl : 79 + 3 = 82) ?_
          refine r_aload_n hC 0 dX5_appendRun_82 (rfl : 82 + 1 = 83) rfl rfl ?_
          refine r_dup hC dX5_appendRun_83 (rfl : 83 + 1 = 84) rfl ?_
          refine r_geti hC t 4 3 fw_X5_21 ty_2 dX5_appendRun_84 (rfl : 84 + 3 = 87) ?_
          refine r_iload_n hC 3 dX5_appendRun_87 (rfl : 87 + 1 = 88) rfl rfl ?_
          refine r_iadd hC dX5_appendRun_88 (rfl : 88 + 1 = 89) ?_
          obtain ⟨σ_12, e_13, h⟩ := lt_nm h
          refine r_puti hC t 4 3 fw_X5_21 fp_5_3 ty_2 e_13 dX5_appendRun_89 (rfl : 89 + 3 = 92) ?_
          exact r_vret hC rfl h dX5_appendRun_92
        · replace h := if_f h q
          exact r_vret hC rfl h dX5_appendRun_30
set_option maxHeartbeats 4000000 in
set_option maxRecDepth 100000 in
theorem mX7_within {G : Gx} {b k : Nat} {l : Launch} (hS : Sok YC G)  (hk : 0 ≤ k) (x0 : Int32) (x1 : Int32) (x2 : Int32) (σ : Sg) (Q : Int32 → Sg → Prop) (h : wX7_within  x0 x1 x2 σ Q) : Mi YC G b l yX7_within cX7_within 3 .boolean k [.int x0, .int x1, .int x2] σ Q := by
  refine enter hS (by decide +kernel) (by decide) (lv := [(0, .int x0), (1, .int x1), (2, .int x2)]) rfl (fun K hl hC => ?_)
  subst hl
  unfold wX7_within at h
  show V YC G K (Zi YC G K Q) 3 σ 0 [(0, .int x0), (1, .int x1), (2, .int x2)] []
  refine r_iload_n hC 0 dX7_within_0 (rfl : 0 + 1 = 1) rfl rfl ?_
  refine r_iload_n hC 1 dX7_within_1 (rfl : 1 + 1 = 2) rfl rfl ?_
  refine r_icmp_lt hC dX7_within_2 (rfl : 2 + 3 = 5) (tgt := 14) (by decide) (fun q => ?_) (fun q => ?_)
  · replace h := if_t h q
    refine r_iconst hC dX7_within_14 (rfl : 14 + 1 = 15) (v := 0) (by decide) ?_
    exact r_zret hC rfl (by decide) h dX7_within_15
  · replace h := if_f h q
    refine r_iload_n hC 0 dX7_within_5 (rfl : 5 + 1 = 6) rfl rfl ?_
    refine r_iload_n hC 2 dX7_within_6 (rfl : 6 + 1 = 7) rfl rfl ?_
    refine r_icmp_gt hC dX7_within_7 (rfl : 7 + 3 = 10) (tgt := 14) (by decide) (fun q => ?_) (fun q => ?_)
    · replace h := if_t h q
      refine r_iconst hC dX7_within_14 (rfl : 14 + 1 = 15) (v := 0) (by decide) ?_
      exact r_zret hC rfl (by decide) h dX7_within_15
    · replace h := if_f h q
      refine r_iconst hC dX7_within_10 (rfl : 10 + 1 = 11) (v := 1) (by decide) ?_
      refine r_goto hC dX7_within_11 (tgt := 15) (by decide) ?_
      exact r_zret hC rfl (by decide) h dX7_within_15
set_option maxHeartbeats 4000000 in
set_option maxRecDepth 100000 in
theorem mX7_partsOf {G : Gx} {b k : Nat} {l : Launch} (hS : Sok YC G)  (hk : 0 ≤ k) (x0 : Int32) (σ : Sg) (Q : Int32 → Sg → Prop) (h : wX7_partsOf  x0 σ Q) : Mi YC G b l yX7_partsOf cX7_partsOf 1 .int k [.int x0] σ Q := by
  refine enter hS (by decide +kernel) (by decide) (lv := [(0, .int x0)]) rfl (fun K hl hC => ?_)
  subst hl
  unfold wX7_partsOf at h
  show V YC G K (Zi YC G K Q) 1 σ 0 [(0, .int x0)] []
  refine r_iload_n hC 0 dX7_partsOf_0 (rfl : 0 + 1 = 1) rfl rfl ?_
  refine r_if_lt hC dX7_partsOf_1 (rfl : 1 + 3 = 4) (tgt := 20) (by decide) (fun q => ?_) (fun q => ?_)
  · replace h := if_t h q
    refine r_iconst hC dX7_partsOf_20 (rfl : 20 + 1 = 21) (v := 0) (by decide) ?_
    exact r_iret hC rfl h dX7_partsOf_21
  · replace h := if_f h q
    refine r_iload_n hC 0 dX7_partsOf_4 (rfl : 4 + 1 = 5) rfl rfl ?_
    refine r_gets hC wd_361 dX7_partsOf_5 (rfl : 5 + 3 = 8) ?_
    refine r_slen hC dX7_partsOf_8 (rfl : 8 + 1 = 9) ?_
    refine r_icmp_ge hC dX7_partsOf_9 (rfl : 9 + 3 = 12) (tgt := 20) (by decide) (fun q => ?_) (fun q => ?_)
    · replace h := if_t h q
      refine r_iconst hC dX7_partsOf_20 (rfl : 20 + 1 = 21) (v := 0) (by decide) ?_
      exact r_iret hC rfl h dX7_partsOf_21
    · replace h := if_f h q
      refine r_gets hC wd_361 dX7_partsOf_12 (rfl : 12 + 3 = 15) ?_
      refine r_iload_n hC 0 dX7_partsOf_15 (rfl : 15 + 1 = 16) rfl rfl ?_
      obtain ⟨q_1, h⟩ := h
      refine r_sld hC q_1 dX7_partsOf_16 (rfl : 16 + 1 = 17) ?_
      refine r_goto hC dX7_partsOf_17 (tgt := 21) (by decide) ?_
      exact r_iret hC rfl h dX7_partsOf_21
set_option maxHeartbeats 4000000 in
set_option maxRecDepth 100000 in
theorem mX7_placeAt {G : Gx} {b k : Nat} {l : Launch} (hS : Sok YC G)  (hk : 1 ≤ k) (x1 : Int32) (σ : Sg) (Q : Option Nat → Sg → Prop) (h : wX7_placeAt  x1 σ Q) : Mq YC G b l yX7_placeAt cX7_placeAt 2 (.object "MakersBench$Tree") k [.ref (G.1 0), .int x1] σ Q := by
  refine enter hS (by decide +kernel) (by decide) (lv := [(0, .ref (G.1 0)), (1, .int x1)]) rfl (fun K hl hC => ?_)
  subst hl
  unfold wX7_placeAt at h
  show V YC G K (Zq YC G K Q) 2 σ 0 [(0, .ref (G.1 0)), (1, .int x1)] []
  refine r_iload_n hC 1 dX7_placeAt_0 (rfl : 0 + 1 = 1) rfl rfl ?_
  refine r_iconst hC dX7_placeAt_1 (rfl : 1 + 1 = 2) (v := 0) (by decide) ?_
  refine r_bipush hC dX7_placeAt_2 (rfl : 2 + 2 = 4) (v := 19) (by decide) ?_
  refine r_callSi hC cs_X7_75 (by omega) (mX7_within hC.2.2.2.2.2.2.2.2.1 (k := k - 1) (by omega) x1 0 19 σ _ h) rfl rfl (Nat.le_of_ble_eq_true rfl) dX7_placeAt_4 (rfl : 4 + 3 = 7) (fun r_2 σ_1 h => ?_)
  refine r_if_eq hC dX7_placeAt_7 (rfl : 7 + 3 = 10) (tgt := 19) (by decide) (fun q => ?_) (fun q => ?_)
  · replace h := if_t h q
    refine r_null hC dX7_placeAt_19 (rfl : 19 + 1 = 20) ?_
    exact r_aret (o := none) hC rfl h dX7_placeAt_20
  · replace h := if_f h q
    refine r_aload_n hC 0 dX7_placeAt_10 (rfl : 10 + 1 = 11) rfl rfl ?_
    refine r_getr hC 0 6 2 14 (o := 14) fw_X7_25 rfl rfl dX7_placeAt_11 (rfl : 11 + 3 = 14) ?_
    refine r_iload_n hC 1 dX7_placeAt_14 (rfl : 14 + 1 = 15) rfl rfl ?_
    obtain ⟨q_3, h⟩ := h
    refine r_aald hC 14 (Or.inr rfl) q_3 dX7_placeAt_15 (rfl : 15 + 1 = 16) ?_
    refine r_goto hC dX7_placeAt_16 (tgt := 20) (by decide) ?_
    exact r_aret (o := (some (YC.2.2.2 14 (Int32.toNatClampNeg x1)))) hC rfl h dX7_placeAt_20
set_option maxHeartbeats 4000000 in
set_option maxRecDepth 100000 in
theorem sX7_programAt_17 {G : Gx} {b k : Nat} {K : Kx} {l : Launch} (hl : K.2.1 = l) (hC : Cx YC G b K cX7_programAt RX7 3 (some (.object "MakersBench$Tree")) k)  (hk : 2 ≤ k)  (Q : Option Nat → Sg → Prop)   (σ : Sg) (h : wX7_programAt_17   σ Q) : V YC G K (Zq YC G K Q) 3 σ 17 [] [] := by
  subst hl
  unfold wX7_programAt_17 at h
  refine r_null hC dX7_programAt_17 (rfl : 17 + 1 = 18) ?_
  refine r_goto hC dX7_programAt_18 (tgt := 22) (by decide) ?_
  exact r_aret (o := none) hC rfl h dX7_programAt_22
set_option maxHeartbeats 4000000 in
set_option maxRecDepth 100000 in
theorem mX7_programAt {G : Gx} {b k : Nat} {l : Launch} (hS : Sok YC G)  (hk : 2 ≤ k) (x1 : Int32) (σ : Sg) (Q : Option Nat → Sg → Prop) (h : wX7_programAt  x1 σ Q) : Mq YC G b l yX7_programAt cX7_programAt 3 (.object "MakersBench$Tree") k [.ref (G.1 0), .int x1] σ Q := by
  refine enter hS (by decide +kernel) (by decide) (lv := [(0, .ref (G.1 0)), (1, .int x1)]) rfl (fun K hl hC => ?_)
  subst hl
  unfold wX7_programAt at h
  show V YC G K (Zq YC G K Q) 3 σ 0 [(0, .ref (G.1 0)), (1, .int x1)] []
  refine r_aload_n hC 0 dX7_programAt_0 (rfl : 0 + 1 = 1) rfl rfl ?_
  refine r_iload_n hC 1 dX7_programAt_1 (rfl : 1 + 1 = 2) rfl rfl ?_
  refine r_callVq hC cs_X7_85 rfl (by omega) (mX7_placeAt hC.2.2.2.2.2.2.2.2.1 (k := k - 1) (by omega) x1 σ _ h) rfl rfl (Nat.le_of_ble_eq_true rfl) dX7_programAt_2 (rfl : 2 + 3 = 5) (fun o_2 σ_1 h => ?_)
  refine r_astore_nQ hC dX7_programAt_5 (rfl : 5 + 1 = 6) rfl (by decide) (lv2 := [(2, rv G o_2), (0, .ref (G.1 0)), (1, .int x1)]) rfl ?_
  refine r_aload_nQ hC 0 dX7_programAt_6 (rfl : 6 + 1 = 7) rfl rfl ?_
  refine r_ifnull hC dX7_programAt_7 (rfl : 7 + 3 = 10) (tgt := 17) (by decide) (fun q => ?_) (fun z_3 q => ?_)
  · subst q
    replace h := h.1 rfl
    exact (sX7_programAt_17 rfl hC hk  Q   σ_1 h).sub [] rfl
  · subst q
    replace h := h.2 z_3 rfl
    refine r_aload_n hC 0 dX7_programAt_10 (rfl : 10 + 1 = 11) rfl rfl ?_
    obtain ⟨ty_4, h⟩ := h
    refine r_geti hC z_3 4 3 fw_X7_93 ty_4 dX7_programAt_11 (rfl : 11 + 3 = 14) ?_
    refine r_if_ne hC dX7_programAt_14 (rfl : 14 + 3 = 17) (tgt := 21) (by decide) (fun q => ?_) (fun q => ?_)
    · replace h := if_f h q
      refine r_aload_n hC 0 dX7_programAt_21 (rfl : 21 + 1 = 22) rfl rfl ?_
      exact r_aret (o := (some z_3)) hC rfl h dX7_programAt_22
    · replace h := if_t h q
      exact (sX7_programAt_17 rfl hC hk  Q   σ_1 h).sub [] rfl
set_option maxHeartbeats 4000000 in
set_option maxRecDepth 100000 in
theorem sX5_measure_25 {G : Gx} {b k : Nat} {K : Kx} {l : Launch} (hl : K.2.1 = l) (hC : Cx YC G b K cX5_measure RX5 4 none k)  (hk : 1 ≤ k) (K7 : Nat → Int32 → Sg → Prop) (Q : Sg → Prop) (h7 : ∀ (t : Nat) (x1 : Int32) (σ : Sg), K7 t x1 σ → V YC G K (Zv YC G K Q) 4 σ 7 [(0, .ref (G.1 t)), (1, .int x1)] []) : ∀ (n : Nat) (t : Nat) (x1 : Int32) (x2 : Int32) (x3 : Int32) (σ : Sg), wX5_measure_25 K7 Q n t x1 x2 x3 σ → V YC G K (Zv YC G K Q) 4 σ 25 [(0, .ref (G.1 t)), (1, .int x1), (2, .int x2), (3, .int x3)] [] := by
  subst hl
  intro n
  induction n with
  | zero =>
    intro t x1 x2 x3 σ h
    exact h.elim
  | succ n ih =>
    intro t x1 x2 x3 σ h
    have h : wX5_measure_25_b K7 (wX5_measure_25 K7 Q n) t x1 x2 x3 σ Q := h
    unfold wX5_measure_25_b at h
    refine r_iload_n hC 3 dX5_measure_25 (rfl : 25 + 1 = 26) rfl rfl ?_
    refine r_if_le hC dX5_measure_26 (rfl : 26 + 3 = 29) (tgt := 41) (by decide) (fun q => ?_) (fun q => ?_)
    · replace h := if_t h q
      refine r_aload_n hC 0 dX5_measure_41 (rfl : 41 + 1 = 42) rfl rfl ?_
      obtain ⟨ty_1, h⟩ := h
      refine r_getr hC t 4 2 (t + 3) (o := 3) fw_X5_18 ty_1 rfl dX5_measure_42 (rfl : 42 + 3 = 45) ?_
      refine r_iload_n hC 1 dX5_measure_45 (rfl : 45 + 1 = 46) rfl rfl ?_
      refine r_iload_n hC 2 dX5_measure_46 (rfl : 46 + 1 = 47) rfl rfl ?_
      refine r_iload_n hC 1 dX5_measure_47 (rfl : 47 + 1 = 48) rfl rfl ?_
      refine r_isub hC dX5_measure_48 (rfl : 48 + 1 = 49) ?_
      obtain ⟨q_2, h⟩ := h
      obtain ⟨σ_3, e_4, h⟩ := lt_nm h
      refine r_iast hC (t + 3) (la4_3 ty_1).1 (by rw [(la4_3 ty_1).2]; exact q_2) e_4 dX5_measure_49 (rfl : 49 + 1 = 50) ?_
      obtain ⟨x1_5, e_6, h⟩ := lt_nm h
      refine r_iinc hC (j := 1) dX5_measure_50 (rfl : 50 + 3 = 53) rfl (zz := -1) (by decide) e_6 (by decide) (lv2 := [(1, .int x1_5), (0, .ref (G.1 t)), (2, .int x2), (3, .int x3)]) rfl ?_
      refine r_goto hC dX5_measure_53 (tgt := 7) (by decide) ?_
      exact (h7 t x1_5 σ_3 h).sub [1, 0] rfl
    · replace h := if_f h q
      refine r_aload_n hC 0 dX5_measure_29 (rfl : 29 + 1 = 30) rfl rfl ?_
      refine r_iload_n hC 2 dX5_measure_30 (rfl : 30 + 1 = 31) rfl rfl ?_
      obtain ⟨ty_7, h⟩ := h
      refine r_callVi hC cs_X5_45 ty_7 (by omega) (mX5_behind hC.2.2.2.2.2.2.2.2.1 (k := k - 1) (by omega) t x2 σ _ h) rfl rfl (Nat.le_of_ble_eq_true rfl) dX5_measure_31 (rfl : 31 + 3 = 34) (fun r_9 σ_8 h => ?_)
      refine r_istore_n hC dX5_measure_34 (rfl : 34 + 1 = 35) rfl (by decide) rfl (lv2 := [(2, .int r_9), (0, .ref (G.1 t)), (1, .int x1), (3, .int x3)]) rfl ?_
      obtain ⟨x3_10, e_11, h⟩ := lt_nm h
      refine r_iinc hC (j := 3) dX5_measure_35 (rfl : 35 + 3 = 38) rfl (zz := -1) (by decide) e_11 (by decide) (lv2 := [(3, .int x3_10), (2, .int r_9), (0, .ref (G.1 t)), (1, .int x1)]) rfl ?_
      refine r_goto hC dX5_measure_38 (tgt := 25) (by decide) ?_
      exact (ih t x1 r_9 x3_10 σ_8 h).sub [2, 3, 1, 0] rfl
set_option maxHeartbeats 4000000 in
set_option maxRecDepth 100000 in
theorem sX5_measure_7 {G : Gx} {b k : Nat} {K : Kx} {l : Launch} (hl : K.2.1 = l) (hC : Cx YC G b K cX5_measure RX5 4 none k)  (hk : 1 ≤ k)  (Q : Sg → Prop)  : ∀ (n : Nat) (t : Nat) (x1 : Int32) (σ : Sg), wX5_measure_7  Q n t x1 σ → V YC G K (Zv YC G K Q) 4 σ 7 [(0, .ref (G.1 t)), (1, .int x1)] [] := by
  subst hl
  intro n
  induction n with
  | zero =>
    intro t x1 σ h
    exact h.elim
  | succ n ih =>
    intro t x1 σ h
    have h : wX5_measure_7_b  (wX5_measure_7  Q n) t x1 σ Q := h
    unfold wX5_measure_7_b at h
    refine r_iload_n hC 1 dX5_measure_7 (rfl : 7 + 1 = 8) rfl rfl ?_
    refine r_if_lt hC dX5_measure_8 (rfl : 8 + 3 = 11) (tgt := 56) (by decide) (fun q => ?_) (fun q => ?_)
    · replace h := if_t h q
      exact r_vret hC rfl h dX5_measure_56
    · replace h := if_f h q
      refine r_iload_n hC 1 dX5_measure_11 (rfl : 11 + 1 = 12) rfl rfl ?_
      refine r_iconst hC dX5_measure_12 (rfl : 12 + 1 = 13) (v := 1) (by decide) ?_
      refine r_iadd hC dX5_measure_13 (rfl : 13 + 1 = 14) ?_
      obtain ⟨x2_12, e_13, h⟩ := lt_nm h
      refine r_istore_n hC dX5_measure_14 (rfl : 14 + 1 = 15) rfl (by decide) e_13 (lv2 := [(2, .int x2_12), (0, .ref (G.1 t)), (1, .int x1)]) rfl ?_
      refine r_aload_n hC 1 dX5_measure_15 (rfl : 15 + 1 = 16) rfl rfl ?_
      obtain ⟨ty_14, h⟩ := h
      refine r_getr hC t 4 0 (t + 1) (o := 1) fw_X5_9 ty_14 rfl dX5_measure_16 (rfl : 16 + 3 = 19) ?_
      refine r_iload_n hC 2 dX5_measure_19 (rfl : 19 + 1 = 20) rfl rfl ?_
      obtain ⟨q_15, h⟩ := h
      refine r_iald hC (t + 1) (la4_1 ty_14).1 (by rw [(la4_1 ty_14).2]; exact q_15) dX5_measure_20 (rfl : 20 + 1 = 21) ?_
      refine r_callSi hC cs_X5_51 (by omega) (mX7_partsOf hC.2.2.2.2.2.2.2.2.1 (k := k - 1) (by omega) (σ.1 (t + 1) (Int32.toNatClampNeg x1)) σ _ h) rfl rfl (Nat.le_of_ble_eq_true rfl) dX5_measure_21 (rfl : 21 + 3 = 24) (fun r_17 σ_16 h => ?_)
      refine r_istore_n hC dX5_measure_24 (rfl : 24 + 1 = 25) rfl (by decide) rfl (lv2 := [(3, .int r_17), (2, .int x2_12), (0, .ref (G.1 t)), (1, .int x1)]) rfl ?_
      obtain ⟨nn, h⟩ := h
      exact (sX5_measure_25 rfl hC hk (wX5_measure_7  Q n) Q ih nn t x1 x2_12 r_17 σ_16 h).sub [2, 3, 1, 0] rfl
set_option maxHeartbeats 4000000 in
set_option maxRecDepth 100000 in
theorem mX5_measure {G : Gx} {b k : Nat} {l : Launch} (hS : Sok YC G)  (hk : 1 ≤ k) (t : Nat) (σ : Sg) (Q : Sg → Prop) (h : wX5_measure  t σ Q) : Mv YC G b l yX5_measure cX5_measure 4 k [.ref (G.1 t)] σ Q := by
  refine enter hS (by decide +kernel) (by decide) (lv := [(0, .ref (G.1 t))]) rfl (fun K hl hC => ?_)
  subst hl
  unfold wX5_measure at h
  show V YC G K (Zv YC G K Q) 4 σ 0 [(0, .ref (G.1 t))] []
  refine r_aload_n hC 0 dX5_measure_0 (rfl : 0 + 1 = 1) rfl rfl ?_
  obtain ⟨ty_18, h⟩ := h
  refine r_geti hC t 4 3 fw_X5_21 ty_18 dX5_measure_1 (rfl : 1 + 3 = 4) ?_
  refine r_iconst hC dX5_measure_4 (rfl : 4 + 1 = 5) (v := 1) (by decide) ?_
  refine r_isub hC dX5_measure_5 (rfl : 5 + 1 = 6) ?_
  obtain ⟨x1_19, e_20, h⟩ := lt_nm h
  refine r_istore_n hC dX5_measure_6 (rfl : 6 + 1 = 7) rfl (by decide) e_20 (lv2 := [(1, .int x1_19), (0, .ref (G.1 t))]) rfl ?_
  obtain ⟨nn, h⟩ := h
  exact (sX5_measure_7 rfl hC hk  Q  nn t x1_19 σ h).sub [1, 0] rfl
set_option maxHeartbeats 4000000 in
set_option maxRecDepth 100000 in
theorem mX5_join {G : Gx} {b k : Nat} {l : Launch} (hS : Sok YC G)  (hk : 2 ≤ k) (t : Nat) (q1 : Nat) (x2 : Int32) (q3 : Nat) (x4 : Int32) (σ : Sg) (Q : Sg → Prop) (h : wX5_join  t q1 x2 q3 x4 σ Q) : Mv YC G b l yX5_join cX5_join 5 k [.ref (G.1 t), .ref (G.1 q1), .int x2, .ref (G.1 q3), .int x4] σ Q := by
  refine enter hS (by decide +kernel) (by decide) (lv := [(0, .ref (G.1 t)), (1, .ref (G.1 q1)), (2, .int x2), (3, .ref (G.1 q3)), (4, .int x4)]) rfl (fun K hl hC => ?_)
  subst hl
  unfold wX5_join at h
  show V YC G K (Zv YC G K Q) 5 σ 0 [(0, .ref (G.1 t)), (1, .ref (G.1 q1)), (2, .int x2), (3, .ref (G.1 q3)), (4, .int x4)] []
  refine r_aload_n hC 0 dX5_join_0 (rfl : 0 + 1 = 1) rfl rfl ?_
  refine r_iconst hC dX5_join_1 (rfl : 1 + 1 = 2) (v := 0) (by decide) ?_
  obtain ⟨ty_1, h⟩ := h
  obtain ⟨σ_2, e_3, h⟩ := lt_nm h
  refine r_puti hC t 4 3 fw_X5_21 fp_5_3 ty_1 e_3 dX5_join_2 (rfl : 2 + 3 = 5) ?_
  refine r_aload_n hC 0 dX5_join_5 (rfl : 5 + 1 = 6) rfl rfl ?_
  refine r_aload_n hC 1 dX5_join_6 (rfl : 6 + 1 = 7) rfl rfl ?_
  refine r_iconst hC dX5_join_7 (rfl : 7 + 1 = 8) (v := 0) (by decide) ?_
  refine r_iload_n hC 2 dX5_join_8 (rfl : 8 + 1 = 9) rfl rfl ?_
  refine r_callVv hC cs_X5_41 ty_1 (by omega) (mX5_appendRun hC.2.2.2.2.2.2.2.2.1 (k := k - 1) (by omega) t q1 0 x2 σ_2 _ h) rfl rfl (Nat.le_of_ble_eq_true rfl) dX5_join_9 (rfl : 9 + 3 = 12) (fun  σ_4 h => ?_)
  refine r_aload_n hC 0 dX5_join_12 (rfl : 12 + 1 = 13) rfl rfl ?_
  refine r_aload_n hC 3 dX5_join_13 (rfl : 13 + 1 = 14) rfl rfl ?_
  refine r_iload hC 4 dX5_join_14 (rfl : 14 + 2 = 16) rfl ?_
  refine r_aload_n hC 3 dX5_join_16 (rfl : 16 + 1 = 17) rfl rfl ?_
  refine r_iload hC 4 dX5_join_17 (rfl : 17 + 2 = 19) rfl ?_
  obtain ⟨ty_5, h⟩ := h
  refine r_callVi hC cs_X5_25 ty_5 (by omega) (mX5_sizeOf hC.2.2.2.2.2.2.2.2.1 (k := k - 1) (by omega) q3 x4 σ_4 _ h) rfl rfl (Nat.le_of_ble_eq_true rfl) dX5_join_19 (rfl : 19 + 3 = 22) (fun r_7 σ_6 h => ?_)
  refine r_callVv hC cs_X5_41 ty_1 (by omega) (mX5_appendRun hC.2.2.2.2.2.2.2.2.1 (k := k - 1) (by omega) t q3 x4 r_7 σ_6 _ h) rfl rfl (Nat.le_of_ble_eq_true rfl) dX5_join_22 (rfl : 22 + 3 = 25) (fun  σ_8 h => ?_)
  refine r_aload_n hC 0 dX5_join_25 (rfl : 25 + 1 = 26) rfl rfl ?_
  refine r_aload_n hC 1 dX5_join_26 (rfl : 26 + 1 = 27) rfl rfl ?_
  refine r_aload_n hC 1 dX5_join_27 (rfl : 27 + 1 = 28) rfl rfl ?_
  refine r_iload_n hC 2 dX5_join_28 (rfl : 28 + 1 = 29) rfl rfl ?_
  obtain ⟨ty_9, h⟩ := h
  refine r_callVi hC cs_X5_45 ty_9 (by omega) (mX5_behind hC.2.2.2.2.2.2.2.2.1 (k := k - 1) (by omega) q1 x2 σ_8 _ h) rfl rfl (Nat.le_of_ble_eq_true rfl) dX5_join_29 (rfl : 29 + 3 = 32) (fun r_11 σ_10 h => ?_)
  refine r_aload_n hC 1 dX5_join_32 (rfl : 32 + 1 = 33) rfl rfl ?_
  refine r_geti hC q1 4 3 fw_X5_21 ty_9 dX5_join_33 (rfl : 33 + 3 = 36) ?_
  refine r_aload_n hC 1 dX5_join_36 (rfl : 36 + 1 = 37) rfl rfl ?_
  refine r_iload_n hC 2 dX5_join_37 (rfl : 37 + 1 = 38) rfl rfl ?_
  refine r_callVi hC cs_X5_45 ty_9 (by omega) (mX5_behind hC.2.2.2.2.2.2.2.2.1 (k := k - 1) (by omega) q1 x2 σ_10 _ h) rfl rfl (Nat.le_of_ble_eq_true rfl) dX5_join_38 (rfl : 38 + 3 = 41) (fun r_13 σ_12 h => ?_)
  refine r_isub hC dX5_join_41 (rfl : 41 + 1 = 42) ?_
  refine r_callVv hC cs_X5_41 ty_1 (by omega) (mX5_appendRun hC.2.2.2.2.2.2.2.2.1 (k := k - 1) (by omega) t q1 r_11 ((σ_10.1 q1 3) - r_13) σ_12 _ h) rfl rfl (Nat.le_of_ble_eq_true rfl) dX5_join_42 (rfl : 42 + 3 = 45) (fun  σ_14 h => ?_)
  refine r_aload_n hC 0 dX5_join_45 (rfl : 45 + 1 = 46) rfl rfl ?_
  refine r_callVv hC cs_X5_48 ty_1 (by omega) (mX5_measure hC.2.2.2.2.2.2.2.2.1 (k := k - 1) (by omega) t σ_14 _ h) rfl rfl (Nat.le_of_ble_eq_true rfl) dX5_join_46 (rfl : 46 + 3 = 49) (fun  σ_15 h => ?_)
  exact r_vret hC rfl h dX5_join_49
