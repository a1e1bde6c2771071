set_option maxHeartbeats 1000000 in
set_option maxRecDepth 100000 in
theorem sX7_small_92 {G : Gx} {b k : Nat} {K : Kx} {l : Launch} (hl : K.2.1 = l) (hC : Cx YC G b K cX7_small RX7 8 (some .int) k)  (hk : 7 ≤ k)  (Q : Int32 → Sg → Prop)  (q5 : Nat) (x6 : Int32) (σ : Sg) (h : wX7_small_92  q5 x6 σ Q) : V YC G K (Zi YC G K Q) 8 σ 92 [(0, .ref (G.1 0)), (5, .ref (G.1 q5)), (6, .int x6)] [] := by
  subst hl
  unfold wX7_small_92 at h
  refine r_aload_n hC 0 dX7_small_92 (rfl : 92 + 1 = 93) rfl rfl ?_
  refine r_iload hC 2 dX7_small_93 (rfl : 93 + 2 = 95) rfl ?_
  obtain ⟨σ_1, e_2, h⟩ := lt_nm h
  refine r_puti hC 0 6 11 fw_X7_67 fp_7_11 rfl e_2 dX7_small_95 (rfl : 95 + 3 = 98) ?_
  refine r_aload hC 1 dX7_small_98 (rfl : 98 + 2 = 100) rfl ?_
  obtain ⟨ty_3, h⟩ := h
  refine r_geti hC q5 4 3 fw_X7_93 ty_3 dX7_small_100 (rfl : 100 + 3 = 103) ?_
  exact r_iret hC rfl h dX7_small_103
set_option maxHeartbeats 1000000 in
set_option maxRecDepth 100000 in
theorem sX7_small_58 {G : Gx} {b k : Nat} {K : Kx} {l : Launch} (hl : K.2.1 = l) (hC : Cx YC G b K cX7_small RX7 8 (some .int) k)  (hk : 7 ≤ k)  (Q : Int32 → Sg → Prop)  : ∀ (n : Nat) (x3 : Int32) (q4 : Nat) (q5 : Nat) (x6 : Int32) (x7 : Int32) (σ : Sg), wX7_small_58  Q n x3 q4 q5 x6 x7 σ → V YC G K (Zi YC G K Q) 8 σ 58 [(0, .ref (G.1 0)), (3, .int x3), (4, .ref (G.1 q4)), (5, .ref (G.1 q5)), (6, .int x6), (7, .int x7)] [] := by
  subst hl
  intro n
  induction n with
  | zero =>
    intro x3 q4 q5 x6 x7 σ h
    exact h.elim
  | succ n ih =>
    intro x3 q4 q5 x6 x7 σ h
    have h : wX7_small_58_b  (wX7_small_58  Q n) x3 q4 q5 x6 x7 σ Q := h
    unfold wX7_small_58_b at h
    refine r_iload hC 4 dX7_small_58 (rfl : 58 + 2 = 60) rfl ?_
    refine r_iload hC 5 dX7_small_60 (rfl : 60 + 2 = 62) rfl ?_
    refine r_icmp_ge hC dX7_small_62 (rfl : 62 + 3 = 65) (tgt := 92) (by decide) (fun q => ?_) (fun q => ?_)
    · replace h := if_t h q
      exact (sX7_small_92 rfl hC hk  Q  q5 x6 σ h).sub [0, 3, 4] rfl
    · replace h := if_f h q
      refine r_aload_n hC 0 dX7_small_65 (rfl : 65 + 1 = 66) rfl rfl ?_
      refine r_aload hC 2 dX7_small_66 (rfl : 66 + 2 = 68) rfl ?_
      refine r_aload hC 3 dX7_small_68 (rfl : 68 + 2 = 70) rfl ?_
      refine r_iload_n hC 1 dX7_small_70 (rfl : 70 + 1 = 71) rfl rfl ?_
      refine r_callVi hC cs_X7_213 rfl (by omega) (mX7_shrink hC.2.2.2.2.2.2.2.2.1 (k := k - 1) (by omega) q4 q5 x3 σ _ h) rfl rfl (Nat.le_of_ble_eq_true rfl) dX7_small_71 (rfl : 71 + 3 = 74) (fun r_5 σ_4 h => ?_)
      refine r_if_eq hC dX7_small_74 (rfl : 74 + 3 = 77) (tgt := 92) (by decide) (fun q => ?_) (fun q => ?_)
      · replace h := if_t h q
        exact (sX7_small_92 rfl hC hk  Q  q5 x6 σ_4 h).sub [0, 3, 4] rfl
      · replace h := if_f h q
        refine r_aload hC 3 dX7_small_77 (rfl : 77 + 2 = 79) rfl ?_
        refine r_aload_n hC 0 dX7_small_79 (rfl : 79 + 1 = 80) rfl rfl ?_
        refine r_getr hC 0 6 8 45 (o := 45) fw_X7_57 rfl rfl dX7_small_80 (rfl : 80 + 3 = 83) ?_
        obtain ⟨ty_6, h⟩ := h
        refine r_callVv hC cs_X7_122 ty_6 (by omega) (mX5_become hC.2.2.2.2.2.2.2.2.1 (k := k - 1) (by omega) q5 45 σ_4 _ h) rfl rfl (Nat.le_of_ble_eq_true rfl) dX7_small_83 (rfl : 83 + 3 = 86) (fun  σ_7 h => ?_)
        obtain ⟨x6_8, e_9, h⟩ := lt_nm h
        refine r_iinc hC (j := 4) dX7_small_86 (rfl : 86 + 3 = 89) rfl (zz := 1) (by decide) e_9 (by decide) (lv2 := [(6, .int x6_8), (0, .ref (G.1 0)), (3, .int x3), (4, .ref (G.1 q4)), (5, .ref (G.1 q5)), (7, .int x7)]) rfl ?_
        refine r_goto hC dX7_small_89 (tgt := 58) (by decide) ?_
        exact (ih x3 q4 q5 x6_8 x7 σ_7 h).sub [1, 2, 3, 4, 0, 5] rfl
set_option maxHeartbeats 1000000 in
set_option maxRecDepth 100000 in
theorem mX7_small {G : Gx} {b k : Nat} {l : Launch} (hS : Sok YC G)  (hk : 7 ≤ k) (x1 : Int32) (x2 : Int32) (x3 : Int32) (σ : Sg) (Q : Int32 → Sg → Prop) (h : wX7_small  x1 x2 x3 σ Q) : Mi YC G b l yX7_small cX7_small 8 .int k [.ref (G.1 0), .int x1, .int x2, .int x3] σ Q := by
  refine enter hS (by decide +kernel) (Nat.le_of_ble_eq_true rfl) (lv := [(0, .ref (G.1 0)), (1, .int x1), (2, .int x2), (3, .int x3)]) rfl (fun K hl hC => ?_)
  subst hl
  unfold wX7_small at h
  show V YC G K (Zi YC G K Q) 8 σ 0 [(0, .ref (G.1 0)), (1, .int x1), (2, .int x2), (3, .int x3)] []
  refine r_aload_n hC 0 dX7_small_0 (rfl : 0 + 1 = 1) rfl rfl ?_
  refine r_iload_n hC 1 dX7_small_1 (rfl : 1 + 1 = 2) rfl rfl ?_
  refine r_callVq hC cs_X7_160 rfl (by omega) (mX7_makerAt hC.2.2.2.2.2.2.2.2.1 (k := k - 1) (by omega) x1 σ _ h) rfl rfl (Nat.le_of_ble_eq_true rfl) dX7_small_2 (rfl : 2 + 3 = 5) (fun o_11 σ_10 h => ?_)
  refine r_astoreQ hC dX7_small_5 (rfl : 5 + 2 = 7) (by decide) (lv2 := [(4, rv G o_11), (0, .ref (G.1 0)), (1, .int x1), (2, .int x2), (3, .int x3)]) rfl ?_
  refine r_aload_n hC 1 dX7_small_7 (rfl : 7 + 1 = 8) rfl rfl ?_
  refine r_iload_n hC 3 dX7_small_8 (rfl : 8 + 1 = 9) rfl rfl ?_
  refine r_callVq hC cs_X7_96 rfl (by omega) (mX7_programAt hC.2.2.2.2.2.2.2.2.1 (k := k - 1) (by omega) x2 σ_10 _ h) rfl rfl (Nat.le_of_ble_eq_true rfl) dX7_small_9 (rfl : 9 + 3 = 12) (fun o_13 σ_12 h => ?_)
  refine r_astoreQ hC dX7_small_12 (rfl : 12 + 2 = 14) (by decide) (lv2 := [(5, rv G o_13), (4, rv G o_11), (0, .ref (G.1 0)), (1, .int x1), (2, .int x2), (3, .int x3)]) (by cases o_11 <;> rfl) ?_
  refine r_aloadQ hC 1 dX7_small_14 (rfl : 14 + 2 = 16) rfl ?_
  refine r_ifnull hC dX7_small_16 (rfl : 16 + 3 = 19) (tgt := 34) (by decide) (fun q => ?_) (fun z_14 q => ?_)
  · subst q
    replace h := h.1 rfl
    refine r_iconst hC dX7_small_34 (rfl : 34 + 1 = 35) (v := -1) (by decide) ?_
    exact r_iret hC rfl h dX7_small_35
  · subst q
    replace h := h.2 z_14 rfl
    refine r_aloadQ hC 0 dX7_small_19 (rfl : 19 + 2 = 21) rfl ?_
    refine r_ifnull hC dX7_small_21 (rfl : 21 + 3 = 24) (tgt := 34) (by decide) (fun q => ?_) (fun z_15 q => ?_)
    · subst q
      replace h := h.1 rfl
      refine r_iconst hC dX7_small_34 (rfl : 34 + 1 = 35) (v := -1) (by decide) ?_
      exact r_iret hC rfl h dX7_small_35
    · subst q
      replace h := h.2 z_15 rfl
      refine r_iload_n hC 5 dX7_small_24 (rfl : 24 + 1 = 25) rfl rfl ?_
      refine r_iconst hC dX7_small_25 (rfl : 25 + 1 = 26) (v := 0) (by decide) ?_
      refine r_bipush hC dX7_small_26 (rfl : 26 + 2 = 28) (v := 6) (by decide) ?_
      refine r_callSi hC cs_X7_75 (by omega) (mX7_within hC.2.2.2.2.2.2.2.2.1 (k := k - 1) (by omega) x3 0 6 σ_12 _ h) rfl rfl (Nat.le_of_ble_eq_true rfl) dX7_small_28 (rfl : 28 + 3 = 31) (fun r_17 σ_16 h => ?_)
      refine r_if_ne hC dX7_small_31 (rfl : 31 + 3 = 34) (tgt := 36) (by decide) (fun q => ?_) (fun q => ?_)
      · replace h := if_f h q
        refine r_aload_n hC 2 dX7_small_36 (rfl : 36 + 1 = 37) rfl rfl ?_
        refine r_aload hC 1 dX7_small_37 (rfl : 37 + 2 = 39) rfl ?_
        refine r_aload hC 0 dX7_small_39 (rfl : 39 + 2 = 41) rfl ?_
        refine r_iload_n hC 5 dX7_small_41 (rfl : 41 + 1 = 42) rfl rfl ?_
        refine r_callVi hC cs_X7_209 rfl (by omega) (mX7_isFaulty hC.2.2.2.2.2.2.2.2.1 (k := k - 1) (by omega) z_14 z_15 x3 σ_16 _ h) rfl rfl (Nat.le_of_ble_eq_true rfl) dX7_small_42 (rfl : 42 + 3 = 45) (fun r_19 σ_18 h => ?_)
        refine r_if_ne hC dX7_small_45 (rfl : 45 + 3 = 48) (tgt := 51) (by decide) (fun q => ?_) (fun q => ?_)
        · replace h := if_f h q
          refine r_iconst hC dX7_small_51 (rfl : 51 + 1 = 52) (v := 0) (by decide) ?_
          refine r_istore hC dX7_small_52 (rfl : 52 + 2 = 54) (by decide) rfl (lv2 := [(6, .int 0), (5, .ref (G.1 z_15)), (4, .ref (G.1 z_14)), (0, .ref (G.1 0)), (1, .int x1), (2, .int x2), (3, .int x3)]) rfl ?_
          refine r_bipush hC dX7_small_54 (rfl : 54 + 2 = 56) (v := 120) (by decide) ?_
          refine r_istore hC dX7_small_56 (rfl : 56 + 2 = 58) (by decide) rfl (lv2 := [(7, .int 120), (6, .int 0), (5, .ref (G.1 z_15)), (4, .ref (G.1 z_14)), (0, .ref (G.1 0)), (1, .int x1), (2, .int x2), (3, .int x3)]) rfl ?_
          obtain ⟨nn, h⟩ := h
          exact (sX7_small_58 rfl hC hk  Q  nn x3 z_14 z_15 0 120 σ_18 h).sub [4, 7, 3, 2, 1, 0] rfl
        · replace h := if_t h q
          refine r_bipush hC dX7_small_48 (rfl : 48 + 2 = 50) (v := -2) (by decide) ?_
          exact r_iret hC rfl h dX7_small_50
      · replace h := if_t h q
        refine r_iconst hC dX7_small_34 (rfl : 34 + 1 = 35) (v := -1) (by decide) ?_
        exact r_iret hC rfl h dX7_small_35
set_option maxHeartbeats 1000000 in
set_option maxRecDepth 100000 in
theorem sX7_shown_117 {G : Gx} {b k : Nat} {K : Kx} {l : Launch} (hl : K.2.1 = l) (hC : Cx YC G b K cX7_shown RX7 11 (some .int) k)  (hk : 7 ≤ k) (K58 : Int32 → Int32 → Int32 → Nat → Int32 → Int64 → Int64 → Sg → Prop) (Q : Int32 → Sg → Prop) (h58 : ∀ (x2 : Int32) (x3 : Int32) (x4 : Int32) (q5 : Nat) (x6 : Int32) (x7 : Int64) (x9 : Int64) (σ : Sg), K58 x2 x3 x4 q5 x6 x7 x9 σ → V YC G K (Zi YC G K Q) 11 σ 58 [(0, .ref (G.1 0)), (2, .int x2), (3, .int x3), (4, .int x4), (5, .ref (G.1 q5)), (6, .int x6), (7, .long x7), (9, .long x9)] []) (x2 : Int32) (x3 : Int32) (x4 : Int32) (q5 : Nat) (x6 : Int32) (x7 : Int64) (x9 : Int64) (σ : Sg) (h : wX7_shown_117 K58 x2 x3 x4 q5 x6 x7 x9 σ Q) : V YC G K (Zi YC G K Q) 11 σ 117 [(0, .ref (G.1 0)), (2, .int x2), (3, .int x3), (4, .int x4), (5, .ref (G.1 q5)), (6, .int x6), (7, .long x7), (9, .long x9)] [] := by
  subst hl
  unfold wX7_shown_117 at h
  refine r_lload hC 7 dX7_shown_117 (rfl : 117 + 2 = 119) rfl ?_
  refine r_lconst hC dX7_shown_119 (rfl : 119 + 1 = 120) (v := 1) (by decide) ?_
  refine r_ladd hC dX7_shown_120 (rfl : 120 + 1 = 121) ?_
  obtain ⟨x9_1, e_2, h⟩ := lt_nm h
  refine r_lstore hC dX7_shown_121 (rfl : 121 + 2 = 123) (by decide) e_2 (lv2 := [(9, .long x9_1), (0, .ref (G.1 0)), (2, .int x2), (3, .int x3), (4, .int x4), (5, .ref (G.1 q5)), (6, .int x6), (7, .long x7)]) rfl ?_
  refine r_goto hC dX7_shown_123 (tgt := 58) (by decide) ?_
  exact (h58 x2 x3 x4 q5 x6 x7 x9_1 σ h).sub [1, 2, 3, 4, 5, 6, 7, 0] rfl
set_option maxHeartbeats 1000000 in
set_option maxRecDepth 100000 in
theorem sX7_shown_114 {G : Gx} {b k : Nat} {K : Kx} {l : Launch} (hl : K.2.1 = l) (hC : Cx YC G b K cX7_shown RX7 11 (some .int) k)  (hk : 7 ≤ k) (K58 : Int32 → Int32 → Int32 → Nat → Int32 → Int64 → Int64 → Sg → Prop) (Q : Int32 → Sg → Prop) (h58 : ∀ (x2 : Int32) (x3 : Int32) (x4 : Int32) (q5 : Nat) (x6 : Int32) (x7 : Int64) (x9 : Int64) (σ : Sg), K58 x2 x3 x4 q5 x6 x7 x9 σ → V YC G K (Zi YC G K Q) 11 σ 58 [(0, .ref (G.1 0)), (2, .int x2), (3, .int x3), (4, .int x4), (5, .ref (G.1 q5)), (6, .int x6), (7, .long x7), (9, .long x9)] []) (x2 : Int32) (x3 : Int32) (x4 : Int32) (q5 : Nat) (x6 : Int32) (x7 : Int64) (x9 : Int64) (σ : Sg) (h : wX7_shown_114 K58 x2 x3 x4 q5 x6 x7 x9 σ Q) : V YC G K (Zi YC G K Q) 11 σ 114 [(0, .ref (G.1 0)), (2, .int x2), (3, .int x3), (4, .int x4), (5, .ref (G.1 q5)), (6, .int x6), (7, .long x7), (9, .long x9)] [] := by
  subst hl
  unfold wX7_shown_114 at h
  obtain ⟨x6_3, e_4, h⟩ := lt_nm h
  refine r_iinc hC (j := 5) dX7_shown_114 (rfl : 114 + 3 = 117) rfl (zz := 1) (by decide) e_4 (by decide) (lv2 := [(6, .int x6_3), (0, .ref (G.1 0)), (2, .int x2), (3, .int x3), (4, .int x4), (5, .ref (G.1 q5)), (7, .long x7), (9, .long x9)]) rfl ?_
  exact (sX7_shown_117 rfl hC hk K58 Q h58 x2 x3 x4 q5 x6_3 x7 x9 σ h).sub [1, 2, 3, 4, 5, 0, 6, 7] rfl
set_option maxHeartbeats 1000000 in
set_option maxRecDepth 100000 in
theorem sX7_shown_58 {G : Gx} {b k : Nat} {K : Kx} {l : Launch} (hl : K.2.1 = l) (hC : Cx YC G b K cX7_shown RX7 11 (some .int) k)  (hk : 7 ≤ k)  (Q : Int32 → Sg → Prop)  : ∀ (n : Nat) (x2 : Int32) (x3 : Int32) (x4 : Int32) (q5 : Nat) (x6 : Int32) (x7 : Int64) (x9 : Int64) (σ : Sg), wX7_shown_58  Q n x2 x3 x4 q5 x6 x7 x9 σ → V YC G K (Zi YC G K Q) 11 σ 58 [(0, .ref (G.1 0)), (2, .int x2), (3, .int x3), (4, .int x4), (5, .ref (G.1 q5)), (6, .int x6), (7, .long x7), (9, .long x9)] [] := by
  subst hl
  intro n
  induction n with
  | zero =>
    intro x2 x3 x4 q5 x6 x7 x9 σ h
    exact h.elim
  | succ n ih =>
    intro x2 x3 x4 q5 x6 x7 x9 σ h
    have h : wX7_shown_58_b  (wX7_shown_58  Q n) x2 x3 x4 q5 x6 x7 x9 σ Q := h
    unfold wX7_shown_58_b at h
    refine r_lload hC 7 dX7_shown_58 (rfl : 58 + 2 = 60) rfl ?_
    refine r_lload hC 6 dX7_shown_60 (rfl : 60 + 2 = 62) rfl ?_
    refine r_lcmp hC dX7_shown_62 (rfl : 62 + 1 = 63) ?_
    refine r_if_ge hC dX7_shown_63 (rfl : 63 + 3 = 66) (tgt := 126) (by decide) (fun q => ?_) (fun q => ?_)
    · replace h := if_t h ((lg_cmp_ge _ _).1 q)
      refine r_iload hC 5 dX7_shown_126 (rfl : 126 + 2 = 128) rfl ?_
      exact r_iret hC rfl h dX7_shown_128
    · replace h := if_f h (fun z => q ((lg_cmp_ge _ _).2 z))
      refine r_aload_n hC 0 dX7_shown_66 (rfl : 66 + 1 = 67) rfl rfl ?_
      refine r_getr hC 0 6 0 1 (o := 1) fw_X7_10 rfl rfl dX7_shown_67 (rfl : 67 + 3 = 70) ?_
      refine r_aload_n hC 0 dX7_shown_70 (rfl : 70 + 1 = 71) rfl rfl ?_
      refine r_getr hC 0 6 8 45 (o := 45) fw_X7_57 rfl rfl dX7_shown_71 (rfl : 71 + 3 = 74) ?_
      refine r_iload_n hC 1 dX7_shown_74 (rfl : 74 + 1 = 75) rfl rfl ?_
      refine r_lload hC 7 dX7_shown_75 (rfl : 75 + 2 = 77) rfl ?_
      refine r_callVv hC cs_X7_89 rfl (by omega) (mX1_unfold hC.2.2.2.2.2.2.2.2.1 (k := k - 1) (by omega) 45 x2 x9 σ _ h) rfl rfl (Nat.le_of_ble_eq_true rfl) dX7_shown_77 (rfl : 77 + 3 = 80) (fun  σ_5 h => ?_)
      refine r_iload hC 3 dX7_shown_80 (rfl : 80 + 2 = 82) rfl ?_
      refine r_if_ne hC dX7_shown_82 (rfl : 82 + 3 = 85) (tgt := 100) (by decide) (fun q => ?_) (fun q => ?_)
      · replace h := if_f h q
        refine r_aload_n hC 0 dX7_shown_100 (rfl : 100 + 1 = 101) rfl rfl ?_
        refine r_aload hC 4 dX7_shown_101 (rfl : 101 + 2 = 103) rfl ?_
        refine r_aload_n hC 0 dX7_shown_103 (rfl : 103 + 1 = 104) rfl rfl ?_
        refine r_getr hC 0 6 8 45 (o := 45) fw_X7_57 rfl rfl dX7_shown_104 (rfl : 104 + 3 = 107) ?_
        refine r_iload_n hC 2 dX7_shown_107 (rfl : 107 + 1 = 108) rfl rfl ?_
        refine r_callVi hC cs_X7_209 rfl (by omega) (mX7_isFaulty hC.2.2.2.2.2.2.2.2.1 (k := k - 1) (by omega) q5 45 x3 σ_5 _ h) rfl rfl (Nat.le_of_ble_eq_true rfl) dX7_shown_108 (rfl : 108 + 3 = 111) (fun r_7 σ_6 h => ?_)
        refine r_if_eq hC dX7_shown_111 (rfl : 111 + 3 = 114) (tgt := 117) (by decide) (fun q => ?_) (fun q => ?_)
        · replace h := if_t h q
          exact (sX7_shown_117 rfl hC hk (wX7_shown_58  Q n) Q ih x2 x3 x4 q5 x6 x7 x9 σ_6 h).sub [0, 1, 2, 3, 4, 5, 6, 7] rfl
        · replace h := if_f h q
          exact (sX7_shown_114 rfl hC hk (wX7_shown_58  Q n) Q ih x2 x3 x4 q5 x6 x7 x9 σ_6 h).sub [0, 1, 2, 3, 4, 5, 6, 7] rfl
      · replace h := if_t h q
        refine r_aload_n hC 0 dX7_shown_85 (rfl : 85 + 1 = 86) rfl rfl ?_
        refine r_aload_n hC 0 dX7_shown_86 (rfl : 86 + 1 = 87) rfl rfl ?_
        refine r_getr hC 0 6 8 45 (o := 45) fw_X7_57 rfl rfl dX7_shown_87 (rfl : 87 + 3 = 90) ?_
        refine r_iload_n hC 2 dX7_shown_90 (rfl : 90 + 1 = 91) rfl rfl ?_
        refine r_callVi hC cs_X7_145 rfl (by omega) (mX7_isSafe hC.2.2.2.2.2.2.2.2.1 (k := k - 1) (by omega) 45 x3 σ_5 _ h) rfl rfl (Nat.le_of_ble_eq_true rfl) dX7_shown_91 (rfl : 91 + 3 = 94) (fun r_9 σ_8 h => ?_)
        refine r_if_eq hC dX7_shown_94 (rfl : 94 + 3 = 97) (tgt := 117) (by decide) (fun q => ?_) (fun q => ?_)
        · replace h := if_t h q
          exact (sX7_shown_117 rfl hC hk (wX7_shown_58  Q n) Q ih x2 x3 x4 q5 x6 x7 x9 σ_8 h).sub [0, 1, 2, 3, 4, 5, 6, 7] rfl
        · replace h := if_f h q
          refine r_goto hC dX7_shown_97 (tgt := 114) (by decide) ?_
          exact (sX7_shown_114 rfl hC hk (wX7_shown_58  Q n) Q ih x2 x3 x4 q5 x6 x7 x9 σ_8 h).sub [0, 1, 2, 3, 4, 5, 6, 7] rfl
set_option maxHeartbeats 1000000 in
set_option maxRecDepth 100000 in
theorem mX7_shown {G : Gx} {b k : Nat} {l : Launch} (hS : Sok YC G)  (hk : 7 ≤ k) (x1 : Int32) (x2 : Int32) (x3 : Int32) (x4 : Int32) (σ : Sg) (Q : Int32 → Sg → Prop) (h : wX7_shown  x1 x2 x3 x4 σ Q) : Mi YC G b l yX7_shown cX7_shown 11 .int k [.ref (G.1 0), .int x1, .int x2, .int x3, .int x4] σ Q := by
  refine enter hS (by decide +kernel) (Nat.le_of_ble_eq_true rfl) (lv := [(0, .ref (G.1 0)), (1, .int x1), (2, .int x2), (3, .int x3), (4, .int x4)]) rfl (fun K hl hC => ?_)
  subst hl
  unfold wX7_shown at h
  show V YC G K (Zi YC G K Q) 11 σ 0 [(0, .ref (G.1 0)), (1, .int x1), (2, .int x2), (3, .int x3), (4, .int x4)] []
  refine r_aload_n hC 0 dX7_shown_0 (rfl : 0 + 1 = 1) rfl rfl ?_
  refine r_iload_n hC 1 dX7_shown_1 (rfl : 1 + 1 = 2) rfl rfl ?_
  refine r_callVq hC cs_X7_160 rfl (by omega) (mX7_makerAt hC.2.2.2.2.2.2.2.2.1 (k := k - 1) (by omega) x1 σ _ h) rfl rfl (Nat.le_of_ble_eq_true rfl) dX7_shown_2 (rfl : 2 + 3 = 5) (fun o_11 σ_10 h => ?_)
  refine r_astoreQ hC dX7_shown_5 (rfl : 5 + 2 = 7) (by decide) (lv2 := [(5, rv G o_11), (0, .ref (G.1 0)), (1, .int x1), (2, .int x2), (3, .int x3), (4, .int x4)]) rfl ?_
  refine r_aloadQ hC 0 dX7_shown_7 (rfl : 7 + 2 = 9) rfl ?_
  refine r_ifnull hC dX7_shown_9 (rfl : 9 + 3 = 12) (tgt := 40) (by decide) (fun q => ?_) (fun z_12 q => ?_)
  · subst q
    replace h := h.1 rfl
    refine r_iconst hC dX7_shown_40 (rfl : 40 + 1 = 41) (v := -1) (by decide) ?_
    exact r_iret hC rfl h dX7_shown_41
  · subst q
    replace h := h.2 z_12 rfl
    refine r_iload_n hC 3 dX7_shown_12 (rfl : 12 + 1 = 13) rfl rfl ?_
    refine r_iconst hC dX7_shown_13 (rfl : 13 + 1 = 14) (v := 1) (by decide) ?_
    refine r_iconst hC dX7_shown_14 (rfl : 14 + 1 = 15) (v := 5) (by decide) ?_
    refine r_callSi hC cs_X7_75 (by omega) (mX7_within hC.2.2.2.2.2.2.2.2.1 (k := k - 1) (by omega) x2 1 5 σ_10 _ h) rfl rfl (Nat.le_of_ble_eq_true rfl) dX7_shown_15 (rfl : 15 + 3 = 18) (fun r_14 σ_13 h => ?_)
    refine r_if_eq hC dX7_shown_18 (rfl : 18 + 3 = 21) (tgt := 40) (by decide) (fun q => ?_) (fun q => ?_)
    · replace h := if_t h q
      refine r_iconst hC dX7_shown_40 (rfl : 40 + 1 = 41) (v := -1) (by decide) ?_
      exact r_iret hC rfl h dX7_shown_41
    · replace h := if_f h q
      refine r_iload_n hC 4 dX7_shown_21 (rfl : 21 + 1 = 22) rfl rfl ?_
      refine r_iconst hC dX7_shown_22 (rfl : 22 + 1 = 23) (v := 0) (by decide) ?_
      refine r_iconst hC dX7_shown_23 (rfl : 23 + 1 = 24) (v := 2) (by decide) ?_
      refine r_callSi hC cs_X7_75 (by omega) (mX7_within hC.2.2.2.2.2.2.2.2.1 (k := k - 1) (by omega) x3 0 2 σ_13 _ h) rfl rfl (Nat.le_of_ble_eq_true rfl) dX7_shown_24 (rfl : 24 + 3 = 27) (fun r_16 σ_15 h => ?_)
      refine r_if_eq hC dX7_shown_27 (rfl : 27 + 3 = 30) (tgt := 40) (by decide) (fun q => ?_) (fun q => ?_)
      · replace h := if_t h q
        refine r_iconst hC dX7_shown_40 (rfl : 40 + 1 = 41) (v := -1) (by decide) ?_
        exact r_iret hC rfl h dX7_shown_41
      · replace h := if_f h q
        refine r_iload hC 5 dX7_shown_30 (rfl : 30 + 2 = 32) rfl ?_
        refine r_iconst hC dX7_shown_32 (rfl : 32 + 1 = 33) (v := 0) (by decide) ?_
        refine r_iconst hC dX7_shown_33 (rfl : 33 + 1 = 34) (v := 1) (by decide) ?_
        refine r_callSi hC cs_X7_75 (by omega) (mX7_within hC.2.2.2.2.2.2.2.2.1 (k := k - 1) (by omega) x4 0 1 σ_15 _ h) rfl rfl (Nat.le_of_ble_eq_true rfl) dX7_shown_34 (rfl : 34 + 3 = 37) (fun r_18 σ_17 h => ?_)
        refine r_if_ne hC dX7_shown_37 (rfl : 37 + 3 = 40) (tgt := 42) (by decide) (fun q => ?_) (fun q => ?_)
        · replace h := if_f h q
          refine r_iconst hC dX7_shown_42 (rfl : 42 + 1 = 43) (v := 0) (by decide) ?_
          refine r_istore hC dX7_shown_43 (rfl : 43 + 2 = 45) (by decide) rfl (lv2 := [(6, .int 0), (5, .ref (G.1 z_12)), (0, .ref (G.1 0)), (1, .int x1), (2, .int x2), (3, .int x3), (4, .int x4)]) rfl ?_
          refine r_aload_n hC 2 dX7_shown_45 (rfl : 45 + 1 = 46) rfl rfl ?_
          refine r_getr hC 0 6 0 1 (o := 1) fw_X7_10 rfl rfl dX7_shown_46 (rfl : 46 + 3 = 49) ?_
          refine r_iload_n hC 4 dX7_shown_49 (rfl : 49 + 1 = 50) rfl rfl ?_
          refine r_callVl hC cs_X7_79 rfl (by omega) (mX1_howMany hC.2.2.2.2.2.2.2.2.1 (k := k - 1) (by omega) x2 σ_17 _ h) rfl rfl (Nat.le_of_ble_eq_true rfl) dX7_shown_50 (rfl : 50 + 3 = 53) (fun r_20 σ_19 h => ?_)
          refine r_lstore hC dX7_shown_53 (rfl : 53 + 2 = 55) (by decide) rfl (lv2 := [(7, .long r_20), (6, .int 0), (5, .ref (G.1 z_12)), (0, .ref (G.1 0)), (1, .int x1), (2, .int x2), (3, .int x3), (4, .int x4)]) rfl ?_
          refine r_lconst hC dX7_shown_55 (rfl : 55 + 1 = 56) (v := 0) (by decide) ?_
          refine r_lstore hC dX7_shown_56 (rfl : 56 + 2 = 58) (by decide) rfl (lv2 := [(9, .long 0), (7, .long r_20), (6, .int 0), (5, .ref (G.1 z_12)), (0, .ref (G.1 0)), (1, .int x1), (2, .int x2), (3, .int x3), (4, .int x4)]) rfl ?_
          obtain ⟨nn, h⟩ := h
          exact (sX7_shown_58 rfl hC hk  Q  nn x2 x3 x4 z_12 0 r_20 0 σ_19 h).sub [4, 6, 7, 8, 3, 2, 1, 0] rfl
        · replace h := if_t h q
          refine r_iconst hC dX7_shown_40 (rfl : 40 + 1 = 41) (v := -1) (by decide) ?_
          exact r_iret hC rfl h dX7_shown_41
