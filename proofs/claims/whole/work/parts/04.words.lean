theorem inTB (ws : List Cond) (ps : List Nat) (hp : ws = ps.filterMap (fun i => lw_tbl[i]?)) (hg : ws.all goodWord = true) : ∀ w ∈ ws, w ∈ TB := by
  intro w hw
  have h1 := List.all_eq_true.mp hg w hw
  rw [hp] at hw
  obtain ⟨i, -, hi⟩ := List.mem_filterMap.mp hw
  exact TB_of (by first | exact List.mem_of_getElem? hi | exact List.getElem?_mem hi) h1
theorem inTX0 : ∀ w ∈ wsX00, w ∈ TB := inTB _ [219, 221, 223, 225, 227, 229, 231, 233, 235, 237, 239, 241] (by decide +kernel) (by decide +kernel)
theorem inTX1 : ∀ w ∈ wsX10, w ∈ TB := inTB _ [110, 112, 114, 116, 118, 120, 122] (by decide +kernel) (by decide +kernel)
theorem inTX2 : ∀ w ∈ wsX20, w ∈ TB := inTB _ [255, 257, 259] (by decide +kernel) (by decide +kernel)
theorem inTX3 : ∀ w ∈ wsX30, w ∈ TB := inTB _ [163, 165, 167] (by decide +kernel) (by decide +kernel)
theorem inTX5 : ∀ w ∈ wsX50, w ∈ TB := inTB _ [149, 151, 153, 155] (by decide +kernel) (by decide +kernel)
theorem inTX6 : ∀ w ∈ wsX60, w ∈ TB := inTB _ [187, 189, 191, 193] (by decide +kernel) (by decide +kernel)
theorem inTX7 : ∀ w ∈ wsX70, w ∈ TB := inTB _ [278, 280, 282, 284, 286, 288, 290, 292, 294, 296, 298, 300] (by decide +kernel) (by decide +kernel)
theorem inTX8 : ∀ w ∈ wsX80, w ∈ TB := inTB _ [803, 805, 807, 809, 811, 813, 815, 817, 819, 821, 823, 825, 827, 829, 831, 833, 835, 837, 839, 841, 843, 845, 847, 849, 851, 853, 855, 857, 859, 861, 863, 865, 867, 869, 871, 873, 875, 877, 879] (by decide +kernel) (by decide +kernel)
theorem wd_204 : Cond.fieldLink RX0 18 RX0 "length" "I" ∈ TB := TB_of (List.mem_of_getElem? (i := 204) (by decide +kernel)) (by decide +kernel)
theorem fw_X0_18 : Fw RX0 18 0 RX0 TX0 12 2 0 := ⟨inTX0, rfl, by decide, Or.inl wd_204, rfl, by decide, rfl⟩
theorem fp_0_2 : Fp 0 2 RX0 TX0 12 tyX0 .int := ⟨tyX0_ok, nmX0, rfl, by decide +kernel⟩
theorem wd_205 : Cond.fieldLink RX0 22 RX0 "readsA" "Z" ∈ TB := TB_of (List.mem_of_getElem? (i := 205) (by decide +kernel)) (by decide +kernel)
theorem fw_X0_22 : Fw RX0 22 0 RX0 TX0 12 3 0 := ⟨inTX0, rfl, by decide, Or.inl wd_205, rfl, by decide, rfl⟩
theorem fp_0_3 : Fp 0 3 RX0 TX0 12 tyX0 .boolean := ⟨tyX0_ok, nmX0, rfl, by decide +kernel⟩
theorem wd_207 : Cond.fieldLink RX0 26 RX0 "readsB" "Z" ∈ TB := TB_of (List.mem_of_getElem? (i := 207) (by decide +kernel)) (by decide +kernel)
theorem fw_X0_26 : Fw RX0 26 0 RX0 TX0 12 4 0 := ⟨inTX0, rfl, by decide, Or.inl wd_207, rfl, by decide, rfl⟩
theorem fp_0_4 : Fp 0 4 RX0 TX0 12 tyX0 .boolean := ⟨tyX0_ok, nmX0, rfl, by decide +kernel⟩
theorem wd_209 : Cond.fieldLink RX0 29 RX0 "divides" "Z" ∈ TB := TB_of (List.mem_of_getElem? (i := 209) (by decide +kernel)) (by decide +kernel)
theorem fw_X0_29 : Fw RX0 29 0 RX0 TX0 12 5 0 := ⟨inTX0, rfl, by decide, Or.inl wd_209, rfl, by decide, rfl⟩
theorem fp_0_5 : Fp 0 5 RX0 TX0 12 tyX0 .boolean := ⟨tyX0_ok, nmX0, rfl, by decide +kernel⟩
theorem wn_68 : Cond.fieldLinkNest RX0 50 RX5 "length" "I" "MakersBench" ∈ NW := List.mem_filter.mpr ⟨List.mem_of_getElem? (i := 68) (by decide +kernel), by decide +kernel⟩
theorem fw_X0_50 : Fw RX0 50 4 RX5 TX5 4 3 0 := ⟨inTX5, rfl, by decide, Or.inr ⟨_, wn_68⟩, rfl, by decide, rfl⟩
theorem wd_382 : Cond.code yX5_kindOf cX5_kindOf 2 (some .int) ∈ TB := TB_of (List.mem_of_getElem? (i := 382) (by decide +kernel)) (by decide +kernel)
theorem wd_478 : Cond.methodLink RX0 53 yX5_kindOf ∈ TB := TB_of (List.mem_of_getElem? (i := 478) (by decide +kernel)) (by decide +kernel)
theorem wd_79 : Cond.initialized RX5 ∈ TB := TB_of (List.mem_of_getElem? (i := 79) (by decide +kernel)) (by decide +kernel)
theorem wd_380 : Cond.instanceMethod yX5_kindOf ∈ TB := TB_of (List.mem_of_getElem? (i := 380) (by decide +kernel)) (by decide +kernel)
theorem wd_381 : Cond.selects yX5_kindOf.cls yX5_kindOf yX5_kindOf ∈ TB := TB_of (List.mem_of_getElem? (i := 381) (by decide +kernel)) (by decide +kernel)
theorem cs_X0_53 : SiV RX0 53 yX5_kindOf cX5_kindOf 2 (some .int) 1 4 := ⟨wd_382, Or.inl wd_478, wd_380, wd_381, wd_79, by decide +kernel, ⟨TX5, 4, rfl⟩, by decide, by decide⟩
theorem wd_360 : Cond.code yX7_partsOf cX7_partsOf 1 (some .int) ∈ TB := TB_of (List.mem_of_getElem? (i := 360) (by decide +kernel)) (by decide +kernel)
theorem wn_404 : Cond.methodLinkNest RX0 57 yX7_partsOf "MakersBench" ∈ NW := List.mem_filter.mpr ⟨List.mem_of_getElem? (i := 404) (by decide +kernel), by decide +kernel⟩
theorem wd_76 : Cond.initialized RX7 ∈ TB := TB_of (List.mem_of_getElem? (i := 76) (by decide +kernel)) (by decide +kernel)
theorem wd_359 : Cond.static yX7_partsOf ∈ TB := TB_of (List.mem_of_getElem? (i := 359) (by decide +kernel)) (by decide +kernel)
theorem cs_X0_57 : SiS RX0 57 yX7_partsOf cX7_partsOf 1 (some .int) 1 := ⟨wd_360, Or.inr ⟨_, wn_404⟩, wd_359, wd_76, by decide +kernel, by decide⟩
theorem wd_211 : Cond.fieldLink RX0 32 RX0 "openKinds" "[I" ∈ TB := TB_of (List.mem_of_getElem? (i := 211) (by decide +kernel)) (by decide +kernel)
theorem fw_X0_32 : Fw RX0 32 0 RX0 TX0 12 6 5 := ⟨inTX0, rfl, by decide, Or.inl wd_211, rfl, by decide, rfl⟩
theorem wd_212 : Cond.fieldLink RX0 35 RX0 "openParts" "[I" ∈ TB := TB_of (List.mem_of_getElem? (i := 212) (by decide +kernel)) (by decide +kernel)
theorem fw_X0_35 : Fw RX0 35 0 RX0 TX0 12 7 6 := ⟨inTX0, rfl, by decide, Or.inl wd_212, rfl, by decide, rfl⟩
theorem wd_386 : Cond.code yX5_numberOf cX5_numberOf 2 (some .int) ∈ TB := TB_of (List.mem_of_getElem? (i := 386) (by decide +kernel)) (by decide +kernel)
theorem wd_480 : Cond.methodLink RX0 60 yX5_numberOf ∈ TB := TB_of (List.mem_of_getElem? (i := 480) (by decide +kernel)) (by decide +kernel)
theorem wd_384 : Cond.instanceMethod yX5_numberOf ∈ TB := TB_of (List.mem_of_getElem? (i := 384) (by decide +kernel)) (by decide +kernel)
theorem wd_385 : Cond.selects yX5_numberOf.cls yX5_numberOf yX5_numberOf ∈ TB := TB_of (List.mem_of_getElem? (i := 385) (by decide +kernel)) (by decide +kernel)
theorem cs_X0_60 : SiV RX0 60 yX5_numberOf cX5_numberOf 2 (some .int) 1 4 := ⟨wd_386, Or.inl wd_480, wd_384, wd_385, wd_79, by decide +kernel, ⟨TX5, 4, rfl⟩, by decide, by decide⟩
theorem wd_484 : Cond.code yX0_add cX0_add 3 none ∈ TB := TB_of (List.mem_of_getElem? (i := 484) (by decide +kernel)) (by decide +kernel)
theorem wd_481 : Cond.methodLink RX0 63 yX0_add ∈ TB := TB_of (List.mem_of_getElem? (i := 481) (by decide +kernel)) (by decide +kernel)
theorem wd_81 : Cond.initialized RX0 ∈ TB := TB_of (List.mem_of_getElem? (i := 81) (by decide +kernel)) (by decide +kernel)
theorem wd_483 : Cond.instanceMethod yX0_add ∈ TB := TB_of (List.mem_of_getElem? (i := 483) (by decide +kernel)) (by decide +kernel)
theorem ws_12 : Cond.selects yX0_add.cls yX0_add yX0_add ∈ TB := TB_of (List.mem_of_getElem? (i := 12) (by decide +kernel)) (by decide +kernel)
theorem cs_X0_63 : SiV RX0 63 yX0_add cX0_add 3 none 2 0 := ⟨wd_484, Or.inl wd_481, wd_483, ws_12, wd_81, by decide +kernel, ⟨TX0, 12, rfl⟩, by decide, by decide⟩
theorem wd_488 : Cond.code yX0_endParts cX0_endParts 3 (some .int) ∈ TB := TB_of (List.mem_of_getElem? (i := 488) (by decide +kernel)) (by decide +kernel)
theorem wd_485 : Cond.methodLink RX0 67 yX0_endParts ∈ TB := TB_of (List.mem_of_getElem? (i := 485) (by decide +kernel)) (by decide +kernel)
theorem wd_487 : Cond.instanceMethod yX0_endParts ∈ TB := TB_of (List.mem_of_getElem? (i := 487) (by decide +kernel)) (by decide +kernel)
theorem ws_13 : Cond.selects yX0_endParts.cls yX0_endParts yX0_endParts ∈ TB := TB_of (List.mem_of_getElem? (i := 13) (by decide +kernel)) (by decide +kernel)
theorem cs_X0_67 : SiV RX0 67 yX0_endParts cX0_endParts 3 (some .int) 1 0 := ⟨wd_488, Or.inl wd_485, wd_487, ws_13, wd_81, by decide +kernel, ⟨TX0, 12, rfl⟩, by decide, by decide⟩
theorem wd_202 : Cond.fieldLink RX0 11 RX0 "orders" "[I" ∈ TB := TB_of (List.mem_of_getElem? (i := 202) (by decide +kernel)) (by decide +kernel)
theorem fw_X0_11 : Fw RX0 11 0 RX0 TX0 12 0 3 := ⟨inTX0, rfl, by decide, Or.inl wd_202, rfl, by decide, rfl⟩
theorem wd_203 : Cond.fieldLink RX0 15 RX0 "details" "[I" ∈ TB := TB_of (List.mem_of_getElem? (i := 203) (by decide +kernel)) (by decide +kernel)
theorem fw_X0_15 : Fw RX0 15 0 RX0 TX0 12 1 4 := ⟨inTX0, rfl, by decide, Or.inl wd_203, rfl, by decide, rfl⟩
theorem wd_492 : Cond.code yX0_jumpBehindPart cX0_jumpBehindPart 2 none ∈ TB := TB_of (List.mem_of_getElem? (i := 492) (by decide +kernel)) (by decide +kernel)
theorem wd_489 : Cond.methodLink RX0 70 yX0_jumpBehindPart ∈ TB := TB_of (List.mem_of_getElem? (i := 489) (by decide +kernel)) (by decide +kernel)
theorem wd_491 : Cond.instanceMethod yX0_jumpBehindPart ∈ TB := TB_of (List.mem_of_getElem? (i := 491) (by decide +kernel)) (by decide +kernel)
theorem ws_14 : Cond.selects yX0_jumpBehindPart.cls yX0_jumpBehindPart yX0_jumpBehindPart ∈ TB := TB_of (List.mem_of_getElem? (i := 14) (by decide +kernel)) (by decide +kernel)
theorem cs_X0_70 : SiV RX0 70 yX0_jumpBehindPart cX0_jumpBehindPart 2 none 1 0 := ⟨wd_492, Or.inl wd_489, wd_491, ws_14, wd_81, by decide +kernel, ⟨TX0, 12, rfl⟩, by decide, by decide⟩
theorem wd_213 : Cond.fieldLink RX0 38 RX0 "openJumps" "[I" ∈ TB := TB_of (List.mem_of_getElem? (i := 213) (by decide +kernel)) (by decide +kernel)
theorem fw_X0_38 : Fw RX0 38 0 RX0 TX0 12 8 7 := ⟨inTX0, rfl, by decide, Or.inl wd_213, rfl, by decide, rfl⟩
theorem wd_496 : Cond.code yX0_aim cX0_aim 3 none ∈ TB := TB_of (List.mem_of_getElem? (i := 496) (by decide +kernel)) (by decide +kernel)
theorem wd_493 : Cond.methodLink RX0 74 yX0_aim ∈ TB := TB_of (List.mem_of_getElem? (i := 493) (by decide +kernel)) (by decide +kernel)
theorem wd_495 : Cond.instanceMethod yX0_aim ∈ TB := TB_of (List.mem_of_getElem? (i := 495) (by decide +kernel)) (by decide +kernel)
theorem ws_15 : Cond.selects yX0_aim.cls yX0_aim yX0_aim ∈ TB := TB_of (List.mem_of_getElem? (i := 15) (by decide +kernel)) (by decide +kernel)
theorem cs_X0_74 : SiV RX0 74 yX0_aim cX0_aim 3 none 2 0 := ⟨wd_496, Or.inl wd_493, wd_495, ws_15, wd_81, by decide +kernel, ⟨TX0, 12, rfl⟩, by decide, by decide⟩
theorem wd_217 : Cond.fieldLink RX0 47 RX0 "done" "I" ∈ TB := TB_of (List.mem_of_getElem? (i := 217) (by decide +kernel)) (by decide +kernel)
theorem fw_X0_47 : Fw RX0 47 0 RX0 TX0 12 11 0 := ⟨inTX0, rfl, by decide, Or.inl wd_217, rfl, by decide, rfl⟩
theorem fp_0_11 : Fp 0 11 RX0 TX0 12 tyX0 .int := ⟨tyX0_ok, nmX0, rfl, by decide +kernel⟩
theorem wd_214 : Cond.fieldLink RX0 41 RX0 "stack" "[I" ∈ TB := TB_of (List.mem_of_getElem? (i := 214) (by decide +kernel)) (by decide +kernel)
theorem fw_X0_41 : Fw RX0 41 0 RX0 TX0 12 9 8 := ⟨inTX0, rfl, by decide, Or.inl wd_214, rfl, by decide, rfl⟩
theorem wd_501 : Cond.methodLink RX0 77 Lib.Math.max.name ∈ TB := TB_of (List.mem_of_getElem? (i := 501) (by decide +kernel)) (by decide +kernel)
theorem wd_502 : Cond.static Lib.Math.max.name ∈ TB := TB_of (List.mem_of_getElem? (i := 502) (by decide +kernel)) (by decide +kernel)
theorem wd_84 : Cond.initialized "java/lang/Math" ∈ TB := TB_of (List.mem_of_getElem? (i := 84) (by decide +kernel)) (by decide +kernel)
theorem wd_503 : Cond.code Lib.Math.max.name Lib.Math.max.code 2 (some .int) ∈ TB := TB_of (List.mem_of_getElem? (i := 503) (by decide +kernel)) (by decide +kernel)
theorem cs_X0_77 : Cond.methodLink RX0 77 Lib.Math.max.name ∈ TB ∧ Cond.static Lib.Math.max.name ∈ TB ∧ Cond.initialized "java/lang/Math" ∈ TB ∧ Cond.code Lib.Math.max.name Lib.Math.max.code 2 (some .int) ∈ TB := ⟨wd_501, wd_502, wd_84, wd_503⟩
theorem wd_506 : Cond.code yX7_combine cX7_combine 3 (some .int) ∈ TB := TB_of (List.mem_of_getElem? (i := 506) (by decide +kernel)) (by decide +kernel)
theorem wn_429 : Cond.methodLinkNest RX0 83 yX7_combine "MakersBench" ∈ NW := List.mem_filter.mpr ⟨List.mem_of_getElem? (i := 429) (by decide +kernel), by decide +kernel⟩
theorem wd_505 : Cond.static yX7_combine ∈ TB := TB_of (List.mem_of_getElem? (i := 505) (by decide +kernel)) (by decide +kernel)
theorem cs_X0_83 : SiS RX0 83 yX7_combine cX7_combine 3 (some .int) 3 := ⟨wd_506, Or.inr ⟨_, wn_429⟩, wd_505, wd_76, by decide +kernel, by decide⟩
theorem wd_215 : Cond.fieldLink RX0 44 RX0 "result" "I" ∈ TB := TB_of (List.mem_of_getElem? (i := 215) (by decide +kernel)) (by decide +kernel)
theorem fw_X0_44 : Fw RX0 44 0 RX0 TX0 12 10 0 := ⟨inTX0, rfl, by decide, Or.inl wd_215, rfl, by decide, rfl⟩
theorem fp_0_10 : Fp 0 10 RX0 TX0 12 tyX0 .int := ⟨tyX0_ok, nmX0, rfl, by decide +kernel⟩
theorem wd_500 : Cond.code yX0_run cX0_run 8 (some .boolean) ∈ TB := TB_of (List.mem_of_getElem? (i := 500) (by decide +kernel)) (by decide +kernel)
theorem wd_519 : Cond.methodLink RX0 87 yX0_run ∈ TB := TB_of (List.mem_of_getElem? (i := 519) (by decide +kernel)) (by decide +kernel)
theorem wd_498 : Cond.instanceMethod yX0_run ∈ TB := TB_of (List.mem_of_getElem? (i := 498) (by decide +kernel)) (by decide +kernel)
theorem wd_499 : Cond.selects yX0_run.cls yX0_run yX0_run ∈ TB := TB_of (List.mem_of_getElem? (i := 499) (by decide +kernel)) (by decide +kernel)
theorem cs_X0_87 : SiV RX0 87 yX0_run cX0_run 8 (some .boolean) 2 0 := ⟨wd_500, Or.inl wd_519, wd_498, wd_499, wd_81, by decide +kernel, ⟨TX0, 12, rfl⟩, by decide, by decide⟩
theorem wd_309 : Cond.code yX7_within cX7_within 3 (some .boolean) ∈ TB := TB_of (List.mem_of_getElem? (i := 309) (by decide +kernel)) (by decide +kernel)
theorem wn_239 : Cond.methodLinkNest RX1 39 yX7_within "MakersBench" ∈ NW := List.mem_filter.mpr ⟨List.mem_of_getElem? (i := 239) (by decide +kernel), by decide +kernel⟩
theorem wd_308 : Cond.static yX7_within ∈ TB := TB_of (List.mem_of_getElem? (i := 308) (by decide +kernel)) (by decide +kernel)
theorem cs_X1_39 : SiS RX1 39 yX7_within cX7_within 3 (some .boolean) 3 := ⟨wd_309, Or.inr ⟨_, wn_239⟩, wd_308, wd_76, by decide +kernel, by decide⟩
theorem wd_103 : Cond.fieldLink RX1 9 RX1 "ones" "[J" ∈ TB := TB_of (List.mem_of_getElem? (i := 103) (by decide +kernel)) (by decide +kernel)
theorem fw_X1_9 : Fw RX1 9 1 RX1 TX1 7 0 3 := ⟨inTX1, rfl, by decide, Or.inl wd_103, rfl, by decide, rfl⟩
theorem wd_331 : Cond.code yX5_clear cX5_clear 1 none ∈ TB := TB_of (List.mem_of_getElem? (i := 331) (by decide +kernel)) (by decide +kernel)
theorem wd_328 : Cond.methodLink RX1 43 yX5_clear ∈ TB := TB_of (List.mem_of_getElem? (i := 328) (by decide +kernel)) (by decide +kernel)
theorem wd_329 : Cond.instanceMethod yX5_clear ∈ TB := TB_of (List.mem_of_getElem? (i := 329) (by decide +kernel)) (by decide +kernel)
theorem wd_330 : Cond.selects yX5_clear.cls yX5_clear yX5_clear ∈ TB := TB_of (List.mem_of_getElem? (i := 330) (by decide +kernel)) (by decide +kernel)
theorem cs_X1_43 : SiV RX1 43 yX5_clear cX5_clear 1 none 0 4 := ⟨wd_331, Or.inl wd_328, wd_329, wd_330, wd_79, by decide +kernel, ⟨TX5, 4, rfl⟩, by decide, by decide⟩
theorem wd_108 : Cond.fieldLink RX1 28 RX1 "deferred" "I" ∈ TB := TB_of (List.mem_of_getElem? (i := 108) (by decide +kernel)) (by decide +kernel)
theorem fw_X1_28 : Fw RX1 28 1 RX1 TX1 7 5 0 := ⟨inTX1, rfl, by decide, Or.inl wd_108, rfl, by decide, rfl⟩
theorem fp_1_5 : Fp 1 5 RX1 TX1 7 tyX1 .int := ⟨tyX1_ok, nmX1, rfl, by decide +kernel⟩
theorem wd_335 : Cond.code yX1_defer cX1_defer 4 none ∈ TB := TB_of (List.mem_of_getElem? (i := 335) (by decide +kernel)) (by decide +kernel)
theorem wd_332 : Cond.methodLink RX1 48 yX1_defer ∈ TB := TB_of (List.mem_of_getElem? (i := 332) (by decide +kernel)) (by decide +kernel)
theorem wd_77 : Cond.initialized RX1 ∈ TB := TB_of (List.mem_of_getElem? (i := 77) (by decide +kernel)) (by decide +kernel)
theorem wd_334 : Cond.instanceMethod yX1_defer ∈ TB := TB_of (List.mem_of_getElem? (i := 334) (by decide +kernel)) (by decide +kernel)
theorem ws_1 : Cond.selects yX1_defer.cls yX1_defer yX1_defer ∈ TB := TB_of (List.mem_of_getElem? (i := 1) (by decide +kernel)) (by decide +kernel)
theorem cs_X1_48 : SiV RX1 48 yX1_defer cX1_defer 4 none 2 1 := ⟨wd_335, Or.inl wd_332, wd_334, ws_1, wd_77, by decide +kernel, ⟨TX1, 7, rfl⟩, by decide, by decide⟩
theorem wd_106 : Cond.fieldLink RX1 21 RX1 "deferredSizes" "[I" ∈ TB := TB_of (List.mem_of_getElem? (i := 106) (by decide +kernel)) (by decide +kernel)
theorem fw_X1_21 : Fw RX1 21 1 RX1 TX1 7 3 6 := ⟨inTX1, rfl, by decide, Or.inl wd_106, rfl, by decide, rfl⟩
theorem wd_107 : Cond.fieldLink RX1 25 RX1 "deferredNumbers" "[J" ∈ TB := TB_of (List.mem_of_getElem? (i := 107) (by decide +kernel)) (by decide +kernel)
theorem fw_X1_25 : Fw RX1 25 1 RX1 TX1 7 4 7 := ⟨inTX1, rfl, by decide, Or.inl wd_107, rfl, by decide, rfl⟩
theorem wd_339 : Cond.code yX1_unfoldNode cX1_unfoldNode 10 none ∈ TB := TB_of (List.mem_of_getElem? (i := 339) (by decide +kernel)) (by decide +kernel)
theorem wd_336 : Cond.methodLink RX1 52 yX1_unfoldNode ∈ TB := TB_of (List.mem_of_getElem? (i := 336) (by decide +kernel)) (by decide +kernel)
theorem wd_338 : Cond.instanceMethod yX1_unfoldNode ∈ TB := TB_of (List.mem_of_getElem? (i := 338) (by decide +kernel)) (by decide +kernel)
theorem ws_2 : Cond.selects yX1_unfoldNode.cls yX1_unfoldNode yX1_unfoldNode ∈ TB := TB_of (List.mem_of_getElem? (i := 2) (by decide +kernel)) (by decide +kernel)
theorem cs_X1_52 : SiV RX1 52 yX1_unfoldNode cX1_unfoldNode 10 none 3 1 := ⟨wd_339, Or.inl wd_336, wd_338, ws_2, wd_77, by decide +kernel, ⟨TX1, 7, rfl⟩, by decide, by decide⟩
theorem wd_357 : Cond.code yX5_measure cX5_measure 4 none ∈ TB := TB_of (List.mem_of_getElem? (i := 357) (by decide +kernel)) (by decide +kernel)
theorem wn_279 : Cond.methodLinkNest RX1 56 yX5_measure "MakersBench" ∈ NW := List.mem_filter.mpr ⟨List.mem_of_getElem? (i := 279) (by decide +kernel), by decide +kernel⟩
theorem wd_356 : Cond.instanceMethod yX5_measure ∈ TB := TB_of (List.mem_of_getElem? (i := 356) (by decide +kernel)) (by decide +kernel)
theorem ws_6 : Cond.selects yX5_measure.cls yX5_measure yX5_measure ∈ TB := TB_of (List.mem_of_getElem? (i := 6) (by decide +kernel)) (by decide +kernel)
theorem cs_X1_56 : SiV RX1 56 yX5_measure cX5_measure 4 none 0 4 := ⟨wd_357, Or.inr ⟨_, wn_279⟩, wd_356, ws_6, wd_79, by decide +kernel, ⟨TX5, 4, rfl⟩, by decide, by decide⟩
theorem wd_343 : Cond.code yX1_unfoldLeaf cX1_unfoldLeaf 3 none ∈ TB := TB_of (List.mem_of_getElem? (i := 343) (by decide +kernel)) (by decide +kernel)
theorem wd_340 : Cond.methodLink RX1 59 yX1_unfoldLeaf ∈ TB := TB_of (List.mem_of_getElem? (i := 340) (by decide +kernel)) (by decide +kernel)
theorem wd_342 : Cond.instanceMethod yX1_unfoldLeaf ∈ TB := TB_of (List.mem_of_getElem? (i := 342) (by decide +kernel)) (by decide +kernel)
theorem ws_3 : Cond.selects yX1_unfoldLeaf.cls yX1_unfoldLeaf yX1_unfoldLeaf ∈ TB := TB_of (List.mem_of_getElem? (i := 3) (by decide +kernel)) (by decide +kernel)
theorem cs_X1_59 : SiV RX1 59 yX1_unfoldLeaf cX1_unfoldLeaf 3 none 2 1 := ⟨wd_343, Or.inl wd_340, wd_342, ws_3, wd_77, by decide +kernel, ⟨TX1, 7, rfl⟩, by decide, by decide⟩
theorem wd_313 : Cond.code yX1_howMany cX1_howMany 2 (some .long) ∈ TB := TB_of (List.mem_of_getElem? (i := 313) (by decide +kernel)) (by decide +kernel)
theorem wd_345 : Cond.methodLink RX1 63 yX1_howMany ∈ TB := TB_of (List.mem_of_getElem? (i := 345) (by decide +kernel)) (by decide +kernel)
theorem wd_311 : Cond.instanceMethod yX1_howMany ∈ TB := TB_of (List.mem_of_getElem? (i := 311) (by decide +kernel)) (by decide +kernel)
theorem wd_312 : Cond.selects yX1_howMany.cls yX1_howMany yX1_howMany ∈ TB := TB_of (List.mem_of_getElem? (i := 312) (by decide +kernel)) (by decide +kernel)
theorem cs_X1_63 : SiV RX1 63 yX1_howMany cX1_howMany 2 (some .long) 1 1 := ⟨wd_313, Or.inl wd_345, wd_311, wd_312, wd_77, by decide +kernel, ⟨TX1, 7, rfl⟩, by decide, by decide⟩
theorem wd_265 : Cond.code yX5_append cX5_append 3 none ∈ TB := TB_of (List.mem_of_getElem? (i := 265) (by decide +kernel)) (by decide +kernel)
theorem wd_344 : Cond.methodLink RX1 67 yX5_append ∈ TB := TB_of (List.mem_of_getElem? (i := 344) (by decide +kernel)) (by decide +kernel)
theorem wd_263 : Cond.instanceMethod yX5_append ∈ TB := TB_of (List.mem_of_getElem? (i := 263) (by decide +kernel)) (by decide +kernel)
theorem wd_264 : Cond.selects yX5_append.cls yX5_append yX5_append ∈ TB := TB_of (List.mem_of_getElem? (i := 264) (by decide +kernel)) (by decide +kernel)
theorem cs_X1_67 : SiV RX1 67 yX5_append cX5_append 3 none 2 4 := ⟨wd_265, Or.inl wd_344, wd_263, wd_264, wd_79, by decide +kernel, ⟨TX5, 4, rfl⟩, by decide, by decide⟩
theorem wd_104 : Cond.fieldLink RX1 15 RX1 "twos" "[J" ∈ TB := TB_of (List.mem_of_getElem? (i := 104) (by decide +kernel)) (by decide +kernel)
theorem fw_X1_15 : Fw RX1 15 1 RX1 TX1 7 1 4 := ⟨inTX1, rfl, by decide, Or.inl wd_104, rfl, by decide, rfl⟩
theorem wd_102 : Cond.constantLong RX1 37 (4) ∈ TB := TB_of (List.mem_of_getElem? (i := 102) (by decide +kernel)) (by decide +kernel)
theorem wd_349 : Cond.code yX1_deferTwo cX1_deferTwo 11 none ∈ TB := TB_of (List.mem_of_getElem? (i := 349) (by decide +kernel)) (by decide +kernel)
theorem wd_346 : Cond.methodLink RX1 71 yX1_deferTwo ∈ TB := TB_of (List.mem_of_getElem? (i := 346) (by decide +kernel)) (by decide +kernel)
theorem wd_348 : Cond.instanceMethod yX1_deferTwo ∈ TB := TB_of (List.mem_of_getElem? (i := 348) (by decide +kernel)) (by decide +kernel)
theorem ws_4 : Cond.selects yX1_deferTwo.cls yX1_deferTwo yX1_deferTwo ∈ TB := TB_of (List.mem_of_getElem? (i := 4) (by decide +kernel)) (by decide +kernel)
theorem cs_X1_71 : SiV RX1 71 yX1_deferTwo cX1_deferTwo 11 none 2 1 := ⟨wd_349, Or.inl wd_346, wd_348, ws_4, wd_77, by decide +kernel, ⟨TX1, 7, rfl⟩, by decide, by decide⟩
theorem wd_353 : Cond.code yX1_deferThree cX1_deferThree 11 none ∈ TB := TB_of (List.mem_of_getElem? (i := 353) (by decide +kernel)) (by decide +kernel)
theorem wd_350 : Cond.methodLink RX1 74 yX1_deferThree ∈ TB := TB_of (List.mem_of_getElem? (i := 350) (by decide +kernel)) (by decide +kernel)
theorem wd_352 : Cond.instanceMethod yX1_deferThree ∈ TB := TB_of (List.mem_of_getElem? (i := 352) (by decide +kernel)) (by decide +kernel)
theorem ws_5 : Cond.selects yX1_deferThree.cls yX1_deferThree yX1_deferThree ∈ TB := TB_of (List.mem_of_getElem? (i := 5) (by decide +kernel)) (by decide +kernel)
theorem cs_X1_74 : SiV RX1 74 yX1_deferThree cX1_deferThree 11 none 2 1 := ⟨wd_353, Or.inl wd_350, wd_352, ws_5, wd_77, by decide +kernel, ⟨TX1, 7, rfl⟩, by decide, by decide⟩
theorem wn_72 : Cond.fieldLinkNest RX1 77 RX5 "length" "I" "MakersBench" ∈ NW := List.mem_filter.mpr ⟨List.mem_of_getElem? (i := 72) (by decide +kernel), by decide +kernel⟩
theorem fw_X1_77 : Fw RX1 77 4 RX5 TX5 4 3 0 := ⟨inTX5, rfl, by decide, Or.inr ⟨_, wn_72⟩, rfl, by decide, rfl⟩
theorem wd_379 : Cond.methodLink RX1 80 yX5_kindOf ∈ TB := TB_of (List.mem_of_getElem? (i := 379) (by decide +kernel)) (by decide +kernel)
theorem cs_X1_80 : SiV RX1 80 yX5_kindOf cX5_kindOf 2 (some .int) 1 4 := ⟨wd_382, Or.inl wd_379, wd_380, wd_381, wd_79, by decide +kernel, ⟨TX5, 4, rfl⟩, by decide, by decide⟩
theorem wd_383 : Cond.methodLink RX1 84 yX5_numberOf ∈ TB := TB_of (List.mem_of_getElem? (i := 383) (by decide +kernel)) (by decide +kernel)
theorem cs_X1_84 : SiV RX1 84 yX5_numberOf cX5_numberOf 2 (some .int) 1 4 := ⟨wd_386, Or.inl wd_383, wd_384, wd_385, wd_79, by decide +kernel, ⟨TX5, 4, rfl⟩, by decide, by decide⟩
theorem wd_391 : Cond.methodLink RX1 87 Lib.Math.min.name ∈ TB := TB_of (List.mem_of_getElem? (i := 391) (by decide +kernel)) (by decide +kernel)
theorem wd_392 : Cond.static Lib.Math.min.name ∈ TB := TB_of (List.mem_of_getElem? (i := 392) (by decide +kernel)) (by decide +kernel)
theorem wd_393 : Cond.code Lib.Math.min.name Lib.Math.min.code 2 (some .int) ∈ TB := TB_of (List.mem_of_getElem? (i := 393) (by decide +kernel)) (by decide +kernel)
theorem cs_X1_87 : Cond.methodLink RX1 87 Lib.Math.min.name ∈ TB ∧ Cond.static Lib.Math.min.name ∈ TB ∧ Cond.initialized "java/lang/Math" ∈ TB ∧ Cond.code Lib.Math.min.name Lib.Math.min.code 2 (some .int) ∈ TB := ⟨wd_391, wd_392, wd_84, wd_393⟩
theorem wd_109 : Cond.fieldLink RX1 32 RX1 "ranks" "[J" ∈ TB := TB_of (List.mem_of_getElem? (i := 109) (by decide +kernel)) (by decide +kernel)
theorem fw_X1_32 : Fw RX1 32 1 RX1 TX1 7 6 8 := ⟨inTX1, rfl, by decide, Or.inl wd_109, rfl, by decide, rfl⟩
theorem wd_397 : Cond.code yX1_rankOfNode cX1_rankOfNode 7 (some .long) ∈ TB := TB_of (List.mem_of_getElem? (i := 397) (by decide +kernel)) (by decide +kernel)
theorem wd_394 : Cond.methodLink RX1 93 yX1_rankOfNode ∈ TB := TB_of (List.mem_of_getElem? (i := 394) (by decide +kernel)) (by decide +kernel)
theorem wd_396 : Cond.instanceMethod yX1_rankOfNode ∈ TB := TB_of (List.mem_of_getElem? (i := 396) (by decide +kernel)) (by decide +kernel)
theorem ws_8 : Cond.selects yX1_rankOfNode.cls yX1_rankOfNode yX1_rankOfNode ∈ TB := TB_of (List.mem_of_getElem? (i := 8) (by decide +kernel)) (by decide +kernel)
theorem cs_X1_93 : SiV RX1 93 yX1_rankOfNode cX1_rankOfNode 7 (some .long) 2 1 := ⟨wd_397, Or.inl wd_394, wd_396, ws_8, wd_77, by decide +kernel, ⟨TX1, 7, rfl⟩, by decide, by decide⟩
theorem wd_401 : Cond.code yX5_sizeOf cX5_sizeOf 2 (some .int) ∈ TB := TB_of (List.mem_of_getElem? (i := 401) (by decide +kernel)) (by decide +kernel)
theorem wd_398 : Cond.methodLink RX1 97 yX5_sizeOf ∈ TB := TB_of (List.mem_of_getElem? (i := 398) (by decide +kernel)) (by decide +kernel)
theorem wd_399 : Cond.instanceMethod yX5_sizeOf ∈ TB := TB_of (List.mem_of_getElem? (i := 399) (by decide +kernel)) (by decide +kernel)
theorem wd_400 : Cond.selects yX5_sizeOf.cls yX5_sizeOf yX5_sizeOf ∈ TB := TB_of (List.mem_of_getElem? (i := 400) (by decide +kernel)) (by decide +kernel)
theorem cs_X1_97 : SiV RX1 97 yX5_sizeOf cX5_sizeOf 2 (some .int) 1 4 := ⟨wd_401, Or.inl wd_398, wd_399, wd_400, wd_79, by decide +kernel, ⟨TX5, 4, rfl⟩, by decide, by decide⟩
theorem wd_405 : Cond.code yX1_rankAt cX1_rankAt 2 (some .long) ∈ TB := TB_of (List.mem_of_getElem? (i := 405) (by decide +kernel)) (by decide +kernel)
theorem wd_402 : Cond.methodLink RX1 100 yX1_rankAt ∈ TB := TB_of (List.mem_of_getElem? (i := 402) (by decide +kernel)) (by decide +kernel)
theorem wd_404 : Cond.instanceMethod yX1_rankAt ∈ TB := TB_of (List.mem_of_getElem? (i := 404) (by decide +kernel)) (by decide +kernel)
theorem ws_9 : Cond.selects yX1_rankAt.cls yX1_rankAt yX1_rankAt ∈ TB := TB_of (List.mem_of_getElem? (i := 9) (by decide +kernel)) (by decide +kernel)
theorem cs_X1_100 : SiV RX1 100 yX1_rankAt cX1_rankAt 2 (some .long) 1 1 := ⟨wd_405, Or.inl wd_402, wd_404, ws_9, wd_77, by decide +kernel, ⟨TX1, 7, rfl⟩, by decide, by decide⟩
theorem wd_409 : Cond.code yX1_rankOfThree cX1_rankOfThree 8 (some .long) ∈ TB := TB_of (List.mem_of_getElem? (i := 409) (by decide +kernel)) (by decide +kernel)
theorem wd_406 : Cond.methodLink RX1 103 yX1_rankOfThree ∈ TB := TB_of (List.mem_of_getElem? (i := 406) (by decide +kernel)) (by decide +kernel)
theorem wd_408 : Cond.instanceMethod yX1_rankOfThree ∈ TB := TB_of (List.mem_of_getElem? (i := 408) (by decide +kernel)) (by decide +kernel)
theorem ws_10 : Cond.selects yX1_rankOfThree.cls yX1_rankOfThree yX1_rankOfThree ∈ TB := TB_of (List.mem_of_getElem? (i := 10) (by decide +kernel)) (by decide +kernel)
theorem cs_X1_103 : SiV RX1 103 yX1_rankOfThree cX1_rankOfThree 8 (some .long) 3 1 := ⟨wd_409, Or.inl wd_406, wd_408, ws_10, wd_77, by decide +kernel, ⟨TX1, 7, rfl⟩, by decide, by decide⟩
theorem wd_414 : Cond.code yX1_rankOfTwo cX1_rankOfTwo 9 (some .long) ∈ TB := TB_of (List.mem_of_getElem? (i := 414) (by decide +kernel)) (by decide +kernel)
theorem wd_411 : Cond.methodLink RX1 107 yX1_rankOfTwo ∈ TB := TB_of (List.mem_of_getElem? (i := 411) (by decide +kernel)) (by decide +kernel)
theorem wd_413 : Cond.instanceMethod yX1_rankOfTwo ∈ TB := TB_of (List.mem_of_getElem? (i := 413) (by decide +kernel)) (by decide +kernel)
theorem ws_11 : Cond.selects yX1_rankOfTwo.cls yX1_rankOfTwo yX1_rankOfTwo ∈ TB := TB_of (List.mem_of_getElem? (i := 11) (by decide +kernel)) (by decide +kernel)
theorem cs_X1_107 : SiV RX1 107 yX1_rankOfTwo cX1_rankOfTwo 9 (some .long) 2 1 := ⟨wd_414, Or.inl wd_411, wd_413, ws_11, wd_77, by decide +kernel, ⟨TX1, 7, rfl⟩, by decide, by decide⟩
theorem wd_366 : Cond.code yX5_behind cX5_behind 2 (some .int) ∈ TB := TB_of (List.mem_of_getElem? (i := 366) (by decide +kernel)) (by decide +kernel)
theorem wd_410 : Cond.methodLink RX1 110 yX5_behind ∈ TB := TB_of (List.mem_of_getElem? (i := 410) (by decide +kernel)) (by decide +kernel)
theorem wd_364 : Cond.instanceMethod yX5_behind ∈ TB := TB_of (List.mem_of_getElem? (i := 364) (by decide +kernel)) (by decide +kernel)
theorem wd_365 : Cond.selects yX5_behind.cls yX5_behind yX5_behind ∈ TB := TB_of (List.mem_of_getElem? (i := 365) (by decide +kernel)) (by decide +kernel)
theorem cs_X1_110 : SiV RX1 110 yX5_behind cX5_behind 2 (some .int) 1 4 := ⟨wd_366, Or.inl wd_410, wd_364, wd_365, wd_79, by decide +kernel, ⟨TX5, 4, rfl⟩, by decide, by decide⟩
theorem wd_252 : Cond.fieldLink RX2 18 RX2 "turns" "I" ∈ TB := TB_of (List.mem_of_getElem? (i := 252) (by decide +kernel)) (by decide +kernel)
theorem fw_X2_18 : Fw RX2 18 2 RX2 TX2 3 2 0 := ⟨inTX2, rfl, by decide, Or.inl wd_252, rfl, by decide, rfl⟩
theorem wd_553 : Cond.code yX2_has cX2_has 2 (some .boolean) ∈ TB := TB_of (List.mem_of_getElem? (i := 553) (by decide +kernel)) (by decide +kernel)
theorem wd_558 : Cond.methodLink RX2 22 yX2_has ∈ TB := TB_of (List.mem_of_getElem? (i := 558) (by decide +kernel)) (by decide +kernel)
theorem wd_82 : Cond.initialized RX2 ∈ TB := TB_of (List.mem_of_getElem? (i := 82) (by decide +kernel)) (by decide +kernel)
theorem wd_551 : Cond.instanceMethod yX2_has ∈ TB := TB_of (List.mem_of_getElem? (i := 551) (by decide +kernel)) (by decide +kernel)
theorem wd_552 : Cond.selects yX2_has.cls yX2_has yX2_has ∈ TB := TB_of (List.mem_of_getElem? (i := 552) (by decide +kernel)) (by decide +kernel)
theorem cs_X2_22 : SiV RX2 22 yX2_has cX2_has 2 (some .boolean) 1 2 := ⟨wd_553, Or.inl wd_558, wd_551, wd_552, wd_82, by decide +kernel, ⟨TX2, 3, rfl⟩, by decide, by decide⟩
theorem wd_250 : Cond.fieldLink RX2 9 RX2 "sorts" "[I" ∈ TB := TB_of (List.mem_of_getElem? (i := 250) (by decide +kernel)) (by decide +kernel)
theorem fw_X2_9 : Fw RX2 9 2 RX2 TX2 3 0 3 := ⟨inTX2, rfl, by decide, Or.inl wd_250, rfl, by decide, rfl⟩
theorem wd_251 : Cond.fieldLink RX2 15 RX2 "faults" "[I" ∈ TB := TB_of (List.mem_of_getElem? (i := 251) (by decide +kernel)) (by decide +kernel)
theorem fw_X2_15 : Fw RX2 15 2 RX2 TX2 3 1 4 := ⟨inTX2, rfl, by decide, Or.inl wd_251, rfl, by decide, rfl⟩
theorem fp_2_2 : Fp 2 2 RX2 TX2 3 tyX2 .int := ⟨tyX2_ok, nmX2, rfl, by decide +kernel⟩
theorem wd_158 : Cond.fieldLink RX3 12 RX3 "row" "LMakersBench$Tree;" ∈ TB := TB_of (List.mem_of_getElem? (i := 158) (by decide +kernel)) (by decide +kernel)
theorem fw_X3_12 : Fw RX3 12 3 RX3 TX3 3 0 3 := ⟨inTX3, rfl, by decide, Or.inl wd_158, rfl, by decide, rfl⟩
theorem wd_449 : Cond.methodLink RX3 26 yX5_clear ∈ TB := TB_of (List.mem_of_getElem? (i := 449) (by decide +kernel)) (by decide +kernel)
theorem cs_X3_26 : SiV RX3 26 yX5_clear cX5_clear 1 none 0 4 := ⟨wd_331, Or.inl wd_449, wd_329, wd_330, wd_79, by decide +kernel, ⟨TX5, 4, rfl⟩, by decide, by decide⟩
theorem wd_161 : Cond.fieldLink RX3 22 RX3 "trees" "I" ∈ TB := TB_of (List.mem_of_getElem? (i := 161) (by decide +kernel)) (by decide +kernel)
theorem fw_X3_22 : Fw RX3 22 3 RX3 TX3 3 2 0 := ⟨inTX3, rfl, by decide, Or.inl wd_161, rfl, by decide, rfl⟩
theorem fp_3_2 : Fp 3 2 RX3 TX3 3 tyX3 .int := ⟨tyX3_ok, nmX3, rfl, by decide +kernel⟩
theorem wn_350 : Cond.methodLinkNest RX3 29 yX7_partsOf "MakersBench" ∈ NW := List.mem_filter.mpr ⟨List.mem_of_getElem? (i := 350) (by decide +kernel), by decide +kernel⟩
theorem cs_X3_29 : SiS RX3 29 yX7_partsOf cX7_partsOf 1 (some .int) 1 := ⟨wd_360, Or.inr ⟨_, wn_350⟩, wd_359, wd_76, by decide +kernel, by decide⟩
theorem wd_160 : Cond.fieldLink RX3 18 RX3 "starts" "[I" ∈ TB := TB_of (List.mem_of_getElem? (i := 160) (by decide +kernel)) (by decide +kernel)
theorem fw_X3_18 : Fw RX3 18 3 RX3 TX3 3 1 7 := ⟨inTX3, rfl, by decide, Or.inl wd_160, rfl, by decide, rfl⟩
theorem wn_69 : Cond.fieldLinkNest RX3 33 RX5 "length" "I" "MakersBench" ∈ NW := List.mem_filter.mpr ⟨List.mem_of_getElem? (i := 69) (by decide +kernel), by decide +kernel⟩
theorem fw_X3_33 : Fw RX3 33 4 RX5 TX5 4 3 0 := ⟨inTX5, rfl, by decide, Or.inr ⟨_, wn_69⟩, rfl, by decide, rfl⟩
theorem wd_429 : Cond.code yX5_insert cX5_insert 4 none ∈ TB := TB_of (List.mem_of_getElem? (i := 429) (by decide +kernel)) (by decide +kernel)
theorem wd_426 : Cond.methodLink RX3 36 yX5_insert ∈ TB := TB_of (List.mem_of_getElem? (i := 426) (by decide +kernel)) (by decide +kernel)
theorem wd_427 : Cond.instanceMethod yX5_insert ∈ TB := TB_of (List.mem_of_getElem? (i := 427) (by decide +kernel)) (by decide +kernel)
theorem wd_428 : Cond.selects yX5_insert.cls yX5_insert yX5_insert ∈ TB := TB_of (List.mem_of_getElem? (i := 428) (by decide +kernel)) (by decide +kernel)
theorem cs_X3_36 : SiV RX3 36 yX5_insert cX5_insert 4 none 3 4 := ⟨wd_429, Or.inl wd_426, wd_427, wd_428, wd_79, by decide +kernel, ⟨TX5, 4, rfl⟩, by decide, by decide⟩
theorem wd_596 : Cond.code yX4_fold cX4_fold 7 (some .boolean) ∈ TB := TB_of (List.mem_of_getElem? (i := 596) (by decide +kernel)) (by decide +kernel)
theorem wd_594 : Cond.methodLink RX4 9 yX4_fold ∈ TB := TB_of (List.mem_of_getElem? (i := 594) (by decide +kernel)) (by decide +kernel)
theorem wd_86 : Cond.initialized RX4 ∈ TB := TB_of (List.mem_of_getElem? (i := 86) (by decide +kernel)) (by decide +kernel)
theorem wd_595 : Cond.static yX4_fold ∈ TB := TB_of (List.mem_of_getElem? (i := 595) (by decide +kernel)) (by decide +kernel)
theorem cs_X4_9 : SiS RX4 9 yX4_fold cX4_fold 7 (some .boolean) 3 := ⟨wd_596, Or.inl wd_594, wd_595, wd_86, by decide +kernel, by decide⟩
theorem wd_608 : Cond.code yX4_zero cX4_zero 6 (some .boolean) ∈ TB := TB_of (List.mem_of_getElem? (i := 608) (by decide +kernel)) (by decide +kernel)
theorem wd_606 : Cond.methodLink RX4 15 yX4_zero ∈ TB := TB_of (List.mem_of_getElem? (i := 606) (by decide +kernel)) (by decide +kernel)
theorem wd_607 : Cond.static yX4_zero ∈ TB := TB_of (List.mem_of_getElem? (i := 607) (by decide +kernel)) (by decide +kernel)
theorem cs_X4_15 : SiS RX4 15 yX4_zero cX4_zero 6 (some .boolean) 3 := ⟨wd_608, Or.inl wd_606, wd_607, wd_86, by decide +kernel, by decide⟩
theorem wd_623 : Cond.code yX4_same cX4_same 6 (some .boolean) ∈ TB := TB_of (List.mem_of_getElem? (i := 623) (by decide +kernel)) (by decide +kernel)
theorem wd_621 : Cond.methodLink RX4 18 yX4_same ∈ TB := TB_of (List.mem_of_getElem? (i := 621) (by decide +kernel)) (by decide +kernel)
theorem wd_622 : Cond.static yX4_same ∈ TB := TB_of (List.mem_of_getElem? (i := 622) (by decide +kernel)) (by decide +kernel)
theorem cs_X4_18 : SiS RX4 18 yX4_same cX4_same 6 (some .boolean) 3 := ⟨wd_623, Or.inl wd_621, wd_622, wd_86, by decide +kernel, by decide⟩
theorem wd_636 : Cond.code yX4_pick cX4_pick 7 (some .boolean) ∈ TB := TB_of (List.mem_of_getElem? (i := 636) (by decide +kernel)) (by decide +kernel)
theorem wd_634 : Cond.methodLink RX4 21 yX4_pick ∈ TB := TB_of (List.mem_of_getElem? (i := 634) (by decide +kernel)) (by decide +kernel)
theorem wd_635 : Cond.static yX4_pick ∈ TB := TB_of (List.mem_of_getElem? (i := 635) (by decide +kernel)) (by decide +kernel)
theorem cs_X4_21 : SiS RX4 21 yX4_pick cX4_pick 7 (some .boolean) 3 := ⟨wd_636, Or.inl wd_634, wd_635, wd_86, by decide +kernel, by decide⟩
theorem wd_639 : Cond.code yX4_melt cX4_melt 7 (some .boolean) ∈ TB := TB_of (List.mem_of_getElem? (i := 639) (by decide +kernel)) (by decide +kernel)
theorem wd_637 : Cond.methodLink RX4 24 yX4_melt ∈ TB := TB_of (List.mem_of_getElem? (i := 637) (by decide +kernel)) (by decide +kernel)
theorem wd_638 : Cond.static yX4_melt ∈ TB := TB_of (List.mem_of_getElem? (i := 638) (by decide +kernel)) (by decide +kernel)
theorem cs_X4_24 : SiS RX4 24 yX4_melt cX4_melt 7 (some .boolean) 3 := ⟨wd_639, Or.inl wd_637, wd_638, wd_86, by decide +kernel, by decide⟩
theorem wd_642 : Cond.code yX4_twice cX4_twice 9 (some .boolean) ∈ TB := TB_of (List.mem_of_getElem? (i := 642) (by decide +kernel)) (by decide +kernel)
theorem wd_640 : Cond.methodLink RX4 27 yX4_twice ∈ TB := TB_of (List.mem_of_getElem? (i := 640) (by decide +kernel)) (by decide +kernel)
theorem wd_641 : Cond.static yX4_twice ∈ TB := TB_of (List.mem_of_getElem? (i := 641) (by decide +kernel)) (by decide +kernel)
theorem cs_X4_27 : SiS RX4 27 yX4_twice cX4_twice 9 (some .boolean) 4 := ⟨wd_642, Or.inl wd_640, wd_641, wd_86, by decide +kernel, by decide⟩
theorem wd_651 : Cond.code yX4_sink cX4_sink 6 (some .boolean) ∈ TB := TB_of (List.mem_of_getElem? (i := 651) (by decide +kernel)) (by decide +kernel)
theorem wd_649 : Cond.methodLink RX4 31 yX4_sink ∈ TB := TB_of (List.mem_of_getElem? (i := 649) (by decide +kernel)) (by decide +kernel)
theorem wd_650 : Cond.static yX4_sink ∈ TB := TB_of (List.mem_of_getElem? (i := 650) (by decide +kernel)) (by decide +kernel)
theorem cs_X4_31 : SiS RX4 31 yX4_sink cX4_sink 6 (some .boolean) 3 := ⟨wd_651, Or.inl wd_649, wd_650, wd_86, by decide +kernel, by decide⟩
theorem wd_597 : Cond.methodLink RX4 34 yX5_kindOf ∈ TB := TB_of (List.mem_of_getElem? (i := 597) (by decide +kernel)) (by decide +kernel)
theorem cs_X4_34 : SiV RX4 34 yX5_kindOf cX5_kindOf 2 (some .int) 1 4 := ⟨wd_382, Or.inl wd_597, wd_380, wd_381, wd_79, by decide +kernel, ⟨TX5, 4, rfl⟩, by decide, by decide⟩
theorem wd_598 : Cond.methodLink RX4 40 yX5_numberOf ∈ TB := TB_of (List.mem_of_getElem? (i := 598) (by decide +kernel)) (by decide +kernel)
theorem cs_X4_40 : SiV RX4 40 yX5_numberOf cX5_numberOf 2 (some .int) 1 4 := ⟨wd_386, Or.inl wd_598, wd_384, wd_385, wd_79, by decide +kernel, ⟨TX5, 4, rfl⟩, by decide, by decide⟩
theorem wd_602 : Cond.code yX5_endAsNumber cX5_endAsNumber 3 none ∈ TB := TB_of (List.mem_of_getElem? (i := 602) (by decide +kernel)) (by decide +kernel)
theorem wd_599 : Cond.methodLink RX4 43 yX5_endAsNumber ∈ TB := TB_of (List.mem_of_getElem? (i := 599) (by decide +kernel)) (by decide +kernel)
theorem wd_600 : Cond.instanceMethod yX5_endAsNumber ∈ TB := TB_of (List.mem_of_getElem? (i := 600) (by decide +kernel)) (by decide +kernel)
theorem wd_601 : Cond.selects yX5_endAsNumber.cls yX5_endAsNumber yX5_endAsNumber ∈ TB := TB_of (List.mem_of_getElem? (i := 601) (by decide +kernel)) (by decide +kernel)
theorem cs_X4_43 : SiV RX4 43 yX5_endAsNumber cX5_endAsNumber 3 none 2 4 := ⟨wd_602, Or.inl wd_599, wd_600, wd_601, wd_79, by decide +kernel, ⟨TX5, 4, rfl⟩, by decide, by decide⟩
theorem wd_604 : Cond.methodLink RX4 47 yX5_behind ∈ TB := TB_of (List.mem_of_getElem? (i := 604) (by decide +kernel)) (by decide +kernel)
theorem cs_X4_47 : SiV RX4 47 yX5_behind cX5_behind 2 (some .int) 1 4 := ⟨wd_366, Or.inl wd_604, wd_364, wd_365, wd_79, by decide +kernel, ⟨TX5, 4, rfl⟩, by decide, by decide⟩
theorem wn_530 : Cond.methodLinkNest RX4 50 yX7_combine "MakersBench" ∈ NW := List.mem_filter.mpr ⟨List.mem_of_getElem? (i := 530) (by decide +kernel), by decide +kernel⟩
theorem cs_X4_50 : SiS RX4 50 yX7_combine cX7_combine 3 (some .int) 3 := ⟨wd_506, Or.inr ⟨_, wn_530⟩, wd_505, wd_76, by decide +kernel, by decide⟩
theorem wd_612 : Cond.code yX5_isNumber cX5_isNumber 3 (some .boolean) ∈ TB := TB_of (List.mem_of_getElem? (i := 612) (by decide +kernel)) (by decide +kernel)
theorem wd_609 : Cond.methodLink RX4 54 yX5_isNumber ∈ TB := TB_of (List.mem_of_getElem? (i := 609) (by decide +kernel)) (by decide +kernel)
theorem wd_610 : Cond.instanceMethod yX5_isNumber ∈ TB := TB_of (List.mem_of_getElem? (i := 610) (by decide +kernel)) (by decide +kernel)
theorem wd_611 : Cond.selects yX5_isNumber.cls yX5_isNumber yX5_isNumber ∈ TB := TB_of (List.mem_of_getElem? (i := 611) (by decide +kernel)) (by decide +kernel)
theorem cs_X4_54 : SiV RX4 54 yX5_isNumber cX5_isNumber 3 (some .boolean) 2 4 := ⟨wd_612, Or.inl wd_609, wd_610, wd_611, wd_79, by decide +kernel, ⟨TX5, 4, rfl⟩, by decide, by decide⟩
theorem wd_615 : Cond.code yX4_staysOfTimes cX4_staysOfTimes 4 (some .int) ∈ TB := TB_of (List.mem_of_getElem? (i := 615) (by decide +kernel)) (by decide +kernel)
theorem wd_613 : Cond.methodLink RX4 58 yX4_staysOfTimes ∈ TB := TB_of (List.mem_of_getElem? (i := 613) (by decide +kernel)) (by decide +kernel)
theorem wd_614 : Cond.static yX4_staysOfTimes ∈ TB := TB_of (List.mem_of_getElem? (i := 614) (by decide +kernel)) (by decide +kernel)
theorem cs_X4_58 : SiS RX4 58 yX4_staysOfTimes cX4_staysOfTimes 4 (some .int) 4 := ⟨wd_615, Or.inl wd_613, wd_614, wd_86, by decide +kernel, by decide⟩
theorem wd_619 : Cond.code yX5_endAsPart cX5_endAsPart 4 none ∈ TB := TB_of (List.mem_of_getElem? (i := 619) (by decide +kernel)) (by decide +kernel)
theorem wd_616 : Cond.methodLink RX4 62 yX5_endAsPart ∈ TB := TB_of (List.mem_of_getElem? (i := 616) (by decide +kernel)) (by decide +kernel)
theorem wd_617 : Cond.instanceMethod yX5_endAsPart ∈ TB := TB_of (List.mem_of_getElem? (i := 617) (by decide +kernel)) (by decide +kernel)
theorem wd_618 : Cond.selects yX5_endAsPart.cls yX5_endAsPart yX5_endAsPart ∈ TB := TB_of (List.mem_of_getElem? (i := 618) (by decide +kernel)) (by decide +kernel)
theorem cs_X4_62 : SiV RX4 62 yX5_endAsPart cX5_endAsPart 4 none 2 4 := ⟨wd_619, Or.inl wd_616, wd_617, wd_618, wd_79, by decide +kernel, ⟨TX5, 4, rfl⟩, by decide, by decide⟩
theorem wd_626 : Cond.code yX4_isAlike cX4_isAlike 3 (some .boolean) ∈ TB := TB_of (List.mem_of_getElem? (i := 626) (by decide +kernel)) (by decide +kernel)
theorem wd_624 : Cond.methodLink RX4 65 yX4_isAlike ∈ TB := TB_of (List.mem_of_getElem? (i := 624) (by decide +kernel)) (by decide +kernel)
theorem wd_625 : Cond.static yX4_isAlike ∈ TB := TB_of (List.mem_of_getElem? (i := 625) (by decide +kernel)) (by decide +kernel)
theorem cs_X4_65 : SiS RX4 65 yX4_isAlike cX4_isAlike 3 (some .boolean) 3 := ⟨wd_626, Or.inl wd_624, wd_625, wd_86, by decide +kernel, by decide⟩
theorem wd_631 : Cond.code yX5_isSame cX5_isSame 5 (some .boolean) ∈ TB := TB_of (List.mem_of_getElem? (i := 631) (by decide +kernel)) (by decide +kernel)
theorem wd_628 : Cond.methodLink RX4 68 yX5_isSame ∈ TB := TB_of (List.mem_of_getElem? (i := 628) (by decide +kernel)) (by decide +kernel)
theorem wd_629 : Cond.instanceMethod yX5_isSame ∈ TB := TB_of (List.mem_of_getElem? (i := 629) (by decide +kernel)) (by decide +kernel)
theorem wd_630 : Cond.selects yX5_isSame.cls yX5_isSame yX5_isSame ∈ TB := TB_of (List.mem_of_getElem? (i := 630) (by decide +kernel)) (by decide +kernel)
theorem cs_X4_68 : SiV RX4 68 yX5_isSame cX5_isSame 5 (some .boolean) 2 4 := ⟨wd_631, Or.inl wd_628, wd_629, wd_630, wd_79, by decide +kernel, ⟨TX5, 4, rfl⟩, by decide, by decide⟩
theorem wd_627 : Cond.methodLink RX4 71 yX5_sizeOf ∈ TB := TB_of (List.mem_of_getElem? (i := 627) (by decide +kernel)) (by decide +kernel)
theorem cs_X4_71 : SiV RX4 71 yX5_sizeOf cX5_sizeOf 2 (some .int) 1 4 := ⟨wd_401, Or.inl wd_627, wd_399, wd_400, wd_79, by decide +kernel, ⟨TX5, 4, rfl⟩, by decide, by decide⟩
theorem wd_645 : Cond.code yX4_otherThan cX4_otherThan 4 (some .int) ∈ TB := TB_of (List.mem_of_getElem? (i := 645) (by decide +kernel)) (by decide +kernel)
theorem wd_643 : Cond.methodLink RX4 74 yX4_otherThan ∈ TB := TB_of (List.mem_of_getElem? (i := 643) (by decide +kernel)) (by decide +kernel)
theorem wd_644 : Cond.static yX4_otherThan ∈ TB := TB_of (List.mem_of_getElem? (i := 644) (by decide +kernel)) (by decide +kernel)
theorem cs_X4_74 : SiS RX4 74 yX4_otherThan cX4_otherThan 4 (some .int) 4 := ⟨wd_645, Or.inl wd_643, wd_644, wd_86, by decide +kernel, by decide⟩
theorem wn_73 : Cond.fieldLinkNest RX4 77 RX5 "length" "I" "MakersBench" ∈ NW := List.mem_filter.mpr ⟨List.mem_of_getElem? (i := 73) (by decide +kernel), by decide +kernel⟩
theorem fw_X4_77 : Fw RX4 77 4 RX5 TX5 4 3 0 := ⟨inTX5, rfl, by decide, Or.inr ⟨_, wn_73⟩, rfl, by decide, rfl⟩
theorem wd_646 : Cond.methodLink RX4 81 yX5_insert ∈ TB := TB_of (List.mem_of_getElem? (i := 646) (by decide +kernel)) (by decide +kernel)
theorem cs_X4_81 : SiV RX4 81 yX5_insert cX5_insert 4 none 3 4 := ⟨wd_429, Or.inl wd_646, wd_427, wd_428, wd_79, by decide +kernel, ⟨TX5, 4, rfl⟩, by decide, by decide⟩
theorem wd_444 : Cond.code yX5_appendRun cX5_appendRun 4 none ∈ TB := TB_of (List.mem_of_getElem? (i := 444) (by decide +kernel)) (by decide +kernel)
theorem wd_647 : Cond.methodLink RX4 85 yX5_appendRun ∈ TB := TB_of (List.mem_of_getElem? (i := 647) (by decide +kernel)) (by decide +kernel)
theorem wd_442 : Cond.instanceMethod yX5_appendRun ∈ TB := TB_of (List.mem_of_getElem? (i := 442) (by decide +kernel)) (by decide +kernel)
theorem wd_443 : Cond.selects yX5_appendRun.cls yX5_appendRun yX5_appendRun ∈ TB := TB_of (List.mem_of_getElem? (i := 443) (by decide +kernel)) (by decide +kernel)
theorem cs_X4_85 : SiV RX4 85 yX5_appendRun cX5_appendRun 4 none 3 4 := ⟨wd_444, Or.inl wd_647, wd_442, wd_443, wd_79, by decide +kernel, ⟨TX5, 4, rfl⟩, by decide, by decide⟩
theorem wd_589 : Cond.code yX5_close cX5_close 2 none ∈ TB := TB_of (List.mem_of_getElem? (i := 589) (by decide +kernel)) (by decide +kernel)
theorem wd_648 : Cond.methodLink RX4 89 yX5_close ∈ TB := TB_of (List.mem_of_getElem? (i := 648) (by decide +kernel)) (by decide +kernel)
theorem wd_587 : Cond.instanceMethod yX5_close ∈ TB := TB_of (List.mem_of_getElem? (i := 587) (by decide +kernel)) (by decide +kernel)
theorem wd_588 : Cond.selects yX5_close.cls yX5_close yX5_close ∈ TB := TB_of (List.mem_of_getElem? (i := 588) (by decide +kernel)) (by decide +kernel)
theorem cs_X4_89 : SiV RX4 89 yX5_close cX5_close 2 none 1 4 := ⟨wd_589, Or.inl wd_648, wd_587, wd_588, wd_79, by decide +kernel, ⟨TX5, 4, rfl⟩, by decide, by decide⟩
theorem wd_655 : Cond.code yX5_cut cX5_cut 4 none ∈ TB := TB_of (List.mem_of_getElem? (i := 655) (by decide +kernel)) (by decide +kernel)
theorem wd_652 : Cond.methodLink RX4 93 yX5_cut ∈ TB := TB_of (List.mem_of_getElem? (i := 652) (by decide +kernel)) (by decide +kernel)
theorem wd_653 : Cond.instanceMethod yX5_cut ∈ TB := TB_of (List.mem_of_getElem? (i := 653) (by decide +kernel)) (by decide +kernel)
theorem wd_654 : Cond.selects yX5_cut.cls yX5_cut yX5_cut ∈ TB := TB_of (List.mem_of_getElem? (i := 654) (by decide +kernel)) (by decide +kernel)
theorem cs_X4_93 : SiV RX4 93 yX5_cut cX5_cut 4 none 2 4 := ⟨wd_655, Or.inl wd_652, wd_653, wd_654, wd_79, by decide +kernel, ⟨TX5, 4, rfl⟩, by decide, by decide⟩
theorem wd_659 : Cond.code yX5_rename cX5_rename 3 none ∈ TB := TB_of (List.mem_of_getElem? (i := 659) (by decide +kernel)) (by decide +kernel)
theorem wd_656 : Cond.methodLink RX4 96 yX5_rename ∈ TB := TB_of (List.mem_of_getElem? (i := 656) (by decide +kernel)) (by decide +kernel)
theorem wd_657 : Cond.instanceMethod yX5_rename ∈ TB := TB_of (List.mem_of_getElem? (i := 657) (by decide +kernel)) (by decide +kernel)
theorem wd_658 : Cond.selects yX5_rename.cls yX5_rename yX5_rename ∈ TB := TB_of (List.mem_of_getElem? (i := 658) (by decide +kernel)) (by decide +kernel)
theorem cs_X4_96 : SiV RX4 96 yX5_rename cX5_rename 3 none 2 4 := ⟨wd_659, Or.inl wd_656, wd_657, wd_658, wd_79, by decide +kernel, ⟨TX5, 4, rfl⟩, by decide, by decide⟩
theorem wd_142 : Cond.fieldLink RX5 21 RX5 "length" "I" ∈ TB := TB_of (List.mem_of_getElem? (i := 142) (by decide +kernel)) (by decide +kernel)
theorem fw_X5_21 : Fw RX5 21 4 RX5 TX5 4 3 0 := ⟨inTX5, rfl, by decide, Or.inl wd_142, rfl, by decide, rfl⟩
theorem wd_139 : Cond.fieldLink RX5 9 RX5 "kinds" "[I" ∈ TB := TB_of (List.mem_of_getElem? (i := 139) (by decide +kernel)) (by decide +kernel)
theorem fw_X5_9 : Fw RX5 9 4 RX5 TX5 4 0 3 := ⟨inTX5, rfl, by decide, Or.inl wd_139, rfl, by decide, rfl⟩
theorem wd_140 : Cond.fieldLink RX5 15 RX5 "numbers" "[I" ∈ TB := TB_of (List.mem_of_getElem? (i := 140) (by decide +kernel)) (by decide +kernel)
theorem fw_X5_15 : Fw RX5 15 4 RX5 TX5 4 1 4 := ⟨inTX5, rfl, by decide, Or.inl wd_140, rfl, by decide, rfl⟩
theorem wd_141 : Cond.fieldLink RX5 18 RX5 "sizes" "[I" ∈ TB := TB_of (List.mem_of_getElem? (i := 141) (by decide +kernel)) (by decide +kernel)
theorem fw_X5_18 : Fw RX5 18 4 RX5 TX5 4 2 5 := ⟨inTX5, rfl, by decide, Or.inl wd_141, rfl, by decide, rfl⟩
theorem wd_528 : Cond.methodLink RX5 25 yX5_sizeOf ∈ TB := TB_of (List.mem_of_getElem? (i := 528) (by decide +kernel)) (by decide +kernel)
theorem cs_X5_25 : SiV RX5 25 yX5_sizeOf cX5_sizeOf 2 (some .int) 1 4 := ⟨wd_401, Or.inl wd_528, wd_399, wd_400, wd_79, by decide +kernel, ⟨TX5, 4, rfl⟩, by decide, by decide⟩
theorem wd_632 : Cond.methodLink RX5 29 yX5_kindOf ∈ TB := TB_of (List.mem_of_getElem? (i := 632) (by decide +kernel)) (by decide +kernel)
theorem cs_X5_29 : SiV RX5 29 yX5_kindOf cX5_kindOf 2 (some .int) 1 4 := ⟨wd_382, Or.inl wd_632, wd_380, wd_381, wd_79, by decide +kernel, ⟨TX5, 4, rfl⟩, by decide, by decide⟩
theorem wd_633 : Cond.methodLink RX5 32 yX5_numberOf ∈ TB := TB_of (List.mem_of_getElem? (i := 633) (by decide +kernel)) (by decide +kernel)
theorem cs_X5_32 : SiV RX5 32 yX5_numberOf cX5_numberOf 2 (some .int) 1 4 := ⟨wd_386, Or.inl wd_633, wd_384, wd_385, wd_79, by decide +kernel, ⟨TX5, 4, rfl⟩, by decide, by decide⟩
theorem fp_5_3 : Fp 4 3 RX5 TX5 4 tyX5 .int := ⟨tyX5_ok, nmX5, rfl, by decide +kernel⟩
theorem wd_430 : Cond.methodLink RX5 35 arraycopyName ∈ TB := TB_of (List.mem_of_getElem? (i := 430) (by decide +kernel)) (by decide +kernel)
theorem wd_432 : Cond.native arraycopyName ∈ TB := TB_of (List.mem_of_getElem? (i := 432) (by decide +kernel)) (by decide +kernel)
theorem wd_431 : Cond.static arraycopyName ∈ TB := TB_of (List.mem_of_getElem? (i := 431) (by decide +kernel)) (by decide +kernel)
theorem wd_85 : Cond.initialized "java/lang/System" ∈ TB := TB_of (List.mem_of_getElem? (i := 85) (by decide +kernel)) (by decide +kernel)
theorem cs_X5_35 : Cond.methodLink RX5 35 arraycopyName ∈ TB ∧ Cond.native arraycopyName ∈ TB ∧ Cond.static arraycopyName ∈ TB ∧ Cond.initialized "java/lang/System" ∈ TB := ⟨wd_430, wd_432, wd_431, wd_85⟩
theorem wd_441 : Cond.methodLink RX5 41 yX5_appendRun ∈ TB := TB_of (List.mem_of_getElem? (i := 441) (by decide +kernel)) (by decide +kernel)
theorem cs_X5_41 : SiV RX5 41 yX5_appendRun cX5_appendRun 4 none 3 4 := ⟨wd_444, Or.inl wd_441, wd_442, wd_443, wd_79, by decide +kernel, ⟨TX5, 4, rfl⟩, by decide, by decide⟩
theorem wd_363 : Cond.methodLink RX5 45 yX5_behind ∈ TB := TB_of (List.mem_of_getElem? (i := 363) (by decide +kernel)) (by decide +kernel)
theorem cs_X5_45 : SiV RX5 45 yX5_behind cX5_behind 2 (some .int) 1 4 := ⟨wd_366, Or.inl wd_363, wd_364, wd_365, wd_79, by decide +kernel, ⟨TX5, 4, rfl⟩, by decide, by decide⟩
theorem wd_529 : Cond.methodLink RX5 48 yX5_measure ∈ TB := TB_of (List.mem_of_getElem? (i := 529) (by decide +kernel)) (by decide +kernel)
theorem cs_X5_48 : SiV RX5 48 yX5_measure cX5_measure 4 none 0 4 := ⟨wd_357, Or.inl wd_529, wd_356, ws_6, wd_79, by decide +kernel, ⟨TX5, 4, rfl⟩, by decide, by decide⟩
theorem wn_283 : Cond.methodLinkNest RX5 51 yX7_partsOf "MakersBench" ∈ NW := List.mem_filter.mpr ⟨List.mem_of_getElem? (i := 283) (by decide +kernel), by decide +kernel⟩
theorem cs_X5_51 : SiS RX5 51 yX7_partsOf cX7_partsOf 1 (some .int) 1 := ⟨wd_360, Or.inr ⟨_, wn_283⟩, wd_359, wd_76, by decide +kernel, by decide⟩
theorem wd_466 : Cond.code yX5_has cX5_has 2 (some .boolean) ∈ TB := TB_of (List.mem_of_getElem? (i := 466) (by decide +kernel)) (by decide +kernel)
theorem wd_590 : Cond.methodLink RX5 54 yX5_has ∈ TB := TB_of (List.mem_of_getElem? (i := 590) (by decide +kernel)) (by decide +kernel)
theorem wd_464 : Cond.instanceMethod yX5_has ∈ TB := TB_of (List.mem_of_getElem? (i := 464) (by decide +kernel)) (by decide +kernel)
theorem wd_465 : Cond.selects yX5_has.cls yX5_has yX5_has ∈ TB := TB_of (List.mem_of_getElem? (i := 465) (by decide +kernel)) (by decide +kernel)
theorem cs_X5_54 : SiV RX5 54 yX5_has cX5_has 2 (some .boolean) 1 4 := ⟨wd_466, Or.inl wd_590, wd_464, wd_465, wd_79, by decide +kernel, ⟨TX5, 4, rfl⟩, by decide, by decide⟩
theorem wd_603 : Cond.methodLink RX5 58 yX5_append ∈ TB := TB_of (List.mem_of_getElem? (i := 603) (by decide +kernel)) (by decide +kernel)
theorem cs_X5_58 : SiV RX5 58 yX5_append cX5_append 3 none 2 4 := ⟨wd_265, Or.inl wd_603, wd_263, wd_264, wd_79, by decide +kernel, ⟨TX5, 4, rfl⟩, by decide, by decide⟩
theorem wd_620 : Cond.methodLink RX5 62 Lib.Math.min.name ∈ TB := TB_of (List.mem_of_getElem? (i := 620) (by decide +kernel)) (by decide +kernel)
theorem cs_X5_62 : Cond.methodLink RX5 62 Lib.Math.min.name ∈ TB ∧ Cond.static Lib.Math.min.name ∈ TB ∧ Cond.initialized "java/lang/Math" ∈ TB ∧ Cond.code Lib.Math.min.name Lib.Math.min.code 2 (some .int) ∈ TB := ⟨wd_620, wd_392, wd_84, wd_393⟩
theorem wd_184 : Cond.fieldLink RX6 21 RX6 "now" "LMakersBench$Tree;" ∈ TB := TB_of (List.mem_of_getElem? (i := 184) (by decide +kernel)) (by decide +kernel)
theorem fw_X6_21 : Fw RX6 21 5 RX6 TX6 4 2 1 := ⟨inTX6, rfl, by decide, Or.inl wd_184, rfl, by decide, rfl⟩
theorem wd_440 : Cond.code yX5_become cX5_become 2 none ∈ TB := TB_of (List.mem_of_getElem? (i := 440) (by decide +kernel)) (by decide +kernel)
theorem wd_571 : Cond.methodLink RX6 28 yX5_become ∈ TB := TB_of (List.mem_of_getElem? (i := 571) (by decide +kernel)) (by decide +kernel)
theorem wd_438 : Cond.instanceMethod yX5_become ∈ TB := TB_of (List.mem_of_getElem? (i := 438) (by decide +kernel)) (by decide +kernel)
theorem wd_439 : Cond.selects yX5_become.cls yX5_become yX5_become ∈ TB := TB_of (List.mem_of_getElem? (i := 439) (by decide +kernel)) (by decide +kernel)
theorem cs_X6_28 : SiV RX6 28 yX5_become cX5_become 2 none 1 4 := ⟨wd_440, Or.inl wd_571, wd_438, wd_439, wd_79, by decide +kernel, ⟨TX5, 4, rfl⟩, by decide, by decide⟩
theorem wd_575 : Cond.code yX2_sortOf cX2_sortOf 2 (some .int) ∈ TB := TB_of (List.mem_of_getElem? (i := 575) (by decide +kernel)) (by decide +kernel)
theorem wd_572 : Cond.methodLink RX6 32 yX2_sortOf ∈ TB := TB_of (List.mem_of_getElem? (i := 572) (by decide +kernel)) (by decide +kernel)
theorem wd_573 : Cond.instanceMethod yX2_sortOf ∈ TB := TB_of (List.mem_of_getElem? (i := 573) (by decide +kernel)) (by decide +kernel)
theorem wd_574 : Cond.selects yX2_sortOf.cls yX2_sortOf yX2_sortOf ∈ TB := TB_of (List.mem_of_getElem? (i := 574) (by decide +kernel)) (by decide +kernel)
theorem cs_X6_32 : SiV RX6 32 yX2_sortOf cX2_sortOf 2 (some .int) 1 2 := ⟨wd_575, Or.inl wd_572, wd_573, wd_574, wd_82, by decide +kernel, ⟨TX2, 3, rfl⟩, by decide, by decide⟩
theorem wd_557 : Cond.code yX2_faultOf cX2_faultOf 2 (some .int) ∈ TB := TB_of (List.mem_of_getElem? (i := 557) (by decide +kernel)) (by decide +kernel)
theorem wd_576 : Cond.methodLink RX6 38 yX2_faultOf ∈ TB := TB_of (List.mem_of_getElem? (i := 576) (by decide +kernel)) (by decide +kernel)
theorem wd_555 : Cond.instanceMethod yX2_faultOf ∈ TB := TB_of (List.mem_of_getElem? (i := 555) (by decide +kernel)) (by decide +kernel)
theorem wd_556 : Cond.selects yX2_faultOf.cls yX2_faultOf yX2_faultOf ∈ TB := TB_of (List.mem_of_getElem? (i := 556) (by decide +kernel)) (by decide +kernel)
theorem cs_X6_38 : SiV RX6 38 yX2_faultOf cX2_faultOf 2 (some .int) 1 2 := ⟨wd_557, Or.inl wd_576, wd_555, wd_556, wd_82, by decide +kernel, ⟨TX2, 3, rfl⟩, by decide, by decide⟩
theorem wd_580 : Cond.code yX6_apply cX6_apply 8 (some .int) ∈ TB := TB_of (List.mem_of_getElem? (i := 580) (by decide +kernel)) (by decide +kernel)
theorem wd_577 : Cond.methodLink RX6 41 yX6_apply ∈ TB := TB_of (List.mem_of_getElem? (i := 577) (by decide +kernel)) (by decide +kernel)
theorem wd_80 : Cond.initialized RX6 ∈ TB := TB_of (List.mem_of_getElem? (i := 80) (by decide +kernel)) (by decide +kernel)
theorem wd_578 : Cond.instanceMethod yX6_apply ∈ TB := TB_of (List.mem_of_getElem? (i := 578) (by decide +kernel)) (by decide +kernel)
theorem wd_579 : Cond.selects yX6_apply.cls yX6_apply yX6_apply ∈ TB := TB_of (List.mem_of_getElem? (i := 579) (by decide +kernel)) (by decide +kernel)
theorem cs_X6_41 : SiV RX6 41 yX6_apply cX6_apply 8 (some .int) 2 5 := ⟨wd_580, Or.inl wd_577, wd_578, wd_579, wd_80, by decide +kernel, ⟨TX6, 4, rfl⟩, by decide, by decide⟩
theorem wd_570 : Cond.code yX6_make cX6_make 6 (some .int) ∈ TB := TB_of (List.mem_of_getElem? (i := 570) (by decide +kernel)) (by decide +kernel)
theorem wd_684 : Cond.methodLink RX6 45 yX6_make ∈ TB := TB_of (List.mem_of_getElem? (i := 684) (by decide +kernel)) (by decide +kernel)
theorem wd_568 : Cond.instanceMethod yX6_make ∈ TB := TB_of (List.mem_of_getElem? (i := 568) (by decide +kernel)) (by decide +kernel)
theorem wd_569 : Cond.selects yX6_make.cls yX6_make yX6_make ∈ TB := TB_of (List.mem_of_getElem? (i := 569) (by decide +kernel)) (by decide +kernel)
theorem cs_X6_45 : SiV RX6 45 yX6_make cX6_make 6 (some .int) 3 5 := ⟨wd_570, Or.inl wd_684, wd_568, wd_569, wd_80, by decide +kernel, ⟨TX6, 4, rfl⟩, by decide, by decide⟩
theorem wn_178 : Cond.fieldLinkNest RX6 49 RX2 "turns" "I" "MakersBench" ∈ NW := List.mem_filter.mpr ⟨List.mem_of_getElem? (i := 178) (by decide +kernel), by decide +kernel⟩
theorem fw_X6_49 : Fw RX6 49 2 RX2 TX2 3 2 0 := ⟨inTX2, rfl, by decide, Or.inr ⟨_, wn_178⟩, rfl, by decide, rfl⟩
theorem wd_186 : Cond.fieldLink RX6 25 RX6 "next" "LMakersBench$Tree;" ∈ TB := TB_of (List.mem_of_getElem? (i := 186) (by decide +kernel)) (by decide +kernel)
theorem fw_X6_25 : Fw RX6 25 5 RX6 TX6 4 3 1 := ⟨inTX6, rfl, by decide, Or.inl wd_186, rfl, by decide, rfl⟩
theorem wd_581 : Cond.methodLink RX6 53 yX5_clear ∈ TB := TB_of (List.mem_of_getElem? (i := 581) (by decide +kernel)) (by decide +kernel)
theorem cs_X6_53 : SiV RX6 53 yX5_clear cX5_clear 1 none 0 4 := ⟨wd_331, Or.inl wd_581, wd_329, wd_330, wd_79, by decide +kernel, ⟨TX5, 4, rfl⟩, by decide, by decide⟩
theorem wn_71 : Cond.fieldLinkNest RX6 56 RX5 "length" "I" "MakersBench" ∈ NW := List.mem_filter.mpr ⟨List.mem_of_getElem? (i := 71) (by decide +kernel), by decide +kernel⟩
theorem fw_X6_56 : Fw RX6 56 4 RX5 TX5 4 3 0 := ⟨inTX5, rfl, by decide, Or.inr ⟨_, wn_71⟩, rfl, by decide, rfl⟩
theorem wd_582 : Cond.methodLink RX6 59 yX5_kindOf ∈ TB := TB_of (List.mem_of_getElem? (i := 582) (by decide +kernel)) (by decide +kernel)
theorem cs_X6_59 : SiV RX6 59 yX5_kindOf cX5_kindOf 2 (some .int) 1 4 := ⟨wd_382, Or.inl wd_582, wd_380, wd_381, wd_79, by decide +kernel, ⟨TX5, 4, rfl⟩, by decide, by decide⟩
theorem wd_583 : Cond.methodLink RX6 62 yX5_numberOf ∈ TB := TB_of (List.mem_of_getElem? (i := 583) (by decide +kernel)) (by decide +kernel)
theorem cs_X6_62 : SiV RX6 62 yX5_numberOf cX5_numberOf 2 (some .int) 1 4 := ⟨wd_386, Or.inl wd_583, wd_384, wd_385, wd_79, by decide +kernel, ⟨TX5, 4, rfl⟩, by decide, by decide⟩
theorem wd_584 : Cond.methodLink RX6 65 yX5_append ∈ TB := TB_of (List.mem_of_getElem? (i := 584) (by decide +kernel)) (by decide +kernel)
theorem cs_X6_65 : SiV RX6 65 yX5_append cX5_append 3 none 2 4 := ⟨wd_265, Or.inl wd_584, wd_263, wd_264, wd_79, by decide +kernel, ⟨TX5, 4, rfl⟩, by decide, by decide⟩
theorem wn_510 : Cond.methodLinkNest RX6 69 yX7_partsOf "MakersBench" ∈ NW := List.mem_filter.mpr ⟨List.mem_of_getElem? (i := 510) (by decide +kernel), by decide +kernel⟩
theorem cs_X6_69 : SiS RX6 69 yX7_partsOf cX7_partsOf 1 (some .int) 1 := ⟨wd_360, Or.inr ⟨_, wn_510⟩, wd_359, wd_76, by decide +kernel, by decide⟩
theorem wd_182 : Cond.fieldLink RX6 9 RX6 "open" "[I" ∈ TB := TB_of (List.mem_of_getElem? (i := 182) (by decide +kernel)) (by decide +kernel)
theorem fw_X6_9 : Fw RX6 9 5 RX6 TX6 4 0 3 := ⟨inTX6, rfl, by decide, Or.inl wd_182, rfl, by decide, rfl⟩
theorem wd_183 : Cond.fieldLink RX6 15 RX6 "missing" "[I" ∈ TB := TB_of (List.mem_of_getElem? (i := 183) (by decide +kernel)) (by decide +kernel)
theorem fw_X6_15 : Fw RX6 15 5 RX6 TX6 4 1 4 := ⟨inTX6, rfl, by decide, Or.inl wd_183, rfl, by decide, rfl⟩
theorem wd_586 : Cond.methodLink RX6 72 yX5_close ∈ TB := TB_of (List.mem_of_getElem? (i := 586) (by decide +kernel)) (by decide +kernel)
theorem cs_X6_72 : SiV RX6 72 yX5_close cX5_close 2 none 1 4 := ⟨wd_589, Or.inl wd_586, wd_587, wd_588, wd_79, by decide +kernel, ⟨TX5, 4, rfl⟩, by decide, by decide⟩
theorem wd_593 : Cond.code yX4_fire cX4_fire 5 (some .boolean) ∈ TB := TB_of (List.mem_of_getElem? (i := 593) (by decide +kernel)) (by decide +kernel)
theorem wd_591 : Cond.methodLink RX6 76 yX4_fire ∈ TB := TB_of (List.mem_of_getElem? (i := 591) (by decide +kernel)) (by decide +kernel)
theorem wd_592 : Cond.static yX4_fire ∈ TB := TB_of (List.mem_of_getElem? (i := 592) (by decide +kernel)) (by decide +kernel)
theorem cs_X6_76 : SiS RX6 76 yX4_fire cX4_fire 5 (some .boolean) 5 := ⟨wd_593, Or.inl wd_591, wd_592, wd_86, by decide +kernel, by decide⟩
theorem fp_6_2 : Fp 5 2 RX6 TX6 4 tyX6 (.object "MakersBench$Tree") := ⟨tyX6_ok, nmX6, rfl, by decide +kernel⟩
theorem fp_6_3 : Fp 5 3 RX6 TX6 4 tyX6 (.object "MakersBench$Tree") := ⟨tyX6_ok, nmX6, rfl, by decide +kernel⟩
theorem wd_307 : Cond.methodLink RX7 75 yX7_within ∈ TB := TB_of (List.mem_of_getElem? (i := 307) (by decide +kernel)) (by decide +kernel)
theorem cs_X7_75 : SiS RX7 75 yX7_within cX7_within 3 (some .boolean) 3 := ⟨wd_309, Or.inl wd_307, wd_308, wd_76, by decide +kernel, by decide⟩
theorem wd_266 : Cond.fieldLink RX7 10 RX7 "grammar" "LMakersBench$Grammar;" ∈ TB := TB_of (List.mem_of_getElem? (i := 266) (by decide +kernel)) (by decide +kernel)
theorem fw_X7_10 : Fw RX7 10 6 RX7 TX7 12 0 3 := ⟨inTX7, rfl, by decide, Or.inl wd_266, rfl, by decide, rfl⟩
theorem wd_310 : Cond.methodLink RX7 79 yX1_howMany ∈ TB := TB_of (List.mem_of_getElem? (i := 310) (by decide +kernel)) (by decide +kernel)
theorem cs_X7_79 : SiV RX7 79 yX1_howMany cX1_howMany 2 (some .long) 1 1 := ⟨wd_313, Or.inl wd_310, wd_311, wd_312, wd_77, by decide +kernel, ⟨TX1, 7, rfl⟩, by decide, by decide⟩
theorem wd_315 : Cond.constantLong RX7 83 (-1) ∈ TB := TB_of (List.mem_of_getElem? (i := 315) (by decide +kernel)) (by decide +kernel)
theorem wd_323 : Cond.code yX7_placeAt cX7_placeAt 2 (some (.object "MakersBench$Tree")) ∈ TB := TB_of (List.mem_of_getElem? (i := 323) (by decide +kernel)) (by decide +kernel)
theorem wd_320 : Cond.methodLink RX7 85 yX7_placeAt ∈ TB := TB_of (List.mem_of_getElem? (i := 320) (by decide +kernel)) (by decide +kernel)
theorem wd_322 : Cond.instanceMethod yX7_placeAt ∈ TB := TB_of (List.mem_of_getElem? (i := 322) (by decide +kernel)) (by decide +kernel)
theorem ws_0 : Cond.selects yX7_placeAt.cls yX7_placeAt yX7_placeAt ∈ TB := TB_of (List.mem_of_getElem? (i := 0) (by decide +kernel)) (by decide +kernel)
theorem cs_X7_85 : SiV RX7 85 yX7_placeAt cX7_placeAt 2 (some (.object "MakersBench$Tree")) 1 6 := ⟨wd_323, Or.inl wd_320, wd_322, ws_0, wd_76, by decide +kernel, ⟨TX7, 12, rfl⟩, by decide, by decide⟩
theorem wd_327 : Cond.code yX1_unfold cX1_unfold 6 none ∈ TB := TB_of (List.mem_of_getElem? (i := 327) (by decide +kernel)) (by decide +kernel)
theorem wd_324 : Cond.methodLink RX7 89 yX1_unfold ∈ TB := TB_of (List.mem_of_getElem? (i := 324) (by decide +kernel)) (by decide +kernel)
theorem wd_325 : Cond.instanceMethod yX1_unfold ∈ TB := TB_of (List.mem_of_getElem? (i := 325) (by decide +kernel)) (by decide +kernel)
theorem wd_326 : Cond.selects yX1_unfold.cls yX1_unfold yX1_unfold ∈ TB := TB_of (List.mem_of_getElem? (i := 326) (by decide +kernel)) (by decide +kernel)
theorem cs_X7_89 : SiV RX7 89 yX1_unfold cX1_unfold 6 none 3 1 := ⟨wd_327, Or.inl wd_324, wd_325, wd_326, wd_77, by decide +kernel, ⟨TX1, 7, rfl⟩, by decide, by decide⟩
theorem wn_70 : Cond.fieldLinkNest RX7 93 RX5 "length" "I" "MakersBench" ∈ NW := List.mem_filter.mpr ⟨List.mem_of_getElem? (i := 70) (by decide +kernel), by decide +kernel⟩
theorem fw_X7_93 : Fw RX7 93 4 RX5 TX5 4 3 0 := ⟨inTX5, rfl, by decide, Or.inr ⟨_, wn_70⟩, rfl, by decide, rfl⟩
theorem wd_374 : Cond.code yX7_programAt cX7_programAt 3 (some (.object "MakersBench$Tree")) ∈ TB := TB_of (List.mem_of_getElem? (i := 374) (by decide +kernel)) (by decide +kernel)
theorem wd_371 : Cond.methodLink RX7 96 yX7_programAt ∈ TB := TB_of (List.mem_of_getElem? (i := 371) (by decide +kernel)) (by decide +kernel)
theorem wd_373 : Cond.instanceMethod yX7_programAt ∈ TB := TB_of (List.mem_of_getElem? (i := 373) (by decide +kernel)) (by decide +kernel)
theorem ws_7 : Cond.selects yX7_programAt.cls yX7_programAt yX7_programAt ∈ TB := TB_of (List.mem_of_getElem? (i := 7) (by decide +kernel)) (by decide +kernel)
theorem cs_X7_96 : SiV RX7 96 yX7_programAt cX7_programAt 3 (some (.object "MakersBench$Tree")) 1 6 := ⟨wd_374, Or.inl wd_371, wd_373, ws_7, wd_76, by decide +kernel, ⟨TX7, 12, rfl⟩, by decide, by decide⟩
theorem wd_378 : Cond.code yX1_isNumbered cX1_isNumbered 3 (some .boolean) ∈ TB := TB_of (List.mem_of_getElem? (i := 378) (by decide +kernel)) (by decide +kernel)
theorem wd_375 : Cond.methodLink RX7 99 yX1_isNumbered ∈ TB := TB_of (List.mem_of_getElem? (i := 375) (by decide +kernel)) (by decide +kernel)
theorem wd_376 : Cond.instanceMethod yX1_isNumbered ∈ TB := TB_of (List.mem_of_getElem? (i := 376) (by decide +kernel)) (by decide +kernel)
theorem wd_377 : Cond.selects yX1_isNumbered.cls yX1_isNumbered yX1_isNumbered ∈ TB := TB_of (List.mem_of_getElem? (i := 377) (by decide +kernel)) (by decide +kernel)
theorem cs_X7_99 : SiV RX7 99 yX1_isNumbered cX1_isNumbered 3 (some .boolean) 1 1 := ⟨wd_378, Or.inl wd_375, wd_376, wd_377, wd_77, by decide +kernel, ⟨TX1, 7, rfl⟩, by decide, by decide⟩
theorem wd_390 : Cond.code yX1_rank cX1_rank 3 (some .long) ∈ TB := TB_of (List.mem_of_getElem? (i := 390) (by decide +kernel)) (by decide +kernel)
theorem wd_387 : Cond.methodLink RX7 103 yX1_rank ∈ TB := TB_of (List.mem_of_getElem? (i := 387) (by decide +kernel)) (by decide +kernel)
theorem wd_388 : Cond.instanceMethod yX1_rank ∈ TB := TB_of (List.mem_of_getElem? (i := 388) (by decide +kernel)) (by decide +kernel)
theorem wd_389 : Cond.selects yX1_rank.cls yX1_rank yX1_rank ∈ TB := TB_of (List.mem_of_getElem? (i := 389) (by decide +kernel)) (by decide +kernel)
theorem cs_X7_103 : SiV RX7 103 yX1_rank cX1_rank 3 (some .long) 1 1 := ⟨wd_390, Or.inl wd_387, wd_388, wd_389, wd_77, by decide +kernel, ⟨TX1, 7, rfl⟩, by decide, by decide⟩
theorem wd_415 : Cond.constantLong RX7 107 (-2) ∈ TB := TB_of (List.mem_of_getElem? (i := 415) (by decide +kernel)) (by decide +kernel)
theorem wd_267 : Cond.fieldLink RX7 19 RX7 "pile" "LMakersBench$Pile;" ∈ TB := TB_of (List.mem_of_getElem? (i := 267) (by decide +kernel)) (by decide +kernel)
theorem fw_X7_19 : Fw RX7 19 6 RX7 TX7 12 1 10 := ⟨inTX7, rfl, by decide, Or.inl wd_267, rfl, by decide, rfl⟩
theorem wn_87 : Cond.fieldLinkNest RX7 109 RX3 "trees" "I" "MakersBench" ∈ NW := List.mem_filter.mpr ⟨List.mem_of_getElem? (i := 87) (by decide +kernel), by decide +kernel⟩
theorem fw_X7_109 : Fw RX7 109 3 RX3 TX3 3 2 0 := ⟨inTX3, rfl, by decide, Or.inr ⟨_, wn_87⟩, rfl, by decide, rfl⟩
theorem wd_420 : Cond.methodLink RX7 112 yX7_partsOf ∈ TB := TB_of (List.mem_of_getElem? (i := 420) (by decide +kernel)) (by decide +kernel)
theorem cs_X7_112 : SiS RX7 112 yX7_partsOf cX7_partsOf 1 (some .int) 1 := ⟨wd_360, Or.inl wd_420, wd_359, wd_76, by decide +kernel, by decide⟩
theorem wn_84 : Cond.fieldLinkNest RX7 116 RX3 "row" "LMakersBench$Tree;" "MakersBench" ∈ NW := List.mem_filter.mpr ⟨List.mem_of_getElem? (i := 84) (by decide +kernel), by decide +kernel⟩
theorem fw_X7_116 : Fw RX7 116 3 RX3 TX3 3 0 3 := ⟨inTX3, rfl, by decide, Or.inr ⟨_, wn_84⟩, rfl, by decide, rfl⟩
theorem wd_424 : Cond.code yX3_put cX3_put 5 none ∈ TB := TB_of (List.mem_of_getElem? (i := 424) (by decide +kernel)) (by decide +kernel)
theorem wd_421 : Cond.methodLink RX7 119 yX3_put ∈ TB := TB_of (List.mem_of_getElem? (i := 421) (by decide +kernel)) (by decide +kernel)
theorem wd_78 : Cond.initialized RX3 ∈ TB := TB_of (List.mem_of_getElem? (i := 78) (by decide +kernel)) (by decide +kernel)
theorem wd_422 : Cond.instanceMethod yX3_put ∈ TB := TB_of (List.mem_of_getElem? (i := 422) (by decide +kernel)) (by decide +kernel)
theorem wd_423 : Cond.selects yX3_put.cls yX3_put yX3_put ∈ TB := TB_of (List.mem_of_getElem? (i := 423) (by decide +kernel)) (by decide +kernel)
theorem cs_X7_119 : SiV RX7 119 yX3_put cX3_put 5 none 2 3 := ⟨wd_424, Or.inl wd_421, wd_422, wd_423, wd_78, by decide +kernel, ⟨TX3, 3, rfl⟩, by decide, by decide⟩
theorem wd_437 : Cond.methodLink RX7 122 yX5_become ∈ TB := TB_of (List.mem_of_getElem? (i := 437) (by decide +kernel)) (by decide +kernel)
theorem cs_X7_122 : SiV RX7 122 yX5_become cX5_become 2 none 1 4 := ⟨wd_440, Or.inl wd_437, wd_438, wd_439, wd_79, by decide +kernel, ⟨TX5, 4, rfl⟩, by decide, by decide⟩
theorem wd_448 : Cond.code yX3_clear cX3_clear 1 none ∈ TB := TB_of (List.mem_of_getElem? (i := 448) (by decide +kernel)) (by decide +kernel)
theorem wd_445 : Cond.methodLink RX7 126 yX3_clear ∈ TB := TB_of (List.mem_of_getElem? (i := 445) (by decide +kernel)) (by decide +kernel)
theorem wd_446 : Cond.instanceMethod yX3_clear ∈ TB := TB_of (List.mem_of_getElem? (i := 446) (by decide +kernel)) (by decide +kernel)
theorem wd_447 : Cond.selects yX3_clear.cls yX3_clear yX3_clear ∈ TB := TB_of (List.mem_of_getElem? (i := 447) (by decide +kernel)) (by decide +kernel)
theorem cs_X7_126 : SiV RX7 126 yX3_clear cX3_clear 1 none 0 3 := ⟨wd_448, Or.inl wd_445, wd_446, wd_447, wd_78, by decide +kernel, ⟨TX3, 3, rfl⟩, by decide, by decide⟩
theorem wd_454 : Cond.methodLink RX7 129 yX5_clear ∈ TB := TB_of (List.mem_of_getElem? (i := 454) (by decide +kernel)) (by decide +kernel)
theorem cs_X7_129 : SiV RX7 129 yX5_clear cX5_clear 1 none 0 4 := ⟨wd_331, Or.inl wd_454, wd_329, wd_330, wd_79, by decide +kernel, ⟨TX5, 4, rfl⟩, by decide, by decide⟩
theorem wd_459 : Cond.constant RX7 130 (-2000000000) ∈ TB := TB_of (List.mem_of_getElem? (i := 459) (by decide +kernel)) (by decide +kernel)
theorem wd_462 : Cond.code yX7_tell cX7_tell 3 (some .int) ∈ TB := TB_of (List.mem_of_getElem? (i := 462) (by decide +kernel)) (by decide +kernel)
theorem wd_460 : Cond.methodLink RX7 131 yX7_tell ∈ TB := TB_of (List.mem_of_getElem? (i := 460) (by decide +kernel)) (by decide +kernel)
theorem wd_461 : Cond.static yX7_tell ∈ TB := TB_of (List.mem_of_getElem? (i := 461) (by decide +kernel)) (by decide +kernel)
theorem cs_X7_131 : SiS RX7 131 yX7_tell cX7_tell 3 (some .int) 3 := ⟨wd_462, Or.inl wd_460, wd_461, wd_76, by decide +kernel, by decide⟩
theorem wd_271 : Cond.fieldLink RX7 45 RX7 "right" "LMakersBench$Code;" ∈ TB := TB_of (List.mem_of_getElem? (i := 271) (by decide +kernel)) (by decide +kernel)
theorem fw_X7_45 : Fw RX7 45 6 RX7 TX7 12 5 29 := ⟨inTX7, rfl, by decide, Or.inl wd_271, rfl, by decide, rfl⟩
theorem wd_477 : Cond.code yX0_write cX0_write 5 none ∈ TB := TB_of (List.mem_of_getElem? (i := 477) (by decide +kernel)) (by decide +kernel)
theorem wd_474 : Cond.methodLink RX7 135 yX0_write ∈ TB := TB_of (List.mem_of_getElem? (i := 474) (by decide +kernel)) (by decide +kernel)
theorem wd_475 : Cond.instanceMethod yX0_write ∈ TB := TB_of (List.mem_of_getElem? (i := 475) (by decide +kernel)) (by decide +kernel)
theorem wd_476 : Cond.selects yX0_write.cls yX0_write yX0_write ∈ TB := TB_of (List.mem_of_getElem? (i := 476) (by decide +kernel)) (by decide +kernel)
theorem cs_X7_135 : SiV RX7 135 yX0_write cX0_write 5 none 1 0 := ⟨wd_477, Or.inl wd_474, wd_475, wd_476, wd_81, by decide +kernel, ⟨TX0, 12, rfl⟩, by decide, by decide⟩
theorem wd_497 : Cond.methodLink RX7 138 yX0_run ∈ TB := TB_of (List.mem_of_getElem? (i := 497) (by decide +kernel)) (by decide +kernel)
theorem cs_X7_138 : SiV RX7 138 yX0_run cX0_run 8 (some .boolean) 2 0 := ⟨wd_500, Or.inl wd_497, wd_498, wd_499, wd_81, by decide +kernel, ⟨TX0, 12, rfl⟩, by decide, by decide⟩
theorem wn_141 : Cond.fieldLinkNest RX7 142 RX0 "result" "I" "MakersBench" ∈ NW := List.mem_filter.mpr ⟨List.mem_of_getElem? (i := 141) (by decide +kernel), by decide +kernel⟩
theorem fw_X7_142 : Fw RX7 142 0 RX0 TX0 12 10 0 := ⟨inTX0, rfl, by decide, Or.inr ⟨_, wn_141⟩, rfl, by decide, rfl⟩
theorem wd_514 : Cond.code yX7_isSafe cX7_isSafe 3 (some .boolean) ∈ TB := TB_of (List.mem_of_getElem? (i := 514) (by decide +kernel)) (by decide +kernel)
theorem wd_511 : Cond.methodLink RX7 145 yX7_isSafe ∈ TB := TB_of (List.mem_of_getElem? (i := 511) (by decide +kernel)) (by decide +kernel)
theorem wd_513 : Cond.instanceMethod yX7_isSafe ∈ TB := TB_of (List.mem_of_getElem? (i := 513) (by decide +kernel)) (by decide +kernel)
theorem ws_16 : Cond.selects yX7_isSafe.cls yX7_isSafe yX7_isSafe ∈ TB := TB_of (List.mem_of_getElem? (i := 16) (by decide +kernel)) (by decide +kernel)
theorem cs_X7_145 : SiV RX7 145 yX7_isSafe cX7_isSafe 3 (some .boolean) 2 6 := ⟨wd_514, Or.inl wd_511, wd_513, ws_16, wd_76, by decide +kernel, ⟨TX7, 12, rfl⟩, by decide, by decide⟩
theorem wd_463 : Cond.methodLink RX7 149 yX5_has ∈ TB := TB_of (List.mem_of_getElem? (i := 463) (by decide +kernel)) (by decide +kernel)
theorem cs_X7_149 : SiV RX7 149 yX5_has cX5_has 2 (some .boolean) 1 4 := ⟨wd_466, Or.inl wd_463, wd_464, wd_465, wd_79, by decide +kernel, ⟨TX5, 4, rfl⟩, by decide, by decide⟩
theorem wd_469 : Cond.methodLink RX7 153 yX5_sizeOf ∈ TB := TB_of (List.mem_of_getElem? (i := 469) (by decide +kernel)) (by decide +kernel)
theorem cs_X7_153 : SiV RX7 153 yX5_sizeOf cX5_sizeOf 2 (some .int) 1 4 := ⟨wd_401, Or.inl wd_469, wd_399, wd_400, wd_79, by decide +kernel, ⟨TX5, 4, rfl⟩, by decide, by decide⟩
theorem wd_274 : Cond.fieldLink RX7 57 RX7 "candidate" "LMakersBench$Tree;" ∈ TB := TB_of (List.mem_of_getElem? (i := 274) (by decide +kernel)) (by decide +kernel)
theorem fw_X7_57 : Fw RX7 57 6 RX7 TX7 12 8 47 := ⟨inTX7, rfl, by decide, Or.inl wd_274, rfl, by decide, rfl⟩
theorem wd_527 : Cond.code yX5_join cX5_join 5 none ∈ TB := TB_of (List.mem_of_getElem? (i := 527) (by decide +kernel)) (by decide +kernel)
theorem wd_524 : Cond.methodLink RX7 156 yX5_join ∈ TB := TB_of (List.mem_of_getElem? (i := 524) (by decide +kernel)) (by decide +kernel)
theorem wd_525 : Cond.instanceMethod yX5_join ∈ TB := TB_of (List.mem_of_getElem? (i := 525) (by decide +kernel)) (by decide +kernel)
theorem wd_526 : Cond.selects yX5_join.cls yX5_join yX5_join ∈ TB := TB_of (List.mem_of_getElem? (i := 526) (by decide +kernel)) (by decide +kernel)
theorem cs_X7_156 : SiV RX7 156 yX5_join cX5_join 5 none 4 4 := ⟨wd_527, Or.inl wd_524, wd_525, wd_526, wd_79, by decide +kernel, ⟨TX5, 4, rfl⟩, by decide, by decide⟩
theorem wd_276 : Cond.fieldLink RX7 63 RX7 "makerCount" "I" ∈ TB := TB_of (List.mem_of_getElem? (i := 276) (by decide +kernel)) (by decide +kernel)
theorem fw_X7_63 : Fw RX7 63 6 RX7 TX7 12 10 0 := ⟨inTX7, rfl, by decide, Or.inl wd_276, rfl, by decide, rfl⟩
theorem fp_7_10 : Fp 6 10 RX7 TX7 12 tyX7 .int := ⟨tyX7_ok, nmX7, rfl, by decide +kernel⟩
theorem wd_541 : Cond.code yX7_makerAt cX7_makerAt 2 (some (.object "MakersBench$Maker")) ∈ TB := TB_of (List.mem_of_getElem? (i := 541) (by decide +kernel)) (by decide +kernel)
theorem wd_538 : Cond.methodLink RX7 160 yX7_makerAt ∈ TB := TB_of (List.mem_of_getElem? (i := 538) (by decide +kernel)) (by decide +kernel)
theorem wd_540 : Cond.instanceMethod yX7_makerAt ∈ TB := TB_of (List.mem_of_getElem? (i := 540) (by decide +kernel)) (by decide +kernel)
theorem ws_17 : Cond.selects yX7_makerAt.cls yX7_makerAt yX7_makerAt ∈ TB := TB_of (List.mem_of_getElem? (i := 17) (by decide +kernel)) (by decide +kernel)
theorem cs_X7_160 : SiV RX7 160 yX7_makerAt cX7_makerAt 2 (some (.object "MakersBench$Maker")) 1 6 := ⟨wd_541, Or.inl wd_538, wd_540, ws_17, wd_76, by decide +kernel, ⟨TX7, 12, rfl⟩, by decide, by decide⟩
theorem wn_179 : Cond.fieldLinkNest RX7 164 RX2 "turns" "I" "MakersBench" ∈ NW := List.mem_filter.mpr ⟨List.mem_of_getElem? (i := 179) (by decide +kernel), by decide +kernel⟩
theorem fw_X7_164 : Fw RX7 164 2 RX2 TX2 3 2 0 := ⟨inTX2, rfl, by decide, Or.inr ⟨_, wn_179⟩, rfl, by decide, rfl⟩
theorem wd_545 : Cond.code yX2_addTurn cX2_addTurn 3 none ∈ TB := TB_of (List.mem_of_getElem? (i := 545) (by decide +kernel)) (by decide +kernel)
theorem wd_542 : Cond.methodLink RX7 167 yX2_addTurn ∈ TB := TB_of (List.mem_of_getElem? (i := 542) (by decide +kernel)) (by decide +kernel)
theorem wd_543 : Cond.instanceMethod yX2_addTurn ∈ TB := TB_of (List.mem_of_getElem? (i := 543) (by decide +kernel)) (by decide +kernel)
theorem wd_544 : Cond.selects yX2_addTurn.cls yX2_addTurn yX2_addTurn ∈ TB := TB_of (List.mem_of_getElem? (i := 544) (by decide +kernel)) (by decide +kernel)
theorem cs_X7_167 : SiV RX7 167 yX2_addTurn cX2_addTurn 3 none 2 2 := ⟨wd_545, Or.inl wd_542, wd_543, wd_544, wd_82, by decide +kernel, ⟨TX2, 3, rfl⟩, by decide, by decide⟩
theorem wd_550 : Cond.methodLink RX7 170 yX2_has ∈ TB := TB_of (List.mem_of_getElem? (i := 550) (by decide +kernel)) (by decide +kernel)
theorem cs_X7_170 : SiV RX7 170 yX2_has cX2_has 2 (some .boolean) 1 2 := ⟨wd_553, Or.inl wd_550, wd_551, wd_552, wd_82, by decide +kernel, ⟨TX2, 3, rfl⟩, by decide, by decide⟩
theorem wd_554 : Cond.methodLink RX7 171 yX2_faultOf ∈ TB := TB_of (List.mem_of_getElem? (i := 554) (by decide +kernel)) (by decide +kernel)
theorem cs_X7_171 : SiV RX7 171 yX2_faultOf cX2_faultOf 2 (some .int) 1 2 := ⟨wd_557, Or.inl wd_554, wd_555, wd_556, wd_82, by decide +kernel, ⟨TX2, 3, rfl⟩, by decide, by decide⟩
theorem wd_562 : Cond.code yX2_setFault cX2_setFault 3 none ∈ TB := TB_of (List.mem_of_getElem? (i := 562) (by decide +kernel)) (by decide +kernel)
theorem wd_559 : Cond.methodLink RX7 174 yX2_setFault ∈ TB := TB_of (List.mem_of_getElem? (i := 559) (by decide +kernel)) (by decide +kernel)
theorem wd_560 : Cond.instanceMethod yX2_setFault ∈ TB := TB_of (List.mem_of_getElem? (i := 560) (by decide +kernel)) (by decide +kernel)
theorem wd_561 : Cond.selects yX2_setFault.cls yX2_setFault yX2_setFault ∈ TB := TB_of (List.mem_of_getElem? (i := 561) (by decide +kernel)) (by decide +kernel)
theorem cs_X7_174 : SiV RX7 174 yX2_setFault cX2_setFault 3 none 2 2 := ⟨wd_562, Or.inl wd_559, wd_560, wd_561, wd_82, by decide +kernel, ⟨TX2, 3, rfl⟩, by decide, by decide⟩
theorem wd_270 : Cond.fieldLink RX7 38 RX7 "workshop" "LMakersBench$Workshop;" ∈ TB := TB_of (List.mem_of_getElem? (i := 270) (by decide +kernel)) (by decide +kernel)
theorem fw_X7_38 : Fw RX7 38 6 RX7 TX7 12 4 18 := ⟨inTX7, rfl, by decide, Or.inl wd_270, rfl, by decide, rfl⟩
theorem wd_567 : Cond.methodLink RX7 177 yX6_make ∈ TB := TB_of (List.mem_of_getElem? (i := 567) (by decide +kernel)) (by decide +kernel)
theorem cs_X7_177 : SiV RX7 177 yX6_make cX6_make 6 (some .int) 3 5 := ⟨wd_570, Or.inl wd_567, wd_568, wd_569, wd_80, by decide +kernel, ⟨TX6, 4, rfl⟩, by decide, by decide⟩
theorem wd_273 : Cond.fieldLink RX7 53 RX7 "found" "LMakersBench$Tree;" ∈ TB := TB_of (List.mem_of_getElem? (i := 273) (by decide +kernel)) (by decide +kernel)
theorem fw_X7_53 : Fw RX7 53 6 RX7 TX7 12 7 43 := ⟨inTX7, rfl, by decide, Or.inl wd_273, rfl, by decide, rfl⟩
theorem wn_110 : Cond.fieldLinkNest RX7 181 RX6 "now" "LMakersBench$Tree;" "MakersBench" ∈ NW := List.mem_filter.mpr ⟨List.mem_of_getElem? (i := 110) (by decide +kernel), by decide +kernel⟩
theorem fw_X7_181 : Fw RX7 181 5 RX6 TX6 4 2 1 := ⟨inTX6, rfl, by decide, Or.inr ⟨_, wn_110⟩, rfl, by decide, rfl⟩
theorem wd_671 : Cond.code yX7_write cX7_write 5 (some .boolean) ∈ TB := TB_of (List.mem_of_getElem? (i := 671) (by decide +kernel)) (by decide +kernel)
theorem wd_668 : Cond.methodLink RX7 184 yX7_write ∈ TB := TB_of (List.mem_of_getElem? (i := 668) (by decide +kernel)) (by decide +kernel)
theorem wd_670 : Cond.instanceMethod yX7_write ∈ TB := TB_of (List.mem_of_getElem? (i := 670) (by decide +kernel)) (by decide +kernel)
theorem ws_18 : Cond.selects yX7_write.cls yX7_write yX7_write ∈ TB := TB_of (List.mem_of_getElem? (i := 18) (by decide +kernel)) (by decide +kernel)
theorem cs_X7_184 : SiV RX7 184 yX7_write cX7_write 5 (some .boolean) 2 6 := ⟨wd_671, Or.inl wd_668, wd_670, ws_18, wd_76, by decide +kernel, ⟨TX7, 12, rfl⟩, by decide, by decide⟩
theorem wd_272 : Cond.fieldLink RX7 49 RX7 "tried" "LMakersBench$Code;" ∈ TB := TB_of (List.mem_of_getElem? (i := 272) (by decide +kernel)) (by decide +kernel)
theorem fw_X7_49 : Fw RX7 49 6 RX7 TX7 12 6 36 := ⟨inTX7, rfl, by decide, Or.inl wd_272, rfl, by decide, rfl⟩
theorem wn_143 : Cond.fieldLinkNest RX7 186 RX0 "done" "I" "MakersBench" ∈ NW := List.mem_filter.mpr ⟨List.mem_of_getElem? (i := 143) (by decide +kernel), by decide +kernel⟩
theorem fw_X7_186 : Fw RX7 186 0 RX0 TX0 12 11 0 := ⟨inTX0, rfl, by decide, Or.inr ⟨_, wn_143⟩, rfl, by decide, rfl⟩
theorem wd_683 : Cond.code yX6_firings cX6_firings 4 (some .int) ∈ TB := TB_of (List.mem_of_getElem? (i := 683) (by decide +kernel)) (by decide +kernel)
theorem wd_680 : Cond.methodLink RX7 189 yX6_firings ∈ TB := TB_of (List.mem_of_getElem? (i := 680) (by decide +kernel)) (by decide +kernel)
theorem wd_681 : Cond.instanceMethod yX6_firings ∈ TB := TB_of (List.mem_of_getElem? (i := 681) (by decide +kernel)) (by decide +kernel)
theorem wd_682 : Cond.selects yX6_firings.cls yX6_firings yX6_firings ∈ TB := TB_of (List.mem_of_getElem? (i := 682) (by decide +kernel)) (by decide +kernel)
theorem cs_X7_189 : SiV RX7 189 yX6_firings cX6_firings 4 (some .int) 3 5 := ⟨wd_683, Or.inl wd_680, wd_681, wd_682, wd_80, by decide +kernel, ⟨TX6, 4, rfl⟩, by decide, by decide⟩
theorem wd_692 : Cond.code yX6_firingTurns cX6_firingTurns 5 (some .int) ∈ TB := TB_of (List.mem_of_getElem? (i := 692) (by decide +kernel)) (by decide +kernel)
theorem wd_689 : Cond.methodLink RX7 192 yX6_firingTurns ∈ TB := TB_of (List.mem_of_getElem? (i := 689) (by decide +kernel)) (by decide +kernel)
theorem wd_690 : Cond.instanceMethod yX6_firingTurns ∈ TB := TB_of (List.mem_of_getElem? (i := 690) (by decide +kernel)) (by decide +kernel)
theorem wd_691 : Cond.selects yX6_firingTurns.cls yX6_firingTurns yX6_firingTurns ∈ TB := TB_of (List.mem_of_getElem? (i := 691) (by decide +kernel)) (by decide +kernel)
theorem cs_X7_192 : SiV RX7 192 yX6_firingTurns cX6_firingTurns 5 (some .int) 2 5 := ⟨wd_692, Or.inl wd_689, wd_690, wd_691, wd_80, by decide +kernel, ⟨TX6, 4, rfl⟩, by decide, by decide⟩
theorem wd_518 : Cond.code yX0_isNeverFree cX0_isNeverFree 6 (some .boolean) ∈ TB := TB_of (List.mem_of_getElem? (i := 518) (by decide +kernel)) (by decide +kernel)
theorem wd_515 : Cond.methodLink RX7 196 yX0_isNeverFree ∈ TB := TB_of (List.mem_of_getElem? (i := 515) (by decide +kernel)) (by decide +kernel)
theorem wd_516 : Cond.instanceMethod yX0_isNeverFree ∈ TB := TB_of (List.mem_of_getElem? (i := 516) (by decide +kernel)) (by decide +kernel)
theorem wd_517 : Cond.selects yX0_isNeverFree.cls yX0_isNeverFree yX0_isNeverFree ∈ TB := TB_of (List.mem_of_getElem? (i := 517) (by decide +kernel)) (by decide +kernel)
theorem cs_X7_196 : SiV RX7 196 yX0_isNeverFree cX0_isNeverFree 6 (some .boolean) 1 0 := ⟨wd_518, Or.inl wd_515, wd_516, wd_517, wd_81, by decide +kernel, ⟨TX0, 12, rfl⟩, by decide, by decide⟩
theorem wd_700 : Cond.code yX7_isWrongAt cX7_isWrongAt 3 (some .boolean) ∈ TB := TB_of (List.mem_of_getElem? (i := 700) (by decide +kernel)) (by decide +kernel)
theorem wd_697 : Cond.methodLink RX7 199 yX7_isWrongAt ∈ TB := TB_of (List.mem_of_getElem? (i := 697) (by decide +kernel)) (by decide +kernel)
theorem wd_699 : Cond.instanceMethod yX7_isWrongAt ∈ TB := TB_of (List.mem_of_getElem? (i := 699) (by decide +kernel)) (by decide +kernel)
theorem ws_19 : Cond.selects yX7_isWrongAt.cls yX7_isWrongAt yX7_isWrongAt ∈ TB := TB_of (List.mem_of_getElem? (i := 19) (by decide +kernel)) (by decide +kernel)
theorem cs_X7_199 : SiV RX7 199 yX7_isWrongAt cX7_isWrongAt 3 (some .boolean) 2 6 := ⟨wd_700, Or.inl wd_697, wd_699, ws_19, wd_76, by decide +kernel, ⟨TX7, 12, rfl⟩, by decide, by decide⟩
theorem wd_709 : Cond.methodLink RX7 202 yX2_sortOf ∈ TB := TB_of (List.mem_of_getElem? (i := 709) (by decide +kernel)) (by decide +kernel)
theorem cs_X7_202 : SiV RX7 202 yX2_sortOf cX2_sortOf 2 (some .int) 1 2 := ⟨wd_575, Or.inl wd_709, wd_573, wd_574, wd_82, by decide +kernel, ⟨TX2, 3, rfl⟩, by decide, by decide⟩
theorem wd_710 : Cond.methodLink RX7 205 yX6_apply ∈ TB := TB_of (List.mem_of_getElem? (i := 710) (by decide +kernel)) (by decide +kernel)
theorem cs_X7_205 : SiV RX7 205 yX6_apply cX6_apply 8 (some .int) 2 5 := ⟨wd_580, Or.inl wd_710, wd_578, wd_579, wd_80, by decide +kernel, ⟨TX6, 4, rfl⟩, by decide, by decide⟩
theorem wd_718 : Cond.code yX7_isFaulty cX7_isFaulty 4 (some .boolean) ∈ TB := TB_of (List.mem_of_getElem? (i := 718) (by decide +kernel)) (by decide +kernel)
theorem wd_715 : Cond.methodLink RX7 209 yX7_isFaulty ∈ TB := TB_of (List.mem_of_getElem? (i := 715) (by decide +kernel)) (by decide +kernel)
theorem wd_717 : Cond.instanceMethod yX7_isFaulty ∈ TB := TB_of (List.mem_of_getElem? (i := 717) (by decide +kernel)) (by decide +kernel)
theorem ws_20 : Cond.selects yX7_isFaulty.cls yX7_isFaulty yX7_isFaulty ∈ TB := TB_of (List.mem_of_getElem? (i := 20) (by decide +kernel)) (by decide +kernel)
theorem cs_X7_209 : SiV RX7 209 yX7_isFaulty cX7_isFaulty 4 (some .boolean) 3 6 := ⟨wd_718, Or.inl wd_715, wd_717, ws_20, wd_76, by decide +kernel, ⟨TX7, 12, rfl⟩, by decide, by decide⟩
theorem wd_726 : Cond.code yX7_shrink cX7_shrink 9 (some .boolean) ∈ TB := TB_of (List.mem_of_getElem? (i := 726) (by decide +kernel)) (by decide +kernel)
theorem wd_723 : Cond.methodLink RX7 213 yX7_shrink ∈ TB := TB_of (List.mem_of_getElem? (i := 723) (by decide +kernel)) (by decide +kernel)
theorem wd_725 : Cond.instanceMethod yX7_shrink ∈ TB := TB_of (List.mem_of_getElem? (i := 725) (by decide +kernel)) (by decide +kernel)
theorem ws_22 : Cond.selects yX7_shrink.cls yX7_shrink yX7_shrink ∈ TB := TB_of (List.mem_of_getElem? (i := 22) (by decide +kernel)) (by decide +kernel)
theorem cs_X7_213 : SiV RX7 213 yX7_shrink cX7_shrink 9 (some .boolean) 3 6 := ⟨wd_726, Or.inl wd_723, wd_725, ws_22, wd_76, by decide +kernel, ⟨TX7, 12, rfl⟩, by decide, by decide⟩
theorem wd_277 : Cond.fieldLink RX7 67 RX7 "stepsDone" "I" ∈ TB := TB_of (List.mem_of_getElem? (i := 277) (by decide +kernel)) (by decide +kernel)
theorem fw_X7_67 : Fw RX7 67 6 RX7 TX7 12 11 0 := ⟨inTX7, rfl, by decide, Or.inl wd_277, rfl, by decide, rfl⟩
theorem fp_7_11 : Fp 6 11 RX7 TX7 12 tyX7 .int := ⟨tyX7_ok, nmX7, rfl, by decide +kernel⟩
theorem wd_737 : Cond.constantLong RX7 216 (16) ∈ TB := TB_of (List.mem_of_getElem? (i := 737) (by decide +kernel)) (by decide +kernel)
theorem wd_738 : Cond.constantLong RX7 218 (-5) ∈ TB := TB_of (List.mem_of_getElem? (i := 738) (by decide +kernel)) (by decide +kernel)
theorem wd_750 : Cond.code yX7_keptPrograms cX7_keptPrograms 3 (some .int) ∈ TB := TB_of (List.mem_of_getElem? (i := 750) (by decide +kernel)) (by decide +kernel)
theorem wd_747 : Cond.methodLink RX7 220 yX7_keptPrograms ∈ TB := TB_of (List.mem_of_getElem? (i := 747) (by decide +kernel)) (by decide +kernel)
theorem wd_749 : Cond.instanceMethod yX7_keptPrograms ∈ TB := TB_of (List.mem_of_getElem? (i := 749) (by decide +kernel)) (by decide +kernel)
theorem ws_23 : Cond.selects yX7_keptPrograms.cls yX7_keptPrograms yX7_keptPrograms ∈ TB := TB_of (List.mem_of_getElem? (i := 23) (by decide +kernel)) (by decide +kernel)
theorem cs_X7_220 : SiV RX7 220 yX7_keptPrograms cX7_keptPrograms 3 (some .int) 0 6 := ⟨wd_750, Or.inl wd_747, wd_749, ws_23, wd_76, by decide +kernel, ⟨TX7, 12, rfl⟩, by decide, by decide⟩
theorem wd_754 : Cond.code yX7_keptNodes cX7_keptNodes 4 (some .int) ∈ TB := TB_of (List.mem_of_getElem? (i := 754) (by decide +kernel)) (by decide +kernel)
theorem wd_751 : Cond.methodLink RX7 224 yX7_keptNodes ∈ TB := TB_of (List.mem_of_getElem? (i := 751) (by decide +kernel)) (by decide +kernel)
theorem wd_753 : Cond.instanceMethod yX7_keptNodes ∈ TB := TB_of (List.mem_of_getElem? (i := 753) (by decide +kernel)) (by decide +kernel)
theorem ws_24 : Cond.selects yX7_keptNodes.cls yX7_keptNodes yX7_keptNodes ∈ TB := TB_of (List.mem_of_getElem? (i := 24) (by decide +kernel)) (by decide +kernel)
theorem cs_X7_224 : SiV RX7 224 yX7_keptNodes cX7_keptNodes 4 (some .int) 0 6 := ⟨wd_754, Or.inl wd_751, wd_753, ws_24, wd_76, by decide +kernel, ⟨TX7, 12, rfl⟩, by decide, by decide⟩
theorem wd_361 : Cond.fieldLink RX7 227 "MakersBench" "PARTS" "[I" ∈ TB := TB_of (List.mem_of_getElem? (i := 361) (by decide +kernel)) (by decide +kernel)
theorem wd_467 : Cond.methodLink RX7 231 yX5_kindOf ∈ TB := TB_of (List.mem_of_getElem? (i := 467) (by decide +kernel)) (by decide +kernel)
theorem cs_X7_231 : SiV RX7 231 yX5_kindOf cX5_kindOf 2 (some .int) 1 4 := ⟨wd_382, Or.inl wd_467, wd_380, wd_381, wd_79, by decide +kernel, ⟨TX5, 4, rfl⟩, by decide, by decide⟩
theorem wd_468 : Cond.methodLink RX7 234 yX5_numberOf ∈ TB := TB_of (List.mem_of_getElem? (i := 468) (by decide +kernel)) (by decide +kernel)
theorem cs_X7_234 : SiV RX7 234 yX5_numberOf cX5_numberOf 2 (some .int) 1 4 := ⟨wd_386, Or.inl wd_468, wd_384, wd_385, wd_79, by decide +kernel, ⟨TX5, 4, rfl⟩, by decide, by decide⟩
theorem wd_268 : Cond.fieldLink RX7 25 RX7 "places" "[LMakersBench$Tree;" ∈ TB := TB_of (List.mem_of_getElem? (i := 268) (by decide +kernel)) (by decide +kernel)
theorem fw_X7_25 : Fw RX7 25 6 RX7 TX7 12 2 16 := ⟨inTX7, rfl, by decide, Or.inl wd_268, rfl, by decide, rfl⟩
theorem wd_269 : Cond.fieldLink RX7 31 RX7 "makers" "[LMakersBench$Maker;" ∈ TB := TB_of (List.mem_of_getElem? (i := 269) (by decide +kernel)) (by decide +kernel)
theorem fw_X7_31 : Fw RX7 31 6 RX7 TX7 12 3 17 := ⟨inTX7, rfl, by decide, Or.inl wd_269, rfl, by decide, rfl⟩
theorem wd_722 : Cond.code yX7_showsFault cX7_showsFault 8 (some .boolean) ∈ TB := TB_of (List.mem_of_getElem? (i := 722) (by decide +kernel)) (by decide +kernel)
theorem wd_719 : Cond.methodLink RX7 237 yX7_showsFault ∈ TB := TB_of (List.mem_of_getElem? (i := 719) (by decide +kernel)) (by decide +kernel)
theorem wd_721 : Cond.instanceMethod yX7_showsFault ∈ TB := TB_of (List.mem_of_getElem? (i := 721) (by decide +kernel)) (by decide +kernel)
theorem ws_21 : Cond.selects yX7_showsFault.cls yX7_showsFault yX7_showsFault ∈ TB := TB_of (List.mem_of_getElem? (i := 21) (by decide +kernel)) (by decide +kernel)
theorem cs_X7_237 : SiV RX7 237 yX7_showsFault cX7_showsFault 8 (some .boolean) 2 6 := ⟨wd_722, Or.inl wd_719, wd_721, ws_21, wd_76, by decide +kernel, ⟨TX7, 12, rfl⟩, by decide, by decide⟩
theorem wn_131 : Cond.fieldLinkNest RX7 240 RX0 "readsA" "Z" "MakersBench" ∈ NW := List.mem_filter.mpr ⟨List.mem_of_getElem? (i := 131) (by decide +kernel), by decide +kernel⟩
theorem fw_X7_240 : Fw RX7 240 0 RX0 TX0 12 3 0 := ⟨inTX0, rfl, by decide, Or.inr ⟨_, wn_131⟩, rfl, by decide, rfl⟩
theorem wn_133 : Cond.fieldLinkNest RX7 244 RX0 "readsB" "Z" "MakersBench" ∈ NW := List.mem_filter.mpr ⟨List.mem_of_getElem? (i := 133) (by decide +kernel), by decide +kernel⟩
theorem fw_X7_244 : Fw RX7 244 0 RX0 TX0 12 4 0 := ⟨inTX0, rfl, by decide, Or.inr ⟨_, wn_133⟩, rfl, by decide, rfl⟩
theorem wn_135 : Cond.fieldLinkNest RX7 247 RX0 "divides" "Z" "MakersBench" ∈ NW := List.mem_filter.mpr ⟨List.mem_of_getElem? (i := 135) (by decide +kernel), by decide +kernel⟩
theorem fw_X7_247 : Fw RX7 247 0 RX0 TX0 12 5 0 := ⟨inTX0, rfl, by decide, Or.inr ⟨_, wn_135⟩, rfl, by decide, rfl⟩
theorem wd_727 : Cond.methodLink RX7 250 yX5_isNumber ∈ TB := TB_of (List.mem_of_getElem? (i := 727) (by decide +kernel)) (by decide +kernel)
theorem cs_X7_250 : SiV RX7 250 yX5_isNumber cX5_isNumber 3 (some .boolean) 2 4 := ⟨wd_612, Or.inl wd_727, wd_610, wd_611, wd_79, by decide +kernel, ⟨TX5, 4, rfl⟩, by decide, by decide⟩
theorem wd_275 : Cond.fieldLink RX7 60 RX7 "nought" "LMakersBench$Tree;" ∈ TB := TB_of (List.mem_of_getElem? (i := 275) (by decide +kernel)) (by decide +kernel)
theorem fw_X7_60 : Fw RX7 60 6 RX7 TX7 12 9 51 := ⟨inTX7, rfl, by decide, Or.inl wd_275, rfl, by decide, rfl⟩
theorem wd_728 : Cond.methodLink RX7 253 yX5_behind ∈ TB := TB_of (List.mem_of_getElem? (i := 728) (by decide +kernel)) (by decide +kernel)
theorem cs_X7_253 : SiV RX7 253 yX5_behind cX5_behind 2 (some .int) 1 4 := ⟨wd_366, Or.inl wd_728, wd_364, wd_365, wd_79, by decide +kernel, ⟨TX5, 4, rfl⟩, by decide, by decide⟩
theorem wd_766 : Cond.fieldLink RX8 7 RX8 "kind" "[I" ∈ TB := TB_of (List.mem_of_getElem? (i := 766) (by decide +kernel)) (by decide +kernel)
theorem fw_X8_7 : Fw RX8 7 7 RX8 TX8 39 2 3 := ⟨inTX8, rfl, by decide, Or.inl wd_766, rfl, by decide, rfl⟩
theorem wd_765 : Cond.fieldLink RX8 93 RX8 "top" "I" ∈ TB := TB_of (List.mem_of_getElem? (i := 765) (by decide +kernel)) (by decide +kernel)
theorem fw_X8_93 : Fw RX8 93 7 RX8 TX8 39 1 0 := ⟨inTX8, rfl, by decide, Or.inl wd_765, rfl, by decide, rfl⟩
theorem wd_767 : Cond.fieldLink RX8 13 RX8 "val" "[I" ∈ TB := TB_of (List.mem_of_getElem? (i := 767) (by decide +kernel)) (by decide +kernel)
theorem fw_X8_13 : Fw RX8 13 7 RX8 TX8 39 3 4 := ⟨inTX8, rfl, by decide, Or.inl wd_767, rfl, by decide, rfl⟩
theorem wd_768 : Cond.fieldLink RX8 16 RX8 "one" "[I" ∈ TB := TB_of (List.mem_of_getElem? (i := 768) (by decide +kernel)) (by decide +kernel)
theorem fw_X8_16 : Fw RX8 16 7 RX8 TX8 39 4 5 := ⟨inTX8, rfl, by decide, Or.inl wd_768, rfl, by decide, rfl⟩
theorem wd_769 : Cond.fieldLink RX8 19 RX8 "two" "[I" ∈ TB := TB_of (List.mem_of_getElem? (i := 769) (by decide +kernel)) (by decide +kernel)
theorem fw_X8_19 : Fw RX8 19 7 RX8 TX8 39 5 6 := ⟨inTX8, rfl, by decide, Or.inl wd_769, rfl, by decide, rfl⟩
theorem wd_770 : Cond.fieldLink RX8 22 RX8 "three" "[I" ∈ TB := TB_of (List.mem_of_getElem? (i := 770) (by decide +kernel)) (by decide +kernel)
theorem fw_X8_22 : Fw RX8 22 7 RX8 TX8 39 6 7 := ⟨inTX8, rfl, by decide, Or.inl wd_770, rfl, by decide, rfl⟩
theorem wd_771 : Cond.fieldLink RX8 25 RX8 "size" "[I" ∈ TB := TB_of (List.mem_of_getElem? (i := 771) (by decide +kernel)) (by decide +kernel)
theorem fw_X8_25 : Fw RX8 25 7 RX8 TX8 39 7 8 := ⟨inTX8, rfl, by decide, Or.inl wd_771, rfl, by decide, rfl⟩
theorem fp_8_1 : Fp 7 1 RX8 TX8 39 tyX8 .int := ⟨tyX8_ok, nmX8, rfl, by decide +kernel⟩
theorem wd_954 : Cond.code yX8_make cX8_make 6 (some .int) ∈ TB := TB_of (List.mem_of_getElem? (i := 954) (by decide +kernel)) (by decide +kernel)
theorem wd_951 : Cond.methodLink RX8 96 yX8_make ∈ TB := TB_of (List.mem_of_getElem? (i := 951) (by decide +kernel)) (by decide +kernel)
theorem wd_83 : Cond.initialized RX8 ∈ TB := TB_of (List.mem_of_getElem? (i := 83) (by decide +kernel)) (by decide +kernel)
theorem wd_953 : Cond.instanceMethod yX8_make ∈ TB := TB_of (List.mem_of_getElem? (i := 953) (by decide +kernel)) (by decide +kernel)
theorem ws_35 : Cond.selects yX8_make.cls yX8_make yX8_make ∈ TB := TB_of (List.mem_of_getElem? (i := 35) (by decide +kernel)) (by decide +kernel)
theorem cs_X8_96 : SiV RX8 96 yX8_make cX8_make 6 (some .int) 5 7 := ⟨wd_954, Or.inl wd_951, wd_953, ws_35, wd_83, by decide +kernel, ⟨TX8, 39, rfl⟩, by decide, by decide⟩
theorem wd_1096 : Cond.code yX8_areSame cX8_areSame 3 (some .boolean) ∈ TB := TB_of (List.mem_of_getElem? (i := 1096) (by decide +kernel)) (by decide +kernel)
theorem wd_1093 : Cond.methodLink RX8 100 yX8_areSame ∈ TB := TB_of (List.mem_of_getElem? (i := 1093) (by decide +kernel)) (by decide +kernel)
theorem wd_1095 : Cond.instanceMethod yX8_areSame ∈ TB := TB_of (List.mem_of_getElem? (i := 1095) (by decide +kernel)) (by decide +kernel)
theorem ws_58 : Cond.selects yX8_areSame.cls yX8_areSame yX8_areSame ∈ TB := TB_of (List.mem_of_getElem? (i := 58) (by decide +kernel)) (by decide +kernel)
theorem cs_X8_100 : SiV RX8 100 yX8_areSame cX8_areSame 3 (some .boolean) 2 7 := ⟨wd_1096, Or.inl wd_1093, wd_1095, ws_58, wd_83, by decide +kernel, ⟨TX8, 39, rfl⟩, by decide, by decide⟩
theorem wd_772 : Cond.fieldLink RX8 104 RX8 "free" "Z" ∈ TB := TB_of (List.mem_of_getElem? (i := 772) (by decide +kernel)) (by decide +kernel)
theorem fw_X8_104 : Fw RX8 104 7 RX8 TX8 39 8 0 := ⟨inTX8, rfl, by decide, Or.inl wd_772, rfl, by decide, rfl⟩
theorem wd_773 : Cond.fieldLink RX8 108 RX8 "orders" "I" ∈ TB := TB_of (List.mem_of_getElem? (i := 773) (by decide +kernel)) (by decide +kernel)
theorem fw_X8_108 : Fw RX8 108 7 RX8 TX8 39 9 0 := ⟨inTX8, rfl, by decide, Or.inl wd_773, rfl, by decide, rfl⟩
theorem fp_8_9 : Fp 7 9 RX8 TX8 39 tyX8 .int := ⟨tyX8_ok, nmX8, rfl, by decide +kernel⟩
theorem wd_1000 : Cond.code yX8_works cX8_works 6 (some .int) ∈ TB := TB_of (List.mem_of_getElem? (i := 1000) (by decide +kernel)) (by decide +kernel)
theorem wd_997 : Cond.methodLink RX8 111 yX8_works ∈ TB := TB_of (List.mem_of_getElem? (i := 997) (by decide +kernel)) (by decide +kernel)
theorem wd_999 : Cond.instanceMethod yX8_works ∈ TB := TB_of (List.mem_of_getElem? (i := 999) (by decide +kernel)) (by decide +kernel)
theorem ws_41 : Cond.selects yX8_works.cls yX8_works yX8_works ∈ TB := TB_of (List.mem_of_getElem? (i := 41) (by decide +kernel)) (by decide +kernel)
theorem cs_X8_111 : SiV RX8 111 yX8_works cX8_works 6 (some .int) 3 7 := ⟨wd_1000, Or.inl wd_997, wd_999, ws_41, wd_83, by decide +kernel, ⟨TX8, 39, rfl⟩, by decide, by decide⟩
theorem fp_8_8 : Fp 7 8 RX8 TX8 39 tyX8 .boolean := ⟨tyX8_ok, nmX8, rfl, by decide +kernel⟩
theorem wd_1003 : Cond.code yX8_both cX8_both 3 (some .int) ∈ TB := TB_of (List.mem_of_getElem? (i := 1003) (by decide +kernel)) (by decide +kernel)
theorem wd_1001 : Cond.methodLink RX8 115 yX8_both ∈ TB := TB_of (List.mem_of_getElem? (i := 1001) (by decide +kernel)) (by decide +kernel)
theorem wd_1002 : Cond.static yX8_both ∈ TB := TB_of (List.mem_of_getElem? (i := 1002) (by decide +kernel)) (by decide +kernel)
theorem cs_X8_115 : SiS RX8 115 yX8_both cX8_both 3 (some .int) 3 := ⟨wd_1003, Or.inl wd_1001, wd_1002, wd_83, by decide +kernel, by decide⟩
theorem wd_996 : Cond.code yX8_valueOf cX8_valueOf 4 (some .int) ∈ TB := TB_of (List.mem_of_getElem? (i := 996) (by decide +kernel)) (by decide +kernel)
theorem wd_993 : Cond.methodLink RX8 118 yX8_valueOf ∈ TB := TB_of (List.mem_of_getElem? (i := 993) (by decide +kernel)) (by decide +kernel)
theorem wd_995 : Cond.instanceMethod yX8_valueOf ∈ TB := TB_of (List.mem_of_getElem? (i := 995) (by decide +kernel)) (by decide +kernel)
theorem ws_40 : Cond.selects yX8_valueOf.cls yX8_valueOf yX8_valueOf ∈ TB := TB_of (List.mem_of_getElem? (i := 40) (by decide +kernel)) (by decide +kernel)
theorem cs_X8_118 : SiV RX8 118 yX8_valueOf cX8_valueOf 4 (some .int) 3 7 := ⟨wd_996, Or.inl wd_993, wd_995, ws_40, wd_83, by decide +kernel, ⟨TX8, 39, rfl⟩, by decide, by decide⟩
theorem wd_1072 : Cond.code yX8_folded cX8_folded 6 (some .int) ∈ TB := TB_of (List.mem_of_getElem? (i := 1072) (by decide +kernel)) (by decide +kernel)
theorem wd_1069 : Cond.methodLink RX8 121 yX8_folded ∈ TB := TB_of (List.mem_of_getElem? (i := 1069) (by decide +kernel)) (by decide +kernel)
theorem wd_1071 : Cond.instanceMethod yX8_folded ∈ TB := TB_of (List.mem_of_getElem? (i := 1071) (by decide +kernel)) (by decide +kernel)
theorem ws_52 : Cond.selects yX8_folded.cls yX8_folded yX8_folded ∈ TB := TB_of (List.mem_of_getElem? (i := 52) (by decide +kernel)) (by decide +kernel)
theorem cs_X8_121 : SiV RX8 121 yX8_folded cX8_folded 6 (some .int) 2 7 := ⟨wd_1072, Or.inl wd_1069, wd_1071, ws_52, wd_83, by decide +kernel, ⟨TX8, 39, rfl⟩, by decide, by decide⟩
theorem wd_1080 : Cond.code yX8_zeroed cX8_zeroed 6 (some .int) ∈ TB := TB_of (List.mem_of_getElem? (i := 1080) (by decide +kernel)) (by decide +kernel)
theorem wd_1077 : Cond.methodLink RX8 125 yX8_zeroed ∈ TB := TB_of (List.mem_of_getElem? (i := 1077) (by decide +kernel)) (by decide +kernel)
theorem wd_1079 : Cond.instanceMethod yX8_zeroed ∈ TB := TB_of (List.mem_of_getElem? (i := 1079) (by decide +kernel)) (by decide +kernel)
theorem ws_54 : Cond.selects yX8_zeroed.cls yX8_zeroed yX8_zeroed ∈ TB := TB_of (List.mem_of_getElem? (i := 54) (by decide +kernel)) (by decide +kernel)
theorem cs_X8_125 : SiV RX8 125 yX8_zeroed cX8_zeroed 6 (some .int) 2 7 := ⟨wd_1080, Or.inl wd_1077, wd_1079, ws_54, wd_83, by decide +kernel, ⟨TX8, 39, rfl⟩, by decide, by decide⟩
theorem wd_1088 : Cond.code yX8_samed cX8_samed 3 (some .int) ∈ TB := TB_of (List.mem_of_getElem? (i := 1088) (by decide +kernel)) (by decide +kernel)
theorem wd_1085 : Cond.methodLink RX8 128 yX8_samed ∈ TB := TB_of (List.mem_of_getElem? (i := 1085) (by decide +kernel)) (by decide +kernel)
theorem wd_1087 : Cond.instanceMethod yX8_samed ∈ TB := TB_of (List.mem_of_getElem? (i := 1087) (by decide +kernel)) (by decide +kernel)
theorem ws_56 : Cond.selects yX8_samed.cls yX8_samed yX8_samed ∈ TB := TB_of (List.mem_of_getElem? (i := 56) (by decide +kernel)) (by decide +kernel)
theorem cs_X8_128 : SiV RX8 128 yX8_samed cX8_samed 3 (some .int) 2 7 := ⟨wd_1088, Or.inl wd_1085, wd_1087, ws_56, wd_83, by decide +kernel, ⟨TX8, 39, rfl⟩, by decide, by decide⟩
theorem wd_1100 : Cond.code yX8_picked cX8_picked 4 (some .int) ∈ TB := TB_of (List.mem_of_getElem? (i := 1100) (by decide +kernel)) (by decide +kernel)
theorem wd_1097 : Cond.methodLink RX8 131 yX8_picked ∈ TB := TB_of (List.mem_of_getElem? (i := 1097) (by decide +kernel)) (by decide +kernel)
theorem wd_1099 : Cond.instanceMethod yX8_picked ∈ TB := TB_of (List.mem_of_getElem? (i := 1099) (by decide +kernel)) (by decide +kernel)
theorem ws_59 : Cond.selects yX8_picked.cls yX8_picked yX8_picked ∈ TB := TB_of (List.mem_of_getElem? (i := 59) (by decide +kernel)) (by decide +kernel)
theorem cs_X8_131 : SiV RX8 131 yX8_picked cX8_picked 4 (some .int) 2 7 := ⟨wd_1100, Or.inl wd_1097, wd_1099, ws_59, wd_83, by decide +kernel, ⟨TX8, 39, rfl⟩, by decide, by decide⟩
theorem wd_1104 : Cond.code yX8_melted cX8_melted 4 (some .int) ∈ TB := TB_of (List.mem_of_getElem? (i := 1104) (by decide +kernel)) (by decide +kernel)
theorem wd_1101 : Cond.methodLink RX8 134 yX8_melted ∈ TB := TB_of (List.mem_of_getElem? (i := 1101) (by decide +kernel)) (by decide +kernel)
theorem wd_1103 : Cond.instanceMethod yX8_melted ∈ TB := TB_of (List.mem_of_getElem? (i := 1103) (by decide +kernel)) (by decide +kernel)
theorem ws_60 : Cond.selects yX8_melted.cls yX8_melted yX8_melted ∈ TB := TB_of (List.mem_of_getElem? (i := 60) (by decide +kernel)) (by decide +kernel)
theorem cs_X8_134 : SiV RX8 134 yX8_melted cX8_melted 4 (some .int) 2 7 := ⟨wd_1104, Or.inl wd_1101, wd_1103, ws_60, wd_83, by decide +kernel, ⟨TX8, 39, rfl⟩, by decide, by decide⟩
theorem wd_1108 : Cond.code yX8_twiced cX8_twiced 3 (some .int) ∈ TB := TB_of (List.mem_of_getElem? (i := 1108) (by decide +kernel)) (by decide +kernel)
theorem wd_1105 : Cond.methodLink RX8 137 yX8_twiced ∈ TB := TB_of (List.mem_of_getElem? (i := 1105) (by decide +kernel)) (by decide +kernel)
theorem wd_1107 : Cond.instanceMethod yX8_twiced ∈ TB := TB_of (List.mem_of_getElem? (i := 1107) (by decide +kernel)) (by decide +kernel)
theorem ws_61 : Cond.selects yX8_twiced.cls yX8_twiced yX8_twiced ∈ TB := TB_of (List.mem_of_getElem? (i := 61) (by decide +kernel)) (by decide +kernel)
theorem cs_X8_137 : SiV RX8 137 yX8_twiced cX8_twiced 3 (some .int) 2 7 := ⟨wd_1108, Or.inl wd_1105, wd_1107, ws_61, wd_83, by decide +kernel, ⟨TX8, 39, rfl⟩, by decide, by decide⟩
theorem wd_1120 : Cond.code yX8_sunk cX8_sunk 3 (some .int) ∈ TB := TB_of (List.mem_of_getElem? (i := 1120) (by decide +kernel)) (by decide +kernel)
theorem wd_1117 : Cond.methodLink RX8 140 yX8_sunk ∈ TB := TB_of (List.mem_of_getElem? (i := 1117) (by decide +kernel)) (by decide +kernel)
theorem wd_1119 : Cond.instanceMethod yX8_sunk ∈ TB := TB_of (List.mem_of_getElem? (i := 1119) (by decide +kernel)) (by decide +kernel)
theorem ws_64 : Cond.selects yX8_sunk.cls yX8_sunk yX8_sunk ∈ TB := TB_of (List.mem_of_getElem? (i := 64) (by decide +kernel)) (by decide +kernel)
theorem cs_X8_140 : SiV RX8 140 yX8_sunk cX8_sunk 3 (some .int) 2 7 := ⟨wd_1120, Or.inl wd_1117, wd_1119, ws_64, wd_83, by decide +kernel, ⟨TX8, 39, rfl⟩, by decide, by decide⟩
theorem wd_1076 : Cond.code yX8_numeral cX8_numeral 2 (some .int) ∈ TB := TB_of (List.mem_of_getElem? (i := 1076) (by decide +kernel)) (by decide +kernel)
theorem wd_1073 : Cond.methodLink RX8 143 yX8_numeral ∈ TB := TB_of (List.mem_of_getElem? (i := 1073) (by decide +kernel)) (by decide +kernel)
theorem wd_1075 : Cond.instanceMethod yX8_numeral ∈ TB := TB_of (List.mem_of_getElem? (i := 1075) (by decide +kernel)) (by decide +kernel)
theorem ws_53 : Cond.selects yX8_numeral.cls yX8_numeral yX8_numeral ∈ TB := TB_of (List.mem_of_getElem? (i := 53) (by decide +kernel)) (by decide +kernel)
theorem cs_X8_143 : SiV RX8 143 yX8_numeral cX8_numeral 2 (some .int) 1 7 := ⟨wd_1076, Or.inl wd_1073, wd_1075, ws_53, wd_83, by decide +kernel, ⟨TX8, 39, rfl⟩, by decide, by decide⟩
theorem wd_1084 : Cond.code yX8_isNumber cX8_isNumber 3 (some .boolean) ∈ TB := TB_of (List.mem_of_getElem? (i := 1084) (by decide +kernel)) (by decide +kernel)
theorem wd_1081 : Cond.methodLink RX8 147 yX8_isNumber ∈ TB := TB_of (List.mem_of_getElem? (i := 1081) (by decide +kernel)) (by decide +kernel)
theorem wd_1083 : Cond.instanceMethod yX8_isNumber ∈ TB := TB_of (List.mem_of_getElem? (i := 1083) (by decide +kernel)) (by decide +kernel)
theorem ws_55 : Cond.selects yX8_isNumber.cls yX8_isNumber yX8_isNumber ∈ TB := TB_of (List.mem_of_getElem? (i := 55) (by decide +kernel)) (by decide +kernel)
theorem cs_X8_147 : SiV RX8 147 yX8_isNumber cX8_isNumber 3 (some .boolean) 2 7 := ⟨wd_1084, Or.inl wd_1081, wd_1083, ws_55, wd_83, by decide +kernel, ⟨TX8, 39, rfl⟩, by decide, by decide⟩
theorem wd_1092 : Cond.code yX8_lookSame cX8_lookSame 4 (some .boolean) ∈ TB := TB_of (List.mem_of_getElem? (i := 1092) (by decide +kernel)) (by decide +kernel)
theorem wd_1089 : Cond.methodLink RX8 150 yX8_lookSame ∈ TB := TB_of (List.mem_of_getElem? (i := 1089) (by decide +kernel)) (by decide +kernel)
theorem wd_1091 : Cond.instanceMethod yX8_lookSame ∈ TB := TB_of (List.mem_of_getElem? (i := 1091) (by decide +kernel)) (by decide +kernel)
theorem ws_57 : Cond.selects yX8_lookSame.cls yX8_lookSame yX8_lookSame ∈ TB := TB_of (List.mem_of_getElem? (i := 57) (by decide +kernel)) (by decide +kernel)
theorem cs_X8_150 : SiV RX8 150 yX8_lookSame cX8_lookSame 4 (some .boolean) 3 7 := ⟨wd_1092, Or.inl wd_1089, wd_1091, ws_57, wd_83, by decide +kernel, ⟨TX8, 39, rfl⟩, by decide, by decide⟩
theorem wd_775 : Cond.fieldLink RX8 154 RX8 "whole" "I" ∈ TB := TB_of (List.mem_of_getElem? (i := 775) (by decide +kernel)) (by decide +kernel)
theorem fw_X8_154 : Fw RX8 154 7 RX8 TX8 39 11 0 := ⟨inTX8, rfl, by decide, Or.inl wd_775, rfl, by decide, rfl⟩
theorem wd_1116 : Cond.code yX8_pair cX8_pair 4 (some .int) ∈ TB := TB_of (List.mem_of_getElem? (i := 1116) (by decide +kernel)) (by decide +kernel)
theorem wd_1113 : Cond.methodLink RX8 157 yX8_pair ∈ TB := TB_of (List.mem_of_getElem? (i := 1113) (by decide +kernel)) (by decide +kernel)
theorem wd_1115 : Cond.instanceMethod yX8_pair ∈ TB := TB_of (List.mem_of_getElem? (i := 1115) (by decide +kernel)) (by decide +kernel)
theorem ws_63 : Cond.selects yX8_pair.cls yX8_pair yX8_pair ∈ TB := TB_of (List.mem_of_getElem? (i := 63) (by decide +kernel)) (by decide +kernel)
theorem cs_X8_157 : SiV RX8 157 yX8_pair cX8_pair 4 (some .int) 3 7 := ⟨wd_1116, Or.inl wd_1113, wd_1115, ws_63, wd_83, by decide +kernel, ⟨TX8, 39, rfl⟩, by decide, by decide⟩
theorem wd_1112 : Cond.code yX8_twice cX8_twice 4 (some .int) ∈ TB := TB_of (List.mem_of_getElem? (i := 1112) (by decide +kernel)) (by decide +kernel)
theorem wd_1109 : Cond.methodLink RX8 160 yX8_twice ∈ TB := TB_of (List.mem_of_getElem? (i := 1109) (by decide +kernel)) (by decide +kernel)
theorem wd_1111 : Cond.instanceMethod yX8_twice ∈ TB := TB_of (List.mem_of_getElem? (i := 1111) (by decide +kernel)) (by decide +kernel)
theorem ws_62 : Cond.selects yX8_twice.cls yX8_twice yX8_twice ∈ TB := TB_of (List.mem_of_getElem? (i := 62) (by decide +kernel)) (by decide +kernel)
theorem cs_X8_160 : SiV RX8 160 yX8_twice cX8_twice 4 (some .int) 3 7 := ⟨wd_1112, Or.inl wd_1109, wd_1111, ws_62, wd_83, by decide +kernel, ⟨TX8, 39, rfl⟩, by decide, by decide⟩
theorem wd_1064 : Cond.code yX8_turned cX8_turned 9 (some .int) ∈ TB := TB_of (List.mem_of_getElem? (i := 1064) (by decide +kernel)) (by decide +kernel)
theorem wd_1061 : Cond.methodLink RX8 163 yX8_turned ∈ TB := TB_of (List.mem_of_getElem? (i := 1061) (by decide +kernel)) (by decide +kernel)
theorem wd_1063 : Cond.instanceMethod yX8_turned ∈ TB := TB_of (List.mem_of_getElem? (i := 1063) (by decide +kernel)) (by decide +kernel)
theorem ws_50 : Cond.selects yX8_turned.cls yX8_turned yX8_turned ∈ TB := TB_of (List.mem_of_getElem? (i := 50) (by decide +kernel)) (by decide +kernel)
theorem cs_X8_163 : SiV RX8 163 yX8_turned cX8_turned 9 (some .int) 3 7 := ⟨wd_1064, Or.inl wd_1061, wd_1063, ws_50, wd_83, by decide +kernel, ⟨TX8, 39, rfl⟩, by decide, by decide⟩
theorem wd_1068 : Cond.code yX8_becomes cX8_becomes 4 (some .int) ∈ TB := TB_of (List.mem_of_getElem? (i := 1068) (by decide +kernel)) (by decide +kernel)
theorem wd_1065 : Cond.methodLink RX8 166 yX8_becomes ∈ TB := TB_of (List.mem_of_getElem? (i := 1065) (by decide +kernel)) (by decide +kernel)
theorem wd_1067 : Cond.instanceMethod yX8_becomes ∈ TB := TB_of (List.mem_of_getElem? (i := 1067) (by decide +kernel)) (by decide +kernel)
theorem ws_51 : Cond.selects yX8_becomes.cls yX8_becomes yX8_becomes ∈ TB := TB_of (List.mem_of_getElem? (i := 51) (by decide +kernel)) (by decide +kernel)
theorem cs_X8_166 : SiV RX8 166 yX8_becomes cX8_becomes 4 (some .int) 3 7 := ⟨wd_1068, Or.inl wd_1065, wd_1067, ws_51, wd_83, by decide +kernel, ⟨TX8, 39, rfl⟩, by decide, by decide⟩
theorem wd_774 : Cond.fieldLink RX8 169 RX8 "fired" "I" ∈ TB := TB_of (List.mem_of_getElem? (i := 774) (by decide +kernel)) (by decide +kernel)
theorem fw_X8_169 : Fw RX8 169 7 RX8 TX8 39 10 0 := ⟨inTX8, rfl, by decide, Or.inl wd_774, rfl, by decide, rfl⟩
theorem fp_8_10 : Fp 7 10 RX8 TX8 39 tyX8 .int := ⟨tyX8_ok, nmX8, rfl, by decide +kernel⟩
theorem fp_8_11 : Fp 7 11 RX8 TX8 39 tyX8 .int := ⟨tyX8_ok, nmX8, rfl, by decide +kernel⟩
theorem wd_793 : Cond.fieldLink RX8 65 RX8 "sorts" "[I" ∈ TB := TB_of (List.mem_of_getElem? (i := 793) (by decide +kernel)) (by decide +kernel)
theorem fw_X8_65 : Fw RX8 65 7 RX8 TX8 39 29 21 := ⟨inTX8, rfl, by decide, Or.inl wd_793, rfl, by decide, rfl⟩
theorem wd_794 : Cond.fieldLink RX8 68 RX8 "faults" "[I" ∈ TB := TB_of (List.mem_of_getElem? (i := 794) (by decide +kernel)) (by decide +kernel)
theorem fw_X8_68 : Fw RX8 68 7 RX8 TX8 39 30 22 := ⟨inTX8, rfl, by decide, Or.inl wd_794, rfl, by decide, rfl⟩
theorem wd_1060 : Cond.code yX8_goOver cX8_goOver 4 (some .int) ∈ TB := TB_of (List.mem_of_getElem? (i := 1060) (by decide +kernel)) (by decide +kernel)
theorem wd_1057 : Cond.methodLink RX8 172 yX8_goOver ∈ TB := TB_of (List.mem_of_getElem? (i := 1057) (by decide +kernel)) (by decide +kernel)
theorem wd_1059 : Cond.instanceMethod yX8_goOver ∈ TB := TB_of (List.mem_of_getElem? (i := 1059) (by decide +kernel)) (by decide +kernel)
theorem ws_49 : Cond.selects yX8_goOver.cls yX8_goOver yX8_goOver ∈ TB := TB_of (List.mem_of_getElem? (i := 49) (by decide +kernel)) (by decide +kernel)
theorem cs_X8_172 : SiV RX8 172 yX8_goOver cX8_goOver 4 (some .int) 3 7 := ⟨wd_1060, Or.inl wd_1057, wd_1059, ws_49, wd_83, by decide +kernel, ⟨TX8, 39, rfl⟩, by decide, by decide⟩
theorem wd_908 : Cond.constantLong RX8 175 (19) ∈ TB := TB_of (List.mem_of_getElem? (i := 908) (by decide +kernel)) (by decide +kernel)
theorem wd_889 : Cond.code yX8_in cX8_in 6 (some .boolean) ∈ TB := TB_of (List.mem_of_getElem? (i := 889) (by decide +kernel)) (by decide +kernel)
theorem wd_887 : Cond.methodLink RX8 177 yX8_in ∈ TB := TB_of (List.mem_of_getElem? (i := 887) (by decide +kernel)) (by decide +kernel)
theorem wd_888 : Cond.static yX8_in ∈ TB := TB_of (List.mem_of_getElem? (i := 888) (by decide +kernel)) (by decide +kernel)
theorem cs_X8_177 : SiS RX8 177 yX8_in cX8_in 6 (some .boolean) 3 := ⟨wd_889, Or.inl wd_887, wd_888, wd_83, by decide +kernel, by decide⟩
theorem wd_907 : Cond.code yX8_isPlace cX8_isPlace 1 (some .boolean) ∈ TB := TB_of (List.mem_of_getElem? (i := 907) (by decide +kernel)) (by decide +kernel)
theorem wd_905 : Cond.methodLink RX8 181 yX8_isPlace ∈ TB := TB_of (List.mem_of_getElem? (i := 905) (by decide +kernel)) (by decide +kernel)
theorem wd_906 : Cond.static yX8_isPlace ∈ TB := TB_of (List.mem_of_getElem? (i := 906) (by decide +kernel)) (by decide +kernel)
theorem cs_X8_181 : SiS RX8 181 yX8_isPlace cX8_isPlace 1 (some .boolean) 1 := ⟨wd_907, Or.inl wd_905, wd_906, wd_83, by decide +kernel, by decide⟩
theorem wd_776 : Cond.fieldLink RX8 28 RX8 "rowSize" "[I" ∈ TB := TB_of (List.mem_of_getElem? (i := 776) (by decide +kernel)) (by decide +kernel)
theorem fw_X8_28 : Fw RX8 28 7 RX8 TX8 39 12 9 := ⟨inTX8, rfl, by decide, Or.inl wd_776, rfl, by decide, rfl⟩
theorem wd_781 : Cond.fieldLink RX8 185 RX8 "handSize" "I" ∈ TB := TB_of (List.mem_of_getElem? (i := 781) (by decide +kernel)) (by decide +kernel)
theorem fw_X8_185 : Fw RX8 185 7 RX8 TX8 39 17 0 := ⟨inTX8, rfl, by decide, Or.inl wd_781, rfl, by decide, rfl⟩
theorem fp_8_17 : Fp 7 17 RX8 TX8 39 tyX8 .int := ⟨tyX8_ok, nmX8, rfl, by decide +kernel⟩
theorem wd_779 : Cond.fieldLink RX8 37 RX8 "handKind" "[I" ∈ TB := TB_of (List.mem_of_getElem? (i := 779) (by decide +kernel)) (by decide +kernel)
theorem fw_X8_37 : Fw RX8 37 7 RX8 TX8 39 15 12 := ⟨inTX8, rfl, by decide, Or.inl wd_779, rfl, by decide, rfl⟩
theorem wd_777 : Cond.fieldLink RX8 31 RX8 "rowKind" "[I" ∈ TB := TB_of (List.mem_of_getElem? (i := 777) (by decide +kernel)) (by decide +kernel)
theorem fw_X8_31 : Fw RX8 31 7 RX8 TX8 39 13 10 := ⟨inTX8, rfl, by decide, Or.inl wd_777, rfl, by decide, rfl⟩
theorem wd_780 : Cond.fieldLink RX8 40 RX8 "handVal" "[I" ∈ TB := TB_of (List.mem_of_getElem? (i := 780) (by decide +kernel)) (by decide +kernel)
theorem fw_X8_40 : Fw RX8 40 7 RX8 TX8 39 16 13 := ⟨inTX8, rfl, by decide, Or.inl wd_780, rfl, by decide, rfl⟩
theorem wd_778 : Cond.fieldLink RX8 34 RX8 "rowVal" "[I" ∈ TB := TB_of (List.mem_of_getElem? (i := 778) (by decide +kernel)) (by decide +kernel)
theorem fw_X8_34 : Fw RX8 34 7 RX8 TX8 39 14 11 := ⟨inTX8, rfl, by decide, Or.inl wd_778, rfl, by decide, rfl⟩
theorem wd_782 : Cond.fieldLink RX8 188 RX8 "at" "I" ∈ TB := TB_of (List.mem_of_getElem? (i := 782) (by decide +kernel)) (by decide +kernel)
theorem fw_X8_188 : Fw RX8 188 7 RX8 TX8 39 18 0 := ⟨inTX8, rfl, by decide, Or.inl wd_782, rfl, by decide, rfl⟩
theorem fp_8_18 : Fp 7 18 RX8 TX8 39 tyX8 .int := ⟨tyX8_ok, nmX8, rfl, by decide +kernel⟩
theorem wd_950 : Cond.code yX8_parts cX8_parts 1 (some .int) ∈ TB := TB_of (List.mem_of_getElem? (i := 950) (by decide +kernel)) (by decide +kernel)
theorem wd_948 : Cond.methodLink RX8 191 yX8_parts ∈ TB := TB_of (List.mem_of_getElem? (i := 948) (by decide +kernel)) (by decide +kernel)
theorem wd_949 : Cond.static yX8_parts ∈ TB := TB_of (List.mem_of_getElem? (i := 949) (by decide +kernel)) (by decide +kernel)
theorem cs_X8_191 : SiS RX8 191 yX8_parts cX8_parts 1 (some .int) 1 := ⟨wd_950, Or.inl wd_948, wd_949, wd_83, by decide +kernel, by decide⟩
theorem wd_947 : Cond.code yX8_grow cX8_grow 6 (some .int) ∈ TB := TB_of (List.mem_of_getElem? (i := 947) (by decide +kernel)) (by decide +kernel)
theorem wd_944 : Cond.methodLink RX8 194 yX8_grow ∈ TB := TB_of (List.mem_of_getElem? (i := 944) (by decide +kernel)) (by decide +kernel)
theorem wd_946 : Cond.instanceMethod yX8_grow ∈ TB := TB_of (List.mem_of_getElem? (i := 946) (by decide +kernel)) (by decide +kernel)
theorem ws_34 : Cond.selects yX8_grow.cls yX8_grow yX8_grow ∈ TB := TB_of (List.mem_of_getElem? (i := 34) (by decide +kernel)) (by decide +kernel)
theorem cs_X8_194 : SiV RX8 194 yX8_grow cX8_grow 6 (some .int) 0 7 := ⟨wd_947, Or.inl wd_944, wd_946, ws_34, wd_83, by decide +kernel, ⟨TX8, 39, rfl⟩, by decide, by decide⟩
theorem wd_937 : Cond.code yX8_take cX8_take 3 none ∈ TB := TB_of (List.mem_of_getElem? (i := 937) (by decide +kernel)) (by decide +kernel)
theorem wd_934 : Cond.methodLink RX8 198 yX8_take ∈ TB := TB_of (List.mem_of_getElem? (i := 934) (by decide +kernel)) (by decide +kernel)
theorem wd_936 : Cond.instanceMethod yX8_take ∈ TB := TB_of (List.mem_of_getElem? (i := 936) (by decide +kernel)) (by decide +kernel)
theorem ws_32 : Cond.selects yX8_take.cls yX8_take yX8_take ∈ TB := TB_of (List.mem_of_getElem? (i := 32) (by decide +kernel)) (by decide +kernel)
theorem cs_X8_198 : SiV RX8 198 yX8_take cX8_take 3 none 1 7 := ⟨wd_937, Or.inl wd_934, wd_936, ws_32, wd_83, by decide +kernel, ⟨TX8, 39, rfl⟩, by decide, by decide⟩
theorem wd_943 : Cond.code yX8_tree cX8_tree 1 (some .int) ∈ TB := TB_of (List.mem_of_getElem? (i := 943) (by decide +kernel)) (by decide +kernel)
theorem wd_940 : Cond.methodLink RX8 202 yX8_tree ∈ TB := TB_of (List.mem_of_getElem? (i := 940) (by decide +kernel)) (by decide +kernel)
theorem wd_942 : Cond.instanceMethod yX8_tree ∈ TB := TB_of (List.mem_of_getElem? (i := 942) (by decide +kernel)) (by decide +kernel)
theorem ws_33 : Cond.selects yX8_tree.cls yX8_tree yX8_tree ∈ TB := TB_of (List.mem_of_getElem? (i := 33) (by decide +kernel)) (by decide +kernel)
theorem cs_X8_202 : SiV RX8 202 yX8_tree cX8_tree 1 (some .int) 0 7 := ⟨wd_943, Or.inl wd_940, wd_942, ws_33, wd_83, by decide +kernel, ⟨TX8, 39, rfl⟩, by decide, by decide⟩
theorem wd_1124 : Cond.code yX8_flatten cX8_flatten 2 none ∈ TB := TB_of (List.mem_of_getElem? (i := 1124) (by decide +kernel)) (by decide +kernel)
theorem wd_1121 : Cond.methodLink RX8 205 yX8_flatten ∈ TB := TB_of (List.mem_of_getElem? (i := 1121) (by decide +kernel)) (by decide +kernel)
theorem wd_1123 : Cond.instanceMethod yX8_flatten ∈ TB := TB_of (List.mem_of_getElem? (i := 1123) (by decide +kernel)) (by decide +kernel)
theorem ws_65 : Cond.selects yX8_flatten.cls yX8_flatten yX8_flatten ∈ TB := TB_of (List.mem_of_getElem? (i := 65) (by decide +kernel)) (by decide +kernel)
theorem cs_X8_205 : SiV RX8 205 yX8_flatten cX8_flatten 2 none 1 7 := ⟨wd_1124, Or.inl wd_1121, wd_1123, ws_65, wd_83, by decide +kernel, ⟨TX8, 39, rfl⟩, by decide, by decide⟩
theorem wd_783 : Cond.fieldLink RX8 43 RX8 "counts" "[J" ∈ TB := TB_of (List.mem_of_getElem? (i := 783) (by decide +kernel)) (by decide +kernel)
theorem fw_X8_43 : Fw RX8 43 7 RX8 TX8 39 19 14 := ⟨inTX8, rfl, by decide, Or.inl wd_783, rfl, by decide, rfl⟩
theorem wd_895 : Cond.constantLong RX8 208 (5) ∈ TB := TB_of (List.mem_of_getElem? (i := 895) (by decide +kernel)) (by decide +kernel)
theorem wd_896 : Cond.constantLong RX8 210 (4) ∈ TB := TB_of (List.mem_of_getElem? (i := 896) (by decide +kernel)) (by decide +kernel)
theorem wd_900 : Cond.code yX8_pairs cX8_pairs 5 (some .long) ∈ TB := TB_of (List.mem_of_getElem? (i := 900) (by decide +kernel)) (by decide +kernel)
theorem wd_897 : Cond.methodLink RX8 212 yX8_pairs ∈ TB := TB_of (List.mem_of_getElem? (i := 897) (by decide +kernel)) (by decide +kernel)
theorem wd_899 : Cond.instanceMethod yX8_pairs ∈ TB := TB_of (List.mem_of_getElem? (i := 899) (by decide +kernel)) (by decide +kernel)
theorem ws_26 : Cond.selects yX8_pairs.cls yX8_pairs yX8_pairs ∈ TB := TB_of (List.mem_of_getElem? (i := 26) (by decide +kernel)) (by decide +kernel)
theorem cs_X8_212 : SiV RX8 212 yX8_pairs cX8_pairs 5 (some .long) 1 7 := ⟨wd_900, Or.inl wd_897, wd_899, ws_26, wd_83, by decide +kernel, ⟨TX8, 39, rfl⟩, by decide, by decide⟩
theorem wd_886 : Cond.constantLong RX8 216 (15) ∈ TB := TB_of (List.mem_of_getElem? (i := 886) (by decide +kernel)) (by decide +kernel)
theorem wd_890 : Cond.constantLong RX8 218 (-1) ∈ TB := TB_of (List.mem_of_getElem? (i := 890) (by decide +kernel)) (by decide +kernel)
theorem wd_894 : Cond.code yX8_count0 cX8_count0 5 none ∈ TB := TB_of (List.mem_of_getElem? (i := 894) (by decide +kernel)) (by decide +kernel)
theorem wd_891 : Cond.methodLink RX8 220 yX8_count0 ∈ TB := TB_of (List.mem_of_getElem? (i := 891) (by decide +kernel)) (by decide +kernel)
theorem wd_893 : Cond.instanceMethod yX8_count0 ∈ TB := TB_of (List.mem_of_getElem? (i := 893) (by decide +kernel)) (by decide +kernel)
theorem ws_25 : Cond.selects yX8_count0.cls yX8_count0 yX8_count0 ∈ TB := TB_of (List.mem_of_getElem? (i := 25) (by decide +kernel)) (by decide +kernel)
theorem cs_X8_220 : SiV RX8 220 yX8_count0 cX8_count0 5 none 0 7 := ⟨wd_894, Or.inl wd_891, wd_893, ws_25, wd_83, by decide +kernel, ⟨TX8, 39, rfl⟩, by decide, by decide⟩
theorem wd_912 : Cond.code yX8_nth0 cX8_nth0 11 none ∈ TB := TB_of (List.mem_of_getElem? (i := 912) (by decide +kernel)) (by decide +kernel)
theorem wd_909 : Cond.methodLink RX8 223 yX8_nth0 ∈ TB := TB_of (List.mem_of_getElem? (i := 909) (by decide +kernel)) (by decide +kernel)
theorem wd_911 : Cond.instanceMethod yX8_nth0 ∈ TB := TB_of (List.mem_of_getElem? (i := 911) (by decide +kernel)) (by decide +kernel)
theorem ws_27 : Cond.selects yX8_nth0.cls yX8_nth0 yX8_nth0 ∈ TB := TB_of (List.mem_of_getElem? (i := 27) (by decide +kernel)) (by decide +kernel)
theorem cs_X8_223 : SiV RX8 223 yX8_nth0 cX8_nth0 11 none 2 7 := ⟨wd_912, Or.inl wd_909, wd_911, ws_27, wd_83, by decide +kernel, ⟨TX8, 39, rfl⟩, by decide, by decide⟩
theorem wd_913 : Cond.constantLong RX8 227 (3) ∈ TB := TB_of (List.mem_of_getElem? (i := 913) (by decide +kernel)) (by decide +kernel)
theorem wd_917 : Cond.code yX8_hand cX8_hand 3 none ∈ TB := TB_of (List.mem_of_getElem? (i := 917) (by decide +kernel)) (by decide +kernel)
theorem wd_914 : Cond.methodLink RX8 229 yX8_hand ∈ TB := TB_of (List.mem_of_getElem? (i := 914) (by decide +kernel)) (by decide +kernel)
theorem wd_916 : Cond.instanceMethod yX8_hand ∈ TB := TB_of (List.mem_of_getElem? (i := 916) (by decide +kernel)) (by decide +kernel)
theorem ws_28 : Cond.selects yX8_hand.cls yX8_hand yX8_hand ∈ TB := TB_of (List.mem_of_getElem? (i := 28) (by decide +kernel)) (by decide +kernel)
theorem cs_X8_229 : SiV RX8 229 yX8_hand cX8_hand 3 none 2 7 := ⟨wd_917, Or.inl wd_914, wd_916, ws_28, wd_83, by decide +kernel, ⟨TX8, 39, rfl⟩, by decide, by decide⟩
theorem wd_921 : Cond.code yX8_nthPair cX8_nthPair 7 none ∈ TB := TB_of (List.mem_of_getElem? (i := 921) (by decide +kernel)) (by decide +kernel)
theorem wd_918 : Cond.methodLink RX8 233 yX8_nthPair ∈ TB := TB_of (List.mem_of_getElem? (i := 918) (by decide +kernel)) (by decide +kernel)
theorem wd_920 : Cond.instanceMethod yX8_nthPair ∈ TB := TB_of (List.mem_of_getElem? (i := 920) (by decide +kernel)) (by decide +kernel)
theorem ws_29 : Cond.selects yX8_nthPair.cls yX8_nthPair yX8_nthPair ∈ TB := TB_of (List.mem_of_getElem? (i := 29) (by decide +kernel)) (by decide +kernel)
theorem cs_X8_233 : SiV RX8 233 yX8_nthPair cX8_nthPair 7 none 2 7 := ⟨wd_921, Or.inl wd_918, wd_920, ws_29, wd_83, by decide +kernel, ⟨TX8, 39, rfl⟩, by decide, by decide⟩
theorem wd_925 : Cond.code yX8_put cX8_put 3 (some .int) ∈ TB := TB_of (List.mem_of_getElem? (i := 925) (by decide +kernel)) (by decide +kernel)
theorem wd_922 : Cond.methodLink RX8 236 yX8_put ∈ TB := TB_of (List.mem_of_getElem? (i := 922) (by decide +kernel)) (by decide +kernel)
theorem wd_924 : Cond.instanceMethod yX8_put ∈ TB := TB_of (List.mem_of_getElem? (i := 924) (by decide +kernel)) (by decide +kernel)
theorem ws_30 : Cond.selects yX8_put.cls yX8_put yX8_put ∈ TB := TB_of (List.mem_of_getElem? (i := 30) (by decide +kernel)) (by decide +kernel)
theorem cs_X8_236 : SiV RX8 236 yX8_put cX8_put 3 (some .int) 1 7 := ⟨wd_925, Or.inl wd_922, wd_924, ws_30, wd_83, by decide +kernel, ⟨TX8, 39, rfl⟩, by decide, by decide⟩
theorem wd_958 : Cond.code yX8_rank cX8_rank 6 (some .long) ∈ TB := TB_of (List.mem_of_getElem? (i := 958) (by decide +kernel)) (by decide +kernel)
theorem wd_955 : Cond.methodLink RX8 239 yX8_rank ∈ TB := TB_of (List.mem_of_getElem? (i := 955) (by decide +kernel)) (by decide +kernel)
theorem wd_957 : Cond.instanceMethod yX8_rank ∈ TB := TB_of (List.mem_of_getElem? (i := 957) (by decide +kernel)) (by decide +kernel)
theorem ws_36 : Cond.selects yX8_rank.cls yX8_rank yX8_rank ∈ TB := TB_of (List.mem_of_getElem? (i := 36) (by decide +kernel)) (by decide +kernel)
theorem cs_X8_239 : SiV RX8 239 yX8_rank cX8_rank 6 (some .long) 1 7 := ⟨wd_958, Or.inl wd_955, wd_957, ws_36, wd_83, by decide +kernel, ⟨TX8, 39, rfl⟩, by decide, by decide⟩
theorem wd_962 : Cond.code yX8_pairRank cX8_pairRank 7 (some .long) ∈ TB := TB_of (List.mem_of_getElem? (i := 962) (by decide +kernel)) (by decide +kernel)
theorem wd_959 : Cond.methodLink RX8 242 yX8_pairRank ∈ TB := TB_of (List.mem_of_getElem? (i := 959) (by decide +kernel)) (by decide +kernel)
theorem wd_961 : Cond.instanceMethod yX8_pairRank ∈ TB := TB_of (List.mem_of_getElem? (i := 961) (by decide +kernel)) (by decide +kernel)
theorem ws_37 : Cond.selects yX8_pairRank.cls yX8_pairRank yX8_pairRank ∈ TB := TB_of (List.mem_of_getElem? (i := 37) (by decide +kernel)) (by decide +kernel)
theorem cs_X8_242 : SiV RX8 242 yX8_pairRank cX8_pairRank 7 (some .long) 2 7 := ⟨wd_962, Or.inl wd_959, wd_961, ws_37, wd_83, by decide +kernel, ⟨TX8, 39, rfl⟩, by decide, by decide⟩
theorem wd_933 : Cond.code yX8_has cX8_has 2 (some .boolean) ∈ TB := TB_of (List.mem_of_getElem? (i := 933) (by decide +kernel)) (by decide +kernel)
theorem wd_930 : Cond.methodLink RX8 246 yX8_has ∈ TB := TB_of (List.mem_of_getElem? (i := 930) (by decide +kernel)) (by decide +kernel)
theorem wd_932 : Cond.instanceMethod yX8_has ∈ TB := TB_of (List.mem_of_getElem? (i := 932) (by decide +kernel)) (by decide +kernel)
theorem ws_31 : Cond.selects yX8_has.cls yX8_has yX8_has ∈ TB := TB_of (List.mem_of_getElem? (i := 31) (by decide +kernel)) (by decide +kernel)
theorem cs_X8_246 : SiV RX8 246 yX8_has cX8_has 2 (some .boolean) 1 7 := ⟨wd_933, Or.inl wd_930, wd_932, ws_31, wd_83, by decide +kernel, ⟨TX8, 39, rfl⟩, by decide, by decide⟩
theorem wd_938 : Cond.constantLong RX8 249 (-2) ∈ TB := TB_of (List.mem_of_getElem? (i := 938) (by decide +kernel)) (by decide +kernel)
theorem wd_939 : Cond.constantLong RX8 251 (2) ∈ TB := TB_of (List.mem_of_getElem? (i := 939) (by decide +kernel)) (by decide +kernel)
theorem wd_967 : Cond.constantLong RX8 253 (8) ∈ TB := TB_of (List.mem_of_getElem? (i := 967) (by decide +kernel)) (by decide +kernel)
theorem wd_784 : Cond.fieldLink RX8 255 RX8 "trees" "I" ∈ TB := TB_of (List.mem_of_getElem? (i := 784) (by decide +kernel)) (by decide +kernel)
theorem fw_X8_255 : Fw RX8 255 7 RX8 TX8 39 20 0 := ⟨inTX8, rfl, by decide, Or.inl wd_784, rfl, by decide, rfl⟩
theorem wd_788 : Cond.fieldLink RX8 258 RX8 "piled" "I" ∈ TB := TB_of (List.mem_of_getElem? (i := 788) (by decide +kernel)) (by decide +kernel)
theorem fw_X8_258 : Fw RX8 258 7 RX8 TX8 39 24 0 := ⟨inTX8, rfl, by decide, Or.inl wd_788, rfl, by decide, rfl⟩
theorem fp_8_20 : Fp 7 20 RX8 TX8 39 tyX8 .int := ⟨tyX8_ok, nmX8, rfl, by decide +kernel⟩
theorem wd_785 : Cond.fieldLink RX8 47 RX8 "treeFrom" "[I" ∈ TB := TB_of (List.mem_of_getElem? (i := 785) (by decide +kernel)) (by decide +kernel)
theorem fw_X8_47 : Fw RX8 47 7 RX8 TX8 39 21 15 := ⟨inTX8, rfl, by decide, Or.inl wd_785, rfl, by decide, rfl⟩
theorem wd_786 : Cond.fieldLink RX8 50 RX8 "pileKind" "[I" ∈ TB := TB_of (List.mem_of_getElem? (i := 786) (by decide +kernel)) (by decide +kernel)
theorem fw_X8_50 : Fw RX8 50 7 RX8 TX8 39 22 16 := ⟨inTX8, rfl, by decide, Or.inl wd_786, rfl, by decide, rfl⟩
theorem wd_787 : Cond.fieldLink RX8 53 RX8 "pileVal" "[I" ∈ TB := TB_of (List.mem_of_getElem? (i := 787) (by decide +kernel)) (by decide +kernel)
theorem fw_X8_53 : Fw RX8 53 7 RX8 TX8 39 23 17 := ⟨inTX8, rfl, by decide, Or.inl wd_787, rfl, by decide, rfl⟩
theorem fp_8_24 : Fp 7 24 RX8 TX8 39 tyX8 .int := ⟨tyX8_ok, nmX8, rfl, by decide +kernel⟩
theorem wd_980 : Cond.constant RX8 261 (-2000000000) ∈ TB := TB_of (List.mem_of_getElem? (i := 980) (by decide +kernel)) (by decide +kernel)
theorem wd_984 : Cond.code yX8_endOf cX8_endOf 4 (some .int) ∈ TB := TB_of (List.mem_of_getElem? (i := 984) (by decide +kernel)) (by decide +kernel)
theorem wd_981 : Cond.methodLink RX8 262 yX8_endOf ∈ TB := TB_of (List.mem_of_getElem? (i := 981) (by decide +kernel)) (by decide +kernel)
theorem wd_983 : Cond.instanceMethod yX8_endOf ∈ TB := TB_of (List.mem_of_getElem? (i := 983) (by decide +kernel)) (by decide +kernel)
theorem ws_38 : Cond.selects yX8_endOf.cls yX8_endOf yX8_endOf ∈ TB := TB_of (List.mem_of_getElem? (i := 38) (by decide +kernel)) (by decide +kernel)
theorem cs_X8_262 : SiV RX8 262 yX8_endOf cX8_endOf 4 (some .int) 1 7 := ⟨wd_984, Or.inl wd_981, wd_983, ws_38, wd_83, by decide +kernel, ⟨TX8, 39, rfl⟩, by decide, by decide⟩
theorem wd_992 : Cond.code yX8_treeOf cX8_treeOf 2 (some .int) ∈ TB := TB_of (List.mem_of_getElem? (i := 992) (by decide +kernel)) (by decide +kernel)
theorem wd_989 : Cond.methodLink RX8 265 yX8_treeOf ∈ TB := TB_of (List.mem_of_getElem? (i := 989) (by decide +kernel)) (by decide +kernel)
theorem wd_991 : Cond.instanceMethod yX8_treeOf ∈ TB := TB_of (List.mem_of_getElem? (i := 991) (by decide +kernel)) (by decide +kernel)
theorem ws_39 : Cond.selects yX8_treeOf.cls yX8_treeOf yX8_treeOf ∈ TB := TB_of (List.mem_of_getElem? (i := 39) (by decide +kernel)) (by decide +kernel)
theorem cs_X8_265 : SiV RX8 265 yX8_treeOf cX8_treeOf 2 (some .int) 1 7 := ⟨wd_992, Or.inl wd_989, wd_991, ws_39, wd_83, by decide +kernel, ⟨TX8, 39, rfl⟩, by decide, by decide⟩
theorem wd_1008 : Cond.constantLong RX8 268 (6) ∈ TB := TB_of (List.mem_of_getElem? (i := 1008) (by decide +kernel)) (by decide +kernel)
theorem wd_1012 : Cond.code yX8_isSafe cX8_isSafe 6 (some .boolean) ∈ TB := TB_of (List.mem_of_getElem? (i := 1012) (by decide +kernel)) (by decide +kernel)
theorem wd_1009 : Cond.methodLink RX8 270 yX8_isSafe ∈ TB := TB_of (List.mem_of_getElem? (i := 1009) (by decide +kernel)) (by decide +kernel)
theorem wd_1011 : Cond.instanceMethod yX8_isSafe ∈ TB := TB_of (List.mem_of_getElem? (i := 1011) (by decide +kernel)) (by decide +kernel)
theorem ws_42 : Cond.selects yX8_isSafe.cls yX8_isSafe yX8_isSafe ∈ TB := TB_of (List.mem_of_getElem? (i := 42) (by decide +kernel)) (by decide +kernel)
theorem cs_X8_270 : SiV RX8 270 yX8_isSafe cX8_isSafe 6 (some .boolean) 2 7 := ⟨wd_1012, Or.inl wd_1009, wd_1011, ws_42, wd_83, by decide +kernel, ⟨TX8, 39, rfl⟩, by decide, by decide⟩
theorem wd_1028 : Cond.code yX8_shift cX8_shift 3 none ∈ TB := TB_of (List.mem_of_getElem? (i := 1028) (by decide +kernel)) (by decide +kernel)
theorem wd_1025 : Cond.methodLink RX8 273 yX8_shift ∈ TB := TB_of (List.mem_of_getElem? (i := 1025) (by decide +kernel)) (by decide +kernel)
theorem wd_1027 : Cond.instanceMethod yX8_shift ∈ TB := TB_of (List.mem_of_getElem? (i := 1027) (by decide +kernel)) (by decide +kernel)
theorem ws_45 : Cond.selects yX8_shift.cls yX8_shift yX8_shift ∈ TB := TB_of (List.mem_of_getElem? (i := 45) (by decide +kernel)) (by decide +kernel)
theorem cs_X8_273 : SiV RX8 273 yX8_shift cX8_shift 3 none 2 7 := ⟨wd_1028, Or.inl wd_1025, wd_1027, ws_45, wd_83, by decide +kernel, ⟨TX8, 39, rfl⟩, by decide, by decide⟩
theorem wd_789 : Cond.fieldLink RX8 56 RX8 "spareKind" "[I" ∈ TB := TB_of (List.mem_of_getElem? (i := 789) (by decide +kernel)) (by decide +kernel)
theorem fw_X8_56 : Fw RX8 56 7 RX8 TX8 39 25 18 := ⟨inTX8, rfl, by decide, Or.inl wd_789, rfl, by decide, rfl⟩
theorem wd_790 : Cond.fieldLink RX8 59 RX8 "spareVal" "[I" ∈ TB := TB_of (List.mem_of_getElem? (i := 790) (by decide +kernel)) (by decide +kernel)
theorem fw_X8_59 : Fw RX8 59 7 RX8 TX8 39 26 19 := ⟨inTX8, rfl, by decide, Or.inl wd_790, rfl, by decide, rfl⟩
theorem wd_1020 : Cond.code yX8_spare cX8_spare 4 none ∈ TB := TB_of (List.mem_of_getElem? (i := 1020) (by decide +kernel)) (by decide +kernel)
theorem wd_1017 : Cond.methodLink RX8 276 yX8_spare ∈ TB := TB_of (List.mem_of_getElem? (i := 1017) (by decide +kernel)) (by decide +kernel)
theorem wd_1019 : Cond.instanceMethod yX8_spare ∈ TB := TB_of (List.mem_of_getElem? (i := 1019) (by decide +kernel)) (by decide +kernel)
theorem ws_43 : Cond.selects yX8_spare.cls yX8_spare yX8_spare ∈ TB := TB_of (List.mem_of_getElem? (i := 43) (by decide +kernel)) (by decide +kernel)
theorem cs_X8_276 : SiV RX8 276 yX8_spare cX8_spare 4 none 2 7 := ⟨wd_1020, Or.inl wd_1017, wd_1019, ws_43, wd_83, by decide +kernel, ⟨TX8, 39, rfl⟩, by decide, by decide⟩
theorem wd_1024 : Cond.code yX8_splice cX8_splice 6 none ∈ TB := TB_of (List.mem_of_getElem? (i := 1024) (by decide +kernel)) (by decide +kernel)
theorem wd_1021 : Cond.methodLink RX8 279 yX8_splice ∈ TB := TB_of (List.mem_of_getElem? (i := 1021) (by decide +kernel)) (by decide +kernel)
theorem wd_1023 : Cond.instanceMethod yX8_splice ∈ TB := TB_of (List.mem_of_getElem? (i := 1023) (by decide +kernel)) (by decide +kernel)
theorem ws_44 : Cond.selects yX8_splice.cls yX8_splice yX8_splice ∈ TB := TB_of (List.mem_of_getElem? (i := 44) (by decide +kernel)) (by decide +kernel)
theorem cs_X8_279 : SiV RX8 279 yX8_splice cX8_splice 6 none 3 7 := ⟨wd_1024, Or.inl wd_1021, wd_1023, ws_44, wd_83, by decide +kernel, ⟨TX8, 39, rfl⟩, by decide, by decide⟩
theorem wd_791 : Cond.fieldLink RX8 283 RX8 "makers" "I" ∈ TB := TB_of (List.mem_of_getElem? (i := 791) (by decide +kernel)) (by decide +kernel)
theorem fw_X8_283 : Fw RX8 283 7 RX8 TX8 39 27 0 := ⟨inTX8, rfl, by decide, Or.inl wd_791, rfl, by decide, rfl⟩
theorem wd_1040 : Cond.code yX8_isMaker cX8_isMaker 2 (some .boolean) ∈ TB := TB_of (List.mem_of_getElem? (i := 1040) (by decide +kernel)) (by decide +kernel)
theorem wd_1037 : Cond.methodLink RX8 286 yX8_isMaker ∈ TB := TB_of (List.mem_of_getElem? (i := 1037) (by decide +kernel)) (by decide +kernel)
theorem wd_1039 : Cond.instanceMethod yX8_isMaker ∈ TB := TB_of (List.mem_of_getElem? (i := 1039) (by decide +kernel)) (by decide +kernel)
theorem ws_46 : Cond.selects yX8_isMaker.cls yX8_isMaker yX8_isMaker ∈ TB := TB_of (List.mem_of_getElem? (i := 46) (by decide +kernel)) (by decide +kernel)
theorem cs_X8_286 : SiV RX8 286 yX8_isMaker cX8_isMaker 2 (some .boolean) 1 7 := ⟨wd_1040, Or.inl wd_1037, wd_1039, ws_46, wd_83, by decide +kernel, ⟨TX8, 39, rfl⟩, by decide, by decide⟩
theorem wd_792 : Cond.fieldLink RX8 62 RX8 "turns" "[I" ∈ TB := TB_of (List.mem_of_getElem? (i := 792) (by decide +kernel)) (by decide +kernel)
theorem fw_X8_62 : Fw RX8 62 7 RX8 TX8 39 28 20 := ⟨inTX8, rfl, by decide, Or.inl wd_792, rfl, by decide, rfl⟩
theorem fp_8_27 : Fp 7 27 RX8 TX8 39 tyX8 .int := ⟨tyX8_ok, nmX8, rfl, by decide +kernel⟩
theorem wd_1048 : Cond.code yX8_isTurn cX8_isTurn 3 (some .boolean) ∈ TB := TB_of (List.mem_of_getElem? (i := 1048) (by decide +kernel)) (by decide +kernel)
theorem wd_1045 : Cond.methodLink RX8 289 yX8_isTurn ∈ TB := TB_of (List.mem_of_getElem? (i := 1045) (by decide +kernel)) (by decide +kernel)
theorem wd_1047 : Cond.instanceMethod yX8_isTurn ∈ TB := TB_of (List.mem_of_getElem? (i := 1047) (by decide +kernel)) (by decide +kernel)
theorem ws_47 : Cond.selects yX8_isTurn.cls yX8_isTurn yX8_isTurn ∈ TB := TB_of (List.mem_of_getElem? (i := 47) (by decide +kernel)) (by decide +kernel)
theorem cs_X8_289 : SiV RX8 289 yX8_isTurn cX8_isTurn 3 (some .boolean) 2 7 := ⟨wd_1048, Or.inl wd_1045, wd_1047, ws_47, wd_83, by decide +kernel, ⟨TX8, 39, rfl⟩, by decide, by decide⟩
theorem wd_1056 : Cond.code yX8_madeBy cX8_madeBy 6 (some .int) ∈ TB := TB_of (List.mem_of_getElem? (i := 1056) (by decide +kernel)) (by decide +kernel)
theorem wd_1053 : Cond.methodLink RX8 292 yX8_madeBy ∈ TB := TB_of (List.mem_of_getElem? (i := 1053) (by decide +kernel)) (by decide +kernel)
theorem wd_1055 : Cond.instanceMethod yX8_madeBy ∈ TB := TB_of (List.mem_of_getElem? (i := 1055) (by decide +kernel)) (by decide +kernel)
theorem ws_48 : Cond.selects yX8_madeBy.cls yX8_madeBy yX8_madeBy ∈ TB := TB_of (List.mem_of_getElem? (i := 48) (by decide +kernel)) (by decide +kernel)
theorem cs_X8_292 : SiV RX8 292 yX8_madeBy cX8_madeBy 6 (some .int) 3 7 := ⟨wd_1056, Or.inl wd_1053, wd_1055, ws_48, wd_83, by decide +kernel, ⟨TX8, 39, rfl⟩, by decide, by decide⟩
theorem wd_795 : Cond.fieldLink RX8 295 RX8 "foundSize" "I" ∈ TB := TB_of (List.mem_of_getElem? (i := 795) (by decide +kernel)) (by decide +kernel)
theorem fw_X8_295 : Fw RX8 295 7 RX8 TX8 39 31 0 := ⟨inTX8, rfl, by decide, Or.inl wd_795, rfl, by decide, rfl⟩
theorem fp_8_31 : Fp 7 31 RX8 TX8 39 tyX8 .int := ⟨tyX8_ok, nmX8, rfl, by decide +kernel⟩
theorem wd_796 : Cond.fieldLink RX8 71 RX8 "foundKind" "[I" ∈ TB := TB_of (List.mem_of_getElem? (i := 796) (by decide +kernel)) (by decide +kernel)
theorem fw_X8_71 : Fw RX8 71 7 RX8 TX8 39 32 23 := ⟨inTX8, rfl, by decide, Or.inl wd_796, rfl, by decide, rfl⟩
theorem wd_797 : Cond.fieldLink RX8 74 RX8 "foundVal" "[I" ∈ TB := TB_of (List.mem_of_getElem? (i := 797) (by decide +kernel)) (by decide +kernel)
theorem fw_X8_74 : Fw RX8 74 7 RX8 TX8 39 33 24 := ⟨inTX8, rfl, by decide, Or.inl wd_797, rfl, by decide, rfl⟩
theorem wd_798 : Cond.fieldLink RX8 77 RX8 "foundNodes" "[I" ∈ TB := TB_of (List.mem_of_getElem? (i := 798) (by decide +kernel)) (by decide +kernel)
theorem fw_X8_77 : Fw RX8 77 7 RX8 TX8 39 34 25 := ⟨inTX8, rfl, by decide, Or.inl wd_798, rfl, by decide, rfl⟩
theorem wd_1144 : Cond.code yX8_firesOf cX8_firesOf 5 (some .int) ∈ TB := TB_of (List.mem_of_getElem? (i := 1144) (by decide +kernel)) (by decide +kernel)
theorem wd_1141 : Cond.methodLink RX8 298 yX8_firesOf ∈ TB := TB_of (List.mem_of_getElem? (i := 1141) (by decide +kernel)) (by decide +kernel)
theorem wd_1143 : Cond.instanceMethod yX8_firesOf ∈ TB := TB_of (List.mem_of_getElem? (i := 1143) (by decide +kernel)) (by decide +kernel)
theorem ws_66 : Cond.selects yX8_firesOf.cls yX8_firesOf yX8_firesOf ∈ TB := TB_of (List.mem_of_getElem? (i := 66) (by decide +kernel)) (by decide +kernel)
theorem cs_X8_298 : SiV RX8 298 yX8_firesOf cX8_firesOf 5 (some .int) 3 7 := ⟨wd_1144, Or.inl wd_1141, wd_1143, ws_66, wd_83, by decide +kernel, ⟨TX8, 39, rfl⟩, by decide, by decide⟩
theorem wd_1156 : Cond.code yX8_isOther cX8_isOther 7 (some .boolean) ∈ TB := TB_of (List.mem_of_getElem? (i := 1156) (by decide +kernel)) (by decide +kernel)
theorem wd_1153 : Cond.methodLink RX8 301 yX8_isOther ∈ TB := TB_of (List.mem_of_getElem? (i := 1153) (by decide +kernel)) (by decide +kernel)
theorem wd_1155 : Cond.instanceMethod yX8_isOther ∈ TB := TB_of (List.mem_of_getElem? (i := 1155) (by decide +kernel)) (by decide +kernel)
theorem ws_67 : Cond.selects yX8_isOther.cls yX8_isOther yX8_isOther ∈ TB := TB_of (List.mem_of_getElem? (i := 67) (by decide +kernel)) (by decide +kernel)
theorem cs_X8_301 : SiV RX8 301 yX8_isOther cX8_isOther 7 (some .boolean) 4 7 := ⟨wd_1156, Or.inl wd_1153, wd_1155, ws_67, wd_83, by decide +kernel, ⟨TX8, 39, rfl⟩, by decide, by decide⟩
theorem wd_1164 : Cond.code yX8_firstOf cX8_firstOf 7 (some .int) ∈ TB := TB_of (List.mem_of_getElem? (i := 1164) (by decide +kernel)) (by decide +kernel)
theorem wd_1161 : Cond.methodLink RX8 305 yX8_firstOf ∈ TB := TB_of (List.mem_of_getElem? (i := 1161) (by decide +kernel)) (by decide +kernel)
theorem wd_1163 : Cond.instanceMethod yX8_firstOf ∈ TB := TB_of (List.mem_of_getElem? (i := 1163) (by decide +kernel)) (by decide +kernel)
theorem ws_68 : Cond.selects yX8_firstOf.cls yX8_firstOf yX8_firstOf ∈ TB := TB_of (List.mem_of_getElem? (i := 68) (by decide +kernel)) (by decide +kernel)
theorem cs_X8_305 : SiV RX8 305 yX8_firstOf cX8_firstOf 7 (some .int) 3 7 := ⟨wd_1164, Or.inl wd_1161, wd_1163, ws_68, wd_83, by decide +kernel, ⟨TX8, 39, rfl⟩, by decide, by decide⟩
theorem wd_802 : Cond.fieldLink RX8 308 RX8 "fullSize" "I" ∈ TB := TB_of (List.mem_of_getElem? (i := 802) (by decide +kernel)) (by decide +kernel)
theorem fw_X8_308 : Fw RX8 308 7 RX8 TX8 39 38 0 := ⟨inTX8, rfl, by decide, Or.inl wd_802, rfl, by decide, rfl⟩
theorem fp_8_38 : Fp 7 38 RX8 TX8 39 tyX8 .int := ⟨tyX8_ok, nmX8, rfl, by decide +kernel⟩
theorem wd_800 : Cond.fieldLink RX8 84 RX8 "fullKind" "[I" ∈ TB := TB_of (List.mem_of_getElem? (i := 800) (by decide +kernel)) (by decide +kernel)
theorem fw_X8_84 : Fw RX8 84 7 RX8 TX8 39 36 26 := ⟨inTX8, rfl, by decide, Or.inl wd_800, rfl, by decide, rfl⟩
theorem wd_801 : Cond.fieldLink RX8 87 RX8 "fullVal" "[I" ∈ TB := TB_of (List.mem_of_getElem? (i := 801) (by decide +kernel)) (by decide +kernel)
theorem fw_X8_87 : Fw RX8 87 7 RX8 TX8 39 37 27 := ⟨inTX8, rfl, by decide, Or.inl wd_801, rfl, by decide, rfl⟩
theorem wd_1184 : Cond.code yX8_remember cX8_remember 2 none ∈ TB := TB_of (List.mem_of_getElem? (i := 1184) (by decide +kernel)) (by decide +kernel)
theorem wd_1181 : Cond.methodLink RX8 311 yX8_remember ∈ TB := TB_of (List.mem_of_getElem? (i := 1181) (by decide +kernel)) (by decide +kernel)
theorem wd_1183 : Cond.instanceMethod yX8_remember ∈ TB := TB_of (List.mem_of_getElem? (i := 1183) (by decide +kernel)) (by decide +kernel)
theorem ws_71 : Cond.selects yX8_remember.cls yX8_remember yX8_remember ∈ TB := TB_of (List.mem_of_getElem? (i := 71) (by decide +kernel)) (by decide +kernel)
theorem cs_X8_311 : SiV RX8 311 yX8_remember cX8_remember 2 none 0 7 := ⟨wd_1184, Or.inl wd_1181, wd_1183, ws_71, wd_83, by decide +kernel, ⟨TX8, 39, rfl⟩, by decide, by decide⟩
theorem wd_1188 : Cond.code yX8_step cX8_step 6 (some .boolean) ∈ TB := TB_of (List.mem_of_getElem? (i := 1188) (by decide +kernel)) (by decide +kernel)
theorem wd_1185 : Cond.methodLink RX8 314 yX8_step ∈ TB := TB_of (List.mem_of_getElem? (i := 1185) (by decide +kernel)) (by decide +kernel)
theorem wd_1187 : Cond.instanceMethod yX8_step ∈ TB := TB_of (List.mem_of_getElem? (i := 1187) (by decide +kernel)) (by decide +kernel)
theorem ws_72 : Cond.selects yX8_step.cls yX8_step yX8_step ∈ TB := TB_of (List.mem_of_getElem? (i := 72) (by decide +kernel)) (by decide +kernel)
theorem cs_X8_314 : SiV RX8 314 yX8_step cX8_step 6 (some .boolean) 2 7 := ⟨wd_1188, Or.inl wd_1185, wd_1187, ws_72, wd_83, by decide +kernel, ⟨TX8, 39, rfl⟩, by decide, by decide⟩
theorem wd_1176 : Cond.code yX8_isShown cX8_isShown 4 (some .boolean) ∈ TB := TB_of (List.mem_of_getElem? (i := 1176) (by decide +kernel)) (by decide +kernel)
theorem wd_1173 : Cond.methodLink RX8 317 yX8_isShown ∈ TB := TB_of (List.mem_of_getElem? (i := 1173) (by decide +kernel)) (by decide +kernel)
theorem wd_1175 : Cond.instanceMethod yX8_isShown ∈ TB := TB_of (List.mem_of_getElem? (i := 1175) (by decide +kernel)) (by decide +kernel)
theorem ws_69 : Cond.selects yX8_isShown.cls yX8_isShown yX8_isShown ∈ TB := TB_of (List.mem_of_getElem? (i := 69) (by decide +kernel)) (by decide +kernel)
theorem cs_X8_317 : SiV RX8 317 yX8_isShown cX8_isShown 4 (some .boolean) 2 7 := ⟨wd_1176, Or.inl wd_1173, wd_1175, ws_69, wd_83, by decide +kernel, ⟨TX8, 39, rfl⟩, by decide, by decide⟩
theorem wd_1192 : Cond.code yX8_recall cX8_recall 2 none ∈ TB := TB_of (List.mem_of_getElem? (i := 1192) (by decide +kernel)) (by decide +kernel)
theorem wd_1189 : Cond.methodLink RX8 320 yX8_recall ∈ TB := TB_of (List.mem_of_getElem? (i := 1189) (by decide +kernel)) (by decide +kernel)
theorem wd_1191 : Cond.instanceMethod yX8_recall ∈ TB := TB_of (List.mem_of_getElem? (i := 1191) (by decide +kernel)) (by decide +kernel)
theorem ws_73 : Cond.selects yX8_recall.cls yX8_recall yX8_recall ∈ TB := TB_of (List.mem_of_getElem? (i := 73) (by decide +kernel)) (by decide +kernel)
theorem cs_X8_320 : SiV RX8 320 yX8_recall cX8_recall 2 none 0 7 := ⟨wd_1192, Or.inl wd_1189, wd_1191, ws_73, wd_83, by decide +kernel, ⟨TX8, 39, rfl⟩, by decide, by decide⟩
theorem wd_799 : Cond.fieldLink RX8 80 RX8 "steps" "I" ∈ TB := TB_of (List.mem_of_getElem? (i := 799) (by decide +kernel)) (by decide +kernel)
theorem fw_X8_80 : Fw RX8 80 7 RX8 TX8 39 35 0 := ⟨inTX8, rfl, by decide, Or.inl wd_799, rfl, by decide, rfl⟩
theorem fp_8_35 : Fp 7 35 RX8 TX8 39 tyX8 .int := ⟨tyX8_ok, nmX8, rfl, by decide +kernel⟩
theorem wd_1180 : Cond.code yX8_makeSmaller cX8_makeSmaller 5 (some .boolean) ∈ TB := TB_of (List.mem_of_getElem? (i := 1180) (by decide +kernel)) (by decide +kernel)
theorem wd_1177 : Cond.methodLink RX8 323 yX8_makeSmaller ∈ TB := TB_of (List.mem_of_getElem? (i := 1177) (by decide +kernel)) (by decide +kernel)
theorem wd_1179 : Cond.instanceMethod yX8_makeSmaller ∈ TB := TB_of (List.mem_of_getElem? (i := 1179) (by decide +kernel)) (by decide +kernel)
theorem ws_70 : Cond.selects yX8_makeSmaller.cls yX8_makeSmaller yX8_makeSmaller ∈ TB := TB_of (List.mem_of_getElem? (i := 70) (by decide +kernel)) (by decide +kernel)
theorem cs_X8_323 : SiV RX8 323 yX8_makeSmaller cX8_makeSmaller 5 (some .boolean) 2 7 := ⟨wd_1180, Or.inl wd_1177, wd_1179, ws_70, wd_83, by decide +kernel, ⟨TX8, 39, rfl⟩, by decide, by decide⟩
theorem wd_1204 : Cond.code yX8_nthTree cX8_nthTree 4 (some .int) ∈ TB := TB_of (List.mem_of_getElem? (i := 1204) (by decide +kernel)) (by decide +kernel)
theorem wd_1201 : Cond.methodLink RX8 326 yX8_nthTree ∈ TB := TB_of (List.mem_of_getElem? (i := 1201) (by decide +kernel)) (by decide +kernel)
theorem wd_1203 : Cond.instanceMethod yX8_nthTree ∈ TB := TB_of (List.mem_of_getElem? (i := 1203) (by decide +kernel)) (by decide +kernel)
theorem ws_74 : Cond.selects yX8_nthTree.cls yX8_nthTree yX8_nthTree ∈ TB := TB_of (List.mem_of_getElem? (i := 74) (by decide +kernel)) (by decide +kernel)
theorem cs_X8_326 : SiV RX8 326 yX8_nthTree cX8_nthTree 4 (some .int) 2 7 := ⟨wd_1204, Or.inl wd_1201, wd_1203, ws_74, wd_83, by decide +kernel, ⟨TX8, 39, rfl⟩, by decide, by decide⟩
theorem wd_1205 : Cond.constantLong RX8 330 (16) ∈ TB := TB_of (List.mem_of_getElem? (i := 1205) (by decide +kernel)) (by decide +kernel)
theorem wd_1206 : Cond.constantLong RX8 332 (-5) ∈ TB := TB_of (List.mem_of_getElem? (i := 1206) (by decide +kernel)) (by decide +kernel)
