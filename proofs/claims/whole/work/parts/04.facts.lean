theorem igX7 : ∀ w ∈ u_ws RX7 TX7 6, w ∈ lw_g := lw_ins inX7 (by decide +kernel)
theorem ci_0 : Int32.ofInt 0 = 0 := by decide +kernel
theorem ci_2 : Int32.ofInt 2 = 2 := by decide +kernel
theorem ci_4 : Int32.ofInt 4 = 4 := by decide +kernel
theorem ci_1 : Int32.ofInt 1 = 1 := by decide +kernel
theorem igX4 : ∀ w ∈ u_ws RX4 TX4 5, w ∈ lw_g := lw_ins inX4 (by decide +kernel)
theorem ci_3 : Int32.ofInt 3 = 3 := by decide +kernel
theorem ci_5 : Int32.ofInt 5 = 5 := by decide +kernel
theorem igX0 : ∀ w ∈ u_ws RX0 TX0 10, w ∈ lw_g := lw_ins inX0 (by decide +kernel)
theorem cb_m9 : (Int8.ofInt (-9)).toInt32 = (-9) := by decide +kernel
theorem igX1 : ∀ w ∈ u_ws RX1 TX1 2, w ∈ lw_g := lw_ins inX1 (by decide +kernel)
theorem cb_72 : (Int8.ofInt 72).toInt32 = 72 := by decide +kernel
theorem cb_7 : (Int8.ofInt 7).toInt32 = 7 := by decide +kernel
theorem cb_59 : (Int8.ofInt 59).toInt32 = 59 := by decide +kernel
theorem cb_48 : (Int8.ofInt 48).toInt32 = 48 := by decide +kernel
theorem cb_57 : (Int8.ofInt 57).toInt32 = 57 := by decide +kernel
theorem ci_m1 : Int32.ofInt (-1) = (-1) := by decide +kernel
theorem cb_10 : (Int8.ofInt 10).toInt32 = 10 := by decide +kernel
theorem cb_60 : (Int8.ofInt 60).toInt32 = 60 := by decide +kernel
theorem cb_m2 : (Int8.ofInt (-2)).toInt32 = (-2) := by decide +kernel
theorem cb_6 : (Int8.ofInt 6).toInt32 = 6 := by decide +kernel
theorem cb_m4 : (Int8.ofInt (-4)).toInt32 = (-4) := by decide +kernel
theorem cb_9 : (Int8.ofInt 9).toInt32 = 9 := by decide +kernel
theorem cb_m6 : (Int8.ofInt (-6)).toInt32 = (-6) := by decide +kernel
theorem cs_9999 : (Int16.ofInt 9999).toInt32 = 9999 := by decide +kernel
theorem cb_40 : (Int8.ofInt 40).toInt32 = 40 := by decide +kernel
theorem cb_64 : (Int8.ofInt 64).toInt32 = 64 := by decide +kernel
theorem cs_256 : (Int16.ofInt 256).toInt32 = 256 := by decide +kernel
theorem igX3 : ∀ w ∈ u_ws RX3 TX3 3, w ∈ lw_g := lw_ins inX3 (by decide +kernel)
theorem cb_8 : (Int8.ofInt 8).toInt32 = 8 := by decide +kernel
theorem igX5 : ∀ w ∈ u_ws RX5 TX5 2, w ∈ lw_g := lw_ins inX5 (by decide +kernel)
theorem igX6 : ∀ w ∈ u_ws RX6 TX6 7, w ∈ lw_g := lw_ins inX6 (by decide +kernel)
theorem cb_100 : (Int8.ofInt 100).toInt32 = 100 := by decide +kernel
theorem cs_900 : (Int16.ofInt 900).toInt32 = 900 := by decide +kernel
theorem igX8 : ∀ w ∈ u_ws RX8 TX8 12, w ∈ lw_g := lw_ins inX8 (by decide +kernel)
theorem cs_255 : (Int16.ofInt 255).toInt32 = 255 := by decide +kernel
theorem cs_m1000 : (Int16.ofInt (-1000)).toInt32 = (-1000) := by decide +kernel
theorem cs_m2000 : (Int16.ofInt (-2000)).toInt32 = (-2000) := by decide +kernel
theorem cb_m3 : (Int8.ofInt (-3)).toInt32 = (-3) := by decide +kernel
theorem cs_200 : (Int16.ofInt 200).toInt32 = 200 := by decide +kernel
theorem cb_m11 : (Int8.ofInt (-11)).toInt32 = (-11) := by decide +kernel
theorem cb_50 : (Int8.ofInt 50).toInt32 = 50 := by decide +kernel
theorem cb_m14 : (Int8.ofInt (-14)).toInt32 = (-14) := by decide +kernel
theorem cb_m13 : (Int8.ofInt (-13)).toInt32 = (-13) := by decide +kernel
theorem cb_16 : (Int8.ofInt 16).toInt32 = 16 := by decide +kernel
theorem igX9 : ∀ w ∈ u_ws RX9 TX9 38, w ∈ lw_g := lw_ins inX9 (by decide +kernel)
theorem cb_14 : (Int8.ofInt 14).toInt32 = 14 := by decide +kernel
theorem cb_20 : (Int8.ofInt 20).toInt32 = 20 := by decide +kernel
theorem cb_26 : (Int8.ofInt 26).toInt32 = 26 := by decide +kernel
theorem cb_32 : (Int8.ofInt 32).toInt32 = 32 := by decide +kernel
theorem cb_38 : (Int8.ofInt 38).toInt32 = 38 := by decide +kernel
theorem cb_98 : (Int8.ofInt 98).toInt32 = 98 := by decide +kernel
theorem cs_1000 : (Int16.ofInt 1000).toInt32 = 1000 := by decide +kernel
theorem cs_132 : (Int16.ofInt 132).toInt32 = 132 := by decide +kernel
theorem cs_1056 : (Int16.ofInt 1056).toInt32 = 1056 := by decide +kernel
theorem cb_12 : (Int8.ofInt 12).toInt32 = 12 := by decide +kernel
theorem cb_99 : (Int8.ofInt 99).toInt32 = 99 := by decide +kernel
theorem cb_11 : (Int8.ofInt 11).toInt32 = 11 := by decide +kernel
theorem fi_X7_18 : FI RX7 18 6 0 := ⟨RX7, TX7, 6, tyX7, rfl, igX7, by decide, lw_in 88 (by decide +kernel) rfl, tyX7_ok, nmX7⟩
theorem sh_6_0 {q : Nat} (h : kd q = 6) : rf q 0 = none ∧ 0 < ln q ∧ 6 < 9 := (by decide +kernel : ∀ q, q < NC → kd q = 6 → rf q 0 = none ∧ 0 < ln q ∧ 6 < 9) q (kd_lt h (by decide)) h
theorem fi_X4_82 : FI RX4 82 6 2 := ⟨RX7, TX7, 6, tyX7, rfl, igX7, by decide, lw_in 96 (by decide +kernel) rfl, tyX7_ok, nmX7⟩
theorem sh_6_2 {q : Nat} (h : kd q = 6) : rf q 2 = none ∧ 2 < ln q ∧ 6 < 9 := (by decide +kernel : ∀ q, q < NC → kd q = 6 → rf q 2 = none ∧ 2 < ln q ∧ 6 < 9) q (kd_lt h (by decide)) h
theorem cw_X2_modulo : CWs yX2_modulo cX2_modulo 3 (some .int) 2 := ⟨⟨lw_in 421 (by decide +kernel) rfl, lw_in 65 (by decide +kernel) rfl, by decide +kernel, by decide⟩, lw_in 420 (by decide +kernel) rfl⟩
theorem ml_X4_68 : Cond.methodLink RX4 68 yX2_modulo ∈ lw_g := lw_in 419 (by decide +kernel) rfl
theorem fi_X4_42 : FI RX4 42 6 1 := ⟨RX7, TX7, 6, tyX7, rfl, igX7, by decide, lw_in 92 (by decide +kernel) rfl, tyX7_ok, nmX7⟩
theorem sh_6_1 {q : Nat} (h : kd q = 6) : rf q 1 = none ∧ 1 < ln q ∧ 6 < 9 := (by decide +kernel : ∀ q, q < NC → kd q = 6 → rf q 1 = none ∧ 1 < ln q ∧ 6 < 9) q (kd_lt h (by decide)) h
theorem fi_X4_9 : FI RX4 9 3 0 := ⟨RX4, TX4, 5, tyX4, rfl, igX4, by decide, lw_in 123 (by decide +kernel) rfl, tyX4_ok, nmX4⟩
theorem sh_3_0 {q : Nat} (h : kd q = 3) : rf q 0 = none ∧ 0 < ln q ∧ 3 < 9 := (by decide +kernel : ∀ q, q < NC → kd q = 3 → rf q 0 = none ∧ 0 < ln q ∧ 3 < 9) q (kd_lt h (by decide)) h
theorem fi_X4_19 : FI RX4 19 3 3 := ⟨RX4, TX4, 5, tyX4, rfl, igX4, by decide, lw_in 131 (by decide +kernel) rfl, tyX4_ok, nmX4⟩
theorem sh_3_3 {q : Nat} (h : kd q = 3) : (rf q 3 = some (rid q 3) ∧ 3 < ln q ∧ 3 < 9) ∧ kd (rid q 3) = 9 := (by decide +kernel : ∀ q, q < NC → kd q = 3 → (rf q 3 = some (rid q 3) ∧ 3 < ln q ∧ 3 < 9) ∧ kd (rid q 3) = 9) q (kd_lt h (by decide)) h
theorem fi_X4_65 : FI RX4 65 6 0 := ⟨RX7, TX7, 6, tyX7, rfl, igX7, by decide, lw_in 90 (by decide +kernel) rfl, tyX7_ok, nmX7⟩
theorem cw_X4_slipped : CWv yX4_slipped cX4_slipped 4 (some .int) 2 := ⟨⟨lw_in 425 (by decide +kernel) rfl, lw_in 55 (by decide +kernel) rfl, by decide +kernel, by decide⟩, lw_in 424 (by decide +kernel) rfl, lw_in 3 (by decide +kernel) rfl⟩
theorem ml_X4_74 : Cond.methodLink RX4 74 yX4_slipped ∈ lw_g := lw_in 422 (by decide +kernel) rfl
theorem cw_X4_unwornFrom : CWv yX4_unwornFrom cX4_unwornFrom 4 (some .int) 1 := ⟨⟨lw_in 429 (by decide +kernel) rfl, lw_in 55 (by decide +kernel) rfl, by decide +kernel, by decide⟩, lw_in 428 (by decide +kernel) rfl, lw_in 4 (by decide +kernel) rfl⟩
theorem ml_X4_78 : Cond.methodLink RX4 78 yX4_unwornFrom ∈ lw_g := lw_in 426 (by decide +kernel) rfl
theorem ml_X7_34 : Cond.methodLink RX7 34 yX2_modulo ∈ lw_g := lw_in 535 (by decide +kernel) rfl
theorem fi_X0_24 : FI RX0 24 0 9 := ⟨RX0, TX0, 10, tyX0, rfl, igX0, by decide, lw_in 200 (by decide +kernel) rfl, tyX0_ok, nmX0⟩
theorem sh_0_9 {q : Nat} (h : kd q = 0) : (rf q 9 = some (rid q 9) ∧ 9 < ln q ∧ 0 < 9) ∧ kd (rid q 9) = 11 := (by decide +kernel : ∀ q, q < NC → kd q = 0 → (rf q 9 = some (rid q 9) ∧ 9 < ln q ∧ 0 < 9) ∧ kd (rid q 9) = 11) q (kd_lt h (by decide)) h
theorem ml_X0_80 : Cond.methodLink RX0 80 yJ9_min_7cf53 ∈ lw_g := lw_in 544 (by decide +kernel) rfl
theorem ml_X0_86 : Cond.methodLink RX0 86 yJ9_max_7cf53 ∈ lw_g := lw_in 545 (by decide +kernel) rfl
theorem cw_X0_isLink : CWv yX0_isLink cX0_isLink 3 (some .boolean) 2 := ⟨⟨lw_in 543 (by decide +kernel) rfl, lw_in 59 (by decide +kernel) rfl, by decide +kernel, by decide⟩, lw_in 542 (by decide +kernel) rfl, lw_in 7 (by decide +kernel) rfl⟩
theorem ml_X0_76 : Cond.methodLink RX0 76 yX0_isLink ∈ lw_g := lw_in 540 (by decide +kernel) rfl
theorem fi_X0_46 : FI RX0 46 0 4 := ⟨RX0, TX0, 10, tyX0, rfl, igX0, by decide, lw_in 194 (by decide +kernel) rfl, tyX0_ok, nmX0⟩
theorem sh_0_4 {q : Nat} (h : kd q = 0) : rf q 4 = none ∧ 4 < ln q ∧ 0 < 9 := (by decide +kernel : ∀ q, q < NC → kd q = 0 → rf q 4 = none ∧ 4 < ln q ∧ 0 < 9) q (kd_lt h (by decide)) h
theorem fw_0_4 (v : Int32) : FW 0 4 v := ⟨RX0, TX0, 10, .int, rfl, rfl, by decide +kernel, rfl, rfl⟩
theorem fi_X0_28 : FI RX0 28 3 0 := ⟨RX4, TX4, 5, tyX4, rfl, igX4, by decide, lw_in 124 (by decide +kernel) rfl, tyX4_ok, nmX4⟩
theorem fi_X0_34 : FI RX0 34 0 0 := ⟨RX0, TX0, 10, tyX0, rfl, igX0, by decide, lw_in 188 (by decide +kernel) rfl, tyX0_ok, nmX0⟩
theorem sh_0_0 {q : Nat} (h : kd q = 0) : rf q 0 = none ∧ 0 < ln q ∧ 0 < 9 := (by decide +kernel : ∀ q, q < NC → kd q = 0 → rf q 0 = none ∧ 0 < ln q ∧ 0 < 9) q (kd_lt h (by decide)) h
theorem fw_0_0 (v : Int32) : FW 0 0 v := ⟨RX0, TX0, 10, .int, rfl, rfl, by decide +kernel, rfl, rfl⟩
theorem cw_X7_side : CWv yX7_side cX7_side 1 (some .int) 0 := ⟨⟨lw_in 457 (by decide +kernel) rfl, lw_in 56 (by decide +kernel) rfl, by decide +kernel, by decide⟩, lw_in 455 (by decide +kernel) rfl, lw_in 456 (by decide +kernel) rfl⟩
theorem ml_X0_35 : Cond.methodLink RX0 35 yX7_side ∈ lw_g := lw_in 525 (by decide +kernel) rfl
theorem fi_X0_41 : FI RX0 41 0 1 := ⟨RX0, TX0, 10, tyX0, rfl, igX0, by decide, lw_in 189 (by decide +kernel) rfl, tyX0_ok, nmX0⟩
theorem sh_0_1 {q : Nat} (h : kd q = 0) : rf q 1 = none ∧ 1 < ln q ∧ 0 < 9 := (by decide +kernel : ∀ q, q < NC → kd q = 0 → rf q 1 = none ∧ 1 < ln q ∧ 0 < 9) q (kd_lt h (by decide)) h
theorem fw_0_1 (v : Int32) : FW 0 1 v := ⟨RX0, TX0, 10, .int, rfl, rfl, by decide +kernel, rfl, rfl⟩
theorem fi_X0_43 : FI RX0 43 0 2 := ⟨RX0, TX0, 10, tyX0, rfl, igX0, by decide, lw_in 190 (by decide +kernel) rfl, tyX0_ok, nmX0⟩
theorem sh_0_2 {q : Nat} (h : kd q = 0) : rf q 2 = none ∧ 2 < ln q ∧ 0 < 9 := (by decide +kernel : ∀ q, q < NC → kd q = 0 → rf q 2 = none ∧ 2 < ln q ∧ 0 < 9) q (kd_lt h (by decide)) h
theorem fw_0_2 (v : Int32) : FW 0 2 v := ⟨RX0, TX0, 10, .int, rfl, rfl, by decide +kernel, rfl, rfl⟩
theorem fi_X0_21 : FI RX0 21 0 8 := ⟨RX0, TX0, 10, tyX0, rfl, igX0, by decide, lw_in 199 (by decide +kernel) rfl, tyX0_ok, nmX0⟩
theorem sh_0_8 {q : Nat} (h : kd q = 0) : (rf q 8 = some (rid q 8) ∧ 8 < ln q ∧ 0 < 9) ∧ kd (rid q 8) = 9 := (by decide +kernel : ∀ q, q < NC → kd q = 0 → (rf q 8 = some (rid q 8) ∧ 8 < ln q ∧ 0 < 9) ∧ kd (rid q 8) = 9) q (kd_lt h (by decide)) h
theorem cw_J7_fill_53178 : CWs yJ7_fill_53178 cJ7_fill_53178 4 none 2 := ⟨⟨lw_in 375 (by decide +kernel) rfl, lw_in 64 (by decide +kernel) rfl, by decide +kernel, by decide⟩, lw_in 374 (by decide +kernel) rfl⟩
theorem ml_X0_49 : Cond.methodLink RX0 49 yJ7_fill_53178 ∈ lw_g := lw_in 526 (by decide +kernel) rfl
theorem cw_J7_fill_d0a16 : CWs yJ7_fill_d0a16 cJ7_fill_d0a16 5 none 2 := ⟨⟨lw_in 529 (by decide +kernel) rfl, lw_in 64 (by decide +kernel) rfl, by decide +kernel, by decide⟩, lw_in 528 (by decide +kernel) rfl⟩
theorem ml_X0_55 : Cond.methodLink RX0 55 yJ7_fill_d0a16 ∈ lw_g := lw_in 527 (by decide +kernel) rfl
theorem fi_X0_58 : FI RX0 58 6 4 := ⟨RX7, TX7, 6, tyX7, rfl, igX7, by decide, lw_in 102 (by decide +kernel) rfl, tyX7_ok, nmX7⟩
theorem sh_6_4 {q : Nat} (h : kd q = 6) : rf q 4 = none ∧ 4 < ln q ∧ 6 < 9 := (by decide +kernel : ∀ q, q < NC → kd q = 6 → rf q 4 = none ∧ 4 < ln q ∧ 6 < 9) q (kd_lt h (by decide)) h
theorem cw_X4_nextBy : CWv yX4_nextBy cX4_nextBy 3 (some .int) 2 := ⟨⟨lw_in 418 (by decide +kernel) rfl, lw_in 55 (by decide +kernel) rfl, by decide +kernel, by decide⟩, lw_in 416 (by decide +kernel) rfl, lw_in 417 (by decide +kernel) rfl⟩
theorem ml_X0_61 : Cond.methodLink RX0 61 yX4_nextBy ∈ lw_g := lw_in 530 (by decide +kernel) rfl
theorem fi_X0_9 : FI RX0 9 0 5 := ⟨RX0, TX0, 10, tyX0, rfl, igX0, by decide, lw_in 195 (by decide +kernel) rfl, tyX0_ok, nmX0⟩
theorem sh_0_5 {q : Nat} (h : kd q = 0) : (rf q 5 = some (rid q 5) ∧ 5 < ln q ∧ 0 < 9) ∧ kd (rid q 5) = 9 := (by decide +kernel : ∀ q, q < NC → kd q = 0 → (rf q 5 = some (rid q 5) ∧ 5 < ln q ∧ 0 < 9) ∧ kd (rid q 5) = 9) q (kd_lt h (by decide)) h
theorem fi_X0_15 : FI RX0 15 0 6 := ⟨RX0, TX0, 10, tyX0, rfl, igX0, by decide, lw_in 197 (by decide +kernel) rfl, tyX0_ok, nmX0⟩
theorem sh_0_6 {q : Nat} (h : kd q = 0) : (rf q 6 = some (rid q 6) ∧ 6 < ln q ∧ 0 < 9) ∧ kd (rid q 6) = 9 := (by decide +kernel : ∀ q, q < NC → kd q = 0 → (rf q 6 = some (rid q 6) ∧ 6 < ln q ∧ 0 < 9) ∧ kd (rid q 6) = 9) q (kd_lt h (by decide)) h
theorem fi_X0_18 : FI RX0 18 0 7 := ⟨RX0, TX0, 10, tyX0, rfl, igX0, by decide, lw_in 198 (by decide +kernel) rfl, tyX0_ok, nmX0⟩
theorem sh_0_7 {q : Nat} (h : kd q = 0) : (rf q 7 = some (rid q 7) ∧ 7 < ln q ∧ 0 < 9) ∧ kd (rid q 7) = 9 := (by decide +kernel : ∀ q, q < NC → kd q = 0 → (rf q 7 = some (rid q 7) ∧ 7 < ln q ∧ 0 < 9) ∧ kd (rid q 7) = 9) q (kd_lt h (by decide)) h
theorem cw_X7_goes : CWv yX7_goes cX7_goes 5 (some .int) 3 := ⟨⟨lw_in 534 (by decide +kernel) rfl, lw_in 56 (by decide +kernel) rfl, by decide +kernel, by decide⟩, lw_in 532 (by decide +kernel) rfl, lw_in 533 (by decide +kernel) rfl⟩
theorem ml_X0_65 : Cond.methodLink RX0 65 yX7_goes ∈ lw_g := lw_in 531 (by decide +kernel) rfl
theorem cw_X0_addLink : CWv yX0_addLink cX0_addLink 3 none 2 := ⟨⟨lw_in 539 (by decide +kernel) rfl, lw_in 59 (by decide +kernel) rfl, by decide +kernel, by decide⟩, lw_in 538 (by decide +kernel) rfl, lw_in 6 (by decide +kernel) rfl⟩
theorem ml_X0_69 : Cond.methodLink RX0 69 yX0_addLink ∈ lw_g := lw_in 536 (by decide +kernel) rfl
theorem fi_X0_73 : FI RX0 73 0 3 := ⟨RX0, TX0, 10, tyX0, rfl, igX0, by decide, lw_in 192 (by decide +kernel) rfl, tyX0_ok, nmX0⟩
theorem sh_0_3 {q : Nat} (h : kd q = 0) : rf q 3 = none ∧ 3 < ln q ∧ 0 < 9 := (by decide +kernel : ∀ q, q < NC → kd q = 0 → rf q 3 = none ∧ 3 < ln q ∧ 0 < 9) q (kd_lt h (by decide)) h
theorem fw_0_3 (v : Int32) : FW 0 3 v := ⟨RX0, TX0, 10, .int, rfl, rfl, by decide +kernel, rfl, rfl⟩
theorem ml_X0_89 : Cond.methodLink RX0 89 yX2_modulo ∈ lw_g := lw_in 560 (by decide +kernel) rfl
theorem cw_X0_cuspFrom : CWv yX0_cuspFrom cX0_cuspFrom 4 (some .int) 1 := ⟨⟨lw_in 559 (by decide +kernel) rfl, lw_in 59 (by decide +kernel) rfl, by decide +kernel, by decide⟩, lw_in 557 (by decide +kernel) rfl, lw_in 558 (by decide +kernel) rfl⟩
theorem ml_X0_94 : Cond.methodLink RX0 94 yX0_cuspFrom ∈ lw_g := lw_in 556 (by decide +kernel) rfl
theorem cw_X0_gapAbove : CWv yX0_gapAbove cX0_gapAbove 3 (some .int) 1 := ⟨⟨lw_in 564 (by decide +kernel) rfl, lw_in 59 (by decide +kernel) rfl, by decide +kernel, by decide⟩, lw_in 562 (by decide +kernel) rfl, lw_in 563 (by decide +kernel) rfl⟩
theorem ml_X0_98 : Cond.methodLink RX0 98 yX0_gapAbove ∈ lw_g := lw_in 561 (by decide +kernel) rfl
theorem ml_X2_25 : Cond.methodLink RX2 25 yJ9_min_7cf53 ∈ lw_g := lw_in 585 (by decide +kernel) rfl
theorem ml_X2_28 : Cond.methodLink RX2 28 yJ9_max_7cf53 ∈ lw_g := lw_in 586 (by decide +kernel) rfl
theorem cw_X0_hasArc : CWv yX0_hasArc cX0_hasArc 2 (some .boolean) 1 := ⟨⟨lw_in 581 (by decide +kernel) rfl, lw_in 59 (by decide +kernel) rfl, by decide +kernel, by decide⟩, lw_in 579 (by decide +kernel) rfl, lw_in 580 (by decide +kernel) rfl⟩
theorem ml_X0_101 : Cond.methodLink RX0 101 yX0_hasArc ∈ lw_g := lw_in 578 (by decide +kernel) rfl
theorem cw_X2_cross : CWs yX2_cross cX2_cross 8 (some .boolean) 4 := ⟨⟨lw_in 584 (by decide +kernel) rfl, lw_in 65 (by decide +kernel) rfl, by decide +kernel, by decide⟩, lw_in 583 (by decide +kernel) rfl⟩
theorem ml_X0_105 : Cond.methodLink RX0 105 yX2_cross ∈ lw_g := lw_in 582 (by decide +kernel) rfl
theorem cw_X0_crossedBy : CWv yX0_crossedBy cX0_crossedBy 5 (some .int) 2 := ⟨⟨lw_in 577 (by decide +kernel) rfl, lw_in 59 (by decide +kernel) rfl, by decide +kernel, by decide⟩, lw_in 575 (by decide +kernel) rfl, lw_in 576 (by decide +kernel) rfl⟩
theorem ml_X0_109 : Cond.methodLink RX0 109 yX0_crossedBy ∈ lw_g := lw_in 574 (by decide +kernel) rfl
theorem cw_X0_crossingsWith : CWv yX0_crossingsWith cX0_crossingsWith 4 (some .int) 1 := ⟨⟨lw_in 573 (by decide +kernel) rfl, lw_in 59 (by decide +kernel) rfl, by decide +kernel, by decide⟩, lw_in 571 (by decide +kernel) rfl, lw_in 572 (by decide +kernel) rfl⟩
theorem ml_X0_113 : Cond.methodLink RX0 113 yX0_crossingsWith ∈ lw_g := lw_in 570 (by decide +kernel) rfl
theorem cw_X0_isShiftOnto : CWv yX0_isShiftOnto cX0_isShiftOnto 7 (some .boolean) 3 := ⟨⟨lw_in 626 (by decide +kernel) rfl, lw_in 59 (by decide +kernel) rfl, by decide +kernel, by decide⟩, lw_in 625 (by decide +kernel) rfl, lw_in 9 (by decide +kernel) rfl⟩
theorem ml_X0_117 : Cond.methodLink RX0 117 yX0_isShiftOnto ∈ lw_g := lw_in 623 (by decide +kernel) rfl
theorem fi_X1_15 : FI RX1 15 1 1 := ⟨RX1, TX1, 2, tyX1, rfl, igX1, by decide, lw_in 173 (by decide +kernel) rfl, tyX1_ok, nmX1⟩
theorem sh_1_1 {q : Nat} (h : kd q = 1) : rf q 1 = none ∧ 1 < ln q ∧ 1 < 9 := (by decide +kernel : ∀ q, q < NC → kd q = 1 → rf q 1 = none ∧ 1 < ln q ∧ 1 < 9) q (kd_lt h (by decide)) h
theorem fi_X1_9 : FI RX1 9 1 0 := ⟨RX1, TX1, 2, tyX1, rfl, igX1, by decide, lw_in 172 (by decide +kernel) rfl, tyX1_ok, nmX1⟩
theorem sh_1_0 {q : Nat} (h : kd q = 1) : (rf q 0 = some (rid q 0) ∧ 0 < ln q ∧ 1 < 9) ∧ kd (rid q 0) = 9 := (by decide +kernel : ∀ q, q < NC → kd q = 1 → (rf q 0 = some (rid q 0) ∧ 0 < ln q ∧ 1 < 9) ∧ kd (rid q 0) = 9) q (kd_lt h (by decide)) h
theorem fw_1_1 (v : Int32) : FW 1 1 v := ⟨RX1, TX1, 2, .int, rfl, rfl, by decide +kernel, rfl, rfl⟩
theorem cw_X1_digitsBehind : CWs yX1_digitsBehind cX1_digitsBehind 1 (some .int) 1 := ⟨⟨lw_in 333 (by decide +kernel) rfl, lw_in 58 (by decide +kernel) rfl, by decide +kernel, by decide⟩, lw_in 332 (by decide +kernel) rfl⟩
theorem ml_X1_19 : Cond.methodLink RX1 19 yX1_digitsBehind ∈ lw_g := lw_in 331 (by decide +kernel) rfl
theorem fi_X4_29 : FI RX4 29 3 1 := ⟨RX4, TX4, 5, tyX4, rfl, igX4, by decide, lw_in 126 (by decide +kernel) rfl, tyX4_ok, nmX4⟩
theorem sh_3_1 {q : Nat} (h : kd q = 3) : rf q 1 = none ∧ 1 < ln q ∧ 3 < 9 := (by decide +kernel : ∀ q, q < NC → kd q = 3 → rf q 1 = none ∧ 1 < ln q ∧ 3 < 9) q (kd_lt h (by decide)) h
theorem fi_X4_24 : FI RX4 24 3 4 := ⟨RX4, TX4, 5, tyX4, rfl, igX4, by decide, lw_in 133 (by decide +kernel) rfl, tyX4_ok, nmX4⟩
theorem sh_3_4 {q : Nat} (h : kd q = 3) : (rf q 4 = some (rid q 4) ∧ 4 < ln q ∧ 3 < 9) ∧ kd (rid q 4) = 13 := (by decide +kernel : ∀ q, q < NC → kd q = 3 → (rf q 4 = some (rid q 4) ∧ 4 < ln q ∧ 3 < 9) ∧ kd (rid q 4) = 13) q (kd_lt h (by decide)) h
theorem sha_13 {q j : Nat} (h : kd q = 13) (hj : j < ln q) : rf q j = some (rid q j) ∧ kd (rid q j) = 6 := (by decide +kernel : ∀ q, q < NC → kd q = 13 → ∀ j, j < ln q → rf q j = some (rid q j) ∧ kd (rid q j) = 6) q (kd_lt h (by decide)) h j hj
theorem fi_X4_45 : FI RX4 45 6 4 := ⟨RX7, TX7, 6, tyX7, rfl, igX7, by decide, lw_in 103 (by decide +kernel) rfl, tyX7_ok, nmX7⟩
theorem cw_X4_canHave : CWv yX4_canHave cX4_canHave 4 (some .boolean) 1 := ⟨⟨lw_in 367 (by decide +kernel) rfl, lw_in 55 (by decide +kernel) rfl, by decide +kernel, by decide⟩, lw_in 365 (by decide +kernel) rfl, lw_in 366 (by decide +kernel) rfl⟩
theorem ml_X4_48 : Cond.methodLink RX4 48 yX4_canHave ∈ lw_g := lw_in 372 (by decide +kernel) rfl
theorem fw_3_0 (v : Int32) : FW 3 0 v := ⟨RX4, TX4, 5, .int, rfl, rfl, by decide +kernel, rfl, rfl⟩
theorem fi_X4_15 : FI RX4 15 3 2 := ⟨RX4, TX4, 5, tyX4, rfl, igX4, by decide, lw_in 129 (by decide +kernel) rfl, tyX4_ok, nmX4⟩
theorem sh_3_2 {q : Nat} (h : kd q = 3) : (rf q 2 = some (rid q 2) ∧ 2 < ln q ∧ 3 < 9) ∧ kd (rid q 2) = 9 := (by decide +kernel : ∀ q, q < NC → kd q = 3 → (rf q 2 = some (rid q 2) ∧ 2 < ln q ∧ 3 < 9) ∧ kd (rid q 2) = 9) q (kd_lt h (by decide)) h
theorem ml_X4_52 : Cond.methodLink RX4 52 yJ7_fill_53178 ∈ lw_g := lw_in 373 (by decide +kernel) rfl
theorem ml_X1_44 : Cond.methodLink RX1 44 yX4_canHave ∈ lw_g := lw_in 364 (by decide +kernel) rfl
theorem cw_X4_renew : CWv yX4_renew cX4_renew 2 none 1 := ⟨⟨lw_in 371 (by decide +kernel) rfl, lw_in 55 (by decide +kernel) rfl, by decide +kernel, by decide⟩, lw_in 369 (by decide +kernel) rfl, lw_in 370 (by decide +kernel) rfl⟩
theorem ml_X1_50 : Cond.methodLink RX1 50 yX4_renew ∈ lw_g := lw_in 368 (by decide +kernel) rfl
theorem cw_X4_isTooth : CWv yX4_isTooth cX4_isTooth 2 (some .boolean) 1 := ⟨⟨lw_in 387 (by decide +kernel) rfl, lw_in 55 (by decide +kernel) rfl, by decide +kernel, by decide⟩, lw_in 385 (by decide +kernel) rfl, lw_in 386 (by decide +kernel) rfl⟩
theorem ml_X4_58 : Cond.methodLink RX4 58 yX4_isTooth ∈ lw_g := lw_in 384 (by decide +kernel) rfl
theorem fw_6_0 (v : Int32) : FW 6 0 v := ⟨RX7, TX7, 6, .int, rfl, rfl, by decide +kernel, rfl, rfl⟩
theorem fi_X7_9 : FI RX7 9 6 1 := ⟨RX7, TX7, 6, tyX7, rfl, igX7, by decide, lw_in 91 (by decide +kernel) rfl, tyX7_ok, nmX7⟩
theorem fw_6_1 (v : Int32) : FW 6 1 v := ⟨RX7, TX7, 6, .int, rfl, rfl, by decide +kernel, rfl, rfl⟩
theorem fi_X7_21 : FI RX7 21 6 2 := ⟨RX7, TX7, 6, tyX7, rfl, igX7, by decide, lw_in 94 (by decide +kernel) rfl, tyX7_ok, nmX7⟩
theorem fw_6_2 (v : Int32) : FW 6 2 v := ⟨RX7, TX7, 6, .int, rfl, rfl, by decide +kernel, rfl, rfl⟩
theorem fi_X7_15 : FI RX7 15 6 3 := ⟨RX7, TX7, 6, tyX7, rfl, igX7, by decide, lw_in 97 (by decide +kernel) rfl, tyX7_ok, nmX7⟩
theorem sh_6_3 {q : Nat} (h : kd q = 6) : rf q 3 = none ∧ 3 < ln q ∧ 6 < 9 := (by decide +kernel : ∀ q, q < NC → kd q = 6 → rf q 3 = none ∧ 3 < ln q ∧ 6 < 9) q (kd_lt h (by decide)) h
theorem fw_6_3 (v : Int32) : FW 6 3 v := ⟨RX7, TX7, 6, .int, rfl, rfl, by decide +kernel, rfl, rfl⟩
theorem fi_X7_24 : FI RX7 24 6 4 := ⟨RX7, TX7, 6, tyX7, rfl, igX7, by decide, lw_in 101 (by decide +kernel) rfl, tyX7_ok, nmX7⟩
theorem fw_6_4 (v : Int32) : FW 6 4 v := ⟨RX7, TX7, 6, .int, rfl, rfl, by decide +kernel, rfl, rfl⟩
theorem fi_X7_27 : FI RX7 27 6 5 := ⟨RX7, TX7, 6, tyX7, rfl, igX7, by decide, lw_in 106 (by decide +kernel) rfl, tyX7_ok, nmX7⟩
theorem sh_6_5 {q : Nat} (h : kd q = 6) : rf q 5 = none ∧ 5 < ln q ∧ 6 < 9 := (by decide +kernel : ∀ q, q < NC → kd q = 6 → rf q 5 = none ∧ 5 < ln q ∧ 6 < 9) q (kd_lt h (by decide)) h
theorem fw_6_5 (v : Int32) : FW 6 5 v := ⟨RX7, TX7, 6, .int, rfl, rfl, by decide +kernel, rfl, rfl⟩
theorem cw_X7_set : CWv yX7_set cX7_set 6 none 5 := ⟨⟨lw_in 348 (by decide +kernel) rfl, lw_in 56 (by decide +kernel) rfl, by decide +kernel, by decide⟩, lw_in 346 (by decide +kernel) rfl, lw_in 347 (by decide +kernel) rfl⟩
theorem ml_X4_61 : Cond.methodLink RX4 61 yX7_set ∈ lw_g := lw_in 392 (by decide +kernel) rfl
theorem fw_3_1 (v : Int32) : FW 3 1 v := ⟨RX4, TX4, 5, .int, rfl, rfl, by decide +kernel, rfl, rfl⟩
theorem cw_X1_number : CWv yX1_number cX1_number 6 (some .int) 2 := ⟨⟨lw_in 360 (by decide +kernel) rfl, lw_in 58 (by decide +kernel) rfl, by decide +kernel, by decide⟩, lw_in 359 (by decide +kernel) rfl, lw_in 1 (by decide +kernel) rfl⟩
theorem ml_X1_23 : Cond.methodLink RX1 23 yX1_number ∈ lw_g := lw_in 357 (by decide +kernel) rfl
theorem cw_X4_refusalOfWheel : CWv yX4_refusalOfWheel cX4_refusalOfWheel 7 (some .int) 5 := ⟨⟨lw_in 383 (by decide +kernel) rfl, lw_in 55 (by decide +kernel) rfl, by decide +kernel, by decide⟩, lw_in 381 (by decide +kernel) rfl, lw_in 382 (by decide +kernel) rfl⟩
theorem ml_X1_54 : Cond.methodLink RX1 54 yX4_refusalOfWheel ∈ lw_g := lw_in 380 (by decide +kernel) rfl
theorem cw_X4_addWheel : CWv yX4_addWheel cX4_addWheel 6 none 5 := ⟨⟨lw_in 391 (by decide +kernel) rfl, lw_in 55 (by decide +kernel) rfl, by decide +kernel, by decide⟩, lw_in 389 (by decide +kernel) rfl, lw_in 390 (by decide +kernel) rfl⟩
theorem ml_X1_58 : Cond.methodLink RX1 58 yX4_addWheel ∈ lw_g := lw_in 388 (by decide +kernel) rfl
theorem cw_X4_wearOrMend : CWv yX4_wearOrMend cX4_wearOrMend 2 none 1 := ⟨⟨lw_in 399 (by decide +kernel) rfl, lw_in 55 (by decide +kernel) rfl, by decide +kernel, by decide⟩, lw_in 397 (by decide +kernel) rfl, lw_in 398 (by decide +kernel) rfl⟩
theorem ml_X1_62 : Cond.methodLink RX1 62 yX4_wearOrMend ∈ lw_g := lw_in 396 (by decide +kernel) rfl
theorem ml_X1_65 : Cond.methodLink RX1 65 yX4_isTooth ∈ lw_g := lw_in 400 (by decide +kernel) rfl
theorem cw_X4_wheelAt : CWv yX4_wheelAt cX4_wheelAt 2 (some (.object "WheelOnWheel$Wheel")) 1 := ⟨⟨lw_in 407 (by decide +kernel) rfl, lw_in 55 (by decide +kernel) rfl, by decide +kernel, by decide⟩, lw_in 405 (by decide +kernel) rfl, lw_in 406 (by decide +kernel) rfl⟩
theorem ml_X1_68 : Cond.methodLink RX1 68 yX4_wheelAt ∈ lw_g := lw_in 404 (by decide +kernel) rfl
theorem fi_X1_72 : FI RX1 72 6 4 := ⟨RX7, TX7, 6, tyX7, rfl, igX7, by decide, lw_in 105 (by decide +kernel) rfl, tyX7_ok, nmX7⟩
theorem ml_X4_85 : Cond.methodLink RX4 85 yX4_nextBy ∈ lw_g := lw_in 415 (by decide +kernel) rfl
theorem ml_X4_88 : Cond.methodLink RX4 88 yJ9_min_7cf53 ∈ lw_g := lw_in 430 (by decide +kernel) rfl
theorem fi_X4_93 : FI RX4 93 6 5 := ⟨RX7, TX7, 6, tyX7, rfl, igX7, by decide, lw_in 108 (by decide +kernel) rfl, tyX7_ok, nmX7⟩
theorem cw_X4_rollTruly : CWv yX4_rollTruly cX4_rollTruly 5 none 2 := ⟨⟨lw_in 414 (by decide +kernel) rfl, lw_in 55 (by decide +kernel) rfl, by decide +kernel, by decide⟩, lw_in 412 (by decide +kernel) rfl, lw_in 413 (by decide +kernel) rfl⟩
theorem ml_X1_77 : Cond.methodLink RX1 77 yX4_rollTruly ∈ lw_g := lw_in 411 (by decide +kernel) rfl
theorem cw_X1_placeComes : CWs yX1_placeComes cX1_placeComes 4 (some .boolean) 3 := ⟨⟨lw_in 403 (by decide +kernel) rfl, lw_in 58 (by decide +kernel) rfl, by decide +kernel, by decide⟩, lw_in 402 (by decide +kernel) rfl⟩
theorem ml_X1_37 : Cond.methodLink RX1 37 yX1_placeComes ∈ lw_g := lw_in 401 (by decide +kernel) rfl
theorem cw_X1_ringComes : CWs yX1_ringComes cX1_ringComes 3 (some .boolean) 2 := ⟨⟨lw_in 363 (by decide +kernel) rfl, lw_in 58 (by decide +kernel) rfl, by decide +kernel, by decide⟩, lw_in 362 (by decide +kernel) rfl⟩
theorem ml_X1_27 : Cond.methodLink RX1 27 yX1_ringComes ∈ lw_g := lw_in 361 (by decide +kernel) rfl
theorem cw_X1_wheelComes : CWv yX1_wheelComes cX1_wheelComes 8 (some .boolean) 2 := ⟨⟨lw_in 379 (by decide +kernel) rfl, lw_in 58 (by decide +kernel) rfl, by decide +kernel, by decide⟩, lw_in 378 (by decide +kernel) rfl, lw_in 2 (by decide +kernel) rfl⟩
theorem ml_X1_31 : Cond.methodLink RX1 31 yX1_wheelComes ∈ lw_g := lw_in 376 (by decide +kernel) rfl
theorem cw_X1_wearComes : CWs yX1_wearComes cX1_wearComes 2 (some .boolean) 2 := ⟨⟨lw_in 395 (by decide +kernel) rfl, lw_in 58 (by decide +kernel) rfl, by decide +kernel, by decide⟩, lw_in 394 (by decide +kernel) rfl⟩
theorem ml_X1_34 : Cond.methodLink RX1 34 yX1_wearComes ∈ lw_g := lw_in 393 (by decide +kernel) rfl
theorem cw_X1_rollComes : CWs yX1_rollComes cX1_rollComes 4 (some .boolean) 3 := ⟨⟨lw_in 410 (by decide +kernel) rfl, lw_in 58 (by decide +kernel) rfl, by decide +kernel, by decide⟩, lw_in 409 (by decide +kernel) rfl⟩
theorem ml_X1_41 : Cond.methodLink RX1 41 yX1_rollComes ∈ lw_g := lw_in 408 (by decide +kernel) rfl
theorem ml_X2_7 : Cond.methodLink RX2 7 yJ9_abs_0f7a4 ∈ lw_g := lw_in 505 (by decide +kernel) rfl
theorem cw_X2_greatestDivisor : CWs yX2_greatestDivisor cX2_greatestDivisor 6 (some .int) 2 := ⟨⟨lw_in 504 (by decide +kernel) rfl, lw_in 65 (by decide +kernel) rfl, by decide +kernel, by decide⟩, lw_in 503 (by decide +kernel) rfl⟩
theorem ml_X2_13 : Cond.methodLink RX2 13 yX2_greatestDivisor ∈ lw_g := lw_in 502 (by decide +kernel) rfl
theorem co_X2_19 : Cond.constant RX2 19 1664525 ∈ lw_g := lw_in 782 (by decide +kernel) rfl
theorem co_X2_20 : Cond.constant RX2 20 1013904223 ∈ lw_g := lw_in 783 (by decide +kernel) rfl
theorem co_X2_21 : Cond.constant RX2 21 2147483647 ∈ lw_g := lw_in 787 (by decide +kernel) rfl
theorem ml_X2_22 : Cond.methodLink RX2 22 yX2_modulo ∈ lw_g := lw_in 788 (by decide +kernel) rfl
theorem ml_X7_30 : Cond.methodLink RX7 30 yX7_set ∈ lw_g := lw_in 345 (by decide +kernel) rfl
theorem ml_X4_32 : Cond.methodLink RX4 32 arraycopyName ∈ lw_g := lw_in 338 (by decide +kernel) rfl
theorem wcopy : Cond.native arraycopyName ∈ lw_g ∧ Cond.static arraycopyName ∈ lw_g ∧ Cond.initialized "java/lang/System" ∈ lw_g := ⟨lw_in 340 (by decide +kernel) rfl, lw_in 339 (by decide +kernel) rfl, lw_in 63 (by decide +kernel) rfl⟩
theorem cw_X7_become : CWv yX7_become cX7_become 2 none 1 := ⟨⟨lw_in 344 (by decide +kernel) rfl, lw_in 56 (by decide +kernel) rfl, by decide +kernel, by decide⟩, lw_in 342 (by decide +kernel) rfl, lw_in 343 (by decide +kernel) rfl⟩
theorem ml_X4_38 : Cond.methodLink RX4 38 yX7_become ∈ lw_g := lw_in 341 (by decide +kernel) rfl
theorem fi_X3_11 : FI RX3 11 2 0 := ⟨RX3, TX3, 3, tyX3, rfl, igX3, by decide, lw_in 155 (by decide +kernel) rfl, tyX3_ok, nmX3⟩
theorem sh_2_0 {q : Nat} (h : kd q = 2) : (rf q 0 = some (rid q 0) ∧ 0 < ln q ∧ 2 < 9) ∧ kd (rid q 0) = 12 := (by decide +kernel : ∀ q, q < NC → kd q = 2 → (rf q 0 = some (rid q 0) ∧ 0 < ln q ∧ 2 < 9) ∧ kd (rid q 0) = 12) q (kd_lt h (by decide)) h
theorem fi_X3_18 : FI RX3 18 2 2 := ⟨RX3, TX3, 3, tyX3, rfl, igX3, by decide, lw_in 158 (by decide +kernel) rfl, tyX3_ok, nmX3⟩
theorem sh_2_2 {q : Nat} (h : kd q = 2) : rf q 2 = none ∧ 2 < ln q ∧ 2 < 9 := (by decide +kernel : ∀ q, q < NC → kd q = 2 → rf q 2 = none ∧ 2 < ln q ∧ 2 < 9) q (kd_lt h (by decide)) h
theorem sha_12 {q j : Nat} (h : kd q = 12) (hj : j < ln q) : rf q j = some (rid q j) ∧ kd (rid q j) = 3 := (by decide +kernel : ∀ q, q < NC → kd q = 12 → ∀ j, j < ln q → rf q j = some (rid q j) ∧ kd (rid q j) = 3) q (kd_lt h (by decide)) h j hj
theorem cw_X4_become : CWv yX4_become cX4_become 3 none 1 := ⟨⟨lw_in 337 (by decide +kernel) rfl, lw_in 55 (by decide +kernel) rfl, by decide +kernel, by decide⟩, lw_in 335 (by decide +kernel) rfl, lw_in 336 (by decide +kernel) rfl⟩
theorem ml_X3_22 : Cond.methodLink RX3 22 yX4_become ∈ lw_g := lw_in 476 (by decide +kernel) rfl
theorem ml_X3_26 : Cond.methodLink RX3 26 yX2_modulo ∈ lw_g := lw_in 477 (by decide +kernel) rfl
theorem fw_2_2 (v : Int32) : FW 2 2 v := ⟨RX3, TX3, 3, .int, rfl, rfl, by decide +kernel, rfl, rfl⟩
theorem fi_X3_32 : FI RX3 32 2 1 := ⟨RX3, TX3, 3, tyX3, rfl, igX3, by decide, lw_in 156 (by decide +kernel) rfl, tyX3_ok, nmX3⟩
theorem sh_2_1 {q : Nat} (h : kd q = 2) : rf q 1 = none ∧ 1 < ln q ∧ 2 < 9 := (by decide +kernel : ∀ q, q < NC → kd q = 2 → rf q 1 = none ∧ 1 < ln q ∧ 2 < 9) q (kd_lt h (by decide)) h
theorem ml_X3_35 : Cond.methodLink RX3 35 yJ9_min_7cf53 ∈ lw_g := lw_in 478 (by decide +kernel) rfl
theorem fw_2_1 (v : Int32) : FW 2 1 v := ⟨RX3, TX3, 3, .int, rfl, rfl, by decide +kernel, rfl, rfl⟩
theorem cw_X2_placesOf : CWs yX2_placesOf cX2_placesOf 5 (some .int) 3 := ⟨⟨lw_in 691 (by decide +kernel) rfl, lw_in 65 (by decide +kernel) rfl, by decide +kernel, by decide⟩, lw_in 690 (by decide +kernel) rfl⟩
theorem ml_X4_96 : Cond.methodLink RX4 96 yX2_placesOf ∈ lw_g := lw_in 708 (by decide +kernel) rfl
theorem ml_X4_100 : Cond.methodLink RX4 100 yJ9_max_7cf53 ∈ lw_g := lw_in 713 (by decide +kernel) rfl
theorem cw_X2_placeOfMost : CWs yX2_placeOfMost cX2_placeOfMost 4 (some .int) 2 := ⟨⟨lw_in 694 (by decide +kernel) rfl, lw_in 65 (by decide +kernel) rfl, by decide +kernel, by decide⟩, lw_in 693 (by decide +kernel) rfl⟩
theorem ml_X4_103 : Cond.methodLink RX4 103 yX2_placeOfMost ∈ lw_g := lw_in 722 (by decide +kernel) rfl
theorem fi_X4_107 : FI RX4 107 4 0 := ⟨RX5, TX5, 2, tyX5, rfl, igX5, by decide, lw_in 264 (by decide +kernel) rfl, tyX5_ok, nmX5⟩
theorem sh_4_0 {q : Nat} (h : kd q = 4) : rf q 0 = none ∧ 0 < ln q ∧ 4 < 9 := (by decide +kernel : ∀ q, q < NC → kd q = 4 → rf q 0 = none ∧ 0 < ln q ∧ 4 < 9) q (kd_lt h (by decide)) h
theorem fi_X4_110 : FI RX4 110 4 1 := ⟨RX5, TX5, 2, tyX5, rfl, igX5, by decide, lw_in 267 (by decide +kernel) rfl, tyX5_ok, nmX5⟩
theorem sh_4_1 {q : Nat} (h : kd q = 4) : (rf q 1 = some (rid q 1) ∧ 1 < ln q ∧ 4 < 9) ∧ kd (rid q 1) = 9 := (by decide +kernel : ∀ q, q < NC → kd q = 4 → (rf q 1 = some (rid q 1) ∧ 1 < ln q ∧ 4 < 9) ∧ kd (rid q 1) = 9) q (kd_lt h (by decide)) h
theorem fi_X5_9 : FI RX5 9 4 0 := ⟨RX5, TX5, 2, tyX5, rfl, igX5, by decide, lw_in 263 (by decide +kernel) rfl, tyX5_ok, nmX5⟩
theorem fw_4_0 (v : Int32) : FW 4 0 v := ⟨RX5, TX5, 2, .int, rfl, rfl, by decide +kernel, rfl, rfl⟩
theorem fi_X5_15 : FI RX5 15 4 1 := ⟨RX5, TX5, 2, tyX5, rfl, igX5, by decide, lw_in 266 (by decide +kernel) rfl, tyX5_ok, nmX5⟩
theorem ml_X5_19 : Cond.methodLink RX5 19 yJ7_fill_53178 ∈ lw_g := lw_in 797 (by decide +kernel) rfl
theorem fi_X6_9 : FI RX6 9 5 0 := ⟨RX6, TX6, 7, tyX6, rfl, igX6, by decide, lw_in 229 (by decide +kernel) rfl, tyX6_ok, nmX6⟩
theorem sh_5_0 {q : Nat} (h : kd q = 5) : (rf q 0 = some (rid q 0) ∧ 0 < ln q ∧ 5 < 9) ∧ kd (rid q 0) = 9 := (by decide +kernel : ∀ q, q < NC → kd q = 5 → (rf q 0 = some (rid q 0) ∧ 0 < ln q ∧ 5 < 9) ∧ kd (rid q 0) = 9) q (kd_lt h (by decide)) h
theorem fi_X6_31 : FI RX6 31 3 4 := ⟨RX4, TX4, 5, tyX4, rfl, igX4, by decide, lw_in 134 (by decide +kernel) rfl, tyX4_ok, nmX4⟩
theorem fi_X6_37 : FI RX6 37 6 4 := ⟨RX7, TX7, 6, tyX7, rfl, igX7, by decide, lw_in 100 (by decide +kernel) rfl, tyX7_ok, nmX7⟩
theorem fi_X6_28 : FI RX6 28 5 5 := ⟨RX6, TX6, 7, tyX6, rfl, igX6, by decide, lw_in 237 (by decide +kernel) rfl, tyX6_ok, nmX6⟩
theorem sh_5_5 {q : Nat} (h : kd q = 5) : (rf q 5 = some (rid q 5) ∧ 5 < ln q ∧ 5 < 9) ∧ kd (rid q 5) = 9 := (by decide +kernel : ∀ q, q < NC → kd q = 5 → (rf q 5 = some (rid q 5) ∧ 5 < ln q ∧ 5 < 9) ∧ kd (rid q 5) = 9) q (kd_lt h (by decide)) h
theorem ml_X6_42 : Cond.methodLink RX6 42 yJ7_fill_53178 ∈ lw_g := lw_in 656 (by decide +kernel) rfl
theorem fi_X6_48 : FI RX6 48 5 6 := ⟨RX6, TX6, 7, tyX6, rfl, igX6, by decide, lw_in 239 (by decide +kernel) rfl, tyX6_ok, nmX6⟩
theorem sh_5_6 {q : Nat} (h : kd q = 5) : rf q 6 = none ∧ 6 < ln q ∧ 5 < 9 := (by decide +kernel : ∀ q, q < NC → kd q = 5 → rf q 6 = none ∧ 6 < ln q ∧ 5 < 9) q (kd_lt h (by decide)) h
theorem fw_5_6 (v : Int32) : FW 5 6 v := ⟨RX6, TX6, 7, .int, rfl, rfl, by decide +kernel, rfl, rfl⟩
theorem fi_X6_15 : FI RX6 15 5 1 := ⟨RX6, TX6, 7, tyX6, rfl, igX6, by decide, lw_in 230 (by decide +kernel) rfl, tyX6_ok, nmX6⟩
theorem sh_5_1 {q : Nat} (h : kd q = 5) : (rf q 1 = some (rid q 1) ∧ 1 < ln q ∧ 5 < 9) ∧ kd (rid q 1) = 10 := (by decide +kernel : ∀ q, q < NC → kd q = 5 → (rf q 1 = some (rid q 1) ∧ 1 < ln q ∧ 5 < 9) ∧ kd (rid q 1) = 10) q (kd_lt h (by decide)) h
theorem fi_X6_51 : FI RX6 51 6 3 := ⟨RX7, TX7, 6, tyX7, rfl, igX7, by decide, lw_in 98 (by decide +kernel) rfl, tyX7_ok, nmX7⟩
theorem ml_X6_54 : Cond.methodLink RX6 54 yX2_modulo ∈ lw_g := lw_in 661 (by decide +kernel) rfl
theorem ml_X6_60 : Cond.methodLink RX6 60 yX4_nextBy ∈ lw_g := lw_in 662 (by decide +kernel) rfl
theorem cw_X6_leastToucher : CWv yX6_leastToucher cX6_leastToucher 3 (some .int) 0 := ⟨⟨lw_in 670 (by decide +kernel) rfl, lw_in 60 (by decide +kernel) rfl, by decide +kernel, by decide⟩, lw_in 669 (by decide +kernel) rfl, lw_in 12 (by decide +kernel) rfl⟩
theorem ml_X6_76 : Cond.methodLink RX6 76 yX6_leastToucher ∈ lw_g := lw_in 667 (by decide +kernel) rfl
theorem fi_X6_19 : FI RX6 19 5 2 := ⟨RX6, TX6, 7, tyX6, rfl, igX6, by decide, lw_in 231 (by decide +kernel) rfl, tyX6_ok, nmX6⟩
theorem sh_5_2 {q : Nat} (h : kd q = 5) : (rf q 2 = some (rid q 2) ∧ 2 < ln q ∧ 5 < 9) ∧ kd (rid q 2) = 9 := (by decide +kernel : ∀ q, q < NC → kd q = 5 → (rf q 2 = some (rid q 2) ∧ 2 < ln q ∧ 5 < 9) ∧ kd (rid q 2) = 9) q (kd_lt h (by decide)) h
theorem fi_X6_22 : FI RX6 22 5 3 := ⟨RX6, TX6, 7, tyX6, rfl, igX6, by decide, lw_in 233 (by decide +kernel) rfl, tyX6_ok, nmX6⟩
theorem sh_5_3 {q : Nat} (h : kd q = 5) : (rf q 3 = some (rid q 3) ∧ 3 < ln q ∧ 5 < 9) ∧ kd (rid q 3) = 9 := (by decide +kernel : ∀ q, q < NC → kd q = 5 → (rf q 3 = some (rid q 3) ∧ 3 < ln q ∧ 5 < 9) ∧ kd (rid q 3) = 9) q (kd_lt h (by decide)) h
theorem fi_X6_25 : FI RX6 25 5 4 := ⟨RX6, TX6, 7, tyX6, rfl, igX6, by decide, lw_in 235 (by decide +kernel) rfl, tyX6_ok, nmX6⟩
theorem sh_5_4 {q : Nat} (h : kd q = 5) : (rf q 4 = some (rid q 4) ∧ 4 < ln q ∧ 5 < 9) ∧ kd (rid q 4) = 9 := (by decide +kernel : ∀ q, q < NC → kd q = 5 → (rf q 4 = some (rid q 4) ∧ 4 < ln q ∧ 5 < 9) ∧ kd (rid q 4) = 9) q (kd_lt h (by decide)) h
theorem cw_X6_begin : CWv yX6_begin cX6_begin 3 none 1 := ⟨⟨lw_in 655 (by decide +kernel) rfl, lw_in 60 (by decide +kernel) rfl, by decide +kernel, by decide⟩, lw_in 653 (by decide +kernel) rfl, lw_in 654 (by decide +kernel) rfl⟩
theorem ml_X6_64 : Cond.methodLink RX6 64 yX6_begin ∈ lw_g := lw_in 652 (by decide +kernel) rfl
theorem cw_X6_passTick : CWv yX6_passTick cX6_passTick 6 none 3 := ⟨⟨lw_in 660 (by decide +kernel) rfl, lw_in 60 (by decide +kernel) rfl, by decide +kernel, by decide⟩, lw_in 658 (by decide +kernel) rfl, lw_in 659 (by decide +kernel) rfl⟩
theorem ml_X6_68 : Cond.methodLink RX6 68 yX6_passTick ∈ lw_g := lw_in 657 (by decide +kernel) rfl
theorem cw_X6_noteTouches : CWv yX6_noteTouches cX6_noteTouches 4 none 1 := ⟨⟨lw_in 666 (by decide +kernel) rfl, lw_in 60 (by decide +kernel) rfl, by decide +kernel, by decide⟩, lw_in 665 (by decide +kernel) rfl, lw_in 11 (by decide +kernel) rfl⟩
theorem ml_X6_72 : Cond.methodLink RX6 72 yX6_noteTouches ∈ lw_g := lw_in 663 (by decide +kernel) rfl
theorem cw_X2_seedBehind : CWs yX2_seedBehind cX2_seedBehind 1 (some .int) 1 := ⟨⟨lw_in 781 (by decide +kernel) rfl, lw_in 65 (by decide +kernel) rfl, by decide +kernel, by decide⟩, lw_in 780 (by decide +kernel) rfl⟩
theorem ml_X6_80 : Cond.methodLink RX6 80 yX2_seedBehind ∈ lw_g := lw_in 779 (by decide +kernel) rfl
theorem fi_X6_84 : FI RX6 84 3 1 := ⟨RX4, TX4, 5, tyX4, rfl, igX4, by decide, lw_in 128 (by decide +kernel) rfl, tyX4_ok, nmX4⟩
theorem cw_X2_drawn : CWs yX2_drawn cX2_drawn 2 (some .int) 2 := ⟨⟨lw_in 786 (by decide +kernel) rfl, lw_in 65 (by decide +kernel) rfl, by decide +kernel, by decide⟩, lw_in 785 (by decide +kernel) rfl⟩
theorem ml_X6_87 : Cond.methodLink RX6 87 yX2_drawn ∈ lw_g := lw_in 784 (by decide +kernel) rfl
theorem fi_X8_66 : FI RX8 66 7 11 := ⟨RX8, TX8, 12, tyX8, rfl, igX8, by decide, lw_in 285 (by decide +kernel) rfl, tyX8_ok, nmX8⟩
theorem sh_7_11 {q : Nat} (h : kd q = 7) : (rf q 11 = some (rid q 11) ∧ 11 < ln q ∧ 7 < 9) ∧ kd (rid q 11) = 9 := (by decide +kernel : ∀ q, q < NC → kd q = 7 → (rf q 11 = some (rid q 11) ∧ 11 < ln q ∧ 7 < 9) ∧ kd (rid q 11) = 9) q (kd_lt h (by decide)) h
theorem cw_X8_refuse : CWv yX8_refuse cX8_refuse 2 (some .int) 1 := ⟨⟨lw_in 318 (by decide +kernel) rfl, lw_in 54 (by decide +kernel) rfl, by decide +kernel, by decide⟩, lw_in 317 (by decide +kernel) rfl, lw_in 0 (by decide +kernel) rfl⟩
theorem ml_X8_71 : Cond.methodLink RX8 71 yX8_refuse ∈ lw_g := lw_in 315 (by decide +kernel) rfl
theorem fi_X8_32 : FI RX8 32 7 5 := ⟨RX8, TX8, 12, tyX8, rfl, igX8, by decide, lw_in 279 (by decide +kernel) rfl, tyX8_ok, nmX8⟩
theorem sh_7_5 {q : Nat} (h : kd q = 7) : (rf q 5 = some (rid q 5) ∧ 5 < ln q ∧ 7 < 9) ∧ kd (rid q 5) = 1 := (by decide +kernel : ∀ q, q < NC → kd q = 7 → (rf q 5 = some (rid q 5) ∧ 5 < ln q ∧ 7 < 9) ∧ kd (rid q 5) = 1) q (kd_lt h (by decide)) h
theorem fi_X8_75 : FI RX8 75 1 1 := ⟨RX1, TX1, 2, tyX1, rfl, igX1, by decide, lw_in 174 (by decide +kernel) rfl, tyX1_ok, nmX1⟩
theorem cw_X1_append : CWv yX1_append cX1_append 2 none 1 := ⟨⟨lw_in 322 (by decide +kernel) rfl, lw_in 58 (by decide +kernel) rfl, by decide +kernel, by decide⟩, lw_in 320 (by decide +kernel) rfl, lw_in 321 (by decide +kernel) rfl⟩
theorem ml_X8_79 : Cond.methodLink RX8 79 yX1_append ∈ lw_g := lw_in 319 (by decide +kernel) rfl
theorem cw_X1_firstMisplaced : CWv yX1_firstMisplaced cX1_firstMisplaced 5 (some .int) 0 := ⟨⟨lw_in 330 (by decide +kernel) rfl, lw_in 58 (by decide +kernel) rfl, by decide +kernel, by decide⟩, lw_in 328 (by decide +kernel) rfl, lw_in 329 (by decide +kernel) rfl⟩
theorem ml_X8_83 : Cond.methodLink RX8 83 yX1_firstMisplaced ∈ lw_g := lw_in 327 (by decide +kernel) rfl
theorem fi_X8_16 : FI RX8 16 7 1 := ⟨RX8, TX8, 12, tyX8, rfl, igX8, by decide, lw_in 275 (by decide +kernel) rfl, tyX8_ok, nmX8⟩
theorem sh_7_1 {q : Nat} (h : kd q = 7) : (rf q 1 = some (rid q 1) ∧ 1 < ln q ∧ 7 < 9) ∧ kd (rid q 1) = 3 := (by decide +kernel : ∀ q, q < NC → kd q = 7 → (rf q 1 = some (rid q 1) ∧ 1 < ln q ∧ 7 < 9) ∧ kd (rid q 1) = 3) q (kd_lt h (by decide)) h
theorem fi_X8_10 : FI RX8 10 7 0 := ⟨RX8, TX8, 12, tyX8, rfl, igX8, by decide, lw_in 274 (by decide +kernel) rfl, tyX8_ok, nmX8⟩
theorem sh_7_0 {q : Nat} (h : kd q = 7) : (rf q 0 = some (rid q 0) ∧ 0 < ln q ∧ 7 < 9) ∧ kd (rid q 0) = 3 := (by decide +kernel : ∀ q, q < NC → kd q = 7 → (rf q 0 = some (rid q 0) ∧ 0 < ln q ∧ 7 < 9) ∧ kd (rid q 0) = 3) q (kd_lt h (by decide)) h
theorem ml_X8_87 : Cond.methodLink RX8 87 yX4_become ∈ lw_g := lw_in 334 (by decide +kernel) rfl
theorem cw_X1_beginsStatement : CWv yX1_beginsStatement cX1_beginsStatement 2 (some .boolean) 1 := ⟨⟨lw_in 352 (by decide +kernel) rfl, lw_in 58 (by decide +kernel) rfl, by decide +kernel, by decide⟩, lw_in 350 (by decide +kernel) rfl, lw_in 351 (by decide +kernel) rfl⟩
theorem ml_X8_91 : Cond.methodLink RX8 91 yX1_beginsStatement ∈ lw_g := lw_in 349 (by decide +kernel) rfl
theorem cw_X1_comesTrue : CWv yX1_comesTrue cX1_comesTrue 3 (some .boolean) 2 := ⟨⟨lw_in 356 (by decide +kernel) rfl, lw_in 58 (by decide +kernel) rfl, by decide +kernel, by decide⟩, lw_in 354 (by decide +kernel) rfl, lw_in 355 (by decide +kernel) rfl⟩
theorem ml_X8_95 : Cond.methodLink RX8 95 yX1_comesTrue ∈ lw_g := lw_in 353 (by decide +kernel) rfl
theorem fi_X8_25 : FI RX8 25 7 4 := ⟨RX8, TX8, 12, tyX8, rfl, igX8, by decide, lw_in 278 (by decide +kernel) rfl, tyX8_ok, nmX8⟩
theorem sh_7_4 {q : Nat} (h : kd q = 7) : (rf q 4 = some (rid q 4) ∧ 4 < ln q ∧ 7 < 9) ∧ kd (rid q 4) = 2 := (by decide +kernel : ∀ q, q < NC → kd q = 7 → (rf q 4 = some (rid q 4) ∧ 4 < ln q ∧ 7 < 9) ∧ kd (rid q 4) = 2) q (kd_lt h (by decide)) h
theorem cw_X3_forget : CWv yX3_forget cX3_forget 1 none 0 := ⟨⟨lw_in 436 (by decide +kernel) rfl, lw_in 57 (by decide +kernel) rfl, by decide +kernel, by decide⟩, lw_in 434 (by decide +kernel) rfl, lw_in 435 (by decide +kernel) rfl⟩
theorem ml_X8_99 : Cond.methodLink RX8 99 yX3_forget ∈ lw_g := lw_in 433 (by decide +kernel) rfl
theorem ml_X8_102 : Cond.methodLink RX8 102 yX4_canHave ∈ lw_g := lw_in 441 (by decide +kernel) rfl
theorem fi_X8_105 : FI RX8 105 3 0 := ⟨RX4, TX4, 5, tyX4, rfl, igX4, by decide, lw_in 125 (by decide +kernel) rfl, tyX4_ok, nmX4⟩
theorem ml_X8_108 : Cond.methodLink RX8 108 yX4_renew ∈ lw_g := lw_in 442 (by decide +kernel) rfl
theorem ml_X8_111 : Cond.methodLink RX8 111 yX4_refusalOfWheel ∈ lw_g := lw_in 447 (by decide +kernel) rfl
theorem ml_X8_115 : Cond.methodLink RX8 115 yX4_addWheel ∈ lw_g := lw_in 448 (by decide +kernel) rfl
theorem fi_X8_119 : FI RX8 119 3 1 := ⟨RX4, TX4, 5, tyX4, rfl, igX4, by decide, lw_in 127 (by decide +kernel) rfl, tyX4_ok, nmX4⟩
theorem ml_X8_122 : Cond.methodLink RX8 122 yX4_wheelAt ∈ lw_g := lw_in 453 (by decide +kernel) rfl
theorem fi_X8_126 : FI RX8 126 6 0 := ⟨RX7, TX7, 6, tyX7, rfl, igX7, by decide, lw_in 89 (by decide +kernel) rfl, tyX7_ok, nmX7⟩
theorem fi_X8_129 : FI RX8 129 6 1 := ⟨RX7, TX7, 6, tyX7, rfl, igX7, by decide, lw_in 93 (by decide +kernel) rfl, tyX7_ok, nmX7⟩
theorem fi_X8_130 : FI RX8 130 6 2 := ⟨RX7, TX7, 6, tyX7, rfl, igX7, by decide, lw_in 95 (by decide +kernel) rfl, tyX7_ok, nmX7⟩
theorem fi_X8_133 : FI RX8 133 6 3 := ⟨RX7, TX7, 6, tyX7, rfl, igX7, by decide, lw_in 99 (by decide +kernel) rfl, tyX7_ok, nmX7⟩
theorem fi_X8_136 : FI RX8 136 6 4 := ⟨RX7, TX7, 6, tyX7, rfl, igX7, by decide, lw_in 104 (by decide +kernel) rfl, tyX7_ok, nmX7⟩
theorem fi_X8_139 : FI RX8 139 6 5 := ⟨RX7, TX7, 6, tyX7, rfl, igX7, by decide, lw_in 107 (by decide +kernel) rfl, tyX7_ok, nmX7⟩
theorem ml_X8_142 : Cond.methodLink RX8 142 yX7_side ∈ lw_g := lw_in 454 (by decide +kernel) rfl
theorem ml_X8_145 : Cond.methodLink RX8 145 yX4_nextBy ∈ lw_g := lw_in 458 (by decide +kernel) rfl
theorem cw_X7_exchange : CWv yX7_exchange cX7_exchange 4 (some .int) 2 := ⟨⟨lw_in 466 (by decide +kernel) rfl, lw_in 56 (by decide +kernel) rfl, by decide +kernel, by decide⟩, lw_in 464 (by decide +kernel) rfl, lw_in 465 (by decide +kernel) rfl⟩
theorem ml_X8_149 : Cond.methodLink RX8 149 yX7_exchange ∈ lw_g := lw_in 463 (by decide +kernel) rfl
theorem ml_X8_153 : Cond.methodLink RX8 153 yX4_isTooth ∈ lw_g := lw_in 471 (by decide +kernel) rfl
theorem cw_X3_keep : CWv yX3_keep cX3_keep 2 none 1 := ⟨⟨lw_in 475 (by decide +kernel) rfl, lw_in 57 (by decide +kernel) rfl, by decide +kernel, by decide⟩, lw_in 473 (by decide +kernel) rfl, lw_in 474 (by decide +kernel) rfl⟩
theorem ml_X8_156 : Cond.methodLink RX8 156 yX3_keep ∈ lw_g := lw_in 472 (by decide +kernel) rfl
theorem co_X8_350 : Cond.constantLong RX8 350 4000000000000000000 ∈ lw_g := lw_in 491 (by decide +kernel) rfl
theorem cw_X8_isOneOfTwo : CWs yX8_isOneOfTwo cX8_isOneOfTwo 1 (some .boolean) 1 := ⟨⟨lw_in 494 (by decide +kernel) rfl, lw_in 54 (by decide +kernel) rfl, by decide +kernel, by decide⟩, lw_in 493 (by decide +kernel) rfl⟩
theorem ml_X8_163 : Cond.methodLink RX8 163 yX8_isOneOfTwo ∈ lw_g := lw_in 492 (by decide +kernel) rfl
theorem cw_X7_turnsTimesSize : CWv yX7_turnsTimesSize cX7_turnsTimesSize 2 (some .int) 1 := ⟨⟨lw_in 498 (by decide +kernel) rfl, lw_in 56 (by decide +kernel) rfl, by decide +kernel, by decide⟩, lw_in 496 (by decide +kernel) rfl, lw_in 497 (by decide +kernel) rfl⟩
theorem ml_X8_166 : Cond.methodLink RX8 166 yX7_turnsTimesSize ∈ lw_g := lw_in 495 (by decide +kernel) rfl
theorem cw_X2_partOf : CWs yX2_partOf cX2_partOf 4 (some .int) 3 := ⟨⟨lw_in 501 (by decide +kernel) rfl, lw_in 65 (by decide +kernel) rfl, by decide +kernel, by decide⟩, lw_in 500 (by decide +kernel) rfl⟩
theorem ml_X8_169 : Cond.methodLink RX8 169 yX2_partOf ∈ lw_g := lw_in 499 (by decide +kernel) rfl
theorem cw_X8_refuseLong : CWv yX8_refuseLong cX8_refuseLong 2 (some .long) 1 := ⟨⟨lw_in 490 (by decide +kernel) rfl, lw_in 54 (by decide +kernel) rfl, by decide +kernel, by decide⟩, lw_in 489 (by decide +kernel) rfl, lw_in 5 (by decide +kernel) rfl⟩
theorem ml_X8_159 : Cond.methodLink RX8 159 yX8_refuseLong ∈ lw_g := lw_in 487 (by decide +kernel) rfl
theorem ml_X8_175 : Cond.methodLink RX8 175 yX4_wearOrMend ∈ lw_g := lw_in 512 (by decide +kernel) rfl
theorem fi_X8_178 : FI RX8 178 3 3 := ⟨RX4, TX4, 5, tyX4, rfl, igX4, by decide, lw_in 132 (by decide +kernel) rfl, tyX4_ok, nmX4⟩
theorem fi_X8_181 : FI RX8 181 3 2 := ⟨RX4, TX4, 5, tyX4, rfl, igX4, by decide, lw_in 130 (by decide +kernel) rfl, tyX4_ok, nmX4⟩
theorem fi_X8_45 : FI RX8 45 7 7 := ⟨RX8, TX8, 12, tyX8, rfl, igX8, by decide, lw_in 281 (by decide +kernel) rfl, tyX8_ok, nmX8⟩
theorem sh_7_7 {q : Nat} (h : kd q = 7) : (rf q 7 = some (rid q 7) ∧ 7 < ln q ∧ 7 < 9) ∧ kd (rid q 7) = 0 := (by decide +kernel : ∀ q, q < NC → kd q = 7 → (rf q 7 = some (rid q 7) ∧ 7 < ln q ∧ 7 < 9) ∧ kd (rid q 7) = 0) q (kd_lt h (by decide)) h
theorem cw_X0_trace : CWv yX0_trace cX0_trace 6 none 2 := ⟨⟨lw_in 524 (by decide +kernel) rfl, lw_in 59 (by decide +kernel) rfl, by decide +kernel, by decide⟩, lw_in 522 (by decide +kernel) rfl, lw_in 523 (by decide +kernel) rfl⟩
theorem ml_X8_184 : Cond.methodLink RX8 184 yX0_trace ∈ lw_g := lw_in 521 (by decide +kernel) rfl
theorem fi_X8_188 : FI RX8 188 0 3 := ⟨RX0, TX0, 10, tyX0, rfl, igX0, by decide, lw_in 193 (by decide +kernel) rfl, tyX0_ok, nmX0⟩
theorem fi_X8_191 : FI RX8 191 0 2 := ⟨RX0, TX0, 10, tyX0, rfl, igX0, by decide, lw_in 191 (by decide +kernel) rfl, tyX0_ok, nmX0⟩
theorem cw_X0_rounds : CWv yX0_rounds cX0_rounds 3 (some .int) 0 := ⟨⟨lw_in 551 (by decide +kernel) rfl, lw_in 59 (by decide +kernel) rfl, by decide +kernel, by decide⟩, lw_in 549 (by decide +kernel) rfl, lw_in 550 (by decide +kernel) rfl⟩
theorem ml_X8_194 : Cond.methodLink RX8 194 yX0_rounds ∈ lw_g := lw_in 548 (by decide +kernel) rfl
theorem cw_X0_cuspOfGap : CWv yX0_cuspOfGap cX0_cuspOfGap 3 (some .int) 0 := ⟨⟨lw_in 555 (by decide +kernel) rfl, lw_in 59 (by decide +kernel) rfl, by decide +kernel, by decide⟩, lw_in 553 (by decide +kernel) rfl, lw_in 554 (by decide +kernel) rfl⟩
theorem ml_X8_197 : Cond.methodLink RX8 197 yX0_cuspOfGap ∈ lw_g := lw_in 552 (by decide +kernel) rfl
theorem ml_X8_200 : Cond.methodLink RX8 200 yX0_gapAbove ∈ lw_g := lw_in 565 (by decide +kernel) rfl
theorem cw_X0_crossings : CWv yX0_crossings cX0_crossings 1 (some .int) 0 := ⟨⟨lw_in 569 (by decide +kernel) rfl, lw_in 59 (by decide +kernel) rfl, by decide +kernel, by decide⟩, lw_in 567 (by decide +kernel) rfl, lw_in 568 (by decide +kernel) rfl⟩
theorem ml_X8_203 : Cond.methodLink RX8 203 yX0_crossings ∈ lw_g := lw_in 566 (by decide +kernel) rfl
theorem cw_X0_mostCrossing : CWv yX0_mostCrossing cX0_mostCrossing 5 (some .int) 0 := ⟨⟨lw_in 590 (by decide +kernel) rfl, lw_in 59 (by decide +kernel) rfl, by decide +kernel, by decide⟩, lw_in 588 (by decide +kernel) rfl, lw_in 589 (by decide +kernel) rfl⟩
theorem ml_X8_206 : Cond.methodLink RX8 206 yX0_mostCrossing ∈ lw_g := lw_in 587 (by decide +kernel) rfl
theorem ml_X8_209 : Cond.methodLink RX8 209 yX0_hasArc ∈ lw_g := lw_in 595 (by decide +kernel) rfl
theorem fi_X8_212 : FI RX8 212 0 5 := ⟨RX0, TX0, 10, tyX0, rfl, igX0, by decide, lw_in 196 (by decide +kernel) rfl, tyX0_ok, nmX0⟩
theorem ml_X8_215 : Cond.methodLink RX8 215 yX0_crossedBy ∈ lw_g := lw_in 600 (by decide +kernel) rfl
theorem ml_X8_219 : Cond.methodLink RX8 219 yX0_cuspFrom ∈ lw_g := lw_in 605 (by decide +kernel) rfl
theorem fi_X8_49 : FI RX8 49 7 8 := ⟨RX8, TX8, 12, tyX8, rfl, igX8, by decide, lw_in 282 (by decide +kernel) rfl, tyX8_ok, nmX8⟩
theorem sh_7_8 {q : Nat} (h : kd q = 7) : (rf q 8 = some (rid q 8) ∧ 8 < ln q ∧ 7 < 9) ∧ kd (rid q 8) = 0 := (by decide +kernel : ∀ q, q < NC → kd q = 7 → (rf q 8 = some (rid q 8) ∧ 8 < ln q ∧ 7 < 9) ∧ kd (rid q 8) = 0) q (kd_lt h (by decide)) h
theorem cw_X8_tracesBoth : CWv yX8_tracesBoth cX8_tracesBoth 5 (some .boolean) 2 := ⟨⟨lw_in 613 (by decide +kernel) rfl, lw_in 54 (by decide +kernel) rfl, by decide +kernel, by decide⟩, lw_in 612 (by decide +kernel) rfl, lw_in 8 (by decide +kernel) rfl⟩
theorem ml_X8_222 : Cond.methodLink RX8 222 yX8_tracesBoth ∈ lw_g := lw_in 610 (by decide +kernel) rfl
theorem ml_X8_226 : Cond.methodLink RX8 226 yX0_crossingsWith ∈ lw_g := lw_in 614 (by decide +kernel) rfl
theorem cw_X0_shiftOnto : CWv yX0_shiftOnto cX0_shiftOnto 4 (some .int) 2 := ⟨⟨lw_in 622 (by decide +kernel) rfl, lw_in 59 (by decide +kernel) rfl, by decide +kernel, by decide⟩, lw_in 620 (by decide +kernel) rfl, lw_in 621 (by decide +kernel) rfl⟩
theorem ml_X8_230 : Cond.methodLink RX8 230 yX0_shiftOnto ∈ lw_g := lw_in 619 (by decide +kernel) rfl
theorem fi_X8_62 : FI RX8 62 7 10 := ⟨RX8, TX8, 12, tyX8, rfl, igX8, by decide, lw_in 284 (by decide +kernel) rfl, tyX8_ok, nmX8⟩
theorem sh_7_10 {q : Nat} (h : kd q = 7) : (rf q 10 = some (rid q 10) ∧ 10 < ln q ∧ 7 < 9) ∧ kd (rid q 10) = 6 := (by decide +kernel : ∀ q, q < NC → kd q = 7 → (rf q 10 = some (rid q 10) ∧ 10 < ln q ∧ 7 < 9) ∧ kd (rid q 10) = 6) q (kd_lt h (by decide)) h
theorem ml_X8_303 : Cond.methodLink RX8 303 yX7_set ∈ lw_g := lw_in 635 (by decide +kernel) rfl
theorem cw_X8_traceTrial : CWv yX8_traceTrial cX8_traceTrial 2 none 1 := ⟨⟨lw_in 634 (by decide +kernel) rfl, lw_in 54 (by decide +kernel) rfl, by decide +kernel, by decide⟩, lw_in 633 (by decide +kernel) rfl, lw_in 10 (by decide +kernel) rfl⟩
theorem ml_X8_233 : Cond.methodLink RX8 233 yX8_traceTrial ∈ lw_g := lw_in 631 (by decide +kernel) rfl
theorem cw_X4_isSet : CWv yX4_isSet cX4_isSet 2 (some .boolean) 1 := ⟨⟨lw_in 647 (by decide +kernel) rfl, lw_in 55 (by decide +kernel) rfl, by decide +kernel, by decide⟩, lw_in 645 (by decide +kernel) rfl, lw_in 646 (by decide +kernel) rfl⟩
theorem ml_X8_236 : Cond.methodLink RX8 236 yX4_isSet ∈ lw_g := lw_in 644 (by decide +kernel) rfl
theorem fi_X8_55 : FI RX8 55 7 9 := ⟨RX8, TX8, 12, tyX8, rfl, igX8, by decide, lw_in 283 (by decide +kernel) rfl, tyX8_ok, nmX8⟩
theorem sh_7_9 {q : Nat} (h : kd q = 7) : (rf q 9 = some (rid q 9) ∧ 9 < ln q ∧ 7 < 9) ∧ kd (rid q 9) = 5 := (by decide +kernel : ∀ q, q < NC → kd q = 7 → (rf q 9 = some (rid q 9) ∧ 9 < ln q ∧ 7 < 9) ∧ kd (rid q 9) = 5) q (kd_lt h (by decide)) h
theorem cw_X6_follow : CWv yX6_follow cX6_follow 5 none 3 := ⟨⟨lw_in 651 (by decide +kernel) rfl, lw_in 60 (by decide +kernel) rfl, by decide +kernel, by decide⟩, lw_in 649 (by decide +kernel) rfl, lw_in 650 (by decide +kernel) rfl⟩
theorem ml_X8_239 : Cond.methodLink RX8 239 yX6_follow ∈ lw_g := lw_in 648 (by decide +kernel) rfl
theorem fi_X8_249 : FI RX8 249 5 4 := ⟨RX6, TX6, 7, tyX6, rfl, igX6, by decide, lw_in 236 (by decide +kernel) rfl, tyX6_ok, nmX6⟩
theorem fi_X8_246 : FI RX8 246 5 3 := ⟨RX6, TX6, 7, tyX6, rfl, igX6, by decide, lw_in 234 (by decide +kernel) rfl, tyX6_ok, nmX6⟩
theorem fi_X8_243 : FI RX8 243 5 2 := ⟨RX6, TX6, 7, tyX6, rfl, igX6, by decide, lw_in 232 (by decide +kernel) rfl, tyX6_ok, nmX6⟩
theorem ml_X8_252 : Cond.methodLink RX8 252 yX6_begin ∈ lw_g := lw_in 675 (by decide +kernel) rfl
theorem ml_X8_255 : Cond.methodLink RX8 255 yX6_passTick ∈ lw_g := lw_in 676 (by decide +kernel) rfl
theorem cw_X6_meetingTooth : CWv yX6_meetingTooth cX6_meetingTooth 5 (some .int) 0 := ⟨⟨lw_in 680 (by decide +kernel) rfl, lw_in 60 (by decide +kernel) rfl, by decide +kernel, by decide⟩, lw_in 678 (by decide +kernel) rfl, lw_in 679 (by decide +kernel) rfl⟩
theorem ml_X8_258 : Cond.methodLink RX8 258 yX6_meetingTooth ∈ lw_g := lw_in 677 (by decide +kernel) rfl
theorem cw_X6_tallyFirst : CWv yX6_tallyFirst cX6_tallyFirst 3 none 1 := ⟨⟨lw_in 688 (by decide +kernel) rfl, lw_in 60 (by decide +kernel) rfl, by decide +kernel, by decide⟩, lw_in 686 (by decide +kernel) rfl, lw_in 687 (by decide +kernel) rfl⟩
theorem ml_X8_261 : Cond.methodLink RX8 261 yX6_tallyFirst ∈ lw_g := lw_in 685 (by decide +kernel) rfl
theorem fi_X8_264 : FI RX8 264 5 5 := ⟨RX6, TX6, 7, tyX6, rfl, igX6, by decide, lw_in 238 (by decide +kernel) rfl, tyX6_ok, nmX6⟩
theorem ml_X8_271 : Cond.methodLink RX8 271 yX2_placeOfMost ∈ lw_g := lw_in 692 (by decide +kernel) rfl
theorem ml_X8_267 : Cond.methodLink RX8 267 yX2_placesOf ∈ lw_g := lw_in 689 (by decide +kernel) rfl
theorem ml_X8_275 : Cond.methodLink RX8 275 yX4_rollTruly ∈ lw_g := lw_in 699 (by decide +kernel) rfl
theorem cw_X4_inkedTeeth : CWv yX4_inkedTeeth cX4_inkedTeeth 1 (some .int) 0 := ⟨⟨lw_in 707 (by decide +kernel) rfl, lw_in 55 (by decide +kernel) rfl, by decide +kernel, by decide⟩, lw_in 705 (by decide +kernel) rfl, lw_in 706 (by decide +kernel) rfl⟩
theorem ml_X8_279 : Cond.methodLink RX8 279 yX4_inkedTeeth ∈ lw_g := lw_in 704 (by decide +kernel) rfl
theorem cw_X4_inkedFrom : CWv yX4_inkedFrom cX4_inkedFrom 3 (some .int) 1 := ⟨⟨lw_in 712 (by decide +kernel) rfl, lw_in 55 (by decide +kernel) rfl, by decide +kernel, by decide⟩, lw_in 710 (by decide +kernel) rfl, lw_in 711 (by decide +kernel) rfl⟩
theorem ml_X8_282 : Cond.methodLink RX8 282 yX4_inkedFrom ∈ lw_g := lw_in 709 (by decide +kernel) rfl
theorem cw_X4_lastInked : CWv yX4_lastInked cX4_lastInked 2 (some .int) 0 := ⟨⟨lw_in 717 (by decide +kernel) rfl, lw_in 55 (by decide +kernel) rfl, by decide +kernel, by decide⟩, lw_in 715 (by decide +kernel) rfl, lw_in 716 (by decide +kernel) rfl⟩
theorem ml_X8_285 : Cond.methodLink RX8 285 yX4_lastInked ∈ lw_g := lw_in 714 (by decide +kernel) rfl
theorem cw_X4_blot : CWv yX4_blot cX4_blot 2 (some .int) 0 := ⟨⟨lw_in 721 (by decide +kernel) rfl, lw_in 55 (by decide +kernel) rfl, by decide +kernel, by decide⟩, lw_in 719 (by decide +kernel) rfl, lw_in 720 (by decide +kernel) rfl⟩
theorem ml_X8_288 : Cond.methodLink RX8 288 yX4_blot ∈ lw_g := lw_in 718 (by decide +kernel) rfl
theorem fi_X8_38 : FI RX8 38 7 6 := ⟨RX8, TX8, 12, tyX8, rfl, igX8, by decide, lw_in 280 (by decide +kernel) rfl, tyX8_ok, nmX8⟩
theorem sh_7_6 {q : Nat} (h : kd q = 7) : (rf q 6 = some (rid q 6) ∧ 6 < ln q ∧ 7 < 9) ∧ kd (rid q 6) = 14 := (by decide +kernel : ∀ q, q < NC → kd q = 7 → (rf q 6 = some (rid q 6) ∧ 6 < ln q ∧ 7 < 9) ∧ kd (rid q 6) = 14) q (kd_lt h (by decide)) h
theorem sha_14 {q j : Nat} (h : kd q = 14) (hj : j < ln q) : rf q j = some (rid q j) ∧ kd (rid q j) = 4 := (by decide +kernel : ∀ q, q < NC → kd q = 14 → ∀ j, j < ln q → rf q j = some (rid q j) ∧ kd (rid q j) = 4) q (kd_lt h (by decide)) h j hj
theorem cw_X8_rowAt : CWv yX8_rowAt cX8_rowAt 2 (some (.object "WheelOnWheel$Row")) 1 := ⟨⟨lw_in 734 (by decide +kernel) rfl, lw_in 54 (by decide +kernel) rfl, by decide +kernel, by decide⟩, lw_in 733 (by decide +kernel) rfl, lw_in 13 (by decide +kernel) rfl⟩
theorem ml_X8_291 : Cond.methodLink RX8 291 yX8_rowAt ∈ lw_g := lw_in 731 (by decide +kernel) rfl
theorem cw_X5_isMissing : CWv yX5_isMissing cX5_isMissing 1 (some .boolean) 0 := ⟨⟨lw_in 738 (by decide +kernel) rfl, lw_in 61 (by decide +kernel) rfl, by decide +kernel, by decide⟩, lw_in 736 (by decide +kernel) rfl, lw_in 737 (by decide +kernel) rfl⟩
theorem ml_X8_295 : Cond.methodLink RX8 295 yX5_isMissing ∈ lw_g := lw_in 735 (by decide +kernel) rfl
theorem cw_X4_tellsTeeth : CWv yX4_tellsTeeth cX4_tellsTeeth 3 (some .boolean) 1 := ⟨⟨lw_in 742 (by decide +kernel) rfl, lw_in 55 (by decide +kernel) rfl, by decide +kernel, by decide⟩, lw_in 740 (by decide +kernel) rfl, lw_in 741 (by decide +kernel) rfl⟩
theorem ml_X8_299 : Cond.methodLink RX8 299 yX4_tellsTeeth ∈ lw_g := lw_in 739 (by decide +kernel) rfl
theorem cw_X4_leads : CWv yX4_leads cX4_leads 4 (some .boolean) 2 := ⟨⟨lw_in 746 (by decide +kernel) rfl, lw_in 55 (by decide +kernel) rfl, by decide +kernel, by decide⟩, lw_in 744 (by decide +kernel) rfl, lw_in 745 (by decide +kernel) rfl⟩
theorem ml_X8_306 : Cond.methodLink RX8 306 yX4_leads ∈ lw_g := lw_in 743 (by decide +kernel) rfl
theorem cw_X8_figuresThatLead : CWv yX8_figuresThatLead cX8_figuresThatLead 5 (some .int) 2 := ⟨⟨lw_in 758 (by decide +kernel) rfl, lw_in 54 (by decide +kernel) rfl, by decide +kernel, by decide⟩, lw_in 757 (by decide +kernel) rfl, lw_in 15 (by decide +kernel) rfl⟩
theorem ml_X8_314 : Cond.methodLink RX8 314 yX8_figuresThatLead ∈ lw_g := lw_in 755 (by decide +kernel) rfl
theorem cw_X8_kindsThatLead : CWv yX8_kindsThatLead cX8_kindsThatLead 5 (some .int) 2 := ⟨⟨lw_in 754 (by decide +kernel) rfl, lw_in 54 (by decide +kernel) rfl, by decide +kernel, by decide⟩, lw_in 753 (by decide +kernel) rfl, lw_in 14 (by decide +kernel) rfl⟩
theorem ml_X8_310 : Cond.methodLink RX8 310 yX8_kindsThatLead ∈ lw_g := lw_in 751 (by decide +kernel) rfl
theorem cw_X0_crossingsOfInner : CWv yX0_crossingsOfInner cX0_crossingsOfInner 1 (some .int) 0 := ⟨⟨lw_in 766 (by decide +kernel) rfl, lw_in 59 (by decide +kernel) rfl, by decide +kernel, by decide⟩, lw_in 764 (by decide +kernel) rfl, lw_in 765 (by decide +kernel) rfl⟩
theorem ml_X8_317 : Cond.methodLink RX8 317 yX0_crossingsOfInner ∈ lw_g := lw_in 763 (by decide +kernel) rfl
theorem fi_X8_320 : FI RX8 320 4 0 := ⟨RX5, TX5, 2, tyX5, rfl, igX5, by decide, lw_in 265 (by decide +kernel) rfl, tyX5_ok, nmX5⟩
theorem fi_X8_321 : FI RX8 321 4 1 := ⟨RX5, TX5, 2, tyX5, rfl, igX5, by decide, lw_in 268 (by decide +kernel) rfl, tyX5_ok, nmX5⟩
theorem cw_X6_castLots : CWv yX6_castLots cX6_castLots 9 none 3 := ⟨⟨lw_in 778 (by decide +kernel) rfl, lw_in 60 (by decide +kernel) rfl, by decide +kernel, by decide⟩, lw_in 776 (by decide +kernel) rfl, lw_in 777 (by decide +kernel) rfl⟩
theorem ml_X8_324 : Cond.methodLink RX8 324 yX6_castLots ∈ lw_g := lw_in 775 (by decide +kernel) rfl
theorem cw_X5_renew : CWv yX5_renew cX5_renew 2 none 1 := ⟨⟨lw_in 796 (by decide +kernel) rfl, lw_in 61 (by decide +kernel) rfl, by decide +kernel, by decide⟩, lw_in 794 (by decide +kernel) rfl, lw_in 795 (by decide +kernel) rfl⟩
theorem ml_X8_327 : Cond.methodLink RX8 327 yX5_renew ∈ lw_g := lw_in 793 (by decide +kernel) rfl
theorem cw_X5_hasPlace : CWv yX5_hasPlace cX5_hasPlace 2 (some .boolean) 1 := ⟨⟨lw_in 808 (by decide +kernel) rfl, lw_in 61 (by decide +kernel) rfl, by decide +kernel, by decide⟩, lw_in 806 (by decide +kernel) rfl, lw_in 807 (by decide +kernel) rfl⟩
theorem ml_X8_352 : Cond.methodLink RX8 352 yX5_hasPlace ∈ lw_g := lw_in 805 (by decide +kernel) rfl
theorem cw_X8_refusalOfPlace : CWs yX8_refusalOfPlace cX8_refusalOfPlace 2 (some .int) 2 := ⟨⟨lw_in 804 (by decide +kernel) rfl, lw_in 54 (by decide +kernel) rfl, by decide +kernel, by decide⟩, lw_in 803 (by decide +kernel) rfl⟩
theorem ml_X8_328 : Cond.methodLink RX8 328 yX8_refusalOfPlace ∈ lw_g := lw_in 802 (by decide +kernel) rfl
theorem ml_X8_332 : Cond.methodLink RX8 332 yJ9_min_7cf53 ∈ lw_g := lw_in 817 (by decide +kernel) rfl
theorem fi_X8_337 : FI RX8 337 2 1 := ⟨RX3, TX3, 3, tyX3, rfl, igX3, by decide, lw_in 157 (by decide +kernel) rfl, tyX3_ok, nmX3⟩
theorem cw_X3_giveBack : CWv yX3_giveBack cX3_giveBack 2 none 1 := ⟨⟨lw_in 825 (by decide +kernel) rfl, lw_in 57 (by decide +kernel) rfl, by decide +kernel, by decide⟩, lw_in 823 (by decide +kernel) rfl, lw_in 824 (by decide +kernel) rfl⟩
theorem ml_X8_340 : Cond.methodLink RX8 340 yX3_giveBack ∈ lw_g := lw_in 822 (by decide +kernel) rfl
theorem fi_X8_19 : FI RX8 19 7 2 := ⟨RX8, TX8, 12, tyX8, rfl, igX8, by decide, lw_in 276 (by decide +kernel) rfl, tyX8_ok, nmX8⟩
theorem sh_7_2 {q : Nat} (h : kd q = 7) : (rf q 2 = some (rid q 2) ∧ 2 < ln q ∧ 7 < 9) ∧ kd (rid q 2) = 3 := (by decide +kernel : ∀ q, q < NC → kd q = 7 → (rf q 2 = some (rid q 2) ∧ 2 < ln q ∧ 7 < 9) ∧ kd (rid q 2) = 3) q (kd_lt h (by decide)) h
theorem fi_X8_343 : FI RX8 343 7 3 := ⟨RX8, TX8, 12, tyX8, rfl, igX8, by decide, lw_in 277 (by decide +kernel) rfl, tyX8_ok, nmX8⟩
theorem sh_7_3 {q : Nat} (h : kd q = 7) : rf q 3 = none ∧ 3 < ln q ∧ 7 < 9 := (by decide +kernel : ∀ q, q < NC → kd q = 7 → rf q 3 = none ∧ 3 < ln q ∧ 7 < 9) q (kd_lt h (by decide)) h
theorem fw1_7_3 : FW 7 3 1 := ⟨RX8, TX8, 12, .boolean, rfl, rfl, by decide +kernel, by decide +kernel, by decide +kernel⟩
theorem cw_X4_allInk : CWv yX4_allInk cX4_allInk 3 (some .int) 0 := ⟨⟨lw_in 841 (by decide +kernel) rfl, lw_in 55 (by decide +kernel) rfl, by decide +kernel, by decide⟩, lw_in 839 (by decide +kernel) rfl, lw_in 840 (by decide +kernel) rfl⟩
theorem ml_X8_347 : Cond.methodLink RX8 347 yX4_allInk ∈ lw_g := lw_in 838 (by decide +kernel) rfl
theorem fi_X9_56 : FI RX9 56 8 19 := ⟨RX9, TX9, 38, tyX9, rfl, igX9, by decide, lw_in 867 (by decide +kernel) rfl, tyX9_ok, nmX9⟩
theorem sh_8_19 {q : Nat} (h : kd q = 8) : (rf q 19 = some (rid q 19) ∧ 19 < ln q ∧ 8 < 9) ∧ kd (rid q 19) = 9 := (by decide +kernel : ∀ q, q < NC → kd q = 8 → (rf q 19 = some (rid q 19) ∧ 19 < ln q ∧ 8 < 9) ∧ kd (rid q 19) = 9) q (kd_lt h (by decide)) h
theorem co_X9_102 : Cond.constantLong RX9 102 4000000000000000000 ∈ lw_g := lw_in 1077 (by decide +kernel) rfl
theorem cw_X9_no : CWv yX9_no cX9_no 2 (some .int) 1 := ⟨⟨lw_in 970 (by decide +kernel) rfl, lw_in 62 (by decide +kernel) rfl, by decide +kernel, by decide⟩, lw_in 969 (by decide +kernel) rfl, lw_in 16 (by decide +kernel) rfl⟩
theorem ml_X9_104 : Cond.methodLink RX9 104 yX9_no ∈ lw_g := lw_in 967 (by decide +kernel) rfl
theorem fi_X9_108 : FI RX9 108 8 3 := ⟨RX9, TX9, 38, tyX9, rfl, igX9, by decide, lw_in 851 (by decide +kernel) rfl, tyX9_ok, nmX9⟩
theorem sh_8_3 {q : Nat} (h : kd q = 8) : rf q 3 = none ∧ 3 < ln q ∧ 8 < 9 := (by decide +kernel : ∀ q, q < NC → kd q = 8 → rf q 3 = none ∧ 3 < ln q ∧ 8 < 9) q (kd_lt h (by decide)) h
theorem cw_X9_within : CWs yX9_within cX9_within 3 (some .boolean) 3 := ⟨⟨lw_in 984 (by decide +kernel) rfl, lw_in 62 (by decide +kernel) rfl, by decide +kernel, by decide⟩, lw_in 983 (by decide +kernel) rfl⟩
theorem ml_X9_111 : Cond.methodLink RX9 111 yX9_within ∈ lw_g := lw_in 982 (by decide +kernel) rfl
theorem fi_X9_7 : FI RX9 7 8 0 := ⟨RX9, TX9, 38, tyX9, rfl, igX9, by decide, lw_in 848 (by decide +kernel) rfl, tyX9_ok, nmX9⟩
theorem sh_8_0 {q : Nat} (h : kd q = 8) : rf q 0 = none ∧ 0 < ln q ∧ 8 < 9 := (by decide +kernel : ∀ q, q < NC → kd q = 8 → rf q 0 = none ∧ 0 < ln q ∧ 8 < 9) q (kd_lt h (by decide)) h
theorem fi_X9_115 : FI RX9 115 8 11 := ⟨RX9, TX9, 38, tyX9, rfl, igX9, by decide, lw_in 859 (by decide +kernel) rfl, tyX9_ok, nmX9⟩
theorem sh_8_11 {q : Nat} (h : kd q = 8) : rf q 11 = none ∧ 11 < ln q ∧ 8 < 9 := (by decide +kernel : ∀ q, q < NC → kd q = 8 → rf q 11 = none ∧ 11 < ln q ∧ 8 < 9) q (kd_lt h (by decide)) h
theorem fi_X9_38 : FI RX9 38 8 10 := ⟨RX9, TX9, 38, tyX9, rfl, igX9, by decide, lw_in 858 (by decide +kernel) rfl, tyX9_ok, nmX9⟩
theorem sh_8_10 {q : Nat} (h : kd q = 8) : (rf q 10 = some (rid q 10) ∧ 10 < ln q ∧ 8 < 9) ∧ kd (rid q 10) = 9 := (by decide +kernel : ∀ q, q < NC → kd q = 8 → (rf q 10 = some (rid q 10) ∧ 10 < ln q ∧ 8 < 9) ∧ kd (rid q 10) = 9) q (kd_lt h (by decide)) h
theorem fw_8_11 (v : Int32) : FW 8 11 v := ⟨RX9, TX9, 38, .int, rfl, rfl, by decide +kernel, rfl, rfl⟩
theorem cw_X9_digitsOf : CWs yX9_digitsOf cX9_digitsOf 1 (some .int) 1 := ⟨⟨lw_in 981 (by decide +kernel) rfl, lw_in 62 (by decide +kernel) rfl, by decide +kernel, by decide⟩, lw_in 980 (by decide +kernel) rfl⟩
theorem ml_X9_118 : Cond.methodLink RX9 118 yX9_digitsOf ∈ lw_g := lw_in 979 (by decide +kernel) rfl
theorem cw_X9_one : CWv yX9_one cX9_one 2 (some .int) 1 := ⟨⟨lw_in 1000 (by decide +kernel) rfl, lw_in 62 (by decide +kernel) rfl, by decide +kernel, by decide⟩, lw_in 999 (by decide +kernel) rfl, lw_in 21 (by decide +kernel) rfl⟩
theorem ml_X9_121 : Cond.methodLink RX9 121 yX9_one ∈ lw_g := lw_in 997 (by decide +kernel) rfl
theorem fi_X9_23 : FI RX9 23 8 5 := ⟨RX9, TX9, 38, tyX9, rfl, igX9, by decide, lw_in 853 (by decide +kernel) rfl, tyX9_ok, nmX9⟩
theorem sh_8_5 {q : Nat} (h : kd q = 8) : (rf q 5 = some (rid q 5) ∧ 5 < ln q ∧ 8 < 9) ∧ kd (rid q 5) = 9 := (by decide +kernel : ∀ q, q < NC → kd q = 8 → (rf q 5 = some (rid q 5) ∧ 5 < ln q ∧ 8 < 9) ∧ kd (rid q 5) = 9) q (kd_lt h (by decide)) h
theorem fi_X9_32 : FI RX9 32 8 8 := ⟨RX9, TX9, 38, tyX9, rfl, igX9, by decide, lw_in 856 (by decide +kernel) rfl, tyX9_ok, nmX9⟩
theorem sh_8_8 {q : Nat} (h : kd q = 8) : (rf q 8 = some (rid q 8) ∧ 8 < ln q ∧ 8 < 9) ∧ kd (rid q 8) = 9 := (by decide +kernel : ∀ q, q < NC → kd q = 8 → (rf q 8 = some (rid q 8) ∧ 8 < ln q ∧ 8 < 9) ∧ kd (rid q 8) = 9) q (kd_lt h (by decide)) h
theorem fw_8_0 (v : Int32) : FW 8 0 v := ⟨RX9, TX9, 38, .int, rfl, rfl, by decide +kernel, rfl, rfl⟩
theorem fi_X9_13 : FI RX9 13 8 1 := ⟨RX9, TX9, 38, tyX9, rfl, igX9, by decide, lw_in 849 (by decide +kernel) rfl, tyX9_ok, nmX9⟩
theorem sh_8_1 {q : Nat} (h : kd q = 8) : (rf q 1 = some (rid q 1) ∧ 1 < ln q ∧ 8 < 9) ∧ kd (rid q 1) = 9 := (by decide +kernel : ∀ q, q < NC → kd q = 8 → (rf q 1 = some (rid q 1) ∧ 1 < ln q ∧ 8 < 9) ∧ kd (rid q 1) = 9) q (kd_lt h (by decide)) h
theorem fi_X9_17 : FI RX9 17 8 2 := ⟨RX9, TX9, 38, tyX9, rfl, igX9, by decide, lw_in 850 (by decide +kernel) rfl, tyX9_ok, nmX9⟩
theorem sh_8_2 {q : Nat} (h : kd q = 8) : (rf q 2 = some (rid q 2) ∧ 2 < ln q ∧ 8 < 9) ∧ kd (rid q 2) = 9 := (by decide +kernel : ∀ q, q < NC → kd q = 8 → (rf q 2 = some (rid q 2) ∧ 2 < ln q ∧ 8 < 9) ∧ kd (rid q 2) = 9) q (kd_lt h (by decide)) h
theorem fi_X9_20 : FI RX9 20 8 4 := ⟨RX9, TX9, 38, tyX9, rfl, igX9, by decide, lw_in 852 (by decide +kernel) rfl, tyX9_ok, nmX9⟩
theorem sh_8_4 {q : Nat} (h : kd q = 8) : (rf q 4 = some (rid q 4) ∧ 4 < ln q ∧ 8 < 9) ∧ kd (rid q 4) = 9 := (by decide +kernel : ∀ q, q < NC → kd q = 8 → (rf q 4 = some (rid q 4) ∧ 4 < ln q ∧ 8 < 9) ∧ kd (rid q 4) = 9) q (kd_lt h (by decide)) h
theorem fi_X9_26 : FI RX9 26 8 6 := ⟨RX9, TX9, 38, tyX9, rfl, igX9, by decide, lw_in 854 (by decide +kernel) rfl, tyX9_ok, nmX9⟩
theorem sh_8_6 {q : Nat} (h : kd q = 8) : (rf q 6 = some (rid q 6) ∧ 6 < ln q ∧ 8 < 9) ∧ kd (rid q 6) = 9 := (by decide +kernel : ∀ q, q < NC → kd q = 8 → (rf q 6 = some (rid q 6) ∧ 6 < ln q ∧ 8 < 9) ∧ kd (rid q 6) = 9) q (kd_lt h (by decide)) h
theorem fi_X9_29 : FI RX9 29 8 7 := ⟨RX9, TX9, 38, tyX9, rfl, igX9, by decide, lw_in 855 (by decide +kernel) rfl, tyX9_ok, nmX9⟩
theorem sh_8_7 {q : Nat} (h : kd q = 8) : (rf q 7 = some (rid q 7) ∧ 7 < ln q ∧ 8 < 9) ∧ kd (rid q 7) = 9 := (by decide +kernel : ∀ q, q < NC → kd q = 8 → (rf q 7 = some (rid q 7) ∧ 7 < ln q ∧ 8 < 9) ∧ kd (rid q 7) = 9) q (kd_lt h (by decide)) h
theorem fi_X9_35 : FI RX9 35 8 9 := ⟨RX9, TX9, 38, tyX9, rfl, igX9, by decide, lw_in 857 (by decide +kernel) rfl, tyX9_ok, nmX9⟩
theorem sh_8_9 {q : Nat} (h : kd q = 8) : (rf q 9 = some (rid q 9) ∧ 9 < ln q ∧ 8 < 9) ∧ kd (rid q 9) = 9 := (by decide +kernel : ∀ q, q < NC → kd q = 8 → (rf q 9 = some (rid q 9) ∧ 9 < ln q ∧ 8 < 9) ∧ kd (rid q 9) = 9) q (kd_lt h (by decide)) h
theorem fw_8_3 (v : Int32) : FW 8 3 v := ⟨RX9, TX9, 38, .int, rfl, rfl, by decide +kernel, rfl, rfl⟩
theorem cw_X9_nextOf : CWv yX9_nextOf cX9_nextOf 7 (some .int) 4 := ⟨⟨lw_in 1024 (by decide +kernel) rfl, lw_in 62 (by decide +kernel) rfl, by decide +kernel, by decide⟩, lw_in 1023 (by decide +kernel) rfl, lw_in 27 (by decide +kernel) rfl⟩
theorem ml_X9_172 : Cond.methodLink RX9 172 yX9_nextOf ∈ lw_g := lw_in 1021 (by decide +kernel) rfl
theorem cw_X9_nextBy : CWv yX9_nextBy cX9_nextBy 3 (some .int) 2 := ⟨⟨lw_in 1020 (by decide +kernel) rfl, lw_in 62 (by decide +kernel) rfl, by decide +kernel, by decide⟩, lw_in 1019 (by decide +kernel) rfl, lw_in 26 (by decide +kernel) rfl⟩
theorem ml_X9_124 : Cond.methodLink RX9 124 yX9_nextBy ∈ lw_g := lw_in 1017 (by decide +kernel) rfl
theorem ml_X9_128 : Cond.methodLink RX9 128 yJ9_min_7cf53 ∈ lw_g := lw_in 1025 (by decide +kernel) rfl
theorem cw_X9_two : CWv yX9_two cX9_two 2 (some .int) 1 := ⟨⟨lw_in 996 (by decide +kernel) rfl, lw_in 62 (by decide +kernel) rfl, by decide +kernel, by decide⟩, lw_in 995 (by decide +kernel) rfl, lw_in 20 (by decide +kernel) rfl⟩
theorem ml_X9_133 : Cond.methodLink RX9 133 yX9_two ∈ lw_g := lw_in 993 (by decide +kernel) rfl
theorem cw_X9_fitsAll : CWv yX9_fitsAll cX9_fitsAll 3 (some .boolean) 1 := ⟨⟨lw_in 1004 (by decide +kernel) rfl, lw_in 62 (by decide +kernel) rfl, by decide +kernel, by decide⟩, lw_in 1003 (by decide +kernel) rfl, lw_in 22 (by decide +kernel) rfl⟩
theorem ml_X9_136 : Cond.methodLink RX9 136 yX9_fitsAll ∈ lw_g := lw_in 1001 (by decide +kernel) rfl
theorem cw_X9_becomes : CWv yX9_becomes cX9_becomes 3 none 1 := ⟨⟨lw_in 1008 (by decide +kernel) rfl, lw_in 62 (by decide +kernel) rfl, by decide +kernel, by decide⟩, lw_in 1007 (by decide +kernel) rfl, lw_in 23 (by decide +kernel) rfl⟩
theorem ml_X9_140 : Cond.methodLink RX9 140 yX9_becomes ∈ lw_g := lw_in 1005 (by decide +kernel) rfl
theorem cw_X9_comes : CWv yX9_comes cX9_comes 6 none 5 := ⟨⟨lw_in 1012 (by decide +kernel) rfl, lw_in 62 (by decide +kernel) rfl, by decide +kernel, by decide⟩, lw_in 1011 (by decide +kernel) rfl, lw_in 24 (by decide +kernel) rfl⟩
theorem ml_X9_144 : Cond.methodLink RX9 144 yX9_comes ∈ lw_g := lw_in 1009 (by decide +kernel) rfl
theorem cw_X9_goesOn : CWv yX9_goesOn cX9_goesOn 5 none 2 := ⟨⟨lw_in 1016 (by decide +kernel) rfl, lw_in 62 (by decide +kernel) rfl, by decide +kernel, by decide⟩, lw_in 1015 (by decide +kernel) rfl, lw_in 25 (by decide +kernel) rfl⟩
theorem ml_X9_148 : Cond.methodLink RX9 148 yX9_goesOn ∈ lw_g := lw_in 1013 (by decide +kernel) rfl
theorem cw_X9_badLetter : CWv yX9_badLetter cX9_badLetter 4 (some .int) 0 := ⟨⟨lw_in 978 (by decide +kernel) rfl, lw_in 62 (by decide +kernel) rfl, by decide +kernel, by decide⟩, lw_in 977 (by decide +kernel) rfl, lw_in 17 (by decide +kernel) rfl⟩
theorem ml_X9_152 : Cond.methodLink RX9 152 yX9_badLetter ∈ lw_g := lw_in 975 (by decide +kernel) rfl
theorem fi_X9_53 : FI RX9 53 8 17 := ⟨RX9, TX9, 38, tyX9, rfl, igX9, by decide, lw_in 865 (by decide +kernel) rfl, tyX9_ok, nmX9⟩
theorem sh_8_17 {q : Nat} (h : kd q = 8) : (rf q 17 = some (rid q 17) ∧ 17 < ln q ∧ 8 < 9) ∧ kd (rid q 17) = 9 := (by decide +kernel : ∀ q, q < NC → kd q = 8 → (rf q 17 = some (rid q 17) ∧ 17 < ln q ∧ 8 < 9) ∧ kd (rid q 17) = 9) q (kd_lt h (by decide)) h
theorem cw_X9_keep : CWv yX9_keep cX9_keep 3 none 1 := ⟨⟨lw_in 988 (by decide +kernel) rfl, lw_in 62 (by decide +kernel) rfl, by decide +kernel, by decide⟩, lw_in 987 (by decide +kernel) rfl, lw_in 18 (by decide +kernel) rfl⟩
theorem ml_X9_156 : Cond.methodLink RX9 156 yX9_keep ∈ lw_g := lw_in 985 (by decide +kernel) rfl
theorem cw_X9_does : CWv yX9_does cX9_does 7 (some .boolean) 1 := ⟨⟨lw_in 992 (by decide +kernel) rfl, lw_in 62 (by decide +kernel) rfl, by decide +kernel, by decide⟩, lw_in 991 (by decide +kernel) rfl, lw_in 19 (by decide +kernel) rfl⟩
theorem ml_X9_160 : Cond.methodLink RX9 160 yX9_does ∈ lw_g := lw_in 989 (by decide +kernel) rfl
theorem fi_X9_166 : FI RX9 166 8 15 := ⟨RX9, TX9, 38, tyX9, rfl, igX9, by decide, lw_in 863 (by decide +kernel) rfl, tyX9_ok, nmX9⟩
theorem sh_8_15 {q : Nat} (h : kd q = 8) : rf q 15 = none ∧ 15 < ln q ∧ 8 < 9 := (by decide +kernel : ∀ q, q < NC → kd q = 8 → rf q 15 = none ∧ 15 < ln q ∧ 8 < 9) q (kd_lt h (by decide)) h
theorem fw_8_15 (v : Int32) : FW 8 15 v := ⟨RX9, TX9, 38, .int, rfl, rfl, by decide +kernel, rfl, rfl⟩
theorem cw_X9_again : CWv yX9_again cX9_again 3 none 1 := ⟨⟨lw_in 1029 (by decide +kernel) rfl, lw_in 62 (by decide +kernel) rfl, by decide +kernel, by decide⟩, lw_in 1028 (by decide +kernel) rfl, lw_in 28 (by decide +kernel) rfl⟩
theorem ml_X9_163 : Cond.methodLink RX9 163 yX9_again ∈ lw_g := lw_in 1026 (by decide +kernel) rfl
theorem cw_X9_isTooth : CWv yX9_isTooth cX9_isTooth 2 (some .boolean) 1 := ⟨⟨lw_in 1041 (by decide +kernel) rfl, lw_in 62 (by decide +kernel) rfl, by decide +kernel, by decide⟩, lw_in 1040 (by decide +kernel) rfl, lw_in 29 (by decide +kernel) rfl⟩
theorem ml_X9_169 : Cond.methodLink RX9 169 yX9_isTooth ∈ lw_g := lw_in 1038 (by decide +kernel) rfl
theorem cw_X9_isWheel : CWv yX9_isWheel cX9_isWheel 2 (some .boolean) 1 := ⟨⟨lw_in 1049 (by decide +kernel) rfl, lw_in 62 (by decide +kernel) rfl, by decide +kernel, by decide⟩, lw_in 1048 (by decide +kernel) rfl, lw_in 30 (by decide +kernel) rfl⟩
theorem ml_X9_176 : Cond.methodLink RX9 176 yX9_isWheel ∈ lw_g := lw_in 1046 (by decide +kernel) rfl
theorem cw_X9_sideOf : CWs yX9_sideOf cX9_sideOf 1 (some .int) 1 := ⟨⟨lw_in 1052 (by decide +kernel) rfl, lw_in 62 (by decide +kernel) rfl, by decide +kernel, by decide⟩, lw_in 1051 (by decide +kernel) rfl⟩
theorem ml_X9_179 : Cond.methodLink RX9 179 yX9_sideOf ∈ lw_g := lw_in 1050 (by decide +kernel) rfl
theorem fi_X9_47 : FI RX9 47 8 14 := ⟨RX9, TX9, 38, tyX9, rfl, igX9, by decide, lw_in 862 (by decide +kernel) rfl, tyX9_ok, nmX9⟩
theorem sh_8_14 {q : Nat} (h : kd q = 8) : (rf q 14 = some (rid q 14) ∧ 14 < ln q ∧ 8 < 9) ∧ kd (rid q 14) = 9 := (by decide +kernel : ∀ q, q < NC → kd q = 8 → (rf q 14 = some (rid q 14) ∧ 14 < ln q ∧ 8 < 9) ∧ kd (rid q 14) = 9) q (kd_lt h (by decide)) h
theorem cw_X9_layBy : CWv yX9_layBy cX9_layBy 3 none 0 := ⟨⟨lw_in 1064 (by decide +kernel) rfl, lw_in 62 (by decide +kernel) rfl, by decide +kernel, by decide⟩, lw_in 1063 (by decide +kernel) rfl, lw_in 31 (by decide +kernel) rfl⟩
theorem ml_X9_182 : Cond.methodLink RX9 182 yX9_layBy ∈ lw_g := lw_in 1061 (by decide +kernel) rfl
theorem cw_X9_lowest : CWs yX9_lowest cX9_lowest 6 (some .long) 3 := ⟨⟨lw_in 1080 (by decide +kernel) rfl, lw_in 62 (by decide +kernel) rfl, by decide +kernel, by decide⟩, lw_in 1079 (by decide +kernel) rfl⟩
theorem ml_X9_189 : Cond.methodLink RX9 189 yX9_lowest ∈ lw_g := lw_in 1078 (by decide +kernel) rfl
theorem cw_X9_noFar : CWv yX9_noFar cX9_noFar 2 (some .long) 1 := ⟨⟨lw_in 1076 (by decide +kernel) rfl, lw_in 62 (by decide +kernel) rfl, by decide +kernel, by decide⟩, lw_in 1075 (by decide +kernel) rfl, lw_in 32 (by decide +kernel) rfl⟩
theorem ml_X9_185 : Cond.methodLink RX9 185 yX9_noFar ∈ lw_g := lw_in 1073 (by decide +kernel) rfl
theorem fi_X9_65 : FI RX9 65 8 22 := ⟨RX9, TX9, 38, tyX9, rfl, igX9, by decide, lw_in 870 (by decide +kernel) rfl, tyX9_ok, nmX9⟩
theorem sh_8_22 {q : Nat} (h : kd q = 8) : (rf q 22 = some (rid q 22) ∧ 22 < ln q ∧ 8 < 9) ∧ kd (rid q 22) = 9 := (by decide +kernel : ∀ q, q < NC → kd q = 8 → (rf q 22 = some (rid q 22) ∧ 22 < ln q ∧ 8 < 9) ∧ kd (rid q 22) = 9) q (kd_lt h (by decide)) h
theorem fi_X9_193 : FI RX9 193 8 23 := ⟨RX9, TX9, 38, tyX9, rfl, igX9, by decide, lw_in 871 (by decide +kernel) rfl, tyX9_ok, nmX9⟩
theorem sh_8_23 {q : Nat} (h : kd q = 8) : rf q 23 = none ∧ 23 < ln q ∧ 8 < 9 := (by decide +kernel : ∀ q, q < NC → kd q = 8 → rf q 23 = none ∧ 23 < ln q ∧ 8 < 9) q (kd_lt h (by decide)) h
theorem fw_8_23 (v : Int32) : FW 8 23 v := ⟨RX9, TX9, 38, .int, rfl, rfl, by decide +kernel, rfl, rfl⟩
theorem fi_X9_59 : FI RX9 59 8 20 := ⟨RX9, TX9, 38, tyX9, rfl, igX9, by decide, lw_in 868 (by decide +kernel) rfl, tyX9_ok, nmX9⟩
theorem sh_8_20 {q : Nat} (h : kd q = 8) : (rf q 20 = some (rid q 20) ∧ 20 < ln q ∧ 8 < 9) ∧ kd (rid q 20) = 9 := (by decide +kernel : ∀ q, q < NC → kd q = 8 → (rf q 20 = some (rid q 20) ∧ 20 < ln q ∧ 8 < 9) ∧ kd (rid q 20) = 9) q (kd_lt h (by decide)) h
theorem fi_X9_62 : FI RX9 62 8 21 := ⟨RX9, TX9, 38, tyX9, rfl, igX9, by decide, lw_in 869 (by decide +kernel) rfl, tyX9_ok, nmX9⟩
theorem sh_8_21 {q : Nat} (h : kd q = 8) : (rf q 21 = some (rid q 21) ∧ 21 < ln q ∧ 8 < 9) ∧ kd (rid q 21) = 9 := (by decide +kernel : ∀ q, q < NC → kd q = 8 → (rf q 21 = some (rid q 21) ∧ 21 < ln q ∧ 8 < 9) ∧ kd (rid q 21) = 9) q (kd_lt h (by decide)) h
theorem fi_X9_196 : FI RX9 196 8 24 := ⟨RX9, TX9, 38, tyX9, rfl, igX9, by decide, lw_in 872 (by decide +kernel) rfl, tyX9_ok, nmX9⟩
theorem sh_8_24 {q : Nat} (h : kd q = 8) : rf q 24 = none ∧ 24 < ln q ∧ 8 < 9 := (by decide +kernel : ∀ q, q < NC → kd q = 8 → rf q 24 = none ∧ 24 < ln q ∧ 8 < 9) q (kd_lt h (by decide)) h
theorem fw_8_24 (v : Int32) : FW 8 24 v := ⟨RX9, TX9, 38, .int, rfl, rfl, by decide +kernel, rfl, rfl⟩
theorem cw_X9_draws : CWv yX9_draws cX9_draws 6 none 4 := ⟨⟨lw_in 1100 (by decide +kernel) rfl, lw_in 62 (by decide +kernel) rfl, by decide +kernel, by decide⟩, lw_in 1099 (by decide +kernel) rfl, lw_in 34 (by decide +kernel) rfl⟩
theorem ml_X9_199 : Cond.methodLink RX9 199 yX9_draws ∈ lw_g := lw_in 1097 (by decide +kernel) rfl
theorem ml_X9_203 : Cond.methodLink RX9 203 yJ9_max_7cf53 ∈ lw_g := lw_in 1127 (by decide +kernel) rfl
theorem cw_X9_isBetween : CWs yX9_isBetween cX9_isBetween 3 (some .boolean) 3 := ⟨⟨lw_in 1126 (by decide +kernel) rfl, lw_in 62 (by decide +kernel) rfl, by decide +kernel, by decide⟩, lw_in 1125 (by decide +kernel) rfl⟩
theorem ml_X9_206 : Cond.methodLink RX9 206 yX9_isBetween ∈ lw_g := lw_in 1124 (by decide +kernel) rfl
theorem cw_X9_cross : CWs yX9_cross cX9_cross 4 (some .boolean) 4 := ⟨⟨lw_in 1123 (by decide +kernel) rfl, lw_in 62 (by decide +kernel) rfl, by decide +kernel, by decide⟩, lw_in 1122 (by decide +kernel) rfl⟩
theorem ml_X9_209 : Cond.methodLink RX9 209 yX9_cross ∈ lw_g := lw_in 1121 (by decide +kernel) rfl
theorem cw_X9_crossesOf : CWv yX9_crossesOf cX9_crossesOf 4 (some .int) 1 := ⟨⟨lw_in 1120 (by decide +kernel) rfl, lw_in 62 (by decide +kernel) rfl, by decide +kernel, by decide⟩, lw_in 1119 (by decide +kernel) rfl, lw_in 39 (by decide +kernel) rfl⟩
theorem ml_X9_213 : Cond.methodLink RX9 213 yX9_crossesOf ∈ lw_g := lw_in 1117 (by decide +kernel) rfl
theorem cw_X9_gapFrom : CWv yX9_gapFrom cX9_gapFrom 3 (some .int) 1 := ⟨⟨lw_in 1112 (by decide +kernel) rfl, lw_in 62 (by decide +kernel) rfl, by decide +kernel, by decide⟩, lw_in 1111 (by decide +kernel) rfl, lw_in 37 (by decide +kernel) rfl⟩
theorem ml_X9_216 : Cond.methodLink RX9 216 yX9_gapFrom ∈ lw_g := lw_in 1109 (by decide +kernel) rfl
theorem cw_X9_drawsBy : CWv yX9_drawsBy cX9_drawsBy 2 none 1 := ⟨⟨lw_in 1096 (by decide +kernel) rfl, lw_in 62 (by decide +kernel) rfl, by decide +kernel, by decide⟩, lw_in 1095 (by decide +kernel) rfl, lw_in 33 (by decide +kernel) rfl⟩
theorem ml_X9_219 : Cond.methodLink RX9 219 yX9_drawsBy ∈ lw_g := lw_in 1093 (by decide +kernel) rfl
theorem cw_X9_rounds : CWv yX9_rounds cX9_rounds 6 (some .int) 1 := ⟨⟨lw_in 1104 (by decide +kernel) rfl, lw_in 62 (by decide +kernel) rfl, by decide +kernel, by decide⟩, lw_in 1103 (by decide +kernel) rfl, lw_in 35 (by decide +kernel) rfl⟩
theorem ml_X9_222 : Cond.methodLink RX9 222 yX9_rounds ∈ lw_g := lw_in 1101 (by decide +kernel) rfl
theorem cw_X9_widest : CWv yX9_widest cX9_widest 3 (some .int) 0 := ⟨⟨lw_in 1108 (by decide +kernel) rfl, lw_in 62 (by decide +kernel) rfl, by decide +kernel, by decide⟩, lw_in 1107 (by decide +kernel) rfl, lw_in 36 (by decide +kernel) rfl⟩
theorem ml_X9_225 : Cond.methodLink RX9 225 yX9_widest ∈ lw_g := lw_in 1105 (by decide +kernel) rfl
theorem cw_X9_crossings : CWv yX9_crossings cX9_crossings 3 (some .int) 0 := ⟨⟨lw_in 1116 (by decide +kernel) rfl, lw_in 62 (by decide +kernel) rfl, by decide +kernel, by decide⟩, lw_in 1115 (by decide +kernel) rfl, lw_in 38 (by decide +kernel) rfl⟩
theorem ml_X9_228 : Cond.methodLink RX9 228 yX9_crossings ∈ lw_g := lw_in 1113 (by decide +kernel) rfl
theorem cw_X9_mostCrossed : CWv yX9_mostCrossed cX9_mostCrossed 3 (some .int) 0 := ⟨⟨lw_in 1131 (by decide +kernel) rfl, lw_in 62 (by decide +kernel) rfl, by decide +kernel, by decide⟩, lw_in 1130 (by decide +kernel) rfl, lw_in 40 (by decide +kernel) rfl⟩
theorem ml_X9_231 : Cond.methodLink RX9 231 yX9_mostCrossed ∈ lw_g := lw_in 1128 (by decide +kernel) rfl
theorem fi_X9_68 : FI RX9 68 8 25 := ⟨RX9, TX9, 38, tyX9, rfl, igX9, by decide, lw_in 873 (by decide +kernel) rfl, tyX9_ok, nmX9⟩
theorem sh_8_25 {q : Nat} (h : kd q = 8) : (rf q 25 = some (rid q 25) ∧ 25 < ln q ∧ 8 < 9) ∧ kd (rid q 25) = 9 := (by decide +kernel : ∀ q, q < NC → kd q = 8 → (rf q 25 = some (rid q 25) ∧ 25 < ln q ∧ 8 < 9) ∧ kd (rid q 25) = 9) q (kd_lt h (by decide)) h
theorem fi_X9_71 : FI RX9 71 8 26 := ⟨RX9, TX9, 38, tyX9, rfl, igX9, by decide, lw_in 874 (by decide +kernel) rfl, tyX9_ok, nmX9⟩
theorem sh_8_26 {q : Nat} (h : kd q = 8) : (rf q 26 = some (rid q 26) ∧ 26 < ln q ∧ 8 < 9) ∧ kd (rid q 26) = 9 := (by decide +kernel : ∀ q, q < NC → kd q = 8 → (rf q 26 = some (rid q 26) ∧ 26 < ln q ∧ 8 < 9) ∧ kd (rid q 26) = 9) q (kd_lt h (by decide)) h
theorem fi_X9_234 : FI RX9 234 8 27 := ⟨RX9, TX9, 38, tyX9, rfl, igX9, by decide, lw_in 875 (by decide +kernel) rfl, tyX9_ok, nmX9⟩
theorem sh_8_27 {q : Nat} (h : kd q = 8) : rf q 27 = none ∧ 27 < ln q ∧ 8 < 9 := (by decide +kernel : ∀ q, q < NC → kd q = 8 → rf q 27 = none ∧ 27 < ln q ∧ 8 < 9) q (kd_lt h (by decide)) h
theorem fw_8_27 (v : Int32) : FW 8 27 v := ⟨RX9, TX9, 38, .int, rfl, rfl, by decide +kernel, rfl, rfl⟩
theorem cw_X9_lays : CWv yX9_lays cX9_lays 2 none 0 := ⟨⟨lw_in 1151 (by decide +kernel) rfl, lw_in 62 (by decide +kernel) rfl, by decide +kernel, by decide⟩, lw_in 1150 (by decide +kernel) rfl, lw_in 41 (by decide +kernel) rfl⟩
theorem ml_X9_237 : Cond.methodLink RX9 237 yX9_lays ∈ lw_g := lw_in 1148 (by decide +kernel) rfl
theorem fi_X9_74 : FI RX9 74 8 28 := ⟨RX9, TX9, 38, tyX9, rfl, igX9, by decide, lw_in 876 (by decide +kernel) rfl, tyX9_ok, nmX9⟩
theorem sh_8_28 {q : Nat} (h : kd q = 8) : (rf q 28 = some (rid q 28) ∧ 28 < ln q ∧ 8 < 9) ∧ kd (rid q 28) = 11 := (by decide +kernel : ∀ q, q < NC → kd q = 8 → (rf q 28 = some (rid q 28) ∧ 28 < ln q ∧ 8 < 9) ∧ kd (rid q 28) = 11) q (kd_lt h (by decide)) h
theorem cw_X9_taken : CWv yX9_taken cX9_taken 4 (some .int) 3 := ⟨⟨lw_in 1167 (by decide +kernel) rfl, lw_in 62 (by decide +kernel) rfl, by decide +kernel, by decide⟩, lw_in 1166 (by decide +kernel) rfl, lw_in 44 (by decide +kernel) rfl⟩
theorem ml_X9_240 : Cond.methodLink RX9 240 yX9_taken ∈ lw_g := lw_in 1164 (by decide +kernel) rfl
theorem fi_X9_81 : FI RX9 81 8 30 := ⟨RX9, TX9, 38, tyX9, rfl, igX9, by decide, lw_in 878 (by decide +kernel) rfl, tyX9_ok, nmX9⟩
theorem sh_8_30 {q : Nat} (h : kd q = 8) : (rf q 30 = some (rid q 30) ∧ 30 < ln q ∧ 8 < 9) ∧ kd (rid q 30) = 11 := (by decide +kernel : ∀ q, q < NC → kd q = 8 → (rf q 30 = some (rid q 30) ∧ 30 < ln q ∧ 8 < 9) ∧ kd (rid q 30) = 11) q (kd_lt h (by decide)) h
theorem fi_X9_78 : FI RX9 78 8 29 := ⟨RX9, TX9, 38, tyX9, rfl, igX9, by decide, lw_in 877 (by decide +kernel) rfl, tyX9_ok, nmX9⟩
theorem sh_8_29 {q : Nat} (h : kd q = 8) : (rf q 29 = some (rid q 29) ∧ 29 < ln q ∧ 8 < 9) ∧ kd (rid q 29) = 11 := (by decide +kernel : ∀ q, q < NC → kd q = 8 → (rf q 29 = some (rid q 29) ∧ 29 < ln q ∧ 8 < 9) ∧ kd (rid q 29) = 11) q (kd_lt h (by decide)) h
theorem cw_X9_joined : CWv yX9_joined cX9_joined 3 none 1 := ⟨⟨lw_in 1159 (by decide +kernel) rfl, lw_in 62 (by decide +kernel) rfl, by decide +kernel, by decide⟩, lw_in 1158 (by decide +kernel) rfl, lw_in 42 (by decide +kernel) rfl⟩
theorem ml_X9_244 : Cond.methodLink RX9 244 yX9_joined ∈ lw_g := lw_in 1156 (by decide +kernel) rfl
theorem cw_X9_isSuch : CWv yX9_isSuch cX9_isSuch 7 (some .boolean) 2 := ⟨⟨lw_in 1163 (by decide +kernel) rfl, lw_in 62 (by decide +kernel) rfl, by decide +kernel, by decide⟩, lw_in 1162 (by decide +kernel) rfl, lw_in 43 (by decide +kernel) rfl⟩
theorem ml_X9_248 : Cond.methodLink RX9 248 yX9_isSuch ∈ lw_g := lw_in 1160 (by decide +kernel) rfl
theorem fi_X9_93 : FI RX9 93 8 34 := ⟨RX9, TX9, 38, tyX9, rfl, igX9, by decide, lw_in 882 (by decide +kernel) rfl, tyX9_ok, nmX9⟩
theorem sh_8_34 {q : Nat} (h : kd q = 8) : (rf q 34 = some (rid q 34) ∧ 34 < ln q ∧ 8 < 9) ∧ kd (rid q 34) = 9 := (by decide +kernel : ∀ q, q < NC → kd q = 8 → (rf q 34 = some (rid q 34) ∧ 34 < ln q ∧ 8 < 9) ∧ kd (rid q 34) = 9) q (kd_lt h (by decide)) h
theorem fi_X9_96 : FI RX9 96 8 35 := ⟨RX9, TX9, 38, tyX9, rfl, igX9, by decide, lw_in 883 (by decide +kernel) rfl, tyX9_ok, nmX9⟩
theorem sh_8_35 {q : Nat} (h : kd q = 8) : (rf q 35 = some (rid q 35) ∧ 35 < ln q ∧ 8 < 9) ∧ kd (rid q 35) = 9 := (by decide +kernel : ∀ q, q < NC → kd q = 8 → (rf q 35 = some (rid q 35) ∧ 35 < ln q ∧ 8 < 9) ∧ kd (rid q 35) = 9) q (kd_lt h (by decide)) h
theorem cw_X9_has : CWs yX9_has cX9_has 2 (some .boolean) 2 := ⟨⟨lw_in 1198 (by decide +kernel) rfl, lw_in 62 (by decide +kernel) rfl, by decide +kernel, by decide⟩, lw_in 1197 (by decide +kernel) rfl⟩
theorem ml_X9_252 : Cond.methodLink RX9 252 yX9_has ∈ lw_g := lw_in 1196 (by decide +kernel) rfl
theorem cw_X9_starts : CWv yX9_starts cX9_starts 2 none 0 := ⟨⟨lw_in 1191 (by decide +kernel) rfl, lw_in 62 (by decide +kernel) rfl, by decide +kernel, by decide⟩, lw_in 1190 (by decide +kernel) rfl, lw_in 47 (by decide +kernel) rfl⟩
theorem ml_X9_255 : Cond.methodLink RX9 255 yX9_starts ∈ lw_g := lw_in 1188 (by decide +kernel) rfl
theorem cw_X9_ticks : CWv yX9_ticks cX9_ticks 4 none 2 := ⟨⟨lw_in 1195 (by decide +kernel) rfl, lw_in 62 (by decide +kernel) rfl, by decide +kernel, by decide⟩, lw_in 1194 (by decide +kernel) rfl, lw_in 48 (by decide +kernel) rfl⟩
theorem ml_X9_258 : Cond.methodLink RX9 258 yX9_ticks ∈ lw_g := lw_in 1192 (by decide +kernel) rfl
theorem fi_X9_84 : FI RX9 84 8 31 := ⟨RX9, TX9, 38, tyX9, rfl, igX9, by decide, lw_in 879 (by decide +kernel) rfl, tyX9_ok, nmX9⟩
theorem sh_8_31 {q : Nat} (h : kd q = 8) : (rf q 31 = some (rid q 31) ∧ 31 < ln q ∧ 8 < 9) ∧ kd (rid q 31) = 9 := (by decide +kernel : ∀ q, q < NC → kd q = 8 → (rf q 31 = some (rid q 31) ∧ 31 < ln q ∧ 8 < 9) ∧ kd (rid q 31) = 9) q (kd_lt h (by decide)) h
theorem fi_X9_87 : FI RX9 87 8 32 := ⟨RX9, TX9, 38, tyX9, rfl, igX9, by decide, lw_in 880 (by decide +kernel) rfl, tyX9_ok, nmX9⟩
theorem sh_8_32 {q : Nat} (h : kd q = 8) : (rf q 32 = some (rid q 32) ∧ 32 < ln q ∧ 8 < 9) ∧ kd (rid q 32) = 9 := (by decide +kernel : ∀ q, q < NC → kd q = 8 → (rf q 32 = some (rid q 32) ∧ 32 < ln q ∧ 8 < 9) ∧ kd (rid q 32) = 9) q (kd_lt h (by decide)) h
theorem fi_X9_90 : FI RX9 90 8 33 := ⟨RX9, TX9, 38, tyX9, rfl, igX9, by decide, lw_in 881 (by decide +kernel) rfl, tyX9_ok, nmX9⟩
theorem sh_8_33 {q : Nat} (h : kd q = 8) : (rf q 33 = some (rid q 33) ∧ 33 < ln q ∧ 8 < 9) ∧ kd (rid q 33) = 9 := (by decide +kernel : ∀ q, q < NC → kd q = 8 → (rf q 33 = some (rid q 33) ∧ 33 < ln q ∧ 8 < 9) ∧ kd (rid q 33) = 9) q (kd_lt h (by decide)) h
theorem cw_X9_isSet : CWv yX9_isSet cX9_isSet 2 (some .boolean) 1 := ⟨⟨lw_in 1183 (by decide +kernel) rfl, lw_in 62 (by decide +kernel) rfl, by decide +kernel, by decide⟩, lw_in 1182 (by decide +kernel) rfl, lw_in 45 (by decide +kernel) rfl⟩
theorem ml_X9_261 : Cond.methodLink RX9 261 yX9_isSet ∈ lw_g := lw_in 1180 (by decide +kernel) rfl
theorem cw_X9_touches : CWv yX9_touches cX9_touches 7 none 2 := ⟨⟨lw_in 1187 (by decide +kernel) rfl, lw_in 62 (by decide +kernel) rfl, by decide +kernel, by decide⟩, lw_in 1186 (by decide +kernel) rfl, lw_in 46 (by decide +kernel) rfl⟩
theorem ml_X9_264 : Cond.methodLink RX9 264 yX9_touches ∈ lw_g := lw_in 1184 (by decide +kernel) rfl
theorem fi_X9_99 : FI RX9 99 8 36 := ⟨RX9, TX9, 38, tyX9, rfl, igX9, by decide, lw_in 884 (by decide +kernel) rfl, tyX9_ok, nmX9⟩
theorem sh_8_36 {q : Nat} (h : kd q = 8) : (rf q 36 = some (rid q 36) ∧ 36 < ln q ∧ 8 < 9) ∧ kd (rid q 36) = 9 := (by decide +kernel : ∀ q, q < NC → kd q = 8 → (rf q 36 = some (rid q 36) ∧ 36 < ln q ∧ 8 < 9) ∧ kd (rid q 36) = 9) q (kd_lt h (by decide)) h
theorem cw_X9_inkedTeeth : CWv yX9_inkedTeeth cX9_inkedTeeth 3 (some .int) 0 := ⟨⟨lw_in 1218 (by decide +kernel) rfl, lw_in 62 (by decide +kernel) rfl, by decide +kernel, by decide⟩, lw_in 1217 (by decide +kernel) rfl, lw_in 49 (by decide +kernel) rfl⟩
theorem ml_X9_267 : Cond.methodLink RX9 267 yX9_inkedTeeth ∈ lw_g := lw_in 1215 (by decide +kernel) rfl
theorem fi_X9_44 : FI RX9 44 8 13 := ⟨RX9, TX9, 38, tyX9, rfl, igX9, by decide, lw_in 861 (by decide +kernel) rfl, tyX9_ok, nmX9⟩
theorem sh_8_13 {q : Nat} (h : kd q = 8) : (rf q 13 = some (rid q 13) ∧ 13 < ln q ∧ 8 < 9) ∧ kd (rid q 13) = 9 := (by decide +kernel : ∀ q, q < NC → kd q = 8 → (rf q 13 = some (rid q 13) ∧ 13 < ln q ∧ 8 < 9) ∧ kd (rid q 13) = 9) q (kd_lt h (by decide)) h
theorem fi_X9_41 : FI RX9 41 8 12 := ⟨RX9, TX9, 38, tyX9, rfl, igX9, by decide, lw_in 860 (by decide +kernel) rfl, tyX9_ok, nmX9⟩
theorem sh_8_12 {q : Nat} (h : kd q = 8) : (rf q 12 = some (rid q 12) ∧ 12 < ln q ∧ 8 < 9) ∧ kd (rid q 12) = 9 := (by decide +kernel : ∀ q, q < NC → kd q = 8 → (rf q 12 = some (rid q 12) ∧ 12 < ln q ∧ 8 < 9) ∧ kd (rid q 12) = 9) q (kd_lt h (by decide)) h
theorem cw_X9_isList : CWs yX9_isList cX9_isList 1 (some .boolean) 1 := ⟨⟨lw_in 1229 (by decide +kernel) rfl, lw_in 62 (by decide +kernel) rfl, by decide +kernel, by decide⟩, lw_in 1228 (by decide +kernel) rfl⟩
theorem ml_X9_270 : Cond.methodLink RX9 270 yX9_isList ∈ lw_g := lw_in 1227 (by decide +kernel) rfl
theorem cw_X9_hasOthers : CWv yX9_hasOthers cX9_hasOthers 3 (some .boolean) 1 := ⟨⟨lw_in 1234 (by decide +kernel) rfl, lw_in 62 (by decide +kernel) rfl, by decide +kernel, by decide⟩, lw_in 1233 (by decide +kernel) rfl, lw_in 50 (by decide +kernel) rfl⟩
theorem ml_X9_275 : Cond.methodLink RX9 275 yX9_hasOthers ∈ lw_g := lw_in 1231 (by decide +kernel) rfl
theorem cw_X9_isDrawn : CWv yX9_isDrawn cX9_isDrawn 6 (some .boolean) 4 := ⟨⟨lw_in 1238 (by decide +kernel) rfl, lw_in 62 (by decide +kernel) rfl, by decide +kernel, by decide⟩, lw_in 1237 (by decide +kernel) rfl, lw_in 51 (by decide +kernel) rfl⟩
theorem ml_X9_278 : Cond.methodLink RX9 278 yX9_isDrawn ∈ lw_g := lw_in 1235 (by decide +kernel) rfl
theorem co_X9_273 : Cond.constantLong RX9 273 4000000000000000011 ∈ lw_g := lw_in 1230 (by decide +kernel) rfl
theorem fi_X9_281 : FI RX9 281 8 37 := ⟨RX9, TX9, 38, tyX9, rfl, igX9, by decide, lw_in 885 (by decide +kernel) rfl, tyX9_ok, nmX9⟩
theorem sh_8_37 {q : Nat} (h : kd q = 8) : rf q 37 = none ∧ 37 < ln q ∧ 8 < 9 := (by decide +kernel : ∀ q, q < NC → kd q = 8 → rf q 37 = none ∧ 37 < ln q ∧ 8 < 9) q (kd_lt h (by decide)) h
theorem co_X9_284 : Cond.constant RX9 284 1664525 ∈ lw_g := lw_in 1259 (by decide +kernel) rfl
theorem co_X9_285 : Cond.constant RX9 285 1013904223 ∈ lw_g := lw_in 1260 (by decide +kernel) rfl
theorem fw_8_37 (v : Int32) : FW 8 37 v := ⟨RX9, TX9, 38, .int, rfl, rfl, by decide +kernel, rfl, rfl⟩
theorem co_X9_286 : Cond.constant RX9 286 2147483647 ∈ lw_g := lw_in 1261 (by decide +kernel) rfl
theorem cw_X9_draw : CWv yX9_draw cX9_draw 2 (some .int) 1 := ⟨⟨lw_in 1258 (by decide +kernel) rfl, lw_in 62 (by decide +kernel) rfl, by decide +kernel, by decide⟩, lw_in 1257 (by decide +kernel) rfl, lw_in 52 (by decide +kernel) rfl⟩
theorem ml_X9_287 : Cond.methodLink RX9 287 yX9_draw ∈ lw_g := lw_in 1255 (by decide +kernel) rfl
theorem co_X9_290 : Cond.constantLong RX9 290 4000000000000000013 ∈ lw_g := lw_in 1274 (by decide +kernel) rfl
theorem fi_X9_50 : FI RX9 50 8 16 := ⟨RX9, TX9, 38, tyX9, rfl, igX9, by decide, lw_in 864 (by decide +kernel) rfl, tyX9_ok, nmX9⟩
theorem sh_8_16 {q : Nat} (h : kd q = 8) : (rf q 16 = some (rid q 16) ∧ 16 < ln q ∧ 8 < 9) ∧ kd (rid q 16) = 9 := (by decide +kernel : ∀ q, q < NC → kd q = 8 → (rf q 16 = some (rid q 16) ∧ 16 < ln q ∧ 8 < 9) ∧ kd (rid q 16) = 9) q (kd_lt h (by decide)) h
theorem fi_X9_292 : FI RX9 292 8 18 := ⟨RX9, TX9, 38, tyX9, rfl, igX9, by decide, lw_in 866 (by decide +kernel) rfl, tyX9_ok, nmX9⟩
theorem sh_8_18 {q : Nat} (h : kd q = 8) : rf q 18 = none ∧ 18 < ln q ∧ 8 < 9 := (by decide +kernel : ∀ q, q < NC → kd q = 8 → rf q 18 = none ∧ 18 < ln q ∧ 8 < 9) q (kd_lt h (by decide)) h
theorem fw1_8_18 : FW 8 18 1 := ⟨RX9, TX9, 38, .boolean, rfl, rfl, by decide +kernel, by decide +kernel, by decide +kernel⟩

theorem kf_X4_wheelAt {q0 : Nat} {a : Int32} {σ : SS} {o : Option Nat} (h : f_X4_wheelAt q0 a σ = some o) (hq : kd q0 = 3) : ∀ w, o = some w → kd w = 6 := by
  intro w hw
  subst hw
  unfold f_X4_wheelAt at h
  repeat' split at h
  all_goals first | (obtain ⟨hc, h⟩ := ck_some h; cases h; exact (sha_13 (sh_3_4 hq).2 (lt_ck hc)).2) | cases h

theorem kf_X8_rowAt {q0 : Nat} {a : Int32} {σ : SS} {o : Option Nat} (h : f_X8_rowAt q0 a σ = some o) (hq : kd q0 = 7) : ∀ w, o = some w → kd w = 4 := by
  intro w hw
  subst hw
  unfold f_X8_rowAt at h
  repeat' split at h
  all_goals first | (obtain ⟨hc, h⟩ := ck_some h; cases h; exact (sha_14 (sh_7_6 hq).2 (lt_ck hc)).2) | cases h
section MM
variable {l : Launch} {g : GG} {d : Nat} {own : String} {cc : ByteArray} {nL : Nat} {ret : Option FieldType} {ρ : Option Value × SS} {pc : Nat} {lv : List (Nat × Value)} {st : List Value} {σ : SS}
theorem w_mmin : Cond.static Lib.Math.min.name ∈ lw_g ∧ Cond.initialized "java/lang/Math" ∈ lw_g ∧ Cond.code Lib.Math.min.name Lib.Math.min.code 2 (some .int) ∈ lw_g := ⟨lw_in 431 (by decide +kernel) rfl, lw_in 66 (by decide +kernel) rfl, lw_in 432 (by decide +kernel) rfl⟩
theorem vr_mmin {x y : Int32} {idx : Nat} (hd : decode cc pc = .ok (.invokestatic idx, 3)) (hl0 : Cond.methodLink own idx yJ9_min_7cf53 ∈ lw_g) (hdp : 1 ≤ d) (hst : (st.map fun v => v.category).sum ≤ 8) (k : VV l g d own cc nL ret ρ (pc + 3) lv (.int (f_J9_min_7cf53 x y) :: st) σ) : VV l g d own cc nL ret ρ pc lv (.int y :: .int x :: st) σ := by
  intro p e s m args below meth c H locs ls hx hb hml hr hlocks hown hts hK hG hP hS hl
  exact va_mmin hx hb (hml.trans hl.1.symm) hown (hts _ hl0) (hts _ w_mmin.1) (hts _ w_mmin.2.1) (hts _ w_mmin.2.2) hdp (by show _ ≤ 48 * d; omega) (Nat.le_refl _) (Nat.le_refl _) hd (k p e s m args below meth c H locs ls hx hb hml hr hlocks hown hts hK hG hP hS hl)
theorem w_mmax : Cond.static Lib.Math.max.name ∈ lw_g ∧ Cond.initialized "java/lang/Math" ∈ lw_g ∧ Cond.code Lib.Math.max.name Lib.Math.max.code 2 (some .int) ∈ lw_g := ⟨lw_in 546 (by decide +kernel) rfl, lw_in 66 (by decide +kernel) rfl, lw_in 547 (by decide +kernel) rfl⟩
theorem vr_mmax {x y : Int32} {idx : Nat} (hd : decode cc pc = .ok (.invokestatic idx, 3)) (hl0 : Cond.methodLink own idx yJ9_max_7cf53 ∈ lw_g) (hdp : 1 ≤ d) (hst : (st.map fun v => v.category).sum ≤ 8) (k : VV l g d own cc nL ret ρ (pc + 3) lv (.int (f_J9_max_7cf53 x y) :: st) σ) : VV l g d own cc nL ret ρ pc lv (.int y :: .int x :: st) σ := by
  intro p e s m args below meth c H locs ls hx hb hml hr hlocks hown hts hK hG hP hS hl
  exact va_mmax hx hb (hml.trans hl.1.symm) hown (hts _ hl0) (hts _ w_mmax.1) (hts _ w_mmax.2.1) (hts _ w_mmax.2.2) hdp (by show _ ≤ 48 * d; omega) (Nat.le_refl _) (Nat.le_refl _) hd (k p e s m args below meth c H locs ls hx hb hml hr hlocks hown hts hK hG hP hS hl)
theorem w_mabs : Cond.static Lib.Math.abs.name ∈ lw_g ∧ Cond.initialized "java/lang/Math" ∈ lw_g ∧ Cond.code Lib.Math.abs.name Lib.Math.abs.code 1 (some .int) ∈ lw_g := ⟨lw_in 506 (by decide +kernel) rfl, lw_in 66 (by decide +kernel) rfl, lw_in 507 (by decide +kernel) rfl⟩
theorem vr_mabs {x : Int32} {idx : Nat} (hd : decode cc pc = .ok (.invokestatic idx, 3)) (hl0 : Cond.methodLink own idx yJ9_abs_0f7a4 ∈ lw_g) (hdp : 1 ≤ d) (hst : (st.map fun v => v.category).sum ≤ 8) (k : VV l g d own cc nL ret ρ (pc + 3) lv (.int (f_J9_abs_0f7a4 x) :: st) σ) : VV l g d own cc nL ret ρ pc lv (.int x :: st) σ := by
  intro p e s m args below meth c H locs ls hx hb hml hr hlocks hown hts hK hG hP hS hl
  exact va_mabs hx hb (hml.trans hl.1.symm) hown (hts _ hl0) (hts _ w_mabs.1) (hts _ w_mabs.2.1) (hts _ w_mabs.2.2) hdp (by show _ ≤ 48 * d; omega) (Nat.le_refl _) (Nat.le_refl _) hd (k p e s m args below meth c H locs ls hx hb hml hr hlocks hown hts hK hG hP hS hl)
end MM
