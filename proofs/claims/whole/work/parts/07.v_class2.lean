theorem dX8_refuse_0 : decode cX8_refuse 0 = .ok (.iload_n 1, 1) := by decide +kernel
theorem dX8_refuse_1 : decode cX8_refuse 1 = .ok (.ifCond .ge 20, 3) := by decide +kernel
theorem dX8_refuse_4 : decode cX8_refuse 4 = .ok (.iload_n 1, 1) := by decide +kernel
theorem dX8_refuse_5 : decode cX8_refuse 5 = .ok (.bipush (-6), 2) := by decide +kernel
theorem dX8_refuse_7 : decode cX8_refuse 7 = .ok (.if_icmp .lt 14, 3) := by decide +kernel
theorem dX8_refuse_10 : decode cX8_refuse 10 = .ok (.aload_n 0, 1) := by decide +kernel
theorem dX8_refuse_11 : decode cX8_refuse 11 = .ok (.getfield 66, 3) := by decide +kernel
theorem dX8_refuse_14 : decode cX8_refuse 14 = .ok (.iload_n 1, 1) := by decide +kernel
theorem dX8_refuse_15 : decode cX8_refuse 15 = .ok (.ineg, 1) := by decide +kernel
theorem dX8_refuse_16 : decode cX8_refuse 16 = .ok (.dup2, 1) := by decide +kernel
theorem dX8_refuse_17 : decode cX8_refuse 17 = .ok (.iaload, 1) := by decide +kernel
theorem dX8_refuse_18 : decode cX8_refuse 18 = .ok (.iconst 1, 1) := by decide +kernel
theorem dX8_refuse_19 : decode cX8_refuse 19 = .ok (.iadd, 1) := by decide +kernel
theorem dX8_refuse_20 : decode cX8_refuse 20 = .ok (.iastore, 1) := by decide +kernel
theorem dX8_refuse_21 : decode cX8_refuse 21 = .ok (.iload_n 1, 1) := by decide +kernel
theorem dX8_refuse_22 : decode cX8_refuse 22 = .ok (.ireturn, 1) := by decide +kernel
set_option maxRecDepth 20000 in
set_option maxHeartbeats 4000000 in
theorem s_X8_refuse (l : Launch) (g : GG) {q0 : Nat} (hq0 : kd q0 = 7) {a1 : Int32} {σ : SS} {r : Int32 × SS} (h : f_X8_refuse q0 a1 σ = some r) : CT l g 0 yX8_refuse cX8_refuse 2 (some .int) [.ref (g.1 q0), .int a1] σ (some (.int r.1), r.2) := by
  refine CT.of (lv := [(0, .ref (g.1 q0)), (1, .int a1)]) RX8 (by decide +kernel) rfl (Nat.le_of_ble_eq_true rfl) rfl ?_
  unfold f_X8_refuse at h
  refine vr_iload_n (pc := 0) 1 dX8_refuse_0 rfl rfl ?_
  refine vr_if_ge (pc := 1) 21 dX8_refuse_1 (by decide) (fun c1 => ?_) (fun c1 => ?_)
  · rw [if_pos c1] at h
    refine vr_iload_n (pc := 21) 1 dX8_refuse_21 rfl rfl ?_
    have h := Option.some.inj h; subst h
    exact vr_iret (pc := 22) .int dX8_refuse_22 rfl rfl rfl
  · rw [if_neg c1] at h
    refine vr_iload_n (pc := 4) 1 dX8_refuse_4 rfl rfl ?_
    refine vr_bipush (pc := 5) (-6) dX8_refuse_5 cb_m6 ?_
    refine vr_icmp_lt (pc := 7) 21 dX8_refuse_7 (by decide) (fun c2 => ?_) (fun c2 => ?_)
    · rw [if_pos c2] at h
      refine vr_iload_n (pc := 21) 1 dX8_refuse_21 rfl rfl ?_
      have h := Option.some.inj h; subst h
      exact vr_iret (pc := 22) .int dX8_refuse_22 rfl rfl rfl
    · rw [if_neg c2] at h
      refine vr_aload_n (pc := 10) 0 dX8_refuse_10 rfl rfl ?_
      refine vr_getR (pc := 11) 11 dX8_refuse_11 fi_X8_66 hq0 (sh_7_11 hq0).1 ?_
      refine vr_iload_n (pc := 14) 1 dX8_refuse_14 rfl rfl ?_
      refine vr_ineg (pc := 15) dX8_refuse_15 ?_
      refine vr_dup2 (pc := 16) dX8_refuse_16 rfl rfl ?_
      obtain ⟨hc3, h⟩ := ck_some h
      refine vr_iald (pc := 17) dX8_refuse_17 (sh_7_11 hq0).2 hc3 ?_
      refine vr_iconst (pc := 18) 1 dX8_refuse_18 ci_1 ?_
      refine vr_iadd (pc := 19) dX8_refuse_19 ?_
      obtain ⟨hc4, h⟩ := ck_some h
      refine vr_iast (pc := 20) dX8_refuse_20 (sh_7_11 hq0).2 hc4 ?_
      refine vr_iload_n (pc := 21) 1 dX8_refuse_21 rfl rfl ?_
      have h := Option.some.inj h; subst h
      exact vr_iret (pc := 22) .int dX8_refuse_22 rfl rfl rfl
theorem dX8_letter_0 : decode cX8_letter 0 = .ok (.iload_n 1, 1) := by decide +kernel
theorem dX8_letter_1 : decode cX8_letter 1 = .ok (.ifCond .ge 10, 3) := by decide +kernel
theorem dX8_letter_4 : decode cX8_letter 4 = .ok (.aload_n 0, 1) := by decide +kernel
theorem dX8_letter_5 : decode cX8_letter 5 = .ok (.bipush (-4), 2) := by decide +kernel
theorem dX8_letter_7 : decode cX8_letter 7 = .ok (.invokevirtual 71, 3) := by decide +kernel
theorem dX8_letter_10 : decode cX8_letter 10 = .ok (.ireturn, 1) := by decide +kernel
theorem dX8_letter_11 : decode cX8_letter 11 = .ok (.iload_n 1, 1) := by decide +kernel
theorem dX8_letter_12 : decode cX8_letter 12 = .ok (.sipush 255, 3) := by decide +kernel
theorem dX8_letter_15 : decode cX8_letter 15 = .ok (.if_icmp .gt 15, 3) := by decide +kernel
theorem dX8_letter_18 : decode cX8_letter 18 = .ok (.aload_n 0, 1) := by decide +kernel
theorem dX8_letter_19 : decode cX8_letter 19 = .ok (.getfield 32, 3) := by decide +kernel
theorem dX8_letter_22 : decode cX8_letter 22 = .ok (.getfield 75, 3) := by decide +kernel
theorem dX8_letter_25 : decode cX8_letter 25 = .ok (.bipush 72, 2) := by decide +kernel
theorem dX8_letter_27 : decode cX8_letter 27 = .ok (.if_icmp .lt 10, 3) := by decide +kernel
theorem dX8_letter_30 : decode cX8_letter 30 = .ok (.aload_n 0, 1) := by decide +kernel
theorem dX8_letter_31 : decode cX8_letter 31 = .ok (.bipush (-6), 2) := by decide +kernel
theorem dX8_letter_33 : decode cX8_letter 33 = .ok (.invokevirtual 71, 3) := by decide +kernel
theorem dX8_letter_36 : decode cX8_letter 36 = .ok (.ireturn, 1) := by decide +kernel
theorem dX8_letter_37 : decode cX8_letter 37 = .ok (.aload_n 0, 1) := by decide +kernel
theorem dX8_letter_38 : decode cX8_letter 38 = .ok (.getfield 32, 3) := by decide +kernel
theorem dX8_letter_41 : decode cX8_letter 41 = .ok (.iload_n 1, 1) := by decide +kernel
theorem dX8_letter_42 : decode cX8_letter 42 = .ok (.invokevirtual 79, 3) := by decide +kernel
theorem dX8_letter_45 : decode cX8_letter 45 = .ok (.aload_n 0, 1) := by decide +kernel
theorem dX8_letter_46 : decode cX8_letter 46 = .ok (.getfield 32, 3) := by decide +kernel
theorem dX8_letter_49 : decode cX8_letter 49 = .ok (.getfield 75, 3) := by decide +kernel
theorem dX8_letter_52 : decode cX8_letter 52 = .ok (.ireturn, 1) := by decide +kernel
set_option maxRecDepth 20000 in
set_option maxHeartbeats 4000000 in
theorem s_X8_letter (l : Launch) (g : GG) {q0 : Nat} (hq0 : kd q0 = 7) {a1 : Int32} {σ : SS} {r : Int32 × SS} (h : f_X8_letter q0 a1 σ = some r) : CT l g 1 yX8_letter cX8_letter 2 (some .int) [.ref (g.1 q0), .int a1] σ (some (.int r.1), r.2) := by
  refine CT.of (lv := [(0, .ref (g.1 q0)), (1, .int a1)]) RX8 (by decide +kernel) rfl (Nat.le_of_ble_eq_true rfl) rfl ?_
  unfold f_X8_letter at h
  refine vr_iload_n (pc := 0) 1 dX8_letter_0 rfl rfl ?_
  refine vr_if_ge (pc := 1) 11 dX8_letter_1 (by decide) (fun c1 => ?_) (fun c1 => ?_)
  · rw [if_pos c1] at h
    refine vr_iload_n (pc := 11) 1 dX8_letter_11 rfl rfl ?_
    refine vr_sipush (pc := 12) 255 dX8_letter_12 cs_255 ?_
    refine vr_icmp_gt (pc := 15) 30 dX8_letter_15 (by decide) (fun c2 => ?_) (fun c2 => ?_)
    · rw [if_pos c2] at h
      refine vr_aload_n (pc := 30) 0 dX8_letter_30 rfl rfl ?_
      refine vr_bipush (pc := 31) (-6) dX8_letter_31 cb_m6 ?_
      obtain ⟨z3, hz4, h⟩ := ob_some h
      refine vr_callV (pc := 33) (ρ1 := (some (.int z3.1), z3.2)) [.int (-6)] dX8_letter_33 (s_X8_refuse l g (hq0) hz4) cw_X8_refuse ml_X8_71 hq0 rfl (by decide) (by decide) rfl rfl (Nat.le_of_ble_eq_true rfl) ?_
      have h := Option.some.inj h; subst h
      exact vr_iret (pc := 36) .int dX8_letter_36 rfl rfl rfl
    · rw [if_neg c2] at h
      refine vr_aload_n (pc := 18) 0 dX8_letter_18 rfl rfl ?_
      refine vr_getR (pc := 19) 5 dX8_letter_19 fi_X8_32 hq0 (sh_7_5 hq0).1 ?_
      refine vr_getI (pc := 22) 1 dX8_letter_22 fi_X8_75 (sh_7_5 hq0).2 (sh_1_1 (sh_7_5 hq0).2) ?_
      refine vr_bipush (pc := 25) 72 dX8_letter_25 cb_72 ?_
      refine vr_icmp_lt (pc := 27) 37 dX8_letter_27 (by decide) (fun c5 => ?_) (fun c5 => ?_)
      · rw [if_pos c5] at h
        refine vr_aload_n (pc := 37) 0 dX8_letter_37 rfl rfl ?_
        refine vr_getR (pc := 38) 5 dX8_letter_38 fi_X8_32 hq0 (sh_7_5 hq0).1 ?_
        refine vr_iload_n (pc := 41) 1 dX8_letter_41 rfl rfl ?_
        obtain ⟨z6, hz7, h⟩ := ob_some h
        refine vr_callV (pc := 42) (ρ1 := (none, z6)) [.int a1] dX8_letter_42 (s_X1_append l g (sh_7_5 hq0).2 hz7) cw_X1_append ml_X8_79 (sh_7_5 hq0).2 rfl (by decide) (by decide) rfl rfl (Nat.le_of_ble_eq_true rfl) ?_
        refine vr_aload_n (pc := 45) 0 dX8_letter_45 rfl rfl ?_
        refine vr_getR (pc := 46) 5 dX8_letter_46 fi_X8_32 hq0 (sh_7_5 hq0).1 ?_
        refine vr_getI (pc := 49) 1 dX8_letter_49 fi_X8_75 (sh_7_5 hq0).2 (sh_1_1 (sh_7_5 hq0).2) ?_
        have h := Option.some.inj h; subst h
        exact vr_iret (pc := 52) .int dX8_letter_52 rfl rfl rfl
      · rw [if_neg c5] at h
        refine vr_aload_n (pc := 30) 0 dX8_letter_30 rfl rfl ?_
        refine vr_bipush (pc := 31) (-6) dX8_letter_31 cb_m6 ?_
        obtain ⟨z8, hz9, h⟩ := ob_some h
        refine vr_callV (pc := 33) (ρ1 := (some (.int z8.1), z8.2)) [.int (-6)] dX8_letter_33 (s_X8_refuse l g (hq0) hz9) cw_X8_refuse ml_X8_71 hq0 rfl (by decide) (by decide) rfl rfl (Nat.le_of_ble_eq_true rfl) ?_
        have h := Option.some.inj h; subst h
        exact vr_iret (pc := 36) .int dX8_letter_36 rfl rfl rfl
  · rw [if_neg c1] at h
    refine vr_aload_n (pc := 4) 0 dX8_letter_4 rfl rfl ?_
    refine vr_bipush (pc := 5) (-4) dX8_letter_5 cb_m4 ?_
    obtain ⟨z10, hz11, h⟩ := ob_some h
    refine vr_callV (pc := 7) (ρ1 := (some (.int z10.1), z10.2)) [.int (-4)] dX8_letter_7 (s_X8_refuse l g (hq0) hz11) cw_X8_refuse ml_X8_71 hq0 rfl (by decide) (by decide) rfl rfl (Nat.le_of_ble_eq_true rfl) ?_
    have h := Option.some.inj h; subst h
    exact vr_iret (pc := 10) .int dX8_letter_10 rfl rfl rfl
theorem dX8_sheet_0 : decode cX8_sheet 0 = .ok (.aload_n 0, 1) := by decide +kernel
theorem dX8_sheet_1 : decode cX8_sheet 1 = .ok (.getfield 32, 3) := by decide +kernel
theorem dX8_sheet_4 : decode cX8_sheet 4 = .ok (.invokevirtual 83, 3) := by decide +kernel
theorem dX8_sheet_7 : decode cX8_sheet 7 = .ok (.istore_n 1, 1) := by decide +kernel
theorem dX8_sheet_8 : decode cX8_sheet 8 = .ok (.iload_n 1, 1) := by decide +kernel
theorem dX8_sheet_9 : decode cX8_sheet 9 = .ok (.bipush (-9), 2) := by decide +kernel
theorem dX8_sheet_11 : decode cX8_sheet 11 = .ok (.if_icmp .ne 7, 3) := by decide +kernel
theorem dX8_sheet_14 : decode cX8_sheet 14 = .ok (.iconst 0, 1) := by decide +kernel
theorem dX8_sheet_15 : decode cX8_sheet 15 = .ok (.goto 8, 3) := by decide +kernel
theorem dX8_sheet_18 : decode cX8_sheet 18 = .ok (.sipush (-1000), 3) := by decide +kernel
theorem dX8_sheet_21 : decode cX8_sheet 21 = .ok (.iload_n 1, 1) := by decide +kernel
theorem dX8_sheet_22 : decode cX8_sheet 22 = .ok (.isub, 1) := by decide +kernel
theorem dX8_sheet_23 : decode cX8_sheet 23 = .ok (.istore_n 2, 1) := by decide +kernel
theorem dX8_sheet_24 : decode cX8_sheet 24 = .ok (.aload_n 0, 1) := by decide +kernel
theorem dX8_sheet_25 : decode cX8_sheet 25 = .ok (.getfield 16, 3) := by decide +kernel
theorem dX8_sheet_28 : decode cX8_sheet 28 = .ok (.aload_n 0, 1) := by decide +kernel
theorem dX8_sheet_29 : decode cX8_sheet 29 = .ok (.getfield 10, 3) := by decide +kernel
theorem dX8_sheet_32 : decode cX8_sheet 32 = .ok (.invokevirtual 87, 3) := by decide +kernel
theorem dX8_sheet_35 : decode cX8_sheet 35 = .ok (.iconst 0, 1) := by decide +kernel
theorem dX8_sheet_36 : decode cX8_sheet 36 = .ok (.istore_n 3, 1) := by decide +kernel
theorem dX8_sheet_37 : decode cX8_sheet 37 = .ok (.iload_n 3, 1) := by decide +kernel
theorem dX8_sheet_38 : decode cX8_sheet 38 = .ok (.aload_n 0, 1) := by decide +kernel
theorem dX8_sheet_39 : decode cX8_sheet 39 = .ok (.getfield 32, 3) := by decide +kernel
theorem dX8_sheet_42 : decode cX8_sheet 42 = .ok (.getfield 75, 3) := by decide +kernel
theorem dX8_sheet_45 : decode cX8_sheet 45 = .ok (.if_icmp .ge 51, 3) := by decide +kernel
theorem dX8_sheet_48 : decode cX8_sheet 48 = .ok (.iload_n 2, 1) := by decide +kernel
theorem dX8_sheet_49 : decode cX8_sheet 49 = .ok (.ifCond .lt 47, 3) := by decide +kernel
theorem dX8_sheet_52 : decode cX8_sheet 52 = .ok (.aload_n 0, 1) := by decide +kernel
theorem dX8_sheet_53 : decode cX8_sheet 53 = .ok (.getfield 32, 3) := by decide +kernel
theorem dX8_sheet_56 : decode cX8_sheet 56 = .ok (.iload_n 3, 1) := by decide +kernel
theorem dX8_sheet_57 : decode cX8_sheet 57 = .ok (.invokevirtual 91, 3) := by decide +kernel
theorem dX8_sheet_60 : decode cX8_sheet 60 = .ok (.ifCond .eq 30, 3) := by decide +kernel
theorem dX8_sheet_63 : decode cX8_sheet 63 = .ok (.aload_n 0, 1) := by decide +kernel
theorem dX8_sheet_64 : decode cX8_sheet 64 = .ok (.getfield 32, 3) := by decide +kernel
theorem dX8_sheet_67 : decode cX8_sheet 67 = .ok (.iload_n 3, 1) := by decide +kernel
theorem dX8_sheet_68 : decode cX8_sheet 68 = .ok (.aload_n 0, 1) := by decide +kernel
theorem dX8_sheet_69 : decode cX8_sheet 69 = .ok (.getfield 10, 3) := by decide +kernel
theorem dX8_sheet_72 : decode cX8_sheet 72 = .ok (.invokevirtual 95, 3) := by decide +kernel
theorem dX8_sheet_75 : decode cX8_sheet 75 = .ok (.ifCond .eq 9, 3) := by decide +kernel
theorem dX8_sheet_78 : decode cX8_sheet 78 = .ok (.iload_n 2, 1) := by decide +kernel
theorem dX8_sheet_79 : decode cX8_sheet 79 = .ok (.iconst 1, 1) := by decide +kernel
theorem dX8_sheet_80 : decode cX8_sheet 80 = .ok (.iadd, 1) := by decide +kernel
theorem dX8_sheet_81 : decode cX8_sheet 81 = .ok (.goto 8, 3) := by decide +kernel
theorem dX8_sheet_84 : decode cX8_sheet 84 = .ok (.sipush (-2000), 3) := by decide +kernel
theorem dX8_sheet_87 : decode cX8_sheet 87 = .ok (.iload_n 3, 1) := by decide +kernel
theorem dX8_sheet_88 : decode cX8_sheet 88 = .ok (.isub, 1) := by decide +kernel
theorem dX8_sheet_89 : decode cX8_sheet 89 = .ok (.istore_n 2, 1) := by decide +kernel
theorem dX8_sheet_90 : decode cX8_sheet 90 = .ok (.iinc 3 1, 3) := by decide +kernel
theorem dX8_sheet_93 : decode cX8_sheet 93 = .ok (.goto (-56), 3) := by decide +kernel
theorem dX8_sheet_96 : decode cX8_sheet 96 = .ok (.aload_n 0, 1) := by decide +kernel
theorem dX8_sheet_97 : decode cX8_sheet 97 = .ok (.getfield 32, 3) := by decide +kernel
theorem dX8_sheet_100 : decode cX8_sheet 100 = .ok (.iconst 0, 1) := by decide +kernel
theorem dX8_sheet_101 : decode cX8_sheet 101 = .ok (.putfield 75, 3) := by decide +kernel
theorem dX8_sheet_104 : decode cX8_sheet 104 = .ok (.iload_n 2, 1) := by decide +kernel
theorem dX8_sheet_105 : decode cX8_sheet 105 = .ok (.ifCond .ge 17, 3) := by decide +kernel
theorem dX8_sheet_108 : decode cX8_sheet 108 = .ok (.aload_n 0, 1) := by decide +kernel
theorem dX8_sheet_109 : decode cX8_sheet 109 = .ok (.getfield 10, 3) := by decide +kernel
theorem dX8_sheet_112 : decode cX8_sheet 112 = .ok (.aload_n 0, 1) := by decide +kernel
theorem dX8_sheet_113 : decode cX8_sheet 113 = .ok (.getfield 16, 3) := by decide +kernel
theorem dX8_sheet_116 : decode cX8_sheet 116 = .ok (.invokevirtual 87, 3) := by decide +kernel
theorem dX8_sheet_119 : decode cX8_sheet 119 = .ok (.goto 10, 3) := by decide +kernel
theorem dX8_sheet_122 : decode cX8_sheet 122 = .ok (.aload_n 0, 1) := by decide +kernel
theorem dX8_sheet_123 : decode cX8_sheet 123 = .ok (.getfield 25, 3) := by decide +kernel
theorem dX8_sheet_126 : decode cX8_sheet 126 = .ok (.invokevirtual 99, 3) := by decide +kernel
theorem dX8_sheet_129 : decode cX8_sheet 129 = .ok (.iload_n 2, 1) := by decide +kernel
theorem dX8_sheet_130 : decode cX8_sheet 130 = .ok (.ireturn, 1) := by decide +kernel
set_option maxRecDepth 20000 in
set_option maxHeartbeats 4000000 in
theorem v_X8_sheet_L37 (l : Launch) (g : GG) {r : Int32 × SS} {κ : Nat → Int32 → SS → Option (Int32 × SS)} (hκ : ∀ (p0 : Nat) (y2 : Int32) (τ : SS) (hp0 : kd p0 = 7), κ p0 y2 τ = some r → VV l g 6 RX8 cX8_sheet 4 (some .int) (some (.int r.1), r.2) 96 [(0, .ref (g.1 p0)), (2, .int y2)] [] τ) : ∀ (fu : Nat) (q0 : Nat) (x2 : Int32) (x3 : Int32) (hq0 : kd q0 = 7) (σ : SS), f_X8_sheet_L37 κ fu q0 x2 x3 σ = some r → VV l g 6 RX8 cX8_sheet 4 (some .int) (some (.int r.1), r.2) 37 [(0, .ref (g.1 q0)), (2, .int x2), (3, .int x3)] [] σ := by
  intro fu
  induction fu with
  | zero => intro q0 x2 x3 hq0 σ h; cases h
  | succ fu ih =>
    intro q0 x2 x3 hq0 σ h
    simp only [f_X8_sheet_L37] at h
    refine vr_iload_n (pc := 37) 2 dX8_sheet_37 rfl rfl ?_
    refine vr_aload_n (pc := 38) 0 dX8_sheet_38 rfl rfl ?_
    refine vr_getR (pc := 39) 5 dX8_sheet_39 fi_X8_32 hq0 (sh_7_5 hq0).1 ?_
    refine vr_getI (pc := 42) 1 dX8_sheet_42 fi_X8_75 (sh_7_5 hq0).2 (sh_1_1 (sh_7_5 hq0).2) ?_
    refine vr_icmp_ge (pc := 45) 96 dX8_sheet_45 (by decide) (fun c8 => ?_) (fun c8 => ?_)
    · rw [if_pos c8] at h
      refine vr_sub [0, 1] [(0, .ref (g.1 q0)), (2, .int x2)] rfl ?_
      exact hκ q0 x2 σ (hq0) h
    · rw [if_neg c8] at h
      refine vr_iload_n (pc := 48) 1 dX8_sheet_48 rfl rfl ?_
      refine vr_if_lt (pc := 49) 96 dX8_sheet_49 (by decide) (fun c9 => ?_) (fun c9 => ?_)
      · rw [if_pos c9] at h
        refine vr_sub [0, 1] [(0, .ref (g.1 q0)), (2, .int x2)] rfl ?_
        exact hκ q0 x2 σ (hq0) h
      · rw [if_neg c9] at h
        refine vr_aload_n (pc := 52) 0 dX8_sheet_52 rfl rfl ?_
        refine vr_getR (pc := 53) 5 dX8_sheet_53 fi_X8_32 hq0 (sh_7_5 hq0).1 ?_
        refine vr_iload_n (pc := 56) 2 dX8_sheet_56 rfl rfl ?_
        obtain ⟨z10, hz11, h⟩ := ob_some h
        refine vr_callV (pc := 57) (ρ1 := (some (.int z10), σ)) [.int x3] dX8_sheet_57 (s_X1_beginsStatement l g (sh_7_5 hq0).2 hz11) cw_X1_beginsStatement ml_X8_91 (sh_7_5 hq0).2 rfl (by decide) (by decide) rfl rfl (Nat.le_of_ble_eq_true rfl) ?_
        refine vr_if_eq (pc := 60) 90 dX8_sheet_60 (by decide) (fun c12 => ?_) (fun c12 => ?_)
        · rw [if_pos c12] at h
          refine vr_iinc (pc := 90) [(3, .int (x3 + 1)), (0, .ref (g.1 q0)), (2, .int x2)] 2 dX8_sheet_90 rfl (congrArg (fun z => x3 + z) ci_1) (by decide) rfl ?_
          refine vr_goto (pc := 93) 37 dX8_sheet_93 (by decide) ?_
          refine vr_sub [1, 2, 0] [(0, .ref (g.1 q0)), (2, .int x2), (3, .int (x3 + 1))] rfl ?_
          exact ih q0 x2 (x3 + 1) (hq0) σ h
        · rw [if_neg c12] at h
          refine vr_aload_n (pc := 63) 0 dX8_sheet_63 rfl rfl ?_
          refine vr_getR (pc := 64) 5 dX8_sheet_64 fi_X8_32 hq0 (sh_7_5 hq0).1 ?_
          refine vr_iload_n (pc := 67) 2 dX8_sheet_67 rfl rfl ?_
          refine vr_aload_n (pc := 68) 0 dX8_sheet_68 rfl rfl ?_
          refine vr_getR (pc := 69) 0 dX8_sheet_69 fi_X8_10 hq0 (sh_7_0 hq0).1 ?_
          obtain ⟨z13, hz14, h⟩ := ob_some h
          refine vr_callV (pc := 72) (ρ1 := (some (.int z13.1), z13.2)) [.int x3, .ref (g.1 (rid q0 0))] dX8_sheet_72 (s_X1_comesTrue l g (sh_7_5 hq0).2 (sh_7_0 hq0).2 hz14) cw_X1_comesTrue ml_X8_95 (sh_7_5 hq0).2 rfl (by decide) (by decide) rfl rfl (Nat.le_of_ble_eq_true rfl) ?_
          refine vr_if_eq (pc := 75) 84 dX8_sheet_75 (by decide) (fun c15 => ?_) (fun c15 => ?_)
          · rw [if_pos c15] at h
            refine vr_sipush (pc := 84) (-2000) dX8_sheet_84 cs_m2000 ?_
            refine vr_iload_n (pc := 87) 2 dX8_sheet_87 rfl rfl ?_
            refine vr_isub (pc := 88) dX8_sheet_88 ?_
            refine vr_istore_n (pc := 89) [(2, .int ((-2000) - x3)), (0, .ref (g.1 q0)), (3, .int x3)] dX8_sheet_89 rfl (by decide) rfl ?_
            refine vr_iinc (pc := 90) [(3, .int (x3 + 1)), (2, .int ((-2000) - x3)), (0, .ref (g.1 q0))] 2 dX8_sheet_90 rfl (congrArg (fun z => x3 + z) ci_1) (by decide) rfl ?_
            refine vr_goto (pc := 93) 37 dX8_sheet_93 (by decide) ?_
            refine vr_sub [2, 1, 0] [(0, .ref (g.1 q0)), (2, .int ((-2000) - x3)), (3, .int (x3 + 1))] rfl ?_
            exact ih q0 ((-2000) - x3) (x3 + 1) (hq0) z13.2 h
          · rw [if_neg c15] at h
            refine vr_iload_n (pc := 78) 1 dX8_sheet_78 rfl rfl ?_
            refine vr_iconst (pc := 79) 1 dX8_sheet_79 ci_1 ?_
            refine vr_iadd (pc := 80) dX8_sheet_80 ?_
            refine vr_goto (pc := 81) 89 dX8_sheet_81 (by decide) ?_
            refine vr_istore_n (pc := 89) [(2, .int (x2 + 1)), (0, .ref (g.1 q0)), (3, .int x3)] dX8_sheet_89 rfl (by decide) rfl ?_
            refine vr_iinc (pc := 90) [(3, .int (x3 + 1)), (2, .int (x2 + 1)), (0, .ref (g.1 q0))] 2 dX8_sheet_90 rfl (congrArg (fun z => x3 + z) ci_1) (by decide) rfl ?_
            refine vr_goto (pc := 93) 37 dX8_sheet_93 (by decide) ?_
            refine vr_sub [2, 1, 0] [(0, .ref (g.1 q0)), (2, .int (x2 + 1)), (3, .int (x3 + 1))] rfl ?_
            exact ih q0 (x2 + 1) (x3 + 1) (hq0) z13.2 h
set_option maxRecDepth 20000 in
set_option maxHeartbeats 4000000 in
theorem s_X8_sheet (l : Launch) (g : GG) {q0 : Nat} (hq0 : kd q0 = 7) {σ : SS} {r : Int32 × SS} (h : f_X8_sheet q0 σ = some r) : CT l g 6 yX8_sheet cX8_sheet 4 (some .int) [.ref (g.1 q0)] σ (some (.int r.1), r.2) := by
  refine CT.of (lv := [(0, .ref (g.1 q0))]) RX8 (by decide +kernel) rfl (Nat.le_of_ble_eq_true rfl) rfl ?_
  unfold f_X8_sheet at h
  refine vr_aload_n (pc := 0) 0 dX8_sheet_0 rfl rfl ?_
  refine vr_getR (pc := 1) 5 dX8_sheet_1 fi_X8_32 hq0 (sh_7_5 hq0).1 ?_
  obtain ⟨z1, hz2, h⟩ := ob_some h
  refine vr_callV (pc := 4) (ρ1 := (some (.int z1), σ)) [] dX8_sheet_4 (s_X1_firstMisplaced l g (sh_7_5 hq0).2 hz2) cw_X1_firstMisplaced ml_X8_83 (sh_7_5 hq0).2 rfl (by decide) (by decide) rfl rfl (Nat.le_of_ble_eq_true rfl) ?_
  refine vr_istore_n (pc := 7) [(1, .int z1), (0, .ref (g.1 q0))] dX8_sheet_7 rfl (by decide) rfl ?_
  refine vr_iload_n (pc := 8) 0 dX8_sheet_8 rfl rfl ?_
  refine vr_bipush (pc := 9) (-9) dX8_sheet_9 cb_m9 ?_
  obtain ⟨j3, ej3, h⟩ := jn1_e h
  have hj3 : ∀ (v5 : Int32) , j3 v5 = some r → VV l g 6 RX8 cX8_sheet 4 (some .int) (some (.int r.1), r.2) 23 [(0, .ref (g.1 q0))] [.int v5] σ := by
    intro v5  h
    rw [ej3] at h
    refine vr_istore_n (pc := 23) [(2, .int v5), (0, .ref (g.1 q0))] dX8_sheet_23 rfl (by decide) rfl ?_
    refine vr_aload_n (pc := 24) 1 dX8_sheet_24 rfl rfl ?_
    refine vr_getR (pc := 25) 1 dX8_sheet_25 fi_X8_16 hq0 (sh_7_1 hq0).1 ?_
    refine vr_aload_n (pc := 28) 1 dX8_sheet_28 rfl rfl ?_
    refine vr_getR (pc := 29) 0 dX8_sheet_29 fi_X8_10 hq0 (sh_7_0 hq0).1 ?_
    obtain ⟨z6, hz7, h⟩ := ob_some h
    refine vr_callV (pc := 32) (ρ1 := (none, z6)) [.ref (g.1 (rid q0 0))] dX8_sheet_32 (s_X4_become l g (sh_7_1 hq0).2 (sh_7_0 hq0).2 hz7) cw_X4_become ml_X8_87 (sh_7_1 hq0).2 rfl (by decide) (by decide) rfl rfl (Nat.le_of_ble_eq_true rfl) ?_
    refine vr_iconst (pc := 35) 0 dX8_sheet_35 ci_0 ?_
    refine vr_istore_n (pc := 36) [(3, .int 0), (2, .int v5), (0, .ref (g.1 q0))] dX8_sheet_36 rfl (by decide) rfl ?_
    refine vr_sub [2, 1, 0] [(0, .ref (g.1 q0)), (2, .int v5), (3, .int 0)] rfl ?_
    refine v_X8_sheet_L37 l g (fun p0 y2 τ hp0 h => ?_) FU q0 v5 0 (hq0) z6 h
    refine vr_aload_n (pc := 96) 0 dX8_sheet_96 rfl rfl ?_
    refine vr_getR (pc := 97) 5 dX8_sheet_97 fi_X8_32 hp0 (sh_7_5 hp0).1 ?_
    refine vr_iconst (pc := 100) 0 dX8_sheet_100 ci_0 ?_
    refine vr_putI (pc := 101) 1 dX8_sheet_101 fi_X8_75 (fw_1_1 _) (sh_7_5 hp0).2 (sh_1_1 (sh_7_5 hp0).2) ?_
    refine vr_iload_n (pc := 104) 1 dX8_sheet_104 rfl rfl ?_
    refine vr_if_ge (pc := 105) 122 dX8_sheet_105 (by decide) (fun c16 => ?_) (fun c16 => ?_)
    · rw [if_pos c16] at h
      refine vr_aload_n (pc := 122) 0 dX8_sheet_122 rfl rfl ?_
      refine vr_getR (pc := 123) 4 dX8_sheet_123 fi_X8_25 hp0 (sh_7_4 hp0).1 ?_
      obtain ⟨z17, hz18, h⟩ := ob_some h
      refine vr_callV (pc := 126) (ρ1 := (none, z17)) [] dX8_sheet_126 (s_X3_forget l g (sh_7_4 hp0).2 hz18) cw_X3_forget ml_X8_99 (sh_7_4 hp0).2 rfl (by decide) (by decide) rfl rfl (Nat.le_of_ble_eq_true rfl) ?_
      refine vr_iload_n (pc := 129) 1 dX8_sheet_129 rfl rfl ?_
      have h := Option.some.inj h; subst h
      exact vr_iret (pc := 130) .int dX8_sheet_130 rfl rfl rfl
    · rw [if_neg c16] at h
      refine vr_aload_n (pc := 108) 0 dX8_sheet_108 rfl rfl ?_
      refine vr_getR (pc := 109) 0 dX8_sheet_109 fi_X8_10 hp0 (sh_7_0 hp0).1 ?_
      refine vr_aload_n (pc := 112) 0 dX8_sheet_112 rfl rfl ?_
      refine vr_getR (pc := 113) 1 dX8_sheet_113 fi_X8_16 hp0 (sh_7_1 hp0).1 ?_
      obtain ⟨z19, hz20, h⟩ := ob_some h
      refine vr_callV (pc := 116) (ρ1 := (none, z19)) [.ref (g.1 (rid p0 1))] dX8_sheet_116 (s_X4_become l g (sh_7_0 hp0).2 (sh_7_1 hp0).2 hz20) cw_X4_become ml_X8_87 (sh_7_0 hp0).2 rfl (by decide) (by decide) rfl rfl (Nat.le_of_ble_eq_true rfl) ?_
      refine vr_goto (pc := 119) 129 dX8_sheet_119 (by decide) ?_
      refine vr_iload_n (pc := 129) 1 dX8_sheet_129 rfl rfl ?_
      have h := Option.some.inj h; subst h
      exact vr_iret (pc := 130) .int dX8_sheet_130 rfl rfl rfl
  refine vr_icmp_ne (pc := 11) 18 dX8_sheet_11 (by decide) (fun c21 => ?_) (fun c21 => ?_)
  · rw [if_neg c21] at h
    refine vr_sipush (pc := 18) (-1000) dX8_sheet_18 cs_m1000 ?_
    refine vr_iload_n (pc := 21) 0 dX8_sheet_21 rfl rfl ?_
    refine vr_isub (pc := 22) dX8_sheet_22 ?_
    refine vr_sub [1] [(0, .ref (g.1 q0))] rfl ?_
    exact hj3 ((-1000) - z1) h
  · rw [if_pos c21] at h
    refine vr_iconst (pc := 14) 0 dX8_sheet_14 ci_0 ?_
    refine vr_goto (pc := 15) 23 dX8_sheet_15 (by decide) ?_
    refine vr_sub [1] [(0, .ref (g.1 q0))] rfl ?_
    exact hj3 0 h
theorem dX8_ring_0 : decode cX8_ring 0 = .ok (.iload_n 1, 1) := by decide +kernel
theorem dX8_ring_1 : decode cX8_ring 1 = .ok (.iconst 3, 1) := by decide +kernel
theorem dX8_ring_2 : decode cX8_ring 2 = .ok (.if_icmp .ge 10, 3) := by decide +kernel
theorem dX8_ring_5 : decode cX8_ring 5 = .ok (.aload_n 0, 1) := by decide +kernel
theorem dX8_ring_6 : decode cX8_ring 6 = .ok (.bipush (-4), 2) := by decide +kernel
theorem dX8_ring_8 : decode cX8_ring 8 = .ok (.invokevirtual 71, 3) := by decide +kernel
theorem dX8_ring_11 : decode cX8_ring 11 = .ok (.ireturn, 1) := by decide +kernel
theorem dX8_ring_12 : decode cX8_ring 12 = .ok (.iload_n 1, 1) := by decide +kernel
theorem dX8_ring_13 : decode cX8_ring 13 = .ok (.bipush 60, 2) := by decide +kernel
theorem dX8_ring_15 : decode cX8_ring 15 = .ok (.if_icmp .le 10, 3) := by decide +kernel
theorem dX8_ring_18 : decode cX8_ring 18 = .ok (.aload_n 0, 1) := by decide +kernel
theorem dX8_ring_19 : decode cX8_ring 19 = .ok (.bipush (-6), 2) := by decide +kernel
theorem dX8_ring_21 : decode cX8_ring 21 = .ok (.invokevirtual 71, 3) := by decide +kernel
theorem dX8_ring_24 : decode cX8_ring 24 = .ok (.ireturn, 1) := by decide +kernel
theorem dX8_ring_25 : decode cX8_ring 25 = .ok (.aload_n 0, 1) := by decide +kernel
theorem dX8_ring_26 : decode cX8_ring 26 = .ok (.getfield 10, 3) := by decide +kernel
theorem dX8_ring_29 : decode cX8_ring 29 = .ok (.iload_n 1, 1) := by decide +kernel
theorem dX8_ring_30 : decode cX8_ring 30 = .ok (.invokevirtual 102, 3) := by decide +kernel
theorem dX8_ring_33 : decode cX8_ring 33 = .ok (.ifCond .ne 10, 3) := by decide +kernel
theorem dX8_ring_36 : decode cX8_ring 36 = .ok (.aload_n 0, 1) := by decide +kernel
theorem dX8_ring_37 : decode cX8_ring 37 = .ok (.bipush (-3), 2) := by decide +kernel
theorem dX8_ring_39 : decode cX8_ring 39 = .ok (.invokevirtual 71, 3) := by decide +kernel
theorem dX8_ring_42 : decode cX8_ring 42 = .ok (.ireturn, 1) := by decide +kernel
theorem dX8_ring_43 : decode cX8_ring 43 = .ok (.aload_n 0, 1) := by decide +kernel
theorem dX8_ring_44 : decode cX8_ring 44 = .ok (.getfield 10, 3) := by decide +kernel
theorem dX8_ring_47 : decode cX8_ring 47 = .ok (.getfield 105, 3) := by decide +kernel
theorem dX8_ring_50 : decode cX8_ring 50 = .ok (.istore_n 2, 1) := by decide +kernel
theorem dX8_ring_51 : decode cX8_ring 51 = .ok (.aload_n 0, 1) := by decide +kernel
theorem dX8_ring_52 : decode cX8_ring 52 = .ok (.getfield 10, 3) := by decide +kernel
theorem dX8_ring_55 : decode cX8_ring 55 = .ok (.iload_n 1, 1) := by decide +kernel
theorem dX8_ring_56 : decode cX8_ring 56 = .ok (.invokevirtual 108, 3) := by decide +kernel
theorem dX8_ring_59 : decode cX8_ring 59 = .ok (.aload_n 0, 1) := by decide +kernel
theorem dX8_ring_60 : decode cX8_ring 60 = .ok (.getfield 25, 3) := by decide +kernel
theorem dX8_ring_63 : decode cX8_ring 63 = .ok (.invokevirtual 99, 3) := by decide +kernel
theorem dX8_ring_66 : decode cX8_ring 66 = .ok (.iload_n 2, 1) := by decide +kernel
theorem dX8_ring_67 : decode cX8_ring 67 = .ok (.ireturn, 1) := by decide +kernel
set_option maxRecDepth 20000 in
set_option maxHeartbeats 4000000 in
theorem s_X8_ring (l : Launch) (g : GG) {q0 : Nat} (hq0 : kd q0 = 7) {a1 : Int32} {σ : SS} {r : Int32 × SS} (h : f_X8_ring q0 a1 σ = some r) : CT l g 2 yX8_ring cX8_ring 3 (some .int) [.ref (g.1 q0), .int a1] σ (some (.int r.1), r.2) := by
  refine CT.of (lv := [(0, .ref (g.1 q0)), (1, .int a1)]) RX8 (by decide +kernel) rfl (Nat.le_of_ble_eq_true rfl) rfl ?_
  unfold f_X8_ring at h
  refine vr_iload_n (pc := 0) 1 dX8_ring_0 rfl rfl ?_
  refine vr_iconst (pc := 1) 3 dX8_ring_1 ci_3 ?_
  refine vr_icmp_ge (pc := 2) 12 dX8_ring_2 (by decide) (fun c1 => ?_) (fun c1 => ?_)
  · rw [if_pos c1] at h
    refine vr_iload_n (pc := 12) 1 dX8_ring_12 rfl rfl ?_
    refine vr_bipush (pc := 13) 60 dX8_ring_13 cb_60 ?_
    refine vr_icmp_le (pc := 15) 25 dX8_ring_15 (by decide) (fun c2 => ?_) (fun c2 => ?_)
    · rw [if_pos c2] at h
      refine vr_aload_n (pc := 25) 0 dX8_ring_25 rfl rfl ?_
      refine vr_getR (pc := 26) 0 dX8_ring_26 fi_X8_10 hq0 (sh_7_0 hq0).1 ?_
      refine vr_iload_n (pc := 29) 1 dX8_ring_29 rfl rfl ?_
      obtain ⟨z3, hz4, h⟩ := ob_some h
      refine vr_callV (pc := 30) (ρ1 := (some (.int z3), σ)) [.int a1] dX8_ring_30 (s_X4_canHave l g (sh_7_0 hq0).2 hz4) cw_X4_canHave ml_X8_102 (sh_7_0 hq0).2 rfl (by decide) (by decide) rfl rfl (Nat.le_of_ble_eq_true rfl) ?_
      refine vr_if_ne (pc := 33) 43 dX8_ring_33 (by decide) (fun c5 => ?_) (fun c5 => ?_)
      · rw [if_neg c5] at h
        refine vr_aload_n (pc := 43) 0 dX8_ring_43 rfl rfl ?_
        refine vr_getR (pc := 44) 0 dX8_ring_44 fi_X8_10 hq0 (sh_7_0 hq0).1 ?_
        refine vr_getI (pc := 47) 0 dX8_ring_47 fi_X8_105 (sh_7_0 hq0).2 (sh_3_0 (sh_7_0 hq0).2) ?_
        refine vr_istore_n (pc := 50) [(2, .int (σ.1 (rid q0 0) 0)), (0, .ref (g.1 q0)), (1, .int a1)] dX8_ring_50 rfl (by decide) rfl ?_
        refine vr_aload_n (pc := 51) 1 dX8_ring_51 rfl rfl ?_
        refine vr_getR (pc := 52) 0 dX8_ring_52 fi_X8_10 hq0 (sh_7_0 hq0).1 ?_
        refine vr_iload_n (pc := 55) 2 dX8_ring_55 rfl rfl ?_
        obtain ⟨z6, hz7, h⟩ := ob_some h
        refine vr_callV (pc := 56) (ρ1 := (none, z6)) [.int a1] dX8_ring_56 (s_X4_renew l g (sh_7_0 hq0).2 hz7) cw_X4_renew ml_X8_108 (sh_7_0 hq0).2 rfl (by decide) (by decide) rfl rfl (Nat.le_of_ble_eq_true rfl) ?_
        refine vr_aload_n (pc := 59) 1 dX8_ring_59 rfl rfl ?_
        refine vr_getR (pc := 60) 4 dX8_ring_60 fi_X8_25 hq0 (sh_7_4 hq0).1 ?_
        obtain ⟨z8, hz9, h⟩ := ob_some h
        refine vr_callV (pc := 63) (ρ1 := (none, z8)) [] dX8_ring_63 (s_X3_forget l g (sh_7_4 hq0).2 hz9) cw_X3_forget ml_X8_99 (sh_7_4 hq0).2 rfl (by decide) (by decide) rfl rfl (Nat.le_of_ble_eq_true rfl) ?_
        refine vr_iload_n (pc := 66) 0 dX8_ring_66 rfl rfl ?_
        have h := Option.some.inj h; subst h
        exact vr_iret (pc := 67) .int dX8_ring_67 rfl rfl rfl
      · rw [if_pos c5] at h
        refine vr_aload_n (pc := 36) 0 dX8_ring_36 rfl rfl ?_
        refine vr_bipush (pc := 37) (-3) dX8_ring_37 cb_m3 ?_
        obtain ⟨z10, hz11, h⟩ := ob_some h
        refine vr_callV (pc := 39) (ρ1 := (some (.int z10.1), z10.2)) [.int (-3)] dX8_ring_39 (s_X8_refuse l g (hq0) hz11) cw_X8_refuse ml_X8_71 hq0 rfl (by decide) (by decide) rfl rfl (Nat.le_of_ble_eq_true rfl) ?_
        have h := Option.some.inj h; subst h
        exact vr_iret (pc := 42) .int dX8_ring_42 rfl rfl rfl
    · rw [if_neg c2] at h
      refine vr_aload_n (pc := 18) 0 dX8_ring_18 rfl rfl ?_
      refine vr_bipush (pc := 19) (-6) dX8_ring_19 cb_m6 ?_
      obtain ⟨z12, hz13, h⟩ := ob_some h
      refine vr_callV (pc := 21) (ρ1 := (some (.int z12.1), z12.2)) [.int (-6)] dX8_ring_21 (s_X8_refuse l g (hq0) hz13) cw_X8_refuse ml_X8_71 hq0 rfl (by decide) (by decide) rfl rfl (Nat.le_of_ble_eq_true rfl) ?_
      have h := Option.some.inj h; subst h
      exact vr_iret (pc := 24) .int dX8_ring_24 rfl rfl rfl
  · rw [if_neg c1] at h
    refine vr_aload_n (pc := 5) 0 dX8_ring_5 rfl rfl ?_
    refine vr_bipush (pc := 6) (-4) dX8_ring_6 cb_m4 ?_
    obtain ⟨z14, hz15, h⟩ := ob_some h
    refine vr_callV (pc := 8) (ρ1 := (some (.int z14.1), z14.2)) [.int (-4)] dX8_ring_8 (s_X8_refuse l g (hq0) hz15) cw_X8_refuse ml_X8_71 hq0 rfl (by decide) (by decide) rfl rfl (Nat.le_of_ble_eq_true rfl) ?_
    have h := Option.some.inj h; subst h
    exact vr_iret (pc := 11) .int dX8_ring_11 rfl rfl rfl
theorem dX8_wheel_0 : decode cX8_wheel 0 = .ok (.aload_n 0, 1) := by decide +kernel
theorem dX8_wheel_1 : decode cX8_wheel 1 = .ok (.getfield 10, 3) := by decide +kernel
theorem dX8_wheel_4 : decode cX8_wheel 4 = .ok (.iload_n 1, 1) := by decide +kernel
theorem dX8_wheel_5 : decode cX8_wheel 5 = .ok (.iload_n 2, 1) := by decide +kernel
theorem dX8_wheel_6 : decode cX8_wheel 6 = .ok (.iload_n 3, 1) := by decide +kernel
theorem dX8_wheel_7 : decode cX8_wheel 7 = .ok (.iload 4, 2) := by decide +kernel
theorem dX8_wheel_9 : decode cX8_wheel 9 = .ok (.iload 5, 2) := by decide +kernel
theorem dX8_wheel_11 : decode cX8_wheel 11 = .ok (.invokevirtual 111, 3) := by decide +kernel
theorem dX8_wheel_14 : decode cX8_wheel 14 = .ok (.istore 6, 2) := by decide +kernel
theorem dX8_wheel_16 : decode cX8_wheel 16 = .ok (.iload 6, 2) := by decide +kernel
theorem dX8_wheel_18 : decode cX8_wheel 18 = .ok (.ifCond .eq 10, 3) := by decide +kernel
theorem dX8_wheel_21 : decode cX8_wheel 21 = .ok (.aload_n 0, 1) := by decide +kernel
theorem dX8_wheel_22 : decode cX8_wheel 22 = .ok (.iload 6, 2) := by decide +kernel
theorem dX8_wheel_24 : decode cX8_wheel 24 = .ok (.invokevirtual 71, 3) := by decide +kernel
theorem dX8_wheel_27 : decode cX8_wheel 27 = .ok (.ireturn, 1) := by decide +kernel
theorem dX8_wheel_28 : decode cX8_wheel 28 = .ok (.aload_n 0, 1) := by decide +kernel
theorem dX8_wheel_29 : decode cX8_wheel 29 = .ok (.getfield 10, 3) := by decide +kernel
theorem dX8_wheel_32 : decode cX8_wheel 32 = .ok (.iload_n 1, 1) := by decide +kernel
theorem dX8_wheel_33 : decode cX8_wheel 33 = .ok (.iload_n 2, 1) := by decide +kernel
theorem dX8_wheel_34 : decode cX8_wheel 34 = .ok (.iload_n 3, 1) := by decide +kernel
theorem dX8_wheel_35 : decode cX8_wheel 35 = .ok (.iload 4, 2) := by decide +kernel
theorem dX8_wheel_37 : decode cX8_wheel 37 = .ok (.iload 5, 2) := by decide +kernel
theorem dX8_wheel_39 : decode cX8_wheel 39 = .ok (.invokevirtual 115, 3) := by decide +kernel
theorem dX8_wheel_42 : decode cX8_wheel 42 = .ok (.aload_n 0, 1) := by decide +kernel
theorem dX8_wheel_43 : decode cX8_wheel 43 = .ok (.getfield 25, 3) := by decide +kernel
theorem dX8_wheel_46 : decode cX8_wheel 46 = .ok (.invokevirtual 99, 3) := by decide +kernel
theorem dX8_wheel_49 : decode cX8_wheel 49 = .ok (.aload_n 0, 1) := by decide +kernel
theorem dX8_wheel_50 : decode cX8_wheel 50 = .ok (.getfield 10, 3) := by decide +kernel
theorem dX8_wheel_53 : decode cX8_wheel 53 = .ok (.getfield 119, 3) := by decide +kernel
theorem dX8_wheel_56 : decode cX8_wheel 56 = .ok (.iconst 1, 1) := by decide +kernel
theorem dX8_wheel_57 : decode cX8_wheel 57 = .ok (.isub, 1) := by decide +kernel
theorem dX8_wheel_58 : decode cX8_wheel 58 = .ok (.ireturn, 1) := by decide +kernel
set_option maxRecDepth 20000 in
set_option maxHeartbeats 4000000 in
theorem s_X8_wheel (l : Launch) (g : GG) {q0 : Nat} (hq0 : kd q0 = 7) {a1 : Int32} {a2 : Int32} {a3 : Int32} {a4 : Int32} {a5 : Int32} {σ : SS} {r : Int32 × SS} (h : f_X8_wheel q0 a1 a2 a3 a4 a5 σ = some r) : CT l g 2 yX8_wheel cX8_wheel 7 (some .int) [.ref (g.1 q0), .int a1, .int a2, .int a3, .int a4, .int a5] σ (some (.int r.1), r.2) := by
  refine CT.of (lv := [(0, .ref (g.1 q0)), (1, .int a1), (2, .int a2), (3, .int a3), (4, .int a4), (5, .int a5)]) RX8 (by decide +kernel) rfl (Nat.le_of_ble_eq_true rfl) rfl ?_
  unfold f_X8_wheel at h
  refine vr_aload_n (pc := 0) 0 dX8_wheel_0 rfl rfl ?_
  refine vr_getR (pc := 1) 0 dX8_wheel_1 fi_X8_10 hq0 (sh_7_0 hq0).1 ?_
  refine vr_iload_n (pc := 4) 1 dX8_wheel_4 rfl rfl ?_
  refine vr_iload_n (pc := 5) 2 dX8_wheel_5 rfl rfl ?_
  refine vr_iload_n (pc := 6) 3 dX8_wheel_6 rfl rfl ?_
  refine vr_iload (pc := 7) 4 dX8_wheel_7 rfl ?_
  refine vr_iload (pc := 9) 5 dX8_wheel_9 rfl ?_
  refine vr_callV (pc := 11) (ρ1 := (some (.int (f_X4_refusalOfWheel (rid q0 0) a1 a2 a3 a4 a5 σ)), σ)) [.int a1, .int a2, .int a3, .int a4, .int a5] dX8_wheel_11 (s_X4_refusalOfWheel l g (sh_7_0 hq0).2 rfl) cw_X4_refusalOfWheel ml_X8_111 (sh_7_0 hq0).2 rfl (by decide) (by decide) rfl rfl (Nat.le_of_ble_eq_true rfl) ?_
  refine vr_istore (pc := 14) [(6, .int (f_X4_refusalOfWheel (rid q0 0) a1 a2 a3 a4 a5 σ)), (0, .ref (g.1 q0)), (1, .int a1), (2, .int a2), (3, .int a3), (4, .int a4), (5, .int a5)] dX8_wheel_14 (by decide) rfl ?_
  refine vr_iload (pc := 16) 0 dX8_wheel_16 rfl ?_
  refine vr_if_eq (pc := 18) 28 dX8_wheel_18 (by decide) (fun c1 => ?_) (fun c1 => ?_)
  · rw [if_pos c1] at h
    refine vr_aload_n (pc := 28) 1 dX8_wheel_28 rfl rfl ?_
    refine vr_getR (pc := 29) 0 dX8_wheel_29 fi_X8_10 hq0 (sh_7_0 hq0).1 ?_
    refine vr_iload_n (pc := 32) 2 dX8_wheel_32 rfl rfl ?_
    refine vr_iload_n (pc := 33) 3 dX8_wheel_33 rfl rfl ?_
    refine vr_iload_n (pc := 34) 4 dX8_wheel_34 rfl rfl ?_
    refine vr_iload (pc := 35) 5 dX8_wheel_35 rfl ?_
    refine vr_iload (pc := 37) 6 dX8_wheel_37 rfl ?_
    obtain ⟨z2, hz3, h⟩ := ob_some h
    refine vr_callV (pc := 39) (ρ1 := (none, z2)) [.int a1, .int a2, .int a3, .int a4, .int a5] dX8_wheel_39 (s_X4_addWheel l g (sh_7_0 hq0).2 hz3) cw_X4_addWheel ml_X8_115 (sh_7_0 hq0).2 rfl (by decide) (by decide) rfl rfl (Nat.le_of_ble_eq_true rfl) ?_
    refine vr_aload_n (pc := 42) 1 dX8_wheel_42 rfl rfl ?_
    refine vr_getR (pc := 43) 4 dX8_wheel_43 fi_X8_25 hq0 (sh_7_4 hq0).1 ?_
    obtain ⟨z4, hz5, h⟩ := ob_some h
    refine vr_callV (pc := 46) (ρ1 := (none, z4)) [] dX8_wheel_46 (s_X3_forget l g (sh_7_4 hq0).2 hz5) cw_X3_forget ml_X8_99 (sh_7_4 hq0).2 rfl (by decide) (by decide) rfl rfl (Nat.le_of_ble_eq_true rfl) ?_
    refine vr_aload_n (pc := 49) 1 dX8_wheel_49 rfl rfl ?_
    refine vr_getR (pc := 50) 0 dX8_wheel_50 fi_X8_10 hq0 (sh_7_0 hq0).1 ?_
    refine vr_getI (pc := 53) 1 dX8_wheel_53 fi_X8_119 (sh_7_0 hq0).2 (sh_3_1 (sh_7_0 hq0).2) ?_
    refine vr_iconst (pc := 56) 1 dX8_wheel_56 ci_1 ?_
    refine vr_isub (pc := 57) dX8_wheel_57 ?_
    have h := Option.some.inj h; subst h
    exact vr_iret (pc := 58) .int dX8_wheel_58 rfl rfl rfl
  · rw [if_neg c1] at h
    refine vr_aload_n (pc := 21) 1 dX8_wheel_21 rfl rfl ?_
    refine vr_iload (pc := 22) 0 dX8_wheel_22 rfl ?_
    obtain ⟨z6, hz7, h⟩ := ob_some h
    refine vr_callV (pc := 24) (ρ1 := (some (.int z6.1), z6.2)) [.int (f_X4_refusalOfWheel (rid q0 0) a1 a2 a3 a4 a5 σ)] dX8_wheel_24 (s_X8_refuse l g (hq0) hz7) cw_X8_refuse ml_X8_71 hq0 rfl (by decide) (by decide) rfl rfl (Nat.le_of_ble_eq_true rfl) ?_
    have h := Option.some.inj h; subst h
    exact vr_iret (pc := 27) .int dX8_wheel_27 rfl rfl rfl
theorem dX8_of_0 : decode cX8_of 0 = .ok (.aload_n 0, 1) := by decide +kernel
theorem dX8_of_1 : decode cX8_of 1 = .ok (.getfield 10, 3) := by decide +kernel
theorem dX8_of_4 : decode cX8_of 4 = .ok (.iload_n 1, 1) := by decide +kernel
theorem dX8_of_5 : decode cX8_of 5 = .ok (.invokevirtual 122, 3) := by decide +kernel
theorem dX8_of_8 : decode cX8_of 8 = .ok (.astore_n 3, 1) := by decide +kernel
theorem dX8_of_9 : decode cX8_of 9 = .ok (.aload_n 3, 1) := by decide +kernel
theorem dX8_of_10 : decode cX8_of 10 = .ok (.ifnonnull 9, 3) := by decide +kernel
theorem dX8_of_13 : decode cX8_of 13 = .ok (.aload_n 0, 1) := by decide +kernel
theorem dX8_of_14 : decode cX8_of 14 = .ok (.iconst (-1), 1) := by decide +kernel
theorem dX8_of_15 : decode cX8_of 15 = .ok (.invokevirtual 71, 3) := by decide +kernel
theorem dX8_of_18 : decode cX8_of 18 = .ok (.ireturn, 1) := by decide +kernel
theorem dX8_of_19 : decode cX8_of 19 = .ok (.iload_n 2, 1) := by decide +kernel
theorem dX8_of_20 : decode cX8_of 20 = .ok (.tableswitch 96 0 7 #[48, 53, 58, 63, 68, 73, 78, 83], 48) := by decide +kernel
theorem dX8_of_68 : decode cX8_of 68 = .ok (.aload_n 3, 1) := by decide +kernel
theorem dX8_of_69 : decode cX8_of 69 = .ok (.getfield 126, 3) := by decide +kernel
theorem dX8_of_72 : decode cX8_of 72 = .ok (.ireturn, 1) := by decide +kernel
theorem dX8_of_73 : decode cX8_of 73 = .ok (.aload_n 3, 1) := by decide +kernel
theorem dX8_of_74 : decode cX8_of 74 = .ok (.getfield 129, 3) := by decide +kernel
theorem dX8_of_77 : decode cX8_of 77 = .ok (.ireturn, 1) := by decide +kernel
theorem dX8_of_78 : decode cX8_of 78 = .ok (.aload_n 3, 1) := by decide +kernel
theorem dX8_of_79 : decode cX8_of 79 = .ok (.getfield 130, 3) := by decide +kernel
theorem dX8_of_82 : decode cX8_of 82 = .ok (.ireturn, 1) := by decide +kernel
theorem dX8_of_83 : decode cX8_of 83 = .ok (.aload_n 3, 1) := by decide +kernel
theorem dX8_of_84 : decode cX8_of 84 = .ok (.getfield 133, 3) := by decide +kernel
theorem dX8_of_87 : decode cX8_of 87 = .ok (.ireturn, 1) := by decide +kernel
theorem dX8_of_88 : decode cX8_of 88 = .ok (.aload_n 3, 1) := by decide +kernel
theorem dX8_of_89 : decode cX8_of 89 = .ok (.getfield 136, 3) := by decide +kernel
theorem dX8_of_92 : decode cX8_of 92 = .ok (.ireturn, 1) := by decide +kernel
theorem dX8_of_93 : decode cX8_of 93 = .ok (.aload_n 3, 1) := by decide +kernel
theorem dX8_of_94 : decode cX8_of 94 = .ok (.getfield 139, 3) := by decide +kernel
theorem dX8_of_97 : decode cX8_of 97 = .ok (.ireturn, 1) := by decide +kernel
theorem dX8_of_98 : decode cX8_of 98 = .ok (.aload_n 3, 1) := by decide +kernel
theorem dX8_of_99 : decode cX8_of 99 = .ok (.invokevirtual 142, 3) := by decide +kernel
theorem dX8_of_102 : decode cX8_of 102 = .ok (.ireturn, 1) := by decide +kernel
theorem dX8_of_103 : decode cX8_of 103 = .ok (.aload_n 0, 1) := by decide +kernel
theorem dX8_of_104 : decode cX8_of 104 = .ok (.getfield 10, 3) := by decide +kernel
theorem dX8_of_107 : decode cX8_of 107 = .ok (.aload_n 3, 1) := by decide +kernel
theorem dX8_of_108 : decode cX8_of 108 = .ok (.aload_n 3, 1) := by decide +kernel
theorem dX8_of_109 : decode cX8_of 109 = .ok (.getfield 136, 3) := by decide +kernel
theorem dX8_of_112 : decode cX8_of 112 = .ok (.invokevirtual 145, 3) := by decide +kernel
theorem dX8_of_115 : decode cX8_of 115 = .ok (.ireturn, 1) := by decide +kernel
theorem dX8_of_116 : decode cX8_of 116 = .ok (.aload_n 0, 1) := by decide +kernel
theorem dX8_of_117 : decode cX8_of 117 = .ok (.bipush (-2), 2) := by decide +kernel
theorem dX8_of_119 : decode cX8_of 119 = .ok (.invokevirtual 71, 3) := by decide +kernel
theorem dX8_of_122 : decode cX8_of 122 = .ok (.ireturn, 1) := by decide +kernel
set_option maxRecDepth 20000 in
set_option maxHeartbeats 4000000 in
theorem s_X8_of (l : Launch) (g : GG) {q0 : Nat} (hq0 : kd q0 = 7) {a1 : Int32} {a2 : Int32} {σ : SS} {r : Int32 × SS} (h : f_X8_of q0 a1 a2 σ = some r) : CT l g 3 yX8_of cX8_of 4 (some .int) [.ref (g.1 q0), .int a1, .int a2] σ (some (.int r.1), r.2) := by
  refine CT.of (lv := [(0, .ref (g.1 q0)), (1, .int a1), (2, .int a2)]) RX8 (by decide +kernel) rfl (Nat.le_of_ble_eq_true rfl) rfl ?_
  unfold f_X8_of at h
  refine vr_aload_n (pc := 0) 0 dX8_of_0 rfl rfl ?_
  refine vr_getR (pc := 1) 0 dX8_of_1 fi_X8_10 hq0 (sh_7_0 hq0).1 ?_
  refine vr_iload_n (pc := 4) 1 dX8_of_4 rfl rfl ?_
  obtain ⟨z1, hz2, h⟩ := ob_some h
  refine vr_callV (pc := 5) (ρ1 := (some (rvO g z1), σ)) [.int a1] dX8_of_5 (s_X4_wheelAt l g (sh_7_0 hq0).2 hz2) cw_X4_wheelAt ml_X8_122 (sh_7_0 hq0).2 rfl (by decide) (by decide) rfl rfl (Nat.le_of_ble_eq_true rfl) ?_
  refine vr_astore_nO (pc := 8) [(3, rvO g z1), (0, .ref (g.1 q0)), (1, .int a1), (2, .int a2)] dX8_of_8 rfl (by decide) rfl ?_
  refine vr_aload_nO (pc := 9) 0 dX8_of_9 rfl rfl ?_
  refine vr_ifnonnull (pc := 10) 19 dX8_of_10 (by decide) (fun w3 hw4 => ?_) (fun hn19 => ?_)
  · simp only [hw4] at h
    refine vr_sub [0, 1, 2, 3] [(3, .ref (g.1 w3)), (0, .ref (g.1 q0)), (1, .int a1), (2, .int a2)] (by rw [hw4]; rfl) ?_
    refine vr_iload_n (pc := 19) 3 dX8_of_19 rfl rfl ?_
    by_cases c5 : a2 = 0
    · rw [if_pos c5] at h
      refine vr_tableIn (pc := 20) 48 68 dX8_of_20 (by rw [c5]; decide) (by rw [c5]; decide) (by rw [c5]; rfl) (by decide) ?_
      refine vr_aload_n (pc := 68) 0 dX8_of_68 rfl rfl ?_
      refine vr_getI (pc := 69) 0 dX8_of_69 fi_X8_126 ((kf_X4_wheelAt hz2 (sh_7_0 hq0).2) w3 hw4) (sh_6_0 ((kf_X4_wheelAt hz2 (sh_7_0 hq0).2) w3 hw4)) ?_
      have h := Option.some.inj h; subst h
      exact vr_iret (pc := 72) .int dX8_of_72 rfl rfl rfl
    · rw [if_neg c5] at h
      by_cases c6 : a2 = 1
      · rw [if_pos c6] at h
        refine vr_tableIn (pc := 20) 53 73 dX8_of_20 (by rw [c6]; decide) (by rw [c6]; decide) (by rw [c6]; rfl) (by decide) ?_
        refine vr_aload_n (pc := 73) 0 dX8_of_73 rfl rfl ?_
        refine vr_getI (pc := 74) 1 dX8_of_74 fi_X8_129 ((kf_X4_wheelAt hz2 (sh_7_0 hq0).2) w3 hw4) (sh_6_1 ((kf_X4_wheelAt hz2 (sh_7_0 hq0).2) w3 hw4)) ?_
        have h := Option.some.inj h; subst h
        exact vr_iret (pc := 77) .int dX8_of_77 rfl rfl rfl
      · rw [if_neg c6] at h
        by_cases c7 : a2 = 2
        · rw [if_pos c7] at h
          refine vr_tableIn (pc := 20) 58 78 dX8_of_20 (by rw [c7]; decide) (by rw [c7]; decide) (by rw [c7]; rfl) (by decide) ?_
          refine vr_aload_n (pc := 78) 0 dX8_of_78 rfl rfl ?_
          refine vr_getI (pc := 79) 2 dX8_of_79 fi_X8_130 ((kf_X4_wheelAt hz2 (sh_7_0 hq0).2) w3 hw4) (sh_6_2 ((kf_X4_wheelAt hz2 (sh_7_0 hq0).2) w3 hw4)) ?_
          have h := Option.some.inj h; subst h
          exact vr_iret (pc := 82) .int dX8_of_82 rfl rfl rfl
        · rw [if_neg c7] at h
          by_cases c8 : a2 = 3
          · rw [if_pos c8] at h
            refine vr_tableIn (pc := 20) 63 83 dX8_of_20 (by rw [c8]; decide) (by rw [c8]; decide) (by rw [c8]; rfl) (by decide) ?_
            refine vr_aload_n (pc := 83) 0 dX8_of_83 rfl rfl ?_
            refine vr_getI (pc := 84) 3 dX8_of_84 fi_X8_133 ((kf_X4_wheelAt hz2 (sh_7_0 hq0).2) w3 hw4) (sh_6_3 ((kf_X4_wheelAt hz2 (sh_7_0 hq0).2) w3 hw4)) ?_
            have h := Option.some.inj h; subst h
            exact vr_iret (pc := 87) .int dX8_of_87 rfl rfl rfl
          · rw [if_neg c8] at h
            by_cases c9 : a2 = 4
            · rw [if_pos c9] at h
              refine vr_tableIn (pc := 20) 68 88 dX8_of_20 (by rw [c9]; decide) (by rw [c9]; decide) (by rw [c9]; rfl) (by decide) ?_
              refine vr_aload_n (pc := 88) 0 dX8_of_88 rfl rfl ?_
              refine vr_getI (pc := 89) 4 dX8_of_89 fi_X8_136 ((kf_X4_wheelAt hz2 (sh_7_0 hq0).2) w3 hw4) (sh_6_4 ((kf_X4_wheelAt hz2 (sh_7_0 hq0).2) w3 hw4)) ?_
              have h := Option.some.inj h; subst h
              exact vr_iret (pc := 92) .int dX8_of_92 rfl rfl rfl
            · rw [if_neg c9] at h
              by_cases c10 : a2 = 5
              · rw [if_pos c10] at h
                refine vr_tableIn (pc := 20) 73 93 dX8_of_20 (by rw [c10]; decide) (by rw [c10]; decide) (by rw [c10]; rfl) (by decide) ?_
                refine vr_aload_n (pc := 93) 0 dX8_of_93 rfl rfl ?_
                refine vr_getI (pc := 94) 5 dX8_of_94 fi_X8_139 ((kf_X4_wheelAt hz2 (sh_7_0 hq0).2) w3 hw4) (sh_6_5 ((kf_X4_wheelAt hz2 (sh_7_0 hq0).2) w3 hw4)) ?_
                have h := Option.some.inj h; subst h
                exact vr_iret (pc := 97) .int dX8_of_97 rfl rfl rfl
              · rw [if_neg c10] at h
                by_cases c11 : a2 = 6
                · rw [if_pos c11] at h
                  refine vr_tableIn (pc := 20) 78 98 dX8_of_20 (by rw [c11]; decide) (by rw [c11]; decide) (by rw [c11]; rfl) (by decide) ?_
                  refine vr_aload_n (pc := 98) 0 dX8_of_98 rfl rfl ?_
                  refine vr_callV (pc := 99) (ρ1 := (some (.int (f_X7_side w3 σ)), σ)) [] dX8_of_99 (s_X7_side l g ((kf_X4_wheelAt hz2 (sh_7_0 hq0).2) w3 hw4) rfl) cw_X7_side ml_X8_142 ((kf_X4_wheelAt hz2 (sh_7_0 hq0).2) w3 hw4) rfl (by decide) (by decide) rfl rfl (Nat.le_of_ble_eq_true rfl) ?_
                  have h := Option.some.inj h; subst h
                  exact vr_iret (pc := 102) .int dX8_of_102 rfl rfl rfl
                · rw [if_neg c11] at h
                  by_cases c12 : a2 = 7
                  · rw [if_pos c12] at h
                    refine vr_tableIn (pc := 20) 83 103 dX8_of_20 (by rw [c12]; decide) (by rw [c12]; decide) (by rw [c12]; rfl) (by decide) ?_
                    refine vr_aload_n (pc := 103) 1 dX8_of_103 rfl rfl ?_
                    refine vr_getR (pc := 104) 0 dX8_of_104 fi_X8_10 hq0 (sh_7_0 hq0).1 ?_
                    refine vr_aload_n (pc := 107) 0 dX8_of_107 rfl rfl ?_
                    refine vr_aload_n (pc := 108) 0 dX8_of_108 rfl rfl ?_
                    refine vr_getI (pc := 109) 4 dX8_of_109 fi_X8_136 ((kf_X4_wheelAt hz2 (sh_7_0 hq0).2) w3 hw4) (sh_6_4 ((kf_X4_wheelAt hz2 (sh_7_0 hq0).2) w3 hw4)) ?_
                    obtain ⟨z13, hz14, h⟩ := ob_some h
                    refine vr_callV (pc := 112) (ρ1 := (some (.int z13), σ)) [.ref (g.1 w3), .int (σ.1 w3 4)] dX8_of_112 (s_X4_nextBy l g (sh_7_0 hq0).2 ((kf_X4_wheelAt hz2 (sh_7_0 hq0).2) w3 hw4) hz14) cw_X4_nextBy ml_X8_145 (sh_7_0 hq0).2 rfl (by decide) (by decide) rfl rfl (Nat.le_of_ble_eq_true rfl) ?_
                    have h := Option.some.inj h; subst h
                    exact vr_iret (pc := 115) .int dX8_of_115 rfl rfl rfl
                  · rw [if_neg c12] at h
                    refine vr_tableOut (pc := 20) 116 dX8_of_20 (tab_out (x := a2) 0 7 (fun z1 z2 => by rcases (show a2.toInt = 0 ∨ a2.toInt = 1 ∨ a2.toInt = 2 ∨ a2.toInt = 3 ∨ a2.toInt = 4 ∨ a2.toInt = 5 ∨ a2.toInt = 6 ∨ a2.toInt = 7 from by omega) with z | z | z | z | z | z | z | z <;> first | exact c5 (i32_of z (by decide)) | exact c6 (i32_of z (by decide)) | exact c7 (i32_of z (by decide)) | exact c8 (i32_of z (by decide)) | exact c9 (i32_of z (by decide)) | exact c10 (i32_of z (by decide)) | exact c11 (i32_of z (by decide)) | exact c12 (i32_of z (by decide)))) (by decide) ?_
                    refine vr_aload_n (pc := 116) 1 dX8_of_116 rfl rfl ?_
                    refine vr_bipush (pc := 117) (-2) dX8_of_117 cb_m2 ?_
                    obtain ⟨z15, hz16, h⟩ := ob_some h
                    refine vr_callV (pc := 119) (ρ1 := (some (.int z15.1), z15.2)) [.int (-2)] dX8_of_119 (s_X8_refuse l g (hq0) hz16) cw_X8_refuse ml_X8_71 hq0 rfl (by decide) (by decide) rfl rfl (Nat.le_of_ble_eq_true rfl) ?_
                    have h := Option.some.inj h; subst h
                    exact vr_iret (pc := 122) .int dX8_of_122 rfl rfl rfl
  · simp only [hn19] at h
    refine vr_sub [1, 2, 3] [(0, .ref (g.1 q0)), (1, .int a1), (2, .int a2)] rfl ?_
    refine vr_aload_n (pc := 13) 0 dX8_of_13 rfl rfl ?_
    refine vr_iconst (pc := 14) (-1) dX8_of_14 ci_m1 ?_
    obtain ⟨z17, hz18, h⟩ := ob_some h
    refine vr_callV (pc := 15) (ρ1 := (some (.int z17.1), z17.2)) [.int (-1)] dX8_of_15 (s_X8_refuse l g (hq0) hz18) cw_X8_refuse ml_X8_71 hq0 rfl (by decide) (by decide) rfl rfl (Nat.le_of_ble_eq_true rfl) ?_
    have h := Option.some.inj h; subst h
    exact vr_iret (pc := 18) .int dX8_of_18 rfl rfl rfl
theorem dX8_change_0 : decode cX8_change 0 = .ok (.aload_n 0, 1) := by decide +kernel
theorem dX8_change_1 : decode cX8_change 1 = .ok (.getfield 10, 3) := by decide +kernel
theorem dX8_change_4 : decode cX8_change 4 = .ok (.iload_n 1, 1) := by decide +kernel
theorem dX8_change_5 : decode cX8_change 5 = .ok (.invokevirtual 122, 3) := by decide +kernel
theorem dX8_change_8 : decode cX8_change 8 = .ok (.astore 4, 2) := by decide +kernel
theorem dX8_change_10 : decode cX8_change 10 = .ok (.aload 4, 2) := by decide +kernel
theorem dX8_change_12 : decode cX8_change 12 = .ok (.ifnonnull 9, 3) := by decide +kernel
theorem dX8_change_15 : decode cX8_change 15 = .ok (.aload_n 0, 1) := by decide +kernel
theorem dX8_change_16 : decode cX8_change 16 = .ok (.iconst (-1), 1) := by decide +kernel
theorem dX8_change_17 : decode cX8_change 17 = .ok (.invokevirtual 71, 3) := by decide +kernel
theorem dX8_change_20 : decode cX8_change 20 = .ok (.ireturn, 1) := by decide +kernel
theorem dX8_change_21 : decode cX8_change 21 = .ok (.iload_n 2, 1) := by decide +kernel
theorem dX8_change_22 : decode cX8_change 22 = .ok (.iconst 1, 1) := by decide +kernel
theorem dX8_change_23 : decode cX8_change 23 = .ok (.if_icmp .lt 8, 3) := by decide +kernel
theorem dX8_change_26 : decode cX8_change 26 = .ok (.iload_n 2, 1) := by decide +kernel
theorem dX8_change_27 : decode cX8_change 27 = .ok (.iconst 3, 1) := by decide +kernel
theorem dX8_change_28 : decode cX8_change 28 = .ok (.if_icmp .le 10, 3) := by decide +kernel
theorem dX8_change_31 : decode cX8_change 31 = .ok (.aload_n 0, 1) := by decide +kernel
theorem dX8_change_32 : decode cX8_change 32 = .ok (.bipush (-2), 2) := by decide +kernel
theorem dX8_change_34 : decode cX8_change 34 = .ok (.invokevirtual 71, 3) := by decide +kernel
theorem dX8_change_37 : decode cX8_change 37 = .ok (.ireturn, 1) := by decide +kernel
theorem dX8_change_38 : decode cX8_change 38 = .ok (.iload_n 2, 1) := by decide +kernel
theorem dX8_change_39 : decode cX8_change 39 = .ok (.iconst 2, 1) := by decide +kernel
theorem dX8_change_40 : decode cX8_change 40 = .ok (.if_icmp .ne 7, 3) := by decide +kernel
theorem dX8_change_43 : decode cX8_change 43 = .ok (.iconst 0, 1) := by decide +kernel
theorem dX8_change_44 : decode cX8_change 44 = .ok (.goto 4, 3) := by decide +kernel
theorem dX8_change_47 : decode cX8_change 47 = .ok (.iconst 1, 1) := by decide +kernel
theorem dX8_change_48 : decode cX8_change 48 = .ok (.istore 5, 2) := by decide +kernel
theorem dX8_change_50 : decode cX8_change 50 = .ok (.iload_n 2, 1) := by decide +kernel
theorem dX8_change_51 : decode cX8_change 51 = .ok (.iconst 1, 1) := by decide +kernel
theorem dX8_change_52 : decode cX8_change 52 = .ok (.if_icmp .ne 15, 3) := by decide +kernel
theorem dX8_change_55 : decode cX8_change 55 = .ok (.aload_n 0, 1) := by decide +kernel
theorem dX8_change_56 : decode cX8_change 56 = .ok (.getfield 10, 3) := by decide +kernel
theorem dX8_change_59 : decode cX8_change 59 = .ok (.getfield 105, 3) := by decide +kernel
theorem dX8_change_62 : decode cX8_change 62 = .ok (.iconst 1, 1) := by decide +kernel
theorem dX8_change_63 : decode cX8_change 63 = .ok (.isub, 1) := by decide +kernel
theorem dX8_change_64 : decode cX8_change 64 = .ok (.goto 15, 3) := by decide +kernel
theorem dX8_change_67 : decode cX8_change 67 = .ok (.iload_n 2, 1) := by decide +kernel
theorem dX8_change_68 : decode cX8_change 68 = .ok (.iconst 2, 1) := by decide +kernel
theorem dX8_change_69 : decode cX8_change 69 = .ok (.if_icmp .ne 8, 3) := by decide +kernel
theorem dX8_change_72 : decode cX8_change 72 = .ok (.bipush 9, 2) := by decide +kernel
theorem dX8_change_74 : decode cX8_change 74 = .ok (.goto 5, 3) := by decide +kernel
theorem dX8_change_77 : decode cX8_change 77 = .ok (.bipush 9, 2) := by decide +kernel
theorem dX8_change_79 : decode cX8_change 79 = .ok (.istore 6, 2) := by decide +kernel
theorem dX8_change_81 : decode cX8_change 81 = .ok (.iload_n 3, 1) := by decide +kernel
theorem dX8_change_82 : decode cX8_change 82 = .ok (.iload 5, 2) := by decide +kernel
theorem dX8_change_84 : decode cX8_change 84 = .ok (.if_icmp .ge 10, 3) := by decide +kernel
theorem dX8_change_87 : decode cX8_change 87 = .ok (.aload_n 0, 1) := by decide +kernel
theorem dX8_change_88 : decode cX8_change 88 = .ok (.bipush (-4), 2) := by decide +kernel
theorem dX8_change_90 : decode cX8_change 90 = .ok (.invokevirtual 71, 3) := by decide +kernel
theorem dX8_change_93 : decode cX8_change 93 = .ok (.ireturn, 1) := by decide +kernel
theorem dX8_change_94 : decode cX8_change 94 = .ok (.iload_n 3, 1) := by decide +kernel
theorem dX8_change_95 : decode cX8_change 95 = .ok (.iload 6, 2) := by decide +kernel
theorem dX8_change_97 : decode cX8_change 97 = .ok (.if_icmp .le 10, 3) := by decide +kernel
theorem dX8_change_100 : decode cX8_change 100 = .ok (.aload_n 0, 1) := by decide +kernel
theorem dX8_change_101 : decode cX8_change 101 = .ok (.bipush (-6), 2) := by decide +kernel
theorem dX8_change_103 : decode cX8_change 103 = .ok (.invokevirtual 71, 3) := by decide +kernel
theorem dX8_change_106 : decode cX8_change 106 = .ok (.ireturn, 1) := by decide +kernel
theorem dX8_change_107 : decode cX8_change 107 = .ok (.aload_n 0, 1) := by decide +kernel
theorem dX8_change_108 : decode cX8_change 108 = .ok (.getfield 25, 3) := by decide +kernel
theorem dX8_change_111 : decode cX8_change 111 = .ok (.invokevirtual 99, 3) := by decide +kernel
theorem dX8_change_114 : decode cX8_change 114 = .ok (.aload 4, 2) := by decide +kernel
theorem dX8_change_116 : decode cX8_change 116 = .ok (.iload_n 2, 1) := by decide +kernel
theorem dX8_change_117 : decode cX8_change 117 = .ok (.iload_n 3, 1) := by decide +kernel
theorem dX8_change_118 : decode cX8_change 118 = .ok (.invokevirtual 149, 3) := by decide +kernel
theorem dX8_change_121 : decode cX8_change 121 = .ok (.ireturn, 1) := by decide +kernel
set_option maxRecDepth 20000 in
set_option maxHeartbeats 4000000 in
theorem s_X8_change (l : Launch) (g : GG) {q0 : Nat} (hq0 : kd q0 = 7) {a1 : Int32} {a2 : Int32} {a3 : Int32} {σ : SS} {r : Int32 × SS} (h : f_X8_change q0 a1 a2 a3 σ = some r) : CT l g 1 yX8_change cX8_change 7 (some .int) [.ref (g.1 q0), .int a1, .int a2, .int a3] σ (some (.int r.1), r.2) := by
  refine CT.of (lv := [(0, .ref (g.1 q0)), (1, .int a1), (2, .int a2), (3, .int a3)]) RX8 (by decide +kernel) rfl (Nat.le_of_ble_eq_true rfl) rfl ?_
  unfold f_X8_change at h
  refine vr_aload_n (pc := 0) 0 dX8_change_0 rfl rfl ?_
  refine vr_getR (pc := 1) 0 dX8_change_1 fi_X8_10 hq0 (sh_7_0 hq0).1 ?_
  refine vr_iload_n (pc := 4) 1 dX8_change_4 rfl rfl ?_
  obtain ⟨z1, hz2, h⟩ := ob_some h
  refine vr_callV (pc := 5) (ρ1 := (some (rvO g z1), σ)) [.int a1] dX8_change_5 (s_X4_wheelAt l g (sh_7_0 hq0).2 hz2) cw_X4_wheelAt ml_X8_122 (sh_7_0 hq0).2 rfl (by decide) (by decide) rfl rfl (Nat.le_of_ble_eq_true rfl) ?_
  refine vr_astoreO (pc := 8) [(4, rvO g z1), (0, .ref (g.1 q0)), (1, .int a1), (2, .int a2), (3, .int a3)] dX8_change_8 (by decide) rfl ?_
  refine vr_aloadO (pc := 10) 0 dX8_change_10 rfl ?_
  refine vr_ifnonnull (pc := 12) 21 dX8_change_12 (by decide) (fun w3 hw4 => ?_) (fun hn32 => ?_)
  · simp only [hw4] at h
    refine vr_sub [0, 1, 2, 3, 4] [(4, .ref (g.1 w3)), (0, .ref (g.1 q0)), (1, .int a1), (2, .int a2), (3, .int a3)] (by rw [hw4]; rfl) ?_
    refine vr_iload_n (pc := 21) 3 dX8_change_21 rfl rfl ?_
    refine vr_iconst (pc := 22) 1 dX8_change_22 ci_1 ?_
    refine vr_icmp_lt (pc := 23) 31 dX8_change_23 (by decide) (fun c5 => ?_) (fun c5 => ?_)
    · rw [if_pos c5] at h
      refine vr_aload_n (pc := 31) 1 dX8_change_31 rfl rfl ?_
      refine vr_bipush (pc := 32) (-2) dX8_change_32 cb_m2 ?_
      obtain ⟨z6, hz7, h⟩ := ob_some h
      refine vr_callV (pc := 34) (ρ1 := (some (.int z6.1), z6.2)) [.int (-2)] dX8_change_34 (s_X8_refuse l g (hq0) hz7) cw_X8_refuse ml_X8_71 hq0 rfl (by decide) (by decide) rfl rfl (Nat.le_of_ble_eq_true rfl) ?_
      have h := Option.some.inj h; subst h
      exact vr_iret (pc := 37) .int dX8_change_37 rfl rfl rfl
    · rw [if_neg c5] at h
      refine vr_iload_n (pc := 26) 3 dX8_change_26 rfl rfl ?_
      refine vr_iconst (pc := 27) 3 dX8_change_27 ci_3 ?_
      refine vr_icmp_le (pc := 28) 38 dX8_change_28 (by decide) (fun c8 => ?_) (fun c8 => ?_)
      · rw [if_pos c8] at h
        refine vr_iload_n (pc := 38) 3 dX8_change_38 rfl rfl ?_
        refine vr_iconst (pc := 39) 2 dX8_change_39 ci_2 ?_
        obtain ⟨j9, ej9, h⟩ := jn1_e h
        have hj9 : ∀ (v11 : Int32) , j9 v11 = some r → VV l g 1 RX8 cX8_change 7 (some .int) (some (.int r.1), r.2) 48 [(0, .ref (g.1 q0)), (2, .int a2), (3, .int a3), (4, .ref (g.1 w3))] [.int v11] σ := by
          intro v11  h
          rw [ej9] at h
          refine vr_istore (pc := 48) [(5, .int v11), (0, .ref (g.1 q0)), (2, .int a2), (3, .int a3), (4, .ref (g.1 w3))] dX8_change_48 (by decide) rfl ?_
          refine vr_iload_n (pc := 50) 2 dX8_change_50 rfl rfl ?_
          refine vr_iconst (pc := 51) 1 dX8_change_51 ci_1 ?_
          obtain ⟨j12, ej12, h⟩ := jn1_e h
          have hj12 : ∀ (v14 : Int32) , j12 v14 = some r → VV l g 1 RX8 cX8_change 7 (some .int) (some (.int r.1), r.2) 79 [(0, .ref (g.1 q0)), (2, .int a2), (3, .int a3), (4, .ref (g.1 w3)), (5, .int v11)] [.int v14] σ := by
            intro v14  h
            rw [ej12] at h
            refine vr_istore (pc := 79) [(6, .int v14), (0, .ref (g.1 q0)), (2, .int a2), (3, .int a3), (4, .ref (g.1 w3)), (5, .int v11)] dX8_change_79 (by decide) rfl ?_
            refine vr_iload_n (pc := 81) 3 dX8_change_81 rfl rfl ?_
            refine vr_iload (pc := 82) 5 dX8_change_82 rfl ?_
            refine vr_icmp_ge (pc := 84) 94 dX8_change_84 (by decide) (fun c15 => ?_) (fun c15 => ?_)
            · rw [if_pos c15] at h
              refine vr_iload_n (pc := 94) 3 dX8_change_94 rfl rfl ?_
              refine vr_iload (pc := 95) 0 dX8_change_95 rfl ?_
              refine vr_icmp_le (pc := 97) 107 dX8_change_97 (by decide) (fun c16 => ?_) (fun c16 => ?_)
              · rw [if_pos c16] at h
                refine vr_aload_n (pc := 107) 1 dX8_change_107 rfl rfl ?_
                refine vr_getR (pc := 108) 4 dX8_change_108 fi_X8_25 hq0 (sh_7_4 hq0).1 ?_
                obtain ⟨z17, hz18, h⟩ := ob_some h
                refine vr_callV (pc := 111) (ρ1 := (none, z17)) [] dX8_change_111 (s_X3_forget l g (sh_7_4 hq0).2 hz18) cw_X3_forget ml_X8_99 (sh_7_4 hq0).2 rfl (by decide) (by decide) rfl rfl (Nat.le_of_ble_eq_true rfl) ?_
                refine vr_aload (pc := 114) 4 dX8_change_114 rfl ?_
                refine vr_iload_n (pc := 116) 2 dX8_change_116 rfl rfl ?_
                refine vr_iload_n (pc := 117) 3 dX8_change_117 rfl rfl ?_
                obtain ⟨z19, hz20, h⟩ := ob_some h
                refine vr_callV (pc := 118) (ρ1 := (some (.int z19.1), z19.2)) [.int a2, .int a3] dX8_change_118 (s_X7_exchange l g ((kf_X4_wheelAt hz2 (sh_7_0 hq0).2) w3 hw4) hz20) cw_X7_exchange ml_X8_149 ((kf_X4_wheelAt hz2 (sh_7_0 hq0).2) w3 hw4) rfl (by decide) (by decide) rfl rfl (Nat.le_of_ble_eq_true rfl) ?_
                have h := Option.some.inj h; subst h
                exact vr_iret (pc := 121) .int dX8_change_121 rfl rfl rfl
              · rw [if_neg c16] at h
                refine vr_aload_n (pc := 100) 1 dX8_change_100 rfl rfl ?_
                refine vr_bipush (pc := 101) (-6) dX8_change_101 cb_m6 ?_
                obtain ⟨z21, hz22, h⟩ := ob_some h
                refine vr_callV (pc := 103) (ρ1 := (some (.int z21.1), z21.2)) [.int (-6)] dX8_change_103 (s_X8_refuse l g (hq0) hz22) cw_X8_refuse ml_X8_71 hq0 rfl (by decide) (by decide) rfl rfl (Nat.le_of_ble_eq_true rfl) ?_
                have h := Option.some.inj h; subst h
                exact vr_iret (pc := 106) .int dX8_change_106 rfl rfl rfl
            · rw [if_neg c15] at h
              refine vr_aload_n (pc := 87) 1 dX8_change_87 rfl rfl ?_
              refine vr_bipush (pc := 88) (-4) dX8_change_88 cb_m4 ?_
              obtain ⟨z23, hz24, h⟩ := ob_some h
              refine vr_callV (pc := 90) (ρ1 := (some (.int z23.1), z23.2)) [.int (-4)] dX8_change_90 (s_X8_refuse l g (hq0) hz24) cw_X8_refuse ml_X8_71 hq0 rfl (by decide) (by decide) rfl rfl (Nat.le_of_ble_eq_true rfl) ?_
              have h := Option.some.inj h; subst h
              exact vr_iret (pc := 93) .int dX8_change_93 rfl rfl rfl
          refine vr_icmp_ne (pc := 52) 67 dX8_change_52 (by decide) (fun c25 => ?_) (fun c25 => ?_)
          · rw [if_neg c25] at h
            refine vr_iload_n (pc := 67) 2 dX8_change_67 rfl rfl ?_
            refine vr_iconst (pc := 68) 2 dX8_change_68 ci_2 ?_
            refine vr_icmp_ne (pc := 69) 77 dX8_change_69 (by decide) (fun c26 => ?_) (fun c26 => ?_)
            · rw [if_neg c26] at h
              refine vr_bipush (pc := 77) 9 dX8_change_77 cb_9 ?_
              refine vr_sub [1, 2, 3, 4, 0] [(0, .ref (g.1 q0)), (2, .int a2), (3, .int a3), (4, .ref (g.1 w3)), (5, .int v11)] rfl ?_
              exact hj12 9 h
            · rw [if_pos c26] at h
              refine vr_bipush (pc := 72) 9 dX8_change_72 cb_9 ?_
              refine vr_goto (pc := 74) 79 dX8_change_74 (by decide) ?_
              refine vr_sub [1, 2, 3, 4, 0] [(0, .ref (g.1 q0)), (2, .int a2), (3, .int a3), (4, .ref (g.1 w3)), (5, .int v11)] rfl ?_
              exact hj12 9 h
          · rw [if_pos c25] at h
            refine vr_aload_n (pc := 55) 1 dX8_change_55 rfl rfl ?_
            refine vr_getR (pc := 56) 0 dX8_change_56 fi_X8_10 hq0 (sh_7_0 hq0).1 ?_
            refine vr_getI (pc := 59) 0 dX8_change_59 fi_X8_105 (sh_7_0 hq0).2 (sh_3_0 (sh_7_0 hq0).2) ?_
            refine vr_iconst (pc := 62) 1 dX8_change_62 ci_1 ?_
            refine vr_isub (pc := 63) dX8_change_63 ?_
            refine vr_goto (pc := 64) 79 dX8_change_64 (by decide) ?_
            refine vr_sub [1, 2, 3, 4, 0] [(0, .ref (g.1 q0)), (2, .int a2), (3, .int a3), (4, .ref (g.1 w3)), (5, .int v11)] rfl ?_
            exact hj12 ((σ.1 (rid q0 0) 0) - 1) h
        refine vr_icmp_ne (pc := 40) 47 dX8_change_40 (by decide) (fun c27 => ?_) (fun c27 => ?_)
        · rw [if_neg c27] at h
          refine vr_iconst (pc := 47) 1 dX8_change_47 ci_1 ?_
          refine vr_sub [1, 3, 4, 0] [(0, .ref (g.1 q0)), (2, .int a2), (3, .int a3), (4, .ref (g.1 w3))] rfl ?_
          exact hj9 1 h
        · rw [if_pos c27] at h
          refine vr_iconst (pc := 43) 0 dX8_change_43 ci_0 ?_
          refine vr_goto (pc := 44) 48 dX8_change_44 (by decide) ?_
          refine vr_sub [1, 3, 4, 0] [(0, .ref (g.1 q0)), (2, .int a2), (3, .int a3), (4, .ref (g.1 w3))] rfl ?_
          exact hj9 0 h
      · rw [if_neg c8] at h
        refine vr_aload_n (pc := 31) 1 dX8_change_31 rfl rfl ?_
        refine vr_bipush (pc := 32) (-2) dX8_change_32 cb_m2 ?_
        obtain ⟨z28, hz29, h⟩ := ob_some h
        refine vr_callV (pc := 34) (ρ1 := (some (.int z28.1), z28.2)) [.int (-2)] dX8_change_34 (s_X8_refuse l g (hq0) hz29) cw_X8_refuse ml_X8_71 hq0 rfl (by decide) (by decide) rfl rfl (Nat.le_of_ble_eq_true rfl) ?_
        have h := Option.some.inj h; subst h
        exact vr_iret (pc := 37) .int dX8_change_37 rfl rfl rfl
  · simp only [hn32] at h
    refine vr_sub [1, 2, 3, 4] [(0, .ref (g.1 q0)), (1, .int a1), (2, .int a2), (3, .int a3)] rfl ?_
    refine vr_aload_n (pc := 15) 0 dX8_change_15 rfl rfl ?_
    refine vr_iconst (pc := 16) (-1) dX8_change_16 ci_m1 ?_
    obtain ⟨z30, hz31, h⟩ := ob_some h
    refine vr_callV (pc := 17) (ρ1 := (some (.int z30.1), z30.2)) [.int (-1)] dX8_change_17 (s_X8_refuse l g (hq0) hz31) cw_X8_refuse ml_X8_71 hq0 rfl (by decide) (by decide) rfl rfl (Nat.le_of_ble_eq_true rfl) ?_
    have h := Option.some.inj h; subst h
    exact vr_iret (pc := 20) .int dX8_change_20 rfl rfl rfl
theorem dX8_puts_0 : decode cX8_puts 0 = .ok (.aload_n 0, 1) := by decide +kernel
theorem dX8_puts_1 : decode cX8_puts 1 = .ok (.getfield 10, 3) := by decide +kernel
theorem dX8_puts_4 : decode cX8_puts 4 = .ok (.iload_n 1, 1) := by decide +kernel
theorem dX8_puts_5 : decode cX8_puts 5 = .ok (.invokevirtual 122, 3) := by decide +kernel
theorem dX8_puts_8 : decode cX8_puts 8 = .ok (.astore_n 3, 1) := by decide +kernel
theorem dX8_puts_9 : decode cX8_puts 9 = .ok (.aload_n 3, 1) := by decide +kernel
theorem dX8_puts_10 : decode cX8_puts 10 = .ok (.ifnull 14, 3) := by decide +kernel
theorem dX8_puts_13 : decode cX8_puts 13 = .ok (.aload_n 0, 1) := by decide +kernel
theorem dX8_puts_14 : decode cX8_puts 14 = .ok (.getfield 10, 3) := by decide +kernel
theorem dX8_puts_17 : decode cX8_puts 17 = .ok (.iload_n 2, 1) := by decide +kernel
theorem dX8_puts_18 : decode cX8_puts 18 = .ok (.invokevirtual 153, 3) := by decide +kernel
theorem dX8_puts_21 : decode cX8_puts 21 = .ok (.ifCond .ne 9, 3) := by decide +kernel
theorem dX8_puts_24 : decode cX8_puts 24 = .ok (.aload_n 0, 1) := by decide +kernel
theorem dX8_puts_25 : decode cX8_puts 25 = .ok (.iconst (-1), 1) := by decide +kernel
theorem dX8_puts_26 : decode cX8_puts 26 = .ok (.invokevirtual 71, 3) := by decide +kernel
theorem dX8_puts_29 : decode cX8_puts 29 = .ok (.ireturn, 1) := by decide +kernel
theorem dX8_puts_30 : decode cX8_puts 30 = .ok (.aload_n 0, 1) := by decide +kernel
theorem dX8_puts_31 : decode cX8_puts 31 = .ok (.getfield 25, 3) := by decide +kernel
theorem dX8_puts_34 : decode cX8_puts 34 = .ok (.aload_n 0, 1) := by decide +kernel
theorem dX8_puts_35 : decode cX8_puts 35 = .ok (.getfield 10, 3) := by decide +kernel
theorem dX8_puts_38 : decode cX8_puts 38 = .ok (.invokevirtual 156, 3) := by decide +kernel
theorem dX8_puts_41 : decode cX8_puts 41 = .ok (.aload_n 3, 1) := by decide +kernel
theorem dX8_puts_42 : decode cX8_puts 42 = .ok (.getfield 136, 3) := by decide +kernel
theorem dX8_puts_45 : decode cX8_puts 45 = .ok (.istore 4, 2) := by decide +kernel
theorem dX8_puts_47 : decode cX8_puts 47 = .ok (.aload_n 3, 1) := by decide +kernel
theorem dX8_puts_48 : decode cX8_puts 48 = .ok (.iload_n 2, 1) := by decide +kernel
theorem dX8_puts_49 : decode cX8_puts 49 = .ok (.putfield 136, 3) := by decide +kernel
theorem dX8_puts_52 : decode cX8_puts 52 = .ok (.iload 4, 2) := by decide +kernel
theorem dX8_puts_54 : decode cX8_puts 54 = .ok (.ireturn, 1) := by decide +kernel
set_option maxRecDepth 20000 in
set_option maxHeartbeats 4000000 in
theorem s_X8_puts (l : Launch) (g : GG) {q0 : Nat} (hq0 : kd q0 = 7) {a1 : Int32} {a2 : Int32} {σ : SS} {r : Int32 × SS} (h : f_X8_puts q0 a1 a2 σ = some r) : CT l g 4 yX8_puts cX8_puts 5 (some .int) [.ref (g.1 q0), .int a1, .int a2] σ (some (.int r.1), r.2) := by
  refine CT.of (lv := [(0, .ref (g.1 q0)), (1, .int a1), (2, .int a2)]) RX8 (by decide +kernel) rfl (Nat.le_of_ble_eq_true rfl) rfl ?_
  unfold f_X8_puts at h
  refine vr_aload_n (pc := 0) 0 dX8_puts_0 rfl rfl ?_
  refine vr_getR (pc := 1) 0 dX8_puts_1 fi_X8_10 hq0 (sh_7_0 hq0).1 ?_
  refine vr_iload_n (pc := 4) 1 dX8_puts_4 rfl rfl ?_
  obtain ⟨z1, hz2, h⟩ := ob_some h
  refine vr_callV (pc := 5) (ρ1 := (some (rvO g z1), σ)) [.int a1] dX8_puts_5 (s_X4_wheelAt l g (sh_7_0 hq0).2 hz2) cw_X4_wheelAt ml_X8_122 (sh_7_0 hq0).2 rfl (by decide) (by decide) rfl rfl (Nat.le_of_ble_eq_true rfl) ?_
  refine vr_astore_nO (pc := 8) [(3, rvO g z1), (0, .ref (g.1 q0)), (1, .int a1), (2, .int a2)] dX8_puts_8 rfl (by decide) rfl ?_
  refine vr_aload_nO (pc := 9) 0 dX8_puts_9 rfl rfl ?_
  refine vr_ifnull (pc := 10) 24 dX8_puts_10 (by decide) (fun hn12 => ?_) (fun w3 hw4 => ?_)
  · simp only [hn12] at h
    refine vr_sub [1, 2, 3] [(0, .ref (g.1 q0)), (1, .int a1), (2, .int a2)] rfl ?_
    refine vr_aload_n (pc := 24) 0 dX8_puts_24 rfl rfl ?_
    refine vr_iconst (pc := 25) (-1) dX8_puts_25 ci_m1 ?_
    obtain ⟨z10, hz11, h⟩ := ob_some h
    refine vr_callV (pc := 26) (ρ1 := (some (.int z10.1), z10.2)) [.int (-1)] dX8_puts_26 (s_X8_refuse l g (hq0) hz11) cw_X8_refuse ml_X8_71 hq0 rfl (by decide) (by decide) rfl rfl (Nat.le_of_ble_eq_true rfl) ?_
    have h := Option.some.inj h; subst h
    exact vr_iret (pc := 29) .int dX8_puts_29 rfl rfl rfl
  · simp only [hw4] at h
    refine vr_sub [0, 1, 2, 3] [(3, .ref (g.1 w3)), (0, .ref (g.1 q0)), (1, .int a1), (2, .int a2)] (by rw [hw4]; rfl) ?_
    refine vr_aload_n (pc := 13) 1 dX8_puts_13 rfl rfl ?_
    refine vr_getR (pc := 14) 0 dX8_puts_14 fi_X8_10 hq0 (sh_7_0 hq0).1 ?_
    refine vr_iload_n (pc := 17) 3 dX8_puts_17 rfl rfl ?_
    refine vr_callV (pc := 18) (ρ1 := (some (.int (f_X4_isTooth (rid q0 0) a2 σ)), σ)) [.int a2] dX8_puts_18 (s_X4_isTooth l g (sh_7_0 hq0).2 rfl) cw_X4_isTooth ml_X8_153 (sh_7_0 hq0).2 rfl (by decide) (by decide) rfl rfl (Nat.le_of_ble_eq_true rfl) ?_
    refine vr_if_ne (pc := 21) 30 dX8_puts_21 (by decide) (fun c5 => ?_) (fun c5 => ?_)
    · rw [if_neg c5] at h
      refine vr_aload_n (pc := 30) 1 dX8_puts_30 rfl rfl ?_
      refine vr_getR (pc := 31) 4 dX8_puts_31 fi_X8_25 hq0 (sh_7_4 hq0).1 ?_
      refine vr_aload_n (pc := 34) 1 dX8_puts_34 rfl rfl ?_
      refine vr_getR (pc := 35) 0 dX8_puts_35 fi_X8_10 hq0 (sh_7_0 hq0).1 ?_
      obtain ⟨z6, hz7, h⟩ := ob_some h
      refine vr_callV (pc := 38) (ρ1 := (none, z6)) [.ref (g.1 (rid q0 0))] dX8_puts_38 (s_X3_keep l g (sh_7_4 hq0).2 (sh_7_0 hq0).2 hz7) cw_X3_keep ml_X8_156 (sh_7_4 hq0).2 rfl (by decide) (by decide) rfl rfl (Nat.le_of_ble_eq_true rfl) ?_
      refine vr_aload_n (pc := 41) 0 dX8_puts_41 rfl rfl ?_
      refine vr_getI (pc := 42) 4 dX8_puts_42 fi_X8_136 ((kf_X4_wheelAt hz2 (sh_7_0 hq0).2) w3 hw4) (sh_6_4 ((kf_X4_wheelAt hz2 (sh_7_0 hq0).2) w3 hw4)) ?_
      refine vr_istore (pc := 45) [(4, .int (z6.1 w3 4)), (3, .ref (g.1 w3)), (0, .ref (g.1 q0)), (1, .int a1), (2, .int a2)] dX8_puts_45 (by decide) rfl ?_
      refine vr_aload_n (pc := 47) 1 dX8_puts_47 rfl rfl ?_
      refine vr_iload_n (pc := 48) 4 dX8_puts_48 rfl rfl ?_
      refine vr_putI (pc := 49) 4 dX8_puts_49 fi_X8_136 (fw_6_4 _) ((kf_X4_wheelAt hz2 (sh_7_0 hq0).2) w3 hw4) (sh_6_4 ((kf_X4_wheelAt hz2 (sh_7_0 hq0).2) w3 hw4)) ?_
      refine vr_iload (pc := 52) 0 dX8_puts_52 rfl ?_
      have h := Option.some.inj h; subst h
      exact vr_iret (pc := 54) .int dX8_puts_54 rfl rfl rfl
    · rw [if_pos c5] at h
      refine vr_aload_n (pc := 24) 1 dX8_puts_24 rfl rfl ?_
      refine vr_iconst (pc := 25) (-1) dX8_puts_25 ci_m1 ?_
      obtain ⟨z8, hz9, h⟩ := ob_some h
      refine vr_callV (pc := 26) (ρ1 := (some (.int z8.1), z8.2)) [.int (-1)] dX8_puts_26 (s_X8_refuse l g (hq0) hz9) cw_X8_refuse ml_X8_71 hq0 rfl (by decide) (by decide) rfl rfl (Nat.le_of_ble_eq_true rfl) ?_
      have h := Option.some.inj h; subst h
      exact vr_iret (pc := 29) .int dX8_puts_29 rfl rfl rfl
theorem dX8_next_0 : decode cX8_next 0 = .ok (.aload_n 0, 1) := by decide +kernel
theorem dX8_next_1 : decode cX8_next 1 = .ok (.getfield 10, 3) := by decide +kernel
theorem dX8_next_4 : decode cX8_next 4 = .ok (.iload_n 1, 1) := by decide +kernel
theorem dX8_next_5 : decode cX8_next 5 = .ok (.invokevirtual 122, 3) := by decide +kernel
theorem dX8_next_8 : decode cX8_next 8 = .ok (.astore_n 3, 1) := by decide +kernel
theorem dX8_next_9 : decode cX8_next 9 = .ok (.aload_n 3, 1) := by decide +kernel
theorem dX8_next_10 : decode cX8_next 10 = .ok (.ifnull 14, 3) := by decide +kernel
theorem dX8_next_13 : decode cX8_next 13 = .ok (.aload_n 0, 1) := by decide +kernel
theorem dX8_next_14 : decode cX8_next 14 = .ok (.getfield 10, 3) := by decide +kernel
theorem dX8_next_17 : decode cX8_next 17 = .ok (.iload_n 2, 1) := by decide +kernel
theorem dX8_next_18 : decode cX8_next 18 = .ok (.invokevirtual 153, 3) := by decide +kernel
theorem dX8_next_21 : decode cX8_next 21 = .ok (.ifCond .ne 9, 3) := by decide +kernel
theorem dX8_next_24 : decode cX8_next 24 = .ok (.aload_n 0, 1) := by decide +kernel
theorem dX8_next_25 : decode cX8_next 25 = .ok (.iconst (-1), 1) := by decide +kernel
theorem dX8_next_26 : decode cX8_next 26 = .ok (.invokevirtual 71, 3) := by decide +kernel
theorem dX8_next_29 : decode cX8_next 29 = .ok (.ireturn, 1) := by decide +kernel
theorem dX8_next_30 : decode cX8_next 30 = .ok (.aload_n 0, 1) := by decide +kernel
theorem dX8_next_31 : decode cX8_next 31 = .ok (.getfield 10, 3) := by decide +kernel
theorem dX8_next_34 : decode cX8_next 34 = .ok (.aload_n 3, 1) := by decide +kernel
theorem dX8_next_35 : decode cX8_next 35 = .ok (.iload_n 2, 1) := by decide +kernel
theorem dX8_next_36 : decode cX8_next 36 = .ok (.invokevirtual 145, 3) := by decide +kernel
theorem dX8_next_39 : decode cX8_next 39 = .ok (.ireturn, 1) := by decide +kernel
set_option maxRecDepth 20000 in
set_option maxHeartbeats 4000000 in
theorem s_X8_next (l : Launch) (g : GG) {q0 : Nat} (hq0 : kd q0 = 7) {a1 : Int32} {a2 : Int32} {σ : SS} {r : Int32 × SS} (h : f_X8_next q0 a1 a2 σ = some r) : CT l g 3 yX8_next cX8_next 4 (some .int) [.ref (g.1 q0), .int a1, .int a2] σ (some (.int r.1), r.2) := by
  refine CT.of (lv := [(0, .ref (g.1 q0)), (1, .int a1), (2, .int a2)]) RX8 (by decide +kernel) rfl (Nat.le_of_ble_eq_true rfl) rfl ?_
  unfold f_X8_next at h
  refine vr_aload_n (pc := 0) 0 dX8_next_0 rfl rfl ?_
  refine vr_getR (pc := 1) 0 dX8_next_1 fi_X8_10 hq0 (sh_7_0 hq0).1 ?_
  refine vr_iload_n (pc := 4) 1 dX8_next_4 rfl rfl ?_
  obtain ⟨z1, hz2, h⟩ := ob_some h
  refine vr_callV (pc := 5) (ρ1 := (some (rvO g z1), σ)) [.int a1] dX8_next_5 (s_X4_wheelAt l g (sh_7_0 hq0).2 hz2) cw_X4_wheelAt ml_X8_122 (sh_7_0 hq0).2 rfl (by decide) (by decide) rfl rfl (Nat.le_of_ble_eq_true rfl) ?_
  refine vr_astore_nO (pc := 8) [(3, rvO g z1), (0, .ref (g.1 q0)), (1, .int a1), (2, .int a2)] dX8_next_8 rfl (by decide) rfl ?_
  refine vr_aload_nO (pc := 9) 0 dX8_next_9 rfl rfl ?_
  refine vr_ifnull (pc := 10) 24 dX8_next_10 (by decide) (fun hn12 => ?_) (fun w3 hw4 => ?_)
  · simp only [hn12] at h
    refine vr_sub [1, 2, 3] [(0, .ref (g.1 q0)), (1, .int a1), (2, .int a2)] rfl ?_
    refine vr_aload_n (pc := 24) 0 dX8_next_24 rfl rfl ?_
    refine vr_iconst (pc := 25) (-1) dX8_next_25 ci_m1 ?_
    obtain ⟨z10, hz11, h⟩ := ob_some h
    refine vr_callV (pc := 26) (ρ1 := (some (.int z10.1), z10.2)) [.int (-1)] dX8_next_26 (s_X8_refuse l g (hq0) hz11) cw_X8_refuse ml_X8_71 hq0 rfl (by decide) (by decide) rfl rfl (Nat.le_of_ble_eq_true rfl) ?_
    have h := Option.some.inj h; subst h
    exact vr_iret (pc := 29) .int dX8_next_29 rfl rfl rfl
  · simp only [hw4] at h
    refine vr_sub [0, 1, 2, 3] [(3, .ref (g.1 w3)), (0, .ref (g.1 q0)), (1, .int a1), (2, .int a2)] (by rw [hw4]; rfl) ?_
    refine vr_aload_n (pc := 13) 1 dX8_next_13 rfl rfl ?_
    refine vr_getR (pc := 14) 0 dX8_next_14 fi_X8_10 hq0 (sh_7_0 hq0).1 ?_
    refine vr_iload_n (pc := 17) 3 dX8_next_17 rfl rfl ?_
    refine vr_callV (pc := 18) (ρ1 := (some (.int (f_X4_isTooth (rid q0 0) a2 σ)), σ)) [.int a2] dX8_next_18 (s_X4_isTooth l g (sh_7_0 hq0).2 rfl) cw_X4_isTooth ml_X8_153 (sh_7_0 hq0).2 rfl (by decide) (by decide) rfl rfl (Nat.le_of_ble_eq_true rfl) ?_
    refine vr_if_ne (pc := 21) 30 dX8_next_21 (by decide) (fun c5 => ?_) (fun c5 => ?_)
    · rw [if_neg c5] at h
      refine vr_aload_n (pc := 30) 1 dX8_next_30 rfl rfl ?_
      refine vr_getR (pc := 31) 0 dX8_next_31 fi_X8_10 hq0 (sh_7_0 hq0).1 ?_
      refine vr_aload_n (pc := 34) 0 dX8_next_34 rfl rfl ?_
      refine vr_iload_n (pc := 35) 3 dX8_next_35 rfl rfl ?_
      obtain ⟨z6, hz7, h⟩ := ob_some h
      refine vr_callV (pc := 36) (ρ1 := (some (.int z6), σ)) [.ref (g.1 w3), .int a2] dX8_next_36 (s_X4_nextBy l g (sh_7_0 hq0).2 ((kf_X4_wheelAt hz2 (sh_7_0 hq0).2) w3 hw4) hz7) cw_X4_nextBy ml_X8_145 (sh_7_0 hq0).2 rfl (by decide) (by decide) rfl rfl (Nat.le_of_ble_eq_true rfl) ?_
      have h := Option.some.inj h; subst h
      exact vr_iret (pc := 39) .int dX8_next_39 rfl rfl rfl
    · rw [if_pos c5] at h
      refine vr_aload_n (pc := 24) 1 dX8_next_24 rfl rfl ?_
      refine vr_iconst (pc := 25) (-1) dX8_next_25 ci_m1 ?_
      obtain ⟨z8, hz9, h⟩ := ob_some h
      refine vr_callV (pc := 26) (ρ1 := (some (.int z8.1), z8.2)) [.int (-1)] dX8_next_26 (s_X8_refuse l g (hq0) hz9) cw_X8_refuse ml_X8_71 hq0 rfl (by decide) (by decide) rfl rfl (Nat.le_of_ble_eq_true rfl) ?_
      have h := Option.some.inj h; subst h
      exact vr_iret (pc := 29) .int dX8_next_29 rfl rfl rfl
theorem dX8_refuseLong_0 : decode cX8_refuseLong 0 = .ok (.ldc2_w 350, 3) := by decide +kernel
theorem dX8_refuseLong_3 : decode cX8_refuseLong 3 = .ok (.aload_n 0, 1) := by decide +kernel
theorem dX8_refuseLong_4 : decode cX8_refuseLong 4 = .ok (.iload_n 1, 1) := by decide +kernel
theorem dX8_refuseLong_5 : decode cX8_refuseLong 5 = .ok (.invokevirtual 71, 3) := by decide +kernel
theorem dX8_refuseLong_8 : decode cX8_refuseLong 8 = .ok (.i2l, 1) := by decide +kernel
theorem dX8_refuseLong_9 : decode cX8_refuseLong 9 = .ok (.lsub, 1) := by decide +kernel
theorem dX8_refuseLong_10 : decode cX8_refuseLong 10 = .ok (.lreturn, 1) := by decide +kernel
set_option maxRecDepth 20000 in
set_option maxHeartbeats 4000000 in
theorem s_X8_refuseLong (l : Launch) (g : GG) {q0 : Nat} (hq0 : kd q0 = 7) {a1 : Int32} {σ : SS} {r : Int64 × SS} (h : f_X8_refuseLong q0 a1 σ = some r) : CT l g 1 yX8_refuseLong cX8_refuseLong 2 (some .long) [.ref (g.1 q0), .int a1] σ (some (.long r.1), r.2) := by
  refine CT.of (lv := [(0, .ref (g.1 q0)), (1, .int a1)]) RX8 (by decide +kernel) rfl (Nat.le_of_ble_eq_true rfl) rfl ?_
  unfold f_X8_refuseLong at h
  refine vr_ldc2 (pc := 0) 4000000000000000000 dX8_refuseLong_0 co_X8_350 ?_
  refine vr_aload_n (pc := 3) 0 dX8_refuseLong_3 rfl rfl ?_
  refine vr_iload_n (pc := 4) 1 dX8_refuseLong_4 rfl rfl ?_
  obtain ⟨z1, hz2, h⟩ := ob_some h
  refine vr_callV (pc := 5) (ρ1 := (some (.int z1.1), z1.2)) [.int a1] dX8_refuseLong_5 (s_X8_refuse l g (hq0) hz2) cw_X8_refuse ml_X8_71 hq0 rfl (by decide) (by decide) rfl rfl (Nat.le_of_ble_eq_true rfl) ?_
  refine vr_i2l (pc := 8) dX8_refuseLong_8 ?_
  refine vr_lsub (pc := 9) dX8_refuseLong_9 ?_
  have h := Option.some.inj h; subst h
  exact vr_lret (pc := 10) dX8_refuseLong_10 rfl rfl
theorem dX8_isOneOfTwo_0 : decode cX8_isOneOfTwo 0 = .ok (.iload_n 0, 1) := by decide +kernel
theorem dX8_isOneOfTwo_1 : decode cX8_isOneOfTwo 1 = .ok (.ifCond .eq 8, 3) := by decide +kernel
theorem dX8_isOneOfTwo_4 : decode cX8_isOneOfTwo 4 = .ok (.iload_n 0, 1) := by decide +kernel
theorem dX8_isOneOfTwo_5 : decode cX8_isOneOfTwo 5 = .ok (.iconst 1, 1) := by decide +kernel
theorem dX8_isOneOfTwo_6 : decode cX8_isOneOfTwo 6 = .ok (.if_icmp .ne 7, 3) := by decide +kernel
theorem dX8_isOneOfTwo_9 : decode cX8_isOneOfTwo 9 = .ok (.iconst 1, 1) := by decide +kernel
theorem dX8_isOneOfTwo_10 : decode cX8_isOneOfTwo 10 = .ok (.goto 4, 3) := by decide +kernel
theorem dX8_isOneOfTwo_13 : decode cX8_isOneOfTwo 13 = .ok (.iconst 0, 1) := by decide +kernel
theorem dX8_isOneOfTwo_14 : decode cX8_isOneOfTwo 14 = .ok (.ireturn, 1) := by decide +kernel
set_option maxRecDepth 20000 in
set_option maxHeartbeats 4000000 in
theorem s_X8_isOneOfTwo (l : Launch) (g : GG) {a0 : Int32} {σ : SS} {r : Int32} (h : f_X8_isOneOfTwo a0 = r) : CT l g 0 yX8_isOneOfTwo cX8_isOneOfTwo 1 (some .boolean) [.int a0] σ (some (.int r), σ) := by
  refine CT.of (lv := [(0, .int a0)]) RX8 (by decide +kernel) rfl (Nat.le_of_ble_eq_true rfl) rfl ?_
  unfold f_X8_isOneOfTwo at h
  refine vr_iload_n (pc := 0) 0 dX8_isOneOfTwo_0 rfl rfl ?_
  refine vr_if_eq (pc := 1) 9 dX8_isOneOfTwo_1 (by decide) (fun c1 => ?_) (fun c1 => ?_)
  · rw [if_pos c1] at h
    refine vr_iconst (pc := 9) 1 dX8_isOneOfTwo_9 ci_1 ?_
    refine vr_goto (pc := 10) 14 dX8_isOneOfTwo_10 (by decide) ?_
    subst h
    exact vr_iret (pc := 14) .boolean dX8_isOneOfTwo_14 rfl rfl rfl
  · rw [if_neg c1] at h
    refine vr_iload_n (pc := 4) 0 dX8_isOneOfTwo_4 rfl rfl ?_
    refine vr_iconst (pc := 5) 1 dX8_isOneOfTwo_5 ci_1 ?_
    refine vr_icmp_ne (pc := 6) 13 dX8_isOneOfTwo_6 (by decide) (fun c2 => ?_) (fun c2 => ?_)
    · rw [if_neg c2] at h
      refine vr_iconst (pc := 13) 0 dX8_isOneOfTwo_13 ci_0 ?_
      subst h
      exact vr_iret (pc := 14) .boolean dX8_isOneOfTwo_14 rfl rfl rfl
    · rw [if_pos c2] at h
      refine vr_iconst (pc := 9) 1 dX8_isOneOfTwo_9 ci_1 ?_
      refine vr_goto (pc := 10) 14 dX8_isOneOfTwo_10 (by decide) ?_
      subst h
      exact vr_iret (pc := 14) .boolean dX8_isOneOfTwo_14 rfl rfl rfl
theorem dX8_ratio_0 : decode cX8_ratio 0 = .ok (.aload_n 0, 1) := by decide +kernel
theorem dX8_ratio_1 : decode cX8_ratio 1 = .ok (.getfield 10, 3) := by decide +kernel
theorem dX8_ratio_4 : decode cX8_ratio 4 = .ok (.iload_n 1, 1) := by decide +kernel
theorem dX8_ratio_5 : decode cX8_ratio 5 = .ok (.invokevirtual 122, 3) := by decide +kernel
theorem dX8_ratio_8 : decode cX8_ratio 8 = .ok (.astore_n 3, 1) := by decide +kernel
theorem dX8_ratio_9 : decode cX8_ratio 9 = .ok (.aload_n 3, 1) := by decide +kernel
theorem dX8_ratio_10 : decode cX8_ratio 10 = .ok (.ifnonnull 9, 3) := by decide +kernel
theorem dX8_ratio_13 : decode cX8_ratio 13 = .ok (.aload_n 0, 1) := by decide +kernel
theorem dX8_ratio_14 : decode cX8_ratio 14 = .ok (.iconst (-1), 1) := by decide +kernel
theorem dX8_ratio_15 : decode cX8_ratio 15 = .ok (.invokevirtual 159, 3) := by decide +kernel
theorem dX8_ratio_18 : decode cX8_ratio 18 = .ok (.lreturn, 1) := by decide +kernel
theorem dX8_ratio_19 : decode cX8_ratio 19 = .ok (.iload_n 2, 1) := by decide +kernel
theorem dX8_ratio_20 : decode cX8_ratio 20 = .ok (.invokestatic 163, 3) := by decide +kernel
theorem dX8_ratio_23 : decode cX8_ratio 23 = .ok (.ifCond .ne 10, 3) := by decide +kernel
theorem dX8_ratio_26 : decode cX8_ratio 26 = .ok (.aload_n 0, 1) := by decide +kernel
theorem dX8_ratio_27 : decode cX8_ratio 27 = .ok (.bipush (-2), 2) := by decide +kernel
theorem dX8_ratio_29 : decode cX8_ratio 29 = .ok (.invokevirtual 159, 3) := by decide +kernel
theorem dX8_ratio_32 : decode cX8_ratio 32 = .ok (.lreturn, 1) := by decide +kernel
theorem dX8_ratio_33 : decode cX8_ratio 33 = .ok (.aload_n 3, 1) := by decide +kernel
theorem dX8_ratio_34 : decode cX8_ratio 34 = .ok (.aload_n 0, 1) := by decide +kernel
theorem dX8_ratio_35 : decode cX8_ratio 35 = .ok (.getfield 10, 3) := by decide +kernel
theorem dX8_ratio_38 : decode cX8_ratio 38 = .ok (.getfield 105, 3) := by decide +kernel
theorem dX8_ratio_41 : decode cX8_ratio 41 = .ok (.invokevirtual 166, 3) := by decide +kernel
theorem dX8_ratio_44 : decode cX8_ratio 44 = .ok (.aload_n 3, 1) := by decide +kernel
theorem dX8_ratio_45 : decode cX8_ratio 45 = .ok (.getfield 129, 3) := by decide +kernel
theorem dX8_ratio_48 : decode cX8_ratio 48 = .ok (.iload_n 2, 1) := by decide +kernel
theorem dX8_ratio_49 : decode cX8_ratio 49 = .ok (.invokestatic 169, 3) := by decide +kernel
theorem dX8_ratio_52 : decode cX8_ratio 52 = .ok (.i2l, 1) := by decide +kernel
theorem dX8_ratio_53 : decode cX8_ratio 53 = .ok (.lreturn, 1) := by decide +kernel
set_option maxRecDepth 20000 in
set_option maxHeartbeats 4000000 in
theorem s_X8_ratio (l : Launch) (g : GG) {q0 : Nat} (hq0 : kd q0 = 7) {a1 : Int32} {a2 : Int32} {σ : SS} {r : Int64 × SS} (h : f_X8_ratio q0 a1 a2 σ = some r) : CT l g 3 yX8_ratio cX8_ratio 4 (some .long) [.ref (g.1 q0), .int a1, .int a2] σ (some (.long r.1), r.2) := by
  refine CT.of (lv := [(0, .ref (g.1 q0)), (1, .int a1), (2, .int a2)]) RX8 (by decide +kernel) rfl (Nat.le_of_ble_eq_true rfl) rfl ?_
  unfold f_X8_ratio at h
  refine vr_aload_n (pc := 0) 0 dX8_ratio_0 rfl rfl ?_
  refine vr_getR (pc := 1) 0 dX8_ratio_1 fi_X8_10 hq0 (sh_7_0 hq0).1 ?_
  refine vr_iload_n (pc := 4) 1 dX8_ratio_4 rfl rfl ?_
  obtain ⟨z1, hz2, h⟩ := ob_some h
  refine vr_callV (pc := 5) (ρ1 := (some (rvO g z1), σ)) [.int a1] dX8_ratio_5 (s_X4_wheelAt l g (sh_7_0 hq0).2 hz2) cw_X4_wheelAt ml_X8_122 (sh_7_0 hq0).2 rfl (by decide) (by decide) rfl rfl (Nat.le_of_ble_eq_true rfl) ?_
  refine vr_astore_nO (pc := 8) [(3, rvO g z1), (0, .ref (g.1 q0)), (1, .int a1), (2, .int a2)] dX8_ratio_8 rfl (by decide) rfl ?_
  refine vr_aload_nO (pc := 9) 0 dX8_ratio_9 rfl rfl ?_
  refine vr_ifnonnull (pc := 10) 19 dX8_ratio_10 (by decide) (fun w3 hw4 => ?_) (fun hn12 => ?_)
  · simp only [hw4] at h
    refine vr_sub [0, 1, 2, 3] [(3, .ref (g.1 w3)), (0, .ref (g.1 q0)), (1, .int a1), (2, .int a2)] (by rw [hw4]; rfl) ?_
    refine vr_iload_n (pc := 19) 3 dX8_ratio_19 rfl rfl ?_
    refine vr_callS (pc := 20) (ρ1 := (some (.int (f_X8_isOneOfTwo a2)), σ)) [.int a2] dX8_ratio_20 (s_X8_isOneOfTwo l g rfl) cw_X8_isOneOfTwo ml_X8_163 (by decide) rfl rfl (Nat.le_of_ble_eq_true rfl) ?_
    refine vr_if_ne (pc := 23) 33 dX8_ratio_23 (by decide) (fun c5 => ?_) (fun c5 => ?_)
    · rw [if_neg c5] at h
      refine vr_aload_n (pc := 33) 0 dX8_ratio_33 rfl rfl ?_
      refine vr_aload_n (pc := 34) 1 dX8_ratio_34 rfl rfl ?_
      refine vr_getR (pc := 35) 0 dX8_ratio_35 fi_X8_10 hq0 (sh_7_0 hq0).1 ?_
      refine vr_getI (pc := 38) 0 dX8_ratio_38 fi_X8_105 (sh_7_0 hq0).2 (sh_3_0 (sh_7_0 hq0).2) ?_
      refine vr_callV (pc := 41) (ρ1 := (some (.int (f_X7_turnsTimesSize w3 (σ.1 (rid q0 0) 0) σ)), σ)) [.int (σ.1 (rid q0 0) 0)] dX8_ratio_41 (s_X7_turnsTimesSize l g ((kf_X4_wheelAt hz2 (sh_7_0 hq0).2) w3 hw4) rfl) cw_X7_turnsTimesSize ml_X8_166 ((kf_X4_wheelAt hz2 (sh_7_0 hq0).2) w3 hw4) rfl (by decide) (by decide) rfl rfl (Nat.le_of_ble_eq_true rfl) ?_
      refine vr_aload_n (pc := 44) 0 dX8_ratio_44 rfl rfl ?_
      refine vr_getI (pc := 45) 1 dX8_ratio_45 fi_X8_129 ((kf_X4_wheelAt hz2 (sh_7_0 hq0).2) w3 hw4) (sh_6_1 ((kf_X4_wheelAt hz2 (sh_7_0 hq0).2) w3 hw4)) ?_
      refine vr_iload_n (pc := 48) 3 dX8_ratio_48 rfl rfl ?_
      obtain ⟨z6, hz7, h⟩ := ob_some h
      refine vr_callS (pc := 49) (ρ1 := (some (.int z6), σ)) [.int (f_X7_turnsTimesSize w3 (σ.1 (rid q0 0) 0) σ), .int (σ.1 w3 1), .int a2] dX8_ratio_49 (s_X2_partOf l g hz7) cw_X2_partOf ml_X8_169 (by decide) rfl rfl (Nat.le_of_ble_eq_true rfl) ?_
      refine vr_i2l (pc := 52) dX8_ratio_52 ?_
      have h := Option.some.inj h; subst h
      exact vr_lret (pc := 53) dX8_ratio_53 rfl rfl
    · rw [if_pos c5] at h
      refine vr_aload_n (pc := 26) 1 dX8_ratio_26 rfl rfl ?_
      refine vr_bipush (pc := 27) (-2) dX8_ratio_27 cb_m2 ?_
      obtain ⟨z8, hz9, h⟩ := ob_some h
      refine vr_callV (pc := 29) (ρ1 := (some (.long z8.1), z8.2)) [.int (-2)] dX8_ratio_29 (s_X8_refuseLong l g (hq0) hz9) cw_X8_refuseLong ml_X8_159 hq0 rfl (by decide) (by decide) rfl rfl (Nat.le_of_ble_eq_true rfl) ?_
      have h := Option.some.inj h; subst h
      exact vr_lret (pc := 32) dX8_ratio_32 rfl rfl
  · simp only [hn12] at h
    refine vr_sub [1, 2, 3] [(0, .ref (g.1 q0)), (1, .int a1), (2, .int a2)] rfl ?_
    refine vr_aload_n (pc := 13) 0 dX8_ratio_13 rfl rfl ?_
    refine vr_iconst (pc := 14) (-1) dX8_ratio_14 ci_m1 ?_
    obtain ⟨z10, hz11, h⟩ := ob_some h
    refine vr_callV (pc := 15) (ρ1 := (some (.long z10.1), z10.2)) [.int (-1)] dX8_ratio_15 (s_X8_refuseLong l g (hq0) hz11) cw_X8_refuseLong ml_X8_159 hq0 rfl (by decide) (by decide) rfl rfl (Nat.le_of_ble_eq_true rfl) ?_
    have h := Option.some.inj h; subst h
    exact vr_lret (pc := 18) dX8_ratio_18 rfl rfl
theorem dX8_wears_0 : decode cX8_wears 0 = .ok (.aload_n 0, 1) := by decide +kernel
theorem dX8_wears_1 : decode cX8_wears 1 = .ok (.getfield 10, 3) := by decide +kernel
theorem dX8_wears_4 : decode cX8_wears 4 = .ok (.iload_n 1, 1) := by decide +kernel
theorem dX8_wears_5 : decode cX8_wears 5 = .ok (.invokevirtual 153, 3) := by decide +kernel
theorem dX8_wears_8 : decode cX8_wears 8 = .ok (.ifCond .ne 9, 3) := by decide +kernel
theorem dX8_wears_11 : decode cX8_wears 11 = .ok (.aload_n 0, 1) := by decide +kernel
theorem dX8_wears_12 : decode cX8_wears 12 = .ok (.iconst (-1), 1) := by decide +kernel
theorem dX8_wears_13 : decode cX8_wears 13 = .ok (.invokevirtual 71, 3) := by decide +kernel
theorem dX8_wears_16 : decode cX8_wears 16 = .ok (.ireturn, 1) := by decide +kernel
theorem dX8_wears_17 : decode cX8_wears 17 = .ok (.aload_n 0, 1) := by decide +kernel
theorem dX8_wears_18 : decode cX8_wears 18 = .ok (.getfield 25, 3) := by decide +kernel
theorem dX8_wears_21 : decode cX8_wears 21 = .ok (.aload_n 0, 1) := by decide +kernel
theorem dX8_wears_22 : decode cX8_wears 22 = .ok (.getfield 10, 3) := by decide +kernel
theorem dX8_wears_25 : decode cX8_wears 25 = .ok (.invokevirtual 156, 3) := by decide +kernel
theorem dX8_wears_28 : decode cX8_wears 28 = .ok (.aload_n 0, 1) := by decide +kernel
theorem dX8_wears_29 : decode cX8_wears 29 = .ok (.getfield 10, 3) := by decide +kernel
theorem dX8_wears_32 : decode cX8_wears 32 = .ok (.iload_n 1, 1) := by decide +kernel
theorem dX8_wears_33 : decode cX8_wears 33 = .ok (.invokevirtual 175, 3) := by decide +kernel
theorem dX8_wears_36 : decode cX8_wears 36 = .ok (.aload_n 0, 1) := by decide +kernel
theorem dX8_wears_37 : decode cX8_wears 37 = .ok (.getfield 10, 3) := by decide +kernel
theorem dX8_wears_40 : decode cX8_wears 40 = .ok (.getfield 178, 3) := by decide +kernel
theorem dX8_wears_43 : decode cX8_wears 43 = .ok (.iload_n 1, 1) := by decide +kernel
theorem dX8_wears_44 : decode cX8_wears 44 = .ok (.iaload, 1) := by decide +kernel
theorem dX8_wears_45 : decode cX8_wears 45 = .ok (.ireturn, 1) := by decide +kernel
set_option maxRecDepth 20000 in
set_option maxHeartbeats 4000000 in
theorem s_X8_wears (l : Launch) (g : GG) {q0 : Nat} (hq0 : kd q0 = 7) {a1 : Int32} {σ : SS} {r : Int32 × SS} (h : f_X8_wears q0 a1 σ = some r) : CT l g 4 yX8_wears cX8_wears 2 (some .int) [.ref (g.1 q0), .int a1] σ (some (.int r.1), r.2) := by
  refine CT.of (lv := [(0, .ref (g.1 q0)), (1, .int a1)]) RX8 (by decide +kernel) rfl (Nat.le_of_ble_eq_true rfl) rfl ?_
  unfold f_X8_wears at h
  refine vr_aload_n (pc := 0) 0 dX8_wears_0 rfl rfl ?_
  refine vr_getR (pc := 1) 0 dX8_wears_1 fi_X8_10 hq0 (sh_7_0 hq0).1 ?_
  refine vr_iload_n (pc := 4) 1 dX8_wears_4 rfl rfl ?_
  refine vr_callV (pc := 5) (ρ1 := (some (.int (f_X4_isTooth (rid q0 0) a1 σ)), σ)) [.int a1] dX8_wears_5 (s_X4_isTooth l g (sh_7_0 hq0).2 rfl) cw_X4_isTooth ml_X8_153 (sh_7_0 hq0).2 rfl (by decide) (by decide) rfl rfl (Nat.le_of_ble_eq_true rfl) ?_
  refine vr_if_ne (pc := 8) 17 dX8_wears_8 (by decide) (fun c1 => ?_) (fun c1 => ?_)
  · rw [if_neg c1] at h
    refine vr_aload_n (pc := 17) 0 dX8_wears_17 rfl rfl ?_
    refine vr_getR (pc := 18) 4 dX8_wears_18 fi_X8_25 hq0 (sh_7_4 hq0).1 ?_
    refine vr_aload_n (pc := 21) 0 dX8_wears_21 rfl rfl ?_
    refine vr_getR (pc := 22) 0 dX8_wears_22 fi_X8_10 hq0 (sh_7_0 hq0).1 ?_
    obtain ⟨z2, hz3, h⟩ := ob_some h
    refine vr_callV (pc := 25) (ρ1 := (none, z2)) [.ref (g.1 (rid q0 0))] dX8_wears_25 (s_X3_keep l g (sh_7_4 hq0).2 (sh_7_0 hq0).2 hz3) cw_X3_keep ml_X8_156 (sh_7_4 hq0).2 rfl (by decide) (by decide) rfl rfl (Nat.le_of_ble_eq_true rfl) ?_
    refine vr_aload_n (pc := 28) 0 dX8_wears_28 rfl rfl ?_
    refine vr_getR (pc := 29) 0 dX8_wears_29 fi_X8_10 hq0 (sh_7_0 hq0).1 ?_
    refine vr_iload_n (pc := 32) 1 dX8_wears_32 rfl rfl ?_
    obtain ⟨z4, hz5, h⟩ := ob_some h
    refine vr_callV (pc := 33) (ρ1 := (none, z4)) [.int a1] dX8_wears_33 (s_X4_wearOrMend l g (sh_7_0 hq0).2 hz5) cw_X4_wearOrMend ml_X8_175 (sh_7_0 hq0).2 rfl (by decide) (by decide) rfl rfl (Nat.le_of_ble_eq_true rfl) ?_
    refine vr_aload_n (pc := 36) 0 dX8_wears_36 rfl rfl ?_
    refine vr_getR (pc := 37) 0 dX8_wears_37 fi_X8_10 hq0 (sh_7_0 hq0).1 ?_
    refine vr_getR (pc := 40) 3 dX8_wears_40 fi_X8_178 (sh_7_0 hq0).2 (sh_3_3 (sh_7_0 hq0).2).1 ?_
    refine vr_iload_n (pc := 43) 1 dX8_wears_43 rfl rfl ?_
    obtain ⟨hc6, h⟩ := ck_some h
    refine vr_iald (pc := 44) dX8_wears_44 (sh_3_3 (sh_7_0 hq0).2).2 hc6 ?_
    have h := Option.some.inj h; subst h
    exact vr_iret (pc := 45) .int dX8_wears_45 rfl rfl rfl
  · rw [if_pos c1] at h
    refine vr_aload_n (pc := 11) 0 dX8_wears_11 rfl rfl ?_
    refine vr_iconst (pc := 12) (-1) dX8_wears_12 ci_m1 ?_
    obtain ⟨z7, hz8, h⟩ := ob_some h
    refine vr_callV (pc := 13) (ρ1 := (some (.int z7.1), z7.2)) [.int (-1)] dX8_wears_13 (s_X8_refuse l g (hq0) hz8) cw_X8_refuse ml_X8_71 hq0 rfl (by decide) (by decide) rfl rfl (Nat.le_of_ble_eq_true rfl) ?_
    have h := Option.some.inj h; subst h
    exact vr_iret (pc := 16) .int dX8_wears_16 rfl rfl rfl
theorem dX8_tooth_0 : decode cX8_tooth 0 = .ok (.aload_n 0, 1) := by decide +kernel
theorem dX8_tooth_1 : decode cX8_tooth 1 = .ok (.getfield 10, 3) := by decide +kernel
theorem dX8_tooth_4 : decode cX8_tooth 4 = .ok (.iload_n 1, 1) := by decide +kernel
theorem dX8_tooth_5 : decode cX8_tooth 5 = .ok (.invokevirtual 153, 3) := by decide +kernel
theorem dX8_tooth_8 : decode cX8_tooth 8 = .ok (.ifCond .ne 9, 3) := by decide +kernel
theorem dX8_tooth_11 : decode cX8_tooth 11 = .ok (.aload_n 0, 1) := by decide +kernel
theorem dX8_tooth_12 : decode cX8_tooth 12 = .ok (.iconst (-1), 1) := by decide +kernel
theorem dX8_tooth_13 : decode cX8_tooth 13 = .ok (.invokevirtual 71, 3) := by decide +kernel
theorem dX8_tooth_16 : decode cX8_tooth 16 = .ok (.ireturn, 1) := by decide +kernel
theorem dX8_tooth_17 : decode cX8_tooth 17 = .ok (.iload_n 2, 1) := by decide +kernel
theorem dX8_tooth_18 : decode cX8_tooth 18 = .ok (.invokestatic 163, 3) := by decide +kernel
theorem dX8_tooth_21 : decode cX8_tooth 21 = .ok (.ifCond .ne 10, 3) := by decide +kernel
theorem dX8_tooth_24 : decode cX8_tooth 24 = .ok (.aload_n 0, 1) := by decide +kernel
theorem dX8_tooth_25 : decode cX8_tooth 25 = .ok (.bipush (-2), 2) := by decide +kernel
theorem dX8_tooth_27 : decode cX8_tooth 27 = .ok (.invokevirtual 71, 3) := by decide +kernel
theorem dX8_tooth_30 : decode cX8_tooth 30 = .ok (.ireturn, 1) := by decide +kernel
theorem dX8_tooth_31 : decode cX8_tooth 31 = .ok (.iload_n 2, 1) := by decide +kernel
theorem dX8_tooth_32 : decode cX8_tooth 32 = .ok (.ifCond .ne 15, 3) := by decide +kernel
theorem dX8_tooth_35 : decode cX8_tooth 35 = .ok (.aload_n 0, 1) := by decide +kernel
theorem dX8_tooth_36 : decode cX8_tooth 36 = .ok (.getfield 10, 3) := by decide +kernel
theorem dX8_tooth_39 : decode cX8_tooth 39 = .ok (.getfield 178, 3) := by decide +kernel
theorem dX8_tooth_42 : decode cX8_tooth 42 = .ok (.iload_n 1, 1) := by decide +kernel
theorem dX8_tooth_43 : decode cX8_tooth 43 = .ok (.iaload, 1) := by decide +kernel
theorem dX8_tooth_44 : decode cX8_tooth 44 = .ok (.goto 12, 3) := by decide +kernel
theorem dX8_tooth_47 : decode cX8_tooth 47 = .ok (.aload_n 0, 1) := by decide +kernel
theorem dX8_tooth_48 : decode cX8_tooth 48 = .ok (.getfield 10, 3) := by decide +kernel
theorem dX8_tooth_51 : decode cX8_tooth 51 = .ok (.getfield 181, 3) := by decide +kernel
theorem dX8_tooth_54 : decode cX8_tooth 54 = .ok (.iload_n 1, 1) := by decide +kernel
theorem dX8_tooth_55 : decode cX8_tooth 55 = .ok (.iaload, 1) := by decide +kernel
theorem dX8_tooth_56 : decode cX8_tooth 56 = .ok (.ireturn, 1) := by decide +kernel
set_option maxRecDepth 20000 in
set_option maxHeartbeats 4000000 in
theorem s_X8_tooth (l : Launch) (g : GG) {q0 : Nat} (hq0 : kd q0 = 7) {a1 : Int32} {a2 : Int32} {σ : SS} {r : Int32 × SS} (h : f_X8_tooth q0 a1 a2 σ = some r) : CT l g 1 yX8_tooth cX8_tooth 3 (some .int) [.ref (g.1 q0), .int a1, .int a2] σ (some (.int r.1), r.2) := by
  refine CT.of (lv := [(0, .ref (g.1 q0)), (1, .int a1), (2, .int a2)]) RX8 (by decide +kernel) rfl (Nat.le_of_ble_eq_true rfl) rfl ?_
  unfold f_X8_tooth at h
  refine vr_aload_n (pc := 0) 0 dX8_tooth_0 rfl rfl ?_
  refine vr_getR (pc := 1) 0 dX8_tooth_1 fi_X8_10 hq0 (sh_7_0 hq0).1 ?_
  refine vr_iload_n (pc := 4) 1 dX8_tooth_4 rfl rfl ?_
  refine vr_callV (pc := 5) (ρ1 := (some (.int (f_X4_isTooth (rid q0 0) a1 σ)), σ)) [.int a1] dX8_tooth_5 (s_X4_isTooth l g (sh_7_0 hq0).2 rfl) cw_X4_isTooth ml_X8_153 (sh_7_0 hq0).2 rfl (by decide) (by decide) rfl rfl (Nat.le_of_ble_eq_true rfl) ?_
  refine vr_if_ne (pc := 8) 17 dX8_tooth_8 (by decide) (fun c1 => ?_) (fun c1 => ?_)
  · rw [if_neg c1] at h
    refine vr_iload_n (pc := 17) 2 dX8_tooth_17 rfl rfl ?_
    refine vr_callS (pc := 18) (ρ1 := (some (.int (f_X8_isOneOfTwo a2)), σ)) [.int a2] dX8_tooth_18 (s_X8_isOneOfTwo l g rfl) cw_X8_isOneOfTwo ml_X8_163 (by decide) rfl rfl (Nat.le_of_ble_eq_true rfl) ?_
    refine vr_if_ne (pc := 21) 31 dX8_tooth_21 (by decide) (fun c2 => ?_) (fun c2 => ?_)
    · rw [if_neg c2] at h
      refine vr_iload_n (pc := 31) 2 dX8_tooth_31 rfl rfl ?_
      refine vr_if_ne (pc := 32) 47 dX8_tooth_32 (by decide) (fun c3 => ?_) (fun c3 => ?_)
      · rw [if_neg c3] at h
        refine vr_aload_n (pc := 47) 0 dX8_tooth_47 rfl rfl ?_
        refine vr_getR (pc := 48) 0 dX8_tooth_48 fi_X8_10 hq0 (sh_7_0 hq0).1 ?_
        refine vr_getR (pc := 51) 2 dX8_tooth_51 fi_X8_181 (sh_7_0 hq0).2 (sh_3_2 (sh_7_0 hq0).2).1 ?_
        refine vr_iload_n (pc := 54) 1 dX8_tooth_54 rfl rfl ?_
        obtain ⟨hc4, h⟩ := ck_some h
        refine vr_iald (pc := 55) dX8_tooth_55 (sh_3_2 (sh_7_0 hq0).2).2 hc4 ?_
        have h := Option.some.inj h; subst h
        exact vr_iret (pc := 56) .int dX8_tooth_56 rfl rfl rfl
      · rw [if_pos c3] at h
        refine vr_aload_n (pc := 35) 0 dX8_tooth_35 rfl rfl ?_
        refine vr_getR (pc := 36) 0 dX8_tooth_36 fi_X8_10 hq0 (sh_7_0 hq0).1 ?_
        refine vr_getR (pc := 39) 3 dX8_tooth_39 fi_X8_178 (sh_7_0 hq0).2 (sh_3_3 (sh_7_0 hq0).2).1 ?_
        refine vr_iload_n (pc := 42) 1 dX8_tooth_42 rfl rfl ?_
        obtain ⟨hc5, h⟩ := ck_some h
        refine vr_iald (pc := 43) dX8_tooth_43 (sh_3_3 (sh_7_0 hq0).2).2 hc5 ?_
        refine vr_goto (pc := 44) 56 dX8_tooth_44 (by decide) ?_
        have h := Option.some.inj h; subst h
        exact vr_iret (pc := 56) .int dX8_tooth_56 rfl rfl rfl
    · rw [if_pos c2] at h
      refine vr_aload_n (pc := 24) 0 dX8_tooth_24 rfl rfl ?_
      refine vr_bipush (pc := 25) (-2) dX8_tooth_25 cb_m2 ?_
      obtain ⟨z6, hz7, h⟩ := ob_some h
      refine vr_callV (pc := 27) (ρ1 := (some (.int z6.1), z6.2)) [.int (-2)] dX8_tooth_27 (s_X8_refuse l g (hq0) hz7) cw_X8_refuse ml_X8_71 hq0 rfl (by decide) (by decide) rfl rfl (Nat.le_of_ble_eq_true rfl) ?_
      have h := Option.some.inj h; subst h
      exact vr_iret (pc := 30) .int dX8_tooth_30 rfl rfl rfl
  · rw [if_pos c1] at h
    refine vr_aload_n (pc := 11) 0 dX8_tooth_11 rfl rfl ?_
    refine vr_iconst (pc := 12) (-1) dX8_tooth_12 ci_m1 ?_
    obtain ⟨z8, hz9, h⟩ := ob_some h
    refine vr_callV (pc := 13) (ρ1 := (some (.int z8.1), z8.2)) [.int (-1)] dX8_tooth_13 (s_X8_refuse l g (hq0) hz9) cw_X8_refuse ml_X8_71 hq0 rfl (by decide) (by decide) rfl rfl (Nat.le_of_ble_eq_true rfl) ?_
    have h := Option.some.inj h; subst h
    exact vr_iret (pc := 16) .int dX8_tooth_16 rfl rfl rfl
theorem dX8_drawing_0 : decode cX8_drawing 0 = .ok (.aload_n 0, 1) := by decide +kernel
theorem dX8_drawing_1 : decode cX8_drawing 1 = .ok (.getfield 10, 3) := by decide +kernel
theorem dX8_drawing_4 : decode cX8_drawing 4 = .ok (.iload_n 1, 1) := by decide +kernel
theorem dX8_drawing_5 : decode cX8_drawing 5 = .ok (.invokevirtual 122, 3) := by decide +kernel
theorem dX8_drawing_8 : decode cX8_drawing 8 = .ok (.astore_n 3, 1) := by decide +kernel
theorem dX8_drawing_9 : decode cX8_drawing 9 = .ok (.aload_n 3, 1) := by decide +kernel
theorem dX8_drawing_10 : decode cX8_drawing 10 = .ok (.ifnonnull 9, 3) := by decide +kernel
theorem dX8_drawing_13 : decode cX8_drawing 13 = .ok (.aload_n 0, 1) := by decide +kernel
theorem dX8_drawing_14 : decode cX8_drawing 14 = .ok (.iconst (-1), 1) := by decide +kernel
theorem dX8_drawing_15 : decode cX8_drawing 15 = .ok (.invokevirtual 71, 3) := by decide +kernel
theorem dX8_drawing_18 : decode cX8_drawing 18 = .ok (.ireturn, 1) := by decide +kernel
theorem dX8_drawing_19 : decode cX8_drawing 19 = .ok (.iload_n 2, 1) := by decide +kernel
theorem dX8_drawing_20 : decode cX8_drawing 20 = .ok (.ifCond .lt 9, 3) := by decide +kernel
theorem dX8_drawing_23 : decode cX8_drawing 23 = .ok (.iload_n 2, 1) := by decide +kernel
theorem dX8_drawing_24 : decode cX8_drawing 24 = .ok (.bipush 7, 2) := by decide +kernel
theorem dX8_drawing_26 : decode cX8_drawing 26 = .ok (.if_icmp .le 10, 3) := by decide +kernel
theorem dX8_drawing_29 : decode cX8_drawing 29 = .ok (.aload_n 0, 1) := by decide +kernel
theorem dX8_drawing_30 : decode cX8_drawing 30 = .ok (.bipush (-2), 2) := by decide +kernel
theorem dX8_drawing_32 : decode cX8_drawing 32 = .ok (.invokevirtual 71, 3) := by decide +kernel
theorem dX8_drawing_35 : decode cX8_drawing 35 = .ok (.ireturn, 1) := by decide +kernel
theorem dX8_drawing_36 : decode cX8_drawing 36 = .ok (.aload_n 0, 1) := by decide +kernel
theorem dX8_drawing_37 : decode cX8_drawing 37 = .ok (.getfield 45, 3) := by decide +kernel
theorem dX8_drawing_40 : decode cX8_drawing 40 = .ok (.aload_n 0, 1) := by decide +kernel
theorem dX8_drawing_41 : decode cX8_drawing 41 = .ok (.getfield 10, 3) := by decide +kernel
theorem dX8_drawing_44 : decode cX8_drawing 44 = .ok (.aload_n 3, 1) := by decide +kernel
theorem dX8_drawing_45 : decode cX8_drawing 45 = .ok (.invokevirtual 184, 3) := by decide +kernel
theorem dX8_drawing_48 : decode cX8_drawing 48 = .ok (.iload_n 2, 1) := by decide +kernel
theorem dX8_drawing_49 : decode cX8_drawing 49 = .ok (.tableswitch 114 0 6 #[43, 51, 67, 75, 83, 98, 106], 43) := by decide +kernel
theorem dX8_drawing_92 : decode cX8_drawing 92 = .ok (.aload_n 0, 1) := by decide +kernel
theorem dX8_drawing_93 : decode cX8_drawing 93 = .ok (.getfield 45, 3) := by decide +kernel
theorem dX8_drawing_96 : decode cX8_drawing 96 = .ok (.getfield 188, 3) := by decide +kernel
theorem dX8_drawing_99 : decode cX8_drawing 99 = .ok (.ireturn, 1) := by decide +kernel
theorem dX8_drawing_100 : decode cX8_drawing 100 = .ok (.aload_n 0, 1) := by decide +kernel
theorem dX8_drawing_101 : decode cX8_drawing 101 = .ok (.getfield 45, 3) := by decide +kernel
theorem dX8_drawing_104 : decode cX8_drawing 104 = .ok (.getfield 191, 3) := by decide +kernel
theorem dX8_drawing_107 : decode cX8_drawing 107 = .ok (.aload_n 0, 1) := by decide +kernel
theorem dX8_drawing_108 : decode cX8_drawing 108 = .ok (.getfield 45, 3) := by decide +kernel
theorem dX8_drawing_111 : decode cX8_drawing 111 = .ok (.getfield 188, 3) := by decide +kernel
theorem dX8_drawing_114 : decode cX8_drawing 114 = .ok (.isub, 1) := by decide +kernel
theorem dX8_drawing_115 : decode cX8_drawing 115 = .ok (.ireturn, 1) := by decide +kernel
theorem dX8_drawing_116 : decode cX8_drawing 116 = .ok (.aload_n 0, 1) := by decide +kernel
theorem dX8_drawing_117 : decode cX8_drawing 117 = .ok (.getfield 45, 3) := by decide +kernel
theorem dX8_drawing_120 : decode cX8_drawing 120 = .ok (.getfield 191, 3) := by decide +kernel
theorem dX8_drawing_123 : decode cX8_drawing 123 = .ok (.ireturn, 1) := by decide +kernel
theorem dX8_drawing_124 : decode cX8_drawing 124 = .ok (.aload_n 0, 1) := by decide +kernel
theorem dX8_drawing_125 : decode cX8_drawing 125 = .ok (.getfield 45, 3) := by decide +kernel
theorem dX8_drawing_128 : decode cX8_drawing 128 = .ok (.invokevirtual 194, 3) := by decide +kernel
theorem dX8_drawing_131 : decode cX8_drawing 131 = .ok (.ireturn, 1) := by decide +kernel
theorem dX8_drawing_132 : decode cX8_drawing 132 = .ok (.aload_n 0, 1) := by decide +kernel
theorem dX8_drawing_133 : decode cX8_drawing 133 = .ok (.getfield 45, 3) := by decide +kernel
theorem dX8_drawing_136 : decode cX8_drawing 136 = .ok (.aload_n 0, 1) := by decide +kernel
theorem dX8_drawing_137 : decode cX8_drawing 137 = .ok (.getfield 45, 3) := by decide +kernel
theorem dX8_drawing_140 : decode cX8_drawing 140 = .ok (.invokevirtual 197, 3) := by decide +kernel
theorem dX8_drawing_143 : decode cX8_drawing 143 = .ok (.invokevirtual 200, 3) := by decide +kernel
theorem dX8_drawing_146 : decode cX8_drawing 146 = .ok (.ireturn, 1) := by decide +kernel
theorem dX8_drawing_147 : decode cX8_drawing 147 = .ok (.aload_n 0, 1) := by decide +kernel
theorem dX8_drawing_148 : decode cX8_drawing 148 = .ok (.getfield 45, 3) := by decide +kernel
theorem dX8_drawing_151 : decode cX8_drawing 151 = .ok (.invokevirtual 197, 3) := by decide +kernel
theorem dX8_drawing_154 : decode cX8_drawing 154 = .ok (.ireturn, 1) := by decide +kernel
theorem dX8_drawing_155 : decode cX8_drawing 155 = .ok (.aload_n 0, 1) := by decide +kernel
theorem dX8_drawing_156 : decode cX8_drawing 156 = .ok (.getfield 45, 3) := by decide +kernel
theorem dX8_drawing_159 : decode cX8_drawing 159 = .ok (.invokevirtual 203, 3) := by decide +kernel
theorem dX8_drawing_162 : decode cX8_drawing 162 = .ok (.ireturn, 1) := by decide +kernel
theorem dX8_drawing_163 : decode cX8_drawing 163 = .ok (.aload_n 0, 1) := by decide +kernel
theorem dX8_drawing_164 : decode cX8_drawing 164 = .ok (.getfield 45, 3) := by decide +kernel
theorem dX8_drawing_167 : decode cX8_drawing 167 = .ok (.invokevirtual 206, 3) := by decide +kernel
theorem dX8_drawing_170 : decode cX8_drawing 170 = .ok (.ireturn, 1) := by decide +kernel
set_option maxRecDepth 20000 in
set_option maxHeartbeats 4000000 in
theorem s_X8_drawing (l : Launch) (g : GG) {q0 : Nat} (hq0 : kd q0 = 7) {a1 : Int32} {a2 : Int32} {σ : SS} {r : Int32 × SS} (h : f_X8_drawing q0 a1 a2 σ = some r) : CT l g 5 yX8_drawing cX8_drawing 4 (some .int) [.ref (g.1 q0), .int a1, .int a2] σ (some (.int r.1), r.2) := by
  refine CT.of (lv := [(0, .ref (g.1 q0)), (1, .int a1), (2, .int a2)]) RX8 (by decide +kernel) rfl (Nat.le_of_ble_eq_true rfl) rfl ?_
  unfold f_X8_drawing at h
  refine vr_aload_n (pc := 0) 0 dX8_drawing_0 rfl rfl ?_
  refine vr_getR (pc := 1) 0 dX8_drawing_1 fi_X8_10 hq0 (sh_7_0 hq0).1 ?_
  refine vr_iload_n (pc := 4) 1 dX8_drawing_4 rfl rfl ?_
  obtain ⟨z1, hz2, h⟩ := ob_some h
  refine vr_callV (pc := 5) (ρ1 := (some (rvO g z1), σ)) [.int a1] dX8_drawing_5 (s_X4_wheelAt l g (sh_7_0 hq0).2 hz2) cw_X4_wheelAt ml_X8_122 (sh_7_0 hq0).2 rfl (by decide) (by decide) rfl rfl (Nat.le_of_ble_eq_true rfl) ?_
  refine vr_astore_nO (pc := 8) [(3, rvO g z1), (0, .ref (g.1 q0)), (1, .int a1), (2, .int a2)] dX8_drawing_8 rfl (by decide) rfl ?_
  refine vr_aload_nO (pc := 9) 0 dX8_drawing_9 rfl rfl ?_
  refine vr_ifnonnull (pc := 10) 19 dX8_drawing_10 (by decide) (fun w3 hw4 => ?_) (fun hn34 => ?_)
  · simp only [hw4] at h
    refine vr_sub [0, 1, 2, 3] [(3, .ref (g.1 w3)), (0, .ref (g.1 q0)), (1, .int a1), (2, .int a2)] (by rw [hw4]; rfl) ?_
    refine vr_iload_n (pc := 19) 3 dX8_drawing_19 rfl rfl ?_
    refine vr_if_lt (pc := 20) 29 dX8_drawing_20 (by decide) (fun c5 => ?_) (fun c5 => ?_)
    · rw [if_pos c5] at h
      refine vr_aload_n (pc := 29) 1 dX8_drawing_29 rfl rfl ?_
      refine vr_bipush (pc := 30) (-2) dX8_drawing_30 cb_m2 ?_
      obtain ⟨z6, hz7, h⟩ := ob_some h
      refine vr_callV (pc := 32) (ρ1 := (some (.int z6.1), z6.2)) [.int (-2)] dX8_drawing_32 (s_X8_refuse l g (hq0) hz7) cw_X8_refuse ml_X8_71 hq0 rfl (by decide) (by decide) rfl rfl (Nat.le_of_ble_eq_true rfl) ?_
      have h := Option.some.inj h; subst h
      exact vr_iret (pc := 35) .int dX8_drawing_35 rfl rfl rfl
    · rw [if_neg c5] at h
      refine vr_iload_n (pc := 23) 3 dX8_drawing_23 rfl rfl ?_
      refine vr_bipush (pc := 24) 7 dX8_drawing_24 cb_7 ?_
      refine vr_icmp_le (pc := 26) 36 dX8_drawing_26 (by decide) (fun c8 => ?_) (fun c8 => ?_)
      · rw [if_pos c8] at h
        refine vr_aload_n (pc := 36) 1 dX8_drawing_36 rfl rfl ?_
        refine vr_getR (pc := 37) 7 dX8_drawing_37 fi_X8_45 hq0 (sh_7_7 hq0).1 ?_
        refine vr_aload_n (pc := 40) 1 dX8_drawing_40 rfl rfl ?_
        refine vr_getR (pc := 41) 0 dX8_drawing_41 fi_X8_10 hq0 (sh_7_0 hq0).1 ?_
        refine vr_aload_n (pc := 44) 0 dX8_drawing_44 rfl rfl ?_
        obtain ⟨z9, hz10, h⟩ := ob_some h
        refine vr_callV (pc := 45) (ρ1 := (none, z9)) [.ref (g.1 (rid q0 0)), .ref (g.1 w3)] dX8_drawing_45 (s_X0_trace l g (sh_7_7 hq0).2 (sh_7_0 hq0).2 ((kf_X4_wheelAt hz2 (sh_7_0 hq0).2) w3 hw4) hz10) cw_X0_trace ml_X8_184 (sh_7_7 hq0).2 rfl (by decide) (by decide) rfl rfl (Nat.le_of_ble_eq_true rfl) ?_
        refine vr_iload_n (pc := 48) 3 dX8_drawing_48 rfl rfl ?_
        by_cases c11 : a2 = 0
        · rw [if_pos c11] at h
          refine vr_tableIn (pc := 49) 43 92 dX8_drawing_49 (by rw [c11]; decide) (by rw [c11]; decide) (by rw [c11]; rfl) (by decide) ?_
          refine vr_aload_n (pc := 92) 1 dX8_drawing_92 rfl rfl ?_
          refine vr_getR (pc := 93) 7 dX8_drawing_93 fi_X8_45 hq0 (sh_7_7 hq0).1 ?_
          refine vr_getI (pc := 96) 3 dX8_drawing_96 fi_X8_188 (sh_7_7 hq0).2 (sh_0_3 (sh_7_7 hq0).2) ?_
          have h := Option.some.inj h; subst h
          exact vr_iret (pc := 99) .int dX8_drawing_99 rfl rfl rfl
        · rw [if_neg c11] at h
          by_cases c12 : a2 = 1
          · rw [if_pos c12] at h
            refine vr_tableIn (pc := 49) 51 100 dX8_drawing_49 (by rw [c12]; decide) (by rw [c12]; decide) (by rw [c12]; rfl) (by decide) ?_
            refine vr_aload_n (pc := 100) 1 dX8_drawing_100 rfl rfl ?_
            refine vr_getR (pc := 101) 7 dX8_drawing_101 fi_X8_45 hq0 (sh_7_7 hq0).1 ?_
            refine vr_getI (pc := 104) 2 dX8_drawing_104 fi_X8_191 (sh_7_7 hq0).2 (sh_0_2 (sh_7_7 hq0).2) ?_
            refine vr_aload_n (pc := 107) 1 dX8_drawing_107 rfl rfl ?_
            refine vr_getR (pc := 108) 7 dX8_drawing_108 fi_X8_45 hq0 (sh_7_7 hq0).1 ?_
            refine vr_getI (pc := 111) 3 dX8_drawing_111 fi_X8_188 (sh_7_7 hq0).2 (sh_0_3 (sh_7_7 hq0).2) ?_
            refine vr_isub (pc := 114) dX8_drawing_114 ?_
            have h := Option.some.inj h; subst h
            exact vr_iret (pc := 115) .int dX8_drawing_115 rfl rfl rfl
          · rw [if_neg c12] at h
            by_cases c13 : a2 = 2
            · rw [if_pos c13] at h
              refine vr_tableIn (pc := 49) 67 116 dX8_drawing_49 (by rw [c13]; decide) (by rw [c13]; decide) (by rw [c13]; rfl) (by decide) ?_
              refine vr_aload_n (pc := 116) 1 dX8_drawing_116 rfl rfl ?_
              refine vr_getR (pc := 117) 7 dX8_drawing_117 fi_X8_45 hq0 (sh_7_7 hq0).1 ?_
              refine vr_getI (pc := 120) 2 dX8_drawing_120 fi_X8_191 (sh_7_7 hq0).2 (sh_0_2 (sh_7_7 hq0).2) ?_
              have h := Option.some.inj h; subst h
              exact vr_iret (pc := 123) .int dX8_drawing_123 rfl rfl rfl
            · rw [if_neg c13] at h
              by_cases c14 : a2 = 3
              · rw [if_pos c14] at h
                refine vr_tableIn (pc := 49) 75 124 dX8_drawing_49 (by rw [c14]; decide) (by rw [c14]; decide) (by rw [c14]; rfl) (by decide) ?_
                refine vr_aload_n (pc := 124) 1 dX8_drawing_124 rfl rfl ?_
                refine vr_getR (pc := 125) 7 dX8_drawing_125 fi_X8_45 hq0 (sh_7_7 hq0).1 ?_
                obtain ⟨z15, hz16, h⟩ := ob_some h
                refine vr_callV (pc := 128) (ρ1 := (some (.int z15), z9)) [] dX8_drawing_128 (s_X0_rounds l g (sh_7_7 hq0).2 hz16) cw_X0_rounds ml_X8_194 (sh_7_7 hq0).2 rfl (by decide) (by decide) rfl rfl (Nat.le_of_ble_eq_true rfl) ?_
                have h := Option.some.inj h; subst h
                exact vr_iret (pc := 131) .int dX8_drawing_131 rfl rfl rfl
              · rw [if_neg c14] at h
                by_cases c17 : a2 = 4
                · rw [if_pos c17] at h
                  refine vr_tableIn (pc := 49) 83 132 dX8_drawing_49 (by rw [c17]; decide) (by rw [c17]; decide) (by rw [c17]; rfl) (by decide) ?_
                  refine vr_aload_n (pc := 132) 1 dX8_drawing_132 rfl rfl ?_
                  refine vr_getR (pc := 133) 7 dX8_drawing_133 fi_X8_45 hq0 (sh_7_7 hq0).1 ?_
                  refine vr_aload_n (pc := 136) 1 dX8_drawing_136 rfl rfl ?_
                  refine vr_getR (pc := 137) 7 dX8_drawing_137 fi_X8_45 hq0 (sh_7_7 hq0).1 ?_
                  obtain ⟨z18, hz19, h⟩ := ob_some h
                  refine vr_callV (pc := 140) (ρ1 := (some (.int z18), z9)) [] dX8_drawing_140 (s_X0_cuspOfGap l g (sh_7_7 hq0).2 hz19) cw_X0_cuspOfGap ml_X8_197 (sh_7_7 hq0).2 rfl (by decide) (by decide) rfl rfl (Nat.le_of_ble_eq_true rfl) ?_
                  obtain ⟨z20, hz21, h⟩ := ob_some h
                  refine vr_callV (pc := 143) (ρ1 := (some (.int z20), z9)) [.int z18] dX8_drawing_143 (s_X0_gapAbove l g (sh_7_7 hq0).2 hz21) cw_X0_gapAbove ml_X8_200 (sh_7_7 hq0).2 rfl (by decide) (by decide) rfl rfl (Nat.le_of_ble_eq_true rfl) ?_
                  have h := Option.some.inj h; subst h
                  exact vr_iret (pc := 146) .int dX8_drawing_146 rfl rfl rfl
                · rw [if_neg c17] at h
                  by_cases c22 : a2 = 5
                  · rw [if_pos c22] at h
                    refine vr_tableIn (pc := 49) 98 147 dX8_drawing_49 (by rw [c22]; decide) (by rw [c22]; decide) (by rw [c22]; rfl) (by decide) ?_
                    refine vr_aload_n (pc := 147) 1 dX8_drawing_147 rfl rfl ?_
                    refine vr_getR (pc := 148) 7 dX8_drawing_148 fi_X8_45 hq0 (sh_7_7 hq0).1 ?_
                    obtain ⟨z23, hz24, h⟩ := ob_some h
                    refine vr_callV (pc := 151) (ρ1 := (some (.int z23), z9)) [] dX8_drawing_151 (s_X0_cuspOfGap l g (sh_7_7 hq0).2 hz24) cw_X0_cuspOfGap ml_X8_197 (sh_7_7 hq0).2 rfl (by decide) (by decide) rfl rfl (Nat.le_of_ble_eq_true rfl) ?_
                    have h := Option.some.inj h; subst h
                    exact vr_iret (pc := 154) .int dX8_drawing_154 rfl rfl rfl
                  · rw [if_neg c22] at h
                    by_cases c25 : a2 = 6
                    · rw [if_pos c25] at h
                      refine vr_tableIn (pc := 49) 106 155 dX8_drawing_49 (by rw [c25]; decide) (by rw [c25]; decide) (by rw [c25]; rfl) (by decide) ?_
                      refine vr_aload_n (pc := 155) 1 dX8_drawing_155 rfl rfl ?_
                      refine vr_getR (pc := 156) 7 dX8_drawing_156 fi_X8_45 hq0 (sh_7_7 hq0).1 ?_
                      obtain ⟨z26, hz27, h⟩ := ob_some h
                      refine vr_callV (pc := 159) (ρ1 := (some (.int z26), z9)) [] dX8_drawing_159 (s_X0_crossings l g (sh_7_7 hq0).2 hz27) cw_X0_crossings ml_X8_203 (sh_7_7 hq0).2 rfl (by decide) (by decide) rfl rfl (Nat.le_of_ble_eq_true rfl) ?_
                      have h := Option.some.inj h; subst h
                      exact vr_iret (pc := 162) .int dX8_drawing_162 rfl rfl rfl
                    · rw [if_neg c25] at h
                      refine vr_tableOut (pc := 49) 163 dX8_drawing_49 (tab_out (x := a2) 0 6 (fun z1 z2 => by rcases (show a2.toInt = 0 ∨ a2.toInt = 1 ∨ a2.toInt = 2 ∨ a2.toInt = 3 ∨ a2.toInt = 4 ∨ a2.toInt = 5 ∨ a2.toInt = 6 from by omega) with z | z | z | z | z | z | z <;> first | exact c11 (i32_of z (by decide)) | exact c12 (i32_of z (by decide)) | exact c13 (i32_of z (by decide)) | exact c14 (i32_of z (by decide)) | exact c17 (i32_of z (by decide)) | exact c22 (i32_of z (by decide)) | exact c25 (i32_of z (by decide)))) (by decide) ?_
                      refine vr_aload_n (pc := 163) 1 dX8_drawing_163 rfl rfl ?_
                      refine vr_getR (pc := 164) 7 dX8_drawing_164 fi_X8_45 hq0 (sh_7_7 hq0).1 ?_
                      obtain ⟨z28, hz29, h⟩ := ob_some h
                      refine vr_callV (pc := 167) (ρ1 := (some (.int z28), z9)) [] dX8_drawing_167 (s_X0_mostCrossing l g (sh_7_7 hq0).2 hz29) cw_X0_mostCrossing ml_X8_206 (sh_7_7 hq0).2 rfl (by decide) (by decide) rfl rfl (Nat.le_of_ble_eq_true rfl) ?_
                      have h := Option.some.inj h; subst h
                      exact vr_iret (pc := 170) .int dX8_drawing_170 rfl rfl rfl
      · rw [if_neg c8] at h
        refine vr_aload_n (pc := 29) 1 dX8_drawing_29 rfl rfl ?_
        refine vr_bipush (pc := 30) (-2) dX8_drawing_30 cb_m2 ?_
        obtain ⟨z30, hz31, h⟩ := ob_some h
        refine vr_callV (pc := 32) (ρ1 := (some (.int z30.1), z30.2)) [.int (-2)] dX8_drawing_32 (s_X8_refuse l g (hq0) hz31) cw_X8_refuse ml_X8_71 hq0 rfl (by decide) (by decide) rfl rfl (Nat.le_of_ble_eq_true rfl) ?_
        have h := Option.some.inj h; subst h
        exact vr_iret (pc := 35) .int dX8_drawing_35 rfl rfl rfl
  · simp only [hn34] at h
    refine vr_sub [1, 2, 3] [(0, .ref (g.1 q0)), (1, .int a1), (2, .int a2)] rfl ?_
    refine vr_aload_n (pc := 13) 0 dX8_drawing_13 rfl rfl ?_
    refine vr_iconst (pc := 14) (-1) dX8_drawing_14 ci_m1 ?_
    obtain ⟨z32, hz33, h⟩ := ob_some h
    refine vr_callV (pc := 15) (ρ1 := (some (.int z32.1), z32.2)) [.int (-1)] dX8_drawing_15 (s_X8_refuse l g (hq0) hz33) cw_X8_refuse ml_X8_71 hq0 rfl (by decide) (by decide) rfl rfl (Nat.le_of_ble_eq_true rfl) ?_
    have h := Option.some.inj h; subst h
    exact vr_iret (pc := 18) .int dX8_drawing_18 rfl rfl rfl
theorem dX8_arc_0 : decode cX8_arc 0 = .ok (.aload_n 0, 1) := by decide +kernel
theorem dX8_arc_1 : decode cX8_arc 1 = .ok (.getfield 10, 3) := by decide +kernel
theorem dX8_arc_4 : decode cX8_arc 4 = .ok (.iload_n 1, 1) := by decide +kernel
theorem dX8_arc_5 : decode cX8_arc 5 = .ok (.invokevirtual 122, 3) := by decide +kernel
theorem dX8_arc_8 : decode cX8_arc 8 = .ok (.astore_n 3, 1) := by decide +kernel
theorem dX8_arc_9 : decode cX8_arc 9 = .ok (.aload_n 3, 1) := by decide +kernel
theorem dX8_arc_10 : decode cX8_arc 10 = .ok (.ifnonnull 9, 3) := by decide +kernel
theorem dX8_arc_13 : decode cX8_arc 13 = .ok (.aload_n 0, 1) := by decide +kernel
theorem dX8_arc_14 : decode cX8_arc 14 = .ok (.iconst (-1), 1) := by decide +kernel
theorem dX8_arc_15 : decode cX8_arc 15 = .ok (.invokevirtual 71, 3) := by decide +kernel
theorem dX8_arc_18 : decode cX8_arc 18 = .ok (.ireturn, 1) := by decide +kernel
theorem dX8_arc_19 : decode cX8_arc 19 = .ok (.iload_n 2, 1) := by decide +kernel
theorem dX8_arc_20 : decode cX8_arc 20 = .ok (.ifCond .ge 10, 3) := by decide +kernel
theorem dX8_arc_23 : decode cX8_arc 23 = .ok (.aload_n 0, 1) := by decide +kernel
theorem dX8_arc_24 : decode cX8_arc 24 = .ok (.bipush (-4), 2) := by decide +kernel
theorem dX8_arc_26 : decode cX8_arc 26 = .ok (.invokevirtual 71, 3) := by decide +kernel
theorem dX8_arc_29 : decode cX8_arc 29 = .ok (.ireturn, 1) := by decide +kernel
theorem dX8_arc_30 : decode cX8_arc 30 = .ok (.aload_n 0, 1) := by decide +kernel
theorem dX8_arc_31 : decode cX8_arc 31 = .ok (.getfield 45, 3) := by decide +kernel
theorem dX8_arc_34 : decode cX8_arc 34 = .ok (.aload_n 0, 1) := by decide +kernel
theorem dX8_arc_35 : decode cX8_arc 35 = .ok (.getfield 10, 3) := by decide +kernel
theorem dX8_arc_38 : decode cX8_arc 38 = .ok (.aload_n 3, 1) := by decide +kernel
theorem dX8_arc_39 : decode cX8_arc 39 = .ok (.invokevirtual 184, 3) := by decide +kernel
theorem dX8_arc_42 : decode cX8_arc 42 = .ok (.aload_n 0, 1) := by decide +kernel
theorem dX8_arc_43 : decode cX8_arc 43 = .ok (.getfield 45, 3) := by decide +kernel
theorem dX8_arc_46 : decode cX8_arc 46 = .ok (.iload_n 2, 1) := by decide +kernel
theorem dX8_arc_47 : decode cX8_arc 47 = .ok (.invokevirtual 209, 3) := by decide +kernel
theorem dX8_arc_50 : decode cX8_arc 50 = .ok (.ifCond .eq 15, 3) := by decide +kernel
theorem dX8_arc_53 : decode cX8_arc 53 = .ok (.aload_n 0, 1) := by decide +kernel
theorem dX8_arc_54 : decode cX8_arc 54 = .ok (.getfield 45, 3) := by decide +kernel
theorem dX8_arc_57 : decode cX8_arc 57 = .ok (.getfield 212, 3) := by decide +kernel
theorem dX8_arc_60 : decode cX8_arc 60 = .ok (.iload_n 2, 1) := by decide +kernel
theorem dX8_arc_61 : decode cX8_arc 61 = .ok (.iaload, 1) := by decide +kernel
theorem dX8_arc_62 : decode cX8_arc 62 = .ok (.goto 5, 3) := by decide +kernel
theorem dX8_arc_65 : decode cX8_arc 65 = .ok (.bipush (-9), 2) := by decide +kernel
theorem dX8_arc_67 : decode cX8_arc 67 = .ok (.ireturn, 1) := by decide +kernel
set_option maxRecDepth 20000 in
set_option maxHeartbeats 4000000 in
theorem s_X8_arc (l : Launch) (g : GG) {q0 : Nat} (hq0 : kd q0 = 7) {a1 : Int32} {a2 : Int32} {σ : SS} {r : Int32 × SS} (h : f_X8_arc q0 a1 a2 σ = some r) : CT l g 4 yX8_arc cX8_arc 4 (some .int) [.ref (g.1 q0), .int a1, .int a2] σ (some (.int r.1), r.2) := by
  refine CT.of (lv := [(0, .ref (g.1 q0)), (1, .int a1), (2, .int a2)]) RX8 (by decide +kernel) rfl (Nat.le_of_ble_eq_true rfl) rfl ?_
  unfold f_X8_arc at h
  refine vr_aload_n (pc := 0) 0 dX8_arc_0 rfl rfl ?_
  refine vr_getR (pc := 1) 0 dX8_arc_1 fi_X8_10 hq0 (sh_7_0 hq0).1 ?_
  refine vr_iload_n (pc := 4) 1 dX8_arc_4 rfl rfl ?_
  obtain ⟨z1, hz2, h⟩ := ob_some h
  refine vr_callV (pc := 5) (ρ1 := (some (rvO g z1), σ)) [.int a1] dX8_arc_5 (s_X4_wheelAt l g (sh_7_0 hq0).2 hz2) cw_X4_wheelAt ml_X8_122 (sh_7_0 hq0).2 rfl (by decide) (by decide) rfl rfl (Nat.le_of_ble_eq_true rfl) ?_
  refine vr_astore_nO (pc := 8) [(3, rvO g z1), (0, .ref (g.1 q0)), (1, .int a1), (2, .int a2)] dX8_arc_8 rfl (by decide) rfl ?_
  refine vr_aload_nO (pc := 9) 0 dX8_arc_9 rfl rfl ?_
  refine vr_ifnonnull (pc := 10) 19 dX8_arc_10 (by decide) (fun w3 hw4 => ?_) (fun hn14 => ?_)
  · simp only [hw4] at h
    refine vr_sub [0, 1, 2, 3] [(3, .ref (g.1 w3)), (0, .ref (g.1 q0)), (1, .int a1), (2, .int a2)] (by rw [hw4]; rfl) ?_
    refine vr_iload_n (pc := 19) 3 dX8_arc_19 rfl rfl ?_
    refine vr_if_ge (pc := 20) 30 dX8_arc_20 (by decide) (fun c5 => ?_) (fun c5 => ?_)
    · rw [if_pos c5] at h
      refine vr_aload_n (pc := 30) 1 dX8_arc_30 rfl rfl ?_
      refine vr_getR (pc := 31) 7 dX8_arc_31 fi_X8_45 hq0 (sh_7_7 hq0).1 ?_
      refine vr_aload_n (pc := 34) 1 dX8_arc_34 rfl rfl ?_
      refine vr_getR (pc := 35) 0 dX8_arc_35 fi_X8_10 hq0 (sh_7_0 hq0).1 ?_
      refine vr_aload_n (pc := 38) 0 dX8_arc_38 rfl rfl ?_
      obtain ⟨z6, hz7, h⟩ := ob_some h
      refine vr_callV (pc := 39) (ρ1 := (none, z6)) [.ref (g.1 (rid q0 0)), .ref (g.1 w3)] dX8_arc_39 (s_X0_trace l g (sh_7_7 hq0).2 (sh_7_0 hq0).2 ((kf_X4_wheelAt hz2 (sh_7_0 hq0).2) w3 hw4) hz7) cw_X0_trace ml_X8_184 (sh_7_7 hq0).2 rfl (by decide) (by decide) rfl rfl (Nat.le_of_ble_eq_true rfl) ?_
      refine vr_aload_n (pc := 42) 1 dX8_arc_42 rfl rfl ?_
      refine vr_getR (pc := 43) 7 dX8_arc_43 fi_X8_45 hq0 (sh_7_7 hq0).1 ?_
      refine vr_iload_n (pc := 46) 3 dX8_arc_46 rfl rfl ?_
      refine vr_callV (pc := 47) (ρ1 := (some (.int (f_X0_hasArc (rid q0 7) a2 z6)), z6)) [.int a2] dX8_arc_47 (s_X0_hasArc l g (sh_7_7 hq0).2 rfl) cw_X0_hasArc ml_X8_209 (sh_7_7 hq0).2 rfl (by decide) (by decide) rfl rfl (Nat.le_of_ble_eq_true rfl) ?_
      refine vr_if_eq (pc := 50) 65 dX8_arc_50 (by decide) (fun c8 => ?_) (fun c8 => ?_)
      · rw [if_pos c8] at h
        refine vr_bipush (pc := 65) (-9) dX8_arc_65 cb_m9 ?_
        have h := Option.some.inj h; subst h
        exact vr_iret (pc := 67) .int dX8_arc_67 rfl rfl rfl
      · rw [if_neg c8] at h
        refine vr_aload_n (pc := 53) 1 dX8_arc_53 rfl rfl ?_
        refine vr_getR (pc := 54) 7 dX8_arc_54 fi_X8_45 hq0 (sh_7_7 hq0).1 ?_
        refine vr_getR (pc := 57) 5 dX8_arc_57 fi_X8_212 (sh_7_7 hq0).2 (sh_0_5 (sh_7_7 hq0).2).1 ?_
        refine vr_iload_n (pc := 60) 3 dX8_arc_60 rfl rfl ?_
        obtain ⟨hc9, h⟩ := ck_some h
        refine vr_iald (pc := 61) dX8_arc_61 (sh_0_5 (sh_7_7 hq0).2).2 hc9 ?_
        refine vr_goto (pc := 62) 67 dX8_arc_62 (by decide) ?_
        have h := Option.some.inj h; subst h
        exact vr_iret (pc := 67) .int dX8_arc_67 rfl rfl rfl
    · rw [if_neg c5] at h
      refine vr_aload_n (pc := 23) 1 dX8_arc_23 rfl rfl ?_
      refine vr_bipush (pc := 24) (-4) dX8_arc_24 cb_m4 ?_
      obtain ⟨z10, hz11, h⟩ := ob_some h
      refine vr_callV (pc := 26) (ρ1 := (some (.int z10.1), z10.2)) [.int (-4)] dX8_arc_26 (s_X8_refuse l g (hq0) hz11) cw_X8_refuse ml_X8_71 hq0 rfl (by decide) (by decide) rfl rfl (Nat.le_of_ble_eq_true rfl) ?_
      have h := Option.some.inj h; subst h
      exact vr_iret (pc := 29) .int dX8_arc_29 rfl rfl rfl
  · simp only [hn14] at h
    refine vr_sub [1, 2, 3] [(0, .ref (g.1 q0)), (1, .int a1), (2, .int a2)] rfl ?_
    refine vr_aload_n (pc := 13) 0 dX8_arc_13 rfl rfl ?_
    refine vr_iconst (pc := 14) (-1) dX8_arc_14 ci_m1 ?_
    obtain ⟨z12, hz13, h⟩ := ob_some h
    refine vr_callV (pc := 15) (ρ1 := (some (.int z12.1), z12.2)) [.int (-1)] dX8_arc_15 (s_X8_refuse l g (hq0) hz13) cw_X8_refuse ml_X8_71 hq0 rfl (by decide) (by decide) rfl rfl (Nat.le_of_ble_eq_true rfl) ?_
    have h := Option.some.inj h; subst h
    exact vr_iret (pc := 18) .int dX8_arc_18 rfl rfl rfl
theorem dX8_crosses_0 : decode cX8_crosses 0 = .ok (.aload_n 0, 1) := by decide +kernel
theorem dX8_crosses_1 : decode cX8_crosses 1 = .ok (.getfield 10, 3) := by decide +kernel
theorem dX8_crosses_4 : decode cX8_crosses 4 = .ok (.iload_n 1, 1) := by decide +kernel
theorem dX8_crosses_5 : decode cX8_crosses 5 = .ok (.invokevirtual 122, 3) := by decide +kernel
theorem dX8_crosses_8 : decode cX8_crosses 8 = .ok (.astore_n 3, 1) := by decide +kernel
theorem dX8_crosses_9 : decode cX8_crosses 9 = .ok (.aload_n 3, 1) := by decide +kernel
theorem dX8_crosses_10 : decode cX8_crosses 10 = .ok (.ifnonnull 9, 3) := by decide +kernel
theorem dX8_crosses_13 : decode cX8_crosses 13 = .ok (.aload_n 0, 1) := by decide +kernel
theorem dX8_crosses_14 : decode cX8_crosses 14 = .ok (.iconst (-1), 1) := by decide +kernel
theorem dX8_crosses_15 : decode cX8_crosses 15 = .ok (.invokevirtual 71, 3) := by decide +kernel
theorem dX8_crosses_18 : decode cX8_crosses 18 = .ok (.ireturn, 1) := by decide +kernel
theorem dX8_crosses_19 : decode cX8_crosses 19 = .ok (.iload_n 2, 1) := by decide +kernel
theorem dX8_crosses_20 : decode cX8_crosses 20 = .ok (.ifCond .ge 10, 3) := by decide +kernel
theorem dX8_crosses_23 : decode cX8_crosses 23 = .ok (.aload_n 0, 1) := by decide +kernel
theorem dX8_crosses_24 : decode cX8_crosses 24 = .ok (.bipush (-4), 2) := by decide +kernel
theorem dX8_crosses_26 : decode cX8_crosses 26 = .ok (.invokevirtual 71, 3) := by decide +kernel
theorem dX8_crosses_29 : decode cX8_crosses 29 = .ok (.ireturn, 1) := by decide +kernel
theorem dX8_crosses_30 : decode cX8_crosses 30 = .ok (.aload_n 0, 1) := by decide +kernel
theorem dX8_crosses_31 : decode cX8_crosses 31 = .ok (.getfield 45, 3) := by decide +kernel
theorem dX8_crosses_34 : decode cX8_crosses 34 = .ok (.aload_n 0, 1) := by decide +kernel
theorem dX8_crosses_35 : decode cX8_crosses 35 = .ok (.getfield 10, 3) := by decide +kernel
theorem dX8_crosses_38 : decode cX8_crosses 38 = .ok (.aload_n 3, 1) := by decide +kernel
theorem dX8_crosses_39 : decode cX8_crosses 39 = .ok (.invokevirtual 184, 3) := by decide +kernel
theorem dX8_crosses_42 : decode cX8_crosses 42 = .ok (.aload_n 0, 1) := by decide +kernel
theorem dX8_crosses_43 : decode cX8_crosses 43 = .ok (.getfield 45, 3) := by decide +kernel
theorem dX8_crosses_46 : decode cX8_crosses 46 = .ok (.iload_n 2, 1) := by decide +kernel
theorem dX8_crosses_47 : decode cX8_crosses 47 = .ok (.invokevirtual 209, 3) := by decide +kernel
theorem dX8_crosses_50 : decode cX8_crosses 50 = .ok (.ifCond .eq 18, 3) := by decide +kernel
theorem dX8_crosses_53 : decode cX8_crosses 53 = .ok (.aload_n 0, 1) := by decide +kernel
theorem dX8_crosses_54 : decode cX8_crosses 54 = .ok (.getfield 45, 3) := by decide +kernel
theorem dX8_crosses_57 : decode cX8_crosses 57 = .ok (.aload_n 0, 1) := by decide +kernel
theorem dX8_crosses_58 : decode cX8_crosses 58 = .ok (.getfield 45, 3) := by decide +kernel
theorem dX8_crosses_61 : decode cX8_crosses 61 = .ok (.iload_n 2, 1) := by decide +kernel
theorem dX8_crosses_62 : decode cX8_crosses 62 = .ok (.invokevirtual 215, 3) := by decide +kernel
theorem dX8_crosses_65 : decode cX8_crosses 65 = .ok (.goto 5, 3) := by decide +kernel
theorem dX8_crosses_68 : decode cX8_crosses 68 = .ok (.bipush (-9), 2) := by decide +kernel
theorem dX8_crosses_70 : decode cX8_crosses 70 = .ok (.ireturn, 1) := by decide +kernel
set_option maxRecDepth 20000 in
set_option maxHeartbeats 4000000 in
theorem s_X8_crosses (l : Launch) (g : GG) {q0 : Nat} (hq0 : kd q0 = 7) {a1 : Int32} {a2 : Int32} {σ : SS} {r : Int32 × SS} (h : f_X8_crosses q0 a1 a2 σ = some r) : CT l g 4 yX8_crosses cX8_crosses 4 (some .int) [.ref (g.1 q0), .int a1, .int a2] σ (some (.int r.1), r.2) := by
  refine CT.of (lv := [(0, .ref (g.1 q0)), (1, .int a1), (2, .int a2)]) RX8 (by decide +kernel) rfl (Nat.le_of_ble_eq_true rfl) rfl ?_
  unfold f_X8_crosses at h
  refine vr_aload_n (pc := 0) 0 dX8_crosses_0 rfl rfl ?_
  refine vr_getR (pc := 1) 0 dX8_crosses_1 fi_X8_10 hq0 (sh_7_0 hq0).1 ?_
  refine vr_iload_n (pc := 4) 1 dX8_crosses_4 rfl rfl ?_
  obtain ⟨z1, hz2, h⟩ := ob_some h
  refine vr_callV (pc := 5) (ρ1 := (some (rvO g z1), σ)) [.int a1] dX8_crosses_5 (s_X4_wheelAt l g (sh_7_0 hq0).2 hz2) cw_X4_wheelAt ml_X8_122 (sh_7_0 hq0).2 rfl (by decide) (by decide) rfl rfl (Nat.le_of_ble_eq_true rfl) ?_
  refine vr_astore_nO (pc := 8) [(3, rvO g z1), (0, .ref (g.1 q0)), (1, .int a1), (2, .int a2)] dX8_crosses_8 rfl (by decide) rfl ?_
  refine vr_aload_nO (pc := 9) 0 dX8_crosses_9 rfl rfl ?_
  refine vr_ifnonnull (pc := 10) 19 dX8_crosses_10 (by decide) (fun w3 hw4 => ?_) (fun hn15 => ?_)
  · simp only [hw4] at h
    refine vr_sub [0, 1, 2, 3] [(3, .ref (g.1 w3)), (0, .ref (g.1 q0)), (1, .int a1), (2, .int a2)] (by rw [hw4]; rfl) ?_
    refine vr_iload_n (pc := 19) 3 dX8_crosses_19 rfl rfl ?_
    refine vr_if_ge (pc := 20) 30 dX8_crosses_20 (by decide) (fun c5 => ?_) (fun c5 => ?_)
    · rw [if_pos c5] at h
      refine vr_aload_n (pc := 30) 1 dX8_crosses_30 rfl rfl ?_
      refine vr_getR (pc := 31) 7 dX8_crosses_31 fi_X8_45 hq0 (sh_7_7 hq0).1 ?_
      refine vr_aload_n (pc := 34) 1 dX8_crosses_34 rfl rfl ?_
      refine vr_getR (pc := 35) 0 dX8_crosses_35 fi_X8_10 hq0 (sh_7_0 hq0).1 ?_
      refine vr_aload_n (pc := 38) 0 dX8_crosses_38 rfl rfl ?_
      obtain ⟨z6, hz7, h⟩ := ob_some h
      refine vr_callV (pc := 39) (ρ1 := (none, z6)) [.ref (g.1 (rid q0 0)), .ref (g.1 w3)] dX8_crosses_39 (s_X0_trace l g (sh_7_7 hq0).2 (sh_7_0 hq0).2 ((kf_X4_wheelAt hz2 (sh_7_0 hq0).2) w3 hw4) hz7) cw_X0_trace ml_X8_184 (sh_7_7 hq0).2 rfl (by decide) (by decide) rfl rfl (Nat.le_of_ble_eq_true rfl) ?_
      refine vr_aload_n (pc := 42) 1 dX8_crosses_42 rfl rfl ?_
      refine vr_getR (pc := 43) 7 dX8_crosses_43 fi_X8_45 hq0 (sh_7_7 hq0).1 ?_
      refine vr_iload_n (pc := 46) 3 dX8_crosses_46 rfl rfl ?_
      refine vr_callV (pc := 47) (ρ1 := (some (.int (f_X0_hasArc (rid q0 7) a2 z6)), z6)) [.int a2] dX8_crosses_47 (s_X0_hasArc l g (sh_7_7 hq0).2 rfl) cw_X0_hasArc ml_X8_209 (sh_7_7 hq0).2 rfl (by decide) (by decide) rfl rfl (Nat.le_of_ble_eq_true rfl) ?_
      refine vr_if_eq (pc := 50) 68 dX8_crosses_50 (by decide) (fun c8 => ?_) (fun c8 => ?_)
      · rw [if_pos c8] at h
        refine vr_bipush (pc := 68) (-9) dX8_crosses_68 cb_m9 ?_
        have h := Option.some.inj h; subst h
        exact vr_iret (pc := 70) .int dX8_crosses_70 rfl rfl rfl
      · rw [if_neg c8] at h
        refine vr_aload_n (pc := 53) 1 dX8_crosses_53 rfl rfl ?_
        refine vr_getR (pc := 54) 7 dX8_crosses_54 fi_X8_45 hq0 (sh_7_7 hq0).1 ?_
        refine vr_aload_n (pc := 57) 1 dX8_crosses_57 rfl rfl ?_
        refine vr_getR (pc := 58) 7 dX8_crosses_58 fi_X8_45 hq0 (sh_7_7 hq0).1 ?_
        refine vr_iload_n (pc := 61) 3 dX8_crosses_61 rfl rfl ?_
        obtain ⟨z9, hz10, h⟩ := ob_some h
        refine vr_callV (pc := 62) (ρ1 := (some (.int z9), z6)) [.ref (g.1 (rid q0 7)), .int a2] dX8_crosses_62 (s_X0_crossedBy l g (sh_7_7 hq0).2 (sh_7_7 hq0).2 hz10) cw_X0_crossedBy ml_X8_215 (sh_7_7 hq0).2 rfl (by decide) (by decide) rfl rfl (Nat.le_of_ble_eq_true rfl) ?_
        refine vr_goto (pc := 65) 70 dX8_crosses_65 (by decide) ?_
        have h := Option.some.inj h; subst h
        exact vr_iret (pc := 70) .int dX8_crosses_70 rfl rfl rfl
    · rw [if_neg c5] at h
      refine vr_aload_n (pc := 23) 1 dX8_crosses_23 rfl rfl ?_
      refine vr_bipush (pc := 24) (-4) dX8_crosses_24 cb_m4 ?_
      obtain ⟨z11, hz12, h⟩ := ob_some h
      refine vr_callV (pc := 26) (ρ1 := (some (.int z11.1), z11.2)) [.int (-4)] dX8_crosses_26 (s_X8_refuse l g (hq0) hz12) cw_X8_refuse ml_X8_71 hq0 rfl (by decide) (by decide) rfl rfl (Nat.le_of_ble_eq_true rfl) ?_
      have h := Option.some.inj h; subst h
      exact vr_iret (pc := 29) .int dX8_crosses_29 rfl rfl rfl
  · simp only [hn15] at h
    refine vr_sub [1, 2, 3] [(0, .ref (g.1 q0)), (1, .int a1), (2, .int a2)] rfl ?_
    refine vr_aload_n (pc := 13) 0 dX8_crosses_13 rfl rfl ?_
    refine vr_iconst (pc := 14) (-1) dX8_crosses_14 ci_m1 ?_
    obtain ⟨z13, hz14, h⟩ := ob_some h
    refine vr_callV (pc := 15) (ρ1 := (some (.int z13.1), z13.2)) [.int (-1)] dX8_crosses_15 (s_X8_refuse l g (hq0) hz14) cw_X8_refuse ml_X8_71 hq0 rfl (by decide) (by decide) rfl rfl (Nat.le_of_ble_eq_true rfl) ?_
    have h := Option.some.inj h; subst h
    exact vr_iret (pc := 18) .int dX8_crosses_18 rfl rfl rfl
theorem dX8_behind_0 : decode cX8_behind 0 = .ok (.aload_n 0, 1) := by decide +kernel
theorem dX8_behind_1 : decode cX8_behind 1 = .ok (.getfield 10, 3) := by decide +kernel
theorem dX8_behind_4 : decode cX8_behind 4 = .ok (.iload_n 1, 1) := by decide +kernel
theorem dX8_behind_5 : decode cX8_behind 5 = .ok (.invokevirtual 122, 3) := by decide +kernel
theorem dX8_behind_8 : decode cX8_behind 8 = .ok (.astore_n 3, 1) := by decide +kernel
theorem dX8_behind_9 : decode cX8_behind 9 = .ok (.aload_n 3, 1) := by decide +kernel
theorem dX8_behind_10 : decode cX8_behind 10 = .ok (.ifnull 14, 3) := by decide +kernel
theorem dX8_behind_13 : decode cX8_behind 13 = .ok (.aload_n 0, 1) := by decide +kernel
theorem dX8_behind_14 : decode cX8_behind 14 = .ok (.getfield 10, 3) := by decide +kernel
theorem dX8_behind_17 : decode cX8_behind 17 = .ok (.iload_n 2, 1) := by decide +kernel
theorem dX8_behind_18 : decode cX8_behind 18 = .ok (.invokevirtual 153, 3) := by decide +kernel
theorem dX8_behind_21 : decode cX8_behind 21 = .ok (.ifCond .ne 9, 3) := by decide +kernel
theorem dX8_behind_24 : decode cX8_behind 24 = .ok (.aload_n 0, 1) := by decide +kernel
theorem dX8_behind_25 : decode cX8_behind 25 = .ok (.iconst (-1), 1) := by decide +kernel
theorem dX8_behind_26 : decode cX8_behind 26 = .ok (.invokevirtual 71, 3) := by decide +kernel
theorem dX8_behind_29 : decode cX8_behind 29 = .ok (.ireturn, 1) := by decide +kernel
theorem dX8_behind_30 : decode cX8_behind 30 = .ok (.aload_n 0, 1) := by decide +kernel
theorem dX8_behind_31 : decode cX8_behind 31 = .ok (.getfield 45, 3) := by decide +kernel
theorem dX8_behind_34 : decode cX8_behind 34 = .ok (.aload_n 0, 1) := by decide +kernel
theorem dX8_behind_35 : decode cX8_behind 35 = .ok (.getfield 10, 3) := by decide +kernel
theorem dX8_behind_38 : decode cX8_behind 38 = .ok (.aload_n 3, 1) := by decide +kernel
theorem dX8_behind_39 : decode cX8_behind 39 = .ok (.invokevirtual 184, 3) := by decide +kernel
theorem dX8_behind_42 : decode cX8_behind 42 = .ok (.aload_n 0, 1) := by decide +kernel
theorem dX8_behind_43 : decode cX8_behind 43 = .ok (.getfield 45, 3) := by decide +kernel
theorem dX8_behind_46 : decode cX8_behind 46 = .ok (.iload_n 2, 1) := by decide +kernel
theorem dX8_behind_47 : decode cX8_behind 47 = .ok (.invokevirtual 219, 3) := by decide +kernel
theorem dX8_behind_50 : decode cX8_behind 50 = .ok (.ireturn, 1) := by decide +kernel
set_option maxRecDepth 20000 in
set_option maxHeartbeats 4000000 in
theorem s_X8_behind (l : Launch) (g : GG) {q0 : Nat} (hq0 : kd q0 = 7) {a1 : Int32} {a2 : Int32} {σ : SS} {r : Int32 × SS} (h : f_X8_behind q0 a1 a2 σ = some r) : CT l g 4 yX8_behind cX8_behind 4 (some .int) [.ref (g.1 q0), .int a1, .int a2] σ (some (.int r.1), r.2) := by
  refine CT.of (lv := [(0, .ref (g.1 q0)), (1, .int a1), (2, .int a2)]) RX8 (by decide +kernel) rfl (Nat.le_of_ble_eq_true rfl) rfl ?_
  unfold f_X8_behind at h
  refine vr_aload_n (pc := 0) 0 dX8_behind_0 rfl rfl ?_
  refine vr_getR (pc := 1) 0 dX8_behind_1 fi_X8_10 hq0 (sh_7_0 hq0).1 ?_
  refine vr_iload_n (pc := 4) 1 dX8_behind_4 rfl rfl ?_
  obtain ⟨z1, hz2, h⟩ := ob_some h
  refine vr_callV (pc := 5) (ρ1 := (some (rvO g z1), σ)) [.int a1] dX8_behind_5 (s_X4_wheelAt l g (sh_7_0 hq0).2 hz2) cw_X4_wheelAt ml_X8_122 (sh_7_0 hq0).2 rfl (by decide) (by decide) rfl rfl (Nat.le_of_ble_eq_true rfl) ?_
  refine vr_astore_nO (pc := 8) [(3, rvO g z1), (0, .ref (g.1 q0)), (1, .int a1), (2, .int a2)] dX8_behind_8 rfl (by decide) rfl ?_
  refine vr_aload_nO (pc := 9) 0 dX8_behind_9 rfl rfl ?_
  refine vr_ifnull (pc := 10) 24 dX8_behind_10 (by decide) (fun hn14 => ?_) (fun w3 hw4 => ?_)
  · simp only [hn14] at h
    refine vr_sub [1, 2, 3] [(0, .ref (g.1 q0)), (1, .int a1), (2, .int a2)] rfl ?_
    refine vr_aload_n (pc := 24) 0 dX8_behind_24 rfl rfl ?_
    refine vr_iconst (pc := 25) (-1) dX8_behind_25 ci_m1 ?_
    obtain ⟨z12, hz13, h⟩ := ob_some h
    refine vr_callV (pc := 26) (ρ1 := (some (.int z12.1), z12.2)) [.int (-1)] dX8_behind_26 (s_X8_refuse l g (hq0) hz13) cw_X8_refuse ml_X8_71 hq0 rfl (by decide) (by decide) rfl rfl (Nat.le_of_ble_eq_true rfl) ?_
    have h := Option.some.inj h; subst h
    exact vr_iret (pc := 29) .int dX8_behind_29 rfl rfl rfl
  · simp only [hw4] at h
    refine vr_sub [0, 1, 2, 3] [(3, .ref (g.1 w3)), (0, .ref (g.1 q0)), (1, .int a1), (2, .int a2)] (by rw [hw4]; rfl) ?_
    refine vr_aload_n (pc := 13) 1 dX8_behind_13 rfl rfl ?_
    refine vr_getR (pc := 14) 0 dX8_behind_14 fi_X8_10 hq0 (sh_7_0 hq0).1 ?_
    refine vr_iload_n (pc := 17) 3 dX8_behind_17 rfl rfl ?_
    refine vr_callV (pc := 18) (ρ1 := (some (.int (f_X4_isTooth (rid q0 0) a2 σ)), σ)) [.int a2] dX8_behind_18 (s_X4_isTooth l g (sh_7_0 hq0).2 rfl) cw_X4_isTooth ml_X8_153 (sh_7_0 hq0).2 rfl (by decide) (by decide) rfl rfl (Nat.le_of_ble_eq_true rfl) ?_
    refine vr_if_ne (pc := 21) 30 dX8_behind_21 (by decide) (fun c5 => ?_) (fun c5 => ?_)
    · rw [if_neg c5] at h
      refine vr_aload_n (pc := 30) 1 dX8_behind_30 rfl rfl ?_
      refine vr_getR (pc := 31) 7 dX8_behind_31 fi_X8_45 hq0 (sh_7_7 hq0).1 ?_
      refine vr_aload_n (pc := 34) 1 dX8_behind_34 rfl rfl ?_
      refine vr_getR (pc := 35) 0 dX8_behind_35 fi_X8_10 hq0 (sh_7_0 hq0).1 ?_
      refine vr_aload_n (pc := 38) 0 dX8_behind_38 rfl rfl ?_
      obtain ⟨z6, hz7, h⟩ := ob_some h
      refine vr_callV (pc := 39) (ρ1 := (none, z6)) [.ref (g.1 (rid q0 0)), .ref (g.1 w3)] dX8_behind_39 (s_X0_trace l g (sh_7_7 hq0).2 (sh_7_0 hq0).2 ((kf_X4_wheelAt hz2 (sh_7_0 hq0).2) w3 hw4) hz7) cw_X0_trace ml_X8_184 (sh_7_7 hq0).2 rfl (by decide) (by decide) rfl rfl (Nat.le_of_ble_eq_true rfl) ?_
      refine vr_aload_n (pc := 42) 1 dX8_behind_42 rfl rfl ?_
      refine vr_getR (pc := 43) 7 dX8_behind_43 fi_X8_45 hq0 (sh_7_7 hq0).1 ?_
      refine vr_iload_n (pc := 46) 3 dX8_behind_46 rfl rfl ?_
      obtain ⟨z8, hz9, h⟩ := ob_some h
      refine vr_callV (pc := 47) (ρ1 := (some (.int z8), z6)) [.int a2] dX8_behind_47 (s_X0_cuspFrom l g (sh_7_7 hq0).2 hz9) cw_X0_cuspFrom ml_X8_219 (sh_7_7 hq0).2 rfl (by decide) (by decide) rfl rfl (Nat.le_of_ble_eq_true rfl) ?_
      have h := Option.some.inj h; subst h
      exact vr_iret (pc := 50) .int dX8_behind_50 rfl rfl rfl
    · rw [if_pos c5] at h
      refine vr_aload_n (pc := 24) 1 dX8_behind_24 rfl rfl ?_
      refine vr_iconst (pc := 25) (-1) dX8_behind_25 ci_m1 ?_
      obtain ⟨z10, hz11, h⟩ := ob_some h
      refine vr_callV (pc := 26) (ρ1 := (some (.int z10.1), z10.2)) [.int (-1)] dX8_behind_26 (s_X8_refuse l g (hq0) hz11) cw_X8_refuse ml_X8_71 hq0 rfl (by decide) (by decide) rfl rfl (Nat.le_of_ble_eq_true rfl) ?_
      have h := Option.some.inj h; subst h
      exact vr_iret (pc := 29) .int dX8_behind_29 rfl rfl rfl
theorem dX8_tracesBoth_0 : decode cX8_tracesBoth 0 = .ok (.aload_n 0, 1) := by decide +kernel
theorem dX8_tracesBoth_1 : decode cX8_tracesBoth 1 = .ok (.getfield 10, 3) := by decide +kernel
theorem dX8_tracesBoth_4 : decode cX8_tracesBoth 4 = .ok (.iload_n 1, 1) := by decide +kernel
theorem dX8_tracesBoth_5 : decode cX8_tracesBoth 5 = .ok (.invokevirtual 122, 3) := by decide +kernel
theorem dX8_tracesBoth_8 : decode cX8_tracesBoth 8 = .ok (.astore_n 3, 1) := by decide +kernel
theorem dX8_tracesBoth_9 : decode cX8_tracesBoth 9 = .ok (.aload_n 0, 1) := by decide +kernel
theorem dX8_tracesBoth_10 : decode cX8_tracesBoth 10 = .ok (.getfield 10, 3) := by decide +kernel
theorem dX8_tracesBoth_13 : decode cX8_tracesBoth 13 = .ok (.iload_n 2, 1) := by decide +kernel
theorem dX8_tracesBoth_14 : decode cX8_tracesBoth 14 = .ok (.invokevirtual 122, 3) := by decide +kernel
theorem dX8_tracesBoth_17 : decode cX8_tracesBoth 17 = .ok (.astore 4, 2) := by decide +kernel
theorem dX8_tracesBoth_19 : decode cX8_tracesBoth 19 = .ok (.aload_n 3, 1) := by decide +kernel
theorem dX8_tracesBoth_20 : decode cX8_tracesBoth 20 = .ok (.ifnull 8, 3) := by decide +kernel
theorem dX8_tracesBoth_23 : decode cX8_tracesBoth 23 = .ok (.aload 4, 2) := by decide +kernel
theorem dX8_tracesBoth_25 : decode cX8_tracesBoth 25 = .ok (.ifnonnull 5, 3) := by decide +kernel
theorem dX8_tracesBoth_28 : decode cX8_tracesBoth 28 = .ok (.iconst 0, 1) := by decide +kernel
theorem dX8_tracesBoth_29 : decode cX8_tracesBoth 29 = .ok (.ireturn, 1) := by decide +kernel
theorem dX8_tracesBoth_30 : decode cX8_tracesBoth 30 = .ok (.aload_n 0, 1) := by decide +kernel
theorem dX8_tracesBoth_31 : decode cX8_tracesBoth 31 = .ok (.getfield 45, 3) := by decide +kernel
theorem dX8_tracesBoth_34 : decode cX8_tracesBoth 34 = .ok (.aload_n 0, 1) := by decide +kernel
theorem dX8_tracesBoth_35 : decode cX8_tracesBoth 35 = .ok (.getfield 10, 3) := by decide +kernel
theorem dX8_tracesBoth_38 : decode cX8_tracesBoth 38 = .ok (.aload_n 3, 1) := by decide +kernel
theorem dX8_tracesBoth_39 : decode cX8_tracesBoth 39 = .ok (.invokevirtual 184, 3) := by decide +kernel
theorem dX8_tracesBoth_42 : decode cX8_tracesBoth 42 = .ok (.aload_n 0, 1) := by decide +kernel
theorem dX8_tracesBoth_43 : decode cX8_tracesBoth 43 = .ok (.getfield 49, 3) := by decide +kernel
theorem dX8_tracesBoth_46 : decode cX8_tracesBoth 46 = .ok (.aload_n 0, 1) := by decide +kernel
theorem dX8_tracesBoth_47 : decode cX8_tracesBoth 47 = .ok (.getfield 10, 3) := by decide +kernel
theorem dX8_tracesBoth_50 : decode cX8_tracesBoth 50 = .ok (.aload 4, 2) := by decide +kernel
theorem dX8_tracesBoth_52 : decode cX8_tracesBoth 52 = .ok (.invokevirtual 184, 3) := by decide +kernel
theorem dX8_tracesBoth_55 : decode cX8_tracesBoth 55 = .ok (.iconst 1, 1) := by decide +kernel
theorem dX8_tracesBoth_56 : decode cX8_tracesBoth 56 = .ok (.ireturn, 1) := by decide +kernel
set_option maxRecDepth 20000 in
set_option maxHeartbeats 4000000 in
theorem s_X8_tracesBoth (l : Launch) (g : GG) {q0 : Nat} (hq0 : kd q0 = 7) {a1 : Int32} {a2 : Int32} {σ : SS} {r : Int32 × SS} (h : f_X8_tracesBoth q0 a1 a2 σ = some r) : CT l g 4 yX8_tracesBoth cX8_tracesBoth 5 (some .boolean) [.ref (g.1 q0), .int a1, .int a2] σ (some (.int r.1), r.2) := by
  refine CT.of (lv := [(0, .ref (g.1 q0)), (1, .int a1), (2, .int a2)]) RX8 (by decide +kernel) rfl (Nat.le_of_ble_eq_true rfl) rfl ?_
  unfold f_X8_tracesBoth at h
  refine vr_aload_n (pc := 0) 0 dX8_tracesBoth_0 rfl rfl ?_
  refine vr_getR (pc := 1) 0 dX8_tracesBoth_1 fi_X8_10 hq0 (sh_7_0 hq0).1 ?_
  refine vr_iload_n (pc := 4) 1 dX8_tracesBoth_4 rfl rfl ?_
  obtain ⟨z1, hz2, h⟩ := ob_some h
  refine vr_callV (pc := 5) (ρ1 := (some (rvO g z1), σ)) [.int a1] dX8_tracesBoth_5 (s_X4_wheelAt l g (sh_7_0 hq0).2 hz2) cw_X4_wheelAt ml_X8_122 (sh_7_0 hq0).2 rfl (by decide) (by decide) rfl rfl (Nat.le_of_ble_eq_true rfl) ?_
  refine vr_astore_nO (pc := 8) [(3, rvO g z1), (0, .ref (g.1 q0)), (1, .int a1), (2, .int a2)] dX8_tracesBoth_8 rfl (by decide) rfl ?_
  refine vr_aload_n (pc := 9) 1 dX8_tracesBoth_9 rfl rfl ?_
  refine vr_getR (pc := 10) 0 dX8_tracesBoth_10 fi_X8_10 hq0 (sh_7_0 hq0).1 ?_
  refine vr_iload_n (pc := 13) 3 dX8_tracesBoth_13 rfl rfl ?_
  obtain ⟨z3, hz4, h⟩ := ob_some h
  refine vr_callV (pc := 14) (ρ1 := (some (rvO g z3), σ)) [.int a2] dX8_tracesBoth_14 (s_X4_wheelAt l g (sh_7_0 hq0).2 hz4) cw_X4_wheelAt ml_X8_122 (sh_7_0 hq0).2 rfl (by decide) (by decide) rfl rfl (Nat.le_of_ble_eq_true rfl) ?_
  refine vr_astoreO (pc := 17) [(4, rvO g z3), (3, rvO g z1), (0, .ref (g.1 q0)), (1, .int a1), (2, .int a2)] dX8_tracesBoth_17 (by decide) (by simp [rvO_cat]) ?_
  refine vr_aload_nO (pc := 19) 1 dX8_tracesBoth_19 rfl rfl ?_
  refine vr_ifnull (pc := 20) 28 dX8_tracesBoth_20 (by decide) (fun hn14 => ?_) (fun w5 hw6 => ?_)
  · simp only [hn14] at h
    refine vr_sub [0, 2, 3, 4] [(4, rvO g z3), (0, .ref (g.1 q0)), (1, .int a1), (2, .int a2)] rfl ?_
    refine vr_iconst (pc := 28) 0 dX8_tracesBoth_28 ci_0 ?_
    have h := Option.some.inj h; subst h
    exact vr_iret (pc := 29) .boolean dX8_tracesBoth_29 rfl rfl rfl
  · simp only [hw6] at h
    refine vr_sub [0, 1, 2, 3, 4] [(4, rvO g z3), (3, .ref (g.1 w5)), (0, .ref (g.1 q0)), (1, .int a1), (2, .int a2)] (by rw [hw6]; rfl) ?_
    refine vr_aloadO (pc := 23) 0 dX8_tracesBoth_23 rfl ?_
    refine vr_ifnonnull (pc := 25) 30 dX8_tracesBoth_25 (by decide) (fun w7 hw8 => ?_) (fun hn13 => ?_)
    · simp only [hw8] at h
      refine vr_sub [0, 1, 2, 3, 4] [(4, .ref (g.1 w7)), (3, .ref (g.1 w5)), (0, .ref (g.1 q0)), (1, .int a1), (2, .int a2)] (by rw [hw8]; rfl) ?_
      refine vr_aload_n (pc := 30) 2 dX8_tracesBoth_30 rfl rfl ?_
      refine vr_getR (pc := 31) 7 dX8_tracesBoth_31 fi_X8_45 hq0 (sh_7_7 hq0).1 ?_
      refine vr_aload_n (pc := 34) 2 dX8_tracesBoth_34 rfl rfl ?_
      refine vr_getR (pc := 35) 0 dX8_tracesBoth_35 fi_X8_10 hq0 (sh_7_0 hq0).1 ?_
      refine vr_aload_n (pc := 38) 1 dX8_tracesBoth_38 rfl rfl ?_
      obtain ⟨z9, hz10, h⟩ := ob_some h
      refine vr_callV (pc := 39) (ρ1 := (none, z9)) [.ref (g.1 (rid q0 0)), .ref (g.1 w5)] dX8_tracesBoth_39 (s_X0_trace l g (sh_7_7 hq0).2 (sh_7_0 hq0).2 ((kf_X4_wheelAt hz2 (sh_7_0 hq0).2) w5 hw6) hz10) cw_X0_trace ml_X8_184 (sh_7_7 hq0).2 rfl (by decide) (by decide) rfl rfl (Nat.le_of_ble_eq_true rfl) ?_
      refine vr_aload_n (pc := 42) 2 dX8_tracesBoth_42 rfl rfl ?_
      refine vr_getR (pc := 43) 8 dX8_tracesBoth_43 fi_X8_49 hq0 (sh_7_8 hq0).1 ?_
      refine vr_aload_n (pc := 46) 2 dX8_tracesBoth_46 rfl rfl ?_
      refine vr_getR (pc := 47) 0 dX8_tracesBoth_47 fi_X8_10 hq0 (sh_7_0 hq0).1 ?_
      refine vr_aload (pc := 50) 0 dX8_tracesBoth_50 rfl ?_
      obtain ⟨z11, hz12, h⟩ := ob_some h
      refine vr_callV (pc := 52) (ρ1 := (none, z11)) [.ref (g.1 (rid q0 0)), .ref (g.1 w7)] dX8_tracesBoth_52 (s_X0_trace l g (sh_7_8 hq0).2 (sh_7_0 hq0).2 ((kf_X4_wheelAt hz4 (sh_7_0 hq0).2) w7 hw8) hz12) cw_X0_trace ml_X8_184 (sh_7_8 hq0).2 rfl (by decide) (by decide) rfl rfl (Nat.le_of_ble_eq_true rfl) ?_
      refine vr_iconst (pc := 55) 1 dX8_tracesBoth_55 ci_1 ?_
      have h := Option.some.inj h; subst h
      exact vr_iret (pc := 56) .boolean dX8_tracesBoth_56 rfl rfl rfl
    · simp only [hn13] at h
      refine vr_sub [1, 2, 3, 4] [(3, .ref (g.1 w5)), (0, .ref (g.1 q0)), (1, .int a1), (2, .int a2)] rfl ?_
      refine vr_iconst (pc := 28) 0 dX8_tracesBoth_28 ci_0 ?_
      have h := Option.some.inj h; subst h
      exact vr_iret (pc := 29) .boolean dX8_tracesBoth_29 rfl rfl rfl
theorem dX8_between_0 : decode cX8_between 0 = .ok (.aload_n 0, 1) := by decide +kernel
theorem dX8_between_1 : decode cX8_between 1 = .ok (.iload_n 1, 1) := by decide +kernel
theorem dX8_between_2 : decode cX8_between 2 = .ok (.iload_n 2, 1) := by decide +kernel
theorem dX8_between_3 : decode cX8_between 3 = .ok (.invokevirtual 222, 3) := by decide +kernel
theorem dX8_between_6 : decode cX8_between 6 = .ok (.ifCond .ne 9, 3) := by decide +kernel
theorem dX8_between_9 : decode cX8_between 9 = .ok (.aload_n 0, 1) := by decide +kernel
theorem dX8_between_10 : decode cX8_between 10 = .ok (.iconst (-1), 1) := by decide +kernel
theorem dX8_between_11 : decode cX8_between 11 = .ok (.invokevirtual 71, 3) := by decide +kernel
theorem dX8_between_14 : decode cX8_between 14 = .ok (.ireturn, 1) := by decide +kernel
theorem dX8_between_15 : decode cX8_between 15 = .ok (.aload_n 0, 1) := by decide +kernel
theorem dX8_between_16 : decode cX8_between 16 = .ok (.getfield 45, 3) := by decide +kernel
theorem dX8_between_19 : decode cX8_between 19 = .ok (.aload_n 0, 1) := by decide +kernel
theorem dX8_between_20 : decode cX8_between 20 = .ok (.getfield 49, 3) := by decide +kernel
theorem dX8_between_23 : decode cX8_between 23 = .ok (.invokevirtual 226, 3) := by decide +kernel
theorem dX8_between_26 : decode cX8_between 26 = .ok (.ireturn, 1) := by decide +kernel
set_option maxRecDepth 20000 in
set_option maxHeartbeats 4000000 in
theorem s_X8_between (l : Launch) (g : GG) {q0 : Nat} (hq0 : kd q0 = 7) {a1 : Int32} {a2 : Int32} {σ : SS} {r : Int32 × SS} (h : f_X8_between q0 a1 a2 σ = some r) : CT l g 5 yX8_between cX8_between 3 (some .int) [.ref (g.1 q0), .int a1, .int a2] σ (some (.int r.1), r.2) := by
  refine CT.of (lv := [(0, .ref (g.1 q0)), (1, .int a1), (2, .int a2)]) RX8 (by decide +kernel) rfl (Nat.le_of_ble_eq_true rfl) rfl ?_
  unfold f_X8_between at h
  refine vr_aload_n (pc := 0) 0 dX8_between_0 rfl rfl ?_
  refine vr_iload_n (pc := 1) 1 dX8_between_1 rfl rfl ?_
  refine vr_iload_n (pc := 2) 2 dX8_between_2 rfl rfl ?_
  obtain ⟨z1, hz2, h⟩ := ob_some h
  refine vr_callV (pc := 3) (ρ1 := (some (.int z1.1), z1.2)) [.int a1, .int a2] dX8_between_3 (s_X8_tracesBoth l g (hq0) hz2) cw_X8_tracesBoth ml_X8_222 hq0 rfl (by decide) (by decide) rfl rfl (Nat.le_of_ble_eq_true rfl) ?_
  refine vr_if_ne (pc := 6) 15 dX8_between_6 (by decide) (fun c3 => ?_) (fun c3 => ?_)
  · rw [if_neg c3] at h
    refine vr_aload_n (pc := 15) 0 dX8_between_15 rfl rfl ?_
    refine vr_getR (pc := 16) 7 dX8_between_16 fi_X8_45 hq0 (sh_7_7 hq0).1 ?_
    refine vr_aload_n (pc := 19) 0 dX8_between_19 rfl rfl ?_
    refine vr_getR (pc := 20) 8 dX8_between_20 fi_X8_49 hq0 (sh_7_8 hq0).1 ?_
    obtain ⟨z4, hz5, h⟩ := ob_some h
    refine vr_callV (pc := 23) (ρ1 := (some (.int z4), z1.2)) [.ref (g.1 (rid q0 8))] dX8_between_23 (s_X0_crossingsWith l g (sh_7_7 hq0).2 (sh_7_8 hq0).2 hz5) cw_X0_crossingsWith ml_X8_226 (sh_7_7 hq0).2 rfl (by decide) (by decide) rfl rfl (Nat.le_of_ble_eq_true rfl) ?_
    have h := Option.some.inj h; subst h
    exact vr_iret (pc := 26) .int dX8_between_26 rfl rfl rfl
  · rw [if_pos c3] at h
    refine vr_aload_n (pc := 9) 0 dX8_between_9 rfl rfl ?_
    refine vr_iconst (pc := 10) (-1) dX8_between_10 ci_m1 ?_
    obtain ⟨z6, hz7, h⟩ := ob_some h
    refine vr_callV (pc := 11) (ρ1 := (some (.int z6.1), z6.2)) [.int (-1)] dX8_between_11 (s_X8_refuse l g (hq0) hz7) cw_X8_refuse ml_X8_71 hq0 rfl (by decide) (by decide) rfl rfl (Nat.le_of_ble_eq_true rfl) ?_
    have h := Option.some.inj h; subst h
    exact vr_iret (pc := 14) .int dX8_between_14 rfl rfl rfl
theorem dX8_mirror_0 : decode cX8_mirror 0 = .ok (.aload_n 0, 1) := by decide +kernel
theorem dX8_mirror_1 : decode cX8_mirror 1 = .ok (.iload_n 1, 1) := by decide +kernel
theorem dX8_mirror_2 : decode cX8_mirror 2 = .ok (.iload_n 2, 1) := by decide +kernel
theorem dX8_mirror_3 : decode cX8_mirror 3 = .ok (.invokevirtual 222, 3) := by decide +kernel
theorem dX8_mirror_6 : decode cX8_mirror 6 = .ok (.ifCond .ne 9, 3) := by decide +kernel
theorem dX8_mirror_9 : decode cX8_mirror 9 = .ok (.aload_n 0, 1) := by decide +kernel
theorem dX8_mirror_10 : decode cX8_mirror 10 = .ok (.iconst (-1), 1) := by decide +kernel
theorem dX8_mirror_11 : decode cX8_mirror 11 = .ok (.invokevirtual 71, 3) := by decide +kernel
theorem dX8_mirror_14 : decode cX8_mirror 14 = .ok (.ireturn, 1) := by decide +kernel
theorem dX8_mirror_15 : decode cX8_mirror 15 = .ok (.iload_n 3, 1) := by decide +kernel
theorem dX8_mirror_16 : decode cX8_mirror 16 = .ok (.invokestatic 163, 3) := by decide +kernel
theorem dX8_mirror_19 : decode cX8_mirror 19 = .ok (.ifCond .ne 10, 3) := by decide +kernel
theorem dX8_mirror_22 : decode cX8_mirror 22 = .ok (.aload_n 0, 1) := by decide +kernel
theorem dX8_mirror_23 : decode cX8_mirror 23 = .ok (.bipush (-2), 2) := by decide +kernel
theorem dX8_mirror_25 : decode cX8_mirror 25 = .ok (.invokevirtual 71, 3) := by decide +kernel
theorem dX8_mirror_28 : decode cX8_mirror 28 = .ok (.ireturn, 1) := by decide +kernel
theorem dX8_mirror_29 : decode cX8_mirror 29 = .ok (.aload_n 0, 1) := by decide +kernel
theorem dX8_mirror_30 : decode cX8_mirror 30 = .ok (.getfield 45, 3) := by decide +kernel
theorem dX8_mirror_33 : decode cX8_mirror 33 = .ok (.aload_n 0, 1) := by decide +kernel
theorem dX8_mirror_34 : decode cX8_mirror 34 = .ok (.getfield 49, 3) := by decide +kernel
theorem dX8_mirror_37 : decode cX8_mirror 37 = .ok (.iload_n 3, 1) := by decide +kernel
theorem dX8_mirror_38 : decode cX8_mirror 38 = .ok (.ifCond .ne 7, 3) := by decide +kernel
theorem dX8_mirror_41 : decode cX8_mirror 41 = .ok (.iconst (-1), 1) := by decide +kernel
theorem dX8_mirror_42 : decode cX8_mirror 42 = .ok (.goto 4, 3) := by decide +kernel
theorem dX8_mirror_45 : decode cX8_mirror 45 = .ok (.iconst 1, 1) := by decide +kernel
theorem dX8_mirror_46 : decode cX8_mirror 46 = .ok (.invokevirtual 230, 3) := by decide +kernel
theorem dX8_mirror_49 : decode cX8_mirror 49 = .ok (.ireturn, 1) := by decide +kernel
set_option maxRecDepth 20000 in
set_option maxHeartbeats 4000000 in
theorem s_X8_mirror (l : Launch) (g : GG) {q0 : Nat} (hq0 : kd q0 = 7) {a1 : Int32} {a2 : Int32} {a3 : Int32} {σ : SS} {r : Int32 × SS} (h : f_X8_mirror q0 a1 a2 a3 σ = some r) : CT l g 5 yX8_mirror cX8_mirror 4 (some .int) [.ref (g.1 q0), .int a1, .int a2, .int a3] σ (some (.int r.1), r.2) := by
  refine CT.of (lv := [(0, .ref (g.1 q0)), (1, .int a1), (2, .int a2), (3, .int a3)]) RX8 (by decide +kernel) rfl (Nat.le_of_ble_eq_true rfl) rfl ?_
  unfold f_X8_mirror at h
  refine vr_aload_n (pc := 0) 0 dX8_mirror_0 rfl rfl ?_
  refine vr_iload_n (pc := 1) 1 dX8_mirror_1 rfl rfl ?_
  refine vr_iload_n (pc := 2) 2 dX8_mirror_2 rfl rfl ?_
  obtain ⟨z1, hz2, h⟩ := ob_some h
  refine vr_callV (pc := 3) (ρ1 := (some (.int z1.1), z1.2)) [.int a1, .int a2] dX8_mirror_3 (s_X8_tracesBoth l g (hq0) hz2) cw_X8_tracesBoth ml_X8_222 hq0 rfl (by decide) (by decide) rfl rfl (Nat.le_of_ble_eq_true rfl) ?_
  refine vr_if_ne (pc := 6) 15 dX8_mirror_6 (by decide) (fun c3 => ?_) (fun c3 => ?_)
  · rw [if_neg c3] at h
    refine vr_iload_n (pc := 15) 3 dX8_mirror_15 rfl rfl ?_
    refine vr_callS (pc := 16) (ρ1 := (some (.int (f_X8_isOneOfTwo a3)), z1.2)) [.int a3] dX8_mirror_16 (s_X8_isOneOfTwo l g rfl) cw_X8_isOneOfTwo ml_X8_163 (by decide) rfl rfl (Nat.le_of_ble_eq_true rfl) ?_
    refine vr_if_ne (pc := 19) 29 dX8_mirror_19 (by decide) (fun c4 => ?_) (fun c4 => ?_)
    · rw [if_neg c4] at h
      refine vr_aload_n (pc := 29) 0 dX8_mirror_29 rfl rfl ?_
      refine vr_getR (pc := 30) 7 dX8_mirror_30 fi_X8_45 hq0 (sh_7_7 hq0).1 ?_
      refine vr_aload_n (pc := 33) 0 dX8_mirror_33 rfl rfl ?_
      refine vr_getR (pc := 34) 8 dX8_mirror_34 fi_X8_49 hq0 (sh_7_8 hq0).1 ?_
      refine vr_iload_n (pc := 37) 3 dX8_mirror_37 rfl rfl ?_
      refine vr_if_ne (pc := 38) 45 dX8_mirror_38 (by decide) (fun c5 => ?_) (fun c5 => ?_)
      · rw [if_neg c5] at h
        refine vr_iconst (pc := 45) 1 dX8_mirror_45 ci_1 ?_
        obtain ⟨z6, hz7, h⟩ := ob_some h
        refine vr_callV (pc := 46) (ρ1 := (some (.int z6), z1.2)) [.ref (g.1 (rid q0 8)), .int 1] dX8_mirror_46 (s_X0_shiftOnto l g (sh_7_7 hq0).2 (sh_7_8 hq0).2 hz7) cw_X0_shiftOnto ml_X8_230 (sh_7_7 hq0).2 rfl (by decide) (by decide) rfl rfl (Nat.le_of_ble_eq_true rfl) ?_
        have h := Option.some.inj h; subst h
        exact vr_iret (pc := 49) .int dX8_mirror_49 rfl rfl rfl
      · rw [if_pos c5] at h
        refine vr_iconst (pc := 41) (-1) dX8_mirror_41 ci_m1 ?_
        refine vr_goto (pc := 42) 46 dX8_mirror_42 (by decide) ?_
        obtain ⟨z8, hz9, h⟩ := ob_some h
        refine vr_callV (pc := 46) (ρ1 := (some (.int z8), z1.2)) [.ref (g.1 (rid q0 8)), .int (-1)] dX8_mirror_46 (s_X0_shiftOnto l g (sh_7_7 hq0).2 (sh_7_8 hq0).2 hz9) cw_X0_shiftOnto ml_X8_230 (sh_7_7 hq0).2 rfl (by decide) (by decide) rfl rfl (Nat.le_of_ble_eq_true rfl) ?_
        have h := Option.some.inj h; subst h
        exact vr_iret (pc := 49) .int dX8_mirror_49 rfl rfl rfl
    · rw [if_pos c4] at h
      refine vr_aload_n (pc := 22) 0 dX8_mirror_22 rfl rfl ?_
      refine vr_bipush (pc := 23) (-2) dX8_mirror_23 cb_m2 ?_
      obtain ⟨z10, hz11, h⟩ := ob_some h
      refine vr_callV (pc := 25) (ρ1 := (some (.int z10.1), z10.2)) [.int (-2)] dX8_mirror_25 (s_X8_refuse l g (hq0) hz11) cw_X8_refuse ml_X8_71 hq0 rfl (by decide) (by decide) rfl rfl (Nat.le_of_ble_eq_true rfl) ?_
      have h := Option.some.inj h; subst h
      exact vr_iret (pc := 28) .int dX8_mirror_28 rfl rfl rfl
  · rw [if_pos c3] at h
    refine vr_aload_n (pc := 9) 0 dX8_mirror_9 rfl rfl ?_
    refine vr_iconst (pc := 10) (-1) dX8_mirror_10 ci_m1 ?_
    obtain ⟨z12, hz13, h⟩ := ob_some h
    refine vr_callV (pc := 11) (ρ1 := (some (.int z12.1), z12.2)) [.int (-1)] dX8_mirror_11 (s_X8_refuse l g (hq0) hz13) cw_X8_refuse ml_X8_71 hq0 rfl (by decide) (by decide) rfl rfl (Nat.le_of_ble_eq_true rfl) ?_
    have h := Option.some.inj h; subst h
    exact vr_iret (pc := 14) .int dX8_mirror_14 rfl rfl rfl
theorem dX8_traceTrial_0 : decode cX8_traceTrial 0 = .ok (.aload_n 0, 1) := by decide +kernel
theorem dX8_traceTrial_1 : decode cX8_traceTrial 1 = .ok (.getfield 62, 3) := by decide +kernel
theorem dX8_traceTrial_4 : decode cX8_traceTrial 4 = .ok (.iconst 0, 1) := by decide +kernel
theorem dX8_traceTrial_5 : decode cX8_traceTrial 5 = .ok (.iload_n 1, 1) := by decide +kernel
theorem dX8_traceTrial_6 : decode cX8_traceTrial 6 = .ok (.iconst 0, 1) := by decide +kernel
theorem dX8_traceTrial_7 : decode cX8_traceTrial 7 = .ok (.iconst 0, 1) := by decide +kernel
theorem dX8_traceTrial_8 : decode cX8_traceTrial 8 = .ok (.iconst 1, 1) := by decide +kernel
theorem dX8_traceTrial_9 : decode cX8_traceTrial 9 = .ok (.invokevirtual 303, 3) := by decide +kernel
theorem dX8_traceTrial_12 : decode cX8_traceTrial 12 = .ok (.aload_n 0, 1) := by decide +kernel
theorem dX8_traceTrial_13 : decode cX8_traceTrial 13 = .ok (.getfield 45, 3) := by decide +kernel
theorem dX8_traceTrial_16 : decode cX8_traceTrial 16 = .ok (.aload_n 0, 1) := by decide +kernel
theorem dX8_traceTrial_17 : decode cX8_traceTrial 17 = .ok (.getfield 10, 3) := by decide +kernel
theorem dX8_traceTrial_20 : decode cX8_traceTrial 20 = .ok (.aload_n 0, 1) := by decide +kernel
theorem dX8_traceTrial_21 : decode cX8_traceTrial 21 = .ok (.getfield 62, 3) := by decide +kernel
theorem dX8_traceTrial_24 : decode cX8_traceTrial 24 = .ok (.invokevirtual 184, 3) := by decide +kernel
theorem dX8_traceTrial_27 : decode cX8_traceTrial 27 = .ok (.return_, 1) := by decide +kernel
set_option maxRecDepth 20000 in
set_option maxHeartbeats 4000000 in
theorem s_X8_traceTrial (l : Launch) (g : GG) {q0 : Nat} (hq0 : kd q0 = 7) {a1 : Int32} {σ : SS} {r : SS} (h : f_X8_traceTrial q0 a1 σ = some r) : CT l g 4 yX8_traceTrial cX8_traceTrial 2 none [.ref (g.1 q0), .int a1] σ (none, r) := by
  refine CT.of (lv := [(0, .ref (g.1 q0)), (1, .int a1)]) RX8 (by decide +kernel) rfl (Nat.le_of_ble_eq_true rfl) rfl ?_
  unfold f_X8_traceTrial at h
  refine vr_aload_n (pc := 0) 0 dX8_traceTrial_0 rfl rfl ?_
  refine vr_getR (pc := 1) 10 dX8_traceTrial_1 fi_X8_62 hq0 (sh_7_10 hq0).1 ?_
  refine vr_iconst (pc := 4) 0 dX8_traceTrial_4 ci_0 ?_
  refine vr_iload_n (pc := 5) 1 dX8_traceTrial_5 rfl rfl ?_
  refine vr_iconst (pc := 6) 0 dX8_traceTrial_6 ci_0 ?_
  refine vr_iconst (pc := 7) 0 dX8_traceTrial_7 ci_0 ?_
  refine vr_iconst (pc := 8) 1 dX8_traceTrial_8 ci_1 ?_
  obtain ⟨z1, hz2, h⟩ := ob_some h
  refine vr_callV (pc := 9) (ρ1 := (none, z1)) [.int 0, .int a1, .int 0, .int 0, .int 1] dX8_traceTrial_9 (s_X7_set l g (sh_7_10 hq0).2 hz2) cw_X7_set ml_X8_303 (sh_7_10 hq0).2 rfl (by decide) (by decide) rfl rfl (Nat.le_of_ble_eq_true rfl) ?_
  refine vr_aload_n (pc := 12) 0 dX8_traceTrial_12 rfl rfl ?_
  refine vr_getR (pc := 13) 7 dX8_traceTrial_13 fi_X8_45 hq0 (sh_7_7 hq0).1 ?_
  refine vr_aload_n (pc := 16) 0 dX8_traceTrial_16 rfl rfl ?_
  refine vr_getR (pc := 17) 0 dX8_traceTrial_17 fi_X8_10 hq0 (sh_7_0 hq0).1 ?_
  refine vr_aload_n (pc := 20) 0 dX8_traceTrial_20 rfl rfl ?_
  refine vr_getR (pc := 21) 10 dX8_traceTrial_21 fi_X8_62 hq0 (sh_7_10 hq0).1 ?_
  obtain ⟨z3, hz4, h⟩ := ob_some h
  refine vr_callV (pc := 24) (ρ1 := (none, z3)) [.ref (g.1 (rid q0 0)), .ref (g.1 (rid q0 10))] dX8_traceTrial_24 (s_X0_trace l g (sh_7_7 hq0).2 (sh_7_0 hq0).2 (sh_7_10 hq0).2 hz4) cw_X0_trace ml_X8_184 (sh_7_7 hq0).2 rfl (by decide) (by decide) rfl rfl (Nat.le_of_ble_eq_true rfl) ?_
  have h := Option.some.inj h; subst h
  exact vr_vret (pc := 27) dX8_traceTrial_27 rfl rfl
theorem dX8_full_0 : decode cX8_full 0 = .ok (.iconst 0, 1) := by decide +kernel
theorem dX8_full_1 : decode cX8_full 1 = .ok (.istore_n 1, 1) := by decide +kernel
theorem dX8_full_2 : decode cX8_full 2 = .ok (.iconst 1, 1) := by decide +kernel
theorem dX8_full_3 : decode cX8_full 3 = .ok (.istore_n 2, 1) := by decide +kernel
theorem dX8_full_4 : decode cX8_full 4 = .ok (.iload_n 2, 1) := by decide +kernel
theorem dX8_full_5 : decode cX8_full 5 = .ok (.aload_n 0, 1) := by decide +kernel
theorem dX8_full_6 : decode cX8_full 6 = .ok (.getfield 10, 3) := by decide +kernel
theorem dX8_full_9 : decode cX8_full 9 = .ok (.getfield 105, 3) := by decide +kernel
theorem dX8_full_12 : decode cX8_full 12 = .ok (.if_icmp .ge 34, 3) := by decide +kernel
theorem dX8_full_15 : decode cX8_full 15 = .ok (.aload_n 0, 1) := by decide +kernel
theorem dX8_full_16 : decode cX8_full 16 = .ok (.iload_n 2, 1) := by decide +kernel
theorem dX8_full_17 : decode cX8_full 17 = .ok (.invokevirtual 233, 3) := by decide +kernel
theorem dX8_full_20 : decode cX8_full 20 = .ok (.aload_n 0, 1) := by decide +kernel
theorem dX8_full_21 : decode cX8_full 21 = .ok (.getfield 45, 3) := by decide +kernel
theorem dX8_full_24 : decode cX8_full 24 = .ok (.getfield 191, 3) := by decide +kernel
theorem dX8_full_27 : decode cX8_full 27 = .ok (.aload_n 0, 1) := by decide +kernel
theorem dX8_full_28 : decode cX8_full 28 = .ok (.getfield 10, 3) := by decide +kernel
theorem dX8_full_31 : decode cX8_full 31 = .ok (.getfield 105, 3) := by decide +kernel
theorem dX8_full_34 : decode cX8_full 34 = .ok (.if_icmp .ne 6, 3) := by decide +kernel
theorem dX8_full_37 : decode cX8_full 37 = .ok (.iinc 1 1, 3) := by decide +kernel
theorem dX8_full_40 : decode cX8_full 40 = .ok (.iinc 2 1, 3) := by decide +kernel
theorem dX8_full_43 : decode cX8_full 43 = .ok (.goto (-39), 3) := by decide +kernel
theorem dX8_full_46 : decode cX8_full 46 = .ok (.iload_n 1, 1) := by decide +kernel
theorem dX8_full_47 : decode cX8_full 47 = .ok (.ireturn, 1) := by decide +kernel
set_option maxRecDepth 20000 in
set_option maxHeartbeats 4000000 in
theorem v_X8_full_L4 (l : Launch) (g : GG) {r : Int32 × SS} {κ : Int32 → SS → Option (Int32 × SS)} (hκ : ∀ (y1 : Int32) (τ : SS) , κ y1 τ = some r → VV l g 5 RX8 cX8_full 3 (some .int) (some (.int r.1), r.2) 46 [(1, .int y1)] [] τ) : ∀ (fu : Nat) (q0 : Nat) (x1 : Int32) (x2 : Int32) (hq0 : kd q0 = 7) (σ : SS), f_X8_full_L4 κ fu q0 x1 x2 σ = some r → VV l g 5 RX8 cX8_full 3 (some .int) (some (.int r.1), r.2) 4 [(0, .ref (g.1 q0)), (1, .int x1), (2, .int x2)] [] σ := by
  intro fu
  induction fu with
  | zero => intro q0 x1 x2 hq0 σ h; cases h
  | succ fu ih =>
    intro q0 x1 x2 hq0 σ h
    simp only [f_X8_full_L4] at h
    refine vr_iload_n (pc := 4) 2 dX8_full_4 rfl rfl ?_
    refine vr_aload_n (pc := 5) 0 dX8_full_5 rfl rfl ?_
    refine vr_getR (pc := 6) 0 dX8_full_6 fi_X8_10 hq0 (sh_7_0 hq0).1 ?_
    refine vr_getI (pc := 9) 0 dX8_full_9 fi_X8_105 (sh_7_0 hq0).2 (sh_3_0 (sh_7_0 hq0).2) ?_
    refine vr_icmp_ge (pc := 12) 46 dX8_full_12 (by decide) (fun c1 => ?_) (fun c1 => ?_)
    · rw [if_pos c1] at h
      refine vr_sub [1] [(1, .int x1)] rfl ?_
      exact hκ x1 σ h
    · rw [if_neg c1] at h
      refine vr_aload_n (pc := 15) 0 dX8_full_15 rfl rfl ?_
      refine vr_iload_n (pc := 16) 2 dX8_full_16 rfl rfl ?_
      obtain ⟨z2, hz3, h⟩ := ob_some h
      refine vr_callV (pc := 17) (ρ1 := (none, z2)) [.int x2] dX8_full_17 (s_X8_traceTrial l g (hq0) hz3) cw_X8_traceTrial ml_X8_233 hq0 rfl (by decide) (by decide) rfl rfl (Nat.le_of_ble_eq_true rfl) ?_
      refine vr_aload_n (pc := 20) 0 dX8_full_20 rfl rfl ?_
      refine vr_getR (pc := 21) 7 dX8_full_21 fi_X8_45 hq0 (sh_7_7 hq0).1 ?_
      refine vr_getI (pc := 24) 2 dX8_full_24 fi_X8_191 (sh_7_7 hq0).2 (sh_0_2 (sh_7_7 hq0).2) ?_
      refine vr_aload_n (pc := 27) 0 dX8_full_27 rfl rfl ?_
      refine vr_getR (pc := 28) 0 dX8_full_28 fi_X8_10 hq0 (sh_7_0 hq0).1 ?_
      refine vr_getI (pc := 31) 0 dX8_full_31 fi_X8_105 (sh_7_0 hq0).2 (sh_3_0 (sh_7_0 hq0).2) ?_
      refine vr_icmp_ne (pc := 34) 40 dX8_full_34 (by decide) (fun c4 => ?_) (fun c4 => ?_)
      · rw [if_neg c4] at h
        refine vr_iinc (pc := 40) [(2, .int (x2 + 1)), (0, .ref (g.1 q0)), (1, .int x1)] 2 dX8_full_40 rfl (congrArg (fun z => x2 + z) ci_1) (by decide) rfl ?_
        refine vr_goto (pc := 43) 4 dX8_full_43 (by decide) ?_
        refine vr_sub [1, 2, 0] [(0, .ref (g.1 q0)), (1, .int x1), (2, .int (x2 + 1))] rfl ?_
        exact ih q0 x1 (x2 + 1) (hq0) z2 h
      · rw [if_pos c4] at h
        refine vr_iinc (pc := 37) [(1, .int (x1 + 1)), (0, .ref (g.1 q0)), (2, .int x2)] 1 dX8_full_37 rfl (congrArg (fun z => x1 + z) ci_1) (by decide) rfl ?_
        refine vr_iinc (pc := 40) [(2, .int (x2 + 1)), (1, .int (x1 + 1)), (0, .ref (g.1 q0))] 2 dX8_full_40 rfl (congrArg (fun z => x2 + z) ci_1) (by decide) rfl ?_
        refine vr_goto (pc := 43) 4 dX8_full_43 (by decide) ?_
        refine vr_sub [2, 1, 0] [(0, .ref (g.1 q0)), (1, .int (x1 + 1)), (2, .int (x2 + 1))] rfl ?_
        exact ih q0 (x1 + 1) (x2 + 1) (hq0) z2 h
set_option maxRecDepth 20000 in
set_option maxHeartbeats 4000000 in
theorem s_X8_full (l : Launch) (g : GG) {q0 : Nat} (hq0 : kd q0 = 7) {σ : SS} {r : Int32 × SS} (h : f_X8_full q0 σ = some r) : CT l g 5 yX8_full cX8_full 3 (some .int) [.ref (g.1 q0)] σ (some (.int r.1), r.2) := by
  refine CT.of (lv := [(0, .ref (g.1 q0))]) RX8 (by decide +kernel) rfl (Nat.le_of_ble_eq_true rfl) rfl ?_
  unfold f_X8_full at h
  refine vr_iconst (pc := 0) 0 dX8_full_0 ci_0 ?_
  refine vr_istore_n (pc := 1) [(1, .int 0), (0, .ref (g.1 q0))] dX8_full_1 rfl (by decide) rfl ?_
  refine vr_iconst (pc := 2) 1 dX8_full_2 ci_1 ?_
  refine vr_istore_n (pc := 3) [(2, .int 1), (1, .int 0), (0, .ref (g.1 q0))] dX8_full_3 rfl (by decide) rfl ?_
  refine vr_sub [2, 1, 0] [(0, .ref (g.1 q0)), (1, .int 0), (2, .int 1)] rfl ?_
  refine v_X8_full_L4 l g (fun y1 τ h => ?_) FU q0 0 1 (hq0) σ h
  refine vr_iload_n (pc := 46) 0 dX8_full_46 rfl rfl ?_
  have h := Option.some.inj h; subst h
  exact vr_iret (pc := 47) .int dX8_full_47 rfl rfl rfl
theorem dX8_odds_0 : decode cX8_odds 0 = .ok (.aload_n 0, 1) := by decide +kernel
theorem dX8_odds_1 : decode cX8_odds 1 = .ok (.getfield 10, 3) := by decide +kernel
theorem dX8_odds_4 : decode cX8_odds 4 = .ok (.iload_n 1, 1) := by decide +kernel
theorem dX8_odds_5 : decode cX8_odds 5 = .ok (.invokevirtual 122, 3) := by decide +kernel
theorem dX8_odds_8 : decode cX8_odds 8 = .ok (.astore_n 3, 1) := by decide +kernel
theorem dX8_odds_9 : decode cX8_odds 9 = .ok (.aload_n 3, 1) := by decide +kernel
theorem dX8_odds_10 : decode cX8_odds 10 = .ok (.ifnonnull 9, 3) := by decide +kernel
theorem dX8_odds_13 : decode cX8_odds 13 = .ok (.aload_n 0, 1) := by decide +kernel
theorem dX8_odds_14 : decode cX8_odds 14 = .ok (.iconst (-1), 1) := by decide +kernel
theorem dX8_odds_15 : decode cX8_odds 15 = .ok (.invokevirtual 159, 3) := by decide +kernel
theorem dX8_odds_18 : decode cX8_odds 18 = .ok (.lreturn, 1) := by decide +kernel
theorem dX8_odds_19 : decode cX8_odds 19 = .ok (.iload_n 2, 1) := by decide +kernel
theorem dX8_odds_20 : decode cX8_odds 20 = .ok (.invokestatic 163, 3) := by decide +kernel
theorem dX8_odds_23 : decode cX8_odds 23 = .ok (.ifCond .ne 10, 3) := by decide +kernel
theorem dX8_odds_26 : decode cX8_odds 26 = .ok (.aload_n 0, 1) := by decide +kernel
theorem dX8_odds_27 : decode cX8_odds 27 = .ok (.bipush (-2), 2) := by decide +kernel
theorem dX8_odds_29 : decode cX8_odds 29 = .ok (.invokevirtual 159, 3) := by decide +kernel
theorem dX8_odds_32 : decode cX8_odds 32 = .ok (.lreturn, 1) := by decide +kernel
theorem dX8_odds_33 : decode cX8_odds 33 = .ok (.aload_n 0, 1) := by decide +kernel
theorem dX8_odds_34 : decode cX8_odds 34 = .ok (.getfield 45, 3) := by decide +kernel
theorem dX8_odds_37 : decode cX8_odds 37 = .ok (.aload_n 0, 1) := by decide +kernel
theorem dX8_odds_38 : decode cX8_odds 38 = .ok (.getfield 10, 3) := by decide +kernel
theorem dX8_odds_41 : decode cX8_odds 41 = .ok (.aload_n 3, 1) := by decide +kernel
theorem dX8_odds_42 : decode cX8_odds 42 = .ok (.invokevirtual 184, 3) := by decide +kernel
theorem dX8_odds_45 : decode cX8_odds 45 = .ok (.aload_n 0, 1) := by decide +kernel
theorem dX8_odds_46 : decode cX8_odds 46 = .ok (.getfield 45, 3) := by decide +kernel
theorem dX8_odds_49 : decode cX8_odds 49 = .ok (.getfield 191, 3) := by decide +kernel
theorem dX8_odds_52 : decode cX8_odds 52 = .ok (.aload_n 0, 1) := by decide +kernel
theorem dX8_odds_53 : decode cX8_odds 53 = .ok (.getfield 10, 3) := by decide +kernel
theorem dX8_odds_56 : decode cX8_odds 56 = .ok (.getfield 105, 3) := by decide +kernel
theorem dX8_odds_59 : decode cX8_odds 59 = .ok (.iload_n 2, 1) := by decide +kernel
theorem dX8_odds_60 : decode cX8_odds 60 = .ok (.invokestatic 169, 3) := by decide +kernel
theorem dX8_odds_63 : decode cX8_odds 63 = .ok (.i2l, 1) := by decide +kernel
theorem dX8_odds_64 : decode cX8_odds 64 = .ok (.lreturn, 1) := by decide +kernel
set_option maxRecDepth 20000 in
set_option maxHeartbeats 4000000 in
theorem s_X8_odds (l : Launch) (g : GG) {q0 : Nat} (hq0 : kd q0 = 7) {a1 : Int32} {a2 : Int32} {σ : SS} {r : Int64 × SS} (h : f_X8_odds q0 a1 a2 σ = some r) : CT l g 4 yX8_odds cX8_odds 4 (some .long) [.ref (g.1 q0), .int a1, .int a2] σ (some (.long r.1), r.2) := by
  refine CT.of (lv := [(0, .ref (g.1 q0)), (1, .int a1), (2, .int a2)]) RX8 (by decide +kernel) rfl (Nat.le_of_ble_eq_true rfl) rfl ?_
  unfold f_X8_odds at h
  refine vr_aload_n (pc := 0) 0 dX8_odds_0 rfl rfl ?_
  refine vr_getR (pc := 1) 0 dX8_odds_1 fi_X8_10 hq0 (sh_7_0 hq0).1 ?_
  refine vr_iload_n (pc := 4) 1 dX8_odds_4 rfl rfl ?_
  obtain ⟨z1, hz2, h⟩ := ob_some h
  refine vr_callV (pc := 5) (ρ1 := (some (rvO g z1), σ)) [.int a1] dX8_odds_5 (s_X4_wheelAt l g (sh_7_0 hq0).2 hz2) cw_X4_wheelAt ml_X8_122 (sh_7_0 hq0).2 rfl (by decide) (by decide) rfl rfl (Nat.le_of_ble_eq_true rfl) ?_
  refine vr_astore_nO (pc := 8) [(3, rvO g z1), (0, .ref (g.1 q0)), (1, .int a1), (2, .int a2)] dX8_odds_8 rfl (by decide) rfl ?_
  refine vr_aload_nO (pc := 9) 0 dX8_odds_9 rfl rfl ?_
  refine vr_ifnonnull (pc := 10) 19 dX8_odds_10 (by decide) (fun w3 hw4 => ?_) (fun hn14 => ?_)
  · simp only [hw4] at h
    refine vr_sub [0, 1, 2, 3] [(3, .ref (g.1 w3)), (0, .ref (g.1 q0)), (1, .int a1), (2, .int a2)] (by rw [hw4]; rfl) ?_
    refine vr_iload_n (pc := 19) 3 dX8_odds_19 rfl rfl ?_
    refine vr_callS (pc := 20) (ρ1 := (some (.int (f_X8_isOneOfTwo a2)), σ)) [.int a2] dX8_odds_20 (s_X8_isOneOfTwo l g rfl) cw_X8_isOneOfTwo ml_X8_163 (by decide) rfl rfl (Nat.le_of_ble_eq_true rfl) ?_
    refine vr_if_ne (pc := 23) 33 dX8_odds_23 (by decide) (fun c5 => ?_) (fun c5 => ?_)
    · rw [if_neg c5] at h
      refine vr_aload_n (pc := 33) 1 dX8_odds_33 rfl rfl ?_
      refine vr_getR (pc := 34) 7 dX8_odds_34 fi_X8_45 hq0 (sh_7_7 hq0).1 ?_
      refine vr_aload_n (pc := 37) 1 dX8_odds_37 rfl rfl ?_
      refine vr_getR (pc := 38) 0 dX8_odds_38 fi_X8_10 hq0 (sh_7_0 hq0).1 ?_
      refine vr_aload_n (pc := 41) 0 dX8_odds_41 rfl rfl ?_
      obtain ⟨z6, hz7, h⟩ := ob_some h
      refine vr_callV (pc := 42) (ρ1 := (none, z6)) [.ref (g.1 (rid q0 0)), .ref (g.1 w3)] dX8_odds_42 (s_X0_trace l g (sh_7_7 hq0).2 (sh_7_0 hq0).2 ((kf_X4_wheelAt hz2 (sh_7_0 hq0).2) w3 hw4) hz7) cw_X0_trace ml_X8_184 (sh_7_7 hq0).2 rfl (by decide) (by decide) rfl rfl (Nat.le_of_ble_eq_true rfl) ?_
      refine vr_aload_n (pc := 45) 1 dX8_odds_45 rfl rfl ?_
      refine vr_getR (pc := 46) 7 dX8_odds_46 fi_X8_45 hq0 (sh_7_7 hq0).1 ?_
      refine vr_getI (pc := 49) 2 dX8_odds_49 fi_X8_191 (sh_7_7 hq0).2 (sh_0_2 (sh_7_7 hq0).2) ?_
      refine vr_aload_n (pc := 52) 1 dX8_odds_52 rfl rfl ?_
      refine vr_getR (pc := 53) 0 dX8_odds_53 fi_X8_10 hq0 (sh_7_0 hq0).1 ?_
      refine vr_getI (pc := 56) 0 dX8_odds_56 fi_X8_105 (sh_7_0 hq0).2 (sh_3_0 (sh_7_0 hq0).2) ?_
      refine vr_iload_n (pc := 59) 3 dX8_odds_59 rfl rfl ?_
      obtain ⟨z8, hz9, h⟩ := ob_some h
      refine vr_callS (pc := 60) (ρ1 := (some (.int z8), z6)) [.int (z6.1 (rid q0 7) 2), .int (z6.1 (rid q0 0) 0), .int a2] dX8_odds_60 (s_X2_partOf l g hz9) cw_X2_partOf ml_X8_169 (by decide) rfl rfl (Nat.le_of_ble_eq_true rfl) ?_
      refine vr_i2l (pc := 63) dX8_odds_63 ?_
      have h := Option.some.inj h; subst h
      exact vr_lret (pc := 64) dX8_odds_64 rfl rfl
    · rw [if_pos c5] at h
      refine vr_aload_n (pc := 26) 1 dX8_odds_26 rfl rfl ?_
      refine vr_bipush (pc := 27) (-2) dX8_odds_27 cb_m2 ?_
      obtain ⟨z10, hz11, h⟩ := ob_some h
      refine vr_callV (pc := 29) (ρ1 := (some (.long z10.1), z10.2)) [.int (-2)] dX8_odds_29 (s_X8_refuseLong l g (hq0) hz11) cw_X8_refuseLong ml_X8_159 hq0 rfl (by decide) (by decide) rfl rfl (Nat.le_of_ble_eq_true rfl) ?_
      have h := Option.some.inj h; subst h
      exact vr_lret (pc := 32) dX8_odds_32 rfl rfl
  · simp only [hn14] at h
    refine vr_sub [1, 2, 3] [(0, .ref (g.1 q0)), (1, .int a1), (2, .int a2)] rfl ?_
    refine vr_aload_n (pc := 13) 0 dX8_odds_13 rfl rfl ?_
    refine vr_iconst (pc := 14) (-1) dX8_odds_14 ci_m1 ?_
    obtain ⟨z12, hz13, h⟩ := ob_some h
    refine vr_callV (pc := 15) (ρ1 := (some (.long z12.1), z12.2)) [.int (-1)] dX8_odds_15 (s_X8_refuseLong l g (hq0) hz13) cw_X8_refuseLong ml_X8_159 hq0 rfl (by decide) (by decide) rfl rfl (Nat.le_of_ble_eq_true rfl) ?_
    have h := Option.some.inj h; subst h
    exact vr_lret (pc := 18) dX8_odds_18 rfl rfl
theorem dX8_touch_0 : decode cX8_touch 0 = .ok (.aload_n 0, 1) := by decide +kernel
theorem dX8_touch_1 : decode cX8_touch 1 = .ok (.getfield 10, 3) := by decide +kernel
theorem dX8_touch_4 : decode cX8_touch 4 = .ok (.iload_n 1, 1) := by decide +kernel
theorem dX8_touch_5 : decode cX8_touch 5 = .ok (.invokevirtual 236, 3) := by decide +kernel
theorem dX8_touch_8 : decode cX8_touch 8 = .ok (.ifCond .ne 9, 3) := by decide +kernel
theorem dX8_touch_11 : decode cX8_touch 11 = .ok (.aload_n 0, 1) := by decide +kernel
theorem dX8_touch_12 : decode cX8_touch 12 = .ok (.iconst (-1), 1) := by decide +kernel
theorem dX8_touch_13 : decode cX8_touch 13 = .ok (.invokevirtual 71, 3) := by decide +kernel
theorem dX8_touch_16 : decode cX8_touch 16 = .ok (.ireturn, 1) := by decide +kernel
theorem dX8_touch_17 : decode cX8_touch 17 = .ok (.iload_n 2, 1) := by decide +kernel
theorem dX8_touch_18 : decode cX8_touch 18 = .ok (.ifCond .ge 10, 3) := by decide +kernel
theorem dX8_touch_21 : decode cX8_touch 21 = .ok (.aload_n 0, 1) := by decide +kernel
theorem dX8_touch_22 : decode cX8_touch 22 = .ok (.bipush (-4), 2) := by decide +kernel
theorem dX8_touch_24 : decode cX8_touch 24 = .ok (.invokevirtual 71, 3) := by decide +kernel
theorem dX8_touch_27 : decode cX8_touch 27 = .ok (.ireturn, 1) := by decide +kernel
theorem dX8_touch_28 : decode cX8_touch 28 = .ok (.iload_n 2, 1) := by decide +kernel
theorem dX8_touch_29 : decode cX8_touch 29 = .ok (.bipush 100, 2) := by decide +kernel
theorem dX8_touch_31 : decode cX8_touch 31 = .ok (.if_icmp .lt 10, 3) := by decide +kernel
theorem dX8_touch_34 : decode cX8_touch 34 = .ok (.aload_n 0, 1) := by decide +kernel
theorem dX8_touch_35 : decode cX8_touch 35 = .ok (.bipush (-6), 2) := by decide +kernel
theorem dX8_touch_37 : decode cX8_touch 37 = .ok (.invokevirtual 71, 3) := by decide +kernel
theorem dX8_touch_40 : decode cX8_touch 40 = .ok (.ireturn, 1) := by decide +kernel
theorem dX8_touch_41 : decode cX8_touch 41 = .ok (.iload_n 3, 1) := by decide +kernel
theorem dX8_touch_42 : decode cX8_touch 42 = .ok (.ifCond .lt 8, 3) := by decide +kernel
theorem dX8_touch_45 : decode cX8_touch 45 = .ok (.iload_n 3, 1) := by decide +kernel
theorem dX8_touch_46 : decode cX8_touch 46 = .ok (.iconst 2, 1) := by decide +kernel
theorem dX8_touch_47 : decode cX8_touch 47 = .ok (.if_icmp .le 10, 3) := by decide +kernel
theorem dX8_touch_50 : decode cX8_touch 50 = .ok (.aload_n 0, 1) := by decide +kernel
theorem dX8_touch_51 : decode cX8_touch 51 = .ok (.bipush (-2), 2) := by decide +kernel
theorem dX8_touch_53 : decode cX8_touch 53 = .ok (.invokevirtual 71, 3) := by decide +kernel
theorem dX8_touch_56 : decode cX8_touch 56 = .ok (.ireturn, 1) := by decide +kernel
theorem dX8_touch_57 : decode cX8_touch 57 = .ok (.aload_n 0, 1) := by decide +kernel
theorem dX8_touch_58 : decode cX8_touch 58 = .ok (.getfield 55, 3) := by decide +kernel
theorem dX8_touch_61 : decode cX8_touch 61 = .ok (.aload_n 0, 1) := by decide +kernel
theorem dX8_touch_62 : decode cX8_touch 62 = .ok (.getfield 10, 3) := by decide +kernel
theorem dX8_touch_65 : decode cX8_touch 65 = .ok (.iload_n 1, 1) := by decide +kernel
theorem dX8_touch_66 : decode cX8_touch 66 = .ok (.iload_n 2, 1) := by decide +kernel
theorem dX8_touch_67 : decode cX8_touch 67 = .ok (.iconst 1, 1) := by decide +kernel
theorem dX8_touch_68 : decode cX8_touch 68 = .ok (.iadd, 1) := by decide +kernel
theorem dX8_touch_69 : decode cX8_touch 69 = .ok (.invokevirtual 239, 3) := by decide +kernel
theorem dX8_touch_72 : decode cX8_touch 72 = .ok (.iload_n 3, 1) := by decide +kernel
theorem dX8_touch_73 : decode cX8_touch 73 = .ok (.ifCond .ne 13, 3) := by decide +kernel
theorem dX8_touch_76 : decode cX8_touch 76 = .ok (.aload_n 0, 1) := by decide +kernel
theorem dX8_touch_77 : decode cX8_touch 77 = .ok (.getfield 55, 3) := by decide +kernel
theorem dX8_touch_80 : decode cX8_touch 80 = .ok (.getfield 243, 3) := by decide +kernel
theorem dX8_touch_83 : decode cX8_touch 83 = .ok (.iload_n 2, 1) := by decide +kernel
theorem dX8_touch_84 : decode cX8_touch 84 = .ok (.iaload, 1) := by decide +kernel
theorem dX8_touch_85 : decode cX8_touch 85 = .ok (.ireturn, 1) := by decide +kernel
theorem dX8_touch_86 : decode cX8_touch 86 = .ok (.iload_n 3, 1) := by decide +kernel
theorem dX8_touch_87 : decode cX8_touch 87 = .ok (.iconst 1, 1) := by decide +kernel
theorem dX8_touch_88 : decode cX8_touch 88 = .ok (.if_icmp .ne 15, 3) := by decide +kernel
theorem dX8_touch_91 : decode cX8_touch 91 = .ok (.aload_n 0, 1) := by decide +kernel
theorem dX8_touch_92 : decode cX8_touch 92 = .ok (.getfield 55, 3) := by decide +kernel
theorem dX8_touch_95 : decode cX8_touch 95 = .ok (.getfield 246, 3) := by decide +kernel
theorem dX8_touch_98 : decode cX8_touch 98 = .ok (.iload_n 2, 1) := by decide +kernel
theorem dX8_touch_99 : decode cX8_touch 99 = .ok (.iaload, 1) := by decide +kernel
theorem dX8_touch_100 : decode cX8_touch 100 = .ok (.goto 12, 3) := by decide +kernel
theorem dX8_touch_103 : decode cX8_touch 103 = .ok (.aload_n 0, 1) := by decide +kernel
theorem dX8_touch_104 : decode cX8_touch 104 = .ok (.getfield 55, 3) := by decide +kernel
theorem dX8_touch_107 : decode cX8_touch 107 = .ok (.getfield 249, 3) := by decide +kernel
theorem dX8_touch_110 : decode cX8_touch 110 = .ok (.iload_n 2, 1) := by decide +kernel
theorem dX8_touch_111 : decode cX8_touch 111 = .ok (.iaload, 1) := by decide +kernel
theorem dX8_touch_112 : decode cX8_touch 112 = .ok (.ireturn, 1) := by decide +kernel
set_option maxRecDepth 20000 in
set_option maxHeartbeats 4000000 in
theorem s_X8_touch (l : Launch) (g : GG) {q0 : Nat} (hq0 : kd q0 = 7) {a1 : Int32} {a2 : Int32} {a3 : Int32} {σ : SS} {r : Int32 × SS} (h : f_X8_touch q0 a1 a2 a3 σ = some r) : CT l g 5 yX8_touch cX8_touch 4 (some .int) [.ref (g.1 q0), .int a1, .int a2, .int a3] σ (some (.int r.1), r.2) := by
  refine CT.of (lv := [(0, .ref (g.1 q0)), (1, .int a1), (2, .int a2), (3, .int a3)]) RX8 (by decide +kernel) rfl (Nat.le_of_ble_eq_true rfl) rfl ?_
  unfold f_X8_touch at h
  refine vr_aload_n (pc := 0) 0 dX8_touch_0 rfl rfl ?_
  refine vr_getR (pc := 1) 0 dX8_touch_1 fi_X8_10 hq0 (sh_7_0 hq0).1 ?_
  refine vr_iload_n (pc := 4) 1 dX8_touch_4 rfl rfl ?_
  refine vr_callV (pc := 5) (ρ1 := (some (.int (f_X4_isSet (rid q0 0) a1 σ)), σ)) [.int a1] dX8_touch_5 (s_X4_isSet l g (sh_7_0 hq0).2 rfl) cw_X4_isSet ml_X8_236 (sh_7_0 hq0).2 rfl (by decide) (by decide) rfl rfl (Nat.le_of_ble_eq_true rfl) ?_
  refine vr_if_ne (pc := 8) 17 dX8_touch_8 (by decide) (fun c1 => ?_) (fun c1 => ?_)
  · rw [if_neg c1] at h
    refine vr_iload_n (pc := 17) 2 dX8_touch_17 rfl rfl ?_
    refine vr_if_ge (pc := 18) 28 dX8_touch_18 (by decide) (fun c2 => ?_) (fun c2 => ?_)
    · rw [if_pos c2] at h
      refine vr_iload_n (pc := 28) 2 dX8_touch_28 rfl rfl ?_
      refine vr_bipush (pc := 29) 100 dX8_touch_29 cb_100 ?_
      refine vr_icmp_lt (pc := 31) 41 dX8_touch_31 (by decide) (fun c3 => ?_) (fun c3 => ?_)
      · rw [if_pos c3] at h
        refine vr_iload_n (pc := 41) 3 dX8_touch_41 rfl rfl ?_
        refine vr_if_lt (pc := 42) 50 dX8_touch_42 (by decide) (fun c4 => ?_) (fun c4 => ?_)
        · rw [if_pos c4] at h
          refine vr_aload_n (pc := 50) 0 dX8_touch_50 rfl rfl ?_
          refine vr_bipush (pc := 51) (-2) dX8_touch_51 cb_m2 ?_
          obtain ⟨z5, hz6, h⟩ := ob_some h
          refine vr_callV (pc := 53) (ρ1 := (some (.int z5.1), z5.2)) [.int (-2)] dX8_touch_53 (s_X8_refuse l g (hq0) hz6) cw_X8_refuse ml_X8_71 hq0 rfl (by decide) (by decide) rfl rfl (Nat.le_of_ble_eq_true rfl) ?_
          have h := Option.some.inj h; subst h
          exact vr_iret (pc := 56) .int dX8_touch_56 rfl rfl rfl
        · rw [if_neg c4] at h
          refine vr_iload_n (pc := 45) 3 dX8_touch_45 rfl rfl ?_
          refine vr_iconst (pc := 46) 2 dX8_touch_46 ci_2 ?_
          refine vr_icmp_le (pc := 47) 57 dX8_touch_47 (by decide) (fun c7 => ?_) (fun c7 => ?_)
          · rw [if_pos c7] at h
            refine vr_aload_n (pc := 57) 0 dX8_touch_57 rfl rfl ?_
            refine vr_getR (pc := 58) 9 dX8_touch_58 fi_X8_55 hq0 (sh_7_9 hq0).1 ?_
            refine vr_aload_n (pc := 61) 0 dX8_touch_61 rfl rfl ?_
            refine vr_getR (pc := 62) 0 dX8_touch_62 fi_X8_10 hq0 (sh_7_0 hq0).1 ?_
            refine vr_iload_n (pc := 65) 1 dX8_touch_65 rfl rfl ?_
            refine vr_iload_n (pc := 66) 2 dX8_touch_66 rfl rfl ?_
            refine vr_iconst (pc := 67) 1 dX8_touch_67 ci_1 ?_
            refine vr_iadd (pc := 68) dX8_touch_68 ?_
            obtain ⟨z8, hz9, h⟩ := ob_some h
            refine vr_callV (pc := 69) (ρ1 := (none, z8)) [.ref (g.1 (rid q0 0)), .int a1, .int (a2 + 1)] dX8_touch_69 (s_X6_follow l g (sh_7_9 hq0).2 (sh_7_0 hq0).2 hz9) cw_X6_follow ml_X8_239 (sh_7_9 hq0).2 rfl (by decide) (by decide) rfl rfl (Nat.le_of_ble_eq_true rfl) ?_
            refine vr_iload_n (pc := 72) 3 dX8_touch_72 rfl rfl ?_
            refine vr_if_ne (pc := 73) 86 dX8_touch_73 (by decide) (fun c10 => ?_) (fun c10 => ?_)
            · rw [if_neg c10] at h
              refine vr_iload_n (pc := 86) 3 dX8_touch_86 rfl rfl ?_
              refine vr_iconst (pc := 87) 1 dX8_touch_87 ci_1 ?_
              refine vr_icmp_ne (pc := 88) 103 dX8_touch_88 (by decide) (fun c11 => ?_) (fun c11 => ?_)
              · rw [if_neg c11] at h
                refine vr_aload_n (pc := 103) 0 dX8_touch_103 rfl rfl ?_
                refine vr_getR (pc := 104) 9 dX8_touch_104 fi_X8_55 hq0 (sh_7_9 hq0).1 ?_
                refine vr_getR (pc := 107) 4 dX8_touch_107 fi_X8_249 (sh_7_9 hq0).2 (sh_5_4 (sh_7_9 hq0).2).1 ?_
                refine vr_iload_n (pc := 110) 2 dX8_touch_110 rfl rfl ?_
                obtain ⟨hc12, h⟩ := ck_some h
                refine vr_iald (pc := 111) dX8_touch_111 (sh_5_4 (sh_7_9 hq0).2).2 hc12 ?_
                have h := Option.some.inj h; subst h
                exact vr_iret (pc := 112) .int dX8_touch_112 rfl rfl rfl
              · rw [if_pos c11] at h
                refine vr_aload_n (pc := 91) 0 dX8_touch_91 rfl rfl ?_
                refine vr_getR (pc := 92) 9 dX8_touch_92 fi_X8_55 hq0 (sh_7_9 hq0).1 ?_
                refine vr_getR (pc := 95) 3 dX8_touch_95 fi_X8_246 (sh_7_9 hq0).2 (sh_5_3 (sh_7_9 hq0).2).1 ?_
                refine vr_iload_n (pc := 98) 2 dX8_touch_98 rfl rfl ?_
                obtain ⟨hc13, h⟩ := ck_some h
                refine vr_iald (pc := 99) dX8_touch_99 (sh_5_3 (sh_7_9 hq0).2).2 hc13 ?_
                refine vr_goto (pc := 100) 112 dX8_touch_100 (by decide) ?_
                have h := Option.some.inj h; subst h
                exact vr_iret (pc := 112) .int dX8_touch_112 rfl rfl rfl
            · rw [if_pos c10] at h
              refine vr_aload_n (pc := 76) 0 dX8_touch_76 rfl rfl ?_
              refine vr_getR (pc := 77) 9 dX8_touch_77 fi_X8_55 hq0 (sh_7_9 hq0).1 ?_
              refine vr_getR (pc := 80) 2 dX8_touch_80 fi_X8_243 (sh_7_9 hq0).2 (sh_5_2 (sh_7_9 hq0).2).1 ?_
              refine vr_iload_n (pc := 83) 2 dX8_touch_83 rfl rfl ?_
              obtain ⟨hc14, h⟩ := ck_some h
              refine vr_iald (pc := 84) dX8_touch_84 (sh_5_2 (sh_7_9 hq0).2).2 hc14 ?_
              have h := Option.some.inj h; subst h
              exact vr_iret (pc := 85) .int dX8_touch_85 rfl rfl rfl
          · rw [if_neg c7] at h
            refine vr_aload_n (pc := 50) 0 dX8_touch_50 rfl rfl ?_
            refine vr_bipush (pc := 51) (-2) dX8_touch_51 cb_m2 ?_
            obtain ⟨z15, hz16, h⟩ := ob_some h
            refine vr_callV (pc := 53) (ρ1 := (some (.int z15.1), z15.2)) [.int (-2)] dX8_touch_53 (s_X8_refuse l g (hq0) hz16) cw_X8_refuse ml_X8_71 hq0 rfl (by decide) (by decide) rfl rfl (Nat.le_of_ble_eq_true rfl) ?_
            have h := Option.some.inj h; subst h
            exact vr_iret (pc := 56) .int dX8_touch_56 rfl rfl rfl
      · rw [if_neg c3] at h
        refine vr_aload_n (pc := 34) 0 dX8_touch_34 rfl rfl ?_
        refine vr_bipush (pc := 35) (-6) dX8_touch_35 cb_m6 ?_
        obtain ⟨z17, hz18, h⟩ := ob_some h
        refine vr_callV (pc := 37) (ρ1 := (some (.int z17.1), z17.2)) [.int (-6)] dX8_touch_37 (s_X8_refuse l g (hq0) hz18) cw_X8_refuse ml_X8_71 hq0 rfl (by decide) (by decide) rfl rfl (Nat.le_of_ble_eq_true rfl) ?_
        have h := Option.some.inj h; subst h
        exact vr_iret (pc := 40) .int dX8_touch_40 rfl rfl rfl
    · rw [if_neg c2] at h
      refine vr_aload_n (pc := 21) 0 dX8_touch_21 rfl rfl ?_
      refine vr_bipush (pc := 22) (-4) dX8_touch_22 cb_m4 ?_
      obtain ⟨z19, hz20, h⟩ := ob_some h
      refine vr_callV (pc := 24) (ρ1 := (some (.int z19.1), z19.2)) [.int (-4)] dX8_touch_24 (s_X8_refuse l g (hq0) hz20) cw_X8_refuse ml_X8_71 hq0 rfl (by decide) (by decide) rfl rfl (Nat.le_of_ble_eq_true rfl) ?_
      have h := Option.some.inj h; subst h
      exact vr_iret (pc := 27) .int dX8_touch_27 rfl rfl rfl
  · rw [if_pos c1] at h
    refine vr_aload_n (pc := 11) 0 dX8_touch_11 rfl rfl ?_
    refine vr_iconst (pc := 12) (-1) dX8_touch_12 ci_m1 ?_
    obtain ⟨z21, hz22, h⟩ := ob_some h
    refine vr_callV (pc := 13) (ρ1 := (some (.int z21.1), z21.2)) [.int (-1)] dX8_touch_13 (s_X8_refuse l g (hq0) hz22) cw_X8_refuse ml_X8_71 hq0 rfl (by decide) (by decide) rfl rfl (Nat.le_of_ble_eq_true rfl) ?_
    have h := Option.some.inj h; subst h
    exact vr_iret (pc := 16) .int dX8_touch_16 rfl rfl rfl
theorem dX8_meet_0 : decode cX8_meet 0 = .ok (.aload_n 0, 1) := by decide +kernel
theorem dX8_meet_1 : decode cX8_meet 1 = .ok (.getfield 10, 3) := by decide +kernel
theorem dX8_meet_4 : decode cX8_meet 4 = .ok (.iload_n 1, 1) := by decide +kernel
theorem dX8_meet_5 : decode cX8_meet 5 = .ok (.invokevirtual 236, 3) := by decide +kernel
theorem dX8_meet_8 : decode cX8_meet 8 = .ok (.ifCond .ne 9, 3) := by decide +kernel
theorem dX8_meet_11 : decode cX8_meet 11 = .ok (.aload_n 0, 1) := by decide +kernel
theorem dX8_meet_12 : decode cX8_meet 12 = .ok (.iconst (-1), 1) := by decide +kernel
theorem dX8_meet_13 : decode cX8_meet 13 = .ok (.invokevirtual 71, 3) := by decide +kernel
theorem dX8_meet_16 : decode cX8_meet 16 = .ok (.ireturn, 1) := by decide +kernel
theorem dX8_meet_17 : decode cX8_meet 17 = .ok (.iload_n 2, 1) := by decide +kernel
theorem dX8_meet_18 : decode cX8_meet 18 = .ok (.invokestatic 163, 3) := by decide +kernel
theorem dX8_meet_21 : decode cX8_meet 21 = .ok (.ifCond .ne 10, 3) := by decide +kernel
theorem dX8_meet_24 : decode cX8_meet 24 = .ok (.aload_n 0, 1) := by decide +kernel
theorem dX8_meet_25 : decode cX8_meet 25 = .ok (.bipush (-2), 2) := by decide +kernel
theorem dX8_meet_27 : decode cX8_meet 27 = .ok (.invokevirtual 71, 3) := by decide +kernel
theorem dX8_meet_30 : decode cX8_meet 30 = .ok (.ireturn, 1) := by decide +kernel
theorem dX8_meet_31 : decode cX8_meet 31 = .ok (.aload_n 0, 1) := by decide +kernel
theorem dX8_meet_32 : decode cX8_meet 32 = .ok (.getfield 55, 3) := by decide +kernel
theorem dX8_meet_35 : decode cX8_meet 35 = .ok (.aload_n 0, 1) := by decide +kernel
theorem dX8_meet_36 : decode cX8_meet 36 = .ok (.getfield 10, 3) := by decide +kernel
theorem dX8_meet_39 : decode cX8_meet 39 = .ok (.invokevirtual 252, 3) := by decide +kernel
theorem dX8_meet_42 : decode cX8_meet 42 = .ok (.iconst 1, 1) := by decide +kernel
theorem dX8_meet_43 : decode cX8_meet 43 = .ok (.istore_n 3, 1) := by decide +kernel
theorem dX8_meet_44 : decode cX8_meet 44 = .ok (.iload_n 3, 1) := by decide +kernel
theorem dX8_meet_45 : decode cX8_meet 45 = .ok (.sipush 200, 3) := by decide +kernel
theorem dX8_meet_48 : decode cX8_meet 48 = .ok (.if_icmp .gt 49, 3) := by decide +kernel
theorem dX8_meet_51 : decode cX8_meet 51 = .ok (.aload_n 0, 1) := by decide +kernel
theorem dX8_meet_52 : decode cX8_meet 52 = .ok (.getfield 55, 3) := by decide +kernel
theorem dX8_meet_55 : decode cX8_meet 55 = .ok (.aload_n 0, 1) := by decide +kernel
theorem dX8_meet_56 : decode cX8_meet 56 = .ok (.getfield 10, 3) := by decide +kernel
theorem dX8_meet_59 : decode cX8_meet 59 = .ok (.iload_n 1, 1) := by decide +kernel
theorem dX8_meet_60 : decode cX8_meet 60 = .ok (.iload_n 3, 1) := by decide +kernel
theorem dX8_meet_61 : decode cX8_meet 61 = .ok (.invokevirtual 255, 3) := by decide +kernel
theorem dX8_meet_64 : decode cX8_meet 64 = .ok (.aload_n 0, 1) := by decide +kernel
theorem dX8_meet_65 : decode cX8_meet 65 = .ok (.getfield 55, 3) := by decide +kernel
theorem dX8_meet_68 : decode cX8_meet 68 = .ok (.invokevirtual 258, 3) := by decide +kernel
theorem dX8_meet_71 : decode cX8_meet 71 = .ok (.istore 4, 2) := by decide +kernel
theorem dX8_meet_73 : decode cX8_meet 73 = .ok (.iload 4, 2) := by decide +kernel
theorem dX8_meet_75 : decode cX8_meet 75 = .ok (.bipush (-9), 2) := by decide +kernel
theorem dX8_meet_77 : decode cX8_meet 77 = .ok (.if_icmp .eq 14, 3) := by decide +kernel
theorem dX8_meet_80 : decode cX8_meet 80 = .ok (.iload_n 2, 1) := by decide +kernel
theorem dX8_meet_81 : decode cX8_meet 81 = .ok (.ifCond .ne 7, 3) := by decide +kernel
theorem dX8_meet_84 : decode cX8_meet 84 = .ok (.iload_n 3, 1) := by decide +kernel
theorem dX8_meet_85 : decode cX8_meet 85 = .ok (.goto 5, 3) := by decide +kernel
theorem dX8_meet_88 : decode cX8_meet 88 = .ok (.iload 4, 2) := by decide +kernel
theorem dX8_meet_90 : decode cX8_meet 90 = .ok (.ireturn, 1) := by decide +kernel
theorem dX8_meet_91 : decode cX8_meet 91 = .ok (.iinc 3 1, 3) := by decide +kernel
theorem dX8_meet_94 : decode cX8_meet 94 = .ok (.goto (-50), 3) := by decide +kernel
theorem dX8_meet_97 : decode cX8_meet 97 = .ok (.bipush (-9), 2) := by decide +kernel
theorem dX8_meet_99 : decode cX8_meet 99 = .ok (.ireturn, 1) := by decide +kernel
set_option maxRecDepth 20000 in
set_option maxHeartbeats 4000000 in
theorem v_X8_meet_L44 (l : Launch) (g : GG) {r : Int32 × SS} {κ : SS → Option (Int32 × SS)} (hκ : ∀ (τ : SS) , κ  τ = some r → VV l g 4 RX8 cX8_meet 5 (some .int) (some (.int r.1), r.2) 97 [] [] τ) : ∀ (fu : Nat) (q0 : Nat) (x1 : Int32) (x2 : Int32) (x3 : Int32) (hq0 : kd q0 = 7) (σ : SS), f_X8_meet_L44 κ fu q0 x1 x2 x3 σ = some r → VV l g 4 RX8 cX8_meet 5 (some .int) (some (.int r.1), r.2) 44 [(0, .ref (g.1 q0)), (1, .int x1), (2, .int x2), (3, .int x3)] [] σ := by
  intro fu
  induction fu with
  | zero => intro q0 x1 x2 x3 hq0 σ h; cases h
  | succ fu ih =>
    intro q0 x1 x2 x3 hq0 σ h
    simp only [f_X8_meet_L44] at h
    refine vr_iload_n (pc := 44) 3 dX8_meet_44 rfl rfl ?_
    refine vr_sipush (pc := 45) 200 dX8_meet_45 cs_200 ?_
    refine vr_icmp_gt (pc := 48) 97 dX8_meet_48 (by decide) (fun c5 => ?_) (fun c5 => ?_)
    · rw [if_pos c5] at h
      refine vr_sub [] [] rfl ?_
      exact hκ σ h
    · rw [if_neg c5] at h
      refine vr_aload_n (pc := 51) 0 dX8_meet_51 rfl rfl ?_
      refine vr_getR (pc := 52) 9 dX8_meet_52 fi_X8_55 hq0 (sh_7_9 hq0).1 ?_
      refine vr_aload_n (pc := 55) 0 dX8_meet_55 rfl rfl ?_
      refine vr_getR (pc := 56) 0 dX8_meet_56 fi_X8_10 hq0 (sh_7_0 hq0).1 ?_
      refine vr_iload_n (pc := 59) 1 dX8_meet_59 rfl rfl ?_
      refine vr_iload_n (pc := 60) 3 dX8_meet_60 rfl rfl ?_
      obtain ⟨z6, hz7, h⟩ := ob_some h
      refine vr_callV (pc := 61) (ρ1 := (none, z6)) [.ref (g.1 (rid q0 0)), .int x1, .int x3] dX8_meet_61 (s_X6_passTick l g (sh_7_9 hq0).2 (sh_7_0 hq0).2 hz7) cw_X6_passTick ml_X8_255 (sh_7_9 hq0).2 rfl (by decide) (by decide) rfl rfl (Nat.le_of_ble_eq_true rfl) ?_
      refine vr_aload_n (pc := 64) 0 dX8_meet_64 rfl rfl ?_
      refine vr_getR (pc := 65) 9 dX8_meet_65 fi_X8_55 hq0 (sh_7_9 hq0).1 ?_
      obtain ⟨z8, hz9, h⟩ := ob_some h
      refine vr_callV (pc := 68) (ρ1 := (some (.int z8), z6)) [] dX8_meet_68 (s_X6_meetingTooth l g (sh_7_9 hq0).2 hz9) cw_X6_meetingTooth ml_X8_258 (sh_7_9 hq0).2 rfl (by decide) (by decide) rfl rfl (Nat.le_of_ble_eq_true rfl) ?_
      refine vr_istore (pc := 71) [(4, .int z8), (0, .ref (g.1 q0)), (1, .int x1), (2, .int x2), (3, .int x3)] dX8_meet_71 (by decide) rfl ?_
      refine vr_iload (pc := 73) 0 dX8_meet_73 rfl ?_
      refine vr_bipush (pc := 75) (-9) dX8_meet_75 cb_m9 ?_
      refine vr_icmp_eq (pc := 77) 91 dX8_meet_77 (by decide) (fun c10 => ?_) (fun c10 => ?_)
      · rw [if_pos c10] at h
        refine vr_iinc (pc := 91) [(3, .int (x3 + 1)), (4, .int z8), (0, .ref (g.1 q0)), (1, .int x1), (2, .int x2)] 4 dX8_meet_91 rfl (congrArg (fun z => x3 + z) ci_1) (by decide) rfl ?_
        refine vr_goto (pc := 94) 44 dX8_meet_94 (by decide) ?_
        refine vr_sub [2, 3, 4, 0] [(0, .ref (g.1 q0)), (1, .int x1), (2, .int x2), (3, .int (x3 + 1))] rfl ?_
        exact ih q0 x1 x2 (x3 + 1) (hq0) z6 h
      · rw [if_neg c10] at h
        refine vr_iload_n (pc := 80) 3 dX8_meet_80 rfl rfl ?_
        refine vr_if_ne (pc := 81) 88 dX8_meet_81 (by decide) (fun c11 => ?_) (fun c11 => ?_)
        · rw [if_neg c11] at h
          refine vr_iload (pc := 88) 0 dX8_meet_88 rfl ?_
          have h := Option.some.inj h; subst h
          exact vr_iret (pc := 90) .int dX8_meet_90 rfl rfl rfl
        · rw [if_pos c11] at h
          refine vr_iload_n (pc := 84) 4 dX8_meet_84 rfl rfl ?_
          refine vr_goto (pc := 85) 90 dX8_meet_85 (by decide) ?_
          have h := Option.some.inj h; subst h
          exact vr_iret (pc := 90) .int dX8_meet_90 rfl rfl rfl
set_option maxRecDepth 20000 in
set_option maxHeartbeats 4000000 in
theorem s_X8_meet (l : Launch) (g : GG) {q0 : Nat} (hq0 : kd q0 = 7) {a1 : Int32} {a2 : Int32} {σ : SS} {r : Int32 × SS} (h : f_X8_meet q0 a1 a2 σ = some r) : CT l g 4 yX8_meet cX8_meet 5 (some .int) [.ref (g.1 q0), .int a1, .int a2] σ (some (.int r.1), r.2) := by
  refine CT.of (lv := [(0, .ref (g.1 q0)), (1, .int a1), (2, .int a2)]) RX8 (by decide +kernel) rfl (Nat.le_of_ble_eq_true rfl) rfl ?_
  unfold f_X8_meet at h
  refine vr_aload_n (pc := 0) 0 dX8_meet_0 rfl rfl ?_
  refine vr_getR (pc := 1) 0 dX8_meet_1 fi_X8_10 hq0 (sh_7_0 hq0).1 ?_
  refine vr_iload_n (pc := 4) 1 dX8_meet_4 rfl rfl ?_
  refine vr_callV (pc := 5) (ρ1 := (some (.int (f_X4_isSet (rid q0 0) a1 σ)), σ)) [.int a1] dX8_meet_5 (s_X4_isSet l g (sh_7_0 hq0).2 rfl) cw_X4_isSet ml_X8_236 (sh_7_0 hq0).2 rfl (by decide) (by decide) rfl rfl (Nat.le_of_ble_eq_true rfl) ?_
  refine vr_if_ne (pc := 8) 17 dX8_meet_8 (by decide) (fun c1 => ?_) (fun c1 => ?_)
  · rw [if_neg c1] at h
    refine vr_iload_n (pc := 17) 2 dX8_meet_17 rfl rfl ?_
    refine vr_callS (pc := 18) (ρ1 := (some (.int (f_X8_isOneOfTwo a2)), σ)) [.int a2] dX8_meet_18 (s_X8_isOneOfTwo l g rfl) cw_X8_isOneOfTwo ml_X8_163 (by decide) rfl rfl (Nat.le_of_ble_eq_true rfl) ?_
    refine vr_if_ne (pc := 21) 31 dX8_meet_21 (by decide) (fun c2 => ?_) (fun c2 => ?_)
    · rw [if_neg c2] at h
      refine vr_aload_n (pc := 31) 0 dX8_meet_31 rfl rfl ?_
      refine vr_getR (pc := 32) 9 dX8_meet_32 fi_X8_55 hq0 (sh_7_9 hq0).1 ?_
      refine vr_aload_n (pc := 35) 0 dX8_meet_35 rfl rfl ?_
      refine vr_getR (pc := 36) 0 dX8_meet_36 fi_X8_10 hq0 (sh_7_0 hq0).1 ?_
      obtain ⟨z3, hz4, h⟩ := ob_some h
      refine vr_callV (pc := 39) (ρ1 := (none, z3)) [.ref (g.1 (rid q0 0))] dX8_meet_39 (s_X6_begin l g (sh_7_9 hq0).2 (sh_7_0 hq0).2 hz4) cw_X6_begin ml_X8_252 (sh_7_9 hq0).2 rfl (by decide) (by decide) rfl rfl (Nat.le_of_ble_eq_true rfl) ?_
      refine vr_iconst (pc := 42) 1 dX8_meet_42 ci_1 ?_
      refine vr_istore_n (pc := 43) [(3, .int 1), (0, .ref (g.1 q0)), (1, .int a1), (2, .int a2)] dX8_meet_43 rfl (by decide) rfl ?_
      refine vr_sub [1, 2, 3, 0] [(0, .ref (g.1 q0)), (1, .int a1), (2, .int a2), (3, .int 1)] rfl ?_
      refine v_X8_meet_L44 l g (fun τ h => ?_) FU q0 a1 a2 1 (hq0) z3 h
      refine vr_bipush (pc := 97) (-9) dX8_meet_97 cb_m9 ?_
      have h := Option.some.inj h; subst h
      exact vr_iret (pc := 99) .int dX8_meet_99 rfl rfl rfl
    · rw [if_pos c2] at h
      refine vr_aload_n (pc := 24) 0 dX8_meet_24 rfl rfl ?_
      refine vr_bipush (pc := 25) (-2) dX8_meet_25 cb_m2 ?_
      obtain ⟨z12, hz13, h⟩ := ob_some h
      refine vr_callV (pc := 27) (ρ1 := (some (.int z12.1), z12.2)) [.int (-2)] dX8_meet_27 (s_X8_refuse l g (hq0) hz13) cw_X8_refuse ml_X8_71 hq0 rfl (by decide) (by decide) rfl rfl (Nat.le_of_ble_eq_true rfl) ?_
      have h := Option.some.inj h; subst h
      exact vr_iret (pc := 30) .int dX8_meet_30 rfl rfl rfl
  · rw [if_pos c1] at h
    refine vr_aload_n (pc := 11) 0 dX8_meet_11 rfl rfl ?_
    refine vr_iconst (pc := 12) (-1) dX8_meet_12 ci_m1 ?_
    obtain ⟨z14, hz15, h⟩ := ob_some h
    refine vr_callV (pc := 13) (ρ1 := (some (.int z14.1), z14.2)) [.int (-1)] dX8_meet_13 (s_X8_refuse l g (hq0) hz15) cw_X8_refuse ml_X8_71 hq0 rfl (by decide) (by decide) rfl rfl (Nat.le_of_ble_eq_true rfl) ?_
    have h := Option.some.inj h; subst h
    exact vr_iret (pc := 16) .int dX8_meet_16 rfl rfl rfl
theorem dX8_crowd_0 : decode cX8_crowd 0 = .ok (.aload_n 0, 1) := by decide +kernel
theorem dX8_crowd_1 : decode cX8_crowd 1 = .ok (.getfield 10, 3) := by decide +kernel
theorem dX8_crowd_4 : decode cX8_crowd 4 = .ok (.iload_n 1, 1) := by decide +kernel
theorem dX8_crowd_5 : decode cX8_crowd 5 = .ok (.invokevirtual 236, 3) := by decide +kernel
theorem dX8_crowd_8 : decode cX8_crowd 8 = .ok (.ifCond .ne 9, 3) := by decide +kernel
theorem dX8_crowd_11 : decode cX8_crowd 11 = .ok (.aload_n 0, 1) := by decide +kernel
theorem dX8_crowd_12 : decode cX8_crowd 12 = .ok (.iconst (-1), 1) := by decide +kernel
theorem dX8_crowd_13 : decode cX8_crowd 13 = .ok (.invokevirtual 71, 3) := by decide +kernel
theorem dX8_crowd_16 : decode cX8_crowd 16 = .ok (.ireturn, 1) := by decide +kernel
theorem dX8_crowd_17 : decode cX8_crowd 17 = .ok (.iload_n 2, 1) := by decide +kernel
theorem dX8_crowd_18 : decode cX8_crowd 18 = .ok (.ifCond .ge 10, 3) := by decide +kernel
theorem dX8_crowd_21 : decode cX8_crowd 21 = .ok (.aload_n 0, 1) := by decide +kernel
theorem dX8_crowd_22 : decode cX8_crowd 22 = .ok (.bipush (-4), 2) := by decide +kernel
theorem dX8_crowd_24 : decode cX8_crowd 24 = .ok (.invokevirtual 71, 3) := by decide +kernel
theorem dX8_crowd_27 : decode cX8_crowd 27 = .ok (.ireturn, 1) := by decide +kernel
theorem dX8_crowd_28 : decode cX8_crowd 28 = .ok (.iload_n 2, 1) := by decide +kernel
theorem dX8_crowd_29 : decode cX8_crowd 29 = .ok (.bipush 100, 2) := by decide +kernel
theorem dX8_crowd_31 : decode cX8_crowd 31 = .ok (.if_icmp .le 10, 3) := by decide +kernel
theorem dX8_crowd_34 : decode cX8_crowd 34 = .ok (.aload_n 0, 1) := by decide +kernel
theorem dX8_crowd_35 : decode cX8_crowd 35 = .ok (.bipush (-6), 2) := by decide +kernel
theorem dX8_crowd_37 : decode cX8_crowd 37 = .ok (.invokevirtual 71, 3) := by decide +kernel
theorem dX8_crowd_40 : decode cX8_crowd 40 = .ok (.ireturn, 1) := by decide +kernel
theorem dX8_crowd_41 : decode cX8_crowd 41 = .ok (.iload_n 3, 1) := by decide +kernel
theorem dX8_crowd_42 : decode cX8_crowd 42 = .ok (.ifCond .lt 8, 3) := by decide +kernel
theorem dX8_crowd_45 : decode cX8_crowd 45 = .ok (.iload_n 3, 1) := by decide +kernel
theorem dX8_crowd_46 : decode cX8_crowd 46 = .ok (.iconst 2, 1) := by decide +kernel
theorem dX8_crowd_47 : decode cX8_crowd 47 = .ok (.if_icmp .le 10, 3) := by decide +kernel
theorem dX8_crowd_50 : decode cX8_crowd 50 = .ok (.aload_n 0, 1) := by decide +kernel
theorem dX8_crowd_51 : decode cX8_crowd 51 = .ok (.bipush (-2), 2) := by decide +kernel
theorem dX8_crowd_53 : decode cX8_crowd 53 = .ok (.invokevirtual 71, 3) := by decide +kernel
theorem dX8_crowd_56 : decode cX8_crowd 56 = .ok (.ireturn, 1) := by decide +kernel
theorem dX8_crowd_57 : decode cX8_crowd 57 = .ok (.aload_n 0, 1) := by decide +kernel
theorem dX8_crowd_58 : decode cX8_crowd 58 = .ok (.getfield 55, 3) := by decide +kernel
theorem dX8_crowd_61 : decode cX8_crowd 61 = .ok (.aload_n 0, 1) := by decide +kernel
theorem dX8_crowd_62 : decode cX8_crowd 62 = .ok (.getfield 10, 3) := by decide +kernel
theorem dX8_crowd_65 : decode cX8_crowd 65 = .ok (.iload_n 1, 1) := by decide +kernel
theorem dX8_crowd_66 : decode cX8_crowd 66 = .ok (.iload_n 2, 1) := by decide +kernel
theorem dX8_crowd_67 : decode cX8_crowd 67 = .ok (.invokevirtual 239, 3) := by decide +kernel
theorem dX8_crowd_70 : decode cX8_crowd 70 = .ok (.aload_n 0, 1) := by decide +kernel
theorem dX8_crowd_71 : decode cX8_crowd 71 = .ok (.getfield 55, 3) := by decide +kernel
theorem dX8_crowd_74 : decode cX8_crowd 74 = .ok (.iload_n 2, 1) := by decide +kernel
theorem dX8_crowd_75 : decode cX8_crowd 75 = .ok (.invokevirtual 261, 3) := by decide +kernel
theorem dX8_crowd_78 : decode cX8_crowd 78 = .ok (.iload_n 3, 1) := by decide +kernel
theorem dX8_crowd_79 : decode cX8_crowd 79 = .ok (.iconst 2, 1) := by decide +kernel
theorem dX8_crowd_80 : decode cX8_crowd 80 = .ok (.if_icmp .ne 22, 3) := by decide +kernel
theorem dX8_crowd_83 : decode cX8_crowd 83 = .ok (.iconst 1, 1) := by decide +kernel
theorem dX8_crowd_84 : decode cX8_crowd 84 = .ok (.aload_n 0, 1) := by decide +kernel
theorem dX8_crowd_85 : decode cX8_crowd 85 = .ok (.getfield 55, 3) := by decide +kernel
theorem dX8_crowd_88 : decode cX8_crowd 88 = .ok (.getfield 264, 3) := by decide +kernel
theorem dX8_crowd_91 : decode cX8_crowd 91 = .ok (.aload_n 0, 1) := by decide +kernel
theorem dX8_crowd_92 : decode cX8_crowd 92 = .ok (.getfield 10, 3) := by decide +kernel
theorem dX8_crowd_95 : decode cX8_crowd 95 = .ok (.getfield 105, 3) := by decide +kernel
theorem dX8_crowd_98 : decode cX8_crowd 98 = .ok (.invokestatic 267, 3) := by decide +kernel
theorem dX8_crowd_101 : decode cX8_crowd 101 = .ok (.ireturn, 1) := by decide +kernel
theorem dX8_crowd_102 : decode cX8_crowd 102 = .ok (.aload_n 0, 1) := by decide +kernel
theorem dX8_crowd_103 : decode cX8_crowd 103 = .ok (.getfield 55, 3) := by decide +kernel
theorem dX8_crowd_106 : decode cX8_crowd 106 = .ok (.getfield 264, 3) := by decide +kernel
theorem dX8_crowd_109 : decode cX8_crowd 109 = .ok (.aload_n 0, 1) := by decide +kernel
theorem dX8_crowd_110 : decode cX8_crowd 110 = .ok (.getfield 10, 3) := by decide +kernel
theorem dX8_crowd_113 : decode cX8_crowd 113 = .ok (.getfield 105, 3) := by decide +kernel
theorem dX8_crowd_116 : decode cX8_crowd 116 = .ok (.invokestatic 271, 3) := by decide +kernel
theorem dX8_crowd_119 : decode cX8_crowd 119 = .ok (.istore 4, 2) := by decide +kernel
theorem dX8_crowd_121 : decode cX8_crowd 121 = .ok (.iload_n 3, 1) := by decide +kernel
theorem dX8_crowd_122 : decode cX8_crowd 122 = .ok (.iconst 1, 1) := by decide +kernel
theorem dX8_crowd_123 : decode cX8_crowd 123 = .ok (.if_icmp .ne 14, 3) := by decide +kernel
theorem dX8_crowd_126 : decode cX8_crowd 126 = .ok (.aload_n 0, 1) := by decide +kernel
theorem dX8_crowd_127 : decode cX8_crowd 127 = .ok (.getfield 55, 3) := by decide +kernel
theorem dX8_crowd_130 : decode cX8_crowd 130 = .ok (.getfield 264, 3) := by decide +kernel
theorem dX8_crowd_133 : decode cX8_crowd 133 = .ok (.iload 4, 2) := by decide +kernel
theorem dX8_crowd_135 : decode cX8_crowd 135 = .ok (.iaload, 1) := by decide +kernel
theorem dX8_crowd_136 : decode cX8_crowd 136 = .ok (.ireturn, 1) := by decide +kernel
theorem dX8_crowd_137 : decode cX8_crowd 137 = .ok (.iload_n 2, 1) := by decide +kernel
theorem dX8_crowd_138 : decode cX8_crowd 138 = .ok (.ifCond .ne 8, 3) := by decide +kernel
theorem dX8_crowd_141 : decode cX8_crowd 141 = .ok (.bipush (-9), 2) := by decide +kernel
theorem dX8_crowd_143 : decode cX8_crowd 143 = .ok (.goto 5, 3) := by decide +kernel
theorem dX8_crowd_146 : decode cX8_crowd 146 = .ok (.iload 4, 2) := by decide +kernel
theorem dX8_crowd_148 : decode cX8_crowd 148 = .ok (.ireturn, 1) := by decide +kernel
set_option maxRecDepth 20000 in
set_option maxHeartbeats 4000000 in
theorem s_X8_crowd (l : Launch) (g : GG) {q0 : Nat} (hq0 : kd q0 = 7) {a1 : Int32} {a2 : Int32} {a3 : Int32} {σ : SS} {r : Int32 × SS} (h : f_X8_crowd q0 a1 a2 a3 σ = some r) : CT l g 5 yX8_crowd cX8_crowd 5 (some .int) [.ref (g.1 q0), .int a1, .int a2, .int a3] σ (some (.int r.1), r.2) := by
  refine CT.of (lv := [(0, .ref (g.1 q0)), (1, .int a1), (2, .int a2), (3, .int a3)]) RX8 (by decide +kernel) rfl (Nat.le_of_ble_eq_true rfl) rfl ?_
  unfold f_X8_crowd at h
  refine vr_aload_n (pc := 0) 0 dX8_crowd_0 rfl rfl ?_
  refine vr_getR (pc := 1) 0 dX8_crowd_1 fi_X8_10 hq0 (sh_7_0 hq0).1 ?_
  refine vr_iload_n (pc := 4) 1 dX8_crowd_4 rfl rfl ?_
  refine vr_callV (pc := 5) (ρ1 := (some (.int (f_X4_isSet (rid q0 0) a1 σ)), σ)) [.int a1] dX8_crowd_5 (s_X4_isSet l g (sh_7_0 hq0).2 rfl) cw_X4_isSet ml_X8_236 (sh_7_0 hq0).2 rfl (by decide) (by decide) rfl rfl (Nat.le_of_ble_eq_true rfl) ?_
  refine vr_if_ne (pc := 8) 17 dX8_crowd_8 (by decide) (fun c1 => ?_) (fun c1 => ?_)
  · rw [if_neg c1] at h
    refine vr_iload_n (pc := 17) 2 dX8_crowd_17 rfl rfl ?_
    refine vr_if_ge (pc := 18) 28 dX8_crowd_18 (by decide) (fun c2 => ?_) (fun c2 => ?_)
    · rw [if_pos c2] at h
      refine vr_iload_n (pc := 28) 2 dX8_crowd_28 rfl rfl ?_
      refine vr_bipush (pc := 29) 100 dX8_crowd_29 cb_100 ?_
      refine vr_icmp_le (pc := 31) 41 dX8_crowd_31 (by decide) (fun c3 => ?_) (fun c3 => ?_)
      · rw [if_pos c3] at h
        refine vr_iload_n (pc := 41) 3 dX8_crowd_41 rfl rfl ?_
        refine vr_if_lt (pc := 42) 50 dX8_crowd_42 (by decide) (fun c4 => ?_) (fun c4 => ?_)
        · rw [if_pos c4] at h
          refine vr_aload_n (pc := 50) 0 dX8_crowd_50 rfl rfl ?_
          refine vr_bipush (pc := 51) (-2) dX8_crowd_51 cb_m2 ?_
          obtain ⟨z5, hz6, h⟩ := ob_some h
          refine vr_callV (pc := 53) (ρ1 := (some (.int z5.1), z5.2)) [.int (-2)] dX8_crowd_53 (s_X8_refuse l g (hq0) hz6) cw_X8_refuse ml_X8_71 hq0 rfl (by decide) (by decide) rfl rfl (Nat.le_of_ble_eq_true rfl) ?_
          have h := Option.some.inj h; subst h
          exact vr_iret (pc := 56) .int dX8_crowd_56 rfl rfl rfl
        · rw [if_neg c4] at h
          refine vr_iload_n (pc := 45) 3 dX8_crowd_45 rfl rfl ?_
          refine vr_iconst (pc := 46) 2 dX8_crowd_46 ci_2 ?_
          refine vr_icmp_le (pc := 47) 57 dX8_crowd_47 (by decide) (fun c7 => ?_) (fun c7 => ?_)
          · rw [if_pos c7] at h
            refine vr_aload_n (pc := 57) 0 dX8_crowd_57 rfl rfl ?_
            refine vr_getR (pc := 58) 9 dX8_crowd_58 fi_X8_55 hq0 (sh_7_9 hq0).1 ?_
            refine vr_aload_n (pc := 61) 0 dX8_crowd_61 rfl rfl ?_
            refine vr_getR (pc := 62) 0 dX8_crowd_62 fi_X8_10 hq0 (sh_7_0 hq0).1 ?_
            refine vr_iload_n (pc := 65) 1 dX8_crowd_65 rfl rfl ?_
            refine vr_iload_n (pc := 66) 2 dX8_crowd_66 rfl rfl ?_
            obtain ⟨z8, hz9, h⟩ := ob_some h
            refine vr_callV (pc := 67) (ρ1 := (none, z8)) [.ref (g.1 (rid q0 0)), .int a1, .int a2] dX8_crowd_67 (s_X6_follow l g (sh_7_9 hq0).2 (sh_7_0 hq0).2 hz9) cw_X6_follow ml_X8_239 (sh_7_9 hq0).2 rfl (by decide) (by decide) rfl rfl (Nat.le_of_ble_eq_true rfl) ?_
            refine vr_aload_n (pc := 70) 0 dX8_crowd_70 rfl rfl ?_
            refine vr_getR (pc := 71) 9 dX8_crowd_71 fi_X8_55 hq0 (sh_7_9 hq0).1 ?_
            refine vr_iload_n (pc := 74) 2 dX8_crowd_74 rfl rfl ?_
            obtain ⟨z10, hz11, h⟩ := ob_some h
            refine vr_callV (pc := 75) (ρ1 := (none, z10)) [.int a2] dX8_crowd_75 (s_X6_tallyFirst l g (sh_7_9 hq0).2 hz11) cw_X6_tallyFirst ml_X8_261 (sh_7_9 hq0).2 rfl (by decide) (by decide) rfl rfl (Nat.le_of_ble_eq_true rfl) ?_
            refine vr_iload_n (pc := 78) 3 dX8_crowd_78 rfl rfl ?_
            refine vr_iconst (pc := 79) 2 dX8_crowd_79 ci_2 ?_
            refine vr_icmp_ne (pc := 80) 102 dX8_crowd_80 (by decide) (fun c12 => ?_) (fun c12 => ?_)
            · rw [if_neg c12] at h
              refine vr_aload_n (pc := 102) 0 dX8_crowd_102 rfl rfl ?_
              refine vr_getR (pc := 103) 9 dX8_crowd_103 fi_X8_55 hq0 (sh_7_9 hq0).1 ?_
              refine vr_getR (pc := 106) 5 dX8_crowd_106 fi_X8_264 (sh_7_9 hq0).2 (sh_5_5 (sh_7_9 hq0).2).1 ?_
              refine vr_aload_n (pc := 109) 0 dX8_crowd_109 rfl rfl ?_
              refine vr_getR (pc := 110) 0 dX8_crowd_110 fi_X8_10 hq0 (sh_7_0 hq0).1 ?_
              refine vr_getI (pc := 113) 0 dX8_crowd_113 fi_X8_105 (sh_7_0 hq0).2 (sh_3_0 (sh_7_0 hq0).2) ?_
              obtain ⟨z13, hz14, h⟩ := ob_some h
              refine vr_callS (pc := 116) (ρ1 := (some (.int z13), z10)) [.ref (g.1 (rid (rid q0 9) 5)), .int (z10.1 (rid q0 0) 0)] dX8_crowd_116 (s_X2_placeOfMost l g (sh_5_5 (sh_7_9 hq0).2).2 hz14) cw_X2_placeOfMost ml_X8_271 (by decide) rfl rfl (Nat.le_of_ble_eq_true rfl) ?_
              refine vr_istore (pc := 119) [(4, .int z13), (0, .ref (g.1 q0)), (1, .int a1), (2, .int a2), (3, .int a3)] dX8_crowd_119 (by decide) rfl ?_
              refine vr_iload_n (pc := 121) 4 dX8_crowd_121 rfl rfl ?_
              refine vr_iconst (pc := 122) 1 dX8_crowd_122 ci_1 ?_
              refine vr_icmp_ne (pc := 123) 137 dX8_crowd_123 (by decide) (fun c15 => ?_) (fun c15 => ?_)
              · rw [if_neg c15] at h
                refine vr_iload_n (pc := 137) 3 dX8_crowd_137 rfl rfl ?_
                refine vr_if_ne (pc := 138) 146 dX8_crowd_138 (by decide) (fun c16 => ?_) (fun c16 => ?_)
                · rw [if_neg c16] at h
                  refine vr_iload (pc := 146) 0 dX8_crowd_146 rfl ?_
                  have h := Option.some.inj h; subst h
                  exact vr_iret (pc := 148) .int dX8_crowd_148 rfl rfl rfl
                · rw [if_pos c16] at h
                  refine vr_bipush (pc := 141) (-9) dX8_crowd_141 cb_m9 ?_
                  refine vr_goto (pc := 143) 148 dX8_crowd_143 (by decide) ?_
                  have h := Option.some.inj h; subst h
                  exact vr_iret (pc := 148) .int dX8_crowd_148 rfl rfl rfl
              · rw [if_pos c15] at h
                refine vr_aload_n (pc := 126) 1 dX8_crowd_126 rfl rfl ?_
                refine vr_getR (pc := 127) 9 dX8_crowd_127 fi_X8_55 hq0 (sh_7_9 hq0).1 ?_
                refine vr_getR (pc := 130) 5 dX8_crowd_130 fi_X8_264 (sh_7_9 hq0).2 (sh_5_5 (sh_7_9 hq0).2).1 ?_
                refine vr_iload (pc := 133) 0 dX8_crowd_133 rfl ?_
                obtain ⟨hc17, h⟩ := ck_some h
                refine vr_iald (pc := 135) dX8_crowd_135 (sh_5_5 (sh_7_9 hq0).2).2 hc17 ?_
                have h := Option.some.inj h; subst h
                exact vr_iret (pc := 136) .int dX8_crowd_136 rfl rfl rfl
            · rw [if_pos c12] at h
              refine vr_iconst (pc := 83) 1 dX8_crowd_83 ci_1 ?_
              refine vr_aload_n (pc := 84) 0 dX8_crowd_84 rfl rfl ?_
              refine vr_getR (pc := 85) 9 dX8_crowd_85 fi_X8_55 hq0 (sh_7_9 hq0).1 ?_
              refine vr_getR (pc := 88) 5 dX8_crowd_88 fi_X8_264 (sh_7_9 hq0).2 (sh_5_5 (sh_7_9 hq0).2).1 ?_
              refine vr_aload_n (pc := 91) 0 dX8_crowd_91 rfl rfl ?_
              refine vr_getR (pc := 92) 0 dX8_crowd_92 fi_X8_10 hq0 (sh_7_0 hq0).1 ?_
              refine vr_getI (pc := 95) 0 dX8_crowd_95 fi_X8_105 (sh_7_0 hq0).2 (sh_3_0 (sh_7_0 hq0).2) ?_
              obtain ⟨z18, hz19, h⟩ := ob_some h
              refine vr_callS (pc := 98) (ρ1 := (some (.int z18), z10)) [.int 1, .ref (g.1 (rid (rid q0 9) 5)), .int (z10.1 (rid q0 0) 0)] dX8_crowd_98 (s_X2_placesOf l g (sh_5_5 (sh_7_9 hq0).2).2 hz19) cw_X2_placesOf ml_X8_267 (by decide) rfl rfl (Nat.le_of_ble_eq_true rfl) ?_
              have h := Option.some.inj h; subst h
              exact vr_iret (pc := 101) .int dX8_crowd_101 rfl rfl rfl
          · rw [if_neg c7] at h
            refine vr_aload_n (pc := 50) 0 dX8_crowd_50 rfl rfl ?_
            refine vr_bipush (pc := 51) (-2) dX8_crowd_51 cb_m2 ?_
            obtain ⟨z20, hz21, h⟩ := ob_some h
            refine vr_callV (pc := 53) (ρ1 := (some (.int z20.1), z20.2)) [.int (-2)] dX8_crowd_53 (s_X8_refuse l g (hq0) hz21) cw_X8_refuse ml_X8_71 hq0 rfl (by decide) (by decide) rfl rfl (Nat.le_of_ble_eq_true rfl) ?_
            have h := Option.some.inj h; subst h
            exact vr_iret (pc := 56) .int dX8_crowd_56 rfl rfl rfl
      · rw [if_neg c3] at h
        refine vr_aload_n (pc := 34) 0 dX8_crowd_34 rfl rfl ?_
        refine vr_bipush (pc := 35) (-6) dX8_crowd_35 cb_m6 ?_
        obtain ⟨z22, hz23, h⟩ := ob_some h
        refine vr_callV (pc := 37) (ρ1 := (some (.int z22.1), z22.2)) [.int (-6)] dX8_crowd_37 (s_X8_refuse l g (hq0) hz23) cw_X8_refuse ml_X8_71 hq0 rfl (by decide) (by decide) rfl rfl (Nat.le_of_ble_eq_true rfl) ?_
        have h := Option.some.inj h; subst h
        exact vr_iret (pc := 40) .int dX8_crowd_40 rfl rfl rfl
    · rw [if_neg c2] at h
      refine vr_aload_n (pc := 21) 0 dX8_crowd_21 rfl rfl ?_
      refine vr_bipush (pc := 22) (-4) dX8_crowd_22 cb_m4 ?_
      obtain ⟨z24, hz25, h⟩ := ob_some h
      refine vr_callV (pc := 24) (ρ1 := (some (.int z24.1), z24.2)) [.int (-4)] dX8_crowd_24 (s_X8_refuse l g (hq0) hz25) cw_X8_refuse ml_X8_71 hq0 rfl (by decide) (by decide) rfl rfl (Nat.le_of_ble_eq_true rfl) ?_
      have h := Option.some.inj h; subst h
      exact vr_iret (pc := 27) .int dX8_crowd_27 rfl rfl rfl
  · rw [if_pos c1] at h
    refine vr_aload_n (pc := 11) 0 dX8_crowd_11 rfl rfl ?_
    refine vr_iconst (pc := 12) (-1) dX8_crowd_12 ci_m1 ?_
    obtain ⟨z26, hz27, h⟩ := ob_some h
    refine vr_callV (pc := 13) (ρ1 := (some (.int z26.1), z26.2)) [.int (-1)] dX8_crowd_13 (s_X8_refuse l g (hq0) hz27) cw_X8_refuse ml_X8_71 hq0 rfl (by decide) (by decide) rfl rfl (Nat.le_of_ble_eq_true rfl) ?_
    have h := Option.some.inj h; subst h
    exact vr_iret (pc := 16) .int dX8_crowd_16 rfl rfl rfl
theorem dX8_roll_0 : decode cX8_roll 0 = .ok (.aload_n 0, 1) := by decide +kernel
theorem dX8_roll_1 : decode cX8_roll 1 = .ok (.getfield 10, 3) := by decide +kernel
theorem dX8_roll_4 : decode cX8_roll 4 = .ok (.iload_n 1, 1) := by decide +kernel
theorem dX8_roll_5 : decode cX8_roll 5 = .ok (.invokevirtual 122, 3) := by decide +kernel
theorem dX8_roll_8 : decode cX8_roll 8 = .ok (.astore_n 3, 1) := by decide +kernel
theorem dX8_roll_9 : decode cX8_roll 9 = .ok (.aload_n 3, 1) := by decide +kernel
theorem dX8_roll_10 : decode cX8_roll 10 = .ok (.ifnonnull 9, 3) := by decide +kernel
theorem dX8_roll_13 : decode cX8_roll 13 = .ok (.aload_n 0, 1) := by decide +kernel
theorem dX8_roll_14 : decode cX8_roll 14 = .ok (.iconst (-1), 1) := by decide +kernel
theorem dX8_roll_15 : decode cX8_roll 15 = .ok (.invokevirtual 71, 3) := by decide +kernel
theorem dX8_roll_18 : decode cX8_roll 18 = .ok (.ireturn, 1) := by decide +kernel
theorem dX8_roll_19 : decode cX8_roll 19 = .ok (.iload_n 2, 1) := by decide +kernel
theorem dX8_roll_20 : decode cX8_roll 20 = .ok (.iconst 1, 1) := by decide +kernel
theorem dX8_roll_21 : decode cX8_roll 21 = .ok (.if_icmp .ge 10, 3) := by decide +kernel
theorem dX8_roll_24 : decode cX8_roll 24 = .ok (.aload_n 0, 1) := by decide +kernel
theorem dX8_roll_25 : decode cX8_roll 25 = .ok (.bipush (-4), 2) := by decide +kernel
theorem dX8_roll_27 : decode cX8_roll 27 = .ok (.invokevirtual 71, 3) := by decide +kernel
theorem dX8_roll_30 : decode cX8_roll 30 = .ok (.ireturn, 1) := by decide +kernel
theorem dX8_roll_31 : decode cX8_roll 31 = .ok (.iload_n 2, 1) := by decide +kernel
theorem dX8_roll_32 : decode cX8_roll 32 = .ok (.bipush 40, 2) := by decide +kernel
theorem dX8_roll_34 : decode cX8_roll 34 = .ok (.if_icmp .le 10, 3) := by decide +kernel
theorem dX8_roll_37 : decode cX8_roll 37 = .ok (.aload_n 0, 1) := by decide +kernel
theorem dX8_roll_38 : decode cX8_roll 38 = .ok (.bipush (-6), 2) := by decide +kernel
theorem dX8_roll_40 : decode cX8_roll 40 = .ok (.invokevirtual 71, 3) := by decide +kernel
theorem dX8_roll_43 : decode cX8_roll 43 = .ok (.ireturn, 1) := by decide +kernel
theorem dX8_roll_44 : decode cX8_roll 44 = .ok (.aload_n 0, 1) := by decide +kernel
theorem dX8_roll_45 : decode cX8_roll 45 = .ok (.getfield 25, 3) := by decide +kernel
theorem dX8_roll_48 : decode cX8_roll 48 = .ok (.aload_n 0, 1) := by decide +kernel
theorem dX8_roll_49 : decode cX8_roll 49 = .ok (.getfield 10, 3) := by decide +kernel
theorem dX8_roll_52 : decode cX8_roll 52 = .ok (.invokevirtual 156, 3) := by decide +kernel
theorem dX8_roll_55 : decode cX8_roll 55 = .ok (.aload_n 0, 1) := by decide +kernel
theorem dX8_roll_56 : decode cX8_roll 56 = .ok (.getfield 10, 3) := by decide +kernel
theorem dX8_roll_59 : decode cX8_roll 59 = .ok (.aload_n 3, 1) := by decide +kernel
theorem dX8_roll_60 : decode cX8_roll 60 = .ok (.iload_n 2, 1) := by decide +kernel
theorem dX8_roll_61 : decode cX8_roll 61 = .ok (.invokevirtual 275, 3) := by decide +kernel
theorem dX8_roll_64 : decode cX8_roll 64 = .ok (.aload_n 3, 1) := by decide +kernel
theorem dX8_roll_65 : decode cX8_roll 65 = .ok (.getfield 136, 3) := by decide +kernel
theorem dX8_roll_68 : decode cX8_roll 68 = .ok (.ireturn, 1) := by decide +kernel
set_option maxRecDepth 20000 in
set_option maxHeartbeats 4000000 in
theorem s_X8_roll (l : Launch) (g : GG) {q0 : Nat} (hq0 : kd q0 = 7) {a1 : Int32} {a2 : Int32} {σ : SS} {r : Int32 × SS} (h : f_X8_roll q0 a1 a2 σ = some r) : CT l g 4 yX8_roll cX8_roll 4 (some .int) [.ref (g.1 q0), .int a1, .int a2] σ (some (.int r.1), r.2) := by
  refine CT.of (lv := [(0, .ref (g.1 q0)), (1, .int a1), (2, .int a2)]) RX8 (by decide +kernel) rfl (Nat.le_of_ble_eq_true rfl) rfl ?_
  unfold f_X8_roll at h
  refine vr_aload_n (pc := 0) 0 dX8_roll_0 rfl rfl ?_
  refine vr_getR (pc := 1) 0 dX8_roll_1 fi_X8_10 hq0 (sh_7_0 hq0).1 ?_
  refine vr_iload_n (pc := 4) 1 dX8_roll_4 rfl rfl ?_
  obtain ⟨z1, hz2, h⟩ := ob_some h
  refine vr_callV (pc := 5) (ρ1 := (some (rvO g z1), σ)) [.int a1] dX8_roll_5 (s_X4_wheelAt l g (sh_7_0 hq0).2 hz2) cw_X4_wheelAt ml_X8_122 (sh_7_0 hq0).2 rfl (by decide) (by decide) rfl rfl (Nat.le_of_ble_eq_true rfl) ?_
  refine vr_astore_nO (pc := 8) [(3, rvO g z1), (0, .ref (g.1 q0)), (1, .int a1), (2, .int a2)] dX8_roll_8 rfl (by decide) rfl ?_
  refine vr_aload_nO (pc := 9) 0 dX8_roll_9 rfl rfl ?_
  refine vr_ifnonnull (pc := 10) 19 dX8_roll_10 (by decide) (fun w3 hw4 => ?_) (fun hn17 => ?_)
  · simp only [hw4] at h
    refine vr_sub [0, 1, 2, 3] [(3, .ref (g.1 w3)), (0, .ref (g.1 q0)), (1, .int a1), (2, .int a2)] (by rw [hw4]; rfl) ?_
    refine vr_iload_n (pc := 19) 3 dX8_roll_19 rfl rfl ?_
    refine vr_iconst (pc := 20) 1 dX8_roll_20 ci_1 ?_
    refine vr_icmp_ge (pc := 21) 31 dX8_roll_21 (by decide) (fun c5 => ?_) (fun c5 => ?_)
    · rw [if_pos c5] at h
      refine vr_iload_n (pc := 31) 3 dX8_roll_31 rfl rfl ?_
      refine vr_bipush (pc := 32) 40 dX8_roll_32 cb_40 ?_
      refine vr_icmp_le (pc := 34) 44 dX8_roll_34 (by decide) (fun c6 => ?_) (fun c6 => ?_)
      · rw [if_pos c6] at h
        refine vr_aload_n (pc := 44) 1 dX8_roll_44 rfl rfl ?_
        refine vr_getR (pc := 45) 4 dX8_roll_45 fi_X8_25 hq0 (sh_7_4 hq0).1 ?_
        refine vr_aload_n (pc := 48) 1 dX8_roll_48 rfl rfl ?_
        refine vr_getR (pc := 49) 0 dX8_roll_49 fi_X8_10 hq0 (sh_7_0 hq0).1 ?_
        obtain ⟨z7, hz8, h⟩ := ob_some h
        refine vr_callV (pc := 52) (ρ1 := (none, z7)) [.ref (g.1 (rid q0 0))] dX8_roll_52 (s_X3_keep l g (sh_7_4 hq0).2 (sh_7_0 hq0).2 hz8) cw_X3_keep ml_X8_156 (sh_7_4 hq0).2 rfl (by decide) (by decide) rfl rfl (Nat.le_of_ble_eq_true rfl) ?_
        refine vr_aload_n (pc := 55) 1 dX8_roll_55 rfl rfl ?_
        refine vr_getR (pc := 56) 0 dX8_roll_56 fi_X8_10 hq0 (sh_7_0 hq0).1 ?_
        refine vr_aload_n (pc := 59) 0 dX8_roll_59 rfl rfl ?_
        refine vr_iload_n (pc := 60) 3 dX8_roll_60 rfl rfl ?_
        obtain ⟨z9, hz10, h⟩ := ob_some h
        refine vr_callV (pc := 61) (ρ1 := (none, z9)) [.ref (g.1 w3), .int a2] dX8_roll_61 (s_X4_rollTruly l g (sh_7_0 hq0).2 ((kf_X4_wheelAt hz2 (sh_7_0 hq0).2) w3 hw4) hz10) cw_X4_rollTruly ml_X8_275 (sh_7_0 hq0).2 rfl (by decide) (by decide) rfl rfl (Nat.le_of_ble_eq_true rfl) ?_
        refine vr_aload_n (pc := 64) 0 dX8_roll_64 rfl rfl ?_
        refine vr_getI (pc := 65) 4 dX8_roll_65 fi_X8_136 ((kf_X4_wheelAt hz2 (sh_7_0 hq0).2) w3 hw4) (sh_6_4 ((kf_X4_wheelAt hz2 (sh_7_0 hq0).2) w3 hw4)) ?_
        have h := Option.some.inj h; subst h
        exact vr_iret (pc := 68) .int dX8_roll_68 rfl rfl rfl
      · rw [if_neg c6] at h
        refine vr_aload_n (pc := 37) 1 dX8_roll_37 rfl rfl ?_
        refine vr_bipush (pc := 38) (-6) dX8_roll_38 cb_m6 ?_
        obtain ⟨z11, hz12, h⟩ := ob_some h
        refine vr_callV (pc := 40) (ρ1 := (some (.int z11.1), z11.2)) [.int (-6)] dX8_roll_40 (s_X8_refuse l g (hq0) hz12) cw_X8_refuse ml_X8_71 hq0 rfl (by decide) (by decide) rfl rfl (Nat.le_of_ble_eq_true rfl) ?_
        have h := Option.some.inj h; subst h
        exact vr_iret (pc := 43) .int dX8_roll_43 rfl rfl rfl
    · rw [if_neg c5] at h
      refine vr_aload_n (pc := 24) 1 dX8_roll_24 rfl rfl ?_
      refine vr_bipush (pc := 25) (-4) dX8_roll_25 cb_m4 ?_
      obtain ⟨z13, hz14, h⟩ := ob_some h
      refine vr_callV (pc := 27) (ρ1 := (some (.int z13.1), z13.2)) [.int (-4)] dX8_roll_27 (s_X8_refuse l g (hq0) hz14) cw_X8_refuse ml_X8_71 hq0 rfl (by decide) (by decide) rfl rfl (Nat.le_of_ble_eq_true rfl) ?_
      have h := Option.some.inj h; subst h
      exact vr_iret (pc := 30) .int dX8_roll_30 rfl rfl rfl
  · simp only [hn17] at h
    refine vr_sub [1, 2, 3] [(0, .ref (g.1 q0)), (1, .int a1), (2, .int a2)] rfl ?_
    refine vr_aload_n (pc := 13) 0 dX8_roll_13 rfl rfl ?_
    refine vr_iconst (pc := 14) (-1) dX8_roll_14 ci_m1 ?_
    obtain ⟨z15, hz16, h⟩ := ob_some h
    refine vr_callV (pc := 15) (ρ1 := (some (.int z15.1), z15.2)) [.int (-1)] dX8_roll_15 (s_X8_refuse l g (hq0) hz16) cw_X8_refuse ml_X8_71 hq0 rfl (by decide) (by decide) rfl rfl (Nat.le_of_ble_eq_true rfl) ?_
    have h := Option.some.inj h; subst h
    exact vr_iret (pc := 18) .int dX8_roll_18 rfl rfl rfl
theorem dX8_inked_0 : decode cX8_inked 0 = .ok (.iload_n 1, 1) := by decide +kernel
theorem dX8_inked_1 : decode cX8_inked 1 = .ok (.tableswitch 64 0 3 #[31, 39, 48, 56], 31) := by decide +kernel
theorem dX8_inked_32 : decode cX8_inked 32 = .ok (.aload_n 0, 1) := by decide +kernel
theorem dX8_inked_33 : decode cX8_inked 33 = .ok (.getfield 10, 3) := by decide +kernel
theorem dX8_inked_36 : decode cX8_inked 36 = .ok (.invokevirtual 279, 3) := by decide +kernel
theorem dX8_inked_39 : decode cX8_inked 39 = .ok (.ireturn, 1) := by decide +kernel
theorem dX8_inked_40 : decode cX8_inked 40 = .ok (.aload_n 0, 1) := by decide +kernel
theorem dX8_inked_41 : decode cX8_inked 41 = .ok (.getfield 10, 3) := by decide +kernel
theorem dX8_inked_44 : decode cX8_inked 44 = .ok (.iconst 0, 1) := by decide +kernel
theorem dX8_inked_45 : decode cX8_inked 45 = .ok (.invokevirtual 282, 3) := by decide +kernel
theorem dX8_inked_48 : decode cX8_inked 48 = .ok (.ireturn, 1) := by decide +kernel
theorem dX8_inked_49 : decode cX8_inked 49 = .ok (.aload_n 0, 1) := by decide +kernel
theorem dX8_inked_50 : decode cX8_inked 50 = .ok (.getfield 10, 3) := by decide +kernel
theorem dX8_inked_53 : decode cX8_inked 53 = .ok (.invokevirtual 285, 3) := by decide +kernel
theorem dX8_inked_56 : decode cX8_inked 56 = .ok (.ireturn, 1) := by decide +kernel
theorem dX8_inked_57 : decode cX8_inked 57 = .ok (.aload_n 0, 1) := by decide +kernel
theorem dX8_inked_58 : decode cX8_inked 58 = .ok (.getfield 10, 3) := by decide +kernel
theorem dX8_inked_61 : decode cX8_inked 61 = .ok (.invokevirtual 288, 3) := by decide +kernel
theorem dX8_inked_64 : decode cX8_inked 64 = .ok (.ireturn, 1) := by decide +kernel
theorem dX8_inked_65 : decode cX8_inked 65 = .ok (.aload_n 0, 1) := by decide +kernel
theorem dX8_inked_66 : decode cX8_inked 66 = .ok (.bipush (-2), 2) := by decide +kernel
theorem dX8_inked_68 : decode cX8_inked 68 = .ok (.invokevirtual 71, 3) := by decide +kernel
theorem dX8_inked_71 : decode cX8_inked 71 = .ok (.ireturn, 1) := by decide +kernel
set_option maxRecDepth 20000 in
set_option maxHeartbeats 4000000 in
theorem s_X8_inked (l : Launch) (g : GG) {q0 : Nat} (hq0 : kd q0 = 7) {a1 : Int32} {σ : SS} {r : Int32 × SS} (h : f_X8_inked q0 a1 σ = some r) : CT l g 2 yX8_inked cX8_inked 2 (some .int) [.ref (g.1 q0), .int a1] σ (some (.int r.1), r.2) := by
  refine CT.of (lv := [(0, .ref (g.1 q0)), (1, .int a1)]) RX8 (by decide +kernel) rfl (Nat.le_of_ble_eq_true rfl) rfl ?_
  unfold f_X8_inked at h
  refine vr_iload_n (pc := 0) 1 dX8_inked_0 rfl rfl ?_
  by_cases c1 : a1 = 0
  · rw [if_pos c1] at h
    refine vr_tableIn (pc := 1) 31 32 dX8_inked_1 (by rw [c1]; decide) (by rw [c1]; decide) (by rw [c1]; rfl) (by decide) ?_
    refine vr_aload_n (pc := 32) 0 dX8_inked_32 rfl rfl ?_
    refine vr_getR (pc := 33) 0 dX8_inked_33 fi_X8_10 hq0 (sh_7_0 hq0).1 ?_
    obtain ⟨z2, hz3, h⟩ := ob_some h
    refine vr_callV (pc := 36) (ρ1 := (some (.int z2), σ)) [] dX8_inked_36 (s_X4_inkedTeeth l g (sh_7_0 hq0).2 hz3) cw_X4_inkedTeeth ml_X8_279 (sh_7_0 hq0).2 rfl (by decide) (by decide) rfl rfl (Nat.le_of_ble_eq_true rfl) ?_
    have h := Option.some.inj h; subst h
    exact vr_iret (pc := 39) .int dX8_inked_39 rfl rfl rfl
  · rw [if_neg c1] at h
    by_cases c4 : a1 = 1
    · rw [if_pos c4] at h
      refine vr_tableIn (pc := 1) 39 40 dX8_inked_1 (by rw [c4]; decide) (by rw [c4]; decide) (by rw [c4]; rfl) (by decide) ?_
      refine vr_aload_n (pc := 40) 0 dX8_inked_40 rfl rfl ?_
      refine vr_getR (pc := 41) 0 dX8_inked_41 fi_X8_10 hq0 (sh_7_0 hq0).1 ?_
      refine vr_iconst (pc := 44) 0 dX8_inked_44 ci_0 ?_
      obtain ⟨z5, hz6, h⟩ := ob_some h
      refine vr_callV (pc := 45) (ρ1 := (some (.int z5), σ)) [.int 0] dX8_inked_45 (s_X4_inkedFrom l g (sh_7_0 hq0).2 hz6) cw_X4_inkedFrom ml_X8_282 (sh_7_0 hq0).2 rfl (by decide) (by decide) rfl rfl (Nat.le_of_ble_eq_true rfl) ?_
      have h := Option.some.inj h; subst h
      exact vr_iret (pc := 48) .int dX8_inked_48 rfl rfl rfl
    · rw [if_neg c4] at h
      by_cases c7 : a1 = 2
      · rw [if_pos c7] at h
        refine vr_tableIn (pc := 1) 48 49 dX8_inked_1 (by rw [c7]; decide) (by rw [c7]; decide) (by rw [c7]; rfl) (by decide) ?_
        refine vr_aload_n (pc := 49) 0 dX8_inked_49 rfl rfl ?_
        refine vr_getR (pc := 50) 0 dX8_inked_50 fi_X8_10 hq0 (sh_7_0 hq0).1 ?_
        obtain ⟨z8, hz9, h⟩ := ob_some h
        refine vr_callV (pc := 53) (ρ1 := (some (.int z8), σ)) [] dX8_inked_53 (s_X4_lastInked l g (sh_7_0 hq0).2 hz9) cw_X4_lastInked ml_X8_285 (sh_7_0 hq0).2 rfl (by decide) (by decide) rfl rfl (Nat.le_of_ble_eq_true rfl) ?_
        have h := Option.some.inj h; subst h
        exact vr_iret (pc := 56) .int dX8_inked_56 rfl rfl rfl
      · rw [if_neg c7] at h
        by_cases c10 : a1 = 3
        · rw [if_pos c10] at h
          refine vr_tableIn (pc := 1) 56 57 dX8_inked_1 (by rw [c10]; decide) (by rw [c10]; decide) (by rw [c10]; rfl) (by decide) ?_
          refine vr_aload_n (pc := 57) 0 dX8_inked_57 rfl rfl ?_
          refine vr_getR (pc := 58) 0 dX8_inked_58 fi_X8_10 hq0 (sh_7_0 hq0).1 ?_
          obtain ⟨z11, hz12, h⟩ := ob_some h
          refine vr_callV (pc := 61) (ρ1 := (some (.int z11), σ)) [] dX8_inked_61 (s_X4_blot l g (sh_7_0 hq0).2 hz12) cw_X4_blot ml_X8_288 (sh_7_0 hq0).2 rfl (by decide) (by decide) rfl rfl (Nat.le_of_ble_eq_true rfl) ?_
          have h := Option.some.inj h; subst h
          exact vr_iret (pc := 64) .int dX8_inked_64 rfl rfl rfl
        · rw [if_neg c10] at h
          refine vr_tableOut (pc := 1) 65 dX8_inked_1 (tab_out (x := a1) 0 3 (fun z1 z2 => by rcases (show a1.toInt = 0 ∨ a1.toInt = 1 ∨ a1.toInt = 2 ∨ a1.toInt = 3 from by omega) with z | z | z | z <;> first | exact c1 (i32_of z (by decide)) | exact c4 (i32_of z (by decide)) | exact c7 (i32_of z (by decide)) | exact c10 (i32_of z (by decide)))) (by decide) ?_
          refine vr_aload_n (pc := 65) 0 dX8_inked_65 rfl rfl ?_
          refine vr_bipush (pc := 66) (-2) dX8_inked_66 cb_m2 ?_
          obtain ⟨z13, hz14, h⟩ := ob_some h
          refine vr_callV (pc := 68) (ρ1 := (some (.int z13.1), z13.2)) [.int (-2)] dX8_inked_68 (s_X8_refuse l g (hq0) hz14) cw_X8_refuse ml_X8_71 hq0 rfl (by decide) (by decide) rfl rfl (Nat.le_of_ble_eq_true rfl) ?_
          have h := Option.some.inj h; subst h
          exact vr_iret (pc := 71) .int dX8_inked_71 rfl rfl rfl
theorem dX8_ahead_0 : decode cX8_ahead 0 = .ok (.aload_n 0, 1) := by decide +kernel
theorem dX8_ahead_1 : decode cX8_ahead 1 = .ok (.getfield 10, 3) := by decide +kernel
theorem dX8_ahead_4 : decode cX8_ahead 4 = .ok (.iload_n 1, 1) := by decide +kernel
theorem dX8_ahead_5 : decode cX8_ahead 5 = .ok (.invokevirtual 153, 3) := by decide +kernel
theorem dX8_ahead_8 : decode cX8_ahead 8 = .ok (.ifCond .ne 9, 3) := by decide +kernel
theorem dX8_ahead_11 : decode cX8_ahead 11 = .ok (.aload_n 0, 1) := by decide +kernel
theorem dX8_ahead_12 : decode cX8_ahead 12 = .ok (.iconst (-1), 1) := by decide +kernel
theorem dX8_ahead_13 : decode cX8_ahead 13 = .ok (.invokevirtual 71, 3) := by decide +kernel
theorem dX8_ahead_16 : decode cX8_ahead 16 = .ok (.ireturn, 1) := by decide +kernel
theorem dX8_ahead_17 : decode cX8_ahead 17 = .ok (.aload_n 0, 1) := by decide +kernel
theorem dX8_ahead_18 : decode cX8_ahead 18 = .ok (.getfield 10, 3) := by decide +kernel
theorem dX8_ahead_21 : decode cX8_ahead 21 = .ok (.iload_n 1, 1) := by decide +kernel
theorem dX8_ahead_22 : decode cX8_ahead 22 = .ok (.invokevirtual 282, 3) := by decide +kernel
theorem dX8_ahead_25 : decode cX8_ahead 25 = .ok (.ireturn, 1) := by decide +kernel
set_option maxRecDepth 20000 in
set_option maxHeartbeats 4000000 in
theorem s_X8_ahead (l : Launch) (g : GG) {q0 : Nat} (hq0 : kd q0 = 7) {a1 : Int32} {σ : SS} {r : Int32 × SS} (h : f_X8_ahead q0 a1 σ = some r) : CT l g 2 yX8_ahead cX8_ahead 2 (some .int) [.ref (g.1 q0), .int a1] σ (some (.int r.1), r.2) := by
  refine CT.of (lv := [(0, .ref (g.1 q0)), (1, .int a1)]) RX8 (by decide +kernel) rfl (Nat.le_of_ble_eq_true rfl) rfl ?_
  unfold f_X8_ahead at h
  refine vr_aload_n (pc := 0) 0 dX8_ahead_0 rfl rfl ?_
  refine vr_getR (pc := 1) 0 dX8_ahead_1 fi_X8_10 hq0 (sh_7_0 hq0).1 ?_
  refine vr_iload_n (pc := 4) 1 dX8_ahead_4 rfl rfl ?_
  refine vr_callV (pc := 5) (ρ1 := (some (.int (f_X4_isTooth (rid q0 0) a1 σ)), σ)) [.int a1] dX8_ahead_5 (s_X4_isTooth l g (sh_7_0 hq0).2 rfl) cw_X4_isTooth ml_X8_153 (sh_7_0 hq0).2 rfl (by decide) (by decide) rfl rfl (Nat.le_of_ble_eq_true rfl) ?_
  refine vr_if_ne (pc := 8) 17 dX8_ahead_8 (by decide) (fun c1 => ?_) (fun c1 => ?_)
  · rw [if_neg c1] at h
    refine vr_aload_n (pc := 17) 0 dX8_ahead_17 rfl rfl ?_
    refine vr_getR (pc := 18) 0 dX8_ahead_18 fi_X8_10 hq0 (sh_7_0 hq0).1 ?_
    refine vr_iload_n (pc := 21) 1 dX8_ahead_21 rfl rfl ?_
    obtain ⟨z2, hz3, h⟩ := ob_some h
    refine vr_callV (pc := 22) (ρ1 := (some (.int z2), σ)) [.int a1] dX8_ahead_22 (s_X4_inkedFrom l g (sh_7_0 hq0).2 hz3) cw_X4_inkedFrom ml_X8_282 (sh_7_0 hq0).2 rfl (by decide) (by decide) rfl rfl (Nat.le_of_ble_eq_true rfl) ?_
    have h := Option.some.inj h; subst h
    exact vr_iret (pc := 25) .int dX8_ahead_25 rfl rfl rfl
  · rw [if_pos c1] at h
    refine vr_aload_n (pc := 11) 0 dX8_ahead_11 rfl rfl ?_
    refine vr_iconst (pc := 12) (-1) dX8_ahead_12 ci_m1 ?_
    obtain ⟨z4, hz5, h⟩ := ob_some h
    refine vr_callV (pc := 13) (ρ1 := (some (.int z4.1), z4.2)) [.int (-1)] dX8_ahead_13 (s_X8_refuse l g (hq0) hz5) cw_X8_refuse ml_X8_71 hq0 rfl (by decide) (by decide) rfl rfl (Nat.le_of_ble_eq_true rfl) ?_
    have h := Option.some.inj h; subst h
    exact vr_iret (pc := 16) .int dX8_ahead_16 rfl rfl rfl
theorem dX8_rowAt_0 : decode cX8_rowAt 0 = .ok (.iload_n 1, 1) := by decide +kernel
theorem dX8_rowAt_1 : decode cX8_rowAt 1 = .ok (.ifCond .lt 17, 3) := by decide +kernel
theorem dX8_rowAt_4 : decode cX8_rowAt 4 = .ok (.iload_n 1, 1) := by decide +kernel
theorem dX8_rowAt_5 : decode cX8_rowAt 5 = .ok (.iconst 3, 1) := by decide +kernel
theorem dX8_rowAt_6 : decode cX8_rowAt 6 = .ok (.if_icmp .ge 12, 3) := by decide +kernel
theorem dX8_rowAt_9 : decode cX8_rowAt 9 = .ok (.aload_n 0, 1) := by decide +kernel
theorem dX8_rowAt_10 : decode cX8_rowAt 10 = .ok (.getfield 38, 3) := by decide +kernel
theorem dX8_rowAt_13 : decode cX8_rowAt 13 = .ok (.iload_n 1, 1) := by decide +kernel
theorem dX8_rowAt_14 : decode cX8_rowAt 14 = .ok (.aaload, 1) := by decide +kernel
theorem dX8_rowAt_15 : decode cX8_rowAt 15 = .ok (.goto 4, 3) := by decide +kernel
theorem dX8_rowAt_18 : decode cX8_rowAt 18 = .ok (.aconst_null, 1) := by decide +kernel
theorem dX8_rowAt_19 : decode cX8_rowAt 19 = .ok (.areturn, 1) := by decide +kernel
set_option maxRecDepth 20000 in
set_option maxHeartbeats 4000000 in
theorem s_X8_rowAt (l : Launch) (g : GG) {q0 : Nat} (hq0 : kd q0 = 7) {a1 : Int32} {σ : SS} {r : Option Nat} (h : f_X8_rowAt q0 a1 σ = some r) : CT l g 0 yX8_rowAt cX8_rowAt 2 (some (.object "WheelOnWheel$Row")) [.ref (g.1 q0), .int a1] σ (some (rvO g r), σ) := by
  refine CT.of (lv := [(0, .ref (g.1 q0)), (1, .int a1)]) RX8 (by decide +kernel) rfl (Nat.le_of_ble_eq_true rfl) rfl ?_
  unfold f_X8_rowAt at h
  refine vr_iload_n (pc := 0) 1 dX8_rowAt_0 rfl rfl ?_
  refine vr_if_lt (pc := 1) 18 dX8_rowAt_1 (by decide) (fun c1 => ?_) (fun c1 => ?_)
  · rw [if_pos c1] at h
    refine vr_null (pc := 18) dX8_rowAt_18 ?_
    have h := Option.some.inj h; subst h
    exact vr_aret (pc := 19) (o := none) dX8_rowAt_19 rfl rfl
  · rw [if_neg c1] at h
    refine vr_iload_n (pc := 4) 1 dX8_rowAt_4 rfl rfl ?_
    refine vr_iconst (pc := 5) 3 dX8_rowAt_5 ci_3 ?_
    refine vr_icmp_ge (pc := 6) 18 dX8_rowAt_6 (by decide) (fun c2 => ?_) (fun c2 => ?_)
    · rw [if_pos c2] at h
      refine vr_null (pc := 18) dX8_rowAt_18 ?_
      have h := Option.some.inj h; subst h
      exact vr_aret (pc := 19) (o := none) dX8_rowAt_19 rfl rfl
    · rw [if_neg c2] at h
      refine vr_aload_n (pc := 9) 0 dX8_rowAt_9 rfl rfl ?_
      refine vr_getR (pc := 10) 6 dX8_rowAt_10 fi_X8_38 hq0 (sh_7_6 hq0).1 ?_
      refine vr_iload_n (pc := 13) 1 dX8_rowAt_13 rfl rfl ?_
      obtain ⟨hc3, h⟩ := ck_some h
      refine vr_aald (pc := 14) dX8_rowAt_14 (sh_7_6 hq0).2 (by decide) hc3 (sha_14 (sh_7_6 hq0).2 (lt_ck hc3)).1 ?_
      refine vr_goto (pc := 15) 19 dX8_rowAt_15 (by decide) ?_
      have h := Option.some.inj h; subst h
      exact vr_aret (pc := 19) (o := (some (rid (rid q0 6) a1.toNatClampNeg))) dX8_rowAt_19 rfl rfl
theorem dX8_fits_0 : decode cX8_fits 0 = .ok (.aload_n 0, 1) := by decide +kernel
theorem dX8_fits_1 : decode cX8_fits 1 = .ok (.iload_n 1, 1) := by decide +kernel
theorem dX8_fits_2 : decode cX8_fits 2 = .ok (.invokevirtual 291, 3) := by decide +kernel
theorem dX8_fits_5 : decode cX8_fits 5 = .ok (.astore 4, 2) := by decide +kernel
theorem dX8_fits_7 : decode cX8_fits 7 = .ok (.aload 4, 2) := by decide +kernel
theorem dX8_fits_9 : decode cX8_fits 9 = .ok (.ifnonnull 9, 3) := by decide +kernel
theorem dX8_fits_12 : decode cX8_fits 12 = .ok (.aload_n 0, 1) := by decide +kernel
theorem dX8_fits_13 : decode cX8_fits 13 = .ok (.iconst (-1), 1) := by decide +kernel
theorem dX8_fits_14 : decode cX8_fits 14 = .ok (.invokevirtual 159, 3) := by decide +kernel
theorem dX8_fits_17 : decode cX8_fits 17 = .ok (.lreturn, 1) := by decide +kernel
theorem dX8_fits_18 : decode cX8_fits 18 = .ok (.iload_n 2, 1) := by decide +kernel
theorem dX8_fits_19 : decode cX8_fits 19 = .ok (.ifCond .lt 9, 3) := by decide +kernel
theorem dX8_fits_22 : decode cX8_fits 22 = .ok (.iload_n 2, 1) := by decide +kernel
theorem dX8_fits_23 : decode cX8_fits 23 = .ok (.bipush 6, 2) := by decide +kernel
theorem dX8_fits_25 : decode cX8_fits 25 = .ok (.if_icmp .lt 10, 3) := by decide +kernel
theorem dX8_fits_28 : decode cX8_fits 28 = .ok (.aload_n 0, 1) := by decide +kernel
theorem dX8_fits_29 : decode cX8_fits 29 = .ok (.bipush (-2), 2) := by decide +kernel
theorem dX8_fits_31 : decode cX8_fits 31 = .ok (.invokevirtual 159, 3) := by decide +kernel
theorem dX8_fits_34 : decode cX8_fits 34 = .ok (.lreturn, 1) := by decide +kernel
theorem dX8_fits_35 : decode cX8_fits 35 = .ok (.iload_n 3, 1) := by decide +kernel
theorem dX8_fits_36 : decode cX8_fits 36 = .ok (.ifCond .ge 10, 3) := by decide +kernel
theorem dX8_fits_39 : decode cX8_fits 39 = .ok (.aload_n 0, 1) := by decide +kernel
theorem dX8_fits_40 : decode cX8_fits 40 = .ok (.bipush (-4), 2) := by decide +kernel
theorem dX8_fits_42 : decode cX8_fits 42 = .ok (.invokevirtual 159, 3) := by decide +kernel
theorem dX8_fits_45 : decode cX8_fits 45 = .ok (.lreturn, 1) := by decide +kernel
theorem dX8_fits_46 : decode cX8_fits 46 = .ok (.iload_n 3, 1) := by decide +kernel
theorem dX8_fits_47 : decode cX8_fits 47 = .ok (.bipush 9, 2) := by decide +kernel
theorem dX8_fits_49 : decode cX8_fits 49 = .ok (.if_icmp .le 10, 3) := by decide +kernel
theorem dX8_fits_52 : decode cX8_fits 52 = .ok (.aload_n 0, 1) := by decide +kernel
theorem dX8_fits_53 : decode cX8_fits 53 = .ok (.bipush (-6), 2) := by decide +kernel
theorem dX8_fits_55 : decode cX8_fits 55 = .ok (.invokevirtual 159, 3) := by decide +kernel
theorem dX8_fits_58 : decode cX8_fits 58 = .ok (.lreturn, 1) := by decide +kernel
theorem dX8_fits_59 : decode cX8_fits 59 = .ok (.aload 4, 2) := by decide +kernel
theorem dX8_fits_61 : decode cX8_fits 61 = .ok (.invokevirtual 295, 3) := by decide +kernel
theorem dX8_fits_64 : decode cX8_fits 64 = .ok (.ifCond .eq 10, 3) := by decide +kernel
theorem dX8_fits_67 : decode cX8_fits 67 = .ok (.aload_n 0, 1) := by decide +kernel
theorem dX8_fits_68 : decode cX8_fits 68 = .ok (.bipush (-11), 2) := by decide +kernel
theorem dX8_fits_70 : decode cX8_fits 70 = .ok (.invokevirtual 159, 3) := by decide +kernel
theorem dX8_fits_73 : decode cX8_fits 73 = .ok (.lreturn, 1) := by decide +kernel
theorem dX8_fits_74 : decode cX8_fits 74 = .ok (.aload_n 0, 1) := by decide +kernel
theorem dX8_fits_75 : decode cX8_fits 75 = .ok (.getfield 10, 3) := by decide +kernel
theorem dX8_fits_78 : decode cX8_fits 78 = .ok (.aload 4, 2) := by decide +kernel
theorem dX8_fits_80 : decode cX8_fits 80 = .ok (.invokevirtual 299, 3) := by decide +kernel
theorem dX8_fits_83 : decode cX8_fits 83 = .ok (.ifCond .ne 10, 3) := by decide +kernel
theorem dX8_fits_86 : decode cX8_fits 86 = .ok (.aload_n 0, 1) := by decide +kernel
theorem dX8_fits_87 : decode cX8_fits 87 = .ok (.bipush (-3), 2) := by decide +kernel
theorem dX8_fits_89 : decode cX8_fits 89 = .ok (.invokevirtual 159, 3) := by decide +kernel
theorem dX8_fits_92 : decode cX8_fits 92 = .ok (.lreturn, 1) := by decide +kernel
theorem dX8_fits_93 : decode cX8_fits 93 = .ok (.lconst 0, 1) := by decide +kernel
theorem dX8_fits_94 : decode cX8_fits 94 = .ok (.lstore 5, 2) := by decide +kernel
theorem dX8_fits_96 : decode cX8_fits 96 = .ok (.iconst 1, 1) := by decide +kernel
theorem dX8_fits_97 : decode cX8_fits 97 = .ok (.istore 7, 2) := by decide +kernel
theorem dX8_fits_99 : decode cX8_fits 99 = .ok (.iload 7, 2) := by decide +kernel
theorem dX8_fits_101 : decode cX8_fits 101 = .ok (.aload_n 0, 1) := by decide +kernel
theorem dX8_fits_102 : decode cX8_fits 102 = .ok (.getfield 10, 3) := by decide +kernel
theorem dX8_fits_105 : decode cX8_fits 105 = .ok (.getfield 105, 3) := by decide +kernel
theorem dX8_fits_108 : decode cX8_fits 108 = .ok (.if_icmp .ge 47, 3) := by decide +kernel
theorem dX8_fits_111 : decode cX8_fits 111 = .ok (.aload_n 0, 1) := by decide +kernel
theorem dX8_fits_112 : decode cX8_fits 112 = .ok (.getfield 62, 3) := by decide +kernel
theorem dX8_fits_115 : decode cX8_fits 115 = .ok (.iload_n 2, 1) := by decide +kernel
theorem dX8_fits_116 : decode cX8_fits 116 = .ok (.iload 7, 2) := by decide +kernel
theorem dX8_fits_118 : decode cX8_fits 118 = .ok (.iload_n 3, 1) := by decide +kernel
theorem dX8_fits_119 : decode cX8_fits 119 = .ok (.iconst 0, 1) := by decide +kernel
theorem dX8_fits_120 : decode cX8_fits 120 = .ok (.iconst 1, 1) := by decide +kernel
theorem dX8_fits_121 : decode cX8_fits 121 = .ok (.invokevirtual 303, 3) := by decide +kernel
theorem dX8_fits_124 : decode cX8_fits 124 = .ok (.aload_n 0, 1) := by decide +kernel
theorem dX8_fits_125 : decode cX8_fits 125 = .ok (.getfield 10, 3) := by decide +kernel
theorem dX8_fits_128 : decode cX8_fits 128 = .ok (.aload 4, 2) := by decide +kernel
theorem dX8_fits_130 : decode cX8_fits 130 = .ok (.aload_n 0, 1) := by decide +kernel
theorem dX8_fits_131 : decode cX8_fits 131 = .ok (.getfield 62, 3) := by decide +kernel
theorem dX8_fits_134 : decode cX8_fits 134 = .ok (.invokevirtual 306, 3) := by decide +kernel
theorem dX8_fits_137 : decode cX8_fits 137 = .ok (.ifCond .eq 12, 3) := by decide +kernel
theorem dX8_fits_140 : decode cX8_fits 140 = .ok (.lload 5, 2) := by decide +kernel
theorem dX8_fits_142 : decode cX8_fits 142 = .ok (.lconst 1, 1) := by decide +kernel
theorem dX8_fits_143 : decode cX8_fits 143 = .ok (.iload 7, 2) := by decide +kernel
theorem dX8_fits_145 : decode cX8_fits 145 = .ok (.lshl, 1) := by decide +kernel
theorem dX8_fits_146 : decode cX8_fits 146 = .ok (.lor, 1) := by decide +kernel
theorem dX8_fits_147 : decode cX8_fits 147 = .ok (.lstore 5, 2) := by decide +kernel
theorem dX8_fits_149 : decode cX8_fits 149 = .ok (.iinc 7 1, 3) := by decide +kernel
theorem dX8_fits_152 : decode cX8_fits 152 = .ok (.goto (-53), 3) := by decide +kernel
theorem dX8_fits_155 : decode cX8_fits 155 = .ok (.lload 5, 2) := by decide +kernel
theorem dX8_fits_157 : decode cX8_fits 157 = .ok (.lreturn, 1) := by decide +kernel
set_option maxRecDepth 20000 in
set_option maxHeartbeats 4000000 in
theorem v_X8_fits_L99 (l : Launch) (g : GG) {r : Int64 × SS} {κ : Int64 → SS → Option (Int64 × SS)} (hκ : ∀ (y5 : Int64) (τ : SS) , κ y5 τ = some r → VV l g 4 RX8 cX8_fits 8 (some .long) (some (.long r.1), r.2) 155 [(5, .long y5)] [] τ) : ∀ (fu : Nat) (q0 : Nat) (x2 : Int32) (x3 : Int32) (q4 : Nat) (x5 : Int64) (x7 : Int32) (hq0 : kd q0 = 7) (hq4 : kd q4 = 4) (σ : SS), f_X8_fits_L99 κ fu q0 x2 x3 q4 x5 x7 σ = some r → VV l g 4 RX8 cX8_fits 8 (some .long) (some (.long r.1), r.2) 99 [(0, .ref (g.1 q0)), (2, .int x2), (3, .int x3), (4, .ref (g.1 q4)), (5, .long x5), (7, .int x7)] [] σ := by
  intro fu
  induction fu with
  | zero => intro q0 x2 x3 q4 x5 x7 hq0 hq4 σ h; cases h
  | succ fu ih =>
    intro q0 x2 x3 q4 x5 x7 hq0 hq4 σ h
    simp only [f_X8_fits_L99] at h
    refine vr_iload (pc := 99) 5 dX8_fits_99 rfl ?_
    refine vr_aload_n (pc := 101) 0 dX8_fits_101 rfl rfl ?_
    refine vr_getR (pc := 102) 0 dX8_fits_102 fi_X8_10 hq0 (sh_7_0 hq0).1 ?_
    refine vr_getI (pc := 105) 0 dX8_fits_105 fi_X8_105 (sh_7_0 hq0).2 (sh_3_0 (sh_7_0 hq0).2) ?_
    refine vr_icmp_ge (pc := 108) 155 dX8_fits_108 (by decide) (fun c15 => ?_) (fun c15 => ?_)
    · rw [if_pos c15] at h
      refine vr_sub [4] [(5, .long x5)] rfl ?_
      exact hκ x5 σ h
    · rw [if_neg c15] at h
      refine vr_aload_n (pc := 111) 0 dX8_fits_111 rfl rfl ?_
      refine vr_getR (pc := 112) 10 dX8_fits_112 fi_X8_62 hq0 (sh_7_10 hq0).1 ?_
      refine vr_iload_n (pc := 115) 1 dX8_fits_115 rfl rfl ?_
      refine vr_iload (pc := 116) 5 dX8_fits_116 rfl ?_
      refine vr_iload_n (pc := 118) 2 dX8_fits_118 rfl rfl ?_
      refine vr_iconst (pc := 119) 0 dX8_fits_119 ci_0 ?_
      refine vr_iconst (pc := 120) 1 dX8_fits_120 ci_1 ?_
      obtain ⟨z16, hz17, h⟩ := ob_some h
      refine vr_callV (pc := 121) (ρ1 := (none, z16)) [.int x2, .int x7, .int x3, .int 0, .int 1] dX8_fits_121 (s_X7_set l g (sh_7_10 hq0).2 hz17) cw_X7_set ml_X8_303 (sh_7_10 hq0).2 rfl (by decide) (by decide) rfl rfl (Nat.le_of_ble_eq_true rfl) ?_
      refine vr_aload_n (pc := 124) 0 dX8_fits_124 rfl rfl ?_
      refine vr_getR (pc := 125) 0 dX8_fits_125 fi_X8_10 hq0 (sh_7_0 hq0).1 ?_
      refine vr_aload (pc := 128) 3 dX8_fits_128 rfl ?_
      refine vr_aload_n (pc := 130) 0 dX8_fits_130 rfl rfl ?_
      refine vr_getR (pc := 131) 10 dX8_fits_131 fi_X8_62 hq0 (sh_7_10 hq0).1 ?_
      obtain ⟨z18, hz19, h⟩ := ob_some h
      refine vr_callV (pc := 134) (ρ1 := (some (.int z18), z16)) [.ref (g.1 q4), .ref (g.1 (rid q0 10))] dX8_fits_134 (s_X4_leads l g (sh_7_0 hq0).2 (hq4) (sh_7_10 hq0).2 hz19) cw_X4_leads ml_X8_306 (sh_7_0 hq0).2 rfl (by decide) (by decide) rfl rfl (Nat.le_of_ble_eq_true rfl) ?_
      refine vr_if_eq (pc := 137) 149 dX8_fits_137 (by decide) (fun c20 => ?_) (fun c20 => ?_)
      · rw [if_pos c20] at h
        refine vr_iinc (pc := 149) [(7, .int (x7 + 1)), (0, .ref (g.1 q0)), (2, .int x2), (3, .int x3), (4, .ref (g.1 q4)), (5, .long x5)] 5 dX8_fits_149 rfl (congrArg (fun z => x7 + z) ci_1) (by decide) rfl ?_
        refine vr_goto (pc := 152) 99 dX8_fits_152 (by decide) ?_
        refine vr_sub [1, 2, 3, 4, 5, 0] [(0, .ref (g.1 q0)), (2, .int x2), (3, .int x3), (4, .ref (g.1 q4)), (5, .long x5), (7, .int (x7 + 1))] rfl ?_
        exact ih q0 x2 x3 q4 x5 (x7 + 1) (hq0) (hq4) z16 h
      · rw [if_neg c20] at h
        refine vr_lload (pc := 140) 4 dX8_fits_140 rfl ?_
        refine vr_lconst (pc := 142) 1 dX8_fits_142 (by decide) ?_
        refine vr_iload (pc := 143) 5 dX8_fits_143 rfl ?_
        refine vr_lshl (pc := 145) dX8_fits_145 ?_
        refine vr_lor (pc := 146) dX8_fits_146 ?_
        refine vr_lstore (pc := 147) [(5, .long (x5 ||| ((1 : Int64) <<< (x7.toInt64 &&& 63)))), (0, .ref (g.1 q0)), (2, .int x2), (3, .int x3), (4, .ref (g.1 q4)), (7, .int x7)] dX8_fits_147 (by decide) rfl ?_
        refine vr_iinc (pc := 149) [(7, .int (x7 + 1)), (5, .long (x5 ||| ((1 : Int64) <<< (x7.toInt64 &&& 63)))), (0, .ref (g.1 q0)), (2, .int x2), (3, .int x3), (4, .ref (g.1 q4))] 5 dX8_fits_149 rfl (congrArg (fun z => x7 + z) ci_1) (by decide) rfl ?_
        refine vr_goto (pc := 152) 99 dX8_fits_152 (by decide) ?_
        refine vr_sub [2, 3, 4, 5, 1, 0] [(0, .ref (g.1 q0)), (2, .int x2), (3, .int x3), (4, .ref (g.1 q4)), (5, .long (x5 ||| ((1 : Int64) <<< (x7.toInt64 &&& 63)))), (7, .int (x7 + 1))] rfl ?_
        exact ih q0 x2 x3 q4 (x5 ||| ((1 : Int64) <<< (x7.toInt64 &&& 63))) (x7 + 1) (hq0) (hq4) z16 h
set_option maxRecDepth 20000 in
set_option maxHeartbeats 4000000 in
theorem s_X8_fits (l : Launch) (g : GG) {q0 : Nat} (hq0 : kd q0 = 7) {a1 : Int32} {a2 : Int32} {a3 : Int32} {σ : SS} {r : Int64 × SS} (h : f_X8_fits q0 a1 a2 a3 σ = some r) : CT l g 4 yX8_fits cX8_fits 8 (some .long) [.ref (g.1 q0), .int a1, .int a2, .int a3] σ (some (.long r.1), r.2) := by
  refine CT.of (lv := [(0, .ref (g.1 q0)), (1, .int a1), (2, .int a2), (3, .int a3)]) RX8 (by decide +kernel) rfl (Nat.le_of_ble_eq_true rfl) rfl ?_
  unfold f_X8_fits at h
  refine vr_aload_n (pc := 0) 0 dX8_fits_0 rfl rfl ?_
  refine vr_iload_n (pc := 1) 1 dX8_fits_1 rfl rfl ?_
  obtain ⟨z1, hz2, h⟩ := ob_some h
  refine vr_callV (pc := 2) (ρ1 := (some (rvO g z1), σ)) [.int a1] dX8_fits_2 (s_X8_rowAt l g (hq0) hz2) cw_X8_rowAt ml_X8_291 hq0 rfl (by decide) (by decide) rfl rfl (Nat.le_of_ble_eq_true rfl) ?_
  refine vr_astoreO (pc := 5) [(4, rvO g z1), (0, .ref (g.1 q0)), (1, .int a1), (2, .int a2), (3, .int a3)] dX8_fits_5 (by decide) rfl ?_
  refine vr_aloadO (pc := 7) 0 dX8_fits_7 rfl ?_
  refine vr_ifnonnull (pc := 9) 18 dX8_fits_9 (by decide) (fun w3 hw4 => ?_) (fun hn33 => ?_)
  · simp only [hw4] at h
    refine vr_sub [0, 1, 2, 3, 4] [(4, .ref (g.1 w3)), (0, .ref (g.1 q0)), (1, .int a1), (2, .int a2), (3, .int a3)] (by rw [hw4]; rfl) ?_
    refine vr_iload_n (pc := 18) 3 dX8_fits_18 rfl rfl ?_
    refine vr_if_lt (pc := 19) 28 dX8_fits_19 (by decide) (fun c5 => ?_) (fun c5 => ?_)
    · rw [if_pos c5] at h
      refine vr_aload_n (pc := 28) 1 dX8_fits_28 rfl rfl ?_
      refine vr_bipush (pc := 29) (-2) dX8_fits_29 cb_m2 ?_
      obtain ⟨z6, hz7, h⟩ := ob_some h
      refine vr_callV (pc := 31) (ρ1 := (some (.long z6.1), z6.2)) [.int (-2)] dX8_fits_31 (s_X8_refuseLong l g (hq0) hz7) cw_X8_refuseLong ml_X8_159 hq0 rfl (by decide) (by decide) rfl rfl (Nat.le_of_ble_eq_true rfl) ?_
      have h := Option.some.inj h; subst h
      exact vr_lret (pc := 34) dX8_fits_34 rfl rfl
    · rw [if_neg c5] at h
      refine vr_iload_n (pc := 22) 3 dX8_fits_22 rfl rfl ?_
      refine vr_bipush (pc := 23) 6 dX8_fits_23 cb_6 ?_
      refine vr_icmp_lt (pc := 25) 35 dX8_fits_25 (by decide) (fun c8 => ?_) (fun c8 => ?_)
      · rw [if_pos c8] at h
        refine vr_iload_n (pc := 35) 4 dX8_fits_35 rfl rfl ?_
        refine vr_if_ge (pc := 36) 46 dX8_fits_36 (by decide) (fun c9 => ?_) (fun c9 => ?_)
        · rw [if_pos c9] at h
          refine vr_iload_n (pc := 46) 4 dX8_fits_46 rfl rfl ?_
          refine vr_bipush (pc := 47) 9 dX8_fits_47 cb_9 ?_
          refine vr_icmp_le (pc := 49) 59 dX8_fits_49 (by decide) (fun c10 => ?_) (fun c10 => ?_)
          · rw [if_pos c10] at h
            refine vr_aload (pc := 59) 0 dX8_fits_59 rfl ?_
            refine vr_callV (pc := 61) (ρ1 := (some (.int (f_X5_isMissing w3 σ)), σ)) [] dX8_fits_61 (s_X5_isMissing l g ((kf_X8_rowAt hz2 (hq0)) w3 hw4) rfl) cw_X5_isMissing ml_X8_295 ((kf_X8_rowAt hz2 (hq0)) w3 hw4) rfl (by decide) (by decide) rfl rfl (Nat.le_of_ble_eq_true rfl) ?_
            refine vr_if_eq (pc := 64) 74 dX8_fits_64 (by decide) (fun c11 => ?_) (fun c11 => ?_)
            · rw [if_pos c11] at h
              refine vr_aload_n (pc := 74) 1 dX8_fits_74 rfl rfl ?_
              refine vr_getR (pc := 75) 0 dX8_fits_75 fi_X8_10 hq0 (sh_7_0 hq0).1 ?_
              refine vr_aload (pc := 78) 0 dX8_fits_78 rfl ?_
              obtain ⟨z12, hz13, h⟩ := ob_some h
              refine vr_callV (pc := 80) (ρ1 := (some (.int z12), σ)) [.ref (g.1 w3)] dX8_fits_80 (s_X4_tellsTeeth l g (sh_7_0 hq0).2 ((kf_X8_rowAt hz2 (hq0)) w3 hw4) hz13) cw_X4_tellsTeeth ml_X8_299 (sh_7_0 hq0).2 rfl (by decide) (by decide) rfl rfl (Nat.le_of_ble_eq_true rfl) ?_
              refine vr_if_ne (pc := 83) 93 dX8_fits_83 (by decide) (fun c14 => ?_) (fun c14 => ?_)
              · rw [if_neg c14] at h
                refine vr_lconst (pc := 93) 0 dX8_fits_93 (by decide) ?_
                refine vr_lstore (pc := 94) [(5, .long (0 : Int64)), (4, .ref (g.1 w3)), (0, .ref (g.1 q0)), (1, .int a1), (2, .int a2), (3, .int a3)] dX8_fits_94 (by decide) rfl ?_
                refine vr_iconst (pc := 96) 1 dX8_fits_96 ci_1 ?_
                refine vr_istore (pc := 97) [(7, .int 1), (5, .long (0 : Int64)), (4, .ref (g.1 w3)), (0, .ref (g.1 q0)), (1, .int a1), (2, .int a2), (3, .int a3)] dX8_fits_97 (by decide) rfl ?_
                refine vr_sub [3, 5, 6, 2, 1, 0] [(0, .ref (g.1 q0)), (2, .int a2), (3, .int a3), (4, .ref (g.1 w3)), (5, .long (0 : Int64)), (7, .int 1)] rfl ?_
                refine v_X8_fits_L99 l g (fun y5 τ h => ?_) FU q0 a2 a3 w3 (0 : Int64) 1 (hq0) (((kf_X8_rowAt hz2 (hq0)) w3 hw4)) σ h
                refine vr_lload (pc := 155) 0 dX8_fits_155 rfl ?_
                have h := Option.some.inj h; subst h
                exact vr_lret (pc := 157) dX8_fits_157 rfl rfl
              · rw [if_pos c14] at h
                refine vr_aload_n (pc := 86) 1 dX8_fits_86 rfl rfl ?_
                refine vr_bipush (pc := 87) (-3) dX8_fits_87 cb_m3 ?_
                obtain ⟨z21, hz22, h⟩ := ob_some h
                refine vr_callV (pc := 89) (ρ1 := (some (.long z21.1), z21.2)) [.int (-3)] dX8_fits_89 (s_X8_refuseLong l g (hq0) hz22) cw_X8_refuseLong ml_X8_159 hq0 rfl (by decide) (by decide) rfl rfl (Nat.le_of_ble_eq_true rfl) ?_
                have h := Option.some.inj h; subst h
                exact vr_lret (pc := 92) dX8_fits_92 rfl rfl
            · rw [if_neg c11] at h
              refine vr_aload_n (pc := 67) 1 dX8_fits_67 rfl rfl ?_
              refine vr_bipush (pc := 68) (-11) dX8_fits_68 cb_m11 ?_
              obtain ⟨z23, hz24, h⟩ := ob_some h
              refine vr_callV (pc := 70) (ρ1 := (some (.long z23.1), z23.2)) [.int (-11)] dX8_fits_70 (s_X8_refuseLong l g (hq0) hz24) cw_X8_refuseLong ml_X8_159 hq0 rfl (by decide) (by decide) rfl rfl (Nat.le_of_ble_eq_true rfl) ?_
              have h := Option.some.inj h; subst h
              exact vr_lret (pc := 73) dX8_fits_73 rfl rfl
          · rw [if_neg c10] at h
            refine vr_aload_n (pc := 52) 1 dX8_fits_52 rfl rfl ?_
            refine vr_bipush (pc := 53) (-6) dX8_fits_53 cb_m6 ?_
            obtain ⟨z25, hz26, h⟩ := ob_some h
            refine vr_callV (pc := 55) (ρ1 := (some (.long z25.1), z25.2)) [.int (-6)] dX8_fits_55 (s_X8_refuseLong l g (hq0) hz26) cw_X8_refuseLong ml_X8_159 hq0 rfl (by decide) (by decide) rfl rfl (Nat.le_of_ble_eq_true rfl) ?_
            have h := Option.some.inj h; subst h
            exact vr_lret (pc := 58) dX8_fits_58 rfl rfl
        · rw [if_neg c9] at h
          refine vr_aload_n (pc := 39) 1 dX8_fits_39 rfl rfl ?_
          refine vr_bipush (pc := 40) (-4) dX8_fits_40 cb_m4 ?_
          obtain ⟨z27, hz28, h⟩ := ob_some h
          refine vr_callV (pc := 42) (ρ1 := (some (.long z27.1), z27.2)) [.int (-4)] dX8_fits_42 (s_X8_refuseLong l g (hq0) hz28) cw_X8_refuseLong ml_X8_159 hq0 rfl (by decide) (by decide) rfl rfl (Nat.le_of_ble_eq_true rfl) ?_
          have h := Option.some.inj h; subst h
          exact vr_lret (pc := 45) dX8_fits_45 rfl rfl
      · rw [if_neg c8] at h
        refine vr_aload_n (pc := 28) 1 dX8_fits_28 rfl rfl ?_
        refine vr_bipush (pc := 29) (-2) dX8_fits_29 cb_m2 ?_
        obtain ⟨z29, hz30, h⟩ := ob_some h
        refine vr_callV (pc := 31) (ρ1 := (some (.long z29.1), z29.2)) [.int (-2)] dX8_fits_31 (s_X8_refuseLong l g (hq0) hz30) cw_X8_refuseLong ml_X8_159 hq0 rfl (by decide) (by decide) rfl rfl (Nat.le_of_ble_eq_true rfl) ?_
        have h := Option.some.inj h; subst h
        exact vr_lret (pc := 34) dX8_fits_34 rfl rfl
  · simp only [hn33] at h
    refine vr_sub [1, 2, 3, 4] [(0, .ref (g.1 q0)), (1, .int a1), (2, .int a2), (3, .int a3)] rfl ?_
    refine vr_aload_n (pc := 12) 0 dX8_fits_12 rfl rfl ?_
    refine vr_iconst (pc := 13) (-1) dX8_fits_13 ci_m1 ?_
    obtain ⟨z31, hz32, h⟩ := ob_some h
    refine vr_callV (pc := 14) (ρ1 := (some (.long z31.1), z31.2)) [.int (-1)] dX8_fits_14 (s_X8_refuseLong l g (hq0) hz32) cw_X8_refuseLong ml_X8_159 hq0 rfl (by decide) (by decide) rfl rfl (Nat.le_of_ble_eq_true rfl) ?_
    have h := Option.some.inj h; subst h
    exact vr_lret (pc := 17) dX8_fits_17 rfl rfl
theorem dX8_kindsThatLead_0 : decode cX8_kindsThatLead 0 = .ok (.iconst 0, 1) := by decide +kernel
theorem dX8_kindsThatLead_1 : decode cX8_kindsThatLead 1 = .ok (.istore_n 3, 1) := by decide +kernel
theorem dX8_kindsThatLead_2 : decode cX8_kindsThatLead 2 = .ok (.iconst 0, 1) := by decide +kernel
theorem dX8_kindsThatLead_3 : decode cX8_kindsThatLead 3 = .ok (.istore 4, 2) := by decide +kernel
theorem dX8_kindsThatLead_5 : decode cX8_kindsThatLead 5 = .ok (.iload 4, 2) := by decide +kernel
theorem dX8_kindsThatLead_7 : decode cX8_kindsThatLead 7 = .ok (.bipush 6, 2) := by decide +kernel
theorem dX8_kindsThatLead_9 : decode cX8_kindsThatLead 9 = .ok (.if_icmp .ge 50, 3) := by decide +kernel
theorem dX8_kindsThatLead_12 : decode cX8_kindsThatLead 12 = .ok (.aload_n 0, 1) := by decide +kernel
theorem dX8_kindsThatLead_13 : decode cX8_kindsThatLead 13 = .ok (.getfield 62, 3) := by decide +kernel
theorem dX8_kindsThatLead_16 : decode cX8_kindsThatLead 16 = .ok (.iload 4, 2) := by decide +kernel
theorem dX8_kindsThatLead_18 : decode cX8_kindsThatLead 18 = .ok (.aload_n 2, 1) := by decide +kernel
theorem dX8_kindsThatLead_19 : decode cX8_kindsThatLead 19 = .ok (.getfield 129, 3) := by decide +kernel
theorem dX8_kindsThatLead_22 : decode cX8_kindsThatLead 22 = .ok (.aload_n 2, 1) := by decide +kernel
theorem dX8_kindsThatLead_23 : decode cX8_kindsThatLead 23 = .ok (.getfield 130, 3) := by decide +kernel
theorem dX8_kindsThatLead_26 : decode cX8_kindsThatLead 26 = .ok (.iconst 0, 1) := by decide +kernel
theorem dX8_kindsThatLead_27 : decode cX8_kindsThatLead 27 = .ok (.iconst 1, 1) := by decide +kernel
theorem dX8_kindsThatLead_28 : decode cX8_kindsThatLead 28 = .ok (.invokevirtual 303, 3) := by decide +kernel
theorem dX8_kindsThatLead_31 : decode cX8_kindsThatLead 31 = .ok (.aload_n 0, 1) := by decide +kernel
theorem dX8_kindsThatLead_32 : decode cX8_kindsThatLead 32 = .ok (.getfield 10, 3) := by decide +kernel
theorem dX8_kindsThatLead_35 : decode cX8_kindsThatLead 35 = .ok (.aload_n 1, 1) := by decide +kernel
theorem dX8_kindsThatLead_36 : decode cX8_kindsThatLead 36 = .ok (.aload_n 0, 1) := by decide +kernel
theorem dX8_kindsThatLead_37 : decode cX8_kindsThatLead 37 = .ok (.getfield 62, 3) := by decide +kernel
theorem dX8_kindsThatLead_40 : decode cX8_kindsThatLead 40 = .ok (.invokevirtual 306, 3) := by decide +kernel
theorem dX8_kindsThatLead_43 : decode cX8_kindsThatLead 43 = .ok (.ifCond .eq 10, 3) := by decide +kernel
theorem dX8_kindsThatLead_46 : decode cX8_kindsThatLead 46 = .ok (.iload_n 3, 1) := by decide +kernel
theorem dX8_kindsThatLead_47 : decode cX8_kindsThatLead 47 = .ok (.iconst 1, 1) := by decide +kernel
theorem dX8_kindsThatLead_48 : decode cX8_kindsThatLead 48 = .ok (.iload 4, 2) := by decide +kernel
theorem dX8_kindsThatLead_50 : decode cX8_kindsThatLead 50 = .ok (.ishl, 1) := by decide +kernel
theorem dX8_kindsThatLead_51 : decode cX8_kindsThatLead 51 = .ok (.ior, 1) := by decide +kernel
theorem dX8_kindsThatLead_52 : decode cX8_kindsThatLead 52 = .ok (.istore_n 3, 1) := by decide +kernel
theorem dX8_kindsThatLead_53 : decode cX8_kindsThatLead 53 = .ok (.iinc 4 1, 3) := by decide +kernel
theorem dX8_kindsThatLead_56 : decode cX8_kindsThatLead 56 = .ok (.goto (-51), 3) := by decide +kernel
theorem dX8_kindsThatLead_59 : decode cX8_kindsThatLead 59 = .ok (.iload_n 3, 1) := by decide +kernel
theorem dX8_kindsThatLead_60 : decode cX8_kindsThatLead 60 = .ok (.ireturn, 1) := by decide +kernel
set_option maxRecDepth 20000 in
set_option maxHeartbeats 4000000 in
theorem v_X8_kindsThatLead_L5 (l : Launch) (g : GG) {r : Int32 × SS} {κ : Int32 → SS → Option (Int32 × SS)} (hκ : ∀ (y3 : Int32) (τ : SS) , κ y3 τ = some r → VV l g 4 RX8 cX8_kindsThatLead 5 (some .int) (some (.int r.1), r.2) 59 [(3, .int y3)] [] τ) : ∀ (fu : Nat) (q0 : Nat) (q1 : Nat) (q2 : Nat) (x3 : Int32) (x4 : Int32) (hq0 : kd q0 = 7) (hq1 : kd q1 = 4) (hq2 : kd q2 = 6) (σ : SS), f_X8_kindsThatLead_L5 κ fu q0 q1 q2 x3 x4 σ = some r → VV l g 4 RX8 cX8_kindsThatLead 5 (some .int) (some (.int r.1), r.2) 5 [(0, .ref (g.1 q0)), (1, .ref (g.1 q1)), (2, .ref (g.1 q2)), (3, .int x3), (4, .int x4)] [] σ := by
  intro fu
  induction fu with
  | zero => intro q0 q1 q2 x3 x4 hq0 hq1 hq2 σ h; cases h
  | succ fu ih =>
    intro q0 q1 q2 x3 x4 hq0 hq1 hq2 σ h
    simp only [f_X8_kindsThatLead_L5] at h
    refine vr_iload (pc := 5) 4 dX8_kindsThatLead_5 rfl ?_
    refine vr_bipush (pc := 7) 6 dX8_kindsThatLead_7 cb_6 ?_
    refine vr_icmp_ge (pc := 9) 59 dX8_kindsThatLead_9 (by decide) (fun c1 => ?_) (fun c1 => ?_)
    · rw [if_pos c1] at h
      refine vr_sub [3] [(3, .int x3)] rfl ?_
      exact hκ x3 σ h
    · rw [if_neg c1] at h
      refine vr_aload_n (pc := 12) 0 dX8_kindsThatLead_12 rfl rfl ?_
      refine vr_getR (pc := 13) 10 dX8_kindsThatLead_13 fi_X8_62 hq0 (sh_7_10 hq0).1 ?_
      refine vr_iload (pc := 16) 4 dX8_kindsThatLead_16 rfl ?_
      refine vr_aload_n (pc := 18) 2 dX8_kindsThatLead_18 rfl rfl ?_
      refine vr_getI (pc := 19) 1 dX8_kindsThatLead_19 fi_X8_129 hq2 (sh_6_1 hq2) ?_
      refine vr_aload_n (pc := 22) 2 dX8_kindsThatLead_22 rfl rfl ?_
      refine vr_getI (pc := 23) 2 dX8_kindsThatLead_23 fi_X8_130 hq2 (sh_6_2 hq2) ?_
      refine vr_iconst (pc := 26) 0 dX8_kindsThatLead_26 ci_0 ?_
      refine vr_iconst (pc := 27) 1 dX8_kindsThatLead_27 ci_1 ?_
      obtain ⟨z2, hz3, h⟩ := ob_some h
      refine vr_callV (pc := 28) (ρ1 := (none, z2)) [.int x4, .int (σ.1 q2 1), .int (σ.1 q2 2), .int 0, .int 1] dX8_kindsThatLead_28 (s_X7_set l g (sh_7_10 hq0).2 hz3) cw_X7_set ml_X8_303 (sh_7_10 hq0).2 rfl (by decide) (by decide) rfl rfl (Nat.le_of_ble_eq_true rfl) ?_
      refine vr_aload_n (pc := 31) 0 dX8_kindsThatLead_31 rfl rfl ?_
      refine vr_getR (pc := 32) 0 dX8_kindsThatLead_32 fi_X8_10 hq0 (sh_7_0 hq0).1 ?_
      refine vr_aload_n (pc := 35) 1 dX8_kindsThatLead_35 rfl rfl ?_
      refine vr_aload_n (pc := 36) 0 dX8_kindsThatLead_36 rfl rfl ?_
      refine vr_getR (pc := 37) 10 dX8_kindsThatLead_37 fi_X8_62 hq0 (sh_7_10 hq0).1 ?_
      obtain ⟨z4, hz5, h⟩ := ob_some h
      refine vr_callV (pc := 40) (ρ1 := (some (.int z4), z2)) [.ref (g.1 q1), .ref (g.1 (rid q0 10))] dX8_kindsThatLead_40 (s_X4_leads l g (sh_7_0 hq0).2 (hq1) (sh_7_10 hq0).2 hz5) cw_X4_leads ml_X8_306 (sh_7_0 hq0).2 rfl (by decide) (by decide) rfl rfl (Nat.le_of_ble_eq_true rfl) ?_
      refine vr_if_eq (pc := 43) 53 dX8_kindsThatLead_43 (by decide) (fun c6 => ?_) (fun c6 => ?_)
      · rw [if_pos c6] at h
        refine vr_iinc (pc := 53) [(4, .int (x4 + 1)), (0, .ref (g.1 q0)), (1, .ref (g.1 q1)), (2, .ref (g.1 q2)), (3, .int x3)] 4 dX8_kindsThatLead_53 rfl (congrArg (fun z => x4 + z) ci_1) (by decide) rfl ?_
        refine vr_goto (pc := 56) 5 dX8_kindsThatLead_56 (by decide) ?_
        refine vr_sub [1, 2, 3, 4, 0] [(0, .ref (g.1 q0)), (1, .ref (g.1 q1)), (2, .ref (g.1 q2)), (3, .int x3), (4, .int (x4 + 1))] rfl ?_
        exact ih q0 q1 q2 x3 (x4 + 1) (hq0) (hq1) (hq2) z2 h
      · rw [if_neg c6] at h
        refine vr_iload_n (pc := 46) 3 dX8_kindsThatLead_46 rfl rfl ?_
        refine vr_iconst (pc := 47) 1 dX8_kindsThatLead_47 ci_1 ?_
        refine vr_iload (pc := 48) 4 dX8_kindsThatLead_48 rfl ?_
        refine vr_ishl (pc := 50) dX8_kindsThatLead_50 ?_
        refine vr_ior (pc := 51) dX8_kindsThatLead_51 ?_
        refine vr_istore_n (pc := 52) [(3, .int (x3 ||| (1 <<< (x4 &&& 31)))), (0, .ref (g.1 q0)), (1, .ref (g.1 q1)), (2, .ref (g.1 q2)), (4, .int x4)] dX8_kindsThatLead_52 rfl (by decide) rfl ?_
        refine vr_iinc (pc := 53) [(4, .int (x4 + 1)), (3, .int (x3 ||| (1 <<< (x4 &&& 31)))), (0, .ref (g.1 q0)), (1, .ref (g.1 q1)), (2, .ref (g.1 q2))] 4 dX8_kindsThatLead_53 rfl (congrArg (fun z => x4 + z) ci_1) (by decide) rfl ?_
        refine vr_goto (pc := 56) 5 dX8_kindsThatLead_56 (by decide) ?_
        refine vr_sub [2, 3, 4, 1, 0] [(0, .ref (g.1 q0)), (1, .ref (g.1 q1)), (2, .ref (g.1 q2)), (3, .int (x3 ||| (1 <<< (x4 &&& 31)))), (4, .int (x4 + 1))] rfl ?_
        exact ih q0 q1 q2 (x3 ||| (1 <<< (x4 &&& 31))) (x4 + 1) (hq0) (hq1) (hq2) z2 h
set_option maxRecDepth 20000 in
set_option maxHeartbeats 4000000 in
theorem s_X8_kindsThatLead (l : Launch) (g : GG) {q0 : Nat} (hq0 : kd q0 = 7) {q1 : Nat} (hq1 : kd q1 = 4) {q2 : Nat} (hq2 : kd q2 = 6) {σ : SS} {r : Int32 × SS} (h : f_X8_kindsThatLead q0 q1 q2 σ = some r) : CT l g 4 yX8_kindsThatLead cX8_kindsThatLead 5 (some .int) [.ref (g.1 q0), .ref (g.1 q1), .ref (g.1 q2)] σ (some (.int r.1), r.2) := by
  refine CT.of (lv := [(0, .ref (g.1 q0)), (1, .ref (g.1 q1)), (2, .ref (g.1 q2))]) RX8 (by decide +kernel) rfl (Nat.le_of_ble_eq_true rfl) rfl ?_
  unfold f_X8_kindsThatLead at h
  refine vr_iconst (pc := 0) 0 dX8_kindsThatLead_0 ci_0 ?_
  refine vr_istore_n (pc := 1) [(3, .int 0), (0, .ref (g.1 q0)), (1, .ref (g.1 q1)), (2, .ref (g.1 q2))] dX8_kindsThatLead_1 rfl (by decide) rfl ?_
  refine vr_iconst (pc := 2) 0 dX8_kindsThatLead_2 ci_0 ?_
  refine vr_istore (pc := 3) [(4, .int 0), (3, .int 0), (0, .ref (g.1 q0)), (1, .ref (g.1 q1)), (2, .ref (g.1 q2))] dX8_kindsThatLead_3 (by decide) rfl ?_
  refine vr_sub [2, 3, 4, 1, 0] [(0, .ref (g.1 q0)), (1, .ref (g.1 q1)), (2, .ref (g.1 q2)), (3, .int 0), (4, .int 0)] rfl ?_
  refine v_X8_kindsThatLead_L5 l g (fun y3 τ h => ?_) FU q0 q1 q2 0 0 (hq0) (hq1) (hq2) σ h
  refine vr_iload_n (pc := 59) 0 dX8_kindsThatLead_59 rfl rfl ?_
  have h := Option.some.inj h; subst h
  exact vr_iret (pc := 60) .int dX8_kindsThatLead_60 rfl rfl rfl
theorem dX8_figuresThatLead_0 : decode cX8_figuresThatLead 0 = .ok (.iconst 0, 1) := by decide +kernel
theorem dX8_figuresThatLead_1 : decode cX8_figuresThatLead 1 = .ok (.istore_n 3, 1) := by decide +kernel
theorem dX8_figuresThatLead_2 : decode cX8_figuresThatLead 2 = .ok (.iconst 0, 1) := by decide +kernel
theorem dX8_figuresThatLead_3 : decode cX8_figuresThatLead 3 = .ok (.istore 4, 2) := by decide +kernel
theorem dX8_figuresThatLead_5 : decode cX8_figuresThatLead 5 = .ok (.iload 4, 2) := by decide +kernel
theorem dX8_figuresThatLead_7 : decode cX8_figuresThatLead 7 = .ok (.bipush 9, 2) := by decide +kernel
theorem dX8_figuresThatLead_9 : decode cX8_figuresThatLead 9 = .ok (.if_icmp .gt 50, 3) := by decide +kernel
theorem dX8_figuresThatLead_12 : decode cX8_figuresThatLead 12 = .ok (.aload_n 0, 1) := by decide +kernel
theorem dX8_figuresThatLead_13 : decode cX8_figuresThatLead 13 = .ok (.getfield 62, 3) := by decide +kernel
theorem dX8_figuresThatLead_16 : decode cX8_figuresThatLead 16 = .ok (.aload_n 2, 1) := by decide +kernel
theorem dX8_figuresThatLead_17 : decode cX8_figuresThatLead 17 = .ok (.getfield 126, 3) := by decide +kernel
theorem dX8_figuresThatLead_20 : decode cX8_figuresThatLead 20 = .ok (.aload_n 2, 1) := by decide +kernel
theorem dX8_figuresThatLead_21 : decode cX8_figuresThatLead 21 = .ok (.getfield 129, 3) := by decide +kernel
theorem dX8_figuresThatLead_24 : decode cX8_figuresThatLead 24 = .ok (.iload 4, 2) := by decide +kernel
theorem dX8_figuresThatLead_26 : decode cX8_figuresThatLead 26 = .ok (.iconst 0, 1) := by decide +kernel
theorem dX8_figuresThatLead_27 : decode cX8_figuresThatLead 27 = .ok (.iconst 1, 1) := by decide +kernel
theorem dX8_figuresThatLead_28 : decode cX8_figuresThatLead 28 = .ok (.invokevirtual 303, 3) := by decide +kernel
theorem dX8_figuresThatLead_31 : decode cX8_figuresThatLead 31 = .ok (.aload_n 0, 1) := by decide +kernel
theorem dX8_figuresThatLead_32 : decode cX8_figuresThatLead 32 = .ok (.getfield 10, 3) := by decide +kernel
theorem dX8_figuresThatLead_35 : decode cX8_figuresThatLead 35 = .ok (.aload_n 1, 1) := by decide +kernel
theorem dX8_figuresThatLead_36 : decode cX8_figuresThatLead 36 = .ok (.aload_n 0, 1) := by decide +kernel
theorem dX8_figuresThatLead_37 : decode cX8_figuresThatLead 37 = .ok (.getfield 62, 3) := by decide +kernel
theorem dX8_figuresThatLead_40 : decode cX8_figuresThatLead 40 = .ok (.invokevirtual 306, 3) := by decide +kernel
theorem dX8_figuresThatLead_43 : decode cX8_figuresThatLead 43 = .ok (.ifCond .eq 10, 3) := by decide +kernel
theorem dX8_figuresThatLead_46 : decode cX8_figuresThatLead 46 = .ok (.iload_n 3, 1) := by decide +kernel
theorem dX8_figuresThatLead_47 : decode cX8_figuresThatLead 47 = .ok (.iconst 1, 1) := by decide +kernel
theorem dX8_figuresThatLead_48 : decode cX8_figuresThatLead 48 = .ok (.iload 4, 2) := by decide +kernel
theorem dX8_figuresThatLead_50 : decode cX8_figuresThatLead 50 = .ok (.ishl, 1) := by decide +kernel
theorem dX8_figuresThatLead_51 : decode cX8_figuresThatLead 51 = .ok (.ior, 1) := by decide +kernel
theorem dX8_figuresThatLead_52 : decode cX8_figuresThatLead 52 = .ok (.istore_n 3, 1) := by decide +kernel
theorem dX8_figuresThatLead_53 : decode cX8_figuresThatLead 53 = .ok (.iinc 4 1, 3) := by decide +kernel
theorem dX8_figuresThatLead_56 : decode cX8_figuresThatLead 56 = .ok (.goto (-51), 3) := by decide +kernel
theorem dX8_figuresThatLead_59 : decode cX8_figuresThatLead 59 = .ok (.iload_n 3, 1) := by decide +kernel
theorem dX8_figuresThatLead_60 : decode cX8_figuresThatLead 60 = .ok (.ireturn, 1) := by decide +kernel
set_option maxRecDepth 20000 in
set_option maxHeartbeats 4000000 in
theorem v_X8_figuresThatLead_L5 (l : Launch) (g : GG) {r : Int32 × SS} {κ : Int32 → SS → Option (Int32 × SS)} (hκ : ∀ (y3 : Int32) (τ : SS) , κ y3 τ = some r → VV l g 4 RX8 cX8_figuresThatLead 5 (some .int) (some (.int r.1), r.2) 59 [(3, .int y3)] [] τ) : ∀ (fu : Nat) (q0 : Nat) (q1 : Nat) (q2 : Nat) (x3 : Int32) (x4 : Int32) (hq0 : kd q0 = 7) (hq1 : kd q1 = 4) (hq2 : kd q2 = 6) (σ : SS), f_X8_figuresThatLead_L5 κ fu q0 q1 q2 x3 x4 σ = some r → VV l g 4 RX8 cX8_figuresThatLead 5 (some .int) (some (.int r.1), r.2) 5 [(0, .ref (g.1 q0)), (1, .ref (g.1 q1)), (2, .ref (g.1 q2)), (3, .int x3), (4, .int x4)] [] σ := by
  intro fu
  induction fu with
  | zero => intro q0 q1 q2 x3 x4 hq0 hq1 hq2 σ h; cases h
  | succ fu ih =>
    intro q0 q1 q2 x3 x4 hq0 hq1 hq2 σ h
    simp only [f_X8_figuresThatLead_L5] at h
    refine vr_iload (pc := 5) 4 dX8_figuresThatLead_5 rfl ?_
    refine vr_bipush (pc := 7) 9 dX8_figuresThatLead_7 cb_9 ?_
    refine vr_icmp_gt (pc := 9) 59 dX8_figuresThatLead_9 (by decide) (fun c1 => ?_) (fun c1 => ?_)
    · rw [if_pos c1] at h
      refine vr_sub [3] [(3, .int x3)] rfl ?_
      exact hκ x3 σ h
    · rw [if_neg c1] at h
      refine vr_aload_n (pc := 12) 0 dX8_figuresThatLead_12 rfl rfl ?_
      refine vr_getR (pc := 13) 10 dX8_figuresThatLead_13 fi_X8_62 hq0 (sh_7_10 hq0).1 ?_
      refine vr_aload_n (pc := 16) 2 dX8_figuresThatLead_16 rfl rfl ?_
      refine vr_getI (pc := 17) 0 dX8_figuresThatLead_17 fi_X8_126 hq2 (sh_6_0 hq2) ?_
      refine vr_aload_n (pc := 20) 2 dX8_figuresThatLead_20 rfl rfl ?_
      refine vr_getI (pc := 21) 1 dX8_figuresThatLead_21 fi_X8_129 hq2 (sh_6_1 hq2) ?_
      refine vr_iload (pc := 24) 4 dX8_figuresThatLead_24 rfl ?_
      refine vr_iconst (pc := 26) 0 dX8_figuresThatLead_26 ci_0 ?_
      refine vr_iconst (pc := 27) 1 dX8_figuresThatLead_27 ci_1 ?_
      obtain ⟨z2, hz3, h⟩ := ob_some h
      refine vr_callV (pc := 28) (ρ1 := (none, z2)) [.int (σ.1 q2 0), .int (σ.1 q2 1), .int x4, .int 0, .int 1] dX8_figuresThatLead_28 (s_X7_set l g (sh_7_10 hq0).2 hz3) cw_X7_set ml_X8_303 (sh_7_10 hq0).2 rfl (by decide) (by decide) rfl rfl (Nat.le_of_ble_eq_true rfl) ?_
      refine vr_aload_n (pc := 31) 0 dX8_figuresThatLead_31 rfl rfl ?_
      refine vr_getR (pc := 32) 0 dX8_figuresThatLead_32 fi_X8_10 hq0 (sh_7_0 hq0).1 ?_
      refine vr_aload_n (pc := 35) 1 dX8_figuresThatLead_35 rfl rfl ?_
      refine vr_aload_n (pc := 36) 0 dX8_figuresThatLead_36 rfl rfl ?_
      refine vr_getR (pc := 37) 10 dX8_figuresThatLead_37 fi_X8_62 hq0 (sh_7_10 hq0).1 ?_
      obtain ⟨z4, hz5, h⟩ := ob_some h
      refine vr_callV (pc := 40) (ρ1 := (some (.int z4), z2)) [.ref (g.1 q1), .ref (g.1 (rid q0 10))] dX8_figuresThatLead_40 (s_X4_leads l g (sh_7_0 hq0).2 (hq1) (sh_7_10 hq0).2 hz5) cw_X4_leads ml_X8_306 (sh_7_0 hq0).2 rfl (by decide) (by decide) rfl rfl (Nat.le_of_ble_eq_true rfl) ?_
      refine vr_if_eq (pc := 43) 53 dX8_figuresThatLead_43 (by decide) (fun c6 => ?_) (fun c6 => ?_)
      · rw [if_pos c6] at h
        refine vr_iinc (pc := 53) [(4, .int (x4 + 1)), (0, .ref (g.1 q0)), (1, .ref (g.1 q1)), (2, .ref (g.1 q2)), (3, .int x3)] 4 dX8_figuresThatLead_53 rfl (congrArg (fun z => x4 + z) ci_1) (by decide) rfl ?_
        refine vr_goto (pc := 56) 5 dX8_figuresThatLead_56 (by decide) ?_
        refine vr_sub [1, 2, 3, 4, 0] [(0, .ref (g.1 q0)), (1, .ref (g.1 q1)), (2, .ref (g.1 q2)), (3, .int x3), (4, .int (x4 + 1))] rfl ?_
        exact ih q0 q1 q2 x3 (x4 + 1) (hq0) (hq1) (hq2) z2 h
      · rw [if_neg c6] at h
        refine vr_iload_n (pc := 46) 3 dX8_figuresThatLead_46 rfl rfl ?_
        refine vr_iconst (pc := 47) 1 dX8_figuresThatLead_47 ci_1 ?_
        refine vr_iload (pc := 48) 4 dX8_figuresThatLead_48 rfl ?_
        refine vr_ishl (pc := 50) dX8_figuresThatLead_50 ?_
        refine vr_ior (pc := 51) dX8_figuresThatLead_51 ?_
        refine vr_istore_n (pc := 52) [(3, .int (x3 ||| (1 <<< (x4 &&& 31)))), (0, .ref (g.1 q0)), (1, .ref (g.1 q1)), (2, .ref (g.1 q2)), (4, .int x4)] dX8_figuresThatLead_52 rfl (by decide) rfl ?_
        refine vr_iinc (pc := 53) [(4, .int (x4 + 1)), (3, .int (x3 ||| (1 <<< (x4 &&& 31)))), (0, .ref (g.1 q0)), (1, .ref (g.1 q1)), (2, .ref (g.1 q2))] 4 dX8_figuresThatLead_53 rfl (congrArg (fun z => x4 + z) ci_1) (by decide) rfl ?_
        refine vr_goto (pc := 56) 5 dX8_figuresThatLead_56 (by decide) ?_
        refine vr_sub [2, 3, 4, 1, 0] [(0, .ref (g.1 q0)), (1, .ref (g.1 q1)), (2, .ref (g.1 q2)), (3, .int (x3 ||| (1 <<< (x4 &&& 31)))), (4, .int (x4 + 1))] rfl ?_
        exact ih q0 q1 q2 (x3 ||| (1 <<< (x4 &&& 31))) (x4 + 1) (hq0) (hq1) (hq2) z2 h
set_option maxRecDepth 20000 in
set_option maxHeartbeats 4000000 in
theorem s_X8_figuresThatLead (l : Launch) (g : GG) {q0 : Nat} (hq0 : kd q0 = 7) {q1 : Nat} (hq1 : kd q1 = 4) {q2 : Nat} (hq2 : kd q2 = 6) {σ : SS} {r : Int32 × SS} (h : f_X8_figuresThatLead q0 q1 q2 σ = some r) : CT l g 4 yX8_figuresThatLead cX8_figuresThatLead 5 (some .int) [.ref (g.1 q0), .ref (g.1 q1), .ref (g.1 q2)] σ (some (.int r.1), r.2) := by
  refine CT.of (lv := [(0, .ref (g.1 q0)), (1, .ref (g.1 q1)), (2, .ref (g.1 q2))]) RX8 (by decide +kernel) rfl (Nat.le_of_ble_eq_true rfl) rfl ?_
  unfold f_X8_figuresThatLead at h
  refine vr_iconst (pc := 0) 0 dX8_figuresThatLead_0 ci_0 ?_
  refine vr_istore_n (pc := 1) [(3, .int 0), (0, .ref (g.1 q0)), (1, .ref (g.1 q1)), (2, .ref (g.1 q2))] dX8_figuresThatLead_1 rfl (by decide) rfl ?_
  refine vr_iconst (pc := 2) 0 dX8_figuresThatLead_2 ci_0 ?_
  refine vr_istore (pc := 3) [(4, .int 0), (3, .int 0), (0, .ref (g.1 q0)), (1, .ref (g.1 q1)), (2, .ref (g.1 q2))] dX8_figuresThatLead_3 (by decide) rfl ?_
  refine vr_sub [2, 3, 4, 1, 0] [(0, .ref (g.1 q0)), (1, .ref (g.1 q1)), (2, .ref (g.1 q2)), (3, .int 0), (4, .int 0)] rfl ?_
  refine v_X8_figuresThatLead_L5 l g (fun y3 τ h => ?_) FU q0 q1 q2 0 0 (hq0) (hq1) (hq2) σ h
  refine vr_iload_n (pc := 59) 0 dX8_figuresThatLead_59 rfl rfl ?_
  have h := Option.some.inj h; subst h
  exact vr_iret (pc := 60) .int dX8_figuresThatLead_60 rfl rfl rfl
theorem dX8_kinds_0 : decode cX8_kinds 0 = .ok (.aload_n 0, 1) := by decide +kernel
theorem dX8_kinds_1 : decode cX8_kinds 1 = .ok (.iload_n 1, 1) := by decide +kernel
theorem dX8_kinds_2 : decode cX8_kinds 2 = .ok (.invokevirtual 291, 3) := by decide +kernel
theorem dX8_kinds_5 : decode cX8_kinds 5 = .ok (.astore 4, 2) := by decide +kernel
theorem dX8_kinds_7 : decode cX8_kinds 7 = .ok (.aload_n 0, 1) := by decide +kernel
theorem dX8_kinds_8 : decode cX8_kinds 8 = .ok (.getfield 10, 3) := by decide +kernel
theorem dX8_kinds_11 : decode cX8_kinds 11 = .ok (.iload_n 2, 1) := by decide +kernel
theorem dX8_kinds_12 : decode cX8_kinds 12 = .ok (.invokevirtual 122, 3) := by decide +kernel
theorem dX8_kinds_15 : decode cX8_kinds 15 = .ok (.astore 5, 2) := by decide +kernel
theorem dX8_kinds_17 : decode cX8_kinds 17 = .ok (.aload 4, 2) := by decide +kernel
theorem dX8_kinds_19 : decode cX8_kinds 19 = .ok (.ifnull 8, 3) := by decide +kernel
theorem dX8_kinds_22 : decode cX8_kinds 22 = .ok (.aload 5, 2) := by decide +kernel
theorem dX8_kinds_24 : decode cX8_kinds 24 = .ok (.ifnonnull 9, 3) := by decide +kernel
theorem dX8_kinds_27 : decode cX8_kinds 27 = .ok (.aload_n 0, 1) := by decide +kernel
theorem dX8_kinds_28 : decode cX8_kinds 28 = .ok (.iconst (-1), 1) := by decide +kernel
theorem dX8_kinds_29 : decode cX8_kinds 29 = .ok (.invokevirtual 71, 3) := by decide +kernel
theorem dX8_kinds_32 : decode cX8_kinds 32 = .ok (.ireturn, 1) := by decide +kernel
theorem dX8_kinds_33 : decode cX8_kinds 33 = .ok (.iload_n 3, 1) := by decide +kernel
theorem dX8_kinds_34 : decode cX8_kinds 34 = .ok (.invokestatic 163, 3) := by decide +kernel
theorem dX8_kinds_37 : decode cX8_kinds 37 = .ok (.ifCond .ne 10, 3) := by decide +kernel
theorem dX8_kinds_40 : decode cX8_kinds 40 = .ok (.aload_n 0, 1) := by decide +kernel
theorem dX8_kinds_41 : decode cX8_kinds 41 = .ok (.bipush (-2), 2) := by decide +kernel
theorem dX8_kinds_43 : decode cX8_kinds 43 = .ok (.invokevirtual 71, 3) := by decide +kernel
theorem dX8_kinds_46 : decode cX8_kinds 46 = .ok (.ireturn, 1) := by decide +kernel
theorem dX8_kinds_47 : decode cX8_kinds 47 = .ok (.aload 4, 2) := by decide +kernel
theorem dX8_kinds_49 : decode cX8_kinds 49 = .ok (.invokevirtual 295, 3) := by decide +kernel
theorem dX8_kinds_52 : decode cX8_kinds 52 = .ok (.ifCond .eq 10, 3) := by decide +kernel
theorem dX8_kinds_55 : decode cX8_kinds 55 = .ok (.aload_n 0, 1) := by decide +kernel
theorem dX8_kinds_56 : decode cX8_kinds 56 = .ok (.bipush (-11), 2) := by decide +kernel
theorem dX8_kinds_58 : decode cX8_kinds 58 = .ok (.invokevirtual 71, 3) := by decide +kernel
theorem dX8_kinds_61 : decode cX8_kinds 61 = .ok (.ireturn, 1) := by decide +kernel
theorem dX8_kinds_62 : decode cX8_kinds 62 = .ok (.aload_n 0, 1) := by decide +kernel
theorem dX8_kinds_63 : decode cX8_kinds 63 = .ok (.getfield 10, 3) := by decide +kernel
theorem dX8_kinds_66 : decode cX8_kinds 66 = .ok (.aload 4, 2) := by decide +kernel
theorem dX8_kinds_68 : decode cX8_kinds 68 = .ok (.invokevirtual 299, 3) := by decide +kernel
theorem dX8_kinds_71 : decode cX8_kinds 71 = .ok (.ifCond .ne 10, 3) := by decide +kernel
theorem dX8_kinds_74 : decode cX8_kinds 74 = .ok (.aload_n 0, 1) := by decide +kernel
theorem dX8_kinds_75 : decode cX8_kinds 75 = .ok (.bipush (-3), 2) := by decide +kernel
theorem dX8_kinds_77 : decode cX8_kinds 77 = .ok (.invokevirtual 71, 3) := by decide +kernel
theorem dX8_kinds_80 : decode cX8_kinds 80 = .ok (.ireturn, 1) := by decide +kernel
theorem dX8_kinds_81 : decode cX8_kinds 81 = .ok (.iload_n 3, 1) := by decide +kernel
theorem dX8_kinds_82 : decode cX8_kinds 82 = .ok (.ifCond .ne 14, 3) := by decide +kernel
theorem dX8_kinds_85 : decode cX8_kinds 85 = .ok (.aload_n 0, 1) := by decide +kernel
theorem dX8_kinds_86 : decode cX8_kinds 86 = .ok (.aload 4, 2) := by decide +kernel
theorem dX8_kinds_88 : decode cX8_kinds 88 = .ok (.aload 5, 2) := by decide +kernel
theorem dX8_kinds_90 : decode cX8_kinds 90 = .ok (.invokevirtual 310, 3) := by decide +kernel
theorem dX8_kinds_93 : decode cX8_kinds 93 = .ok (.goto 11, 3) := by decide +kernel
theorem dX8_kinds_96 : decode cX8_kinds 96 = .ok (.aload_n 0, 1) := by decide +kernel
theorem dX8_kinds_97 : decode cX8_kinds 97 = .ok (.aload 4, 2) := by decide +kernel
theorem dX8_kinds_99 : decode cX8_kinds 99 = .ok (.aload 5, 2) := by decide +kernel
theorem dX8_kinds_101 : decode cX8_kinds 101 = .ok (.invokevirtual 314, 3) := by decide +kernel
theorem dX8_kinds_104 : decode cX8_kinds 104 = .ok (.ireturn, 1) := by decide +kernel
set_option maxRecDepth 20000 in
set_option maxHeartbeats 4000000 in
theorem s_X8_kinds (l : Launch) (g : GG) {q0 : Nat} (hq0 : kd q0 = 7) {a1 : Int32} {a2 : Int32} {a3 : Int32} {σ : SS} {r : Int32 × SS} (h : f_X8_kinds q0 a1 a2 a3 σ = some r) : CT l g 5 yX8_kinds cX8_kinds 6 (some .int) [.ref (g.1 q0), .int a1, .int a2, .int a3] σ (some (.int r.1), r.2) := by
  refine CT.of (lv := [(0, .ref (g.1 q0)), (1, .int a1), (2, .int a2), (3, .int a3)]) RX8 (by decide +kernel) rfl (Nat.le_of_ble_eq_true rfl) rfl ?_
  unfold f_X8_kinds at h
  refine vr_aload_n (pc := 0) 0 dX8_kinds_0 rfl rfl ?_
  refine vr_iload_n (pc := 1) 1 dX8_kinds_1 rfl rfl ?_
  obtain ⟨z1, hz2, h⟩ := ob_some h
  refine vr_callV (pc := 2) (ρ1 := (some (rvO g z1), σ)) [.int a1] dX8_kinds_2 (s_X8_rowAt l g (hq0) hz2) cw_X8_rowAt ml_X8_291 hq0 rfl (by decide) (by decide) rfl rfl (Nat.le_of_ble_eq_true rfl) ?_
  refine vr_astoreO (pc := 5) [(4, rvO g z1), (0, .ref (g.1 q0)), (1, .int a1), (2, .int a2), (3, .int a3)] dX8_kinds_5 (by decide) rfl ?_
  refine vr_aload_n (pc := 7) 1 dX8_kinds_7 rfl rfl ?_
  refine vr_getR (pc := 8) 0 dX8_kinds_8 fi_X8_10 hq0 (sh_7_0 hq0).1 ?_
  refine vr_iload_n (pc := 11) 3 dX8_kinds_11 rfl rfl ?_
  obtain ⟨z3, hz4, h⟩ := ob_some h
  refine vr_callV (pc := 12) (ρ1 := (some (rvO g z3), σ)) [.int a2] dX8_kinds_12 (s_X4_wheelAt l g (sh_7_0 hq0).2 hz4) cw_X4_wheelAt ml_X8_122 (sh_7_0 hq0).2 rfl (by decide) (by decide) rfl rfl (Nat.le_of_ble_eq_true rfl) ?_
  refine vr_astoreO (pc := 15) [(5, rvO g z3), (4, rvO g z1), (0, .ref (g.1 q0)), (1, .int a1), (2, .int a2), (3, .int a3)] dX8_kinds_15 (by decide) (by simp [rvO_cat]) ?_
  refine vr_aloadO (pc := 17) 1 dX8_kinds_17 rfl ?_
  refine vr_ifnull (pc := 19) 27 dX8_kinds_19 (by decide) (fun hn30 => ?_) (fun w5 hw6 => ?_)
  · simp only [hn30] at h
    refine vr_sub [0, 2, 3, 4, 5] [(5, rvO g z3), (0, .ref (g.1 q0)), (1, .int a1), (2, .int a2), (3, .int a3)] rfl ?_
    refine vr_aload_n (pc := 27) 1 dX8_kinds_27 rfl rfl ?_
    refine vr_iconst (pc := 28) (-1) dX8_kinds_28 ci_m1 ?_
    obtain ⟨z28, hz29, h⟩ := ob_some h
    refine vr_callV (pc := 29) (ρ1 := (some (.int z28.1), z28.2)) [.int (-1)] dX8_kinds_29 (s_X8_refuse l g (hq0) hz29) cw_X8_refuse ml_X8_71 hq0 rfl (by decide) (by decide) rfl rfl (Nat.le_of_ble_eq_true rfl) ?_
    have h := Option.some.inj h; subst h
    exact vr_iret (pc := 32) .int dX8_kinds_32 rfl rfl rfl
  · simp only [hw6] at h
    refine vr_sub [0, 1, 2, 3, 4, 5] [(5, rvO g z3), (4, .ref (g.1 w5)), (0, .ref (g.1 q0)), (1, .int a1), (2, .int a2), (3, .int a3)] (by rw [hw6]; rfl) ?_
    refine vr_aloadO (pc := 22) 0 dX8_kinds_22 rfl ?_
    refine vr_ifnonnull (pc := 24) 33 dX8_kinds_24 (by decide) (fun w7 hw8 => ?_) (fun hn27 => ?_)
    · simp only [hw8] at h
      refine vr_sub [0, 1, 2, 3, 4, 5] [(5, .ref (g.1 w7)), (4, .ref (g.1 w5)), (0, .ref (g.1 q0)), (1, .int a1), (2, .int a2), (3, .int a3)] (by rw [hw8]; rfl) ?_
      refine vr_iload_n (pc := 33) 5 dX8_kinds_33 rfl rfl ?_
      refine vr_callS (pc := 34) (ρ1 := (some (.int (f_X8_isOneOfTwo a3)), σ)) [.int a3] dX8_kinds_34 (s_X8_isOneOfTwo l g rfl) cw_X8_isOneOfTwo ml_X8_163 (by decide) rfl rfl (Nat.le_of_ble_eq_true rfl) ?_
      refine vr_if_ne (pc := 37) 47 dX8_kinds_37 (by decide) (fun c9 => ?_) (fun c9 => ?_)
      · rw [if_neg c9] at h
        refine vr_aload (pc := 47) 1 dX8_kinds_47 rfl ?_
        refine vr_callV (pc := 49) (ρ1 := (some (.int (f_X5_isMissing w5 σ)), σ)) [] dX8_kinds_49 (s_X5_isMissing l g ((kf_X8_rowAt hz2 (hq0)) w5 hw6) rfl) cw_X5_isMissing ml_X8_295 ((kf_X8_rowAt hz2 (hq0)) w5 hw6) rfl (by decide) (by decide) rfl rfl (Nat.le_of_ble_eq_true rfl) ?_
        refine vr_if_eq (pc := 52) 62 dX8_kinds_52 (by decide) (fun c10 => ?_) (fun c10 => ?_)
        · rw [if_pos c10] at h
          refine vr_aload_n (pc := 62) 2 dX8_kinds_62 rfl rfl ?_
          refine vr_getR (pc := 63) 0 dX8_kinds_63 fi_X8_10 hq0 (sh_7_0 hq0).1 ?_
          refine vr_aload (pc := 66) 1 dX8_kinds_66 rfl ?_
          obtain ⟨z11, hz12, h⟩ := ob_some h
          refine vr_callV (pc := 68) (ρ1 := (some (.int z11), σ)) [.ref (g.1 w5)] dX8_kinds_68 (s_X4_tellsTeeth l g (sh_7_0 hq0).2 ((kf_X8_rowAt hz2 (hq0)) w5 hw6) hz12) cw_X4_tellsTeeth ml_X8_299 (sh_7_0 hq0).2 rfl (by decide) (by decide) rfl rfl (Nat.le_of_ble_eq_true rfl) ?_
          refine vr_if_ne (pc := 71) 81 dX8_kinds_71 (by decide) (fun c13 => ?_) (fun c13 => ?_)
          · rw [if_neg c13] at h
            refine vr_iload_n (pc := 81) 5 dX8_kinds_81 rfl rfl ?_
            refine vr_if_ne (pc := 82) 96 dX8_kinds_82 (by decide) (fun c14 => ?_) (fun c14 => ?_)
            · rw [if_neg c14] at h
              refine vr_aload_n (pc := 96) 2 dX8_kinds_96 rfl rfl ?_
              refine vr_aload (pc := 97) 1 dX8_kinds_97 rfl ?_
              refine vr_aload (pc := 99) 0 dX8_kinds_99 rfl ?_
              obtain ⟨z15, hz16, h⟩ := ob_some h
              refine vr_callV (pc := 101) (ρ1 := (some (.int z15.1), z15.2)) [.ref (g.1 w5), .ref (g.1 w7)] dX8_kinds_101 (s_X8_figuresThatLead l g (hq0) ((kf_X8_rowAt hz2 (hq0)) w5 hw6) ((kf_X4_wheelAt hz4 (sh_7_0 hq0).2) w7 hw8) hz16) cw_X8_figuresThatLead ml_X8_314 hq0 rfl (by decide) (by decide) rfl rfl (Nat.le_of_ble_eq_true rfl) ?_
              have h := Option.some.inj h; subst h
              exact vr_iret (pc := 104) .int dX8_kinds_104 rfl rfl rfl
            · rw [if_pos c14] at h
              refine vr_aload_n (pc := 85) 2 dX8_kinds_85 rfl rfl ?_
              refine vr_aload (pc := 86) 1 dX8_kinds_86 rfl ?_
              refine vr_aload (pc := 88) 0 dX8_kinds_88 rfl ?_
              obtain ⟨z17, hz18, h⟩ := ob_some h
              refine vr_callV (pc := 90) (ρ1 := (some (.int z17.1), z17.2)) [.ref (g.1 w5), .ref (g.1 w7)] dX8_kinds_90 (s_X8_kindsThatLead l g (hq0) ((kf_X8_rowAt hz2 (hq0)) w5 hw6) ((kf_X4_wheelAt hz4 (sh_7_0 hq0).2) w7 hw8) hz18) cw_X8_kindsThatLead ml_X8_310 hq0 rfl (by decide) (by decide) rfl rfl (Nat.le_of_ble_eq_true rfl) ?_
              refine vr_goto (pc := 93) 104 dX8_kinds_93 (by decide) ?_
              have h := Option.some.inj h; subst h
              exact vr_iret (pc := 104) .int dX8_kinds_104 rfl rfl rfl
          · rw [if_pos c13] at h
            refine vr_aload_n (pc := 74) 2 dX8_kinds_74 rfl rfl ?_
            refine vr_bipush (pc := 75) (-3) dX8_kinds_75 cb_m3 ?_
            obtain ⟨z19, hz20, h⟩ := ob_some h
            refine vr_callV (pc := 77) (ρ1 := (some (.int z19.1), z19.2)) [.int (-3)] dX8_kinds_77 (s_X8_refuse l g (hq0) hz20) cw_X8_refuse ml_X8_71 hq0 rfl (by decide) (by decide) rfl rfl (Nat.le_of_ble_eq_true rfl) ?_
            have h := Option.some.inj h; subst h
            exact vr_iret (pc := 80) .int dX8_kinds_80 rfl rfl rfl
        · rw [if_neg c10] at h
          refine vr_aload_n (pc := 55) 2 dX8_kinds_55 rfl rfl ?_
          refine vr_bipush (pc := 56) (-11) dX8_kinds_56 cb_m11 ?_
          obtain ⟨z21, hz22, h⟩ := ob_some h
          refine vr_callV (pc := 58) (ρ1 := (some (.int z21.1), z21.2)) [.int (-11)] dX8_kinds_58 (s_X8_refuse l g (hq0) hz22) cw_X8_refuse ml_X8_71 hq0 rfl (by decide) (by decide) rfl rfl (Nat.le_of_ble_eq_true rfl) ?_
          have h := Option.some.inj h; subst h
          exact vr_iret (pc := 61) .int dX8_kinds_61 rfl rfl rfl
      · rw [if_pos c9] at h
        refine vr_aload_n (pc := 40) 2 dX8_kinds_40 rfl rfl ?_
        refine vr_bipush (pc := 41) (-2) dX8_kinds_41 cb_m2 ?_
        obtain ⟨z23, hz24, h⟩ := ob_some h
        refine vr_callV (pc := 43) (ρ1 := (some (.int z23.1), z23.2)) [.int (-2)] dX8_kinds_43 (s_X8_refuse l g (hq0) hz24) cw_X8_refuse ml_X8_71 hq0 rfl (by decide) (by decide) rfl rfl (Nat.le_of_ble_eq_true rfl) ?_
        have h := Option.some.inj h; subst h
        exact vr_iret (pc := 46) .int dX8_kinds_46 rfl rfl rfl
    · simp only [hn27] at h
      refine vr_sub [1, 2, 3, 4, 5] [(4, .ref (g.1 w5)), (0, .ref (g.1 q0)), (1, .int a1), (2, .int a2), (3, .int a3)] rfl ?_
      refine vr_aload_n (pc := 27) 1 dX8_kinds_27 rfl rfl ?_
      refine vr_iconst (pc := 28) (-1) dX8_kinds_28 ci_m1 ?_
      obtain ⟨z25, hz26, h⟩ := ob_some h
      refine vr_callV (pc := 29) (ρ1 := (some (.int z25.1), z25.2)) [.int (-1)] dX8_kinds_29 (s_X8_refuse l g (hq0) hz26) cw_X8_refuse ml_X8_71 hq0 rfl (by decide) (by decide) rfl rfl (Nat.le_of_ble_eq_true rfl) ?_
      have h := Option.some.inj h; subst h
      exact vr_iret (pc := 32) .int dX8_kinds_32 rfl rfl rfl
theorem dX8_drawnBy_0 : decode cX8_drawnBy 0 = .ok (.iload_n 1, 1) := by decide +kernel
theorem dX8_drawnBy_1 : decode cX8_drawnBy 1 = .ok (.ifCond .lt 7, 3) := by decide +kernel
theorem dX8_drawnBy_4 : decode cX8_drawnBy 4 = .ok (.iload_n 2, 1) := by decide +kernel
theorem dX8_drawnBy_5 : decode cX8_drawnBy 5 = .ok (.ifCond .ge 10, 3) := by decide +kernel
theorem dX8_drawnBy_8 : decode cX8_drawnBy 8 = .ok (.aload_n 0, 1) := by decide +kernel
theorem dX8_drawnBy_9 : decode cX8_drawnBy 9 = .ok (.bipush (-4), 2) := by decide +kernel
theorem dX8_drawnBy_11 : decode cX8_drawnBy 11 = .ok (.invokevirtual 71, 3) := by decide +kernel
theorem dX8_drawnBy_14 : decode cX8_drawnBy 14 = .ok (.ireturn, 1) := by decide +kernel
theorem dX8_drawnBy_15 : decode cX8_drawnBy 15 = .ok (.iconst 1, 1) := by decide +kernel
theorem dX8_drawnBy_16 : decode cX8_drawnBy 16 = .ok (.istore_n 3, 1) := by decide +kernel
theorem dX8_drawnBy_17 : decode cX8_drawnBy 17 = .ok (.iload_n 3, 1) := by decide +kernel
theorem dX8_drawnBy_18 : decode cX8_drawnBy 18 = .ok (.aload_n 0, 1) := by decide +kernel
theorem dX8_drawnBy_19 : decode cX8_drawnBy 19 = .ok (.getfield 10, 3) := by decide +kernel
theorem dX8_drawnBy_22 : decode cX8_drawnBy 22 = .ok (.getfield 105, 3) := by decide +kernel
theorem dX8_drawnBy_25 : decode cX8_drawnBy 25 = .ok (.if_icmp .ge 38, 3) := by decide +kernel
theorem dX8_drawnBy_28 : decode cX8_drawnBy 28 = .ok (.aload_n 0, 1) := by decide +kernel
theorem dX8_drawnBy_29 : decode cX8_drawnBy 29 = .ok (.iload_n 3, 1) := by decide +kernel
theorem dX8_drawnBy_30 : decode cX8_drawnBy 30 = .ok (.invokevirtual 233, 3) := by decide +kernel
theorem dX8_drawnBy_33 : decode cX8_drawnBy 33 = .ok (.aload_n 0, 1) := by decide +kernel
theorem dX8_drawnBy_34 : decode cX8_drawnBy 34 = .ok (.getfield 45, 3) := by decide +kernel
theorem dX8_drawnBy_37 : decode cX8_drawnBy 37 = .ok (.getfield 191, 3) := by decide +kernel
theorem dX8_drawnBy_40 : decode cX8_drawnBy 40 = .ok (.iload_n 1, 1) := by decide +kernel
theorem dX8_drawnBy_41 : decode cX8_drawnBy 41 = .ok (.if_icmp .ne 16, 3) := by decide +kernel
theorem dX8_drawnBy_44 : decode cX8_drawnBy 44 = .ok (.aload_n 0, 1) := by decide +kernel
theorem dX8_drawnBy_45 : decode cX8_drawnBy 45 = .ok (.getfield 45, 3) := by decide +kernel
theorem dX8_drawnBy_48 : decode cX8_drawnBy 48 = .ok (.invokevirtual 317, 3) := by decide +kernel
theorem dX8_drawnBy_51 : decode cX8_drawnBy 51 = .ok (.iload_n 2, 1) := by decide +kernel
theorem dX8_drawnBy_52 : decode cX8_drawnBy 52 = .ok (.if_icmp .ne 5, 3) := by decide +kernel
theorem dX8_drawnBy_55 : decode cX8_drawnBy 55 = .ok (.iload_n 3, 1) := by decide +kernel
theorem dX8_drawnBy_56 : decode cX8_drawnBy 56 = .ok (.ireturn, 1) := by decide +kernel
theorem dX8_drawnBy_57 : decode cX8_drawnBy 57 = .ok (.iinc 3 1, 3) := by decide +kernel
theorem dX8_drawnBy_60 : decode cX8_drawnBy 60 = .ok (.goto (-43), 3) := by decide +kernel
theorem dX8_drawnBy_63 : decode cX8_drawnBy 63 = .ok (.bipush (-9), 2) := by decide +kernel
theorem dX8_drawnBy_65 : decode cX8_drawnBy 65 = .ok (.ireturn, 1) := by decide +kernel
set_option maxRecDepth 20000 in
set_option maxHeartbeats 4000000 in
theorem v_X8_drawnBy_L17 (l : Launch) (g : GG) {r : Int32 × SS} {κ : SS → Option (Int32 × SS)} (hκ : ∀ (τ : SS) , κ  τ = some r → VV l g 5 RX8 cX8_drawnBy 4 (some .int) (some (.int r.1), r.2) 63 [] [] τ) : ∀ (fu : Nat) (q0 : Nat) (x1 : Int32) (x2 : Int32) (x3 : Int32) (hq0 : kd q0 = 7) (σ : SS), f_X8_drawnBy_L17 κ fu q0 x1 x2 x3 σ = some r → VV l g 5 RX8 cX8_drawnBy 4 (some .int) (some (.int r.1), r.2) 17 [(0, .ref (g.1 q0)), (1, .int x1), (2, .int x2), (3, .int x3)] [] σ := by
  intro fu
  induction fu with
  | zero => intro q0 x1 x2 x3 hq0 σ h; cases h
  | succ fu ih =>
    intro q0 x1 x2 x3 hq0 σ h
    simp only [f_X8_drawnBy_L17] at h
    refine vr_iload_n (pc := 17) 3 dX8_drawnBy_17 rfl rfl ?_
    refine vr_aload_n (pc := 18) 0 dX8_drawnBy_18 rfl rfl ?_
    refine vr_getR (pc := 19) 0 dX8_drawnBy_19 fi_X8_10 hq0 (sh_7_0 hq0).1 ?_
    refine vr_getI (pc := 22) 0 dX8_drawnBy_22 fi_X8_105 (sh_7_0 hq0).2 (sh_3_0 (sh_7_0 hq0).2) ?_
    refine vr_icmp_ge (pc := 25) 63 dX8_drawnBy_25 (by decide) (fun c5 => ?_) (fun c5 => ?_)
    · rw [if_pos c5] at h
      refine vr_sub [] [] rfl ?_
      exact hκ σ h
    · rw [if_neg c5] at h
      refine vr_aload_n (pc := 28) 0 dX8_drawnBy_28 rfl rfl ?_
      refine vr_iload_n (pc := 29) 3 dX8_drawnBy_29 rfl rfl ?_
      obtain ⟨z6, hz7, h⟩ := ob_some h
      refine vr_callV (pc := 30) (ρ1 := (none, z6)) [.int x3] dX8_drawnBy_30 (s_X8_traceTrial l g (hq0) hz7) cw_X8_traceTrial ml_X8_233 hq0 rfl (by decide) (by decide) rfl rfl (Nat.le_of_ble_eq_true rfl) ?_
      refine vr_aload_n (pc := 33) 0 dX8_drawnBy_33 rfl rfl ?_
      refine vr_getR (pc := 34) 7 dX8_drawnBy_34 fi_X8_45 hq0 (sh_7_7 hq0).1 ?_
      refine vr_getI (pc := 37) 2 dX8_drawnBy_37 fi_X8_191 (sh_7_7 hq0).2 (sh_0_2 (sh_7_7 hq0).2) ?_
      refine vr_iload_n (pc := 40) 1 dX8_drawnBy_40 rfl rfl ?_
      refine vr_icmp_ne (pc := 41) 57 dX8_drawnBy_41 (by decide) (fun c8 => ?_) (fun c8 => ?_)
      · rw [if_neg c8] at h
        refine vr_iinc (pc := 57) [(3, .int (x3 + 1)), (0, .ref (g.1 q0)), (1, .int x1), (2, .int x2)] 3 dX8_drawnBy_57 rfl (congrArg (fun z => x3 + z) ci_1) (by decide) rfl ?_
        refine vr_goto (pc := 60) 17 dX8_drawnBy_60 (by decide) ?_
        refine vr_sub [1, 2, 3, 0] [(0, .ref (g.1 q0)), (1, .int x1), (2, .int x2), (3, .int (x3 + 1))] rfl ?_
        exact ih q0 x1 x2 (x3 + 1) (hq0) z6 h
      · rw [if_pos c8] at h
        refine vr_aload_n (pc := 44) 0 dX8_drawnBy_44 rfl rfl ?_
        refine vr_getR (pc := 45) 7 dX8_drawnBy_45 fi_X8_45 hq0 (sh_7_7 hq0).1 ?_
        obtain ⟨z9, hz10, h⟩ := ob_some h
        refine vr_callV (pc := 48) (ρ1 := (some (.int z9), z6)) [] dX8_drawnBy_48 (s_X0_crossingsOfInner l g (sh_7_7 hq0).2 hz10) cw_X0_crossingsOfInner ml_X8_317 (sh_7_7 hq0).2 rfl (by decide) (by decide) rfl rfl (Nat.le_of_ble_eq_true rfl) ?_
        refine vr_iload_n (pc := 51) 2 dX8_drawnBy_51 rfl rfl ?_
        refine vr_icmp_ne (pc := 52) 57 dX8_drawnBy_52 (by decide) (fun c11 => ?_) (fun c11 => ?_)
        · rw [if_neg c11] at h
          refine vr_iinc (pc := 57) [(3, .int (x3 + 1)), (0, .ref (g.1 q0)), (1, .int x1), (2, .int x2)] 3 dX8_drawnBy_57 rfl (congrArg (fun z => x3 + z) ci_1) (by decide) rfl ?_
          refine vr_goto (pc := 60) 17 dX8_drawnBy_60 (by decide) ?_
          refine vr_sub [1, 2, 3, 0] [(0, .ref (g.1 q0)), (1, .int x1), (2, .int x2), (3, .int (x3 + 1))] rfl ?_
          exact ih q0 x1 x2 (x3 + 1) (hq0) z6 h
        · rw [if_pos c11] at h
          refine vr_iload_n (pc := 55) 3 dX8_drawnBy_55 rfl rfl ?_
          have h := Option.some.inj h; subst h
          exact vr_iret (pc := 56) .int dX8_drawnBy_56 rfl rfl rfl
set_option maxRecDepth 20000 in
set_option maxHeartbeats 4000000 in
theorem s_X8_drawnBy (l : Launch) (g : GG) {q0 : Nat} (hq0 : kd q0 = 7) {a1 : Int32} {a2 : Int32} {σ : SS} {r : Int32 × SS} (h : f_X8_drawnBy q0 a1 a2 σ = some r) : CT l g 5 yX8_drawnBy cX8_drawnBy 4 (some .int) [.ref (g.1 q0), .int a1, .int a2] σ (some (.int r.1), r.2) := by
  refine CT.of (lv := [(0, .ref (g.1 q0)), (1, .int a1), (2, .int a2)]) RX8 (by decide +kernel) rfl (Nat.le_of_ble_eq_true rfl) rfl ?_
  unfold f_X8_drawnBy at h
  refine vr_iload_n (pc := 0) 1 dX8_drawnBy_0 rfl rfl ?_
  refine vr_if_lt (pc := 1) 8 dX8_drawnBy_1 (by decide) (fun c1 => ?_) (fun c1 => ?_)
  · rw [if_pos c1] at h
    refine vr_aload_n (pc := 8) 0 dX8_drawnBy_8 rfl rfl ?_
    refine vr_bipush (pc := 9) (-4) dX8_drawnBy_9 cb_m4 ?_
    obtain ⟨z2, hz3, h⟩ := ob_some h
    refine vr_callV (pc := 11) (ρ1 := (some (.int z2.1), z2.2)) [.int (-4)] dX8_drawnBy_11 (s_X8_refuse l g (hq0) hz3) cw_X8_refuse ml_X8_71 hq0 rfl (by decide) (by decide) rfl rfl (Nat.le_of_ble_eq_true rfl) ?_
    have h := Option.some.inj h; subst h
    exact vr_iret (pc := 14) .int dX8_drawnBy_14 rfl rfl rfl
  · rw [if_neg c1] at h
    refine vr_iload_n (pc := 4) 2 dX8_drawnBy_4 rfl rfl ?_
    refine vr_if_ge (pc := 5) 15 dX8_drawnBy_5 (by decide) (fun c4 => ?_) (fun c4 => ?_)
    · rw [if_pos c4] at h
      refine vr_iconst (pc := 15) 1 dX8_drawnBy_15 ci_1 ?_
      refine vr_istore_n (pc := 16) [(3, .int 1), (0, .ref (g.1 q0)), (1, .int a1), (2, .int a2)] dX8_drawnBy_16 rfl (by decide) rfl ?_
      refine vr_sub [1, 2, 3, 0] [(0, .ref (g.1 q0)), (1, .int a1), (2, .int a2), (3, .int 1)] rfl ?_
      refine v_X8_drawnBy_L17 l g (fun τ h => ?_) FU q0 a1 a2 1 (hq0) σ h
      refine vr_bipush (pc := 63) (-9) dX8_drawnBy_63 cb_m9 ?_
      have h := Option.some.inj h; subst h
      exact vr_iret (pc := 65) .int dX8_drawnBy_65 rfl rfl rfl
    · rw [if_neg c4] at h
      refine vr_aload_n (pc := 8) 0 dX8_drawnBy_8 rfl rfl ?_
      refine vr_bipush (pc := 9) (-4) dX8_drawnBy_9 cb_m4 ?_
      obtain ⟨z12, hz13, h⟩ := ob_some h
      refine vr_callV (pc := 11) (ρ1 := (some (.int z12.1), z12.2)) [.int (-4)] dX8_drawnBy_11 (s_X8_refuse l g (hq0) hz13) cw_X8_refuse ml_X8_71 hq0 rfl (by decide) (by decide) rfl rfl (Nat.le_of_ble_eq_true rfl) ?_
      have h := Option.some.inj h; subst h
      exact vr_iret (pc := 14) .int dX8_drawnBy_14 rfl rfl rfl
theorem dX8_judge_0 : decode cX8_judge 0 = .ok (.aload_n 0, 1) := by decide +kernel
theorem dX8_judge_1 : decode cX8_judge 1 = .ok (.iload_n 1, 1) := by decide +kernel
theorem dX8_judge_2 : decode cX8_judge 2 = .ok (.invokevirtual 291, 3) := by decide +kernel
theorem dX8_judge_5 : decode cX8_judge 5 = .ok (.astore_n 3, 1) := by decide +kernel
theorem dX8_judge_6 : decode cX8_judge 6 = .ok (.aload_n 0, 1) := by decide +kernel
theorem dX8_judge_7 : decode cX8_judge 7 = .ok (.getfield 10, 3) := by decide +kernel
theorem dX8_judge_10 : decode cX8_judge 10 = .ok (.iload_n 2, 1) := by decide +kernel
theorem dX8_judge_11 : decode cX8_judge 11 = .ok (.invokevirtual 122, 3) := by decide +kernel
theorem dX8_judge_14 : decode cX8_judge 14 = .ok (.astore 4, 2) := by decide +kernel
theorem dX8_judge_16 : decode cX8_judge 16 = .ok (.aload_n 3, 1) := by decide +kernel
theorem dX8_judge_17 : decode cX8_judge 17 = .ok (.ifnull 8, 3) := by decide +kernel
theorem dX8_judge_20 : decode cX8_judge 20 = .ok (.aload 4, 2) := by decide +kernel
theorem dX8_judge_22 : decode cX8_judge 22 = .ok (.ifnonnull 9, 3) := by decide +kernel
theorem dX8_judge_25 : decode cX8_judge 25 = .ok (.aload_n 0, 1) := by decide +kernel
theorem dX8_judge_26 : decode cX8_judge 26 = .ok (.iconst (-1), 1) := by decide +kernel
theorem dX8_judge_27 : decode cX8_judge 27 = .ok (.invokevirtual 71, 3) := by decide +kernel
theorem dX8_judge_30 : decode cX8_judge 30 = .ok (.ireturn, 1) := by decide +kernel
theorem dX8_judge_31 : decode cX8_judge 31 = .ok (.aload_n 3, 1) := by decide +kernel
theorem dX8_judge_32 : decode cX8_judge 32 = .ok (.invokevirtual 295, 3) := by decide +kernel
theorem dX8_judge_35 : decode cX8_judge 35 = .ok (.ifCond .eq 10, 3) := by decide +kernel
theorem dX8_judge_38 : decode cX8_judge 38 = .ok (.aload_n 0, 1) := by decide +kernel
theorem dX8_judge_39 : decode cX8_judge 39 = .ok (.bipush (-11), 2) := by decide +kernel
theorem dX8_judge_41 : decode cX8_judge 41 = .ok (.invokevirtual 71, 3) := by decide +kernel
theorem dX8_judge_44 : decode cX8_judge 44 = .ok (.ireturn, 1) := by decide +kernel
theorem dX8_judge_45 : decode cX8_judge 45 = .ok (.aload_n 0, 1) := by decide +kernel
theorem dX8_judge_46 : decode cX8_judge 46 = .ok (.getfield 45, 3) := by decide +kernel
theorem dX8_judge_49 : decode cX8_judge 49 = .ok (.aload_n 0, 1) := by decide +kernel
theorem dX8_judge_50 : decode cX8_judge 50 = .ok (.getfield 10, 3) := by decide +kernel
theorem dX8_judge_53 : decode cX8_judge 53 = .ok (.aload 4, 2) := by decide +kernel
theorem dX8_judge_55 : decode cX8_judge 55 = .ok (.invokevirtual 184, 3) := by decide +kernel
theorem dX8_judge_58 : decode cX8_judge 58 = .ok (.iconst 0, 1) := by decide +kernel
theorem dX8_judge_59 : decode cX8_judge 59 = .ok (.istore 5, 2) := by decide +kernel
theorem dX8_judge_61 : decode cX8_judge 61 = .ok (.iload 5, 2) := by decide +kernel
theorem dX8_judge_63 : decode cX8_judge 63 = .ok (.aload_n 3, 1) := by decide +kernel
theorem dX8_judge_64 : decode cX8_judge 64 = .ok (.getfield 320, 3) := by decide +kernel
theorem dX8_judge_67 : decode cX8_judge 67 = .ok (.if_icmp .ge 44, 3) := by decide +kernel
theorem dX8_judge_70 : decode cX8_judge 70 = .ok (.aload_n 0, 1) := by decide +kernel
theorem dX8_judge_71 : decode cX8_judge 71 = .ok (.getfield 45, 3) := by decide +kernel
theorem dX8_judge_74 : decode cX8_judge 74 = .ok (.iload 5, 2) := by decide +kernel
theorem dX8_judge_76 : decode cX8_judge 76 = .ok (.invokevirtual 209, 3) := by decide +kernel
theorem dX8_judge_79 : decode cX8_judge 79 = .ok (.ifCond .eq 23, 3) := by decide +kernel
theorem dX8_judge_82 : decode cX8_judge 82 = .ok (.aload_n 3, 1) := by decide +kernel
theorem dX8_judge_83 : decode cX8_judge 83 = .ok (.getfield 321, 3) := by decide +kernel
theorem dX8_judge_86 : decode cX8_judge 86 = .ok (.iload 5, 2) := by decide +kernel
theorem dX8_judge_88 : decode cX8_judge 88 = .ok (.iaload, 1) := by decide +kernel
theorem dX8_judge_89 : decode cX8_judge 89 = .ok (.aload_n 0, 1) := by decide +kernel
theorem dX8_judge_90 : decode cX8_judge 90 = .ok (.getfield 45, 3) := by decide +kernel
theorem dX8_judge_93 : decode cX8_judge 93 = .ok (.getfield 212, 3) := by decide +kernel
theorem dX8_judge_96 : decode cX8_judge 96 = .ok (.iload 5, 2) := by decide +kernel
theorem dX8_judge_98 : decode cX8_judge 98 = .ok (.iaload, 1) := by decide +kernel
theorem dX8_judge_99 : decode cX8_judge 99 = .ok (.if_icmp .eq 6, 3) := by decide +kernel
theorem dX8_judge_102 : decode cX8_judge 102 = .ok (.iload 5, 2) := by decide +kernel
theorem dX8_judge_104 : decode cX8_judge 104 = .ok (.ireturn, 1) := by decide +kernel
theorem dX8_judge_105 : decode cX8_judge 105 = .ok (.iinc 5 1, 3) := by decide +kernel
theorem dX8_judge_108 : decode cX8_judge 108 = .ok (.goto (-47), 3) := by decide +kernel
theorem dX8_judge_111 : decode cX8_judge 111 = .ok (.bipush (-9), 2) := by decide +kernel
theorem dX8_judge_113 : decode cX8_judge 113 = .ok (.ireturn, 1) := by decide +kernel
set_option maxRecDepth 20000 in
set_option maxHeartbeats 4000000 in
theorem v_X8_judge_L61 (l : Launch) (g : GG) {r : Int32 × SS} {κ : SS → Option (Int32 × SS)} (hκ : ∀ (τ : SS) , κ  τ = some r → VV l g 4 RX8 cX8_judge 6 (some .int) (some (.int r.1), r.2) 111 [] [] τ) : ∀ (fu : Nat) (q0 : Nat) (q3 : Nat) (x5 : Int32) (hq0 : kd q0 = 7) (hq3 : kd q3 = 4) (σ : SS), f_X8_judge_L61 κ fu q0 q3 x5 σ = some r → VV l g 4 RX8 cX8_judge 6 (some .int) (some (.int r.1), r.2) 61 [(0, .ref (g.1 q0)), (3, .ref (g.1 q3)), (5, .int x5)] [] σ := by
  intro fu
  induction fu with
  | zero => intro q0 q3 x5 hq0 hq3 σ h; cases h
  | succ fu ih =>
    intro q0 q3 x5 hq0 hq3 σ h
    simp only [f_X8_judge_L61] at h
    refine vr_iload (pc := 61) 2 dX8_judge_61 rfl ?_
    refine vr_aload_n (pc := 63) 1 dX8_judge_63 rfl rfl ?_
    refine vr_getI (pc := 64) 0 dX8_judge_64 fi_X8_320 hq3 (sh_4_0 hq3) ?_
    refine vr_icmp_ge (pc := 67) 111 dX8_judge_67 (by decide) (fun c12 => ?_) (fun c12 => ?_)
    · rw [if_pos c12] at h
      refine vr_sub [] [] rfl ?_
      exact hκ σ h
    · rw [if_neg c12] at h
      refine vr_aload_n (pc := 70) 0 dX8_judge_70 rfl rfl ?_
      refine vr_getR (pc := 71) 7 dX8_judge_71 fi_X8_45 hq0 (sh_7_7 hq0).1 ?_
      refine vr_iload (pc := 74) 2 dX8_judge_74 rfl ?_
      refine vr_callV (pc := 76) (ρ1 := (some (.int (f_X0_hasArc (rid q0 7) x5 σ)), σ)) [.int x5] dX8_judge_76 (s_X0_hasArc l g (sh_7_7 hq0).2 rfl) cw_X0_hasArc ml_X8_209 (sh_7_7 hq0).2 rfl (by decide) (by decide) rfl rfl (Nat.le_of_ble_eq_true rfl) ?_
      refine vr_if_eq (pc := 79) 102 dX8_judge_79 (by decide) (fun c13 => ?_) (fun c13 => ?_)
      · rw [if_pos c13] at h
        refine vr_iload (pc := 102) 2 dX8_judge_102 rfl ?_
        have h := Option.some.inj h; subst h
        exact vr_iret (pc := 104) .int dX8_judge_104 rfl rfl rfl
      · rw [if_neg c13] at h
        refine vr_aload_n (pc := 82) 1 dX8_judge_82 rfl rfl ?_
        refine vr_getR (pc := 83) 1 dX8_judge_83 fi_X8_321 hq3 (sh_4_1 hq3).1 ?_
        refine vr_iload (pc := 86) 2 dX8_judge_86 rfl ?_
        obtain ⟨hc14, h⟩ := ck_some h
        refine vr_iald (pc := 88) dX8_judge_88 (sh_4_1 hq3).2 hc14 ?_
        refine vr_aload_n (pc := 89) 0 dX8_judge_89 rfl rfl ?_
        refine vr_getR (pc := 90) 7 dX8_judge_90 fi_X8_45 hq0 (sh_7_7 hq0).1 ?_
        refine vr_getR (pc := 93) 5 dX8_judge_93 fi_X8_212 (sh_7_7 hq0).2 (sh_0_5 (sh_7_7 hq0).2).1 ?_
        refine vr_iload (pc := 96) 2 dX8_judge_96 rfl ?_
        obtain ⟨hc15, h⟩ := ck_some h
        refine vr_iald (pc := 98) dX8_judge_98 (sh_0_5 (sh_7_7 hq0).2).2 hc15 ?_
        refine vr_icmp_eq (pc := 99) 105 dX8_judge_99 (by decide) (fun c16 => ?_) (fun c16 => ?_)
        · rw [if_pos c16] at h
          refine vr_iinc (pc := 105) [(5, .int (x5 + 1)), (0, .ref (g.1 q0)), (3, .ref (g.1 q3))] 2 dX8_judge_105 rfl (congrArg (fun z => x5 + z) ci_1) (by decide) rfl ?_
          refine vr_goto (pc := 108) 61 dX8_judge_108 (by decide) ?_
          refine vr_sub [1, 2, 0] [(0, .ref (g.1 q0)), (3, .ref (g.1 q3)), (5, .int (x5 + 1))] rfl ?_
          exact ih q0 q3 (x5 + 1) (hq0) (hq3) σ h
        · rw [if_neg c16] at h
          refine vr_iload (pc := 102) 2 dX8_judge_102 rfl ?_
          have h := Option.some.inj h; subst h
          exact vr_iret (pc := 104) .int dX8_judge_104 rfl rfl rfl
set_option maxRecDepth 20000 in
set_option maxHeartbeats 4000000 in
theorem s_X8_judge (l : Launch) (g : GG) {q0 : Nat} (hq0 : kd q0 = 7) {a1 : Int32} {a2 : Int32} {σ : SS} {r : Int32 × SS} (h : f_X8_judge q0 a1 a2 σ = some r) : CT l g 4 yX8_judge cX8_judge 6 (some .int) [.ref (g.1 q0), .int a1, .int a2] σ (some (.int r.1), r.2) := by
  refine CT.of (lv := [(0, .ref (g.1 q0)), (1, .int a1), (2, .int a2)]) RX8 (by decide +kernel) rfl (Nat.le_of_ble_eq_true rfl) rfl ?_
  unfold f_X8_judge at h
  refine vr_aload_n (pc := 0) 0 dX8_judge_0 rfl rfl ?_
  refine vr_iload_n (pc := 1) 1 dX8_judge_1 rfl rfl ?_
  obtain ⟨z1, hz2, h⟩ := ob_some h
  refine vr_callV (pc := 2) (ρ1 := (some (rvO g z1), σ)) [.int a1] dX8_judge_2 (s_X8_rowAt l g (hq0) hz2) cw_X8_rowAt ml_X8_291 hq0 rfl (by decide) (by decide) rfl rfl (Nat.le_of_ble_eq_true rfl) ?_
  refine vr_astore_nO (pc := 5) [(3, rvO g z1), (0, .ref (g.1 q0)), (1, .int a1), (2, .int a2)] dX8_judge_5 rfl (by decide) rfl ?_
  refine vr_aload_n (pc := 6) 1 dX8_judge_6 rfl rfl ?_
  refine vr_getR (pc := 7) 0 dX8_judge_7 fi_X8_10 hq0 (sh_7_0 hq0).1 ?_
  refine vr_iload_n (pc := 10) 3 dX8_judge_10 rfl rfl ?_
  obtain ⟨z3, hz4, h⟩ := ob_some h
  refine vr_callV (pc := 11) (ρ1 := (some (rvO g z3), σ)) [.int a2] dX8_judge_11 (s_X4_wheelAt l g (sh_7_0 hq0).2 hz4) cw_X4_wheelAt ml_X8_122 (sh_7_0 hq0).2 rfl (by decide) (by decide) rfl rfl (Nat.le_of_ble_eq_true rfl) ?_
  refine vr_astoreO (pc := 14) [(4, rvO g z3), (3, rvO g z1), (0, .ref (g.1 q0)), (1, .int a1), (2, .int a2)] dX8_judge_14 (by decide) (by simp [rvO_cat]) ?_
  refine vr_aload_nO (pc := 16) 1 dX8_judge_16 rfl rfl ?_
  refine vr_ifnull (pc := 17) 25 dX8_judge_17 (by decide) (fun hn24 => ?_) (fun w5 hw6 => ?_)
  · simp only [hn24] at h
    refine vr_sub [0, 2, 3, 4] [(4, rvO g z3), (0, .ref (g.1 q0)), (1, .int a1), (2, .int a2)] rfl ?_
    refine vr_aload_n (pc := 25) 1 dX8_judge_25 rfl rfl ?_
    refine vr_iconst (pc := 26) (-1) dX8_judge_26 ci_m1 ?_
    obtain ⟨z22, hz23, h⟩ := ob_some h
    refine vr_callV (pc := 27) (ρ1 := (some (.int z22.1), z22.2)) [.int (-1)] dX8_judge_27 (s_X8_refuse l g (hq0) hz23) cw_X8_refuse ml_X8_71 hq0 rfl (by decide) (by decide) rfl rfl (Nat.le_of_ble_eq_true rfl) ?_
    have h := Option.some.inj h; subst h
    exact vr_iret (pc := 30) .int dX8_judge_30 rfl rfl rfl
  · simp only [hw6] at h
    refine vr_sub [0, 1, 2, 3, 4] [(4, rvO g z3), (3, .ref (g.1 w5)), (0, .ref (g.1 q0)), (1, .int a1), (2, .int a2)] (by rw [hw6]; rfl) ?_
    refine vr_aloadO (pc := 20) 0 dX8_judge_20 rfl ?_
    refine vr_ifnonnull (pc := 22) 31 dX8_judge_22 (by decide) (fun w7 hw8 => ?_) (fun hn21 => ?_)
    · simp only [hw8] at h
      refine vr_sub [0, 1, 2, 3, 4] [(4, .ref (g.1 w7)), (3, .ref (g.1 w5)), (0, .ref (g.1 q0)), (1, .int a1), (2, .int a2)] (by rw [hw8]; rfl) ?_
      refine vr_aload_n (pc := 31) 1 dX8_judge_31 rfl rfl ?_
      refine vr_callV (pc := 32) (ρ1 := (some (.int (f_X5_isMissing w5 σ)), σ)) [] dX8_judge_32 (s_X5_isMissing l g ((kf_X8_rowAt hz2 (hq0)) w5 hw6) rfl) cw_X5_isMissing ml_X8_295 ((kf_X8_rowAt hz2 (hq0)) w5 hw6) rfl (by decide) (by decide) rfl rfl (Nat.le_of_ble_eq_true rfl) ?_
      refine vr_if_eq (pc := 35) 45 dX8_judge_35 (by decide) (fun c9 => ?_) (fun c9 => ?_)
      · rw [if_pos c9] at h
        refine vr_aload_n (pc := 45) 2 dX8_judge_45 rfl rfl ?_
        refine vr_getR (pc := 46) 7 dX8_judge_46 fi_X8_45 hq0 (sh_7_7 hq0).1 ?_
        refine vr_aload_n (pc := 49) 2 dX8_judge_49 rfl rfl ?_
        refine vr_getR (pc := 50) 0 dX8_judge_50 fi_X8_10 hq0 (sh_7_0 hq0).1 ?_
        refine vr_aload (pc := 53) 0 dX8_judge_53 rfl ?_
        obtain ⟨z10, hz11, h⟩ := ob_some h
        refine vr_callV (pc := 55) (ρ1 := (none, z10)) [.ref (g.1 (rid q0 0)), .ref (g.1 w7)] dX8_judge_55 (s_X0_trace l g (sh_7_7 hq0).2 (sh_7_0 hq0).2 ((kf_X4_wheelAt hz4 (sh_7_0 hq0).2) w7 hw8) hz11) cw_X0_trace ml_X8_184 (sh_7_7 hq0).2 rfl (by decide) (by decide) rfl rfl (Nat.le_of_ble_eq_true rfl) ?_
        refine vr_iconst (pc := 58) 0 dX8_judge_58 ci_0 ?_
        refine vr_istore (pc := 59) [(5, .int 0), (4, .ref (g.1 w7)), (3, .ref (g.1 w5)), (0, .ref (g.1 q0)), (1, .int a1), (2, .int a2)] dX8_judge_59 (by decide) rfl ?_
        refine vr_sub [3, 2, 0] [(0, .ref (g.1 q0)), (3, .ref (g.1 w5)), (5, .int 0)] rfl ?_
        refine v_X8_judge_L61 l g (fun τ h => ?_) FU q0 w5 0 (hq0) (((kf_X8_rowAt hz2 (hq0)) w5 hw6)) z10 h
        refine vr_bipush (pc := 111) (-9) dX8_judge_111 cb_m9 ?_
        have h := Option.some.inj h; subst h
        exact vr_iret (pc := 113) .int dX8_judge_113 rfl rfl rfl
      · rw [if_neg c9] at h
        refine vr_aload_n (pc := 38) 2 dX8_judge_38 rfl rfl ?_
        refine vr_bipush (pc := 39) (-11) dX8_judge_39 cb_m11 ?_
        obtain ⟨z17, hz18, h⟩ := ob_some h
        refine vr_callV (pc := 41) (ρ1 := (some (.int z17.1), z17.2)) [.int (-11)] dX8_judge_41 (s_X8_refuse l g (hq0) hz18) cw_X8_refuse ml_X8_71 hq0 rfl (by decide) (by decide) rfl rfl (Nat.le_of_ble_eq_true rfl) ?_
        have h := Option.some.inj h; subst h
        exact vr_iret (pc := 44) .int dX8_judge_44 rfl rfl rfl
    · simp only [hn21] at h
      refine vr_sub [1, 2, 3, 4] [(3, .ref (g.1 w5)), (0, .ref (g.1 q0)), (1, .int a1), (2, .int a2)] rfl ?_
      refine vr_aload_n (pc := 25) 1 dX8_judge_25 rfl rfl ?_
      refine vr_iconst (pc := 26) (-1) dX8_judge_26 ci_m1 ?_
      obtain ⟨z19, hz20, h⟩ := ob_some h
      refine vr_callV (pc := 27) (ρ1 := (some (.int z19.1), z19.2)) [.int (-1)] dX8_judge_27 (s_X8_refuse l g (hq0) hz20) cw_X8_refuse ml_X8_71 hq0 rfl (by decide) (by decide) rfl rfl (Nat.le_of_ble_eq_true rfl) ?_
      have h := Option.some.inj h; subst h
      exact vr_iret (pc := 30) .int dX8_judge_30 rfl rfl rfl
theorem dX8_lots_0 : decode cX8_lots 0 = .ok (.iload_n 1, 1) := by decide +kernel
theorem dX8_lots_1 : decode cX8_lots 1 = .ok (.iconst 1, 1) := by decide +kernel
theorem dX8_lots_2 : decode cX8_lots 2 = .ok (.if_icmp .ge 10, 3) := by decide +kernel
theorem dX8_lots_5 : decode cX8_lots 5 = .ok (.aload_n 0, 1) := by decide +kernel
theorem dX8_lots_6 : decode cX8_lots 6 = .ok (.bipush (-4), 2) := by decide +kernel
theorem dX8_lots_8 : decode cX8_lots 8 = .ok (.invokevirtual 71, 3) := by decide +kernel
theorem dX8_lots_11 : decode cX8_lots 11 = .ok (.ireturn, 1) := by decide +kernel
theorem dX8_lots_12 : decode cX8_lots 12 = .ok (.iload_n 1, 1) := by decide +kernel
theorem dX8_lots_13 : decode cX8_lots 13 = .ok (.bipush 50, 2) := by decide +kernel
theorem dX8_lots_15 : decode cX8_lots 15 = .ok (.if_icmp .le 10, 3) := by decide +kernel
theorem dX8_lots_18 : decode cX8_lots 18 = .ok (.aload_n 0, 1) := by decide +kernel
theorem dX8_lots_19 : decode cX8_lots 19 = .ok (.bipush (-6), 2) := by decide +kernel
theorem dX8_lots_21 : decode cX8_lots 21 = .ok (.invokevirtual 71, 3) := by decide +kernel
theorem dX8_lots_24 : decode cX8_lots 24 = .ok (.ireturn, 1) := by decide +kernel
theorem dX8_lots_25 : decode cX8_lots 25 = .ok (.iload_n 3, 1) := by decide +kernel
theorem dX8_lots_26 : decode cX8_lots 26 = .ok (.invokestatic 163, 3) := by decide +kernel
theorem dX8_lots_29 : decode cX8_lots 29 = .ok (.ifCond .ne 10, 3) := by decide +kernel
theorem dX8_lots_32 : decode cX8_lots 32 = .ok (.aload_n 0, 1) := by decide +kernel
theorem dX8_lots_33 : decode cX8_lots 33 = .ok (.bipush (-2), 2) := by decide +kernel
theorem dX8_lots_35 : decode cX8_lots 35 = .ok (.invokevirtual 71, 3) := by decide +kernel
theorem dX8_lots_38 : decode cX8_lots 38 = .ok (.ireturn, 1) := by decide +kernel
theorem dX8_lots_39 : decode cX8_lots 39 = .ok (.aload_n 0, 1) := by decide +kernel
theorem dX8_lots_40 : decode cX8_lots 40 = .ok (.getfield 10, 3) := by decide +kernel
theorem dX8_lots_43 : decode cX8_lots 43 = .ok (.getfield 119, 3) := by decide +kernel
theorem dX8_lots_46 : decode cX8_lots 46 = .ok (.ifCond .ne 10, 3) := by decide +kernel
theorem dX8_lots_49 : decode cX8_lots 49 = .ok (.aload_n 0, 1) := by decide +kernel
theorem dX8_lots_50 : decode cX8_lots 50 = .ok (.bipush (-3), 2) := by decide +kernel
theorem dX8_lots_52 : decode cX8_lots 52 = .ok (.invokevirtual 71, 3) := by decide +kernel
theorem dX8_lots_55 : decode cX8_lots 55 = .ok (.ireturn, 1) := by decide +kernel
theorem dX8_lots_56 : decode cX8_lots 56 = .ok (.aload_n 0, 1) := by decide +kernel
theorem dX8_lots_57 : decode cX8_lots 57 = .ok (.getfield 55, 3) := by decide +kernel
theorem dX8_lots_60 : decode cX8_lots 60 = .ok (.aload_n 0, 1) := by decide +kernel
theorem dX8_lots_61 : decode cX8_lots 61 = .ok (.getfield 10, 3) := by decide +kernel
theorem dX8_lots_64 : decode cX8_lots 64 = .ok (.iload_n 1, 1) := by decide +kernel
theorem dX8_lots_65 : decode cX8_lots 65 = .ok (.iload_n 2, 1) := by decide +kernel
theorem dX8_lots_66 : decode cX8_lots 66 = .ok (.invokevirtual 324, 3) := by decide +kernel
theorem dX8_lots_69 : decode cX8_lots 69 = .ok (.iload_n 3, 1) := by decide +kernel
theorem dX8_lots_70 : decode cX8_lots 70 = .ok (.ifCond .ne 30, 3) := by decide +kernel
theorem dX8_lots_73 : decode cX8_lots 73 = .ok (.aload_n 0, 1) := by decide +kernel
theorem dX8_lots_74 : decode cX8_lots 74 = .ok (.getfield 10, 3) := by decide +kernel
theorem dX8_lots_77 : decode cX8_lots 77 = .ok (.getfield 105, 3) := by decide +kernel
theorem dX8_lots_80 : decode cX8_lots 80 = .ok (.iconst 0, 1) := by decide +kernel
theorem dX8_lots_81 : decode cX8_lots 81 = .ok (.aload_n 0, 1) := by decide +kernel
theorem dX8_lots_82 : decode cX8_lots 82 = .ok (.getfield 55, 3) := by decide +kernel
theorem dX8_lots_85 : decode cX8_lots 85 = .ok (.getfield 264, 3) := by decide +kernel
theorem dX8_lots_88 : decode cX8_lots 88 = .ok (.aload_n 0, 1) := by decide +kernel
theorem dX8_lots_89 : decode cX8_lots 89 = .ok (.getfield 10, 3) := by decide +kernel
theorem dX8_lots_92 : decode cX8_lots 92 = .ok (.getfield 105, 3) := by decide +kernel
theorem dX8_lots_95 : decode cX8_lots 95 = .ok (.invokestatic 267, 3) := by decide +kernel
theorem dX8_lots_98 : decode cX8_lots 98 = .ok (.isub, 1) := by decide +kernel
theorem dX8_lots_99 : decode cX8_lots 99 = .ok (.ireturn, 1) := by decide +kernel
theorem dX8_lots_100 : decode cX8_lots 100 = .ok (.aload_n 0, 1) := by decide +kernel
theorem dX8_lots_101 : decode cX8_lots 101 = .ok (.getfield 55, 3) := by decide +kernel
theorem dX8_lots_104 : decode cX8_lots 104 = .ok (.getfield 264, 3) := by decide +kernel
theorem dX8_lots_107 : decode cX8_lots 107 = .ok (.iconst 0, 1) := by decide +kernel
theorem dX8_lots_108 : decode cX8_lots 108 = .ok (.iaload, 1) := by decide +kernel
theorem dX8_lots_109 : decode cX8_lots 109 = .ok (.ireturn, 1) := by decide +kernel
set_option maxRecDepth 20000 in
set_option maxHeartbeats 4000000 in
theorem s_X8_lots (l : Launch) (g : GG) {q0 : Nat} (hq0 : kd q0 = 7) {a1 : Int32} {a2 : Int32} {a3 : Int32} {σ : SS} {r : Int32 × SS} (h : f_X8_lots q0 a1 a2 a3 σ = some r) : CT l g 4 yX8_lots cX8_lots 4 (some .int) [.ref (g.1 q0), .int a1, .int a2, .int a3] σ (some (.int r.1), r.2) := by
  refine CT.of (lv := [(0, .ref (g.1 q0)), (1, .int a1), (2, .int a2), (3, .int a3)]) RX8 (by decide +kernel) rfl (Nat.le_of_ble_eq_true rfl) rfl ?_
  unfold f_X8_lots at h
  refine vr_iload_n (pc := 0) 1 dX8_lots_0 rfl rfl ?_
  refine vr_iconst (pc := 1) 1 dX8_lots_1 ci_1 ?_
  refine vr_icmp_ge (pc := 2) 12 dX8_lots_2 (by decide) (fun c1 => ?_) (fun c1 => ?_)
  · rw [if_pos c1] at h
    refine vr_iload_n (pc := 12) 1 dX8_lots_12 rfl rfl ?_
    refine vr_bipush (pc := 13) 50 dX8_lots_13 cb_50 ?_
    refine vr_icmp_le (pc := 15) 25 dX8_lots_15 (by decide) (fun c2 => ?_) (fun c2 => ?_)
    · rw [if_pos c2] at h
      refine vr_iload_n (pc := 25) 3 dX8_lots_25 rfl rfl ?_
      refine vr_callS (pc := 26) (ρ1 := (some (.int (f_X8_isOneOfTwo a3)), σ)) [.int a3] dX8_lots_26 (s_X8_isOneOfTwo l g rfl) cw_X8_isOneOfTwo ml_X8_163 (by decide) rfl rfl (Nat.le_of_ble_eq_true rfl) ?_
      refine vr_if_ne (pc := 29) 39 dX8_lots_29 (by decide) (fun c3 => ?_) (fun c3 => ?_)
      · rw [if_neg c3] at h
        refine vr_aload_n (pc := 39) 0 dX8_lots_39 rfl rfl ?_
        refine vr_getR (pc := 40) 0 dX8_lots_40 fi_X8_10 hq0 (sh_7_0 hq0).1 ?_
        refine vr_getI (pc := 43) 1 dX8_lots_43 fi_X8_119 (sh_7_0 hq0).2 (sh_3_1 (sh_7_0 hq0).2) ?_
        refine vr_if_ne (pc := 46) 56 dX8_lots_46 (by decide) (fun c4 => ?_) (fun c4 => ?_)
        · rw [if_neg c4] at h
          refine vr_aload_n (pc := 56) 0 dX8_lots_56 rfl rfl ?_
          refine vr_getR (pc := 57) 9 dX8_lots_57 fi_X8_55 hq0 (sh_7_9 hq0).1 ?_
          refine vr_aload_n (pc := 60) 0 dX8_lots_60 rfl rfl ?_
          refine vr_getR (pc := 61) 0 dX8_lots_61 fi_X8_10 hq0 (sh_7_0 hq0).1 ?_
          refine vr_iload_n (pc := 64) 1 dX8_lots_64 rfl rfl ?_
          refine vr_iload_n (pc := 65) 2 dX8_lots_65 rfl rfl ?_
          obtain ⟨z5, hz6, h⟩ := ob_some h
          refine vr_callV (pc := 66) (ρ1 := (none, z5)) [.ref (g.1 (rid q0 0)), .int a1, .int a2] dX8_lots_66 (s_X6_castLots l g (sh_7_9 hq0).2 (sh_7_0 hq0).2 hz6) cw_X6_castLots ml_X8_324 (sh_7_9 hq0).2 rfl (by decide) (by decide) rfl rfl (Nat.le_of_ble_eq_true rfl) ?_
          refine vr_iload_n (pc := 69) 3 dX8_lots_69 rfl rfl ?_
          refine vr_if_ne (pc := 70) 100 dX8_lots_70 (by decide) (fun c7 => ?_) (fun c7 => ?_)
          · rw [if_neg c7] at h
            refine vr_aload_n (pc := 100) 0 dX8_lots_100 rfl rfl ?_
            refine vr_getR (pc := 101) 9 dX8_lots_101 fi_X8_55 hq0 (sh_7_9 hq0).1 ?_
            refine vr_getR (pc := 104) 5 dX8_lots_104 fi_X8_264 (sh_7_9 hq0).2 (sh_5_5 (sh_7_9 hq0).2).1 ?_
            refine vr_iconst (pc := 107) 0 dX8_lots_107 ci_0 ?_
            obtain ⟨hc8, h⟩ := ck_some h
            refine vr_iald (pc := 108) dX8_lots_108 (sh_5_5 (sh_7_9 hq0).2).2 hc8 ?_
            have h := Option.some.inj h; subst h
            exact vr_iret (pc := 109) .int dX8_lots_109 rfl rfl rfl
          · rw [if_pos c7] at h
            refine vr_aload_n (pc := 73) 0 dX8_lots_73 rfl rfl ?_
            refine vr_getR (pc := 74) 0 dX8_lots_74 fi_X8_10 hq0 (sh_7_0 hq0).1 ?_
            refine vr_getI (pc := 77) 0 dX8_lots_77 fi_X8_105 (sh_7_0 hq0).2 (sh_3_0 (sh_7_0 hq0).2) ?_
            refine vr_iconst (pc := 80) 0 dX8_lots_80 ci_0 ?_
            refine vr_aload_n (pc := 81) 0 dX8_lots_81 rfl rfl ?_
            refine vr_getR (pc := 82) 9 dX8_lots_82 fi_X8_55 hq0 (sh_7_9 hq0).1 ?_
            refine vr_getR (pc := 85) 5 dX8_lots_85 fi_X8_264 (sh_7_9 hq0).2 (sh_5_5 (sh_7_9 hq0).2).1 ?_
            refine vr_aload_n (pc := 88) 0 dX8_lots_88 rfl rfl ?_
            refine vr_getR (pc := 89) 0 dX8_lots_89 fi_X8_10 hq0 (sh_7_0 hq0).1 ?_
            refine vr_getI (pc := 92) 0 dX8_lots_92 fi_X8_105 (sh_7_0 hq0).2 (sh_3_0 (sh_7_0 hq0).2) ?_
            obtain ⟨z9, hz10, h⟩ := ob_some h
            refine vr_callS (pc := 95) (ρ1 := (some (.int z9), z5)) [.int 0, .ref (g.1 (rid (rid q0 9) 5)), .int (z5.1 (rid q0 0) 0)] dX8_lots_95 (s_X2_placesOf l g (sh_5_5 (sh_7_9 hq0).2).2 hz10) cw_X2_placesOf ml_X8_267 (by decide) rfl rfl (Nat.le_of_ble_eq_true rfl) ?_
            refine vr_isub (pc := 98) dX8_lots_98 ?_
            have h := Option.some.inj h; subst h
            exact vr_iret (pc := 99) .int dX8_lots_99 rfl rfl rfl
        · rw [if_pos c4] at h
          refine vr_aload_n (pc := 49) 0 dX8_lots_49 rfl rfl ?_
          refine vr_bipush (pc := 50) (-3) dX8_lots_50 cb_m3 ?_
          obtain ⟨z11, hz12, h⟩ := ob_some h
          refine vr_callV (pc := 52) (ρ1 := (some (.int z11.1), z11.2)) [.int (-3)] dX8_lots_52 (s_X8_refuse l g (hq0) hz12) cw_X8_refuse ml_X8_71 hq0 rfl (by decide) (by decide) rfl rfl (Nat.le_of_ble_eq_true rfl) ?_
          have h := Option.some.inj h; subst h
          exact vr_iret (pc := 55) .int dX8_lots_55 rfl rfl rfl
      · rw [if_pos c3] at h
        refine vr_aload_n (pc := 32) 0 dX8_lots_32 rfl rfl ?_
        refine vr_bipush (pc := 33) (-2) dX8_lots_33 cb_m2 ?_
        obtain ⟨z13, hz14, h⟩ := ob_some h
        refine vr_callV (pc := 35) (ρ1 := (some (.int z13.1), z13.2)) [.int (-2)] dX8_lots_35 (s_X8_refuse l g (hq0) hz14) cw_X8_refuse ml_X8_71 hq0 rfl (by decide) (by decide) rfl rfl (Nat.le_of_ble_eq_true rfl) ?_
        have h := Option.some.inj h; subst h
        exact vr_iret (pc := 38) .int dX8_lots_38 rfl rfl rfl
    · rw [if_neg c2] at h
      refine vr_aload_n (pc := 18) 0 dX8_lots_18 rfl rfl ?_
      refine vr_bipush (pc := 19) (-6) dX8_lots_19 cb_m6 ?_
      obtain ⟨z15, hz16, h⟩ := ob_some h
      refine vr_callV (pc := 21) (ρ1 := (some (.int z15.1), z15.2)) [.int (-6)] dX8_lots_21 (s_X8_refuse l g (hq0) hz16) cw_X8_refuse ml_X8_71 hq0 rfl (by decide) (by decide) rfl rfl (Nat.le_of_ble_eq_true rfl) ?_
      have h := Option.some.inj h; subst h
      exact vr_iret (pc := 24) .int dX8_lots_24 rfl rfl rfl
  · rw [if_neg c1] at h
    refine vr_aload_n (pc := 5) 0 dX8_lots_5 rfl rfl ?_
    refine vr_bipush (pc := 6) (-4) dX8_lots_6 cb_m4 ?_
    obtain ⟨z17, hz18, h⟩ := ob_some h
    refine vr_callV (pc := 8) (ρ1 := (some (.int z17.1), z17.2)) [.int (-4)] dX8_lots_8 (s_X8_refuse l g (hq0) hz18) cw_X8_refuse ml_X8_71 hq0 rfl (by decide) (by decide) rfl rfl (Nat.le_of_ble_eq_true rfl) ?_
    have h := Option.some.inj h; subst h
    exact vr_iret (pc := 11) .int dX8_lots_11 rfl rfl rfl
theorem dX8_list_0 : decode cX8_list 0 = .ok (.aload_n 0, 1) := by decide +kernel
theorem dX8_list_1 : decode cX8_list 1 = .ok (.iload_n 1, 1) := by decide +kernel
theorem dX8_list_2 : decode cX8_list 2 = .ok (.invokevirtual 291, 3) := by decide +kernel
theorem dX8_list_5 : decode cX8_list 5 = .ok (.astore_n 3, 1) := by decide +kernel
theorem dX8_list_6 : decode cX8_list 6 = .ok (.aload_n 3, 1) := by decide +kernel
theorem dX8_list_7 : decode cX8_list 7 = .ok (.ifnonnull 9, 3) := by decide +kernel
theorem dX8_list_10 : decode cX8_list 10 = .ok (.aload_n 0, 1) := by decide +kernel
theorem dX8_list_11 : decode cX8_list 11 = .ok (.iconst (-1), 1) := by decide +kernel
theorem dX8_list_12 : decode cX8_list 12 = .ok (.invokevirtual 71, 3) := by decide +kernel
theorem dX8_list_15 : decode cX8_list 15 = .ok (.ireturn, 1) := by decide +kernel
theorem dX8_list_16 : decode cX8_list 16 = .ok (.iload_n 2, 1) := by decide +kernel
theorem dX8_list_17 : decode cX8_list 17 = .ok (.bipush 40, 2) := by decide +kernel
theorem dX8_list_19 : decode cX8_list 19 = .ok (.if_icmp .le 10, 3) := by decide +kernel
theorem dX8_list_22 : decode cX8_list 22 = .ok (.aload_n 0, 1) := by decide +kernel
theorem dX8_list_23 : decode cX8_list 23 = .ok (.bipush (-6), 2) := by decide +kernel
theorem dX8_list_25 : decode cX8_list 25 = .ok (.invokevirtual 71, 3) := by decide +kernel
theorem dX8_list_28 : decode cX8_list 28 = .ok (.ireturn, 1) := by decide +kernel
theorem dX8_list_29 : decode cX8_list 29 = .ok (.iload_n 2, 1) := by decide +kernel
theorem dX8_list_30 : decode cX8_list 30 = .ok (.ifCond .ge 10, 3) := by decide +kernel
theorem dX8_list_33 : decode cX8_list 33 = .ok (.aload_n 0, 1) := by decide +kernel
theorem dX8_list_34 : decode cX8_list 34 = .ok (.bipush (-14), 2) := by decide +kernel
theorem dX8_list_36 : decode cX8_list 36 = .ok (.invokevirtual 71, 3) := by decide +kernel
theorem dX8_list_39 : decode cX8_list 39 = .ok (.ireturn, 1) := by decide +kernel
theorem dX8_list_40 : decode cX8_list 40 = .ok (.aload_n 3, 1) := by decide +kernel
theorem dX8_list_41 : decode cX8_list 41 = .ok (.iload_n 2, 1) := by decide +kernel
theorem dX8_list_42 : decode cX8_list 42 = .ok (.invokevirtual 327, 3) := by decide +kernel
theorem dX8_list_45 : decode cX8_list 45 = .ok (.iconst 1, 1) := by decide +kernel
theorem dX8_list_46 : decode cX8_list 46 = .ok (.ireturn, 1) := by decide +kernel
set_option maxRecDepth 20000 in
set_option maxHeartbeats 4000000 in
theorem s_X8_list (l : Launch) (g : GG) {q0 : Nat} (hq0 : kd q0 = 7) {a1 : Int32} {a2 : Int32} {σ : SS} {r : Int32 × SS} (h : f_X8_list q0 a1 a2 σ = some r) : CT l g 2 yX8_list cX8_list 4 (some .int) [.ref (g.1 q0), .int a1, .int a2] σ (some (.int r.1), r.2) := by
  refine CT.of (lv := [(0, .ref (g.1 q0)), (1, .int a1), (2, .int a2)]) RX8 (by decide +kernel) rfl (Nat.le_of_ble_eq_true rfl) rfl ?_
  unfold f_X8_list at h
  refine vr_aload_n (pc := 0) 0 dX8_list_0 rfl rfl ?_
  refine vr_iload_n (pc := 1) 1 dX8_list_1 rfl rfl ?_
  obtain ⟨z1, hz2, h⟩ := ob_some h
  refine vr_callV (pc := 2) (ρ1 := (some (rvO g z1), σ)) [.int a1] dX8_list_2 (s_X8_rowAt l g (hq0) hz2) cw_X8_rowAt ml_X8_291 hq0 rfl (by decide) (by decide) rfl rfl (Nat.le_of_ble_eq_true rfl) ?_
  refine vr_astore_nO (pc := 5) [(3, rvO g z1), (0, .ref (g.1 q0)), (1, .int a1), (2, .int a2)] dX8_list_5 rfl (by decide) rfl ?_
  refine vr_aload_nO (pc := 6) 0 dX8_list_6 rfl rfl ?_
  refine vr_ifnonnull (pc := 7) 16 dX8_list_7 (by decide) (fun w3 hw4 => ?_) (fun hn15 => ?_)
  · simp only [hw4] at h
    refine vr_sub [0, 1, 2, 3] [(3, .ref (g.1 w3)), (0, .ref (g.1 q0)), (1, .int a1), (2, .int a2)] (by rw [hw4]; rfl) ?_
    refine vr_iload_n (pc := 16) 3 dX8_list_16 rfl rfl ?_
    refine vr_bipush (pc := 17) 40 dX8_list_17 cb_40 ?_
    refine vr_icmp_le (pc := 19) 29 dX8_list_19 (by decide) (fun c5 => ?_) (fun c5 => ?_)
    · rw [if_pos c5] at h
      refine vr_iload_n (pc := 29) 3 dX8_list_29 rfl rfl ?_
      refine vr_if_ge (pc := 30) 40 dX8_list_30 (by decide) (fun c6 => ?_) (fun c6 => ?_)
      · rw [if_pos c6] at h
        refine vr_aload_n (pc := 40) 0 dX8_list_40 rfl rfl ?_
        refine vr_iload_n (pc := 41) 3 dX8_list_41 rfl rfl ?_
        obtain ⟨z7, hz8, h⟩ := ob_some h
        refine vr_callV (pc := 42) (ρ1 := (none, z7)) [.int a2] dX8_list_42 (s_X5_renew l g ((kf_X8_rowAt hz2 (hq0)) w3 hw4) hz8) cw_X5_renew ml_X8_327 ((kf_X8_rowAt hz2 (hq0)) w3 hw4) rfl (by decide) (by decide) rfl rfl (Nat.le_of_ble_eq_true rfl) ?_
        refine vr_iconst (pc := 45) 1 dX8_list_45 ci_1 ?_
        have h := Option.some.inj h; subst h
        exact vr_iret (pc := 46) .int dX8_list_46 rfl rfl rfl
      · rw [if_neg c6] at h
        refine vr_aload_n (pc := 33) 1 dX8_list_33 rfl rfl ?_
        refine vr_bipush (pc := 34) (-14) dX8_list_34 cb_m14 ?_
        obtain ⟨z9, hz10, h⟩ := ob_some h
        refine vr_callV (pc := 36) (ρ1 := (some (.int z9.1), z9.2)) [.int (-14)] dX8_list_36 (s_X8_refuse l g (hq0) hz10) cw_X8_refuse ml_X8_71 hq0 rfl (by decide) (by decide) rfl rfl (Nat.le_of_ble_eq_true rfl) ?_
        have h := Option.some.inj h; subst h
        exact vr_iret (pc := 39) .int dX8_list_39 rfl rfl rfl
    · rw [if_neg c5] at h
      refine vr_aload_n (pc := 22) 1 dX8_list_22 rfl rfl ?_
      refine vr_bipush (pc := 23) (-6) dX8_list_23 cb_m6 ?_
      obtain ⟨z11, hz12, h⟩ := ob_some h
      refine vr_callV (pc := 25) (ρ1 := (some (.int z11.1), z11.2)) [.int (-6)] dX8_list_25 (s_X8_refuse l g (hq0) hz12) cw_X8_refuse ml_X8_71 hq0 rfl (by decide) (by decide) rfl rfl (Nat.le_of_ble_eq_true rfl) ?_
      have h := Option.some.inj h; subst h
      exact vr_iret (pc := 28) .int dX8_list_28 rfl rfl rfl
  · simp only [hn15] at h
    refine vr_sub [1, 2, 3] [(0, .ref (g.1 q0)), (1, .int a1), (2, .int a2)] rfl ?_
    refine vr_aload_n (pc := 10) 0 dX8_list_10 rfl rfl ?_
    refine vr_iconst (pc := 11) (-1) dX8_list_11 ci_m1 ?_
    obtain ⟨z13, hz14, h⟩ := ob_some h
    refine vr_callV (pc := 12) (ρ1 := (some (.int z13.1), z13.2)) [.int (-1)] dX8_list_12 (s_X8_refuse l g (hq0) hz14) cw_X8_refuse ml_X8_71 hq0 rfl (by decide) (by decide) rfl rfl (Nat.le_of_ble_eq_true rfl) ?_
    have h := Option.some.inj h; subst h
    exact vr_iret (pc := 15) .int dX8_list_15 rfl rfl rfl
theorem dX8_refusalOfPlace_0 : decode cX8_refusalOfPlace 0 = .ok (.aload_n 0, 1) := by decide +kernel
theorem dX8_refusalOfPlace_1 : decode cX8_refusalOfPlace 1 = .ok (.ifnonnull 5, 3) := by decide +kernel
theorem dX8_refusalOfPlace_4 : decode cX8_refusalOfPlace 4 = .ok (.iconst (-1), 1) := by decide +kernel
theorem dX8_refusalOfPlace_5 : decode cX8_refusalOfPlace 5 = .ok (.ireturn, 1) := by decide +kernel
theorem dX8_refusalOfPlace_6 : decode cX8_refusalOfPlace 6 = .ok (.aload_n 0, 1) := by decide +kernel
theorem dX8_refusalOfPlace_7 : decode cX8_refusalOfPlace 7 = .ok (.invokevirtual 295, 3) := by decide +kernel
theorem dX8_refusalOfPlace_10 : decode cX8_refusalOfPlace 10 = .ok (.ifCond .eq 6, 3) := by decide +kernel
theorem dX8_refusalOfPlace_13 : decode cX8_refusalOfPlace 13 = .ok (.bipush (-11), 2) := by decide +kernel
theorem dX8_refusalOfPlace_15 : decode cX8_refusalOfPlace 15 = .ok (.ireturn, 1) := by decide +kernel
theorem dX8_refusalOfPlace_16 : decode cX8_refusalOfPlace 16 = .ok (.aload_n 0, 1) := by decide +kernel
theorem dX8_refusalOfPlace_17 : decode cX8_refusalOfPlace 17 = .ok (.iload_n 1, 1) := by decide +kernel
theorem dX8_refusalOfPlace_18 : decode cX8_refusalOfPlace 18 = .ok (.invokevirtual 352, 3) := by decide +kernel
theorem dX8_refusalOfPlace_21 : decode cX8_refusalOfPlace 21 = .ok (.ifCond .eq 7, 3) := by decide +kernel
theorem dX8_refusalOfPlace_24 : decode cX8_refusalOfPlace 24 = .ok (.iconst 0, 1) := by decide +kernel
theorem dX8_refusalOfPlace_25 : decode cX8_refusalOfPlace 25 = .ok (.goto 5, 3) := by decide +kernel
theorem dX8_refusalOfPlace_28 : decode cX8_refusalOfPlace 28 = .ok (.bipush (-13), 2) := by decide +kernel
theorem dX8_refusalOfPlace_30 : decode cX8_refusalOfPlace 30 = .ok (.ireturn, 1) := by decide +kernel
set_option maxRecDepth 20000 in
set_option maxHeartbeats 4000000 in
theorem s_X8_refusalOfPlace (l : Launch) (g : GG) {o0 : Option Nat} (ho0 : ∀ q, o0 = some q → kd q = 4) {a1 : Int32} {σ : SS} {r : Int32} (h : f_X8_refusalOfPlace o0 a1 σ = r) : CT l g 1 yX8_refusalOfPlace cX8_refusalOfPlace 2 (some .int) [rvO g o0, .int a1] σ (some (.int r), σ) := by
  refine CT.of (lv := [(0, rvO g o0), (1, .int a1)]) RX8 (by decide +kernel) rfl (by cases o0 <;> exact Nat.le_of_ble_eq_true rfl) (by cases o0 <;> rfl) ?_
  unfold f_X8_refusalOfPlace at h
  refine vr_aload_nO (pc := 0) 0 dX8_refusalOfPlace_0 rfl rfl ?_
  refine vr_ifnonnull (pc := 1) 6 dX8_refusalOfPlace_1 (by decide) (fun w1 hw2 => ?_) (fun hn5 => ?_)
  · simp only [hw2] at h
    refine vr_sub [0, 1] [(0, .ref (g.1 w1)), (1, .int a1)] (by rw [hw2]; rfl) ?_
    refine vr_aload_n (pc := 6) 0 dX8_refusalOfPlace_6 rfl rfl ?_
    refine vr_callV (pc := 7) (ρ1 := (some (.int (f_X5_isMissing w1 σ)), σ)) [] dX8_refusalOfPlace_7 (s_X5_isMissing l g (ho0 w1 hw2) rfl) cw_X5_isMissing ml_X8_295 (ho0 w1 hw2) rfl (by decide) (by decide) rfl rfl (Nat.le_of_ble_eq_true rfl) ?_
    refine vr_if_eq (pc := 10) 16 dX8_refusalOfPlace_10 (by decide) (fun c3 => ?_) (fun c3 => ?_)
    · rw [if_pos c3] at h
      refine vr_aload_n (pc := 16) 0 dX8_refusalOfPlace_16 rfl rfl ?_
      refine vr_iload_n (pc := 17) 1 dX8_refusalOfPlace_17 rfl rfl ?_
      refine vr_callV (pc := 18) (ρ1 := (some (.int (f_X5_hasPlace w1 a1 σ)), σ)) [.int a1] dX8_refusalOfPlace_18 (s_X5_hasPlace l g (ho0 w1 hw2) rfl) cw_X5_hasPlace ml_X8_352 (ho0 w1 hw2) rfl (by decide) (by decide) rfl rfl (Nat.le_of_ble_eq_true rfl) ?_
      refine vr_if_eq (pc := 21) 28 dX8_refusalOfPlace_21 (by decide) (fun c4 => ?_) (fun c4 => ?_)
      · rw [if_pos c4] at h
        refine vr_bipush (pc := 28) (-13) dX8_refusalOfPlace_28 cb_m13 ?_
        subst h
        exact vr_iret (pc := 30) .int dX8_refusalOfPlace_30 rfl rfl rfl
      · rw [if_neg c4] at h
        refine vr_iconst (pc := 24) 0 dX8_refusalOfPlace_24 ci_0 ?_
        refine vr_goto (pc := 25) 30 dX8_refusalOfPlace_25 (by decide) ?_
        subst h
        exact vr_iret (pc := 30) .int dX8_refusalOfPlace_30 rfl rfl rfl
    · rw [if_neg c3] at h
      refine vr_bipush (pc := 13) (-11) dX8_refusalOfPlace_13 cb_m11 ?_
      subst h
      exact vr_iret (pc := 15) .int dX8_refusalOfPlace_15 rfl rfl rfl
  · simp only [hn5] at h
    refine vr_sub [1] [(1, .int a1)] rfl ?_
    refine vr_iconst (pc := 4) (-1) dX8_refusalOfPlace_4 ci_m1 ?_
    subst h
    exact vr_iret (pc := 5) .int dX8_refusalOfPlace_5 rfl rfl rfl
theorem dX8_put_0 : decode cX8_put 0 = .ok (.aload_n 0, 1) := by decide +kernel
theorem dX8_put_1 : decode cX8_put 1 = .ok (.iload_n 1, 1) := by decide +kernel
theorem dX8_put_2 : decode cX8_put 2 = .ok (.invokevirtual 291, 3) := by decide +kernel
theorem dX8_put_5 : decode cX8_put 5 = .ok (.iload_n 2, 1) := by decide +kernel
theorem dX8_put_6 : decode cX8_put 6 = .ok (.invokestatic 328, 3) := by decide +kernel
theorem dX8_put_9 : decode cX8_put 9 = .ok (.istore 4, 2) := by decide +kernel
theorem dX8_put_11 : decode cX8_put 11 = .ok (.iload 4, 2) := by decide +kernel
theorem dX8_put_13 : decode cX8_put 13 = .ok (.ifCond .eq 10, 3) := by decide +kernel
theorem dX8_put_16 : decode cX8_put 16 = .ok (.aload_n 0, 1) := by decide +kernel
theorem dX8_put_17 : decode cX8_put 17 = .ok (.iload 4, 2) := by decide +kernel
theorem dX8_put_19 : decode cX8_put 19 = .ok (.invokevirtual 71, 3) := by decide +kernel
theorem dX8_put_22 : decode cX8_put 22 = .ok (.ireturn, 1) := by decide +kernel
theorem dX8_put_23 : decode cX8_put 23 = .ok (.aload_n 0, 1) := by decide +kernel
theorem dX8_put_24 : decode cX8_put 24 = .ok (.getfield 38, 3) := by decide +kernel
theorem dX8_put_27 : decode cX8_put 27 = .ok (.iload_n 1, 1) := by decide +kernel
theorem dX8_put_28 : decode cX8_put 28 = .ok (.aaload, 1) := by decide +kernel
theorem dX8_put_29 : decode cX8_put 29 = .ok (.getfield 321, 3) := by decide +kernel
theorem dX8_put_32 : decode cX8_put 32 = .ok (.iload_n 2, 1) := by decide +kernel
theorem dX8_put_33 : decode cX8_put 33 = .ok (.iload_n 3, 1) := by decide +kernel
theorem dX8_put_34 : decode cX8_put 34 = .ok (.iastore, 1) := by decide +kernel
theorem dX8_put_35 : decode cX8_put 35 = .ok (.iconst 1, 1) := by decide +kernel
theorem dX8_put_36 : decode cX8_put 36 = .ok (.ireturn, 1) := by decide +kernel
set_option maxRecDepth 20000 in
set_option maxHeartbeats 4000000 in
theorem s_X8_put (l : Launch) (g : GG) {q0 : Nat} (hq0 : kd q0 = 7) {a1 : Int32} {a2 : Int32} {a3 : Int32} {σ : SS} {r : Int32 × SS} (h : f_X8_put q0 a1 a2 a3 σ = some r) : CT l g 2 yX8_put cX8_put 5 (some .int) [.ref (g.1 q0), .int a1, .int a2, .int a3] σ (some (.int r.1), r.2) := by
  refine CT.of (lv := [(0, .ref (g.1 q0)), (1, .int a1), (2, .int a2), (3, .int a3)]) RX8 (by decide +kernel) rfl (Nat.le_of_ble_eq_true rfl) rfl ?_
  unfold f_X8_put at h
  refine vr_aload_n (pc := 0) 0 dX8_put_0 rfl rfl ?_
  refine vr_iload_n (pc := 1) 1 dX8_put_1 rfl rfl ?_
  obtain ⟨z1, hz2, h⟩ := ob_some h
  refine vr_callV (pc := 2) (ρ1 := (some (rvO g z1), σ)) [.int a1] dX8_put_2 (s_X8_rowAt l g (hq0) hz2) cw_X8_rowAt ml_X8_291 hq0 rfl (by decide) (by decide) rfl rfl (Nat.le_of_ble_eq_true rfl) ?_
  refine vr_iload_n (pc := 5) 2 dX8_put_5 rfl rfl ?_
  refine vr_callS (pc := 6) (ρ1 := (some (.int (f_X8_refusalOfPlace z1 a2 σ)), σ)) [rvO g z1, .int a2] dX8_put_6 (s_X8_refusalOfPlace l g (kf_X8_rowAt hz2 (hq0)) rfl) cw_X8_refusalOfPlace ml_X8_328 (by decide) rfl rfl (Nat.le_of_ble_eq_true rfl) ?_
  refine vr_istore (pc := 9) [(4, .int (f_X8_refusalOfPlace z1 a2 σ)), (0, .ref (g.1 q0)), (1, .int a1), (2, .int a2), (3, .int a3)] dX8_put_9 (by decide) rfl ?_
  refine vr_iload (pc := 11) 0 dX8_put_11 rfl ?_
  refine vr_if_eq (pc := 13) 23 dX8_put_13 (by decide) (fun c3 => ?_) (fun c3 => ?_)
  · rw [if_pos c3] at h
    refine vr_aload_n (pc := 23) 1 dX8_put_23 rfl rfl ?_
    refine vr_getR (pc := 24) 6 dX8_put_24 fi_X8_38 hq0 (sh_7_6 hq0).1 ?_
    refine vr_iload_n (pc := 27) 2 dX8_put_27 rfl rfl ?_
    obtain ⟨hc4, h⟩ := ck_some h
    refine vr_aald (pc := 28) dX8_put_28 (sh_7_6 hq0).2 (by decide) hc4 (sha_14 (sh_7_6 hq0).2 (lt_ck hc4)).1 ?_
    refine vr_getR (pc := 29) 1 dX8_put_29 fi_X8_321 (sha_14 (sh_7_6 hq0).2 (lt_ck hc4)).2 (sh_4_1 (sha_14 (sh_7_6 hq0).2 (lt_ck hc4)).2).1 ?_
    refine vr_iload_n (pc := 32) 3 dX8_put_32 rfl rfl ?_
    refine vr_iload_n (pc := 33) 4 dX8_put_33 rfl rfl ?_
    obtain ⟨hc5, h⟩ := ck_some h
    refine vr_iast (pc := 34) dX8_put_34 (sh_4_1 (sha_14 (sh_7_6 hq0).2 (lt_ck hc4)).2).2 hc5 ?_
    refine vr_iconst (pc := 35) 1 dX8_put_35 ci_1 ?_
    have h := Option.some.inj h; subst h
    exact vr_iret (pc := 36) .int dX8_put_36 rfl rfl rfl
  · rw [if_neg c3] at h
    refine vr_aload_n (pc := 16) 1 dX8_put_16 rfl rfl ?_
    refine vr_iload (pc := 17) 0 dX8_put_17 rfl ?_
    obtain ⟨z6, hz7, h⟩ := ob_some h
    refine vr_callV (pc := 19) (ρ1 := (some (.int z6.1), z6.2)) [.int (f_X8_refusalOfPlace z1 a2 σ)] dX8_put_19 (s_X8_refuse l g (hq0) hz7) cw_X8_refuse ml_X8_71 hq0 rfl (by decide) (by decide) rfl rfl (Nat.le_of_ble_eq_true rfl) ?_
    have h := Option.some.inj h; subst h
    exact vr_iret (pc := 22) .int dX8_put_22 rfl rfl rfl
theorem dX8_look_0 : decode cX8_look 0 = .ok (.aload_n 0, 1) := by decide +kernel
theorem dX8_look_1 : decode cX8_look 1 = .ok (.iload_n 1, 1) := by decide +kernel
theorem dX8_look_2 : decode cX8_look 2 = .ok (.invokevirtual 291, 3) := by decide +kernel
theorem dX8_look_5 : decode cX8_look 5 = .ok (.iload_n 2, 1) := by decide +kernel
theorem dX8_look_6 : decode cX8_look 6 = .ok (.invokestatic 328, 3) := by decide +kernel
theorem dX8_look_9 : decode cX8_look 9 = .ok (.istore_n 3, 1) := by decide +kernel
theorem dX8_look_10 : decode cX8_look 10 = .ok (.iload_n 3, 1) := by decide +kernel
theorem dX8_look_11 : decode cX8_look 11 = .ok (.ifCond .eq 9, 3) := by decide +kernel
theorem dX8_look_14 : decode cX8_look 14 = .ok (.aload_n 0, 1) := by decide +kernel
theorem dX8_look_15 : decode cX8_look 15 = .ok (.iload_n 3, 1) := by decide +kernel
theorem dX8_look_16 : decode cX8_look 16 = .ok (.invokevirtual 159, 3) := by decide +kernel
theorem dX8_look_19 : decode cX8_look 19 = .ok (.lreturn, 1) := by decide +kernel
theorem dX8_look_20 : decode cX8_look 20 = .ok (.aload_n 0, 1) := by decide +kernel
theorem dX8_look_21 : decode cX8_look 21 = .ok (.getfield 38, 3) := by decide +kernel
theorem dX8_look_24 : decode cX8_look 24 = .ok (.iload_n 1, 1) := by decide +kernel
theorem dX8_look_25 : decode cX8_look 25 = .ok (.aaload, 1) := by decide +kernel
theorem dX8_look_26 : decode cX8_look 26 = .ok (.getfield 321, 3) := by decide +kernel
theorem dX8_look_29 : decode cX8_look 29 = .ok (.iload_n 2, 1) := by decide +kernel
theorem dX8_look_30 : decode cX8_look 30 = .ok (.iaload, 1) := by decide +kernel
theorem dX8_look_31 : decode cX8_look 31 = .ok (.i2l, 1) := by decide +kernel
theorem dX8_look_32 : decode cX8_look 32 = .ok (.lreturn, 1) := by decide +kernel
set_option maxRecDepth 20000 in
set_option maxHeartbeats 4000000 in
theorem s_X8_look (l : Launch) (g : GG) {q0 : Nat} (hq0 : kd q0 = 7) {a1 : Int32} {a2 : Int32} {σ : SS} {r : Int64 × SS} (h : f_X8_look q0 a1 a2 σ = some r) : CT l g 2 yX8_look cX8_look 4 (some .long) [.ref (g.1 q0), .int a1, .int a2] σ (some (.long r.1), r.2) := by
  refine CT.of (lv := [(0, .ref (g.1 q0)), (1, .int a1), (2, .int a2)]) RX8 (by decide +kernel) rfl (Nat.le_of_ble_eq_true rfl) rfl ?_
  unfold f_X8_look at h
  refine vr_aload_n (pc := 0) 0 dX8_look_0 rfl rfl ?_
  refine vr_iload_n (pc := 1) 1 dX8_look_1 rfl rfl ?_
  obtain ⟨z1, hz2, h⟩ := ob_some h
  refine vr_callV (pc := 2) (ρ1 := (some (rvO g z1), σ)) [.int a1] dX8_look_2 (s_X8_rowAt l g (hq0) hz2) cw_X8_rowAt ml_X8_291 hq0 rfl (by decide) (by decide) rfl rfl (Nat.le_of_ble_eq_true rfl) ?_
  refine vr_iload_n (pc := 5) 2 dX8_look_5 rfl rfl ?_
  refine vr_callS (pc := 6) (ρ1 := (some (.int (f_X8_refusalOfPlace z1 a2 σ)), σ)) [rvO g z1, .int a2] dX8_look_6 (s_X8_refusalOfPlace l g (kf_X8_rowAt hz2 (hq0)) rfl) cw_X8_refusalOfPlace ml_X8_328 (by decide) rfl rfl (Nat.le_of_ble_eq_true rfl) ?_
  refine vr_istore_n (pc := 9) [(3, .int (f_X8_refusalOfPlace z1 a2 σ)), (0, .ref (g.1 q0)), (1, .int a1), (2, .int a2)] dX8_look_9 rfl (by decide) rfl ?_
  refine vr_iload_n (pc := 10) 0 dX8_look_10 rfl rfl ?_
  refine vr_if_eq (pc := 11) 20 dX8_look_11 (by decide) (fun c3 => ?_) (fun c3 => ?_)
  · rw [if_pos c3] at h
    refine vr_aload_n (pc := 20) 1 dX8_look_20 rfl rfl ?_
    refine vr_getR (pc := 21) 6 dX8_look_21 fi_X8_38 hq0 (sh_7_6 hq0).1 ?_
    refine vr_iload_n (pc := 24) 2 dX8_look_24 rfl rfl ?_
    obtain ⟨hc4, h⟩ := ck_some h
    refine vr_aald (pc := 25) dX8_look_25 (sh_7_6 hq0).2 (by decide) hc4 (sha_14 (sh_7_6 hq0).2 (lt_ck hc4)).1 ?_
    refine vr_getR (pc := 26) 1 dX8_look_26 fi_X8_321 (sha_14 (sh_7_6 hq0).2 (lt_ck hc4)).2 (sh_4_1 (sha_14 (sh_7_6 hq0).2 (lt_ck hc4)).2).1 ?_
    refine vr_iload_n (pc := 29) 3 dX8_look_29 rfl rfl ?_
    obtain ⟨hc5, h⟩ := ck_some h
    refine vr_iald (pc := 30) dX8_look_30 (sh_4_1 (sha_14 (sh_7_6 hq0).2 (lt_ck hc4)).2).2 hc5 ?_
    refine vr_i2l (pc := 31) dX8_look_31 ?_
    have h := Option.some.inj h; subst h
    exact vr_lret (pc := 32) dX8_look_32 rfl rfl
  · rw [if_neg c3] at h
    refine vr_aload_n (pc := 14) 1 dX8_look_14 rfl rfl ?_
    refine vr_iload_n (pc := 15) 0 dX8_look_15 rfl rfl ?_
    obtain ⟨z6, hz7, h⟩ := ob_some h
    refine vr_callV (pc := 16) (ρ1 := (some (.long z6.1), z6.2)) [.int (f_X8_refusalOfPlace z1 a2 σ)] dX8_look_16 (s_X8_refuseLong l g (hq0) hz7) cw_X8_refuseLong ml_X8_159 hq0 rfl (by decide) (by decide) rfl rfl (Nat.le_of_ble_eq_true rfl) ?_
    have h := Option.some.inj h; subst h
    exact vr_lret (pc := 19) dX8_look_19 rfl rfl
theorem dX8_lays_0 : decode cX8_lays 0 = .ok (.aload_n 0, 1) := by decide +kernel
theorem dX8_lays_1 : decode cX8_lays 1 = .ok (.iload_n 1, 1) := by decide +kernel
theorem dX8_lays_2 : decode cX8_lays 2 = .ok (.invokevirtual 291, 3) := by decide +kernel
theorem dX8_lays_5 : decode cX8_lays 5 = .ok (.astore 4, 2) := by decide +kernel
theorem dX8_lays_7 : decode cX8_lays 7 = .ok (.aload_n 0, 1) := by decide +kernel
theorem dX8_lays_8 : decode cX8_lays 8 = .ok (.getfield 10, 3) := by decide +kernel
theorem dX8_lays_11 : decode cX8_lays 11 = .ok (.iload_n 3, 1) := by decide +kernel
theorem dX8_lays_12 : decode cX8_lays 12 = .ok (.invokevirtual 122, 3) := by decide +kernel
theorem dX8_lays_15 : decode cX8_lays 15 = .ok (.astore 5, 2) := by decide +kernel
theorem dX8_lays_17 : decode cX8_lays 17 = .ok (.aload 4, 2) := by decide +kernel
theorem dX8_lays_19 : decode cX8_lays 19 = .ok (.ifnull 8, 3) := by decide +kernel
theorem dX8_lays_22 : decode cX8_lays 22 = .ok (.aload 5, 2) := by decide +kernel
theorem dX8_lays_24 : decode cX8_lays 24 = .ok (.ifnonnull 9, 3) := by decide +kernel
theorem dX8_lays_27 : decode cX8_lays 27 = .ok (.aload_n 0, 1) := by decide +kernel
theorem dX8_lays_28 : decode cX8_lays 28 = .ok (.iconst (-1), 1) := by decide +kernel
theorem dX8_lays_29 : decode cX8_lays 29 = .ok (.invokevirtual 71, 3) := by decide +kernel
theorem dX8_lays_32 : decode cX8_lays 32 = .ok (.ireturn, 1) := by decide +kernel
theorem dX8_lays_33 : decode cX8_lays 33 = .ok (.aload 4, 2) := by decide +kernel
theorem dX8_lays_35 : decode cX8_lays 35 = .ok (.iload_n 2, 1) := by decide +kernel
theorem dX8_lays_36 : decode cX8_lays 36 = .ok (.invokestatic 328, 3) := by decide +kernel
theorem dX8_lays_39 : decode cX8_lays 39 = .ok (.istore 6, 2) := by decide +kernel
theorem dX8_lays_41 : decode cX8_lays 41 = .ok (.iload 6, 2) := by decide +kernel
theorem dX8_lays_43 : decode cX8_lays 43 = .ok (.ifCond .eq 10, 3) := by decide +kernel
theorem dX8_lays_46 : decode cX8_lays 46 = .ok (.aload_n 0, 1) := by decide +kernel
theorem dX8_lays_47 : decode cX8_lays 47 = .ok (.iload 6, 2) := by decide +kernel
theorem dX8_lays_49 : decode cX8_lays 49 = .ok (.invokevirtual 71, 3) := by decide +kernel
theorem dX8_lays_52 : decode cX8_lays 52 = .ok (.ireturn, 1) := by decide +kernel
theorem dX8_lays_53 : decode cX8_lays 53 = .ok (.aload_n 0, 1) := by decide +kernel
theorem dX8_lays_54 : decode cX8_lays 54 = .ok (.getfield 45, 3) := by decide +kernel
theorem dX8_lays_57 : decode cX8_lays 57 = .ok (.aload_n 0, 1) := by decide +kernel
theorem dX8_lays_58 : decode cX8_lays 58 = .ok (.getfield 10, 3) := by decide +kernel
theorem dX8_lays_61 : decode cX8_lays 61 = .ok (.aload 5, 2) := by decide +kernel
theorem dX8_lays_63 : decode cX8_lays 63 = .ok (.invokevirtual 184, 3) := by decide +kernel
theorem dX8_lays_66 : decode cX8_lays 66 = .ok (.aload_n 0, 1) := by decide +kernel
theorem dX8_lays_67 : decode cX8_lays 67 = .ok (.getfield 45, 3) := by decide +kernel
theorem dX8_lays_70 : decode cX8_lays 70 = .ok (.getfield 191, 3) := by decide +kernel
theorem dX8_lays_73 : decode cX8_lays 73 = .ok (.aload 4, 2) := by decide +kernel
theorem dX8_lays_75 : decode cX8_lays 75 = .ok (.getfield 320, 3) := by decide +kernel
theorem dX8_lays_78 : decode cX8_lays 78 = .ok (.iload_n 2, 1) := by decide +kernel
theorem dX8_lays_79 : decode cX8_lays 79 = .ok (.isub, 1) := by decide +kernel
theorem dX8_lays_80 : decode cX8_lays 80 = .ok (.invokestatic 332, 3) := by decide +kernel
theorem dX8_lays_83 : decode cX8_lays 83 = .ok (.istore 7, 2) := by decide +kernel
theorem dX8_lays_85 : decode cX8_lays 85 = .ok (.iconst 0, 1) := by decide +kernel
theorem dX8_lays_86 : decode cX8_lays 86 = .ok (.istore 8, 2) := by decide +kernel
theorem dX8_lays_88 : decode cX8_lays 88 = .ok (.iload 8, 2) := by decide +kernel
theorem dX8_lays_90 : decode cX8_lays 90 = .ok (.iload 7, 2) := by decide +kernel
theorem dX8_lays_92 : decode cX8_lays 92 = .ok (.if_icmp .ge 29, 3) := by decide +kernel
theorem dX8_lays_95 : decode cX8_lays 95 = .ok (.aload 4, 2) := by decide +kernel
theorem dX8_lays_97 : decode cX8_lays 97 = .ok (.getfield 321, 3) := by decide +kernel
theorem dX8_lays_100 : decode cX8_lays 100 = .ok (.iload_n 2, 1) := by decide +kernel
theorem dX8_lays_101 : decode cX8_lays 101 = .ok (.iload 8, 2) := by decide +kernel
theorem dX8_lays_103 : decode cX8_lays 103 = .ok (.iadd, 1) := by decide +kernel
theorem dX8_lays_104 : decode cX8_lays 104 = .ok (.aload_n 0, 1) := by decide +kernel
theorem dX8_lays_105 : decode cX8_lays 105 = .ok (.getfield 45, 3) := by decide +kernel
theorem dX8_lays_108 : decode cX8_lays 108 = .ok (.getfield 212, 3) := by decide +kernel
theorem dX8_lays_111 : decode cX8_lays 111 = .ok (.iload 8, 2) := by decide +kernel
theorem dX8_lays_113 : decode cX8_lays 113 = .ok (.iaload, 1) := by decide +kernel
theorem dX8_lays_114 : decode cX8_lays 114 = .ok (.iastore, 1) := by decide +kernel
theorem dX8_lays_115 : decode cX8_lays 115 = .ok (.iinc 8 1, 3) := by decide +kernel
theorem dX8_lays_118 : decode cX8_lays 118 = .ok (.goto (-30), 3) := by decide +kernel
theorem dX8_lays_121 : decode cX8_lays 121 = .ok (.iload 7, 2) := by decide +kernel
theorem dX8_lays_123 : decode cX8_lays 123 = .ok (.ireturn, 1) := by decide +kernel
set_option maxRecDepth 20000 in
set_option maxHeartbeats 4000000 in
theorem v_X8_lays_L88 (l : Launch) (g : GG) {r : Int32 × SS} {κ : Int32 → SS → Option (Int32 × SS)} (hκ : ∀ (y7 : Int32) (τ : SS) , κ y7 τ = some r → VV l g 4 RX8 cX8_lays 9 (some .int) (some (.int r.1), r.2) 121 [(7, .int y7)] [] τ) : ∀ (fu : Nat) (q0 : Nat) (x2 : Int32) (q4 : Nat) (x7 : Int32) (x8 : Int32) (hq0 : kd q0 = 7) (hq4 : kd q4 = 4) (σ : SS), f_X8_lays_L88 κ fu q0 x2 q4 x7 x8 σ = some r → VV l g 4 RX8 cX8_lays 9 (some .int) (some (.int r.1), r.2) 88 [(0, .ref (g.1 q0)), (2, .int x2), (4, .ref (g.1 q4)), (7, .int x7), (8, .int x8)] [] σ := by
  intro fu
  induction fu with
  | zero => intro q0 x2 q4 x7 x8 hq0 hq4 σ h; cases h
  | succ fu ih =>
    intro q0 x2 q4 x7 x8 hq0 hq4 σ h
    simp only [f_X8_lays_L88] at h
    refine vr_iload (pc := 88) 4 dX8_lays_88 rfl ?_
    refine vr_iload (pc := 90) 3 dX8_lays_90 rfl ?_
    refine vr_icmp_ge (pc := 92) 121 dX8_lays_92 (by decide) (fun c12 => ?_) (fun c12 => ?_)
    · rw [if_pos c12] at h
      refine vr_sub [3] [(7, .int x7)] rfl ?_
      exact hκ x7 σ h
    · rw [if_neg c12] at h
      refine vr_aload (pc := 95) 2 dX8_lays_95 rfl ?_
      refine vr_getR (pc := 97) 1 dX8_lays_97 fi_X8_321 hq4 (sh_4_1 hq4).1 ?_
      refine vr_iload_n (pc := 100) 1 dX8_lays_100 rfl rfl ?_
      refine vr_iload (pc := 101) 4 dX8_lays_101 rfl ?_
      refine vr_iadd (pc := 103) dX8_lays_103 ?_
      refine vr_aload_n (pc := 104) 0 dX8_lays_104 rfl rfl ?_
      refine vr_getR (pc := 105) 7 dX8_lays_105 fi_X8_45 hq0 (sh_7_7 hq0).1 ?_
      refine vr_getR (pc := 108) 5 dX8_lays_108 fi_X8_212 (sh_7_7 hq0).2 (sh_0_5 (sh_7_7 hq0).2).1 ?_
      refine vr_iload (pc := 111) 4 dX8_lays_111 rfl ?_
      obtain ⟨hc13, h⟩ := ck_some h
      refine vr_iald (pc := 113) dX8_lays_113 (sh_0_5 (sh_7_7 hq0).2).2 hc13 ?_
      obtain ⟨hc14, h⟩ := ck_some h
      refine vr_iast (pc := 114) dX8_lays_114 (sh_4_1 hq4).2 hc14 ?_
      refine vr_iinc (pc := 115) [(8, .int (x8 + 1)), (0, .ref (g.1 q0)), (2, .int x2), (4, .ref (g.1 q4)), (7, .int x7)] 4 dX8_lays_115 rfl (congrArg (fun z => x8 + z) ci_1) (by decide) rfl ?_
      refine vr_goto (pc := 118) 88 dX8_lays_118 (by decide) ?_
      refine vr_sub [1, 2, 3, 4, 0] [(0, .ref (g.1 q0)), (2, .int x2), (4, .ref (g.1 q4)), (7, .int x7), (8, .int (x8 + 1))] rfl ?_
      exact ih q0 x2 q4 x7 (x8 + 1) (hq0) (hq4) (sI σ (rid q4 1) (x2 + x8).toNatClampNeg (σ.1 (rid (rid q0 7) 5) x8.toNatClampNeg)) h
set_option maxRecDepth 20000 in
set_option maxHeartbeats 4000000 in
theorem s_X8_lays (l : Launch) (g : GG) {q0 : Nat} (hq0 : kd q0 = 7) {a1 : Int32} {a2 : Int32} {a3 : Int32} {σ : SS} {r : Int32 × SS} (h : f_X8_lays q0 a1 a2 a3 σ = some r) : CT l g 4 yX8_lays cX8_lays 9 (some .int) [.ref (g.1 q0), .int a1, .int a2, .int a3] σ (some (.int r.1), r.2) := by
  refine CT.of (lv := [(0, .ref (g.1 q0)), (1, .int a1), (2, .int a2), (3, .int a3)]) RX8 (by decide +kernel) rfl (Nat.le_of_ble_eq_true rfl) rfl ?_
  unfold f_X8_lays at h
  refine vr_aload_n (pc := 0) 0 dX8_lays_0 rfl rfl ?_
  refine vr_iload_n (pc := 1) 1 dX8_lays_1 rfl rfl ?_
  obtain ⟨z1, hz2, h⟩ := ob_some h
  refine vr_callV (pc := 2) (ρ1 := (some (rvO g z1), σ)) [.int a1] dX8_lays_2 (s_X8_rowAt l g (hq0) hz2) cw_X8_rowAt ml_X8_291 hq0 rfl (by decide) (by decide) rfl rfl (Nat.le_of_ble_eq_true rfl) ?_
  refine vr_astoreO (pc := 5) [(4, rvO g z1), (0, .ref (g.1 q0)), (1, .int a1), (2, .int a2), (3, .int a3)] dX8_lays_5 (by decide) rfl ?_
  refine vr_aload_n (pc := 7) 1 dX8_lays_7 rfl rfl ?_
  refine vr_getR (pc := 8) 0 dX8_lays_8 fi_X8_10 hq0 (sh_7_0 hq0).1 ?_
  refine vr_iload_n (pc := 11) 4 dX8_lays_11 rfl rfl ?_
  obtain ⟨z3, hz4, h⟩ := ob_some h
  refine vr_callV (pc := 12) (ρ1 := (some (rvO g z3), σ)) [.int a3] dX8_lays_12 (s_X4_wheelAt l g (sh_7_0 hq0).2 hz4) cw_X4_wheelAt ml_X8_122 (sh_7_0 hq0).2 rfl (by decide) (by decide) rfl rfl (Nat.le_of_ble_eq_true rfl) ?_
  refine vr_astoreO (pc := 15) [(5, rvO g z3), (4, rvO g z1), (0, .ref (g.1 q0)), (1, .int a1), (2, .int a2), (3, .int a3)] dX8_lays_15 (by decide) (by simp [rvO_cat]) ?_
  refine vr_aloadO (pc := 17) 1 dX8_lays_17 rfl ?_
  refine vr_ifnull (pc := 19) 27 dX8_lays_19 (by decide) (fun hn22 => ?_) (fun w5 hw6 => ?_)
  · simp only [hn22] at h
    refine vr_sub [0, 2, 3, 4, 5] [(5, rvO g z3), (0, .ref (g.1 q0)), (1, .int a1), (2, .int a2), (3, .int a3)] rfl ?_
    refine vr_aload_n (pc := 27) 1 dX8_lays_27 rfl rfl ?_
    refine vr_iconst (pc := 28) (-1) dX8_lays_28 ci_m1 ?_
    obtain ⟨z20, hz21, h⟩ := ob_some h
    refine vr_callV (pc := 29) (ρ1 := (some (.int z20.1), z20.2)) [.int (-1)] dX8_lays_29 (s_X8_refuse l g (hq0) hz21) cw_X8_refuse ml_X8_71 hq0 rfl (by decide) (by decide) rfl rfl (Nat.le_of_ble_eq_true rfl) ?_
    have h := Option.some.inj h; subst h
    exact vr_iret (pc := 32) .int dX8_lays_32 rfl rfl rfl
  · simp only [hw6] at h
    refine vr_sub [0, 1, 2, 3, 4, 5] [(5, rvO g z3), (4, .ref (g.1 w5)), (0, .ref (g.1 q0)), (1, .int a1), (2, .int a2), (3, .int a3)] (by rw [hw6]; rfl) ?_
    refine vr_aloadO (pc := 22) 0 dX8_lays_22 rfl ?_
    refine vr_ifnonnull (pc := 24) 33 dX8_lays_24 (by decide) (fun w7 hw8 => ?_) (fun hn19 => ?_)
    · simp only [hw8] at h
      refine vr_sub [0, 1, 2, 3, 4, 5] [(5, .ref (g.1 w7)), (4, .ref (g.1 w5)), (0, .ref (g.1 q0)), (1, .int a1), (2, .int a2), (3, .int a3)] (by rw [hw8]; rfl) ?_
      refine vr_aload (pc := 33) 1 dX8_lays_33 rfl ?_
      refine vr_iload_n (pc := 35) 4 dX8_lays_35 rfl rfl ?_
      refine vr_callS (pc := 36) (ρ1 := (some (.int (f_X8_refusalOfPlace (some w5) a2 σ)), σ)) [rvO g (some w5), .int a2] dX8_lays_36 (s_X8_refusalOfPlace l g (fun _ e => by cases e; exact ((kf_X8_rowAt hz2 (hq0)) w5 hw6)) rfl) cw_X8_refusalOfPlace ml_X8_328 (by decide) rfl rfl (Nat.le_of_ble_eq_true rfl) ?_
      refine vr_istore (pc := 39) [(6, .int (f_X8_refusalOfPlace (some w5) a2 σ)), (5, .ref (g.1 w7)), (4, .ref (g.1 w5)), (0, .ref (g.1 q0)), (1, .int a1), (2, .int a2), (3, .int a3)] dX8_lays_39 (by decide) rfl ?_
      refine vr_iload (pc := 41) 0 dX8_lays_41 rfl ?_
      refine vr_if_eq (pc := 43) 53 dX8_lays_43 (by decide) (fun c9 => ?_) (fun c9 => ?_)
      · rw [if_pos c9] at h
        refine vr_aload_n (pc := 53) 3 dX8_lays_53 rfl rfl ?_
        refine vr_getR (pc := 54) 7 dX8_lays_54 fi_X8_45 hq0 (sh_7_7 hq0).1 ?_
        refine vr_aload_n (pc := 57) 3 dX8_lays_57 rfl rfl ?_
        refine vr_getR (pc := 58) 0 dX8_lays_58 fi_X8_10 hq0 (sh_7_0 hq0).1 ?_
        refine vr_aload (pc := 61) 1 dX8_lays_61 rfl ?_
        obtain ⟨z10, hz11, h⟩ := ob_some h
        refine vr_callV (pc := 63) (ρ1 := (none, z10)) [.ref (g.1 (rid q0 0)), .ref (g.1 w7)] dX8_lays_63 (s_X0_trace l g (sh_7_7 hq0).2 (sh_7_0 hq0).2 ((kf_X4_wheelAt hz4 (sh_7_0 hq0).2) w7 hw8) hz11) cw_X0_trace ml_X8_184 (sh_7_7 hq0).2 rfl (by decide) (by decide) rfl rfl (Nat.le_of_ble_eq_true rfl) ?_
        refine vr_aload_n (pc := 66) 3 dX8_lays_66 rfl rfl ?_
        refine vr_getR (pc := 67) 7 dX8_lays_67 fi_X8_45 hq0 (sh_7_7 hq0).1 ?_
        refine vr_getI (pc := 70) 2 dX8_lays_70 fi_X8_191 (sh_7_7 hq0).2 (sh_0_2 (sh_7_7 hq0).2) ?_
        refine vr_aload (pc := 73) 2 dX8_lays_73 rfl ?_
        refine vr_getI (pc := 75) 0 dX8_lays_75 fi_X8_320 ((kf_X8_rowAt hz2 (hq0)) w5 hw6) (sh_4_0 ((kf_X8_rowAt hz2 (hq0)) w5 hw6)) ?_
        refine vr_iload_n (pc := 78) 5 dX8_lays_78 rfl rfl ?_
        refine vr_isub (pc := 79) dX8_lays_79 ?_
        refine vr_mmin (pc := 80) dX8_lays_80 ml_X8_332 (by decide) (Nat.le_of_ble_eq_true rfl) ?_
        refine vr_istore (pc := 83) [(7, .int (f_J9_min_7cf53 (z10.1 (rid q0 7) 2) ((z10.1 w5 0) - a2))), (6, .int (f_X8_refusalOfPlace (some w5) a2 σ)), (5, .ref (g.1 w7)), (4, .ref (g.1 w5)), (0, .ref (g.1 q0)), (1, .int a1), (2, .int a2), (3, .int a3)] dX8_lays_83 (by decide) rfl ?_
        refine vr_iconst (pc := 85) 0 dX8_lays_85 ci_0 ?_
        refine vr_istore (pc := 86) [(8, .int 0), (7, .int (f_J9_min_7cf53 (z10.1 (rid q0 7) 2) ((z10.1 w5 0) - a2))), (6, .int (f_X8_refusalOfPlace (some w5) a2 σ)), (5, .ref (g.1 w7)), (4, .ref (g.1 w5)), (0, .ref (g.1 q0)), (1, .int a1), (2, .int a2), (3, .int a3)] dX8_lays_86 (by decide) rfl ?_
        refine vr_sub [5, 7, 4, 1, 0] [(0, .ref (g.1 q0)), (2, .int a2), (4, .ref (g.1 w5)), (7, .int (f_J9_min_7cf53 (z10.1 (rid q0 7) 2) ((z10.1 w5 0) - a2))), (8, .int 0)] rfl ?_
        refine v_X8_lays_L88 l g (fun y7 τ h => ?_) FU q0 a2 w5 (f_J9_min_7cf53 (z10.1 (rid q0 7) 2) ((z10.1 w5 0) - a2)) 0 (hq0) (((kf_X8_rowAt hz2 (hq0)) w5 hw6)) z10 h
        refine vr_iload (pc := 121) 0 dX8_lays_121 rfl ?_
        have h := Option.some.inj h; subst h
        exact vr_iret (pc := 123) .int dX8_lays_123 rfl rfl rfl
      · rw [if_neg c9] at h
        refine vr_aload_n (pc := 46) 3 dX8_lays_46 rfl rfl ?_
        refine vr_iload (pc := 47) 0 dX8_lays_47 rfl ?_
        obtain ⟨z15, hz16, h⟩ := ob_some h
        refine vr_callV (pc := 49) (ρ1 := (some (.int z15.1), z15.2)) [.int (f_X8_refusalOfPlace (some w5) a2 σ)] dX8_lays_49 (s_X8_refuse l g (hq0) hz16) cw_X8_refuse ml_X8_71 hq0 rfl (by decide) (by decide) rfl rfl (Nat.le_of_ble_eq_true rfl) ?_
        have h := Option.some.inj h; subst h
        exact vr_iret (pc := 52) .int dX8_lays_52 rfl rfl rfl
    · simp only [hn19] at h
      refine vr_sub [1, 2, 3, 4, 5] [(4, .ref (g.1 w5)), (0, .ref (g.1 q0)), (1, .int a1), (2, .int a2), (3, .int a3)] rfl ?_
      refine vr_aload_n (pc := 27) 1 dX8_lays_27 rfl rfl ?_
      refine vr_iconst (pc := 28) (-1) dX8_lays_28 ci_m1 ?_
      obtain ⟨z17, hz18, h⟩ := ob_some h
      refine vr_callV (pc := 29) (ρ1 := (some (.int z17.1), z17.2)) [.int (-1)] dX8_lays_29 (s_X8_refuse l g (hq0) hz18) cw_X8_refuse ml_X8_71 hq0 rfl (by decide) (by decide) rfl rfl (Nat.le_of_ble_eq_true rfl) ?_
      have h := Option.some.inj h; subst h
      exact vr_iret (pc := 32) .int dX8_lays_32 rfl rfl rfl
theorem dX8_undo_0 : decode cX8_undo 0 = .ok (.aload_n 0, 1) := by decide +kernel
theorem dX8_undo_1 : decode cX8_undo 1 = .ok (.getfield 25, 3) := by decide +kernel
theorem dX8_undo_4 : decode cX8_undo 4 = .ok (.getfield 337, 3) := by decide +kernel
theorem dX8_undo_7 : decode cX8_undo 7 = .ok (.ifCond .ne 10, 3) := by decide +kernel
theorem dX8_undo_10 : decode cX8_undo 10 = .ok (.aload_n 0, 1) := by decide +kernel
theorem dX8_undo_11 : decode cX8_undo 11 = .ok (.bipush (-3), 2) := by decide +kernel
theorem dX8_undo_13 : decode cX8_undo 13 = .ok (.invokevirtual 71, 3) := by decide +kernel
theorem dX8_undo_16 : decode cX8_undo 16 = .ok (.ireturn, 1) := by decide +kernel
theorem dX8_undo_17 : decode cX8_undo 17 = .ok (.aload_n 0, 1) := by decide +kernel
theorem dX8_undo_18 : decode cX8_undo 18 = .ok (.getfield 25, 3) := by decide +kernel
theorem dX8_undo_21 : decode cX8_undo 21 = .ok (.aload_n 0, 1) := by decide +kernel
theorem dX8_undo_22 : decode cX8_undo 22 = .ok (.getfield 10, 3) := by decide +kernel
theorem dX8_undo_25 : decode cX8_undo 25 = .ok (.invokevirtual 340, 3) := by decide +kernel
theorem dX8_undo_28 : decode cX8_undo 28 = .ok (.aload_n 0, 1) := by decide +kernel
theorem dX8_undo_29 : decode cX8_undo 29 = .ok (.getfield 25, 3) := by decide +kernel
theorem dX8_undo_32 : decode cX8_undo 32 = .ok (.getfield 337, 3) := by decide +kernel
theorem dX8_undo_35 : decode cX8_undo 35 = .ok (.ireturn, 1) := by decide +kernel
set_option maxRecDepth 20000 in
set_option maxHeartbeats 4000000 in
theorem s_X8_undo (l : Launch) (g : GG) {q0 : Nat} (hq0 : kd q0 = 7) {σ : SS} {r : Int32 × SS} (h : f_X8_undo q0 σ = some r) : CT l g 4 yX8_undo cX8_undo 1 (some .int) [.ref (g.1 q0)] σ (some (.int r.1), r.2) := by
  refine CT.of (lv := [(0, .ref (g.1 q0))]) RX8 (by decide +kernel) rfl (Nat.le_of_ble_eq_true rfl) rfl ?_
  unfold f_X8_undo at h
  refine vr_aload_n (pc := 0) 0 dX8_undo_0 rfl rfl ?_
  refine vr_getR (pc := 1) 4 dX8_undo_1 fi_X8_25 hq0 (sh_7_4 hq0).1 ?_
  refine vr_getI (pc := 4) 1 dX8_undo_4 fi_X8_337 (sh_7_4 hq0).2 (sh_2_1 (sh_7_4 hq0).2) ?_
  refine vr_if_ne (pc := 7) 17 dX8_undo_7 (by decide) (fun c1 => ?_) (fun c1 => ?_)
  · rw [if_neg c1] at h
    refine vr_aload_n (pc := 17) 0 dX8_undo_17 rfl rfl ?_
    refine vr_getR (pc := 18) 4 dX8_undo_18 fi_X8_25 hq0 (sh_7_4 hq0).1 ?_
    refine vr_aload_n (pc := 21) 0 dX8_undo_21 rfl rfl ?_
    refine vr_getR (pc := 22) 0 dX8_undo_22 fi_X8_10 hq0 (sh_7_0 hq0).1 ?_
    obtain ⟨z2, hz3, h⟩ := ob_some h
    refine vr_callV (pc := 25) (ρ1 := (none, z2)) [.ref (g.1 (rid q0 0))] dX8_undo_25 (s_X3_giveBack l g (sh_7_4 hq0).2 (sh_7_0 hq0).2 hz3) cw_X3_giveBack ml_X8_340 (sh_7_4 hq0).2 rfl (by decide) (by decide) rfl rfl (Nat.le_of_ble_eq_true rfl) ?_
    refine vr_aload_n (pc := 28) 0 dX8_undo_28 rfl rfl ?_
    refine vr_getR (pc := 29) 4 dX8_undo_29 fi_X8_25 hq0 (sh_7_4 hq0).1 ?_
    refine vr_getI (pc := 32) 1 dX8_undo_32 fi_X8_337 (sh_7_4 hq0).2 (sh_2_1 (sh_7_4 hq0).2) ?_
    have h := Option.some.inj h; subst h
    exact vr_iret (pc := 35) .int dX8_undo_35 rfl rfl rfl
  · rw [if_pos c1] at h
    refine vr_aload_n (pc := 10) 0 dX8_undo_10 rfl rfl ?_
    refine vr_bipush (pc := 11) (-3) dX8_undo_11 cb_m3 ?_
    obtain ⟨z4, hz5, h⟩ := ob_some h
    refine vr_callV (pc := 13) (ρ1 := (some (.int z4.1), z4.2)) [.int (-3)] dX8_undo_13 (s_X8_refuse l g (hq0) hz5) cw_X8_refuse ml_X8_71 hq0 rfl (by decide) (by decide) rfl rfl (Nat.le_of_ble_eq_true rfl) ?_
    have h := Option.some.inj h; subst h
    exact vr_iret (pc := 16) .int dX8_undo_16 rfl rfl rfl
theorem dX8_image_0 : decode cX8_image 0 = .ok (.aload_n 0, 1) := by decide +kernel
theorem dX8_image_1 : decode cX8_image 1 = .ok (.getfield 19, 3) := by decide +kernel
theorem dX8_image_4 : decode cX8_image 4 = .ok (.aload_n 0, 1) := by decide +kernel
theorem dX8_image_5 : decode cX8_image 5 = .ok (.getfield 10, 3) := by decide +kernel
theorem dX8_image_8 : decode cX8_image 8 = .ok (.invokevirtual 87, 3) := by decide +kernel
theorem dX8_image_11 : decode cX8_image 11 = .ok (.aload_n 0, 1) := by decide +kernel
theorem dX8_image_12 : decode cX8_image 12 = .ok (.iconst 1, 1) := by decide +kernel
theorem dX8_image_13 : decode cX8_image 13 = .ok (.putfield 343, 3) := by decide +kernel
theorem dX8_image_16 : decode cX8_image 16 = .ok (.aload_n 0, 1) := by decide +kernel
theorem dX8_image_17 : decode cX8_image 17 = .ok (.getfield 10, 3) := by decide +kernel
theorem dX8_image_20 : decode cX8_image 20 = .ok (.getfield 119, 3) := by decide +kernel
theorem dX8_image_23 : decode cX8_image 23 = .ok (.ireturn, 1) := by decide +kernel
set_option maxRecDepth 20000 in
set_option maxHeartbeats 4000000 in
theorem s_X8_image (l : Launch) (g : GG) {q0 : Nat} (hq0 : kd q0 = 7) {σ : SS} {r : Int32 × SS} (h : f_X8_image q0 σ = some r) : CT l g 3 yX8_image cX8_image 1 (some .int) [.ref (g.1 q0)] σ (some (.int r.1), r.2) := by
  refine CT.of (lv := [(0, .ref (g.1 q0))]) RX8 (by decide +kernel) rfl (Nat.le_of_ble_eq_true rfl) rfl ?_
  unfold f_X8_image at h
  refine vr_aload_n (pc := 0) 0 dX8_image_0 rfl rfl ?_
  refine vr_getR (pc := 1) 2 dX8_image_1 fi_X8_19 hq0 (sh_7_2 hq0).1 ?_
  refine vr_aload_n (pc := 4) 0 dX8_image_4 rfl rfl ?_
  refine vr_getR (pc := 5) 0 dX8_image_5 fi_X8_10 hq0 (sh_7_0 hq0).1 ?_
  obtain ⟨z1, hz2, h⟩ := ob_some h
  refine vr_callV (pc := 8) (ρ1 := (none, z1)) [.ref (g.1 (rid q0 0))] dX8_image_8 (s_X4_become l g (sh_7_2 hq0).2 (sh_7_0 hq0).2 hz2) cw_X4_become ml_X8_87 (sh_7_2 hq0).2 rfl (by decide) (by decide) rfl rfl (Nat.le_of_ble_eq_true rfl) ?_
  refine vr_aload_n (pc := 11) 0 dX8_image_11 rfl rfl ?_
  refine vr_iconst (pc := 12) 1 dX8_image_12 ci_1 ?_
  refine vr_putI (pc := 13) 3 dX8_image_13 fi_X8_343 (fw1_7_3) hq0 (sh_7_3 hq0) ?_
  refine vr_aload_n (pc := 16) 0 dX8_image_16 rfl rfl ?_
  refine vr_getR (pc := 17) 0 dX8_image_17 fi_X8_10 hq0 (sh_7_0 hq0).1 ?_
  refine vr_getI (pc := 20) 1 dX8_image_20 fi_X8_119 (sh_7_0 hq0).2 (sh_3_1 (sh_7_0 hq0).2) ?_
  have h := Option.some.inj h; subst h
  exact vr_iret (pc := 23) .int dX8_image_23 rfl rfl rfl
theorem dX8_on_0 : decode cX8_on 0 = .ok (.aload_n 0, 1) := by decide +kernel
theorem dX8_on_1 : decode cX8_on 1 = .ok (.getfield 343, 3) := by decide +kernel
theorem dX8_on_4 : decode cX8_on 4 = .ok (.ifCond .ne 10, 3) := by decide +kernel
theorem dX8_on_7 : decode cX8_on 7 = .ok (.aload_n 0, 1) := by decide +kernel
theorem dX8_on_8 : decode cX8_on 8 = .ok (.bipush (-3), 2) := by decide +kernel
theorem dX8_on_10 : decode cX8_on 10 = .ok (.invokevirtual 71, 3) := by decide +kernel
theorem dX8_on_13 : decode cX8_on 13 = .ok (.ireturn, 1) := by decide +kernel
theorem dX8_on_14 : decode cX8_on 14 = .ok (.aload_n 0, 1) := by decide +kernel
theorem dX8_on_15 : decode cX8_on 15 = .ok (.getfield 10, 3) := by decide +kernel
theorem dX8_on_18 : decode cX8_on 18 = .ok (.aload_n 0, 1) := by decide +kernel
theorem dX8_on_19 : decode cX8_on 19 = .ok (.getfield 19, 3) := by decide +kernel
theorem dX8_on_22 : decode cX8_on 22 = .ok (.invokevirtual 87, 3) := by decide +kernel
theorem dX8_on_25 : decode cX8_on 25 = .ok (.aload_n 0, 1) := by decide +kernel
theorem dX8_on_26 : decode cX8_on 26 = .ok (.getfield 25, 3) := by decide +kernel
theorem dX8_on_29 : decode cX8_on 29 = .ok (.invokevirtual 99, 3) := by decide +kernel
theorem dX8_on_32 : decode cX8_on 32 = .ok (.aload_n 0, 1) := by decide +kernel
theorem dX8_on_33 : decode cX8_on 33 = .ok (.getfield 10, 3) := by decide +kernel
theorem dX8_on_36 : decode cX8_on 36 = .ok (.getfield 119, 3) := by decide +kernel
theorem dX8_on_39 : decode cX8_on 39 = .ok (.ireturn, 1) := by decide +kernel
set_option maxRecDepth 20000 in
set_option maxHeartbeats 4000000 in
theorem s_X8_on (l : Launch) (g : GG) {q0 : Nat} (hq0 : kd q0 = 7) {σ : SS} {r : Int32 × SS} (h : f_X8_on q0 σ = some r) : CT l g 3 yX8_on cX8_on 1 (some .int) [.ref (g.1 q0)] σ (some (.int r.1), r.2) := by
  refine CT.of (lv := [(0, .ref (g.1 q0))]) RX8 (by decide +kernel) rfl (Nat.le_of_ble_eq_true rfl) rfl ?_
  unfold f_X8_on at h
  refine vr_aload_n (pc := 0) 0 dX8_on_0 rfl rfl ?_
  refine vr_getI (pc := 1) 3 dX8_on_1 fi_X8_343 hq0 (sh_7_3 hq0) ?_
  refine vr_if_ne (pc := 4) 14 dX8_on_4 (by decide) (fun c1 => ?_) (fun c1 => ?_)
  · rw [if_neg c1] at h
    refine vr_aload_n (pc := 14) 0 dX8_on_14 rfl rfl ?_
    refine vr_getR (pc := 15) 0 dX8_on_15 fi_X8_10 hq0 (sh_7_0 hq0).1 ?_
    refine vr_aload_n (pc := 18) 0 dX8_on_18 rfl rfl ?_
    refine vr_getR (pc := 19) 2 dX8_on_19 fi_X8_19 hq0 (sh_7_2 hq0).1 ?_
    obtain ⟨z2, hz3, h⟩ := ob_some h
    refine vr_callV (pc := 22) (ρ1 := (none, z2)) [.ref (g.1 (rid q0 2))] dX8_on_22 (s_X4_become l g (sh_7_0 hq0).2 (sh_7_2 hq0).2 hz3) cw_X4_become ml_X8_87 (sh_7_0 hq0).2 rfl (by decide) (by decide) rfl rfl (Nat.le_of_ble_eq_true rfl) ?_
    refine vr_aload_n (pc := 25) 0 dX8_on_25 rfl rfl ?_
    refine vr_getR (pc := 26) 4 dX8_on_26 fi_X8_25 hq0 (sh_7_4 hq0).1 ?_
    obtain ⟨z4, hz5, h⟩ := ob_some h
    refine vr_callV (pc := 29) (ρ1 := (none, z4)) [] dX8_on_29 (s_X3_forget l g (sh_7_4 hq0).2 hz5) cw_X3_forget ml_X8_99 (sh_7_4 hq0).2 rfl (by decide) (by decide) rfl rfl (Nat.le_of_ble_eq_true rfl) ?_
    refine vr_aload_n (pc := 32) 0 dX8_on_32 rfl rfl ?_
    refine vr_getR (pc := 33) 0 dX8_on_33 fi_X8_10 hq0 (sh_7_0 hq0).1 ?_
    refine vr_getI (pc := 36) 1 dX8_on_36 fi_X8_119 (sh_7_0 hq0).2 (sh_3_1 (sh_7_0 hq0).2) ?_
    have h := Option.some.inj h; subst h
    exact vr_iret (pc := 39) .int dX8_on_39 rfl rfl rfl
  · rw [if_pos c1] at h
    refine vr_aload_n (pc := 7) 0 dX8_on_7 rfl rfl ?_
    refine vr_bipush (pc := 8) (-3) dX8_on_8 cb_m3 ?_
    obtain ⟨z6, hz7, h⟩ := ob_some h
    refine vr_callV (pc := 10) (ρ1 := (some (.int z6.1), z6.2)) [.int (-3)] dX8_on_10 (s_X8_refuse l g (hq0) hz7) cw_X8_refuse ml_X8_71 hq0 rfl (by decide) (by decide) rfl rfl (Nat.le_of_ble_eq_true rfl) ?_
    have h := Option.some.inj h; subst h
    exact vr_iret (pc := 13) .int dX8_on_13 rfl rfl rfl
theorem dX8_count_0 : decode cX8_count 0 = .ok (.iload_n 1, 1) := by decide +kernel
theorem dX8_count_1 : decode cX8_count 1 = .ok (.tableswitch 110 0 6 #[43, 51, 59, 67, 86, 94, 102], 43) := by decide +kernel
theorem dX8_count_44 : decode cX8_count 44 = .ok (.aload_n 0, 1) := by decide +kernel
theorem dX8_count_45 : decode cX8_count 45 = .ok (.getfield 10, 3) := by decide +kernel
theorem dX8_count_48 : decode cX8_count 48 = .ok (.getfield 119, 3) := by decide +kernel
theorem dX8_count_51 : decode cX8_count 51 = .ok (.ireturn, 1) := by decide +kernel
theorem dX8_count_52 : decode cX8_count 52 = .ok (.aload_n 0, 1) := by decide +kernel
theorem dX8_count_53 : decode cX8_count 53 = .ok (.getfield 10, 3) := by decide +kernel
theorem dX8_count_56 : decode cX8_count 56 = .ok (.getfield 105, 3) := by decide +kernel
theorem dX8_count_59 : decode cX8_count 59 = .ok (.ireturn, 1) := by decide +kernel
theorem dX8_count_60 : decode cX8_count 60 = .ok (.aload_n 0, 1) := by decide +kernel
theorem dX8_count_61 : decode cX8_count 61 = .ok (.getfield 10, 3) := by decide +kernel
theorem dX8_count_64 : decode cX8_count 64 = .ok (.invokevirtual 279, 3) := by decide +kernel
theorem dX8_count_67 : decode cX8_count 67 = .ok (.ireturn, 1) := by decide +kernel
theorem dX8_count_68 : decode cX8_count 68 = .ok (.iconst 1, 1) := by decide +kernel
theorem dX8_count_69 : decode cX8_count 69 = .ok (.aload_n 0, 1) := by decide +kernel
theorem dX8_count_70 : decode cX8_count 70 = .ok (.getfield 10, 3) := by decide +kernel
theorem dX8_count_73 : decode cX8_count 73 = .ok (.getfield 178, 3) := by decide +kernel
theorem dX8_count_76 : decode cX8_count 76 = .ok (.aload_n 0, 1) := by decide +kernel
theorem dX8_count_77 : decode cX8_count 77 = .ok (.getfield 10, 3) := by decide +kernel
theorem dX8_count_80 : decode cX8_count 80 = .ok (.getfield 105, 3) := by decide +kernel
theorem dX8_count_83 : decode cX8_count 83 = .ok (.invokestatic 267, 3) := by decide +kernel
theorem dX8_count_86 : decode cX8_count 86 = .ok (.ireturn, 1) := by decide +kernel
theorem dX8_count_87 : decode cX8_count 87 = .ok (.aload_n 0, 1) := by decide +kernel
theorem dX8_count_88 : decode cX8_count 88 = .ok (.getfield 10, 3) := by decide +kernel
theorem dX8_count_91 : decode cX8_count 91 = .ok (.invokevirtual 347, 3) := by decide +kernel
theorem dX8_count_94 : decode cX8_count 94 = .ok (.ireturn, 1) := by decide +kernel
theorem dX8_count_95 : decode cX8_count 95 = .ok (.aload_n 0, 1) := by decide +kernel
theorem dX8_count_96 : decode cX8_count 96 = .ok (.getfield 32, 3) := by decide +kernel
theorem dX8_count_99 : decode cX8_count 99 = .ok (.getfield 75, 3) := by decide +kernel
theorem dX8_count_102 : decode cX8_count 102 = .ok (.ireturn, 1) := by decide +kernel
theorem dX8_count_103 : decode cX8_count 103 = .ok (.aload_n 0, 1) := by decide +kernel
theorem dX8_count_104 : decode cX8_count 104 = .ok (.getfield 25, 3) := by decide +kernel
theorem dX8_count_107 : decode cX8_count 107 = .ok (.getfield 337, 3) := by decide +kernel
theorem dX8_count_110 : decode cX8_count 110 = .ok (.ireturn, 1) := by decide +kernel
theorem dX8_count_111 : decode cX8_count 111 = .ok (.iload_n 1, 1) := by decide +kernel
theorem dX8_count_112 : decode cX8_count 112 = .ok (.bipush 10, 2) := by decide +kernel
theorem dX8_count_114 : decode cX8_count 114 = .ok (.if_icmp .le 21, 3) := by decide +kernel
theorem dX8_count_117 : decode cX8_count 117 = .ok (.iload_n 1, 1) := by decide +kernel
theorem dX8_count_118 : decode cX8_count 118 = .ok (.bipush 16, 2) := by decide +kernel
theorem dX8_count_120 : decode cX8_count 120 = .ok (.if_icmp .gt 15, 3) := by decide +kernel
theorem dX8_count_123 : decode cX8_count 123 = .ok (.aload_n 0, 1) := by decide +kernel
theorem dX8_count_124 : decode cX8_count 124 = .ok (.getfield 66, 3) := by decide +kernel
theorem dX8_count_127 : decode cX8_count 127 = .ok (.iload_n 1, 1) := by decide +kernel
theorem dX8_count_128 : decode cX8_count 128 = .ok (.bipush 10, 2) := by decide +kernel
theorem dX8_count_130 : decode cX8_count 130 = .ok (.isub, 1) := by decide +kernel
theorem dX8_count_131 : decode cX8_count 131 = .ok (.iaload, 1) := by decide +kernel
theorem dX8_count_132 : decode cX8_count 132 = .ok (.goto 5, 3) := by decide +kernel
theorem dX8_count_135 : decode cX8_count 135 = .ok (.bipush (-9), 2) := by decide +kernel
theorem dX8_count_137 : decode cX8_count 137 = .ok (.ireturn, 1) := by decide +kernel
set_option maxRecDepth 20000 in
set_option maxHeartbeats 4000000 in
theorem s_X8_count (l : Launch) (g : GG) {q0 : Nat} (hq0 : kd q0 = 7) {a1 : Int32} {σ : SS} {r : Int32} (h : f_X8_count q0 a1 σ = some r) : CT l g 2 yX8_count cX8_count 2 (some .int) [.ref (g.1 q0), .int a1] σ (some (.int r), σ) := by
  refine CT.of (lv := [(0, .ref (g.1 q0)), (1, .int a1)]) RX8 (by decide +kernel) rfl (Nat.le_of_ble_eq_true rfl) rfl ?_
  unfold f_X8_count at h
  refine vr_iload_n (pc := 0) 1 dX8_count_0 rfl rfl ?_
  by_cases c1 : a1 = 0
  · rw [if_pos c1] at h
    refine vr_tableIn (pc := 1) 43 44 dX8_count_1 (by rw [c1]; decide) (by rw [c1]; decide) (by rw [c1]; rfl) (by decide) ?_
    refine vr_aload_n (pc := 44) 0 dX8_count_44 rfl rfl ?_
    refine vr_getR (pc := 45) 0 dX8_count_45 fi_X8_10 hq0 (sh_7_0 hq0).1 ?_
    refine vr_getI (pc := 48) 1 dX8_count_48 fi_X8_119 (sh_7_0 hq0).2 (sh_3_1 (sh_7_0 hq0).2) ?_
    have h := Option.some.inj h; subst h
    exact vr_iret (pc := 51) .int dX8_count_51 rfl rfl rfl
  · rw [if_neg c1] at h
    by_cases c2 : a1 = 1
    · rw [if_pos c2] at h
      refine vr_tableIn (pc := 1) 51 52 dX8_count_1 (by rw [c2]; decide) (by rw [c2]; decide) (by rw [c2]; rfl) (by decide) ?_
      refine vr_aload_n (pc := 52) 0 dX8_count_52 rfl rfl ?_
      refine vr_getR (pc := 53) 0 dX8_count_53 fi_X8_10 hq0 (sh_7_0 hq0).1 ?_
      refine vr_getI (pc := 56) 0 dX8_count_56 fi_X8_105 (sh_7_0 hq0).2 (sh_3_0 (sh_7_0 hq0).2) ?_
      have h := Option.some.inj h; subst h
      exact vr_iret (pc := 59) .int dX8_count_59 rfl rfl rfl
    · rw [if_neg c2] at h
      by_cases c3 : a1 = 2
      · rw [if_pos c3] at h
        refine vr_tableIn (pc := 1) 59 60 dX8_count_1 (by rw [c3]; decide) (by rw [c3]; decide) (by rw [c3]; rfl) (by decide) ?_
        refine vr_aload_n (pc := 60) 0 dX8_count_60 rfl rfl ?_
        refine vr_getR (pc := 61) 0 dX8_count_61 fi_X8_10 hq0 (sh_7_0 hq0).1 ?_
        obtain ⟨z4, hz5, h⟩ := ob_some h
        refine vr_callV (pc := 64) (ρ1 := (some (.int z4), σ)) [] dX8_count_64 (s_X4_inkedTeeth l g (sh_7_0 hq0).2 hz5) cw_X4_inkedTeeth ml_X8_279 (sh_7_0 hq0).2 rfl (by decide) (by decide) rfl rfl (Nat.le_of_ble_eq_true rfl) ?_
        have h := Option.some.inj h; subst h
        exact vr_iret (pc := 67) .int dX8_count_67 rfl rfl rfl
      · rw [if_neg c3] at h
        by_cases c6 : a1 = 3
        · rw [if_pos c6] at h
          refine vr_tableIn (pc := 1) 67 68 dX8_count_1 (by rw [c6]; decide) (by rw [c6]; decide) (by rw [c6]; rfl) (by decide) ?_
          refine vr_iconst (pc := 68) 1 dX8_count_68 ci_1 ?_
          refine vr_aload_n (pc := 69) 0 dX8_count_69 rfl rfl ?_
          refine vr_getR (pc := 70) 0 dX8_count_70 fi_X8_10 hq0 (sh_7_0 hq0).1 ?_
          refine vr_getR (pc := 73) 3 dX8_count_73 fi_X8_178 (sh_7_0 hq0).2 (sh_3_3 (sh_7_0 hq0).2).1 ?_
          refine vr_aload_n (pc := 76) 0 dX8_count_76 rfl rfl ?_
          refine vr_getR (pc := 77) 0 dX8_count_77 fi_X8_10 hq0 (sh_7_0 hq0).1 ?_
          refine vr_getI (pc := 80) 0 dX8_count_80 fi_X8_105 (sh_7_0 hq0).2 (sh_3_0 (sh_7_0 hq0).2) ?_
          obtain ⟨z7, hz8, h⟩ := ob_some h
          refine vr_callS (pc := 83) (ρ1 := (some (.int z7), σ)) [.int 1, .ref (g.1 (rid (rid q0 0) 3)), .int (σ.1 (rid q0 0) 0)] dX8_count_83 (s_X2_placesOf l g (sh_3_3 (sh_7_0 hq0).2).2 hz8) cw_X2_placesOf ml_X8_267 (by decide) rfl rfl (Nat.le_of_ble_eq_true rfl) ?_
          have h := Option.some.inj h; subst h
          exact vr_iret (pc := 86) .int dX8_count_86 rfl rfl rfl
        · rw [if_neg c6] at h
          by_cases c9 : a1 = 4
          · rw [if_pos c9] at h
            refine vr_tableIn (pc := 1) 86 87 dX8_count_1 (by rw [c9]; decide) (by rw [c9]; decide) (by rw [c9]; rfl) (by decide) ?_
            refine vr_aload_n (pc := 87) 0 dX8_count_87 rfl rfl ?_
            refine vr_getR (pc := 88) 0 dX8_count_88 fi_X8_10 hq0 (sh_7_0 hq0).1 ?_
            obtain ⟨z10, hz11, h⟩ := ob_some h
            refine vr_callV (pc := 91) (ρ1 := (some (.int z10), σ)) [] dX8_count_91 (s_X4_allInk l g (sh_7_0 hq0).2 hz11) cw_X4_allInk ml_X8_347 (sh_7_0 hq0).2 rfl (by decide) (by decide) rfl rfl (Nat.le_of_ble_eq_true rfl) ?_
            have h := Option.some.inj h; subst h
            exact vr_iret (pc := 94) .int dX8_count_94 rfl rfl rfl
          · rw [if_neg c9] at h
            by_cases c12 : a1 = 5
            · rw [if_pos c12] at h
              refine vr_tableIn (pc := 1) 94 95 dX8_count_1 (by rw [c12]; decide) (by rw [c12]; decide) (by rw [c12]; rfl) (by decide) ?_
              refine vr_aload_n (pc := 95) 0 dX8_count_95 rfl rfl ?_
              refine vr_getR (pc := 96) 5 dX8_count_96 fi_X8_32 hq0 (sh_7_5 hq0).1 ?_
              refine vr_getI (pc := 99) 1 dX8_count_99 fi_X8_75 (sh_7_5 hq0).2 (sh_1_1 (sh_7_5 hq0).2) ?_
              have h := Option.some.inj h; subst h
              exact vr_iret (pc := 102) .int dX8_count_102 rfl rfl rfl
            · rw [if_neg c12] at h
              by_cases c13 : a1 = 6
              · rw [if_pos c13] at h
                refine vr_tableIn (pc := 1) 102 103 dX8_count_1 (by rw [c13]; decide) (by rw [c13]; decide) (by rw [c13]; rfl) (by decide) ?_
                refine vr_aload_n (pc := 103) 0 dX8_count_103 rfl rfl ?_
                refine vr_getR (pc := 104) 4 dX8_count_104 fi_X8_25 hq0 (sh_7_4 hq0).1 ?_
                refine vr_getI (pc := 107) 1 dX8_count_107 fi_X8_337 (sh_7_4 hq0).2 (sh_2_1 (sh_7_4 hq0).2) ?_
                have h := Option.some.inj h; subst h
                exact vr_iret (pc := 110) .int dX8_count_110 rfl rfl rfl
              · rw [if_neg c13] at h
                refine vr_tableOut (pc := 1) 111 dX8_count_1 (tab_out (x := a1) 0 6 (fun z1 z2 => by rcases (show a1.toInt = 0 ∨ a1.toInt = 1 ∨ a1.toInt = 2 ∨ a1.toInt = 3 ∨ a1.toInt = 4 ∨ a1.toInt = 5 ∨ a1.toInt = 6 from by omega) with z | z | z | z | z | z | z <;> first | exact c1 (i32_of z (by decide)) | exact c2 (i32_of z (by decide)) | exact c3 (i32_of z (by decide)) | exact c6 (i32_of z (by decide)) | exact c9 (i32_of z (by decide)) | exact c12 (i32_of z (by decide)) | exact c13 (i32_of z (by decide)))) (by decide) ?_
                refine vr_iload_n (pc := 111) 1 dX8_count_111 rfl rfl ?_
                refine vr_bipush (pc := 112) 10 dX8_count_112 cb_10 ?_
                refine vr_icmp_le (pc := 114) 135 dX8_count_114 (by decide) (fun c14 => ?_) (fun c14 => ?_)
                · rw [if_pos c14] at h
                  refine vr_bipush (pc := 135) (-9) dX8_count_135 cb_m9 ?_
                  have h := Option.some.inj h; subst h
                  exact vr_iret (pc := 137) .int dX8_count_137 rfl rfl rfl
                · rw [if_neg c14] at h
                  refine vr_iload_n (pc := 117) 1 dX8_count_117 rfl rfl ?_
                  refine vr_bipush (pc := 118) 16 dX8_count_118 cb_16 ?_
                  refine vr_icmp_gt (pc := 120) 135 dX8_count_120 (by decide) (fun c15 => ?_) (fun c15 => ?_)
                  · rw [if_pos c15] at h
                    refine vr_bipush (pc := 135) (-9) dX8_count_135 cb_m9 ?_
                    have h := Option.some.inj h; subst h
                    exact vr_iret (pc := 137) .int dX8_count_137 rfl rfl rfl
                  · rw [if_neg c15] at h
                    refine vr_aload_n (pc := 123) 0 dX8_count_123 rfl rfl ?_
                    refine vr_getR (pc := 124) 11 dX8_count_124 fi_X8_66 hq0 (sh_7_11 hq0).1 ?_
                    refine vr_iload_n (pc := 127) 1 dX8_count_127 rfl rfl ?_
                    refine vr_bipush (pc := 128) 10 dX8_count_128 cb_10 ?_
                    refine vr_isub (pc := 130) dX8_count_130 ?_
                    obtain ⟨hc16, h⟩ := ck_some h
                    refine vr_iald (pc := 131) dX8_count_131 (sh_7_11 hq0).2 hc16 ?_
                    refine vr_goto (pc := 132) 137 dX8_count_132 (by decide) ?_
                    have h := Option.some.inj h; subst h
                    exact vr_iret (pc := 137) .int dX8_count_137 rfl rfl rfl
