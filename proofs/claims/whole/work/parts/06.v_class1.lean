theorem dX0_isLink_0 : decode cX0_isLink 0 = .ok (.aload_n 0, 1) := by decide +kernel
theorem dX0_isLink_1 : decode cX0_isLink 1 = .ok (.getfield 24, 3) := by decide +kernel
theorem dX0_isLink_4 : decode cX0_isLink 4 = .ok (.iload_n 1, 1) := by decide +kernel
theorem dX0_isLink_5 : decode cX0_isLink 5 = .ok (.iload_n 2, 1) := by decide +kernel
theorem dX0_isLink_6 : decode cX0_isLink 6 = .ok (.invokestatic 80, 3) := by decide +kernel
theorem dX0_isLink_9 : decode cX0_isLink 9 = .ok (.laload, 1) := by decide +kernel
theorem dX0_isLink_10 : decode cX0_isLink 10 = .ok (.iload_n 1, 1) := by decide +kernel
theorem dX0_isLink_11 : decode cX0_isLink 11 = .ok (.iload_n 2, 1) := by decide +kernel
theorem dX0_isLink_12 : decode cX0_isLink 12 = .ok (.invokestatic 86, 3) := by decide +kernel
theorem dX0_isLink_15 : decode cX0_isLink 15 = .ok (.lushr, 1) := by decide +kernel
theorem dX0_isLink_16 : decode cX0_isLink 16 = .ok (.lconst 1, 1) := by decide +kernel
theorem dX0_isLink_17 : decode cX0_isLink 17 = .ok (.land, 1) := by decide +kernel
theorem dX0_isLink_18 : decode cX0_isLink 18 = .ok (.lconst 1, 1) := by decide +kernel
theorem dX0_isLink_19 : decode cX0_isLink 19 = .ok (.lcmp, 1) := by decide +kernel
theorem dX0_isLink_20 : decode cX0_isLink 20 = .ok (.ifCond .ne 7, 3) := by decide +kernel
theorem dX0_isLink_23 : decode cX0_isLink 23 = .ok (.iconst 1, 1) := by decide +kernel
theorem dX0_isLink_24 : decode cX0_isLink 24 = .ok (.goto 4, 3) := by decide +kernel
theorem dX0_isLink_27 : decode cX0_isLink 27 = .ok (.iconst 0, 1) := by decide +kernel
theorem dX0_isLink_28 : decode cX0_isLink 28 = .ok (.ireturn, 1) := by decide +kernel
set_option maxRecDepth 20000 in
set_option maxHeartbeats 4000000 in
theorem s_X0_isLink (l : Launch) (g : GG) {q0 : Nat} (hq0 : kd q0 = 0) {a1 : Int32} {a2 : Int32} {σ : SS} {r : Int32} (h : f_X0_isLink q0 a1 a2 σ = some r) : CT l g 1 yX0_isLink cX0_isLink 3 (some .boolean) [.ref (g.1 q0), .int a1, .int a2] σ (some (.int r), σ) := by
  refine CT.of (lv := [(0, .ref (g.1 q0)), (1, .int a1), (2, .int a2)]) RX0 (by decide +kernel) rfl (Nat.le_of_ble_eq_true rfl) rfl ?_
  unfold f_X0_isLink at h
  refine vr_aload_n (pc := 0) 0 dX0_isLink_0 rfl rfl ?_
  refine vr_getR (pc := 1) 9 dX0_isLink_1 fi_X0_24 hq0 (sh_0_9 hq0).1 ?_
  refine vr_iload_n (pc := 4) 1 dX0_isLink_4 rfl rfl ?_
  refine vr_iload_n (pc := 5) 2 dX0_isLink_5 rfl rfl ?_
  refine vr_mmin (pc := 6) dX0_isLink_6 ml_X0_80 (by decide) (Nat.le_of_ble_eq_true rfl) ?_
  obtain ⟨hc1, h⟩ := ck_some h
  refine vr_lald (pc := 9) dX0_isLink_9 (sh_0_9 hq0).2 hc1 ?_
  refine vr_iload_n (pc := 10) 1 dX0_isLink_10 rfl rfl ?_
  refine vr_iload_n (pc := 11) 2 dX0_isLink_11 rfl rfl ?_
  refine vr_mmax (pc := 12) dX0_isLink_12 ml_X0_86 (by decide) (Nat.le_of_ble_eq_true rfl) ?_
  refine vr_lushr (pc := 15) dX0_isLink_15 ?_
  refine vr_lconst (pc := 16) 1 dX0_isLink_16 (by decide) ?_
  refine vr_land (pc := 17) dX0_isLink_17 ?_
  refine vr_lconst (pc := 18) 1 dX0_isLink_18 (by decide) ?_
  refine vr_lcmp (pc := 19) dX0_isLink_19 ?_
  refine vr_if_ne (pc := 20) 27 dX0_isLink_20 (by decide) (fun c2 => ?_) (fun c2 => ?_)
  · rw [if_neg c2] at h
    refine vr_iconst (pc := 27) 0 dX0_isLink_27 ci_0 ?_
    have h := Option.some.inj h; subst h
    exact vr_iret (pc := 28) .boolean dX0_isLink_28 rfl rfl rfl
  · rw [if_pos c2] at h
    refine vr_iconst (pc := 23) 1 dX0_isLink_23 ci_1 ?_
    refine vr_goto (pc := 24) 28 dX0_isLink_24 (by decide) ?_
    have h := Option.some.inj h; subst h
    exact vr_iret (pc := 28) .boolean dX0_isLink_28 rfl rfl rfl
theorem dX0_addLink_0 : decode cX0_addLink 0 = .ok (.aload_n 0, 1) := by decide +kernel
theorem dX0_addLink_1 : decode cX0_addLink 1 = .ok (.iload_n 1, 1) := by decide +kernel
theorem dX0_addLink_2 : decode cX0_addLink 2 = .ok (.iload_n 2, 1) := by decide +kernel
theorem dX0_addLink_3 : decode cX0_addLink 3 = .ok (.invokevirtual 76, 3) := by decide +kernel
theorem dX0_addLink_6 : decode cX0_addLink 6 = .ok (.ifCond .ne 33, 3) := by decide +kernel
theorem dX0_addLink_9 : decode cX0_addLink 9 = .ok (.aload_n 0, 1) := by decide +kernel
theorem dX0_addLink_10 : decode cX0_addLink 10 = .ok (.getfield 24, 3) := by decide +kernel
theorem dX0_addLink_13 : decode cX0_addLink 13 = .ok (.iload_n 1, 1) := by decide +kernel
theorem dX0_addLink_14 : decode cX0_addLink 14 = .ok (.iload_n 2, 1) := by decide +kernel
theorem dX0_addLink_15 : decode cX0_addLink 15 = .ok (.invokestatic 80, 3) := by decide +kernel
theorem dX0_addLink_18 : decode cX0_addLink 18 = .ok (.dup2, 1) := by decide +kernel
theorem dX0_addLink_19 : decode cX0_addLink 19 = .ok (.laload, 1) := by decide +kernel
theorem dX0_addLink_20 : decode cX0_addLink 20 = .ok (.lconst 1, 1) := by decide +kernel
theorem dX0_addLink_21 : decode cX0_addLink 21 = .ok (.iload_n 1, 1) := by decide +kernel
theorem dX0_addLink_22 : decode cX0_addLink 22 = .ok (.iload_n 2, 1) := by decide +kernel
theorem dX0_addLink_23 : decode cX0_addLink 23 = .ok (.invokestatic 86, 3) := by decide +kernel
theorem dX0_addLink_26 : decode cX0_addLink 26 = .ok (.lshl, 1) := by decide +kernel
theorem dX0_addLink_27 : decode cX0_addLink 27 = .ok (.lor, 1) := by decide +kernel
theorem dX0_addLink_28 : decode cX0_addLink 28 = .ok (.lastore, 1) := by decide +kernel
theorem dX0_addLink_29 : decode cX0_addLink 29 = .ok (.aload_n 0, 1) := by decide +kernel
theorem dX0_addLink_30 : decode cX0_addLink 30 = .ok (.dup, 1) := by decide +kernel
theorem dX0_addLink_31 : decode cX0_addLink 31 = .ok (.getfield 46, 3) := by decide +kernel
theorem dX0_addLink_34 : decode cX0_addLink 34 = .ok (.iconst 1, 1) := by decide +kernel
theorem dX0_addLink_35 : decode cX0_addLink 35 = .ok (.iadd, 1) := by decide +kernel
theorem dX0_addLink_36 : decode cX0_addLink 36 = .ok (.putfield 46, 3) := by decide +kernel
theorem dX0_addLink_39 : decode cX0_addLink 39 = .ok (.return_, 1) := by decide +kernel
set_option maxRecDepth 20000 in
set_option maxHeartbeats 4000000 in
theorem s_X0_addLink (l : Launch) (g : GG) {q0 : Nat} (hq0 : kd q0 = 0) {a1 : Int32} {a2 : Int32} {σ : SS} {r : SS} (h : f_X0_addLink q0 a1 a2 σ = some r) : CT l g 2 yX0_addLink cX0_addLink 3 none [.ref (g.1 q0), .int a1, .int a2] σ (none, r) := by
  refine CT.of (lv := [(0, .ref (g.1 q0)), (1, .int a1), (2, .int a2)]) RX0 (by decide +kernel) rfl (Nat.le_of_ble_eq_true rfl) rfl ?_
  unfold f_X0_addLink at h
  refine vr_aload_n (pc := 0) 0 dX0_addLink_0 rfl rfl ?_
  refine vr_iload_n (pc := 1) 1 dX0_addLink_1 rfl rfl ?_
  refine vr_iload_n (pc := 2) 2 dX0_addLink_2 rfl rfl ?_
  obtain ⟨z1, hz2, h⟩ := ob_some h
  refine vr_callV (pc := 3) (ρ1 := (some (.int z1), σ)) [.int a1, .int a2] dX0_addLink_3 (s_X0_isLink l g (hq0) hz2) cw_X0_isLink ml_X0_76 hq0 rfl (by decide) (by decide) rfl rfl (Nat.le_of_ble_eq_true rfl) ?_
  refine vr_if_ne (pc := 6) 39 dX0_addLink_6 (by decide) (fun c3 => ?_) (fun c3 => ?_)
  · rw [if_neg c3] at h
    have h := Option.some.inj h; subst h
    exact vr_vret (pc := 39) dX0_addLink_39 rfl rfl
  · rw [if_pos c3] at h
    refine vr_aload_n (pc := 9) 0 dX0_addLink_9 rfl rfl ?_
    refine vr_getR (pc := 10) 9 dX0_addLink_10 fi_X0_24 hq0 (sh_0_9 hq0).1 ?_
    refine vr_iload_n (pc := 13) 1 dX0_addLink_13 rfl rfl ?_
    refine vr_iload_n (pc := 14) 2 dX0_addLink_14 rfl rfl ?_
    refine vr_mmin (pc := 15) dX0_addLink_15 ml_X0_80 (by decide) (Nat.le_of_ble_eq_true rfl) ?_
    refine vr_dup2 (pc := 18) dX0_addLink_18 rfl rfl ?_
    obtain ⟨hc4, h⟩ := ck_some h
    refine vr_lald (pc := 19) dX0_addLink_19 (sh_0_9 hq0).2 hc4 ?_
    refine vr_lconst (pc := 20) 1 dX0_addLink_20 (by decide) ?_
    refine vr_iload_n (pc := 21) 1 dX0_addLink_21 rfl rfl ?_
    refine vr_iload_n (pc := 22) 2 dX0_addLink_22 rfl rfl ?_
    refine vr_mmax (pc := 23) dX0_addLink_23 ml_X0_86 (by decide) (Nat.le_of_ble_eq_true rfl) ?_
    refine vr_lshl (pc := 26) dX0_addLink_26 ?_
    refine vr_lor (pc := 27) dX0_addLink_27 ?_
    obtain ⟨hc5, h⟩ := ck_some h
    refine vr_last (pc := 28) dX0_addLink_28 (sh_0_9 hq0).2 hc5 ?_
    refine vr_aload_n (pc := 29) 0 dX0_addLink_29 rfl rfl ?_
    refine vr_dup (pc := 30) dX0_addLink_30 rfl ?_
    refine vr_getI (pc := 31) 4 dX0_addLink_31 fi_X0_46 hq0 (sh_0_4 hq0) ?_
    refine vr_iconst (pc := 34) 1 dX0_addLink_34 ci_1 ?_
    refine vr_iadd (pc := 35) dX0_addLink_35 ?_
    refine vr_putI (pc := 36) 4 dX0_addLink_36 fi_X0_46 (fw_0_4 _) hq0 (sh_0_4 hq0) ?_
    have h := Option.some.inj h; subst h
    exact vr_vret (pc := 39) dX0_addLink_39 rfl rfl
theorem dX0_trace_0 : decode cX0_trace 0 = .ok (.aload_n 0, 1) := by decide +kernel
theorem dX0_trace_1 : decode cX0_trace 1 = .ok (.aload_n 1, 1) := by decide +kernel
theorem dX0_trace_2 : decode cX0_trace 2 = .ok (.getfield 28, 3) := by decide +kernel
theorem dX0_trace_5 : decode cX0_trace 5 = .ok (.putfield 34, 3) := by decide +kernel
theorem dX0_trace_8 : decode cX0_trace 8 = .ok (.aload_n 0, 1) := by decide +kernel
theorem dX0_trace_9 : decode cX0_trace 9 = .ok (.aload_n 2, 1) := by decide +kernel
theorem dX0_trace_10 : decode cX0_trace 10 = .ok (.invokevirtual 35, 3) := by decide +kernel
theorem dX0_trace_13 : decode cX0_trace 13 = .ok (.putfield 41, 3) := by decide +kernel
theorem dX0_trace_16 : decode cX0_trace 16 = .ok (.aload_n 0, 1) := by decide +kernel
theorem dX0_trace_17 : decode cX0_trace 17 = .ok (.iconst 0, 1) := by decide +kernel
theorem dX0_trace_18 : decode cX0_trace 18 = .ok (.putfield 43, 3) := by decide +kernel
theorem dX0_trace_21 : decode cX0_trace 21 = .ok (.aload_n 0, 1) := by decide +kernel
theorem dX0_trace_22 : decode cX0_trace 22 = .ok (.iconst 0, 1) := by decide +kernel
theorem dX0_trace_23 : decode cX0_trace 23 = .ok (.putfield 46, 3) := by decide +kernel
theorem dX0_trace_26 : decode cX0_trace 26 = .ok (.aload_n 0, 1) := by decide +kernel
theorem dX0_trace_27 : decode cX0_trace 27 = .ok (.getfield 21, 3) := by decide +kernel
theorem dX0_trace_30 : decode cX0_trace 30 = .ok (.bipush (-9), 2) := by decide +kernel
theorem dX0_trace_32 : decode cX0_trace 32 = .ok (.invokestatic 49, 3) := by decide +kernel
theorem dX0_trace_35 : decode cX0_trace 35 = .ok (.aload_n 0, 1) := by decide +kernel
theorem dX0_trace_36 : decode cX0_trace 36 = .ok (.getfield 24, 3) := by decide +kernel
theorem dX0_trace_39 : decode cX0_trace 39 = .ok (.lconst 0, 1) := by decide +kernel
theorem dX0_trace_40 : decode cX0_trace 40 = .ok (.invokestatic 55, 3) := by decide +kernel
theorem dX0_trace_43 : decode cX0_trace 43 = .ok (.aload_n 2, 1) := by decide +kernel
theorem dX0_trace_44 : decode cX0_trace 44 = .ok (.getfield 58, 3) := by decide +kernel
theorem dX0_trace_47 : decode cX0_trace 47 = .ok (.istore_n 3, 1) := by decide +kernel
theorem dX0_trace_48 : decode cX0_trace 48 = .ok (.iconst 0, 1) := by decide +kernel
theorem dX0_trace_49 : decode cX0_trace 49 = .ok (.istore 4, 2) := by decide +kernel
theorem dX0_trace_51 : decode cX0_trace 51 = .ok (.iload 4, 2) := by decide +kernel
theorem dX0_trace_53 : decode cX0_trace 53 = .ok (.aload_n 0, 1) := by decide +kernel
theorem dX0_trace_54 : decode cX0_trace 54 = .ok (.getfield 34, 3) := by decide +kernel
theorem dX0_trace_57 : decode cX0_trace 57 = .ok (.if_icmp .ge 89, 3) := by decide +kernel
theorem dX0_trace_60 : decode cX0_trace 60 = .ok (.aload_n 0, 1) := by decide +kernel
theorem dX0_trace_61 : decode cX0_trace 61 = .ok (.getfield 21, 3) := by decide +kernel
theorem dX0_trace_64 : decode cX0_trace 64 = .ok (.iload_n 3, 1) := by decide +kernel
theorem dX0_trace_65 : decode cX0_trace 65 = .ok (.iaload, 1) := by decide +kernel
theorem dX0_trace_66 : decode cX0_trace 66 = .ok (.bipush (-9), 2) := by decide +kernel
theorem dX0_trace_68 : decode cX0_trace 68 = .ok (.if_icmp .ne 78, 3) := by decide +kernel
theorem dX0_trace_71 : decode cX0_trace 71 = .ok (.aload_n 1, 1) := by decide +kernel
theorem dX0_trace_72 : decode cX0_trace 72 = .ok (.aload_n 2, 1) := by decide +kernel
theorem dX0_trace_73 : decode cX0_trace 73 = .ok (.iload_n 3, 1) := by decide +kernel
theorem dX0_trace_74 : decode cX0_trace 74 = .ok (.invokevirtual 61, 3) := by decide +kernel
theorem dX0_trace_77 : decode cX0_trace 77 = .ok (.istore 5, 2) := by decide +kernel
theorem dX0_trace_79 : decode cX0_trace 79 = .ok (.aload_n 0, 1) := by decide +kernel
theorem dX0_trace_80 : decode cX0_trace 80 = .ok (.getfield 9, 3) := by decide +kernel
theorem dX0_trace_83 : decode cX0_trace 83 = .ok (.iload 4, 2) := by decide +kernel
theorem dX0_trace_85 : decode cX0_trace 85 = .ok (.iload_n 3, 1) := by decide +kernel
theorem dX0_trace_86 : decode cX0_trace 86 = .ok (.iastore, 1) := by decide +kernel
theorem dX0_trace_87 : decode cX0_trace 87 = .ok (.aload_n 0, 1) := by decide +kernel
theorem dX0_trace_88 : decode cX0_trace 88 = .ok (.getfield 15, 3) := by decide +kernel
theorem dX0_trace_91 : decode cX0_trace 91 = .ok (.iload 4, 2) := by decide +kernel
theorem dX0_trace_93 : decode cX0_trace 93 = .ok (.iload 5, 2) := by decide +kernel
theorem dX0_trace_95 : decode cX0_trace 95 = .ok (.iastore, 1) := by decide +kernel
theorem dX0_trace_96 : decode cX0_trace 96 = .ok (.aload_n 0, 1) := by decide +kernel
theorem dX0_trace_97 : decode cX0_trace 97 = .ok (.getfield 18, 3) := by decide +kernel
theorem dX0_trace_100 : decode cX0_trace 100 = .ok (.iload 4, 2) := by decide +kernel
theorem dX0_trace_102 : decode cX0_trace 102 = .ok (.aload_n 2, 1) := by decide +kernel
theorem dX0_trace_103 : decode cX0_trace 103 = .ok (.iload_n 3, 1) := by decide +kernel
theorem dX0_trace_104 : decode cX0_trace 104 = .ok (.iload 5, 2) := by decide +kernel
theorem dX0_trace_106 : decode cX0_trace 106 = .ok (.aload_n 0, 1) := by decide +kernel
theorem dX0_trace_107 : decode cX0_trace 107 = .ok (.getfield 34, 3) := by decide +kernel
theorem dX0_trace_110 : decode cX0_trace 110 = .ok (.invokevirtual 65, 3) := by decide +kernel
theorem dX0_trace_113 : decode cX0_trace 113 = .ok (.iastore, 1) := by decide +kernel
theorem dX0_trace_114 : decode cX0_trace 114 = .ok (.aload_n 0, 1) := by decide +kernel
theorem dX0_trace_115 : decode cX0_trace 115 = .ok (.getfield 21, 3) := by decide +kernel
theorem dX0_trace_118 : decode cX0_trace 118 = .ok (.iload_n 3, 1) := by decide +kernel
theorem dX0_trace_119 : decode cX0_trace 119 = .ok (.iload 4, 2) := by decide +kernel
theorem dX0_trace_121 : decode cX0_trace 121 = .ok (.iastore, 1) := by decide +kernel
theorem dX0_trace_122 : decode cX0_trace 122 = .ok (.aload_n 0, 1) := by decide +kernel
theorem dX0_trace_123 : decode cX0_trace 123 = .ok (.iload 4, 2) := by decide +kernel
theorem dX0_trace_125 : decode cX0_trace 125 = .ok (.iconst 1, 1) := by decide +kernel
theorem dX0_trace_126 : decode cX0_trace 126 = .ok (.iadd, 1) := by decide +kernel
theorem dX0_trace_127 : decode cX0_trace 127 = .ok (.putfield 43, 3) := by decide +kernel
theorem dX0_trace_130 : decode cX0_trace 130 = .ok (.aload_n 0, 1) := by decide +kernel
theorem dX0_trace_131 : decode cX0_trace 131 = .ok (.iload_n 3, 1) := by decide +kernel
theorem dX0_trace_132 : decode cX0_trace 132 = .ok (.iload 5, 2) := by decide +kernel
theorem dX0_trace_134 : decode cX0_trace 134 = .ok (.invokevirtual 69, 3) := by decide +kernel
theorem dX0_trace_137 : decode cX0_trace 137 = .ok (.iload 5, 2) := by decide +kernel
theorem dX0_trace_139 : decode cX0_trace 139 = .ok (.istore_n 3, 1) := by decide +kernel
theorem dX0_trace_140 : decode cX0_trace 140 = .ok (.iinc 4 1, 3) := by decide +kernel
theorem dX0_trace_143 : decode cX0_trace 143 = .ok (.goto (-92), 3) := by decide +kernel
theorem dX0_trace_146 : decode cX0_trace 146 = .ok (.aload_n 0, 1) := by decide +kernel
theorem dX0_trace_147 : decode cX0_trace 147 = .ok (.aload_n 0, 1) := by decide +kernel
theorem dX0_trace_148 : decode cX0_trace 148 = .ok (.getfield 21, 3) := by decide +kernel
theorem dX0_trace_151 : decode cX0_trace 151 = .ok (.iload_n 3, 1) := by decide +kernel
theorem dX0_trace_152 : decode cX0_trace 152 = .ok (.iaload, 1) := by decide +kernel
theorem dX0_trace_153 : decode cX0_trace 153 = .ok (.putfield 73, 3) := by decide +kernel
theorem dX0_trace_156 : decode cX0_trace 156 = .ok (.return_, 1) := by decide +kernel
set_option maxRecDepth 20000 in
set_option maxHeartbeats 4000000 in
theorem v_X0_trace_L51 (l : Launch) (g : GG) {r : SS} {κ : Nat → Int32 → SS → Option SS} (hκ : ∀ (p0 : Nat) (y3 : Int32) (τ : SS) (hp0 : kd p0 = 0), κ p0 y3 τ = some r → VV l g 3 RX0 cX0_trace 6 none (none, r) 146 [(0, .ref (g.1 p0)), (3, .int y3)] [] τ) : ∀ (fu : Nat) (q0 : Nat) (q1 : Nat) (q2 : Nat) (x3 : Int32) (x4 : Int32) (hq0 : kd q0 = 0) (hq1 : kd q1 = 3) (hq2 : kd q2 = 6) (σ : SS), f_X0_trace_L51 κ fu q0 q1 q2 x3 x4 σ = some r → VV l g 3 RX0 cX0_trace 6 none (none, r) 51 [(0, .ref (g.1 q0)), (1, .ref (g.1 q1)), (2, .ref (g.1 q2)), (3, .int x3), (4, .int x4)] [] σ := by
  intro fu
  induction fu with
  | zero => intro q0 q1 q2 x3 x4 hq0 hq1 hq2 σ h; cases h
  | succ fu ih =>
    intro q0 q1 q2 x3 x4 hq0 hq1 hq2 σ h
    simp only [f_X0_trace_L51] at h
    refine vr_iload (pc := 51) 4 dX0_trace_51 rfl ?_
    refine vr_aload_n (pc := 53) 0 dX0_trace_53 rfl rfl ?_
    refine vr_getI (pc := 54) 0 dX0_trace_54 fi_X0_34 hq0 (sh_0_0 hq0) ?_
    refine vr_icmp_ge (pc := 57) 146 dX0_trace_57 (by decide) (fun c5 => ?_) (fun c5 => ?_)
    · rw [if_pos c5] at h
      refine vr_sub [0, 3] [(0, .ref (g.1 q0)), (3, .int x3)] rfl ?_
      exact hκ q0 x3 σ (hq0) h
    · rw [if_neg c5] at h
      refine vr_aload_n (pc := 60) 0 dX0_trace_60 rfl rfl ?_
      refine vr_getR (pc := 61) 8 dX0_trace_61 fi_X0_21 hq0 (sh_0_8 hq0).1 ?_
      refine vr_iload_n (pc := 64) 3 dX0_trace_64 rfl rfl ?_
      obtain ⟨hc6, h⟩ := ck_some h
      refine vr_iald (pc := 65) dX0_trace_65 (sh_0_8 hq0).2 hc6 ?_
      refine vr_bipush (pc := 66) (-9) dX0_trace_66 cb_m9 ?_
      refine vr_icmp_ne (pc := 68) 146 dX0_trace_68 (by decide) (fun c7 => ?_) (fun c7 => ?_)
      · rw [if_neg c7] at h
        refine vr_sub [0, 3] [(0, .ref (g.1 q0)), (3, .int x3)] rfl ?_
        exact hκ q0 x3 σ (hq0) h
      · rw [if_pos c7] at h
        refine vr_aload_n (pc := 71) 1 dX0_trace_71 rfl rfl ?_
        refine vr_aload_n (pc := 72) 2 dX0_trace_72 rfl rfl ?_
        refine vr_iload_n (pc := 73) 3 dX0_trace_73 rfl rfl ?_
        obtain ⟨z8, hz9, h⟩ := ob_some h
        refine vr_callV (pc := 74) (ρ1 := (some (.int z8), σ)) [.ref (g.1 q2), .int x3] dX0_trace_74 (s_X4_nextBy l g (hq1) (hq2) hz9) cw_X4_nextBy ml_X0_61 hq1 rfl (by decide) (by decide) rfl rfl (Nat.le_of_ble_eq_true rfl) ?_
        refine vr_istore (pc := 77) [(5, .int z8), (0, .ref (g.1 q0)), (1, .ref (g.1 q1)), (2, .ref (g.1 q2)), (3, .int x3), (4, .int x4)] dX0_trace_77 (by decide) rfl ?_
        refine vr_aload_n (pc := 79) 1 dX0_trace_79 rfl rfl ?_
        refine vr_getR (pc := 80) 5 dX0_trace_80 fi_X0_9 hq0 (sh_0_5 hq0).1 ?_
        refine vr_iload (pc := 83) 5 dX0_trace_83 rfl ?_
        refine vr_iload_n (pc := 85) 4 dX0_trace_85 rfl rfl ?_
        obtain ⟨hc10, h⟩ := ck_some h
        refine vr_iast (pc := 86) dX0_trace_86 (sh_0_5 hq0).2 hc10 ?_
        refine vr_aload_n (pc := 87) 1 dX0_trace_87 rfl rfl ?_
        refine vr_getR (pc := 88) 6 dX0_trace_88 fi_X0_15 hq0 (sh_0_6 hq0).1 ?_
        refine vr_iload (pc := 91) 5 dX0_trace_91 rfl ?_
        refine vr_iload (pc := 93) 0 dX0_trace_93 rfl ?_
        obtain ⟨hc11, h⟩ := ck_some h
        refine vr_iast (pc := 95) dX0_trace_95 (sh_0_6 hq0).2 hc11 ?_
        refine vr_aload_n (pc := 96) 1 dX0_trace_96 rfl rfl ?_
        refine vr_getR (pc := 97) 7 dX0_trace_97 fi_X0_18 hq0 (sh_0_7 hq0).1 ?_
        refine vr_iload (pc := 100) 5 dX0_trace_100 rfl ?_
        refine vr_aload_n (pc := 102) 3 dX0_trace_102 rfl rfl ?_
        refine vr_iload_n (pc := 103) 4 dX0_trace_103 rfl rfl ?_
        refine vr_iload (pc := 104) 0 dX0_trace_104 rfl ?_
        refine vr_aload_n (pc := 106) 1 dX0_trace_106 rfl rfl ?_
        refine vr_getI (pc := 107) 0 dX0_trace_107 fi_X0_34 hq0 (sh_0_0 hq0) ?_
        refine vr_callV (pc := 110) (ρ1 := (some (.int (f_X7_goes q2 x3 z8 ((sI (sI σ (rid q0 5) x4.toNatClampNeg x3) (rid q0 6) x4.toNatClampNeg z8).1 q0 0) (sI (sI σ (rid q0 5) x4.toNatClampNeg x3) (rid q0 6) x4.toNatClampNeg z8))), (sI (sI σ (rid q0 5) x4.toNatClampNeg x3) (rid q0 6) x4.toNatClampNeg z8))) [.int x3, .int z8, .int ((sI (sI σ (rid q0 5) x4.toNatClampNeg x3) (rid q0 6) x4.toNatClampNeg z8).1 q0 0)] dX0_trace_110 (s_X7_goes l g (hq2) rfl) cw_X7_goes ml_X0_65 hq2 rfl (by decide) (by decide) rfl rfl (Nat.le_of_ble_eq_true rfl) ?_
        obtain ⟨hc12, h⟩ := ck_some h
        refine vr_iast (pc := 113) dX0_trace_113 (sh_0_7 hq0).2 hc12 ?_
        refine vr_aload_n (pc := 114) 1 dX0_trace_114 rfl rfl ?_
        refine vr_getR (pc := 115) 8 dX0_trace_115 fi_X0_21 hq0 (sh_0_8 hq0).1 ?_
        refine vr_iload_n (pc := 118) 4 dX0_trace_118 rfl rfl ?_
        refine vr_iload (pc := 119) 5 dX0_trace_119 rfl ?_
        obtain ⟨hc13, h⟩ := ck_some h
        refine vr_iast (pc := 121) dX0_trace_121 (sh_0_8 hq0).2 hc13 ?_
        refine vr_aload_n (pc := 122) 1 dX0_trace_122 rfl rfl ?_
        refine vr_iload (pc := 123) 5 dX0_trace_123 rfl ?_
        refine vr_iconst (pc := 125) 1 dX0_trace_125 ci_1 ?_
        refine vr_iadd (pc := 126) dX0_trace_126 ?_
        refine vr_putI (pc := 127) 2 dX0_trace_127 fi_X0_43 (fw_0_2 _) hq0 (sh_0_2 hq0) ?_
        refine vr_aload_n (pc := 130) 1 dX0_trace_130 rfl rfl ?_
        refine vr_iload_n (pc := 131) 4 dX0_trace_131 rfl rfl ?_
        refine vr_iload (pc := 132) 0 dX0_trace_132 rfl ?_
        obtain ⟨z14, hz15, h⟩ := ob_some h
        refine vr_callV (pc := 134) (ρ1 := (none, z14)) [.int x3, .int z8] dX0_trace_134 (s_X0_addLink l g (hq0) hz15) cw_X0_addLink ml_X0_69 hq0 rfl (by decide) (by decide) rfl rfl (Nat.le_of_ble_eq_true rfl) ?_
        refine vr_iload (pc := 137) 0 dX0_trace_137 rfl ?_
        refine vr_istore_n (pc := 139) [(3, .int z8), (5, .int z8), (0, .ref (g.1 q0)), (1, .ref (g.1 q1)), (2, .ref (g.1 q2)), (4, .int x4)] dX0_trace_139 rfl (by decide) rfl ?_
        refine vr_iinc (pc := 140) [(4, .int (x4 + 1)), (3, .int z8), (5, .int z8), (0, .ref (g.1 q0)), (1, .ref (g.1 q1)), (2, .ref (g.1 q2))] 5 dX0_trace_140 rfl (congrArg (fun z => x4 + z) ci_1) (by decide) rfl ?_
        refine vr_goto (pc := 143) 51 dX0_trace_143 (by decide) ?_
        refine vr_sub [3, 4, 5, 1, 0] [(0, .ref (g.1 q0)), (1, .ref (g.1 q1)), (2, .ref (g.1 q2)), (3, .int z8), (4, .int (x4 + 1))] rfl ?_
        exact ih q0 q1 q2 z8 (x4 + 1) (hq0) (hq1) (hq2) z14 h
set_option maxRecDepth 20000 in
set_option maxHeartbeats 4000000 in
theorem s_X0_trace (l : Launch) (g : GG) {q0 : Nat} (hq0 : kd q0 = 0) {q1 : Nat} (hq1 : kd q1 = 3) {q2 : Nat} (hq2 : kd q2 = 6) {σ : SS} {r : SS} (h : f_X0_trace q0 q1 q2 σ = some r) : CT l g 3 yX0_trace cX0_trace 6 none [.ref (g.1 q0), .ref (g.1 q1), .ref (g.1 q2)] σ (none, r) := by
  refine CT.of (lv := [(0, .ref (g.1 q0)), (1, .ref (g.1 q1)), (2, .ref (g.1 q2))]) RX0 (by decide +kernel) rfl (Nat.le_of_ble_eq_true rfl) rfl ?_
  unfold f_X0_trace at h
  refine vr_aload_n (pc := 0) 0 dX0_trace_0 rfl rfl ?_
  refine vr_aload_n (pc := 1) 1 dX0_trace_1 rfl rfl ?_
  refine vr_getI (pc := 2) 0 dX0_trace_2 fi_X0_28 hq1 (sh_3_0 hq1) ?_
  refine vr_putI (pc := 5) 0 dX0_trace_5 fi_X0_34 (fw_0_0 _) hq0 (sh_0_0 hq0) ?_
  refine vr_aload_n (pc := 8) 0 dX0_trace_8 rfl rfl ?_
  refine vr_aload_n (pc := 9) 2 dX0_trace_9 rfl rfl ?_
  refine vr_callV (pc := 10) (ρ1 := (some (.int (f_X7_side q2 (sI σ q0 0 (σ.1 q1 0)))), (sI σ q0 0 (σ.1 q1 0)))) [] dX0_trace_10 (s_X7_side l g (hq2) rfl) cw_X7_side ml_X0_35 hq2 rfl (by decide) (by decide) rfl rfl (Nat.le_of_ble_eq_true rfl) ?_
  refine vr_putI (pc := 13) 1 dX0_trace_13 fi_X0_41 (fw_0_1 _) hq0 (sh_0_1 hq0) ?_
  refine vr_aload_n (pc := 16) 0 dX0_trace_16 rfl rfl ?_
  refine vr_iconst (pc := 17) 0 dX0_trace_17 ci_0 ?_
  refine vr_putI (pc := 18) 2 dX0_trace_18 fi_X0_43 (fw_0_2 _) hq0 (sh_0_2 hq0) ?_
  refine vr_aload_n (pc := 21) 0 dX0_trace_21 rfl rfl ?_
  refine vr_iconst (pc := 22) 0 dX0_trace_22 ci_0 ?_
  refine vr_putI (pc := 23) 4 dX0_trace_23 fi_X0_46 (fw_0_4 _) hq0 (sh_0_4 hq0) ?_
  refine vr_aload_n (pc := 26) 0 dX0_trace_26 rfl rfl ?_
  refine vr_getR (pc := 27) 8 dX0_trace_27 fi_X0_21 hq0 (sh_0_8 hq0).1 ?_
  refine vr_bipush (pc := 30) (-9) dX0_trace_30 cb_m9 ?_
  obtain ⟨z1, hz2, h⟩ := ob_some h
  refine vr_callS (pc := 32) (ρ1 := (none, z1)) [.ref (g.1 (rid q0 8)), .int (-9)] dX0_trace_32 (s_J7_fill_53178 l g (sh_0_8 hq0).2 hz2) cw_J7_fill_53178 ml_X0_49 (by decide) rfl rfl (Nat.le_of_ble_eq_true rfl) ?_
  refine vr_aload_n (pc := 35) 0 dX0_trace_35 rfl rfl ?_
  refine vr_getR (pc := 36) 9 dX0_trace_36 fi_X0_24 hq0 (sh_0_9 hq0).1 ?_
  refine vr_lconst (pc := 39) 0 dX0_trace_39 (by decide) ?_
  obtain ⟨z3, hz4, h⟩ := ob_some h
  refine vr_callS (pc := 40) (ρ1 := (none, z3)) [.ref (g.1 (rid q0 9)), .long (0 : Int64)] dX0_trace_40 (s_J7_fill_d0a16 l g (sh_0_9 hq0).2 hz4) cw_J7_fill_d0a16 ml_X0_55 (by decide) rfl rfl (Nat.le_of_ble_eq_true rfl) ?_
  refine vr_aload_n (pc := 43) 2 dX0_trace_43 rfl rfl ?_
  refine vr_getI (pc := 44) 4 dX0_trace_44 fi_X0_58 hq2 (sh_6_4 hq2) ?_
  refine vr_istore_n (pc := 47) [(3, .int (z3.1 q2 4)), (0, .ref (g.1 q0)), (1, .ref (g.1 q1)), (2, .ref (g.1 q2))] dX0_trace_47 rfl (by decide) rfl ?_
  refine vr_iconst (pc := 48) 0 dX0_trace_48 ci_0 ?_
  refine vr_istore (pc := 49) [(4, .int 0), (3, .int (z3.1 q2 4)), (0, .ref (g.1 q0)), (1, .ref (g.1 q1)), (2, .ref (g.1 q2))] dX0_trace_49 (by decide) rfl ?_
  refine vr_sub [2, 3, 4, 1, 0] [(0, .ref (g.1 q0)), (1, .ref (g.1 q1)), (2, .ref (g.1 q2)), (3, .int (z3.1 q2 4)), (4, .int 0)] rfl ?_
  refine v_X0_trace_L51 l g (fun p0 y3 τ hp0 h => ?_) FU q0 q1 q2 (z3.1 q2 4) 0 (hq0) (hq1) (hq2) z3 h
  refine vr_aload_n (pc := 146) 0 dX0_trace_146 rfl rfl ?_
  refine vr_aload_n (pc := 147) 0 dX0_trace_147 rfl rfl ?_
  refine vr_getR (pc := 148) 8 dX0_trace_148 fi_X0_21 hp0 (sh_0_8 hp0).1 ?_
  refine vr_iload_n (pc := 151) 1 dX0_trace_151 rfl rfl ?_
  obtain ⟨hc16, h⟩ := ck_some h
  refine vr_iald (pc := 152) dX0_trace_152 (sh_0_8 hp0).2 hc16 ?_
  refine vr_putI (pc := 153) 3 dX0_trace_153 fi_X0_73 (fw_0_3 _) hp0 (sh_0_3 hp0) ?_
  have h := Option.some.inj h; subst h
  exact vr_vret (pc := 156) dX0_trace_156 rfl rfl
theorem dX0_hasArc_0 : decode cX0_hasArc 0 = .ok (.iload_n 1, 1) := by decide +kernel
theorem dX0_hasArc_1 : decode cX0_hasArc 1 = .ok (.ifCond .lt 15, 3) := by decide +kernel
theorem dX0_hasArc_4 : decode cX0_hasArc 4 = .ok (.iload_n 1, 1) := by decide +kernel
theorem dX0_hasArc_5 : decode cX0_hasArc 5 = .ok (.aload_n 0, 1) := by decide +kernel
theorem dX0_hasArc_6 : decode cX0_hasArc 6 = .ok (.getfield 43, 3) := by decide +kernel
theorem dX0_hasArc_9 : decode cX0_hasArc 9 = .ok (.if_icmp .ge 7, 3) := by decide +kernel
theorem dX0_hasArc_12 : decode cX0_hasArc 12 = .ok (.iconst 1, 1) := by decide +kernel
theorem dX0_hasArc_13 : decode cX0_hasArc 13 = .ok (.goto 4, 3) := by decide +kernel
theorem dX0_hasArc_16 : decode cX0_hasArc 16 = .ok (.iconst 0, 1) := by decide +kernel
theorem dX0_hasArc_17 : decode cX0_hasArc 17 = .ok (.ireturn, 1) := by decide +kernel
set_option maxRecDepth 20000 in
set_option maxHeartbeats 4000000 in
theorem s_X0_hasArc (l : Launch) (g : GG) {q0 : Nat} (hq0 : kd q0 = 0) {a1 : Int32} {σ : SS} {r : Int32} (h : f_X0_hasArc q0 a1 σ = r) : CT l g 0 yX0_hasArc cX0_hasArc 2 (some .boolean) [.ref (g.1 q0), .int a1] σ (some (.int r), σ) := by
  refine CT.of (lv := [(0, .ref (g.1 q0)), (1, .int a1)]) RX0 (by decide +kernel) rfl (Nat.le_of_ble_eq_true rfl) rfl ?_
  unfold f_X0_hasArc at h
  refine vr_iload_n (pc := 0) 1 dX0_hasArc_0 rfl rfl ?_
  refine vr_if_lt (pc := 1) 16 dX0_hasArc_1 (by decide) (fun c1 => ?_) (fun c1 => ?_)
  · rw [if_pos c1] at h
    refine vr_iconst (pc := 16) 0 dX0_hasArc_16 ci_0 ?_
    subst h
    exact vr_iret (pc := 17) .boolean dX0_hasArc_17 rfl rfl rfl
  · rw [if_neg c1] at h
    refine vr_iload_n (pc := 4) 1 dX0_hasArc_4 rfl rfl ?_
    refine vr_aload_n (pc := 5) 0 dX0_hasArc_5 rfl rfl ?_
    refine vr_getI (pc := 6) 2 dX0_hasArc_6 fi_X0_43 hq0 (sh_0_2 hq0) ?_
    refine vr_icmp_ge (pc := 9) 16 dX0_hasArc_9 (by decide) (fun c2 => ?_) (fun c2 => ?_)
    · rw [if_pos c2] at h
      refine vr_iconst (pc := 16) 0 dX0_hasArc_16 ci_0 ?_
      subst h
      exact vr_iret (pc := 17) .boolean dX0_hasArc_17 rfl rfl rfl
    · rw [if_neg c2] at h
      refine vr_iconst (pc := 12) 1 dX0_hasArc_12 ci_1 ?_
      refine vr_goto (pc := 13) 17 dX0_hasArc_13 (by decide) ?_
      subst h
      exact vr_iret (pc := 17) .boolean dX0_hasArc_17 rfl rfl rfl
theorem dX0_rounds_0 : decode cX0_rounds 0 = .ok (.iconst 0, 1) := by decide +kernel
theorem dX0_rounds_1 : decode cX0_rounds 1 = .ok (.istore_n 1, 1) := by decide +kernel
theorem dX0_rounds_2 : decode cX0_rounds 2 = .ok (.aload_n 0, 1) := by decide +kernel
theorem dX0_rounds_3 : decode cX0_rounds 3 = .ok (.getfield 73, 3) := by decide +kernel
theorem dX0_rounds_6 : decode cX0_rounds 6 = .ok (.iconst 0, 1) := by decide +kernel
theorem dX0_rounds_7 : decode cX0_rounds 7 = .ok (.invokestatic 86, 3) := by decide +kernel
theorem dX0_rounds_10 : decode cX0_rounds 10 = .ok (.istore_n 2, 1) := by decide +kernel
theorem dX0_rounds_11 : decode cX0_rounds 11 = .ok (.iload_n 2, 1) := by decide +kernel
theorem dX0_rounds_12 : decode cX0_rounds 12 = .ok (.aload_n 0, 1) := by decide +kernel
theorem dX0_rounds_13 : decode cX0_rounds 13 = .ok (.getfield 43, 3) := by decide +kernel
theorem dX0_rounds_16 : decode cX0_rounds 16 = .ok (.if_icmp .ge 18, 3) := by decide +kernel
theorem dX0_rounds_19 : decode cX0_rounds 19 = .ok (.iload_n 1, 1) := by decide +kernel
theorem dX0_rounds_20 : decode cX0_rounds 20 = .ok (.aload_n 0, 1) := by decide +kernel
theorem dX0_rounds_21 : decode cX0_rounds 21 = .ok (.getfield 18, 3) := by decide +kernel
theorem dX0_rounds_24 : decode cX0_rounds 24 = .ok (.iload_n 2, 1) := by decide +kernel
theorem dX0_rounds_25 : decode cX0_rounds 25 = .ok (.iaload, 1) := by decide +kernel
theorem dX0_rounds_26 : decode cX0_rounds 26 = .ok (.iadd, 1) := by decide +kernel
theorem dX0_rounds_27 : decode cX0_rounds 27 = .ok (.istore_n 1, 1) := by decide +kernel
theorem dX0_rounds_28 : decode cX0_rounds 28 = .ok (.iinc 2 1, 3) := by decide +kernel
theorem dX0_rounds_31 : decode cX0_rounds 31 = .ok (.goto (-20), 3) := by decide +kernel
theorem dX0_rounds_34 : decode cX0_rounds 34 = .ok (.aload_n 0, 1) := by decide +kernel
theorem dX0_rounds_35 : decode cX0_rounds 35 = .ok (.getfield 34, 3) := by decide +kernel
theorem dX0_rounds_38 : decode cX0_rounds 38 = .ok (.iconst 1, 1) := by decide +kernel
theorem dX0_rounds_39 : decode cX0_rounds 39 = .ok (.if_icmp .ge 7, 3) := by decide +kernel
theorem dX0_rounds_42 : decode cX0_rounds 42 = .ok (.iconst 0, 1) := by decide +kernel
theorem dX0_rounds_43 : decode cX0_rounds 43 = .ok (.goto 9, 3) := by decide +kernel
theorem dX0_rounds_46 : decode cX0_rounds 46 = .ok (.iload_n 1, 1) := by decide +kernel
theorem dX0_rounds_47 : decode cX0_rounds 47 = .ok (.aload_n 0, 1) := by decide +kernel
theorem dX0_rounds_48 : decode cX0_rounds 48 = .ok (.getfield 34, 3) := by decide +kernel
theorem dX0_rounds_51 : decode cX0_rounds 51 = .ok (.idiv, 1) := by decide +kernel
theorem dX0_rounds_52 : decode cX0_rounds 52 = .ok (.ireturn, 1) := by decide +kernel
set_option maxRecDepth 20000 in
set_option maxHeartbeats 4000000 in
theorem v_X0_rounds_L11 (l : Launch) (g : GG) {r : Int32} {σ : SS} {κ : Nat → Int32 → Option Int32} (hκ : ∀ (p0 : Nat) (y1 : Int32) (hp0 : kd p0 = 0), κ p0 y1 = some r → VV l g 1 RX0 cX0_rounds 3 (some .int) (some (.int r), σ) 34 [(0, .ref (g.1 p0)), (1, .int y1)] [] σ) : ∀ (fu : Nat) (q0 : Nat) (x1 : Int32) (x2 : Int32) (hq0 : kd q0 = 0), f_X0_rounds_L11 σ κ fu q0 x1 x2 = some r → VV l g 1 RX0 cX0_rounds 3 (some .int) (some (.int r), σ) 11 [(0, .ref (g.1 q0)), (1, .int x1), (2, .int x2)] [] σ := by
  intro fu
  induction fu with
  | zero => intro q0 x1 x2 hq0 h; cases h
  | succ fu ih =>
    intro q0 x1 x2 hq0 h
    simp only [f_X0_rounds_L11] at h
    refine vr_iload_n (pc := 11) 2 dX0_rounds_11 rfl rfl ?_
    refine vr_aload_n (pc := 12) 0 dX0_rounds_12 rfl rfl ?_
    refine vr_getI (pc := 13) 2 dX0_rounds_13 fi_X0_43 hq0 (sh_0_2 hq0) ?_
    refine vr_icmp_ge (pc := 16) 34 dX0_rounds_16 (by decide) (fun c1 => ?_) (fun c1 => ?_)
    · rw [if_pos c1] at h
      refine vr_sub [0, 1] [(0, .ref (g.1 q0)), (1, .int x1)] rfl ?_
      exact hκ q0 x1 (hq0) h
    · rw [if_neg c1] at h
      refine vr_iload_n (pc := 19) 1 dX0_rounds_19 rfl rfl ?_
      refine vr_aload_n (pc := 20) 0 dX0_rounds_20 rfl rfl ?_
      refine vr_getR (pc := 21) 7 dX0_rounds_21 fi_X0_18 hq0 (sh_0_7 hq0).1 ?_
      refine vr_iload_n (pc := 24) 2 dX0_rounds_24 rfl rfl ?_
      obtain ⟨hc2, h⟩ := ck_some h
      refine vr_iald (pc := 25) dX0_rounds_25 (sh_0_7 hq0).2 hc2 ?_
      refine vr_iadd (pc := 26) dX0_rounds_26 ?_
      refine vr_istore_n (pc := 27) [(1, .int (x1 + (σ.1 (rid q0 7) x2.toNatClampNeg))), (0, .ref (g.1 q0)), (2, .int x2)] dX0_rounds_27 rfl (by decide) rfl ?_
      refine vr_iinc (pc := 28) [(2, .int (x2 + 1)), (1, .int (x1 + (σ.1 (rid q0 7) x2.toNatClampNeg))), (0, .ref (g.1 q0))] 2 dX0_rounds_28 rfl (congrArg (fun z => x2 + z) ci_1) (by decide) rfl ?_
      refine vr_goto (pc := 31) 11 dX0_rounds_31 (by decide) ?_
      refine vr_sub [2, 1, 0] [(0, .ref (g.1 q0)), (1, .int (x1 + (σ.1 (rid q0 7) x2.toNatClampNeg))), (2, .int (x2 + 1))] rfl ?_
      exact ih q0 (x1 + (σ.1 (rid q0 7) x2.toNatClampNeg)) (x2 + 1) (hq0) h
set_option maxRecDepth 20000 in
set_option maxHeartbeats 4000000 in
theorem s_X0_rounds (l : Launch) (g : GG) {q0 : Nat} (hq0 : kd q0 = 0) {σ : SS} {r : Int32} (h : f_X0_rounds q0 σ = some r) : CT l g 1 yX0_rounds cX0_rounds 3 (some .int) [.ref (g.1 q0)] σ (some (.int r), σ) := by
  refine CT.of (lv := [(0, .ref (g.1 q0))]) RX0 (by decide +kernel) rfl (Nat.le_of_ble_eq_true rfl) rfl ?_
  unfold f_X0_rounds at h
  refine vr_iconst (pc := 0) 0 dX0_rounds_0 ci_0 ?_
  refine vr_istore_n (pc := 1) [(1, .int 0), (0, .ref (g.1 q0))] dX0_rounds_1 rfl (by decide) rfl ?_
  refine vr_aload_n (pc := 2) 1 dX0_rounds_2 rfl rfl ?_
  refine vr_getI (pc := 3) 3 dX0_rounds_3 fi_X0_73 hq0 (sh_0_3 hq0) ?_
  refine vr_iconst (pc := 6) 0 dX0_rounds_6 ci_0 ?_
  refine vr_mmax (pc := 7) dX0_rounds_7 ml_X0_86 (by decide) (Nat.le_of_ble_eq_true rfl) ?_
  refine vr_istore_n (pc := 10) [(2, .int (f_J9_max_7cf53 (σ.1 q0 3) 0)), (1, .int 0), (0, .ref (g.1 q0))] dX0_rounds_10 rfl (by decide) rfl ?_
  refine vr_sub [2, 1, 0] [(0, .ref (g.1 q0)), (1, .int 0), (2, .int (f_J9_max_7cf53 (σ.1 q0 3) 0))] rfl ?_
  refine v_X0_rounds_L11 l g (fun p0 y1 hp0 h => ?_) FU q0 0 (f_J9_max_7cf53 (σ.1 q0 3) 0) (hq0) h
  refine vr_aload_n (pc := 34) 0 dX0_rounds_34 rfl rfl ?_
  refine vr_getI (pc := 35) 0 dX0_rounds_35 fi_X0_34 hp0 (sh_0_0 hp0) ?_
  refine vr_iconst (pc := 38) 1 dX0_rounds_38 ci_1 ?_
  refine vr_icmp_ge (pc := 39) 46 dX0_rounds_39 (by decide) (fun c3 => ?_) (fun c3 => ?_)
  · rw [if_pos c3] at h
    refine vr_iload_n (pc := 46) 1 dX0_rounds_46 rfl rfl ?_
    refine vr_aload_n (pc := 47) 0 dX0_rounds_47 rfl rfl ?_
    refine vr_getI (pc := 48) 0 dX0_rounds_48 fi_X0_34 hp0 (sh_0_0 hp0) ?_
    refine vr_idiv (pc := 51) dX0_rounds_51 (ne0_le1 c3) ?_
    have h := Option.some.inj h; subst h
    exact vr_iret (pc := 52) .int dX0_rounds_52 rfl rfl rfl
  · rw [if_neg c3] at h
    refine vr_iconst (pc := 42) 0 dX0_rounds_42 ci_0 ?_
    refine vr_goto (pc := 43) 52 dX0_rounds_43 (by decide) ?_
    have h := Option.some.inj h; subst h
    exact vr_iret (pc := 52) .int dX0_rounds_52 rfl rfl rfl
theorem dX0_cuspFrom_0 : decode cX0_cuspFrom 0 = .ok (.iconst 0, 1) := by decide +kernel
theorem dX0_cuspFrom_1 : decode cX0_cuspFrom 1 = .ok (.istore_n 2, 1) := by decide +kernel
theorem dX0_cuspFrom_2 : decode cX0_cuspFrom 2 = .ok (.iload_n 2, 1) := by decide +kernel
theorem dX0_cuspFrom_3 : decode cX0_cuspFrom 3 = .ok (.aload_n 0, 1) := by decide +kernel
theorem dX0_cuspFrom_4 : decode cX0_cuspFrom 4 = .ok (.getfield 34, 3) := by decide +kernel
theorem dX0_cuspFrom_7 : decode cX0_cuspFrom 7 = .ok (.if_icmp .ge 33, 3) := by decide +kernel
theorem dX0_cuspFrom_10 : decode cX0_cuspFrom 10 = .ok (.iload_n 1, 1) := by decide +kernel
theorem dX0_cuspFrom_11 : decode cX0_cuspFrom 11 = .ok (.iload_n 2, 1) := by decide +kernel
theorem dX0_cuspFrom_12 : decode cX0_cuspFrom 12 = .ok (.iadd, 1) := by decide +kernel
theorem dX0_cuspFrom_13 : decode cX0_cuspFrom 13 = .ok (.aload_n 0, 1) := by decide +kernel
theorem dX0_cuspFrom_14 : decode cX0_cuspFrom 14 = .ok (.getfield 34, 3) := by decide +kernel
theorem dX0_cuspFrom_17 : decode cX0_cuspFrom 17 = .ok (.invokestatic 89, 3) := by decide +kernel
theorem dX0_cuspFrom_20 : decode cX0_cuspFrom 20 = .ok (.istore_n 3, 1) := by decide +kernel
theorem dX0_cuspFrom_21 : decode cX0_cuspFrom 21 = .ok (.aload_n 0, 1) := by decide +kernel
theorem dX0_cuspFrom_22 : decode cX0_cuspFrom 22 = .ok (.getfield 21, 3) := by decide +kernel
theorem dX0_cuspFrom_25 : decode cX0_cuspFrom 25 = .ok (.iload_n 3, 1) := by decide +kernel
theorem dX0_cuspFrom_26 : decode cX0_cuspFrom 26 = .ok (.iaload, 1) := by decide +kernel
theorem dX0_cuspFrom_27 : decode cX0_cuspFrom 27 = .ok (.bipush (-9), 2) := by decide +kernel
theorem dX0_cuspFrom_29 : decode cX0_cuspFrom 29 = .ok (.if_icmp .eq 5, 3) := by decide +kernel
theorem dX0_cuspFrom_32 : decode cX0_cuspFrom 32 = .ok (.iload_n 3, 1) := by decide +kernel
theorem dX0_cuspFrom_33 : decode cX0_cuspFrom 33 = .ok (.ireturn, 1) := by decide +kernel
theorem dX0_cuspFrom_34 : decode cX0_cuspFrom 34 = .ok (.iinc 2 1, 3) := by decide +kernel
theorem dX0_cuspFrom_37 : decode cX0_cuspFrom 37 = .ok (.goto (-35), 3) := by decide +kernel
theorem dX0_cuspFrom_40 : decode cX0_cuspFrom 40 = .ok (.iload_n 1, 1) := by decide +kernel
theorem dX0_cuspFrom_41 : decode cX0_cuspFrom 41 = .ok (.ireturn, 1) := by decide +kernel
set_option maxRecDepth 20000 in
set_option maxHeartbeats 4000000 in
theorem v_X0_cuspFrom_L2 (l : Launch) (g : GG) {r : Int32} {σ : SS} {κ : Int32 → Option Int32} (hκ : ∀ (y1 : Int32) , κ y1 = some r → VV l g 1 RX0 cX0_cuspFrom 4 (some .int) (some (.int r), σ) 40 [(1, .int y1)] [] σ) : ∀ (fu : Nat) (q0 : Nat) (x1 : Int32) (x2 : Int32) (hq0 : kd q0 = 0), f_X0_cuspFrom_L2 σ κ fu q0 x1 x2 = some r → VV l g 1 RX0 cX0_cuspFrom 4 (some .int) (some (.int r), σ) 2 [(0, .ref (g.1 q0)), (1, .int x1), (2, .int x2)] [] σ := by
  intro fu
  induction fu with
  | zero => intro q0 x1 x2 hq0 h; cases h
  | succ fu ih =>
    intro q0 x1 x2 hq0 h
    simp only [f_X0_cuspFrom_L2] at h
    refine vr_iload_n (pc := 2) 2 dX0_cuspFrom_2 rfl rfl ?_
    refine vr_aload_n (pc := 3) 0 dX0_cuspFrom_3 rfl rfl ?_
    refine vr_getI (pc := 4) 0 dX0_cuspFrom_4 fi_X0_34 hq0 (sh_0_0 hq0) ?_
    refine vr_icmp_ge (pc := 7) 40 dX0_cuspFrom_7 (by decide) (fun c1 => ?_) (fun c1 => ?_)
    · rw [if_pos c1] at h
      refine vr_sub [1] [(1, .int x1)] rfl ?_
      exact hκ x1 h
    · rw [if_neg c1] at h
      refine vr_iload_n (pc := 10) 1 dX0_cuspFrom_10 rfl rfl ?_
      refine vr_iload_n (pc := 11) 2 dX0_cuspFrom_11 rfl rfl ?_
      refine vr_iadd (pc := 12) dX0_cuspFrom_12 ?_
      refine vr_aload_n (pc := 13) 0 dX0_cuspFrom_13 rfl rfl ?_
      refine vr_getI (pc := 14) 0 dX0_cuspFrom_14 fi_X0_34 hq0 (sh_0_0 hq0) ?_
      refine vr_callS (pc := 17) (ρ1 := (some (.int (f_X2_modulo (x1 + x2) (σ.1 q0 0))), σ)) [.int (x1 + x2), .int (σ.1 q0 0)] dX0_cuspFrom_17 (s_X2_modulo l g rfl) cw_X2_modulo ml_X0_89 (by decide) rfl rfl (Nat.le_of_ble_eq_true rfl) ?_
      refine vr_istore_n (pc := 20) [(3, .int (f_X2_modulo (x1 + x2) (σ.1 q0 0))), (0, .ref (g.1 q0)), (1, .int x1), (2, .int x2)] dX0_cuspFrom_20 rfl (by decide) rfl ?_
      refine vr_aload_n (pc := 21) 1 dX0_cuspFrom_21 rfl rfl ?_
      refine vr_getR (pc := 22) 8 dX0_cuspFrom_22 fi_X0_21 hq0 (sh_0_8 hq0).1 ?_
      refine vr_iload_n (pc := 25) 0 dX0_cuspFrom_25 rfl rfl ?_
      obtain ⟨hc2, h⟩ := ck_some h
      refine vr_iald (pc := 26) dX0_cuspFrom_26 (sh_0_8 hq0).2 hc2 ?_
      refine vr_bipush (pc := 27) (-9) dX0_cuspFrom_27 cb_m9 ?_
      refine vr_icmp_eq (pc := 29) 34 dX0_cuspFrom_29 (by decide) (fun c3 => ?_) (fun c3 => ?_)
      · rw [if_pos c3] at h
        refine vr_iinc (pc := 34) [(2, .int (x2 + 1)), (3, .int (f_X2_modulo (x1 + x2) (σ.1 q0 0))), (0, .ref (g.1 q0)), (1, .int x1)] 3 dX0_cuspFrom_34 rfl (congrArg (fun z => x2 + z) ci_1) (by decide) rfl ?_
        refine vr_goto (pc := 37) 2 dX0_cuspFrom_37 (by decide) ?_
        refine vr_sub [2, 3, 0] [(0, .ref (g.1 q0)), (1, .int x1), (2, .int (x2 + 1))] rfl ?_
        exact ih q0 x1 (x2 + 1) (hq0) h
      · rw [if_neg c3] at h
        refine vr_iload_n (pc := 32) 0 dX0_cuspFrom_32 rfl rfl ?_
        have h := Option.some.inj h; subst h
        exact vr_iret (pc := 33) .int dX0_cuspFrom_33 rfl rfl rfl
set_option maxRecDepth 20000 in
set_option maxHeartbeats 4000000 in
theorem s_X0_cuspFrom (l : Launch) (g : GG) {q0 : Nat} (hq0 : kd q0 = 0) {a1 : Int32} {σ : SS} {r : Int32} (h : f_X0_cuspFrom q0 a1 σ = some r) : CT l g 1 yX0_cuspFrom cX0_cuspFrom 4 (some .int) [.ref (g.1 q0), .int a1] σ (some (.int r), σ) := by
  refine CT.of (lv := [(0, .ref (g.1 q0)), (1, .int a1)]) RX0 (by decide +kernel) rfl (Nat.le_of_ble_eq_true rfl) rfl ?_
  unfold f_X0_cuspFrom at h
  refine vr_iconst (pc := 0) 0 dX0_cuspFrom_0 ci_0 ?_
  refine vr_istore_n (pc := 1) [(2, .int 0), (0, .ref (g.1 q0)), (1, .int a1)] dX0_cuspFrom_1 rfl (by decide) rfl ?_
  refine vr_sub [1, 2, 0] [(0, .ref (g.1 q0)), (1, .int a1), (2, .int 0)] rfl ?_
  refine v_X0_cuspFrom_L2 l g (fun y1 h => ?_) FU q0 a1 0 (hq0) h
  refine vr_iload_n (pc := 40) 0 dX0_cuspFrom_40 rfl rfl ?_
  have h := Option.some.inj h; subst h
  exact vr_iret (pc := 41) .int dX0_cuspFrom_41 rfl rfl rfl
theorem dX0_gapAbove_0 : decode cX0_gapAbove 0 = .ok (.aload_n 0, 1) := by decide +kernel
theorem dX0_gapAbove_1 : decode cX0_gapAbove 1 = .ok (.iload_n 1, 1) := by decide +kernel
theorem dX0_gapAbove_2 : decode cX0_gapAbove 2 = .ok (.iconst 1, 1) := by decide +kernel
theorem dX0_gapAbove_3 : decode cX0_gapAbove 3 = .ok (.iadd, 1) := by decide +kernel
theorem dX0_gapAbove_4 : decode cX0_gapAbove 4 = .ok (.invokevirtual 94, 3) := by decide +kernel
theorem dX0_gapAbove_7 : decode cX0_gapAbove 7 = .ok (.iload_n 1, 1) := by decide +kernel
theorem dX0_gapAbove_8 : decode cX0_gapAbove 8 = .ok (.isub, 1) := by decide +kernel
theorem dX0_gapAbove_9 : decode cX0_gapAbove 9 = .ok (.aload_n 0, 1) := by decide +kernel
theorem dX0_gapAbove_10 : decode cX0_gapAbove 10 = .ok (.getfield 34, 3) := by decide +kernel
theorem dX0_gapAbove_13 : decode cX0_gapAbove 13 = .ok (.invokestatic 89, 3) := by decide +kernel
theorem dX0_gapAbove_16 : decode cX0_gapAbove 16 = .ok (.istore_n 2, 1) := by decide +kernel
theorem dX0_gapAbove_17 : decode cX0_gapAbove 17 = .ok (.iload_n 2, 1) := by decide +kernel
theorem dX0_gapAbove_18 : decode cX0_gapAbove 18 = .ok (.ifCond .ne 10, 3) := by decide +kernel
theorem dX0_gapAbove_21 : decode cX0_gapAbove 21 = .ok (.aload_n 0, 1) := by decide +kernel
theorem dX0_gapAbove_22 : decode cX0_gapAbove 22 = .ok (.getfield 34, 3) := by decide +kernel
theorem dX0_gapAbove_25 : decode cX0_gapAbove 25 = .ok (.goto 4, 3) := by decide +kernel
theorem dX0_gapAbove_28 : decode cX0_gapAbove 28 = .ok (.iload_n 2, 1) := by decide +kernel
theorem dX0_gapAbove_29 : decode cX0_gapAbove 29 = .ok (.ireturn, 1) := by decide +kernel
set_option maxRecDepth 20000 in
set_option maxHeartbeats 4000000 in
theorem s_X0_gapAbove (l : Launch) (g : GG) {q0 : Nat} (hq0 : kd q0 = 0) {a1 : Int32} {σ : SS} {r : Int32} (h : f_X0_gapAbove q0 a1 σ = some r) : CT l g 2 yX0_gapAbove cX0_gapAbove 3 (some .int) [.ref (g.1 q0), .int a1] σ (some (.int r), σ) := by
  refine CT.of (lv := [(0, .ref (g.1 q0)), (1, .int a1)]) RX0 (by decide +kernel) rfl (Nat.le_of_ble_eq_true rfl) rfl ?_
  unfold f_X0_gapAbove at h
  refine vr_aload_n (pc := 0) 0 dX0_gapAbove_0 rfl rfl ?_
  refine vr_iload_n (pc := 1) 1 dX0_gapAbove_1 rfl rfl ?_
  refine vr_iconst (pc := 2) 1 dX0_gapAbove_2 ci_1 ?_
  refine vr_iadd (pc := 3) dX0_gapAbove_3 ?_
  obtain ⟨z1, hz2, h⟩ := ob_some h
  refine vr_callV (pc := 4) (ρ1 := (some (.int z1), σ)) [.int (a1 + 1)] dX0_gapAbove_4 (s_X0_cuspFrom l g (hq0) hz2) cw_X0_cuspFrom ml_X0_94 hq0 rfl (by decide) (by decide) rfl rfl (Nat.le_of_ble_eq_true rfl) ?_
  refine vr_iload_n (pc := 7) 1 dX0_gapAbove_7 rfl rfl ?_
  refine vr_isub (pc := 8) dX0_gapAbove_8 ?_
  refine vr_aload_n (pc := 9) 0 dX0_gapAbove_9 rfl rfl ?_
  refine vr_getI (pc := 10) 0 dX0_gapAbove_10 fi_X0_34 hq0 (sh_0_0 hq0) ?_
  refine vr_callS (pc := 13) (ρ1 := (some (.int (f_X2_modulo (z1 - a1) (σ.1 q0 0))), σ)) [.int (z1 - a1), .int (σ.1 q0 0)] dX0_gapAbove_13 (s_X2_modulo l g rfl) cw_X2_modulo ml_X0_89 (by decide) rfl rfl (Nat.le_of_ble_eq_true rfl) ?_
  refine vr_istore_n (pc := 16) [(2, .int (f_X2_modulo (z1 - a1) (σ.1 q0 0))), (0, .ref (g.1 q0)), (1, .int a1)] dX0_gapAbove_16 rfl (by decide) rfl ?_
  refine vr_iload_n (pc := 17) 0 dX0_gapAbove_17 rfl rfl ?_
  refine vr_if_ne (pc := 18) 28 dX0_gapAbove_18 (by decide) (fun c3 => ?_) (fun c3 => ?_)
  · rw [if_neg c3] at h
    refine vr_iload_n (pc := 28) 0 dX0_gapAbove_28 rfl rfl ?_
    have h := Option.some.inj h; subst h
    exact vr_iret (pc := 29) .int dX0_gapAbove_29 rfl rfl rfl
  · rw [if_pos c3] at h
    refine vr_aload_n (pc := 21) 1 dX0_gapAbove_21 rfl rfl ?_
    refine vr_getI (pc := 22) 0 dX0_gapAbove_22 fi_X0_34 hq0 (sh_0_0 hq0) ?_
    refine vr_goto (pc := 25) 29 dX0_gapAbove_25 (by decide) ?_
    have h := Option.some.inj h; subst h
    exact vr_iret (pc := 29) .int dX0_gapAbove_29 rfl rfl rfl
theorem dX0_cuspOfGap_0 : decode cX0_cuspOfGap 0 = .ok (.aload_n 0, 1) := by decide +kernel
theorem dX0_cuspOfGap_1 : decode cX0_cuspOfGap 1 = .ok (.iconst 0, 1) := by decide +kernel
theorem dX0_cuspOfGap_2 : decode cX0_cuspOfGap 2 = .ok (.invokevirtual 94, 3) := by decide +kernel
theorem dX0_cuspOfGap_5 : decode cX0_cuspOfGap 5 = .ok (.istore_n 1, 1) := by decide +kernel
theorem dX0_cuspOfGap_6 : decode cX0_cuspOfGap 6 = .ok (.iload_n 1, 1) := by decide +kernel
theorem dX0_cuspOfGap_7 : decode cX0_cuspOfGap 7 = .ok (.iconst 1, 1) := by decide +kernel
theorem dX0_cuspOfGap_8 : decode cX0_cuspOfGap 8 = .ok (.iadd, 1) := by decide +kernel
theorem dX0_cuspOfGap_9 : decode cX0_cuspOfGap 9 = .ok (.istore_n 2, 1) := by decide +kernel
theorem dX0_cuspOfGap_10 : decode cX0_cuspOfGap 10 = .ok (.iload_n 2, 1) := by decide +kernel
theorem dX0_cuspOfGap_11 : decode cX0_cuspOfGap 11 = .ok (.aload_n 0, 1) := by decide +kernel
theorem dX0_cuspOfGap_12 : decode cX0_cuspOfGap 12 = .ok (.getfield 34, 3) := by decide +kernel
theorem dX0_cuspOfGap_15 : decode cX0_cuspOfGap 15 = .ok (.if_icmp .ge 35, 3) := by decide +kernel
theorem dX0_cuspOfGap_18 : decode cX0_cuspOfGap 18 = .ok (.aload_n 0, 1) := by decide +kernel
theorem dX0_cuspOfGap_19 : decode cX0_cuspOfGap 19 = .ok (.getfield 21, 3) := by decide +kernel
theorem dX0_cuspOfGap_22 : decode cX0_cuspOfGap 22 = .ok (.iload_n 2, 1) := by decide +kernel
theorem dX0_cuspOfGap_23 : decode cX0_cuspOfGap 23 = .ok (.iaload, 1) := by decide +kernel
theorem dX0_cuspOfGap_24 : decode cX0_cuspOfGap 24 = .ok (.bipush (-9), 2) := by decide +kernel
theorem dX0_cuspOfGap_26 : decode cX0_cuspOfGap 26 = .ok (.if_icmp .eq 18, 3) := by decide +kernel
theorem dX0_cuspOfGap_29 : decode cX0_cuspOfGap 29 = .ok (.aload_n 0, 1) := by decide +kernel
theorem dX0_cuspOfGap_30 : decode cX0_cuspOfGap 30 = .ok (.iload_n 2, 1) := by decide +kernel
theorem dX0_cuspOfGap_31 : decode cX0_cuspOfGap 31 = .ok (.invokevirtual 98, 3) := by decide +kernel
theorem dX0_cuspOfGap_34 : decode cX0_cuspOfGap 34 = .ok (.aload_n 0, 1) := by decide +kernel
theorem dX0_cuspOfGap_35 : decode cX0_cuspOfGap 35 = .ok (.iload_n 1, 1) := by decide +kernel
theorem dX0_cuspOfGap_36 : decode cX0_cuspOfGap 36 = .ok (.invokevirtual 98, 3) := by decide +kernel
theorem dX0_cuspOfGap_39 : decode cX0_cuspOfGap 39 = .ok (.if_icmp .le 5, 3) := by decide +kernel
theorem dX0_cuspOfGap_42 : decode cX0_cuspOfGap 42 = .ok (.iload_n 2, 1) := by decide +kernel
theorem dX0_cuspOfGap_43 : decode cX0_cuspOfGap 43 = .ok (.istore_n 1, 1) := by decide +kernel
theorem dX0_cuspOfGap_44 : decode cX0_cuspOfGap 44 = .ok (.iinc 2 1, 3) := by decide +kernel
theorem dX0_cuspOfGap_47 : decode cX0_cuspOfGap 47 = .ok (.goto (-37), 3) := by decide +kernel
theorem dX0_cuspOfGap_50 : decode cX0_cuspOfGap 50 = .ok (.iload_n 1, 1) := by decide +kernel
theorem dX0_cuspOfGap_51 : decode cX0_cuspOfGap 51 = .ok (.ireturn, 1) := by decide +kernel
set_option maxRecDepth 20000 in
set_option maxHeartbeats 4000000 in
theorem v_X0_cuspOfGap_L10 (l : Launch) (g : GG) {r : Int32} {σ : SS} {κ : Int32 → Option Int32} (hκ : ∀ (y1 : Int32) , κ y1 = some r → VV l g 3 RX0 cX0_cuspOfGap 3 (some .int) (some (.int r), σ) 50 [(1, .int y1)] [] σ) : ∀ (fu : Nat) (q0 : Nat) (x1 : Int32) (x2 : Int32) (hq0 : kd q0 = 0), f_X0_cuspOfGap_L10 σ κ fu q0 x1 x2 = some r → VV l g 3 RX0 cX0_cuspOfGap 3 (some .int) (some (.int r), σ) 10 [(0, .ref (g.1 q0)), (1, .int x1), (2, .int x2)] [] σ := by
  intro fu
  induction fu with
  | zero => intro q0 x1 x2 hq0 h; cases h
  | succ fu ih =>
    intro q0 x1 x2 hq0 h
    simp only [f_X0_cuspOfGap_L10] at h
    refine vr_iload_n (pc := 10) 2 dX0_cuspOfGap_10 rfl rfl ?_
    refine vr_aload_n (pc := 11) 0 dX0_cuspOfGap_11 rfl rfl ?_
    refine vr_getI (pc := 12) 0 dX0_cuspOfGap_12 fi_X0_34 hq0 (sh_0_0 hq0) ?_
    refine vr_icmp_ge (pc := 15) 50 dX0_cuspOfGap_15 (by decide) (fun c3 => ?_) (fun c3 => ?_)
    · rw [if_pos c3] at h
      refine vr_sub [1] [(1, .int x1)] rfl ?_
      exact hκ x1 h
    · rw [if_neg c3] at h
      refine vr_aload_n (pc := 18) 0 dX0_cuspOfGap_18 rfl rfl ?_
      refine vr_getR (pc := 19) 8 dX0_cuspOfGap_19 fi_X0_21 hq0 (sh_0_8 hq0).1 ?_
      refine vr_iload_n (pc := 22) 2 dX0_cuspOfGap_22 rfl rfl ?_
      obtain ⟨hc4, h⟩ := ck_some h
      refine vr_iald (pc := 23) dX0_cuspOfGap_23 (sh_0_8 hq0).2 hc4 ?_
      refine vr_bipush (pc := 24) (-9) dX0_cuspOfGap_24 cb_m9 ?_
      refine vr_icmp_eq (pc := 26) 44 dX0_cuspOfGap_26 (by decide) (fun c5 => ?_) (fun c5 => ?_)
      · rw [if_pos c5] at h
        refine vr_iinc (pc := 44) [(2, .int (x2 + 1)), (0, .ref (g.1 q0)), (1, .int x1)] 2 dX0_cuspOfGap_44 rfl (congrArg (fun z => x2 + z) ci_1) (by decide) rfl ?_
        refine vr_goto (pc := 47) 10 dX0_cuspOfGap_47 (by decide) ?_
        refine vr_sub [1, 2, 0] [(0, .ref (g.1 q0)), (1, .int x1), (2, .int (x2 + 1))] rfl ?_
        exact ih q0 x1 (x2 + 1) (hq0) h
      · rw [if_neg c5] at h
        refine vr_aload_n (pc := 29) 0 dX0_cuspOfGap_29 rfl rfl ?_
        refine vr_iload_n (pc := 30) 2 dX0_cuspOfGap_30 rfl rfl ?_
        obtain ⟨z6, hz7, h⟩ := ob_some h
        refine vr_callV (pc := 31) (ρ1 := (some (.int z6), σ)) [.int x2] dX0_cuspOfGap_31 (s_X0_gapAbove l g (hq0) hz7) cw_X0_gapAbove ml_X0_98 hq0 rfl (by decide) (by decide) rfl rfl (Nat.le_of_ble_eq_true rfl) ?_
        refine vr_aload_n (pc := 34) 0 dX0_cuspOfGap_34 rfl rfl ?_
        refine vr_iload_n (pc := 35) 1 dX0_cuspOfGap_35 rfl rfl ?_
        obtain ⟨z8, hz9, h⟩ := ob_some h
        refine vr_callV (pc := 36) (ρ1 := (some (.int z8), σ)) [.int x1] dX0_cuspOfGap_36 (s_X0_gapAbove l g (hq0) hz9) cw_X0_gapAbove ml_X0_98 hq0 rfl (by decide) (by decide) rfl rfl (Nat.le_of_ble_eq_true rfl) ?_
        refine vr_icmp_le (pc := 39) 44 dX0_cuspOfGap_39 (by decide) (fun c10 => ?_) (fun c10 => ?_)
        · rw [if_pos c10] at h
          refine vr_iinc (pc := 44) [(2, .int (x2 + 1)), (0, .ref (g.1 q0)), (1, .int x1)] 2 dX0_cuspOfGap_44 rfl (congrArg (fun z => x2 + z) ci_1) (by decide) rfl ?_
          refine vr_goto (pc := 47) 10 dX0_cuspOfGap_47 (by decide) ?_
          refine vr_sub [1, 2, 0] [(0, .ref (g.1 q0)), (1, .int x1), (2, .int (x2 + 1))] rfl ?_
          exact ih q0 x1 (x2 + 1) (hq0) h
        · rw [if_neg c10] at h
          refine vr_iload_n (pc := 42) 2 dX0_cuspOfGap_42 rfl rfl ?_
          refine vr_istore_n (pc := 43) [(1, .int x2), (0, .ref (g.1 q0)), (2, .int x2)] dX0_cuspOfGap_43 rfl (by decide) rfl ?_
          refine vr_iinc (pc := 44) [(2, .int (x2 + 1)), (1, .int x2), (0, .ref (g.1 q0))] 2 dX0_cuspOfGap_44 rfl (congrArg (fun z => x2 + z) ci_1) (by decide) rfl ?_
          refine vr_goto (pc := 47) 10 dX0_cuspOfGap_47 (by decide) ?_
          refine vr_sub [2, 1, 0] [(0, .ref (g.1 q0)), (1, .int x2), (2, .int (x2 + 1))] rfl ?_
          exact ih q0 x2 (x2 + 1) (hq0) h
set_option maxRecDepth 20000 in
set_option maxHeartbeats 4000000 in
theorem s_X0_cuspOfGap (l : Launch) (g : GG) {q0 : Nat} (hq0 : kd q0 = 0) {σ : SS} {r : Int32} (h : f_X0_cuspOfGap q0 σ = some r) : CT l g 3 yX0_cuspOfGap cX0_cuspOfGap 3 (some .int) [.ref (g.1 q0)] σ (some (.int r), σ) := by
  refine CT.of (lv := [(0, .ref (g.1 q0))]) RX0 (by decide +kernel) rfl (Nat.le_of_ble_eq_true rfl) rfl ?_
  unfold f_X0_cuspOfGap at h
  refine vr_aload_n (pc := 0) 0 dX0_cuspOfGap_0 rfl rfl ?_
  refine vr_iconst (pc := 1) 0 dX0_cuspOfGap_1 ci_0 ?_
  obtain ⟨z1, hz2, h⟩ := ob_some h
  refine vr_callV (pc := 2) (ρ1 := (some (.int z1), σ)) [.int 0] dX0_cuspOfGap_2 (s_X0_cuspFrom l g (hq0) hz2) cw_X0_cuspFrom ml_X0_94 hq0 rfl (by decide) (by decide) rfl rfl (Nat.le_of_ble_eq_true rfl) ?_
  refine vr_istore_n (pc := 5) [(1, .int z1), (0, .ref (g.1 q0))] dX0_cuspOfGap_5 rfl (by decide) rfl ?_
  refine vr_iload_n (pc := 6) 0 dX0_cuspOfGap_6 rfl rfl ?_
  refine vr_iconst (pc := 7) 1 dX0_cuspOfGap_7 ci_1 ?_
  refine vr_iadd (pc := 8) dX0_cuspOfGap_8 ?_
  refine vr_istore_n (pc := 9) [(2, .int (z1 + 1)), (1, .int z1), (0, .ref (g.1 q0))] dX0_cuspOfGap_9 rfl (by decide) rfl ?_
  refine vr_sub [2, 1, 0] [(0, .ref (g.1 q0)), (1, .int z1), (2, .int (z1 + 1))] rfl ?_
  refine v_X0_cuspOfGap_L10 l g (fun y1 h => ?_) FU q0 z1 (z1 + 1) (hq0) h
  refine vr_iload_n (pc := 50) 0 dX0_cuspOfGap_50 rfl rfl ?_
  have h := Option.some.inj h; subst h
  exact vr_iret (pc := 51) .int dX0_cuspOfGap_51 rfl rfl rfl
theorem dX0_crossedBy_0 : decode cX0_crossedBy 0 = .ok (.iconst 0, 1) := by decide +kernel
theorem dX0_crossedBy_1 : decode cX0_crossedBy 1 = .ok (.istore_n 3, 1) := by decide +kernel
theorem dX0_crossedBy_2 : decode cX0_crossedBy 2 = .ok (.aload_n 0, 1) := by decide +kernel
theorem dX0_crossedBy_3 : decode cX0_crossedBy 3 = .ok (.getfield 41, 3) := by decide +kernel
theorem dX0_crossedBy_6 : decode cX0_crossedBy 6 = .ok (.aload_n 1, 1) := by decide +kernel
theorem dX0_crossedBy_7 : decode cX0_crossedBy 7 = .ok (.getfield 41, 3) := by decide +kernel
theorem dX0_crossedBy_10 : decode cX0_crossedBy 10 = .ok (.if_icmp .ne 64, 3) := by decide +kernel
theorem dX0_crossedBy_13 : decode cX0_crossedBy 13 = .ok (.aload_n 1, 1) := by decide +kernel
theorem dX0_crossedBy_14 : decode cX0_crossedBy 14 = .ok (.iload_n 2, 1) := by decide +kernel
theorem dX0_crossedBy_15 : decode cX0_crossedBy 15 = .ok (.invokevirtual 101, 3) := by decide +kernel
theorem dX0_crossedBy_18 : decode cX0_crossedBy 18 = .ok (.ifCond .eq 56, 3) := by decide +kernel
theorem dX0_crossedBy_21 : decode cX0_crossedBy 21 = .ok (.iconst 0, 1) := by decide +kernel
theorem dX0_crossedBy_22 : decode cX0_crossedBy 22 = .ok (.istore 4, 2) := by decide +kernel
theorem dX0_crossedBy_24 : decode cX0_crossedBy 24 = .ok (.iload 4, 2) := by decide +kernel
theorem dX0_crossedBy_26 : decode cX0_crossedBy 26 = .ok (.aload_n 0, 1) := by decide +kernel
theorem dX0_crossedBy_27 : decode cX0_crossedBy 27 = .ok (.getfield 43, 3) := by decide +kernel
theorem dX0_crossedBy_30 : decode cX0_crossedBy 30 = .ok (.if_icmp .ge 44, 3) := by decide +kernel
theorem dX0_crossedBy_33 : decode cX0_crossedBy 33 = .ok (.aload_n 0, 1) := by decide +kernel
theorem dX0_crossedBy_34 : decode cX0_crossedBy 34 = .ok (.getfield 9, 3) := by decide +kernel
theorem dX0_crossedBy_37 : decode cX0_crossedBy 37 = .ok (.iload 4, 2) := by decide +kernel
theorem dX0_crossedBy_39 : decode cX0_crossedBy 39 = .ok (.iaload, 1) := by decide +kernel
theorem dX0_crossedBy_40 : decode cX0_crossedBy 40 = .ok (.aload_n 0, 1) := by decide +kernel
theorem dX0_crossedBy_41 : decode cX0_crossedBy 41 = .ok (.getfield 15, 3) := by decide +kernel
theorem dX0_crossedBy_44 : decode cX0_crossedBy 44 = .ok (.iload 4, 2) := by decide +kernel
theorem dX0_crossedBy_46 : decode cX0_crossedBy 46 = .ok (.iaload, 1) := by decide +kernel
theorem dX0_crossedBy_47 : decode cX0_crossedBy 47 = .ok (.aload_n 1, 1) := by decide +kernel
theorem dX0_crossedBy_48 : decode cX0_crossedBy 48 = .ok (.getfield 9, 3) := by decide +kernel
theorem dX0_crossedBy_51 : decode cX0_crossedBy 51 = .ok (.iload_n 2, 1) := by decide +kernel
theorem dX0_crossedBy_52 : decode cX0_crossedBy 52 = .ok (.iaload, 1) := by decide +kernel
theorem dX0_crossedBy_53 : decode cX0_crossedBy 53 = .ok (.aload_n 1, 1) := by decide +kernel
theorem dX0_crossedBy_54 : decode cX0_crossedBy 54 = .ok (.getfield 15, 3) := by decide +kernel
theorem dX0_crossedBy_57 : decode cX0_crossedBy 57 = .ok (.iload_n 2, 1) := by decide +kernel
theorem dX0_crossedBy_58 : decode cX0_crossedBy 58 = .ok (.iaload, 1) := by decide +kernel
theorem dX0_crossedBy_59 : decode cX0_crossedBy 59 = .ok (.invokestatic 105, 3) := by decide +kernel
theorem dX0_crossedBy_62 : decode cX0_crossedBy 62 = .ok (.ifCond .eq 6, 3) := by decide +kernel
theorem dX0_crossedBy_65 : decode cX0_crossedBy 65 = .ok (.iinc 3 1, 3) := by decide +kernel
theorem dX0_crossedBy_68 : decode cX0_crossedBy 68 = .ok (.iinc 4 1, 3) := by decide +kernel
theorem dX0_crossedBy_71 : decode cX0_crossedBy 71 = .ok (.goto (-47), 3) := by decide +kernel
theorem dX0_crossedBy_74 : decode cX0_crossedBy 74 = .ok (.iload_n 3, 1) := by decide +kernel
theorem dX0_crossedBy_75 : decode cX0_crossedBy 75 = .ok (.ireturn, 1) := by decide +kernel
set_option maxRecDepth 20000 in
set_option maxHeartbeats 4000000 in
theorem v_X0_crossedBy_L24 (l : Launch) (g : GG) {r : Int32} {σ : SS} {κ : Int32 → Option Int32} (hκ : ∀ (y3 : Int32) , κ y3 = some r → VV l g 2 RX0 cX0_crossedBy 5 (some .int) (some (.int r), σ) 74 [(3, .int y3)] [] σ) : ∀ (fu : Nat) (q0 : Nat) (q1 : Nat) (x2 : Int32) (x3 : Int32) (x4 : Int32) (hq0 : kd q0 = 0) (hq1 : kd q1 = 0), f_X0_crossedBy_L24 σ κ fu q0 q1 x2 x3 x4 = some r → VV l g 2 RX0 cX0_crossedBy 5 (some .int) (some (.int r), σ) 24 [(0, .ref (g.1 q0)), (1, .ref (g.1 q1)), (2, .int x2), (3, .int x3), (4, .int x4)] [] σ := by
  intro fu
  induction fu with
  | zero => intro q0 q1 x2 x3 x4 hq0 hq1 h; cases h
  | succ fu ih =>
    intro q0 q1 x2 x3 x4 hq0 hq1 h
    simp only [f_X0_crossedBy_L24] at h
    refine vr_iload (pc := 24) 4 dX0_crossedBy_24 rfl ?_
    refine vr_aload_n (pc := 26) 0 dX0_crossedBy_26 rfl rfl ?_
    refine vr_getI (pc := 27) 2 dX0_crossedBy_27 fi_X0_43 hq0 (sh_0_2 hq0) ?_
    refine vr_icmp_ge (pc := 30) 74 dX0_crossedBy_30 (by decide) (fun c3 => ?_) (fun c3 => ?_)
    · rw [if_pos c3] at h
      refine vr_sub [3] [(3, .int x3)] rfl ?_
      exact hκ x3 h
    · rw [if_neg c3] at h
      refine vr_aload_n (pc := 33) 0 dX0_crossedBy_33 rfl rfl ?_
      refine vr_getR (pc := 34) 5 dX0_crossedBy_34 fi_X0_9 hq0 (sh_0_5 hq0).1 ?_
      refine vr_iload (pc := 37) 4 dX0_crossedBy_37 rfl ?_
      obtain ⟨hc4, h⟩ := ck_some h
      refine vr_iald (pc := 39) dX0_crossedBy_39 (sh_0_5 hq0).2 hc4 ?_
      refine vr_aload_n (pc := 40) 0 dX0_crossedBy_40 rfl rfl ?_
      refine vr_getR (pc := 41) 6 dX0_crossedBy_41 fi_X0_15 hq0 (sh_0_6 hq0).1 ?_
      refine vr_iload (pc := 44) 4 dX0_crossedBy_44 rfl ?_
      obtain ⟨hc5, h⟩ := ck_some h
      refine vr_iald (pc := 46) dX0_crossedBy_46 (sh_0_6 hq0).2 hc5 ?_
      refine vr_aload_n (pc := 47) 1 dX0_crossedBy_47 rfl rfl ?_
      refine vr_getR (pc := 48) 5 dX0_crossedBy_48 fi_X0_9 hq1 (sh_0_5 hq1).1 ?_
      refine vr_iload_n (pc := 51) 2 dX0_crossedBy_51 rfl rfl ?_
      obtain ⟨hc6, h⟩ := ck_some h
      refine vr_iald (pc := 52) dX0_crossedBy_52 (sh_0_5 hq1).2 hc6 ?_
      refine vr_aload_n (pc := 53) 1 dX0_crossedBy_53 rfl rfl ?_
      refine vr_getR (pc := 54) 6 dX0_crossedBy_54 fi_X0_15 hq1 (sh_0_6 hq1).1 ?_
      refine vr_iload_n (pc := 57) 2 dX0_crossedBy_57 rfl rfl ?_
      obtain ⟨hc7, h⟩ := ck_some h
      refine vr_iald (pc := 58) dX0_crossedBy_58 (sh_0_6 hq1).2 hc7 ?_
      refine vr_callS (pc := 59) (ρ1 := (some (.int (f_X2_cross (σ.1 (rid q0 5) x4.toNatClampNeg) (σ.1 (rid q0 6) x4.toNatClampNeg) (σ.1 (rid q1 5) x2.toNatClampNeg) (σ.1 (rid q1 6) x2.toNatClampNeg))), σ)) [.int (σ.1 (rid q0 5) x4.toNatClampNeg), .int (σ.1 (rid q0 6) x4.toNatClampNeg), .int (σ.1 (rid q1 5) x2.toNatClampNeg), .int (σ.1 (rid q1 6) x2.toNatClampNeg)] dX0_crossedBy_59 (s_X2_cross l g rfl) cw_X2_cross ml_X0_105 (by decide) rfl rfl (Nat.le_of_ble_eq_true rfl) ?_
      refine vr_if_eq (pc := 62) 68 dX0_crossedBy_62 (by decide) (fun c8 => ?_) (fun c8 => ?_)
      · rw [if_pos c8] at h
        refine vr_iinc (pc := 68) [(4, .int (x4 + 1)), (0, .ref (g.1 q0)), (1, .ref (g.1 q1)), (2, .int x2), (3, .int x3)] 4 dX0_crossedBy_68 rfl (congrArg (fun z => x4 + z) ci_1) (by decide) rfl ?_
        refine vr_goto (pc := 71) 24 dX0_crossedBy_71 (by decide) ?_
        refine vr_sub [1, 2, 3, 4, 0] [(0, .ref (g.1 q0)), (1, .ref (g.1 q1)), (2, .int x2), (3, .int x3), (4, .int (x4 + 1))] rfl ?_
        exact ih q0 q1 x2 x3 (x4 + 1) (hq0) (hq1) h
      · rw [if_neg c8] at h
        refine vr_iinc (pc := 65) [(3, .int (x3 + 1)), (0, .ref (g.1 q0)), (1, .ref (g.1 q1)), (2, .int x2), (4, .int x4)] 3 dX0_crossedBy_65 rfl (congrArg (fun z => x3 + z) ci_1) (by decide) rfl ?_
        refine vr_iinc (pc := 68) [(4, .int (x4 + 1)), (3, .int (x3 + 1)), (0, .ref (g.1 q0)), (1, .ref (g.1 q1)), (2, .int x2)] 4 dX0_crossedBy_68 rfl (congrArg (fun z => x4 + z) ci_1) (by decide) rfl ?_
        refine vr_goto (pc := 71) 24 dX0_crossedBy_71 (by decide) ?_
        refine vr_sub [2, 3, 4, 1, 0] [(0, .ref (g.1 q0)), (1, .ref (g.1 q1)), (2, .int x2), (3, .int (x3 + 1)), (4, .int (x4 + 1))] rfl ?_
        exact ih q0 q1 x2 (x3 + 1) (x4 + 1) (hq0) (hq1) h
set_option maxRecDepth 20000 in
set_option maxHeartbeats 4000000 in
theorem s_X0_crossedBy (l : Launch) (g : GG) {q0 : Nat} (hq0 : kd q0 = 0) {q1 : Nat} (hq1 : kd q1 = 0) {a2 : Int32} {σ : SS} {r : Int32} (h : f_X0_crossedBy q0 q1 a2 σ = some r) : CT l g 2 yX0_crossedBy cX0_crossedBy 5 (some .int) [.ref (g.1 q0), .ref (g.1 q1), .int a2] σ (some (.int r), σ) := by
  refine CT.of (lv := [(0, .ref (g.1 q0)), (1, .ref (g.1 q1)), (2, .int a2)]) RX0 (by decide +kernel) rfl (Nat.le_of_ble_eq_true rfl) rfl ?_
  unfold f_X0_crossedBy at h
  refine vr_iconst (pc := 0) 0 dX0_crossedBy_0 ci_0 ?_
  refine vr_istore_n (pc := 1) [(3, .int 0), (0, .ref (g.1 q0)), (1, .ref (g.1 q1)), (2, .int a2)] dX0_crossedBy_1 rfl (by decide) rfl ?_
  refine vr_aload_n (pc := 2) 1 dX0_crossedBy_2 rfl rfl ?_
  refine vr_getI (pc := 3) 1 dX0_crossedBy_3 fi_X0_41 hq0 (sh_0_1 hq0) ?_
  refine vr_aload_n (pc := 6) 2 dX0_crossedBy_6 rfl rfl ?_
  refine vr_getI (pc := 7) 1 dX0_crossedBy_7 fi_X0_41 hq1 (sh_0_1 hq1) ?_
  refine vr_icmp_ne (pc := 10) 74 dX0_crossedBy_10 (by decide) (fun c1 => ?_) (fun c1 => ?_)
  · rw [if_neg c1] at h
    refine vr_iload_n (pc := 74) 0 dX0_crossedBy_74 rfl rfl ?_
    have h := Option.some.inj h; subst h
    exact vr_iret (pc := 75) .int dX0_crossedBy_75 rfl rfl rfl
  · rw [if_pos c1] at h
    refine vr_aload_n (pc := 13) 2 dX0_crossedBy_13 rfl rfl ?_
    refine vr_iload_n (pc := 14) 3 dX0_crossedBy_14 rfl rfl ?_
    refine vr_callV (pc := 15) (ρ1 := (some (.int (f_X0_hasArc q1 a2 σ)), σ)) [.int a2] dX0_crossedBy_15 (s_X0_hasArc l g (hq1) rfl) cw_X0_hasArc ml_X0_101 hq1 rfl (by decide) (by decide) rfl rfl (Nat.le_of_ble_eq_true rfl) ?_
    refine vr_if_eq (pc := 18) 74 dX0_crossedBy_18 (by decide) (fun c2 => ?_) (fun c2 => ?_)
    · rw [if_pos c2] at h
      refine vr_iload_n (pc := 74) 0 dX0_crossedBy_74 rfl rfl ?_
      have h := Option.some.inj h; subst h
      exact vr_iret (pc := 75) .int dX0_crossedBy_75 rfl rfl rfl
    · rw [if_neg c2] at h
      refine vr_iconst (pc := 21) 0 dX0_crossedBy_21 ci_0 ?_
      refine vr_istore (pc := 22) [(4, .int 0), (3, .int 0), (0, .ref (g.1 q0)), (1, .ref (g.1 q1)), (2, .int a2)] dX0_crossedBy_22 (by decide) rfl ?_
      refine vr_sub [2, 3, 4, 1, 0] [(0, .ref (g.1 q0)), (1, .ref (g.1 q1)), (2, .int a2), (3, .int 0), (4, .int 0)] rfl ?_
      refine v_X0_crossedBy_L24 l g (fun y3 h => ?_) FU q0 q1 a2 0 0 (hq0) (hq1) h
      refine vr_iload_n (pc := 74) 0 dX0_crossedBy_74 rfl rfl ?_
      have h := Option.some.inj h; subst h
      exact vr_iret (pc := 75) .int dX0_crossedBy_75 rfl rfl rfl
theorem dX0_crossingsWith_0 : decode cX0_crossingsWith 0 = .ok (.iconst 0, 1) := by decide +kernel
theorem dX0_crossingsWith_1 : decode cX0_crossingsWith 1 = .ok (.istore_n 2, 1) := by decide +kernel
theorem dX0_crossingsWith_2 : decode cX0_crossingsWith 2 = .ok (.iconst 0, 1) := by decide +kernel
theorem dX0_crossingsWith_3 : decode cX0_crossingsWith 3 = .ok (.istore_n 3, 1) := by decide +kernel
theorem dX0_crossingsWith_4 : decode cX0_crossingsWith 4 = .ok (.iload_n 3, 1) := by decide +kernel
theorem dX0_crossingsWith_5 : decode cX0_crossingsWith 5 = .ok (.aload_n 1, 1) := by decide +kernel
theorem dX0_crossingsWith_6 : decode cX0_crossingsWith 6 = .ok (.getfield 43, 3) := by decide +kernel
theorem dX0_crossingsWith_9 : decode cX0_crossingsWith 9 = .ok (.if_icmp .ge 18, 3) := by decide +kernel
theorem dX0_crossingsWith_12 : decode cX0_crossingsWith 12 = .ok (.iload_n 2, 1) := by decide +kernel
theorem dX0_crossingsWith_13 : decode cX0_crossingsWith 13 = .ok (.aload_n 0, 1) := by decide +kernel
theorem dX0_crossingsWith_14 : decode cX0_crossingsWith 14 = .ok (.aload_n 1, 1) := by decide +kernel
theorem dX0_crossingsWith_15 : decode cX0_crossingsWith 15 = .ok (.iload_n 3, 1) := by decide +kernel
theorem dX0_crossingsWith_16 : decode cX0_crossingsWith 16 = .ok (.invokevirtual 109, 3) := by decide +kernel
theorem dX0_crossingsWith_19 : decode cX0_crossingsWith 19 = .ok (.iadd, 1) := by decide +kernel
theorem dX0_crossingsWith_20 : decode cX0_crossingsWith 20 = .ok (.istore_n 2, 1) := by decide +kernel
theorem dX0_crossingsWith_21 : decode cX0_crossingsWith 21 = .ok (.iinc 3 1, 3) := by decide +kernel
theorem dX0_crossingsWith_24 : decode cX0_crossingsWith 24 = .ok (.goto (-20), 3) := by decide +kernel
theorem dX0_crossingsWith_27 : decode cX0_crossingsWith 27 = .ok (.iload_n 2, 1) := by decide +kernel
theorem dX0_crossingsWith_28 : decode cX0_crossingsWith 28 = .ok (.ireturn, 1) := by decide +kernel
set_option maxRecDepth 20000 in
set_option maxHeartbeats 4000000 in
theorem v_X0_crossingsWith_L4 (l : Launch) (g : GG) {r : Int32} {σ : SS} {κ : Int32 → Option Int32} (hκ : ∀ (y2 : Int32) , κ y2 = some r → VV l g 3 RX0 cX0_crossingsWith 4 (some .int) (some (.int r), σ) 27 [(2, .int y2)] [] σ) : ∀ (fu : Nat) (q0 : Nat) (q1 : Nat) (x2 : Int32) (x3 : Int32) (hq0 : kd q0 = 0) (hq1 : kd q1 = 0), f_X0_crossingsWith_L4 σ κ fu q0 q1 x2 x3 = some r → VV l g 3 RX0 cX0_crossingsWith 4 (some .int) (some (.int r), σ) 4 [(0, .ref (g.1 q0)), (1, .ref (g.1 q1)), (2, .int x2), (3, .int x3)] [] σ := by
  intro fu
  induction fu with
  | zero => intro q0 q1 x2 x3 hq0 hq1 h; cases h
  | succ fu ih =>
    intro q0 q1 x2 x3 hq0 hq1 h
    simp only [f_X0_crossingsWith_L4] at h
    refine vr_iload_n (pc := 4) 3 dX0_crossingsWith_4 rfl rfl ?_
    refine vr_aload_n (pc := 5) 1 dX0_crossingsWith_5 rfl rfl ?_
    refine vr_getI (pc := 6) 2 dX0_crossingsWith_6 fi_X0_43 hq1 (sh_0_2 hq1) ?_
    refine vr_icmp_ge (pc := 9) 27 dX0_crossingsWith_9 (by decide) (fun c1 => ?_) (fun c1 => ?_)
    · rw [if_pos c1] at h
      refine vr_sub [2] [(2, .int x2)] rfl ?_
      exact hκ x2 h
    · rw [if_neg c1] at h
      refine vr_iload_n (pc := 12) 2 dX0_crossingsWith_12 rfl rfl ?_
      refine vr_aload_n (pc := 13) 0 dX0_crossingsWith_13 rfl rfl ?_
      refine vr_aload_n (pc := 14) 1 dX0_crossingsWith_14 rfl rfl ?_
      refine vr_iload_n (pc := 15) 3 dX0_crossingsWith_15 rfl rfl ?_
      obtain ⟨z2, hz3, h⟩ := ob_some h
      refine vr_callV (pc := 16) (ρ1 := (some (.int z2), σ)) [.ref (g.1 q1), .int x3] dX0_crossingsWith_16 (s_X0_crossedBy l g (hq0) (hq1) hz3) cw_X0_crossedBy ml_X0_109 hq0 rfl (by decide) (by decide) rfl rfl (Nat.le_of_ble_eq_true rfl) ?_
      refine vr_iadd (pc := 19) dX0_crossingsWith_19 ?_
      refine vr_istore_n (pc := 20) [(2, .int (x2 + z2)), (0, .ref (g.1 q0)), (1, .ref (g.1 q1)), (3, .int x3)] dX0_crossingsWith_20 rfl (by decide) rfl ?_
      refine vr_iinc (pc := 21) [(3, .int (x3 + 1)), (2, .int (x2 + z2)), (0, .ref (g.1 q0)), (1, .ref (g.1 q1))] 3 dX0_crossingsWith_21 rfl (congrArg (fun z => x3 + z) ci_1) (by decide) rfl ?_
      refine vr_goto (pc := 24) 4 dX0_crossingsWith_24 (by decide) ?_
      refine vr_sub [2, 3, 1, 0] [(0, .ref (g.1 q0)), (1, .ref (g.1 q1)), (2, .int (x2 + z2)), (3, .int (x3 + 1))] rfl ?_
      exact ih q0 q1 (x2 + z2) (x3 + 1) (hq0) (hq1) h
set_option maxRecDepth 20000 in
set_option maxHeartbeats 4000000 in
theorem s_X0_crossingsWith (l : Launch) (g : GG) {q0 : Nat} (hq0 : kd q0 = 0) {q1 : Nat} (hq1 : kd q1 = 0) {σ : SS} {r : Int32} (h : f_X0_crossingsWith q0 q1 σ = some r) : CT l g 3 yX0_crossingsWith cX0_crossingsWith 4 (some .int) [.ref (g.1 q0), .ref (g.1 q1)] σ (some (.int r), σ) := by
  refine CT.of (lv := [(0, .ref (g.1 q0)), (1, .ref (g.1 q1))]) RX0 (by decide +kernel) rfl (Nat.le_of_ble_eq_true rfl) rfl ?_
  unfold f_X0_crossingsWith at h
  refine vr_iconst (pc := 0) 0 dX0_crossingsWith_0 ci_0 ?_
  refine vr_istore_n (pc := 1) [(2, .int 0), (0, .ref (g.1 q0)), (1, .ref (g.1 q1))] dX0_crossingsWith_1 rfl (by decide) rfl ?_
  refine vr_iconst (pc := 2) 0 dX0_crossingsWith_2 ci_0 ?_
  refine vr_istore_n (pc := 3) [(3, .int 0), (2, .int 0), (0, .ref (g.1 q0)), (1, .ref (g.1 q1))] dX0_crossingsWith_3 rfl (by decide) rfl ?_
  refine vr_sub [2, 3, 1, 0] [(0, .ref (g.1 q0)), (1, .ref (g.1 q1)), (2, .int 0), (3, .int 0)] rfl ?_
  refine v_X0_crossingsWith_L4 l g (fun y2 h => ?_) FU q0 q1 0 0 (hq0) (hq1) h
  refine vr_iload_n (pc := 27) 0 dX0_crossingsWith_27 rfl rfl ?_
  have h := Option.some.inj h; subst h
  exact vr_iret (pc := 28) .int dX0_crossingsWith_28 rfl rfl rfl
theorem dX0_crossings_0 : decode cX0_crossings 0 = .ok (.aload_n 0, 1) := by decide +kernel
theorem dX0_crossings_1 : decode cX0_crossings 1 = .ok (.aload_n 0, 1) := by decide +kernel
theorem dX0_crossings_2 : decode cX0_crossings 2 = .ok (.invokevirtual 113, 3) := by decide +kernel
theorem dX0_crossings_5 : decode cX0_crossings 5 = .ok (.iconst 2, 1) := by decide +kernel
theorem dX0_crossings_6 : decode cX0_crossings 6 = .ok (.idiv, 1) := by decide +kernel
theorem dX0_crossings_7 : decode cX0_crossings 7 = .ok (.ireturn, 1) := by decide +kernel
set_option maxRecDepth 20000 in
set_option maxHeartbeats 4000000 in
theorem s_X0_crossings (l : Launch) (g : GG) {q0 : Nat} (hq0 : kd q0 = 0) {σ : SS} {r : Int32} (h : f_X0_crossings q0 σ = some r) : CT l g 4 yX0_crossings cX0_crossings 1 (some .int) [.ref (g.1 q0)] σ (some (.int r), σ) := by
  refine CT.of (lv := [(0, .ref (g.1 q0))]) RX0 (by decide +kernel) rfl (Nat.le_of_ble_eq_true rfl) rfl ?_
  unfold f_X0_crossings at h
  refine vr_aload_n (pc := 0) 0 dX0_crossings_0 rfl rfl ?_
  refine vr_aload_n (pc := 1) 0 dX0_crossings_1 rfl rfl ?_
  obtain ⟨z1, hz2, h⟩ := ob_some h
  refine vr_callV (pc := 2) (ρ1 := (some (.int z1), σ)) [.ref (g.1 q0)] dX0_crossings_2 (s_X0_crossingsWith l g (hq0) (hq0) hz2) cw_X0_crossingsWith ml_X0_113 hq0 rfl (by decide) (by decide) rfl rfl (Nat.le_of_ble_eq_true rfl) ?_
  refine vr_iconst (pc := 5) 2 dX0_crossings_5 ci_2 ?_
  refine vr_idiv (pc := 6) dX0_crossings_6 (by decide) ?_
  have h := Option.some.inj h; subst h
  exact vr_iret (pc := 7) .int dX0_crossings_7 rfl rfl rfl
theorem dX0_crossingsOfInner_0 : decode cX0_crossingsOfInner 0 = .ok (.aload_n 0, 1) := by decide +kernel
theorem dX0_crossingsOfInner_1 : decode cX0_crossingsOfInner 1 = .ok (.getfield 43, 3) := by decide +kernel
theorem dX0_crossingsOfInner_4 : decode cX0_crossingsOfInner 4 = .ok (.aload_n 0, 1) := by decide +kernel
theorem dX0_crossingsOfInner_5 : decode cX0_crossingsOfInner 5 = .ok (.aload_n 0, 1) := by decide +kernel
theorem dX0_crossingsOfInner_6 : decode cX0_crossingsOfInner 6 = .ok (.iconst 0, 1) := by decide +kernel
theorem dX0_crossingsOfInner_7 : decode cX0_crossingsOfInner 7 = .ok (.invokevirtual 109, 3) := by decide +kernel
theorem dX0_crossingsOfInner_10 : decode cX0_crossingsOfInner 10 = .ok (.imul, 1) := by decide +kernel
theorem dX0_crossingsOfInner_11 : decode cX0_crossingsOfInner 11 = .ok (.iconst 2, 1) := by decide +kernel
theorem dX0_crossingsOfInner_12 : decode cX0_crossingsOfInner 12 = .ok (.idiv, 1) := by decide +kernel
theorem dX0_crossingsOfInner_13 : decode cX0_crossingsOfInner 13 = .ok (.ireturn, 1) := by decide +kernel
set_option maxRecDepth 20000 in
set_option maxHeartbeats 4000000 in
theorem s_X0_crossingsOfInner (l : Launch) (g : GG) {q0 : Nat} (hq0 : kd q0 = 0) {σ : SS} {r : Int32} (h : f_X0_crossingsOfInner q0 σ = some r) : CT l g 3 yX0_crossingsOfInner cX0_crossingsOfInner 1 (some .int) [.ref (g.1 q0)] σ (some (.int r), σ) := by
  refine CT.of (lv := [(0, .ref (g.1 q0))]) RX0 (by decide +kernel) rfl (Nat.le_of_ble_eq_true rfl) rfl ?_
  unfold f_X0_crossingsOfInner at h
  refine vr_aload_n (pc := 0) 0 dX0_crossingsOfInner_0 rfl rfl ?_
  refine vr_getI (pc := 1) 2 dX0_crossingsOfInner_1 fi_X0_43 hq0 (sh_0_2 hq0) ?_
  refine vr_aload_n (pc := 4) 0 dX0_crossingsOfInner_4 rfl rfl ?_
  refine vr_aload_n (pc := 5) 0 dX0_crossingsOfInner_5 rfl rfl ?_
  refine vr_iconst (pc := 6) 0 dX0_crossingsOfInner_6 ci_0 ?_
  obtain ⟨z1, hz2, h⟩ := ob_some h
  refine vr_callV (pc := 7) (ρ1 := (some (.int z1), σ)) [.ref (g.1 q0), .int 0] dX0_crossingsOfInner_7 (s_X0_crossedBy l g (hq0) (hq0) hz2) cw_X0_crossedBy ml_X0_109 hq0 rfl (by decide) (by decide) rfl rfl (Nat.le_of_ble_eq_true rfl) ?_
  refine vr_imul (pc := 10) dX0_crossingsOfInner_10 ?_
  refine vr_iconst (pc := 11) 2 dX0_crossingsOfInner_11 ci_2 ?_
  refine vr_idiv (pc := 12) dX0_crossingsOfInner_12 (by decide) ?_
  have h := Option.some.inj h; subst h
  exact vr_iret (pc := 13) .int dX0_crossingsOfInner_13 rfl rfl rfl
theorem dX0_mostCrossing_0 : decode cX0_mostCrossing 0 = .ok (.iconst 0, 1) := by decide +kernel
theorem dX0_mostCrossing_1 : decode cX0_mostCrossing 1 = .ok (.istore_n 1, 1) := by decide +kernel
theorem dX0_mostCrossing_2 : decode cX0_mostCrossing 2 = .ok (.aload_n 0, 1) := by decide +kernel
theorem dX0_mostCrossing_3 : decode cX0_mostCrossing 3 = .ok (.aload_n 0, 1) := by decide +kernel
theorem dX0_mostCrossing_4 : decode cX0_mostCrossing 4 = .ok (.iconst 0, 1) := by decide +kernel
theorem dX0_mostCrossing_5 : decode cX0_mostCrossing 5 = .ok (.invokevirtual 109, 3) := by decide +kernel
theorem dX0_mostCrossing_8 : decode cX0_mostCrossing 8 = .ok (.istore_n 2, 1) := by decide +kernel
theorem dX0_mostCrossing_9 : decode cX0_mostCrossing 9 = .ok (.iconst 1, 1) := by decide +kernel
theorem dX0_mostCrossing_10 : decode cX0_mostCrossing 10 = .ok (.istore_n 3, 1) := by decide +kernel
theorem dX0_mostCrossing_11 : decode cX0_mostCrossing 11 = .ok (.iload_n 3, 1) := by decide +kernel
theorem dX0_mostCrossing_12 : decode cX0_mostCrossing 12 = .ok (.aload_n 0, 1) := by decide +kernel
theorem dX0_mostCrossing_13 : decode cX0_mostCrossing 13 = .ok (.getfield 43, 3) := by decide +kernel
theorem dX0_mostCrossing_16 : decode cX0_mostCrossing 16 = .ok (.if_icmp .ge 28, 3) := by decide +kernel
theorem dX0_mostCrossing_19 : decode cX0_mostCrossing 19 = .ok (.aload_n 0, 1) := by decide +kernel
theorem dX0_mostCrossing_20 : decode cX0_mostCrossing 20 = .ok (.aload_n 0, 1) := by decide +kernel
theorem dX0_mostCrossing_21 : decode cX0_mostCrossing 21 = .ok (.iload_n 3, 1) := by decide +kernel
theorem dX0_mostCrossing_22 : decode cX0_mostCrossing 22 = .ok (.invokevirtual 109, 3) := by decide +kernel
theorem dX0_mostCrossing_25 : decode cX0_mostCrossing 25 = .ok (.istore 4, 2) := by decide +kernel
theorem dX0_mostCrossing_27 : decode cX0_mostCrossing 27 = .ok (.iload 4, 2) := by decide +kernel
theorem dX0_mostCrossing_29 : decode cX0_mostCrossing 29 = .ok (.iload_n 2, 1) := by decide +kernel
theorem dX0_mostCrossing_30 : decode cX0_mostCrossing 30 = .ok (.if_icmp .le 8, 3) := by decide +kernel
theorem dX0_mostCrossing_33 : decode cX0_mostCrossing 33 = .ok (.iload_n 3, 1) := by decide +kernel
theorem dX0_mostCrossing_34 : decode cX0_mostCrossing 34 = .ok (.istore_n 1, 1) := by decide +kernel
theorem dX0_mostCrossing_35 : decode cX0_mostCrossing 35 = .ok (.iload 4, 2) := by decide +kernel
theorem dX0_mostCrossing_37 : decode cX0_mostCrossing 37 = .ok (.istore_n 2, 1) := by decide +kernel
theorem dX0_mostCrossing_38 : decode cX0_mostCrossing 38 = .ok (.iinc 3 1, 3) := by decide +kernel
theorem dX0_mostCrossing_41 : decode cX0_mostCrossing 41 = .ok (.goto (-30), 3) := by decide +kernel
theorem dX0_mostCrossing_44 : decode cX0_mostCrossing 44 = .ok (.iload_n 1, 1) := by decide +kernel
theorem dX0_mostCrossing_45 : decode cX0_mostCrossing 45 = .ok (.ireturn, 1) := by decide +kernel
set_option maxRecDepth 20000 in
set_option maxHeartbeats 4000000 in
theorem v_X0_mostCrossing_L11 (l : Launch) (g : GG) {r : Int32} {σ : SS} {κ : Int32 → Option Int32} (hκ : ∀ (y1 : Int32) , κ y1 = some r → VV l g 3 RX0 cX0_mostCrossing 5 (some .int) (some (.int r), σ) 44 [(1, .int y1)] [] σ) : ∀ (fu : Nat) (q0 : Nat) (x1 : Int32) (x2 : Int32) (x3 : Int32) (hq0 : kd q0 = 0), f_X0_mostCrossing_L11 σ κ fu q0 x1 x2 x3 = some r → VV l g 3 RX0 cX0_mostCrossing 5 (some .int) (some (.int r), σ) 11 [(0, .ref (g.1 q0)), (1, .int x1), (2, .int x2), (3, .int x3)] [] σ := by
  intro fu
  induction fu with
  | zero => intro q0 x1 x2 x3 hq0 h; cases h
  | succ fu ih =>
    intro q0 x1 x2 x3 hq0 h
    simp only [f_X0_mostCrossing_L11] at h
    refine vr_iload_n (pc := 11) 3 dX0_mostCrossing_11 rfl rfl ?_
    refine vr_aload_n (pc := 12) 0 dX0_mostCrossing_12 rfl rfl ?_
    refine vr_getI (pc := 13) 2 dX0_mostCrossing_13 fi_X0_43 hq0 (sh_0_2 hq0) ?_
    refine vr_icmp_ge (pc := 16) 44 dX0_mostCrossing_16 (by decide) (fun c3 => ?_) (fun c3 => ?_)
    · rw [if_pos c3] at h
      refine vr_sub [1] [(1, .int x1)] rfl ?_
      exact hκ x1 h
    · rw [if_neg c3] at h
      refine vr_aload_n (pc := 19) 0 dX0_mostCrossing_19 rfl rfl ?_
      refine vr_aload_n (pc := 20) 0 dX0_mostCrossing_20 rfl rfl ?_
      refine vr_iload_n (pc := 21) 3 dX0_mostCrossing_21 rfl rfl ?_
      obtain ⟨z4, hz5, h⟩ := ob_some h
      refine vr_callV (pc := 22) (ρ1 := (some (.int z4), σ)) [.ref (g.1 q0), .int x3] dX0_mostCrossing_22 (s_X0_crossedBy l g (hq0) (hq0) hz5) cw_X0_crossedBy ml_X0_109 hq0 rfl (by decide) (by decide) rfl rfl (Nat.le_of_ble_eq_true rfl) ?_
      refine vr_istore (pc := 25) [(4, .int z4), (0, .ref (g.1 q0)), (1, .int x1), (2, .int x2), (3, .int x3)] dX0_mostCrossing_25 (by decide) rfl ?_
      refine vr_iload (pc := 27) 0 dX0_mostCrossing_27 rfl ?_
      refine vr_iload_n (pc := 29) 3 dX0_mostCrossing_29 rfl rfl ?_
      refine vr_icmp_le (pc := 30) 38 dX0_mostCrossing_30 (by decide) (fun c6 => ?_) (fun c6 => ?_)
      · rw [if_pos c6] at h
        refine vr_iinc (pc := 38) [(3, .int (x3 + 1)), (4, .int z4), (0, .ref (g.1 q0)), (1, .int x1), (2, .int x2)] 4 dX0_mostCrossing_38 rfl (congrArg (fun z => x3 + z) ci_1) (by decide) rfl ?_
        refine vr_goto (pc := 41) 11 dX0_mostCrossing_41 (by decide) ?_
        refine vr_sub [2, 3, 4, 0] [(0, .ref (g.1 q0)), (1, .int x1), (2, .int x2), (3, .int (x3 + 1))] rfl ?_
        exact ih q0 x1 x2 (x3 + 1) (hq0) h
      · rw [if_neg c6] at h
        refine vr_iload_n (pc := 33) 4 dX0_mostCrossing_33 rfl rfl ?_
        refine vr_istore_n (pc := 34) [(1, .int x3), (4, .int z4), (0, .ref (g.1 q0)), (2, .int x2), (3, .int x3)] dX0_mostCrossing_34 rfl (by decide) rfl ?_
        refine vr_iload (pc := 35) 1 dX0_mostCrossing_35 rfl ?_
        refine vr_istore_n (pc := 37) [(2, .int z4), (1, .int x3), (4, .int z4), (0, .ref (g.1 q0)), (3, .int x3)] dX0_mostCrossing_37 rfl (by decide) rfl ?_
        refine vr_iinc (pc := 38) [(3, .int (x3 + 1)), (2, .int z4), (1, .int x3), (4, .int z4), (0, .ref (g.1 q0))] 4 dX0_mostCrossing_38 rfl (congrArg (fun z => x3 + z) ci_1) (by decide) rfl ?_
        refine vr_goto (pc := 41) 11 dX0_mostCrossing_41 (by decide) ?_
        refine vr_sub [4, 2, 1, 0] [(0, .ref (g.1 q0)), (1, .int x3), (2, .int z4), (3, .int (x3 + 1))] rfl ?_
        exact ih q0 x3 z4 (x3 + 1) (hq0) h
set_option maxRecDepth 20000 in
set_option maxHeartbeats 4000000 in
theorem s_X0_mostCrossing (l : Launch) (g : GG) {q0 : Nat} (hq0 : kd q0 = 0) {σ : SS} {r : Int32} (h : f_X0_mostCrossing q0 σ = some r) : CT l g 3 yX0_mostCrossing cX0_mostCrossing 5 (some .int) [.ref (g.1 q0)] σ (some (.int r), σ) := by
  refine CT.of (lv := [(0, .ref (g.1 q0))]) RX0 (by decide +kernel) rfl (Nat.le_of_ble_eq_true rfl) rfl ?_
  unfold f_X0_mostCrossing at h
  refine vr_iconst (pc := 0) 0 dX0_mostCrossing_0 ci_0 ?_
  refine vr_istore_n (pc := 1) [(1, .int 0), (0, .ref (g.1 q0))] dX0_mostCrossing_1 rfl (by decide) rfl ?_
  refine vr_aload_n (pc := 2) 1 dX0_mostCrossing_2 rfl rfl ?_
  refine vr_aload_n (pc := 3) 1 dX0_mostCrossing_3 rfl rfl ?_
  refine vr_iconst (pc := 4) 0 dX0_mostCrossing_4 ci_0 ?_
  obtain ⟨z1, hz2, h⟩ := ob_some h
  refine vr_callV (pc := 5) (ρ1 := (some (.int z1), σ)) [.ref (g.1 q0), .int 0] dX0_mostCrossing_5 (s_X0_crossedBy l g (hq0) (hq0) hz2) cw_X0_crossedBy ml_X0_109 hq0 rfl (by decide) (by decide) rfl rfl (Nat.le_of_ble_eq_true rfl) ?_
  refine vr_istore_n (pc := 8) [(2, .int z1), (1, .int 0), (0, .ref (g.1 q0))] dX0_mostCrossing_8 rfl (by decide) rfl ?_
  refine vr_iconst (pc := 9) 1 dX0_mostCrossing_9 ci_1 ?_
  refine vr_istore_n (pc := 10) [(3, .int 1), (2, .int z1), (1, .int 0), (0, .ref (g.1 q0))] dX0_mostCrossing_10 rfl (by decide) rfl ?_
  refine vr_sub [3, 2, 1, 0] [(0, .ref (g.1 q0)), (1, .int 0), (2, .int z1), (3, .int 1)] rfl ?_
  refine v_X0_mostCrossing_L11 l g (fun y1 h => ?_) FU q0 0 z1 1 (hq0) h
  refine vr_iload_n (pc := 44) 0 dX0_mostCrossing_44 rfl rfl ?_
  have h := Option.some.inj h; subst h
  exact vr_iret (pc := 45) .int dX0_mostCrossing_45 rfl rfl rfl
theorem dX0_isShiftOnto_0 : decode cX0_isShiftOnto 0 = .ok (.iconst 0, 1) := by decide +kernel
theorem dX0_isShiftOnto_1 : decode cX0_isShiftOnto 1 = .ok (.istore 4, 2) := by decide +kernel
theorem dX0_isShiftOnto_3 : decode cX0_isShiftOnto 3 = .ok (.iload 4, 2) := by decide +kernel
theorem dX0_isShiftOnto_5 : decode cX0_isShiftOnto 5 = .ok (.aload_n 0, 1) := by decide +kernel
theorem dX0_isShiftOnto_6 : decode cX0_isShiftOnto 6 = .ok (.getfield 43, 3) := by decide +kernel
theorem dX0_isShiftOnto_9 : decode cX0_isShiftOnto 9 = .ok (.if_icmp .ge 62, 3) := by decide +kernel
theorem dX0_isShiftOnto_12 : decode cX0_isShiftOnto 12 = .ok (.iload_n 3, 1) := by decide +kernel
theorem dX0_isShiftOnto_13 : decode cX0_isShiftOnto 13 = .ok (.iload_n 2, 1) := by decide +kernel
theorem dX0_isShiftOnto_14 : decode cX0_isShiftOnto 14 = .ok (.aload_n 0, 1) := by decide +kernel
theorem dX0_isShiftOnto_15 : decode cX0_isShiftOnto 15 = .ok (.getfield 9, 3) := by decide +kernel
theorem dX0_isShiftOnto_18 : decode cX0_isShiftOnto 18 = .ok (.iload 4, 2) := by decide +kernel
theorem dX0_isShiftOnto_20 : decode cX0_isShiftOnto 20 = .ok (.iaload, 1) := by decide +kernel
theorem dX0_isShiftOnto_21 : decode cX0_isShiftOnto 21 = .ok (.imul, 1) := by decide +kernel
theorem dX0_isShiftOnto_22 : decode cX0_isShiftOnto 22 = .ok (.iadd, 1) := by decide +kernel
theorem dX0_isShiftOnto_23 : decode cX0_isShiftOnto 23 = .ok (.aload_n 0, 1) := by decide +kernel
theorem dX0_isShiftOnto_24 : decode cX0_isShiftOnto 24 = .ok (.getfield 34, 3) := by decide +kernel
theorem dX0_isShiftOnto_27 : decode cX0_isShiftOnto 27 = .ok (.invokestatic 89, 3) := by decide +kernel
theorem dX0_isShiftOnto_30 : decode cX0_isShiftOnto 30 = .ok (.istore 5, 2) := by decide +kernel
theorem dX0_isShiftOnto_32 : decode cX0_isShiftOnto 32 = .ok (.iload_n 3, 1) := by decide +kernel
theorem dX0_isShiftOnto_33 : decode cX0_isShiftOnto 33 = .ok (.iload_n 2, 1) := by decide +kernel
theorem dX0_isShiftOnto_34 : decode cX0_isShiftOnto 34 = .ok (.aload_n 0, 1) := by decide +kernel
theorem dX0_isShiftOnto_35 : decode cX0_isShiftOnto 35 = .ok (.getfield 15, 3) := by decide +kernel
theorem dX0_isShiftOnto_38 : decode cX0_isShiftOnto 38 = .ok (.iload 4, 2) := by decide +kernel
theorem dX0_isShiftOnto_40 : decode cX0_isShiftOnto 40 = .ok (.iaload, 1) := by decide +kernel
theorem dX0_isShiftOnto_41 : decode cX0_isShiftOnto 41 = .ok (.imul, 1) := by decide +kernel
theorem dX0_isShiftOnto_42 : decode cX0_isShiftOnto 42 = .ok (.iadd, 1) := by decide +kernel
theorem dX0_isShiftOnto_43 : decode cX0_isShiftOnto 43 = .ok (.aload_n 0, 1) := by decide +kernel
theorem dX0_isShiftOnto_44 : decode cX0_isShiftOnto 44 = .ok (.getfield 34, 3) := by decide +kernel
theorem dX0_isShiftOnto_47 : decode cX0_isShiftOnto 47 = .ok (.invokestatic 89, 3) := by decide +kernel
theorem dX0_isShiftOnto_50 : decode cX0_isShiftOnto 50 = .ok (.istore 6, 2) := by decide +kernel
theorem dX0_isShiftOnto_52 : decode cX0_isShiftOnto 52 = .ok (.aload_n 1, 1) := by decide +kernel
theorem dX0_isShiftOnto_53 : decode cX0_isShiftOnto 53 = .ok (.iload 5, 2) := by decide +kernel
theorem dX0_isShiftOnto_55 : decode cX0_isShiftOnto 55 = .ok (.iload 6, 2) := by decide +kernel
theorem dX0_isShiftOnto_57 : decode cX0_isShiftOnto 57 = .ok (.invokevirtual 76, 3) := by decide +kernel
theorem dX0_isShiftOnto_60 : decode cX0_isShiftOnto 60 = .ok (.ifCond .ne 5, 3) := by decide +kernel
theorem dX0_isShiftOnto_63 : decode cX0_isShiftOnto 63 = .ok (.iconst 0, 1) := by decide +kernel
theorem dX0_isShiftOnto_64 : decode cX0_isShiftOnto 64 = .ok (.ireturn, 1) := by decide +kernel
theorem dX0_isShiftOnto_65 : decode cX0_isShiftOnto 65 = .ok (.iinc 4 1, 3) := by decide +kernel
theorem dX0_isShiftOnto_68 : decode cX0_isShiftOnto 68 = .ok (.goto (-65), 3) := by decide +kernel
theorem dX0_isShiftOnto_71 : decode cX0_isShiftOnto 71 = .ok (.iconst 1, 1) := by decide +kernel
theorem dX0_isShiftOnto_72 : decode cX0_isShiftOnto 72 = .ok (.ireturn, 1) := by decide +kernel
set_option maxRecDepth 20000 in
set_option maxHeartbeats 4000000 in
theorem v_X0_isShiftOnto_L3 (l : Launch) (g : GG) {r : Int32} {σ : SS} {κ : Unit → Option Int32} (hκ : κ () = some r → VV l g 2 RX0 cX0_isShiftOnto 7 (some .boolean) (some (.int r), σ) 71 [] [] σ) : ∀ (fu : Nat) (q0 : Nat) (q1 : Nat) (x2 : Int32) (x3 : Int32) (x4 : Int32) (hq0 : kd q0 = 0) (hq1 : kd q1 = 0), f_X0_isShiftOnto_L3 σ κ fu q0 q1 x2 x3 x4 = some r → VV l g 2 RX0 cX0_isShiftOnto 7 (some .boolean) (some (.int r), σ) 3 [(0, .ref (g.1 q0)), (1, .ref (g.1 q1)), (2, .int x2), (3, .int x3), (4, .int x4)] [] σ := by
  intro fu
  induction fu with
  | zero => intro q0 q1 x2 x3 x4 hq0 hq1 h; cases h
  | succ fu ih =>
    intro q0 q1 x2 x3 x4 hq0 hq1 h
    simp only [f_X0_isShiftOnto_L3] at h
    refine vr_iload (pc := 3) 4 dX0_isShiftOnto_3 rfl ?_
    refine vr_aload_n (pc := 5) 0 dX0_isShiftOnto_5 rfl rfl ?_
    refine vr_getI (pc := 6) 2 dX0_isShiftOnto_6 fi_X0_43 hq0 (sh_0_2 hq0) ?_
    refine vr_icmp_ge (pc := 9) 71 dX0_isShiftOnto_9 (by decide) (fun c1 => ?_) (fun c1 => ?_)
    · rw [if_pos c1] at h
      refine vr_sub [] [] rfl ?_
      exact hκ h
    · rw [if_neg c1] at h
      refine vr_iload_n (pc := 12) 3 dX0_isShiftOnto_12 rfl rfl ?_
      refine vr_iload_n (pc := 13) 2 dX0_isShiftOnto_13 rfl rfl ?_
      refine vr_aload_n (pc := 14) 0 dX0_isShiftOnto_14 rfl rfl ?_
      refine vr_getR (pc := 15) 5 dX0_isShiftOnto_15 fi_X0_9 hq0 (sh_0_5 hq0).1 ?_
      refine vr_iload (pc := 18) 4 dX0_isShiftOnto_18 rfl ?_
      obtain ⟨hc2, h⟩ := ck_some h
      refine vr_iald (pc := 20) dX0_isShiftOnto_20 (sh_0_5 hq0).2 hc2 ?_
      refine vr_imul (pc := 21) dX0_isShiftOnto_21 ?_
      refine vr_iadd (pc := 22) dX0_isShiftOnto_22 ?_
      refine vr_aload_n (pc := 23) 0 dX0_isShiftOnto_23 rfl rfl ?_
      refine vr_getI (pc := 24) 0 dX0_isShiftOnto_24 fi_X0_34 hq0 (sh_0_0 hq0) ?_
      refine vr_callS (pc := 27) (ρ1 := (some (.int (f_X2_modulo (x3 + (x2 * (σ.1 (rid q0 5) x4.toNatClampNeg))) (σ.1 q0 0))), σ)) [.int (x3 + (x2 * (σ.1 (rid q0 5) x4.toNatClampNeg))), .int (σ.1 q0 0)] dX0_isShiftOnto_27 (s_X2_modulo l g rfl) cw_X2_modulo ml_X0_89 (by decide) rfl rfl (Nat.le_of_ble_eq_true rfl) ?_
      refine vr_istore (pc := 30) [(5, .int (f_X2_modulo (x3 + (x2 * (σ.1 (rid q0 5) x4.toNatClampNeg))) (σ.1 q0 0))), (0, .ref (g.1 q0)), (1, .ref (g.1 q1)), (2, .int x2), (3, .int x3), (4, .int x4)] dX0_isShiftOnto_30 (by decide) rfl ?_
      refine vr_iload_n (pc := 32) 4 dX0_isShiftOnto_32 rfl rfl ?_
      refine vr_iload_n (pc := 33) 3 dX0_isShiftOnto_33 rfl rfl ?_
      refine vr_aload_n (pc := 34) 1 dX0_isShiftOnto_34 rfl rfl ?_
      refine vr_getR (pc := 35) 6 dX0_isShiftOnto_35 fi_X0_15 hq0 (sh_0_6 hq0).1 ?_
      refine vr_iload (pc := 38) 5 dX0_isShiftOnto_38 rfl ?_
      obtain ⟨hc3, h⟩ := ck_some h
      refine vr_iald (pc := 40) dX0_isShiftOnto_40 (sh_0_6 hq0).2 hc3 ?_
      refine vr_imul (pc := 41) dX0_isShiftOnto_41 ?_
      refine vr_iadd (pc := 42) dX0_isShiftOnto_42 ?_
      refine vr_aload_n (pc := 43) 1 dX0_isShiftOnto_43 rfl rfl ?_
      refine vr_getI (pc := 44) 0 dX0_isShiftOnto_44 fi_X0_34 hq0 (sh_0_0 hq0) ?_
      refine vr_callS (pc := 47) (ρ1 := (some (.int (f_X2_modulo (x3 + (x2 * (σ.1 (rid q0 6) x4.toNatClampNeg))) (σ.1 q0 0))), σ)) [.int (x3 + (x2 * (σ.1 (rid q0 6) x4.toNatClampNeg))), .int (σ.1 q0 0)] dX0_isShiftOnto_47 (s_X2_modulo l g rfl) cw_X2_modulo ml_X0_89 (by decide) rfl rfl (Nat.le_of_ble_eq_true rfl) ?_
      refine vr_istore (pc := 50) [(6, .int (f_X2_modulo (x3 + (x2 * (σ.1 (rid q0 6) x4.toNatClampNeg))) (σ.1 q0 0))), (5, .int (f_X2_modulo (x3 + (x2 * (σ.1 (rid q0 5) x4.toNatClampNeg))) (σ.1 q0 0))), (0, .ref (g.1 q0)), (1, .ref (g.1 q1)), (2, .int x2), (3, .int x3), (4, .int x4)] dX0_isShiftOnto_50 (by decide) rfl ?_
      refine vr_aload_n (pc := 52) 3 dX0_isShiftOnto_52 rfl rfl ?_
      refine vr_iload (pc := 53) 1 dX0_isShiftOnto_53 rfl ?_
      refine vr_iload (pc := 55) 0 dX0_isShiftOnto_55 rfl ?_
      obtain ⟨z4, hz5, h⟩ := ob_some h
      refine vr_callV (pc := 57) (ρ1 := (some (.int z4), σ)) [.int (f_X2_modulo (x3 + (x2 * (σ.1 (rid q0 5) x4.toNatClampNeg))) (σ.1 q0 0)), .int (f_X2_modulo (x3 + (x2 * (σ.1 (rid q0 6) x4.toNatClampNeg))) (σ.1 q0 0))] dX0_isShiftOnto_57 (s_X0_isLink l g (hq1) hz5) cw_X0_isLink ml_X0_76 hq1 rfl (by decide) (by decide) rfl rfl (Nat.le_of_ble_eq_true rfl) ?_
      refine vr_if_ne (pc := 60) 65 dX0_isShiftOnto_60 (by decide) (fun c6 => ?_) (fun c6 => ?_)
      · rw [if_neg c6] at h
        refine vr_iinc (pc := 65) [(4, .int (x4 + 1)), (6, .int (f_X2_modulo (x3 + (x2 * (σ.1 (rid q0 6) x4.toNatClampNeg))) (σ.1 q0 0))), (5, .int (f_X2_modulo (x3 + (x2 * (σ.1 (rid q0 5) x4.toNatClampNeg))) (σ.1 q0 0))), (0, .ref (g.1 q0)), (1, .ref (g.1 q1)), (2, .int x2), (3, .int x3)] 6 dX0_isShiftOnto_65 rfl (congrArg (fun z => x4 + z) ci_1) (by decide) rfl ?_
        refine vr_goto (pc := 68) 3 dX0_isShiftOnto_68 (by decide) ?_
        refine vr_sub [3, 4, 5, 6, 0] [(0, .ref (g.1 q0)), (1, .ref (g.1 q1)), (2, .int x2), (3, .int x3), (4, .int (x4 + 1))] rfl ?_
        exact ih q0 q1 x2 x3 (x4 + 1) (hq0) (hq1) h
      · rw [if_pos c6] at h
        refine vr_iconst (pc := 63) 0 dX0_isShiftOnto_63 ci_0 ?_
        have h := Option.some.inj h; subst h
        exact vr_iret (pc := 64) .boolean dX0_isShiftOnto_64 rfl rfl rfl
set_option maxRecDepth 20000 in
set_option maxHeartbeats 4000000 in
theorem s_X0_isShiftOnto (l : Launch) (g : GG) {q0 : Nat} (hq0 : kd q0 = 0) {q1 : Nat} (hq1 : kd q1 = 0) {a2 : Int32} {a3 : Int32} {σ : SS} {r : Int32} (h : f_X0_isShiftOnto q0 q1 a2 a3 σ = some r) : CT l g 2 yX0_isShiftOnto cX0_isShiftOnto 7 (some .boolean) [.ref (g.1 q0), .ref (g.1 q1), .int a2, .int a3] σ (some (.int r), σ) := by
  refine CT.of (lv := [(0, .ref (g.1 q0)), (1, .ref (g.1 q1)), (2, .int a2), (3, .int a3)]) RX0 (by decide +kernel) rfl (Nat.le_of_ble_eq_true rfl) rfl ?_
  unfold f_X0_isShiftOnto at h
  refine vr_iconst (pc := 0) 0 dX0_isShiftOnto_0 ci_0 ?_
  refine vr_istore (pc := 1) [(4, .int 0), (0, .ref (g.1 q0)), (1, .ref (g.1 q1)), (2, .int a2), (3, .int a3)] dX0_isShiftOnto_1 (by decide) rfl ?_
  refine vr_sub [1, 2, 3, 4, 0] [(0, .ref (g.1 q0)), (1, .ref (g.1 q1)), (2, .int a2), (3, .int a3), (4, .int 0)] rfl ?_
  refine v_X0_isShiftOnto_L3 l g (fun h => ?_) FU q0 q1 a2 a3 0 (hq0) (hq1) h
  refine vr_iconst (pc := 71) 1 dX0_isShiftOnto_71 ci_1 ?_
  have h := Option.some.inj h; subst h
  exact vr_iret (pc := 72) .boolean dX0_isShiftOnto_72 rfl rfl rfl
theorem dX0_shiftOnto_0 : decode cX0_shiftOnto 0 = .ok (.aload_n 0, 1) := by decide +kernel
theorem dX0_shiftOnto_1 : decode cX0_shiftOnto 1 = .ok (.getfield 41, 3) := by decide +kernel
theorem dX0_shiftOnto_4 : decode cX0_shiftOnto 4 = .ok (.aload_n 1, 1) := by decide +kernel
theorem dX0_shiftOnto_5 : decode cX0_shiftOnto 5 = .ok (.getfield 41, 3) := by decide +kernel
theorem dX0_shiftOnto_8 : decode cX0_shiftOnto 8 = .ok (.if_icmp .ne 42, 3) := by decide +kernel
theorem dX0_shiftOnto_11 : decode cX0_shiftOnto 11 = .ok (.aload_n 0, 1) := by decide +kernel
theorem dX0_shiftOnto_12 : decode cX0_shiftOnto 12 = .ok (.getfield 46, 3) := by decide +kernel
theorem dX0_shiftOnto_15 : decode cX0_shiftOnto 15 = .ok (.aload_n 1, 1) := by decide +kernel
theorem dX0_shiftOnto_16 : decode cX0_shiftOnto 16 = .ok (.getfield 46, 3) := by decide +kernel
theorem dX0_shiftOnto_19 : decode cX0_shiftOnto 19 = .ok (.if_icmp .ne 31, 3) := by decide +kernel
theorem dX0_shiftOnto_22 : decode cX0_shiftOnto 22 = .ok (.iconst 0, 1) := by decide +kernel
theorem dX0_shiftOnto_23 : decode cX0_shiftOnto 23 = .ok (.istore_n 3, 1) := by decide +kernel
theorem dX0_shiftOnto_24 : decode cX0_shiftOnto 24 = .ok (.iload_n 3, 1) := by decide +kernel
theorem dX0_shiftOnto_25 : decode cX0_shiftOnto 25 = .ok (.aload_n 0, 1) := by decide +kernel
theorem dX0_shiftOnto_26 : decode cX0_shiftOnto 26 = .ok (.getfield 34, 3) := by decide +kernel
theorem dX0_shiftOnto_29 : decode cX0_shiftOnto 29 = .ok (.if_icmp .ge 21, 3) := by decide +kernel
theorem dX0_shiftOnto_32 : decode cX0_shiftOnto 32 = .ok (.aload_n 0, 1) := by decide +kernel
theorem dX0_shiftOnto_33 : decode cX0_shiftOnto 33 = .ok (.aload_n 1, 1) := by decide +kernel
theorem dX0_shiftOnto_34 : decode cX0_shiftOnto 34 = .ok (.iload_n 2, 1) := by decide +kernel
theorem dX0_shiftOnto_35 : decode cX0_shiftOnto 35 = .ok (.iload_n 3, 1) := by decide +kernel
theorem dX0_shiftOnto_36 : decode cX0_shiftOnto 36 = .ok (.invokevirtual 117, 3) := by decide +kernel
theorem dX0_shiftOnto_39 : decode cX0_shiftOnto 39 = .ok (.ifCond .eq 5, 3) := by decide +kernel
theorem dX0_shiftOnto_42 : decode cX0_shiftOnto 42 = .ok (.iload_n 3, 1) := by decide +kernel
theorem dX0_shiftOnto_43 : decode cX0_shiftOnto 43 = .ok (.ireturn, 1) := by decide +kernel
theorem dX0_shiftOnto_44 : decode cX0_shiftOnto 44 = .ok (.iinc 3 1, 3) := by decide +kernel
theorem dX0_shiftOnto_47 : decode cX0_shiftOnto 47 = .ok (.goto (-23), 3) := by decide +kernel
theorem dX0_shiftOnto_50 : decode cX0_shiftOnto 50 = .ok (.bipush (-9), 2) := by decide +kernel
theorem dX0_shiftOnto_52 : decode cX0_shiftOnto 52 = .ok (.ireturn, 1) := by decide +kernel
set_option maxRecDepth 20000 in
set_option maxHeartbeats 4000000 in
theorem v_X0_shiftOnto_L24 (l : Launch) (g : GG) {r : Int32} {σ : SS} {κ : Unit → Option Int32} (hκ : κ () = some r → VV l g 3 RX0 cX0_shiftOnto 4 (some .int) (some (.int r), σ) 50 [] [] σ) : ∀ (fu : Nat) (q0 : Nat) (q1 : Nat) (x2 : Int32) (x3 : Int32) (hq0 : kd q0 = 0) (hq1 : kd q1 = 0), f_X0_shiftOnto_L24 σ κ fu q0 q1 x2 x3 = some r → VV l g 3 RX0 cX0_shiftOnto 4 (some .int) (some (.int r), σ) 24 [(0, .ref (g.1 q0)), (1, .ref (g.1 q1)), (2, .int x2), (3, .int x3)] [] σ := by
  intro fu
  induction fu with
  | zero => intro q0 q1 x2 x3 hq0 hq1 h; cases h
  | succ fu ih =>
    intro q0 q1 x2 x3 hq0 hq1 h
    simp only [f_X0_shiftOnto_L24] at h
    refine vr_iload_n (pc := 24) 3 dX0_shiftOnto_24 rfl rfl ?_
    refine vr_aload_n (pc := 25) 0 dX0_shiftOnto_25 rfl rfl ?_
    refine vr_getI (pc := 26) 0 dX0_shiftOnto_26 fi_X0_34 hq0 (sh_0_0 hq0) ?_
    refine vr_icmp_ge (pc := 29) 50 dX0_shiftOnto_29 (by decide) (fun c3 => ?_) (fun c3 => ?_)
    · rw [if_pos c3] at h
      refine vr_sub [] [] rfl ?_
      exact hκ h
    · rw [if_neg c3] at h
      refine vr_aload_n (pc := 32) 0 dX0_shiftOnto_32 rfl rfl ?_
      refine vr_aload_n (pc := 33) 1 dX0_shiftOnto_33 rfl rfl ?_
      refine vr_iload_n (pc := 34) 2 dX0_shiftOnto_34 rfl rfl ?_
      refine vr_iload_n (pc := 35) 3 dX0_shiftOnto_35 rfl rfl ?_
      obtain ⟨z4, hz5, h⟩ := ob_some h
      refine vr_callV (pc := 36) (ρ1 := (some (.int z4), σ)) [.ref (g.1 q1), .int x2, .int x3] dX0_shiftOnto_36 (s_X0_isShiftOnto l g (hq0) (hq1) hz5) cw_X0_isShiftOnto ml_X0_117 hq0 rfl (by decide) (by decide) rfl rfl (Nat.le_of_ble_eq_true rfl) ?_
      refine vr_if_eq (pc := 39) 44 dX0_shiftOnto_39 (by decide) (fun c6 => ?_) (fun c6 => ?_)
      · rw [if_pos c6] at h
        refine vr_iinc (pc := 44) [(3, .int (x3 + 1)), (0, .ref (g.1 q0)), (1, .ref (g.1 q1)), (2, .int x2)] 3 dX0_shiftOnto_44 rfl (congrArg (fun z => x3 + z) ci_1) (by decide) rfl ?_
        refine vr_goto (pc := 47) 24 dX0_shiftOnto_47 (by decide) ?_
        refine vr_sub [1, 2, 3, 0] [(0, .ref (g.1 q0)), (1, .ref (g.1 q1)), (2, .int x2), (3, .int (x3 + 1))] rfl ?_
        exact ih q0 q1 x2 (x3 + 1) (hq0) (hq1) h
      · rw [if_neg c6] at h
        refine vr_iload_n (pc := 42) 3 dX0_shiftOnto_42 rfl rfl ?_
        have h := Option.some.inj h; subst h
        exact vr_iret (pc := 43) .int dX0_shiftOnto_43 rfl rfl rfl
set_option maxRecDepth 20000 in
set_option maxHeartbeats 4000000 in
theorem s_X0_shiftOnto (l : Launch) (g : GG) {q0 : Nat} (hq0 : kd q0 = 0) {q1 : Nat} (hq1 : kd q1 = 0) {a2 : Int32} {σ : SS} {r : Int32} (h : f_X0_shiftOnto q0 q1 a2 σ = some r) : CT l g 3 yX0_shiftOnto cX0_shiftOnto 4 (some .int) [.ref (g.1 q0), .ref (g.1 q1), .int a2] σ (some (.int r), σ) := by
  refine CT.of (lv := [(0, .ref (g.1 q0)), (1, .ref (g.1 q1)), (2, .int a2)]) RX0 (by decide +kernel) rfl (Nat.le_of_ble_eq_true rfl) rfl ?_
  unfold f_X0_shiftOnto at h
  refine vr_aload_n (pc := 0) 0 dX0_shiftOnto_0 rfl rfl ?_
  refine vr_getI (pc := 1) 1 dX0_shiftOnto_1 fi_X0_41 hq0 (sh_0_1 hq0) ?_
  refine vr_aload_n (pc := 4) 1 dX0_shiftOnto_4 rfl rfl ?_
  refine vr_getI (pc := 5) 1 dX0_shiftOnto_5 fi_X0_41 hq1 (sh_0_1 hq1) ?_
  refine vr_icmp_ne (pc := 8) 50 dX0_shiftOnto_8 (by decide) (fun c1 => ?_) (fun c1 => ?_)
  · rw [if_neg c1] at h
    refine vr_bipush (pc := 50) (-9) dX0_shiftOnto_50 cb_m9 ?_
    have h := Option.some.inj h; subst h
    exact vr_iret (pc := 52) .int dX0_shiftOnto_52 rfl rfl rfl
  · rw [if_pos c1] at h
    refine vr_aload_n (pc := 11) 0 dX0_shiftOnto_11 rfl rfl ?_
    refine vr_getI (pc := 12) 4 dX0_shiftOnto_12 fi_X0_46 hq0 (sh_0_4 hq0) ?_
    refine vr_aload_n (pc := 15) 1 dX0_shiftOnto_15 rfl rfl ?_
    refine vr_getI (pc := 16) 4 dX0_shiftOnto_16 fi_X0_46 hq1 (sh_0_4 hq1) ?_
    refine vr_icmp_ne (pc := 19) 50 dX0_shiftOnto_19 (by decide) (fun c2 => ?_) (fun c2 => ?_)
    · rw [if_neg c2] at h
      refine vr_bipush (pc := 50) (-9) dX0_shiftOnto_50 cb_m9 ?_
      have h := Option.some.inj h; subst h
      exact vr_iret (pc := 52) .int dX0_shiftOnto_52 rfl rfl rfl
    · rw [if_pos c2] at h
      refine vr_iconst (pc := 22) 0 dX0_shiftOnto_22 ci_0 ?_
      refine vr_istore_n (pc := 23) [(3, .int 0), (0, .ref (g.1 q0)), (1, .ref (g.1 q1)), (2, .int a2)] dX0_shiftOnto_23 rfl (by decide) rfl ?_
      refine vr_sub [1, 2, 3, 0] [(0, .ref (g.1 q0)), (1, .ref (g.1 q1)), (2, .int a2), (3, .int 0)] rfl ?_
      refine v_X0_shiftOnto_L24 l g (fun h => ?_) FU q0 q1 a2 0 (hq0) (hq1) h
      refine vr_bipush (pc := 50) (-9) dX0_shiftOnto_50 cb_m9 ?_
      have h := Option.some.inj h; subst h
      exact vr_iret (pc := 52) .int dX0_shiftOnto_52 rfl rfl rfl
theorem dX1_append_0 : decode cX1_append 0 = .ok (.aload_n 0, 1) := by decide +kernel
theorem dX1_append_1 : decode cX1_append 1 = .ok (.getfield 15, 3) := by decide +kernel
theorem dX1_append_4 : decode cX1_append 4 = .ok (.bipush 72, 2) := by decide +kernel
theorem dX1_append_6 : decode cX1_append 6 = .ok (.if_icmp .ge 23, 3) := by decide +kernel
theorem dX1_append_9 : decode cX1_append 9 = .ok (.aload_n 0, 1) := by decide +kernel
theorem dX1_append_10 : decode cX1_append 10 = .ok (.getfield 9, 3) := by decide +kernel
theorem dX1_append_13 : decode cX1_append 13 = .ok (.aload_n 0, 1) := by decide +kernel
theorem dX1_append_14 : decode cX1_append 14 = .ok (.getfield 15, 3) := by decide +kernel
theorem dX1_append_17 : decode cX1_append 17 = .ok (.iload_n 1, 1) := by decide +kernel
theorem dX1_append_18 : decode cX1_append 18 = .ok (.iastore, 1) := by decide +kernel
theorem dX1_append_19 : decode cX1_append 19 = .ok (.aload_n 0, 1) := by decide +kernel
theorem dX1_append_20 : decode cX1_append 20 = .ok (.dup, 1) := by decide +kernel
theorem dX1_append_21 : decode cX1_append 21 = .ok (.getfield 15, 3) := by decide +kernel
theorem dX1_append_24 : decode cX1_append 24 = .ok (.iconst 1, 1) := by decide +kernel
theorem dX1_append_25 : decode cX1_append 25 = .ok (.iadd, 1) := by decide +kernel
theorem dX1_append_26 : decode cX1_append 26 = .ok (.putfield 15, 3) := by decide +kernel
theorem dX1_append_29 : decode cX1_append 29 = .ok (.return_, 1) := by decide +kernel
set_option maxRecDepth 20000 in
set_option maxHeartbeats 4000000 in
theorem s_X1_append (l : Launch) (g : GG) {q0 : Nat} (hq0 : kd q0 = 1) {a1 : Int32} {σ : SS} {r : SS} (h : f_X1_append q0 a1 σ = some r) : CT l g 0 yX1_append cX1_append 2 none [.ref (g.1 q0), .int a1] σ (none, r) := by
  refine CT.of (lv := [(0, .ref (g.1 q0)), (1, .int a1)]) RX1 (by decide +kernel) rfl (Nat.le_of_ble_eq_true rfl) rfl ?_
  unfold f_X1_append at h
  refine vr_aload_n (pc := 0) 0 dX1_append_0 rfl rfl ?_
  refine vr_getI (pc := 1) 1 dX1_append_1 fi_X1_15 hq0 (sh_1_1 hq0) ?_
  refine vr_bipush (pc := 4) 72 dX1_append_4 cb_72 ?_
  refine vr_icmp_ge (pc := 6) 29 dX1_append_6 (by decide) (fun c1 => ?_) (fun c1 => ?_)
  · rw [if_pos c1] at h
    have h := Option.some.inj h; subst h
    exact vr_vret (pc := 29) dX1_append_29 rfl rfl
  · rw [if_neg c1] at h
    refine vr_aload_n (pc := 9) 0 dX1_append_9 rfl rfl ?_
    refine vr_getR (pc := 10) 0 dX1_append_10 fi_X1_9 hq0 (sh_1_0 hq0).1 ?_
    refine vr_aload_n (pc := 13) 0 dX1_append_13 rfl rfl ?_
    refine vr_getI (pc := 14) 1 dX1_append_14 fi_X1_15 hq0 (sh_1_1 hq0) ?_
    refine vr_iload_n (pc := 17) 1 dX1_append_17 rfl rfl ?_
    obtain ⟨hc2, h⟩ := ck_some h
    refine vr_iast (pc := 18) dX1_append_18 (sh_1_0 hq0).2 hc2 ?_
    refine vr_aload_n (pc := 19) 0 dX1_append_19 rfl rfl ?_
    refine vr_dup (pc := 20) dX1_append_20 rfl ?_
    refine vr_getI (pc := 21) 1 dX1_append_21 fi_X1_15 hq0 (sh_1_1 hq0) ?_
    refine vr_iconst (pc := 24) 1 dX1_append_24 ci_1 ?_
    refine vr_iadd (pc := 25) dX1_append_25 ?_
    refine vr_putI (pc := 26) 1 dX1_append_26 fi_X1_15 (fw_1_1 _) hq0 (sh_1_1 hq0) ?_
    have h := Option.some.inj h; subst h
    exact vr_vret (pc := 29) dX1_append_29 rfl rfl
theorem dX1_digitsBehind_0 : decode cX1_digitsBehind 0 = .ok (.iload_n 0, 1) := by decide +kernel
theorem dX1_digitsBehind_1 : decode cX1_digitsBehind 1 = .ok (.lookupswitch 58 #[(97, 53), (103, 53), (114, 51), (119, 55), (120, 51)], 51) := by decide +kernel
theorem dX1_digitsBehind_52 : decode cX1_digitsBehind 52 = .ok (.iconst 2, 1) := by decide +kernel
theorem dX1_digitsBehind_53 : decode cX1_digitsBehind 53 = .ok (.ireturn, 1) := by decide +kernel
theorem dX1_digitsBehind_54 : decode cX1_digitsBehind 54 = .ok (.iconst 3, 1) := by decide +kernel
theorem dX1_digitsBehind_55 : decode cX1_digitsBehind 55 = .ok (.ireturn, 1) := by decide +kernel
theorem dX1_digitsBehind_56 : decode cX1_digitsBehind 56 = .ok (.bipush 7, 2) := by decide +kernel
theorem dX1_digitsBehind_58 : decode cX1_digitsBehind 58 = .ok (.ireturn, 1) := by decide +kernel
theorem dX1_digitsBehind_59 : decode cX1_digitsBehind 59 = .ok (.bipush (-9), 2) := by decide +kernel
theorem dX1_digitsBehind_61 : decode cX1_digitsBehind 61 = .ok (.ireturn, 1) := by decide +kernel
set_option maxRecDepth 20000 in
set_option maxHeartbeats 4000000 in
theorem s_X1_digitsBehind (l : Launch) (g : GG) {a0 : Int32} {σ : SS} {r : Int32} (h : f_X1_digitsBehind a0 = r) : CT l g 0 yX1_digitsBehind cX1_digitsBehind 1 (some .int) [.int a0] σ (some (.int r), σ) := by
  refine CT.of (lv := [(0, .int a0)]) RX1 (by decide +kernel) rfl (Nat.le_of_ble_eq_true rfl) rfl ?_
  unfold f_X1_digitsBehind at h
  refine vr_iload_n (pc := 0) 0 dX1_digitsBehind_0 rfl rfl ?_
  by_cases c1 : a0 = 97
  · rw [if_pos c1] at h
    refine vr_lookup (pc := 1) 53 54 dX1_digitsBehind_1 (by decide) (by rw [c1]; rfl) (by decide) ?_
    refine vr_iconst (pc := 54) 3 dX1_digitsBehind_54 ci_3 ?_
    subst h
    exact vr_iret (pc := 55) .int dX1_digitsBehind_55 rfl rfl rfl
  · rw [if_neg c1] at h
    by_cases c2 : a0 = 103
    · rw [if_pos c2] at h
      refine vr_lookup (pc := 1) 53 54 dX1_digitsBehind_1 (by decide) (by rw [c2]; rfl) (by decide) ?_
      refine vr_iconst (pc := 54) 3 dX1_digitsBehind_54 ci_3 ?_
      subst h
      exact vr_iret (pc := 55) .int dX1_digitsBehind_55 rfl rfl rfl
    · rw [if_neg c2] at h
      by_cases c3 : a0 = 114
      · rw [if_pos c3] at h
        refine vr_lookup (pc := 1) 51 52 dX1_digitsBehind_1 (by decide) (by rw [c3]; rfl) (by decide) ?_
        refine vr_iconst (pc := 52) 2 dX1_digitsBehind_52 ci_2 ?_
        subst h
        exact vr_iret (pc := 53) .int dX1_digitsBehind_53 rfl rfl rfl
      · rw [if_neg c3] at h
        by_cases c4 : a0 = 119
        · rw [if_pos c4] at h
          refine vr_lookup (pc := 1) 55 56 dX1_digitsBehind_1 (by decide) (by rw [c4]; rfl) (by decide) ?_
          refine vr_bipush (pc := 56) 7 dX1_digitsBehind_56 cb_7 ?_
          subst h
          exact vr_iret (pc := 58) .int dX1_digitsBehind_58 rfl rfl rfl
        · rw [if_neg c4] at h
          by_cases c5 : a0 = 120
          · rw [if_pos c5] at h
            refine vr_lookup (pc := 1) 51 52 dX1_digitsBehind_1 (by decide) (by rw [c5]; rfl) (by decide) ?_
            refine vr_iconst (pc := 52) 2 dX1_digitsBehind_52 ci_2 ?_
            subst h
            exact vr_iret (pc := 53) .int dX1_digitsBehind_53 rfl rfl rfl
          · rw [if_neg c5] at h
            refine vr_lookup (pc := 1) 58 59 dX1_digitsBehind_1 (by decide) (by simp only [Op.lookupswitch.offset]; have nc1 := i32_ne (n := 97) (by decide) c1; have nc2 := i32_ne (n := 103) (by decide) c2; have nc3 := i32_ne (n := 114) (by decide) c3; have nc4 := i32_ne (n := 119) (by decide) c4; have nc5 := i32_ne (n := 120) (by decide) c5; simp [nc1, nc2, nc3, nc4, nc5, Ne.symm, eq_comm]) (by decide) ?_
            refine vr_bipush (pc := 59) (-9) dX1_digitsBehind_59 cb_m9 ?_
            subst h
            exact vr_iret (pc := 61) .int dX1_digitsBehind_61 rfl rfl rfl
theorem dX1_firstMisplaced_0 : decode cX1_firstMisplaced 0 = .ok (.iconst 0, 1) := by decide +kernel
theorem dX1_firstMisplaced_1 : decode cX1_firstMisplaced 1 = .ok (.istore_n 1, 1) := by decide +kernel
theorem dX1_firstMisplaced_2 : decode cX1_firstMisplaced 2 = .ok (.iconst 0, 1) := by decide +kernel
theorem dX1_firstMisplaced_3 : decode cX1_firstMisplaced 3 = .ok (.istore_n 2, 1) := by decide +kernel
theorem dX1_firstMisplaced_4 : decode cX1_firstMisplaced 4 = .ok (.iconst 0, 1) := by decide +kernel
theorem dX1_firstMisplaced_5 : decode cX1_firstMisplaced 5 = .ok (.istore_n 3, 1) := by decide +kernel
theorem dX1_firstMisplaced_6 : decode cX1_firstMisplaced 6 = .ok (.iload_n 3, 1) := by decide +kernel
theorem dX1_firstMisplaced_7 : decode cX1_firstMisplaced 7 = .ok (.aload_n 0, 1) := by decide +kernel
theorem dX1_firstMisplaced_8 : decode cX1_firstMisplaced 8 = .ok (.getfield 15, 3) := by decide +kernel
theorem dX1_firstMisplaced_11 : decode cX1_firstMisplaced 11 = .ok (.if_icmp .ge 77, 3) := by decide +kernel
theorem dX1_firstMisplaced_14 : decode cX1_firstMisplaced 14 = .ok (.aload_n 0, 1) := by decide +kernel
theorem dX1_firstMisplaced_15 : decode cX1_firstMisplaced 15 = .ok (.getfield 9, 3) := by decide +kernel
theorem dX1_firstMisplaced_18 : decode cX1_firstMisplaced 18 = .ok (.iload_n 3, 1) := by decide +kernel
theorem dX1_firstMisplaced_19 : decode cX1_firstMisplaced 19 = .ok (.iaload, 1) := by decide +kernel
theorem dX1_firstMisplaced_20 : decode cX1_firstMisplaced 20 = .ok (.istore 4, 2) := by decide +kernel
theorem dX1_firstMisplaced_22 : decode cX1_firstMisplaced 22 = .ok (.iload_n 1, 1) := by decide +kernel
theorem dX1_firstMisplaced_23 : decode cX1_firstMisplaced 23 = .ok (.ifCond .ne 22, 3) := by decide +kernel
theorem dX1_firstMisplaced_26 : decode cX1_firstMisplaced 26 = .ok (.iload 4, 2) := by decide +kernel
theorem dX1_firstMisplaced_28 : decode cX1_firstMisplaced 28 = .ok (.invokestatic 19, 3) := by decide +kernel
theorem dX1_firstMisplaced_31 : decode cX1_firstMisplaced 31 = .ok (.istore_n 2, 1) := by decide +kernel
theorem dX1_firstMisplaced_32 : decode cX1_firstMisplaced 32 = .ok (.iload_n 2, 1) := by decide +kernel
theorem dX1_firstMisplaced_33 : decode cX1_firstMisplaced 33 = .ok (.bipush (-9), 2) := by decide +kernel
theorem dX1_firstMisplaced_35 : decode cX1_firstMisplaced 35 = .ok (.if_icmp .ne 5, 3) := by decide +kernel
theorem dX1_firstMisplaced_38 : decode cX1_firstMisplaced 38 = .ok (.iload_n 3, 1) := by decide +kernel
theorem dX1_firstMisplaced_39 : decode cX1_firstMisplaced 39 = .ok (.ireturn, 1) := by decide +kernel
theorem dX1_firstMisplaced_40 : decode cX1_firstMisplaced 40 = .ok (.iconst 1, 1) := by decide +kernel
theorem dX1_firstMisplaced_41 : decode cX1_firstMisplaced 41 = .ok (.istore_n 1, 1) := by decide +kernel
theorem dX1_firstMisplaced_42 : decode cX1_firstMisplaced 42 = .ok (.goto 40, 3) := by decide +kernel
theorem dX1_firstMisplaced_45 : decode cX1_firstMisplaced 45 = .ok (.iload_n 2, 1) := by decide +kernel
theorem dX1_firstMisplaced_46 : decode cX1_firstMisplaced 46 = .ok (.ifCond .le 25, 3) := by decide +kernel
theorem dX1_firstMisplaced_49 : decode cX1_firstMisplaced 49 = .ok (.iload 4, 2) := by decide +kernel
theorem dX1_firstMisplaced_51 : decode cX1_firstMisplaced 51 = .ok (.bipush 48, 2) := by decide +kernel
theorem dX1_firstMisplaced_53 : decode cX1_firstMisplaced 53 = .ok (.if_icmp .lt 10, 3) := by decide +kernel
theorem dX1_firstMisplaced_56 : decode cX1_firstMisplaced 56 = .ok (.iload 4, 2) := by decide +kernel
theorem dX1_firstMisplaced_58 : decode cX1_firstMisplaced 58 = .ok (.bipush 57, 2) := by decide +kernel
theorem dX1_firstMisplaced_60 : decode cX1_firstMisplaced 60 = .ok (.if_icmp .le 5, 3) := by decide +kernel
theorem dX1_firstMisplaced_63 : decode cX1_firstMisplaced 63 = .ok (.iload_n 3, 1) := by decide +kernel
theorem dX1_firstMisplaced_64 : decode cX1_firstMisplaced 64 = .ok (.ireturn, 1) := by decide +kernel
theorem dX1_firstMisplaced_65 : decode cX1_firstMisplaced 65 = .ok (.iinc 2 (-1), 3) := by decide +kernel
theorem dX1_firstMisplaced_68 : decode cX1_firstMisplaced 68 = .ok (.goto 14, 3) := by decide +kernel
theorem dX1_firstMisplaced_71 : decode cX1_firstMisplaced 71 = .ok (.iload 4, 2) := by decide +kernel
theorem dX1_firstMisplaced_73 : decode cX1_firstMisplaced 73 = .ok (.bipush 59, 2) := by decide +kernel
theorem dX1_firstMisplaced_75 : decode cX1_firstMisplaced 75 = .ok (.if_icmp .eq 5, 3) := by decide +kernel
theorem dX1_firstMisplaced_78 : decode cX1_firstMisplaced 78 = .ok (.iload_n 3, 1) := by decide +kernel
theorem dX1_firstMisplaced_79 : decode cX1_firstMisplaced 79 = .ok (.ireturn, 1) := by decide +kernel
theorem dX1_firstMisplaced_80 : decode cX1_firstMisplaced 80 = .ok (.iconst 0, 1) := by decide +kernel
theorem dX1_firstMisplaced_81 : decode cX1_firstMisplaced 81 = .ok (.istore_n 1, 1) := by decide +kernel
theorem dX1_firstMisplaced_82 : decode cX1_firstMisplaced 82 = .ok (.iinc 3 1, 3) := by decide +kernel
theorem dX1_firstMisplaced_85 : decode cX1_firstMisplaced 85 = .ok (.goto (-79), 3) := by decide +kernel
theorem dX1_firstMisplaced_88 : decode cX1_firstMisplaced 88 = .ok (.iload_n 1, 1) := by decide +kernel
theorem dX1_firstMisplaced_89 : decode cX1_firstMisplaced 89 = .ok (.ifCond .ne 10, 3) := by decide +kernel
theorem dX1_firstMisplaced_92 : decode cX1_firstMisplaced 92 = .ok (.aload_n 0, 1) := by decide +kernel
theorem dX1_firstMisplaced_93 : decode cX1_firstMisplaced 93 = .ok (.getfield 15, 3) := by decide +kernel
theorem dX1_firstMisplaced_96 : decode cX1_firstMisplaced 96 = .ok (.ifCond .ne 10, 3) := by decide +kernel
theorem dX1_firstMisplaced_99 : decode cX1_firstMisplaced 99 = .ok (.aload_n 0, 1) := by decide +kernel
theorem dX1_firstMisplaced_100 : decode cX1_firstMisplaced 100 = .ok (.getfield 15, 3) := by decide +kernel
theorem dX1_firstMisplaced_103 : decode cX1_firstMisplaced 103 = .ok (.goto 5, 3) := by decide +kernel
theorem dX1_firstMisplaced_106 : decode cX1_firstMisplaced 106 = .ok (.bipush (-9), 2) := by decide +kernel
theorem dX1_firstMisplaced_108 : decode cX1_firstMisplaced 108 = .ok (.ireturn, 1) := by decide +kernel
set_option maxRecDepth 20000 in
set_option maxHeartbeats 4000000 in
theorem v_X1_firstMisplaced_L6 (l : Launch) (g : GG) {r : Int32} {σ : SS} {κ : Nat → Int32 → Option Int32} (hκ : ∀ (p0 : Nat) (y1 : Int32) (hp0 : kd p0 = 1), κ p0 y1 = some r → VV l g 1 RX1 cX1_firstMisplaced 5 (some .int) (some (.int r), σ) 88 [(0, .ref (g.1 p0)), (1, .int y1)] [] σ) : ∀ (fu : Nat) (q0 : Nat) (x1 : Int32) (x2 : Int32) (x3 : Int32) (hq0 : kd q0 = 1), f_X1_firstMisplaced_L6 σ κ fu q0 x1 x2 x3 = some r → VV l g 1 RX1 cX1_firstMisplaced 5 (some .int) (some (.int r), σ) 6 [(0, .ref (g.1 q0)), (1, .int x1), (2, .int x2), (3, .int x3)] [] σ := by
  intro fu
  induction fu with
  | zero => intro q0 x1 x2 x3 hq0 h; cases h
  | succ fu ih =>
    intro q0 x1 x2 x3 hq0 h
    simp only [f_X1_firstMisplaced_L6] at h
    refine vr_iload_n (pc := 6) 3 dX1_firstMisplaced_6 rfl rfl ?_
    refine vr_aload_n (pc := 7) 0 dX1_firstMisplaced_7 rfl rfl ?_
    refine vr_getI (pc := 8) 1 dX1_firstMisplaced_8 fi_X1_15 hq0 (sh_1_1 hq0) ?_
    refine vr_icmp_ge (pc := 11) 88 dX1_firstMisplaced_11 (by decide) (fun c1 => ?_) (fun c1 => ?_)
    · rw [if_pos c1] at h
      refine vr_sub [0, 1] [(0, .ref (g.1 q0)), (1, .int x1)] rfl ?_
      exact hκ q0 x1 (hq0) h
    · rw [if_neg c1] at h
      refine vr_aload_n (pc := 14) 0 dX1_firstMisplaced_14 rfl rfl ?_
      refine vr_getR (pc := 15) 0 dX1_firstMisplaced_15 fi_X1_9 hq0 (sh_1_0 hq0).1 ?_
      refine vr_iload_n (pc := 18) 3 dX1_firstMisplaced_18 rfl rfl ?_
      obtain ⟨hc2, h⟩ := ck_some h
      refine vr_iald (pc := 19) dX1_firstMisplaced_19 (sh_1_0 hq0).2 hc2 ?_
      refine vr_istore (pc := 20) [(4, .int (σ.1 (rid q0 0) x3.toNatClampNeg)), (0, .ref (g.1 q0)), (1, .int x1), (2, .int x2), (3, .int x3)] dX1_firstMisplaced_20 (by decide) rfl ?_
      refine vr_iload_n (pc := 22) 2 dX1_firstMisplaced_22 rfl rfl ?_
      refine vr_if_ne (pc := 23) 45 dX1_firstMisplaced_23 (by decide) (fun c3 => ?_) (fun c3 => ?_)
      · rw [if_neg c3] at h
        refine vr_iload_n (pc := 45) 3 dX1_firstMisplaced_45 rfl rfl ?_
        refine vr_if_le (pc := 46) 71 dX1_firstMisplaced_46 (by decide) (fun c4 => ?_) (fun c4 => ?_)
        · rw [if_pos c4] at h
          refine vr_iload (pc := 71) 0 dX1_firstMisplaced_71 rfl ?_
          refine vr_bipush (pc := 73) 59 dX1_firstMisplaced_73 cb_59 ?_
          refine vr_icmp_eq (pc := 75) 80 dX1_firstMisplaced_75 (by decide) (fun c5 => ?_) (fun c5 => ?_)
          · rw [if_pos c5] at h
            refine vr_iconst (pc := 80) 0 dX1_firstMisplaced_80 ci_0 ?_
            refine vr_istore_n (pc := 81) [(1, .int 0), (4, .int (σ.1 (rid q0 0) x3.toNatClampNeg)), (0, .ref (g.1 q0)), (2, .int x2), (3, .int x3)] dX1_firstMisplaced_81 rfl (by decide) rfl ?_
            refine vr_iinc (pc := 82) [(3, .int (x3 + 1)), (1, .int 0), (4, .int (σ.1 (rid q0 0) x3.toNatClampNeg)), (0, .ref (g.1 q0)), (2, .int x2)] 4 dX1_firstMisplaced_82 rfl (congrArg (fun z => x3 + z) ci_1) (by decide) rfl ?_
            refine vr_goto (pc := 85) 6 dX1_firstMisplaced_85 (by decide) ?_
            refine vr_sub [3, 1, 4, 0] [(0, .ref (g.1 q0)), (1, .int 0), (2, .int x2), (3, .int (x3 + 1))] rfl ?_
            exact ih q0 0 x2 (x3 + 1) (hq0) h
          · rw [if_neg c5] at h
            refine vr_iload_n (pc := 78) 4 dX1_firstMisplaced_78 rfl rfl ?_
            have h := Option.some.inj h; subst h
            exact vr_iret (pc := 79) .int dX1_firstMisplaced_79 rfl rfl rfl
        · rw [if_neg c4] at h
          refine vr_iload (pc := 49) 0 dX1_firstMisplaced_49 rfl ?_
          refine vr_bipush (pc := 51) 48 dX1_firstMisplaced_51 cb_48 ?_
          refine vr_icmp_lt (pc := 53) 63 dX1_firstMisplaced_53 (by decide) (fun c6 => ?_) (fun c6 => ?_)
          · rw [if_pos c6] at h
            refine vr_iload_n (pc := 63) 4 dX1_firstMisplaced_63 rfl rfl ?_
            have h := Option.some.inj h; subst h
            exact vr_iret (pc := 64) .int dX1_firstMisplaced_64 rfl rfl rfl
          · rw [if_neg c6] at h
            refine vr_iload (pc := 56) 0 dX1_firstMisplaced_56 rfl ?_
            refine vr_bipush (pc := 58) 57 dX1_firstMisplaced_58 cb_57 ?_
            refine vr_icmp_le (pc := 60) 65 dX1_firstMisplaced_60 (by decide) (fun c7 => ?_) (fun c7 => ?_)
            · rw [if_pos c7] at h
              refine vr_iinc (pc := 65) [(2, .int (x2 + (-1))), (4, .int (σ.1 (rid q0 0) x3.toNatClampNeg)), (0, .ref (g.1 q0)), (1, .int x1), (3, .int x3)] 3 dX1_firstMisplaced_65 rfl (congrArg (fun z => x2 + z) ci_m1) (by decide) rfl ?_
              refine vr_goto (pc := 68) 82 dX1_firstMisplaced_68 (by decide) ?_
              refine vr_iinc (pc := 82) [(3, .int (x3 + 1)), (2, .int (x2 + (-1))), (4, .int (σ.1 (rid q0 0) x3.toNatClampNeg)), (0, .ref (g.1 q0)), (1, .int x1)] 4 dX1_firstMisplaced_82 rfl (congrArg (fun z => x3 + z) ci_1) (by decide) rfl ?_
              refine vr_goto (pc := 85) 6 dX1_firstMisplaced_85 (by decide) ?_
              refine vr_sub [3, 4, 1, 0] [(0, .ref (g.1 q0)), (1, .int x1), (2, .int (x2 + (-1))), (3, .int (x3 + 1))] rfl ?_
              exact ih q0 x1 (x2 + (-1)) (x3 + 1) (hq0) h
            · rw [if_neg c7] at h
              refine vr_iload_n (pc := 63) 4 dX1_firstMisplaced_63 rfl rfl ?_
              have h := Option.some.inj h; subst h
              exact vr_iret (pc := 64) .int dX1_firstMisplaced_64 rfl rfl rfl
      · rw [if_pos c3] at h
        refine vr_iload (pc := 26) 0 dX1_firstMisplaced_26 rfl ?_
        refine vr_callS (pc := 28) (ρ1 := (some (.int (f_X1_digitsBehind (σ.1 (rid q0 0) x3.toNatClampNeg))), σ)) [.int (σ.1 (rid q0 0) x3.toNatClampNeg)] dX1_firstMisplaced_28 (s_X1_digitsBehind l g rfl) cw_X1_digitsBehind ml_X1_19 (by decide) rfl rfl (Nat.le_of_ble_eq_true rfl) ?_
        refine vr_istore_n (pc := 31) [(2, .int (f_X1_digitsBehind (σ.1 (rid q0 0) x3.toNatClampNeg))), (4, .int (σ.1 (rid q0 0) x3.toNatClampNeg)), (0, .ref (g.1 q0)), (1, .int x1), (3, .int x3)] dX1_firstMisplaced_31 rfl (by decide) rfl ?_
        refine vr_iload_n (pc := 32) 0 dX1_firstMisplaced_32 rfl rfl ?_
        refine vr_bipush (pc := 33) (-9) dX1_firstMisplaced_33 cb_m9 ?_
        refine vr_icmp_ne (pc := 35) 40 dX1_firstMisplaced_35 (by decide) (fun c8 => ?_) (fun c8 => ?_)
        · rw [if_neg c8] at h
          refine vr_iconst (pc := 40) 1 dX1_firstMisplaced_40 ci_1 ?_
          refine vr_istore_n (pc := 41) [(1, .int 1), (2, .int (f_X1_digitsBehind (σ.1 (rid q0 0) x3.toNatClampNeg))), (4, .int (σ.1 (rid q0 0) x3.toNatClampNeg)), (0, .ref (g.1 q0)), (3, .int x3)] dX1_firstMisplaced_41 rfl (by decide) rfl ?_
          refine vr_goto (pc := 42) 82 dX1_firstMisplaced_42 (by decide) ?_
          refine vr_iinc (pc := 82) [(3, .int (x3 + 1)), (1, .int 1), (2, .int (f_X1_digitsBehind (σ.1 (rid q0 0) x3.toNatClampNeg))), (4, .int (σ.1 (rid q0 0) x3.toNatClampNeg)), (0, .ref (g.1 q0))] 4 dX1_firstMisplaced_82 rfl (congrArg (fun z => x3 + z) ci_1) (by decide) rfl ?_
          refine vr_goto (pc := 85) 6 dX1_firstMisplaced_85 (by decide) ?_
          refine vr_sub [4, 1, 2, 0] [(0, .ref (g.1 q0)), (1, .int 1), (2, .int (f_X1_digitsBehind (σ.1 (rid q0 0) x3.toNatClampNeg))), (3, .int (x3 + 1))] rfl ?_
          exact ih q0 1 (f_X1_digitsBehind (σ.1 (rid q0 0) x3.toNatClampNeg)) (x3 + 1) (hq0) h
        · rw [if_pos c8] at h
          refine vr_iload_n (pc := 38) 4 dX1_firstMisplaced_38 rfl rfl ?_
          have h := Option.some.inj h; subst h
          exact vr_iret (pc := 39) .int dX1_firstMisplaced_39 rfl rfl rfl
set_option maxRecDepth 20000 in
set_option maxHeartbeats 4000000 in
theorem s_X1_firstMisplaced (l : Launch) (g : GG) {q0 : Nat} (hq0 : kd q0 = 1) {σ : SS} {r : Int32} (h : f_X1_firstMisplaced q0 σ = some r) : CT l g 1 yX1_firstMisplaced cX1_firstMisplaced 5 (some .int) [.ref (g.1 q0)] σ (some (.int r), σ) := by
  refine CT.of (lv := [(0, .ref (g.1 q0))]) RX1 (by decide +kernel) rfl (Nat.le_of_ble_eq_true rfl) rfl ?_
  unfold f_X1_firstMisplaced at h
  refine vr_iconst (pc := 0) 0 dX1_firstMisplaced_0 ci_0 ?_
  refine vr_istore_n (pc := 1) [(1, .int 0), (0, .ref (g.1 q0))] dX1_firstMisplaced_1 rfl (by decide) rfl ?_
  refine vr_iconst (pc := 2) 0 dX1_firstMisplaced_2 ci_0 ?_
  refine vr_istore_n (pc := 3) [(2, .int 0), (1, .int 0), (0, .ref (g.1 q0))] dX1_firstMisplaced_3 rfl (by decide) rfl ?_
  refine vr_iconst (pc := 4) 0 dX1_firstMisplaced_4 ci_0 ?_
  refine vr_istore_n (pc := 5) [(3, .int 0), (2, .int 0), (1, .int 0), (0, .ref (g.1 q0))] dX1_firstMisplaced_5 rfl (by decide) rfl ?_
  refine vr_sub [3, 2, 1, 0] [(0, .ref (g.1 q0)), (1, .int 0), (2, .int 0), (3, .int 0)] rfl ?_
  refine v_X1_firstMisplaced_L6 l g (fun p0 y1 hp0 h => ?_) FU q0 0 0 0 (hq0) h
  refine vr_iload_n (pc := 88) 1 dX1_firstMisplaced_88 rfl rfl ?_
  refine vr_if_ne (pc := 89) 99 dX1_firstMisplaced_89 (by decide) (fun c9 => ?_) (fun c9 => ?_)
  · rw [if_neg c9] at h
    refine vr_aload_n (pc := 99) 0 dX1_firstMisplaced_99 rfl rfl ?_
    refine vr_getI (pc := 100) 1 dX1_firstMisplaced_100 fi_X1_15 hp0 (sh_1_1 hp0) ?_
    refine vr_goto (pc := 103) 108 dX1_firstMisplaced_103 (by decide) ?_
    have h := Option.some.inj h; subst h
    exact vr_iret (pc := 108) .int dX1_firstMisplaced_108 rfl rfl rfl
  · rw [if_pos c9] at h
    refine vr_aload_n (pc := 92) 0 dX1_firstMisplaced_92 rfl rfl ?_
    refine vr_getI (pc := 93) 1 dX1_firstMisplaced_93 fi_X1_15 hp0 (sh_1_1 hp0) ?_
    refine vr_if_ne (pc := 96) 106 dX1_firstMisplaced_96 (by decide) (fun c10 => ?_) (fun c10 => ?_)
    · rw [if_neg c10] at h
      refine vr_bipush (pc := 106) (-9) dX1_firstMisplaced_106 cb_m9 ?_
      have h := Option.some.inj h; subst h
      exact vr_iret (pc := 108) .int dX1_firstMisplaced_108 rfl rfl rfl
    · rw [if_pos c10] at h
      refine vr_aload_n (pc := 99) 0 dX1_firstMisplaced_99 rfl rfl ?_
      refine vr_getI (pc := 100) 1 dX1_firstMisplaced_100 fi_X1_15 hp0 (sh_1_1 hp0) ?_
      refine vr_goto (pc := 103) 108 dX1_firstMisplaced_103 (by decide) ?_
      have h := Option.some.inj h; subst h
      exact vr_iret (pc := 108) .int dX1_firstMisplaced_108 rfl rfl rfl
theorem dX1_beginsStatement_0 : decode cX1_beginsStatement 0 = .ok (.iload_n 1, 1) := by decide +kernel
theorem dX1_beginsStatement_1 : decode cX1_beginsStatement 1 = .ok (.ifCond .eq 28, 3) := by decide +kernel
theorem dX1_beginsStatement_4 : decode cX1_beginsStatement 4 = .ok (.iload_n 1, 1) := by decide +kernel
theorem dX1_beginsStatement_5 : decode cX1_beginsStatement 5 = .ok (.ifCond .le 28, 3) := by decide +kernel
theorem dX1_beginsStatement_8 : decode cX1_beginsStatement 8 = .ok (.iload_n 1, 1) := by decide +kernel
theorem dX1_beginsStatement_9 : decode cX1_beginsStatement 9 = .ok (.aload_n 0, 1) := by decide +kernel
theorem dX1_beginsStatement_10 : decode cX1_beginsStatement 10 = .ok (.getfield 15, 3) := by decide +kernel
theorem dX1_beginsStatement_13 : decode cX1_beginsStatement 13 = .ok (.if_icmp .ge 20, 3) := by decide +kernel
theorem dX1_beginsStatement_16 : decode cX1_beginsStatement 16 = .ok (.aload_n 0, 1) := by decide +kernel
theorem dX1_beginsStatement_17 : decode cX1_beginsStatement 17 = .ok (.getfield 9, 3) := by decide +kernel
theorem dX1_beginsStatement_20 : decode cX1_beginsStatement 20 = .ok (.iload_n 1, 1) := by decide +kernel
theorem dX1_beginsStatement_21 : decode cX1_beginsStatement 21 = .ok (.iconst 1, 1) := by decide +kernel
theorem dX1_beginsStatement_22 : decode cX1_beginsStatement 22 = .ok (.isub, 1) := by decide +kernel
theorem dX1_beginsStatement_23 : decode cX1_beginsStatement 23 = .ok (.iaload, 1) := by decide +kernel
theorem dX1_beginsStatement_24 : decode cX1_beginsStatement 24 = .ok (.bipush 59, 2) := by decide +kernel
theorem dX1_beginsStatement_26 : decode cX1_beginsStatement 26 = .ok (.if_icmp .ne 7, 3) := by decide +kernel
theorem dX1_beginsStatement_29 : decode cX1_beginsStatement 29 = .ok (.iconst 1, 1) := by decide +kernel
theorem dX1_beginsStatement_30 : decode cX1_beginsStatement 30 = .ok (.goto 4, 3) := by decide +kernel
theorem dX1_beginsStatement_33 : decode cX1_beginsStatement 33 = .ok (.iconst 0, 1) := by decide +kernel
theorem dX1_beginsStatement_34 : decode cX1_beginsStatement 34 = .ok (.ireturn, 1) := by decide +kernel
set_option maxRecDepth 20000 in
set_option maxHeartbeats 4000000 in
theorem s_X1_beginsStatement (l : Launch) (g : GG) {q0 : Nat} (hq0 : kd q0 = 1) {a1 : Int32} {σ : SS} {r : Int32} (h : f_X1_beginsStatement q0 a1 σ = some r) : CT l g 0 yX1_beginsStatement cX1_beginsStatement 2 (some .boolean) [.ref (g.1 q0), .int a1] σ (some (.int r), σ) := by
  refine CT.of (lv := [(0, .ref (g.1 q0)), (1, .int a1)]) RX1 (by decide +kernel) rfl (Nat.le_of_ble_eq_true rfl) rfl ?_
  unfold f_X1_beginsStatement at h
  refine vr_iload_n (pc := 0) 1 dX1_beginsStatement_0 rfl rfl ?_
  refine vr_if_eq (pc := 1) 29 dX1_beginsStatement_1 (by decide) (fun c1 => ?_) (fun c1 => ?_)
  · rw [if_pos c1] at h
    refine vr_iconst (pc := 29) 1 dX1_beginsStatement_29 ci_1 ?_
    refine vr_goto (pc := 30) 34 dX1_beginsStatement_30 (by decide) ?_
    have h := Option.some.inj h; subst h
    exact vr_iret (pc := 34) .boolean dX1_beginsStatement_34 rfl rfl rfl
  · rw [if_neg c1] at h
    refine vr_iload_n (pc := 4) 1 dX1_beginsStatement_4 rfl rfl ?_
    refine vr_if_le (pc := 5) 33 dX1_beginsStatement_5 (by decide) (fun c2 => ?_) (fun c2 => ?_)
    · rw [if_pos c2] at h
      refine vr_iconst (pc := 33) 0 dX1_beginsStatement_33 ci_0 ?_
      have h := Option.some.inj h; subst h
      exact vr_iret (pc := 34) .boolean dX1_beginsStatement_34 rfl rfl rfl
    · rw [if_neg c2] at h
      refine vr_iload_n (pc := 8) 1 dX1_beginsStatement_8 rfl rfl ?_
      refine vr_aload_n (pc := 9) 0 dX1_beginsStatement_9 rfl rfl ?_
      refine vr_getI (pc := 10) 1 dX1_beginsStatement_10 fi_X1_15 hq0 (sh_1_1 hq0) ?_
      refine vr_icmp_ge (pc := 13) 33 dX1_beginsStatement_13 (by decide) (fun c3 => ?_) (fun c3 => ?_)
      · rw [if_pos c3] at h
        refine vr_iconst (pc := 33) 0 dX1_beginsStatement_33 ci_0 ?_
        have h := Option.some.inj h; subst h
        exact vr_iret (pc := 34) .boolean dX1_beginsStatement_34 rfl rfl rfl
      · rw [if_neg c3] at h
        refine vr_aload_n (pc := 16) 0 dX1_beginsStatement_16 rfl rfl ?_
        refine vr_getR (pc := 17) 0 dX1_beginsStatement_17 fi_X1_9 hq0 (sh_1_0 hq0).1 ?_
        refine vr_iload_n (pc := 20) 1 dX1_beginsStatement_20 rfl rfl ?_
        refine vr_iconst (pc := 21) 1 dX1_beginsStatement_21 ci_1 ?_
        refine vr_isub (pc := 22) dX1_beginsStatement_22 ?_
        obtain ⟨hc4, h⟩ := ck_some h
        refine vr_iald (pc := 23) dX1_beginsStatement_23 (sh_1_0 hq0).2 hc4 ?_
        refine vr_bipush (pc := 24) 59 dX1_beginsStatement_24 cb_59 ?_
        refine vr_icmp_ne (pc := 26) 33 dX1_beginsStatement_26 (by decide) (fun c5 => ?_) (fun c5 => ?_)
        · rw [if_neg c5] at h
          refine vr_iconst (pc := 33) 0 dX1_beginsStatement_33 ci_0 ?_
          have h := Option.some.inj h; subst h
          exact vr_iret (pc := 34) .boolean dX1_beginsStatement_34 rfl rfl rfl
        · rw [if_pos c5] at h
          refine vr_iconst (pc := 29) 1 dX1_beginsStatement_29 ci_1 ?_
          refine vr_goto (pc := 30) 34 dX1_beginsStatement_30 (by decide) ?_
          have h := Option.some.inj h; subst h
          exact vr_iret (pc := 34) .boolean dX1_beginsStatement_34 rfl rfl rfl
theorem dX1_number_0 : decode cX1_number 0 = .ok (.iconst 0, 1) := by decide +kernel
theorem dX1_number_1 : decode cX1_number 1 = .ok (.istore_n 3, 1) := by decide +kernel
theorem dX1_number_2 : decode cX1_number 2 = .ok (.iload_n 1, 1) := by decide +kernel
theorem dX1_number_3 : decode cX1_number 3 = .ok (.istore 4, 2) := by decide +kernel
theorem dX1_number_5 : decode cX1_number 5 = .ok (.iload 4, 2) := by decide +kernel
theorem dX1_number_7 : decode cX1_number 7 = .ok (.iload_n 1, 1) := by decide +kernel
theorem dX1_number_8 : decode cX1_number 8 = .ok (.iload_n 2, 1) := by decide +kernel
theorem dX1_number_9 : decode cX1_number 9 = .ok (.iadd, 1) := by decide +kernel
theorem dX1_number_10 : decode cX1_number 10 = .ok (.if_icmp .ge 47, 3) := by decide +kernel
theorem dX1_number_13 : decode cX1_number 13 = .ok (.iload 4, 2) := by decide +kernel
theorem dX1_number_15 : decode cX1_number 15 = .ok (.ifCond .lt 25, 3) := by decide +kernel
theorem dX1_number_18 : decode cX1_number 18 = .ok (.iload 4, 2) := by decide +kernel
theorem dX1_number_20 : decode cX1_number 20 = .ok (.aload_n 0, 1) := by decide +kernel
theorem dX1_number_21 : decode cX1_number 21 = .ok (.getfield 15, 3) := by decide +kernel
theorem dX1_number_24 : decode cX1_number 24 = .ok (.if_icmp .ge 16, 3) := by decide +kernel
theorem dX1_number_27 : decode cX1_number 27 = .ok (.aload_n 0, 1) := by decide +kernel
theorem dX1_number_28 : decode cX1_number 28 = .ok (.getfield 9, 3) := by decide +kernel
theorem dX1_number_31 : decode cX1_number 31 = .ok (.iload 4, 2) := by decide +kernel
theorem dX1_number_33 : decode cX1_number 33 = .ok (.iaload, 1) := by decide +kernel
theorem dX1_number_34 : decode cX1_number 34 = .ok (.bipush 48, 2) := by decide +kernel
theorem dX1_number_36 : decode cX1_number 36 = .ok (.isub, 1) := by decide +kernel
theorem dX1_number_37 : decode cX1_number 37 = .ok (.goto 4, 3) := by decide +kernel
theorem dX1_number_40 : decode cX1_number 40 = .ok (.iconst 0, 1) := by decide +kernel
theorem dX1_number_41 : decode cX1_number 41 = .ok (.istore 5, 2) := by decide +kernel
theorem dX1_number_43 : decode cX1_number 43 = .ok (.iload_n 3, 1) := by decide +kernel
theorem dX1_number_44 : decode cX1_number 44 = .ok (.bipush 10, 2) := by decide +kernel
theorem dX1_number_46 : decode cX1_number 46 = .ok (.imul, 1) := by decide +kernel
theorem dX1_number_47 : decode cX1_number 47 = .ok (.iload 5, 2) := by decide +kernel
theorem dX1_number_49 : decode cX1_number 49 = .ok (.iadd, 1) := by decide +kernel
theorem dX1_number_50 : decode cX1_number 50 = .ok (.istore_n 3, 1) := by decide +kernel
theorem dX1_number_51 : decode cX1_number 51 = .ok (.iinc 4 1, 3) := by decide +kernel
theorem dX1_number_54 : decode cX1_number 54 = .ok (.goto (-49), 3) := by decide +kernel
theorem dX1_number_57 : decode cX1_number 57 = .ok (.iload_n 3, 1) := by decide +kernel
theorem dX1_number_58 : decode cX1_number 58 = .ok (.ireturn, 1) := by decide +kernel
set_option maxRecDepth 20000 in
set_option maxHeartbeats 4000000 in
theorem v_X1_number_L5 (l : Launch) (g : GG) {r : Int32} {σ : SS} {κ : Int32 → Option Int32} (hκ : ∀ (y3 : Int32) , κ y3 = some r → VV l g 0 RX1 cX1_number 6 (some .int) (some (.int r), σ) 57 [(3, .int y3)] [] σ) : ∀ (fu : Nat) (q0 : Nat) (x1 : Int32) (x2 : Int32) (x3 : Int32) (x4 : Int32) (hq0 : kd q0 = 1), f_X1_number_L5 σ κ fu q0 x1 x2 x3 x4 = some r → VV l g 0 RX1 cX1_number 6 (some .int) (some (.int r), σ) 5 [(0, .ref (g.1 q0)), (1, .int x1), (2, .int x2), (3, .int x3), (4, .int x4)] [] σ := by
  intro fu
  induction fu with
  | zero => intro q0 x1 x2 x3 x4 hq0 h; cases h
  | succ fu ih =>
    intro q0 x1 x2 x3 x4 hq0 h
    simp only [f_X1_number_L5] at h
    refine vr_iload (pc := 5) 4 dX1_number_5 rfl ?_
    refine vr_iload_n (pc := 7) 1 dX1_number_7 rfl rfl ?_
    refine vr_iload_n (pc := 8) 2 dX1_number_8 rfl rfl ?_
    refine vr_iadd (pc := 9) dX1_number_9 ?_
    refine vr_icmp_ge (pc := 10) 57 dX1_number_10 (by decide) (fun c1 => ?_) (fun c1 => ?_)
    · rw [if_pos c1] at h
      refine vr_sub [3] [(3, .int x3)] rfl ?_
      exact hκ x3 h
    · rw [if_neg c1] at h
      refine vr_iload (pc := 13) 4 dX1_number_13 rfl ?_
      obtain ⟨j2, ej2, h⟩ := jn1_e h
      have hj2 : ∀ (u4 : Unit) , j2 u4 = some r → VV l g 0 RX1 cX1_number 6 (some .int) (some (.int r), σ) 40 [(0, .ref (g.1 q0)), (1, .int x1), (2, .int x2), (3, .int x3), (4, .int x4)] [] σ := by
        intro u4  h
        rw [ej2] at h
        refine vr_iconst (pc := 40) 0 dX1_number_40 ci_0 ?_
        refine vr_istore (pc := 41) [(5, .int 0), (0, .ref (g.1 q0)), (1, .int x1), (2, .int x2), (3, .int x3), (4, .int x4)] dX1_number_41 (by decide) rfl ?_
        refine vr_iload_n (pc := 43) 4 dX1_number_43 rfl rfl ?_
        refine vr_bipush (pc := 44) 10 dX1_number_44 cb_10 ?_
        refine vr_imul (pc := 46) dX1_number_46 ?_
        refine vr_iload (pc := 47) 0 dX1_number_47 rfl ?_
        refine vr_iadd (pc := 49) dX1_number_49 ?_
        refine vr_istore_n (pc := 50) [(3, .int ((x3 * 10) + 0)), (5, .int 0), (0, .ref (g.1 q0)), (1, .int x1), (2, .int x2), (4, .int x4)] dX1_number_50 rfl (by decide) rfl ?_
        refine vr_iinc (pc := 51) [(4, .int (x4 + 1)), (3, .int ((x3 * 10) + 0)), (5, .int 0), (0, .ref (g.1 q0)), (1, .int x1), (2, .int x2)] 5 dX1_number_51 rfl (congrArg (fun z => x4 + z) ci_1) (by decide) rfl ?_
        refine vr_goto (pc := 54) 5 dX1_number_54 (by decide) ?_
        refine vr_sub [3, 4, 5, 1, 0] [(0, .ref (g.1 q0)), (1, .int x1), (2, .int x2), (3, .int ((x3 * 10) + 0)), (4, .int (x4 + 1))] rfl ?_
        exact ih q0 x1 x2 ((x3 * 10) + 0) (x4 + 1) (hq0) h
      refine vr_if_lt (pc := 15) 40 dX1_number_15 (by decide) (fun c5 => ?_) (fun c5 => ?_)
      · rw [if_pos c5] at h
        exact hj2 () h
      · rw [if_neg c5] at h
        refine vr_iload (pc := 18) 4 dX1_number_18 rfl ?_
        refine vr_aload_n (pc := 20) 0 dX1_number_20 rfl rfl ?_
        refine vr_getI (pc := 21) 1 dX1_number_21 fi_X1_15 hq0 (sh_1_1 hq0) ?_
        refine vr_icmp_ge (pc := 24) 40 dX1_number_24 (by decide) (fun c6 => ?_) (fun c6 => ?_)
        · rw [if_pos c6] at h
          exact hj2 () h
        · rw [if_neg c6] at h
          refine vr_aload_n (pc := 27) 0 dX1_number_27 rfl rfl ?_
          refine vr_getR (pc := 28) 0 dX1_number_28 fi_X1_9 hq0 (sh_1_0 hq0).1 ?_
          refine vr_iload (pc := 31) 4 dX1_number_31 rfl ?_
          obtain ⟨hc7, h⟩ := ck_some h
          refine vr_iald (pc := 33) dX1_number_33 (sh_1_0 hq0).2 hc7 ?_
          refine vr_bipush (pc := 34) 48 dX1_number_34 cb_48 ?_
          refine vr_isub (pc := 36) dX1_number_36 ?_
          refine vr_goto (pc := 37) 41 dX1_number_37 (by decide) ?_
          refine vr_istore (pc := 41) [(5, .int ((σ.1 (rid q0 0) x4.toNatClampNeg) - 48)), (0, .ref (g.1 q0)), (1, .int x1), (2, .int x2), (3, .int x3), (4, .int x4)] dX1_number_41 (by decide) rfl ?_
          refine vr_iload_n (pc := 43) 4 dX1_number_43 rfl rfl ?_
          refine vr_bipush (pc := 44) 10 dX1_number_44 cb_10 ?_
          refine vr_imul (pc := 46) dX1_number_46 ?_
          refine vr_iload (pc := 47) 0 dX1_number_47 rfl ?_
          refine vr_iadd (pc := 49) dX1_number_49 ?_
          refine vr_istore_n (pc := 50) [(3, .int ((x3 * 10) + ((σ.1 (rid q0 0) x4.toNatClampNeg) - 48))), (5, .int ((σ.1 (rid q0 0) x4.toNatClampNeg) - 48)), (0, .ref (g.1 q0)), (1, .int x1), (2, .int x2), (4, .int x4)] dX1_number_50 rfl (by decide) rfl ?_
          refine vr_iinc (pc := 51) [(4, .int (x4 + 1)), (3, .int ((x3 * 10) + ((σ.1 (rid q0 0) x4.toNatClampNeg) - 48))), (5, .int ((σ.1 (rid q0 0) x4.toNatClampNeg) - 48)), (0, .ref (g.1 q0)), (1, .int x1), (2, .int x2)] 5 dX1_number_51 rfl (congrArg (fun z => x4 + z) ci_1) (by decide) rfl ?_
          refine vr_goto (pc := 54) 5 dX1_number_54 (by decide) ?_
          refine vr_sub [3, 4, 5, 1, 0] [(0, .ref (g.1 q0)), (1, .int x1), (2, .int x2), (3, .int ((x3 * 10) + ((σ.1 (rid q0 0) x4.toNatClampNeg) - 48))), (4, .int (x4 + 1))] rfl ?_
          exact ih q0 x1 x2 ((x3 * 10) + ((σ.1 (rid q0 0) x4.toNatClampNeg) - 48)) (x4 + 1) (hq0) h
set_option maxRecDepth 20000 in
set_option maxHeartbeats 4000000 in
theorem s_X1_number (l : Launch) (g : GG) {q0 : Nat} (hq0 : kd q0 = 1) {a1 : Int32} {a2 : Int32} {σ : SS} {r : Int32} (h : f_X1_number q0 a1 a2 σ = some r) : CT l g 0 yX1_number cX1_number 6 (some .int) [.ref (g.1 q0), .int a1, .int a2] σ (some (.int r), σ) := by
  refine CT.of (lv := [(0, .ref (g.1 q0)), (1, .int a1), (2, .int a2)]) RX1 (by decide +kernel) rfl (Nat.le_of_ble_eq_true rfl) rfl ?_
  unfold f_X1_number at h
  refine vr_iconst (pc := 0) 0 dX1_number_0 ci_0 ?_
  refine vr_istore_n (pc := 1) [(3, .int 0), (0, .ref (g.1 q0)), (1, .int a1), (2, .int a2)] dX1_number_1 rfl (by decide) rfl ?_
  refine vr_iload_n (pc := 2) 2 dX1_number_2 rfl rfl ?_
  refine vr_istore (pc := 3) [(4, .int a1), (3, .int 0), (0, .ref (g.1 q0)), (1, .int a1), (2, .int a2)] dX1_number_3 (by decide) rfl ?_
  refine vr_sub [2, 3, 4, 1, 0] [(0, .ref (g.1 q0)), (1, .int a1), (2, .int a2), (3, .int 0), (4, .int a1)] rfl ?_
  refine v_X1_number_L5 l g (fun y3 h => ?_) FU q0 a1 a2 0 a1 (hq0) h
  refine vr_iload_n (pc := 57) 0 dX1_number_57 rfl rfl ?_
  have h := Option.some.inj h; subst h
  exact vr_iret (pc := 58) .int dX1_number_58 rfl rfl rfl
theorem dX1_ringComes_0 : decode cX1_ringComes 0 = .ok (.aload_n 0, 1) := by decide +kernel
theorem dX1_ringComes_1 : decode cX1_ringComes 1 = .ok (.iload_n 1, 1) := by decide +kernel
theorem dX1_ringComes_2 : decode cX1_ringComes 2 = .ok (.invokevirtual 44, 3) := by decide +kernel
theorem dX1_ringComes_5 : decode cX1_ringComes 5 = .ok (.istore_n 2, 1) := by decide +kernel
theorem dX1_ringComes_6 : decode cX1_ringComes 6 = .ok (.aload_n 0, 1) := by decide +kernel
theorem dX1_ringComes_7 : decode cX1_ringComes 7 = .ok (.iload_n 1, 1) := by decide +kernel
theorem dX1_ringComes_8 : decode cX1_ringComes 8 = .ok (.invokevirtual 50, 3) := by decide +kernel
theorem dX1_ringComes_11 : decode cX1_ringComes 11 = .ok (.iload_n 2, 1) := by decide +kernel
theorem dX1_ringComes_12 : decode cX1_ringComes 12 = .ok (.ireturn, 1) := by decide +kernel
set_option maxRecDepth 20000 in
set_option maxHeartbeats 4000000 in
theorem s_X1_ringComes (l : Launch) (g : GG) {q0 : Nat} (hq0 : kd q0 = 3) {a1 : Int32} {σ : SS} {r : Int32 × SS} (h : f_X1_ringComes q0 a1 σ = some r) : CT l g 2 yX1_ringComes cX1_ringComes 3 (some .boolean) [.ref (g.1 q0), .int a1] σ (some (.int r.1), r.2) := by
  refine CT.of (lv := [(0, .ref (g.1 q0)), (1, .int a1)]) RX1 (by decide +kernel) rfl (Nat.le_of_ble_eq_true rfl) rfl ?_
  unfold f_X1_ringComes at h
  refine vr_aload_n (pc := 0) 0 dX1_ringComes_0 rfl rfl ?_
  refine vr_iload_n (pc := 1) 1 dX1_ringComes_1 rfl rfl ?_
  obtain ⟨z1, hz2, h⟩ := ob_some h
  refine vr_callV (pc := 2) (ρ1 := (some (.int z1), σ)) [.int a1] dX1_ringComes_2 (s_X4_canHave l g (hq0) hz2) cw_X4_canHave ml_X1_44 hq0 rfl (by decide) (by decide) rfl rfl (Nat.le_of_ble_eq_true rfl) ?_
  refine vr_istore_n (pc := 5) [(2, .int z1), (0, .ref (g.1 q0)), (1, .int a1)] dX1_ringComes_5 rfl (by decide) rfl ?_
  refine vr_aload_n (pc := 6) 1 dX1_ringComes_6 rfl rfl ?_
  refine vr_iload_n (pc := 7) 2 dX1_ringComes_7 rfl rfl ?_
  obtain ⟨z3, hz4, h⟩ := ob_some h
  refine vr_callV (pc := 8) (ρ1 := (none, z3)) [.int a1] dX1_ringComes_8 (s_X4_renew l g (hq0) hz4) cw_X4_renew ml_X1_50 hq0 rfl (by decide) (by decide) rfl rfl (Nat.le_of_ble_eq_true rfl) ?_
  refine vr_iload_n (pc := 11) 0 dX1_ringComes_11 rfl rfl ?_
  obtain ⟨hb, h⟩ := ck_some h
  have h := Option.some.inj h; subst h
  exact vr_iret (pc := 12) .boolean dX1_ringComes_12 rfl (nar_b hb) rfl
theorem dX1_wheelComes_0 : decode cX1_wheelComes 0 = .ok (.aload_n 0, 1) := by decide +kernel
theorem dX1_wheelComes_1 : decode cX1_wheelComes 1 = .ok (.iload_n 2, 1) := by decide +kernel
theorem dX1_wheelComes_2 : decode cX1_wheelComes 2 = .ok (.iconst 1, 1) := by decide +kernel
theorem dX1_wheelComes_3 : decode cX1_wheelComes 3 = .ok (.iadd, 1) := by decide +kernel
theorem dX1_wheelComes_4 : decode cX1_wheelComes 4 = .ok (.iconst 1, 1) := by decide +kernel
theorem dX1_wheelComes_5 : decode cX1_wheelComes 5 = .ok (.invokevirtual 23, 3) := by decide +kernel
theorem dX1_wheelComes_8 : decode cX1_wheelComes 8 = .ok (.istore_n 3, 1) := by decide +kernel
theorem dX1_wheelComes_9 : decode cX1_wheelComes 9 = .ok (.aload_n 0, 1) := by decide +kernel
theorem dX1_wheelComes_10 : decode cX1_wheelComes 10 = .ok (.iload_n 2, 1) := by decide +kernel
theorem dX1_wheelComes_11 : decode cX1_wheelComes 11 = .ok (.iconst 2, 1) := by decide +kernel
theorem dX1_wheelComes_12 : decode cX1_wheelComes 12 = .ok (.iadd, 1) := by decide +kernel
theorem dX1_wheelComes_13 : decode cX1_wheelComes 13 = .ok (.iconst 2, 1) := by decide +kernel
theorem dX1_wheelComes_14 : decode cX1_wheelComes 14 = .ok (.invokevirtual 23, 3) := by decide +kernel
theorem dX1_wheelComes_17 : decode cX1_wheelComes 17 = .ok (.istore 4, 2) := by decide +kernel
theorem dX1_wheelComes_19 : decode cX1_wheelComes 19 = .ok (.aload_n 0, 1) := by decide +kernel
theorem dX1_wheelComes_20 : decode cX1_wheelComes 20 = .ok (.iload_n 2, 1) := by decide +kernel
theorem dX1_wheelComes_21 : decode cX1_wheelComes 21 = .ok (.iconst 4, 1) := by decide +kernel
theorem dX1_wheelComes_22 : decode cX1_wheelComes 22 = .ok (.iadd, 1) := by decide +kernel
theorem dX1_wheelComes_23 : decode cX1_wheelComes 23 = .ok (.iconst 1, 1) := by decide +kernel
theorem dX1_wheelComes_24 : decode cX1_wheelComes 24 = .ok (.invokevirtual 23, 3) := by decide +kernel
theorem dX1_wheelComes_27 : decode cX1_wheelComes 27 = .ok (.istore 5, 2) := by decide +kernel
theorem dX1_wheelComes_29 : decode cX1_wheelComes 29 = .ok (.aload_n 0, 1) := by decide +kernel
theorem dX1_wheelComes_30 : decode cX1_wheelComes 30 = .ok (.iload_n 2, 1) := by decide +kernel
theorem dX1_wheelComes_31 : decode cX1_wheelComes 31 = .ok (.iconst 5, 1) := by decide +kernel
theorem dX1_wheelComes_32 : decode cX1_wheelComes 32 = .ok (.iadd, 1) := by decide +kernel
theorem dX1_wheelComes_33 : decode cX1_wheelComes 33 = .ok (.iconst 2, 1) := by decide +kernel
theorem dX1_wheelComes_34 : decode cX1_wheelComes 34 = .ok (.invokevirtual 23, 3) := by decide +kernel
theorem dX1_wheelComes_37 : decode cX1_wheelComes 37 = .ok (.istore 6, 2) := by decide +kernel
theorem dX1_wheelComes_39 : decode cX1_wheelComes 39 = .ok (.aload_n 0, 1) := by decide +kernel
theorem dX1_wheelComes_40 : decode cX1_wheelComes 40 = .ok (.iload_n 2, 1) := by decide +kernel
theorem dX1_wheelComes_41 : decode cX1_wheelComes 41 = .ok (.bipush 7, 2) := by decide +kernel
theorem dX1_wheelComes_43 : decode cX1_wheelComes 43 = .ok (.iadd, 1) := by decide +kernel
theorem dX1_wheelComes_44 : decode cX1_wheelComes 44 = .ok (.iconst 1, 1) := by decide +kernel
theorem dX1_wheelComes_45 : decode cX1_wheelComes 45 = .ok (.invokevirtual 23, 3) := by decide +kernel
theorem dX1_wheelComes_48 : decode cX1_wheelComes 48 = .ok (.istore 7, 2) := by decide +kernel
theorem dX1_wheelComes_50 : decode cX1_wheelComes 50 = .ok (.aload_n 1, 1) := by decide +kernel
theorem dX1_wheelComes_51 : decode cX1_wheelComes 51 = .ok (.iload_n 3, 1) := by decide +kernel
theorem dX1_wheelComes_52 : decode cX1_wheelComes 52 = .ok (.iload 4, 2) := by decide +kernel
theorem dX1_wheelComes_54 : decode cX1_wheelComes 54 = .ok (.iload 5, 2) := by decide +kernel
theorem dX1_wheelComes_56 : decode cX1_wheelComes 56 = .ok (.iload 6, 2) := by decide +kernel
theorem dX1_wheelComes_58 : decode cX1_wheelComes 58 = .ok (.iload 7, 2) := by decide +kernel
theorem dX1_wheelComes_60 : decode cX1_wheelComes 60 = .ok (.invokevirtual 54, 3) := by decide +kernel
theorem dX1_wheelComes_63 : decode cX1_wheelComes 63 = .ok (.ifCond .eq 5, 3) := by decide +kernel
theorem dX1_wheelComes_66 : decode cX1_wheelComes 66 = .ok (.iconst 0, 1) := by decide +kernel
theorem dX1_wheelComes_67 : decode cX1_wheelComes 67 = .ok (.ireturn, 1) := by decide +kernel
theorem dX1_wheelComes_68 : decode cX1_wheelComes 68 = .ok (.aload_n 1, 1) := by decide +kernel
theorem dX1_wheelComes_69 : decode cX1_wheelComes 69 = .ok (.iload_n 3, 1) := by decide +kernel
theorem dX1_wheelComes_70 : decode cX1_wheelComes 70 = .ok (.iload 4, 2) := by decide +kernel
theorem dX1_wheelComes_72 : decode cX1_wheelComes 72 = .ok (.iload 5, 2) := by decide +kernel
theorem dX1_wheelComes_74 : decode cX1_wheelComes 74 = .ok (.iload 6, 2) := by decide +kernel
theorem dX1_wheelComes_76 : decode cX1_wheelComes 76 = .ok (.iload 7, 2) := by decide +kernel
theorem dX1_wheelComes_78 : decode cX1_wheelComes 78 = .ok (.invokevirtual 58, 3) := by decide +kernel
theorem dX1_wheelComes_81 : decode cX1_wheelComes 81 = .ok (.iconst 1, 1) := by decide +kernel
theorem dX1_wheelComes_82 : decode cX1_wheelComes 82 = .ok (.ireturn, 1) := by decide +kernel
set_option maxRecDepth 20000 in
set_option maxHeartbeats 4000000 in
theorem s_X1_wheelComes (l : Launch) (g : GG) {q0 : Nat} (hq0 : kd q0 = 1) {q1 : Nat} (hq1 : kd q1 = 3) {a2 : Int32} {σ : SS} {r : Int32 × SS} (h : f_X1_wheelComes q0 q1 a2 σ = some r) : CT l g 2 yX1_wheelComes cX1_wheelComes 8 (some .boolean) [.ref (g.1 q0), .ref (g.1 q1), .int a2] σ (some (.int r.1), r.2) := by
  refine CT.of (lv := [(0, .ref (g.1 q0)), (1, .ref (g.1 q1)), (2, .int a2)]) RX1 (by decide +kernel) rfl (Nat.le_of_ble_eq_true rfl) rfl ?_
  unfold f_X1_wheelComes at h
  refine vr_aload_n (pc := 0) 0 dX1_wheelComes_0 rfl rfl ?_
  refine vr_iload_n (pc := 1) 2 dX1_wheelComes_1 rfl rfl ?_
  refine vr_iconst (pc := 2) 1 dX1_wheelComes_2 ci_1 ?_
  refine vr_iadd (pc := 3) dX1_wheelComes_3 ?_
  refine vr_iconst (pc := 4) 1 dX1_wheelComes_4 ci_1 ?_
  obtain ⟨z1, hz2, h⟩ := ob_some h
  refine vr_callV (pc := 5) (ρ1 := (some (.int z1), σ)) [.int (a2 + 1), .int 1] dX1_wheelComes_5 (s_X1_number l g (hq0) hz2) cw_X1_number ml_X1_23 hq0 rfl (by decide) (by decide) rfl rfl (Nat.le_of_ble_eq_true rfl) ?_
  refine vr_istore_n (pc := 8) [(3, .int z1), (0, .ref (g.1 q0)), (1, .ref (g.1 q1)), (2, .int a2)] dX1_wheelComes_8 rfl (by decide) rfl ?_
  refine vr_aload_n (pc := 9) 1 dX1_wheelComes_9 rfl rfl ?_
  refine vr_iload_n (pc := 10) 3 dX1_wheelComes_10 rfl rfl ?_
  refine vr_iconst (pc := 11) 2 dX1_wheelComes_11 ci_2 ?_
  refine vr_iadd (pc := 12) dX1_wheelComes_12 ?_
  refine vr_iconst (pc := 13) 2 dX1_wheelComes_13 ci_2 ?_
  obtain ⟨z3, hz4, h⟩ := ob_some h
  refine vr_callV (pc := 14) (ρ1 := (some (.int z3), σ)) [.int (a2 + 2), .int 2] dX1_wheelComes_14 (s_X1_number l g (hq0) hz4) cw_X1_number ml_X1_23 hq0 rfl (by decide) (by decide) rfl rfl (Nat.le_of_ble_eq_true rfl) ?_
  refine vr_istore (pc := 17) [(4, .int z3), (3, .int z1), (0, .ref (g.1 q0)), (1, .ref (g.1 q1)), (2, .int a2)] dX1_wheelComes_17 (by decide) rfl ?_
  refine vr_aload_n (pc := 19) 2 dX1_wheelComes_19 rfl rfl ?_
  refine vr_iload_n (pc := 20) 4 dX1_wheelComes_20 rfl rfl ?_
  refine vr_iconst (pc := 21) 4 dX1_wheelComes_21 ci_4 ?_
  refine vr_iadd (pc := 22) dX1_wheelComes_22 ?_
  refine vr_iconst (pc := 23) 1 dX1_wheelComes_23 ci_1 ?_
  obtain ⟨z5, hz6, h⟩ := ob_some h
  refine vr_callV (pc := 24) (ρ1 := (some (.int z5), σ)) [.int (a2 + 4), .int 1] dX1_wheelComes_24 (s_X1_number l g (hq0) hz6) cw_X1_number ml_X1_23 hq0 rfl (by decide) (by decide) rfl rfl (Nat.le_of_ble_eq_true rfl) ?_
  refine vr_istore (pc := 27) [(5, .int z5), (4, .int z3), (3, .int z1), (0, .ref (g.1 q0)), (1, .ref (g.1 q1)), (2, .int a2)] dX1_wheelComes_27 (by decide) rfl ?_
  refine vr_aload_n (pc := 29) 3 dX1_wheelComes_29 rfl rfl ?_
  refine vr_iload_n (pc := 30) 5 dX1_wheelComes_30 rfl rfl ?_
  refine vr_iconst (pc := 31) 5 dX1_wheelComes_31 ci_5 ?_
  refine vr_iadd (pc := 32) dX1_wheelComes_32 ?_
  refine vr_iconst (pc := 33) 2 dX1_wheelComes_33 ci_2 ?_
  obtain ⟨z7, hz8, h⟩ := ob_some h
  refine vr_callV (pc := 34) (ρ1 := (some (.int z7), σ)) [.int (a2 + 5), .int 2] dX1_wheelComes_34 (s_X1_number l g (hq0) hz8) cw_X1_number ml_X1_23 hq0 rfl (by decide) (by decide) rfl rfl (Nat.le_of_ble_eq_true rfl) ?_
  refine vr_istore (pc := 37) [(6, .int z7), (5, .int z5), (4, .int z3), (3, .int z1), (0, .ref (g.1 q0)), (1, .ref (g.1 q1)), (2, .int a2)] dX1_wheelComes_37 (by decide) rfl ?_
  refine vr_aload_n (pc := 39) 4 dX1_wheelComes_39 rfl rfl ?_
  refine vr_iload_n (pc := 40) 6 dX1_wheelComes_40 rfl rfl ?_
  refine vr_bipush (pc := 41) 7 dX1_wheelComes_41 cb_7 ?_
  refine vr_iadd (pc := 43) dX1_wheelComes_43 ?_
  refine vr_iconst (pc := 44) 1 dX1_wheelComes_44 ci_1 ?_
  obtain ⟨z9, hz10, h⟩ := ob_some h
  refine vr_callV (pc := 45) (ρ1 := (some (.int z9), σ)) [.int (a2 + 7), .int 1] dX1_wheelComes_45 (s_X1_number l g (hq0) hz10) cw_X1_number ml_X1_23 hq0 rfl (by decide) (by decide) rfl rfl (Nat.le_of_ble_eq_true rfl) ?_
  refine vr_istore (pc := 48) [(7, .int z9), (6, .int z7), (5, .int z5), (4, .int z3), (3, .int z1), (0, .ref (g.1 q0)), (1, .ref (g.1 q1)), (2, .int a2)] dX1_wheelComes_48 (by decide) rfl ?_
  refine vr_aload_n (pc := 50) 6 dX1_wheelComes_50 rfl rfl ?_
  refine vr_iload_n (pc := 51) 4 dX1_wheelComes_51 rfl rfl ?_
  refine vr_iload (pc := 52) 3 dX1_wheelComes_52 rfl ?_
  refine vr_iload (pc := 54) 2 dX1_wheelComes_54 rfl ?_
  refine vr_iload (pc := 56) 1 dX1_wheelComes_56 rfl ?_
  refine vr_iload (pc := 58) 0 dX1_wheelComes_58 rfl ?_
  refine vr_callV (pc := 60) (ρ1 := (some (.int (f_X4_refusalOfWheel q1 z1 z3 z5 z7 z9 σ)), σ)) [.int z1, .int z3, .int z5, .int z7, .int z9] dX1_wheelComes_60 (s_X4_refusalOfWheel l g (hq1) rfl) cw_X4_refusalOfWheel ml_X1_54 hq1 rfl (by decide) (by decide) rfl rfl (Nat.le_of_ble_eq_true rfl) ?_
  refine vr_if_eq (pc := 63) 68 dX1_wheelComes_63 (by decide) (fun c11 => ?_) (fun c11 => ?_)
  · rw [if_pos c11] at h
    refine vr_aload_n (pc := 68) 6 dX1_wheelComes_68 rfl rfl ?_
    refine vr_iload_n (pc := 69) 4 dX1_wheelComes_69 rfl rfl ?_
    refine vr_iload (pc := 70) 3 dX1_wheelComes_70 rfl ?_
    refine vr_iload (pc := 72) 2 dX1_wheelComes_72 rfl ?_
    refine vr_iload (pc := 74) 1 dX1_wheelComes_74 rfl ?_
    refine vr_iload (pc := 76) 0 dX1_wheelComes_76 rfl ?_
    obtain ⟨z12, hz13, h⟩ := ob_some h
    refine vr_callV (pc := 78) (ρ1 := (none, z12)) [.int z1, .int z3, .int z5, .int z7, .int z9] dX1_wheelComes_78 (s_X4_addWheel l g (hq1) hz13) cw_X4_addWheel ml_X1_58 hq1 rfl (by decide) (by decide) rfl rfl (Nat.le_of_ble_eq_true rfl) ?_
    refine vr_iconst (pc := 81) 1 dX1_wheelComes_81 ci_1 ?_
    have h := Option.some.inj h; subst h
    exact vr_iret (pc := 82) .boolean dX1_wheelComes_82 rfl rfl rfl
  · rw [if_neg c11] at h
    refine vr_iconst (pc := 66) 0 dX1_wheelComes_66 ci_0 ?_
    have h := Option.some.inj h; subst h
    exact vr_iret (pc := 67) .boolean dX1_wheelComes_67 rfl rfl rfl
theorem dX1_wearComes_0 : decode cX1_wearComes 0 = .ok (.aload_n 0, 1) := by decide +kernel
theorem dX1_wearComes_1 : decode cX1_wearComes 1 = .ok (.iload_n 1, 1) := by decide +kernel
theorem dX1_wearComes_2 : decode cX1_wearComes 2 = .ok (.invokevirtual 62, 3) := by decide +kernel
theorem dX1_wearComes_5 : decode cX1_wearComes 5 = .ok (.aload_n 0, 1) := by decide +kernel
theorem dX1_wearComes_6 : decode cX1_wearComes 6 = .ok (.iload_n 1, 1) := by decide +kernel
theorem dX1_wearComes_7 : decode cX1_wearComes 7 = .ok (.invokevirtual 65, 3) := by decide +kernel
theorem dX1_wearComes_10 : decode cX1_wearComes 10 = .ok (.ireturn, 1) := by decide +kernel
set_option maxRecDepth 20000 in
set_option maxHeartbeats 4000000 in
theorem s_X1_wearComes (l : Launch) (g : GG) {q0 : Nat} (hq0 : kd q0 = 3) {a1 : Int32} {σ : SS} {r : Int32 × SS} (h : f_X1_wearComes q0 a1 σ = some r) : CT l g 2 yX1_wearComes cX1_wearComes 2 (some .boolean) [.ref (g.1 q0), .int a1] σ (some (.int r.1), r.2) := by
  refine CT.of (lv := [(0, .ref (g.1 q0)), (1, .int a1)]) RX1 (by decide +kernel) rfl (Nat.le_of_ble_eq_true rfl) rfl ?_
  unfold f_X1_wearComes at h
  refine vr_aload_n (pc := 0) 0 dX1_wearComes_0 rfl rfl ?_
  refine vr_iload_n (pc := 1) 1 dX1_wearComes_1 rfl rfl ?_
  obtain ⟨z1, hz2, h⟩ := ob_some h
  refine vr_callV (pc := 2) (ρ1 := (none, z1)) [.int a1] dX1_wearComes_2 (s_X4_wearOrMend l g (hq0) hz2) cw_X4_wearOrMend ml_X1_62 hq0 rfl (by decide) (by decide) rfl rfl (Nat.le_of_ble_eq_true rfl) ?_
  refine vr_aload_n (pc := 5) 0 dX1_wearComes_5 rfl rfl ?_
  refine vr_iload_n (pc := 6) 1 dX1_wearComes_6 rfl rfl ?_
  refine vr_callV (pc := 7) (ρ1 := (some (.int (f_X4_isTooth q0 a1 z1)), z1)) [.int a1] dX1_wearComes_7 (s_X4_isTooth l g (hq0) rfl) cw_X4_isTooth ml_X1_65 hq0 rfl (by decide) (by decide) rfl rfl (Nat.le_of_ble_eq_true rfl) ?_
  have h := Option.some.inj h; subst h
  exact vr_iret (pc := 10) .boolean dX1_wearComes_10 rfl (nar_b (b_X4_isTooth q0 a1 z1)) rfl
theorem dX1_placeComes_0 : decode cX1_placeComes 0 = .ok (.aload_n 0, 1) := by decide +kernel
theorem dX1_placeComes_1 : decode cX1_placeComes 1 = .ok (.iload_n 1, 1) := by decide +kernel
theorem dX1_placeComes_2 : decode cX1_placeComes 2 = .ok (.invokevirtual 68, 3) := by decide +kernel
theorem dX1_placeComes_5 : decode cX1_placeComes 5 = .ok (.astore_n 3, 1) := by decide +kernel
theorem dX1_placeComes_6 : decode cX1_placeComes 6 = .ok (.aload_n 3, 1) := by decide +kernel
theorem dX1_placeComes_7 : decode cX1_placeComes 7 = .ok (.ifnull 11, 3) := by decide +kernel
theorem dX1_placeComes_10 : decode cX1_placeComes 10 = .ok (.aload_n 0, 1) := by decide +kernel
theorem dX1_placeComes_11 : decode cX1_placeComes 11 = .ok (.iload_n 2, 1) := by decide +kernel
theorem dX1_placeComes_12 : decode cX1_placeComes 12 = .ok (.invokevirtual 65, 3) := by decide +kernel
theorem dX1_placeComes_15 : decode cX1_placeComes 15 = .ok (.ifCond .ne 5, 3) := by decide +kernel
theorem dX1_placeComes_18 : decode cX1_placeComes 18 = .ok (.iconst 0, 1) := by decide +kernel
theorem dX1_placeComes_19 : decode cX1_placeComes 19 = .ok (.ireturn, 1) := by decide +kernel
theorem dX1_placeComes_20 : decode cX1_placeComes 20 = .ok (.aload_n 3, 1) := by decide +kernel
theorem dX1_placeComes_21 : decode cX1_placeComes 21 = .ok (.iload_n 2, 1) := by decide +kernel
theorem dX1_placeComes_22 : decode cX1_placeComes 22 = .ok (.putfield 72, 3) := by decide +kernel
theorem dX1_placeComes_25 : decode cX1_placeComes 25 = .ok (.iconst 1, 1) := by decide +kernel
theorem dX1_placeComes_26 : decode cX1_placeComes 26 = .ok (.ireturn, 1) := by decide +kernel
set_option maxRecDepth 20000 in
set_option maxHeartbeats 4000000 in
theorem s_X1_placeComes (l : Launch) (g : GG) {q0 : Nat} (hq0 : kd q0 = 3) {a1 : Int32} {a2 : Int32} {σ : SS} {r : Int32 × SS} (h : f_X1_placeComes q0 a1 a2 σ = some r) : CT l g 1 yX1_placeComes cX1_placeComes 4 (some .boolean) [.ref (g.1 q0), .int a1, .int a2] σ (some (.int r.1), r.2) := by
  refine CT.of (lv := [(0, .ref (g.1 q0)), (1, .int a1), (2, .int a2)]) RX1 (by decide +kernel) rfl (Nat.le_of_ble_eq_true rfl) rfl ?_
  unfold f_X1_placeComes at h
  refine vr_aload_n (pc := 0) 0 dX1_placeComes_0 rfl rfl ?_
  refine vr_iload_n (pc := 1) 1 dX1_placeComes_1 rfl rfl ?_
  obtain ⟨z1, hz2, h⟩ := ob_some h
  refine vr_callV (pc := 2) (ρ1 := (some (rvO g z1), σ)) [.int a1] dX1_placeComes_2 (s_X4_wheelAt l g (hq0) hz2) cw_X4_wheelAt ml_X1_68 hq0 rfl (by decide) (by decide) rfl rfl (Nat.le_of_ble_eq_true rfl) ?_
  refine vr_astore_nO (pc := 5) [(3, rvO g z1), (0, .ref (g.1 q0)), (1, .int a1), (2, .int a2)] dX1_placeComes_5 rfl (by decide) rfl ?_
  refine vr_aload_nO (pc := 6) 0 dX1_placeComes_6 rfl rfl ?_
  refine vr_ifnull (pc := 7) 18 dX1_placeComes_7 (by decide) (fun hn6 => ?_) (fun w3 hw4 => ?_)
  · simp only [hn6] at h
    refine vr_sub [1, 2, 3] [(0, .ref (g.1 q0)), (1, .int a1), (2, .int a2)] rfl ?_
    refine vr_iconst (pc := 18) 0 dX1_placeComes_18 ci_0 ?_
    have h := Option.some.inj h; subst h
    exact vr_iret (pc := 19) .boolean dX1_placeComes_19 rfl rfl rfl
  · simp only [hw4] at h
    refine vr_sub [0, 1, 2, 3] [(3, .ref (g.1 w3)), (0, .ref (g.1 q0)), (1, .int a1), (2, .int a2)] (by rw [hw4]; rfl) ?_
    refine vr_aload_n (pc := 10) 1 dX1_placeComes_10 rfl rfl ?_
    refine vr_iload_n (pc := 11) 3 dX1_placeComes_11 rfl rfl ?_
    refine vr_callV (pc := 12) (ρ1 := (some (.int (f_X4_isTooth q0 a2 σ)), σ)) [.int a2] dX1_placeComes_12 (s_X4_isTooth l g (hq0) rfl) cw_X4_isTooth ml_X1_65 hq0 rfl (by decide) (by decide) rfl rfl (Nat.le_of_ble_eq_true rfl) ?_
    refine vr_if_ne (pc := 15) 20 dX1_placeComes_15 (by decide) (fun c5 => ?_) (fun c5 => ?_)
    · rw [if_neg c5] at h
      refine vr_aload_n (pc := 20) 0 dX1_placeComes_20 rfl rfl ?_
      refine vr_iload_n (pc := 21) 3 dX1_placeComes_21 rfl rfl ?_
      refine vr_putI (pc := 22) 4 dX1_placeComes_22 fi_X1_72 (fw_6_4 _) ((kf_X4_wheelAt hz2 (hq0)) w3 hw4) (sh_6_4 ((kf_X4_wheelAt hz2 (hq0)) w3 hw4)) ?_
      refine vr_iconst (pc := 25) 1 dX1_placeComes_25 ci_1 ?_
      have h := Option.some.inj h; subst h
      exact vr_iret (pc := 26) .boolean dX1_placeComes_26 rfl rfl rfl
    · rw [if_pos c5] at h
      refine vr_iconst (pc := 18) 0 dX1_placeComes_18 ci_0 ?_
      have h := Option.some.inj h; subst h
      exact vr_iret (pc := 19) .boolean dX1_placeComes_19 rfl rfl rfl
theorem dX1_rollComes_0 : decode cX1_rollComes 0 = .ok (.aload_n 0, 1) := by decide +kernel
theorem dX1_rollComes_1 : decode cX1_rollComes 1 = .ok (.iload_n 1, 1) := by decide +kernel
theorem dX1_rollComes_2 : decode cX1_rollComes 2 = .ok (.invokevirtual 68, 3) := by decide +kernel
theorem dX1_rollComes_5 : decode cX1_rollComes 5 = .ok (.astore_n 3, 1) := by decide +kernel
theorem dX1_rollComes_6 : decode cX1_rollComes 6 = .ok (.aload_n 3, 1) := by decide +kernel
theorem dX1_rollComes_7 : decode cX1_rollComes 7 = .ok (.ifnull 14, 3) := by decide +kernel
theorem dX1_rollComes_10 : decode cX1_rollComes 10 = .ok (.iload_n 2, 1) := by decide +kernel
theorem dX1_rollComes_11 : decode cX1_rollComes 11 = .ok (.iconst 1, 1) := by decide +kernel
theorem dX1_rollComes_12 : decode cX1_rollComes 12 = .ok (.if_icmp .lt 9, 3) := by decide +kernel
theorem dX1_rollComes_15 : decode cX1_rollComes 15 = .ok (.iload_n 2, 1) := by decide +kernel
theorem dX1_rollComes_16 : decode cX1_rollComes 16 = .ok (.bipush 40, 2) := by decide +kernel
theorem dX1_rollComes_18 : decode cX1_rollComes 18 = .ok (.if_icmp .le 5, 3) := by decide +kernel
theorem dX1_rollComes_21 : decode cX1_rollComes 21 = .ok (.iconst 0, 1) := by decide +kernel
theorem dX1_rollComes_22 : decode cX1_rollComes 22 = .ok (.ireturn, 1) := by decide +kernel
theorem dX1_rollComes_23 : decode cX1_rollComes 23 = .ok (.aload_n 0, 1) := by decide +kernel
theorem dX1_rollComes_24 : decode cX1_rollComes 24 = .ok (.aload_n 3, 1) := by decide +kernel
theorem dX1_rollComes_25 : decode cX1_rollComes 25 = .ok (.iload_n 2, 1) := by decide +kernel
theorem dX1_rollComes_26 : decode cX1_rollComes 26 = .ok (.invokevirtual 77, 3) := by decide +kernel
theorem dX1_rollComes_29 : decode cX1_rollComes 29 = .ok (.iconst 1, 1) := by decide +kernel
theorem dX1_rollComes_30 : decode cX1_rollComes 30 = .ok (.ireturn, 1) := by decide +kernel
set_option maxRecDepth 20000 in
set_option maxHeartbeats 4000000 in
theorem s_X1_rollComes (l : Launch) (g : GG) {q0 : Nat} (hq0 : kd q0 = 3) {a1 : Int32} {a2 : Int32} {σ : SS} {r : Int32 × SS} (h : f_X1_rollComes q0 a1 a2 σ = some r) : CT l g 4 yX1_rollComes cX1_rollComes 4 (some .boolean) [.ref (g.1 q0), .int a1, .int a2] σ (some (.int r.1), r.2) := by
  refine CT.of (lv := [(0, .ref (g.1 q0)), (1, .int a1), (2, .int a2)]) RX1 (by decide +kernel) rfl (Nat.le_of_ble_eq_true rfl) rfl ?_
  unfold f_X1_rollComes at h
  refine vr_aload_n (pc := 0) 0 dX1_rollComes_0 rfl rfl ?_
  refine vr_iload_n (pc := 1) 1 dX1_rollComes_1 rfl rfl ?_
  obtain ⟨z1, hz2, h⟩ := ob_some h
  refine vr_callV (pc := 2) (ρ1 := (some (rvO g z1), σ)) [.int a1] dX1_rollComes_2 (s_X4_wheelAt l g (hq0) hz2) cw_X4_wheelAt ml_X1_68 hq0 rfl (by decide) (by decide) rfl rfl (Nat.le_of_ble_eq_true rfl) ?_
  refine vr_astore_nO (pc := 5) [(3, rvO g z1), (0, .ref (g.1 q0)), (1, .int a1), (2, .int a2)] dX1_rollComes_5 rfl (by decide) rfl ?_
  refine vr_aload_nO (pc := 6) 0 dX1_rollComes_6 rfl rfl ?_
  refine vr_ifnull (pc := 7) 21 dX1_rollComes_7 (by decide) (fun hn9 => ?_) (fun w3 hw4 => ?_)
  · simp only [hn9] at h
    refine vr_sub [1, 2, 3] [(0, .ref (g.1 q0)), (1, .int a1), (2, .int a2)] rfl ?_
    refine vr_iconst (pc := 21) 0 dX1_rollComes_21 ci_0 ?_
    have h := Option.some.inj h; subst h
    exact vr_iret (pc := 22) .boolean dX1_rollComes_22 rfl rfl rfl
  · simp only [hw4] at h
    refine vr_sub [0, 1, 2, 3] [(3, .ref (g.1 w3)), (0, .ref (g.1 q0)), (1, .int a1), (2, .int a2)] (by rw [hw4]; rfl) ?_
    refine vr_iload_n (pc := 10) 3 dX1_rollComes_10 rfl rfl ?_
    refine vr_iconst (pc := 11) 1 dX1_rollComes_11 ci_1 ?_
    refine vr_icmp_lt (pc := 12) 21 dX1_rollComes_12 (by decide) (fun c5 => ?_) (fun c5 => ?_)
    · rw [if_pos c5] at h
      refine vr_iconst (pc := 21) 0 dX1_rollComes_21 ci_0 ?_
      have h := Option.some.inj h; subst h
      exact vr_iret (pc := 22) .boolean dX1_rollComes_22 rfl rfl rfl
    · rw [if_neg c5] at h
      refine vr_iload_n (pc := 15) 3 dX1_rollComes_15 rfl rfl ?_
      refine vr_bipush (pc := 16) 40 dX1_rollComes_16 cb_40 ?_
      refine vr_icmp_le (pc := 18) 23 dX1_rollComes_18 (by decide) (fun c6 => ?_) (fun c6 => ?_)
      · rw [if_pos c6] at h
        refine vr_aload_n (pc := 23) 1 dX1_rollComes_23 rfl rfl ?_
        refine vr_aload_n (pc := 24) 0 dX1_rollComes_24 rfl rfl ?_
        refine vr_iload_n (pc := 25) 3 dX1_rollComes_25 rfl rfl ?_
        obtain ⟨z7, hz8, h⟩ := ob_some h
        refine vr_callV (pc := 26) (ρ1 := (none, z7)) [.ref (g.1 w3), .int a2] dX1_rollComes_26 (s_X4_rollTruly l g (hq0) ((kf_X4_wheelAt hz2 (hq0)) w3 hw4) hz8) cw_X4_rollTruly ml_X1_77 hq0 rfl (by decide) (by decide) rfl rfl (Nat.le_of_ble_eq_true rfl) ?_
        refine vr_iconst (pc := 29) 1 dX1_rollComes_29 ci_1 ?_
        have h := Option.some.inj h; subst h
        exact vr_iret (pc := 30) .boolean dX1_rollComes_30 rfl rfl rfl
      · rw [if_neg c6] at h
        refine vr_iconst (pc := 21) 0 dX1_rollComes_21 ci_0 ?_
        have h := Option.some.inj h; subst h
        exact vr_iret (pc := 22) .boolean dX1_rollComes_22 rfl rfl rfl
theorem dX1_comesTrue_0 : decode cX1_comesTrue 0 = .ok (.iload_n 1, 1) := by decide +kernel
theorem dX1_comesTrue_1 : decode cX1_comesTrue 1 = .ok (.ifCond .lt 11, 3) := by decide +kernel
theorem dX1_comesTrue_4 : decode cX1_comesTrue 4 = .ok (.iload_n 1, 1) := by decide +kernel
theorem dX1_comesTrue_5 : decode cX1_comesTrue 5 = .ok (.aload_n 0, 1) := by decide +kernel
theorem dX1_comesTrue_6 : decode cX1_comesTrue 6 = .ok (.getfield 15, 3) := by decide +kernel
theorem dX1_comesTrue_9 : decode cX1_comesTrue 9 = .ok (.if_icmp .lt 5, 3) := by decide +kernel
theorem dX1_comesTrue_12 : decode cX1_comesTrue 12 = .ok (.iconst 0, 1) := by decide +kernel
theorem dX1_comesTrue_13 : decode cX1_comesTrue 13 = .ok (.ireturn, 1) := by decide +kernel
theorem dX1_comesTrue_14 : decode cX1_comesTrue 14 = .ok (.aload_n 0, 1) := by decide +kernel
theorem dX1_comesTrue_15 : decode cX1_comesTrue 15 = .ok (.getfield 9, 3) := by decide +kernel
theorem dX1_comesTrue_18 : decode cX1_comesTrue 18 = .ok (.iload_n 1, 1) := by decide +kernel
theorem dX1_comesTrue_19 : decode cX1_comesTrue 19 = .ok (.iaload, 1) := by decide +kernel
theorem dX1_comesTrue_20 : decode cX1_comesTrue 20 = .ok (.lookupswitch 98 #[(97, 77), (114, 44), (119, 57), (120, 64)], 44) := by decide +kernel
theorem dX1_comesTrue_64 : decode cX1_comesTrue 64 = .ok (.aload_n 2, 1) := by decide +kernel
theorem dX1_comesTrue_65 : decode cX1_comesTrue 65 = .ok (.aload_n 0, 1) := by decide +kernel
theorem dX1_comesTrue_66 : decode cX1_comesTrue 66 = .ok (.iload_n 1, 1) := by decide +kernel
theorem dX1_comesTrue_67 : decode cX1_comesTrue 67 = .ok (.iconst 1, 1) := by decide +kernel
theorem dX1_comesTrue_68 : decode cX1_comesTrue 68 = .ok (.iadd, 1) := by decide +kernel
theorem dX1_comesTrue_69 : decode cX1_comesTrue 69 = .ok (.iconst 2, 1) := by decide +kernel
theorem dX1_comesTrue_70 : decode cX1_comesTrue 70 = .ok (.invokevirtual 23, 3) := by decide +kernel
theorem dX1_comesTrue_73 : decode cX1_comesTrue 73 = .ok (.invokestatic 27, 3) := by decide +kernel
theorem dX1_comesTrue_76 : decode cX1_comesTrue 76 = .ok (.ireturn, 1) := by decide +kernel
theorem dX1_comesTrue_77 : decode cX1_comesTrue 77 = .ok (.aload_n 0, 1) := by decide +kernel
theorem dX1_comesTrue_78 : decode cX1_comesTrue 78 = .ok (.aload_n 2, 1) := by decide +kernel
theorem dX1_comesTrue_79 : decode cX1_comesTrue 79 = .ok (.iload_n 1, 1) := by decide +kernel
theorem dX1_comesTrue_80 : decode cX1_comesTrue 80 = .ok (.invokevirtual 31, 3) := by decide +kernel
theorem dX1_comesTrue_83 : decode cX1_comesTrue 83 = .ok (.ireturn, 1) := by decide +kernel
theorem dX1_comesTrue_84 : decode cX1_comesTrue 84 = .ok (.aload_n 2, 1) := by decide +kernel
theorem dX1_comesTrue_85 : decode cX1_comesTrue 85 = .ok (.aload_n 0, 1) := by decide +kernel
theorem dX1_comesTrue_86 : decode cX1_comesTrue 86 = .ok (.iload_n 1, 1) := by decide +kernel
theorem dX1_comesTrue_87 : decode cX1_comesTrue 87 = .ok (.iconst 1, 1) := by decide +kernel
theorem dX1_comesTrue_88 : decode cX1_comesTrue 88 = .ok (.iadd, 1) := by decide +kernel
theorem dX1_comesTrue_89 : decode cX1_comesTrue 89 = .ok (.iconst 2, 1) := by decide +kernel
theorem dX1_comesTrue_90 : decode cX1_comesTrue 90 = .ok (.invokevirtual 23, 3) := by decide +kernel
theorem dX1_comesTrue_93 : decode cX1_comesTrue 93 = .ok (.invokestatic 34, 3) := by decide +kernel
theorem dX1_comesTrue_96 : decode cX1_comesTrue 96 = .ok (.ireturn, 1) := by decide +kernel
theorem dX1_comesTrue_97 : decode cX1_comesTrue 97 = .ok (.aload_n 2, 1) := by decide +kernel
theorem dX1_comesTrue_98 : decode cX1_comesTrue 98 = .ok (.aload_n 0, 1) := by decide +kernel
theorem dX1_comesTrue_99 : decode cX1_comesTrue 99 = .ok (.iload_n 1, 1) := by decide +kernel
theorem dX1_comesTrue_100 : decode cX1_comesTrue 100 = .ok (.iconst 1, 1) := by decide +kernel
theorem dX1_comesTrue_101 : decode cX1_comesTrue 101 = .ok (.iadd, 1) := by decide +kernel
theorem dX1_comesTrue_102 : decode cX1_comesTrue 102 = .ok (.iconst 1, 1) := by decide +kernel
theorem dX1_comesTrue_103 : decode cX1_comesTrue 103 = .ok (.invokevirtual 23, 3) := by decide +kernel
theorem dX1_comesTrue_106 : decode cX1_comesTrue 106 = .ok (.aload_n 0, 1) := by decide +kernel
theorem dX1_comesTrue_107 : decode cX1_comesTrue 107 = .ok (.iload_n 1, 1) := by decide +kernel
theorem dX1_comesTrue_108 : decode cX1_comesTrue 108 = .ok (.iconst 2, 1) := by decide +kernel
theorem dX1_comesTrue_109 : decode cX1_comesTrue 109 = .ok (.iadd, 1) := by decide +kernel
theorem dX1_comesTrue_110 : decode cX1_comesTrue 110 = .ok (.iconst 2, 1) := by decide +kernel
theorem dX1_comesTrue_111 : decode cX1_comesTrue 111 = .ok (.invokevirtual 23, 3) := by decide +kernel
theorem dX1_comesTrue_114 : decode cX1_comesTrue 114 = .ok (.invokestatic 37, 3) := by decide +kernel
theorem dX1_comesTrue_117 : decode cX1_comesTrue 117 = .ok (.ireturn, 1) := by decide +kernel
theorem dX1_comesTrue_118 : decode cX1_comesTrue 118 = .ok (.aload_n 2, 1) := by decide +kernel
theorem dX1_comesTrue_119 : decode cX1_comesTrue 119 = .ok (.aload_n 0, 1) := by decide +kernel
theorem dX1_comesTrue_120 : decode cX1_comesTrue 120 = .ok (.iload_n 1, 1) := by decide +kernel
theorem dX1_comesTrue_121 : decode cX1_comesTrue 121 = .ok (.iconst 1, 1) := by decide +kernel
theorem dX1_comesTrue_122 : decode cX1_comesTrue 122 = .ok (.iadd, 1) := by decide +kernel
theorem dX1_comesTrue_123 : decode cX1_comesTrue 123 = .ok (.iconst 1, 1) := by decide +kernel
theorem dX1_comesTrue_124 : decode cX1_comesTrue 124 = .ok (.invokevirtual 23, 3) := by decide +kernel
theorem dX1_comesTrue_127 : decode cX1_comesTrue 127 = .ok (.aload_n 0, 1) := by decide +kernel
theorem dX1_comesTrue_128 : decode cX1_comesTrue 128 = .ok (.iload_n 1, 1) := by decide +kernel
theorem dX1_comesTrue_129 : decode cX1_comesTrue 129 = .ok (.iconst 2, 1) := by decide +kernel
theorem dX1_comesTrue_130 : decode cX1_comesTrue 130 = .ok (.iadd, 1) := by decide +kernel
theorem dX1_comesTrue_131 : decode cX1_comesTrue 131 = .ok (.iconst 2, 1) := by decide +kernel
theorem dX1_comesTrue_132 : decode cX1_comesTrue 132 = .ok (.invokevirtual 23, 3) := by decide +kernel
theorem dX1_comesTrue_135 : decode cX1_comesTrue 135 = .ok (.invokestatic 41, 3) := by decide +kernel
theorem dX1_comesTrue_138 : decode cX1_comesTrue 138 = .ok (.ireturn, 1) := by decide +kernel
set_option maxRecDepth 20000 in
set_option maxHeartbeats 4000000 in
theorem s_X1_comesTrue (l : Launch) (g : GG) {q0 : Nat} (hq0 : kd q0 = 1) {a1 : Int32} {q2 : Nat} (hq2 : kd q2 = 3) {σ : SS} {r : Int32 × SS} (h : f_X1_comesTrue q0 a1 q2 σ = some r) : CT l g 5 yX1_comesTrue cX1_comesTrue 3 (some .boolean) [.ref (g.1 q0), .int a1, .ref (g.1 q2)] σ (some (.int r.1), r.2) := by
  refine CT.of (lv := [(0, .ref (g.1 q0)), (1, .int a1), (2, .ref (g.1 q2))]) RX1 (by decide +kernel) rfl (Nat.le_of_ble_eq_true rfl) rfl ?_
  unfold f_X1_comesTrue at h
  refine vr_iload_n (pc := 0) 1 dX1_comesTrue_0 rfl rfl ?_
  refine vr_if_lt (pc := 1) 12 dX1_comesTrue_1 (by decide) (fun c1 => ?_) (fun c1 => ?_)
  · rw [if_pos c1] at h
    refine vr_iconst (pc := 12) 0 dX1_comesTrue_12 ci_0 ?_
    have h := Option.some.inj h; subst h
    exact vr_iret (pc := 13) .boolean dX1_comesTrue_13 rfl rfl rfl
  · rw [if_neg c1] at h
    refine vr_iload_n (pc := 4) 1 dX1_comesTrue_4 rfl rfl ?_
    refine vr_aload_n (pc := 5) 0 dX1_comesTrue_5 rfl rfl ?_
    refine vr_getI (pc := 6) 1 dX1_comesTrue_6 fi_X1_15 hq0 (sh_1_1 hq0) ?_
    refine vr_icmp_lt (pc := 9) 14 dX1_comesTrue_9 (by decide) (fun c2 => ?_) (fun c2 => ?_)
    · rw [if_pos c2] at h
      refine vr_aload_n (pc := 14) 0 dX1_comesTrue_14 rfl rfl ?_
      refine vr_getR (pc := 15) 0 dX1_comesTrue_15 fi_X1_9 hq0 (sh_1_0 hq0).1 ?_
      refine vr_iload_n (pc := 18) 1 dX1_comesTrue_18 rfl rfl ?_
      obtain ⟨hc3, h⟩ := ck_some h
      refine vr_iald (pc := 19) dX1_comesTrue_19 (sh_1_0 hq0).2 hc3 ?_
      by_cases c4 : (σ.1 (rid q0 0) a1.toNatClampNeg) = 97
      · rw [if_pos c4] at h
        refine vr_lookup (pc := 20) 77 97 dX1_comesTrue_20 (by decide) (by rw [c4]; rfl) (by decide) ?_
        refine vr_aload_n (pc := 97) 2 dX1_comesTrue_97 rfl rfl ?_
        refine vr_aload_n (pc := 98) 0 dX1_comesTrue_98 rfl rfl ?_
        refine vr_iload_n (pc := 99) 1 dX1_comesTrue_99 rfl rfl ?_
        refine vr_iconst (pc := 100) 1 dX1_comesTrue_100 ci_1 ?_
        refine vr_iadd (pc := 101) dX1_comesTrue_101 ?_
        refine vr_iconst (pc := 102) 1 dX1_comesTrue_102 ci_1 ?_
        obtain ⟨z5, hz6, h⟩ := ob_some h
        refine vr_callV (pc := 103) (ρ1 := (some (.int z5), σ)) [.int (a1 + 1), .int 1] dX1_comesTrue_103 (s_X1_number l g (hq0) hz6) cw_X1_number ml_X1_23 hq0 rfl (by decide) (by decide) rfl rfl (Nat.le_of_ble_eq_true rfl) ?_
        refine vr_aload_n (pc := 106) 0 dX1_comesTrue_106 rfl rfl ?_
        refine vr_iload_n (pc := 107) 1 dX1_comesTrue_107 rfl rfl ?_
        refine vr_iconst (pc := 108) 2 dX1_comesTrue_108 ci_2 ?_
        refine vr_iadd (pc := 109) dX1_comesTrue_109 ?_
        refine vr_iconst (pc := 110) 2 dX1_comesTrue_110 ci_2 ?_
        obtain ⟨z7, hz8, h⟩ := ob_some h
        refine vr_callV (pc := 111) (ρ1 := (some (.int z7), σ)) [.int (a1 + 2), .int 2] dX1_comesTrue_111 (s_X1_number l g (hq0) hz8) cw_X1_number ml_X1_23 hq0 rfl (by decide) (by decide) rfl rfl (Nat.le_of_ble_eq_true rfl) ?_
        obtain ⟨z9, hz10, h⟩ := ob_some h
        refine vr_callS (pc := 114) (ρ1 := (some (.int z9.1), z9.2)) [.ref (g.1 q2), .int z5, .int z7] dX1_comesTrue_114 (s_X1_placeComes l g (hq2) hz10) cw_X1_placeComes ml_X1_37 (by decide) rfl rfl (Nat.le_of_ble_eq_true rfl) ?_
        obtain ⟨hb, h⟩ := ck_some h
        have h := Option.some.inj h; subst h
        exact vr_iret (pc := 117) .boolean dX1_comesTrue_117 rfl (nar_b hb) rfl
      · rw [if_neg c4] at h
        by_cases c11 : (σ.1 (rid q0 0) a1.toNatClampNeg) = 114
        · rw [if_pos c11] at h
          refine vr_lookup (pc := 20) 44 64 dX1_comesTrue_20 (by decide) (by rw [c11]; rfl) (by decide) ?_
          refine vr_aload_n (pc := 64) 2 dX1_comesTrue_64 rfl rfl ?_
          refine vr_aload_n (pc := 65) 0 dX1_comesTrue_65 rfl rfl ?_
          refine vr_iload_n (pc := 66) 1 dX1_comesTrue_66 rfl rfl ?_
          refine vr_iconst (pc := 67) 1 dX1_comesTrue_67 ci_1 ?_
          refine vr_iadd (pc := 68) dX1_comesTrue_68 ?_
          refine vr_iconst (pc := 69) 2 dX1_comesTrue_69 ci_2 ?_
          obtain ⟨z12, hz13, h⟩ := ob_some h
          refine vr_callV (pc := 70) (ρ1 := (some (.int z12), σ)) [.int (a1 + 1), .int 2] dX1_comesTrue_70 (s_X1_number l g (hq0) hz13) cw_X1_number ml_X1_23 hq0 rfl (by decide) (by decide) rfl rfl (Nat.le_of_ble_eq_true rfl) ?_
          obtain ⟨z14, hz15, h⟩ := ob_some h
          refine vr_callS (pc := 73) (ρ1 := (some (.int z14.1), z14.2)) [.ref (g.1 q2), .int z12] dX1_comesTrue_73 (s_X1_ringComes l g (hq2) hz15) cw_X1_ringComes ml_X1_27 (by decide) rfl rfl (Nat.le_of_ble_eq_true rfl) ?_
          obtain ⟨hb, h⟩ := ck_some h
          have h := Option.some.inj h; subst h
          exact vr_iret (pc := 76) .boolean dX1_comesTrue_76 rfl (nar_b hb) rfl
        · rw [if_neg c11] at h
          by_cases c16 : (σ.1 (rid q0 0) a1.toNatClampNeg) = 119
          · rw [if_pos c16] at h
            refine vr_lookup (pc := 20) 57 77 dX1_comesTrue_20 (by decide) (by rw [c16]; rfl) (by decide) ?_
            refine vr_aload_n (pc := 77) 0 dX1_comesTrue_77 rfl rfl ?_
            refine vr_aload_n (pc := 78) 2 dX1_comesTrue_78 rfl rfl ?_
            refine vr_iload_n (pc := 79) 1 dX1_comesTrue_79 rfl rfl ?_
            obtain ⟨z17, hz18, h⟩ := ob_some h
            refine vr_callV (pc := 80) (ρ1 := (some (.int z17.1), z17.2)) [.ref (g.1 q2), .int a1] dX1_comesTrue_80 (s_X1_wheelComes l g (hq0) (hq2) hz18) cw_X1_wheelComes ml_X1_31 hq0 rfl (by decide) (by decide) rfl rfl (Nat.le_of_ble_eq_true rfl) ?_
            obtain ⟨hb, h⟩ := ck_some h
            have h := Option.some.inj h; subst h
            exact vr_iret (pc := 83) .boolean dX1_comesTrue_83 rfl (nar_b hb) rfl
          · rw [if_neg c16] at h
            by_cases c19 : (σ.1 (rid q0 0) a1.toNatClampNeg) = 120
            · rw [if_pos c19] at h
              refine vr_lookup (pc := 20) 64 84 dX1_comesTrue_20 (by decide) (by rw [c19]; rfl) (by decide) ?_
              refine vr_aload_n (pc := 84) 2 dX1_comesTrue_84 rfl rfl ?_
              refine vr_aload_n (pc := 85) 0 dX1_comesTrue_85 rfl rfl ?_
              refine vr_iload_n (pc := 86) 1 dX1_comesTrue_86 rfl rfl ?_
              refine vr_iconst (pc := 87) 1 dX1_comesTrue_87 ci_1 ?_
              refine vr_iadd (pc := 88) dX1_comesTrue_88 ?_
              refine vr_iconst (pc := 89) 2 dX1_comesTrue_89 ci_2 ?_
              obtain ⟨z20, hz21, h⟩ := ob_some h
              refine vr_callV (pc := 90) (ρ1 := (some (.int z20), σ)) [.int (a1 + 1), .int 2] dX1_comesTrue_90 (s_X1_number l g (hq0) hz21) cw_X1_number ml_X1_23 hq0 rfl (by decide) (by decide) rfl rfl (Nat.le_of_ble_eq_true rfl) ?_
              obtain ⟨z22, hz23, h⟩ := ob_some h
              refine vr_callS (pc := 93) (ρ1 := (some (.int z22.1), z22.2)) [.ref (g.1 q2), .int z20] dX1_comesTrue_93 (s_X1_wearComes l g (hq2) hz23) cw_X1_wearComes ml_X1_34 (by decide) rfl rfl (Nat.le_of_ble_eq_true rfl) ?_
              obtain ⟨hb, h⟩ := ck_some h
              have h := Option.some.inj h; subst h
              exact vr_iret (pc := 96) .boolean dX1_comesTrue_96 rfl (nar_b hb) rfl
            · rw [if_neg c19] at h
              refine vr_lookup (pc := 20) 98 118 dX1_comesTrue_20 (by decide) (by simp only [Op.lookupswitch.offset]; have nc4 := i32_ne (n := 97) (by decide) c4; have nc11 := i32_ne (n := 114) (by decide) c11; have nc16 := i32_ne (n := 119) (by decide) c16; have nc19 := i32_ne (n := 120) (by decide) c19; simp [nc4, nc11, nc16, nc19, Ne.symm, eq_comm]) (by decide) ?_
              refine vr_aload_n (pc := 118) 2 dX1_comesTrue_118 rfl rfl ?_
              refine vr_aload_n (pc := 119) 0 dX1_comesTrue_119 rfl rfl ?_
              refine vr_iload_n (pc := 120) 1 dX1_comesTrue_120 rfl rfl ?_
              refine vr_iconst (pc := 121) 1 dX1_comesTrue_121 ci_1 ?_
              refine vr_iadd (pc := 122) dX1_comesTrue_122 ?_
              refine vr_iconst (pc := 123) 1 dX1_comesTrue_123 ci_1 ?_
              obtain ⟨z24, hz25, h⟩ := ob_some h
              refine vr_callV (pc := 124) (ρ1 := (some (.int z24), σ)) [.int (a1 + 1), .int 1] dX1_comesTrue_124 (s_X1_number l g (hq0) hz25) cw_X1_number ml_X1_23 hq0 rfl (by decide) (by decide) rfl rfl (Nat.le_of_ble_eq_true rfl) ?_
              refine vr_aload_n (pc := 127) 0 dX1_comesTrue_127 rfl rfl ?_
              refine vr_iload_n (pc := 128) 1 dX1_comesTrue_128 rfl rfl ?_
              refine vr_iconst (pc := 129) 2 dX1_comesTrue_129 ci_2 ?_
              refine vr_iadd (pc := 130) dX1_comesTrue_130 ?_
              refine vr_iconst (pc := 131) 2 dX1_comesTrue_131 ci_2 ?_
              obtain ⟨z26, hz27, h⟩ := ob_some h
              refine vr_callV (pc := 132) (ρ1 := (some (.int z26), σ)) [.int (a1 + 2), .int 2] dX1_comesTrue_132 (s_X1_number l g (hq0) hz27) cw_X1_number ml_X1_23 hq0 rfl (by decide) (by decide) rfl rfl (Nat.le_of_ble_eq_true rfl) ?_
              obtain ⟨z28, hz29, h⟩ := ob_some h
              refine vr_callS (pc := 135) (ρ1 := (some (.int z28.1), z28.2)) [.ref (g.1 q2), .int z24, .int z26] dX1_comesTrue_135 (s_X1_rollComes l g (hq2) hz29) cw_X1_rollComes ml_X1_41 (by decide) rfl rfl (Nat.le_of_ble_eq_true rfl) ?_
              obtain ⟨hb, h⟩ := ck_some h
              have h := Option.some.inj h; subst h
              exact vr_iret (pc := 138) .boolean dX1_comesTrue_138 rfl (nar_b hb) rfl
    · rw [if_neg c2] at h
      refine vr_iconst (pc := 12) 0 dX1_comesTrue_12 ci_0 ?_
      have h := Option.some.inj h; subst h
      exact vr_iret (pc := 13) .boolean dX1_comesTrue_13 rfl rfl rfl
theorem dX3_keep_0 : decode cX3_keep 0 = .ok (.aload_n 0, 1) := by decide +kernel
theorem dX3_keep_1 : decode cX3_keep 1 = .ok (.getfield 11, 3) := by decide +kernel
theorem dX3_keep_4 : decode cX3_keep 4 = .ok (.aload_n 0, 1) := by decide +kernel
theorem dX3_keep_5 : decode cX3_keep 5 = .ok (.getfield 18, 3) := by decide +kernel
theorem dX3_keep_8 : decode cX3_keep 8 = .ok (.aaload, 1) := by decide +kernel
theorem dX3_keep_9 : decode cX3_keep 9 = .ok (.aload_n 1, 1) := by decide +kernel
theorem dX3_keep_10 : decode cX3_keep 10 = .ok (.invokevirtual 22, 3) := by decide +kernel
theorem dX3_keep_13 : decode cX3_keep 13 = .ok (.aload_n 0, 1) := by decide +kernel
theorem dX3_keep_14 : decode cX3_keep 14 = .ok (.aload_n 0, 1) := by decide +kernel
theorem dX3_keep_15 : decode cX3_keep 15 = .ok (.getfield 18, 3) := by decide +kernel
theorem dX3_keep_18 : decode cX3_keep 18 = .ok (.iconst 1, 1) := by decide +kernel
theorem dX3_keep_19 : decode cX3_keep 19 = .ok (.iadd, 1) := by decide +kernel
theorem dX3_keep_20 : decode cX3_keep 20 = .ok (.bipush 8, 2) := by decide +kernel
theorem dX3_keep_22 : decode cX3_keep 22 = .ok (.invokestatic 26, 3) := by decide +kernel
theorem dX3_keep_25 : decode cX3_keep 25 = .ok (.putfield 18, 3) := by decide +kernel
theorem dX3_keep_28 : decode cX3_keep 28 = .ok (.aload_n 0, 1) := by decide +kernel
theorem dX3_keep_29 : decode cX3_keep 29 = .ok (.aload_n 0, 1) := by decide +kernel
theorem dX3_keep_30 : decode cX3_keep 30 = .ok (.getfield 32, 3) := by decide +kernel
theorem dX3_keep_33 : decode cX3_keep 33 = .ok (.iconst 1, 1) := by decide +kernel
theorem dX3_keep_34 : decode cX3_keep 34 = .ok (.iadd, 1) := by decide +kernel
theorem dX3_keep_35 : decode cX3_keep 35 = .ok (.bipush 8, 2) := by decide +kernel
theorem dX3_keep_37 : decode cX3_keep 37 = .ok (.invokestatic 35, 3) := by decide +kernel
theorem dX3_keep_40 : decode cX3_keep 40 = .ok (.putfield 32, 3) := by decide +kernel
theorem dX3_keep_43 : decode cX3_keep 43 = .ok (.return_, 1) := by decide +kernel
set_option maxRecDepth 20000 in
set_option maxHeartbeats 4000000 in
theorem s_X3_keep (l : Launch) (g : GG) {q0 : Nat} (hq0 : kd q0 = 2) {q1 : Nat} (hq1 : kd q1 = 3) {σ : SS} {r : SS} (h : f_X3_keep q0 q1 σ = some r) : CT l g 3 yX3_keep cX3_keep 2 none [.ref (g.1 q0), .ref (g.1 q1)] σ (none, r) := by
  refine CT.of (lv := [(0, .ref (g.1 q0)), (1, .ref (g.1 q1))]) RX3 (by decide +kernel) rfl (Nat.le_of_ble_eq_true rfl) rfl ?_
  unfold f_X3_keep at h
  refine vr_aload_n (pc := 0) 0 dX3_keep_0 rfl rfl ?_
  refine vr_getR (pc := 1) 0 dX3_keep_1 fi_X3_11 hq0 (sh_2_0 hq0).1 ?_
  refine vr_aload_n (pc := 4) 0 dX3_keep_4 rfl rfl ?_
  refine vr_getI (pc := 5) 2 dX3_keep_5 fi_X3_18 hq0 (sh_2_2 hq0) ?_
  obtain ⟨hc1, h⟩ := ck_some h
  refine vr_aald (pc := 8) dX3_keep_8 (sh_2_0 hq0).2 (by decide) hc1 (sha_12 (sh_2_0 hq0).2 (lt_ck hc1)).1 ?_
  refine vr_aload_n (pc := 9) 1 dX3_keep_9 rfl rfl ?_
  obtain ⟨z2, hz3, h⟩ := ob_some h
  refine vr_callV (pc := 10) (ρ1 := (none, z2)) [.ref (g.1 q1)] dX3_keep_10 (s_X4_become l g (sha_12 (sh_2_0 hq0).2 (lt_ck hc1)).2 (hq1) hz3) cw_X4_become ml_X3_22 (sha_12 (sh_2_0 hq0).2 (lt_ck hc1)).2 rfl (by decide) (by decide) rfl rfl (Nat.le_of_ble_eq_true rfl) ?_
  refine vr_aload_n (pc := 13) 0 dX3_keep_13 rfl rfl ?_
  refine vr_aload_n (pc := 14) 0 dX3_keep_14 rfl rfl ?_
  refine vr_getI (pc := 15) 2 dX3_keep_15 fi_X3_18 hq0 (sh_2_2 hq0) ?_
  refine vr_iconst (pc := 18) 1 dX3_keep_18 ci_1 ?_
  refine vr_iadd (pc := 19) dX3_keep_19 ?_
  refine vr_bipush (pc := 20) 8 dX3_keep_20 cb_8 ?_
  refine vr_callS (pc := 22) (ρ1 := (some (.int (f_X2_modulo ((z2.1 q0 2) + 1) 8)), z2)) [.int ((z2.1 q0 2) + 1), .int 8] dX3_keep_22 (s_X2_modulo l g rfl) cw_X2_modulo ml_X3_26 (by decide) rfl rfl (Nat.le_of_ble_eq_true rfl) ?_
  refine vr_putI (pc := 25) 2 dX3_keep_25 fi_X3_18 (fw_2_2 _) hq0 (sh_2_2 hq0) ?_
  refine vr_aload_n (pc := 28) 0 dX3_keep_28 rfl rfl ?_
  refine vr_aload_n (pc := 29) 0 dX3_keep_29 rfl rfl ?_
  refine vr_getI (pc := 30) 1 dX3_keep_30 fi_X3_32 hq0 (sh_2_1 hq0) ?_
  refine vr_iconst (pc := 33) 1 dX3_keep_33 ci_1 ?_
  refine vr_iadd (pc := 34) dX3_keep_34 ?_
  refine vr_bipush (pc := 35) 8 dX3_keep_35 cb_8 ?_
  refine vr_mmin (pc := 37) dX3_keep_37 ml_X3_35 (by decide) (Nat.le_of_ble_eq_true rfl) ?_
  refine vr_putI (pc := 40) 1 dX3_keep_40 fi_X3_32 (fw_2_1 _) hq0 (sh_2_1 hq0) ?_
  have h := Option.some.inj h; subst h
  exact vr_vret (pc := 43) dX3_keep_43 rfl rfl
theorem dX3_giveBack_0 : decode cX3_giveBack 0 = .ok (.aload_n 0, 1) := by decide +kernel
theorem dX3_giveBack_1 : decode cX3_giveBack 1 = .ok (.getfield 32, 3) := by decide +kernel
theorem dX3_giveBack_4 : decode cX3_giveBack 4 = .ok (.ifCond .le 41, 3) := by decide +kernel
theorem dX3_giveBack_7 : decode cX3_giveBack 7 = .ok (.aload_n 0, 1) := by decide +kernel
theorem dX3_giveBack_8 : decode cX3_giveBack 8 = .ok (.aload_n 0, 1) := by decide +kernel
theorem dX3_giveBack_9 : decode cX3_giveBack 9 = .ok (.getfield 18, 3) := by decide +kernel
theorem dX3_giveBack_12 : decode cX3_giveBack 12 = .ok (.iconst 1, 1) := by decide +kernel
theorem dX3_giveBack_13 : decode cX3_giveBack 13 = .ok (.isub, 1) := by decide +kernel
theorem dX3_giveBack_14 : decode cX3_giveBack 14 = .ok (.bipush 8, 2) := by decide +kernel
theorem dX3_giveBack_16 : decode cX3_giveBack 16 = .ok (.invokestatic 26, 3) := by decide +kernel
theorem dX3_giveBack_19 : decode cX3_giveBack 19 = .ok (.putfield 18, 3) := by decide +kernel
theorem dX3_giveBack_22 : decode cX3_giveBack 22 = .ok (.aload_n 0, 1) := by decide +kernel
theorem dX3_giveBack_23 : decode cX3_giveBack 23 = .ok (.dup, 1) := by decide +kernel
theorem dX3_giveBack_24 : decode cX3_giveBack 24 = .ok (.getfield 32, 3) := by decide +kernel
theorem dX3_giveBack_27 : decode cX3_giveBack 27 = .ok (.iconst 1, 1) := by decide +kernel
theorem dX3_giveBack_28 : decode cX3_giveBack 28 = .ok (.isub, 1) := by decide +kernel
theorem dX3_giveBack_29 : decode cX3_giveBack 29 = .ok (.putfield 32, 3) := by decide +kernel
theorem dX3_giveBack_32 : decode cX3_giveBack 32 = .ok (.aload_n 1, 1) := by decide +kernel
theorem dX3_giveBack_33 : decode cX3_giveBack 33 = .ok (.aload_n 0, 1) := by decide +kernel
theorem dX3_giveBack_34 : decode cX3_giveBack 34 = .ok (.getfield 11, 3) := by decide +kernel
theorem dX3_giveBack_37 : decode cX3_giveBack 37 = .ok (.aload_n 0, 1) := by decide +kernel
theorem dX3_giveBack_38 : decode cX3_giveBack 38 = .ok (.getfield 18, 3) := by decide +kernel
theorem dX3_giveBack_41 : decode cX3_giveBack 41 = .ok (.aaload, 1) := by decide +kernel
theorem dX3_giveBack_42 : decode cX3_giveBack 42 = .ok (.invokevirtual 22, 3) := by decide +kernel
theorem dX3_giveBack_45 : decode cX3_giveBack 45 = .ok (.return_, 1) := by decide +kernel
set_option maxRecDepth 20000 in
set_option maxHeartbeats 4000000 in
theorem s_X3_giveBack (l : Launch) (g : GG) {q0 : Nat} (hq0 : kd q0 = 2) {q1 : Nat} (hq1 : kd q1 = 3) {σ : SS} {r : SS} (h : f_X3_giveBack q0 q1 σ = some r) : CT l g 3 yX3_giveBack cX3_giveBack 2 none [.ref (g.1 q0), .ref (g.1 q1)] σ (none, r) := by
  refine CT.of (lv := [(0, .ref (g.1 q0)), (1, .ref (g.1 q1))]) RX3 (by decide +kernel) rfl (Nat.le_of_ble_eq_true rfl) rfl ?_
  unfold f_X3_giveBack at h
  refine vr_aload_n (pc := 0) 0 dX3_giveBack_0 rfl rfl ?_
  refine vr_getI (pc := 1) 1 dX3_giveBack_1 fi_X3_32 hq0 (sh_2_1 hq0) ?_
  refine vr_if_le (pc := 4) 45 dX3_giveBack_4 (by decide) (fun c1 => ?_) (fun c1 => ?_)
  · rw [if_pos c1] at h
    have h := Option.some.inj h; subst h
    exact vr_vret (pc := 45) dX3_giveBack_45 rfl rfl
  · rw [if_neg c1] at h
    refine vr_aload_n (pc := 7) 0 dX3_giveBack_7 rfl rfl ?_
    refine vr_aload_n (pc := 8) 0 dX3_giveBack_8 rfl rfl ?_
    refine vr_getI (pc := 9) 2 dX3_giveBack_9 fi_X3_18 hq0 (sh_2_2 hq0) ?_
    refine vr_iconst (pc := 12) 1 dX3_giveBack_12 ci_1 ?_
    refine vr_isub (pc := 13) dX3_giveBack_13 ?_
    refine vr_bipush (pc := 14) 8 dX3_giveBack_14 cb_8 ?_
    refine vr_callS (pc := 16) (ρ1 := (some (.int (f_X2_modulo ((σ.1 q0 2) - 1) 8)), σ)) [.int ((σ.1 q0 2) - 1), .int 8] dX3_giveBack_16 (s_X2_modulo l g rfl) cw_X2_modulo ml_X3_26 (by decide) rfl rfl (Nat.le_of_ble_eq_true rfl) ?_
    refine vr_putI (pc := 19) 2 dX3_giveBack_19 fi_X3_18 (fw_2_2 _) hq0 (sh_2_2 hq0) ?_
    refine vr_aload_n (pc := 22) 0 dX3_giveBack_22 rfl rfl ?_
    refine vr_dup (pc := 23) dX3_giveBack_23 rfl ?_
    refine vr_getI (pc := 24) 1 dX3_giveBack_24 fi_X3_32 hq0 (sh_2_1 hq0) ?_
    refine vr_iconst (pc := 27) 1 dX3_giveBack_27 ci_1 ?_
    refine vr_isub (pc := 28) dX3_giveBack_28 ?_
    refine vr_putI (pc := 29) 1 dX3_giveBack_29 fi_X3_32 (fw_2_1 _) hq0 (sh_2_1 hq0) ?_
    refine vr_aload_n (pc := 32) 1 dX3_giveBack_32 rfl rfl ?_
    refine vr_aload_n (pc := 33) 0 dX3_giveBack_33 rfl rfl ?_
    refine vr_getR (pc := 34) 0 dX3_giveBack_34 fi_X3_11 hq0 (sh_2_0 hq0).1 ?_
    refine vr_aload_n (pc := 37) 0 dX3_giveBack_37 rfl rfl ?_
    refine vr_getI (pc := 38) 2 dX3_giveBack_38 fi_X3_18 hq0 (sh_2_2 hq0) ?_
    obtain ⟨hc2, h⟩ := ck_some h
    refine vr_aald (pc := 41) dX3_giveBack_41 (sh_2_0 hq0).2 (by decide) hc2 (sha_12 (sh_2_0 hq0).2 (lt_ck hc2)).1 ?_
    obtain ⟨z3, hz4, h⟩ := ob_some h
    refine vr_callV (pc := 42) (ρ1 := (none, z3)) [.ref (g.1 (rid (rid q0 0) ((sI (sI σ q0 2 (f_X2_modulo ((σ.1 q0 2) - 1) 8)) q0 1 (((sI σ q0 2 (f_X2_modulo ((σ.1 q0 2) - 1) 8)).1 q0 1) - 1)).1 q0 2).toNatClampNeg))] dX3_giveBack_42 (s_X4_become l g (hq1) (sha_12 (sh_2_0 hq0).2 (lt_ck hc2)).2 hz4) cw_X4_become ml_X3_22 hq1 rfl (by decide) (by decide) rfl rfl (Nat.le_of_ble_eq_true rfl) ?_
    have h := Option.some.inj h; subst h
    exact vr_vret (pc := 45) dX3_giveBack_45 rfl rfl
theorem dX3_forget_0 : decode cX3_forget 0 = .ok (.aload_n 0, 1) := by decide +kernel
theorem dX3_forget_1 : decode cX3_forget 1 = .ok (.iconst 0, 1) := by decide +kernel
theorem dX3_forget_2 : decode cX3_forget 2 = .ok (.putfield 32, 3) := by decide +kernel
theorem dX3_forget_5 : decode cX3_forget 5 = .ok (.return_, 1) := by decide +kernel
set_option maxRecDepth 20000 in
set_option maxHeartbeats 4000000 in
theorem s_X3_forget (l : Launch) (g : GG) {q0 : Nat} (hq0 : kd q0 = 2) {σ : SS} {r : SS} (h : f_X3_forget q0 σ = some r) : CT l g 0 yX3_forget cX3_forget 1 none [.ref (g.1 q0)] σ (none, r) := by
  refine CT.of (lv := [(0, .ref (g.1 q0))]) RX3 (by decide +kernel) rfl (Nat.le_of_ble_eq_true rfl) rfl ?_
  unfold f_X3_forget at h
  refine vr_aload_n (pc := 0) 0 dX3_forget_0 rfl rfl ?_
  refine vr_iconst (pc := 1) 0 dX3_forget_1 ci_0 ?_
  refine vr_putI (pc := 2) 1 dX3_forget_2 fi_X3_32 (fw_2_1 _) hq0 (sh_2_1 hq0) ?_
  have h := Option.some.inj h; subst h
  exact vr_vret (pc := 5) dX3_forget_5 rfl rfl
theorem dX6_begin_0 : decode cX6_begin 0 = .ok (.iconst 0, 1) := by decide +kernel
theorem dX6_begin_1 : decode cX6_begin 1 = .ok (.istore_n 2, 1) := by decide +kernel
theorem dX6_begin_2 : decode cX6_begin 2 = .ok (.iload_n 2, 1) := by decide +kernel
theorem dX6_begin_3 : decode cX6_begin 3 = .ok (.bipush 6, 2) := by decide +kernel
theorem dX6_begin_5 : decode cX6_begin 5 = .ok (.if_icmp .ge 24, 3) := by decide +kernel
theorem dX6_begin_8 : decode cX6_begin 8 = .ok (.aload_n 0, 1) := by decide +kernel
theorem dX6_begin_9 : decode cX6_begin 9 = .ok (.getfield 9, 3) := by decide +kernel
theorem dX6_begin_12 : decode cX6_begin 12 = .ok (.iload_n 2, 1) := by decide +kernel
theorem dX6_begin_13 : decode cX6_begin 13 = .ok (.aload_n 1, 1) := by decide +kernel
theorem dX6_begin_14 : decode cX6_begin 14 = .ok (.getfield 31, 3) := by decide +kernel
theorem dX6_begin_17 : decode cX6_begin 17 = .ok (.iload_n 2, 1) := by decide +kernel
theorem dX6_begin_18 : decode cX6_begin 18 = .ok (.aaload, 1) := by decide +kernel
theorem dX6_begin_19 : decode cX6_begin 19 = .ok (.getfield 37, 3) := by decide +kernel
theorem dX6_begin_22 : decode cX6_begin 22 = .ok (.iastore, 1) := by decide +kernel
theorem dX6_begin_23 : decode cX6_begin 23 = .ok (.iinc 2 1, 3) := by decide +kernel
theorem dX6_begin_26 : decode cX6_begin 26 = .ok (.goto (-24), 3) := by decide +kernel
theorem dX6_begin_29 : decode cX6_begin 29 = .ok (.aload_n 0, 1) := by decide +kernel
theorem dX6_begin_30 : decode cX6_begin 30 = .ok (.getfield 28, 3) := by decide +kernel
theorem dX6_begin_33 : decode cX6_begin 33 = .ok (.iconst 0, 1) := by decide +kernel
theorem dX6_begin_34 : decode cX6_begin 34 = .ok (.invokestatic 42, 3) := by decide +kernel
theorem dX6_begin_37 : decode cX6_begin 37 = .ok (.aload_n 0, 1) := by decide +kernel
theorem dX6_begin_38 : decode cX6_begin 38 = .ok (.iconst 0, 1) := by decide +kernel
theorem dX6_begin_39 : decode cX6_begin 39 = .ok (.putfield 48, 3) := by decide +kernel
theorem dX6_begin_42 : decode cX6_begin 42 = .ok (.return_, 1) := by decide +kernel
set_option maxRecDepth 20000 in
set_option maxHeartbeats 4000000 in
theorem v_X6_begin_L2 (l : Launch) (g : GG) {r : SS} {κ : Nat → SS → Option SS} (hκ : ∀ (p0 : Nat) (τ : SS) (hp0 : kd p0 = 5), κ p0 τ = some r → VV l g 1 RX6 cX6_begin 3 none (none, r) 29 [(0, .ref (g.1 p0))] [] τ) : ∀ (fu : Nat) (q0 : Nat) (q1 : Nat) (x2 : Int32) (hq0 : kd q0 = 5) (hq1 : kd q1 = 3) (σ : SS), f_X6_begin_L2 κ fu q0 q1 x2 σ = some r → VV l g 1 RX6 cX6_begin 3 none (none, r) 2 [(0, .ref (g.1 q0)), (1, .ref (g.1 q1)), (2, .int x2)] [] σ := by
  intro fu
  induction fu with
  | zero => intro q0 q1 x2 hq0 hq1 σ h; cases h
  | succ fu ih =>
    intro q0 q1 x2 hq0 hq1 σ h
    simp only [f_X6_begin_L2] at h
    refine vr_iload_n (pc := 2) 2 dX6_begin_2 rfl rfl ?_
    refine vr_bipush (pc := 3) 6 dX6_begin_3 cb_6 ?_
    refine vr_icmp_ge (pc := 5) 29 dX6_begin_5 (by decide) (fun c1 => ?_) (fun c1 => ?_)
    · rw [if_pos c1] at h
      refine vr_sub [0] [(0, .ref (g.1 q0))] rfl ?_
      exact hκ q0 σ (hq0) h
    · rw [if_neg c1] at h
      refine vr_aload_n (pc := 8) 0 dX6_begin_8 rfl rfl ?_
      refine vr_getR (pc := 9) 0 dX6_begin_9 fi_X6_9 hq0 (sh_5_0 hq0).1 ?_
      refine vr_iload_n (pc := 12) 2 dX6_begin_12 rfl rfl ?_
      refine vr_aload_n (pc := 13) 1 dX6_begin_13 rfl rfl ?_
      refine vr_getR (pc := 14) 4 dX6_begin_14 fi_X6_31 hq1 (sh_3_4 hq1).1 ?_
      refine vr_iload_n (pc := 17) 2 dX6_begin_17 rfl rfl ?_
      obtain ⟨hc2, h⟩ := ck_some h
      refine vr_aald (pc := 18) dX6_begin_18 (sh_3_4 hq1).2 (by decide) hc2 (sha_13 (sh_3_4 hq1).2 (lt_ck hc2)).1 ?_
      refine vr_getI (pc := 19) 4 dX6_begin_19 fi_X6_37 (sha_13 (sh_3_4 hq1).2 (lt_ck hc2)).2 (sh_6_4 (sha_13 (sh_3_4 hq1).2 (lt_ck hc2)).2) ?_
      obtain ⟨hc3, h⟩ := ck_some h
      refine vr_iast (pc := 22) dX6_begin_22 (sh_5_0 hq0).2 hc3 ?_
      refine vr_iinc (pc := 23) [(2, .int (x2 + 1)), (0, .ref (g.1 q0)), (1, .ref (g.1 q1))] 2 dX6_begin_23 rfl (congrArg (fun z => x2 + z) ci_1) (by decide) rfl ?_
      refine vr_goto (pc := 26) 2 dX6_begin_26 (by decide) ?_
      refine vr_sub [1, 2, 0] [(0, .ref (g.1 q0)), (1, .ref (g.1 q1)), (2, .int (x2 + 1))] rfl ?_
      exact ih q0 q1 (x2 + 1) (hq0) (hq1) (sI σ (rid q0 0) x2.toNatClampNeg (σ.1 (rid (rid q1 4) x2.toNatClampNeg) 4)) h
set_option maxRecDepth 20000 in
set_option maxHeartbeats 4000000 in
theorem s_X6_begin (l : Launch) (g : GG) {q0 : Nat} (hq0 : kd q0 = 5) {q1 : Nat} (hq1 : kd q1 = 3) {σ : SS} {r : SS} (h : f_X6_begin q0 q1 σ = some r) : CT l g 1 yX6_begin cX6_begin 3 none [.ref (g.1 q0), .ref (g.1 q1)] σ (none, r) := by
  refine CT.of (lv := [(0, .ref (g.1 q0)), (1, .ref (g.1 q1))]) RX6 (by decide +kernel) rfl (Nat.le_of_ble_eq_true rfl) rfl ?_
  unfold f_X6_begin at h
  refine vr_iconst (pc := 0) 0 dX6_begin_0 ci_0 ?_
  refine vr_istore_n (pc := 1) [(2, .int 0), (0, .ref (g.1 q0)), (1, .ref (g.1 q1))] dX6_begin_1 rfl (by decide) rfl ?_
  refine vr_sub [1, 2, 0] [(0, .ref (g.1 q0)), (1, .ref (g.1 q1)), (2, .int 0)] rfl ?_
  refine v_X6_begin_L2 l g (fun p0 τ hp0 h => ?_) FU q0 q1 0 (hq0) (hq1) σ h
  refine vr_aload_n (pc := 29) 0 dX6_begin_29 rfl rfl ?_
  refine vr_getR (pc := 30) 5 dX6_begin_30 fi_X6_28 hp0 (sh_5_5 hp0).1 ?_
  refine vr_iconst (pc := 33) 0 dX6_begin_33 ci_0 ?_
  obtain ⟨z4, hz5, h⟩ := ob_some h
  refine vr_callS (pc := 34) (ρ1 := (none, z4)) [.ref (g.1 (rid p0 5)), .int 0] dX6_begin_34 (s_J7_fill_53178 l g (sh_5_5 hp0).2 hz5) cw_J7_fill_53178 ml_X6_42 (by decide) rfl rfl (Nat.le_of_ble_eq_true rfl) ?_
  refine vr_aload_n (pc := 37) 0 dX6_begin_37 rfl rfl ?_
  refine vr_iconst (pc := 38) 0 dX6_begin_38 ci_0 ?_
  refine vr_putI (pc := 39) 6 dX6_begin_39 fi_X6_48 (fw_5_6 _) hp0 (sh_5_6 hp0) ?_
  have h := Option.some.inj h; subst h
  exact vr_vret (pc := 42) dX6_begin_42 rfl rfl
theorem dX6_passTick_0 : decode cX6_passTick 0 = .ok (.iconst 0, 1) := by decide +kernel
theorem dX6_passTick_1 : decode cX6_passTick 1 = .ok (.istore 4, 2) := by decide +kernel
theorem dX6_passTick_3 : decode cX6_passTick 3 = .ok (.iload 4, 2) := by decide +kernel
theorem dX6_passTick_5 : decode cX6_passTick 5 = .ok (.bipush 6, 2) := by decide +kernel
theorem dX6_passTick_7 : decode cX6_passTick 7 = .ok (.if_icmp .ge 82, 3) := by decide +kernel
theorem dX6_passTick_10 : decode cX6_passTick 10 = .ok (.aload_n 1, 1) := by decide +kernel
theorem dX6_passTick_11 : decode cX6_passTick 11 = .ok (.getfield 31, 3) := by decide +kernel
theorem dX6_passTick_14 : decode cX6_passTick 14 = .ok (.iload 4, 2) := by decide +kernel
theorem dX6_passTick_16 : decode cX6_passTick 16 = .ok (.aaload, 1) := by decide +kernel
theorem dX6_passTick_17 : decode cX6_passTick 17 = .ok (.astore 5, 2) := by decide +kernel
theorem dX6_passTick_19 : decode cX6_passTick 19 = .ok (.aload_n 0, 1) := by decide +kernel
theorem dX6_passTick_20 : decode cX6_passTick 20 = .ok (.getfield 15, 3) := by decide +kernel
theorem dX6_passTick_23 : decode cX6_passTick 23 = .ok (.iload 4, 2) := by decide +kernel
theorem dX6_passTick_25 : decode cX6_passTick 25 = .ok (.iload_n 2, 1) := by decide +kernel
theorem dX6_passTick_26 : decode cX6_passTick 26 = .ok (.iload 4, 2) := by decide +kernel
theorem dX6_passTick_28 : decode cX6_passTick 28 = .ok (.ishr, 1) := by decide +kernel
theorem dX6_passTick_29 : decode cX6_passTick 29 = .ok (.iconst 1, 1) := by decide +kernel
theorem dX6_passTick_30 : decode cX6_passTick 30 = .ok (.iand, 1) := by decide +kernel
theorem dX6_passTick_31 : decode cX6_passTick 31 = .ok (.iconst 1, 1) := by decide +kernel
theorem dX6_passTick_32 : decode cX6_passTick 32 = .ok (.if_icmp .ne 19, 3) := by decide +kernel
theorem dX6_passTick_35 : decode cX6_passTick 35 = .ok (.iload_n 3, 1) := by decide +kernel
theorem dX6_passTick_36 : decode cX6_passTick 36 = .ok (.aload 5, 2) := by decide +kernel
theorem dX6_passTick_38 : decode cX6_passTick 38 = .ok (.getfield 51, 3) := by decide +kernel
theorem dX6_passTick_41 : decode cX6_passTick 41 = .ok (.invokestatic 54, 3) := by decide +kernel
theorem dX6_passTick_44 : decode cX6_passTick 44 = .ok (.ifCond .ne 7, 3) := by decide +kernel
theorem dX6_passTick_47 : decode cX6_passTick 47 = .ok (.iconst 1, 1) := by decide +kernel
theorem dX6_passTick_48 : decode cX6_passTick 48 = .ok (.goto 4, 3) := by decide +kernel
theorem dX6_passTick_51 : decode cX6_passTick 51 = .ok (.iconst 0, 1) := by decide +kernel
theorem dX6_passTick_52 : decode cX6_passTick 52 = .ok (.bastore, 1) := by decide +kernel
theorem dX6_passTick_53 : decode cX6_passTick 53 = .ok (.aload_n 0, 1) := by decide +kernel
theorem dX6_passTick_54 : decode cX6_passTick 54 = .ok (.getfield 15, 3) := by decide +kernel
theorem dX6_passTick_57 : decode cX6_passTick 57 = .ok (.iload 4, 2) := by decide +kernel
theorem dX6_passTick_59 : decode cX6_passTick 59 = .ok (.baload, 1) := by decide +kernel
theorem dX6_passTick_60 : decode cX6_passTick 60 = .ok (.ifCond .eq 23, 3) := by decide +kernel
theorem dX6_passTick_63 : decode cX6_passTick 63 = .ok (.aload_n 0, 1) := by decide +kernel
theorem dX6_passTick_64 : decode cX6_passTick 64 = .ok (.getfield 9, 3) := by decide +kernel
theorem dX6_passTick_67 : decode cX6_passTick 67 = .ok (.iload 4, 2) := by decide +kernel
theorem dX6_passTick_69 : decode cX6_passTick 69 = .ok (.aload_n 1, 1) := by decide +kernel
theorem dX6_passTick_70 : decode cX6_passTick 70 = .ok (.aload 5, 2) := by decide +kernel
theorem dX6_passTick_72 : decode cX6_passTick 72 = .ok (.aload_n 0, 1) := by decide +kernel
theorem dX6_passTick_73 : decode cX6_passTick 73 = .ok (.getfield 9, 3) := by decide +kernel
theorem dX6_passTick_76 : decode cX6_passTick 76 = .ok (.iload 4, 2) := by decide +kernel
theorem dX6_passTick_78 : decode cX6_passTick 78 = .ok (.iaload, 1) := by decide +kernel
theorem dX6_passTick_79 : decode cX6_passTick 79 = .ok (.invokevirtual 60, 3) := by decide +kernel
theorem dX6_passTick_82 : decode cX6_passTick 82 = .ok (.iastore, 1) := by decide +kernel
theorem dX6_passTick_83 : decode cX6_passTick 83 = .ok (.iinc 4 1, 3) := by decide +kernel
theorem dX6_passTick_86 : decode cX6_passTick 86 = .ok (.goto (-83), 3) := by decide +kernel
theorem dX6_passTick_89 : decode cX6_passTick 89 = .ok (.return_, 1) := by decide +kernel
set_option maxRecDepth 20000 in
set_option maxHeartbeats 4000000 in
theorem v_X6_passTick_L3 (l : Launch) (g : GG) {r : SS} {κ : SS → Option SS} (hκ : ∀ (τ : SS) , κ  τ = some r → VV l g 3 RX6 cX6_passTick 6 none (none, r) 89 [] [] τ) : ∀ (fu : Nat) (q0 : Nat) (q1 : Nat) (x2 : Int32) (x3 : Int32) (x4 : Int32) (hq0 : kd q0 = 5) (hq1 : kd q1 = 3) (σ : SS), f_X6_passTick_L3 κ fu q0 q1 x2 x3 x4 σ = some r → VV l g 3 RX6 cX6_passTick 6 none (none, r) 3 [(0, .ref (g.1 q0)), (1, .ref (g.1 q1)), (2, .int x2), (3, .int x3), (4, .int x4)] [] σ := by
  intro fu
  induction fu with
  | zero => intro q0 q1 x2 x3 x4 hq0 hq1 σ h; cases h
  | succ fu ih =>
    intro q0 q1 x2 x3 x4 hq0 hq1 σ h
    simp only [f_X6_passTick_L3] at h
    refine vr_iload (pc := 3) 4 dX6_passTick_3 rfl ?_
    refine vr_bipush (pc := 5) 6 dX6_passTick_5 cb_6 ?_
    refine vr_icmp_ge (pc := 7) 89 dX6_passTick_7 (by decide) (fun c1 => ?_) (fun c1 => ?_)
    · rw [if_pos c1] at h
      refine vr_sub [] [] rfl ?_
      exact hκ σ h
    · rw [if_neg c1] at h
      refine vr_aload_n (pc := 10) 1 dX6_passTick_10 rfl rfl ?_
      refine vr_getR (pc := 11) 4 dX6_passTick_11 fi_X6_31 hq1 (sh_3_4 hq1).1 ?_
      refine vr_iload (pc := 14) 4 dX6_passTick_14 rfl ?_
      obtain ⟨hc2, h⟩ := ck_some h
      refine vr_aald (pc := 16) dX6_passTick_16 (sh_3_4 hq1).2 (by decide) hc2 (sha_13 (sh_3_4 hq1).2 (lt_ck hc2)).1 ?_
      refine vr_astore (pc := 17) [(5, .ref (g.1 (rid (rid q1 4) x4.toNatClampNeg))), (0, .ref (g.1 q0)), (1, .ref (g.1 q1)), (2, .int x2), (3, .int x3), (4, .int x4)] dX6_passTick_17 (by decide) rfl ?_
      refine vr_aload_n (pc := 19) 1 dX6_passTick_19 rfl rfl ?_
      refine vr_getR (pc := 20) 1 dX6_passTick_20 fi_X6_15 hq0 (sh_5_1 hq0).1 ?_
      refine vr_iload (pc := 23) 5 dX6_passTick_23 rfl ?_
      refine vr_iload_n (pc := 25) 3 dX6_passTick_25 rfl rfl ?_
      refine vr_iload (pc := 26) 5 dX6_passTick_26 rfl ?_
      refine vr_ishr (pc := 28) dX6_passTick_28 ?_
      refine vr_iconst (pc := 29) 1 dX6_passTick_29 ci_1 ?_
      refine vr_iand (pc := 30) dX6_passTick_30 ?_
      refine vr_iconst (pc := 31) 1 dX6_passTick_31 ci_1 ?_
      obtain ⟨j3, ej3, h⟩ := jn1_e h
      have hj3 : ∀ (v5 : Int32) , j3 v5 = some r → VV l g 3 RX6 cX6_passTick 6 none (none, r) 52 [(0, .ref (g.1 q0)), (1, .ref (g.1 q1)), (2, .int x2), (3, .int x3), (4, .int x4), (5, .ref (g.1 (rid (rid q1 4) x4.toNatClampNeg)))] [.int v5, .int x4, .ref (g.1 (rid q0 1))] σ := by
        intro v5  h
        rw [ej3] at h
        obtain ⟨hc6, h⟩ := ck_some h
        obtain ⟨hb7, h⟩ := ck_some h
        refine vr_zastB (pc := 52) dX6_passTick_52 (sh_5_1 hq0).2 hc6 hb7 ?_
        refine vr_aload_n (pc := 53) 0 dX6_passTick_53 rfl rfl ?_
        refine vr_getR (pc := 54) 1 dX6_passTick_54 fi_X6_15 hq0 (sh_5_1 hq0).1 ?_
        refine vr_iload (pc := 57) 4 dX6_passTick_57 rfl ?_
        obtain ⟨hc8, h⟩ := ck_some h
        refine vr_zald (pc := 59) dX6_passTick_59 (sh_5_1 hq0).2 hc8 ?_
        refine vr_if_eq (pc := 60) 83 dX6_passTick_60 (by decide) (fun c9 => ?_) (fun c9 => ?_)
        · rw [if_pos c9] at h
          refine vr_iinc (pc := 83) [(4, .int (x4 + 1)), (0, .ref (g.1 q0)), (1, .ref (g.1 q1)), (2, .int x2), (3, .int x3), (5, .ref (g.1 (rid (rid q1 4) x4.toNatClampNeg)))] 4 dX6_passTick_83 rfl (congrArg (fun z => x4 + z) ci_1) (by decide) rfl ?_
          refine vr_goto (pc := 86) 3 dX6_passTick_86 (by decide) ?_
          refine vr_sub [1, 2, 3, 4, 0] [(0, .ref (g.1 q0)), (1, .ref (g.1 q1)), (2, .int x2), (3, .int x3), (4, .int (x4 + 1))] rfl ?_
          exact ih q0 q1 x2 x3 (x4 + 1) (hq0) (hq1) (sI σ (rid q0 1) x4.toNatClampNeg v5) h
        · rw [if_neg c9] at h
          refine vr_aload_n (pc := 63) 0 dX6_passTick_63 rfl rfl ?_
          refine vr_getR (pc := 64) 0 dX6_passTick_64 fi_X6_9 hq0 (sh_5_0 hq0).1 ?_
          refine vr_iload (pc := 67) 4 dX6_passTick_67 rfl ?_
          refine vr_aload_n (pc := 69) 1 dX6_passTick_69 rfl rfl ?_
          refine vr_aload (pc := 70) 5 dX6_passTick_70 rfl ?_
          refine vr_aload_n (pc := 72) 0 dX6_passTick_72 rfl rfl ?_
          refine vr_getR (pc := 73) 0 dX6_passTick_73 fi_X6_9 hq0 (sh_5_0 hq0).1 ?_
          refine vr_iload (pc := 76) 4 dX6_passTick_76 rfl ?_
          obtain ⟨hc10, h⟩ := ck_some h
          refine vr_iald (pc := 78) dX6_passTick_78 (sh_5_0 hq0).2 hc10 ?_
          obtain ⟨z11, hz12, h⟩ := ob_some h
          refine vr_callV (pc := 79) (ρ1 := (some (.int z11), (sI σ (rid q0 1) x4.toNatClampNeg v5))) [.ref (g.1 (rid (rid q1 4) x4.toNatClampNeg)), .int ((sI σ (rid q0 1) x4.toNatClampNeg v5).1 (rid q0 0) x4.toNatClampNeg)] dX6_passTick_79 (s_X4_nextBy l g (hq1) (sha_13 (sh_3_4 hq1).2 (lt_ck hc2)).2 hz12) cw_X4_nextBy ml_X6_60 hq1 rfl (by decide) (by decide) rfl rfl (Nat.le_of_ble_eq_true rfl) ?_
          obtain ⟨hc13, h⟩ := ck_some h
          refine vr_iast (pc := 82) dX6_passTick_82 (sh_5_0 hq0).2 hc13 ?_
          refine vr_iinc (pc := 83) [(4, .int (x4 + 1)), (0, .ref (g.1 q0)), (1, .ref (g.1 q1)), (2, .int x2), (3, .int x3), (5, .ref (g.1 (rid (rid q1 4) x4.toNatClampNeg)))] 4 dX6_passTick_83 rfl (congrArg (fun z => x4 + z) ci_1) (by decide) rfl ?_
          refine vr_goto (pc := 86) 3 dX6_passTick_86 (by decide) ?_
          refine vr_sub [1, 2, 3, 4, 0] [(0, .ref (g.1 q0)), (1, .ref (g.1 q1)), (2, .int x2), (3, .int x3), (4, .int (x4 + 1))] rfl ?_
          exact ih q0 q1 x2 x3 (x4 + 1) (hq0) (hq1) (sI (sI σ (rid q0 1) x4.toNatClampNeg v5) (rid q0 0) x4.toNatClampNeg z11) h
      refine vr_icmp_ne (pc := 32) 51 dX6_passTick_32 (by decide) (fun c14 => ?_) (fun c14 => ?_)
      · rw [if_neg c14] at h
        refine vr_iconst (pc := 51) 0 dX6_passTick_51 ci_0 ?_
        refine vr_sub [1, 2, 3, 4, 5, 0] [(0, .ref (g.1 q0)), (1, .ref (g.1 q1)), (2, .int x2), (3, .int x3), (4, .int x4), (5, .ref (g.1 (rid (rid q1 4) x4.toNatClampNeg)))] rfl ?_
        exact hj3 0 h
      · rw [if_pos c14] at h
        refine vr_iload_n (pc := 35) 4 dX6_passTick_35 rfl rfl ?_
        refine vr_aload (pc := 36) 0 dX6_passTick_36 rfl ?_
        refine vr_getI (pc := 38) 3 dX6_passTick_38 fi_X6_51 (sha_13 (sh_3_4 hq1).2 (lt_ck hc2)).2 (sh_6_3 (sha_13 (sh_3_4 hq1).2 (lt_ck hc2)).2) ?_
        refine vr_callS (pc := 41) (ρ1 := (some (.int (f_X2_modulo x3 (σ.1 (rid (rid q1 4) x4.toNatClampNeg) 3))), σ)) [.int x3, .int (σ.1 (rid (rid q1 4) x4.toNatClampNeg) 3)] dX6_passTick_41 (s_X2_modulo l g rfl) cw_X2_modulo ml_X6_54 (by decide) rfl rfl (Nat.le_of_ble_eq_true rfl) ?_
        refine vr_if_ne (pc := 44) 51 dX6_passTick_44 (by decide) (fun c15 => ?_) (fun c15 => ?_)
        · rw [if_neg c15] at h
          refine vr_iconst (pc := 51) 0 dX6_passTick_51 ci_0 ?_
          refine vr_sub [1, 2, 3, 4, 5, 0] [(0, .ref (g.1 q0)), (1, .ref (g.1 q1)), (2, .int x2), (3, .int x3), (4, .int x4), (5, .ref (g.1 (rid (rid q1 4) x4.toNatClampNeg)))] rfl ?_
          exact hj3 0 h
        · rw [if_pos c15] at h
          refine vr_iconst (pc := 47) 1 dX6_passTick_47 ci_1 ?_
          refine vr_goto (pc := 48) 52 dX6_passTick_48 (by decide) ?_
          refine vr_sub [1, 2, 3, 4, 5, 0] [(0, .ref (g.1 q0)), (1, .ref (g.1 q1)), (2, .int x2), (3, .int x3), (4, .int x4), (5, .ref (g.1 (rid (rid q1 4) x4.toNatClampNeg)))] rfl ?_
          exact hj3 1 h
set_option maxRecDepth 20000 in
set_option maxHeartbeats 4000000 in
theorem s_X6_passTick (l : Launch) (g : GG) {q0 : Nat} (hq0 : kd q0 = 5) {q1 : Nat} (hq1 : kd q1 = 3) {a2 : Int32} {a3 : Int32} {σ : SS} {r : SS} (h : f_X6_passTick q0 q1 a2 a3 σ = some r) : CT l g 3 yX6_passTick cX6_passTick 6 none [.ref (g.1 q0), .ref (g.1 q1), .int a2, .int a3] σ (none, r) := by
  refine CT.of (lv := [(0, .ref (g.1 q0)), (1, .ref (g.1 q1)), (2, .int a2), (3, .int a3)]) RX6 (by decide +kernel) rfl (Nat.le_of_ble_eq_true rfl) rfl ?_
  unfold f_X6_passTick at h
  refine vr_iconst (pc := 0) 0 dX6_passTick_0 ci_0 ?_
  refine vr_istore (pc := 1) [(4, .int 0), (0, .ref (g.1 q0)), (1, .ref (g.1 q1)), (2, .int a2), (3, .int a3)] dX6_passTick_1 (by decide) rfl ?_
  refine vr_sub [1, 2, 3, 4, 0] [(0, .ref (g.1 q0)), (1, .ref (g.1 q1)), (2, .int a2), (3, .int a3), (4, .int 0)] rfl ?_
  refine v_X6_passTick_L3 l g (fun τ h => ?_) FU q0 q1 a2 a3 0 (hq0) (hq1) σ h
  have h := Option.some.inj h; subst h
  exact vr_vret (pc := 89) dX6_passTick_89 rfl rfl
theorem dX6_meetingTooth_0 : decode cX6_meetingTooth 0 = .ok (.bipush (-9), 2) := by decide +kernel
theorem dX6_meetingTooth_2 : decode cX6_meetingTooth 2 = .ok (.istore_n 1, 1) := by decide +kernel
theorem dX6_meetingTooth_3 : decode cX6_meetingTooth 3 = .ok (.iconst 0, 1) := by decide +kernel
theorem dX6_meetingTooth_4 : decode cX6_meetingTooth 4 = .ok (.istore_n 2, 1) := by decide +kernel
theorem dX6_meetingTooth_5 : decode cX6_meetingTooth 5 = .ok (.iload_n 2, 1) := by decide +kernel
theorem dX6_meetingTooth_6 : decode cX6_meetingTooth 6 = .ok (.bipush 6, 2) := by decide +kernel
theorem dX6_meetingTooth_8 : decode cX6_meetingTooth 8 = .ok (.if_icmp .ge 93, 3) := by decide +kernel
theorem dX6_meetingTooth_11 : decode cX6_meetingTooth 11 = .ok (.iload_n 2, 1) := by decide +kernel
theorem dX6_meetingTooth_12 : decode cX6_meetingTooth 12 = .ok (.iconst 1, 1) := by decide +kernel
theorem dX6_meetingTooth_13 : decode cX6_meetingTooth 13 = .ok (.iadd, 1) := by decide +kernel
theorem dX6_meetingTooth_14 : decode cX6_meetingTooth 14 = .ok (.istore_n 3, 1) := by decide +kernel
theorem dX6_meetingTooth_15 : decode cX6_meetingTooth 15 = .ok (.iload_n 3, 1) := by decide +kernel
theorem dX6_meetingTooth_16 : decode cX6_meetingTooth 16 = .ok (.bipush 6, 2) := by decide +kernel
theorem dX6_meetingTooth_18 : decode cX6_meetingTooth 18 = .ok (.if_icmp .ge 77, 3) := by decide +kernel
theorem dX6_meetingTooth_21 : decode cX6_meetingTooth 21 = .ok (.aload_n 0, 1) := by decide +kernel
theorem dX6_meetingTooth_22 : decode cX6_meetingTooth 22 = .ok (.getfield 15, 3) := by decide +kernel
theorem dX6_meetingTooth_25 : decode cX6_meetingTooth 25 = .ok (.iload_n 2, 1) := by decide +kernel
theorem dX6_meetingTooth_26 : decode cX6_meetingTooth 26 = .ok (.baload, 1) := by decide +kernel
theorem dX6_meetingTooth_27 : decode cX6_meetingTooth 27 = .ok (.ifCond .eq 31, 3) := by decide +kernel
theorem dX6_meetingTooth_30 : decode cX6_meetingTooth 30 = .ok (.aload_n 0, 1) := by decide +kernel
theorem dX6_meetingTooth_31 : decode cX6_meetingTooth 31 = .ok (.getfield 15, 3) := by decide +kernel
theorem dX6_meetingTooth_34 : decode cX6_meetingTooth 34 = .ok (.iload_n 3, 1) := by decide +kernel
theorem dX6_meetingTooth_35 : decode cX6_meetingTooth 35 = .ok (.baload, 1) := by decide +kernel
theorem dX6_meetingTooth_36 : decode cX6_meetingTooth 36 = .ok (.ifCond .eq 22, 3) := by decide +kernel
theorem dX6_meetingTooth_39 : decode cX6_meetingTooth 39 = .ok (.aload_n 0, 1) := by decide +kernel
theorem dX6_meetingTooth_40 : decode cX6_meetingTooth 40 = .ok (.getfield 9, 3) := by decide +kernel
theorem dX6_meetingTooth_43 : decode cX6_meetingTooth 43 = .ok (.iload_n 2, 1) := by decide +kernel
theorem dX6_meetingTooth_44 : decode cX6_meetingTooth 44 = .ok (.iaload, 1) := by decide +kernel
theorem dX6_meetingTooth_45 : decode cX6_meetingTooth 45 = .ok (.aload_n 0, 1) := by decide +kernel
theorem dX6_meetingTooth_46 : decode cX6_meetingTooth 46 = .ok (.getfield 9, 3) := by decide +kernel
theorem dX6_meetingTooth_49 : decode cX6_meetingTooth 49 = .ok (.iload_n 3, 1) := by decide +kernel
theorem dX6_meetingTooth_50 : decode cX6_meetingTooth 50 = .ok (.iaload, 1) := by decide +kernel
theorem dX6_meetingTooth_51 : decode cX6_meetingTooth 51 = .ok (.if_icmp .ne 7, 3) := by decide +kernel
theorem dX6_meetingTooth_54 : decode cX6_meetingTooth 54 = .ok (.iconst 1, 1) := by decide +kernel
theorem dX6_meetingTooth_55 : decode cX6_meetingTooth 55 = .ok (.goto 4, 3) := by decide +kernel
theorem dX6_meetingTooth_58 : decode cX6_meetingTooth 58 = .ok (.iconst 0, 1) := by decide +kernel
theorem dX6_meetingTooth_59 : decode cX6_meetingTooth 59 = .ok (.istore 4, 2) := by decide +kernel
theorem dX6_meetingTooth_61 : decode cX6_meetingTooth 61 = .ok (.iload 4, 2) := by decide +kernel
theorem dX6_meetingTooth_63 : decode cX6_meetingTooth 63 = .ok (.ifCond .eq 26, 3) := by decide +kernel
theorem dX6_meetingTooth_66 : decode cX6_meetingTooth 66 = .ok (.iload_n 1, 1) := by decide +kernel
theorem dX6_meetingTooth_67 : decode cX6_meetingTooth 67 = .ok (.bipush (-9), 2) := by decide +kernel
theorem dX6_meetingTooth_69 : decode cX6_meetingTooth 69 = .ok (.if_icmp .eq 13, 3) := by decide +kernel
theorem dX6_meetingTooth_72 : decode cX6_meetingTooth 72 = .ok (.aload_n 0, 1) := by decide +kernel
theorem dX6_meetingTooth_73 : decode cX6_meetingTooth 73 = .ok (.getfield 9, 3) := by decide +kernel
theorem dX6_meetingTooth_76 : decode cX6_meetingTooth 76 = .ok (.iload_n 2, 1) := by decide +kernel
theorem dX6_meetingTooth_77 : decode cX6_meetingTooth 77 = .ok (.iaload, 1) := by decide +kernel
theorem dX6_meetingTooth_78 : decode cX6_meetingTooth 78 = .ok (.iload_n 1, 1) := by decide +kernel
theorem dX6_meetingTooth_79 : decode cX6_meetingTooth 79 = .ok (.if_icmp .ge 10, 3) := by decide +kernel
theorem dX6_meetingTooth_82 : decode cX6_meetingTooth 82 = .ok (.aload_n 0, 1) := by decide +kernel
theorem dX6_meetingTooth_83 : decode cX6_meetingTooth 83 = .ok (.getfield 9, 3) := by decide +kernel
theorem dX6_meetingTooth_86 : decode cX6_meetingTooth 86 = .ok (.iload_n 2, 1) := by decide +kernel
theorem dX6_meetingTooth_87 : decode cX6_meetingTooth 87 = .ok (.iaload, 1) := by decide +kernel
theorem dX6_meetingTooth_88 : decode cX6_meetingTooth 88 = .ok (.istore_n 1, 1) := by decide +kernel
theorem dX6_meetingTooth_89 : decode cX6_meetingTooth 89 = .ok (.iinc 3 1, 3) := by decide +kernel
theorem dX6_meetingTooth_92 : decode cX6_meetingTooth 92 = .ok (.goto (-77), 3) := by decide +kernel
theorem dX6_meetingTooth_95 : decode cX6_meetingTooth 95 = .ok (.iinc 2 1, 3) := by decide +kernel
theorem dX6_meetingTooth_98 : decode cX6_meetingTooth 98 = .ok (.goto (-93), 3) := by decide +kernel
theorem dX6_meetingTooth_101 : decode cX6_meetingTooth 101 = .ok (.iload_n 1, 1) := by decide +kernel
theorem dX6_meetingTooth_102 : decode cX6_meetingTooth 102 = .ok (.ireturn, 1) := by decide +kernel
set_option maxRecDepth 20000 in
set_option maxHeartbeats 4000000 in
theorem v_X6_meetingTooth_L15 (l : Launch) (g : GG) {r : Int32} {σ : SS} {κ : Nat → Int32 → Int32 → Option Int32} (hκ : ∀ (p0 : Nat) (y1 : Int32) (y2 : Int32) (hp0 : kd p0 = 5), κ p0 y1 y2 = some r → VV l g 0 RX6 cX6_meetingTooth 5 (some .int) (some (.int r), σ) 95 [(0, .ref (g.1 p0)), (1, .int y1), (2, .int y2)] [] σ) : ∀ (fu : Nat) (q0 : Nat) (x1 : Int32) (x2 : Int32) (x3 : Int32) (hq0 : kd q0 = 5), f_X6_meetingTooth_L15 σ κ fu q0 x1 x2 x3 = some r → VV l g 0 RX6 cX6_meetingTooth 5 (some .int) (some (.int r), σ) 15 [(0, .ref (g.1 q0)), (1, .int x1), (2, .int x2), (3, .int x3)] [] σ := by
  intro fu
  induction fu with
  | zero => intro q0 x1 x2 x3 hq0 h; cases h
  | succ fu ih =>
    intro q0 x1 x2 x3 hq0 h
    simp only [f_X6_meetingTooth_L15] at h
    refine vr_iload_n (pc := 15) 3 dX6_meetingTooth_15 rfl rfl ?_
    refine vr_bipush (pc := 16) 6 dX6_meetingTooth_16 cb_6 ?_
    refine vr_icmp_ge (pc := 18) 95 dX6_meetingTooth_18 (by decide) (fun c2 => ?_) (fun c2 => ?_)
    · rw [if_pos c2] at h
      refine vr_sub [0, 1, 2] [(0, .ref (g.1 q0)), (1, .int x1), (2, .int x2)] rfl ?_
      exact hκ q0 x1 x2 (hq0) h
    · rw [if_neg c2] at h
      refine vr_aload_n (pc := 21) 0 dX6_meetingTooth_21 rfl rfl ?_
      refine vr_getR (pc := 22) 1 dX6_meetingTooth_22 fi_X6_15 hq0 (sh_5_1 hq0).1 ?_
      refine vr_iload_n (pc := 25) 2 dX6_meetingTooth_25 rfl rfl ?_
      obtain ⟨hc3, h⟩ := ck_some h
      refine vr_zald (pc := 26) dX6_meetingTooth_26 (sh_5_1 hq0).2 hc3 ?_
      obtain ⟨j4, ej4, h⟩ := jn1_e h
      have hj4 : ∀ (v6 : Int32) , j4 v6 = some r → VV l g 0 RX6 cX6_meetingTooth 5 (some .int) (some (.int r), σ) 59 [(0, .ref (g.1 q0)), (1, .int x1), (2, .int x2), (3, .int x3)] [.int v6] σ := by
        intro v6  h
        rw [ej4] at h
        refine vr_istore (pc := 59) [(4, .int v6), (0, .ref (g.1 q0)), (1, .int x1), (2, .int x2), (3, .int x3)] dX6_meetingTooth_59 (by decide) rfl ?_
        refine vr_iload (pc := 61) 0 dX6_meetingTooth_61 rfl ?_
        refine vr_if_eq (pc := 63) 89 dX6_meetingTooth_63 (by decide) (fun c7 => ?_) (fun c7 => ?_)
        · rw [if_pos c7] at h
          refine vr_iinc (pc := 89) [(3, .int (x3 + 1)), (4, .int v6), (0, .ref (g.1 q0)), (1, .int x1), (2, .int x2)] 4 dX6_meetingTooth_89 rfl (congrArg (fun z => x3 + z) ci_1) (by decide) rfl ?_
          refine vr_goto (pc := 92) 15 dX6_meetingTooth_92 (by decide) ?_
          refine vr_sub [2, 3, 4, 0] [(0, .ref (g.1 q0)), (1, .int x1), (2, .int x2), (3, .int (x3 + 1))] rfl ?_
          exact ih q0 x1 x2 (x3 + 1) (hq0) h
        · rw [if_neg c7] at h
          refine vr_iload_n (pc := 66) 2 dX6_meetingTooth_66 rfl rfl ?_
          refine vr_bipush (pc := 67) (-9) dX6_meetingTooth_67 cb_m9 ?_
          refine vr_icmp_eq (pc := 69) 82 dX6_meetingTooth_69 (by decide) (fun c8 => ?_) (fun c8 => ?_)
          · rw [if_pos c8] at h
            refine vr_aload_n (pc := 82) 1 dX6_meetingTooth_82 rfl rfl ?_
            refine vr_getR (pc := 83) 0 dX6_meetingTooth_83 fi_X6_9 hq0 (sh_5_0 hq0).1 ?_
            refine vr_iload_n (pc := 86) 3 dX6_meetingTooth_86 rfl rfl ?_
            obtain ⟨hc9, h⟩ := ck_some h
            refine vr_iald (pc := 87) dX6_meetingTooth_87 (sh_5_0 hq0).2 hc9 ?_
            refine vr_istore_n (pc := 88) [(1, .int (σ.1 (rid q0 0) x2.toNatClampNeg)), (4, .int v6), (0, .ref (g.1 q0)), (2, .int x2), (3, .int x3)] dX6_meetingTooth_88 rfl (by decide) rfl ?_
            refine vr_iinc (pc := 89) [(3, .int (x3 + 1)), (1, .int (σ.1 (rid q0 0) x2.toNatClampNeg)), (4, .int v6), (0, .ref (g.1 q0)), (2, .int x2)] 4 dX6_meetingTooth_89 rfl (congrArg (fun z => x3 + z) ci_1) (by decide) rfl ?_
            refine vr_goto (pc := 92) 15 dX6_meetingTooth_92 (by decide) ?_
            refine vr_sub [3, 1, 4, 0] [(0, .ref (g.1 q0)), (1, .int (σ.1 (rid q0 0) x2.toNatClampNeg)), (2, .int x2), (3, .int (x3 + 1))] rfl ?_
            exact ih q0 (σ.1 (rid q0 0) x2.toNatClampNeg) x2 (x3 + 1) (hq0) h
          · rw [if_neg c8] at h
            refine vr_aload_n (pc := 72) 1 dX6_meetingTooth_72 rfl rfl ?_
            refine vr_getR (pc := 73) 0 dX6_meetingTooth_73 fi_X6_9 hq0 (sh_5_0 hq0).1 ?_
            refine vr_iload_n (pc := 76) 3 dX6_meetingTooth_76 rfl rfl ?_
            obtain ⟨hc10, h⟩ := ck_some h
            refine vr_iald (pc := 77) dX6_meetingTooth_77 (sh_5_0 hq0).2 hc10 ?_
            refine vr_iload_n (pc := 78) 2 dX6_meetingTooth_78 rfl rfl ?_
            refine vr_icmp_ge (pc := 79) 89 dX6_meetingTooth_79 (by decide) (fun c11 => ?_) (fun c11 => ?_)
            · rw [if_pos c11] at h
              refine vr_iinc (pc := 89) [(3, .int (x3 + 1)), (4, .int v6), (0, .ref (g.1 q0)), (1, .int x1), (2, .int x2)] 4 dX6_meetingTooth_89 rfl (congrArg (fun z => x3 + z) ci_1) (by decide) rfl ?_
              refine vr_goto (pc := 92) 15 dX6_meetingTooth_92 (by decide) ?_
              refine vr_sub [2, 3, 4, 0] [(0, .ref (g.1 q0)), (1, .int x1), (2, .int x2), (3, .int (x3 + 1))] rfl ?_
              exact ih q0 x1 x2 (x3 + 1) (hq0) h
            · rw [if_neg c11] at h
              refine vr_aload_n (pc := 82) 1 dX6_meetingTooth_82 rfl rfl ?_
              refine vr_getR (pc := 83) 0 dX6_meetingTooth_83 fi_X6_9 hq0 (sh_5_0 hq0).1 ?_
              refine vr_iload_n (pc := 86) 3 dX6_meetingTooth_86 rfl rfl ?_
              obtain ⟨hc12, h⟩ := ck_some h
              refine vr_iald (pc := 87) dX6_meetingTooth_87 (sh_5_0 hq0).2 hc12 ?_
              refine vr_istore_n (pc := 88) [(1, .int (σ.1 (rid q0 0) x2.toNatClampNeg)), (4, .int v6), (0, .ref (g.1 q0)), (2, .int x2), (3, .int x3)] dX6_meetingTooth_88 rfl (by decide) rfl ?_
              refine vr_iinc (pc := 89) [(3, .int (x3 + 1)), (1, .int (σ.1 (rid q0 0) x2.toNatClampNeg)), (4, .int v6), (0, .ref (g.1 q0)), (2, .int x2)] 4 dX6_meetingTooth_89 rfl (congrArg (fun z => x3 + z) ci_1) (by decide) rfl ?_
              refine vr_goto (pc := 92) 15 dX6_meetingTooth_92 (by decide) ?_
              refine vr_sub [3, 1, 4, 0] [(0, .ref (g.1 q0)), (1, .int (σ.1 (rid q0 0) x2.toNatClampNeg)), (2, .int x2), (3, .int (x3 + 1))] rfl ?_
              exact ih q0 (σ.1 (rid q0 0) x2.toNatClampNeg) x2 (x3 + 1) (hq0) h
      refine vr_if_eq (pc := 27) 58 dX6_meetingTooth_27 (by decide) (fun c13 => ?_) (fun c13 => ?_)
      · rw [if_pos c13] at h
        refine vr_iconst (pc := 58) 0 dX6_meetingTooth_58 ci_0 ?_
        exact hj4 0 h
      · rw [if_neg c13] at h
        refine vr_aload_n (pc := 30) 0 dX6_meetingTooth_30 rfl rfl ?_
        refine vr_getR (pc := 31) 1 dX6_meetingTooth_31 fi_X6_15 hq0 (sh_5_1 hq0).1 ?_
        refine vr_iload_n (pc := 34) 3 dX6_meetingTooth_34 rfl rfl ?_
        obtain ⟨hc14, h⟩ := ck_some h
        refine vr_zald (pc := 35) dX6_meetingTooth_35 (sh_5_1 hq0).2 hc14 ?_
        refine vr_if_eq (pc := 36) 58 dX6_meetingTooth_36 (by decide) (fun c15 => ?_) (fun c15 => ?_)
        · rw [if_pos c15] at h
          refine vr_iconst (pc := 58) 0 dX6_meetingTooth_58 ci_0 ?_
          exact hj4 0 h
        · rw [if_neg c15] at h
          refine vr_aload_n (pc := 39) 0 dX6_meetingTooth_39 rfl rfl ?_
          refine vr_getR (pc := 40) 0 dX6_meetingTooth_40 fi_X6_9 hq0 (sh_5_0 hq0).1 ?_
          refine vr_iload_n (pc := 43) 2 dX6_meetingTooth_43 rfl rfl ?_
          obtain ⟨hc16, h⟩ := ck_some h
          refine vr_iald (pc := 44) dX6_meetingTooth_44 (sh_5_0 hq0).2 hc16 ?_
          refine vr_aload_n (pc := 45) 0 dX6_meetingTooth_45 rfl rfl ?_
          refine vr_getR (pc := 46) 0 dX6_meetingTooth_46 fi_X6_9 hq0 (sh_5_0 hq0).1 ?_
          refine vr_iload_n (pc := 49) 3 dX6_meetingTooth_49 rfl rfl ?_
          obtain ⟨hc17, h⟩ := ck_some h
          refine vr_iald (pc := 50) dX6_meetingTooth_50 (sh_5_0 hq0).2 hc17 ?_
          refine vr_icmp_ne (pc := 51) 58 dX6_meetingTooth_51 (by decide) (fun c18 => ?_) (fun c18 => ?_)
          · rw [if_neg c18] at h
            refine vr_iconst (pc := 58) 0 dX6_meetingTooth_58 ci_0 ?_
            exact hj4 0 h
          · rw [if_pos c18] at h
            refine vr_iconst (pc := 54) 1 dX6_meetingTooth_54 ci_1 ?_
            refine vr_goto (pc := 55) 59 dX6_meetingTooth_55 (by decide) ?_
            exact hj4 1 h
set_option maxRecDepth 20000 in
set_option maxHeartbeats 4000000 in
theorem v_X6_meetingTooth_L5 (l : Launch) (g : GG) {r : Int32} {σ : SS} {κ : Int32 → Option Int32} (hκ : ∀ (y1 : Int32) , κ y1 = some r → VV l g 0 RX6 cX6_meetingTooth 5 (some .int) (some (.int r), σ) 101 [(1, .int y1)] [] σ) : ∀ (fu : Nat) (q0 : Nat) (x1 : Int32) (x2 : Int32) (hq0 : kd q0 = 5), f_X6_meetingTooth_L5 σ κ fu q0 x1 x2 = some r → VV l g 0 RX6 cX6_meetingTooth 5 (some .int) (some (.int r), σ) 5 [(0, .ref (g.1 q0)), (1, .int x1), (2, .int x2)] [] σ := by
  intro fu
  induction fu with
  | zero => intro q0 x1 x2 hq0 h; cases h
  | succ fu ih =>
    intro q0 x1 x2 hq0 h
    simp only [f_X6_meetingTooth_L5] at h
    refine vr_iload_n (pc := 5) 2 dX6_meetingTooth_5 rfl rfl ?_
    refine vr_bipush (pc := 6) 6 dX6_meetingTooth_6 cb_6 ?_
    refine vr_icmp_ge (pc := 8) 101 dX6_meetingTooth_8 (by decide) (fun c1 => ?_) (fun c1 => ?_)
    · rw [if_pos c1] at h
      refine vr_sub [1] [(1, .int x1)] rfl ?_
      exact hκ x1 h
    · rw [if_neg c1] at h
      refine vr_iload_n (pc := 11) 2 dX6_meetingTooth_11 rfl rfl ?_
      refine vr_iconst (pc := 12) 1 dX6_meetingTooth_12 ci_1 ?_
      refine vr_iadd (pc := 13) dX6_meetingTooth_13 ?_
      refine vr_istore_n (pc := 14) [(3, .int (x2 + 1)), (0, .ref (g.1 q0)), (1, .int x1), (2, .int x2)] dX6_meetingTooth_14 rfl (by decide) rfl ?_
      refine vr_sub [1, 2, 3, 0] [(0, .ref (g.1 q0)), (1, .int x1), (2, .int x2), (3, .int (x2 + 1))] rfl ?_
      refine v_X6_meetingTooth_L15 l g (fun p0 y1 y2 hp0 h => ?_) FU q0 x1 x2 (x2 + 1) (hq0) h
      refine vr_iinc (pc := 95) [(2, .int (y2 + 1)), (0, .ref (g.1 p0)), (1, .int y1)] 2 dX6_meetingTooth_95 rfl (congrArg (fun z => y2 + z) ci_1) (by decide) rfl ?_
      refine vr_goto (pc := 98) 5 dX6_meetingTooth_98 (by decide) ?_
      refine vr_sub [1, 2, 0] [(0, .ref (g.1 p0)), (1, .int y1), (2, .int (y2 + 1))] rfl ?_
      exact ih p0 y1 (y2 + 1) (hp0) h
set_option maxRecDepth 20000 in
set_option maxHeartbeats 4000000 in
theorem s_X6_meetingTooth (l : Launch) (g : GG) {q0 : Nat} (hq0 : kd q0 = 5) {σ : SS} {r : Int32} (h : f_X6_meetingTooth q0 σ = some r) : CT l g 0 yX6_meetingTooth cX6_meetingTooth 5 (some .int) [.ref (g.1 q0)] σ (some (.int r), σ) := by
  refine CT.of (lv := [(0, .ref (g.1 q0))]) RX6 (by decide +kernel) rfl (Nat.le_of_ble_eq_true rfl) rfl ?_
  unfold f_X6_meetingTooth at h
  refine vr_bipush (pc := 0) (-9) dX6_meetingTooth_0 cb_m9 ?_
  refine vr_istore_n (pc := 2) [(1, .int (-9)), (0, .ref (g.1 q0))] dX6_meetingTooth_2 rfl (by decide) rfl ?_
  refine vr_iconst (pc := 3) 0 dX6_meetingTooth_3 ci_0 ?_
  refine vr_istore_n (pc := 4) [(2, .int 0), (1, .int (-9)), (0, .ref (g.1 q0))] dX6_meetingTooth_4 rfl (by decide) rfl ?_
  refine vr_sub [2, 1, 0] [(0, .ref (g.1 q0)), (1, .int (-9)), (2, .int 0)] rfl ?_
  refine v_X6_meetingTooth_L5 l g (fun y1 h => ?_) FU q0 (-9) 0 (hq0) h
  refine vr_iload_n (pc := 101) 0 dX6_meetingTooth_101 rfl rfl ?_
  have h := Option.some.inj h; subst h
  exact vr_iret (pc := 102) .int dX6_meetingTooth_102 rfl rfl rfl
theorem dX6_leastToucher_0 : decode cX6_leastToucher 0 = .ok (.bipush (-9), 2) := by decide +kernel
theorem dX6_leastToucher_2 : decode cX6_leastToucher 2 = .ok (.istore_n 1, 1) := by decide +kernel
theorem dX6_leastToucher_3 : decode cX6_leastToucher 3 = .ok (.iconst 0, 1) := by decide +kernel
theorem dX6_leastToucher_4 : decode cX6_leastToucher 4 = .ok (.istore_n 2, 1) := by decide +kernel
theorem dX6_leastToucher_5 : decode cX6_leastToucher 5 = .ok (.iload_n 2, 1) := by decide +kernel
theorem dX6_leastToucher_6 : decode cX6_leastToucher 6 = .ok (.bipush 6, 2) := by decide +kernel
theorem dX6_leastToucher_8 : decode cX6_leastToucher 8 = .ok (.if_icmp .ge 41, 3) := by decide +kernel
theorem dX6_leastToucher_11 : decode cX6_leastToucher 11 = .ok (.aload_n 0, 1) := by decide +kernel
theorem dX6_leastToucher_12 : decode cX6_leastToucher 12 = .ok (.getfield 15, 3) := by decide +kernel
theorem dX6_leastToucher_15 : decode cX6_leastToucher 15 = .ok (.iload_n 2, 1) := by decide +kernel
theorem dX6_leastToucher_16 : decode cX6_leastToucher 16 = .ok (.baload, 1) := by decide +kernel
theorem dX6_leastToucher_17 : decode cX6_leastToucher 17 = .ok (.ifCond .eq 26, 3) := by decide +kernel
theorem dX6_leastToucher_20 : decode cX6_leastToucher 20 = .ok (.iload_n 1, 1) := by decide +kernel
theorem dX6_leastToucher_21 : decode cX6_leastToucher 21 = .ok (.bipush (-9), 2) := by decide +kernel
theorem dX6_leastToucher_23 : decode cX6_leastToucher 23 = .ok (.if_icmp .eq 18, 3) := by decide +kernel
theorem dX6_leastToucher_26 : decode cX6_leastToucher 26 = .ok (.aload_n 0, 1) := by decide +kernel
theorem dX6_leastToucher_27 : decode cX6_leastToucher 27 = .ok (.getfield 9, 3) := by decide +kernel
theorem dX6_leastToucher_30 : decode cX6_leastToucher 30 = .ok (.iload_n 2, 1) := by decide +kernel
theorem dX6_leastToucher_31 : decode cX6_leastToucher 31 = .ok (.iaload, 1) := by decide +kernel
theorem dX6_leastToucher_32 : decode cX6_leastToucher 32 = .ok (.aload_n 0, 1) := by decide +kernel
theorem dX6_leastToucher_33 : decode cX6_leastToucher 33 = .ok (.getfield 9, 3) := by decide +kernel
theorem dX6_leastToucher_36 : decode cX6_leastToucher 36 = .ok (.iload_n 1, 1) := by decide +kernel
theorem dX6_leastToucher_37 : decode cX6_leastToucher 37 = .ok (.iaload, 1) := by decide +kernel
theorem dX6_leastToucher_38 : decode cX6_leastToucher 38 = .ok (.if_icmp .ge 5, 3) := by decide +kernel
theorem dX6_leastToucher_41 : decode cX6_leastToucher 41 = .ok (.iload_n 2, 1) := by decide +kernel
theorem dX6_leastToucher_42 : decode cX6_leastToucher 42 = .ok (.istore_n 1, 1) := by decide +kernel
theorem dX6_leastToucher_43 : decode cX6_leastToucher 43 = .ok (.iinc 2 1, 3) := by decide +kernel
theorem dX6_leastToucher_46 : decode cX6_leastToucher 46 = .ok (.goto (-41), 3) := by decide +kernel
theorem dX6_leastToucher_49 : decode cX6_leastToucher 49 = .ok (.iload_n 1, 1) := by decide +kernel
theorem dX6_leastToucher_50 : decode cX6_leastToucher 50 = .ok (.ireturn, 1) := by decide +kernel
set_option maxRecDepth 20000 in
set_option maxHeartbeats 4000000 in
theorem v_X6_leastToucher_L5 (l : Launch) (g : GG) {r : Int32} {σ : SS} {κ : Int32 → Option Int32} (hκ : ∀ (y1 : Int32) , κ y1 = some r → VV l g 0 RX6 cX6_leastToucher 3 (some .int) (some (.int r), σ) 49 [(1, .int y1)] [] σ) : ∀ (fu : Nat) (q0 : Nat) (x1 : Int32) (x2 : Int32) (hq0 : kd q0 = 5), f_X6_leastToucher_L5 σ κ fu q0 x1 x2 = some r → VV l g 0 RX6 cX6_leastToucher 3 (some .int) (some (.int r), σ) 5 [(0, .ref (g.1 q0)), (1, .int x1), (2, .int x2)] [] σ := by
  intro fu
  induction fu with
  | zero => intro q0 x1 x2 hq0 h; cases h
  | succ fu ih =>
    intro q0 x1 x2 hq0 h
    simp only [f_X6_leastToucher_L5] at h
    refine vr_iload_n (pc := 5) 2 dX6_leastToucher_5 rfl rfl ?_
    refine vr_bipush (pc := 6) 6 dX6_leastToucher_6 cb_6 ?_
    refine vr_icmp_ge (pc := 8) 49 dX6_leastToucher_8 (by decide) (fun c1 => ?_) (fun c1 => ?_)
    · rw [if_pos c1] at h
      refine vr_sub [1] [(1, .int x1)] rfl ?_
      exact hκ x1 h
    · rw [if_neg c1] at h
      refine vr_aload_n (pc := 11) 0 dX6_leastToucher_11 rfl rfl ?_
      refine vr_getR (pc := 12) 1 dX6_leastToucher_12 fi_X6_15 hq0 (sh_5_1 hq0).1 ?_
      refine vr_iload_n (pc := 15) 2 dX6_leastToucher_15 rfl rfl ?_
      obtain ⟨hc2, h⟩ := ck_some h
      refine vr_zald (pc := 16) dX6_leastToucher_16 (sh_5_1 hq0).2 hc2 ?_
      refine vr_if_eq (pc := 17) 43 dX6_leastToucher_17 (by decide) (fun c3 => ?_) (fun c3 => ?_)
      · rw [if_pos c3] at h
        refine vr_iinc (pc := 43) [(2, .int (x2 + 1)), (0, .ref (g.1 q0)), (1, .int x1)] 2 dX6_leastToucher_43 rfl (congrArg (fun z => x2 + z) ci_1) (by decide) rfl ?_
        refine vr_goto (pc := 46) 5 dX6_leastToucher_46 (by decide) ?_
        refine vr_sub [1, 2, 0] [(0, .ref (g.1 q0)), (1, .int x1), (2, .int (x2 + 1))] rfl ?_
        exact ih q0 x1 (x2 + 1) (hq0) h
      · rw [if_neg c3] at h
        refine vr_iload_n (pc := 20) 1 dX6_leastToucher_20 rfl rfl ?_
        refine vr_bipush (pc := 21) (-9) dX6_leastToucher_21 cb_m9 ?_
        refine vr_icmp_eq (pc := 23) 41 dX6_leastToucher_23 (by decide) (fun c4 => ?_) (fun c4 => ?_)
        · rw [if_pos c4] at h
          refine vr_iload_n (pc := 41) 2 dX6_leastToucher_41 rfl rfl ?_
          refine vr_istore_n (pc := 42) [(1, .int x2), (0, .ref (g.1 q0)), (2, .int x2)] dX6_leastToucher_42 rfl (by decide) rfl ?_
          refine vr_iinc (pc := 43) [(2, .int (x2 + 1)), (1, .int x2), (0, .ref (g.1 q0))] 2 dX6_leastToucher_43 rfl (congrArg (fun z => x2 + z) ci_1) (by decide) rfl ?_
          refine vr_goto (pc := 46) 5 dX6_leastToucher_46 (by decide) ?_
          refine vr_sub [2, 1, 0] [(0, .ref (g.1 q0)), (1, .int x2), (2, .int (x2 + 1))] rfl ?_
          exact ih q0 x2 (x2 + 1) (hq0) h
        · rw [if_neg c4] at h
          refine vr_aload_n (pc := 26) 0 dX6_leastToucher_26 rfl rfl ?_
          refine vr_getR (pc := 27) 0 dX6_leastToucher_27 fi_X6_9 hq0 (sh_5_0 hq0).1 ?_
          refine vr_iload_n (pc := 30) 2 dX6_leastToucher_30 rfl rfl ?_
          obtain ⟨hc5, h⟩ := ck_some h
          refine vr_iald (pc := 31) dX6_leastToucher_31 (sh_5_0 hq0).2 hc5 ?_
          refine vr_aload_n (pc := 32) 0 dX6_leastToucher_32 rfl rfl ?_
          refine vr_getR (pc := 33) 0 dX6_leastToucher_33 fi_X6_9 hq0 (sh_5_0 hq0).1 ?_
          refine vr_iload_n (pc := 36) 1 dX6_leastToucher_36 rfl rfl ?_
          obtain ⟨hc6, h⟩ := ck_some h
          refine vr_iald (pc := 37) dX6_leastToucher_37 (sh_5_0 hq0).2 hc6 ?_
          refine vr_icmp_ge (pc := 38) 43 dX6_leastToucher_38 (by decide) (fun c7 => ?_) (fun c7 => ?_)
          · rw [if_pos c7] at h
            refine vr_iinc (pc := 43) [(2, .int (x2 + 1)), (0, .ref (g.1 q0)), (1, .int x1)] 2 dX6_leastToucher_43 rfl (congrArg (fun z => x2 + z) ci_1) (by decide) rfl ?_
            refine vr_goto (pc := 46) 5 dX6_leastToucher_46 (by decide) ?_
            refine vr_sub [1, 2, 0] [(0, .ref (g.1 q0)), (1, .int x1), (2, .int (x2 + 1))] rfl ?_
            exact ih q0 x1 (x2 + 1) (hq0) h
          · rw [if_neg c7] at h
            refine vr_iload_n (pc := 41) 2 dX6_leastToucher_41 rfl rfl ?_
            refine vr_istore_n (pc := 42) [(1, .int x2), (0, .ref (g.1 q0)), (2, .int x2)] dX6_leastToucher_42 rfl (by decide) rfl ?_
            refine vr_iinc (pc := 43) [(2, .int (x2 + 1)), (1, .int x2), (0, .ref (g.1 q0))] 2 dX6_leastToucher_43 rfl (congrArg (fun z => x2 + z) ci_1) (by decide) rfl ?_
            refine vr_goto (pc := 46) 5 dX6_leastToucher_46 (by decide) ?_
            refine vr_sub [2, 1, 0] [(0, .ref (g.1 q0)), (1, .int x2), (2, .int (x2 + 1))] rfl ?_
            exact ih q0 x2 (x2 + 1) (hq0) h
set_option maxRecDepth 20000 in
set_option maxHeartbeats 4000000 in
theorem s_X6_leastToucher (l : Launch) (g : GG) {q0 : Nat} (hq0 : kd q0 = 5) {σ : SS} {r : Int32} (h : f_X6_leastToucher q0 σ = some r) : CT l g 0 yX6_leastToucher cX6_leastToucher 3 (some .int) [.ref (g.1 q0)] σ (some (.int r), σ) := by
  refine CT.of (lv := [(0, .ref (g.1 q0))]) RX6 (by decide +kernel) rfl (Nat.le_of_ble_eq_true rfl) rfl ?_
  unfold f_X6_leastToucher at h
  refine vr_bipush (pc := 0) (-9) dX6_leastToucher_0 cb_m9 ?_
  refine vr_istore_n (pc := 2) [(1, .int (-9)), (0, .ref (g.1 q0))] dX6_leastToucher_2 rfl (by decide) rfl ?_
  refine vr_iconst (pc := 3) 0 dX6_leastToucher_3 ci_0 ?_
  refine vr_istore_n (pc := 4) [(2, .int 0), (1, .int (-9)), (0, .ref (g.1 q0))] dX6_leastToucher_4 rfl (by decide) rfl ?_
  refine vr_sub [2, 1, 0] [(0, .ref (g.1 q0)), (1, .int (-9)), (2, .int 0)] rfl ?_
  refine v_X6_leastToucher_L5 l g (fun y1 h => ?_) FU q0 (-9) 0 (hq0) h
  refine vr_iload_n (pc := 49) 0 dX6_leastToucher_49 rfl rfl ?_
  have h := Option.some.inj h; subst h
  exact vr_iret (pc := 50) .int dX6_leastToucher_50 rfl rfl rfl
theorem dX6_noteTouches_0 : decode cX6_noteTouches 0 = .ok (.iconst 0, 1) := by decide +kernel
theorem dX6_noteTouches_1 : decode cX6_noteTouches 1 = .ok (.istore_n 2, 1) := by decide +kernel
theorem dX6_noteTouches_2 : decode cX6_noteTouches 2 = .ok (.iload_n 2, 1) := by decide +kernel
theorem dX6_noteTouches_3 : decode cX6_noteTouches 3 = .ok (.bipush 6, 2) := by decide +kernel
theorem dX6_noteTouches_5 : decode cX6_noteTouches 5 = .ok (.if_icmp .ge 81, 3) := by decide +kernel
theorem dX6_noteTouches_8 : decode cX6_noteTouches 8 = .ok (.aload_n 0, 1) := by decide +kernel
theorem dX6_noteTouches_9 : decode cX6_noteTouches 9 = .ok (.getfield 48, 3) := by decide +kernel
theorem dX6_noteTouches_12 : decode cX6_noteTouches 12 = .ok (.bipush 100, 2) := by decide +kernel
theorem dX6_noteTouches_14 : decode cX6_noteTouches 14 = .ok (.if_icmp .ge 72, 3) := by decide +kernel
theorem dX6_noteTouches_17 : decode cX6_noteTouches 17 = .ok (.aload_n 0, 1) := by decide +kernel
theorem dX6_noteTouches_18 : decode cX6_noteTouches 18 = .ok (.invokevirtual 76, 3) := by decide +kernel
theorem dX6_noteTouches_21 : decode cX6_noteTouches 21 = .ok (.istore_n 3, 1) := by decide +kernel
theorem dX6_noteTouches_22 : decode cX6_noteTouches 22 = .ok (.iload_n 3, 1) := by decide +kernel
theorem dX6_noteTouches_23 : decode cX6_noteTouches 23 = .ok (.bipush (-9), 2) := by decide +kernel
theorem dX6_noteTouches_25 : decode cX6_noteTouches 25 = .ok (.if_icmp .eq 55, 3) := by decide +kernel
theorem dX6_noteTouches_28 : decode cX6_noteTouches 28 = .ok (.aload_n 0, 1) := by decide +kernel
theorem dX6_noteTouches_29 : decode cX6_noteTouches 29 = .ok (.getfield 19, 3) := by decide +kernel
theorem dX6_noteTouches_32 : decode cX6_noteTouches 32 = .ok (.aload_n 0, 1) := by decide +kernel
theorem dX6_noteTouches_33 : decode cX6_noteTouches 33 = .ok (.getfield 48, 3) := by decide +kernel
theorem dX6_noteTouches_36 : decode cX6_noteTouches 36 = .ok (.iload_n 1, 1) := by decide +kernel
theorem dX6_noteTouches_37 : decode cX6_noteTouches 37 = .ok (.iastore, 1) := by decide +kernel
theorem dX6_noteTouches_38 : decode cX6_noteTouches 38 = .ok (.aload_n 0, 1) := by decide +kernel
theorem dX6_noteTouches_39 : decode cX6_noteTouches 39 = .ok (.getfield 22, 3) := by decide +kernel
theorem dX6_noteTouches_42 : decode cX6_noteTouches 42 = .ok (.aload_n 0, 1) := by decide +kernel
theorem dX6_noteTouches_43 : decode cX6_noteTouches 43 = .ok (.getfield 48, 3) := by decide +kernel
theorem dX6_noteTouches_46 : decode cX6_noteTouches 46 = .ok (.aload_n 0, 1) := by decide +kernel
theorem dX6_noteTouches_47 : decode cX6_noteTouches 47 = .ok (.getfield 9, 3) := by decide +kernel
theorem dX6_noteTouches_50 : decode cX6_noteTouches 50 = .ok (.iload_n 3, 1) := by decide +kernel
theorem dX6_noteTouches_51 : decode cX6_noteTouches 51 = .ok (.iaload, 1) := by decide +kernel
theorem dX6_noteTouches_52 : decode cX6_noteTouches 52 = .ok (.iastore, 1) := by decide +kernel
theorem dX6_noteTouches_53 : decode cX6_noteTouches 53 = .ok (.aload_n 0, 1) := by decide +kernel
theorem dX6_noteTouches_54 : decode cX6_noteTouches 54 = .ok (.getfield 25, 3) := by decide +kernel
theorem dX6_noteTouches_57 : decode cX6_noteTouches 57 = .ok (.aload_n 0, 1) := by decide +kernel
theorem dX6_noteTouches_58 : decode cX6_noteTouches 58 = .ok (.getfield 48, 3) := by decide +kernel
theorem dX6_noteTouches_61 : decode cX6_noteTouches 61 = .ok (.iload_n 3, 1) := by decide +kernel
theorem dX6_noteTouches_62 : decode cX6_noteTouches 62 = .ok (.iastore, 1) := by decide +kernel
theorem dX6_noteTouches_63 : decode cX6_noteTouches 63 = .ok (.aload_n 0, 1) := by decide +kernel
theorem dX6_noteTouches_64 : decode cX6_noteTouches 64 = .ok (.getfield 15, 3) := by decide +kernel
theorem dX6_noteTouches_67 : decode cX6_noteTouches 67 = .ok (.iload_n 3, 1) := by decide +kernel
theorem dX6_noteTouches_68 : decode cX6_noteTouches 68 = .ok (.iconst 0, 1) := by decide +kernel
theorem dX6_noteTouches_69 : decode cX6_noteTouches 69 = .ok (.bastore, 1) := by decide +kernel
theorem dX6_noteTouches_70 : decode cX6_noteTouches 70 = .ok (.aload_n 0, 1) := by decide +kernel
theorem dX6_noteTouches_71 : decode cX6_noteTouches 71 = .ok (.dup, 1) := by decide +kernel
theorem dX6_noteTouches_72 : decode cX6_noteTouches 72 = .ok (.getfield 48, 3) := by decide +kernel
theorem dX6_noteTouches_75 : decode cX6_noteTouches 75 = .ok (.iconst 1, 1) := by decide +kernel
theorem dX6_noteTouches_76 : decode cX6_noteTouches 76 = .ok (.iadd, 1) := by decide +kernel
theorem dX6_noteTouches_77 : decode cX6_noteTouches 77 = .ok (.putfield 48, 3) := by decide +kernel
theorem dX6_noteTouches_80 : decode cX6_noteTouches 80 = .ok (.iinc 2 1, 3) := by decide +kernel
theorem dX6_noteTouches_83 : decode cX6_noteTouches 83 = .ok (.goto (-81), 3) := by decide +kernel
theorem dX6_noteTouches_86 : decode cX6_noteTouches 86 = .ok (.return_, 1) := by decide +kernel
set_option maxRecDepth 20000 in
set_option maxHeartbeats 4000000 in
theorem v_X6_noteTouches_L2 (l : Launch) (g : GG) {r : SS} {κ : SS → Option SS} (hκ : ∀ (τ : SS) , κ  τ = some r → VV l g 1 RX6 cX6_noteTouches 4 none (none, r) 86 [] [] τ) : ∀ (fu : Nat) (q0 : Nat) (x1 : Int32) (x2 : Int32) (hq0 : kd q0 = 5) (σ : SS), f_X6_noteTouches_L2 κ fu q0 x1 x2 σ = some r → VV l g 1 RX6 cX6_noteTouches 4 none (none, r) 2 [(0, .ref (g.1 q0)), (1, .int x1), (2, .int x2)] [] σ := by
  intro fu
  induction fu with
  | zero => intro q0 x1 x2 hq0 σ h; cases h
  | succ fu ih =>
    intro q0 x1 x2 hq0 σ h
    simp only [f_X6_noteTouches_L2] at h
    refine vr_iload_n (pc := 2) 2 dX6_noteTouches_2 rfl rfl ?_
    refine vr_bipush (pc := 3) 6 dX6_noteTouches_3 cb_6 ?_
    refine vr_icmp_ge (pc := 5) 86 dX6_noteTouches_5 (by decide) (fun c1 => ?_) (fun c1 => ?_)
    · rw [if_pos c1] at h
      refine vr_sub [] [] rfl ?_
      exact hκ σ h
    · rw [if_neg c1] at h
      refine vr_aload_n (pc := 8) 0 dX6_noteTouches_8 rfl rfl ?_
      refine vr_getI (pc := 9) 6 dX6_noteTouches_9 fi_X6_48 hq0 (sh_5_6 hq0) ?_
      refine vr_bipush (pc := 12) 100 dX6_noteTouches_12 cb_100 ?_
      refine vr_icmp_ge (pc := 14) 86 dX6_noteTouches_14 (by decide) (fun c2 => ?_) (fun c2 => ?_)
      · rw [if_pos c2] at h
        refine vr_sub [] [] rfl ?_
        exact hκ σ h
      · rw [if_neg c2] at h
        refine vr_aload_n (pc := 17) 0 dX6_noteTouches_17 rfl rfl ?_
        obtain ⟨z3, hz4, h⟩ := ob_some h
        refine vr_callV (pc := 18) (ρ1 := (some (.int z3), σ)) [] dX6_noteTouches_18 (s_X6_leastToucher l g (hq0) hz4) cw_X6_leastToucher ml_X6_76 hq0 rfl (by decide) (by decide) rfl rfl (Nat.le_of_ble_eq_true rfl) ?_
        refine vr_istore_n (pc := 21) [(3, .int z3), (0, .ref (g.1 q0)), (1, .int x1), (2, .int x2)] dX6_noteTouches_21 rfl (by decide) rfl ?_
        refine vr_iload_n (pc := 22) 0 dX6_noteTouches_22 rfl rfl ?_
        refine vr_bipush (pc := 23) (-9) dX6_noteTouches_23 cb_m9 ?_
        refine vr_icmp_eq (pc := 25) 80 dX6_noteTouches_25 (by decide) (fun c5 => ?_) (fun c5 => ?_)
        · rw [if_pos c5] at h
          refine vr_iinc (pc := 80) [(2, .int (x2 + 1)), (3, .int z3), (0, .ref (g.1 q0)), (1, .int x1)] 3 dX6_noteTouches_80 rfl (congrArg (fun z => x2 + z) ci_1) (by decide) rfl ?_
          refine vr_goto (pc := 83) 2 dX6_noteTouches_83 (by decide) ?_
          refine vr_sub [2, 3, 0] [(0, .ref (g.1 q0)), (1, .int x1), (2, .int (x2 + 1))] rfl ?_
          exact ih q0 x1 (x2 + 1) (hq0) σ h
        · rw [if_neg c5] at h
          refine vr_aload_n (pc := 28) 1 dX6_noteTouches_28 rfl rfl ?_
          refine vr_getR (pc := 29) 2 dX6_noteTouches_29 fi_X6_19 hq0 (sh_5_2 hq0).1 ?_
          refine vr_aload_n (pc := 32) 1 dX6_noteTouches_32 rfl rfl ?_
          refine vr_getI (pc := 33) 6 dX6_noteTouches_33 fi_X6_48 hq0 (sh_5_6 hq0) ?_
          refine vr_iload_n (pc := 36) 2 dX6_noteTouches_36 rfl rfl ?_
          obtain ⟨hc6, h⟩ := ck_some h
          refine vr_iast (pc := 37) dX6_noteTouches_37 (sh_5_2 hq0).2 hc6 ?_
          refine vr_aload_n (pc := 38) 1 dX6_noteTouches_38 rfl rfl ?_
          refine vr_getR (pc := 39) 3 dX6_noteTouches_39 fi_X6_22 hq0 (sh_5_3 hq0).1 ?_
          refine vr_aload_n (pc := 42) 1 dX6_noteTouches_42 rfl rfl ?_
          refine vr_getI (pc := 43) 6 dX6_noteTouches_43 fi_X6_48 hq0 (sh_5_6 hq0) ?_
          refine vr_aload_n (pc := 46) 1 dX6_noteTouches_46 rfl rfl ?_
          refine vr_getR (pc := 47) 0 dX6_noteTouches_47 fi_X6_9 hq0 (sh_5_0 hq0).1 ?_
          refine vr_iload_n (pc := 50) 0 dX6_noteTouches_50 rfl rfl ?_
          obtain ⟨hc7, h⟩ := ck_some h
          refine vr_iald (pc := 51) dX6_noteTouches_51 (sh_5_0 hq0).2 hc7 ?_
          obtain ⟨hc8, h⟩ := ck_some h
          refine vr_iast (pc := 52) dX6_noteTouches_52 (sh_5_3 hq0).2 hc8 ?_
          refine vr_aload_n (pc := 53) 1 dX6_noteTouches_53 rfl rfl ?_
          refine vr_getR (pc := 54) 4 dX6_noteTouches_54 fi_X6_25 hq0 (sh_5_4 hq0).1 ?_
          refine vr_aload_n (pc := 57) 1 dX6_noteTouches_57 rfl rfl ?_
          refine vr_getI (pc := 58) 6 dX6_noteTouches_58 fi_X6_48 hq0 (sh_5_6 hq0) ?_
          refine vr_iload_n (pc := 61) 0 dX6_noteTouches_61 rfl rfl ?_
          obtain ⟨hc9, h⟩ := ck_some h
          refine vr_iast (pc := 62) dX6_noteTouches_62 (sh_5_4 hq0).2 hc9 ?_
          refine vr_aload_n (pc := 63) 1 dX6_noteTouches_63 rfl rfl ?_
          refine vr_getR (pc := 64) 1 dX6_noteTouches_64 fi_X6_15 hq0 (sh_5_1 hq0).1 ?_
          refine vr_iload_n (pc := 67) 0 dX6_noteTouches_67 rfl rfl ?_
          refine vr_iconst (pc := 68) 0 dX6_noteTouches_68 ci_0 ?_
          obtain ⟨hc10, h⟩ := ck_some h
          refine vr_zastB (pc := 69) dX6_noteTouches_69 (sh_5_1 hq0).2 hc10 (by decide) ?_
          refine vr_aload_n (pc := 70) 1 dX6_noteTouches_70 rfl rfl ?_
          refine vr_dup (pc := 71) dX6_noteTouches_71 rfl ?_
          refine vr_getI (pc := 72) 6 dX6_noteTouches_72 fi_X6_48 hq0 (sh_5_6 hq0) ?_
          refine vr_iconst (pc := 75) 1 dX6_noteTouches_75 ci_1 ?_
          refine vr_iadd (pc := 76) dX6_noteTouches_76 ?_
          refine vr_putI (pc := 77) 6 dX6_noteTouches_77 fi_X6_48 (fw_5_6 _) hq0 (sh_5_6 hq0) ?_
          refine vr_iinc (pc := 80) [(2, .int (x2 + 1)), (3, .int z3), (0, .ref (g.1 q0)), (1, .int x1)] 3 dX6_noteTouches_80 rfl (congrArg (fun z => x2 + z) ci_1) (by decide) rfl ?_
          refine vr_goto (pc := 83) 2 dX6_noteTouches_83 (by decide) ?_
          refine vr_sub [2, 3, 0] [(0, .ref (g.1 q0)), (1, .int x1), (2, .int (x2 + 1))] rfl ?_
          exact ih q0 x1 (x2 + 1) (hq0) (sI (sI (sI (sI (sI σ (rid q0 2) (σ.1 q0 6).toNatClampNeg x1) (rid q0 3) ((sI σ (rid q0 2) (σ.1 q0 6).toNatClampNeg x1).1 q0 6).toNatClampNeg ((sI σ (rid q0 2) (σ.1 q0 6).toNatClampNeg x1).1 (rid q0 0) z3.toNatClampNeg)) (rid q0 4) ((sI (sI σ (rid q0 2) (σ.1 q0 6).toNatClampNeg x1) (rid q0 3) ((sI σ (rid q0 2) (σ.1 q0 6).toNatClampNeg x1).1 q0 6).toNatClampNeg ((sI σ (rid q0 2) (σ.1 q0 6).toNatClampNeg x1).1 (rid q0 0) z3.toNatClampNeg)).1 q0 6).toNatClampNeg z3) (rid q0 1) z3.toNatClampNeg 0) q0 6 (((sI (sI (sI (sI σ (rid q0 2) (σ.1 q0 6).toNatClampNeg x1) (rid q0 3) ((sI σ (rid q0 2) (σ.1 q0 6).toNatClampNeg x1).1 q0 6).toNatClampNeg ((sI σ (rid q0 2) (σ.1 q0 6).toNatClampNeg x1).1 (rid q0 0) z3.toNatClampNeg)) (rid q0 4) ((sI (sI σ (rid q0 2) (σ.1 q0 6).toNatClampNeg x1) (rid q0 3) ((sI σ (rid q0 2) (σ.1 q0 6).toNatClampNeg x1).1 q0 6).toNatClampNeg ((sI σ (rid q0 2) (σ.1 q0 6).toNatClampNeg x1).1 (rid q0 0) z3.toNatClampNeg)).1 q0 6).toNatClampNeg z3) (rid q0 1) z3.toNatClampNeg 0).1 q0 6) + 1)) h
set_option maxRecDepth 20000 in
set_option maxHeartbeats 4000000 in
theorem s_X6_noteTouches (l : Launch) (g : GG) {q0 : Nat} (hq0 : kd q0 = 5) {a1 : Int32} {σ : SS} {r : SS} (h : f_X6_noteTouches q0 a1 σ = some r) : CT l g 1 yX6_noteTouches cX6_noteTouches 4 none [.ref (g.1 q0), .int a1] σ (none, r) := by
  refine CT.of (lv := [(0, .ref (g.1 q0)), (1, .int a1)]) RX6 (by decide +kernel) rfl (Nat.le_of_ble_eq_true rfl) rfl ?_
  unfold f_X6_noteTouches at h
  refine vr_iconst (pc := 0) 0 dX6_noteTouches_0 ci_0 ?_
  refine vr_istore_n (pc := 1) [(2, .int 0), (0, .ref (g.1 q0)), (1, .int a1)] dX6_noteTouches_1 rfl (by decide) rfl ?_
  refine vr_sub [1, 2, 0] [(0, .ref (g.1 q0)), (1, .int a1), (2, .int 0)] rfl ?_
  refine v_X6_noteTouches_L2 l g (fun τ h => ?_) FU q0 a1 0 (hq0) σ h
  have h := Option.some.inj h; subst h
  exact vr_vret (pc := 86) dX6_noteTouches_86 rfl rfl
theorem dX6_follow_0 : decode cX6_follow 0 = .ok (.aload_n 0, 1) := by decide +kernel
theorem dX6_follow_1 : decode cX6_follow 1 = .ok (.aload_n 1, 1) := by decide +kernel
theorem dX6_follow_2 : decode cX6_follow 2 = .ok (.invokevirtual 64, 3) := by decide +kernel
theorem dX6_follow_5 : decode cX6_follow 5 = .ok (.iconst 1, 1) := by decide +kernel
theorem dX6_follow_6 : decode cX6_follow 6 = .ok (.istore 4, 2) := by decide +kernel
theorem dX6_follow_8 : decode cX6_follow 8 = .ok (.iload 4, 2) := by decide +kernel
theorem dX6_follow_10 : decode cX6_follow 10 = .ok (.sipush 900, 3) := by decide +kernel
theorem dX6_follow_13 : decode cX6_follow 13 = .ok (.if_icmp .gt 31, 3) := by decide +kernel
theorem dX6_follow_16 : decode cX6_follow 16 = .ok (.aload_n 0, 1) := by decide +kernel
theorem dX6_follow_17 : decode cX6_follow 17 = .ok (.getfield 48, 3) := by decide +kernel
theorem dX6_follow_20 : decode cX6_follow 20 = .ok (.iload_n 3, 1) := by decide +kernel
theorem dX6_follow_21 : decode cX6_follow 21 = .ok (.if_icmp .ge 23, 3) := by decide +kernel
theorem dX6_follow_24 : decode cX6_follow 24 = .ok (.aload_n 0, 1) := by decide +kernel
theorem dX6_follow_25 : decode cX6_follow 25 = .ok (.aload_n 1, 1) := by decide +kernel
theorem dX6_follow_26 : decode cX6_follow 26 = .ok (.iload_n 2, 1) := by decide +kernel
theorem dX6_follow_27 : decode cX6_follow 27 = .ok (.iload 4, 2) := by decide +kernel
theorem dX6_follow_29 : decode cX6_follow 29 = .ok (.invokevirtual 68, 3) := by decide +kernel
theorem dX6_follow_32 : decode cX6_follow 32 = .ok (.aload_n 0, 1) := by decide +kernel
theorem dX6_follow_33 : decode cX6_follow 33 = .ok (.iload 4, 2) := by decide +kernel
theorem dX6_follow_35 : decode cX6_follow 35 = .ok (.invokevirtual 72, 3) := by decide +kernel
theorem dX6_follow_38 : decode cX6_follow 38 = .ok (.iinc 4 1, 3) := by decide +kernel
theorem dX6_follow_41 : decode cX6_follow 41 = .ok (.goto (-33), 3) := by decide +kernel
theorem dX6_follow_44 : decode cX6_follow 44 = .ok (.return_, 1) := by decide +kernel
set_option maxRecDepth 20000 in
set_option maxHeartbeats 4000000 in
theorem v_X6_follow_L8 (l : Launch) (g : GG) {r : SS} {κ : SS → Option SS} (hκ : ∀ (τ : SS) , κ  τ = some r → VV l g 4 RX6 cX6_follow 5 none (none, r) 44 [] [] τ) : ∀ (fu : Nat) (q0 : Nat) (q1 : Nat) (x2 : Int32) (x3 : Int32) (x4 : Int32) (hq0 : kd q0 = 5) (hq1 : kd q1 = 3) (σ : SS), f_X6_follow_L8 κ fu q0 q1 x2 x3 x4 σ = some r → VV l g 4 RX6 cX6_follow 5 none (none, r) 8 [(0, .ref (g.1 q0)), (1, .ref (g.1 q1)), (2, .int x2), (3, .int x3), (4, .int x4)] [] σ := by
  intro fu
  induction fu with
  | zero => intro q0 q1 x2 x3 x4 hq0 hq1 σ h; cases h
  | succ fu ih =>
    intro q0 q1 x2 x3 x4 hq0 hq1 σ h
    simp only [f_X6_follow_L8] at h
    refine vr_iload (pc := 8) 4 dX6_follow_8 rfl ?_
    refine vr_sipush (pc := 10) 900 dX6_follow_10 cs_900 ?_
    refine vr_icmp_gt (pc := 13) 44 dX6_follow_13 (by decide) (fun c3 => ?_) (fun c3 => ?_)
    · rw [if_pos c3] at h
      refine vr_sub [] [] rfl ?_
      exact hκ σ h
    · rw [if_neg c3] at h
      refine vr_aload_n (pc := 16) 0 dX6_follow_16 rfl rfl ?_
      refine vr_getI (pc := 17) 6 dX6_follow_17 fi_X6_48 hq0 (sh_5_6 hq0) ?_
      refine vr_iload_n (pc := 20) 3 dX6_follow_20 rfl rfl ?_
      refine vr_icmp_ge (pc := 21) 44 dX6_follow_21 (by decide) (fun c4 => ?_) (fun c4 => ?_)
      · rw [if_pos c4] at h
        refine vr_sub [] [] rfl ?_
        exact hκ σ h
      · rw [if_neg c4] at h
        refine vr_aload_n (pc := 24) 0 dX6_follow_24 rfl rfl ?_
        refine vr_aload_n (pc := 25) 1 dX6_follow_25 rfl rfl ?_
        refine vr_iload_n (pc := 26) 2 dX6_follow_26 rfl rfl ?_
        refine vr_iload (pc := 27) 4 dX6_follow_27 rfl ?_
        obtain ⟨z5, hz6, h⟩ := ob_some h
        refine vr_callV (pc := 29) (ρ1 := (none, z5)) [.ref (g.1 q1), .int x2, .int x4] dX6_follow_29 (s_X6_passTick l g (hq0) (hq1) hz6) cw_X6_passTick ml_X6_68 hq0 rfl (by decide) (by decide) rfl rfl (Nat.le_of_ble_eq_true rfl) ?_
        refine vr_aload_n (pc := 32) 0 dX6_follow_32 rfl rfl ?_
        refine vr_iload (pc := 33) 4 dX6_follow_33 rfl ?_
        obtain ⟨z7, hz8, h⟩ := ob_some h
        refine vr_callV (pc := 35) (ρ1 := (none, z7)) [.int x4] dX6_follow_35 (s_X6_noteTouches l g (hq0) hz8) cw_X6_noteTouches ml_X6_72 hq0 rfl (by decide) (by decide) rfl rfl (Nat.le_of_ble_eq_true rfl) ?_
        refine vr_iinc (pc := 38) [(4, .int (x4 + 1)), (0, .ref (g.1 q0)), (1, .ref (g.1 q1)), (2, .int x2), (3, .int x3)] 4 dX6_follow_38 rfl (congrArg (fun z => x4 + z) ci_1) (by decide) rfl ?_
        refine vr_goto (pc := 41) 8 dX6_follow_41 (by decide) ?_
        refine vr_sub [1, 2, 3, 4, 0] [(0, .ref (g.1 q0)), (1, .ref (g.1 q1)), (2, .int x2), (3, .int x3), (4, .int (x4 + 1))] rfl ?_
        exact ih q0 q1 x2 x3 (x4 + 1) (hq0) (hq1) z7 h
set_option maxRecDepth 20000 in
set_option maxHeartbeats 4000000 in
theorem s_X6_follow (l : Launch) (g : GG) {q0 : Nat} (hq0 : kd q0 = 5) {q1 : Nat} (hq1 : kd q1 = 3) {a2 : Int32} {a3 : Int32} {σ : SS} {r : SS} (h : f_X6_follow q0 q1 a2 a3 σ = some r) : CT l g 4 yX6_follow cX6_follow 5 none [.ref (g.1 q0), .ref (g.1 q1), .int a2, .int a3] σ (none, r) := by
  refine CT.of (lv := [(0, .ref (g.1 q0)), (1, .ref (g.1 q1)), (2, .int a2), (3, .int a3)]) RX6 (by decide +kernel) rfl (Nat.le_of_ble_eq_true rfl) rfl ?_
  unfold f_X6_follow at h
  refine vr_aload_n (pc := 0) 0 dX6_follow_0 rfl rfl ?_
  refine vr_aload_n (pc := 1) 1 dX6_follow_1 rfl rfl ?_
  obtain ⟨z1, hz2, h⟩ := ob_some h
  refine vr_callV (pc := 2) (ρ1 := (none, z1)) [.ref (g.1 q1)] dX6_follow_2 (s_X6_begin l g (hq0) (hq1) hz2) cw_X6_begin ml_X6_64 hq0 rfl (by decide) (by decide) rfl rfl (Nat.le_of_ble_eq_true rfl) ?_
  refine vr_iconst (pc := 5) 1 dX6_follow_5 ci_1 ?_
  refine vr_istore (pc := 6) [(4, .int 1), (0, .ref (g.1 q0)), (1, .ref (g.1 q1)), (2, .int a2), (3, .int a3)] dX6_follow_6 (by decide) rfl ?_
  refine vr_sub [1, 2, 3, 4, 0] [(0, .ref (g.1 q0)), (1, .ref (g.1 q1)), (2, .int a2), (3, .int a3), (4, .int 1)] rfl ?_
  refine v_X6_follow_L8 l g (fun τ h => ?_) FU q0 q1 a2 a3 1 (hq0) (hq1) z1 h
  have h := Option.some.inj h; subst h
  exact vr_vret (pc := 44) dX6_follow_44 rfl rfl
theorem dX6_tallyFirst_0 : decode cX6_tallyFirst 0 = .ok (.iconst 0, 1) := by decide +kernel
theorem dX6_tallyFirst_1 : decode cX6_tallyFirst 1 = .ok (.istore_n 2, 1) := by decide +kernel
theorem dX6_tallyFirst_2 : decode cX6_tallyFirst 2 = .ok (.iload_n 2, 1) := by decide +kernel
theorem dX6_tallyFirst_3 : decode cX6_tallyFirst 3 = .ok (.iload_n 1, 1) := by decide +kernel
theorem dX6_tallyFirst_4 : decode cX6_tallyFirst 4 = .ok (.if_icmp .ge 32, 3) := by decide +kernel
theorem dX6_tallyFirst_7 : decode cX6_tallyFirst 7 = .ok (.iload_n 2, 1) := by decide +kernel
theorem dX6_tallyFirst_8 : decode cX6_tallyFirst 8 = .ok (.aload_n 0, 1) := by decide +kernel
theorem dX6_tallyFirst_9 : decode cX6_tallyFirst 9 = .ok (.getfield 48, 3) := by decide +kernel
theorem dX6_tallyFirst_12 : decode cX6_tallyFirst 12 = .ok (.if_icmp .ge 24, 3) := by decide +kernel
theorem dX6_tallyFirst_15 : decode cX6_tallyFirst 15 = .ok (.aload_n 0, 1) := by decide +kernel
theorem dX6_tallyFirst_16 : decode cX6_tallyFirst 16 = .ok (.getfield 28, 3) := by decide +kernel
theorem dX6_tallyFirst_19 : decode cX6_tallyFirst 19 = .ok (.aload_n 0, 1) := by decide +kernel
theorem dX6_tallyFirst_20 : decode cX6_tallyFirst 20 = .ok (.getfield 22, 3) := by decide +kernel
theorem dX6_tallyFirst_23 : decode cX6_tallyFirst 23 = .ok (.iload_n 2, 1) := by decide +kernel
theorem dX6_tallyFirst_24 : decode cX6_tallyFirst 24 = .ok (.iaload, 1) := by decide +kernel
theorem dX6_tallyFirst_25 : decode cX6_tallyFirst 25 = .ok (.dup2, 1) := by decide +kernel
theorem dX6_tallyFirst_26 : decode cX6_tallyFirst 26 = .ok (.iaload, 1) := by decide +kernel
theorem dX6_tallyFirst_27 : decode cX6_tallyFirst 27 = .ok (.iconst 1, 1) := by decide +kernel
theorem dX6_tallyFirst_28 : decode cX6_tallyFirst 28 = .ok (.iadd, 1) := by decide +kernel
theorem dX6_tallyFirst_29 : decode cX6_tallyFirst 29 = .ok (.iastore, 1) := by decide +kernel
theorem dX6_tallyFirst_30 : decode cX6_tallyFirst 30 = .ok (.iinc 2 1, 3) := by decide +kernel
theorem dX6_tallyFirst_33 : decode cX6_tallyFirst 33 = .ok (.goto (-31), 3) := by decide +kernel
theorem dX6_tallyFirst_36 : decode cX6_tallyFirst 36 = .ok (.return_, 1) := by decide +kernel
set_option maxRecDepth 20000 in
set_option maxHeartbeats 4000000 in
theorem v_X6_tallyFirst_L2 (l : Launch) (g : GG) {r : SS} {κ : SS → Option SS} (hκ : ∀ (τ : SS) , κ  τ = some r → VV l g 0 RX6 cX6_tallyFirst 3 none (none, r) 36 [] [] τ) : ∀ (fu : Nat) (q0 : Nat) (x1 : Int32) (x2 : Int32) (hq0 : kd q0 = 5) (σ : SS), f_X6_tallyFirst_L2 κ fu q0 x1 x2 σ = some r → VV l g 0 RX6 cX6_tallyFirst 3 none (none, r) 2 [(0, .ref (g.1 q0)), (1, .int x1), (2, .int x2)] [] σ := by
  intro fu
  induction fu with
  | zero => intro q0 x1 x2 hq0 σ h; cases h
  | succ fu ih =>
    intro q0 x1 x2 hq0 σ h
    simp only [f_X6_tallyFirst_L2] at h
    refine vr_iload_n (pc := 2) 2 dX6_tallyFirst_2 rfl rfl ?_
    refine vr_iload_n (pc := 3) 1 dX6_tallyFirst_3 rfl rfl ?_
    refine vr_icmp_ge (pc := 4) 36 dX6_tallyFirst_4 (by decide) (fun c1 => ?_) (fun c1 => ?_)
    · rw [if_pos c1] at h
      refine vr_sub [] [] rfl ?_
      exact hκ σ h
    · rw [if_neg c1] at h
      refine vr_iload_n (pc := 7) 2 dX6_tallyFirst_7 rfl rfl ?_
      refine vr_aload_n (pc := 8) 0 dX6_tallyFirst_8 rfl rfl ?_
      refine vr_getI (pc := 9) 6 dX6_tallyFirst_9 fi_X6_48 hq0 (sh_5_6 hq0) ?_
      refine vr_icmp_ge (pc := 12) 36 dX6_tallyFirst_12 (by decide) (fun c2 => ?_) (fun c2 => ?_)
      · rw [if_pos c2] at h
        refine vr_sub [] [] rfl ?_
        exact hκ σ h
      · rw [if_neg c2] at h
        refine vr_aload_n (pc := 15) 0 dX6_tallyFirst_15 rfl rfl ?_
        refine vr_getR (pc := 16) 5 dX6_tallyFirst_16 fi_X6_28 hq0 (sh_5_5 hq0).1 ?_
        refine vr_aload_n (pc := 19) 0 dX6_tallyFirst_19 rfl rfl ?_
        refine vr_getR (pc := 20) 3 dX6_tallyFirst_20 fi_X6_22 hq0 (sh_5_3 hq0).1 ?_
        refine vr_iload_n (pc := 23) 2 dX6_tallyFirst_23 rfl rfl ?_
        obtain ⟨hc3, h⟩ := ck_some h
        refine vr_iald (pc := 24) dX6_tallyFirst_24 (sh_5_3 hq0).2 hc3 ?_
        refine vr_dup2 (pc := 25) dX6_tallyFirst_25 rfl rfl ?_
        obtain ⟨hc4, h⟩ := ck_some h
        refine vr_iald (pc := 26) dX6_tallyFirst_26 (sh_5_5 hq0).2 hc4 ?_
        refine vr_iconst (pc := 27) 1 dX6_tallyFirst_27 ci_1 ?_
        refine vr_iadd (pc := 28) dX6_tallyFirst_28 ?_
        obtain ⟨hc5, h⟩ := ck_some h
        refine vr_iast (pc := 29) dX6_tallyFirst_29 (sh_5_5 hq0).2 hc5 ?_
        refine vr_iinc (pc := 30) [(2, .int (x2 + 1)), (0, .ref (g.1 q0)), (1, .int x1)] 2 dX6_tallyFirst_30 rfl (congrArg (fun z => x2 + z) ci_1) (by decide) rfl ?_
        refine vr_goto (pc := 33) 2 dX6_tallyFirst_33 (by decide) ?_
        refine vr_sub [1, 2, 0] [(0, .ref (g.1 q0)), (1, .int x1), (2, .int (x2 + 1))] rfl ?_
        exact ih q0 x1 (x2 + 1) (hq0) (sI σ (rid q0 5) (σ.1 (rid q0 3) x2.toNatClampNeg).toNatClampNeg ((σ.1 (rid q0 5) (σ.1 (rid q0 3) x2.toNatClampNeg).toNatClampNeg) + 1)) h
set_option maxRecDepth 20000 in
set_option maxHeartbeats 4000000 in
theorem s_X6_tallyFirst (l : Launch) (g : GG) {q0 : Nat} (hq0 : kd q0 = 5) {a1 : Int32} {σ : SS} {r : SS} (h : f_X6_tallyFirst q0 a1 σ = some r) : CT l g 0 yX6_tallyFirst cX6_tallyFirst 3 none [.ref (g.1 q0), .int a1] σ (none, r) := by
  refine CT.of (lv := [(0, .ref (g.1 q0)), (1, .int a1)]) RX6 (by decide +kernel) rfl (Nat.le_of_ble_eq_true rfl) rfl ?_
  unfold f_X6_tallyFirst at h
  refine vr_iconst (pc := 0) 0 dX6_tallyFirst_0 ci_0 ?_
  refine vr_istore_n (pc := 1) [(2, .int 0), (0, .ref (g.1 q0)), (1, .int a1)] dX6_tallyFirst_1 rfl (by decide) rfl ?_
  refine vr_sub [1, 2, 0] [(0, .ref (g.1 q0)), (1, .int a1), (2, .int 0)] rfl ?_
  refine v_X6_tallyFirst_L2 l g (fun τ h => ?_) FU q0 a1 0 (hq0) σ h
  have h := Option.some.inj h; subst h
  exact vr_vret (pc := 36) dX6_tallyFirst_36 rfl rfl
theorem dX6_castLots_0 : decode cX6_castLots 0 = .ok (.aload_n 0, 1) := by decide +kernel
theorem dX6_castLots_1 : decode cX6_castLots 1 = .ok (.aload_n 1, 1) := by decide +kernel
theorem dX6_castLots_2 : decode cX6_castLots 2 = .ok (.invokevirtual 64, 3) := by decide +kernel
theorem dX6_castLots_5 : decode cX6_castLots 5 = .ok (.iload_n 3, 1) := by decide +kernel
theorem dX6_castLots_6 : decode cX6_castLots 6 = .ok (.istore 4, 2) := by decide +kernel
theorem dX6_castLots_8 : decode cX6_castLots 8 = .ok (.iconst 0, 1) := by decide +kernel
theorem dX6_castLots_9 : decode cX6_castLots 9 = .ok (.istore 5, 2) := by decide +kernel
theorem dX6_castLots_11 : decode cX6_castLots 11 = .ok (.iload 5, 2) := by decide +kernel
theorem dX6_castLots_13 : decode cX6_castLots 13 = .ok (.iload_n 2, 1) := by decide +kernel
theorem dX6_castLots_14 : decode cX6_castLots 14 = .ok (.if_icmp .ge 101, 3) := by decide +kernel
theorem dX6_castLots_17 : decode cX6_castLots 17 = .ok (.iload 4, 2) := by decide +kernel
theorem dX6_castLots_19 : decode cX6_castLots 19 = .ok (.invokestatic 80, 3) := by decide +kernel
theorem dX6_castLots_22 : decode cX6_castLots 22 = .ok (.istore 4, 2) := by decide +kernel
theorem dX6_castLots_24 : decode cX6_castLots 24 = .ok (.iload 4, 2) := by decide +kernel
theorem dX6_castLots_26 : decode cX6_castLots 26 = .ok (.aload_n 1, 1) := by decide +kernel
theorem dX6_castLots_27 : decode cX6_castLots 27 = .ok (.getfield 84, 3) := by decide +kernel
theorem dX6_castLots_30 : decode cX6_castLots 30 = .ok (.invokestatic 87, 3) := by decide +kernel
theorem dX6_castLots_33 : decode cX6_castLots 33 = .ok (.istore 6, 2) := by decide +kernel
theorem dX6_castLots_35 : decode cX6_castLots 35 = .ok (.iload 4, 2) := by decide +kernel
theorem dX6_castLots_37 : decode cX6_castLots 37 = .ok (.invokestatic 80, 3) := by decide +kernel
theorem dX6_castLots_40 : decode cX6_castLots 40 = .ok (.istore 4, 2) := by decide +kernel
theorem dX6_castLots_42 : decode cX6_castLots 42 = .ok (.iload 4, 2) := by decide +kernel
theorem dX6_castLots_44 : decode cX6_castLots 44 = .ok (.iconst 4, 1) := by decide +kernel
theorem dX6_castLots_45 : decode cX6_castLots 45 = .ok (.invokestatic 87, 3) := by decide +kernel
theorem dX6_castLots_48 : decode cX6_castLots 48 = .ok (.iconst 1, 1) := by decide +kernel
theorem dX6_castLots_49 : decode cX6_castLots 49 = .ok (.iadd, 1) := by decide +kernel
theorem dX6_castLots_50 : decode cX6_castLots 50 = .ok (.istore 7, 2) := by decide +kernel
theorem dX6_castLots_52 : decode cX6_castLots 52 = .ok (.iconst 0, 1) := by decide +kernel
theorem dX6_castLots_53 : decode cX6_castLots 53 = .ok (.istore 8, 2) := by decide +kernel
theorem dX6_castLots_55 : decode cX6_castLots 55 = .ok (.iload 8, 2) := by decide +kernel
theorem dX6_castLots_57 : decode cX6_castLots 57 = .ok (.iload 7, 2) := by decide +kernel
theorem dX6_castLots_59 : decode cX6_castLots 59 = .ok (.if_icmp .ge 50, 3) := by decide +kernel
theorem dX6_castLots_62 : decode cX6_castLots 62 = .ok (.aload_n 0, 1) := by decide +kernel
theorem dX6_castLots_63 : decode cX6_castLots 63 = .ok (.getfield 9, 3) := by decide +kernel
theorem dX6_castLots_66 : decode cX6_castLots 66 = .ok (.iload 6, 2) := by decide +kernel
theorem dX6_castLots_68 : decode cX6_castLots 68 = .ok (.aload_n 1, 1) := by decide +kernel
theorem dX6_castLots_69 : decode cX6_castLots 69 = .ok (.aload_n 1, 1) := by decide +kernel
theorem dX6_castLots_70 : decode cX6_castLots 70 = .ok (.getfield 31, 3) := by decide +kernel
theorem dX6_castLots_73 : decode cX6_castLots 73 = .ok (.iload 6, 2) := by decide +kernel
theorem dX6_castLots_75 : decode cX6_castLots 75 = .ok (.aaload, 1) := by decide +kernel
theorem dX6_castLots_76 : decode cX6_castLots 76 = .ok (.aload_n 0, 1) := by decide +kernel
theorem dX6_castLots_77 : decode cX6_castLots 77 = .ok (.getfield 9, 3) := by decide +kernel
theorem dX6_castLots_80 : decode cX6_castLots 80 = .ok (.iload 6, 2) := by decide +kernel
theorem dX6_castLots_82 : decode cX6_castLots 82 = .ok (.iaload, 1) := by decide +kernel
theorem dX6_castLots_83 : decode cX6_castLots 83 = .ok (.invokevirtual 60, 3) := by decide +kernel
theorem dX6_castLots_86 : decode cX6_castLots 86 = .ok (.iastore, 1) := by decide +kernel
theorem dX6_castLots_87 : decode cX6_castLots 87 = .ok (.aload_n 0, 1) := by decide +kernel
theorem dX6_castLots_88 : decode cX6_castLots 88 = .ok (.getfield 28, 3) := by decide +kernel
theorem dX6_castLots_91 : decode cX6_castLots 91 = .ok (.aload_n 0, 1) := by decide +kernel
theorem dX6_castLots_92 : decode cX6_castLots 92 = .ok (.getfield 9, 3) := by decide +kernel
theorem dX6_castLots_95 : decode cX6_castLots 95 = .ok (.iload 6, 2) := by decide +kernel
theorem dX6_castLots_97 : decode cX6_castLots 97 = .ok (.iaload, 1) := by decide +kernel
theorem dX6_castLots_98 : decode cX6_castLots 98 = .ok (.dup2, 1) := by decide +kernel
theorem dX6_castLots_99 : decode cX6_castLots 99 = .ok (.iaload, 1) := by decide +kernel
theorem dX6_castLots_100 : decode cX6_castLots 100 = .ok (.iconst 1, 1) := by decide +kernel
theorem dX6_castLots_101 : decode cX6_castLots 101 = .ok (.iadd, 1) := by decide +kernel
theorem dX6_castLots_102 : decode cX6_castLots 102 = .ok (.iastore, 1) := by decide +kernel
theorem dX6_castLots_103 : decode cX6_castLots 103 = .ok (.iinc 8 1, 3) := by decide +kernel
theorem dX6_castLots_106 : decode cX6_castLots 106 = .ok (.goto (-51), 3) := by decide +kernel
theorem dX6_castLots_109 : decode cX6_castLots 109 = .ok (.iinc 5 1, 3) := by decide +kernel
theorem dX6_castLots_112 : decode cX6_castLots 112 = .ok (.goto (-101), 3) := by decide +kernel
theorem dX6_castLots_115 : decode cX6_castLots 115 = .ok (.return_, 1) := by decide +kernel
set_option maxRecDepth 20000 in
set_option maxHeartbeats 4000000 in
theorem v_X6_castLots_L55 (l : Launch) (g : GG) {r : SS} {κ : Nat → Nat → Int32 → Int32 → Int32 → SS → Option SS} (hκ : ∀ (p0 : Nat) (p1 : Nat) (y2 : Int32) (y4 : Int32) (y5 : Int32) (τ : SS) (hp0 : kd p0 = 5) (hp1 : kd p1 = 3), κ p0 p1 y2 y4 y5 τ = some r → VV l g 3 RX6 cX6_castLots 9 none (none, r) 109 [(0, .ref (g.1 p0)), (1, .ref (g.1 p1)), (2, .int y2), (4, .int y4), (5, .int y5)] [] τ) : ∀ (fu : Nat) (q0 : Nat) (q1 : Nat) (x2 : Int32) (x4 : Int32) (x5 : Int32) (x6 : Int32) (x7 : Int32) (x8 : Int32) (hq0 : kd q0 = 5) (hq1 : kd q1 = 3) (σ : SS), f_X6_castLots_L55 κ fu q0 q1 x2 x4 x5 x6 x7 x8 σ = some r → VV l g 3 RX6 cX6_castLots 9 none (none, r) 55 [(0, .ref (g.1 q0)), (1, .ref (g.1 q1)), (2, .int x2), (4, .int x4), (5, .int x5), (6, .int x6), (7, .int x7), (8, .int x8)] [] σ := by
  intro fu
  induction fu with
  | zero => intro q0 q1 x2 x4 x5 x6 x7 x8 hq0 hq1 σ h; cases h
  | succ fu ih =>
    intro q0 q1 x2 x4 x5 x6 x7 x8 hq0 hq1 σ h
    simp only [f_X6_castLots_L55] at h
    refine vr_iload (pc := 55) 7 dX6_castLots_55 rfl ?_
    refine vr_iload (pc := 57) 6 dX6_castLots_57 rfl ?_
    refine vr_icmp_ge (pc := 59) 109 dX6_castLots_59 (by decide) (fun c4 => ?_) (fun c4 => ?_)
    · rw [if_pos c4] at h
      refine vr_sub [0, 1, 2, 3, 4] [(0, .ref (g.1 q0)), (1, .ref (g.1 q1)), (2, .int x2), (4, .int x4), (5, .int x5)] rfl ?_
      exact hκ q0 q1 x2 x4 x5 σ (hq0) (hq1) h
    · rw [if_neg c4] at h
      refine vr_aload_n (pc := 62) 0 dX6_castLots_62 rfl rfl ?_
      refine vr_getR (pc := 63) 0 dX6_castLots_63 fi_X6_9 hq0 (sh_5_0 hq0).1 ?_
      refine vr_iload (pc := 66) 5 dX6_castLots_66 rfl ?_
      refine vr_aload_n (pc := 68) 1 dX6_castLots_68 rfl rfl ?_
      refine vr_aload_n (pc := 69) 1 dX6_castLots_69 rfl rfl ?_
      refine vr_getR (pc := 70) 4 dX6_castLots_70 fi_X6_31 hq1 (sh_3_4 hq1).1 ?_
      refine vr_iload (pc := 73) 5 dX6_castLots_73 rfl ?_
      obtain ⟨hc5, h⟩ := ck_some h
      refine vr_aald (pc := 75) dX6_castLots_75 (sh_3_4 hq1).2 (by decide) hc5 (sha_13 (sh_3_4 hq1).2 (lt_ck hc5)).1 ?_
      refine vr_aload_n (pc := 76) 0 dX6_castLots_76 rfl rfl ?_
      refine vr_getR (pc := 77) 0 dX6_castLots_77 fi_X6_9 hq0 (sh_5_0 hq0).1 ?_
      refine vr_iload (pc := 80) 5 dX6_castLots_80 rfl ?_
      obtain ⟨hc6, h⟩ := ck_some h
      refine vr_iald (pc := 82) dX6_castLots_82 (sh_5_0 hq0).2 hc6 ?_
      obtain ⟨z7, hz8, h⟩ := ob_some h
      refine vr_callV (pc := 83) (ρ1 := (some (.int z7), σ)) [.ref (g.1 (rid (rid q1 4) x6.toNatClampNeg)), .int (σ.1 (rid q0 0) x6.toNatClampNeg)] dX6_castLots_83 (s_X4_nextBy l g (hq1) (sha_13 (sh_3_4 hq1).2 (lt_ck hc5)).2 hz8) cw_X4_nextBy ml_X6_60 hq1 rfl (by decide) (by decide) rfl rfl (Nat.le_of_ble_eq_true rfl) ?_
      obtain ⟨hc9, h⟩ := ck_some h
      refine vr_iast (pc := 86) dX6_castLots_86 (sh_5_0 hq0).2 hc9 ?_
      refine vr_aload_n (pc := 87) 0 dX6_castLots_87 rfl rfl ?_
      refine vr_getR (pc := 88) 5 dX6_castLots_88 fi_X6_28 hq0 (sh_5_5 hq0).1 ?_
      refine vr_aload_n (pc := 91) 0 dX6_castLots_91 rfl rfl ?_
      refine vr_getR (pc := 92) 0 dX6_castLots_92 fi_X6_9 hq0 (sh_5_0 hq0).1 ?_
      refine vr_iload (pc := 95) 5 dX6_castLots_95 rfl ?_
      obtain ⟨hc10, h⟩ := ck_some h
      refine vr_iald (pc := 97) dX6_castLots_97 (sh_5_0 hq0).2 hc10 ?_
      refine vr_dup2 (pc := 98) dX6_castLots_98 rfl rfl ?_
      obtain ⟨hc11, h⟩ := ck_some h
      refine vr_iald (pc := 99) dX6_castLots_99 (sh_5_5 hq0).2 hc11 ?_
      refine vr_iconst (pc := 100) 1 dX6_castLots_100 ci_1 ?_
      refine vr_iadd (pc := 101) dX6_castLots_101 ?_
      obtain ⟨hc12, h⟩ := ck_some h
      refine vr_iast (pc := 102) dX6_castLots_102 (sh_5_5 hq0).2 hc12 ?_
      refine vr_iinc (pc := 103) [(8, .int (x8 + 1)), (0, .ref (g.1 q0)), (1, .ref (g.1 q1)), (2, .int x2), (4, .int x4), (5, .int x5), (6, .int x6), (7, .int x7)] 7 dX6_castLots_103 rfl (congrArg (fun z => x8 + z) ci_1) (by decide) rfl ?_
      refine vr_goto (pc := 106) 55 dX6_castLots_106 (by decide) ?_
      refine vr_sub [1, 2, 3, 4, 5, 6, 7, 0] [(0, .ref (g.1 q0)), (1, .ref (g.1 q1)), (2, .int x2), (4, .int x4), (5, .int x5), (6, .int x6), (7, .int x7), (8, .int (x8 + 1))] rfl ?_
      exact ih q0 q1 x2 x4 x5 x6 x7 (x8 + 1) (hq0) (hq1) (sI (sI σ (rid q0 0) x6.toNatClampNeg z7) (rid q0 5) ((sI σ (rid q0 0) x6.toNatClampNeg z7).1 (rid q0 0) x6.toNatClampNeg).toNatClampNeg (((sI σ (rid q0 0) x6.toNatClampNeg z7).1 (rid q0 5) ((sI σ (rid q0 0) x6.toNatClampNeg z7).1 (rid q0 0) x6.toNatClampNeg).toNatClampNeg) + 1)) h
set_option maxRecDepth 20000 in
set_option maxHeartbeats 4000000 in
theorem v_X6_castLots_L11 (l : Launch) (g : GG) {r : SS} {κ : SS → Option SS} (hκ : ∀ (τ : SS) , κ  τ = some r → VV l g 3 RX6 cX6_castLots 9 none (none, r) 115 [] [] τ) : ∀ (fu : Nat) (q0 : Nat) (q1 : Nat) (x2 : Int32) (x4 : Int32) (x5 : Int32) (hq0 : kd q0 = 5) (hq1 : kd q1 = 3) (σ : SS), f_X6_castLots_L11 κ fu q0 q1 x2 x4 x5 σ = some r → VV l g 3 RX6 cX6_castLots 9 none (none, r) 11 [(0, .ref (g.1 q0)), (1, .ref (g.1 q1)), (2, .int x2), (4, .int x4), (5, .int x5)] [] σ := by
  intro fu
  induction fu with
  | zero => intro q0 q1 x2 x4 x5 hq0 hq1 σ h; cases h
  | succ fu ih =>
    intro q0 q1 x2 x4 x5 hq0 hq1 σ h
    simp only [f_X6_castLots_L11] at h
    refine vr_iload (pc := 11) 4 dX6_castLots_11 rfl ?_
    refine vr_iload_n (pc := 13) 2 dX6_castLots_13 rfl rfl ?_
    refine vr_icmp_ge (pc := 14) 115 dX6_castLots_14 (by decide) (fun c3 => ?_) (fun c3 => ?_)
    · rw [if_pos c3] at h
      refine vr_sub [] [] rfl ?_
      exact hκ σ h
    · rw [if_neg c3] at h
      refine vr_iload (pc := 17) 3 dX6_castLots_17 rfl ?_
      refine vr_callS (pc := 19) (ρ1 := (some (.int (f_X2_seedBehind x4)), σ)) [.int x4] dX6_castLots_19 (s_X2_seedBehind l g rfl) cw_X2_seedBehind ml_X6_80 (by decide) rfl rfl (Nat.le_of_ble_eq_true rfl) ?_
      refine vr_istore (pc := 22) [(4, .int (f_X2_seedBehind x4)), (0, .ref (g.1 q0)), (1, .ref (g.1 q1)), (2, .int x2), (5, .int x5)] dX6_castLots_22 (by decide) rfl ?_
      refine vr_iload (pc := 24) 0 dX6_castLots_24 rfl ?_
      refine vr_aload_n (pc := 26) 2 dX6_castLots_26 rfl rfl ?_
      refine vr_getI (pc := 27) 1 dX6_castLots_27 fi_X6_84 hq1 (sh_3_1 hq1) ?_
      refine vr_callS (pc := 30) (ρ1 := (some (.int (f_X2_drawn (f_X2_seedBehind x4) (σ.1 q1 1))), σ)) [.int (f_X2_seedBehind x4), .int (σ.1 q1 1)] dX6_castLots_30 (s_X2_drawn l g rfl) cw_X2_drawn ml_X6_87 (by decide) rfl rfl (Nat.le_of_ble_eq_true rfl) ?_
      refine vr_istore (pc := 33) [(6, .int (f_X2_drawn (f_X2_seedBehind x4) (σ.1 q1 1))), (4, .int (f_X2_seedBehind x4)), (0, .ref (g.1 q0)), (1, .ref (g.1 q1)), (2, .int x2), (5, .int x5)] dX6_castLots_33 (by decide) rfl ?_
      refine vr_iload (pc := 35) 1 dX6_castLots_35 rfl ?_
      refine vr_callS (pc := 37) (ρ1 := (some (.int (f_X2_seedBehind (f_X2_seedBehind x4))), σ)) [.int (f_X2_seedBehind x4)] dX6_castLots_37 (s_X2_seedBehind l g rfl) cw_X2_seedBehind ml_X6_80 (by decide) rfl rfl (Nat.le_of_ble_eq_true rfl) ?_
      refine vr_istore (pc := 40) [(4, .int (f_X2_seedBehind (f_X2_seedBehind x4))), (6, .int (f_X2_drawn (f_X2_seedBehind x4) (σ.1 q1 1))), (0, .ref (g.1 q0)), (1, .ref (g.1 q1)), (2, .int x2), (5, .int x5)] dX6_castLots_40 (by decide) rfl ?_
      refine vr_iload (pc := 42) 0 dX6_castLots_42 rfl ?_
      refine vr_iconst (pc := 44) 4 dX6_castLots_44 ci_4 ?_
      refine vr_callS (pc := 45) (ρ1 := (some (.int (f_X2_drawn (f_X2_seedBehind (f_X2_seedBehind x4)) 4)), σ)) [.int (f_X2_seedBehind (f_X2_seedBehind x4)), .int 4] dX6_castLots_45 (s_X2_drawn l g rfl) cw_X2_drawn ml_X6_87 (by decide) rfl rfl (Nat.le_of_ble_eq_true rfl) ?_
      refine vr_iconst (pc := 48) 1 dX6_castLots_48 ci_1 ?_
      refine vr_iadd (pc := 49) dX6_castLots_49 ?_
      refine vr_istore (pc := 50) [(7, .int ((f_X2_drawn (f_X2_seedBehind (f_X2_seedBehind x4)) 4) + 1)), (4, .int (f_X2_seedBehind (f_X2_seedBehind x4))), (6, .int (f_X2_drawn (f_X2_seedBehind x4) (σ.1 q1 1))), (0, .ref (g.1 q0)), (1, .ref (g.1 q1)), (2, .int x2), (5, .int x5)] dX6_castLots_50 (by decide) rfl ?_
      refine vr_iconst (pc := 52) 0 dX6_castLots_52 ci_0 ?_
      refine vr_istore (pc := 53) [(8, .int 0), (7, .int ((f_X2_drawn (f_X2_seedBehind (f_X2_seedBehind x4)) 4) + 1)), (4, .int (f_X2_seedBehind (f_X2_seedBehind x4))), (6, .int (f_X2_drawn (f_X2_seedBehind x4) (σ.1 q1 1))), (0, .ref (g.1 q0)), (1, .ref (g.1 q1)), (2, .int x2), (5, .int x5)] dX6_castLots_53 (by decide) rfl ?_
      refine vr_sub [4, 5, 6, 2, 7, 3, 1, 0] [(0, .ref (g.1 q0)), (1, .ref (g.1 q1)), (2, .int x2), (4, .int (f_X2_seedBehind (f_X2_seedBehind x4))), (5, .int x5), (6, .int (f_X2_drawn (f_X2_seedBehind x4) (σ.1 q1 1))), (7, .int ((f_X2_drawn (f_X2_seedBehind (f_X2_seedBehind x4)) 4) + 1)), (8, .int 0)] rfl ?_
      refine v_X6_castLots_L55 l g (fun p0 p1 y2 y4 y5 τ hp0 hp1 h => ?_) FU q0 q1 x2 (f_X2_seedBehind (f_X2_seedBehind x4)) x5 (f_X2_drawn (f_X2_seedBehind x4) (σ.1 q1 1)) ((f_X2_drawn (f_X2_seedBehind (f_X2_seedBehind x4)) 4) + 1) 0 (hq0) (hq1) σ h
      refine vr_iinc (pc := 109) [(5, .int (y5 + 1)), (0, .ref (g.1 p0)), (1, .ref (g.1 p1)), (2, .int y2), (4, .int y4)] 4 dX6_castLots_109 rfl (congrArg (fun z => y5 + z) ci_1) (by decide) rfl ?_
      refine vr_goto (pc := 112) 11 dX6_castLots_112 (by decide) ?_
      refine vr_sub [1, 2, 3, 4, 0] [(0, .ref (g.1 p0)), (1, .ref (g.1 p1)), (2, .int y2), (4, .int y4), (5, .int (y5 + 1))] rfl ?_
      exact ih p0 p1 y2 y4 (y5 + 1) (hp0) (hp1) τ h
set_option maxRecDepth 20000 in
set_option maxHeartbeats 4000000 in
theorem s_X6_castLots (l : Launch) (g : GG) {q0 : Nat} (hq0 : kd q0 = 5) {q1 : Nat} (hq1 : kd q1 = 3) {a2 : Int32} {a3 : Int32} {σ : SS} {r : SS} (h : f_X6_castLots q0 q1 a2 a3 σ = some r) : CT l g 3 yX6_castLots cX6_castLots 9 none [.ref (g.1 q0), .ref (g.1 q1), .int a2, .int a3] σ (none, r) := by
  refine CT.of (lv := [(0, .ref (g.1 q0)), (1, .ref (g.1 q1)), (2, .int a2), (3, .int a3)]) RX6 (by decide +kernel) rfl (Nat.le_of_ble_eq_true rfl) rfl ?_
  unfold f_X6_castLots at h
  refine vr_aload_n (pc := 0) 0 dX6_castLots_0 rfl rfl ?_
  refine vr_aload_n (pc := 1) 1 dX6_castLots_1 rfl rfl ?_
  obtain ⟨z1, hz2, h⟩ := ob_some h
  refine vr_callV (pc := 2) (ρ1 := (none, z1)) [.ref (g.1 q1)] dX6_castLots_2 (s_X6_begin l g (hq0) (hq1) hz2) cw_X6_begin ml_X6_64 hq0 rfl (by decide) (by decide) rfl rfl (Nat.le_of_ble_eq_true rfl) ?_
  refine vr_iload_n (pc := 5) 3 dX6_castLots_5 rfl rfl ?_
  refine vr_istore (pc := 6) [(4, .int a3), (0, .ref (g.1 q0)), (1, .ref (g.1 q1)), (2, .int a2), (3, .int a3)] dX6_castLots_6 (by decide) rfl ?_
  refine vr_iconst (pc := 8) 0 dX6_castLots_8 ci_0 ?_
  refine vr_istore (pc := 9) [(5, .int 0), (4, .int a3), (0, .ref (g.1 q0)), (1, .ref (g.1 q1)), (2, .int a2), (3, .int a3)] dX6_castLots_9 (by decide) rfl ?_
  refine vr_sub [2, 3, 4, 1, 0] [(0, .ref (g.1 q0)), (1, .ref (g.1 q1)), (2, .int a2), (4, .int a3), (5, .int 0)] rfl ?_
  refine v_X6_castLots_L11 l g (fun τ h => ?_) FU q0 q1 a2 a3 0 (hq0) (hq1) z1 h
  have h := Option.some.inj h; subst h
  exact vr_vret (pc := 115) dX6_castLots_115 rfl rfl
