theorem dX9_mostCrossed_0 : decode cX9_mostCrossed 0 = .ok (.iconst 0, 1) := by decide +kernel
theorem dX9_mostCrossed_1 : decode cX9_mostCrossed 1 = .ok (.istore_n 1, 1) := by decide +kernel
theorem dX9_mostCrossed_2 : decode cX9_mostCrossed 2 = .ok (.iconst 1, 1) := by decide +kernel
theorem dX9_mostCrossed_3 : decode cX9_mostCrossed 3 = .ok (.istore_n 2, 1) := by decide +kernel
theorem dX9_mostCrossed_4 : decode cX9_mostCrossed 4 = .ok (.iload_n 2, 1) := by decide +kernel
theorem dX9_mostCrossed_5 : decode cX9_mostCrossed 5 = .ok (.aload_n 0, 1) := by decide +kernel
theorem dX9_mostCrossed_6 : decode cX9_mostCrossed 6 = .ok (.getfield 193, 3) := by decide +kernel
theorem dX9_mostCrossed_9 : decode cX9_mostCrossed 9 = .ok (.if_icmp .ge 24, 3) := by decide +kernel
theorem dX9_mostCrossed_12 : decode cX9_mostCrossed 12 = .ok (.aload_n 0, 1) := by decide +kernel
theorem dX9_mostCrossed_13 : decode cX9_mostCrossed 13 = .ok (.iload_n 2, 1) := by decide +kernel
theorem dX9_mostCrossed_14 : decode cX9_mostCrossed 14 = .ok (.invokevirtual 213, 3) := by decide +kernel
theorem dX9_mostCrossed_17 : decode cX9_mostCrossed 17 = .ok (.aload_n 0, 1) := by decide +kernel
theorem dX9_mostCrossed_18 : decode cX9_mostCrossed 18 = .ok (.iload_n 1, 1) := by decide +kernel
theorem dX9_mostCrossed_19 : decode cX9_mostCrossed 19 = .ok (.invokevirtual 213, 3) := by decide +kernel
theorem dX9_mostCrossed_22 : decode cX9_mostCrossed 22 = .ok (.if_icmp .le 5, 3) := by decide +kernel
theorem dX9_mostCrossed_25 : decode cX9_mostCrossed 25 = .ok (.iload_n 2, 1) := by decide +kernel
theorem dX9_mostCrossed_26 : decode cX9_mostCrossed 26 = .ok (.istore_n 1, 1) := by decide +kernel
theorem dX9_mostCrossed_27 : decode cX9_mostCrossed 27 = .ok (.iinc 2 1, 3) := by decide +kernel
theorem dX9_mostCrossed_30 : decode cX9_mostCrossed 30 = .ok (.goto (-26), 3) := by decide +kernel
theorem dX9_mostCrossed_33 : decode cX9_mostCrossed 33 = .ok (.iload_n 1, 1) := by decide +kernel
theorem dX9_mostCrossed_34 : decode cX9_mostCrossed 34 = .ok (.ireturn, 1) := by decide +kernel
set_option maxRecDepth 20000 in
set_option maxHeartbeats 4000000 in
theorem v_X9_mostCrossed_L4 (l : Launch) (g : GG) {r : Int32} {σ : SS} {κ : Int32 → Option Int32} (hκ : ∀ (y1 : Int32) , κ y1 = some r → VV l g 4 RX9 cX9_mostCrossed 3 (some .int) (some (.int r), σ) 33 [(1, .int y1)] [] σ) : ∀ (fu : Nat) (q0 : Nat) (x1 : Int32) (x2 : Int32) (hq0 : kd q0 = 8), f_X9_mostCrossed_L4 σ κ fu q0 x1 x2 = some r → VV l g 4 RX9 cX9_mostCrossed 3 (some .int) (some (.int r), σ) 4 [(0, .ref (g.1 q0)), (1, .int x1), (2, .int x2)] [] σ := by
  intro fu
  induction fu with
  | zero => intro q0 x1 x2 hq0 h; cases h
  | succ fu ih =>
    intro q0 x1 x2 hq0 h
    simp only [f_X9_mostCrossed_L4] at h
    refine vr_iload_n (pc := 4) 2 dX9_mostCrossed_4 rfl rfl ?_
    refine vr_aload_n (pc := 5) 0 dX9_mostCrossed_5 rfl rfl ?_
    refine vr_getI (pc := 6) 23 dX9_mostCrossed_6 fi_X9_193 hq0 (sh_8_23 hq0) ?_
    refine vr_icmp_ge (pc := 9) 33 dX9_mostCrossed_9 (by decide) (fun c1 => ?_) (fun c1 => ?_)
    · rw [if_pos c1] at h
      refine vr_sub [1] [(1, .int x1)] rfl ?_
      exact hκ x1 h
    · rw [if_neg c1] at h
      refine vr_aload_n (pc := 12) 0 dX9_mostCrossed_12 rfl rfl ?_
      refine vr_iload_n (pc := 13) 2 dX9_mostCrossed_13 rfl rfl ?_
      obtain ⟨z2, hz3, h⟩ := ob_some h
      refine vr_callV (pc := 14) (ρ1 := (some (.int z2), σ)) [.int x2] dX9_mostCrossed_14 (s_X9_crossesOf l g (hq0) hz3) cw_X9_crossesOf ml_X9_213 hq0 rfl (by decide) (by decide) rfl rfl (Nat.le_of_ble_eq_true rfl) ?_
      refine vr_aload_n (pc := 17) 0 dX9_mostCrossed_17 rfl rfl ?_
      refine vr_iload_n (pc := 18) 1 dX9_mostCrossed_18 rfl rfl ?_
      obtain ⟨z4, hz5, h⟩ := ob_some h
      refine vr_callV (pc := 19) (ρ1 := (some (.int z4), σ)) [.int x1] dX9_mostCrossed_19 (s_X9_crossesOf l g (hq0) hz5) cw_X9_crossesOf ml_X9_213 hq0 rfl (by decide) (by decide) rfl rfl (Nat.le_of_ble_eq_true rfl) ?_
      refine vr_icmp_le (pc := 22) 27 dX9_mostCrossed_22 (by decide) (fun c6 => ?_) (fun c6 => ?_)
      · rw [if_pos c6] at h
        refine vr_iinc (pc := 27) [(2, .int (x2 + 1)), (0, .ref (g.1 q0)), (1, .int x1)] 2 dX9_mostCrossed_27 rfl (congrArg (fun z => x2 + z) ci_1) (by decide) rfl ?_
        refine vr_goto (pc := 30) 4 dX9_mostCrossed_30 (by decide) ?_
        refine vr_sub [1, 2, 0] [(0, .ref (g.1 q0)), (1, .int x1), (2, .int (x2 + 1))] rfl ?_
        exact ih q0 x1 (x2 + 1) (hq0) h
      · rw [if_neg c6] at h
        refine vr_iload_n (pc := 25) 2 dX9_mostCrossed_25 rfl rfl ?_
        refine vr_istore_n (pc := 26) [(1, .int x2), (0, .ref (g.1 q0)), (2, .int x2)] dX9_mostCrossed_26 rfl (by decide) rfl ?_
        refine vr_iinc (pc := 27) [(2, .int (x2 + 1)), (1, .int x2), (0, .ref (g.1 q0))] 2 dX9_mostCrossed_27 rfl (congrArg (fun z => x2 + z) ci_1) (by decide) rfl ?_
        refine vr_goto (pc := 30) 4 dX9_mostCrossed_30 (by decide) ?_
        refine vr_sub [2, 1, 0] [(0, .ref (g.1 q0)), (1, .int x2), (2, .int (x2 + 1))] rfl ?_
        exact ih q0 x2 (x2 + 1) (hq0) h
set_option maxRecDepth 20000 in
set_option maxHeartbeats 4000000 in
theorem s_X9_mostCrossed (l : Launch) (g : GG) {q0 : Nat} (hq0 : kd q0 = 8) {σ : SS} {r : Int32} (h : f_X9_mostCrossed q0 σ = some r) : CT l g 4 yX9_mostCrossed cX9_mostCrossed 3 (some .int) [.ref (g.1 q0)] σ (some (.int r), σ) := by
  refine CT.of (lv := [(0, .ref (g.1 q0))]) RX9 (by decide +kernel) rfl (Nat.le_of_ble_eq_true rfl) rfl ?_
  unfold f_X9_mostCrossed at h
  refine vr_iconst (pc := 0) 0 dX9_mostCrossed_0 ci_0 ?_
  refine vr_istore_n (pc := 1) [(1, .int 0), (0, .ref (g.1 q0))] dX9_mostCrossed_1 rfl (by decide) rfl ?_
  refine vr_iconst (pc := 2) 1 dX9_mostCrossed_2 ci_1 ?_
  refine vr_istore_n (pc := 3) [(2, .int 1), (1, .int 0), (0, .ref (g.1 q0))] dX9_mostCrossed_3 rfl (by decide) rfl ?_
  refine vr_sub [2, 1, 0] [(0, .ref (g.1 q0)), (1, .int 0), (2, .int 1)] rfl ?_
  refine v_X9_mostCrossed_L4 l g (fun y1 h => ?_) FU q0 0 1 (hq0) h
  refine vr_iload_n (pc := 33) 0 dX9_mostCrossed_33 rfl rfl ?_
  have h := Option.some.inj h; subst h
  exact vr_iret (pc := 34) .int dX9_mostCrossed_34 rfl rfl rfl
theorem dX9_rounds_0 : decode cX9_rounds 0 = .ok (.aload_n 0, 1) := by decide +kernel
theorem dX9_rounds_1 : decode cX9_rounds 1 = .ok (.getfield 20, 3) := by decide +kernel
theorem dX9_rounds_4 : decode cX9_rounds 4 = .ok (.iload_n 1, 1) := by decide +kernel
theorem dX9_rounds_5 : decode cX9_rounds 5 = .ok (.iaload, 1) := by decide +kernel
theorem dX9_rounds_6 : decode cX9_rounds 6 = .ok (.iconst 3, 1) := by decide +kernel
theorem dX9_rounds_7 : decode cX9_rounds 7 = .ok (.if_icmp .eq 13, 3) := by decide +kernel
theorem dX9_rounds_10 : decode cX9_rounds 10 = .ok (.aload_n 0, 1) := by decide +kernel
theorem dX9_rounds_11 : decode cX9_rounds 11 = .ok (.getfield 20, 3) := by decide +kernel
theorem dX9_rounds_14 : decode cX9_rounds 14 = .ok (.iload_n 1, 1) := by decide +kernel
theorem dX9_rounds_15 : decode cX9_rounds 15 = .ok (.iaload, 1) := by decide +kernel
theorem dX9_rounds_16 : decode cX9_rounds 16 = .ok (.iconst 5, 1) := by decide +kernel
theorem dX9_rounds_17 : decode cX9_rounds 17 = .ok (.if_icmp .ne 7, 3) := by decide +kernel
theorem dX9_rounds_20 : decode cX9_rounds 20 = .ok (.iconst 1, 1) := by decide +kernel
theorem dX9_rounds_21 : decode cX9_rounds 21 = .ok (.goto 4, 3) := by decide +kernel
theorem dX9_rounds_24 : decode cX9_rounds 24 = .ok (.iconst 0, 1) := by decide +kernel
theorem dX9_rounds_25 : decode cX9_rounds 25 = .ok (.istore_n 2, 1) := by decide +kernel
theorem dX9_rounds_26 : decode cX9_rounds 26 = .ok (.iconst 0, 1) := by decide +kernel
theorem dX9_rounds_27 : decode cX9_rounds 27 = .ok (.istore_n 3, 1) := by decide +kernel
theorem dX9_rounds_28 : decode cX9_rounds 28 = .ok (.aload_n 0, 1) := by decide +kernel
theorem dX9_rounds_29 : decode cX9_rounds 29 = .ok (.getfield 196, 3) := by decide +kernel
theorem dX9_rounds_32 : decode cX9_rounds 32 = .ok (.istore 4, 2) := by decide +kernel
theorem dX9_rounds_34 : decode cX9_rounds 34 = .ok (.iload 4, 2) := by decide +kernel
theorem dX9_rounds_36 : decode cX9_rounds 36 = .ok (.aload_n 0, 1) := by decide +kernel
theorem dX9_rounds_37 : decode cX9_rounds 37 = .ok (.getfield 193, 3) := by decide +kernel
theorem dX9_rounds_40 : decode cX9_rounds 40 = .ok (.if_icmp .ge 63, 3) := by decide +kernel
theorem dX9_rounds_43 : decode cX9_rounds 43 = .ok (.iload_n 2, 1) := by decide +kernel
theorem dX9_rounds_44 : decode cX9_rounds 44 = .ok (.ifCond .eq 21, 3) := by decide +kernel
theorem dX9_rounds_47 : decode cX9_rounds 47 = .ok (.aload_n 0, 1) := by decide +kernel
theorem dX9_rounds_48 : decode cX9_rounds 48 = .ok (.getfield 59, 3) := by decide +kernel
theorem dX9_rounds_51 : decode cX9_rounds 51 = .ok (.iload 4, 2) := by decide +kernel
theorem dX9_rounds_53 : decode cX9_rounds 53 = .ok (.iaload, 1) := by decide +kernel
theorem dX9_rounds_54 : decode cX9_rounds 54 = .ok (.aload_n 0, 1) := by decide +kernel
theorem dX9_rounds_55 : decode cX9_rounds 55 = .ok (.getfield 62, 3) := by decide +kernel
theorem dX9_rounds_58 : decode cX9_rounds 58 = .ok (.iload 4, 2) := by decide +kernel
theorem dX9_rounds_60 : decode cX9_rounds 60 = .ok (.iaload, 1) := by decide +kernel
theorem dX9_rounds_61 : decode cX9_rounds 61 = .ok (.isub, 1) := by decide +kernel
theorem dX9_rounds_62 : decode cX9_rounds 62 = .ok (.goto 18, 3) := by decide +kernel
theorem dX9_rounds_65 : decode cX9_rounds 65 = .ok (.aload_n 0, 1) := by decide +kernel
theorem dX9_rounds_66 : decode cX9_rounds 66 = .ok (.getfield 62, 3) := by decide +kernel
theorem dX9_rounds_69 : decode cX9_rounds 69 = .ok (.iload 4, 2) := by decide +kernel
theorem dX9_rounds_71 : decode cX9_rounds 71 = .ok (.iaload, 1) := by decide +kernel
theorem dX9_rounds_72 : decode cX9_rounds 72 = .ok (.aload_n 0, 1) := by decide +kernel
theorem dX9_rounds_73 : decode cX9_rounds 73 = .ok (.getfield 59, 3) := by decide +kernel
theorem dX9_rounds_76 : decode cX9_rounds 76 = .ok (.iload 4, 2) := by decide +kernel
theorem dX9_rounds_78 : decode cX9_rounds 78 = .ok (.iaload, 1) := by decide +kernel
theorem dX9_rounds_79 : decode cX9_rounds 79 = .ok (.isub, 1) := by decide +kernel
theorem dX9_rounds_80 : decode cX9_rounds 80 = .ok (.istore 5, 2) := by decide +kernel
theorem dX9_rounds_82 : decode cX9_rounds 82 = .ok (.iload_n 3, 1) := by decide +kernel
theorem dX9_rounds_83 : decode cX9_rounds 83 = .ok (.iload 5, 2) := by decide +kernel
theorem dX9_rounds_85 : decode cX9_rounds 85 = .ok (.aload_n 0, 1) := by decide +kernel
theorem dX9_rounds_86 : decode cX9_rounds 86 = .ok (.getfield 7, 3) := by decide +kernel
theorem dX9_rounds_89 : decode cX9_rounds 89 = .ok (.iadd, 1) := by decide +kernel
theorem dX9_rounds_90 : decode cX9_rounds 90 = .ok (.aload_n 0, 1) := by decide +kernel
theorem dX9_rounds_91 : decode cX9_rounds 91 = .ok (.getfield 7, 3) := by decide +kernel
theorem dX9_rounds_94 : decode cX9_rounds 94 = .ok (.irem, 1) := by decide +kernel
theorem dX9_rounds_95 : decode cX9_rounds 95 = .ok (.iadd, 1) := by decide +kernel
theorem dX9_rounds_96 : decode cX9_rounds 96 = .ok (.istore_n 3, 1) := by decide +kernel
theorem dX9_rounds_97 : decode cX9_rounds 97 = .ok (.iinc 4 1, 3) := by decide +kernel
theorem dX9_rounds_100 : decode cX9_rounds 100 = .ok (.goto (-66), 3) := by decide +kernel
theorem dX9_rounds_103 : decode cX9_rounds 103 = .ok (.iload_n 3, 1) := by decide +kernel
theorem dX9_rounds_104 : decode cX9_rounds 104 = .ok (.aload_n 0, 1) := by decide +kernel
theorem dX9_rounds_105 : decode cX9_rounds 105 = .ok (.getfield 7, 3) := by decide +kernel
theorem dX9_rounds_108 : decode cX9_rounds 108 = .ok (.idiv, 1) := by decide +kernel
theorem dX9_rounds_109 : decode cX9_rounds 109 = .ok (.ireturn, 1) := by decide +kernel
set_option maxRecDepth 20000 in
set_option maxHeartbeats 4000000 in
theorem v_X9_rounds_L34 (l : Launch) (g : GG) {r : Int32} {σ : SS} {κ : Nat → Int32 → Option Int32} (hκ : ∀ (p0 : Nat) (y3 : Int32) (hp0 : kd p0 = 8), κ p0 y3 = some r → VV l g 0 RX9 cX9_rounds 6 (some .int) (some (.int r), σ) 103 [(0, .ref (g.1 p0)), (3, .int y3)] [] σ) : ∀ (fu : Nat) (q0 : Nat) (x2 : Int32) (x3 : Int32) (x4 : Int32) (hq0 : kd q0 = 8), f_X9_rounds_L34 σ κ fu q0 x2 x3 x4 = some r → VV l g 0 RX9 cX9_rounds 6 (some .int) (some (.int r), σ) 34 [(0, .ref (g.1 q0)), (2, .int x2), (3, .int x3), (4, .int x4)] [] σ := by
  intro fu
  induction fu with
  | zero => intro q0 x2 x3 x4 hq0 h; cases h
  | succ fu ih =>
    intro q0 x2 x3 x4 hq0 h
    simp only [f_X9_rounds_L34] at h
    refine vr_iload (pc := 34) 3 dX9_rounds_34 rfl ?_
    refine vr_aload_n (pc := 36) 0 dX9_rounds_36 rfl rfl ?_
    refine vr_getI (pc := 37) 23 dX9_rounds_37 fi_X9_193 hq0 (sh_8_23 hq0) ?_
    refine vr_icmp_ge (pc := 40) 103 dX9_rounds_40 (by decide) (fun c5 => ?_) (fun c5 => ?_)
    · rw [if_pos c5] at h
      refine vr_sub [0, 2] [(0, .ref (g.1 q0)), (3, .int x3)] rfl ?_
      exact hκ q0 x3 (hq0) h
    · rw [if_neg c5] at h
      refine vr_iload_n (pc := 43) 1 dX9_rounds_43 rfl rfl ?_
      obtain ⟨j6, ej6, h⟩ := jn1_e h
      have hj6 : ∀ (v8 : Int32) , j6 v8 = some r → VV l g 0 RX9 cX9_rounds 6 (some .int) (some (.int r), σ) 80 [(0, .ref (g.1 q0)), (2, .int x2), (3, .int x3), (4, .int x4)] [.int v8] σ := by
        intro v8  h
        rw [ej6] at h
        refine vr_istore (pc := 80) [(5, .int v8), (0, .ref (g.1 q0)), (2, .int x2), (3, .int x3), (4, .int x4)] dX9_rounds_80 (by decide) rfl ?_
        refine vr_iload_n (pc := 82) 3 dX9_rounds_82 rfl rfl ?_
        refine vr_iload (pc := 83) 0 dX9_rounds_83 rfl ?_
        refine vr_aload_n (pc := 85) 1 dX9_rounds_85 rfl rfl ?_
        refine vr_getI (pc := 86) 0 dX9_rounds_86 fi_X9_7 hq0 (sh_8_0 hq0) ?_
        refine vr_iadd (pc := 89) dX9_rounds_89 ?_
        refine vr_aload_n (pc := 90) 1 dX9_rounds_90 rfl rfl ?_
        refine vr_getI (pc := 91) 0 dX9_rounds_91 fi_X9_7 hq0 (sh_8_0 hq0) ?_
        obtain ⟨hc9, h⟩ := ck_some h
        refine vr_irem (pc := 94) dX9_rounds_94 hc9 ?_
        refine vr_iadd (pc := 95) dX9_rounds_95 ?_
        refine vr_istore_n (pc := 96) [(3, .int (x3 + ((v8 + (σ.1 q0 0)) - (v8 + (σ.1 q0 0)) / (σ.1 q0 0) * (σ.1 q0 0)))), (5, .int v8), (0, .ref (g.1 q0)), (2, .int x2), (4, .int x4)] dX9_rounds_96 rfl (by decide) rfl ?_
        refine vr_iinc (pc := 97) [(4, .int (x4 + 1)), (3, .int (x3 + ((v8 + (σ.1 q0 0)) - (v8 + (σ.1 q0 0)) / (σ.1 q0 0) * (σ.1 q0 0)))), (5, .int v8), (0, .ref (g.1 q0)), (2, .int x2)] 4 dX9_rounds_97 rfl (congrArg (fun z => x4 + z) ci_1) (by decide) rfl ?_
        refine vr_goto (pc := 100) 34 dX9_rounds_100 (by decide) ?_
        refine vr_sub [3, 4, 1, 0] [(0, .ref (g.1 q0)), (2, .int x2), (3, .int (x3 + ((v8 + (σ.1 q0 0)) - (v8 + (σ.1 q0 0)) / (σ.1 q0 0) * (σ.1 q0 0)))), (4, .int (x4 + 1))] rfl ?_
        exact ih q0 x2 (x3 + ((v8 + (σ.1 q0 0)) - (v8 + (σ.1 q0 0)) / (σ.1 q0 0) * (σ.1 q0 0))) (x4 + 1) (hq0) h
      refine vr_if_eq (pc := 44) 65 dX9_rounds_44 (by decide) (fun c10 => ?_) (fun c10 => ?_)
      · rw [if_pos c10] at h
        refine vr_aload_n (pc := 65) 0 dX9_rounds_65 rfl rfl ?_
        refine vr_getR (pc := 66) 21 dX9_rounds_66 fi_X9_62 hq0 (sh_8_21 hq0).1 ?_
        refine vr_iload (pc := 69) 3 dX9_rounds_69 rfl ?_
        obtain ⟨hc11, h⟩ := ck_some h
        refine vr_iald (pc := 71) dX9_rounds_71 (sh_8_21 hq0).2 hc11 ?_
        refine vr_aload_n (pc := 72) 0 dX9_rounds_72 rfl rfl ?_
        refine vr_getR (pc := 73) 20 dX9_rounds_73 fi_X9_59 hq0 (sh_8_20 hq0).1 ?_
        refine vr_iload (pc := 76) 3 dX9_rounds_76 rfl ?_
        obtain ⟨hc12, h⟩ := ck_some h
        refine vr_iald (pc := 78) dX9_rounds_78 (sh_8_20 hq0).2 hc12 ?_
        refine vr_isub (pc := 79) dX9_rounds_79 ?_
        exact hj6 ((σ.1 (rid q0 21) x4.toNatClampNeg) - (σ.1 (rid q0 20) x4.toNatClampNeg)) h
      · rw [if_neg c10] at h
        refine vr_aload_n (pc := 47) 0 dX9_rounds_47 rfl rfl ?_
        refine vr_getR (pc := 48) 20 dX9_rounds_48 fi_X9_59 hq0 (sh_8_20 hq0).1 ?_
        refine vr_iload (pc := 51) 3 dX9_rounds_51 rfl ?_
        obtain ⟨hc13, h⟩ := ck_some h
        refine vr_iald (pc := 53) dX9_rounds_53 (sh_8_20 hq0).2 hc13 ?_
        refine vr_aload_n (pc := 54) 0 dX9_rounds_54 rfl rfl ?_
        refine vr_getR (pc := 55) 21 dX9_rounds_55 fi_X9_62 hq0 (sh_8_21 hq0).1 ?_
        refine vr_iload (pc := 58) 3 dX9_rounds_58 rfl ?_
        obtain ⟨hc14, h⟩ := ck_some h
        refine vr_iald (pc := 60) dX9_rounds_60 (sh_8_21 hq0).2 hc14 ?_
        refine vr_isub (pc := 61) dX9_rounds_61 ?_
        refine vr_goto (pc := 62) 80 dX9_rounds_62 (by decide) ?_
        exact hj6 ((σ.1 (rid q0 20) x4.toNatClampNeg) - (σ.1 (rid q0 21) x4.toNatClampNeg)) h
set_option maxRecDepth 20000 in
set_option maxHeartbeats 4000000 in
theorem s_X9_rounds (l : Launch) (g : GG) {q0 : Nat} (hq0 : kd q0 = 8) {a1 : Int32} {σ : SS} {r : Int32} (h : f_X9_rounds q0 a1 σ = some r) : CT l g 0 yX9_rounds cX9_rounds 6 (some .int) [.ref (g.1 q0), .int a1] σ (some (.int r), σ) := by
  refine CT.of (lv := [(0, .ref (g.1 q0)), (1, .int a1)]) RX9 (by decide +kernel) rfl (Nat.le_of_ble_eq_true rfl) rfl ?_
  unfold f_X9_rounds at h
  refine vr_aload_n (pc := 0) 0 dX9_rounds_0 rfl rfl ?_
  refine vr_getR (pc := 1) 4 dX9_rounds_1 fi_X9_20 hq0 (sh_8_4 hq0).1 ?_
  refine vr_iload_n (pc := 4) 1 dX9_rounds_4 rfl rfl ?_
  obtain ⟨hc1, h⟩ := ck_some h
  refine vr_iald (pc := 5) dX9_rounds_5 (sh_8_4 hq0).2 hc1 ?_
  refine vr_iconst (pc := 6) 3 dX9_rounds_6 ci_3 ?_
  obtain ⟨j2, ej2, h⟩ := jn1_e h
  have hj2 : ∀ (v4 : Int32) , j2 v4 = some r → VV l g 0 RX9 cX9_rounds 6 (some .int) (some (.int r), σ) 25 [(0, .ref (g.1 q0))] [.int v4] σ := by
    intro v4  h
    rw [ej2] at h
    refine vr_istore_n (pc := 25) [(2, .int v4), (0, .ref (g.1 q0))] dX9_rounds_25 rfl (by decide) rfl ?_
    refine vr_iconst (pc := 26) 0 dX9_rounds_26 ci_0 ?_
    refine vr_istore_n (pc := 27) [(3, .int 0), (2, .int v4), (0, .ref (g.1 q0))] dX9_rounds_27 rfl (by decide) rfl ?_
    refine vr_aload_n (pc := 28) 2 dX9_rounds_28 rfl rfl ?_
    refine vr_getI (pc := 29) 24 dX9_rounds_29 fi_X9_196 hq0 (sh_8_24 hq0) ?_
    refine vr_istore (pc := 32) [(4, .int (σ.1 q0 24)), (3, .int 0), (2, .int v4), (0, .ref (g.1 q0))] dX9_rounds_32 (by decide) rfl ?_
    refine vr_sub [3, 2, 1, 0] [(0, .ref (g.1 q0)), (2, .int v4), (3, .int 0), (4, .int (σ.1 q0 24))] rfl ?_
    refine v_X9_rounds_L34 l g (fun p0 y3 hp0 h => ?_) FU q0 v4 0 (σ.1 q0 24) (hq0) h
    refine vr_iload_n (pc := 103) 1 dX9_rounds_103 rfl rfl ?_
    refine vr_aload_n (pc := 104) 0 dX9_rounds_104 rfl rfl ?_
    refine vr_getI (pc := 105) 0 dX9_rounds_105 fi_X9_7 hp0 (sh_8_0 hp0) ?_
    obtain ⟨hc15, h⟩ := ck_some h
    refine vr_idiv (pc := 108) dX9_rounds_108 hc15 ?_
    have h := Option.some.inj h; subst h
    exact vr_iret (pc := 109) .int dX9_rounds_109 rfl rfl rfl
  refine vr_icmp_eq (pc := 7) 20 dX9_rounds_7 (by decide) (fun c16 => ?_) (fun c16 => ?_)
  · rw [if_pos c16] at h
    refine vr_iconst (pc := 20) 1 dX9_rounds_20 ci_1 ?_
    refine vr_goto (pc := 21) 25 dX9_rounds_21 (by decide) ?_
    refine vr_sub [0] [(0, .ref (g.1 q0))] rfl ?_
    exact hj2 1 h
  · rw [if_neg c16] at h
    refine vr_aload_n (pc := 10) 0 dX9_rounds_10 rfl rfl ?_
    refine vr_getR (pc := 11) 4 dX9_rounds_11 fi_X9_20 hq0 (sh_8_4 hq0).1 ?_
    refine vr_iload_n (pc := 14) 1 dX9_rounds_14 rfl rfl ?_
    obtain ⟨hc17, h⟩ := ck_some h
    refine vr_iald (pc := 15) dX9_rounds_15 (sh_8_4 hq0).2 hc17 ?_
    refine vr_iconst (pc := 16) 5 dX9_rounds_16 ci_5 ?_
    refine vr_icmp_ne (pc := 17) 24 dX9_rounds_17 (by decide) (fun c18 => ?_) (fun c18 => ?_)
    · rw [if_neg c18] at h
      refine vr_iconst (pc := 24) 0 dX9_rounds_24 ci_0 ?_
      refine vr_sub [0] [(0, .ref (g.1 q0))] rfl ?_
      exact hj2 0 h
    · rw [if_pos c18] at h
      refine vr_iconst (pc := 20) 1 dX9_rounds_20 ci_1 ?_
      refine vr_goto (pc := 21) 25 dX9_rounds_21 (by decide) ?_
      refine vr_sub [0] [(0, .ref (g.1 q0))] rfl ?_
      exact hj2 1 h
theorem dX9_gapFrom_0 : decode cX9_gapFrom 0 = .ok (.iconst 1, 1) := by decide +kernel
theorem dX9_gapFrom_1 : decode cX9_gapFrom 1 = .ok (.istore_n 2, 1) := by decide +kernel
theorem dX9_gapFrom_2 : decode cX9_gapFrom 2 = .ok (.aload_n 0, 1) := by decide +kernel
theorem dX9_gapFrom_3 : decode cX9_gapFrom 3 = .ok (.getfield 65, 3) := by decide +kernel
theorem dX9_gapFrom_6 : decode cX9_gapFrom 6 = .ok (.iload_n 1, 1) := by decide +kernel
theorem dX9_gapFrom_7 : decode cX9_gapFrom 7 = .ok (.iload_n 2, 1) := by decide +kernel
theorem dX9_gapFrom_8 : decode cX9_gapFrom 8 = .ok (.iadd, 1) := by decide +kernel
theorem dX9_gapFrom_9 : decode cX9_gapFrom 9 = .ok (.aload_n 0, 1) := by decide +kernel
theorem dX9_gapFrom_10 : decode cX9_gapFrom 10 = .ok (.getfield 7, 3) := by decide +kernel
theorem dX9_gapFrom_13 : decode cX9_gapFrom 13 = .ok (.irem, 1) := by decide +kernel
theorem dX9_gapFrom_14 : decode cX9_gapFrom 14 = .ok (.iaload, 1) := by decide +kernel
theorem dX9_gapFrom_15 : decode cX9_gapFrom 15 = .ok (.ifCond .ge 9, 3) := by decide +kernel
theorem dX9_gapFrom_18 : decode cX9_gapFrom 18 = .ok (.iinc 2 1, 3) := by decide +kernel
theorem dX9_gapFrom_21 : decode cX9_gapFrom 21 = .ok (.goto (-19), 3) := by decide +kernel
theorem dX9_gapFrom_24 : decode cX9_gapFrom 24 = .ok (.iload_n 2, 1) := by decide +kernel
theorem dX9_gapFrom_25 : decode cX9_gapFrom 25 = .ok (.ireturn, 1) := by decide +kernel
set_option maxRecDepth 20000 in
set_option maxHeartbeats 4000000 in
theorem v_X9_gapFrom_L2 (l : Launch) (g : GG) {r : Int32} {σ : SS} {κ : Int32 → Option Int32} (hκ : ∀ (y2 : Int32) , κ y2 = some r → VV l g 0 RX9 cX9_gapFrom 3 (some .int) (some (.int r), σ) 24 [(2, .int y2)] [] σ) : ∀ (fu : Nat) (q0 : Nat) (x1 : Int32) (x2 : Int32) (hq0 : kd q0 = 8), f_X9_gapFrom_L2 σ κ fu q0 x1 x2 = some r → VV l g 0 RX9 cX9_gapFrom 3 (some .int) (some (.int r), σ) 2 [(0, .ref (g.1 q0)), (1, .int x1), (2, .int x2)] [] σ := by
  intro fu
  induction fu with
  | zero => intro q0 x1 x2 hq0 h; cases h
  | succ fu ih =>
    intro q0 x1 x2 hq0 h
    simp only [f_X9_gapFrom_L2] at h
    refine vr_aload_n (pc := 2) 0 dX9_gapFrom_2 rfl rfl ?_
    refine vr_getR (pc := 3) 22 dX9_gapFrom_3 fi_X9_65 hq0 (sh_8_22 hq0).1 ?_
    refine vr_iload_n (pc := 6) 1 dX9_gapFrom_6 rfl rfl ?_
    refine vr_iload_n (pc := 7) 2 dX9_gapFrom_7 rfl rfl ?_
    refine vr_iadd (pc := 8) dX9_gapFrom_8 ?_
    refine vr_aload_n (pc := 9) 0 dX9_gapFrom_9 rfl rfl ?_
    refine vr_getI (pc := 10) 0 dX9_gapFrom_10 fi_X9_7 hq0 (sh_8_0 hq0) ?_
    obtain ⟨hc1, h⟩ := ck_some h
    refine vr_irem (pc := 13) dX9_gapFrom_13 hc1 ?_
    obtain ⟨hc2, h⟩ := ck_some h
    refine vr_iald (pc := 14) dX9_gapFrom_14 (sh_8_22 hq0).2 hc2 ?_
    refine vr_if_ge (pc := 15) 24 dX9_gapFrom_15 (by decide) (fun c3 => ?_) (fun c3 => ?_)
    · rw [if_pos c3] at h
      refine vr_sub [2] [(2, .int x2)] rfl ?_
      exact hκ x2 h
    · rw [if_neg c3] at h
      refine vr_iinc (pc := 18) [(2, .int (x2 + 1)), (0, .ref (g.1 q0)), (1, .int x1)] 2 dX9_gapFrom_18 rfl (congrArg (fun z => x2 + z) ci_1) (by decide) rfl ?_
      refine vr_goto (pc := 21) 2 dX9_gapFrom_21 (by decide) ?_
      refine vr_sub [1, 2, 0] [(0, .ref (g.1 q0)), (1, .int x1), (2, .int (x2 + 1))] rfl ?_
      exact ih q0 x1 (x2 + 1) (hq0) h
set_option maxRecDepth 20000 in
set_option maxHeartbeats 4000000 in
theorem s_X9_gapFrom (l : Launch) (g : GG) {q0 : Nat} (hq0 : kd q0 = 8) {a1 : Int32} {σ : SS} {r : Int32} (h : f_X9_gapFrom q0 a1 σ = some r) : CT l g 0 yX9_gapFrom cX9_gapFrom 3 (some .int) [.ref (g.1 q0), .int a1] σ (some (.int r), σ) := by
  refine CT.of (lv := [(0, .ref (g.1 q0)), (1, .int a1)]) RX9 (by decide +kernel) rfl (Nat.le_of_ble_eq_true rfl) rfl ?_
  unfold f_X9_gapFrom at h
  refine vr_iconst (pc := 0) 1 dX9_gapFrom_0 ci_1 ?_
  refine vr_istore_n (pc := 1) [(2, .int 1), (0, .ref (g.1 q0)), (1, .int a1)] dX9_gapFrom_1 rfl (by decide) rfl ?_
  refine vr_sub [1, 2, 0] [(0, .ref (g.1 q0)), (1, .int a1), (2, .int 1)] rfl ?_
  refine v_X9_gapFrom_L2 l g (fun y2 h => ?_) FU q0 a1 1 (hq0) h
  refine vr_iload_n (pc := 24) 0 dX9_gapFrom_24 rfl rfl ?_
  have h := Option.some.inj h; subst h
  exact vr_iret (pc := 25) .int dX9_gapFrom_25 rfl rfl rfl
theorem dX9_widest_0 : decode cX9_widest 0 = .ok (.bipush (-9), 2) := by decide +kernel
theorem dX9_widest_2 : decode cX9_widest 2 = .ok (.istore_n 1, 1) := by decide +kernel
theorem dX9_widest_3 : decode cX9_widest 3 = .ok (.iconst 0, 1) := by decide +kernel
theorem dX9_widest_4 : decode cX9_widest 4 = .ok (.istore_n 2, 1) := by decide +kernel
theorem dX9_widest_5 : decode cX9_widest 5 = .ok (.iload_n 2, 1) := by decide +kernel
theorem dX9_widest_6 : decode cX9_widest 6 = .ok (.aload_n 0, 1) := by decide +kernel
theorem dX9_widest_7 : decode cX9_widest 7 = .ok (.getfield 7, 3) := by decide +kernel
theorem dX9_widest_10 : decode cX9_widest 10 = .ok (.if_icmp .ge 37, 3) := by decide +kernel
theorem dX9_widest_13 : decode cX9_widest 13 = .ok (.aload_n 0, 1) := by decide +kernel
theorem dX9_widest_14 : decode cX9_widest 14 = .ok (.getfield 65, 3) := by decide +kernel
theorem dX9_widest_17 : decode cX9_widest 17 = .ok (.iload_n 2, 1) := by decide +kernel
theorem dX9_widest_18 : decode cX9_widest 18 = .ok (.iaload, 1) := by decide +kernel
theorem dX9_widest_19 : decode cX9_widest 19 = .ok (.ifCond .lt 22, 3) := by decide +kernel
theorem dX9_widest_22 : decode cX9_widest 22 = .ok (.iload_n 1, 1) := by decide +kernel
theorem dX9_widest_23 : decode cX9_widest 23 = .ok (.ifCond .lt 16, 3) := by decide +kernel
theorem dX9_widest_26 : decode cX9_widest 26 = .ok (.aload_n 0, 1) := by decide +kernel
theorem dX9_widest_27 : decode cX9_widest 27 = .ok (.iload_n 2, 1) := by decide +kernel
theorem dX9_widest_28 : decode cX9_widest 28 = .ok (.invokevirtual 216, 3) := by decide +kernel
theorem dX9_widest_31 : decode cX9_widest 31 = .ok (.aload_n 0, 1) := by decide +kernel
theorem dX9_widest_32 : decode cX9_widest 32 = .ok (.iload_n 1, 1) := by decide +kernel
theorem dX9_widest_33 : decode cX9_widest 33 = .ok (.invokevirtual 216, 3) := by decide +kernel
theorem dX9_widest_36 : decode cX9_widest 36 = .ok (.if_icmp .le 5, 3) := by decide +kernel
theorem dX9_widest_39 : decode cX9_widest 39 = .ok (.iload_n 2, 1) := by decide +kernel
theorem dX9_widest_40 : decode cX9_widest 40 = .ok (.istore_n 1, 1) := by decide +kernel
theorem dX9_widest_41 : decode cX9_widest 41 = .ok (.iinc 2 1, 3) := by decide +kernel
theorem dX9_widest_44 : decode cX9_widest 44 = .ok (.goto (-39), 3) := by decide +kernel
theorem dX9_widest_47 : decode cX9_widest 47 = .ok (.iload_n 1, 1) := by decide +kernel
theorem dX9_widest_48 : decode cX9_widest 48 = .ok (.ireturn, 1) := by decide +kernel
set_option maxRecDepth 20000 in
set_option maxHeartbeats 4000000 in
theorem v_X9_widest_L5 (l : Launch) (g : GG) {r : Int32} {σ : SS} {κ : Int32 → Option Int32} (hκ : ∀ (y1 : Int32) , κ y1 = some r → VV l g 1 RX9 cX9_widest 3 (some .int) (some (.int r), σ) 47 [(1, .int y1)] [] σ) : ∀ (fu : Nat) (q0 : Nat) (x1 : Int32) (x2 : Int32) (hq0 : kd q0 = 8), f_X9_widest_L5 σ κ fu q0 x1 x2 = some r → VV l g 1 RX9 cX9_widest 3 (some .int) (some (.int r), σ) 5 [(0, .ref (g.1 q0)), (1, .int x1), (2, .int x2)] [] σ := by
  intro fu
  induction fu with
  | zero => intro q0 x1 x2 hq0 h; cases h
  | succ fu ih =>
    intro q0 x1 x2 hq0 h
    simp only [f_X9_widest_L5] at h
    refine vr_iload_n (pc := 5) 2 dX9_widest_5 rfl rfl ?_
    refine vr_aload_n (pc := 6) 0 dX9_widest_6 rfl rfl ?_
    refine vr_getI (pc := 7) 0 dX9_widest_7 fi_X9_7 hq0 (sh_8_0 hq0) ?_
    refine vr_icmp_ge (pc := 10) 47 dX9_widest_10 (by decide) (fun c1 => ?_) (fun c1 => ?_)
    · rw [if_pos c1] at h
      refine vr_sub [1] [(1, .int x1)] rfl ?_
      exact hκ x1 h
    · rw [if_neg c1] at h
      refine vr_aload_n (pc := 13) 0 dX9_widest_13 rfl rfl ?_
      refine vr_getR (pc := 14) 22 dX9_widest_14 fi_X9_65 hq0 (sh_8_22 hq0).1 ?_
      refine vr_iload_n (pc := 17) 2 dX9_widest_17 rfl rfl ?_
      obtain ⟨hc2, h⟩ := ck_some h
      refine vr_iald (pc := 18) dX9_widest_18 (sh_8_22 hq0).2 hc2 ?_
      refine vr_if_lt (pc := 19) 41 dX9_widest_19 (by decide) (fun c3 => ?_) (fun c3 => ?_)
      · rw [if_pos c3] at h
        refine vr_iinc (pc := 41) [(2, .int (x2 + 1)), (0, .ref (g.1 q0)), (1, .int x1)] 2 dX9_widest_41 rfl (congrArg (fun z => x2 + z) ci_1) (by decide) rfl ?_
        refine vr_goto (pc := 44) 5 dX9_widest_44 (by decide) ?_
        refine vr_sub [1, 2, 0] [(0, .ref (g.1 q0)), (1, .int x1), (2, .int (x2 + 1))] rfl ?_
        exact ih q0 x1 (x2 + 1) (hq0) h
      · rw [if_neg c3] at h
        refine vr_iload_n (pc := 22) 1 dX9_widest_22 rfl rfl ?_
        refine vr_if_lt (pc := 23) 39 dX9_widest_23 (by decide) (fun c4 => ?_) (fun c4 => ?_)
        · rw [if_pos c4] at h
          refine vr_iload_n (pc := 39) 2 dX9_widest_39 rfl rfl ?_
          refine vr_istore_n (pc := 40) [(1, .int x2), (0, .ref (g.1 q0)), (2, .int x2)] dX9_widest_40 rfl (by decide) rfl ?_
          refine vr_iinc (pc := 41) [(2, .int (x2 + 1)), (1, .int x2), (0, .ref (g.1 q0))] 2 dX9_widest_41 rfl (congrArg (fun z => x2 + z) ci_1) (by decide) rfl ?_
          refine vr_goto (pc := 44) 5 dX9_widest_44 (by decide) ?_
          refine vr_sub [2, 1, 0] [(0, .ref (g.1 q0)), (1, .int x2), (2, .int (x2 + 1))] rfl ?_
          exact ih q0 x2 (x2 + 1) (hq0) h
        · rw [if_neg c4] at h
          refine vr_aload_n (pc := 26) 0 dX9_widest_26 rfl rfl ?_
          refine vr_iload_n (pc := 27) 2 dX9_widest_27 rfl rfl ?_
          obtain ⟨z5, hz6, h⟩ := ob_some h
          refine vr_callV (pc := 28) (ρ1 := (some (.int z5), σ)) [.int x2] dX9_widest_28 (s_X9_gapFrom l g (hq0) hz6) cw_X9_gapFrom ml_X9_216 hq0 rfl (by decide) (by decide) rfl rfl (Nat.le_of_ble_eq_true rfl) ?_
          refine vr_aload_n (pc := 31) 0 dX9_widest_31 rfl rfl ?_
          refine vr_iload_n (pc := 32) 1 dX9_widest_32 rfl rfl ?_
          obtain ⟨z7, hz8, h⟩ := ob_some h
          refine vr_callV (pc := 33) (ρ1 := (some (.int z7), σ)) [.int x1] dX9_widest_33 (s_X9_gapFrom l g (hq0) hz8) cw_X9_gapFrom ml_X9_216 hq0 rfl (by decide) (by decide) rfl rfl (Nat.le_of_ble_eq_true rfl) ?_
          refine vr_icmp_le (pc := 36) 41 dX9_widest_36 (by decide) (fun c9 => ?_) (fun c9 => ?_)
          · rw [if_pos c9] at h
            refine vr_iinc (pc := 41) [(2, .int (x2 + 1)), (0, .ref (g.1 q0)), (1, .int x1)] 2 dX9_widest_41 rfl (congrArg (fun z => x2 + z) ci_1) (by decide) rfl ?_
            refine vr_goto (pc := 44) 5 dX9_widest_44 (by decide) ?_
            refine vr_sub [1, 2, 0] [(0, .ref (g.1 q0)), (1, .int x1), (2, .int (x2 + 1))] rfl ?_
            exact ih q0 x1 (x2 + 1) (hq0) h
          · rw [if_neg c9] at h
            refine vr_iload_n (pc := 39) 2 dX9_widest_39 rfl rfl ?_
            refine vr_istore_n (pc := 40) [(1, .int x2), (0, .ref (g.1 q0)), (2, .int x2)] dX9_widest_40 rfl (by decide) rfl ?_
            refine vr_iinc (pc := 41) [(2, .int (x2 + 1)), (1, .int x2), (0, .ref (g.1 q0))] 2 dX9_widest_41 rfl (congrArg (fun z => x2 + z) ci_1) (by decide) rfl ?_
            refine vr_goto (pc := 44) 5 dX9_widest_44 (by decide) ?_
            refine vr_sub [2, 1, 0] [(0, .ref (g.1 q0)), (1, .int x2), (2, .int (x2 + 1))] rfl ?_
            exact ih q0 x2 (x2 + 1) (hq0) h
set_option maxRecDepth 20000 in
set_option maxHeartbeats 4000000 in
theorem s_X9_widest (l : Launch) (g : GG) {q0 : Nat} (hq0 : kd q0 = 8) {σ : SS} {r : Int32} (h : f_X9_widest q0 σ = some r) : CT l g 1 yX9_widest cX9_widest 3 (some .int) [.ref (g.1 q0)] σ (some (.int r), σ) := by
  refine CT.of (lv := [(0, .ref (g.1 q0))]) RX9 (by decide +kernel) rfl (Nat.le_of_ble_eq_true rfl) rfl ?_
  unfold f_X9_widest at h
  refine vr_bipush (pc := 0) (-9) dX9_widest_0 cb_m9 ?_
  refine vr_istore_n (pc := 2) [(1, .int (-9)), (0, .ref (g.1 q0))] dX9_widest_2 rfl (by decide) rfl ?_
  refine vr_iconst (pc := 3) 0 dX9_widest_3 ci_0 ?_
  refine vr_istore_n (pc := 4) [(2, .int 0), (1, .int (-9)), (0, .ref (g.1 q0))] dX9_widest_4 rfl (by decide) rfl ?_
  refine vr_sub [2, 1, 0] [(0, .ref (g.1 q0)), (1, .int (-9)), (2, .int 0)] rfl ?_
  refine v_X9_widest_L5 l g (fun y1 h => ?_) FU q0 (-9) 0 (hq0) h
  refine vr_iload_n (pc := 47) 0 dX9_widest_47 rfl rfl ?_
  have h := Option.some.inj h; subst h
  exact vr_iret (pc := 48) .int dX9_widest_48 rfl rfl rfl
theorem dX9_drawing_0 : decode cX9_drawing 0 = .ok (.aload_n 0, 1) := by decide +kernel
theorem dX9_drawing_1 : decode cX9_drawing 1 = .ok (.iload_n 1, 1) := by decide +kernel
theorem dX9_drawing_2 : decode cX9_drawing 2 = .ok (.invokevirtual 176, 3) := by decide +kernel
theorem dX9_drawing_5 : decode cX9_drawing 5 = .ok (.ifCond .ne 9, 3) := by decide +kernel
theorem dX9_drawing_8 : decode cX9_drawing 8 = .ok (.aload_n 0, 1) := by decide +kernel
theorem dX9_drawing_9 : decode cX9_drawing 9 = .ok (.iconst (-1), 1) := by decide +kernel
theorem dX9_drawing_10 : decode cX9_drawing 10 = .ok (.invokevirtual 104, 3) := by decide +kernel
theorem dX9_drawing_13 : decode cX9_drawing 13 = .ok (.ireturn, 1) := by decide +kernel
theorem dX9_drawing_14 : decode cX9_drawing 14 = .ok (.iload_n 2, 1) := by decide +kernel
theorem dX9_drawing_15 : decode cX9_drawing 15 = .ok (.iconst 0, 1) := by decide +kernel
theorem dX9_drawing_16 : decode cX9_drawing 16 = .ok (.bipush 7, 2) := by decide +kernel
theorem dX9_drawing_18 : decode cX9_drawing 18 = .ok (.invokestatic 111, 3) := by decide +kernel
theorem dX9_drawing_21 : decode cX9_drawing 21 = .ok (.ifCond .ne 10, 3) := by decide +kernel
theorem dX9_drawing_24 : decode cX9_drawing 24 = .ok (.aload_n 0, 1) := by decide +kernel
theorem dX9_drawing_25 : decode cX9_drawing 25 = .ok (.bipush (-2), 2) := by decide +kernel
theorem dX9_drawing_27 : decode cX9_drawing 27 = .ok (.invokevirtual 104, 3) := by decide +kernel
theorem dX9_drawing_30 : decode cX9_drawing 30 = .ok (.ireturn, 1) := by decide +kernel
theorem dX9_drawing_31 : decode cX9_drawing 31 = .ok (.aload_n 0, 1) := by decide +kernel
theorem dX9_drawing_32 : decode cX9_drawing 32 = .ok (.iload_n 1, 1) := by decide +kernel
theorem dX9_drawing_33 : decode cX9_drawing 33 = .ok (.invokevirtual 219, 3) := by decide +kernel
theorem dX9_drawing_36 : decode cX9_drawing 36 = .ok (.iload_n 2, 1) := by decide +kernel
theorem dX9_drawing_37 : decode cX9_drawing 37 = .ok (.tableswitch 88 0 6 #[43, 48, 58, 63, 69, 78, 83], 43) := by decide +kernel
theorem dX9_drawing_80 : decode cX9_drawing 80 = .ok (.aload_n 0, 1) := by decide +kernel
theorem dX9_drawing_81 : decode cX9_drawing 81 = .ok (.getfield 196, 3) := by decide +kernel
theorem dX9_drawing_84 : decode cX9_drawing 84 = .ok (.ireturn, 1) := by decide +kernel
theorem dX9_drawing_85 : decode cX9_drawing 85 = .ok (.aload_n 0, 1) := by decide +kernel
theorem dX9_drawing_86 : decode cX9_drawing 86 = .ok (.getfield 193, 3) := by decide +kernel
theorem dX9_drawing_89 : decode cX9_drawing 89 = .ok (.aload_n 0, 1) := by decide +kernel
theorem dX9_drawing_90 : decode cX9_drawing 90 = .ok (.getfield 196, 3) := by decide +kernel
theorem dX9_drawing_93 : decode cX9_drawing 93 = .ok (.isub, 1) := by decide +kernel
theorem dX9_drawing_94 : decode cX9_drawing 94 = .ok (.ireturn, 1) := by decide +kernel
theorem dX9_drawing_95 : decode cX9_drawing 95 = .ok (.aload_n 0, 1) := by decide +kernel
theorem dX9_drawing_96 : decode cX9_drawing 96 = .ok (.getfield 193, 3) := by decide +kernel
theorem dX9_drawing_99 : decode cX9_drawing 99 = .ok (.ireturn, 1) := by decide +kernel
theorem dX9_drawing_100 : decode cX9_drawing 100 = .ok (.aload_n 0, 1) := by decide +kernel
theorem dX9_drawing_101 : decode cX9_drawing 101 = .ok (.iload_n 1, 1) := by decide +kernel
theorem dX9_drawing_102 : decode cX9_drawing 102 = .ok (.invokevirtual 222, 3) := by decide +kernel
theorem dX9_drawing_105 : decode cX9_drawing 105 = .ok (.ireturn, 1) := by decide +kernel
theorem dX9_drawing_106 : decode cX9_drawing 106 = .ok (.aload_n 0, 1) := by decide +kernel
theorem dX9_drawing_107 : decode cX9_drawing 107 = .ok (.aload_n 0, 1) := by decide +kernel
theorem dX9_drawing_108 : decode cX9_drawing 108 = .ok (.invokevirtual 225, 3) := by decide +kernel
theorem dX9_drawing_111 : decode cX9_drawing 111 = .ok (.invokevirtual 216, 3) := by decide +kernel
theorem dX9_drawing_114 : decode cX9_drawing 114 = .ok (.ireturn, 1) := by decide +kernel
theorem dX9_drawing_115 : decode cX9_drawing 115 = .ok (.aload_n 0, 1) := by decide +kernel
theorem dX9_drawing_116 : decode cX9_drawing 116 = .ok (.invokevirtual 225, 3) := by decide +kernel
theorem dX9_drawing_119 : decode cX9_drawing 119 = .ok (.ireturn, 1) := by decide +kernel
theorem dX9_drawing_120 : decode cX9_drawing 120 = .ok (.aload_n 0, 1) := by decide +kernel
theorem dX9_drawing_121 : decode cX9_drawing 121 = .ok (.invokevirtual 228, 3) := by decide +kernel
theorem dX9_drawing_124 : decode cX9_drawing 124 = .ok (.ireturn, 1) := by decide +kernel
theorem dX9_drawing_125 : decode cX9_drawing 125 = .ok (.aload_n 0, 1) := by decide +kernel
theorem dX9_drawing_126 : decode cX9_drawing 126 = .ok (.invokevirtual 231, 3) := by decide +kernel
theorem dX9_drawing_129 : decode cX9_drawing 129 = .ok (.ireturn, 1) := by decide +kernel
set_option maxRecDepth 20000 in
set_option maxHeartbeats 4000000 in
theorem s_X9_drawing (l : Launch) (g : GG) {q0 : Nat} (hq0 : kd q0 = 8) {a1 : Int32} {a2 : Int32} {σ : SS} {r : Int32 × SS} (h : f_X9_drawing q0 a1 a2 σ = some r) : CT l g 5 yX9_drawing cX9_drawing 3 (some .int) [.ref (g.1 q0), .int a1, .int a2] σ (some (.int r.1), r.2) := by
  refine CT.of (lv := [(0, .ref (g.1 q0)), (1, .int a1), (2, .int a2)]) RX9 (by decide +kernel) rfl (Nat.le_of_ble_eq_true rfl) rfl ?_
  unfold f_X9_drawing at h
  refine vr_aload_n (pc := 0) 0 dX9_drawing_0 rfl rfl ?_
  refine vr_iload_n (pc := 1) 1 dX9_drawing_1 rfl rfl ?_
  refine vr_callV (pc := 2) (ρ1 := (some (.int (f_X9_isWheel q0 a1 σ)), σ)) [.int a1] dX9_drawing_2 (s_X9_isWheel l g (hq0) rfl) cw_X9_isWheel ml_X9_176 hq0 rfl (by decide) (by decide) rfl rfl (Nat.le_of_ble_eq_true rfl) ?_
  refine vr_if_ne (pc := 5) 14 dX9_drawing_5 (by decide) (fun c1 => ?_) (fun c1 => ?_)
  · rw [if_neg c1] at h
    refine vr_iload_n (pc := 14) 2 dX9_drawing_14 rfl rfl ?_
    refine vr_iconst (pc := 15) 0 dX9_drawing_15 ci_0 ?_
    refine vr_bipush (pc := 16) 7 dX9_drawing_16 cb_7 ?_
    refine vr_callS (pc := 18) (ρ1 := (some (.int (f_X9_within a2 0 7)), σ)) [.int a2, .int 0, .int 7] dX9_drawing_18 (s_X9_within l g rfl) cw_X9_within ml_X9_111 (by decide) rfl rfl (Nat.le_of_ble_eq_true rfl) ?_
    refine vr_if_ne (pc := 21) 31 dX9_drawing_21 (by decide) (fun c2 => ?_) (fun c2 => ?_)
    · rw [if_neg c2] at h
      refine vr_aload_n (pc := 31) 0 dX9_drawing_31 rfl rfl ?_
      refine vr_iload_n (pc := 32) 1 dX9_drawing_32 rfl rfl ?_
      obtain ⟨z3, hz4, h⟩ := ob_some h
      refine vr_callV (pc := 33) (ρ1 := (none, z3)) [.int a1] dX9_drawing_33 (s_X9_drawsBy l g (hq0) hz4) cw_X9_drawsBy ml_X9_219 hq0 rfl (by decide) (by decide) rfl rfl (Nat.le_of_ble_eq_true rfl) ?_
      refine vr_iload_n (pc := 36) 2 dX9_drawing_36 rfl rfl ?_
      by_cases c5 : a2 = 0
      · rw [if_pos c5] at h
        refine vr_tableIn (pc := 37) 43 80 dX9_drawing_37 (by rw [c5]; decide) (by rw [c5]; decide) (by rw [c5]; rfl) (by decide) ?_
        refine vr_aload_n (pc := 80) 0 dX9_drawing_80 rfl rfl ?_
        refine vr_getI (pc := 81) 24 dX9_drawing_81 fi_X9_196 hq0 (sh_8_24 hq0) ?_
        have h := Option.some.inj h; subst h
        exact vr_iret (pc := 84) .int dX9_drawing_84 rfl rfl rfl
      · rw [if_neg c5] at h
        by_cases c6 : a2 = 1
        · rw [if_pos c6] at h
          refine vr_tableIn (pc := 37) 48 85 dX9_drawing_37 (by rw [c6]; decide) (by rw [c6]; decide) (by rw [c6]; rfl) (by decide) ?_
          refine vr_aload_n (pc := 85) 0 dX9_drawing_85 rfl rfl ?_
          refine vr_getI (pc := 86) 23 dX9_drawing_86 fi_X9_193 hq0 (sh_8_23 hq0) ?_
          refine vr_aload_n (pc := 89) 0 dX9_drawing_89 rfl rfl ?_
          refine vr_getI (pc := 90) 24 dX9_drawing_90 fi_X9_196 hq0 (sh_8_24 hq0) ?_
          refine vr_isub (pc := 93) dX9_drawing_93 ?_
          have h := Option.some.inj h; subst h
          exact vr_iret (pc := 94) .int dX9_drawing_94 rfl rfl rfl
        · rw [if_neg c6] at h
          by_cases c7 : a2 = 2
          · rw [if_pos c7] at h
            refine vr_tableIn (pc := 37) 58 95 dX9_drawing_37 (by rw [c7]; decide) (by rw [c7]; decide) (by rw [c7]; rfl) (by decide) ?_
            refine vr_aload_n (pc := 95) 0 dX9_drawing_95 rfl rfl ?_
            refine vr_getI (pc := 96) 23 dX9_drawing_96 fi_X9_193 hq0 (sh_8_23 hq0) ?_
            have h := Option.some.inj h; subst h
            exact vr_iret (pc := 99) .int dX9_drawing_99 rfl rfl rfl
          · rw [if_neg c7] at h
            by_cases c8 : a2 = 3
            · rw [if_pos c8] at h
              refine vr_tableIn (pc := 37) 63 100 dX9_drawing_37 (by rw [c8]; decide) (by rw [c8]; decide) (by rw [c8]; rfl) (by decide) ?_
              refine vr_aload_n (pc := 100) 0 dX9_drawing_100 rfl rfl ?_
              refine vr_iload_n (pc := 101) 1 dX9_drawing_101 rfl rfl ?_
              obtain ⟨z9, hz10, h⟩ := ob_some h
              refine vr_callV (pc := 102) (ρ1 := (some (.int z9), z3)) [.int a1] dX9_drawing_102 (s_X9_rounds l g (hq0) hz10) cw_X9_rounds ml_X9_222 hq0 rfl (by decide) (by decide) rfl rfl (Nat.le_of_ble_eq_true rfl) ?_
              have h := Option.some.inj h; subst h
              exact vr_iret (pc := 105) .int dX9_drawing_105 rfl rfl rfl
            · rw [if_neg c8] at h
              by_cases c11 : a2 = 4
              · rw [if_pos c11] at h
                refine vr_tableIn (pc := 37) 69 106 dX9_drawing_37 (by rw [c11]; decide) (by rw [c11]; decide) (by rw [c11]; rfl) (by decide) ?_
                refine vr_aload_n (pc := 106) 0 dX9_drawing_106 rfl rfl ?_
                refine vr_aload_n (pc := 107) 0 dX9_drawing_107 rfl rfl ?_
                obtain ⟨z12, hz13, h⟩ := ob_some h
                refine vr_callV (pc := 108) (ρ1 := (some (.int z12), z3)) [] dX9_drawing_108 (s_X9_widest l g (hq0) hz13) cw_X9_widest ml_X9_225 hq0 rfl (by decide) (by decide) rfl rfl (Nat.le_of_ble_eq_true rfl) ?_
                obtain ⟨z14, hz15, h⟩ := ob_some h
                refine vr_callV (pc := 111) (ρ1 := (some (.int z14), z3)) [.int z12] dX9_drawing_111 (s_X9_gapFrom l g (hq0) hz15) cw_X9_gapFrom ml_X9_216 hq0 rfl (by decide) (by decide) rfl rfl (Nat.le_of_ble_eq_true rfl) ?_
                have h := Option.some.inj h; subst h
                exact vr_iret (pc := 114) .int dX9_drawing_114 rfl rfl rfl
              · rw [if_neg c11] at h
                by_cases c16 : a2 = 5
                · rw [if_pos c16] at h
                  refine vr_tableIn (pc := 37) 78 115 dX9_drawing_37 (by rw [c16]; decide) (by rw [c16]; decide) (by rw [c16]; rfl) (by decide) ?_
                  refine vr_aload_n (pc := 115) 0 dX9_drawing_115 rfl rfl ?_
                  obtain ⟨z17, hz18, h⟩ := ob_some h
                  refine vr_callV (pc := 116) (ρ1 := (some (.int z17), z3)) [] dX9_drawing_116 (s_X9_widest l g (hq0) hz18) cw_X9_widest ml_X9_225 hq0 rfl (by decide) (by decide) rfl rfl (Nat.le_of_ble_eq_true rfl) ?_
                  have h := Option.some.inj h; subst h
                  exact vr_iret (pc := 119) .int dX9_drawing_119 rfl rfl rfl
                · rw [if_neg c16] at h
                  by_cases c19 : a2 = 6
                  · rw [if_pos c19] at h
                    refine vr_tableIn (pc := 37) 83 120 dX9_drawing_37 (by rw [c19]; decide) (by rw [c19]; decide) (by rw [c19]; rfl) (by decide) ?_
                    refine vr_aload_n (pc := 120) 0 dX9_drawing_120 rfl rfl ?_
                    obtain ⟨z20, hz21, h⟩ := ob_some h
                    refine vr_callV (pc := 121) (ρ1 := (some (.int z20), z3)) [] dX9_drawing_121 (s_X9_crossings l g (hq0) hz21) cw_X9_crossings ml_X9_228 hq0 rfl (by decide) (by decide) rfl rfl (Nat.le_of_ble_eq_true rfl) ?_
                    have h := Option.some.inj h; subst h
                    exact vr_iret (pc := 124) .int dX9_drawing_124 rfl rfl rfl
                  · rw [if_neg c19] at h
                    refine vr_tableOut (pc := 37) 125 dX9_drawing_37 (tab_out (x := a2) 0 6 (fun z1 z2 => by rcases (show a2.toInt = 0 ∨ a2.toInt = 1 ∨ a2.toInt = 2 ∨ a2.toInt = 3 ∨ a2.toInt = 4 ∨ a2.toInt = 5 ∨ a2.toInt = 6 from by omega) with z | z | z | z | z | z | z <;> first | exact c5 (i32_of z (by decide)) | exact c6 (i32_of z (by decide)) | exact c7 (i32_of z (by decide)) | exact c8 (i32_of z (by decide)) | exact c11 (i32_of z (by decide)) | exact c16 (i32_of z (by decide)) | exact c19 (i32_of z (by decide)))) (by decide) ?_
                    refine vr_aload_n (pc := 125) 0 dX9_drawing_125 rfl rfl ?_
                    obtain ⟨z22, hz23, h⟩ := ob_some h
                    refine vr_callV (pc := 126) (ρ1 := (some (.int z22), z3)) [] dX9_drawing_126 (s_X9_mostCrossed l g (hq0) hz23) cw_X9_mostCrossed ml_X9_231 hq0 rfl (by decide) (by decide) rfl rfl (Nat.le_of_ble_eq_true rfl) ?_
                    have h := Option.some.inj h; subst h
                    exact vr_iret (pc := 129) .int dX9_drawing_129 rfl rfl rfl
    · rw [if_pos c2] at h
      refine vr_aload_n (pc := 24) 0 dX9_drawing_24 rfl rfl ?_
      refine vr_bipush (pc := 25) (-2) dX9_drawing_25 cb_m2 ?_
      obtain ⟨z24, hz25, h⟩ := ob_some h
      refine vr_callV (pc := 27) (ρ1 := (some (.int z24.1), z24.2)) [.int (-2)] dX9_drawing_27 (s_X9_no l g (hq0) hz25) cw_X9_no ml_X9_104 hq0 rfl (by decide) (by decide) rfl rfl (Nat.le_of_ble_eq_true rfl) ?_
      have h := Option.some.inj h; subst h
      exact vr_iret (pc := 30) .int dX9_drawing_30 rfl rfl rfl
  · rw [if_pos c1] at h
    refine vr_aload_n (pc := 8) 0 dX9_drawing_8 rfl rfl ?_
    refine vr_iconst (pc := 9) (-1) dX9_drawing_9 ci_m1 ?_
    obtain ⟨z26, hz27, h⟩ := ob_some h
    refine vr_callV (pc := 10) (ρ1 := (some (.int z26.1), z26.2)) [.int (-1)] dX9_drawing_10 (s_X9_no l g (hq0) hz27) cw_X9_no ml_X9_104 hq0 rfl (by decide) (by decide) rfl rfl (Nat.le_of_ble_eq_true rfl) ?_
    have h := Option.some.inj h; subst h
    exact vr_iret (pc := 13) .int dX9_drawing_13 rfl rfl rfl
theorem dX9_arc_0 : decode cX9_arc 0 = .ok (.aload_n 0, 1) := by decide +kernel
theorem dX9_arc_1 : decode cX9_arc 1 = .ok (.iload_n 1, 1) := by decide +kernel
theorem dX9_arc_2 : decode cX9_arc 2 = .ok (.invokevirtual 176, 3) := by decide +kernel
theorem dX9_arc_5 : decode cX9_arc 5 = .ok (.ifCond .ne 9, 3) := by decide +kernel
theorem dX9_arc_8 : decode cX9_arc 8 = .ok (.aload_n 0, 1) := by decide +kernel
theorem dX9_arc_9 : decode cX9_arc 9 = .ok (.iconst (-1), 1) := by decide +kernel
theorem dX9_arc_10 : decode cX9_arc 10 = .ok (.invokevirtual 104, 3) := by decide +kernel
theorem dX9_arc_13 : decode cX9_arc 13 = .ok (.ireturn, 1) := by decide +kernel
theorem dX9_arc_14 : decode cX9_arc 14 = .ok (.iload_n 2, 1) := by decide +kernel
theorem dX9_arc_15 : decode cX9_arc 15 = .ok (.ifCond .ge 10, 3) := by decide +kernel
theorem dX9_arc_18 : decode cX9_arc 18 = .ok (.aload_n 0, 1) := by decide +kernel
theorem dX9_arc_19 : decode cX9_arc 19 = .ok (.bipush (-4), 2) := by decide +kernel
theorem dX9_arc_21 : decode cX9_arc 21 = .ok (.invokevirtual 104, 3) := by decide +kernel
theorem dX9_arc_24 : decode cX9_arc 24 = .ok (.ireturn, 1) := by decide +kernel
theorem dX9_arc_25 : decode cX9_arc 25 = .ok (.aload_n 0, 1) := by decide +kernel
theorem dX9_arc_26 : decode cX9_arc 26 = .ok (.iload_n 1, 1) := by decide +kernel
theorem dX9_arc_27 : decode cX9_arc 27 = .ok (.invokevirtual 219, 3) := by decide +kernel
theorem dX9_arc_30 : decode cX9_arc 30 = .ok (.iload_n 2, 1) := by decide +kernel
theorem dX9_arc_31 : decode cX9_arc 31 = .ok (.aload_n 0, 1) := by decide +kernel
theorem dX9_arc_32 : decode cX9_arc 32 = .ok (.getfield 193, 3) := by decide +kernel
theorem dX9_arc_35 : decode cX9_arc 35 = .ok (.if_icmp .ge 12, 3) := by decide +kernel
theorem dX9_arc_38 : decode cX9_arc 38 = .ok (.aload_n 0, 1) := by decide +kernel
theorem dX9_arc_39 : decode cX9_arc 39 = .ok (.getfield 59, 3) := by decide +kernel
theorem dX9_arc_42 : decode cX9_arc 42 = .ok (.iload_n 2, 1) := by decide +kernel
theorem dX9_arc_43 : decode cX9_arc 43 = .ok (.iaload, 1) := by decide +kernel
theorem dX9_arc_44 : decode cX9_arc 44 = .ok (.goto 5, 3) := by decide +kernel
theorem dX9_arc_47 : decode cX9_arc 47 = .ok (.bipush (-9), 2) := by decide +kernel
theorem dX9_arc_49 : decode cX9_arc 49 = .ok (.ireturn, 1) := by decide +kernel
set_option maxRecDepth 20000 in
set_option maxHeartbeats 4000000 in
theorem s_X9_arc (l : Launch) (g : GG) {q0 : Nat} (hq0 : kd q0 = 8) {a1 : Int32} {a2 : Int32} {σ : SS} {r : Int32 × SS} (h : f_X9_arc q0 a1 a2 σ = some r) : CT l g 4 yX9_arc cX9_arc 3 (some .int) [.ref (g.1 q0), .int a1, .int a2] σ (some (.int r.1), r.2) := by
  refine CT.of (lv := [(0, .ref (g.1 q0)), (1, .int a1), (2, .int a2)]) RX9 (by decide +kernel) rfl (Nat.le_of_ble_eq_true rfl) rfl ?_
  unfold f_X9_arc at h
  refine vr_aload_n (pc := 0) 0 dX9_arc_0 rfl rfl ?_
  refine vr_iload_n (pc := 1) 1 dX9_arc_1 rfl rfl ?_
  refine vr_callV (pc := 2) (ρ1 := (some (.int (f_X9_isWheel q0 a1 σ)), σ)) [.int a1] dX9_arc_2 (s_X9_isWheel l g (hq0) rfl) cw_X9_isWheel ml_X9_176 hq0 rfl (by decide) (by decide) rfl rfl (Nat.le_of_ble_eq_true rfl) ?_
  refine vr_if_ne (pc := 5) 14 dX9_arc_5 (by decide) (fun c1 => ?_) (fun c1 => ?_)
  · rw [if_neg c1] at h
    refine vr_iload_n (pc := 14) 2 dX9_arc_14 rfl rfl ?_
    refine vr_if_ge (pc := 15) 25 dX9_arc_15 (by decide) (fun c2 => ?_) (fun c2 => ?_)
    · rw [if_pos c2] at h
      refine vr_aload_n (pc := 25) 0 dX9_arc_25 rfl rfl ?_
      refine vr_iload_n (pc := 26) 1 dX9_arc_26 rfl rfl ?_
      obtain ⟨z3, hz4, h⟩ := ob_some h
      refine vr_callV (pc := 27) (ρ1 := (none, z3)) [.int a1] dX9_arc_27 (s_X9_drawsBy l g (hq0) hz4) cw_X9_drawsBy ml_X9_219 hq0 rfl (by decide) (by decide) rfl rfl (Nat.le_of_ble_eq_true rfl) ?_
      refine vr_iload_n (pc := 30) 2 dX9_arc_30 rfl rfl ?_
      refine vr_aload_n (pc := 31) 0 dX9_arc_31 rfl rfl ?_
      refine vr_getI (pc := 32) 23 dX9_arc_32 fi_X9_193 hq0 (sh_8_23 hq0) ?_
      refine vr_icmp_ge (pc := 35) 47 dX9_arc_35 (by decide) (fun c5 => ?_) (fun c5 => ?_)
      · rw [if_pos c5] at h
        refine vr_bipush (pc := 47) (-9) dX9_arc_47 cb_m9 ?_
        have h := Option.some.inj h; subst h
        exact vr_iret (pc := 49) .int dX9_arc_49 rfl rfl rfl
      · rw [if_neg c5] at h
        refine vr_aload_n (pc := 38) 0 dX9_arc_38 rfl rfl ?_
        refine vr_getR (pc := 39) 20 dX9_arc_39 fi_X9_59 hq0 (sh_8_20 hq0).1 ?_
        refine vr_iload_n (pc := 42) 2 dX9_arc_42 rfl rfl ?_
        obtain ⟨hc6, h⟩ := ck_some h
        refine vr_iald (pc := 43) dX9_arc_43 (sh_8_20 hq0).2 hc6 ?_
        refine vr_goto (pc := 44) 49 dX9_arc_44 (by decide) ?_
        have h := Option.some.inj h; subst h
        exact vr_iret (pc := 49) .int dX9_arc_49 rfl rfl rfl
    · rw [if_neg c2] at h
      refine vr_aload_n (pc := 18) 0 dX9_arc_18 rfl rfl ?_
      refine vr_bipush (pc := 19) (-4) dX9_arc_19 cb_m4 ?_
      obtain ⟨z7, hz8, h⟩ := ob_some h
      refine vr_callV (pc := 21) (ρ1 := (some (.int z7.1), z7.2)) [.int (-4)] dX9_arc_21 (s_X9_no l g (hq0) hz8) cw_X9_no ml_X9_104 hq0 rfl (by decide) (by decide) rfl rfl (Nat.le_of_ble_eq_true rfl) ?_
      have h := Option.some.inj h; subst h
      exact vr_iret (pc := 24) .int dX9_arc_24 rfl rfl rfl
  · rw [if_pos c1] at h
    refine vr_aload_n (pc := 8) 0 dX9_arc_8 rfl rfl ?_
    refine vr_iconst (pc := 9) (-1) dX9_arc_9 ci_m1 ?_
    obtain ⟨z9, hz10, h⟩ := ob_some h
    refine vr_callV (pc := 10) (ρ1 := (some (.int z9.1), z9.2)) [.int (-1)] dX9_arc_10 (s_X9_no l g (hq0) hz10) cw_X9_no ml_X9_104 hq0 rfl (by decide) (by decide) rfl rfl (Nat.le_of_ble_eq_true rfl) ?_
    have h := Option.some.inj h; subst h
    exact vr_iret (pc := 13) .int dX9_arc_13 rfl rfl rfl
theorem dX9_crosses_0 : decode cX9_crosses 0 = .ok (.aload_n 0, 1) := by decide +kernel
theorem dX9_crosses_1 : decode cX9_crosses 1 = .ok (.iload_n 1, 1) := by decide +kernel
theorem dX9_crosses_2 : decode cX9_crosses 2 = .ok (.invokevirtual 176, 3) := by decide +kernel
theorem dX9_crosses_5 : decode cX9_crosses 5 = .ok (.ifCond .ne 9, 3) := by decide +kernel
theorem dX9_crosses_8 : decode cX9_crosses 8 = .ok (.aload_n 0, 1) := by decide +kernel
theorem dX9_crosses_9 : decode cX9_crosses 9 = .ok (.iconst (-1), 1) := by decide +kernel
theorem dX9_crosses_10 : decode cX9_crosses 10 = .ok (.invokevirtual 104, 3) := by decide +kernel
theorem dX9_crosses_13 : decode cX9_crosses 13 = .ok (.ireturn, 1) := by decide +kernel
theorem dX9_crosses_14 : decode cX9_crosses 14 = .ok (.iload_n 2, 1) := by decide +kernel
theorem dX9_crosses_15 : decode cX9_crosses 15 = .ok (.ifCond .ge 10, 3) := by decide +kernel
theorem dX9_crosses_18 : decode cX9_crosses 18 = .ok (.aload_n 0, 1) := by decide +kernel
theorem dX9_crosses_19 : decode cX9_crosses 19 = .ok (.bipush (-4), 2) := by decide +kernel
theorem dX9_crosses_21 : decode cX9_crosses 21 = .ok (.invokevirtual 104, 3) := by decide +kernel
theorem dX9_crosses_24 : decode cX9_crosses 24 = .ok (.ireturn, 1) := by decide +kernel
theorem dX9_crosses_25 : decode cX9_crosses 25 = .ok (.aload_n 0, 1) := by decide +kernel
theorem dX9_crosses_26 : decode cX9_crosses 26 = .ok (.iload_n 1, 1) := by decide +kernel
theorem dX9_crosses_27 : decode cX9_crosses 27 = .ok (.invokevirtual 219, 3) := by decide +kernel
theorem dX9_crosses_30 : decode cX9_crosses 30 = .ok (.iload_n 2, 1) := by decide +kernel
theorem dX9_crosses_31 : decode cX9_crosses 31 = .ok (.aload_n 0, 1) := by decide +kernel
theorem dX9_crosses_32 : decode cX9_crosses 32 = .ok (.getfield 193, 3) := by decide +kernel
theorem dX9_crosses_35 : decode cX9_crosses 35 = .ok (.if_icmp .ge 11, 3) := by decide +kernel
theorem dX9_crosses_38 : decode cX9_crosses 38 = .ok (.aload_n 0, 1) := by decide +kernel
theorem dX9_crosses_39 : decode cX9_crosses 39 = .ok (.iload_n 2, 1) := by decide +kernel
theorem dX9_crosses_40 : decode cX9_crosses 40 = .ok (.invokevirtual 213, 3) := by decide +kernel
theorem dX9_crosses_43 : decode cX9_crosses 43 = .ok (.goto 5, 3) := by decide +kernel
theorem dX9_crosses_46 : decode cX9_crosses 46 = .ok (.bipush (-9), 2) := by decide +kernel
theorem dX9_crosses_48 : decode cX9_crosses 48 = .ok (.ireturn, 1) := by decide +kernel
set_option maxRecDepth 20000 in
set_option maxHeartbeats 4000000 in
theorem s_X9_crosses (l : Launch) (g : GG) {q0 : Nat} (hq0 : kd q0 = 8) {a1 : Int32} {a2 : Int32} {σ : SS} {r : Int32 × SS} (h : f_X9_crosses q0 a1 a2 σ = some r) : CT l g 4 yX9_crosses cX9_crosses 3 (some .int) [.ref (g.1 q0), .int a1, .int a2] σ (some (.int r.1), r.2) := by
  refine CT.of (lv := [(0, .ref (g.1 q0)), (1, .int a1), (2, .int a2)]) RX9 (by decide +kernel) rfl (Nat.le_of_ble_eq_true rfl) rfl ?_
  unfold f_X9_crosses at h
  refine vr_aload_n (pc := 0) 0 dX9_crosses_0 rfl rfl ?_
  refine vr_iload_n (pc := 1) 1 dX9_crosses_1 rfl rfl ?_
  refine vr_callV (pc := 2) (ρ1 := (some (.int (f_X9_isWheel q0 a1 σ)), σ)) [.int a1] dX9_crosses_2 (s_X9_isWheel l g (hq0) rfl) cw_X9_isWheel ml_X9_176 hq0 rfl (by decide) (by decide) rfl rfl (Nat.le_of_ble_eq_true rfl) ?_
  refine vr_if_ne (pc := 5) 14 dX9_crosses_5 (by decide) (fun c1 => ?_) (fun c1 => ?_)
  · rw [if_neg c1] at h
    refine vr_iload_n (pc := 14) 2 dX9_crosses_14 rfl rfl ?_
    refine vr_if_ge (pc := 15) 25 dX9_crosses_15 (by decide) (fun c2 => ?_) (fun c2 => ?_)
    · rw [if_pos c2] at h
      refine vr_aload_n (pc := 25) 0 dX9_crosses_25 rfl rfl ?_
      refine vr_iload_n (pc := 26) 1 dX9_crosses_26 rfl rfl ?_
      obtain ⟨z3, hz4, h⟩ := ob_some h
      refine vr_callV (pc := 27) (ρ1 := (none, z3)) [.int a1] dX9_crosses_27 (s_X9_drawsBy l g (hq0) hz4) cw_X9_drawsBy ml_X9_219 hq0 rfl (by decide) (by decide) rfl rfl (Nat.le_of_ble_eq_true rfl) ?_
      refine vr_iload_n (pc := 30) 2 dX9_crosses_30 rfl rfl ?_
      refine vr_aload_n (pc := 31) 0 dX9_crosses_31 rfl rfl ?_
      refine vr_getI (pc := 32) 23 dX9_crosses_32 fi_X9_193 hq0 (sh_8_23 hq0) ?_
      refine vr_icmp_ge (pc := 35) 46 dX9_crosses_35 (by decide) (fun c5 => ?_) (fun c5 => ?_)
      · rw [if_pos c5] at h
        refine vr_bipush (pc := 46) (-9) dX9_crosses_46 cb_m9 ?_
        have h := Option.some.inj h; subst h
        exact vr_iret (pc := 48) .int dX9_crosses_48 rfl rfl rfl
      · rw [if_neg c5] at h
        refine vr_aload_n (pc := 38) 0 dX9_crosses_38 rfl rfl ?_
        refine vr_iload_n (pc := 39) 2 dX9_crosses_39 rfl rfl ?_
        obtain ⟨z6, hz7, h⟩ := ob_some h
        refine vr_callV (pc := 40) (ρ1 := (some (.int z6), z3)) [.int a2] dX9_crosses_40 (s_X9_crossesOf l g (hq0) hz7) cw_X9_crossesOf ml_X9_213 hq0 rfl (by decide) (by decide) rfl rfl (Nat.le_of_ble_eq_true rfl) ?_
        refine vr_goto (pc := 43) 48 dX9_crosses_43 (by decide) ?_
        have h := Option.some.inj h; subst h
        exact vr_iret (pc := 48) .int dX9_crosses_48 rfl rfl rfl
    · rw [if_neg c2] at h
      refine vr_aload_n (pc := 18) 0 dX9_crosses_18 rfl rfl ?_
      refine vr_bipush (pc := 19) (-4) dX9_crosses_19 cb_m4 ?_
      obtain ⟨z8, hz9, h⟩ := ob_some h
      refine vr_callV (pc := 21) (ρ1 := (some (.int z8.1), z8.2)) [.int (-4)] dX9_crosses_21 (s_X9_no l g (hq0) hz9) cw_X9_no ml_X9_104 hq0 rfl (by decide) (by decide) rfl rfl (Nat.le_of_ble_eq_true rfl) ?_
      have h := Option.some.inj h; subst h
      exact vr_iret (pc := 24) .int dX9_crosses_24 rfl rfl rfl
  · rw [if_pos c1] at h
    refine vr_aload_n (pc := 8) 0 dX9_crosses_8 rfl rfl ?_
    refine vr_iconst (pc := 9) (-1) dX9_crosses_9 ci_m1 ?_
    obtain ⟨z10, hz11, h⟩ := ob_some h
    refine vr_callV (pc := 10) (ρ1 := (some (.int z10.1), z10.2)) [.int (-1)] dX9_crosses_10 (s_X9_no l g (hq0) hz11) cw_X9_no ml_X9_104 hq0 rfl (by decide) (by decide) rfl rfl (Nat.le_of_ble_eq_true rfl) ?_
    have h := Option.some.inj h; subst h
    exact vr_iret (pc := 13) .int dX9_crosses_13 rfl rfl rfl
theorem dX9_behind_0 : decode cX9_behind 0 = .ok (.aload_n 0, 1) := by decide +kernel
theorem dX9_behind_1 : decode cX9_behind 1 = .ok (.iload_n 1, 1) := by decide +kernel
theorem dX9_behind_2 : decode cX9_behind 2 = .ok (.invokevirtual 176, 3) := by decide +kernel
theorem dX9_behind_5 : decode cX9_behind 5 = .ok (.ifCond .eq 11, 3) := by decide +kernel
theorem dX9_behind_8 : decode cX9_behind 8 = .ok (.aload_n 0, 1) := by decide +kernel
theorem dX9_behind_9 : decode cX9_behind 9 = .ok (.iload_n 2, 1) := by decide +kernel
theorem dX9_behind_10 : decode cX9_behind 10 = .ok (.invokevirtual 169, 3) := by decide +kernel
theorem dX9_behind_13 : decode cX9_behind 13 = .ok (.ifCond .ne 9, 3) := by decide +kernel
theorem dX9_behind_16 : decode cX9_behind 16 = .ok (.aload_n 0, 1) := by decide +kernel
theorem dX9_behind_17 : decode cX9_behind 17 = .ok (.iconst (-1), 1) := by decide +kernel
theorem dX9_behind_18 : decode cX9_behind 18 = .ok (.invokevirtual 104, 3) := by decide +kernel
theorem dX9_behind_21 : decode cX9_behind 21 = .ok (.ireturn, 1) := by decide +kernel
theorem dX9_behind_22 : decode cX9_behind 22 = .ok (.aload_n 0, 1) := by decide +kernel
theorem dX9_behind_23 : decode cX9_behind 23 = .ok (.iload_n 1, 1) := by decide +kernel
theorem dX9_behind_24 : decode cX9_behind 24 = .ok (.invokevirtual 219, 3) := by decide +kernel
theorem dX9_behind_27 : decode cX9_behind 27 = .ok (.iload_n 2, 1) := by decide +kernel
theorem dX9_behind_28 : decode cX9_behind 28 = .ok (.istore_n 3, 1) := by decide +kernel
theorem dX9_behind_29 : decode cX9_behind 29 = .ok (.aload_n 0, 1) := by decide +kernel
theorem dX9_behind_30 : decode cX9_behind 30 = .ok (.getfield 65, 3) := by decide +kernel
theorem dX9_behind_33 : decode cX9_behind 33 = .ok (.iload_n 3, 1) := by decide +kernel
theorem dX9_behind_34 : decode cX9_behind 34 = .ok (.iaload, 1) := by decide +kernel
theorem dX9_behind_35 : decode cX9_behind 35 = .ok (.ifCond .ge 15, 3) := by decide +kernel
theorem dX9_behind_38 : decode cX9_behind 38 = .ok (.iload_n 3, 1) := by decide +kernel
theorem dX9_behind_39 : decode cX9_behind 39 = .ok (.iconst 1, 1) := by decide +kernel
theorem dX9_behind_40 : decode cX9_behind 40 = .ok (.iadd, 1) := by decide +kernel
theorem dX9_behind_41 : decode cX9_behind 41 = .ok (.aload_n 0, 1) := by decide +kernel
theorem dX9_behind_42 : decode cX9_behind 42 = .ok (.getfield 7, 3) := by decide +kernel
theorem dX9_behind_45 : decode cX9_behind 45 = .ok (.irem, 1) := by decide +kernel
theorem dX9_behind_46 : decode cX9_behind 46 = .ok (.istore_n 3, 1) := by decide +kernel
theorem dX9_behind_47 : decode cX9_behind 47 = .ok (.goto (-18), 3) := by decide +kernel
theorem dX9_behind_50 : decode cX9_behind 50 = .ok (.iload_n 3, 1) := by decide +kernel
theorem dX9_behind_51 : decode cX9_behind 51 = .ok (.ireturn, 1) := by decide +kernel
set_option maxRecDepth 20000 in
set_option maxHeartbeats 4000000 in
theorem v_X9_behind_L29 (l : Launch) (g : GG) {r : Int32 × SS} {κ : Int32 → SS → Option (Int32 × SS)} (hκ : ∀ (y3 : Int32) (τ : SS) , κ y3 τ = some r → VV l g 4 RX9 cX9_behind 4 (some .int) (some (.int r.1), r.2) 50 [(3, .int y3)] [] τ) : ∀ (fu : Nat) (q0 : Nat) (x3 : Int32) (hq0 : kd q0 = 8) (σ : SS), f_X9_behind_L29 κ fu q0 x3 σ = some r → VV l g 4 RX9 cX9_behind 4 (some .int) (some (.int r.1), r.2) 29 [(0, .ref (g.1 q0)), (3, .int x3)] [] σ := by
  intro fu
  induction fu with
  | zero => intro q0 x3 hq0 σ h; cases h
  | succ fu ih =>
    intro q0 x3 hq0 σ h
    simp only [f_X9_behind_L29] at h
    refine vr_aload_n (pc := 29) 0 dX9_behind_29 rfl rfl ?_
    refine vr_getR (pc := 30) 22 dX9_behind_30 fi_X9_65 hq0 (sh_8_22 hq0).1 ?_
    refine vr_iload_n (pc := 33) 1 dX9_behind_33 rfl rfl ?_
    obtain ⟨hc7, h⟩ := ck_some h
    refine vr_iald (pc := 34) dX9_behind_34 (sh_8_22 hq0).2 hc7 ?_
    refine vr_if_ge (pc := 35) 50 dX9_behind_35 (by decide) (fun c8 => ?_) (fun c8 => ?_)
    · rw [if_pos c8] at h
      refine vr_sub [1] [(3, .int x3)] rfl ?_
      exact hκ x3 σ h
    · rw [if_neg c8] at h
      refine vr_iload_n (pc := 38) 1 dX9_behind_38 rfl rfl ?_
      refine vr_iconst (pc := 39) 1 dX9_behind_39 ci_1 ?_
      refine vr_iadd (pc := 40) dX9_behind_40 ?_
      refine vr_aload_n (pc := 41) 0 dX9_behind_41 rfl rfl ?_
      refine vr_getI (pc := 42) 0 dX9_behind_42 fi_X9_7 hq0 (sh_8_0 hq0) ?_
      obtain ⟨hc9, h⟩ := ck_some h
      refine vr_irem (pc := 45) dX9_behind_45 hc9 ?_
      refine vr_istore_n (pc := 46) [(3, .int ((x3 + 1) - (x3 + 1) / (σ.1 q0 0) * (σ.1 q0 0))), (0, .ref (g.1 q0))] dX9_behind_46 rfl (by decide) rfl ?_
      refine vr_goto (pc := 47) 29 dX9_behind_47 (by decide) ?_
      refine vr_sub [1, 0] [(0, .ref (g.1 q0)), (3, .int ((x3 + 1) - (x3 + 1) / (σ.1 q0 0) * (σ.1 q0 0)))] rfl ?_
      exact ih q0 ((x3 + 1) - (x3 + 1) / (σ.1 q0 0) * (σ.1 q0 0)) (hq0) σ h
set_option maxRecDepth 20000 in
set_option maxHeartbeats 4000000 in
theorem s_X9_behind (l : Launch) (g : GG) {q0 : Nat} (hq0 : kd q0 = 8) {a1 : Int32} {a2 : Int32} {σ : SS} {r : Int32 × SS} (h : f_X9_behind q0 a1 a2 σ = some r) : CT l g 4 yX9_behind cX9_behind 4 (some .int) [.ref (g.1 q0), .int a1, .int a2] σ (some (.int r.1), r.2) := by
  refine CT.of (lv := [(0, .ref (g.1 q0)), (1, .int a1), (2, .int a2)]) RX9 (by decide +kernel) rfl (Nat.le_of_ble_eq_true rfl) rfl ?_
  unfold f_X9_behind at h
  refine vr_aload_n (pc := 0) 0 dX9_behind_0 rfl rfl ?_
  refine vr_iload_n (pc := 1) 1 dX9_behind_1 rfl rfl ?_
  refine vr_callV (pc := 2) (ρ1 := (some (.int (f_X9_isWheel q0 a1 σ)), σ)) [.int a1] dX9_behind_2 (s_X9_isWheel l g (hq0) rfl) cw_X9_isWheel ml_X9_176 hq0 rfl (by decide) (by decide) rfl rfl (Nat.le_of_ble_eq_true rfl) ?_
  refine vr_if_eq (pc := 5) 16 dX9_behind_5 (by decide) (fun c1 => ?_) (fun c1 => ?_)
  · rw [if_pos c1] at h
    refine vr_aload_n (pc := 16) 0 dX9_behind_16 rfl rfl ?_
    refine vr_iconst (pc := 17) (-1) dX9_behind_17 ci_m1 ?_
    obtain ⟨z2, hz3, h⟩ := ob_some h
    refine vr_callV (pc := 18) (ρ1 := (some (.int z2.1), z2.2)) [.int (-1)] dX9_behind_18 (s_X9_no l g (hq0) hz3) cw_X9_no ml_X9_104 hq0 rfl (by decide) (by decide) rfl rfl (Nat.le_of_ble_eq_true rfl) ?_
    have h := Option.some.inj h; subst h
    exact vr_iret (pc := 21) .int dX9_behind_21 rfl rfl rfl
  · rw [if_neg c1] at h
    refine vr_aload_n (pc := 8) 0 dX9_behind_8 rfl rfl ?_
    refine vr_iload_n (pc := 9) 2 dX9_behind_9 rfl rfl ?_
    refine vr_callV (pc := 10) (ρ1 := (some (.int (f_X9_isTooth q0 a2 σ)), σ)) [.int a2] dX9_behind_10 (s_X9_isTooth l g (hq0) rfl) cw_X9_isTooth ml_X9_169 hq0 rfl (by decide) (by decide) rfl rfl (Nat.le_of_ble_eq_true rfl) ?_
    refine vr_if_ne (pc := 13) 22 dX9_behind_13 (by decide) (fun c4 => ?_) (fun c4 => ?_)
    · rw [if_neg c4] at h
      refine vr_aload_n (pc := 22) 0 dX9_behind_22 rfl rfl ?_
      refine vr_iload_n (pc := 23) 1 dX9_behind_23 rfl rfl ?_
      obtain ⟨z5, hz6, h⟩ := ob_some h
      refine vr_callV (pc := 24) (ρ1 := (none, z5)) [.int a1] dX9_behind_24 (s_X9_drawsBy l g (hq0) hz6) cw_X9_drawsBy ml_X9_219 hq0 rfl (by decide) (by decide) rfl rfl (Nat.le_of_ble_eq_true rfl) ?_
      refine vr_iload_n (pc := 27) 2 dX9_behind_27 rfl rfl ?_
      refine vr_istore_n (pc := 28) [(3, .int a2), (0, .ref (g.1 q0)), (1, .int a1), (2, .int a2)] dX9_behind_28 rfl (by decide) rfl ?_
      refine vr_sub [1, 0] [(0, .ref (g.1 q0)), (3, .int a2)] rfl ?_
      refine v_X9_behind_L29 l g (fun y3 τ h => ?_) FU q0 a2 (hq0) z5 h
      refine vr_iload_n (pc := 50) 0 dX9_behind_50 rfl rfl ?_
      have h := Option.some.inj h; subst h
      exact vr_iret (pc := 51) .int dX9_behind_51 rfl rfl rfl
    · rw [if_pos c4] at h
      refine vr_aload_n (pc := 16) 0 dX9_behind_16 rfl rfl ?_
      refine vr_iconst (pc := 17) (-1) dX9_behind_17 ci_m1 ?_
      obtain ⟨z10, hz11, h⟩ := ob_some h
      refine vr_callV (pc := 18) (ρ1 := (some (.int z10.1), z10.2)) [.int (-1)] dX9_behind_18 (s_X9_no l g (hq0) hz11) cw_X9_no ml_X9_104 hq0 rfl (by decide) (by decide) rfl rfl (Nat.le_of_ble_eq_true rfl) ?_
      have h := Option.some.inj h; subst h
      exact vr_iret (pc := 21) .int dX9_behind_21 rfl rfl rfl
theorem dX9_lays_0 : decode cX9_lays 0 = .ok (.iconst 0, 1) := by decide +kernel
theorem dX9_lays_1 : decode cX9_lays 1 = .ok (.istore_n 1, 1) := by decide +kernel
theorem dX9_lays_2 : decode cX9_lays 2 = .ok (.iload_n 1, 1) := by decide +kernel
theorem dX9_lays_3 : decode cX9_lays 3 = .ok (.aload_n 0, 1) := by decide +kernel
theorem dX9_lays_4 : decode cX9_lays 4 = .ok (.getfield 193, 3) := by decide +kernel
theorem dX9_lays_7 : decode cX9_lays 7 = .ok (.if_icmp .ge 33, 3) := by decide +kernel
theorem dX9_lays_10 : decode cX9_lays 10 = .ok (.aload_n 0, 1) := by decide +kernel
theorem dX9_lays_11 : decode cX9_lays 11 = .ok (.getfield 68, 3) := by decide +kernel
theorem dX9_lays_14 : decode cX9_lays 14 = .ok (.iload_n 1, 1) := by decide +kernel
theorem dX9_lays_15 : decode cX9_lays 15 = .ok (.aload_n 0, 1) := by decide +kernel
theorem dX9_lays_16 : decode cX9_lays 16 = .ok (.getfield 59, 3) := by decide +kernel
theorem dX9_lays_19 : decode cX9_lays 19 = .ok (.iload_n 1, 1) := by decide +kernel
theorem dX9_lays_20 : decode cX9_lays 20 = .ok (.iaload, 1) := by decide +kernel
theorem dX9_lays_21 : decode cX9_lays 21 = .ok (.iastore, 1) := by decide +kernel
theorem dX9_lays_22 : decode cX9_lays 22 = .ok (.aload_n 0, 1) := by decide +kernel
theorem dX9_lays_23 : decode cX9_lays 23 = .ok (.getfield 71, 3) := by decide +kernel
theorem dX9_lays_26 : decode cX9_lays 26 = .ok (.iload_n 1, 1) := by decide +kernel
theorem dX9_lays_27 : decode cX9_lays 27 = .ok (.aload_n 0, 1) := by decide +kernel
theorem dX9_lays_28 : decode cX9_lays 28 = .ok (.getfield 62, 3) := by decide +kernel
theorem dX9_lays_31 : decode cX9_lays 31 = .ok (.iload_n 1, 1) := by decide +kernel
theorem dX9_lays_32 : decode cX9_lays 32 = .ok (.iaload, 1) := by decide +kernel
theorem dX9_lays_33 : decode cX9_lays 33 = .ok (.iastore, 1) := by decide +kernel
theorem dX9_lays_34 : decode cX9_lays 34 = .ok (.iinc 1 1, 3) := by decide +kernel
theorem dX9_lays_37 : decode cX9_lays 37 = .ok (.goto (-35), 3) := by decide +kernel
theorem dX9_lays_40 : decode cX9_lays 40 = .ok (.aload_n 0, 1) := by decide +kernel
theorem dX9_lays_41 : decode cX9_lays 41 = .ok (.aload_n 0, 1) := by decide +kernel
theorem dX9_lays_42 : decode cX9_lays 42 = .ok (.getfield 193, 3) := by decide +kernel
theorem dX9_lays_45 : decode cX9_lays 45 = .ok (.putfield 234, 3) := by decide +kernel
theorem dX9_lays_48 : decode cX9_lays 48 = .ok (.return_, 1) := by decide +kernel
set_option maxRecDepth 20000 in
set_option maxHeartbeats 4000000 in
theorem v_X9_lays_L2 (l : Launch) (g : GG) {r : SS} {κ : Nat → SS → Option SS} (hκ : ∀ (p0 : Nat) (τ : SS) (hp0 : kd p0 = 8), κ p0 τ = some r → VV l g 0 RX9 cX9_lays 2 none (none, r) 40 [(0, .ref (g.1 p0))] [] τ) : ∀ (fu : Nat) (q0 : Nat) (x1 : Int32) (hq0 : kd q0 = 8) (σ : SS), f_X9_lays_L2 κ fu q0 x1 σ = some r → VV l g 0 RX9 cX9_lays 2 none (none, r) 2 [(0, .ref (g.1 q0)), (1, .int x1)] [] σ := by
  intro fu
  induction fu with
  | zero => intro q0 x1 hq0 σ h; cases h
  | succ fu ih =>
    intro q0 x1 hq0 σ h
    simp only [f_X9_lays_L2] at h
    refine vr_iload_n (pc := 2) 1 dX9_lays_2 rfl rfl ?_
    refine vr_aload_n (pc := 3) 0 dX9_lays_3 rfl rfl ?_
    refine vr_getI (pc := 4) 23 dX9_lays_4 fi_X9_193 hq0 (sh_8_23 hq0) ?_
    refine vr_icmp_ge (pc := 7) 40 dX9_lays_7 (by decide) (fun c1 => ?_) (fun c1 => ?_)
    · rw [if_pos c1] at h
      refine vr_sub [0] [(0, .ref (g.1 q0))] rfl ?_
      exact hκ q0 σ (hq0) h
    · rw [if_neg c1] at h
      refine vr_aload_n (pc := 10) 0 dX9_lays_10 rfl rfl ?_
      refine vr_getR (pc := 11) 25 dX9_lays_11 fi_X9_68 hq0 (sh_8_25 hq0).1 ?_
      refine vr_iload_n (pc := 14) 1 dX9_lays_14 rfl rfl ?_
      refine vr_aload_n (pc := 15) 0 dX9_lays_15 rfl rfl ?_
      refine vr_getR (pc := 16) 20 dX9_lays_16 fi_X9_59 hq0 (sh_8_20 hq0).1 ?_
      refine vr_iload_n (pc := 19) 1 dX9_lays_19 rfl rfl ?_
      obtain ⟨hc2, h⟩ := ck_some h
      refine vr_iald (pc := 20) dX9_lays_20 (sh_8_20 hq0).2 hc2 ?_
      obtain ⟨hc3, h⟩ := ck_some h
      refine vr_iast (pc := 21) dX9_lays_21 (sh_8_25 hq0).2 hc3 ?_
      refine vr_aload_n (pc := 22) 0 dX9_lays_22 rfl rfl ?_
      refine vr_getR (pc := 23) 26 dX9_lays_23 fi_X9_71 hq0 (sh_8_26 hq0).1 ?_
      refine vr_iload_n (pc := 26) 1 dX9_lays_26 rfl rfl ?_
      refine vr_aload_n (pc := 27) 0 dX9_lays_27 rfl rfl ?_
      refine vr_getR (pc := 28) 21 dX9_lays_28 fi_X9_62 hq0 (sh_8_21 hq0).1 ?_
      refine vr_iload_n (pc := 31) 1 dX9_lays_31 rfl rfl ?_
      obtain ⟨hc4, h⟩ := ck_some h
      refine vr_iald (pc := 32) dX9_lays_32 (sh_8_21 hq0).2 hc4 ?_
      obtain ⟨hc5, h⟩ := ck_some h
      refine vr_iast (pc := 33) dX9_lays_33 (sh_8_26 hq0).2 hc5 ?_
      refine vr_iinc (pc := 34) [(1, .int (x1 + 1)), (0, .ref (g.1 q0))] 1 dX9_lays_34 rfl (congrArg (fun z => x1 + z) ci_1) (by decide) rfl ?_
      refine vr_goto (pc := 37) 2 dX9_lays_37 (by decide) ?_
      refine vr_sub [1, 0] [(0, .ref (g.1 q0)), (1, .int (x1 + 1))] rfl ?_
      exact ih q0 (x1 + 1) (hq0) (sI (sI σ (rid q0 25) x1.toNatClampNeg (σ.1 (rid q0 20) x1.toNatClampNeg)) (rid q0 26) x1.toNatClampNeg ((sI σ (rid q0 25) x1.toNatClampNeg (σ.1 (rid q0 20) x1.toNatClampNeg)).1 (rid q0 21) x1.toNatClampNeg)) h
set_option maxRecDepth 20000 in
set_option maxHeartbeats 4000000 in
theorem s_X9_lays (l : Launch) (g : GG) {q0 : Nat} (hq0 : kd q0 = 8) {σ : SS} {r : SS} (h : f_X9_lays q0 σ = some r) : CT l g 0 yX9_lays cX9_lays 2 none [.ref (g.1 q0)] σ (none, r) := by
  refine CT.of (lv := [(0, .ref (g.1 q0))]) RX9 (by decide +kernel) rfl (Nat.le_of_ble_eq_true rfl) rfl ?_
  unfold f_X9_lays at h
  refine vr_iconst (pc := 0) 0 dX9_lays_0 ci_0 ?_
  refine vr_istore_n (pc := 1) [(1, .int 0), (0, .ref (g.1 q0))] dX9_lays_1 rfl (by decide) rfl ?_
  refine vr_sub [1, 0] [(0, .ref (g.1 q0)), (1, .int 0)] rfl ?_
  refine v_X9_lays_L2 l g (fun p0 τ hp0 h => ?_) FU q0 0 (hq0) σ h
  refine vr_aload_n (pc := 40) 0 dX9_lays_40 rfl rfl ?_
  refine vr_aload_n (pc := 41) 0 dX9_lays_41 rfl rfl ?_
  refine vr_getI (pc := 42) 23 dX9_lays_42 fi_X9_193 hp0 (sh_8_23 hp0) ?_
  refine vr_putI (pc := 45) 27 dX9_lays_45 fi_X9_234 (fw_8_27 _) hp0 (sh_8_27 hp0) ?_
  have h := Option.some.inj h; subst h
  exact vr_vret (pc := 48) dX9_lays_48 rfl rfl
theorem dX9_between_0 : decode cX9_between 0 = .ok (.aload_n 0, 1) := by decide +kernel
theorem dX9_between_1 : decode cX9_between 1 = .ok (.iload_n 1, 1) := by decide +kernel
theorem dX9_between_2 : decode cX9_between 2 = .ok (.invokevirtual 176, 3) := by decide +kernel
theorem dX9_between_5 : decode cX9_between 5 = .ok (.ifCond .eq 11, 3) := by decide +kernel
theorem dX9_between_8 : decode cX9_between 8 = .ok (.aload_n 0, 1) := by decide +kernel
theorem dX9_between_9 : decode cX9_between 9 = .ok (.iload_n 2, 1) := by decide +kernel
theorem dX9_between_10 : decode cX9_between 10 = .ok (.invokevirtual 176, 3) := by decide +kernel
theorem dX9_between_13 : decode cX9_between 13 = .ok (.ifCond .ne 9, 3) := by decide +kernel
theorem dX9_between_16 : decode cX9_between 16 = .ok (.aload_n 0, 1) := by decide +kernel
theorem dX9_between_17 : decode cX9_between 17 = .ok (.iconst (-1), 1) := by decide +kernel
theorem dX9_between_18 : decode cX9_between 18 = .ok (.invokevirtual 104, 3) := by decide +kernel
theorem dX9_between_21 : decode cX9_between 21 = .ok (.ireturn, 1) := by decide +kernel
theorem dX9_between_22 : decode cX9_between 22 = .ok (.aload_n 0, 1) := by decide +kernel
theorem dX9_between_23 : decode cX9_between 23 = .ok (.getfield 20, 3) := by decide +kernel
theorem dX9_between_26 : decode cX9_between 26 = .ok (.iload_n 1, 1) := by decide +kernel
theorem dX9_between_27 : decode cX9_between 27 = .ok (.iaload, 1) := by decide +kernel
theorem dX9_between_28 : decode cX9_between 28 = .ok (.invokestatic 179, 3) := by decide +kernel
theorem dX9_between_31 : decode cX9_between 31 = .ok (.aload_n 0, 1) := by decide +kernel
theorem dX9_between_32 : decode cX9_between 32 = .ok (.getfield 20, 3) := by decide +kernel
theorem dX9_between_35 : decode cX9_between 35 = .ok (.iload_n 2, 1) := by decide +kernel
theorem dX9_between_36 : decode cX9_between 36 = .ok (.iaload, 1) := by decide +kernel
theorem dX9_between_37 : decode cX9_between 37 = .ok (.invokestatic 179, 3) := by decide +kernel
theorem dX9_between_40 : decode cX9_between 40 = .ok (.if_icmp .eq 5, 3) := by decide +kernel
theorem dX9_between_43 : decode cX9_between 43 = .ok (.iconst 0, 1) := by decide +kernel
theorem dX9_between_44 : decode cX9_between 44 = .ok (.ireturn, 1) := by decide +kernel
theorem dX9_between_45 : decode cX9_between 45 = .ok (.aload_n 0, 1) := by decide +kernel
theorem dX9_between_46 : decode cX9_between 46 = .ok (.iload_n 2, 1) := by decide +kernel
theorem dX9_between_47 : decode cX9_between 47 = .ok (.invokevirtual 219, 3) := by decide +kernel
theorem dX9_between_50 : decode cX9_between 50 = .ok (.aload_n 0, 1) := by decide +kernel
theorem dX9_between_51 : decode cX9_between 51 = .ok (.invokevirtual 237, 3) := by decide +kernel
theorem dX9_between_54 : decode cX9_between 54 = .ok (.aload_n 0, 1) := by decide +kernel
theorem dX9_between_55 : decode cX9_between 55 = .ok (.iload_n 1, 1) := by decide +kernel
theorem dX9_between_56 : decode cX9_between 56 = .ok (.invokevirtual 219, 3) := by decide +kernel
theorem dX9_between_59 : decode cX9_between 59 = .ok (.iconst 0, 1) := by decide +kernel
theorem dX9_between_60 : decode cX9_between 60 = .ok (.istore_n 3, 1) := by decide +kernel
theorem dX9_between_61 : decode cX9_between 61 = .ok (.iconst 0, 1) := by decide +kernel
theorem dX9_between_62 : decode cX9_between 62 = .ok (.istore 4, 2) := by decide +kernel
theorem dX9_between_64 : decode cX9_between 64 = .ok (.iload 4, 2) := by decide +kernel
theorem dX9_between_66 : decode cX9_between 66 = .ok (.aload_n 0, 1) := by decide +kernel
theorem dX9_between_67 : decode cX9_between 67 = .ok (.getfield 193, 3) := by decide +kernel
theorem dX9_between_70 : decode cX9_between 70 = .ok (.if_icmp .ge 64, 3) := by decide +kernel
theorem dX9_between_73 : decode cX9_between 73 = .ok (.iconst 0, 1) := by decide +kernel
theorem dX9_between_74 : decode cX9_between 74 = .ok (.istore 5, 2) := by decide +kernel
theorem dX9_between_76 : decode cX9_between 76 = .ok (.iload 5, 2) := by decide +kernel
theorem dX9_between_78 : decode cX9_between 78 = .ok (.aload_n 0, 1) := by decide +kernel
theorem dX9_between_79 : decode cX9_between 79 = .ok (.getfield 234, 3) := by decide +kernel
theorem dX9_between_82 : decode cX9_between 82 = .ok (.if_icmp .ge 46, 3) := by decide +kernel
theorem dX9_between_85 : decode cX9_between 85 = .ok (.aload_n 0, 1) := by decide +kernel
theorem dX9_between_86 : decode cX9_between 86 = .ok (.getfield 59, 3) := by decide +kernel
theorem dX9_between_89 : decode cX9_between 89 = .ok (.iload 4, 2) := by decide +kernel
theorem dX9_between_91 : decode cX9_between 91 = .ok (.iaload, 1) := by decide +kernel
theorem dX9_between_92 : decode cX9_between 92 = .ok (.aload_n 0, 1) := by decide +kernel
theorem dX9_between_93 : decode cX9_between 93 = .ok (.getfield 62, 3) := by decide +kernel
theorem dX9_between_96 : decode cX9_between 96 = .ok (.iload 4, 2) := by decide +kernel
theorem dX9_between_98 : decode cX9_between 98 = .ok (.iaload, 1) := by decide +kernel
theorem dX9_between_99 : decode cX9_between 99 = .ok (.aload_n 0, 1) := by decide +kernel
theorem dX9_between_100 : decode cX9_between 100 = .ok (.getfield 68, 3) := by decide +kernel
theorem dX9_between_103 : decode cX9_between 103 = .ok (.iload 5, 2) := by decide +kernel
theorem dX9_between_105 : decode cX9_between 105 = .ok (.iaload, 1) := by decide +kernel
theorem dX9_between_106 : decode cX9_between 106 = .ok (.aload_n 0, 1) := by decide +kernel
theorem dX9_between_107 : decode cX9_between 107 = .ok (.getfield 71, 3) := by decide +kernel
theorem dX9_between_110 : decode cX9_between 110 = .ok (.iload 5, 2) := by decide +kernel
theorem dX9_between_112 : decode cX9_between 112 = .ok (.iaload, 1) := by decide +kernel
theorem dX9_between_113 : decode cX9_between 113 = .ok (.invokestatic 209, 3) := by decide +kernel
theorem dX9_between_116 : decode cX9_between 116 = .ok (.ifCond .eq 6, 3) := by decide +kernel
theorem dX9_between_119 : decode cX9_between 119 = .ok (.iinc 3 1, 3) := by decide +kernel
theorem dX9_between_122 : decode cX9_between 122 = .ok (.iinc 5 1, 3) := by decide +kernel
theorem dX9_between_125 : decode cX9_between 125 = .ok (.goto (-49), 3) := by decide +kernel
theorem dX9_between_128 : decode cX9_between 128 = .ok (.iinc 4 1, 3) := by decide +kernel
theorem dX9_between_131 : decode cX9_between 131 = .ok (.goto (-67), 3) := by decide +kernel
theorem dX9_between_134 : decode cX9_between 134 = .ok (.iload_n 3, 1) := by decide +kernel
theorem dX9_between_135 : decode cX9_between 135 = .ok (.ireturn, 1) := by decide +kernel
set_option maxRecDepth 20000 in
set_option maxHeartbeats 4000000 in
theorem v_X9_between_L76 (l : Launch) (g : GG) {r : Int32 × SS} {κ : Nat → Int32 → Int32 → SS → Option (Int32 × SS)} (hκ : ∀ (p0 : Nat) (y3 : Int32) (y4 : Int32) (τ : SS) (hp0 : kd p0 = 8), κ p0 y3 y4 τ = some r → VV l g 4 RX9 cX9_between 6 (some .int) (some (.int r.1), r.2) 128 [(0, .ref (g.1 p0)), (3, .int y3), (4, .int y4)] [] τ) : ∀ (fu : Nat) (q0 : Nat) (x3 : Int32) (x4 : Int32) (x5 : Int32) (hq0 : kd q0 = 8) (σ : SS), f_X9_between_L76 κ fu q0 x3 x4 x5 σ = some r → VV l g 4 RX9 cX9_between 6 (some .int) (some (.int r.1), r.2) 76 [(0, .ref (g.1 q0)), (3, .int x3), (4, .int x4), (5, .int x5)] [] σ := by
  intro fu
  induction fu with
  | zero => intro q0 x3 x4 x5 hq0 σ h; cases h
  | succ fu ih =>
    intro q0 x3 x4 x5 hq0 σ h
    simp only [f_X9_between_L76] at h
    refine vr_iload (pc := 76) 3 dX9_between_76 rfl ?_
    refine vr_aload_n (pc := 78) 0 dX9_between_78 rfl rfl ?_
    refine vr_getI (pc := 79) 27 dX9_between_79 fi_X9_234 hq0 (sh_8_27 hq0) ?_
    refine vr_icmp_ge (pc := 82) 128 dX9_between_82 (by decide) (fun c15 => ?_) (fun c15 => ?_)
    · rw [if_pos c15] at h
      refine vr_sub [0, 1, 2] [(0, .ref (g.1 q0)), (3, .int x3), (4, .int x4)] rfl ?_
      exact hκ q0 x3 x4 σ (hq0) h
    · rw [if_neg c15] at h
      refine vr_aload_n (pc := 85) 0 dX9_between_85 rfl rfl ?_
      refine vr_getR (pc := 86) 20 dX9_between_86 fi_X9_59 hq0 (sh_8_20 hq0).1 ?_
      refine vr_iload (pc := 89) 2 dX9_between_89 rfl ?_
      obtain ⟨hc16, h⟩ := ck_some h
      refine vr_iald (pc := 91) dX9_between_91 (sh_8_20 hq0).2 hc16 ?_
      refine vr_aload_n (pc := 92) 0 dX9_between_92 rfl rfl ?_
      refine vr_getR (pc := 93) 21 dX9_between_93 fi_X9_62 hq0 (sh_8_21 hq0).1 ?_
      refine vr_iload (pc := 96) 2 dX9_between_96 rfl ?_
      obtain ⟨hc17, h⟩ := ck_some h
      refine vr_iald (pc := 98) dX9_between_98 (sh_8_21 hq0).2 hc17 ?_
      refine vr_aload_n (pc := 99) 0 dX9_between_99 rfl rfl ?_
      refine vr_getR (pc := 100) 25 dX9_between_100 fi_X9_68 hq0 (sh_8_25 hq0).1 ?_
      refine vr_iload (pc := 103) 3 dX9_between_103 rfl ?_
      obtain ⟨hc18, h⟩ := ck_some h
      refine vr_iald (pc := 105) dX9_between_105 (sh_8_25 hq0).2 hc18 ?_
      refine vr_aload_n (pc := 106) 0 dX9_between_106 rfl rfl ?_
      refine vr_getR (pc := 107) 26 dX9_between_107 fi_X9_71 hq0 (sh_8_26 hq0).1 ?_
      refine vr_iload (pc := 110) 3 dX9_between_110 rfl ?_
      obtain ⟨hc19, h⟩ := ck_some h
      refine vr_iald (pc := 112) dX9_between_112 (sh_8_26 hq0).2 hc19 ?_
      refine vr_callS (pc := 113) (ρ1 := (some (.int (f_X9_cross (σ.1 (rid q0 20) x4.toNatClampNeg) (σ.1 (rid q0 21) x4.toNatClampNeg) (σ.1 (rid q0 25) x5.toNatClampNeg) (σ.1 (rid q0 26) x5.toNatClampNeg))), σ)) [.int (σ.1 (rid q0 20) x4.toNatClampNeg), .int (σ.1 (rid q0 21) x4.toNatClampNeg), .int (σ.1 (rid q0 25) x5.toNatClampNeg), .int (σ.1 (rid q0 26) x5.toNatClampNeg)] dX9_between_113 (s_X9_cross l g rfl) cw_X9_cross ml_X9_209 (by decide) rfl rfl (Nat.le_of_ble_eq_true rfl) ?_
      refine vr_if_eq (pc := 116) 122 dX9_between_116 (by decide) (fun c20 => ?_) (fun c20 => ?_)
      · rw [if_pos c20] at h
        refine vr_iinc (pc := 122) [(5, .int (x5 + 1)), (0, .ref (g.1 q0)), (3, .int x3), (4, .int x4)] 3 dX9_between_122 rfl (congrArg (fun z => x5 + z) ci_1) (by decide) rfl ?_
        refine vr_goto (pc := 125) 76 dX9_between_125 (by decide) ?_
        refine vr_sub [1, 2, 3, 0] [(0, .ref (g.1 q0)), (3, .int x3), (4, .int x4), (5, .int (x5 + 1))] rfl ?_
        exact ih q0 x3 x4 (x5 + 1) (hq0) σ h
      · rw [if_neg c20] at h
        refine vr_iinc (pc := 119) [(3, .int (x3 + 1)), (0, .ref (g.1 q0)), (4, .int x4), (5, .int x5)] 1 dX9_between_119 rfl (congrArg (fun z => x3 + z) ci_1) (by decide) rfl ?_
        refine vr_iinc (pc := 122) [(5, .int (x5 + 1)), (3, .int (x3 + 1)), (0, .ref (g.1 q0)), (4, .int x4)] 3 dX9_between_122 rfl (congrArg (fun z => x5 + z) ci_1) (by decide) rfl ?_
        refine vr_goto (pc := 125) 76 dX9_between_125 (by decide) ?_
        refine vr_sub [2, 1, 3, 0] [(0, .ref (g.1 q0)), (3, .int (x3 + 1)), (4, .int x4), (5, .int (x5 + 1))] rfl ?_
        exact ih q0 (x3 + 1) x4 (x5 + 1) (hq0) σ h
set_option maxRecDepth 20000 in
set_option maxHeartbeats 4000000 in
theorem v_X9_between_L64 (l : Launch) (g : GG) {r : Int32 × SS} {κ : Int32 → SS → Option (Int32 × SS)} (hκ : ∀ (y3 : Int32) (τ : SS) , κ y3 τ = some r → VV l g 4 RX9 cX9_between 6 (some .int) (some (.int r.1), r.2) 134 [(3, .int y3)] [] τ) : ∀ (fu : Nat) (q0 : Nat) (x3 : Int32) (x4 : Int32) (hq0 : kd q0 = 8) (σ : SS), f_X9_between_L64 κ fu q0 x3 x4 σ = some r → VV l g 4 RX9 cX9_between 6 (some .int) (some (.int r.1), r.2) 64 [(0, .ref (g.1 q0)), (3, .int x3), (4, .int x4)] [] σ := by
  intro fu
  induction fu with
  | zero => intro q0 x3 x4 hq0 σ h; cases h
  | succ fu ih =>
    intro q0 x3 x4 hq0 σ h
    simp only [f_X9_between_L64] at h
    refine vr_iload (pc := 64) 2 dX9_between_64 rfl ?_
    refine vr_aload_n (pc := 66) 0 dX9_between_66 rfl rfl ?_
    refine vr_getI (pc := 67) 23 dX9_between_67 fi_X9_193 hq0 (sh_8_23 hq0) ?_
    refine vr_icmp_ge (pc := 70) 134 dX9_between_70 (by decide) (fun c14 => ?_) (fun c14 => ?_)
    · rw [if_pos c14] at h
      refine vr_sub [1] [(3, .int x3)] rfl ?_
      exact hκ x3 σ h
    · rw [if_neg c14] at h
      refine vr_iconst (pc := 73) 0 dX9_between_73 ci_0 ?_
      refine vr_istore (pc := 74) [(5, .int 0), (0, .ref (g.1 q0)), (3, .int x3), (4, .int x4)] dX9_between_74 (by decide) rfl ?_
      refine vr_sub [1, 2, 3, 0] [(0, .ref (g.1 q0)), (3, .int x3), (4, .int x4), (5, .int 0)] rfl ?_
      refine v_X9_between_L76 l g (fun p0 y3 y4 τ hp0 h => ?_) FU q0 x3 x4 0 (hq0) σ h
      refine vr_iinc (pc := 128) [(4, .int (y4 + 1)), (0, .ref (g.1 p0)), (3, .int y3)] 2 dX9_between_128 rfl (congrArg (fun z => y4 + z) ci_1) (by decide) rfl ?_
      refine vr_goto (pc := 131) 64 dX9_between_131 (by decide) ?_
      refine vr_sub [1, 2, 0] [(0, .ref (g.1 p0)), (3, .int y3), (4, .int (y4 + 1))] rfl ?_
      exact ih p0 y3 (y4 + 1) (hp0) τ h
set_option maxRecDepth 20000 in
set_option maxHeartbeats 4000000 in
theorem s_X9_between (l : Launch) (g : GG) {q0 : Nat} (hq0 : kd q0 = 8) {a1 : Int32} {a2 : Int32} {σ : SS} {r : Int32 × SS} (h : f_X9_between q0 a1 a2 σ = some r) : CT l g 4 yX9_between cX9_between 6 (some .int) [.ref (g.1 q0), .int a1, .int a2] σ (some (.int r.1), r.2) := by
  refine CT.of (lv := [(0, .ref (g.1 q0)), (1, .int a1), (2, .int a2)]) RX9 (by decide +kernel) rfl (Nat.le_of_ble_eq_true rfl) rfl ?_
  unfold f_X9_between at h
  refine vr_aload_n (pc := 0) 0 dX9_between_0 rfl rfl ?_
  refine vr_iload_n (pc := 1) 1 dX9_between_1 rfl rfl ?_
  refine vr_callV (pc := 2) (ρ1 := (some (.int (f_X9_isWheel q0 a1 σ)), σ)) [.int a1] dX9_between_2 (s_X9_isWheel l g (hq0) rfl) cw_X9_isWheel ml_X9_176 hq0 rfl (by decide) (by decide) rfl rfl (Nat.le_of_ble_eq_true rfl) ?_
  refine vr_if_eq (pc := 5) 16 dX9_between_5 (by decide) (fun c1 => ?_) (fun c1 => ?_)
  · rw [if_pos c1] at h
    refine vr_aload_n (pc := 16) 0 dX9_between_16 rfl rfl ?_
    refine vr_iconst (pc := 17) (-1) dX9_between_17 ci_m1 ?_
    obtain ⟨z2, hz3, h⟩ := ob_some h
    refine vr_callV (pc := 18) (ρ1 := (some (.int z2.1), z2.2)) [.int (-1)] dX9_between_18 (s_X9_no l g (hq0) hz3) cw_X9_no ml_X9_104 hq0 rfl (by decide) (by decide) rfl rfl (Nat.le_of_ble_eq_true rfl) ?_
    have h := Option.some.inj h; subst h
    exact vr_iret (pc := 21) .int dX9_between_21 rfl rfl rfl
  · rw [if_neg c1] at h
    refine vr_aload_n (pc := 8) 0 dX9_between_8 rfl rfl ?_
    refine vr_iload_n (pc := 9) 2 dX9_between_9 rfl rfl ?_
    refine vr_callV (pc := 10) (ρ1 := (some (.int (f_X9_isWheel q0 a2 σ)), σ)) [.int a2] dX9_between_10 (s_X9_isWheel l g (hq0) rfl) cw_X9_isWheel ml_X9_176 hq0 rfl (by decide) (by decide) rfl rfl (Nat.le_of_ble_eq_true rfl) ?_
    refine vr_if_ne (pc := 13) 22 dX9_between_13 (by decide) (fun c4 => ?_) (fun c4 => ?_)
    · rw [if_neg c4] at h
      refine vr_aload_n (pc := 22) 0 dX9_between_22 rfl rfl ?_
      refine vr_getR (pc := 23) 4 dX9_between_23 fi_X9_20 hq0 (sh_8_4 hq0).1 ?_
      refine vr_iload_n (pc := 26) 1 dX9_between_26 rfl rfl ?_
      obtain ⟨hc5, h⟩ := ck_some h
      refine vr_iald (pc := 27) dX9_between_27 (sh_8_4 hq0).2 hc5 ?_
      refine vr_callS (pc := 28) (ρ1 := (some (.int (f_X9_sideOf (σ.1 (rid q0 4) a1.toNatClampNeg))), σ)) [.int (σ.1 (rid q0 4) a1.toNatClampNeg)] dX9_between_28 (s_X9_sideOf l g rfl) cw_X9_sideOf ml_X9_179 (by decide) rfl rfl (Nat.le_of_ble_eq_true rfl) ?_
      refine vr_aload_n (pc := 31) 0 dX9_between_31 rfl rfl ?_
      refine vr_getR (pc := 32) 4 dX9_between_32 fi_X9_20 hq0 (sh_8_4 hq0).1 ?_
      refine vr_iload_n (pc := 35) 2 dX9_between_35 rfl rfl ?_
      obtain ⟨hc6, h⟩ := ck_some h
      refine vr_iald (pc := 36) dX9_between_36 (sh_8_4 hq0).2 hc6 ?_
      refine vr_callS (pc := 37) (ρ1 := (some (.int (f_X9_sideOf (σ.1 (rid q0 4) a2.toNatClampNeg))), σ)) [.int (σ.1 (rid q0 4) a2.toNatClampNeg)] dX9_between_37 (s_X9_sideOf l g rfl) cw_X9_sideOf ml_X9_179 (by decide) rfl rfl (Nat.le_of_ble_eq_true rfl) ?_
      refine vr_icmp_eq (pc := 40) 45 dX9_between_40 (by decide) (fun c7 => ?_) (fun c7 => ?_)
      · rw [if_pos c7] at h
        refine vr_aload_n (pc := 45) 0 dX9_between_45 rfl rfl ?_
        refine vr_iload_n (pc := 46) 2 dX9_between_46 rfl rfl ?_
        obtain ⟨z8, hz9, h⟩ := ob_some h
        refine vr_callV (pc := 47) (ρ1 := (none, z8)) [.int a2] dX9_between_47 (s_X9_drawsBy l g (hq0) hz9) cw_X9_drawsBy ml_X9_219 hq0 rfl (by decide) (by decide) rfl rfl (Nat.le_of_ble_eq_true rfl) ?_
        refine vr_aload_n (pc := 50) 0 dX9_between_50 rfl rfl ?_
        obtain ⟨z10, hz11, h⟩ := ob_some h
        refine vr_callV (pc := 51) (ρ1 := (none, z10)) [] dX9_between_51 (s_X9_lays l g (hq0) hz11) cw_X9_lays ml_X9_237 hq0 rfl (by decide) (by decide) rfl rfl (Nat.le_of_ble_eq_true rfl) ?_
        refine vr_aload_n (pc := 54) 0 dX9_between_54 rfl rfl ?_
        refine vr_iload_n (pc := 55) 1 dX9_between_55 rfl rfl ?_
        obtain ⟨z12, hz13, h⟩ := ob_some h
        refine vr_callV (pc := 56) (ρ1 := (none, z12)) [.int a1] dX9_between_56 (s_X9_drawsBy l g (hq0) hz13) cw_X9_drawsBy ml_X9_219 hq0 rfl (by decide) (by decide) rfl rfl (Nat.le_of_ble_eq_true rfl) ?_
        refine vr_iconst (pc := 59) 0 dX9_between_59 ci_0 ?_
        refine vr_istore_n (pc := 60) [(3, .int 0), (0, .ref (g.1 q0)), (1, .int a1), (2, .int a2)] dX9_between_60 rfl (by decide) rfl ?_
        refine vr_iconst (pc := 61) 0 dX9_between_61 ci_0 ?_
        refine vr_istore (pc := 62) [(4, .int 0), (3, .int 0), (0, .ref (g.1 q0)), (1, .int a1), (2, .int a2)] dX9_between_62 (by decide) rfl ?_
        refine vr_sub [2, 1, 0] [(0, .ref (g.1 q0)), (3, .int 0), (4, .int 0)] rfl ?_
        refine v_X9_between_L64 l g (fun y3 τ h => ?_) FU q0 0 0 (hq0) z12 h
        refine vr_iload_n (pc := 134) 0 dX9_between_134 rfl rfl ?_
        have h := Option.some.inj h; subst h
        exact vr_iret (pc := 135) .int dX9_between_135 rfl rfl rfl
      · rw [if_neg c7] at h
        refine vr_iconst (pc := 43) 0 dX9_between_43 ci_0 ?_
        have h := Option.some.inj h; subst h
        exact vr_iret (pc := 44) .int dX9_between_44 rfl rfl rfl
    · rw [if_pos c4] at h
      refine vr_aload_n (pc := 16) 0 dX9_between_16 rfl rfl ?_
      refine vr_iconst (pc := 17) (-1) dX9_between_17 ci_m1 ?_
      obtain ⟨z21, hz22, h⟩ := ob_some h
      refine vr_callV (pc := 18) (ρ1 := (some (.int z21.1), z21.2)) [.int (-1)] dX9_between_18 (s_X9_no l g (hq0) hz22) cw_X9_no ml_X9_104 hq0 rfl (by decide) (by decide) rfl rfl (Nat.le_of_ble_eq_true rfl) ?_
      have h := Option.some.inj h; subst h
      exact vr_iret (pc := 21) .int dX9_between_21 rfl rfl rfl
theorem dX9_joined_0 : decode cX9_joined 0 = .ok (.iconst 0, 1) := by decide +kernel
theorem dX9_joined_1 : decode cX9_joined 1 = .ok (.istore_n 2, 1) := by decide +kernel
theorem dX9_joined_2 : decode cX9_joined 2 = .ok (.iload_n 2, 1) := by decide +kernel
theorem dX9_joined_3 : decode cX9_joined 3 = .ok (.aload_n 0, 1) := by decide +kernel
theorem dX9_joined_4 : decode cX9_joined 4 = .ok (.getfield 7, 3) := by decide +kernel
theorem dX9_joined_7 : decode cX9_joined 7 = .ok (.if_icmp .ge 13, 3) := by decide +kernel
theorem dX9_joined_10 : decode cX9_joined 10 = .ok (.aload_n 1, 1) := by decide +kernel
theorem dX9_joined_11 : decode cX9_joined 11 = .ok (.iload_n 2, 1) := by decide +kernel
theorem dX9_joined_12 : decode cX9_joined 12 = .ok (.lconst 0, 1) := by decide +kernel
theorem dX9_joined_13 : decode cX9_joined 13 = .ok (.lastore, 1) := by decide +kernel
theorem dX9_joined_14 : decode cX9_joined 14 = .ok (.iinc 2 1, 3) := by decide +kernel
theorem dX9_joined_17 : decode cX9_joined 17 = .ok (.goto (-15), 3) := by decide +kernel
theorem dX9_joined_20 : decode cX9_joined 20 = .ok (.iconst 0, 1) := by decide +kernel
theorem dX9_joined_21 : decode cX9_joined 21 = .ok (.istore_n 2, 1) := by decide +kernel
theorem dX9_joined_22 : decode cX9_joined 22 = .ok (.iload_n 2, 1) := by decide +kernel
theorem dX9_joined_23 : decode cX9_joined 23 = .ok (.aload_n 0, 1) := by decide +kernel
theorem dX9_joined_24 : decode cX9_joined 24 = .ok (.getfield 193, 3) := by decide +kernel
theorem dX9_joined_27 : decode cX9_joined 27 = .ok (.if_icmp .ge 47, 3) := by decide +kernel
theorem dX9_joined_30 : decode cX9_joined 30 = .ok (.aload_n 1, 1) := by decide +kernel
theorem dX9_joined_31 : decode cX9_joined 31 = .ok (.aload_n 0, 1) := by decide +kernel
theorem dX9_joined_32 : decode cX9_joined 32 = .ok (.getfield 59, 3) := by decide +kernel
theorem dX9_joined_35 : decode cX9_joined 35 = .ok (.iload_n 2, 1) := by decide +kernel
theorem dX9_joined_36 : decode cX9_joined 36 = .ok (.iaload, 1) := by decide +kernel
theorem dX9_joined_37 : decode cX9_joined 37 = .ok (.dup2, 1) := by decide +kernel
theorem dX9_joined_38 : decode cX9_joined 38 = .ok (.laload, 1) := by decide +kernel
theorem dX9_joined_39 : decode cX9_joined 39 = .ok (.lconst 1, 1) := by decide +kernel
theorem dX9_joined_40 : decode cX9_joined 40 = .ok (.aload_n 0, 1) := by decide +kernel
theorem dX9_joined_41 : decode cX9_joined 41 = .ok (.getfield 62, 3) := by decide +kernel
theorem dX9_joined_44 : decode cX9_joined 44 = .ok (.iload_n 2, 1) := by decide +kernel
theorem dX9_joined_45 : decode cX9_joined 45 = .ok (.iaload, 1) := by decide +kernel
theorem dX9_joined_46 : decode cX9_joined 46 = .ok (.lshl, 1) := by decide +kernel
theorem dX9_joined_47 : decode cX9_joined 47 = .ok (.lor, 1) := by decide +kernel
theorem dX9_joined_48 : decode cX9_joined 48 = .ok (.lastore, 1) := by decide +kernel
theorem dX9_joined_49 : decode cX9_joined 49 = .ok (.aload_n 1, 1) := by decide +kernel
theorem dX9_joined_50 : decode cX9_joined 50 = .ok (.aload_n 0, 1) := by decide +kernel
theorem dX9_joined_51 : decode cX9_joined 51 = .ok (.getfield 62, 3) := by decide +kernel
theorem dX9_joined_54 : decode cX9_joined 54 = .ok (.iload_n 2, 1) := by decide +kernel
theorem dX9_joined_55 : decode cX9_joined 55 = .ok (.iaload, 1) := by decide +kernel
theorem dX9_joined_56 : decode cX9_joined 56 = .ok (.dup2, 1) := by decide +kernel
theorem dX9_joined_57 : decode cX9_joined 57 = .ok (.laload, 1) := by decide +kernel
theorem dX9_joined_58 : decode cX9_joined 58 = .ok (.lconst 1, 1) := by decide +kernel
theorem dX9_joined_59 : decode cX9_joined 59 = .ok (.aload_n 0, 1) := by decide +kernel
theorem dX9_joined_60 : decode cX9_joined 60 = .ok (.getfield 59, 3) := by decide +kernel
theorem dX9_joined_63 : decode cX9_joined 63 = .ok (.iload_n 2, 1) := by decide +kernel
theorem dX9_joined_64 : decode cX9_joined 64 = .ok (.iaload, 1) := by decide +kernel
theorem dX9_joined_65 : decode cX9_joined 65 = .ok (.lshl, 1) := by decide +kernel
theorem dX9_joined_66 : decode cX9_joined 66 = .ok (.lor, 1) := by decide +kernel
theorem dX9_joined_67 : decode cX9_joined 67 = .ok (.lastore, 1) := by decide +kernel
theorem dX9_joined_68 : decode cX9_joined 68 = .ok (.iinc 2 1, 3) := by decide +kernel
theorem dX9_joined_71 : decode cX9_joined 71 = .ok (.goto (-49), 3) := by decide +kernel
theorem dX9_joined_74 : decode cX9_joined 74 = .ok (.return_, 1) := by decide +kernel
set_option maxRecDepth 20000 in
set_option maxHeartbeats 4000000 in
theorem v_X9_joined_L2 (l : Launch) (g : GG) {r : SS} {κ : Nat → Nat → SS → Option SS} (hκ : ∀ (p0 : Nat) (p1 : Nat) (τ : SS) (hp0 : kd p0 = 8) (hp1 : kd p1 = 11), κ p0 p1 τ = some r → VV l g 0 RX9 cX9_joined 3 none (none, r) 20 [(0, .ref (g.1 p0)), (1, .ref (g.1 p1))] [] τ) : ∀ (fu : Nat) (q0 : Nat) (q1 : Nat) (x2 : Int32) (hq0 : kd q0 = 8) (hq1 : kd q1 = 11) (σ : SS), f_X9_joined_L2 κ fu q0 q1 x2 σ = some r → VV l g 0 RX9 cX9_joined 3 none (none, r) 2 [(0, .ref (g.1 q0)), (1, .ref (g.1 q1)), (2, .int x2)] [] σ := by
  intro fu
  induction fu with
  | zero => intro q0 q1 x2 hq0 hq1 σ h; cases h
  | succ fu ih =>
    intro q0 q1 x2 hq0 hq1 σ h
    simp only [f_X9_joined_L2] at h
    refine vr_iload_n (pc := 2) 2 dX9_joined_2 rfl rfl ?_
    refine vr_aload_n (pc := 3) 0 dX9_joined_3 rfl rfl ?_
    refine vr_getI (pc := 4) 0 dX9_joined_4 fi_X9_7 hq0 (sh_8_0 hq0) ?_
    refine vr_icmp_ge (pc := 7) 20 dX9_joined_7 (by decide) (fun c1 => ?_) (fun c1 => ?_)
    · rw [if_pos c1] at h
      refine vr_sub [0, 1] [(0, .ref (g.1 q0)), (1, .ref (g.1 q1))] rfl ?_
      exact hκ q0 q1 σ (hq0) (hq1) h
    · rw [if_neg c1] at h
      refine vr_aload_n (pc := 10) 1 dX9_joined_10 rfl rfl ?_
      refine vr_iload_n (pc := 11) 2 dX9_joined_11 rfl rfl ?_
      refine vr_lconst (pc := 12) 0 dX9_joined_12 (by decide) ?_
      obtain ⟨hc2, h⟩ := ck_some h
      refine vr_last (pc := 13) dX9_joined_13 hq1 hc2 ?_
      refine vr_iinc (pc := 14) [(2, .int (x2 + 1)), (0, .ref (g.1 q0)), (1, .ref (g.1 q1))] 2 dX9_joined_14 rfl (congrArg (fun z => x2 + z) ci_1) (by decide) rfl ?_
      refine vr_goto (pc := 17) 2 dX9_joined_17 (by decide) ?_
      refine vr_sub [1, 2, 0] [(0, .ref (g.1 q0)), (1, .ref (g.1 q1)), (2, .int (x2 + 1))] rfl ?_
      exact ih q0 q1 (x2 + 1) (hq0) (hq1) (sL σ q1 x2.toNatClampNeg (0 : Int64)) h
set_option maxRecDepth 20000 in
set_option maxHeartbeats 4000000 in
theorem v_X9_joined_L22 (l : Launch) (g : GG) {r : SS} {κ : SS → Option SS} (hκ : ∀ (τ : SS) , κ  τ = some r → VV l g 0 RX9 cX9_joined 3 none (none, r) 74 [] [] τ) : ∀ (fu : Nat) (q0 : Nat) (q1 : Nat) (x2 : Int32) (hq0 : kd q0 = 8) (hq1 : kd q1 = 11) (σ : SS), f_X9_joined_L22 κ fu q0 q1 x2 σ = some r → VV l g 0 RX9 cX9_joined 3 none (none, r) 22 [(0, .ref (g.1 q0)), (1, .ref (g.1 q1)), (2, .int x2)] [] σ := by
  intro fu
  induction fu with
  | zero => intro q0 q1 x2 hq0 hq1 σ h; cases h
  | succ fu ih =>
    intro q0 q1 x2 hq0 hq1 σ h
    simp only [f_X9_joined_L22] at h
    refine vr_iload_n (pc := 22) 2 dX9_joined_22 rfl rfl ?_
    refine vr_aload_n (pc := 23) 0 dX9_joined_23 rfl rfl ?_
    refine vr_getI (pc := 24) 23 dX9_joined_24 fi_X9_193 hq0 (sh_8_23 hq0) ?_
    refine vr_icmp_ge (pc := 27) 74 dX9_joined_27 (by decide) (fun c3 => ?_) (fun c3 => ?_)
    · rw [if_pos c3] at h
      refine vr_sub [] [] rfl ?_
      exact hκ σ h
    · rw [if_neg c3] at h
      refine vr_aload_n (pc := 30) 1 dX9_joined_30 rfl rfl ?_
      refine vr_aload_n (pc := 31) 0 dX9_joined_31 rfl rfl ?_
      refine vr_getR (pc := 32) 20 dX9_joined_32 fi_X9_59 hq0 (sh_8_20 hq0).1 ?_
      refine vr_iload_n (pc := 35) 2 dX9_joined_35 rfl rfl ?_
      obtain ⟨hc4, h⟩ := ck_some h
      refine vr_iald (pc := 36) dX9_joined_36 (sh_8_20 hq0).2 hc4 ?_
      refine vr_dup2 (pc := 37) dX9_joined_37 rfl rfl ?_
      obtain ⟨hc5, h⟩ := ck_some h
      refine vr_lald (pc := 38) dX9_joined_38 hq1 hc5 ?_
      refine vr_lconst (pc := 39) 1 dX9_joined_39 (by decide) ?_
      refine vr_aload_n (pc := 40) 0 dX9_joined_40 rfl rfl ?_
      refine vr_getR (pc := 41) 21 dX9_joined_41 fi_X9_62 hq0 (sh_8_21 hq0).1 ?_
      refine vr_iload_n (pc := 44) 2 dX9_joined_44 rfl rfl ?_
      obtain ⟨hc6, h⟩ := ck_some h
      refine vr_iald (pc := 45) dX9_joined_45 (sh_8_21 hq0).2 hc6 ?_
      refine vr_lshl (pc := 46) dX9_joined_46 ?_
      refine vr_lor (pc := 47) dX9_joined_47 ?_
      obtain ⟨hc7, h⟩ := ck_some h
      refine vr_last (pc := 48) dX9_joined_48 hq1 hc7 ?_
      refine vr_aload_n (pc := 49) 1 dX9_joined_49 rfl rfl ?_
      refine vr_aload_n (pc := 50) 0 dX9_joined_50 rfl rfl ?_
      refine vr_getR (pc := 51) 21 dX9_joined_51 fi_X9_62 hq0 (sh_8_21 hq0).1 ?_
      refine vr_iload_n (pc := 54) 2 dX9_joined_54 rfl rfl ?_
      obtain ⟨hc8, h⟩ := ck_some h
      refine vr_iald (pc := 55) dX9_joined_55 (sh_8_21 hq0).2 hc8 ?_
      refine vr_dup2 (pc := 56) dX9_joined_56 rfl rfl ?_
      obtain ⟨hc9, h⟩ := ck_some h
      refine vr_lald (pc := 57) dX9_joined_57 hq1 hc9 ?_
      refine vr_lconst (pc := 58) 1 dX9_joined_58 (by decide) ?_
      refine vr_aload_n (pc := 59) 0 dX9_joined_59 rfl rfl ?_
      refine vr_getR (pc := 60) 20 dX9_joined_60 fi_X9_59 hq0 (sh_8_20 hq0).1 ?_
      refine vr_iload_n (pc := 63) 2 dX9_joined_63 rfl rfl ?_
      obtain ⟨hc10, h⟩ := ck_some h
      refine vr_iald (pc := 64) dX9_joined_64 (sh_8_20 hq0).2 hc10 ?_
      refine vr_lshl (pc := 65) dX9_joined_65 ?_
      refine vr_lor (pc := 66) dX9_joined_66 ?_
      obtain ⟨hc11, h⟩ := ck_some h
      refine vr_last (pc := 67) dX9_joined_67 hq1 hc11 ?_
      refine vr_iinc (pc := 68) [(2, .int (x2 + 1)), (0, .ref (g.1 q0)), (1, .ref (g.1 q1))] 2 dX9_joined_68 rfl (congrArg (fun z => x2 + z) ci_1) (by decide) rfl ?_
      refine vr_goto (pc := 71) 22 dX9_joined_71 (by decide) ?_
      refine vr_sub [1, 2, 0] [(0, .ref (g.1 q0)), (1, .ref (g.1 q1)), (2, .int (x2 + 1))] rfl ?_
      exact ih q0 q1 (x2 + 1) (hq0) (hq1) (sL (sL σ q1 (σ.1 (rid q0 20) x2.toNatClampNeg).toNatClampNeg ((σ.2 q1 (σ.1 (rid q0 20) x2.toNatClampNeg).toNatClampNeg) ||| ((1 : Int64) <<< ((σ.1 (rid q0 21) x2.toNatClampNeg).toInt64 &&& 63)))) q1 ((sL σ q1 (σ.1 (rid q0 20) x2.toNatClampNeg).toNatClampNeg ((σ.2 q1 (σ.1 (rid q0 20) x2.toNatClampNeg).toNatClampNeg) ||| ((1 : Int64) <<< ((σ.1 (rid q0 21) x2.toNatClampNeg).toInt64 &&& 63)))).1 (rid q0 21) x2.toNatClampNeg).toNatClampNeg (((sL σ q1 (σ.1 (rid q0 20) x2.toNatClampNeg).toNatClampNeg ((σ.2 q1 (σ.1 (rid q0 20) x2.toNatClampNeg).toNatClampNeg) ||| ((1 : Int64) <<< ((σ.1 (rid q0 21) x2.toNatClampNeg).toInt64 &&& 63)))).2 q1 ((sL σ q1 (σ.1 (rid q0 20) x2.toNatClampNeg).toNatClampNeg ((σ.2 q1 (σ.1 (rid q0 20) x2.toNatClampNeg).toNatClampNeg) ||| ((1 : Int64) <<< ((σ.1 (rid q0 21) x2.toNatClampNeg).toInt64 &&& 63)))).1 (rid q0 21) x2.toNatClampNeg).toNatClampNeg) ||| ((1 : Int64) <<< (((sL σ q1 (σ.1 (rid q0 20) x2.toNatClampNeg).toNatClampNeg ((σ.2 q1 (σ.1 (rid q0 20) x2.toNatClampNeg).toNatClampNeg) ||| ((1 : Int64) <<< ((σ.1 (rid q0 21) x2.toNatClampNeg).toInt64 &&& 63)))).1 (rid q0 20) x2.toNatClampNeg).toInt64 &&& 63)))) h
set_option maxRecDepth 20000 in
set_option maxHeartbeats 4000000 in
theorem s_X9_joined (l : Launch) (g : GG) {q0 : Nat} (hq0 : kd q0 = 8) {q1 : Nat} (hq1 : kd q1 = 11) {σ : SS} {r : SS} (h : f_X9_joined q0 q1 σ = some r) : CT l g 0 yX9_joined cX9_joined 3 none [.ref (g.1 q0), .ref (g.1 q1)] σ (none, r) := by
  refine CT.of (lv := [(0, .ref (g.1 q0)), (1, .ref (g.1 q1))]) RX9 (by decide +kernel) rfl (Nat.le_of_ble_eq_true rfl) rfl ?_
  unfold f_X9_joined at h
  refine vr_iconst (pc := 0) 0 dX9_joined_0 ci_0 ?_
  refine vr_istore_n (pc := 1) [(2, .int 0), (0, .ref (g.1 q0)), (1, .ref (g.1 q1))] dX9_joined_1 rfl (by decide) rfl ?_
  refine vr_sub [1, 2, 0] [(0, .ref (g.1 q0)), (1, .ref (g.1 q1)), (2, .int 0)] rfl ?_
  refine v_X9_joined_L2 l g (fun p0 p1 τ hp0 hp1 h => ?_) FU q0 q1 0 (hq0) (hq1) σ h
  refine vr_iconst (pc := 20) 0 dX9_joined_20 ci_0 ?_
  refine vr_istore_n (pc := 21) [(2, .int 0), (0, .ref (g.1 p0)), (1, .ref (g.1 p1))] dX9_joined_21 rfl (by decide) rfl ?_
  refine vr_sub [1, 2, 0] [(0, .ref (g.1 p0)), (1, .ref (g.1 p1)), (2, .int 0)] rfl ?_
  refine v_X9_joined_L22 l g (fun τ h => ?_) FU p0 p1 0 (hp0) (hp1) τ h
  have h := Option.some.inj h; subst h
  exact vr_vret (pc := 74) dX9_joined_74 rfl rfl
theorem dX9_taken_0 : decode cX9_taken 0 = .ok (.iload_n 3, 1) := by decide +kernel
theorem dX9_taken_1 : decode cX9_taken 1 = .ok (.ifCond .ne 19, 3) := by decide +kernel
theorem dX9_taken_4 : decode cX9_taken 4 = .ok (.iload_n 2, 1) := by decide +kernel
theorem dX9_taken_5 : decode cX9_taken 5 = .ok (.iload_n 1, 1) := by decide +kernel
theorem dX9_taken_6 : decode cX9_taken 6 = .ok (.isub, 1) := by decide +kernel
theorem dX9_taken_7 : decode cX9_taken 7 = .ok (.aload_n 0, 1) := by decide +kernel
theorem dX9_taken_8 : decode cX9_taken 8 = .ok (.getfield 7, 3) := by decide +kernel
theorem dX9_taken_11 : decode cX9_taken 11 = .ok (.iadd, 1) := by decide +kernel
theorem dX9_taken_12 : decode cX9_taken 12 = .ok (.aload_n 0, 1) := by decide +kernel
theorem dX9_taken_13 : decode cX9_taken 13 = .ok (.getfield 7, 3) := by decide +kernel
theorem dX9_taken_16 : decode cX9_taken 16 = .ok (.irem, 1) := by decide +kernel
theorem dX9_taken_17 : decode cX9_taken 17 = .ok (.goto 11, 3) := by decide +kernel
theorem dX9_taken_20 : decode cX9_taken 20 = .ok (.iload_n 1, 1) := by decide +kernel
theorem dX9_taken_21 : decode cX9_taken 21 = .ok (.iload_n 2, 1) := by decide +kernel
theorem dX9_taken_22 : decode cX9_taken 22 = .ok (.iadd, 1) := by decide +kernel
theorem dX9_taken_23 : decode cX9_taken 23 = .ok (.aload_n 0, 1) := by decide +kernel
theorem dX9_taken_24 : decode cX9_taken 24 = .ok (.getfield 7, 3) := by decide +kernel
theorem dX9_taken_27 : decode cX9_taken 27 = .ok (.irem, 1) := by decide +kernel
theorem dX9_taken_28 : decode cX9_taken 28 = .ok (.ireturn, 1) := by decide +kernel
set_option maxRecDepth 20000 in
set_option maxHeartbeats 4000000 in
theorem s_X9_taken (l : Launch) (g : GG) {q0 : Nat} (hq0 : kd q0 = 8) {a1 : Int32} {a2 : Int32} {a3 : Int32} {σ : SS} {r : Int32} (h : f_X9_taken q0 a1 a2 a3 σ = some r) : CT l g 0 yX9_taken cX9_taken 4 (some .int) [.ref (g.1 q0), .int a1, .int a2, .int a3] σ (some (.int r), σ) := by
  refine CT.of (lv := [(0, .ref (g.1 q0)), (1, .int a1), (2, .int a2), (3, .int a3)]) RX9 (by decide +kernel) rfl (Nat.le_of_ble_eq_true rfl) rfl ?_
  unfold f_X9_taken at h
  refine vr_iload_n (pc := 0) 3 dX9_taken_0 rfl rfl ?_
  refine vr_if_ne (pc := 1) 20 dX9_taken_1 (by decide) (fun c1 => ?_) (fun c1 => ?_)
  · rw [if_neg c1] at h
    refine vr_iload_n (pc := 20) 1 dX9_taken_20 rfl rfl ?_
    refine vr_iload_n (pc := 21) 2 dX9_taken_21 rfl rfl ?_
    refine vr_iadd (pc := 22) dX9_taken_22 ?_
    refine vr_aload_n (pc := 23) 0 dX9_taken_23 rfl rfl ?_
    refine vr_getI (pc := 24) 0 dX9_taken_24 fi_X9_7 hq0 (sh_8_0 hq0) ?_
    obtain ⟨hc2, h⟩ := ck_some h
    refine vr_irem (pc := 27) dX9_taken_27 hc2 ?_
    have h := Option.some.inj h; subst h
    exact vr_iret (pc := 28) .int dX9_taken_28 rfl rfl rfl
  · rw [if_pos c1] at h
    refine vr_iload_n (pc := 4) 2 dX9_taken_4 rfl rfl ?_
    refine vr_iload_n (pc := 5) 1 dX9_taken_5 rfl rfl ?_
    refine vr_isub (pc := 6) dX9_taken_6 ?_
    refine vr_aload_n (pc := 7) 0 dX9_taken_7 rfl rfl ?_
    refine vr_getI (pc := 8) 0 dX9_taken_8 fi_X9_7 hq0 (sh_8_0 hq0) ?_
    refine vr_iadd (pc := 11) dX9_taken_11 ?_
    refine vr_aload_n (pc := 12) 0 dX9_taken_12 rfl rfl ?_
    refine vr_getI (pc := 13) 0 dX9_taken_13 fi_X9_7 hq0 (sh_8_0 hq0) ?_
    obtain ⟨hc3, h⟩ := ck_some h
    refine vr_irem (pc := 16) dX9_taken_16 hc3 ?_
    refine vr_goto (pc := 17) 28 dX9_taken_17 (by decide) ?_
    have h := Option.some.inj h; subst h
    exact vr_iret (pc := 28) .int dX9_taken_28 rfl rfl rfl
theorem dX9_isSuch_0 : decode cX9_isSuch 0 = .ok (.iconst 0, 1) := by decide +kernel
theorem dX9_isSuch_1 : decode cX9_isSuch 1 = .ok (.istore_n 3, 1) := by decide +kernel
theorem dX9_isSuch_2 : decode cX9_isSuch 2 = .ok (.iload_n 3, 1) := by decide +kernel
theorem dX9_isSuch_3 : decode cX9_isSuch 3 = .ok (.aload_n 0, 1) := by decide +kernel
theorem dX9_isSuch_4 : decode cX9_isSuch 4 = .ok (.getfield 7, 3) := by decide +kernel
theorem dX9_isSuch_7 : decode cX9_isSuch 7 = .ok (.if_icmp .ge 75, 3) := by decide +kernel
theorem dX9_isSuch_10 : decode cX9_isSuch 10 = .ok (.lconst 0, 1) := by decide +kernel
theorem dX9_isSuch_11 : decode cX9_isSuch 11 = .ok (.lstore 4, 2) := by decide +kernel
theorem dX9_isSuch_13 : decode cX9_isSuch 13 = .ok (.iconst 0, 1) := by decide +kernel
theorem dX9_isSuch_14 : decode cX9_isSuch 14 = .ok (.istore 6, 2) := by decide +kernel
theorem dX9_isSuch_16 : decode cX9_isSuch 16 = .ok (.iload 6, 2) := by decide +kernel
theorem dX9_isSuch_18 : decode cX9_isSuch 18 = .ok (.aload_n 0, 1) := by decide +kernel
theorem dX9_isSuch_19 : decode cX9_isSuch 19 = .ok (.getfield 7, 3) := by decide +kernel
theorem dX9_isSuch_22 : decode cX9_isSuch 22 = .ok (.if_icmp .ge 40, 3) := by decide +kernel
theorem dX9_isSuch_25 : decode cX9_isSuch 25 = .ok (.aload_n 0, 1) := by decide +kernel
theorem dX9_isSuch_26 : decode cX9_isSuch 26 = .ok (.getfield 74, 3) := by decide +kernel
theorem dX9_isSuch_29 : decode cX9_isSuch 29 = .ok (.iload_n 3, 1) := by decide +kernel
theorem dX9_isSuch_30 : decode cX9_isSuch 30 = .ok (.laload, 1) := by decide +kernel
theorem dX9_isSuch_31 : decode cX9_isSuch 31 = .ok (.iload 6, 2) := by decide +kernel
theorem dX9_isSuch_33 : decode cX9_isSuch 33 = .ok (.lshr, 1) := by decide +kernel
theorem dX9_isSuch_34 : decode cX9_isSuch 34 = .ok (.lconst 1, 1) := by decide +kernel
theorem dX9_isSuch_35 : decode cX9_isSuch 35 = .ok (.land, 1) := by decide +kernel
theorem dX9_isSuch_36 : decode cX9_isSuch 36 = .ok (.lconst 1, 1) := by decide +kernel
theorem dX9_isSuch_37 : decode cX9_isSuch 37 = .ok (.lcmp, 1) := by decide +kernel
theorem dX9_isSuch_38 : decode cX9_isSuch 38 = .ok (.ifCond .ne 18, 3) := by decide +kernel
theorem dX9_isSuch_41 : decode cX9_isSuch 41 = .ok (.lload 4, 2) := by decide +kernel
theorem dX9_isSuch_43 : decode cX9_isSuch 43 = .ok (.lconst 1, 1) := by decide +kernel
theorem dX9_isSuch_44 : decode cX9_isSuch 44 = .ok (.aload_n 0, 1) := by decide +kernel
theorem dX9_isSuch_45 : decode cX9_isSuch 45 = .ok (.iload 6, 2) := by decide +kernel
theorem dX9_isSuch_47 : decode cX9_isSuch 47 = .ok (.iload_n 1, 1) := by decide +kernel
theorem dX9_isSuch_48 : decode cX9_isSuch 48 = .ok (.iload_n 2, 1) := by decide +kernel
theorem dX9_isSuch_49 : decode cX9_isSuch 49 = .ok (.invokevirtual 240, 3) := by decide +kernel
theorem dX9_isSuch_52 : decode cX9_isSuch 52 = .ok (.lshl, 1) := by decide +kernel
theorem dX9_isSuch_53 : decode cX9_isSuch 53 = .ok (.lor, 1) := by decide +kernel
theorem dX9_isSuch_54 : decode cX9_isSuch 54 = .ok (.lstore 4, 2) := by decide +kernel
theorem dX9_isSuch_56 : decode cX9_isSuch 56 = .ok (.iinc 6 1, 3) := by decide +kernel
theorem dX9_isSuch_59 : decode cX9_isSuch 59 = .ok (.goto (-43), 3) := by decide +kernel
theorem dX9_isSuch_62 : decode cX9_isSuch 62 = .ok (.aload_n 0, 1) := by decide +kernel
theorem dX9_isSuch_63 : decode cX9_isSuch 63 = .ok (.getfield 81, 3) := by decide +kernel
theorem dX9_isSuch_66 : decode cX9_isSuch 66 = .ok (.aload_n 0, 1) := by decide +kernel
theorem dX9_isSuch_67 : decode cX9_isSuch 67 = .ok (.iload_n 3, 1) := by decide +kernel
theorem dX9_isSuch_68 : decode cX9_isSuch 68 = .ok (.iload_n 1, 1) := by decide +kernel
theorem dX9_isSuch_69 : decode cX9_isSuch 69 = .ok (.iload_n 2, 1) := by decide +kernel
theorem dX9_isSuch_70 : decode cX9_isSuch 70 = .ok (.invokevirtual 240, 3) := by decide +kernel
theorem dX9_isSuch_73 : decode cX9_isSuch 73 = .ok (.lload 4, 2) := by decide +kernel
theorem dX9_isSuch_75 : decode cX9_isSuch 75 = .ok (.lastore, 1) := by decide +kernel
theorem dX9_isSuch_76 : decode cX9_isSuch 76 = .ok (.iinc 3 1, 3) := by decide +kernel
theorem dX9_isSuch_79 : decode cX9_isSuch 79 = .ok (.goto (-77), 3) := by decide +kernel
theorem dX9_isSuch_82 : decode cX9_isSuch 82 = .ok (.iconst 0, 1) := by decide +kernel
theorem dX9_isSuch_83 : decode cX9_isSuch 83 = .ok (.istore_n 3, 1) := by decide +kernel
theorem dX9_isSuch_84 : decode cX9_isSuch 84 = .ok (.iload_n 3, 1) := by decide +kernel
theorem dX9_isSuch_85 : decode cX9_isSuch 85 = .ok (.aload_n 0, 1) := by decide +kernel
theorem dX9_isSuch_86 : decode cX9_isSuch 86 = .ok (.getfield 7, 3) := by decide +kernel
theorem dX9_isSuch_89 : decode cX9_isSuch 89 = .ok (.if_icmp .ge 27, 3) := by decide +kernel
theorem dX9_isSuch_92 : decode cX9_isSuch 92 = .ok (.aload_n 0, 1) := by decide +kernel
theorem dX9_isSuch_93 : decode cX9_isSuch 93 = .ok (.getfield 81, 3) := by decide +kernel
theorem dX9_isSuch_96 : decode cX9_isSuch 96 = .ok (.iload_n 3, 1) := by decide +kernel
theorem dX9_isSuch_97 : decode cX9_isSuch 97 = .ok (.laload, 1) := by decide +kernel
theorem dX9_isSuch_98 : decode cX9_isSuch 98 = .ok (.aload_n 0, 1) := by decide +kernel
theorem dX9_isSuch_99 : decode cX9_isSuch 99 = .ok (.getfield 78, 3) := by decide +kernel
theorem dX9_isSuch_102 : decode cX9_isSuch 102 = .ok (.iload_n 3, 1) := by decide +kernel
theorem dX9_isSuch_103 : decode cX9_isSuch 103 = .ok (.laload, 1) := by decide +kernel
theorem dX9_isSuch_104 : decode cX9_isSuch 104 = .ok (.lcmp, 1) := by decide +kernel
theorem dX9_isSuch_105 : decode cX9_isSuch 105 = .ok (.ifCond .eq 5, 3) := by decide +kernel
theorem dX9_isSuch_108 : decode cX9_isSuch 108 = .ok (.iconst 0, 1) := by decide +kernel
theorem dX9_isSuch_109 : decode cX9_isSuch 109 = .ok (.ireturn, 1) := by decide +kernel
theorem dX9_isSuch_110 : decode cX9_isSuch 110 = .ok (.iinc 3 1, 3) := by decide +kernel
theorem dX9_isSuch_113 : decode cX9_isSuch 113 = .ok (.goto (-29), 3) := by decide +kernel
theorem dX9_isSuch_116 : decode cX9_isSuch 116 = .ok (.iconst 1, 1) := by decide +kernel
theorem dX9_isSuch_117 : decode cX9_isSuch 117 = .ok (.ireturn, 1) := by decide +kernel
set_option maxRecDepth 20000 in
set_option maxHeartbeats 4000000 in
theorem v_X9_isSuch_L16 (l : Launch) (g : GG) {r : Int32 × SS} {κ : Nat → Int32 → Int32 → Int32 → Int64 → SS → Option (Int32 × SS)} (hκ : ∀ (p0 : Nat) (y1 : Int32) (y2 : Int32) (y3 : Int32) (y4 : Int64) (τ : SS) (hp0 : kd p0 = 8), κ p0 y1 y2 y3 y4 τ = some r → VV l g 1 RX9 cX9_isSuch 7 (some .boolean) (some (.int r.1), r.2) 62 [(0, .ref (g.1 p0)), (1, .int y1), (2, .int y2), (3, .int y3), (4, .long y4)] [] τ) : ∀ (fu : Nat) (q0 : Nat) (x1 : Int32) (x2 : Int32) (x3 : Int32) (x4 : Int64) (x6 : Int32) (hq0 : kd q0 = 8) (σ : SS), f_X9_isSuch_L16 κ fu q0 x1 x2 x3 x4 x6 σ = some r → VV l g 1 RX9 cX9_isSuch 7 (some .boolean) (some (.int r.1), r.2) 16 [(0, .ref (g.1 q0)), (1, .int x1), (2, .int x2), (3, .int x3), (4, .long x4), (6, .int x6)] [] σ := by
  intro fu
  induction fu with
  | zero => intro q0 x1 x2 x3 x4 x6 hq0 σ h; cases h
  | succ fu ih =>
    intro q0 x1 x2 x3 x4 x6 hq0 σ h
    simp only [f_X9_isSuch_L16] at h
    refine vr_iload (pc := 16) 5 dX9_isSuch_16 rfl ?_
    refine vr_aload_n (pc := 18) 0 dX9_isSuch_18 rfl rfl ?_
    refine vr_getI (pc := 19) 0 dX9_isSuch_19 fi_X9_7 hq0 (sh_8_0 hq0) ?_
    refine vr_icmp_ge (pc := 22) 62 dX9_isSuch_22 (by decide) (fun c2 => ?_) (fun c2 => ?_)
    · rw [if_pos c2] at h
      refine vr_sub [0, 1, 2, 3, 4] [(0, .ref (g.1 q0)), (1, .int x1), (2, .int x2), (3, .int x3), (4, .long x4)] rfl ?_
      exact hκ q0 x1 x2 x3 x4 σ (hq0) h
    · rw [if_neg c2] at h
      refine vr_aload_n (pc := 25) 0 dX9_isSuch_25 rfl rfl ?_
      refine vr_getR (pc := 26) 28 dX9_isSuch_26 fi_X9_74 hq0 (sh_8_28 hq0).1 ?_
      refine vr_iload_n (pc := 29) 3 dX9_isSuch_29 rfl rfl ?_
      obtain ⟨hc3, h⟩ := ck_some h
      refine vr_lald (pc := 30) dX9_isSuch_30 (sh_8_28 hq0).2 hc3 ?_
      refine vr_iload (pc := 31) 5 dX9_isSuch_31 rfl ?_
      refine vr_lshr (pc := 33) dX9_isSuch_33 ?_
      refine vr_lconst (pc := 34) 1 dX9_isSuch_34 (by decide) ?_
      refine vr_land (pc := 35) dX9_isSuch_35 ?_
      refine vr_lconst (pc := 36) 1 dX9_isSuch_36 (by decide) ?_
      refine vr_lcmp (pc := 37) dX9_isSuch_37 ?_
      refine vr_if_ne (pc := 38) 56 dX9_isSuch_38 (by decide) (fun c4 => ?_) (fun c4 => ?_)
      · rw [if_neg c4] at h
        refine vr_iinc (pc := 56) [(6, .int (x6 + 1)), (0, .ref (g.1 q0)), (1, .int x1), (2, .int x2), (3, .int x3), (4, .long x4)] 5 dX9_isSuch_56 rfl (congrArg (fun z => x6 + z) ci_1) (by decide) rfl ?_
        refine vr_goto (pc := 59) 16 dX9_isSuch_59 (by decide) ?_
        refine vr_sub [1, 2, 3, 4, 5, 0] [(0, .ref (g.1 q0)), (1, .int x1), (2, .int x2), (3, .int x3), (4, .long x4), (6, .int (x6 + 1))] rfl ?_
        exact ih q0 x1 x2 x3 x4 (x6 + 1) (hq0) σ h
      · rw [if_pos c4] at h
        refine vr_lload (pc := 41) 4 dX9_isSuch_41 rfl ?_
        refine vr_lconst (pc := 43) 1 dX9_isSuch_43 (by decide) ?_
        refine vr_aload_n (pc := 44) 0 dX9_isSuch_44 rfl rfl ?_
        refine vr_iload (pc := 45) 5 dX9_isSuch_45 rfl ?_
        refine vr_iload_n (pc := 47) 1 dX9_isSuch_47 rfl rfl ?_
        refine vr_iload_n (pc := 48) 2 dX9_isSuch_48 rfl rfl ?_
        obtain ⟨z5, hz6, h⟩ := ob_some h
        refine vr_callV (pc := 49) (ρ1 := (some (.int z5), σ)) [.int x6, .int x1, .int x2] dX9_isSuch_49 (s_X9_taken l g (hq0) hz6) cw_X9_taken ml_X9_240 hq0 rfl (by decide) (by decide) rfl rfl (Nat.le_of_ble_eq_true rfl) ?_
        refine vr_lshl (pc := 52) dX9_isSuch_52 ?_
        refine vr_lor (pc := 53) dX9_isSuch_53 ?_
        refine vr_lstore (pc := 54) [(4, .long (x4 ||| ((1 : Int64) <<< (z5.toInt64 &&& 63)))), (0, .ref (g.1 q0)), (1, .int x1), (2, .int x2), (3, .int x3), (6, .int x6)] dX9_isSuch_54 (by decide) rfl ?_
        refine vr_iinc (pc := 56) [(6, .int (x6 + 1)), (4, .long (x4 ||| ((1 : Int64) <<< (z5.toInt64 &&& 63)))), (0, .ref (g.1 q0)), (1, .int x1), (2, .int x2), (3, .int x3)] 5 dX9_isSuch_56 rfl (congrArg (fun z => x6 + z) ci_1) (by decide) rfl ?_
        refine vr_goto (pc := 59) 16 dX9_isSuch_59 (by decide) ?_
        refine vr_sub [2, 3, 4, 5, 1, 0] [(0, .ref (g.1 q0)), (1, .int x1), (2, .int x2), (3, .int x3), (4, .long (x4 ||| ((1 : Int64) <<< (z5.toInt64 &&& 63)))), (6, .int (x6 + 1))] rfl ?_
        exact ih q0 x1 x2 x3 (x4 ||| ((1 : Int64) <<< (z5.toInt64 &&& 63))) (x6 + 1) (hq0) σ h
set_option maxRecDepth 20000 in
set_option maxHeartbeats 4000000 in
theorem v_X9_isSuch_L2 (l : Launch) (g : GG) {r : Int32 × SS} {κ : Nat → SS → Option (Int32 × SS)} (hκ : ∀ (p0 : Nat) (τ : SS) (hp0 : kd p0 = 8), κ p0 τ = some r → VV l g 1 RX9 cX9_isSuch 7 (some .boolean) (some (.int r.1), r.2) 82 [(0, .ref (g.1 p0))] [] τ) : ∀ (fu : Nat) (q0 : Nat) (x1 : Int32) (x2 : Int32) (x3 : Int32) (hq0 : kd q0 = 8) (σ : SS), f_X9_isSuch_L2 κ fu q0 x1 x2 x3 σ = some r → VV l g 1 RX9 cX9_isSuch 7 (some .boolean) (some (.int r.1), r.2) 2 [(0, .ref (g.1 q0)), (1, .int x1), (2, .int x2), (3, .int x3)] [] σ := by
  intro fu
  induction fu with
  | zero => intro q0 x1 x2 x3 hq0 σ h; cases h
  | succ fu ih =>
    intro q0 x1 x2 x3 hq0 σ h
    simp only [f_X9_isSuch_L2] at h
    refine vr_iload_n (pc := 2) 3 dX9_isSuch_2 rfl rfl ?_
    refine vr_aload_n (pc := 3) 0 dX9_isSuch_3 rfl rfl ?_
    refine vr_getI (pc := 4) 0 dX9_isSuch_4 fi_X9_7 hq0 (sh_8_0 hq0) ?_
    refine vr_icmp_ge (pc := 7) 82 dX9_isSuch_7 (by decide) (fun c1 => ?_) (fun c1 => ?_)
    · rw [if_pos c1] at h
      refine vr_sub [0] [(0, .ref (g.1 q0))] rfl ?_
      exact hκ q0 σ (hq0) h
    · rw [if_neg c1] at h
      refine vr_lconst (pc := 10) 0 dX9_isSuch_10 (by decide) ?_
      refine vr_lstore (pc := 11) [(4, .long (0 : Int64)), (0, .ref (g.1 q0)), (1, .int x1), (2, .int x2), (3, .int x3)] dX9_isSuch_11 (by decide) rfl ?_
      refine vr_iconst (pc := 13) 0 dX9_isSuch_13 ci_0 ?_
      refine vr_istore (pc := 14) [(6, .int 0), (4, .long (0 : Int64)), (0, .ref (g.1 q0)), (1, .int x1), (2, .int x2), (3, .int x3)] dX9_isSuch_14 (by decide) rfl ?_
      refine vr_sub [2, 3, 4, 5, 1, 0] [(0, .ref (g.1 q0)), (1, .int x1), (2, .int x2), (3, .int x3), (4, .long (0 : Int64)), (6, .int 0)] rfl ?_
      refine v_X9_isSuch_L16 l g (fun p0 y1 y2 y3 y4 τ hp0 h => ?_) FU q0 x1 x2 x3 (0 : Int64) 0 (hq0) σ h
      refine vr_aload_n (pc := 62) 0 dX9_isSuch_62 rfl rfl ?_
      refine vr_getR (pc := 63) 30 dX9_isSuch_63 fi_X9_81 hp0 (sh_8_30 hp0).1 ?_
      refine vr_aload_n (pc := 66) 0 dX9_isSuch_66 rfl rfl ?_
      refine vr_iload_n (pc := 67) 3 dX9_isSuch_67 rfl rfl ?_
      refine vr_iload_n (pc := 68) 1 dX9_isSuch_68 rfl rfl ?_
      refine vr_iload_n (pc := 69) 2 dX9_isSuch_69 rfl rfl ?_
      obtain ⟨z7, hz8, h⟩ := ob_some h
      refine vr_callV (pc := 70) (ρ1 := (some (.int z7), τ)) [.int y3, .int y1, .int y2] dX9_isSuch_70 (s_X9_taken l g (hp0) hz8) cw_X9_taken ml_X9_240 hp0 rfl (by decide) (by decide) rfl rfl (Nat.le_of_ble_eq_true rfl) ?_
      refine vr_lload (pc := 73) 4 dX9_isSuch_73 rfl ?_
      obtain ⟨hc9, h⟩ := ck_some h
      refine vr_last (pc := 75) dX9_isSuch_75 (sh_8_30 hp0).2 hc9 ?_
      refine vr_iinc (pc := 76) [(3, .int (y3 + 1)), (0, .ref (g.1 p0)), (1, .int y1), (2, .int y2), (4, .long y4)] 3 dX9_isSuch_76 rfl (congrArg (fun z => y3 + z) ci_1) (by decide) rfl ?_
      refine vr_goto (pc := 79) 2 dX9_isSuch_79 (by decide) ?_
      refine vr_sub [1, 2, 3, 0] [(0, .ref (g.1 p0)), (1, .int y1), (2, .int y2), (3, .int (y3 + 1))] rfl ?_
      exact ih p0 y1 y2 (y3 + 1) (hp0) (sL τ (rid p0 30) z7.toNatClampNeg y4) h
set_option maxRecDepth 20000 in
set_option maxHeartbeats 4000000 in
theorem v_X9_isSuch_L84 (l : Launch) (g : GG) {r : Int32 × SS} {κ : SS → Option (Int32 × SS)} (hκ : ∀ (τ : SS) , κ  τ = some r → VV l g 1 RX9 cX9_isSuch 7 (some .boolean) (some (.int r.1), r.2) 116 [] [] τ) : ∀ (fu : Nat) (q0 : Nat) (x3 : Int32) (hq0 : kd q0 = 8) (σ : SS), f_X9_isSuch_L84 κ fu q0 x3 σ = some r → VV l g 1 RX9 cX9_isSuch 7 (some .boolean) (some (.int r.1), r.2) 84 [(0, .ref (g.1 q0)), (3, .int x3)] [] σ := by
  intro fu
  induction fu with
  | zero => intro q0 x3 hq0 σ h; cases h
  | succ fu ih =>
    intro q0 x3 hq0 σ h
    simp only [f_X9_isSuch_L84] at h
    refine vr_iload_n (pc := 84) 1 dX9_isSuch_84 rfl rfl ?_
    refine vr_aload_n (pc := 85) 0 dX9_isSuch_85 rfl rfl ?_
    refine vr_getI (pc := 86) 0 dX9_isSuch_86 fi_X9_7 hq0 (sh_8_0 hq0) ?_
    refine vr_icmp_ge (pc := 89) 116 dX9_isSuch_89 (by decide) (fun c10 => ?_) (fun c10 => ?_)
    · rw [if_pos c10] at h
      refine vr_sub [] [] rfl ?_
      exact hκ σ h
    · rw [if_neg c10] at h
      refine vr_aload_n (pc := 92) 0 dX9_isSuch_92 rfl rfl ?_
      refine vr_getR (pc := 93) 30 dX9_isSuch_93 fi_X9_81 hq0 (sh_8_30 hq0).1 ?_
      refine vr_iload_n (pc := 96) 1 dX9_isSuch_96 rfl rfl ?_
      obtain ⟨hc11, h⟩ := ck_some h
      refine vr_lald (pc := 97) dX9_isSuch_97 (sh_8_30 hq0).2 hc11 ?_
      refine vr_aload_n (pc := 98) 0 dX9_isSuch_98 rfl rfl ?_
      refine vr_getR (pc := 99) 29 dX9_isSuch_99 fi_X9_78 hq0 (sh_8_29 hq0).1 ?_
      refine vr_iload_n (pc := 102) 1 dX9_isSuch_102 rfl rfl ?_
      obtain ⟨hc12, h⟩ := ck_some h
      refine vr_lald (pc := 103) dX9_isSuch_103 (sh_8_29 hq0).2 hc12 ?_
      refine vr_lcmp (pc := 104) dX9_isSuch_104 ?_
      refine vr_if_eq (pc := 105) 110 dX9_isSuch_105 (by decide) (fun c13 => ?_) (fun c13 => ?_)
      · rw [if_pos c13] at h
        refine vr_iinc (pc := 110) [(3, .int (x3 + 1)), (0, .ref (g.1 q0))] 1 dX9_isSuch_110 rfl (congrArg (fun z => x3 + z) ci_1) (by decide) rfl ?_
        refine vr_goto (pc := 113) 84 dX9_isSuch_113 (by decide) ?_
        refine vr_sub [1, 0] [(0, .ref (g.1 q0)), (3, .int (x3 + 1))] rfl ?_
        exact ih q0 (x3 + 1) (hq0) σ h
      · rw [if_neg c13] at h
        refine vr_iconst (pc := 108) 0 dX9_isSuch_108 ci_0 ?_
        have h := Option.some.inj h; subst h
        exact vr_iret (pc := 109) .boolean dX9_isSuch_109 rfl rfl rfl
set_option maxRecDepth 20000 in
set_option maxHeartbeats 4000000 in
theorem s_X9_isSuch (l : Launch) (g : GG) {q0 : Nat} (hq0 : kd q0 = 8) {a1 : Int32} {a2 : Int32} {σ : SS} {r : Int32 × SS} (h : f_X9_isSuch q0 a1 a2 σ = some r) : CT l g 1 yX9_isSuch cX9_isSuch 7 (some .boolean) [.ref (g.1 q0), .int a1, .int a2] σ (some (.int r.1), r.2) := by
  refine CT.of (lv := [(0, .ref (g.1 q0)), (1, .int a1), (2, .int a2)]) RX9 (by decide +kernel) rfl (Nat.le_of_ble_eq_true rfl) rfl ?_
  unfold f_X9_isSuch at h
  refine vr_iconst (pc := 0) 0 dX9_isSuch_0 ci_0 ?_
  refine vr_istore_n (pc := 1) [(3, .int 0), (0, .ref (g.1 q0)), (1, .int a1), (2, .int a2)] dX9_isSuch_1 rfl (by decide) rfl ?_
  refine vr_sub [1, 2, 3, 0] [(0, .ref (g.1 q0)), (1, .int a1), (2, .int a2), (3, .int 0)] rfl ?_
  refine v_X9_isSuch_L2 l g (fun p0 τ hp0 h => ?_) FU q0 a1 a2 0 (hq0) σ h
  refine vr_iconst (pc := 82) 0 dX9_isSuch_82 ci_0 ?_
  refine vr_istore_n (pc := 83) [(3, .int 0), (0, .ref (g.1 p0))] dX9_isSuch_83 rfl (by decide) rfl ?_
  refine vr_sub [1, 0] [(0, .ref (g.1 p0)), (3, .int 0)] rfl ?_
  refine v_X9_isSuch_L84 l g (fun τ h => ?_) FU p0 0 (hp0) τ h
  refine vr_iconst (pc := 116) 1 dX9_isSuch_116 ci_1 ?_
  have h := Option.some.inj h; subst h
  exact vr_iret (pc := 117) .boolean dX9_isSuch_117 rfl rfl rfl
theorem dX9_mirror_0 : decode cX9_mirror 0 = .ok (.aload_n 0, 1) := by decide +kernel
theorem dX9_mirror_1 : decode cX9_mirror 1 = .ok (.iload_n 1, 1) := by decide +kernel
theorem dX9_mirror_2 : decode cX9_mirror 2 = .ok (.invokevirtual 176, 3) := by decide +kernel
theorem dX9_mirror_5 : decode cX9_mirror 5 = .ok (.ifCond .eq 11, 3) := by decide +kernel
theorem dX9_mirror_8 : decode cX9_mirror 8 = .ok (.aload_n 0, 1) := by decide +kernel
theorem dX9_mirror_9 : decode cX9_mirror 9 = .ok (.iload_n 2, 1) := by decide +kernel
theorem dX9_mirror_10 : decode cX9_mirror 10 = .ok (.invokevirtual 176, 3) := by decide +kernel
theorem dX9_mirror_13 : decode cX9_mirror 13 = .ok (.ifCond .ne 9, 3) := by decide +kernel
theorem dX9_mirror_16 : decode cX9_mirror 16 = .ok (.aload_n 0, 1) := by decide +kernel
theorem dX9_mirror_17 : decode cX9_mirror 17 = .ok (.iconst (-1), 1) := by decide +kernel
theorem dX9_mirror_18 : decode cX9_mirror 18 = .ok (.invokevirtual 104, 3) := by decide +kernel
theorem dX9_mirror_21 : decode cX9_mirror 21 = .ok (.ireturn, 1) := by decide +kernel
theorem dX9_mirror_22 : decode cX9_mirror 22 = .ok (.iload_n 3, 1) := by decide +kernel
theorem dX9_mirror_23 : decode cX9_mirror 23 = .ok (.iconst 0, 1) := by decide +kernel
theorem dX9_mirror_24 : decode cX9_mirror 24 = .ok (.iconst 1, 1) := by decide +kernel
theorem dX9_mirror_25 : decode cX9_mirror 25 = .ok (.invokestatic 111, 3) := by decide +kernel
theorem dX9_mirror_28 : decode cX9_mirror 28 = .ok (.ifCond .ne 10, 3) := by decide +kernel
theorem dX9_mirror_31 : decode cX9_mirror 31 = .ok (.aload_n 0, 1) := by decide +kernel
theorem dX9_mirror_32 : decode cX9_mirror 32 = .ok (.bipush (-2), 2) := by decide +kernel
theorem dX9_mirror_34 : decode cX9_mirror 34 = .ok (.invokevirtual 104, 3) := by decide +kernel
theorem dX9_mirror_37 : decode cX9_mirror 37 = .ok (.ireturn, 1) := by decide +kernel
theorem dX9_mirror_38 : decode cX9_mirror 38 = .ok (.aload_n 0, 1) := by decide +kernel
theorem dX9_mirror_39 : decode cX9_mirror 39 = .ok (.getfield 20, 3) := by decide +kernel
theorem dX9_mirror_42 : decode cX9_mirror 42 = .ok (.iload_n 1, 1) := by decide +kernel
theorem dX9_mirror_43 : decode cX9_mirror 43 = .ok (.iaload, 1) := by decide +kernel
theorem dX9_mirror_44 : decode cX9_mirror 44 = .ok (.invokestatic 179, 3) := by decide +kernel
theorem dX9_mirror_47 : decode cX9_mirror 47 = .ok (.aload_n 0, 1) := by decide +kernel
theorem dX9_mirror_48 : decode cX9_mirror 48 = .ok (.getfield 20, 3) := by decide +kernel
theorem dX9_mirror_51 : decode cX9_mirror 51 = .ok (.iload_n 2, 1) := by decide +kernel
theorem dX9_mirror_52 : decode cX9_mirror 52 = .ok (.iaload, 1) := by decide +kernel
theorem dX9_mirror_53 : decode cX9_mirror 53 = .ok (.invokestatic 179, 3) := by decide +kernel
theorem dX9_mirror_56 : decode cX9_mirror 56 = .ok (.if_icmp .eq 6, 3) := by decide +kernel
theorem dX9_mirror_59 : decode cX9_mirror 59 = .ok (.bipush (-9), 2) := by decide +kernel
theorem dX9_mirror_61 : decode cX9_mirror 61 = .ok (.ireturn, 1) := by decide +kernel
theorem dX9_mirror_62 : decode cX9_mirror 62 = .ok (.aload_n 0, 1) := by decide +kernel
theorem dX9_mirror_63 : decode cX9_mirror 63 = .ok (.iload_n 1, 1) := by decide +kernel
theorem dX9_mirror_64 : decode cX9_mirror 64 = .ok (.invokevirtual 219, 3) := by decide +kernel
theorem dX9_mirror_67 : decode cX9_mirror 67 = .ok (.aload_n 0, 1) := by decide +kernel
theorem dX9_mirror_68 : decode cX9_mirror 68 = .ok (.aload_n 0, 1) := by decide +kernel
theorem dX9_mirror_69 : decode cX9_mirror 69 = .ok (.getfield 74, 3) := by decide +kernel
theorem dX9_mirror_72 : decode cX9_mirror 72 = .ok (.invokevirtual 244, 3) := by decide +kernel
theorem dX9_mirror_75 : decode cX9_mirror 75 = .ok (.aload_n 0, 1) := by decide +kernel
theorem dX9_mirror_76 : decode cX9_mirror 76 = .ok (.iload_n 2, 1) := by decide +kernel
theorem dX9_mirror_77 : decode cX9_mirror 77 = .ok (.invokevirtual 219, 3) := by decide +kernel
theorem dX9_mirror_80 : decode cX9_mirror 80 = .ok (.aload_n 0, 1) := by decide +kernel
theorem dX9_mirror_81 : decode cX9_mirror 81 = .ok (.aload_n 0, 1) := by decide +kernel
theorem dX9_mirror_82 : decode cX9_mirror 82 = .ok (.getfield 78, 3) := by decide +kernel
theorem dX9_mirror_85 : decode cX9_mirror 85 = .ok (.invokevirtual 244, 3) := by decide +kernel
theorem dX9_mirror_88 : decode cX9_mirror 88 = .ok (.iconst 0, 1) := by decide +kernel
theorem dX9_mirror_89 : decode cX9_mirror 89 = .ok (.istore 4, 2) := by decide +kernel
theorem dX9_mirror_91 : decode cX9_mirror 91 = .ok (.iload 4, 2) := by decide +kernel
theorem dX9_mirror_93 : decode cX9_mirror 93 = .ok (.aload_n 0, 1) := by decide +kernel
theorem dX9_mirror_94 : decode cX9_mirror 94 = .ok (.getfield 7, 3) := by decide +kernel
theorem dX9_mirror_97 : decode cX9_mirror 97 = .ok (.if_icmp .ge 22, 3) := by decide +kernel
theorem dX9_mirror_100 : decode cX9_mirror 100 = .ok (.aload_n 0, 1) := by decide +kernel
theorem dX9_mirror_101 : decode cX9_mirror 101 = .ok (.iload 4, 2) := by decide +kernel
theorem dX9_mirror_103 : decode cX9_mirror 103 = .ok (.iload_n 3, 1) := by decide +kernel
theorem dX9_mirror_104 : decode cX9_mirror 104 = .ok (.invokevirtual 248, 3) := by decide +kernel
theorem dX9_mirror_107 : decode cX9_mirror 107 = .ok (.ifCond .eq 6, 3) := by decide +kernel
theorem dX9_mirror_110 : decode cX9_mirror 110 = .ok (.iload 4, 2) := by decide +kernel
theorem dX9_mirror_112 : decode cX9_mirror 112 = .ok (.ireturn, 1) := by decide +kernel
theorem dX9_mirror_113 : decode cX9_mirror 113 = .ok (.iinc 4 1, 3) := by decide +kernel
theorem dX9_mirror_116 : decode cX9_mirror 116 = .ok (.goto (-25), 3) := by decide +kernel
theorem dX9_mirror_119 : decode cX9_mirror 119 = .ok (.bipush (-9), 2) := by decide +kernel
theorem dX9_mirror_121 : decode cX9_mirror 121 = .ok (.ireturn, 1) := by decide +kernel
set_option maxRecDepth 20000 in
set_option maxHeartbeats 4000000 in
theorem v_X9_mirror_L91 (l : Launch) (g : GG) {r : Int32 × SS} {κ : SS → Option (Int32 × SS)} (hκ : ∀ (τ : SS) , κ  τ = some r → VV l g 4 RX9 cX9_mirror 5 (some .int) (some (.int r.1), r.2) 119 [] [] τ) : ∀ (fu : Nat) (q0 : Nat) (x3 : Int32) (x4 : Int32) (hq0 : kd q0 = 8) (σ : SS), f_X9_mirror_L91 κ fu q0 x3 x4 σ = some r → VV l g 4 RX9 cX9_mirror 5 (some .int) (some (.int r.1), r.2) 91 [(0, .ref (g.1 q0)), (3, .int x3), (4, .int x4)] [] σ := by
  intro fu
  induction fu with
  | zero => intro q0 x3 x4 hq0 σ h; cases h
  | succ fu ih =>
    intro q0 x3 x4 hq0 σ h
    simp only [f_X9_mirror_L91] at h
    refine vr_iload (pc := 91) 2 dX9_mirror_91 rfl ?_
    refine vr_aload_n (pc := 93) 0 dX9_mirror_93 rfl rfl ?_
    refine vr_getI (pc := 94) 0 dX9_mirror_94 fi_X9_7 hq0 (sh_8_0 hq0) ?_
    refine vr_icmp_ge (pc := 97) 119 dX9_mirror_97 (by decide) (fun c17 => ?_) (fun c17 => ?_)
    · rw [if_pos c17] at h
      refine vr_sub [] [] rfl ?_
      exact hκ σ h
    · rw [if_neg c17] at h
      refine vr_aload_n (pc := 100) 0 dX9_mirror_100 rfl rfl ?_
      refine vr_iload (pc := 101) 2 dX9_mirror_101 rfl ?_
      refine vr_iload_n (pc := 103) 1 dX9_mirror_103 rfl rfl ?_
      obtain ⟨z18, hz19, h⟩ := ob_some h
      refine vr_callV (pc := 104) (ρ1 := (some (.int z18.1), z18.2)) [.int x4, .int x3] dX9_mirror_104 (s_X9_isSuch l g (hq0) hz19) cw_X9_isSuch ml_X9_248 hq0 rfl (by decide) (by decide) rfl rfl (Nat.le_of_ble_eq_true rfl) ?_
      refine vr_if_eq (pc := 107) 113 dX9_mirror_107 (by decide) (fun c20 => ?_) (fun c20 => ?_)
      · rw [if_pos c20] at h
        refine vr_iinc (pc := 113) [(4, .int (x4 + 1)), (0, .ref (g.1 q0)), (3, .int x3)] 2 dX9_mirror_113 rfl (congrArg (fun z => x4 + z) ci_1) (by decide) rfl ?_
        refine vr_goto (pc := 116) 91 dX9_mirror_116 (by decide) ?_
        refine vr_sub [1, 2, 0] [(0, .ref (g.1 q0)), (3, .int x3), (4, .int (x4 + 1))] rfl ?_
        exact ih q0 x3 (x4 + 1) (hq0) z18.2 h
      · rw [if_neg c20] at h
        refine vr_iload (pc := 110) 2 dX9_mirror_110 rfl ?_
        have h := Option.some.inj h; subst h
        exact vr_iret (pc := 112) .int dX9_mirror_112 rfl rfl rfl
set_option maxRecDepth 20000 in
set_option maxHeartbeats 4000000 in
theorem s_X9_mirror (l : Launch) (g : GG) {q0 : Nat} (hq0 : kd q0 = 8) {a1 : Int32} {a2 : Int32} {a3 : Int32} {σ : SS} {r : Int32 × SS} (h : f_X9_mirror q0 a1 a2 a3 σ = some r) : CT l g 4 yX9_mirror cX9_mirror 5 (some .int) [.ref (g.1 q0), .int a1, .int a2, .int a3] σ (some (.int r.1), r.2) := by
  refine CT.of (lv := [(0, .ref (g.1 q0)), (1, .int a1), (2, .int a2), (3, .int a3)]) RX9 (by decide +kernel) rfl (Nat.le_of_ble_eq_true rfl) rfl ?_
  unfold f_X9_mirror at h
  refine vr_aload_n (pc := 0) 0 dX9_mirror_0 rfl rfl ?_
  refine vr_iload_n (pc := 1) 1 dX9_mirror_1 rfl rfl ?_
  refine vr_callV (pc := 2) (ρ1 := (some (.int (f_X9_isWheel q0 a1 σ)), σ)) [.int a1] dX9_mirror_2 (s_X9_isWheel l g (hq0) rfl) cw_X9_isWheel ml_X9_176 hq0 rfl (by decide) (by decide) rfl rfl (Nat.le_of_ble_eq_true rfl) ?_
  refine vr_if_eq (pc := 5) 16 dX9_mirror_5 (by decide) (fun c1 => ?_) (fun c1 => ?_)
  · rw [if_pos c1] at h
    refine vr_aload_n (pc := 16) 0 dX9_mirror_16 rfl rfl ?_
    refine vr_iconst (pc := 17) (-1) dX9_mirror_17 ci_m1 ?_
    obtain ⟨z2, hz3, h⟩ := ob_some h
    refine vr_callV (pc := 18) (ρ1 := (some (.int z2.1), z2.2)) [.int (-1)] dX9_mirror_18 (s_X9_no l g (hq0) hz3) cw_X9_no ml_X9_104 hq0 rfl (by decide) (by decide) rfl rfl (Nat.le_of_ble_eq_true rfl) ?_
    have h := Option.some.inj h; subst h
    exact vr_iret (pc := 21) .int dX9_mirror_21 rfl rfl rfl
  · rw [if_neg c1] at h
    refine vr_aload_n (pc := 8) 0 dX9_mirror_8 rfl rfl ?_
    refine vr_iload_n (pc := 9) 2 dX9_mirror_9 rfl rfl ?_
    refine vr_callV (pc := 10) (ρ1 := (some (.int (f_X9_isWheel q0 a2 σ)), σ)) [.int a2] dX9_mirror_10 (s_X9_isWheel l g (hq0) rfl) cw_X9_isWheel ml_X9_176 hq0 rfl (by decide) (by decide) rfl rfl (Nat.le_of_ble_eq_true rfl) ?_
    refine vr_if_ne (pc := 13) 22 dX9_mirror_13 (by decide) (fun c4 => ?_) (fun c4 => ?_)
    · rw [if_neg c4] at h
      refine vr_iload_n (pc := 22) 3 dX9_mirror_22 rfl rfl ?_
      refine vr_iconst (pc := 23) 0 dX9_mirror_23 ci_0 ?_
      refine vr_iconst (pc := 24) 1 dX9_mirror_24 ci_1 ?_
      refine vr_callS (pc := 25) (ρ1 := (some (.int (f_X9_within a3 0 1)), σ)) [.int a3, .int 0, .int 1] dX9_mirror_25 (s_X9_within l g rfl) cw_X9_within ml_X9_111 (by decide) rfl rfl (Nat.le_of_ble_eq_true rfl) ?_
      refine vr_if_ne (pc := 28) 38 dX9_mirror_28 (by decide) (fun c5 => ?_) (fun c5 => ?_)
      · rw [if_neg c5] at h
        refine vr_aload_n (pc := 38) 0 dX9_mirror_38 rfl rfl ?_
        refine vr_getR (pc := 39) 4 dX9_mirror_39 fi_X9_20 hq0 (sh_8_4 hq0).1 ?_
        refine vr_iload_n (pc := 42) 1 dX9_mirror_42 rfl rfl ?_
        obtain ⟨hc6, h⟩ := ck_some h
        refine vr_iald (pc := 43) dX9_mirror_43 (sh_8_4 hq0).2 hc6 ?_
        refine vr_callS (pc := 44) (ρ1 := (some (.int (f_X9_sideOf (σ.1 (rid q0 4) a1.toNatClampNeg))), σ)) [.int (σ.1 (rid q0 4) a1.toNatClampNeg)] dX9_mirror_44 (s_X9_sideOf l g rfl) cw_X9_sideOf ml_X9_179 (by decide) rfl rfl (Nat.le_of_ble_eq_true rfl) ?_
        refine vr_aload_n (pc := 47) 0 dX9_mirror_47 rfl rfl ?_
        refine vr_getR (pc := 48) 4 dX9_mirror_48 fi_X9_20 hq0 (sh_8_4 hq0).1 ?_
        refine vr_iload_n (pc := 51) 2 dX9_mirror_51 rfl rfl ?_
        obtain ⟨hc7, h⟩ := ck_some h
        refine vr_iald (pc := 52) dX9_mirror_52 (sh_8_4 hq0).2 hc7 ?_
        refine vr_callS (pc := 53) (ρ1 := (some (.int (f_X9_sideOf (σ.1 (rid q0 4) a2.toNatClampNeg))), σ)) [.int (σ.1 (rid q0 4) a2.toNatClampNeg)] dX9_mirror_53 (s_X9_sideOf l g rfl) cw_X9_sideOf ml_X9_179 (by decide) rfl rfl (Nat.le_of_ble_eq_true rfl) ?_
        refine vr_icmp_eq (pc := 56) 62 dX9_mirror_56 (by decide) (fun c8 => ?_) (fun c8 => ?_)
        · rw [if_pos c8] at h
          refine vr_aload_n (pc := 62) 0 dX9_mirror_62 rfl rfl ?_
          refine vr_iload_n (pc := 63) 1 dX9_mirror_63 rfl rfl ?_
          obtain ⟨z9, hz10, h⟩ := ob_some h
          refine vr_callV (pc := 64) (ρ1 := (none, z9)) [.int a1] dX9_mirror_64 (s_X9_drawsBy l g (hq0) hz10) cw_X9_drawsBy ml_X9_219 hq0 rfl (by decide) (by decide) rfl rfl (Nat.le_of_ble_eq_true rfl) ?_
          refine vr_aload_n (pc := 67) 0 dX9_mirror_67 rfl rfl ?_
          refine vr_aload_n (pc := 68) 0 dX9_mirror_68 rfl rfl ?_
          refine vr_getR (pc := 69) 28 dX9_mirror_69 fi_X9_74 hq0 (sh_8_28 hq0).1 ?_
          obtain ⟨z11, hz12, h⟩ := ob_some h
          refine vr_callV (pc := 72) (ρ1 := (none, z11)) [.ref (g.1 (rid q0 28))] dX9_mirror_72 (s_X9_joined l g (hq0) (sh_8_28 hq0).2 hz12) cw_X9_joined ml_X9_244 hq0 rfl (by decide) (by decide) rfl rfl (Nat.le_of_ble_eq_true rfl) ?_
          refine vr_aload_n (pc := 75) 0 dX9_mirror_75 rfl rfl ?_
          refine vr_iload_n (pc := 76) 2 dX9_mirror_76 rfl rfl ?_
          obtain ⟨z13, hz14, h⟩ := ob_some h
          refine vr_callV (pc := 77) (ρ1 := (none, z13)) [.int a2] dX9_mirror_77 (s_X9_drawsBy l g (hq0) hz14) cw_X9_drawsBy ml_X9_219 hq0 rfl (by decide) (by decide) rfl rfl (Nat.le_of_ble_eq_true rfl) ?_
          refine vr_aload_n (pc := 80) 0 dX9_mirror_80 rfl rfl ?_
          refine vr_aload_n (pc := 81) 0 dX9_mirror_81 rfl rfl ?_
          refine vr_getR (pc := 82) 29 dX9_mirror_82 fi_X9_78 hq0 (sh_8_29 hq0).1 ?_
          obtain ⟨z15, hz16, h⟩ := ob_some h
          refine vr_callV (pc := 85) (ρ1 := (none, z15)) [.ref (g.1 (rid q0 29))] dX9_mirror_85 (s_X9_joined l g (hq0) (sh_8_29 hq0).2 hz16) cw_X9_joined ml_X9_244 hq0 rfl (by decide) (by decide) rfl rfl (Nat.le_of_ble_eq_true rfl) ?_
          refine vr_iconst (pc := 88) 0 dX9_mirror_88 ci_0 ?_
          refine vr_istore (pc := 89) [(4, .int 0), (0, .ref (g.1 q0)), (1, .int a1), (2, .int a2), (3, .int a3)] dX9_mirror_89 (by decide) rfl ?_
          refine vr_sub [1, 4, 0] [(0, .ref (g.1 q0)), (3, .int a3), (4, .int 0)] rfl ?_
          refine v_X9_mirror_L91 l g (fun τ h => ?_) FU q0 a3 0 (hq0) z15 h
          refine vr_bipush (pc := 119) (-9) dX9_mirror_119 cb_m9 ?_
          have h := Option.some.inj h; subst h
          exact vr_iret (pc := 121) .int dX9_mirror_121 rfl rfl rfl
        · rw [if_neg c8] at h
          refine vr_bipush (pc := 59) (-9) dX9_mirror_59 cb_m9 ?_
          have h := Option.some.inj h; subst h
          exact vr_iret (pc := 61) .int dX9_mirror_61 rfl rfl rfl
      · rw [if_pos c5] at h
        refine vr_aload_n (pc := 31) 0 dX9_mirror_31 rfl rfl ?_
        refine vr_bipush (pc := 32) (-2) dX9_mirror_32 cb_m2 ?_
        obtain ⟨z21, hz22, h⟩ := ob_some h
        refine vr_callV (pc := 34) (ρ1 := (some (.int z21.1), z21.2)) [.int (-2)] dX9_mirror_34 (s_X9_no l g (hq0) hz22) cw_X9_no ml_X9_104 hq0 rfl (by decide) (by decide) rfl rfl (Nat.le_of_ble_eq_true rfl) ?_
        have h := Option.some.inj h; subst h
        exact vr_iret (pc := 37) .int dX9_mirror_37 rfl rfl rfl
    · rw [if_pos c4] at h
      refine vr_aload_n (pc := 16) 0 dX9_mirror_16 rfl rfl ?_
      refine vr_iconst (pc := 17) (-1) dX9_mirror_17 ci_m1 ?_
      obtain ⟨z23, hz24, h⟩ := ob_some h
      refine vr_callV (pc := 18) (ρ1 := (some (.int z23.1), z23.2)) [.int (-1)] dX9_mirror_18 (s_X9_no l g (hq0) hz24) cw_X9_no ml_X9_104 hq0 rfl (by decide) (by decide) rfl rfl (Nat.le_of_ble_eq_true rfl) ?_
      have h := Option.some.inj h; subst h
      exact vr_iret (pc := 21) .int dX9_mirror_21 rfl rfl rfl
theorem dX9_full_0 : decode cX9_full 0 = .ok (.iconst 0, 1) := by decide +kernel
theorem dX9_full_1 : decode cX9_full 1 = .ok (.istore_n 1, 1) := by decide +kernel
theorem dX9_full_2 : decode cX9_full 2 = .ok (.iconst 1, 1) := by decide +kernel
theorem dX9_full_3 : decode cX9_full 3 = .ok (.istore_n 2, 1) := by decide +kernel
theorem dX9_full_4 : decode cX9_full 4 = .ok (.iload_n 2, 1) := by decide +kernel
theorem dX9_full_5 : decode cX9_full 5 = .ok (.aload_n 0, 1) := by decide +kernel
theorem dX9_full_6 : decode cX9_full 6 = .ok (.getfield 7, 3) := by decide +kernel
theorem dX9_full_9 : decode cX9_full 9 = .ok (.if_icmp .ge 31, 3) := by decide +kernel
theorem dX9_full_12 : decode cX9_full 12 = .ok (.aload_n 0, 1) := by decide +kernel
theorem dX9_full_13 : decode cX9_full 13 = .ok (.iconst 0, 1) := by decide +kernel
theorem dX9_full_14 : decode cX9_full 14 = .ok (.iload_n 2, 1) := by decide +kernel
theorem dX9_full_15 : decode cX9_full 15 = .ok (.iconst 0, 1) := by decide +kernel
theorem dX9_full_16 : decode cX9_full 16 = .ok (.iconst 0, 1) := by decide +kernel
theorem dX9_full_17 : decode cX9_full 17 = .ok (.invokevirtual 199, 3) := by decide +kernel
theorem dX9_full_20 : decode cX9_full 20 = .ok (.aload_n 0, 1) := by decide +kernel
theorem dX9_full_21 : decode cX9_full 21 = .ok (.getfield 193, 3) := by decide +kernel
theorem dX9_full_24 : decode cX9_full 24 = .ok (.aload_n 0, 1) := by decide +kernel
theorem dX9_full_25 : decode cX9_full 25 = .ok (.getfield 7, 3) := by decide +kernel
theorem dX9_full_28 : decode cX9_full 28 = .ok (.if_icmp .ne 6, 3) := by decide +kernel
theorem dX9_full_31 : decode cX9_full 31 = .ok (.iinc 1 1, 3) := by decide +kernel
theorem dX9_full_34 : decode cX9_full 34 = .ok (.iinc 2 1, 3) := by decide +kernel
theorem dX9_full_37 : decode cX9_full 37 = .ok (.goto (-33), 3) := by decide +kernel
theorem dX9_full_40 : decode cX9_full 40 = .ok (.iload_n 1, 1) := by decide +kernel
theorem dX9_full_41 : decode cX9_full 41 = .ok (.ireturn, 1) := by decide +kernel
set_option maxRecDepth 20000 in
set_option maxHeartbeats 4000000 in
theorem v_X9_full_L4 (l : Launch) (g : GG) {r : Int32 × SS} {κ : Int32 → SS → Option (Int32 × SS)} (hκ : ∀ (y1 : Int32) (τ : SS) , κ y1 τ = some r → VV l g 3 RX9 cX9_full 3 (some .int) (some (.int r.1), r.2) 40 [(1, .int y1)] [] τ) : ∀ (fu : Nat) (q0 : Nat) (x1 : Int32) (x2 : Int32) (hq0 : kd q0 = 8) (σ : SS), f_X9_full_L4 κ fu q0 x1 x2 σ = some r → VV l g 3 RX9 cX9_full 3 (some .int) (some (.int r.1), r.2) 4 [(0, .ref (g.1 q0)), (1, .int x1), (2, .int x2)] [] σ := by
  intro fu
  induction fu with
  | zero => intro q0 x1 x2 hq0 σ h; cases h
  | succ fu ih =>
    intro q0 x1 x2 hq0 σ h
    simp only [f_X9_full_L4] at h
    refine vr_iload_n (pc := 4) 2 dX9_full_4 rfl rfl ?_
    refine vr_aload_n (pc := 5) 0 dX9_full_5 rfl rfl ?_
    refine vr_getI (pc := 6) 0 dX9_full_6 fi_X9_7 hq0 (sh_8_0 hq0) ?_
    refine vr_icmp_ge (pc := 9) 40 dX9_full_9 (by decide) (fun c1 => ?_) (fun c1 => ?_)
    · rw [if_pos c1] at h
      refine vr_sub [1] [(1, .int x1)] rfl ?_
      exact hκ x1 σ h
    · rw [if_neg c1] at h
      refine vr_aload_n (pc := 12) 0 dX9_full_12 rfl rfl ?_
      refine vr_iconst (pc := 13) 0 dX9_full_13 ci_0 ?_
      refine vr_iload_n (pc := 14) 2 dX9_full_14 rfl rfl ?_
      refine vr_iconst (pc := 15) 0 dX9_full_15 ci_0 ?_
      refine vr_iconst (pc := 16) 0 dX9_full_16 ci_0 ?_
      obtain ⟨z2, hz3, h⟩ := ob_some h
      refine vr_callV (pc := 17) (ρ1 := (none, z2)) [.int 0, .int x2, .int 0, .int 0] dX9_full_17 (s_X9_draws l g (hq0) hz3) cw_X9_draws ml_X9_199 hq0 rfl (by decide) (by decide) rfl rfl (Nat.le_of_ble_eq_true rfl) ?_
      refine vr_aload_n (pc := 20) 0 dX9_full_20 rfl rfl ?_
      refine vr_getI (pc := 21) 23 dX9_full_21 fi_X9_193 hq0 (sh_8_23 hq0) ?_
      refine vr_aload_n (pc := 24) 0 dX9_full_24 rfl rfl ?_
      refine vr_getI (pc := 25) 0 dX9_full_25 fi_X9_7 hq0 (sh_8_0 hq0) ?_
      refine vr_icmp_ne (pc := 28) 34 dX9_full_28 (by decide) (fun c4 => ?_) (fun c4 => ?_)
      · rw [if_neg c4] at h
        refine vr_iinc (pc := 34) [(2, .int (x2 + 1)), (0, .ref (g.1 q0)), (1, .int x1)] 2 dX9_full_34 rfl (congrArg (fun z => x2 + z) ci_1) (by decide) rfl ?_
        refine vr_goto (pc := 37) 4 dX9_full_37 (by decide) ?_
        refine vr_sub [1, 2, 0] [(0, .ref (g.1 q0)), (1, .int x1), (2, .int (x2 + 1))] rfl ?_
        exact ih q0 x1 (x2 + 1) (hq0) z2 h
      · rw [if_pos c4] at h
        refine vr_iinc (pc := 31) [(1, .int (x1 + 1)), (0, .ref (g.1 q0)), (2, .int x2)] 1 dX9_full_31 rfl (congrArg (fun z => x1 + z) ci_1) (by decide) rfl ?_
        refine vr_iinc (pc := 34) [(2, .int (x2 + 1)), (1, .int (x1 + 1)), (0, .ref (g.1 q0))] 2 dX9_full_34 rfl (congrArg (fun z => x2 + z) ci_1) (by decide) rfl ?_
        refine vr_goto (pc := 37) 4 dX9_full_37 (by decide) ?_
        refine vr_sub [2, 1, 0] [(0, .ref (g.1 q0)), (1, .int (x1 + 1)), (2, .int (x2 + 1))] rfl ?_
        exact ih q0 (x1 + 1) (x2 + 1) (hq0) z2 h
set_option maxRecDepth 20000 in
set_option maxHeartbeats 4000000 in
theorem s_X9_full (l : Launch) (g : GG) {q0 : Nat} (hq0 : kd q0 = 8) {σ : SS} {r : Int32 × SS} (h : f_X9_full q0 σ = some r) : CT l g 3 yX9_full cX9_full 3 (some .int) [.ref (g.1 q0)] σ (some (.int r.1), r.2) := by
  refine CT.of (lv := [(0, .ref (g.1 q0))]) RX9 (by decide +kernel) rfl (Nat.le_of_ble_eq_true rfl) rfl ?_
  unfold f_X9_full at h
  refine vr_iconst (pc := 0) 0 dX9_full_0 ci_0 ?_
  refine vr_istore_n (pc := 1) [(1, .int 0), (0, .ref (g.1 q0))] dX9_full_1 rfl (by decide) rfl ?_
  refine vr_iconst (pc := 2) 1 dX9_full_2 ci_1 ?_
  refine vr_istore_n (pc := 3) [(2, .int 1), (1, .int 0), (0, .ref (g.1 q0))] dX9_full_3 rfl (by decide) rfl ?_
  refine vr_sub [2, 1, 0] [(0, .ref (g.1 q0)), (1, .int 0), (2, .int 1)] rfl ?_
  refine v_X9_full_L4 l g (fun y1 τ h => ?_) FU q0 0 1 (hq0) σ h
  refine vr_iload_n (pc := 40) 0 dX9_full_40 rfl rfl ?_
  have h := Option.some.inj h; subst h
  exact vr_iret (pc := 41) .int dX9_full_41 rfl rfl rfl
theorem dX9_odds_0 : decode cX9_odds 0 = .ok (.aload_n 0, 1) := by decide +kernel
theorem dX9_odds_1 : decode cX9_odds 1 = .ok (.iload_n 1, 1) := by decide +kernel
theorem dX9_odds_2 : decode cX9_odds 2 = .ok (.invokevirtual 176, 3) := by decide +kernel
theorem dX9_odds_5 : decode cX9_odds 5 = .ok (.ifCond .ne 9, 3) := by decide +kernel
theorem dX9_odds_8 : decode cX9_odds 8 = .ok (.aload_n 0, 1) := by decide +kernel
theorem dX9_odds_9 : decode cX9_odds 9 = .ok (.iconst (-1), 1) := by decide +kernel
theorem dX9_odds_10 : decode cX9_odds 10 = .ok (.invokevirtual 185, 3) := by decide +kernel
theorem dX9_odds_13 : decode cX9_odds 13 = .ok (.lreturn, 1) := by decide +kernel
theorem dX9_odds_14 : decode cX9_odds 14 = .ok (.iload_n 2, 1) := by decide +kernel
theorem dX9_odds_15 : decode cX9_odds 15 = .ok (.iconst 0, 1) := by decide +kernel
theorem dX9_odds_16 : decode cX9_odds 16 = .ok (.iconst 1, 1) := by decide +kernel
theorem dX9_odds_17 : decode cX9_odds 17 = .ok (.invokestatic 111, 3) := by decide +kernel
theorem dX9_odds_20 : decode cX9_odds 20 = .ok (.ifCond .ne 10, 3) := by decide +kernel
theorem dX9_odds_23 : decode cX9_odds 23 = .ok (.aload_n 0, 1) := by decide +kernel
theorem dX9_odds_24 : decode cX9_odds 24 = .ok (.bipush (-2), 2) := by decide +kernel
theorem dX9_odds_26 : decode cX9_odds 26 = .ok (.invokevirtual 185, 3) := by decide +kernel
theorem dX9_odds_29 : decode cX9_odds 29 = .ok (.lreturn, 1) := by decide +kernel
theorem dX9_odds_30 : decode cX9_odds 30 = .ok (.aload_n 0, 1) := by decide +kernel
theorem dX9_odds_31 : decode cX9_odds 31 = .ok (.iload_n 1, 1) := by decide +kernel
theorem dX9_odds_32 : decode cX9_odds 32 = .ok (.invokevirtual 219, 3) := by decide +kernel
theorem dX9_odds_35 : decode cX9_odds 35 = .ok (.aload_n 0, 1) := by decide +kernel
theorem dX9_odds_36 : decode cX9_odds 36 = .ok (.getfield 193, 3) := by decide +kernel
theorem dX9_odds_39 : decode cX9_odds 39 = .ok (.aload_n 0, 1) := by decide +kernel
theorem dX9_odds_40 : decode cX9_odds 40 = .ok (.getfield 7, 3) := by decide +kernel
theorem dX9_odds_43 : decode cX9_odds 43 = .ok (.iload_n 2, 1) := by decide +kernel
theorem dX9_odds_44 : decode cX9_odds 44 = .ok (.invokestatic 189, 3) := by decide +kernel
theorem dX9_odds_47 : decode cX9_odds 47 = .ok (.lreturn, 1) := by decide +kernel
set_option maxRecDepth 20000 in
set_option maxHeartbeats 4000000 in
theorem s_X9_odds (l : Launch) (g : GG) {q0 : Nat} (hq0 : kd q0 = 8) {a1 : Int32} {a2 : Int32} {σ : SS} {r : Int64 × SS} (h : f_X9_odds q0 a1 a2 σ = some r) : CT l g 4 yX9_odds cX9_odds 3 (some .long) [.ref (g.1 q0), .int a1, .int a2] σ (some (.long r.1), r.2) := by
  refine CT.of (lv := [(0, .ref (g.1 q0)), (1, .int a1), (2, .int a2)]) RX9 (by decide +kernel) rfl (Nat.le_of_ble_eq_true rfl) rfl ?_
  unfold f_X9_odds at h
  refine vr_aload_n (pc := 0) 0 dX9_odds_0 rfl rfl ?_
  refine vr_iload_n (pc := 1) 1 dX9_odds_1 rfl rfl ?_
  refine vr_callV (pc := 2) (ρ1 := (some (.int (f_X9_isWheel q0 a1 σ)), σ)) [.int a1] dX9_odds_2 (s_X9_isWheel l g (hq0) rfl) cw_X9_isWheel ml_X9_176 hq0 rfl (by decide) (by decide) rfl rfl (Nat.le_of_ble_eq_true rfl) ?_
  refine vr_if_ne (pc := 5) 14 dX9_odds_5 (by decide) (fun c1 => ?_) (fun c1 => ?_)
  · rw [if_neg c1] at h
    refine vr_iload_n (pc := 14) 2 dX9_odds_14 rfl rfl ?_
    refine vr_iconst (pc := 15) 0 dX9_odds_15 ci_0 ?_
    refine vr_iconst (pc := 16) 1 dX9_odds_16 ci_1 ?_
    refine vr_callS (pc := 17) (ρ1 := (some (.int (f_X9_within a2 0 1)), σ)) [.int a2, .int 0, .int 1] dX9_odds_17 (s_X9_within l g rfl) cw_X9_within ml_X9_111 (by decide) rfl rfl (Nat.le_of_ble_eq_true rfl) ?_
    refine vr_if_ne (pc := 20) 30 dX9_odds_20 (by decide) (fun c2 => ?_) (fun c2 => ?_)
    · rw [if_neg c2] at h
      refine vr_aload_n (pc := 30) 0 dX9_odds_30 rfl rfl ?_
      refine vr_iload_n (pc := 31) 1 dX9_odds_31 rfl rfl ?_
      obtain ⟨z3, hz4, h⟩ := ob_some h
      refine vr_callV (pc := 32) (ρ1 := (none, z3)) [.int a1] dX9_odds_32 (s_X9_drawsBy l g (hq0) hz4) cw_X9_drawsBy ml_X9_219 hq0 rfl (by decide) (by decide) rfl rfl (Nat.le_of_ble_eq_true rfl) ?_
      refine vr_aload_n (pc := 35) 0 dX9_odds_35 rfl rfl ?_
      refine vr_getI (pc := 36) 23 dX9_odds_36 fi_X9_193 hq0 (sh_8_23 hq0) ?_
      refine vr_aload_n (pc := 39) 0 dX9_odds_39 rfl rfl ?_
      refine vr_getI (pc := 40) 0 dX9_odds_40 fi_X9_7 hq0 (sh_8_0 hq0) ?_
      refine vr_iload_n (pc := 43) 2 dX9_odds_43 rfl rfl ?_
      obtain ⟨z5, hz6, h⟩ := ob_some h
      refine vr_callS (pc := 44) (ρ1 := (some (.long z5), z3)) [.int (z3.1 q0 23), .int (z3.1 q0 0), .int a2] dX9_odds_44 (s_X9_lowest l g hz6) cw_X9_lowest ml_X9_189 (by decide) rfl rfl (Nat.le_of_ble_eq_true rfl) ?_
      have h := Option.some.inj h; subst h
      exact vr_lret (pc := 47) dX9_odds_47 rfl rfl
    · rw [if_pos c2] at h
      refine vr_aload_n (pc := 23) 0 dX9_odds_23 rfl rfl ?_
      refine vr_bipush (pc := 24) (-2) dX9_odds_24 cb_m2 ?_
      obtain ⟨z7, hz8, h⟩ := ob_some h
      refine vr_callV (pc := 26) (ρ1 := (some (.long z7.1), z7.2)) [.int (-2)] dX9_odds_26 (s_X9_noFar l g (hq0) hz8) cw_X9_noFar ml_X9_185 hq0 rfl (by decide) (by decide) rfl rfl (Nat.le_of_ble_eq_true rfl) ?_
      have h := Option.some.inj h; subst h
      exact vr_lret (pc := 29) dX9_odds_29 rfl rfl
  · rw [if_pos c1] at h
    refine vr_aload_n (pc := 8) 0 dX9_odds_8 rfl rfl ?_
    refine vr_iconst (pc := 9) (-1) dX9_odds_9 ci_m1 ?_
    obtain ⟨z9, hz10, h⟩ := ob_some h
    refine vr_callV (pc := 10) (ρ1 := (some (.long z9.1), z9.2)) [.int (-1)] dX9_odds_10 (s_X9_noFar l g (hq0) hz10) cw_X9_noFar ml_X9_185 hq0 rfl (by decide) (by decide) rfl rfl (Nat.le_of_ble_eq_true rfl) ?_
    have h := Option.some.inj h; subst h
    exact vr_lret (pc := 13) dX9_odds_13 rfl rfl
theorem dX9_starts_0 : decode cX9_starts 0 = .ok (.iconst 0, 1) := by decide +kernel
theorem dX9_starts_1 : decode cX9_starts 1 = .ok (.istore_n 1, 1) := by decide +kernel
theorem dX9_starts_2 : decode cX9_starts 2 = .ok (.iload_n 1, 1) := by decide +kernel
theorem dX9_starts_3 : decode cX9_starts 3 = .ok (.aload_n 0, 1) := by decide +kernel
theorem dX9_starts_4 : decode cX9_starts 4 = .ok (.getfield 108, 3) := by decide +kernel
theorem dX9_starts_7 : decode cX9_starts 7 = .ok (.if_icmp .ge 21, 3) := by decide +kernel
theorem dX9_starts_10 : decode cX9_starts 10 = .ok (.aload_n 0, 1) := by decide +kernel
theorem dX9_starts_11 : decode cX9_starts 11 = .ok (.getfield 93, 3) := by decide +kernel
theorem dX9_starts_14 : decode cX9_starts 14 = .ok (.iload_n 1, 1) := by decide +kernel
theorem dX9_starts_15 : decode cX9_starts 15 = .ok (.aload_n 0, 1) := by decide +kernel
theorem dX9_starts_16 : decode cX9_starts 16 = .ok (.getfield 32, 3) := by decide +kernel
theorem dX9_starts_19 : decode cX9_starts 19 = .ok (.iload_n 1, 1) := by decide +kernel
theorem dX9_starts_20 : decode cX9_starts 20 = .ok (.iaload, 1) := by decide +kernel
theorem dX9_starts_21 : decode cX9_starts 21 = .ok (.iastore, 1) := by decide +kernel
theorem dX9_starts_22 : decode cX9_starts 22 = .ok (.iinc 1 1, 3) := by decide +kernel
theorem dX9_starts_25 : decode cX9_starts 25 = .ok (.goto (-23), 3) := by decide +kernel
theorem dX9_starts_28 : decode cX9_starts 28 = .ok (.return_, 1) := by decide +kernel
set_option maxRecDepth 20000 in
set_option maxHeartbeats 4000000 in
theorem v_X9_starts_L2 (l : Launch) (g : GG) {r : SS} {κ : SS → Option SS} (hκ : ∀ (τ : SS) , κ  τ = some r → VV l g 0 RX9 cX9_starts 2 none (none, r) 28 [] [] τ) : ∀ (fu : Nat) (q0 : Nat) (x1 : Int32) (hq0 : kd q0 = 8) (σ : SS), f_X9_starts_L2 κ fu q0 x1 σ = some r → VV l g 0 RX9 cX9_starts 2 none (none, r) 2 [(0, .ref (g.1 q0)), (1, .int x1)] [] σ := by
  intro fu
  induction fu with
  | zero => intro q0 x1 hq0 σ h; cases h
  | succ fu ih =>
    intro q0 x1 hq0 σ h
    simp only [f_X9_starts_L2] at h
    refine vr_iload_n (pc := 2) 1 dX9_starts_2 rfl rfl ?_
    refine vr_aload_n (pc := 3) 0 dX9_starts_3 rfl rfl ?_
    refine vr_getI (pc := 4) 3 dX9_starts_4 fi_X9_108 hq0 (sh_8_3 hq0) ?_
    refine vr_icmp_ge (pc := 7) 28 dX9_starts_7 (by decide) (fun c1 => ?_) (fun c1 => ?_)
    · rw [if_pos c1] at h
      refine vr_sub [] [] rfl ?_
      exact hκ σ h
    · rw [if_neg c1] at h
      refine vr_aload_n (pc := 10) 0 dX9_starts_10 rfl rfl ?_
      refine vr_getR (pc := 11) 34 dX9_starts_11 fi_X9_93 hq0 (sh_8_34 hq0).1 ?_
      refine vr_iload_n (pc := 14) 1 dX9_starts_14 rfl rfl ?_
      refine vr_aload_n (pc := 15) 0 dX9_starts_15 rfl rfl ?_
      refine vr_getR (pc := 16) 8 dX9_starts_16 fi_X9_32 hq0 (sh_8_8 hq0).1 ?_
      refine vr_iload_n (pc := 19) 1 dX9_starts_19 rfl rfl ?_
      obtain ⟨hc2, h⟩ := ck_some h
      refine vr_iald (pc := 20) dX9_starts_20 (sh_8_8 hq0).2 hc2 ?_
      obtain ⟨hc3, h⟩ := ck_some h
      refine vr_iast (pc := 21) dX9_starts_21 (sh_8_34 hq0).2 hc3 ?_
      refine vr_iinc (pc := 22) [(1, .int (x1 + 1)), (0, .ref (g.1 q0))] 1 dX9_starts_22 rfl (congrArg (fun z => x1 + z) ci_1) (by decide) rfl ?_
      refine vr_goto (pc := 25) 2 dX9_starts_25 (by decide) ?_
      refine vr_sub [1, 0] [(0, .ref (g.1 q0)), (1, .int (x1 + 1))] rfl ?_
      exact ih q0 (x1 + 1) (hq0) (sI σ (rid q0 34) x1.toNatClampNeg (σ.1 (rid q0 8) x1.toNatClampNeg)) h
set_option maxRecDepth 20000 in
set_option maxHeartbeats 4000000 in
theorem s_X9_starts (l : Launch) (g : GG) {q0 : Nat} (hq0 : kd q0 = 8) {σ : SS} {r : SS} (h : f_X9_starts q0 σ = some r) : CT l g 0 yX9_starts cX9_starts 2 none [.ref (g.1 q0)] σ (none, r) := by
  refine CT.of (lv := [(0, .ref (g.1 q0))]) RX9 (by decide +kernel) rfl (Nat.le_of_ble_eq_true rfl) rfl ?_
  unfold f_X9_starts at h
  refine vr_iconst (pc := 0) 0 dX9_starts_0 ci_0 ?_
  refine vr_istore_n (pc := 1) [(1, .int 0), (0, .ref (g.1 q0))] dX9_starts_1 rfl (by decide) rfl ?_
  refine vr_sub [1, 0] [(0, .ref (g.1 q0)), (1, .int 0)] rfl ?_
  refine v_X9_starts_L2 l g (fun τ h => ?_) FU q0 0 (hq0) σ h
  have h := Option.some.inj h; subst h
  exact vr_vret (pc := 28) dX9_starts_28 rfl rfl
theorem dX9_ticks_0 : decode cX9_ticks 0 = .ok (.iconst 0, 1) := by decide +kernel
theorem dX9_ticks_1 : decode cX9_ticks 1 = .ok (.istore_n 3, 1) := by decide +kernel
theorem dX9_ticks_2 : decode cX9_ticks 2 = .ok (.iload_n 3, 1) := by decide +kernel
theorem dX9_ticks_3 : decode cX9_ticks 3 = .ok (.aload_n 0, 1) := by decide +kernel
theorem dX9_ticks_4 : decode cX9_ticks 4 = .ok (.getfield 108, 3) := by decide +kernel
theorem dX9_ticks_7 : decode cX9_ticks 7 = .ok (.if_icmp .ge 66, 3) := by decide +kernel
theorem dX9_ticks_10 : decode cX9_ticks 10 = .ok (.aload_n 0, 1) := by decide +kernel
theorem dX9_ticks_11 : decode cX9_ticks 11 = .ok (.getfield 96, 3) := by decide +kernel
theorem dX9_ticks_14 : decode cX9_ticks 14 = .ok (.iload_n 3, 1) := by decide +kernel
theorem dX9_ticks_15 : decode cX9_ticks 15 = .ok (.iload_n 1, 1) := by decide +kernel
theorem dX9_ticks_16 : decode cX9_ticks 16 = .ok (.iload_n 3, 1) := by decide +kernel
theorem dX9_ticks_17 : decode cX9_ticks 17 = .ok (.invokestatic 252, 3) := by decide +kernel
theorem dX9_ticks_20 : decode cX9_ticks 20 = .ok (.ifCond .eq 18, 3) := by decide +kernel
theorem dX9_ticks_23 : decode cX9_ticks 23 = .ok (.iload_n 2, 1) := by decide +kernel
theorem dX9_ticks_24 : decode cX9_ticks 24 = .ok (.aload_n 0, 1) := by decide +kernel
theorem dX9_ticks_25 : decode cX9_ticks 25 = .ok (.getfield 29, 3) := by decide +kernel
theorem dX9_ticks_28 : decode cX9_ticks 28 = .ok (.iload_n 3, 1) := by decide +kernel
theorem dX9_ticks_29 : decode cX9_ticks 29 = .ok (.iaload, 1) := by decide +kernel
theorem dX9_ticks_30 : decode cX9_ticks 30 = .ok (.irem, 1) := by decide +kernel
theorem dX9_ticks_31 : decode cX9_ticks 31 = .ok (.ifCond .ne 7, 3) := by decide +kernel
theorem dX9_ticks_34 : decode cX9_ticks 34 = .ok (.iconst 1, 1) := by decide +kernel
theorem dX9_ticks_35 : decode cX9_ticks 35 = .ok (.goto 4, 3) := by decide +kernel
theorem dX9_ticks_38 : decode cX9_ticks 38 = .ok (.iconst 0, 1) := by decide +kernel
theorem dX9_ticks_39 : decode cX9_ticks 39 = .ok (.iastore, 1) := by decide +kernel
theorem dX9_ticks_40 : decode cX9_ticks 40 = .ok (.aload_n 0, 1) := by decide +kernel
theorem dX9_ticks_41 : decode cX9_ticks 41 = .ok (.getfield 96, 3) := by decide +kernel
theorem dX9_ticks_44 : decode cX9_ticks 44 = .ok (.iload_n 3, 1) := by decide +kernel
theorem dX9_ticks_45 : decode cX9_ticks 45 = .ok (.iaload, 1) := by decide +kernel
theorem dX9_ticks_46 : decode cX9_ticks 46 = .ok (.iconst 1, 1) := by decide +kernel
theorem dX9_ticks_47 : decode cX9_ticks 47 = .ok (.if_icmp .ne 20, 3) := by decide +kernel
theorem dX9_ticks_50 : decode cX9_ticks 50 = .ok (.aload_n 0, 1) := by decide +kernel
theorem dX9_ticks_51 : decode cX9_ticks 51 = .ok (.getfield 93, 3) := by decide +kernel
theorem dX9_ticks_54 : decode cX9_ticks 54 = .ok (.iload_n 3, 1) := by decide +kernel
theorem dX9_ticks_55 : decode cX9_ticks 55 = .ok (.aload_n 0, 1) := by decide +kernel
theorem dX9_ticks_56 : decode cX9_ticks 56 = .ok (.iload_n 3, 1) := by decide +kernel
theorem dX9_ticks_57 : decode cX9_ticks 57 = .ok (.aload_n 0, 1) := by decide +kernel
theorem dX9_ticks_58 : decode cX9_ticks 58 = .ok (.getfield 93, 3) := by decide +kernel
theorem dX9_ticks_61 : decode cX9_ticks 61 = .ok (.iload_n 3, 1) := by decide +kernel
theorem dX9_ticks_62 : decode cX9_ticks 62 = .ok (.iaload, 1) := by decide +kernel
theorem dX9_ticks_63 : decode cX9_ticks 63 = .ok (.invokevirtual 124, 3) := by decide +kernel
theorem dX9_ticks_66 : decode cX9_ticks 66 = .ok (.iastore, 1) := by decide +kernel
theorem dX9_ticks_67 : decode cX9_ticks 67 = .ok (.iinc 3 1, 3) := by decide +kernel
theorem dX9_ticks_70 : decode cX9_ticks 70 = .ok (.goto (-68), 3) := by decide +kernel
theorem dX9_ticks_73 : decode cX9_ticks 73 = .ok (.return_, 1) := by decide +kernel
set_option maxRecDepth 20000 in
set_option maxHeartbeats 4000000 in
theorem v_X9_ticks_L2 (l : Launch) (g : GG) {r : SS} {κ : SS → Option SS} (hκ : ∀ (τ : SS) , κ  τ = some r → VV l g 3 RX9 cX9_ticks 4 none (none, r) 73 [] [] τ) : ∀ (fu : Nat) (q0 : Nat) (x1 : Int32) (x2 : Int32) (x3 : Int32) (hq0 : kd q0 = 8) (σ : SS), f_X9_ticks_L2 κ fu q0 x1 x2 x3 σ = some r → VV l g 3 RX9 cX9_ticks 4 none (none, r) 2 [(0, .ref (g.1 q0)), (1, .int x1), (2, .int x2), (3, .int x3)] [] σ := by
  intro fu
  induction fu with
  | zero => intro q0 x1 x2 x3 hq0 σ h; cases h
  | succ fu ih =>
    intro q0 x1 x2 x3 hq0 σ h
    simp only [f_X9_ticks_L2] at h
    refine vr_iload_n (pc := 2) 3 dX9_ticks_2 rfl rfl ?_
    refine vr_aload_n (pc := 3) 0 dX9_ticks_3 rfl rfl ?_
    refine vr_getI (pc := 4) 3 dX9_ticks_4 fi_X9_108 hq0 (sh_8_3 hq0) ?_
    refine vr_icmp_ge (pc := 7) 73 dX9_ticks_7 (by decide) (fun c1 => ?_) (fun c1 => ?_)
    · rw [if_pos c1] at h
      refine vr_sub [] [] rfl ?_
      exact hκ σ h
    · rw [if_neg c1] at h
      refine vr_aload_n (pc := 10) 0 dX9_ticks_10 rfl rfl ?_
      refine vr_getR (pc := 11) 35 dX9_ticks_11 fi_X9_96 hq0 (sh_8_35 hq0).1 ?_
      refine vr_iload_n (pc := 14) 3 dX9_ticks_14 rfl rfl ?_
      refine vr_iload_n (pc := 15) 1 dX9_ticks_15 rfl rfl ?_
      refine vr_iload_n (pc := 16) 3 dX9_ticks_16 rfl rfl ?_
      refine vr_callS (pc := 17) (ρ1 := (some (.int (f_X9_has x1 x3)), σ)) [.int x1, .int x3] dX9_ticks_17 (s_X9_has l g rfl) cw_X9_has ml_X9_252 (by decide) rfl rfl (Nat.le_of_ble_eq_true rfl) ?_
      obtain ⟨j2, ej2, h⟩ := jn1_e h
      have hj2 : ∀ (v4 : Int32) , j2 v4 = some r → VV l g 3 RX9 cX9_ticks 4 none (none, r) 39 [(0, .ref (g.1 q0)), (1, .int x1), (2, .int x2), (3, .int x3)] [.int v4, .int x3, .ref (g.1 (rid q0 35))] σ := by
        intro v4  h
        rw [ej2] at h
        obtain ⟨hc5, h⟩ := ck_some h
        refine vr_iast (pc := 39) dX9_ticks_39 (sh_8_35 hq0).2 hc5 ?_
        refine vr_aload_n (pc := 40) 0 dX9_ticks_40 rfl rfl ?_
        refine vr_getR (pc := 41) 35 dX9_ticks_41 fi_X9_96 hq0 (sh_8_35 hq0).1 ?_
        refine vr_iload_n (pc := 44) 3 dX9_ticks_44 rfl rfl ?_
        obtain ⟨hc6, h⟩ := ck_some h
        refine vr_iald (pc := 45) dX9_ticks_45 (sh_8_35 hq0).2 hc6 ?_
        refine vr_iconst (pc := 46) 1 dX9_ticks_46 ci_1 ?_
        refine vr_icmp_ne (pc := 47) 67 dX9_ticks_47 (by decide) (fun c7 => ?_) (fun c7 => ?_)
        · rw [if_neg c7] at h
          refine vr_iinc (pc := 67) [(3, .int (x3 + 1)), (0, .ref (g.1 q0)), (1, .int x1), (2, .int x2)] 3 dX9_ticks_67 rfl (congrArg (fun z => x3 + z) ci_1) (by decide) rfl ?_
          refine vr_goto (pc := 70) 2 dX9_ticks_70 (by decide) ?_
          refine vr_sub [1, 2, 3, 0] [(0, .ref (g.1 q0)), (1, .int x1), (2, .int x2), (3, .int (x3 + 1))] rfl ?_
          exact ih q0 x1 x2 (x3 + 1) (hq0) (sI σ (rid q0 35) x3.toNatClampNeg v4) h
        · rw [if_pos c7] at h
          refine vr_aload_n (pc := 50) 0 dX9_ticks_50 rfl rfl ?_
          refine vr_getR (pc := 51) 34 dX9_ticks_51 fi_X9_93 hq0 (sh_8_34 hq0).1 ?_
          refine vr_iload_n (pc := 54) 3 dX9_ticks_54 rfl rfl ?_
          refine vr_aload_n (pc := 55) 0 dX9_ticks_55 rfl rfl ?_
          refine vr_iload_n (pc := 56) 3 dX9_ticks_56 rfl rfl ?_
          refine vr_aload_n (pc := 57) 0 dX9_ticks_57 rfl rfl ?_
          refine vr_getR (pc := 58) 34 dX9_ticks_58 fi_X9_93 hq0 (sh_8_34 hq0).1 ?_
          refine vr_iload_n (pc := 61) 3 dX9_ticks_61 rfl rfl ?_
          obtain ⟨hc8, h⟩ := ck_some h
          refine vr_iald (pc := 62) dX9_ticks_62 (sh_8_34 hq0).2 hc8 ?_
          obtain ⟨z9, hz10, h⟩ := ob_some h
          refine vr_callV (pc := 63) (ρ1 := (some (.int z9), (sI σ (rid q0 35) x3.toNatClampNeg v4))) [.int x3, .int ((sI σ (rid q0 35) x3.toNatClampNeg v4).1 (rid q0 34) x3.toNatClampNeg)] dX9_ticks_63 (s_X9_nextBy l g (hq0) hz10) cw_X9_nextBy ml_X9_124 hq0 rfl (by decide) (by decide) rfl rfl (Nat.le_of_ble_eq_true rfl) ?_
          obtain ⟨hc11, h⟩ := ck_some h
          refine vr_iast (pc := 66) dX9_ticks_66 (sh_8_34 hq0).2 hc11 ?_
          refine vr_iinc (pc := 67) [(3, .int (x3 + 1)), (0, .ref (g.1 q0)), (1, .int x1), (2, .int x2)] 3 dX9_ticks_67 rfl (congrArg (fun z => x3 + z) ci_1) (by decide) rfl ?_
          refine vr_goto (pc := 70) 2 dX9_ticks_70 (by decide) ?_
          refine vr_sub [1, 2, 3, 0] [(0, .ref (g.1 q0)), (1, .int x1), (2, .int x2), (3, .int (x3 + 1))] rfl ?_
          exact ih q0 x1 x2 (x3 + 1) (hq0) (sI (sI σ (rid q0 35) x3.toNatClampNeg v4) (rid q0 34) x3.toNatClampNeg z9) h
      refine vr_if_eq (pc := 20) 38 dX9_ticks_20 (by decide) (fun c12 => ?_) (fun c12 => ?_)
      · rw [if_pos c12] at h
        refine vr_iconst (pc := 38) 0 dX9_ticks_38 ci_0 ?_
        exact hj2 0 h
      · rw [if_neg c12] at h
        refine vr_iload_n (pc := 23) 2 dX9_ticks_23 rfl rfl ?_
        refine vr_aload_n (pc := 24) 0 dX9_ticks_24 rfl rfl ?_
        refine vr_getR (pc := 25) 7 dX9_ticks_25 fi_X9_29 hq0 (sh_8_7 hq0).1 ?_
        refine vr_iload_n (pc := 28) 3 dX9_ticks_28 rfl rfl ?_
        obtain ⟨hc13, h⟩ := ck_some h
        refine vr_iald (pc := 29) dX9_ticks_29 (sh_8_7 hq0).2 hc13 ?_
        obtain ⟨hc14, h⟩ := ck_some h
        refine vr_irem (pc := 30) dX9_ticks_30 hc14 ?_
        refine vr_if_ne (pc := 31) 38 dX9_ticks_31 (by decide) (fun c15 => ?_) (fun c15 => ?_)
        · rw [if_neg c15] at h
          refine vr_iconst (pc := 38) 0 dX9_ticks_38 ci_0 ?_
          exact hj2 0 h
        · rw [if_pos c15] at h
          refine vr_iconst (pc := 34) 1 dX9_ticks_34 ci_1 ?_
          refine vr_goto (pc := 35) 39 dX9_ticks_35 (by decide) ?_
          exact hj2 1 h
set_option maxRecDepth 20000 in
set_option maxHeartbeats 4000000 in
theorem s_X9_ticks (l : Launch) (g : GG) {q0 : Nat} (hq0 : kd q0 = 8) {a1 : Int32} {a2 : Int32} {σ : SS} {r : SS} (h : f_X9_ticks q0 a1 a2 σ = some r) : CT l g 3 yX9_ticks cX9_ticks 4 none [.ref (g.1 q0), .int a1, .int a2] σ (none, r) := by
  refine CT.of (lv := [(0, .ref (g.1 q0)), (1, .int a1), (2, .int a2)]) RX9 (by decide +kernel) rfl (Nat.le_of_ble_eq_true rfl) rfl ?_
  unfold f_X9_ticks at h
  refine vr_iconst (pc := 0) 0 dX9_ticks_0 ci_0 ?_
  refine vr_istore_n (pc := 1) [(3, .int 0), (0, .ref (g.1 q0)), (1, .int a1), (2, .int a2)] dX9_ticks_1 rfl (by decide) rfl ?_
  refine vr_sub [1, 2, 3, 0] [(0, .ref (g.1 q0)), (1, .int a1), (2, .int a2), (3, .int 0)] rfl ?_
  refine v_X9_ticks_L2 l g (fun τ h => ?_) FU q0 a1 a2 0 (hq0) σ h
  have h := Option.some.inj h; subst h
  exact vr_vret (pc := 73) dX9_ticks_73 rfl rfl
theorem dX9_touches_0 : decode cX9_touches 0 = .ok (.aload_n 0, 1) := by decide +kernel
theorem dX9_touches_1 : decode cX9_touches 1 = .ok (.invokevirtual 255, 3) := by decide +kernel
theorem dX9_touches_4 : decode cX9_touches 4 = .ok (.iconst 0, 1) := by decide +kernel
theorem dX9_touches_5 : decode cX9_touches 5 = .ok (.istore_n 3, 1) := by decide +kernel
theorem dX9_touches_6 : decode cX9_touches 6 = .ok (.iconst 1, 1) := by decide +kernel
theorem dX9_touches_7 : decode cX9_touches 7 = .ok (.istore 4, 2) := by decide +kernel
theorem dX9_touches_9 : decode cX9_touches 9 = .ok (.iload_n 3, 1) := by decide +kernel
theorem dX9_touches_10 : decode cX9_touches 10 = .ok (.iload_n 2, 1) := by decide +kernel
theorem dX9_touches_11 : decode cX9_touches 11 = .ok (.if_icmp .ge 109, 3) := by decide +kernel
theorem dX9_touches_14 : decode cX9_touches 14 = .ok (.aload_n 0, 1) := by decide +kernel
theorem dX9_touches_15 : decode cX9_touches 15 = .ok (.iload_n 1, 1) := by decide +kernel
theorem dX9_touches_16 : decode cX9_touches 16 = .ok (.iload 4, 2) := by decide +kernel
theorem dX9_touches_18 : decode cX9_touches 18 = .ok (.invokevirtual 258, 3) := by decide +kernel
theorem dX9_touches_21 : decode cX9_touches 21 = .ok (.iconst 0, 1) := by decide +kernel
theorem dX9_touches_22 : decode cX9_touches 22 = .ok (.istore 5, 2) := by decide +kernel
theorem dX9_touches_24 : decode cX9_touches 24 = .ok (.iload 5, 2) := by decide +kernel
theorem dX9_touches_26 : decode cX9_touches 26 = .ok (.aload_n 0, 1) := by decide +kernel
theorem dX9_touches_27 : decode cX9_touches 27 = .ok (.getfield 7, 3) := by decide +kernel
theorem dX9_touches_30 : decode cX9_touches 30 = .ok (.if_icmp .ge 84, 3) := by decide +kernel
theorem dX9_touches_33 : decode cX9_touches 33 = .ok (.iconst 0, 1) := by decide +kernel
theorem dX9_touches_34 : decode cX9_touches 34 = .ok (.istore 6, 2) := by decide +kernel
theorem dX9_touches_36 : decode cX9_touches 36 = .ok (.iload 6, 2) := by decide +kernel
theorem dX9_touches_38 : decode cX9_touches 38 = .ok (.aload_n 0, 1) := by decide +kernel
theorem dX9_touches_39 : decode cX9_touches 39 = .ok (.getfield 108, 3) := by decide +kernel
theorem dX9_touches_42 : decode cX9_touches 42 = .ok (.if_icmp .ge 66, 3) := by decide +kernel
theorem dX9_touches_45 : decode cX9_touches 45 = .ok (.aload_n 0, 1) := by decide +kernel
theorem dX9_touches_46 : decode cX9_touches 46 = .ok (.getfield 96, 3) := by decide +kernel
theorem dX9_touches_49 : decode cX9_touches 49 = .ok (.iload 6, 2) := by decide +kernel
theorem dX9_touches_51 : decode cX9_touches 51 = .ok (.iaload, 1) := by decide +kernel
theorem dX9_touches_52 : decode cX9_touches 52 = .ok (.ifCond .eq 50, 3) := by decide +kernel
theorem dX9_touches_55 : decode cX9_touches 55 = .ok (.aload_n 0, 1) := by decide +kernel
theorem dX9_touches_56 : decode cX9_touches 56 = .ok (.getfield 93, 3) := by decide +kernel
theorem dX9_touches_59 : decode cX9_touches 59 = .ok (.iload 6, 2) := by decide +kernel
theorem dX9_touches_61 : decode cX9_touches 61 = .ok (.iaload, 1) := by decide +kernel
theorem dX9_touches_62 : decode cX9_touches 62 = .ok (.iload 5, 2) := by decide +kernel
theorem dX9_touches_64 : decode cX9_touches 64 = .ok (.if_icmp .ne 38, 3) := by decide +kernel
theorem dX9_touches_67 : decode cX9_touches 67 = .ok (.iload_n 3, 1) := by decide +kernel
theorem dX9_touches_68 : decode cX9_touches 68 = .ok (.iload_n 2, 1) := by decide +kernel
theorem dX9_touches_69 : decode cX9_touches 69 = .ok (.if_icmp .ne 6, 3) := by decide +kernel
theorem dX9_touches_72 : decode cX9_touches 72 = .ok (.goto 30, 3) := by decide +kernel
theorem dX9_touches_75 : decode cX9_touches 75 = .ok (.aload_n 0, 1) := by decide +kernel
theorem dX9_touches_76 : decode cX9_touches 76 = .ok (.getfield 84, 3) := by decide +kernel
theorem dX9_touches_79 : decode cX9_touches 79 = .ok (.iload_n 3, 1) := by decide +kernel
theorem dX9_touches_80 : decode cX9_touches 80 = .ok (.iload 4, 2) := by decide +kernel
theorem dX9_touches_82 : decode cX9_touches 82 = .ok (.iastore, 1) := by decide +kernel
theorem dX9_touches_83 : decode cX9_touches 83 = .ok (.aload_n 0, 1) := by decide +kernel
theorem dX9_touches_84 : decode cX9_touches 84 = .ok (.getfield 87, 3) := by decide +kernel
theorem dX9_touches_87 : decode cX9_touches 87 = .ok (.iload_n 3, 1) := by decide +kernel
theorem dX9_touches_88 : decode cX9_touches 88 = .ok (.iload 5, 2) := by decide +kernel
theorem dX9_touches_90 : decode cX9_touches 90 = .ok (.iastore, 1) := by decide +kernel
theorem dX9_touches_91 : decode cX9_touches 91 = .ok (.aload_n 0, 1) := by decide +kernel
theorem dX9_touches_92 : decode cX9_touches 92 = .ok (.getfield 90, 3) := by decide +kernel
theorem dX9_touches_95 : decode cX9_touches 95 = .ok (.iload_n 3, 1) := by decide +kernel
theorem dX9_touches_96 : decode cX9_touches 96 = .ok (.iload 6, 2) := by decide +kernel
theorem dX9_touches_98 : decode cX9_touches 98 = .ok (.iastore, 1) := by decide +kernel
theorem dX9_touches_99 : decode cX9_touches 99 = .ok (.iinc 3 1, 3) := by decide +kernel
theorem dX9_touches_102 : decode cX9_touches 102 = .ok (.iinc 6 1, 3) := by decide +kernel
theorem dX9_touches_105 : decode cX9_touches 105 = .ok (.goto (-69), 3) := by decide +kernel
theorem dX9_touches_108 : decode cX9_touches 108 = .ok (.iinc 5 1, 3) := by decide +kernel
theorem dX9_touches_111 : decode cX9_touches 111 = .ok (.goto (-87), 3) := by decide +kernel
theorem dX9_touches_114 : decode cX9_touches 114 = .ok (.iinc 4 1, 3) := by decide +kernel
theorem dX9_touches_117 : decode cX9_touches 117 = .ok (.goto (-108), 3) := by decide +kernel
theorem dX9_touches_120 : decode cX9_touches 120 = .ok (.return_, 1) := by decide +kernel
set_option maxRecDepth 20000 in
set_option maxHeartbeats 4000000 in
theorem v_X9_touches_L36 (l : Launch) (g : GG) {r : SS} {κ : Nat → Int32 → Int32 → Int32 → Int32 → Int32 → SS → Option SS} (hκ : ∀ (p0 : Nat) (y1 : Int32) (y2 : Int32) (y3 : Int32) (y4 : Int32) (y5 : Int32) (τ : SS) (hp0 : kd p0 = 8), κ p0 y1 y2 y3 y4 y5 τ = some r → VV l g 4 RX9 cX9_touches 7 none (none, r) 108 [(0, .ref (g.1 p0)), (1, .int y1), (2, .int y2), (3, .int y3), (4, .int y4), (5, .int y5)] [] τ) : ∀ (fu : Nat) (q0 : Nat) (x1 : Int32) (x2 : Int32) (x3 : Int32) (x4 : Int32) (x5 : Int32) (x6 : Int32) (hq0 : kd q0 = 8) (σ : SS), f_X9_touches_L36 κ fu q0 x1 x2 x3 x4 x5 x6 σ = some r → VV l g 4 RX9 cX9_touches 7 none (none, r) 36 [(0, .ref (g.1 q0)), (1, .int x1), (2, .int x2), (3, .int x3), (4, .int x4), (5, .int x5), (6, .int x6)] [] σ := by
  intro fu
  induction fu with
  | zero => intro q0 x1 x2 x3 x4 x5 x6 hq0 σ h; cases h
  | succ fu ih =>
    intro q0 x1 x2 x3 x4 x5 x6 hq0 σ h
    simp only [f_X9_touches_L36] at h
    refine vr_iload (pc := 36) 6 dX9_touches_36 rfl ?_
    refine vr_aload_n (pc := 38) 0 dX9_touches_38 rfl rfl ?_
    refine vr_getI (pc := 39) 3 dX9_touches_39 fi_X9_108 hq0 (sh_8_3 hq0) ?_
    refine vr_icmp_ge (pc := 42) 108 dX9_touches_42 (by decide) (fun c7 => ?_) (fun c7 => ?_)
    · rw [if_pos c7] at h
      refine vr_sub [0, 1, 2, 3, 4, 5] [(0, .ref (g.1 q0)), (1, .int x1), (2, .int x2), (3, .int x3), (4, .int x4), (5, .int x5)] rfl ?_
      exact hκ q0 x1 x2 x3 x4 x5 σ (hq0) h
    · rw [if_neg c7] at h
      refine vr_aload_n (pc := 45) 0 dX9_touches_45 rfl rfl ?_
      refine vr_getR (pc := 46) 35 dX9_touches_46 fi_X9_96 hq0 (sh_8_35 hq0).1 ?_
      refine vr_iload (pc := 49) 6 dX9_touches_49 rfl ?_
      obtain ⟨hc8, h⟩ := ck_some h
      refine vr_iald (pc := 51) dX9_touches_51 (sh_8_35 hq0).2 hc8 ?_
      refine vr_if_eq (pc := 52) 102 dX9_touches_52 (by decide) (fun c9 => ?_) (fun c9 => ?_)
      · rw [if_pos c9] at h
        refine vr_iinc (pc := 102) [(6, .int (x6 + 1)), (0, .ref (g.1 q0)), (1, .int x1), (2, .int x2), (3, .int x3), (4, .int x4), (5, .int x5)] 6 dX9_touches_102 rfl (congrArg (fun z => x6 + z) ci_1) (by decide) rfl ?_
        refine vr_goto (pc := 105) 36 dX9_touches_105 (by decide) ?_
        refine vr_sub [1, 2, 3, 4, 5, 6, 0] [(0, .ref (g.1 q0)), (1, .int x1), (2, .int x2), (3, .int x3), (4, .int x4), (5, .int x5), (6, .int (x6 + 1))] rfl ?_
        exact ih q0 x1 x2 x3 x4 x5 (x6 + 1) (hq0) σ h
      · rw [if_neg c9] at h
        refine vr_aload_n (pc := 55) 0 dX9_touches_55 rfl rfl ?_
        refine vr_getR (pc := 56) 34 dX9_touches_56 fi_X9_93 hq0 (sh_8_34 hq0).1 ?_
        refine vr_iload (pc := 59) 6 dX9_touches_59 rfl ?_
        obtain ⟨hc10, h⟩ := ck_some h
        refine vr_iald (pc := 61) dX9_touches_61 (sh_8_34 hq0).2 hc10 ?_
        refine vr_iload (pc := 62) 5 dX9_touches_62 rfl ?_
        refine vr_icmp_ne (pc := 64) 102 dX9_touches_64 (by decide) (fun c11 => ?_) (fun c11 => ?_)
        · rw [if_neg c11] at h
          refine vr_iinc (pc := 102) [(6, .int (x6 + 1)), (0, .ref (g.1 q0)), (1, .int x1), (2, .int x2), (3, .int x3), (4, .int x4), (5, .int x5)] 6 dX9_touches_102 rfl (congrArg (fun z => x6 + z) ci_1) (by decide) rfl ?_
          refine vr_goto (pc := 105) 36 dX9_touches_105 (by decide) ?_
          refine vr_sub [1, 2, 3, 4, 5, 6, 0] [(0, .ref (g.1 q0)), (1, .int x1), (2, .int x2), (3, .int x3), (4, .int x4), (5, .int x5), (6, .int (x6 + 1))] rfl ?_
          exact ih q0 x1 x2 x3 x4 x5 (x6 + 1) (hq0) σ h
        · rw [if_pos c11] at h
          refine vr_iload_n (pc := 67) 3 dX9_touches_67 rfl rfl ?_
          refine vr_iload_n (pc := 68) 2 dX9_touches_68 rfl rfl ?_
          refine vr_icmp_ne (pc := 69) 75 dX9_touches_69 (by decide) (fun c12 => ?_) (fun c12 => ?_)
          · rw [if_neg c12] at h
            refine vr_aload_n (pc := 75) 0 dX9_touches_75 rfl rfl ?_
            refine vr_getR (pc := 76) 31 dX9_touches_76 fi_X9_84 hq0 (sh_8_31 hq0).1 ?_
            refine vr_iload_n (pc := 79) 3 dX9_touches_79 rfl rfl ?_
            refine vr_iload (pc := 80) 4 dX9_touches_80 rfl ?_
            obtain ⟨hc13, h⟩ := ck_some h
            refine vr_iast (pc := 82) dX9_touches_82 (sh_8_31 hq0).2 hc13 ?_
            refine vr_aload_n (pc := 83) 0 dX9_touches_83 rfl rfl ?_
            refine vr_getR (pc := 84) 32 dX9_touches_84 fi_X9_87 hq0 (sh_8_32 hq0).1 ?_
            refine vr_iload_n (pc := 87) 3 dX9_touches_87 rfl rfl ?_
            refine vr_iload (pc := 88) 5 dX9_touches_88 rfl ?_
            obtain ⟨hc14, h⟩ := ck_some h
            refine vr_iast (pc := 90) dX9_touches_90 (sh_8_32 hq0).2 hc14 ?_
            refine vr_aload_n (pc := 91) 0 dX9_touches_91 rfl rfl ?_
            refine vr_getR (pc := 92) 33 dX9_touches_92 fi_X9_90 hq0 (sh_8_33 hq0).1 ?_
            refine vr_iload_n (pc := 95) 3 dX9_touches_95 rfl rfl ?_
            refine vr_iload (pc := 96) 6 dX9_touches_96 rfl ?_
            obtain ⟨hc15, h⟩ := ck_some h
            refine vr_iast (pc := 98) dX9_touches_98 (sh_8_33 hq0).2 hc15 ?_
            refine vr_iinc (pc := 99) [(3, .int (x3 + 1)), (0, .ref (g.1 q0)), (1, .int x1), (2, .int x2), (4, .int x4), (5, .int x5), (6, .int x6)] 3 dX9_touches_99 rfl (congrArg (fun z => x3 + z) ci_1) (by decide) rfl ?_
            refine vr_iinc (pc := 102) [(6, .int (x6 + 1)), (3, .int (x3 + 1)), (0, .ref (g.1 q0)), (1, .int x1), (2, .int x2), (4, .int x4), (5, .int x5)] 6 dX9_touches_102 rfl (congrArg (fun z => x6 + z) ci_1) (by decide) rfl ?_
            refine vr_goto (pc := 105) 36 dX9_touches_105 (by decide) ?_
            refine vr_sub [2, 3, 4, 1, 5, 6, 0] [(0, .ref (g.1 q0)), (1, .int x1), (2, .int x2), (3, .int (x3 + 1)), (4, .int x4), (5, .int x5), (6, .int (x6 + 1))] rfl ?_
            exact ih q0 x1 x2 (x3 + 1) x4 x5 (x6 + 1) (hq0) (sI (sI (sI σ (rid q0 31) x3.toNatClampNeg x4) (rid q0 32) x3.toNatClampNeg x5) (rid q0 33) x3.toNatClampNeg x6) h
          · rw [if_pos c12] at h
            refine vr_goto (pc := 72) 102 dX9_touches_72 (by decide) ?_
            refine vr_iinc (pc := 102) [(6, .int (x6 + 1)), (0, .ref (g.1 q0)), (1, .int x1), (2, .int x2), (3, .int x3), (4, .int x4), (5, .int x5)] 6 dX9_touches_102 rfl (congrArg (fun z => x6 + z) ci_1) (by decide) rfl ?_
            refine vr_goto (pc := 105) 36 dX9_touches_105 (by decide) ?_
            refine vr_sub [1, 2, 3, 4, 5, 6, 0] [(0, .ref (g.1 q0)), (1, .int x1), (2, .int x2), (3, .int x3), (4, .int x4), (5, .int x5), (6, .int (x6 + 1))] rfl ?_
            exact ih q0 x1 x2 x3 x4 x5 (x6 + 1) (hq0) σ h
set_option maxRecDepth 20000 in
set_option maxHeartbeats 4000000 in
theorem v_X9_touches_L24 (l : Launch) (g : GG) {r : SS} {κ : Nat → Int32 → Int32 → Int32 → Int32 → SS → Option SS} (hκ : ∀ (p0 : Nat) (y1 : Int32) (y2 : Int32) (y3 : Int32) (y4 : Int32) (τ : SS) (hp0 : kd p0 = 8), κ p0 y1 y2 y3 y4 τ = some r → VV l g 4 RX9 cX9_touches 7 none (none, r) 114 [(0, .ref (g.1 p0)), (1, .int y1), (2, .int y2), (3, .int y3), (4, .int y4)] [] τ) : ∀ (fu : Nat) (q0 : Nat) (x1 : Int32) (x2 : Int32) (x3 : Int32) (x4 : Int32) (x5 : Int32) (hq0 : kd q0 = 8) (σ : SS), f_X9_touches_L24 κ fu q0 x1 x2 x3 x4 x5 σ = some r → VV l g 4 RX9 cX9_touches 7 none (none, r) 24 [(0, .ref (g.1 q0)), (1, .int x1), (2, .int x2), (3, .int x3), (4, .int x4), (5, .int x5)] [] σ := by
  intro fu
  induction fu with
  | zero => intro q0 x1 x2 x3 x4 x5 hq0 σ h; cases h
  | succ fu ih =>
    intro q0 x1 x2 x3 x4 x5 hq0 σ h
    simp only [f_X9_touches_L24] at h
    refine vr_iload (pc := 24) 5 dX9_touches_24 rfl ?_
    refine vr_aload_n (pc := 26) 0 dX9_touches_26 rfl rfl ?_
    refine vr_getI (pc := 27) 0 dX9_touches_27 fi_X9_7 hq0 (sh_8_0 hq0) ?_
    refine vr_icmp_ge (pc := 30) 114 dX9_touches_30 (by decide) (fun c6 => ?_) (fun c6 => ?_)
    · rw [if_pos c6] at h
      refine vr_sub [0, 1, 2, 3, 4] [(0, .ref (g.1 q0)), (1, .int x1), (2, .int x2), (3, .int x3), (4, .int x4)] rfl ?_
      exact hκ q0 x1 x2 x3 x4 σ (hq0) h
    · rw [if_neg c6] at h
      refine vr_iconst (pc := 33) 0 dX9_touches_33 ci_0 ?_
      refine vr_istore (pc := 34) [(6, .int 0), (0, .ref (g.1 q0)), (1, .int x1), (2, .int x2), (3, .int x3), (4, .int x4), (5, .int x5)] dX9_touches_34 (by decide) rfl ?_
      refine vr_sub [1, 2, 3, 4, 5, 6, 0] [(0, .ref (g.1 q0)), (1, .int x1), (2, .int x2), (3, .int x3), (4, .int x4), (5, .int x5), (6, .int 0)] rfl ?_
      refine v_X9_touches_L36 l g (fun p0 y1 y2 y3 y4 y5 τ hp0 h => ?_) FU q0 x1 x2 x3 x4 x5 0 (hq0) σ h
      refine vr_iinc (pc := 108) [(5, .int (y5 + 1)), (0, .ref (g.1 p0)), (1, .int y1), (2, .int y2), (3, .int y3), (4, .int y4)] 5 dX9_touches_108 rfl (congrArg (fun z => y5 + z) ci_1) (by decide) rfl ?_
      refine vr_goto (pc := 111) 24 dX9_touches_111 (by decide) ?_
      refine vr_sub [1, 2, 3, 4, 5, 0] [(0, .ref (g.1 p0)), (1, .int y1), (2, .int y2), (3, .int y3), (4, .int y4), (5, .int (y5 + 1))] rfl ?_
      exact ih p0 y1 y2 y3 y4 (y5 + 1) (hp0) τ h
set_option maxRecDepth 20000 in
set_option maxHeartbeats 4000000 in
theorem v_X9_touches_L9 (l : Launch) (g : GG) {r : SS} {κ : SS → Option SS} (hκ : ∀ (τ : SS) , κ  τ = some r → VV l g 4 RX9 cX9_touches 7 none (none, r) 120 [] [] τ) : ∀ (fu : Nat) (q0 : Nat) (x1 : Int32) (x2 : Int32) (x3 : Int32) (x4 : Int32) (hq0 : kd q0 = 8) (σ : SS), f_X9_touches_L9 κ fu q0 x1 x2 x3 x4 σ = some r → VV l g 4 RX9 cX9_touches 7 none (none, r) 9 [(0, .ref (g.1 q0)), (1, .int x1), (2, .int x2), (3, .int x3), (4, .int x4)] [] σ := by
  intro fu
  induction fu with
  | zero => intro q0 x1 x2 x3 x4 hq0 σ h; cases h
  | succ fu ih =>
    intro q0 x1 x2 x3 x4 hq0 σ h
    simp only [f_X9_touches_L9] at h
    refine vr_iload_n (pc := 9) 3 dX9_touches_9 rfl rfl ?_
    refine vr_iload_n (pc := 10) 2 dX9_touches_10 rfl rfl ?_
    refine vr_icmp_ge (pc := 11) 120 dX9_touches_11 (by decide) (fun c3 => ?_) (fun c3 => ?_)
    · rw [if_pos c3] at h
      refine vr_sub [] [] rfl ?_
      exact hκ σ h
    · rw [if_neg c3] at h
      refine vr_aload_n (pc := 14) 0 dX9_touches_14 rfl rfl ?_
      refine vr_iload_n (pc := 15) 1 dX9_touches_15 rfl rfl ?_
      refine vr_iload (pc := 16) 4 dX9_touches_16 rfl ?_
      obtain ⟨z4, hz5, h⟩ := ob_some h
      refine vr_callV (pc := 18) (ρ1 := (none, z4)) [.int x1, .int x4] dX9_touches_18 (s_X9_ticks l g (hq0) hz5) cw_X9_ticks ml_X9_258 hq0 rfl (by decide) (by decide) rfl rfl (Nat.le_of_ble_eq_true rfl) ?_
      refine vr_iconst (pc := 21) 0 dX9_touches_21 ci_0 ?_
      refine vr_istore (pc := 22) [(5, .int 0), (0, .ref (g.1 q0)), (1, .int x1), (2, .int x2), (3, .int x3), (4, .int x4)] dX9_touches_22 (by decide) rfl ?_
      refine vr_sub [1, 2, 3, 4, 5, 0] [(0, .ref (g.1 q0)), (1, .int x1), (2, .int x2), (3, .int x3), (4, .int x4), (5, .int 0)] rfl ?_
      refine v_X9_touches_L24 l g (fun p0 y1 y2 y3 y4 τ hp0 h => ?_) FU q0 x1 x2 x3 x4 0 (hq0) z4 h
      refine vr_iinc (pc := 114) [(4, .int (y4 + 1)), (0, .ref (g.1 p0)), (1, .int y1), (2, .int y2), (3, .int y3)] 4 dX9_touches_114 rfl (congrArg (fun z => y4 + z) ci_1) (by decide) rfl ?_
      refine vr_goto (pc := 117) 9 dX9_touches_117 (by decide) ?_
      refine vr_sub [1, 2, 3, 4, 0] [(0, .ref (g.1 p0)), (1, .int y1), (2, .int y2), (3, .int y3), (4, .int (y4 + 1))] rfl ?_
      exact ih p0 y1 y2 y3 (y4 + 1) (hp0) τ h
set_option maxRecDepth 20000 in
set_option maxHeartbeats 4000000 in
theorem s_X9_touches (l : Launch) (g : GG) {q0 : Nat} (hq0 : kd q0 = 8) {a1 : Int32} {a2 : Int32} {σ : SS} {r : SS} (h : f_X9_touches q0 a1 a2 σ = some r) : CT l g 4 yX9_touches cX9_touches 7 none [.ref (g.1 q0), .int a1, .int a2] σ (none, r) := by
  refine CT.of (lv := [(0, .ref (g.1 q0)), (1, .int a1), (2, .int a2)]) RX9 (by decide +kernel) rfl (Nat.le_of_ble_eq_true rfl) rfl ?_
  unfold f_X9_touches at h
  refine vr_aload_n (pc := 0) 0 dX9_touches_0 rfl rfl ?_
  obtain ⟨z1, hz2, h⟩ := ob_some h
  refine vr_callV (pc := 1) (ρ1 := (none, z1)) [] dX9_touches_1 (s_X9_starts l g (hq0) hz2) cw_X9_starts ml_X9_255 hq0 rfl (by decide) (by decide) rfl rfl (Nat.le_of_ble_eq_true rfl) ?_
  refine vr_iconst (pc := 4) 0 dX9_touches_4 ci_0 ?_
  refine vr_istore_n (pc := 5) [(3, .int 0), (0, .ref (g.1 q0)), (1, .int a1), (2, .int a2)] dX9_touches_5 rfl (by decide) rfl ?_
  refine vr_iconst (pc := 6) 1 dX9_touches_6 ci_1 ?_
  refine vr_istore (pc := 7) [(4, .int 1), (3, .int 0), (0, .ref (g.1 q0)), (1, .int a1), (2, .int a2)] dX9_touches_7 (by decide) rfl ?_
  refine vr_sub [2, 3, 4, 1, 0] [(0, .ref (g.1 q0)), (1, .int a1), (2, .int a2), (3, .int 0), (4, .int 1)] rfl ?_
  refine v_X9_touches_L9 l g (fun τ h => ?_) FU q0 a1 a2 0 1 (hq0) z1 h
  have h := Option.some.inj h; subst h
  exact vr_vret (pc := 120) dX9_touches_120 rfl rfl
theorem dX9_touch_0 : decode cX9_touch 0 = .ok (.aload_n 0, 1) := by decide +kernel
theorem dX9_touch_1 : decode cX9_touch 1 = .ok (.iload_n 1, 1) := by decide +kernel
theorem dX9_touch_2 : decode cX9_touch 2 = .ok (.invokevirtual 261, 3) := by decide +kernel
theorem dX9_touch_5 : decode cX9_touch 5 = .ok (.ifCond .ne 9, 3) := by decide +kernel
theorem dX9_touch_8 : decode cX9_touch 8 = .ok (.aload_n 0, 1) := by decide +kernel
theorem dX9_touch_9 : decode cX9_touch 9 = .ok (.iconst (-1), 1) := by decide +kernel
theorem dX9_touch_10 : decode cX9_touch 10 = .ok (.invokevirtual 104, 3) := by decide +kernel
theorem dX9_touch_13 : decode cX9_touch 13 = .ok (.ireturn, 1) := by decide +kernel
theorem dX9_touch_14 : decode cX9_touch 14 = .ok (.iload_n 2, 1) := by decide +kernel
theorem dX9_touch_15 : decode cX9_touch 15 = .ok (.ifCond .ge 10, 3) := by decide +kernel
theorem dX9_touch_18 : decode cX9_touch 18 = .ok (.aload_n 0, 1) := by decide +kernel
theorem dX9_touch_19 : decode cX9_touch 19 = .ok (.bipush (-4), 2) := by decide +kernel
theorem dX9_touch_21 : decode cX9_touch 21 = .ok (.invokevirtual 104, 3) := by decide +kernel
theorem dX9_touch_24 : decode cX9_touch 24 = .ok (.ireturn, 1) := by decide +kernel
theorem dX9_touch_25 : decode cX9_touch 25 = .ok (.iload_n 2, 1) := by decide +kernel
theorem dX9_touch_26 : decode cX9_touch 26 = .ok (.bipush 99, 2) := by decide +kernel
theorem dX9_touch_28 : decode cX9_touch 28 = .ok (.if_icmp .le 10, 3) := by decide +kernel
theorem dX9_touch_31 : decode cX9_touch 31 = .ok (.aload_n 0, 1) := by decide +kernel
theorem dX9_touch_32 : decode cX9_touch 32 = .ok (.bipush (-6), 2) := by decide +kernel
theorem dX9_touch_34 : decode cX9_touch 34 = .ok (.invokevirtual 104, 3) := by decide +kernel
theorem dX9_touch_37 : decode cX9_touch 37 = .ok (.ireturn, 1) := by decide +kernel
theorem dX9_touch_38 : decode cX9_touch 38 = .ok (.iload_n 3, 1) := by decide +kernel
theorem dX9_touch_39 : decode cX9_touch 39 = .ok (.iconst 0, 1) := by decide +kernel
theorem dX9_touch_40 : decode cX9_touch 40 = .ok (.iconst 2, 1) := by decide +kernel
theorem dX9_touch_41 : decode cX9_touch 41 = .ok (.invokestatic 111, 3) := by decide +kernel
theorem dX9_touch_44 : decode cX9_touch 44 = .ok (.ifCond .ne 10, 3) := by decide +kernel
theorem dX9_touch_47 : decode cX9_touch 47 = .ok (.aload_n 0, 1) := by decide +kernel
theorem dX9_touch_48 : decode cX9_touch 48 = .ok (.bipush (-2), 2) := by decide +kernel
theorem dX9_touch_50 : decode cX9_touch 50 = .ok (.invokevirtual 104, 3) := by decide +kernel
theorem dX9_touch_53 : decode cX9_touch 53 = .ok (.ireturn, 1) := by decide +kernel
theorem dX9_touch_54 : decode cX9_touch 54 = .ok (.aload_n 0, 1) := by decide +kernel
theorem dX9_touch_55 : decode cX9_touch 55 = .ok (.iload_n 1, 1) := by decide +kernel
theorem dX9_touch_56 : decode cX9_touch 56 = .ok (.iload_n 2, 1) := by decide +kernel
theorem dX9_touch_57 : decode cX9_touch 57 = .ok (.iconst 1, 1) := by decide +kernel
theorem dX9_touch_58 : decode cX9_touch 58 = .ok (.iadd, 1) := by decide +kernel
theorem dX9_touch_59 : decode cX9_touch 59 = .ok (.invokevirtual 264, 3) := by decide +kernel
theorem dX9_touch_62 : decode cX9_touch 62 = .ok (.iload_n 3, 1) := by decide +kernel
theorem dX9_touch_63 : decode cX9_touch 63 = .ok (.ifCond .ne 12, 3) := by decide +kernel
theorem dX9_touch_66 : decode cX9_touch 66 = .ok (.aload_n 0, 1) := by decide +kernel
theorem dX9_touch_67 : decode cX9_touch 67 = .ok (.getfield 84, 3) := by decide +kernel
theorem dX9_touch_70 : decode cX9_touch 70 = .ok (.iload_n 2, 1) := by decide +kernel
theorem dX9_touch_71 : decode cX9_touch 71 = .ok (.iaload, 1) := by decide +kernel
theorem dX9_touch_72 : decode cX9_touch 72 = .ok (.goto 23, 3) := by decide +kernel
theorem dX9_touch_75 : decode cX9_touch 75 = .ok (.iload_n 3, 1) := by decide +kernel
theorem dX9_touch_76 : decode cX9_touch 76 = .ok (.iconst 1, 1) := by decide +kernel
theorem dX9_touch_77 : decode cX9_touch 77 = .ok (.if_icmp .ne 12, 3) := by decide +kernel
theorem dX9_touch_80 : decode cX9_touch 80 = .ok (.aload_n 0, 1) := by decide +kernel
theorem dX9_touch_81 : decode cX9_touch 81 = .ok (.getfield 87, 3) := by decide +kernel
theorem dX9_touch_84 : decode cX9_touch 84 = .ok (.iload_n 2, 1) := by decide +kernel
theorem dX9_touch_85 : decode cX9_touch 85 = .ok (.iaload, 1) := by decide +kernel
theorem dX9_touch_86 : decode cX9_touch 86 = .ok (.goto 9, 3) := by decide +kernel
theorem dX9_touch_89 : decode cX9_touch 89 = .ok (.aload_n 0, 1) := by decide +kernel
theorem dX9_touch_90 : decode cX9_touch 90 = .ok (.getfield 90, 3) := by decide +kernel
theorem dX9_touch_93 : decode cX9_touch 93 = .ok (.iload_n 2, 1) := by decide +kernel
theorem dX9_touch_94 : decode cX9_touch 94 = .ok (.iaload, 1) := by decide +kernel
theorem dX9_touch_95 : decode cX9_touch 95 = .ok (.ireturn, 1) := by decide +kernel
set_option maxRecDepth 20000 in
set_option maxHeartbeats 4000000 in
theorem s_X9_touch (l : Launch) (g : GG) {q0 : Nat} (hq0 : kd q0 = 8) {a1 : Int32} {a2 : Int32} {a3 : Int32} {σ : SS} {r : Int32 × SS} (h : f_X9_touch q0 a1 a2 a3 σ = some r) : CT l g 5 yX9_touch cX9_touch 4 (some .int) [.ref (g.1 q0), .int a1, .int a2, .int a3] σ (some (.int r.1), r.2) := by
  refine CT.of (lv := [(0, .ref (g.1 q0)), (1, .int a1), (2, .int a2), (3, .int a3)]) RX9 (by decide +kernel) rfl (Nat.le_of_ble_eq_true rfl) rfl ?_
  unfold f_X9_touch at h
  refine vr_aload_n (pc := 0) 0 dX9_touch_0 rfl rfl ?_
  refine vr_iload_n (pc := 1) 1 dX9_touch_1 rfl rfl ?_
  refine vr_callV (pc := 2) (ρ1 := (some (.int (f_X9_isSet q0 a1 σ)), σ)) [.int a1] dX9_touch_2 (s_X9_isSet l g (hq0) rfl) cw_X9_isSet ml_X9_261 hq0 rfl (by decide) (by decide) rfl rfl (Nat.le_of_ble_eq_true rfl) ?_
  refine vr_if_ne (pc := 5) 14 dX9_touch_5 (by decide) (fun c1 => ?_) (fun c1 => ?_)
  · rw [if_neg c1] at h
    refine vr_iload_n (pc := 14) 2 dX9_touch_14 rfl rfl ?_
    refine vr_if_ge (pc := 15) 25 dX9_touch_15 (by decide) (fun c2 => ?_) (fun c2 => ?_)
    · rw [if_pos c2] at h
      refine vr_iload_n (pc := 25) 2 dX9_touch_25 rfl rfl ?_
      refine vr_bipush (pc := 26) 99 dX9_touch_26 cb_99 ?_
      refine vr_icmp_le (pc := 28) 38 dX9_touch_28 (by decide) (fun c3 => ?_) (fun c3 => ?_)
      · rw [if_pos c3] at h
        refine vr_iload_n (pc := 38) 3 dX9_touch_38 rfl rfl ?_
        refine vr_iconst (pc := 39) 0 dX9_touch_39 ci_0 ?_
        refine vr_iconst (pc := 40) 2 dX9_touch_40 ci_2 ?_
        refine vr_callS (pc := 41) (ρ1 := (some (.int (f_X9_within a3 0 2)), σ)) [.int a3, .int 0, .int 2] dX9_touch_41 (s_X9_within l g rfl) cw_X9_within ml_X9_111 (by decide) rfl rfl (Nat.le_of_ble_eq_true rfl) ?_
        refine vr_if_ne (pc := 44) 54 dX9_touch_44 (by decide) (fun c4 => ?_) (fun c4 => ?_)
        · rw [if_neg c4] at h
          refine vr_aload_n (pc := 54) 0 dX9_touch_54 rfl rfl ?_
          refine vr_iload_n (pc := 55) 1 dX9_touch_55 rfl rfl ?_
          refine vr_iload_n (pc := 56) 2 dX9_touch_56 rfl rfl ?_
          refine vr_iconst (pc := 57) 1 dX9_touch_57 ci_1 ?_
          refine vr_iadd (pc := 58) dX9_touch_58 ?_
          obtain ⟨z5, hz6, h⟩ := ob_some h
          refine vr_callV (pc := 59) (ρ1 := (none, z5)) [.int a1, .int (a2 + 1)] dX9_touch_59 (s_X9_touches l g (hq0) hz6) cw_X9_touches ml_X9_264 hq0 rfl (by decide) (by decide) rfl rfl (Nat.le_of_ble_eq_true rfl) ?_
          refine vr_iload_n (pc := 62) 3 dX9_touch_62 rfl rfl ?_
          refine vr_if_ne (pc := 63) 75 dX9_touch_63 (by decide) (fun c7 => ?_) (fun c7 => ?_)
          · rw [if_neg c7] at h
            refine vr_iload_n (pc := 75) 3 dX9_touch_75 rfl rfl ?_
            refine vr_iconst (pc := 76) 1 dX9_touch_76 ci_1 ?_
            refine vr_icmp_ne (pc := 77) 89 dX9_touch_77 (by decide) (fun c8 => ?_) (fun c8 => ?_)
            · rw [if_neg c8] at h
              refine vr_aload_n (pc := 89) 0 dX9_touch_89 rfl rfl ?_
              refine vr_getR (pc := 90) 33 dX9_touch_90 fi_X9_90 hq0 (sh_8_33 hq0).1 ?_
              refine vr_iload_n (pc := 93) 2 dX9_touch_93 rfl rfl ?_
              obtain ⟨hc9, h⟩ := ck_some h
              refine vr_iald (pc := 94) dX9_touch_94 (sh_8_33 hq0).2 hc9 ?_
              have h := Option.some.inj h; subst h
              exact vr_iret (pc := 95) .int dX9_touch_95 rfl rfl rfl
            · rw [if_pos c8] at h
              refine vr_aload_n (pc := 80) 0 dX9_touch_80 rfl rfl ?_
              refine vr_getR (pc := 81) 32 dX9_touch_81 fi_X9_87 hq0 (sh_8_32 hq0).1 ?_
              refine vr_iload_n (pc := 84) 2 dX9_touch_84 rfl rfl ?_
              obtain ⟨hc10, h⟩ := ck_some h
              refine vr_iald (pc := 85) dX9_touch_85 (sh_8_32 hq0).2 hc10 ?_
              refine vr_goto (pc := 86) 95 dX9_touch_86 (by decide) ?_
              have h := Option.some.inj h; subst h
              exact vr_iret (pc := 95) .int dX9_touch_95 rfl rfl rfl
          · rw [if_pos c7] at h
            refine vr_aload_n (pc := 66) 0 dX9_touch_66 rfl rfl ?_
            refine vr_getR (pc := 67) 31 dX9_touch_67 fi_X9_84 hq0 (sh_8_31 hq0).1 ?_
            refine vr_iload_n (pc := 70) 2 dX9_touch_70 rfl rfl ?_
            obtain ⟨hc11, h⟩ := ck_some h
            refine vr_iald (pc := 71) dX9_touch_71 (sh_8_31 hq0).2 hc11 ?_
            refine vr_goto (pc := 72) 95 dX9_touch_72 (by decide) ?_
            have h := Option.some.inj h; subst h
            exact vr_iret (pc := 95) .int dX9_touch_95 rfl rfl rfl
        · rw [if_pos c4] at h
          refine vr_aload_n (pc := 47) 0 dX9_touch_47 rfl rfl ?_
          refine vr_bipush (pc := 48) (-2) dX9_touch_48 cb_m2 ?_
          obtain ⟨z12, hz13, h⟩ := ob_some h
          refine vr_callV (pc := 50) (ρ1 := (some (.int z12.1), z12.2)) [.int (-2)] dX9_touch_50 (s_X9_no l g (hq0) hz13) cw_X9_no ml_X9_104 hq0 rfl (by decide) (by decide) rfl rfl (Nat.le_of_ble_eq_true rfl) ?_
          have h := Option.some.inj h; subst h
          exact vr_iret (pc := 53) .int dX9_touch_53 rfl rfl rfl
      · rw [if_neg c3] at h
        refine vr_aload_n (pc := 31) 0 dX9_touch_31 rfl rfl ?_
        refine vr_bipush (pc := 32) (-6) dX9_touch_32 cb_m6 ?_
        obtain ⟨z14, hz15, h⟩ := ob_some h
        refine vr_callV (pc := 34) (ρ1 := (some (.int z14.1), z14.2)) [.int (-6)] dX9_touch_34 (s_X9_no l g (hq0) hz15) cw_X9_no ml_X9_104 hq0 rfl (by decide) (by decide) rfl rfl (Nat.le_of_ble_eq_true rfl) ?_
        have h := Option.some.inj h; subst h
        exact vr_iret (pc := 37) .int dX9_touch_37 rfl rfl rfl
    · rw [if_neg c2] at h
      refine vr_aload_n (pc := 18) 0 dX9_touch_18 rfl rfl ?_
      refine vr_bipush (pc := 19) (-4) dX9_touch_19 cb_m4 ?_
      obtain ⟨z16, hz17, h⟩ := ob_some h
      refine vr_callV (pc := 21) (ρ1 := (some (.int z16.1), z16.2)) [.int (-4)] dX9_touch_21 (s_X9_no l g (hq0) hz17) cw_X9_no ml_X9_104 hq0 rfl (by decide) (by decide) rfl rfl (Nat.le_of_ble_eq_true rfl) ?_
      have h := Option.some.inj h; subst h
      exact vr_iret (pc := 24) .int dX9_touch_24 rfl rfl rfl
  · rw [if_pos c1] at h
    refine vr_aload_n (pc := 8) 0 dX9_touch_8 rfl rfl ?_
    refine vr_iconst (pc := 9) (-1) dX9_touch_9 ci_m1 ?_
    obtain ⟨z18, hz19, h⟩ := ob_some h
    refine vr_callV (pc := 10) (ρ1 := (some (.int z18.1), z18.2)) [.int (-1)] dX9_touch_10 (s_X9_no l g (hq0) hz19) cw_X9_no ml_X9_104 hq0 rfl (by decide) (by decide) rfl rfl (Nat.le_of_ble_eq_true rfl) ?_
    have h := Option.some.inj h; subst h
    exact vr_iret (pc := 13) .int dX9_touch_13 rfl rfl rfl
theorem dX9_meet_0 : decode cX9_meet 0 = .ok (.aload_n 0, 1) := by decide +kernel
theorem dX9_meet_1 : decode cX9_meet 1 = .ok (.iload_n 1, 1) := by decide +kernel
theorem dX9_meet_2 : decode cX9_meet 2 = .ok (.invokevirtual 261, 3) := by decide +kernel
theorem dX9_meet_5 : decode cX9_meet 5 = .ok (.ifCond .ne 9, 3) := by decide +kernel
theorem dX9_meet_8 : decode cX9_meet 8 = .ok (.aload_n 0, 1) := by decide +kernel
theorem dX9_meet_9 : decode cX9_meet 9 = .ok (.iconst (-1), 1) := by decide +kernel
theorem dX9_meet_10 : decode cX9_meet 10 = .ok (.invokevirtual 104, 3) := by decide +kernel
theorem dX9_meet_13 : decode cX9_meet 13 = .ok (.ireturn, 1) := by decide +kernel
theorem dX9_meet_14 : decode cX9_meet 14 = .ok (.iload_n 2, 1) := by decide +kernel
theorem dX9_meet_15 : decode cX9_meet 15 = .ok (.iconst 0, 1) := by decide +kernel
theorem dX9_meet_16 : decode cX9_meet 16 = .ok (.iconst 1, 1) := by decide +kernel
theorem dX9_meet_17 : decode cX9_meet 17 = .ok (.invokestatic 111, 3) := by decide +kernel
theorem dX9_meet_20 : decode cX9_meet 20 = .ok (.ifCond .ne 10, 3) := by decide +kernel
theorem dX9_meet_23 : decode cX9_meet 23 = .ok (.aload_n 0, 1) := by decide +kernel
theorem dX9_meet_24 : decode cX9_meet 24 = .ok (.bipush (-2), 2) := by decide +kernel
theorem dX9_meet_26 : decode cX9_meet 26 = .ok (.invokevirtual 104, 3) := by decide +kernel
theorem dX9_meet_29 : decode cX9_meet 29 = .ok (.ireturn, 1) := by decide +kernel
theorem dX9_meet_30 : decode cX9_meet 30 = .ok (.aload_n 0, 1) := by decide +kernel
theorem dX9_meet_31 : decode cX9_meet 31 = .ok (.invokevirtual 255, 3) := by decide +kernel
theorem dX9_meet_34 : decode cX9_meet 34 = .ok (.iconst 1, 1) := by decide +kernel
theorem dX9_meet_35 : decode cX9_meet 35 = .ok (.istore_n 3, 1) := by decide +kernel
theorem dX9_meet_36 : decode cX9_meet 36 = .ok (.iload_n 3, 1) := by decide +kernel
theorem dX9_meet_37 : decode cX9_meet 37 = .ok (.sipush 200, 3) := by decide +kernel
theorem dX9_meet_40 : decode cX9_meet 40 = .ok (.if_icmp .gt 97, 3) := by decide +kernel
theorem dX9_meet_43 : decode cX9_meet 43 = .ok (.aload_n 0, 1) := by decide +kernel
theorem dX9_meet_44 : decode cX9_meet 44 = .ok (.iload_n 1, 1) := by decide +kernel
theorem dX9_meet_45 : decode cX9_meet 45 = .ok (.iload_n 3, 1) := by decide +kernel
theorem dX9_meet_46 : decode cX9_meet 46 = .ok (.invokevirtual 258, 3) := by decide +kernel
theorem dX9_meet_49 : decode cX9_meet 49 = .ok (.iconst 0, 1) := by decide +kernel
theorem dX9_meet_50 : decode cX9_meet 50 = .ok (.istore 4, 2) := by decide +kernel
theorem dX9_meet_52 : decode cX9_meet 52 = .ok (.iload 4, 2) := by decide +kernel
theorem dX9_meet_54 : decode cX9_meet 54 = .ok (.aload_n 0, 1) := by decide +kernel
theorem dX9_meet_55 : decode cX9_meet 55 = .ok (.getfield 7, 3) := by decide +kernel
theorem dX9_meet_58 : decode cX9_meet 58 = .ok (.if_icmp .ge 73, 3) := by decide +kernel
theorem dX9_meet_61 : decode cX9_meet 61 = .ok (.iconst 0, 1) := by decide +kernel
theorem dX9_meet_62 : decode cX9_meet 62 = .ok (.istore 5, 2) := by decide +kernel
theorem dX9_meet_64 : decode cX9_meet 64 = .ok (.iconst 0, 1) := by decide +kernel
theorem dX9_meet_65 : decode cX9_meet 65 = .ok (.istore 6, 2) := by decide +kernel
theorem dX9_meet_67 : decode cX9_meet 67 = .ok (.iload 6, 2) := by decide +kernel
theorem dX9_meet_69 : decode cX9_meet 69 = .ok (.aload_n 0, 1) := by decide +kernel
theorem dX9_meet_70 : decode cX9_meet 70 = .ok (.getfield 108, 3) := by decide +kernel
theorem dX9_meet_73 : decode cX9_meet 73 = .ok (.if_icmp .ge 35, 3) := by decide +kernel
theorem dX9_meet_76 : decode cX9_meet 76 = .ok (.aload_n 0, 1) := by decide +kernel
theorem dX9_meet_77 : decode cX9_meet 77 = .ok (.getfield 96, 3) := by decide +kernel
theorem dX9_meet_80 : decode cX9_meet 80 = .ok (.iload 6, 2) := by decide +kernel
theorem dX9_meet_82 : decode cX9_meet 82 = .ok (.iaload, 1) := by decide +kernel
theorem dX9_meet_83 : decode cX9_meet 83 = .ok (.iconst 1, 1) := by decide +kernel
theorem dX9_meet_84 : decode cX9_meet 84 = .ok (.if_icmp .ne 18, 3) := by decide +kernel
theorem dX9_meet_87 : decode cX9_meet 87 = .ok (.aload_n 0, 1) := by decide +kernel
theorem dX9_meet_88 : decode cX9_meet 88 = .ok (.getfield 93, 3) := by decide +kernel
theorem dX9_meet_91 : decode cX9_meet 91 = .ok (.iload 6, 2) := by decide +kernel
theorem dX9_meet_93 : decode cX9_meet 93 = .ok (.iaload, 1) := by decide +kernel
theorem dX9_meet_94 : decode cX9_meet 94 = .ok (.iload 4, 2) := by decide +kernel
theorem dX9_meet_96 : decode cX9_meet 96 = .ok (.if_icmp .ne 6, 3) := by decide +kernel
theorem dX9_meet_99 : decode cX9_meet 99 = .ok (.iinc 5 1, 3) := by decide +kernel
theorem dX9_meet_102 : decode cX9_meet 102 = .ok (.iinc 6 1, 3) := by decide +kernel
theorem dX9_meet_105 : decode cX9_meet 105 = .ok (.goto (-38), 3) := by decide +kernel
theorem dX9_meet_108 : decode cX9_meet 108 = .ok (.iload 5, 2) := by decide +kernel
theorem dX9_meet_110 : decode cX9_meet 110 = .ok (.iconst 1, 1) := by decide +kernel
theorem dX9_meet_111 : decode cX9_meet 111 = .ok (.if_icmp .le 14, 3) := by decide +kernel
theorem dX9_meet_114 : decode cX9_meet 114 = .ok (.iload_n 2, 1) := by decide +kernel
theorem dX9_meet_115 : decode cX9_meet 115 = .ok (.ifCond .ne 7, 3) := by decide +kernel
theorem dX9_meet_118 : decode cX9_meet 118 = .ok (.iload_n 3, 1) := by decide +kernel
theorem dX9_meet_119 : decode cX9_meet 119 = .ok (.goto 5, 3) := by decide +kernel
theorem dX9_meet_122 : decode cX9_meet 122 = .ok (.iload 4, 2) := by decide +kernel
theorem dX9_meet_124 : decode cX9_meet 124 = .ok (.ireturn, 1) := by decide +kernel
theorem dX9_meet_125 : decode cX9_meet 125 = .ok (.iinc 4 1, 3) := by decide +kernel
theorem dX9_meet_128 : decode cX9_meet 128 = .ok (.goto (-76), 3) := by decide +kernel
theorem dX9_meet_131 : decode cX9_meet 131 = .ok (.iinc 3 1, 3) := by decide +kernel
theorem dX9_meet_134 : decode cX9_meet 134 = .ok (.goto (-98), 3) := by decide +kernel
theorem dX9_meet_137 : decode cX9_meet 137 = .ok (.bipush (-9), 2) := by decide +kernel
theorem dX9_meet_139 : decode cX9_meet 139 = .ok (.ireturn, 1) := by decide +kernel
set_option maxRecDepth 20000 in
set_option maxHeartbeats 4000000 in
theorem v_X9_meet_L67 (l : Launch) (g : GG) {r : Int32 × SS} {κ : Nat → Int32 → Int32 → Int32 → Int32 → Int32 → SS → Option (Int32 × SS)} (hκ : ∀ (p0 : Nat) (y1 : Int32) (y2 : Int32) (y3 : Int32) (y4 : Int32) (y5 : Int32) (τ : SS) (hp0 : kd p0 = 8), κ p0 y1 y2 y3 y4 y5 τ = some r → VV l g 4 RX9 cX9_meet 7 (some .int) (some (.int r.1), r.2) 108 [(0, .ref (g.1 p0)), (1, .int y1), (2, .int y2), (3, .int y3), (4, .int y4), (5, .int y5)] [] τ) : ∀ (fu : Nat) (q0 : Nat) (x1 : Int32) (x2 : Int32) (x3 : Int32) (x4 : Int32) (x5 : Int32) (x6 : Int32) (hq0 : kd q0 = 8) (σ : SS), f_X9_meet_L67 κ fu q0 x1 x2 x3 x4 x5 x6 σ = some r → VV l g 4 RX9 cX9_meet 7 (some .int) (some (.int r.1), r.2) 67 [(0, .ref (g.1 q0)), (1, .int x1), (2, .int x2), (3, .int x3), (4, .int x4), (5, .int x5), (6, .int x6)] [] σ := by
  intro fu
  induction fu with
  | zero => intro q0 x1 x2 x3 x4 x5 x6 hq0 σ h; cases h
  | succ fu ih =>
    intro q0 x1 x2 x3 x4 x5 x6 hq0 σ h
    simp only [f_X9_meet_L67] at h
    refine vr_iload (pc := 67) 6 dX9_meet_67 rfl ?_
    refine vr_aload_n (pc := 69) 0 dX9_meet_69 rfl rfl ?_
    refine vr_getI (pc := 70) 3 dX9_meet_70 fi_X9_108 hq0 (sh_8_3 hq0) ?_
    refine vr_icmp_ge (pc := 73) 108 dX9_meet_73 (by decide) (fun c9 => ?_) (fun c9 => ?_)
    · rw [if_pos c9] at h
      refine vr_sub [0, 1, 2, 3, 4, 5] [(0, .ref (g.1 q0)), (1, .int x1), (2, .int x2), (3, .int x3), (4, .int x4), (5, .int x5)] rfl ?_
      exact hκ q0 x1 x2 x3 x4 x5 σ (hq0) h
    · rw [if_neg c9] at h
      refine vr_aload_n (pc := 76) 0 dX9_meet_76 rfl rfl ?_
      refine vr_getR (pc := 77) 35 dX9_meet_77 fi_X9_96 hq0 (sh_8_35 hq0).1 ?_
      refine vr_iload (pc := 80) 6 dX9_meet_80 rfl ?_
      obtain ⟨hc10, h⟩ := ck_some h
      refine vr_iald (pc := 82) dX9_meet_82 (sh_8_35 hq0).2 hc10 ?_
      refine vr_iconst (pc := 83) 1 dX9_meet_83 ci_1 ?_
      refine vr_icmp_ne (pc := 84) 102 dX9_meet_84 (by decide) (fun c11 => ?_) (fun c11 => ?_)
      · rw [if_neg c11] at h
        refine vr_iinc (pc := 102) [(6, .int (x6 + 1)), (0, .ref (g.1 q0)), (1, .int x1), (2, .int x2), (3, .int x3), (4, .int x4), (5, .int x5)] 6 dX9_meet_102 rfl (congrArg (fun z => x6 + z) ci_1) (by decide) rfl ?_
        refine vr_goto (pc := 105) 67 dX9_meet_105 (by decide) ?_
        refine vr_sub [1, 2, 3, 4, 5, 6, 0] [(0, .ref (g.1 q0)), (1, .int x1), (2, .int x2), (3, .int x3), (4, .int x4), (5, .int x5), (6, .int (x6 + 1))] rfl ?_
        exact ih q0 x1 x2 x3 x4 x5 (x6 + 1) (hq0) σ h
      · rw [if_pos c11] at h
        refine vr_aload_n (pc := 87) 0 dX9_meet_87 rfl rfl ?_
        refine vr_getR (pc := 88) 34 dX9_meet_88 fi_X9_93 hq0 (sh_8_34 hq0).1 ?_
        refine vr_iload (pc := 91) 6 dX9_meet_91 rfl ?_
        obtain ⟨hc12, h⟩ := ck_some h
        refine vr_iald (pc := 93) dX9_meet_93 (sh_8_34 hq0).2 hc12 ?_
        refine vr_iload (pc := 94) 4 dX9_meet_94 rfl ?_
        refine vr_icmp_ne (pc := 96) 102 dX9_meet_96 (by decide) (fun c13 => ?_) (fun c13 => ?_)
        · rw [if_neg c13] at h
          refine vr_iinc (pc := 102) [(6, .int (x6 + 1)), (0, .ref (g.1 q0)), (1, .int x1), (2, .int x2), (3, .int x3), (4, .int x4), (5, .int x5)] 6 dX9_meet_102 rfl (congrArg (fun z => x6 + z) ci_1) (by decide) rfl ?_
          refine vr_goto (pc := 105) 67 dX9_meet_105 (by decide) ?_
          refine vr_sub [1, 2, 3, 4, 5, 6, 0] [(0, .ref (g.1 q0)), (1, .int x1), (2, .int x2), (3, .int x3), (4, .int x4), (5, .int x5), (6, .int (x6 + 1))] rfl ?_
          exact ih q0 x1 x2 x3 x4 x5 (x6 + 1) (hq0) σ h
        · rw [if_pos c13] at h
          refine vr_iinc (pc := 99) [(5, .int (x5 + 1)), (0, .ref (g.1 q0)), (1, .int x1), (2, .int x2), (3, .int x3), (4, .int x4), (6, .int x6)] 5 dX9_meet_99 rfl (congrArg (fun z => x5 + z) ci_1) (by decide) rfl ?_
          refine vr_iinc (pc := 102) [(6, .int (x6 + 1)), (5, .int (x5 + 1)), (0, .ref (g.1 q0)), (1, .int x1), (2, .int x2), (3, .int x3), (4, .int x4)] 6 dX9_meet_102 rfl (congrArg (fun z => x6 + z) ci_1) (by decide) rfl ?_
          refine vr_goto (pc := 105) 67 dX9_meet_105 (by decide) ?_
          refine vr_sub [2, 3, 4, 5, 6, 1, 0] [(0, .ref (g.1 q0)), (1, .int x1), (2, .int x2), (3, .int x3), (4, .int x4), (5, .int (x5 + 1)), (6, .int (x6 + 1))] rfl ?_
          exact ih q0 x1 x2 x3 x4 (x5 + 1) (x6 + 1) (hq0) σ h
set_option maxRecDepth 20000 in
set_option maxHeartbeats 4000000 in
theorem v_X9_meet_L52 (l : Launch) (g : GG) {r : Int32 × SS} {κ : Nat → Int32 → Int32 → Int32 → SS → Option (Int32 × SS)} (hκ : ∀ (p0 : Nat) (y1 : Int32) (y2 : Int32) (y3 : Int32) (τ : SS) (hp0 : kd p0 = 8), κ p0 y1 y2 y3 τ = some r → VV l g 4 RX9 cX9_meet 7 (some .int) (some (.int r.1), r.2) 131 [(0, .ref (g.1 p0)), (1, .int y1), (2, .int y2), (3, .int y3)] [] τ) : ∀ (fu : Nat) (q0 : Nat) (x1 : Int32) (x2 : Int32) (x3 : Int32) (x4 : Int32) (hq0 : kd q0 = 8) (σ : SS), f_X9_meet_L52 κ fu q0 x1 x2 x3 x4 σ = some r → VV l g 4 RX9 cX9_meet 7 (some .int) (some (.int r.1), r.2) 52 [(0, .ref (g.1 q0)), (1, .int x1), (2, .int x2), (3, .int x3), (4, .int x4)] [] σ := by
  intro fu
  induction fu with
  | zero => intro q0 x1 x2 x3 x4 hq0 σ h; cases h
  | succ fu ih =>
    intro q0 x1 x2 x3 x4 hq0 σ h
    simp only [f_X9_meet_L52] at h
    refine vr_iload (pc := 52) 4 dX9_meet_52 rfl ?_
    refine vr_aload_n (pc := 54) 0 dX9_meet_54 rfl rfl ?_
    refine vr_getI (pc := 55) 0 dX9_meet_55 fi_X9_7 hq0 (sh_8_0 hq0) ?_
    refine vr_icmp_ge (pc := 58) 131 dX9_meet_58 (by decide) (fun c8 => ?_) (fun c8 => ?_)
    · rw [if_pos c8] at h
      refine vr_sub [0, 1, 2, 3] [(0, .ref (g.1 q0)), (1, .int x1), (2, .int x2), (3, .int x3)] rfl ?_
      exact hκ q0 x1 x2 x3 σ (hq0) h
    · rw [if_neg c8] at h
      refine vr_iconst (pc := 61) 0 dX9_meet_61 ci_0 ?_
      refine vr_istore (pc := 62) [(5, .int 0), (0, .ref (g.1 q0)), (1, .int x1), (2, .int x2), (3, .int x3), (4, .int x4)] dX9_meet_62 (by decide) rfl ?_
      refine vr_iconst (pc := 64) 0 dX9_meet_64 ci_0 ?_
      refine vr_istore (pc := 65) [(6, .int 0), (5, .int 0), (0, .ref (g.1 q0)), (1, .int x1), (2, .int x2), (3, .int x3), (4, .int x4)] dX9_meet_65 (by decide) rfl ?_
      refine vr_sub [2, 3, 4, 5, 6, 1, 0] [(0, .ref (g.1 q0)), (1, .int x1), (2, .int x2), (3, .int x3), (4, .int x4), (5, .int 0), (6, .int 0)] rfl ?_
      refine v_X9_meet_L67 l g (fun p0 y1 y2 y3 y4 y5 τ hp0 h => ?_) FU q0 x1 x2 x3 x4 0 0 (hq0) σ h
      refine vr_iload (pc := 108) 5 dX9_meet_108 rfl ?_
      refine vr_iconst (pc := 110) 1 dX9_meet_110 ci_1 ?_
      refine vr_icmp_le (pc := 111) 125 dX9_meet_111 (by decide) (fun c14 => ?_) (fun c14 => ?_)
      · rw [if_pos c14] at h
        refine vr_iinc (pc := 125) [(4, .int (y4 + 1)), (0, .ref (g.1 p0)), (1, .int y1), (2, .int y2), (3, .int y3), (5, .int y5)] 4 dX9_meet_125 rfl (congrArg (fun z => y4 + z) ci_1) (by decide) rfl ?_
        refine vr_goto (pc := 128) 52 dX9_meet_128 (by decide) ?_
        refine vr_sub [1, 2, 3, 4, 0] [(0, .ref (g.1 p0)), (1, .int y1), (2, .int y2), (3, .int y3), (4, .int (y4 + 1))] rfl ?_
        exact ih p0 y1 y2 y3 (y4 + 1) (hp0) τ h
      · rw [if_neg c14] at h
        refine vr_iload_n (pc := 114) 2 dX9_meet_114 rfl rfl ?_
        refine vr_if_ne (pc := 115) 122 dX9_meet_115 (by decide) (fun c15 => ?_) (fun c15 => ?_)
        · rw [if_neg c15] at h
          refine vr_iload (pc := 122) 4 dX9_meet_122 rfl ?_
          have h := Option.some.inj h; subst h
          exact vr_iret (pc := 124) .int dX9_meet_124 rfl rfl rfl
        · rw [if_pos c15] at h
          refine vr_iload_n (pc := 118) 3 dX9_meet_118 rfl rfl ?_
          refine vr_goto (pc := 119) 124 dX9_meet_119 (by decide) ?_
          have h := Option.some.inj h; subst h
          exact vr_iret (pc := 124) .int dX9_meet_124 rfl rfl rfl
set_option maxRecDepth 20000 in
set_option maxHeartbeats 4000000 in
theorem v_X9_meet_L36 (l : Launch) (g : GG) {r : Int32 × SS} {κ : SS → Option (Int32 × SS)} (hκ : ∀ (τ : SS) , κ  τ = some r → VV l g 4 RX9 cX9_meet 7 (some .int) (some (.int r.1), r.2) 137 [] [] τ) : ∀ (fu : Nat) (q0 : Nat) (x1 : Int32) (x2 : Int32) (x3 : Int32) (hq0 : kd q0 = 8) (σ : SS), f_X9_meet_L36 κ fu q0 x1 x2 x3 σ = some r → VV l g 4 RX9 cX9_meet 7 (some .int) (some (.int r.1), r.2) 36 [(0, .ref (g.1 q0)), (1, .int x1), (2, .int x2), (3, .int x3)] [] σ := by
  intro fu
  induction fu with
  | zero => intro q0 x1 x2 x3 hq0 σ h; cases h
  | succ fu ih =>
    intro q0 x1 x2 x3 hq0 σ h
    simp only [f_X9_meet_L36] at h
    refine vr_iload_n (pc := 36) 3 dX9_meet_36 rfl rfl ?_
    refine vr_sipush (pc := 37) 200 dX9_meet_37 cs_200 ?_
    refine vr_icmp_gt (pc := 40) 137 dX9_meet_40 (by decide) (fun c5 => ?_) (fun c5 => ?_)
    · rw [if_pos c5] at h
      refine vr_sub [] [] rfl ?_
      exact hκ σ h
    · rw [if_neg c5] at h
      refine vr_aload_n (pc := 43) 0 dX9_meet_43 rfl rfl ?_
      refine vr_iload_n (pc := 44) 1 dX9_meet_44 rfl rfl ?_
      refine vr_iload_n (pc := 45) 3 dX9_meet_45 rfl rfl ?_
      obtain ⟨z6, hz7, h⟩ := ob_some h
      refine vr_callV (pc := 46) (ρ1 := (none, z6)) [.int x1, .int x3] dX9_meet_46 (s_X9_ticks l g (hq0) hz7) cw_X9_ticks ml_X9_258 hq0 rfl (by decide) (by decide) rfl rfl (Nat.le_of_ble_eq_true rfl) ?_
      refine vr_iconst (pc := 49) 0 dX9_meet_49 ci_0 ?_
      refine vr_istore (pc := 50) [(4, .int 0), (0, .ref (g.1 q0)), (1, .int x1), (2, .int x2), (3, .int x3)] dX9_meet_50 (by decide) rfl ?_
      refine vr_sub [1, 2, 3, 4, 0] [(0, .ref (g.1 q0)), (1, .int x1), (2, .int x2), (3, .int x3), (4, .int 0)] rfl ?_
      refine v_X9_meet_L52 l g (fun p0 y1 y2 y3 τ hp0 h => ?_) FU q0 x1 x2 x3 0 (hq0) z6 h
      refine vr_iinc (pc := 131) [(3, .int (y3 + 1)), (0, .ref (g.1 p0)), (1, .int y1), (2, .int y2)] 3 dX9_meet_131 rfl (congrArg (fun z => y3 + z) ci_1) (by decide) rfl ?_
      refine vr_goto (pc := 134) 36 dX9_meet_134 (by decide) ?_
      refine vr_sub [1, 2, 3, 0] [(0, .ref (g.1 p0)), (1, .int y1), (2, .int y2), (3, .int (y3 + 1))] rfl ?_
      exact ih p0 y1 y2 (y3 + 1) (hp0) τ h
set_option maxRecDepth 20000 in
set_option maxHeartbeats 4000000 in
theorem s_X9_meet (l : Launch) (g : GG) {q0 : Nat} (hq0 : kd q0 = 8) {a1 : Int32} {a2 : Int32} {σ : SS} {r : Int32 × SS} (h : f_X9_meet q0 a1 a2 σ = some r) : CT l g 4 yX9_meet cX9_meet 7 (some .int) [.ref (g.1 q0), .int a1, .int a2] σ (some (.int r.1), r.2) := by
  refine CT.of (lv := [(0, .ref (g.1 q0)), (1, .int a1), (2, .int a2)]) RX9 (by decide +kernel) rfl (Nat.le_of_ble_eq_true rfl) rfl ?_
  unfold f_X9_meet at h
  refine vr_aload_n (pc := 0) 0 dX9_meet_0 rfl rfl ?_
  refine vr_iload_n (pc := 1) 1 dX9_meet_1 rfl rfl ?_
  refine vr_callV (pc := 2) (ρ1 := (some (.int (f_X9_isSet q0 a1 σ)), σ)) [.int a1] dX9_meet_2 (s_X9_isSet l g (hq0) rfl) cw_X9_isSet ml_X9_261 hq0 rfl (by decide) (by decide) rfl rfl (Nat.le_of_ble_eq_true rfl) ?_
  refine vr_if_ne (pc := 5) 14 dX9_meet_5 (by decide) (fun c1 => ?_) (fun c1 => ?_)
  · rw [if_neg c1] at h
    refine vr_iload_n (pc := 14) 2 dX9_meet_14 rfl rfl ?_
    refine vr_iconst (pc := 15) 0 dX9_meet_15 ci_0 ?_
    refine vr_iconst (pc := 16) 1 dX9_meet_16 ci_1 ?_
    refine vr_callS (pc := 17) (ρ1 := (some (.int (f_X9_within a2 0 1)), σ)) [.int a2, .int 0, .int 1] dX9_meet_17 (s_X9_within l g rfl) cw_X9_within ml_X9_111 (by decide) rfl rfl (Nat.le_of_ble_eq_true rfl) ?_
    refine vr_if_ne (pc := 20) 30 dX9_meet_20 (by decide) (fun c2 => ?_) (fun c2 => ?_)
    · rw [if_neg c2] at h
      refine vr_aload_n (pc := 30) 0 dX9_meet_30 rfl rfl ?_
      obtain ⟨z3, hz4, h⟩ := ob_some h
      refine vr_callV (pc := 31) (ρ1 := (none, z3)) [] dX9_meet_31 (s_X9_starts l g (hq0) hz4) cw_X9_starts ml_X9_255 hq0 rfl (by decide) (by decide) rfl rfl (Nat.le_of_ble_eq_true rfl) ?_
      refine vr_iconst (pc := 34) 1 dX9_meet_34 ci_1 ?_
      refine vr_istore_n (pc := 35) [(3, .int 1), (0, .ref (g.1 q0)), (1, .int a1), (2, .int a2)] dX9_meet_35 rfl (by decide) rfl ?_
      refine vr_sub [1, 2, 3, 0] [(0, .ref (g.1 q0)), (1, .int a1), (2, .int a2), (3, .int 1)] rfl ?_
      refine v_X9_meet_L36 l g (fun τ h => ?_) FU q0 a1 a2 1 (hq0) z3 h
      refine vr_bipush (pc := 137) (-9) dX9_meet_137 cb_m9 ?_
      have h := Option.some.inj h; subst h
      exact vr_iret (pc := 139) .int dX9_meet_139 rfl rfl rfl
    · rw [if_pos c2] at h
      refine vr_aload_n (pc := 23) 0 dX9_meet_23 rfl rfl ?_
      refine vr_bipush (pc := 24) (-2) dX9_meet_24 cb_m2 ?_
      obtain ⟨z16, hz17, h⟩ := ob_some h
      refine vr_callV (pc := 26) (ρ1 := (some (.int z16.1), z16.2)) [.int (-2)] dX9_meet_26 (s_X9_no l g (hq0) hz17) cw_X9_no ml_X9_104 hq0 rfl (by decide) (by decide) rfl rfl (Nat.le_of_ble_eq_true rfl) ?_
      have h := Option.some.inj h; subst h
      exact vr_iret (pc := 29) .int dX9_meet_29 rfl rfl rfl
  · rw [if_pos c1] at h
    refine vr_aload_n (pc := 8) 0 dX9_meet_8 rfl rfl ?_
    refine vr_iconst (pc := 9) (-1) dX9_meet_9 ci_m1 ?_
    obtain ⟨z18, hz19, h⟩ := ob_some h
    refine vr_callV (pc := 10) (ρ1 := (some (.int z18.1), z18.2)) [.int (-1)] dX9_meet_10 (s_X9_no l g (hq0) hz19) cw_X9_no ml_X9_104 hq0 rfl (by decide) (by decide) rfl rfl (Nat.le_of_ble_eq_true rfl) ?_
    have h := Option.some.inj h; subst h
    exact vr_iret (pc := 13) .int dX9_meet_13 rfl rfl rfl
theorem dX9_crowd_0 : decode cX9_crowd 0 = .ok (.aload_n 0, 1) := by decide +kernel
theorem dX9_crowd_1 : decode cX9_crowd 1 = .ok (.iload_n 1, 1) := by decide +kernel
theorem dX9_crowd_2 : decode cX9_crowd 2 = .ok (.invokevirtual 261, 3) := by decide +kernel
theorem dX9_crowd_5 : decode cX9_crowd 5 = .ok (.ifCond .ne 9, 3) := by decide +kernel
theorem dX9_crowd_8 : decode cX9_crowd 8 = .ok (.aload_n 0, 1) := by decide +kernel
theorem dX9_crowd_9 : decode cX9_crowd 9 = .ok (.iconst (-1), 1) := by decide +kernel
theorem dX9_crowd_10 : decode cX9_crowd 10 = .ok (.invokevirtual 104, 3) := by decide +kernel
theorem dX9_crowd_13 : decode cX9_crowd 13 = .ok (.ireturn, 1) := by decide +kernel
theorem dX9_crowd_14 : decode cX9_crowd 14 = .ok (.iload_n 2, 1) := by decide +kernel
theorem dX9_crowd_15 : decode cX9_crowd 15 = .ok (.ifCond .ge 10, 3) := by decide +kernel
theorem dX9_crowd_18 : decode cX9_crowd 18 = .ok (.aload_n 0, 1) := by decide +kernel
theorem dX9_crowd_19 : decode cX9_crowd 19 = .ok (.bipush (-4), 2) := by decide +kernel
theorem dX9_crowd_21 : decode cX9_crowd 21 = .ok (.invokevirtual 104, 3) := by decide +kernel
theorem dX9_crowd_24 : decode cX9_crowd 24 = .ok (.ireturn, 1) := by decide +kernel
theorem dX9_crowd_25 : decode cX9_crowd 25 = .ok (.iload_n 2, 1) := by decide +kernel
theorem dX9_crowd_26 : decode cX9_crowd 26 = .ok (.bipush 100, 2) := by decide +kernel
theorem dX9_crowd_28 : decode cX9_crowd 28 = .ok (.if_icmp .le 10, 3) := by decide +kernel
theorem dX9_crowd_31 : decode cX9_crowd 31 = .ok (.aload_n 0, 1) := by decide +kernel
theorem dX9_crowd_32 : decode cX9_crowd 32 = .ok (.bipush (-6), 2) := by decide +kernel
theorem dX9_crowd_34 : decode cX9_crowd 34 = .ok (.invokevirtual 104, 3) := by decide +kernel
theorem dX9_crowd_37 : decode cX9_crowd 37 = .ok (.ireturn, 1) := by decide +kernel
theorem dX9_crowd_38 : decode cX9_crowd 38 = .ok (.iload_n 3, 1) := by decide +kernel
theorem dX9_crowd_39 : decode cX9_crowd 39 = .ok (.iconst 0, 1) := by decide +kernel
theorem dX9_crowd_40 : decode cX9_crowd 40 = .ok (.iconst 2, 1) := by decide +kernel
theorem dX9_crowd_41 : decode cX9_crowd 41 = .ok (.invokestatic 111, 3) := by decide +kernel
theorem dX9_crowd_44 : decode cX9_crowd 44 = .ok (.ifCond .ne 10, 3) := by decide +kernel
theorem dX9_crowd_47 : decode cX9_crowd 47 = .ok (.aload_n 0, 1) := by decide +kernel
theorem dX9_crowd_48 : decode cX9_crowd 48 = .ok (.bipush (-2), 2) := by decide +kernel
theorem dX9_crowd_50 : decode cX9_crowd 50 = .ok (.invokevirtual 104, 3) := by decide +kernel
theorem dX9_crowd_53 : decode cX9_crowd 53 = .ok (.ireturn, 1) := by decide +kernel
theorem dX9_crowd_54 : decode cX9_crowd 54 = .ok (.aload_n 0, 1) := by decide +kernel
theorem dX9_crowd_55 : decode cX9_crowd 55 = .ok (.iload_n 1, 1) := by decide +kernel
theorem dX9_crowd_56 : decode cX9_crowd 56 = .ok (.iload_n 2, 1) := by decide +kernel
theorem dX9_crowd_57 : decode cX9_crowd 57 = .ok (.invokevirtual 264, 3) := by decide +kernel
theorem dX9_crowd_60 : decode cX9_crowd 60 = .ok (.iconst 0, 1) := by decide +kernel
theorem dX9_crowd_61 : decode cX9_crowd 61 = .ok (.istore 4, 2) := by decide +kernel
theorem dX9_crowd_63 : decode cX9_crowd 63 = .ok (.iload 4, 2) := by decide +kernel
theorem dX9_crowd_65 : decode cX9_crowd 65 = .ok (.aload_n 0, 1) := by decide +kernel
theorem dX9_crowd_66 : decode cX9_crowd 66 = .ok (.getfield 7, 3) := by decide +kernel
theorem dX9_crowd_69 : decode cX9_crowd 69 = .ok (.if_icmp .ge 17, 3) := by decide +kernel
theorem dX9_crowd_72 : decode cX9_crowd 72 = .ok (.aload_n 0, 1) := by decide +kernel
theorem dX9_crowd_73 : decode cX9_crowd 73 = .ok (.getfield 99, 3) := by decide +kernel
theorem dX9_crowd_76 : decode cX9_crowd 76 = .ok (.iload 4, 2) := by decide +kernel
theorem dX9_crowd_78 : decode cX9_crowd 78 = .ok (.iconst 0, 1) := by decide +kernel
theorem dX9_crowd_79 : decode cX9_crowd 79 = .ok (.iastore, 1) := by decide +kernel
theorem dX9_crowd_80 : decode cX9_crowd 80 = .ok (.iinc 4 1, 3) := by decide +kernel
theorem dX9_crowd_83 : decode cX9_crowd 83 = .ok (.goto (-20), 3) := by decide +kernel
theorem dX9_crowd_86 : decode cX9_crowd 86 = .ok (.iconst 0, 1) := by decide +kernel
theorem dX9_crowd_87 : decode cX9_crowd 87 = .ok (.istore 4, 2) := by decide +kernel
theorem dX9_crowd_89 : decode cX9_crowd 89 = .ok (.iload 4, 2) := by decide +kernel
theorem dX9_crowd_91 : decode cX9_crowd 91 = .ok (.iload_n 2, 1) := by decide +kernel
theorem dX9_crowd_92 : decode cX9_crowd 92 = .ok (.if_icmp .ge 25, 3) := by decide +kernel
theorem dX9_crowd_95 : decode cX9_crowd 95 = .ok (.aload_n 0, 1) := by decide +kernel
theorem dX9_crowd_96 : decode cX9_crowd 96 = .ok (.getfield 99, 3) := by decide +kernel
theorem dX9_crowd_99 : decode cX9_crowd 99 = .ok (.aload_n 0, 1) := by decide +kernel
theorem dX9_crowd_100 : decode cX9_crowd 100 = .ok (.getfield 87, 3) := by decide +kernel
theorem dX9_crowd_103 : decode cX9_crowd 103 = .ok (.iload 4, 2) := by decide +kernel
theorem dX9_crowd_105 : decode cX9_crowd 105 = .ok (.iaload, 1) := by decide +kernel
theorem dX9_crowd_106 : decode cX9_crowd 106 = .ok (.dup2, 1) := by decide +kernel
theorem dX9_crowd_107 : decode cX9_crowd 107 = .ok (.iaload, 1) := by decide +kernel
theorem dX9_crowd_108 : decode cX9_crowd 108 = .ok (.iconst 1, 1) := by decide +kernel
theorem dX9_crowd_109 : decode cX9_crowd 109 = .ok (.iadd, 1) := by decide +kernel
theorem dX9_crowd_110 : decode cX9_crowd 110 = .ok (.iastore, 1) := by decide +kernel
theorem dX9_crowd_111 : decode cX9_crowd 111 = .ok (.iinc 4 1, 3) := by decide +kernel
theorem dX9_crowd_114 : decode cX9_crowd 114 = .ok (.goto (-25), 3) := by decide +kernel
theorem dX9_crowd_117 : decode cX9_crowd 117 = .ok (.iconst 0, 1) := by decide +kernel
theorem dX9_crowd_118 : decode cX9_crowd 118 = .ok (.istore 4, 2) := by decide +kernel
theorem dX9_crowd_120 : decode cX9_crowd 120 = .ok (.iconst 0, 1) := by decide +kernel
theorem dX9_crowd_121 : decode cX9_crowd 121 = .ok (.istore 5, 2) := by decide +kernel
theorem dX9_crowd_123 : decode cX9_crowd 123 = .ok (.iconst 0, 1) := by decide +kernel
theorem dX9_crowd_124 : decode cX9_crowd 124 = .ok (.istore 6, 2) := by decide +kernel
theorem dX9_crowd_126 : decode cX9_crowd 126 = .ok (.iload 6, 2) := by decide +kernel
theorem dX9_crowd_128 : decode cX9_crowd 128 = .ok (.aload_n 0, 1) := by decide +kernel
theorem dX9_crowd_129 : decode cX9_crowd 129 = .ok (.getfield 7, 3) := by decide +kernel
theorem dX9_crowd_132 : decode cX9_crowd 132 = .ok (.if_icmp .ge 44, 3) := by decide +kernel
theorem dX9_crowd_135 : decode cX9_crowd 135 = .ok (.aload_n 0, 1) := by decide +kernel
theorem dX9_crowd_136 : decode cX9_crowd 136 = .ok (.getfield 99, 3) := by decide +kernel
theorem dX9_crowd_139 : decode cX9_crowd 139 = .ok (.iload 6, 2) := by decide +kernel
theorem dX9_crowd_141 : decode cX9_crowd 141 = .ok (.iaload, 1) := by decide +kernel
theorem dX9_crowd_142 : decode cX9_crowd 142 = .ok (.aload_n 0, 1) := by decide +kernel
theorem dX9_crowd_143 : decode cX9_crowd 143 = .ok (.getfield 99, 3) := by decide +kernel
theorem dX9_crowd_146 : decode cX9_crowd 146 = .ok (.iload 4, 2) := by decide +kernel
theorem dX9_crowd_148 : decode cX9_crowd 148 = .ok (.iaload, 1) := by decide +kernel
theorem dX9_crowd_149 : decode cX9_crowd 149 = .ok (.if_icmp .le 7, 3) := by decide +kernel
theorem dX9_crowd_152 : decode cX9_crowd 152 = .ok (.iload 6, 2) := by decide +kernel
theorem dX9_crowd_154 : decode cX9_crowd 154 = .ok (.istore 4, 2) := by decide +kernel
theorem dX9_crowd_156 : decode cX9_crowd 156 = .ok (.aload_n 0, 1) := by decide +kernel
theorem dX9_crowd_157 : decode cX9_crowd 157 = .ok (.getfield 99, 3) := by decide +kernel
theorem dX9_crowd_160 : decode cX9_crowd 160 = .ok (.iload 6, 2) := by decide +kernel
theorem dX9_crowd_162 : decode cX9_crowd 162 = .ok (.iaload, 1) := by decide +kernel
theorem dX9_crowd_163 : decode cX9_crowd 163 = .ok (.iconst 1, 1) := by decide +kernel
theorem dX9_crowd_164 : decode cX9_crowd 164 = .ok (.if_icmp .ne 6, 3) := by decide +kernel
theorem dX9_crowd_167 : decode cX9_crowd 167 = .ok (.iinc 5 1, 3) := by decide +kernel
theorem dX9_crowd_170 : decode cX9_crowd 170 = .ok (.iinc 6 1, 3) := by decide +kernel
theorem dX9_crowd_173 : decode cX9_crowd 173 = .ok (.goto (-47), 3) := by decide +kernel
theorem dX9_crowd_176 : decode cX9_crowd 176 = .ok (.iload_n 3, 1) := by decide +kernel
theorem dX9_crowd_177 : decode cX9_crowd 177 = .ok (.iconst 2, 1) := by decide +kernel
theorem dX9_crowd_178 : decode cX9_crowd 178 = .ok (.if_icmp .ne 6, 3) := by decide +kernel
theorem dX9_crowd_181 : decode cX9_crowd 181 = .ok (.iload 5, 2) := by decide +kernel
theorem dX9_crowd_183 : decode cX9_crowd 183 = .ok (.ireturn, 1) := by decide +kernel
theorem dX9_crowd_184 : decode cX9_crowd 184 = .ok (.iload_n 3, 1) := by decide +kernel
theorem dX9_crowd_185 : decode cX9_crowd 185 = .ok (.iconst 1, 1) := by decide +kernel
theorem dX9_crowd_186 : decode cX9_crowd 186 = .ok (.if_icmp .ne 13, 3) := by decide +kernel
theorem dX9_crowd_189 : decode cX9_crowd 189 = .ok (.aload_n 0, 1) := by decide +kernel
theorem dX9_crowd_190 : decode cX9_crowd 190 = .ok (.getfield 99, 3) := by decide +kernel
theorem dX9_crowd_193 : decode cX9_crowd 193 = .ok (.iload 4, 2) := by decide +kernel
theorem dX9_crowd_195 : decode cX9_crowd 195 = .ok (.iaload, 1) := by decide +kernel
theorem dX9_crowd_196 : decode cX9_crowd 196 = .ok (.goto 14, 3) := by decide +kernel
theorem dX9_crowd_199 : decode cX9_crowd 199 = .ok (.iload_n 2, 1) := by decide +kernel
theorem dX9_crowd_200 : decode cX9_crowd 200 = .ok (.ifCond .ne 8, 3) := by decide +kernel
theorem dX9_crowd_203 : decode cX9_crowd 203 = .ok (.bipush (-9), 2) := by decide +kernel
theorem dX9_crowd_205 : decode cX9_crowd 205 = .ok (.goto 5, 3) := by decide +kernel
theorem dX9_crowd_208 : decode cX9_crowd 208 = .ok (.iload 4, 2) := by decide +kernel
theorem dX9_crowd_210 : decode cX9_crowd 210 = .ok (.ireturn, 1) := by decide +kernel
set_option maxRecDepth 20000 in
set_option maxHeartbeats 4000000 in
theorem v_X9_crowd_L63 (l : Launch) (g : GG) {r : Int32 × SS} {κ : Nat → Int32 → Int32 → SS → Option (Int32 × SS)} (hκ : ∀ (p0 : Nat) (y2 : Int32) (y3 : Int32) (τ : SS) (hp0 : kd p0 = 8), κ p0 y2 y3 τ = some r → VV l g 5 RX9 cX9_crowd 7 (some .int) (some (.int r.1), r.2) 86 [(0, .ref (g.1 p0)), (2, .int y2), (3, .int y3)] [] τ) : ∀ (fu : Nat) (q0 : Nat) (x2 : Int32) (x3 : Int32) (x4 : Int32) (hq0 : kd q0 = 8) (σ : SS), f_X9_crowd_L63 κ fu q0 x2 x3 x4 σ = some r → VV l g 5 RX9 cX9_crowd 7 (some .int) (some (.int r.1), r.2) 63 [(0, .ref (g.1 q0)), (2, .int x2), (3, .int x3), (4, .int x4)] [] σ := by
  intro fu
  induction fu with
  | zero => intro q0 x2 x3 x4 hq0 σ h; cases h
  | succ fu ih =>
    intro q0 x2 x3 x4 hq0 σ h
    simp only [f_X9_crowd_L63] at h
    refine vr_iload (pc := 63) 3 dX9_crowd_63 rfl ?_
    refine vr_aload_n (pc := 65) 0 dX9_crowd_65 rfl rfl ?_
    refine vr_getI (pc := 66) 0 dX9_crowd_66 fi_X9_7 hq0 (sh_8_0 hq0) ?_
    refine vr_icmp_ge (pc := 69) 86 dX9_crowd_69 (by decide) (fun c7 => ?_) (fun c7 => ?_)
    · rw [if_pos c7] at h
      refine vr_sub [0, 1, 2] [(0, .ref (g.1 q0)), (2, .int x2), (3, .int x3)] rfl ?_
      exact hκ q0 x2 x3 σ (hq0) h
    · rw [if_neg c7] at h
      refine vr_aload_n (pc := 72) 0 dX9_crowd_72 rfl rfl ?_
      refine vr_getR (pc := 73) 36 dX9_crowd_73 fi_X9_99 hq0 (sh_8_36 hq0).1 ?_
      refine vr_iload (pc := 76) 3 dX9_crowd_76 rfl ?_
      refine vr_iconst (pc := 78) 0 dX9_crowd_78 ci_0 ?_
      obtain ⟨hc8, h⟩ := ck_some h
      refine vr_iast (pc := 79) dX9_crowd_79 (sh_8_36 hq0).2 hc8 ?_
      refine vr_iinc (pc := 80) [(4, .int (x4 + 1)), (0, .ref (g.1 q0)), (2, .int x2), (3, .int x3)] 3 dX9_crowd_80 rfl (congrArg (fun z => x4 + z) ci_1) (by decide) rfl ?_
      refine vr_goto (pc := 83) 63 dX9_crowd_83 (by decide) ?_
      refine vr_sub [1, 2, 3, 0] [(0, .ref (g.1 q0)), (2, .int x2), (3, .int x3), (4, .int (x4 + 1))] rfl ?_
      exact ih q0 x2 x3 (x4 + 1) (hq0) (sI σ (rid q0 36) x4.toNatClampNeg 0) h
set_option maxRecDepth 20000 in
set_option maxHeartbeats 4000000 in
theorem v_X9_crowd_L89 (l : Launch) (g : GG) {r : Int32 × SS} {κ : Nat → Int32 → Int32 → SS → Option (Int32 × SS)} (hκ : ∀ (p0 : Nat) (y2 : Int32) (y3 : Int32) (τ : SS) (hp0 : kd p0 = 8), κ p0 y2 y3 τ = some r → VV l g 5 RX9 cX9_crowd 7 (some .int) (some (.int r.1), r.2) 117 [(0, .ref (g.1 p0)), (2, .int y2), (3, .int y3)] [] τ) : ∀ (fu : Nat) (q0 : Nat) (x2 : Int32) (x3 : Int32) (x4 : Int32) (hq0 : kd q0 = 8) (σ : SS), f_X9_crowd_L89 κ fu q0 x2 x3 x4 σ = some r → VV l g 5 RX9 cX9_crowd 7 (some .int) (some (.int r.1), r.2) 89 [(0, .ref (g.1 q0)), (2, .int x2), (3, .int x3), (4, .int x4)] [] σ := by
  intro fu
  induction fu with
  | zero => intro q0 x2 x3 x4 hq0 σ h; cases h
  | succ fu ih =>
    intro q0 x2 x3 x4 hq0 σ h
    simp only [f_X9_crowd_L89] at h
    refine vr_iload (pc := 89) 3 dX9_crowd_89 rfl ?_
    refine vr_iload_n (pc := 91) 1 dX9_crowd_91 rfl rfl ?_
    refine vr_icmp_ge (pc := 92) 117 dX9_crowd_92 (by decide) (fun c9 => ?_) (fun c9 => ?_)
    · rw [if_pos c9] at h
      refine vr_sub [0, 1, 2] [(0, .ref (g.1 q0)), (2, .int x2), (3, .int x3)] rfl ?_
      exact hκ q0 x2 x3 σ (hq0) h
    · rw [if_neg c9] at h
      refine vr_aload_n (pc := 95) 0 dX9_crowd_95 rfl rfl ?_
      refine vr_getR (pc := 96) 36 dX9_crowd_96 fi_X9_99 hq0 (sh_8_36 hq0).1 ?_
      refine vr_aload_n (pc := 99) 0 dX9_crowd_99 rfl rfl ?_
      refine vr_getR (pc := 100) 32 dX9_crowd_100 fi_X9_87 hq0 (sh_8_32 hq0).1 ?_
      refine vr_iload (pc := 103) 3 dX9_crowd_103 rfl ?_
      obtain ⟨hc10, h⟩ := ck_some h
      refine vr_iald (pc := 105) dX9_crowd_105 (sh_8_32 hq0).2 hc10 ?_
      refine vr_dup2 (pc := 106) dX9_crowd_106 rfl rfl ?_
      obtain ⟨hc11, h⟩ := ck_some h
      refine vr_iald (pc := 107) dX9_crowd_107 (sh_8_36 hq0).2 hc11 ?_
      refine vr_iconst (pc := 108) 1 dX9_crowd_108 ci_1 ?_
      refine vr_iadd (pc := 109) dX9_crowd_109 ?_
      obtain ⟨hc12, h⟩ := ck_some h
      refine vr_iast (pc := 110) dX9_crowd_110 (sh_8_36 hq0).2 hc12 ?_
      refine vr_iinc (pc := 111) [(4, .int (x4 + 1)), (0, .ref (g.1 q0)), (2, .int x2), (3, .int x3)] 3 dX9_crowd_111 rfl (congrArg (fun z => x4 + z) ci_1) (by decide) rfl ?_
      refine vr_goto (pc := 114) 89 dX9_crowd_114 (by decide) ?_
      refine vr_sub [1, 2, 3, 0] [(0, .ref (g.1 q0)), (2, .int x2), (3, .int x3), (4, .int (x4 + 1))] rfl ?_
      exact ih q0 x2 x3 (x4 + 1) (hq0) (sI σ (rid q0 36) (σ.1 (rid q0 32) x4.toNatClampNeg).toNatClampNeg ((σ.1 (rid q0 36) (σ.1 (rid q0 32) x4.toNatClampNeg).toNatClampNeg) + 1)) h
set_option maxRecDepth 20000 in
set_option maxHeartbeats 4000000 in
theorem v_X9_crowd_L126 (l : Launch) (g : GG) {r : Int32 × SS} {κ : Nat → Int32 → Int32 → Int32 → Int32 → SS → Option (Int32 × SS)} (hκ : ∀ (p0 : Nat) (y2 : Int32) (y3 : Int32) (y4 : Int32) (y5 : Int32) (τ : SS) (hp0 : kd p0 = 8), κ p0 y2 y3 y4 y5 τ = some r → VV l g 5 RX9 cX9_crowd 7 (some .int) (some (.int r.1), r.2) 176 [(0, .ref (g.1 p0)), (2, .int y2), (3, .int y3), (4, .int y4), (5, .int y5)] [] τ) : ∀ (fu : Nat) (q0 : Nat) (x2 : Int32) (x3 : Int32) (x4 : Int32) (x5 : Int32) (x6 : Int32) (hq0 : kd q0 = 8) (σ : SS), f_X9_crowd_L126 κ fu q0 x2 x3 x4 x5 x6 σ = some r → VV l g 5 RX9 cX9_crowd 7 (some .int) (some (.int r.1), r.2) 126 [(0, .ref (g.1 q0)), (2, .int x2), (3, .int x3), (4, .int x4), (5, .int x5), (6, .int x6)] [] σ := by
  intro fu
  induction fu with
  | zero => intro q0 x2 x3 x4 x5 x6 hq0 σ h; cases h
  | succ fu ih =>
    intro q0 x2 x3 x4 x5 x6 hq0 σ h
    simp only [f_X9_crowd_L126] at h
    refine vr_iload (pc := 126) 5 dX9_crowd_126 rfl ?_
    refine vr_aload_n (pc := 128) 0 dX9_crowd_128 rfl rfl ?_
    refine vr_getI (pc := 129) 0 dX9_crowd_129 fi_X9_7 hq0 (sh_8_0 hq0) ?_
    refine vr_icmp_ge (pc := 132) 176 dX9_crowd_132 (by decide) (fun c13 => ?_) (fun c13 => ?_)
    · rw [if_pos c13] at h
      refine vr_sub [0, 1, 2, 3, 4] [(0, .ref (g.1 q0)), (2, .int x2), (3, .int x3), (4, .int x4), (5, .int x5)] rfl ?_
      exact hκ q0 x2 x3 x4 x5 σ (hq0) h
    · rw [if_neg c13] at h
      refine vr_aload_n (pc := 135) 0 dX9_crowd_135 rfl rfl ?_
      refine vr_getR (pc := 136) 36 dX9_crowd_136 fi_X9_99 hq0 (sh_8_36 hq0).1 ?_
      refine vr_iload (pc := 139) 5 dX9_crowd_139 rfl ?_
      obtain ⟨hc14, h⟩ := ck_some h
      refine vr_iald (pc := 141) dX9_crowd_141 (sh_8_36 hq0).2 hc14 ?_
      refine vr_aload_n (pc := 142) 0 dX9_crowd_142 rfl rfl ?_
      refine vr_getR (pc := 143) 36 dX9_crowd_143 fi_X9_99 hq0 (sh_8_36 hq0).1 ?_
      refine vr_iload (pc := 146) 3 dX9_crowd_146 rfl ?_
      obtain ⟨hc15, h⟩ := ck_some h
      refine vr_iald (pc := 148) dX9_crowd_148 (sh_8_36 hq0).2 hc15 ?_
      obtain ⟨j16, ej16, h⟩ := jn1_e h
      have hj16 : ∀ (v18 : Int32) , j16 v18 = some r → VV l g 5 RX9 cX9_crowd 7 (some .int) (some (.int r.1), r.2) 156 [(0, .ref (g.1 q0)), (2, .int x2), (3, .int x3), (4, .int v18), (5, .int x5), (6, .int x6)] [] σ := by
        intro v18  h
        rw [ej16] at h
        refine vr_aload_n (pc := 156) 0 dX9_crowd_156 rfl rfl ?_
        refine vr_getR (pc := 157) 36 dX9_crowd_157 fi_X9_99 hq0 (sh_8_36 hq0).1 ?_
        refine vr_iload (pc := 160) 5 dX9_crowd_160 rfl ?_
        obtain ⟨hc19, h⟩ := ck_some h
        refine vr_iald (pc := 162) dX9_crowd_162 (sh_8_36 hq0).2 hc19 ?_
        refine vr_iconst (pc := 163) 1 dX9_crowd_163 ci_1 ?_
        refine vr_icmp_ne (pc := 164) 170 dX9_crowd_164 (by decide) (fun c20 => ?_) (fun c20 => ?_)
        · rw [if_neg c20] at h
          refine vr_iinc (pc := 170) [(6, .int (x6 + 1)), (0, .ref (g.1 q0)), (2, .int x2), (3, .int x3), (4, .int v18), (5, .int x5)] 5 dX9_crowd_170 rfl (congrArg (fun z => x6 + z) ci_1) (by decide) rfl ?_
          refine vr_goto (pc := 173) 126 dX9_crowd_173 (by decide) ?_
          refine vr_sub [1, 2, 3, 4, 5, 0] [(0, .ref (g.1 q0)), (2, .int x2), (3, .int x3), (4, .int v18), (5, .int x5), (6, .int (x6 + 1))] rfl ?_
          exact ih q0 x2 x3 v18 x5 (x6 + 1) (hq0) σ h
        · rw [if_pos c20] at h
          refine vr_iinc (pc := 167) [(5, .int (x5 + 1)), (0, .ref (g.1 q0)), (2, .int x2), (3, .int x3), (4, .int v18), (6, .int x6)] 4 dX9_crowd_167 rfl (congrArg (fun z => x5 + z) ci_1) (by decide) rfl ?_
          refine vr_iinc (pc := 170) [(6, .int (x6 + 1)), (5, .int (x5 + 1)), (0, .ref (g.1 q0)), (2, .int x2), (3, .int x3), (4, .int v18)] 5 dX9_crowd_170 rfl (congrArg (fun z => x6 + z) ci_1) (by decide) rfl ?_
          refine vr_goto (pc := 173) 126 dX9_crowd_173 (by decide) ?_
          refine vr_sub [2, 3, 4, 5, 1, 0] [(0, .ref (g.1 q0)), (2, .int x2), (3, .int x3), (4, .int v18), (5, .int (x5 + 1)), (6, .int (x6 + 1))] rfl ?_
          exact ih q0 x2 x3 v18 (x5 + 1) (x6 + 1) (hq0) σ h
      refine vr_icmp_le (pc := 149) 156 dX9_crowd_149 (by decide) (fun c21 => ?_) (fun c21 => ?_)
      · rw [if_pos c21] at h
        exact hj16 x4 h
      · rw [if_neg c21] at h
        refine vr_iload (pc := 152) 5 dX9_crowd_152 rfl ?_
        refine vr_istore (pc := 154) [(4, .int x6), (0, .ref (g.1 q0)), (2, .int x2), (3, .int x3), (5, .int x5), (6, .int x6)] dX9_crowd_154 (by decide) rfl ?_
        refine vr_sub [1, 2, 3, 0, 4, 5] [(0, .ref (g.1 q0)), (2, .int x2), (3, .int x3), (4, .int x6), (5, .int x5), (6, .int x6)] rfl ?_
        exact hj16 x6 h
set_option maxRecDepth 20000 in
set_option maxHeartbeats 4000000 in
theorem s_X9_crowd (l : Launch) (g : GG) {q0 : Nat} (hq0 : kd q0 = 8) {a1 : Int32} {a2 : Int32} {a3 : Int32} {σ : SS} {r : Int32 × SS} (h : f_X9_crowd q0 a1 a2 a3 σ = some r) : CT l g 5 yX9_crowd cX9_crowd 7 (some .int) [.ref (g.1 q0), .int a1, .int a2, .int a3] σ (some (.int r.1), r.2) := by
  refine CT.of (lv := [(0, .ref (g.1 q0)), (1, .int a1), (2, .int a2), (3, .int a3)]) RX9 (by decide +kernel) rfl (Nat.le_of_ble_eq_true rfl) rfl ?_
  unfold f_X9_crowd at h
  refine vr_aload_n (pc := 0) 0 dX9_crowd_0 rfl rfl ?_
  refine vr_iload_n (pc := 1) 1 dX9_crowd_1 rfl rfl ?_
  refine vr_callV (pc := 2) (ρ1 := (some (.int (f_X9_isSet q0 a1 σ)), σ)) [.int a1] dX9_crowd_2 (s_X9_isSet l g (hq0) rfl) cw_X9_isSet ml_X9_261 hq0 rfl (by decide) (by decide) rfl rfl (Nat.le_of_ble_eq_true rfl) ?_
  refine vr_if_ne (pc := 5) 14 dX9_crowd_5 (by decide) (fun c1 => ?_) (fun c1 => ?_)
  · rw [if_neg c1] at h
    refine vr_iload_n (pc := 14) 2 dX9_crowd_14 rfl rfl ?_
    refine vr_if_ge (pc := 15) 25 dX9_crowd_15 (by decide) (fun c2 => ?_) (fun c2 => ?_)
    · rw [if_pos c2] at h
      refine vr_iload_n (pc := 25) 2 dX9_crowd_25 rfl rfl ?_
      refine vr_bipush (pc := 26) 100 dX9_crowd_26 cb_100 ?_
      refine vr_icmp_le (pc := 28) 38 dX9_crowd_28 (by decide) (fun c3 => ?_) (fun c3 => ?_)
      · rw [if_pos c3] at h
        refine vr_iload_n (pc := 38) 3 dX9_crowd_38 rfl rfl ?_
        refine vr_iconst (pc := 39) 0 dX9_crowd_39 ci_0 ?_
        refine vr_iconst (pc := 40) 2 dX9_crowd_40 ci_2 ?_
        refine vr_callS (pc := 41) (ρ1 := (some (.int (f_X9_within a3 0 2)), σ)) [.int a3, .int 0, .int 2] dX9_crowd_41 (s_X9_within l g rfl) cw_X9_within ml_X9_111 (by decide) rfl rfl (Nat.le_of_ble_eq_true rfl) ?_
        refine vr_if_ne (pc := 44) 54 dX9_crowd_44 (by decide) (fun c4 => ?_) (fun c4 => ?_)
        · rw [if_neg c4] at h
          refine vr_aload_n (pc := 54) 0 dX9_crowd_54 rfl rfl ?_
          refine vr_iload_n (pc := 55) 1 dX9_crowd_55 rfl rfl ?_
          refine vr_iload_n (pc := 56) 2 dX9_crowd_56 rfl rfl ?_
          obtain ⟨z5, hz6, h⟩ := ob_some h
          refine vr_callV (pc := 57) (ρ1 := (none, z5)) [.int a1, .int a2] dX9_crowd_57 (s_X9_touches l g (hq0) hz6) cw_X9_touches ml_X9_264 hq0 rfl (by decide) (by decide) rfl rfl (Nat.le_of_ble_eq_true rfl) ?_
          refine vr_iconst (pc := 60) 0 dX9_crowd_60 ci_0 ?_
          refine vr_istore (pc := 61) [(4, .int 0), (0, .ref (g.1 q0)), (1, .int a1), (2, .int a2), (3, .int a3)] dX9_crowd_61 (by decide) rfl ?_
          refine vr_sub [1, 3, 4, 0] [(0, .ref (g.1 q0)), (2, .int a2), (3, .int a3), (4, .int 0)] rfl ?_
          refine v_X9_crowd_L63 l g (fun p0 y2 y3 τ hp0 h => ?_) FU q0 a2 a3 0 (hq0) z5 h
          refine vr_iconst (pc := 86) 0 dX9_crowd_86 ci_0 ?_
          refine vr_istore (pc := 87) [(4, .int 0), (0, .ref (g.1 p0)), (2, .int y2), (3, .int y3)] dX9_crowd_87 (by decide) rfl ?_
          refine vr_sub [1, 2, 3, 0] [(0, .ref (g.1 p0)), (2, .int y2), (3, .int y3), (4, .int 0)] rfl ?_
          refine v_X9_crowd_L89 l g (fun p0 y2 y3 τ hp0 h => ?_) FU p0 y2 y3 0 (hp0) τ h
          refine vr_iconst (pc := 117) 0 dX9_crowd_117 ci_0 ?_
          refine vr_istore (pc := 118) [(4, .int 0), (0, .ref (g.1 p0)), (2, .int y2), (3, .int y3)] dX9_crowd_118 (by decide) rfl ?_
          refine vr_iconst (pc := 120) 0 dX9_crowd_120 ci_0 ?_
          refine vr_istore (pc := 121) [(5, .int 0), (4, .int 0), (0, .ref (g.1 p0)), (2, .int y2), (3, .int y3)] dX9_crowd_121 (by decide) rfl ?_
          refine vr_iconst (pc := 123) 0 dX9_crowd_123 ci_0 ?_
          refine vr_istore (pc := 124) [(6, .int 0), (5, .int 0), (4, .int 0), (0, .ref (g.1 p0)), (2, .int y2), (3, .int y3)] dX9_crowd_124 (by decide) rfl ?_
          refine vr_sub [3, 4, 5, 2, 1, 0] [(0, .ref (g.1 p0)), (2, .int y2), (3, .int y3), (4, .int 0), (5, .int 0), (6, .int 0)] rfl ?_
          refine v_X9_crowd_L126 l g (fun p0 y2 y3 y4 y5 τ hp0 h => ?_) FU p0 y2 y3 0 0 0 (hp0) τ h
          refine vr_iload_n (pc := 176) 2 dX9_crowd_176 rfl rfl ?_
          refine vr_iconst (pc := 177) 2 dX9_crowd_177 ci_2 ?_
          refine vr_icmp_ne (pc := 178) 184 dX9_crowd_178 (by decide) (fun c22 => ?_) (fun c22 => ?_)
          · rw [if_neg c22] at h
            refine vr_iload_n (pc := 184) 2 dX9_crowd_184 rfl rfl ?_
            refine vr_iconst (pc := 185) 1 dX9_crowd_185 ci_1 ?_
            refine vr_icmp_ne (pc := 186) 199 dX9_crowd_186 (by decide) (fun c23 => ?_) (fun c23 => ?_)
            · rw [if_neg c23] at h
              refine vr_iload_n (pc := 199) 1 dX9_crowd_199 rfl rfl ?_
              refine vr_if_ne (pc := 200) 208 dX9_crowd_200 (by decide) (fun c24 => ?_) (fun c24 => ?_)
              · rw [if_neg c24] at h
                refine vr_iload (pc := 208) 3 dX9_crowd_208 rfl ?_
                have h := Option.some.inj h; subst h
                exact vr_iret (pc := 210) .int dX9_crowd_210 rfl rfl rfl
              · rw [if_pos c24] at h
                refine vr_bipush (pc := 203) (-9) dX9_crowd_203 cb_m9 ?_
                refine vr_goto (pc := 205) 210 dX9_crowd_205 (by decide) ?_
                have h := Option.some.inj h; subst h
                exact vr_iret (pc := 210) .int dX9_crowd_210 rfl rfl rfl
            · rw [if_pos c23] at h
              refine vr_aload_n (pc := 189) 0 dX9_crowd_189 rfl rfl ?_
              refine vr_getR (pc := 190) 36 dX9_crowd_190 fi_X9_99 hp0 (sh_8_36 hp0).1 ?_
              refine vr_iload (pc := 193) 3 dX9_crowd_193 rfl ?_
              obtain ⟨hc25, h⟩ := ck_some h
              refine vr_iald (pc := 195) dX9_crowd_195 (sh_8_36 hp0).2 hc25 ?_
              refine vr_goto (pc := 196) 210 dX9_crowd_196 (by decide) ?_
              have h := Option.some.inj h; subst h
              exact vr_iret (pc := 210) .int dX9_crowd_210 rfl rfl rfl
          · rw [if_pos c22] at h
            refine vr_iload (pc := 181) 4 dX9_crowd_181 rfl ?_
            have h := Option.some.inj h; subst h
            exact vr_iret (pc := 183) .int dX9_crowd_183 rfl rfl rfl
        · rw [if_pos c4] at h
          refine vr_aload_n (pc := 47) 0 dX9_crowd_47 rfl rfl ?_
          refine vr_bipush (pc := 48) (-2) dX9_crowd_48 cb_m2 ?_
          obtain ⟨z26, hz27, h⟩ := ob_some h
          refine vr_callV (pc := 50) (ρ1 := (some (.int z26.1), z26.2)) [.int (-2)] dX9_crowd_50 (s_X9_no l g (hq0) hz27) cw_X9_no ml_X9_104 hq0 rfl (by decide) (by decide) rfl rfl (Nat.le_of_ble_eq_true rfl) ?_
          have h := Option.some.inj h; subst h
          exact vr_iret (pc := 53) .int dX9_crowd_53 rfl rfl rfl
      · rw [if_neg c3] at h
        refine vr_aload_n (pc := 31) 0 dX9_crowd_31 rfl rfl ?_
        refine vr_bipush (pc := 32) (-6) dX9_crowd_32 cb_m6 ?_
        obtain ⟨z28, hz29, h⟩ := ob_some h
        refine vr_callV (pc := 34) (ρ1 := (some (.int z28.1), z28.2)) [.int (-6)] dX9_crowd_34 (s_X9_no l g (hq0) hz29) cw_X9_no ml_X9_104 hq0 rfl (by decide) (by decide) rfl rfl (Nat.le_of_ble_eq_true rfl) ?_
        have h := Option.some.inj h; subst h
        exact vr_iret (pc := 37) .int dX9_crowd_37 rfl rfl rfl
    · rw [if_neg c2] at h
      refine vr_aload_n (pc := 18) 0 dX9_crowd_18 rfl rfl ?_
      refine vr_bipush (pc := 19) (-4) dX9_crowd_19 cb_m4 ?_
      obtain ⟨z30, hz31, h⟩ := ob_some h
      refine vr_callV (pc := 21) (ρ1 := (some (.int z30.1), z30.2)) [.int (-4)] dX9_crowd_21 (s_X9_no l g (hq0) hz31) cw_X9_no ml_X9_104 hq0 rfl (by decide) (by decide) rfl rfl (Nat.le_of_ble_eq_true rfl) ?_
      have h := Option.some.inj h; subst h
      exact vr_iret (pc := 24) .int dX9_crowd_24 rfl rfl rfl
  · rw [if_pos c1] at h
    refine vr_aload_n (pc := 8) 0 dX9_crowd_8 rfl rfl ?_
    refine vr_iconst (pc := 9) (-1) dX9_crowd_9 ci_m1 ?_
    obtain ⟨z32, hz33, h⟩ := ob_some h
    refine vr_callV (pc := 10) (ρ1 := (some (.int z32.1), z32.2)) [.int (-1)] dX9_crowd_10 (s_X9_no l g (hq0) hz33) cw_X9_no ml_X9_104 hq0 rfl (by decide) (by decide) rfl rfl (Nat.le_of_ble_eq_true rfl) ?_
    have h := Option.some.inj h; subst h
    exact vr_iret (pc := 13) .int dX9_crowd_13 rfl rfl rfl
theorem dX9_roll_0 : decode cX9_roll 0 = .ok (.aload_n 0, 1) := by decide +kernel
theorem dX9_roll_1 : decode cX9_roll 1 = .ok (.iload_n 1, 1) := by decide +kernel
theorem dX9_roll_2 : decode cX9_roll 2 = .ok (.invokevirtual 176, 3) := by decide +kernel
theorem dX9_roll_5 : decode cX9_roll 5 = .ok (.ifCond .ne 9, 3) := by decide +kernel
theorem dX9_roll_8 : decode cX9_roll 8 = .ok (.aload_n 0, 1) := by decide +kernel
theorem dX9_roll_9 : decode cX9_roll 9 = .ok (.iconst (-1), 1) := by decide +kernel
theorem dX9_roll_10 : decode cX9_roll 10 = .ok (.invokevirtual 104, 3) := by decide +kernel
theorem dX9_roll_13 : decode cX9_roll 13 = .ok (.ireturn, 1) := by decide +kernel
theorem dX9_roll_14 : decode cX9_roll 14 = .ok (.iload_n 2, 1) := by decide +kernel
theorem dX9_roll_15 : decode cX9_roll 15 = .ok (.iconst 1, 1) := by decide +kernel
theorem dX9_roll_16 : decode cX9_roll 16 = .ok (.if_icmp .ge 10, 3) := by decide +kernel
theorem dX9_roll_19 : decode cX9_roll 19 = .ok (.aload_n 0, 1) := by decide +kernel
theorem dX9_roll_20 : decode cX9_roll 20 = .ok (.bipush (-4), 2) := by decide +kernel
theorem dX9_roll_22 : decode cX9_roll 22 = .ok (.invokevirtual 104, 3) := by decide +kernel
theorem dX9_roll_25 : decode cX9_roll 25 = .ok (.ireturn, 1) := by decide +kernel
theorem dX9_roll_26 : decode cX9_roll 26 = .ok (.iload_n 2, 1) := by decide +kernel
theorem dX9_roll_27 : decode cX9_roll 27 = .ok (.bipush 40, 2) := by decide +kernel
theorem dX9_roll_29 : decode cX9_roll 29 = .ok (.if_icmp .le 10, 3) := by decide +kernel
theorem dX9_roll_32 : decode cX9_roll 32 = .ok (.aload_n 0, 1) := by decide +kernel
theorem dX9_roll_33 : decode cX9_roll 33 = .ok (.bipush (-6), 2) := by decide +kernel
theorem dX9_roll_35 : decode cX9_roll 35 = .ok (.invokevirtual 104, 3) := by decide +kernel
theorem dX9_roll_38 : decode cX9_roll 38 = .ok (.ireturn, 1) := by decide +kernel
theorem dX9_roll_39 : decode cX9_roll 39 = .ok (.aload_n 0, 1) := by decide +kernel
theorem dX9_roll_40 : decode cX9_roll 40 = .ok (.invokevirtual 182, 3) := by decide +kernel
theorem dX9_roll_43 : decode cX9_roll 43 = .ok (.aload_n 0, 1) := by decide +kernel
theorem dX9_roll_44 : decode cX9_roll 44 = .ok (.iload_n 1, 1) := by decide +kernel
theorem dX9_roll_45 : decode cX9_roll 45 = .ok (.iload_n 2, 1) := by decide +kernel
theorem dX9_roll_46 : decode cX9_roll 46 = .ok (.invokevirtual 148, 3) := by decide +kernel
theorem dX9_roll_49 : decode cX9_roll 49 = .ok (.aload_n 0, 1) := by decide +kernel
theorem dX9_roll_50 : decode cX9_roll 50 = .ok (.getfield 32, 3) := by decide +kernel
theorem dX9_roll_53 : decode cX9_roll 53 = .ok (.iload_n 1, 1) := by decide +kernel
theorem dX9_roll_54 : decode cX9_roll 54 = .ok (.iaload, 1) := by decide +kernel
theorem dX9_roll_55 : decode cX9_roll 55 = .ok (.ireturn, 1) := by decide +kernel
set_option maxRecDepth 20000 in
set_option maxHeartbeats 4000000 in
theorem s_X9_roll (l : Launch) (g : GG) {q0 : Nat} (hq0 : kd q0 = 8) {a1 : Int32} {a2 : Int32} {σ : SS} {r : Int32 × SS} (h : f_X9_roll q0 a1 a2 σ = some r) : CT l g 4 yX9_roll cX9_roll 3 (some .int) [.ref (g.1 q0), .int a1, .int a2] σ (some (.int r.1), r.2) := by
  refine CT.of (lv := [(0, .ref (g.1 q0)), (1, .int a1), (2, .int a2)]) RX9 (by decide +kernel) rfl (Nat.le_of_ble_eq_true rfl) rfl ?_
  unfold f_X9_roll at h
  refine vr_aload_n (pc := 0) 0 dX9_roll_0 rfl rfl ?_
  refine vr_iload_n (pc := 1) 1 dX9_roll_1 rfl rfl ?_
  refine vr_callV (pc := 2) (ρ1 := (some (.int (f_X9_isWheel q0 a1 σ)), σ)) [.int a1] dX9_roll_2 (s_X9_isWheel l g (hq0) rfl) cw_X9_isWheel ml_X9_176 hq0 rfl (by decide) (by decide) rfl rfl (Nat.le_of_ble_eq_true rfl) ?_
  refine vr_if_ne (pc := 5) 14 dX9_roll_5 (by decide) (fun c1 => ?_) (fun c1 => ?_)
  · rw [if_neg c1] at h
    refine vr_iload_n (pc := 14) 2 dX9_roll_14 rfl rfl ?_
    refine vr_iconst (pc := 15) 1 dX9_roll_15 ci_1 ?_
    refine vr_icmp_ge (pc := 16) 26 dX9_roll_16 (by decide) (fun c2 => ?_) (fun c2 => ?_)
    · rw [if_pos c2] at h
      refine vr_iload_n (pc := 26) 2 dX9_roll_26 rfl rfl ?_
      refine vr_bipush (pc := 27) 40 dX9_roll_27 cb_40 ?_
      refine vr_icmp_le (pc := 29) 39 dX9_roll_29 (by decide) (fun c3 => ?_) (fun c3 => ?_)
      · rw [if_pos c3] at h
        refine vr_aload_n (pc := 39) 0 dX9_roll_39 rfl rfl ?_
        obtain ⟨z4, hz5, h⟩ := ob_some h
        refine vr_callV (pc := 40) (ρ1 := (none, z4)) [] dX9_roll_40 (s_X9_layBy l g (hq0) hz5) cw_X9_layBy ml_X9_182 hq0 rfl (by decide) (by decide) rfl rfl (Nat.le_of_ble_eq_true rfl) ?_
        refine vr_aload_n (pc := 43) 0 dX9_roll_43 rfl rfl ?_
        refine vr_iload_n (pc := 44) 1 dX9_roll_44 rfl rfl ?_
        refine vr_iload_n (pc := 45) 2 dX9_roll_45 rfl rfl ?_
        obtain ⟨z6, hz7, h⟩ := ob_some h
        refine vr_callV (pc := 46) (ρ1 := (none, z6)) [.int a1, .int a2] dX9_roll_46 (s_X9_goesOn l g (hq0) hz7) cw_X9_goesOn ml_X9_148 hq0 rfl (by decide) (by decide) rfl rfl (Nat.le_of_ble_eq_true rfl) ?_
        refine vr_aload_n (pc := 49) 0 dX9_roll_49 rfl rfl ?_
        refine vr_getR (pc := 50) 8 dX9_roll_50 fi_X9_32 hq0 (sh_8_8 hq0).1 ?_
        refine vr_iload_n (pc := 53) 1 dX9_roll_53 rfl rfl ?_
        obtain ⟨hc8, h⟩ := ck_some h
        refine vr_iald (pc := 54) dX9_roll_54 (sh_8_8 hq0).2 hc8 ?_
        have h := Option.some.inj h; subst h
        exact vr_iret (pc := 55) .int dX9_roll_55 rfl rfl rfl
      · rw [if_neg c3] at h
        refine vr_aload_n (pc := 32) 0 dX9_roll_32 rfl rfl ?_
        refine vr_bipush (pc := 33) (-6) dX9_roll_33 cb_m6 ?_
        obtain ⟨z9, hz10, h⟩ := ob_some h
        refine vr_callV (pc := 35) (ρ1 := (some (.int z9.1), z9.2)) [.int (-6)] dX9_roll_35 (s_X9_no l g (hq0) hz10) cw_X9_no ml_X9_104 hq0 rfl (by decide) (by decide) rfl rfl (Nat.le_of_ble_eq_true rfl) ?_
        have h := Option.some.inj h; subst h
        exact vr_iret (pc := 38) .int dX9_roll_38 rfl rfl rfl
    · rw [if_neg c2] at h
      refine vr_aload_n (pc := 19) 0 dX9_roll_19 rfl rfl ?_
      refine vr_bipush (pc := 20) (-4) dX9_roll_20 cb_m4 ?_
      obtain ⟨z11, hz12, h⟩ := ob_some h
      refine vr_callV (pc := 22) (ρ1 := (some (.int z11.1), z11.2)) [.int (-4)] dX9_roll_22 (s_X9_no l g (hq0) hz12) cw_X9_no ml_X9_104 hq0 rfl (by decide) (by decide) rfl rfl (Nat.le_of_ble_eq_true rfl) ?_
      have h := Option.some.inj h; subst h
      exact vr_iret (pc := 25) .int dX9_roll_25 rfl rfl rfl
  · rw [if_pos c1] at h
    refine vr_aload_n (pc := 8) 0 dX9_roll_8 rfl rfl ?_
    refine vr_iconst (pc := 9) (-1) dX9_roll_9 ci_m1 ?_
    obtain ⟨z13, hz14, h⟩ := ob_some h
    refine vr_callV (pc := 10) (ρ1 := (some (.int z13.1), z13.2)) [.int (-1)] dX9_roll_10 (s_X9_no l g (hq0) hz14) cw_X9_no ml_X9_104 hq0 rfl (by decide) (by decide) rfl rfl (Nat.le_of_ble_eq_true rfl) ?_
    have h := Option.some.inj h; subst h
    exact vr_iret (pc := 13) .int dX9_roll_13 rfl rfl rfl
theorem dX9_inkedTeeth_0 : decode cX9_inkedTeeth 0 = .ok (.iconst 0, 1) := by decide +kernel
theorem dX9_inkedTeeth_1 : decode cX9_inkedTeeth 1 = .ok (.istore_n 1, 1) := by decide +kernel
theorem dX9_inkedTeeth_2 : decode cX9_inkedTeeth 2 = .ok (.iconst 0, 1) := by decide +kernel
theorem dX9_inkedTeeth_3 : decode cX9_inkedTeeth 3 = .ok (.istore_n 2, 1) := by decide +kernel
theorem dX9_inkedTeeth_4 : decode cX9_inkedTeeth 4 = .ok (.iload_n 2, 1) := by decide +kernel
theorem dX9_inkedTeeth_5 : decode cX9_inkedTeeth 5 = .ok (.aload_n 0, 1) := by decide +kernel
theorem dX9_inkedTeeth_6 : decode cX9_inkedTeeth 6 = .ok (.getfield 7, 3) := by decide +kernel
theorem dX9_inkedTeeth_9 : decode cX9_inkedTeeth 9 = .ok (.if_icmp .ge 21, 3) := by decide +kernel
theorem dX9_inkedTeeth_12 : decode cX9_inkedTeeth 12 = .ok (.aload_n 0, 1) := by decide +kernel
theorem dX9_inkedTeeth_13 : decode cX9_inkedTeeth 13 = .ok (.getfield 17, 3) := by decide +kernel
theorem dX9_inkedTeeth_16 : decode cX9_inkedTeeth 16 = .ok (.iload_n 2, 1) := by decide +kernel
theorem dX9_inkedTeeth_17 : decode cX9_inkedTeeth 17 = .ok (.iaload, 1) := by decide +kernel
theorem dX9_inkedTeeth_18 : decode cX9_inkedTeeth 18 = .ok (.ifCond .le 6, 3) := by decide +kernel
theorem dX9_inkedTeeth_21 : decode cX9_inkedTeeth 21 = .ok (.iinc 1 1, 3) := by decide +kernel
theorem dX9_inkedTeeth_24 : decode cX9_inkedTeeth 24 = .ok (.iinc 2 1, 3) := by decide +kernel
theorem dX9_inkedTeeth_27 : decode cX9_inkedTeeth 27 = .ok (.goto (-23), 3) := by decide +kernel
theorem dX9_inkedTeeth_30 : decode cX9_inkedTeeth 30 = .ok (.iload_n 1, 1) := by decide +kernel
theorem dX9_inkedTeeth_31 : decode cX9_inkedTeeth 31 = .ok (.ireturn, 1) := by decide +kernel
set_option maxRecDepth 20000 in
set_option maxHeartbeats 4000000 in
theorem v_X9_inkedTeeth_L4 (l : Launch) (g : GG) {r : Int32} {σ : SS} {κ : Int32 → Option Int32} (hκ : ∀ (y1 : Int32) , κ y1 = some r → VV l g 0 RX9 cX9_inkedTeeth 3 (some .int) (some (.int r), σ) 30 [(1, .int y1)] [] σ) : ∀ (fu : Nat) (q0 : Nat) (x1 : Int32) (x2 : Int32) (hq0 : kd q0 = 8), f_X9_inkedTeeth_L4 σ κ fu q0 x1 x2 = some r → VV l g 0 RX9 cX9_inkedTeeth 3 (some .int) (some (.int r), σ) 4 [(0, .ref (g.1 q0)), (1, .int x1), (2, .int x2)] [] σ := by
  intro fu
  induction fu with
  | zero => intro q0 x1 x2 hq0 h; cases h
  | succ fu ih =>
    intro q0 x1 x2 hq0 h
    simp only [f_X9_inkedTeeth_L4] at h
    refine vr_iload_n (pc := 4) 2 dX9_inkedTeeth_4 rfl rfl ?_
    refine vr_aload_n (pc := 5) 0 dX9_inkedTeeth_5 rfl rfl ?_
    refine vr_getI (pc := 6) 0 dX9_inkedTeeth_6 fi_X9_7 hq0 (sh_8_0 hq0) ?_
    refine vr_icmp_ge (pc := 9) 30 dX9_inkedTeeth_9 (by decide) (fun c1 => ?_) (fun c1 => ?_)
    · rw [if_pos c1] at h
      refine vr_sub [1] [(1, .int x1)] rfl ?_
      exact hκ x1 h
    · rw [if_neg c1] at h
      refine vr_aload_n (pc := 12) 0 dX9_inkedTeeth_12 rfl rfl ?_
      refine vr_getR (pc := 13) 2 dX9_inkedTeeth_13 fi_X9_17 hq0 (sh_8_2 hq0).1 ?_
      refine vr_iload_n (pc := 16) 2 dX9_inkedTeeth_16 rfl rfl ?_
      obtain ⟨hc2, h⟩ := ck_some h
      refine vr_iald (pc := 17) dX9_inkedTeeth_17 (sh_8_2 hq0).2 hc2 ?_
      refine vr_if_le (pc := 18) 24 dX9_inkedTeeth_18 (by decide) (fun c3 => ?_) (fun c3 => ?_)
      · rw [if_pos c3] at h
        refine vr_iinc (pc := 24) [(2, .int (x2 + 1)), (0, .ref (g.1 q0)), (1, .int x1)] 2 dX9_inkedTeeth_24 rfl (congrArg (fun z => x2 + z) ci_1) (by decide) rfl ?_
        refine vr_goto (pc := 27) 4 dX9_inkedTeeth_27 (by decide) ?_
        refine vr_sub [1, 2, 0] [(0, .ref (g.1 q0)), (1, .int x1), (2, .int (x2 + 1))] rfl ?_
        exact ih q0 x1 (x2 + 1) (hq0) h
      · rw [if_neg c3] at h
        refine vr_iinc (pc := 21) [(1, .int (x1 + 1)), (0, .ref (g.1 q0)), (2, .int x2)] 1 dX9_inkedTeeth_21 rfl (congrArg (fun z => x1 + z) ci_1) (by decide) rfl ?_
        refine vr_iinc (pc := 24) [(2, .int (x2 + 1)), (1, .int (x1 + 1)), (0, .ref (g.1 q0))] 2 dX9_inkedTeeth_24 rfl (congrArg (fun z => x2 + z) ci_1) (by decide) rfl ?_
        refine vr_goto (pc := 27) 4 dX9_inkedTeeth_27 (by decide) ?_
        refine vr_sub [2, 1, 0] [(0, .ref (g.1 q0)), (1, .int (x1 + 1)), (2, .int (x2 + 1))] rfl ?_
        exact ih q0 (x1 + 1) (x2 + 1) (hq0) h
set_option maxRecDepth 20000 in
set_option maxHeartbeats 4000000 in
theorem s_X9_inkedTeeth (l : Launch) (g : GG) {q0 : Nat} (hq0 : kd q0 = 8) {σ : SS} {r : Int32} (h : f_X9_inkedTeeth q0 σ = some r) : CT l g 0 yX9_inkedTeeth cX9_inkedTeeth 3 (some .int) [.ref (g.1 q0)] σ (some (.int r), σ) := by
  refine CT.of (lv := [(0, .ref (g.1 q0))]) RX9 (by decide +kernel) rfl (Nat.le_of_ble_eq_true rfl) rfl ?_
  unfold f_X9_inkedTeeth at h
  refine vr_iconst (pc := 0) 0 dX9_inkedTeeth_0 ci_0 ?_
  refine vr_istore_n (pc := 1) [(1, .int 0), (0, .ref (g.1 q0))] dX9_inkedTeeth_1 rfl (by decide) rfl ?_
  refine vr_iconst (pc := 2) 0 dX9_inkedTeeth_2 ci_0 ?_
  refine vr_istore_n (pc := 3) [(2, .int 0), (1, .int 0), (0, .ref (g.1 q0))] dX9_inkedTeeth_3 rfl (by decide) rfl ?_
  refine vr_sub [2, 1, 0] [(0, .ref (g.1 q0)), (1, .int 0), (2, .int 0)] rfl ?_
  refine v_X9_inkedTeeth_L4 l g (fun y1 h => ?_) FU q0 0 0 (hq0) h
  refine vr_iload_n (pc := 30) 0 dX9_inkedTeeth_30 rfl rfl ?_
  have h := Option.some.inj h; subst h
  exact vr_iret (pc := 31) .int dX9_inkedTeeth_31 rfl rfl rfl
theorem dX9_inked_0 : decode cX9_inked 0 = .ok (.iload_n 1, 1) := by decide +kernel
theorem dX9_inked_1 : decode cX9_inked 1 = .ok (.iconst 0, 1) := by decide +kernel
theorem dX9_inked_2 : decode cX9_inked 2 = .ok (.iconst 3, 1) := by decide +kernel
theorem dX9_inked_3 : decode cX9_inked 3 = .ok (.invokestatic 111, 3) := by decide +kernel
theorem dX9_inked_6 : decode cX9_inked 6 = .ok (.ifCond .ne 10, 3) := by decide +kernel
theorem dX9_inked_9 : decode cX9_inked 9 = .ok (.aload_n 0, 1) := by decide +kernel
theorem dX9_inked_10 : decode cX9_inked 10 = .ok (.bipush (-2), 2) := by decide +kernel
theorem dX9_inked_12 : decode cX9_inked 12 = .ok (.invokevirtual 104, 3) := by decide +kernel
theorem dX9_inked_15 : decode cX9_inked 15 = .ok (.ireturn, 1) := by decide +kernel
theorem dX9_inked_16 : decode cX9_inked 16 = .ok (.iload_n 1, 1) := by decide +kernel
theorem dX9_inked_17 : decode cX9_inked 17 = .ok (.ifCond .ne 8, 3) := by decide +kernel
theorem dX9_inked_20 : decode cX9_inked 20 = .ok (.aload_n 0, 1) := by decide +kernel
theorem dX9_inked_21 : decode cX9_inked 21 = .ok (.invokevirtual 267, 3) := by decide +kernel
theorem dX9_inked_24 : decode cX9_inked 24 = .ok (.ireturn, 1) := by decide +kernel
theorem dX9_inked_25 : decode cX9_inked 25 = .ok (.bipush (-9), 2) := by decide +kernel
theorem dX9_inked_27 : decode cX9_inked 27 = .ok (.istore_n 2, 1) := by decide +kernel
theorem dX9_inked_28 : decode cX9_inked 28 = .ok (.iconst 0, 1) := by decide +kernel
theorem dX9_inked_29 : decode cX9_inked 29 = .ok (.istore_n 3, 1) := by decide +kernel
theorem dX9_inked_30 : decode cX9_inked 30 = .ok (.iload_n 3, 1) := by decide +kernel
theorem dX9_inked_31 : decode cX9_inked 31 = .ok (.aload_n 0, 1) := by decide +kernel
theorem dX9_inked_32 : decode cX9_inked 32 = .ok (.getfield 7, 3) := by decide +kernel
theorem dX9_inked_35 : decode cX9_inked 35 = .ok (.if_icmp .ge 52, 3) := by decide +kernel
theorem dX9_inked_38 : decode cX9_inked 38 = .ok (.aload_n 0, 1) := by decide +kernel
theorem dX9_inked_39 : decode cX9_inked 39 = .ok (.getfield 17, 3) := by decide +kernel
theorem dX9_inked_42 : decode cX9_inked 42 = .ok (.iload_n 3, 1) := by decide +kernel
theorem dX9_inked_43 : decode cX9_inked 43 = .ok (.iaload, 1) := by decide +kernel
theorem dX9_inked_44 : decode cX9_inked 44 = .ok (.ifCond .ne 6, 3) := by decide +kernel
theorem dX9_inked_47 : decode cX9_inked 47 = .ok (.goto 34, 3) := by decide +kernel
theorem dX9_inked_50 : decode cX9_inked 50 = .ok (.iload_n 2, 1) := by decide +kernel
theorem dX9_inked_51 : decode cX9_inked 51 = .ok (.ifCond .lt 28, 3) := by decide +kernel
theorem dX9_inked_54 : decode cX9_inked 54 = .ok (.iload_n 1, 1) := by decide +kernel
theorem dX9_inked_55 : decode cX9_inked 55 = .ok (.iconst 2, 1) := by decide +kernel
theorem dX9_inked_56 : decode cX9_inked 56 = .ok (.if_icmp .eq 23, 3) := by decide +kernel
theorem dX9_inked_59 : decode cX9_inked 59 = .ok (.iload_n 1, 1) := by decide +kernel
theorem dX9_inked_60 : decode cX9_inked 60 = .ok (.iconst 3, 1) := by decide +kernel
theorem dX9_inked_61 : decode cX9_inked 61 = .ok (.if_icmp .ne 20, 3) := by decide +kernel
theorem dX9_inked_64 : decode cX9_inked 64 = .ok (.aload_n 0, 1) := by decide +kernel
theorem dX9_inked_65 : decode cX9_inked 65 = .ok (.getfield 17, 3) := by decide +kernel
theorem dX9_inked_68 : decode cX9_inked 68 = .ok (.iload_n 3, 1) := by decide +kernel
theorem dX9_inked_69 : decode cX9_inked 69 = .ok (.iaload, 1) := by decide +kernel
theorem dX9_inked_70 : decode cX9_inked 70 = .ok (.aload_n 0, 1) := by decide +kernel
theorem dX9_inked_71 : decode cX9_inked 71 = .ok (.getfield 17, 3) := by decide +kernel
theorem dX9_inked_74 : decode cX9_inked 74 = .ok (.iload_n 2, 1) := by decide +kernel
theorem dX9_inked_75 : decode cX9_inked 75 = .ok (.iaload, 1) := by decide +kernel
theorem dX9_inked_76 : decode cX9_inked 76 = .ok (.if_icmp .le 5, 3) := by decide +kernel
theorem dX9_inked_79 : decode cX9_inked 79 = .ok (.iload_n 3, 1) := by decide +kernel
theorem dX9_inked_80 : decode cX9_inked 80 = .ok (.istore_n 2, 1) := by decide +kernel
theorem dX9_inked_81 : decode cX9_inked 81 = .ok (.iinc 3 1, 3) := by decide +kernel
theorem dX9_inked_84 : decode cX9_inked 84 = .ok (.goto (-54), 3) := by decide +kernel
theorem dX9_inked_87 : decode cX9_inked 87 = .ok (.iload_n 2, 1) := by decide +kernel
theorem dX9_inked_88 : decode cX9_inked 88 = .ok (.ireturn, 1) := by decide +kernel
set_option maxRecDepth 20000 in
set_option maxHeartbeats 4000000 in
theorem v_X9_inked_L30 (l : Launch) (g : GG) {r : Int32 × SS} {κ : Int32 → SS → Option (Int32 × SS)} (hκ : ∀ (y2 : Int32) (τ : SS) , κ y2 τ = some r → VV l g 1 RX9 cX9_inked 4 (some .int) (some (.int r.1), r.2) 87 [(2, .int y2)] [] τ) : ∀ (fu : Nat) (q0 : Nat) (x1 : Int32) (x2 : Int32) (x3 : Int32) (hq0 : kd q0 = 8) (σ : SS), f_X9_inked_L30 κ fu q0 x1 x2 x3 σ = some r → VV l g 1 RX9 cX9_inked 4 (some .int) (some (.int r.1), r.2) 30 [(0, .ref (g.1 q0)), (1, .int x1), (2, .int x2), (3, .int x3)] [] σ := by
  intro fu
  induction fu with
  | zero => intro q0 x1 x2 x3 hq0 σ h; cases h
  | succ fu ih =>
    intro q0 x1 x2 x3 hq0 σ h
    simp only [f_X9_inked_L30] at h
    refine vr_iload_n (pc := 30) 3 dX9_inked_30 rfl rfl ?_
    refine vr_aload_n (pc := 31) 0 dX9_inked_31 rfl rfl ?_
    refine vr_getI (pc := 32) 0 dX9_inked_32 fi_X9_7 hq0 (sh_8_0 hq0) ?_
    refine vr_icmp_ge (pc := 35) 87 dX9_inked_35 (by decide) (fun c3 => ?_) (fun c3 => ?_)
    · rw [if_pos c3] at h
      refine vr_sub [2] [(2, .int x2)] rfl ?_
      exact hκ x2 σ h
    · rw [if_neg c3] at h
      refine vr_aload_n (pc := 38) 0 dX9_inked_38 rfl rfl ?_
      refine vr_getR (pc := 39) 2 dX9_inked_39 fi_X9_17 hq0 (sh_8_2 hq0).1 ?_
      refine vr_iload_n (pc := 42) 3 dX9_inked_42 rfl rfl ?_
      obtain ⟨hc4, h⟩ := ck_some h
      refine vr_iald (pc := 43) dX9_inked_43 (sh_8_2 hq0).2 hc4 ?_
      refine vr_if_ne (pc := 44) 50 dX9_inked_44 (by decide) (fun c5 => ?_) (fun c5 => ?_)
      · rw [if_neg c5] at h
        refine vr_iload_n (pc := 50) 2 dX9_inked_50 rfl rfl ?_
        refine vr_if_lt (pc := 51) 79 dX9_inked_51 (by decide) (fun c6 => ?_) (fun c6 => ?_)
        · rw [if_pos c6] at h
          refine vr_iload_n (pc := 79) 3 dX9_inked_79 rfl rfl ?_
          refine vr_istore_n (pc := 80) [(2, .int x3), (0, .ref (g.1 q0)), (1, .int x1), (3, .int x3)] dX9_inked_80 rfl (by decide) rfl ?_
          refine vr_iinc (pc := 81) [(3, .int (x3 + 1)), (2, .int x3), (0, .ref (g.1 q0)), (1, .int x1)] 3 dX9_inked_81 rfl (congrArg (fun z => x3 + z) ci_1) (by decide) rfl ?_
          refine vr_goto (pc := 84) 30 dX9_inked_84 (by decide) ?_
          refine vr_sub [2, 3, 1, 0] [(0, .ref (g.1 q0)), (1, .int x1), (2, .int x3), (3, .int (x3 + 1))] rfl ?_
          exact ih q0 x1 x3 (x3 + 1) (hq0) σ h
        · rw [if_neg c6] at h
          refine vr_iload_n (pc := 54) 1 dX9_inked_54 rfl rfl ?_
          refine vr_iconst (pc := 55) 2 dX9_inked_55 ci_2 ?_
          refine vr_icmp_eq (pc := 56) 79 dX9_inked_56 (by decide) (fun c7 => ?_) (fun c7 => ?_)
          · rw [if_pos c7] at h
            refine vr_iload_n (pc := 79) 3 dX9_inked_79 rfl rfl ?_
            refine vr_istore_n (pc := 80) [(2, .int x3), (0, .ref (g.1 q0)), (1, .int x1), (3, .int x3)] dX9_inked_80 rfl (by decide) rfl ?_
            refine vr_iinc (pc := 81) [(3, .int (x3 + 1)), (2, .int x3), (0, .ref (g.1 q0)), (1, .int x1)] 3 dX9_inked_81 rfl (congrArg (fun z => x3 + z) ci_1) (by decide) rfl ?_
            refine vr_goto (pc := 84) 30 dX9_inked_84 (by decide) ?_
            refine vr_sub [2, 3, 1, 0] [(0, .ref (g.1 q0)), (1, .int x1), (2, .int x3), (3, .int (x3 + 1))] rfl ?_
            exact ih q0 x1 x3 (x3 + 1) (hq0) σ h
          · rw [if_neg c7] at h
            refine vr_iload_n (pc := 59) 1 dX9_inked_59 rfl rfl ?_
            refine vr_iconst (pc := 60) 3 dX9_inked_60 ci_3 ?_
            refine vr_icmp_ne (pc := 61) 81 dX9_inked_61 (by decide) (fun c8 => ?_) (fun c8 => ?_)
            · rw [if_neg c8] at h
              refine vr_iinc (pc := 81) [(3, .int (x3 + 1)), (0, .ref (g.1 q0)), (1, .int x1), (2, .int x2)] 3 dX9_inked_81 rfl (congrArg (fun z => x3 + z) ci_1) (by decide) rfl ?_
              refine vr_goto (pc := 84) 30 dX9_inked_84 (by decide) ?_
              refine vr_sub [1, 2, 3, 0] [(0, .ref (g.1 q0)), (1, .int x1), (2, .int x2), (3, .int (x3 + 1))] rfl ?_
              exact ih q0 x1 x2 (x3 + 1) (hq0) σ h
            · rw [if_pos c8] at h
              refine vr_aload_n (pc := 64) 0 dX9_inked_64 rfl rfl ?_
              refine vr_getR (pc := 65) 2 dX9_inked_65 fi_X9_17 hq0 (sh_8_2 hq0).1 ?_
              refine vr_iload_n (pc := 68) 3 dX9_inked_68 rfl rfl ?_
              obtain ⟨hc9, h⟩ := ck_some h
              refine vr_iald (pc := 69) dX9_inked_69 (sh_8_2 hq0).2 hc9 ?_
              refine vr_aload_n (pc := 70) 0 dX9_inked_70 rfl rfl ?_
              refine vr_getR (pc := 71) 2 dX9_inked_71 fi_X9_17 hq0 (sh_8_2 hq0).1 ?_
              refine vr_iload_n (pc := 74) 2 dX9_inked_74 rfl rfl ?_
              obtain ⟨hc10, h⟩ := ck_some h
              refine vr_iald (pc := 75) dX9_inked_75 (sh_8_2 hq0).2 hc10 ?_
              refine vr_icmp_le (pc := 76) 81 dX9_inked_76 (by decide) (fun c11 => ?_) (fun c11 => ?_)
              · rw [if_pos c11] at h
                refine vr_iinc (pc := 81) [(3, .int (x3 + 1)), (0, .ref (g.1 q0)), (1, .int x1), (2, .int x2)] 3 dX9_inked_81 rfl (congrArg (fun z => x3 + z) ci_1) (by decide) rfl ?_
                refine vr_goto (pc := 84) 30 dX9_inked_84 (by decide) ?_
                refine vr_sub [1, 2, 3, 0] [(0, .ref (g.1 q0)), (1, .int x1), (2, .int x2), (3, .int (x3 + 1))] rfl ?_
                exact ih q0 x1 x2 (x3 + 1) (hq0) σ h
              · rw [if_neg c11] at h
                refine vr_iload_n (pc := 79) 3 dX9_inked_79 rfl rfl ?_
                refine vr_istore_n (pc := 80) [(2, .int x3), (0, .ref (g.1 q0)), (1, .int x1), (3, .int x3)] dX9_inked_80 rfl (by decide) rfl ?_
                refine vr_iinc (pc := 81) [(3, .int (x3 + 1)), (2, .int x3), (0, .ref (g.1 q0)), (1, .int x1)] 3 dX9_inked_81 rfl (congrArg (fun z => x3 + z) ci_1) (by decide) rfl ?_
                refine vr_goto (pc := 84) 30 dX9_inked_84 (by decide) ?_
                refine vr_sub [2, 3, 1, 0] [(0, .ref (g.1 q0)), (1, .int x1), (2, .int x3), (3, .int (x3 + 1))] rfl ?_
                exact ih q0 x1 x3 (x3 + 1) (hq0) σ h
      · rw [if_pos c5] at h
        refine vr_goto (pc := 47) 81 dX9_inked_47 (by decide) ?_
        refine vr_iinc (pc := 81) [(3, .int (x3 + 1)), (0, .ref (g.1 q0)), (1, .int x1), (2, .int x2)] 3 dX9_inked_81 rfl (congrArg (fun z => x3 + z) ci_1) (by decide) rfl ?_
        refine vr_goto (pc := 84) 30 dX9_inked_84 (by decide) ?_
        refine vr_sub [1, 2, 3, 0] [(0, .ref (g.1 q0)), (1, .int x1), (2, .int x2), (3, .int (x3 + 1))] rfl ?_
        exact ih q0 x1 x2 (x3 + 1) (hq0) σ h
set_option maxRecDepth 20000 in
set_option maxHeartbeats 4000000 in
theorem s_X9_inked (l : Launch) (g : GG) {q0 : Nat} (hq0 : kd q0 = 8) {a1 : Int32} {σ : SS} {r : Int32 × SS} (h : f_X9_inked q0 a1 σ = some r) : CT l g 1 yX9_inked cX9_inked 4 (some .int) [.ref (g.1 q0), .int a1] σ (some (.int r.1), r.2) := by
  refine CT.of (lv := [(0, .ref (g.1 q0)), (1, .int a1)]) RX9 (by decide +kernel) rfl (Nat.le_of_ble_eq_true rfl) rfl ?_
  unfold f_X9_inked at h
  refine vr_iload_n (pc := 0) 1 dX9_inked_0 rfl rfl ?_
  refine vr_iconst (pc := 1) 0 dX9_inked_1 ci_0 ?_
  refine vr_iconst (pc := 2) 3 dX9_inked_2 ci_3 ?_
  refine vr_callS (pc := 3) (ρ1 := (some (.int (f_X9_within a1 0 3)), σ)) [.int a1, .int 0, .int 3] dX9_inked_3 (s_X9_within l g rfl) cw_X9_within ml_X9_111 (by decide) rfl rfl (Nat.le_of_ble_eq_true rfl) ?_
  refine vr_if_ne (pc := 6) 16 dX9_inked_6 (by decide) (fun c1 => ?_) (fun c1 => ?_)
  · rw [if_neg c1] at h
    refine vr_iload_n (pc := 16) 1 dX9_inked_16 rfl rfl ?_
    refine vr_if_ne (pc := 17) 25 dX9_inked_17 (by decide) (fun c2 => ?_) (fun c2 => ?_)
    · rw [if_neg c2] at h
      refine vr_bipush (pc := 25) (-9) dX9_inked_25 cb_m9 ?_
      refine vr_istore_n (pc := 27) [(2, .int (-9)), (0, .ref (g.1 q0)), (1, .int a1)] dX9_inked_27 rfl (by decide) rfl ?_
      refine vr_iconst (pc := 28) 0 dX9_inked_28 ci_0 ?_
      refine vr_istore_n (pc := 29) [(3, .int 0), (2, .int (-9)), (0, .ref (g.1 q0)), (1, .int a1)] dX9_inked_29 rfl (by decide) rfl ?_
      refine vr_sub [2, 3, 1, 0] [(0, .ref (g.1 q0)), (1, .int a1), (2, .int (-9)), (3, .int 0)] rfl ?_
      refine v_X9_inked_L30 l g (fun y2 τ h => ?_) FU q0 a1 (-9) 0 (hq0) σ h
      refine vr_iload_n (pc := 87) 0 dX9_inked_87 rfl rfl ?_
      have h := Option.some.inj h; subst h
      exact vr_iret (pc := 88) .int dX9_inked_88 rfl rfl rfl
    · rw [if_pos c2] at h
      refine vr_aload_n (pc := 20) 0 dX9_inked_20 rfl rfl ?_
      obtain ⟨z12, hz13, h⟩ := ob_some h
      refine vr_callV (pc := 21) (ρ1 := (some (.int z12), σ)) [] dX9_inked_21 (s_X9_inkedTeeth l g (hq0) hz13) cw_X9_inkedTeeth ml_X9_267 hq0 rfl (by decide) (by decide) rfl rfl (Nat.le_of_ble_eq_true rfl) ?_
      have h := Option.some.inj h; subst h
      exact vr_iret (pc := 24) .int dX9_inked_24 rfl rfl rfl
  · rw [if_pos c1] at h
    refine vr_aload_n (pc := 9) 0 dX9_inked_9 rfl rfl ?_
    refine vr_bipush (pc := 10) (-2) dX9_inked_10 cb_m2 ?_
    obtain ⟨z14, hz15, h⟩ := ob_some h
    refine vr_callV (pc := 12) (ρ1 := (some (.int z14.1), z14.2)) [.int (-2)] dX9_inked_12 (s_X9_no l g (hq0) hz15) cw_X9_no ml_X9_104 hq0 rfl (by decide) (by decide) rfl rfl (Nat.le_of_ble_eq_true rfl) ?_
    have h := Option.some.inj h; subst h
    exact vr_iret (pc := 15) .int dX9_inked_15 rfl rfl rfl
theorem dX9_ahead_0 : decode cX9_ahead 0 = .ok (.aload_n 0, 1) := by decide +kernel
theorem dX9_ahead_1 : decode cX9_ahead 1 = .ok (.iload_n 1, 1) := by decide +kernel
theorem dX9_ahead_2 : decode cX9_ahead 2 = .ok (.invokevirtual 169, 3) := by decide +kernel
theorem dX9_ahead_5 : decode cX9_ahead 5 = .ok (.ifCond .ne 9, 3) := by decide +kernel
theorem dX9_ahead_8 : decode cX9_ahead 8 = .ok (.aload_n 0, 1) := by decide +kernel
theorem dX9_ahead_9 : decode cX9_ahead 9 = .ok (.iconst (-1), 1) := by decide +kernel
theorem dX9_ahead_10 : decode cX9_ahead 10 = .ok (.invokevirtual 104, 3) := by decide +kernel
theorem dX9_ahead_13 : decode cX9_ahead 13 = .ok (.ireturn, 1) := by decide +kernel
theorem dX9_ahead_14 : decode cX9_ahead 14 = .ok (.iload_n 1, 1) := by decide +kernel
theorem dX9_ahead_15 : decode cX9_ahead 15 = .ok (.istore_n 2, 1) := by decide +kernel
theorem dX9_ahead_16 : decode cX9_ahead 16 = .ok (.iload_n 2, 1) := by decide +kernel
theorem dX9_ahead_17 : decode cX9_ahead 17 = .ok (.aload_n 0, 1) := by decide +kernel
theorem dX9_ahead_18 : decode cX9_ahead 18 = .ok (.getfield 7, 3) := by decide +kernel
theorem dX9_ahead_21 : decode cX9_ahead 21 = .ok (.if_icmp .ge 20, 3) := by decide +kernel
theorem dX9_ahead_24 : decode cX9_ahead 24 = .ok (.aload_n 0, 1) := by decide +kernel
theorem dX9_ahead_25 : decode cX9_ahead 25 = .ok (.getfield 17, 3) := by decide +kernel
theorem dX9_ahead_28 : decode cX9_ahead 28 = .ok (.iload_n 2, 1) := by decide +kernel
theorem dX9_ahead_29 : decode cX9_ahead 29 = .ok (.iaload, 1) := by decide +kernel
theorem dX9_ahead_30 : decode cX9_ahead 30 = .ok (.ifCond .le 5, 3) := by decide +kernel
theorem dX9_ahead_33 : decode cX9_ahead 33 = .ok (.iload_n 2, 1) := by decide +kernel
theorem dX9_ahead_34 : decode cX9_ahead 34 = .ok (.ireturn, 1) := by decide +kernel
theorem dX9_ahead_35 : decode cX9_ahead 35 = .ok (.iinc 2 1, 3) := by decide +kernel
theorem dX9_ahead_38 : decode cX9_ahead 38 = .ok (.goto (-22), 3) := by decide +kernel
theorem dX9_ahead_41 : decode cX9_ahead 41 = .ok (.bipush (-9), 2) := by decide +kernel
theorem dX9_ahead_43 : decode cX9_ahead 43 = .ok (.ireturn, 1) := by decide +kernel
set_option maxRecDepth 20000 in
set_option maxHeartbeats 4000000 in
theorem v_X9_ahead_L16 (l : Launch) (g : GG) {r : Int32 × SS} {κ : SS → Option (Int32 × SS)} (hκ : ∀ (τ : SS) , κ  τ = some r → VV l g 2 RX9 cX9_ahead 3 (some .int) (some (.int r.1), r.2) 41 [] [] τ) : ∀ (fu : Nat) (q0 : Nat) (x2 : Int32) (hq0 : kd q0 = 8) (σ : SS), f_X9_ahead_L16 κ fu q0 x2 σ = some r → VV l g 2 RX9 cX9_ahead 3 (some .int) (some (.int r.1), r.2) 16 [(0, .ref (g.1 q0)), (2, .int x2)] [] σ := by
  intro fu
  induction fu with
  | zero => intro q0 x2 hq0 σ h; cases h
  | succ fu ih =>
    intro q0 x2 hq0 σ h
    simp only [f_X9_ahead_L16] at h
    refine vr_iload_n (pc := 16) 1 dX9_ahead_16 rfl rfl ?_
    refine vr_aload_n (pc := 17) 0 dX9_ahead_17 rfl rfl ?_
    refine vr_getI (pc := 18) 0 dX9_ahead_18 fi_X9_7 hq0 (sh_8_0 hq0) ?_
    refine vr_icmp_ge (pc := 21) 41 dX9_ahead_21 (by decide) (fun c2 => ?_) (fun c2 => ?_)
    · rw [if_pos c2] at h
      refine vr_sub [] [] rfl ?_
      exact hκ σ h
    · rw [if_neg c2] at h
      refine vr_aload_n (pc := 24) 0 dX9_ahead_24 rfl rfl ?_
      refine vr_getR (pc := 25) 2 dX9_ahead_25 fi_X9_17 hq0 (sh_8_2 hq0).1 ?_
      refine vr_iload_n (pc := 28) 1 dX9_ahead_28 rfl rfl ?_
      obtain ⟨hc3, h⟩ := ck_some h
      refine vr_iald (pc := 29) dX9_ahead_29 (sh_8_2 hq0).2 hc3 ?_
      refine vr_if_le (pc := 30) 35 dX9_ahead_30 (by decide) (fun c4 => ?_) (fun c4 => ?_)
      · rw [if_pos c4] at h
        refine vr_iinc (pc := 35) [(2, .int (x2 + 1)), (0, .ref (g.1 q0))] 1 dX9_ahead_35 rfl (congrArg (fun z => x2 + z) ci_1) (by decide) rfl ?_
        refine vr_goto (pc := 38) 16 dX9_ahead_38 (by decide) ?_
        refine vr_sub [1, 0] [(0, .ref (g.1 q0)), (2, .int (x2 + 1))] rfl ?_
        exact ih q0 (x2 + 1) (hq0) σ h
      · rw [if_neg c4] at h
        refine vr_iload_n (pc := 33) 1 dX9_ahead_33 rfl rfl ?_
        have h := Option.some.inj h; subst h
        exact vr_iret (pc := 34) .int dX9_ahead_34 rfl rfl rfl
set_option maxRecDepth 20000 in
set_option maxHeartbeats 4000000 in
theorem s_X9_ahead (l : Launch) (g : GG) {q0 : Nat} (hq0 : kd q0 = 8) {a1 : Int32} {σ : SS} {r : Int32 × SS} (h : f_X9_ahead q0 a1 σ = some r) : CT l g 2 yX9_ahead cX9_ahead 3 (some .int) [.ref (g.1 q0), .int a1] σ (some (.int r.1), r.2) := by
  refine CT.of (lv := [(0, .ref (g.1 q0)), (1, .int a1)]) RX9 (by decide +kernel) rfl (Nat.le_of_ble_eq_true rfl) rfl ?_
  unfold f_X9_ahead at h
  refine vr_aload_n (pc := 0) 0 dX9_ahead_0 rfl rfl ?_
  refine vr_iload_n (pc := 1) 1 dX9_ahead_1 rfl rfl ?_
  refine vr_callV (pc := 2) (ρ1 := (some (.int (f_X9_isTooth q0 a1 σ)), σ)) [.int a1] dX9_ahead_2 (s_X9_isTooth l g (hq0) rfl) cw_X9_isTooth ml_X9_169 hq0 rfl (by decide) (by decide) rfl rfl (Nat.le_of_ble_eq_true rfl) ?_
  refine vr_if_ne (pc := 5) 14 dX9_ahead_5 (by decide) (fun c1 => ?_) (fun c1 => ?_)
  · rw [if_neg c1] at h
    refine vr_iload_n (pc := 14) 1 dX9_ahead_14 rfl rfl ?_
    refine vr_istore_n (pc := 15) [(2, .int a1), (0, .ref (g.1 q0)), (1, .int a1)] dX9_ahead_15 rfl (by decide) rfl ?_
    refine vr_sub [1, 0] [(0, .ref (g.1 q0)), (2, .int a1)] rfl ?_
    refine v_X9_ahead_L16 l g (fun τ h => ?_) FU q0 a1 (hq0) σ h
    refine vr_bipush (pc := 41) (-9) dX9_ahead_41 cb_m9 ?_
    have h := Option.some.inj h; subst h
    exact vr_iret (pc := 43) .int dX9_ahead_43 rfl rfl rfl
  · rw [if_pos c1] at h
    refine vr_aload_n (pc := 8) 0 dX9_ahead_8 rfl rfl ?_
    refine vr_iconst (pc := 9) (-1) dX9_ahead_9 ci_m1 ?_
    obtain ⟨z5, hz6, h⟩ := ob_some h
    refine vr_callV (pc := 10) (ρ1 := (some (.int z5.1), z5.2)) [.int (-1)] dX9_ahead_10 (s_X9_no l g (hq0) hz6) cw_X9_no ml_X9_104 hq0 rfl (by decide) (by decide) rfl rfl (Nat.le_of_ble_eq_true rfl) ?_
    have h := Option.some.inj h; subst h
    exact vr_iret (pc := 13) .int dX9_ahead_13 rfl rfl rfl
theorem dX9_hasOthers_0 : decode cX9_hasOthers 0 = .ok (.iconst 0, 1) := by decide +kernel
theorem dX9_hasOthers_1 : decode cX9_hasOthers 1 = .ok (.istore_n 2, 1) := by decide +kernel
theorem dX9_hasOthers_2 : decode cX9_hasOthers 2 = .ok (.iload_n 2, 1) := by decide +kernel
theorem dX9_hasOthers_3 : decode cX9_hasOthers 3 = .ok (.aload_n 0, 1) := by decide +kernel
theorem dX9_hasOthers_4 : decode cX9_hasOthers 4 = .ok (.getfield 44, 3) := by decide +kernel
theorem dX9_hasOthers_7 : decode cX9_hasOthers 7 = .ok (.iload_n 1, 1) := by decide +kernel
theorem dX9_hasOthers_8 : decode cX9_hasOthers 8 = .ok (.iaload, 1) := by decide +kernel
theorem dX9_hasOthers_9 : decode cX9_hasOthers 9 = .ok (.if_icmp .ge 29, 3) := by decide +kernel
theorem dX9_hasOthers_12 : decode cX9_hasOthers 12 = .ok (.aload_n 0, 1) := by decide +kernel
theorem dX9_hasOthers_13 : decode cX9_hasOthers 13 = .ok (.aload_n 0, 1) := by decide +kernel
theorem dX9_hasOthers_14 : decode cX9_hasOthers 14 = .ok (.getfield 41, 3) := by decide +kernel
theorem dX9_hasOthers_17 : decode cX9_hasOthers 17 = .ok (.bipush 40, 2) := by decide +kernel
theorem dX9_hasOthers_19 : decode cX9_hasOthers 19 = .ok (.iload_n 1, 1) := by decide +kernel
theorem dX9_hasOthers_20 : decode cX9_hasOthers 20 = .ok (.imul, 1) := by decide +kernel
theorem dX9_hasOthers_21 : decode cX9_hasOthers 21 = .ok (.iload_n 2, 1) := by decide +kernel
theorem dX9_hasOthers_22 : decode cX9_hasOthers 22 = .ok (.iadd, 1) := by decide +kernel
theorem dX9_hasOthers_23 : decode cX9_hasOthers 23 = .ok (.iaload, 1) := by decide +kernel
theorem dX9_hasOthers_24 : decode cX9_hasOthers 24 = .ok (.invokevirtual 169, 3) := by decide +kernel
theorem dX9_hasOthers_27 : decode cX9_hasOthers 27 = .ok (.ifCond .ne 5, 3) := by decide +kernel
theorem dX9_hasOthers_30 : decode cX9_hasOthers 30 = .ok (.iconst 1, 1) := by decide +kernel
theorem dX9_hasOthers_31 : decode cX9_hasOthers 31 = .ok (.ireturn, 1) := by decide +kernel
theorem dX9_hasOthers_32 : decode cX9_hasOthers 32 = .ok (.iinc 2 1, 3) := by decide +kernel
theorem dX9_hasOthers_35 : decode cX9_hasOthers 35 = .ok (.goto (-33), 3) := by decide +kernel
theorem dX9_hasOthers_38 : decode cX9_hasOthers 38 = .ok (.iconst 0, 1) := by decide +kernel
theorem dX9_hasOthers_39 : decode cX9_hasOthers 39 = .ok (.ireturn, 1) := by decide +kernel
set_option maxRecDepth 20000 in
set_option maxHeartbeats 4000000 in
theorem v_X9_hasOthers_L2 (l : Launch) (g : GG) {r : Int32} {σ : SS} {κ : Unit → Option Int32} (hκ : κ () = some r → VV l g 2 RX9 cX9_hasOthers 3 (some .boolean) (some (.int r), σ) 38 [] [] σ) : ∀ (fu : Nat) (q0 : Nat) (x1 : Int32) (x2 : Int32) (hq0 : kd q0 = 8), f_X9_hasOthers_L2 σ κ fu q0 x1 x2 = some r → VV l g 2 RX9 cX9_hasOthers 3 (some .boolean) (some (.int r), σ) 2 [(0, .ref (g.1 q0)), (1, .int x1), (2, .int x2)] [] σ := by
  intro fu
  induction fu with
  | zero => intro q0 x1 x2 hq0 h; cases h
  | succ fu ih =>
    intro q0 x1 x2 hq0 h
    simp only [f_X9_hasOthers_L2] at h
    refine vr_iload_n (pc := 2) 2 dX9_hasOthers_2 rfl rfl ?_
    refine vr_aload_n (pc := 3) 0 dX9_hasOthers_3 rfl rfl ?_
    refine vr_getR (pc := 4) 13 dX9_hasOthers_4 fi_X9_44 hq0 (sh_8_13 hq0).1 ?_
    refine vr_iload_n (pc := 7) 1 dX9_hasOthers_7 rfl rfl ?_
    obtain ⟨hc1, h⟩ := ck_some h
    refine vr_iald (pc := 8) dX9_hasOthers_8 (sh_8_13 hq0).2 hc1 ?_
    refine vr_icmp_ge (pc := 9) 38 dX9_hasOthers_9 (by decide) (fun c2 => ?_) (fun c2 => ?_)
    · rw [if_pos c2] at h
      refine vr_sub [] [] rfl ?_
      exact hκ h
    · rw [if_neg c2] at h
      refine vr_aload_n (pc := 12) 0 dX9_hasOthers_12 rfl rfl ?_
      refine vr_aload_n (pc := 13) 0 dX9_hasOthers_13 rfl rfl ?_
      refine vr_getR (pc := 14) 12 dX9_hasOthers_14 fi_X9_41 hq0 (sh_8_12 hq0).1 ?_
      refine vr_bipush (pc := 17) 40 dX9_hasOthers_17 cb_40 ?_
      refine vr_iload_n (pc := 19) 1 dX9_hasOthers_19 rfl rfl ?_
      refine vr_imul (pc := 20) dX9_hasOthers_20 ?_
      refine vr_iload_n (pc := 21) 2 dX9_hasOthers_21 rfl rfl ?_
      refine vr_iadd (pc := 22) dX9_hasOthers_22 ?_
      obtain ⟨hc3, h⟩ := ck_some h
      refine vr_iald (pc := 23) dX9_hasOthers_23 (sh_8_12 hq0).2 hc3 ?_
      refine vr_callV (pc := 24) (ρ1 := (some (.int (f_X9_isTooth q0 (σ.1 (rid q0 12) ((40 * x1) + x2).toNatClampNeg) σ)), σ)) [.int (σ.1 (rid q0 12) ((40 * x1) + x2).toNatClampNeg)] dX9_hasOthers_24 (s_X9_isTooth l g (hq0) rfl) cw_X9_isTooth ml_X9_169 hq0 rfl (by decide) (by decide) rfl rfl (Nat.le_of_ble_eq_true rfl) ?_
      refine vr_if_ne (pc := 27) 32 dX9_hasOthers_27 (by decide) (fun c4 => ?_) (fun c4 => ?_)
      · rw [if_neg c4] at h
        refine vr_iinc (pc := 32) [(2, .int (x2 + 1)), (0, .ref (g.1 q0)), (1, .int x1)] 2 dX9_hasOthers_32 rfl (congrArg (fun z => x2 + z) ci_1) (by decide) rfl ?_
        refine vr_goto (pc := 35) 2 dX9_hasOthers_35 (by decide) ?_
        refine vr_sub [1, 2, 0] [(0, .ref (g.1 q0)), (1, .int x1), (2, .int (x2 + 1))] rfl ?_
        exact ih q0 x1 (x2 + 1) (hq0) h
      · rw [if_pos c4] at h
        refine vr_iconst (pc := 30) 1 dX9_hasOthers_30 ci_1 ?_
        have h := Option.some.inj h; subst h
        exact vr_iret (pc := 31) .boolean dX9_hasOthers_31 rfl rfl rfl
set_option maxRecDepth 20000 in
set_option maxHeartbeats 4000000 in
theorem s_X9_hasOthers (l : Launch) (g : GG) {q0 : Nat} (hq0 : kd q0 = 8) {a1 : Int32} {σ : SS} {r : Int32} (h : f_X9_hasOthers q0 a1 σ = some r) : CT l g 2 yX9_hasOthers cX9_hasOthers 3 (some .boolean) [.ref (g.1 q0), .int a1] σ (some (.int r), σ) := by
  refine CT.of (lv := [(0, .ref (g.1 q0)), (1, .int a1)]) RX9 (by decide +kernel) rfl (Nat.le_of_ble_eq_true rfl) rfl ?_
  unfold f_X9_hasOthers at h
  refine vr_iconst (pc := 0) 0 dX9_hasOthers_0 ci_0 ?_
  refine vr_istore_n (pc := 1) [(2, .int 0), (0, .ref (g.1 q0)), (1, .int a1)] dX9_hasOthers_1 rfl (by decide) rfl ?_
  refine vr_sub [1, 2, 0] [(0, .ref (g.1 q0)), (1, .int a1), (2, .int 0)] rfl ?_
  refine v_X9_hasOthers_L2 l g (fun h => ?_) FU q0 a1 0 (hq0) h
  refine vr_iconst (pc := 38) 0 dX9_hasOthers_38 ci_0 ?_
  have h := Option.some.inj h; subst h
  exact vr_iret (pc := 39) .boolean dX9_hasOthers_39 rfl rfl rfl
theorem dX9_isDrawn_0 : decode cX9_isDrawn 0 = .ok (.iconst 1, 1) := by decide +kernel
theorem dX9_isDrawn_1 : decode cX9_isDrawn 1 = .ok (.istore 5, 2) := by decide +kernel
theorem dX9_isDrawn_3 : decode cX9_isDrawn 3 = .ok (.iload 5, 2) := by decide +kernel
theorem dX9_isDrawn_5 : decode cX9_isDrawn 5 = .ok (.aload_n 0, 1) := by decide +kernel
theorem dX9_isDrawn_6 : decode cX9_isDrawn 6 = .ok (.getfield 44, 3) := by decide +kernel
theorem dX9_isDrawn_9 : decode cX9_isDrawn 9 = .ok (.iload_n 1, 1) := by decide +kernel
theorem dX9_isDrawn_10 : decode cX9_isDrawn 10 = .ok (.iaload, 1) := by decide +kernel
theorem dX9_isDrawn_11 : decode cX9_isDrawn 11 = .ok (.if_icmp .ge 48, 3) := by decide +kernel
theorem dX9_isDrawn_14 : decode cX9_isDrawn 14 = .ok (.aload_n 0, 1) := by decide +kernel
theorem dX9_isDrawn_15 : decode cX9_isDrawn 15 = .ok (.iload_n 2, 1) := by decide +kernel
theorem dX9_isDrawn_16 : decode cX9_isDrawn 16 = .ok (.iload_n 3, 1) := by decide +kernel
theorem dX9_isDrawn_17 : decode cX9_isDrawn 17 = .ok (.iload 4, 2) := by decide +kernel
theorem dX9_isDrawn_19 : decode cX9_isDrawn 19 = .ok (.aload_n 0, 1) := by decide +kernel
theorem dX9_isDrawn_20 : decode cX9_isDrawn 20 = .ok (.getfield 41, 3) := by decide +kernel
theorem dX9_isDrawn_23 : decode cX9_isDrawn 23 = .ok (.bipush 40, 2) := by decide +kernel
theorem dX9_isDrawn_25 : decode cX9_isDrawn 25 = .ok (.iload_n 1, 1) := by decide +kernel
theorem dX9_isDrawn_26 : decode cX9_isDrawn 26 = .ok (.imul, 1) := by decide +kernel
theorem dX9_isDrawn_27 : decode cX9_isDrawn 27 = .ok (.iload 5, 2) := by decide +kernel
theorem dX9_isDrawn_29 : decode cX9_isDrawn 29 = .ok (.iadd, 1) := by decide +kernel
theorem dX9_isDrawn_30 : decode cX9_isDrawn 30 = .ok (.iconst 1, 1) := by decide +kernel
theorem dX9_isDrawn_31 : decode cX9_isDrawn 31 = .ok (.isub, 1) := by decide +kernel
theorem dX9_isDrawn_32 : decode cX9_isDrawn 32 = .ok (.iaload, 1) := by decide +kernel
theorem dX9_isDrawn_33 : decode cX9_isDrawn 33 = .ok (.invokevirtual 172, 3) := by decide +kernel
theorem dX9_isDrawn_36 : decode cX9_isDrawn 36 = .ok (.aload_n 0, 1) := by decide +kernel
theorem dX9_isDrawn_37 : decode cX9_isDrawn 37 = .ok (.getfield 41, 3) := by decide +kernel
theorem dX9_isDrawn_40 : decode cX9_isDrawn 40 = .ok (.bipush 40, 2) := by decide +kernel
theorem dX9_isDrawn_42 : decode cX9_isDrawn 42 = .ok (.iload_n 1, 1) := by decide +kernel
theorem dX9_isDrawn_43 : decode cX9_isDrawn 43 = .ok (.imul, 1) := by decide +kernel
theorem dX9_isDrawn_44 : decode cX9_isDrawn 44 = .ok (.iload 5, 2) := by decide +kernel
theorem dX9_isDrawn_46 : decode cX9_isDrawn 46 = .ok (.iadd, 1) := by decide +kernel
theorem dX9_isDrawn_47 : decode cX9_isDrawn 47 = .ok (.iaload, 1) := by decide +kernel
theorem dX9_isDrawn_48 : decode cX9_isDrawn 48 = .ok (.if_icmp .eq 5, 3) := by decide +kernel
theorem dX9_isDrawn_51 : decode cX9_isDrawn 51 = .ok (.iconst 0, 1) := by decide +kernel
theorem dX9_isDrawn_52 : decode cX9_isDrawn 52 = .ok (.ireturn, 1) := by decide +kernel
theorem dX9_isDrawn_53 : decode cX9_isDrawn 53 = .ok (.iinc 5 1, 3) := by decide +kernel
theorem dX9_isDrawn_56 : decode cX9_isDrawn 56 = .ok (.goto (-53), 3) := by decide +kernel
theorem dX9_isDrawn_59 : decode cX9_isDrawn 59 = .ok (.iconst 1, 1) := by decide +kernel
theorem dX9_isDrawn_60 : decode cX9_isDrawn 60 = .ok (.ireturn, 1) := by decide +kernel
set_option maxRecDepth 20000 in
set_option maxHeartbeats 4000000 in
theorem v_X9_isDrawn_L3 (l : Launch) (g : GG) {r : Int32} {σ : SS} {κ : Unit → Option Int32} (hκ : κ () = some r → VV l g 2 RX9 cX9_isDrawn 6 (some .boolean) (some (.int r), σ) 59 [] [] σ) : ∀ (fu : Nat) (q0 : Nat) (x1 : Int32) (x2 : Int32) (x3 : Int32) (x4 : Int32) (x5 : Int32) (hq0 : kd q0 = 8), f_X9_isDrawn_L3 σ κ fu q0 x1 x2 x3 x4 x5 = some r → VV l g 2 RX9 cX9_isDrawn 6 (some .boolean) (some (.int r), σ) 3 [(0, .ref (g.1 q0)), (1, .int x1), (2, .int x2), (3, .int x3), (4, .int x4), (5, .int x5)] [] σ := by
  intro fu
  induction fu with
  | zero => intro q0 x1 x2 x3 x4 x5 hq0 h; cases h
  | succ fu ih =>
    intro q0 x1 x2 x3 x4 x5 hq0 h
    simp only [f_X9_isDrawn_L3] at h
    refine vr_iload (pc := 3) 5 dX9_isDrawn_3 rfl ?_
    refine vr_aload_n (pc := 5) 0 dX9_isDrawn_5 rfl rfl ?_
    refine vr_getR (pc := 6) 13 dX9_isDrawn_6 fi_X9_44 hq0 (sh_8_13 hq0).1 ?_
    refine vr_iload_n (pc := 9) 1 dX9_isDrawn_9 rfl rfl ?_
    obtain ⟨hc1, h⟩ := ck_some h
    refine vr_iald (pc := 10) dX9_isDrawn_10 (sh_8_13 hq0).2 hc1 ?_
    refine vr_icmp_ge (pc := 11) 59 dX9_isDrawn_11 (by decide) (fun c2 => ?_) (fun c2 => ?_)
    · rw [if_pos c2] at h
      refine vr_sub [] [] rfl ?_
      exact hκ h
    · rw [if_neg c2] at h
      refine vr_aload_n (pc := 14) 0 dX9_isDrawn_14 rfl rfl ?_
      refine vr_iload_n (pc := 15) 2 dX9_isDrawn_15 rfl rfl ?_
      refine vr_iload_n (pc := 16) 3 dX9_isDrawn_16 rfl rfl ?_
      refine vr_iload (pc := 17) 4 dX9_isDrawn_17 rfl ?_
      refine vr_aload_n (pc := 19) 0 dX9_isDrawn_19 rfl rfl ?_
      refine vr_getR (pc := 20) 12 dX9_isDrawn_20 fi_X9_41 hq0 (sh_8_12 hq0).1 ?_
      refine vr_bipush (pc := 23) 40 dX9_isDrawn_23 cb_40 ?_
      refine vr_iload_n (pc := 25) 1 dX9_isDrawn_25 rfl rfl ?_
      refine vr_imul (pc := 26) dX9_isDrawn_26 ?_
      refine vr_iload (pc := 27) 5 dX9_isDrawn_27 rfl ?_
      refine vr_iadd (pc := 29) dX9_isDrawn_29 ?_
      refine vr_iconst (pc := 30) 1 dX9_isDrawn_30 ci_1 ?_
      refine vr_isub (pc := 31) dX9_isDrawn_31 ?_
      obtain ⟨hc3, h⟩ := ck_some h
      refine vr_iald (pc := 32) dX9_isDrawn_32 (sh_8_12 hq0).2 hc3 ?_
      obtain ⟨z4, hz5, h⟩ := ob_some h
      refine vr_callV (pc := 33) (ρ1 := (some (.int z4), σ)) [.int x2, .int x3, .int x4, .int (σ.1 (rid q0 12) (((40 * x1) + x5) - 1).toNatClampNeg)] dX9_isDrawn_33 (s_X9_nextOf l g (hq0) hz5) cw_X9_nextOf ml_X9_172 hq0 rfl (by decide) (by decide) rfl rfl (Nat.le_of_ble_eq_true rfl) ?_
      refine vr_aload_n (pc := 36) 0 dX9_isDrawn_36 rfl rfl ?_
      refine vr_getR (pc := 37) 12 dX9_isDrawn_37 fi_X9_41 hq0 (sh_8_12 hq0).1 ?_
      refine vr_bipush (pc := 40) 40 dX9_isDrawn_40 cb_40 ?_
      refine vr_iload_n (pc := 42) 1 dX9_isDrawn_42 rfl rfl ?_
      refine vr_imul (pc := 43) dX9_isDrawn_43 ?_
      refine vr_iload (pc := 44) 5 dX9_isDrawn_44 rfl ?_
      refine vr_iadd (pc := 46) dX9_isDrawn_46 ?_
      obtain ⟨hc6, h⟩ := ck_some h
      refine vr_iald (pc := 47) dX9_isDrawn_47 (sh_8_12 hq0).2 hc6 ?_
      refine vr_icmp_eq (pc := 48) 53 dX9_isDrawn_48 (by decide) (fun c7 => ?_) (fun c7 => ?_)
      · rw [if_pos c7] at h
        refine vr_iinc (pc := 53) [(5, .int (x5 + 1)), (0, .ref (g.1 q0)), (1, .int x1), (2, .int x2), (3, .int x3), (4, .int x4)] 5 dX9_isDrawn_53 rfl (congrArg (fun z => x5 + z) ci_1) (by decide) rfl ?_
        refine vr_goto (pc := 56) 3 dX9_isDrawn_56 (by decide) ?_
        refine vr_sub [1, 2, 3, 4, 5, 0] [(0, .ref (g.1 q0)), (1, .int x1), (2, .int x2), (3, .int x3), (4, .int x4), (5, .int (x5 + 1))] rfl ?_
        exact ih q0 x1 x2 x3 x4 (x5 + 1) (hq0) h
      · rw [if_neg c7] at h
        refine vr_iconst (pc := 51) 0 dX9_isDrawn_51 ci_0 ?_
        have h := Option.some.inj h; subst h
        exact vr_iret (pc := 52) .boolean dX9_isDrawn_52 rfl rfl rfl
set_option maxRecDepth 20000 in
set_option maxHeartbeats 4000000 in
theorem s_X9_isDrawn (l : Launch) (g : GG) {q0 : Nat} (hq0 : kd q0 = 8) {a1 : Int32} {a2 : Int32} {a3 : Int32} {a4 : Int32} {σ : SS} {r : Int32} (h : f_X9_isDrawn q0 a1 a2 a3 a4 σ = some r) : CT l g 2 yX9_isDrawn cX9_isDrawn 6 (some .boolean) [.ref (g.1 q0), .int a1, .int a2, .int a3, .int a4] σ (some (.int r), σ) := by
  refine CT.of (lv := [(0, .ref (g.1 q0)), (1, .int a1), (2, .int a2), (3, .int a3), (4, .int a4)]) RX9 (by decide +kernel) rfl (Nat.le_of_ble_eq_true rfl) rfl ?_
  unfold f_X9_isDrawn at h
  refine vr_iconst (pc := 0) 1 dX9_isDrawn_0 ci_1 ?_
  refine vr_istore (pc := 1) [(5, .int 1), (0, .ref (g.1 q0)), (1, .int a1), (2, .int a2), (3, .int a3), (4, .int a4)] dX9_isDrawn_1 (by decide) rfl ?_
  refine vr_sub [1, 2, 3, 4, 5, 0] [(0, .ref (g.1 q0)), (1, .int a1), (2, .int a2), (3, .int a3), (4, .int a4), (5, .int 1)] rfl ?_
  refine v_X9_isDrawn_L3 l g (fun h => ?_) FU q0 a1 a2 a3 a4 1 (hq0) h
  refine vr_iconst (pc := 59) 1 dX9_isDrawn_59 ci_1 ?_
  have h := Option.some.inj h; subst h
  exact vr_iret (pc := 60) .boolean dX9_isDrawn_60 rfl rfl rfl
theorem dX9_fits_0 : decode cX9_fits 0 = .ok (.iload_n 1, 1) := by decide +kernel
theorem dX9_fits_1 : decode cX9_fits 1 = .ok (.invokestatic 270, 3) := by decide +kernel
theorem dX9_fits_4 : decode cX9_fits 4 = .ok (.ifCond .ne 9, 3) := by decide +kernel
theorem dX9_fits_7 : decode cX9_fits 7 = .ok (.aload_n 0, 1) := by decide +kernel
theorem dX9_fits_8 : decode cX9_fits 8 = .ok (.iconst (-1), 1) := by decide +kernel
theorem dX9_fits_9 : decode cX9_fits 9 = .ok (.invokevirtual 185, 3) := by decide +kernel
theorem dX9_fits_12 : decode cX9_fits 12 = .ok (.lreturn, 1) := by decide +kernel
theorem dX9_fits_13 : decode cX9_fits 13 = .ok (.iload_n 2, 1) := by decide +kernel
theorem dX9_fits_14 : decode cX9_fits 14 = .ok (.iconst 0, 1) := by decide +kernel
theorem dX9_fits_15 : decode cX9_fits 15 = .ok (.iconst 5, 1) := by decide +kernel
theorem dX9_fits_16 : decode cX9_fits 16 = .ok (.invokestatic 111, 3) := by decide +kernel
theorem dX9_fits_19 : decode cX9_fits 19 = .ok (.ifCond .ne 10, 3) := by decide +kernel
theorem dX9_fits_22 : decode cX9_fits 22 = .ok (.aload_n 0, 1) := by decide +kernel
theorem dX9_fits_23 : decode cX9_fits 23 = .ok (.bipush (-2), 2) := by decide +kernel
theorem dX9_fits_25 : decode cX9_fits 25 = .ok (.invokevirtual 185, 3) := by decide +kernel
theorem dX9_fits_28 : decode cX9_fits 28 = .ok (.lreturn, 1) := by decide +kernel
theorem dX9_fits_29 : decode cX9_fits 29 = .ok (.iload_n 3, 1) := by decide +kernel
theorem dX9_fits_30 : decode cX9_fits 30 = .ok (.ifCond .ge 10, 3) := by decide +kernel
theorem dX9_fits_33 : decode cX9_fits 33 = .ok (.aload_n 0, 1) := by decide +kernel
theorem dX9_fits_34 : decode cX9_fits 34 = .ok (.bipush (-4), 2) := by decide +kernel
theorem dX9_fits_36 : decode cX9_fits 36 = .ok (.invokevirtual 185, 3) := by decide +kernel
theorem dX9_fits_39 : decode cX9_fits 39 = .ok (.lreturn, 1) := by decide +kernel
theorem dX9_fits_40 : decode cX9_fits 40 = .ok (.iload_n 3, 1) := by decide +kernel
theorem dX9_fits_41 : decode cX9_fits 41 = .ok (.bipush 9, 2) := by decide +kernel
theorem dX9_fits_43 : decode cX9_fits 43 = .ok (.if_icmp .le 10, 3) := by decide +kernel
theorem dX9_fits_46 : decode cX9_fits 46 = .ok (.aload_n 0, 1) := by decide +kernel
theorem dX9_fits_47 : decode cX9_fits 47 = .ok (.bipush (-6), 2) := by decide +kernel
theorem dX9_fits_49 : decode cX9_fits 49 = .ok (.invokevirtual 185, 3) := by decide +kernel
theorem dX9_fits_52 : decode cX9_fits 52 = .ok (.lreturn, 1) := by decide +kernel
theorem dX9_fits_53 : decode cX9_fits 53 = .ok (.aload_n 0, 1) := by decide +kernel
theorem dX9_fits_54 : decode cX9_fits 54 = .ok (.getfield 44, 3) := by decide +kernel
theorem dX9_fits_57 : decode cX9_fits 57 = .ok (.iload_n 1, 1) := by decide +kernel
theorem dX9_fits_58 : decode cX9_fits 58 = .ok (.iaload, 1) := by decide +kernel
theorem dX9_fits_59 : decode cX9_fits 59 = .ok (.ifCond .ge 7, 3) := by decide +kernel
theorem dX9_fits_62 : decode cX9_fits 62 = .ok (.ldc2_w 273, 3) := by decide +kernel
theorem dX9_fits_65 : decode cX9_fits 65 = .ok (.lreturn, 1) := by decide +kernel
theorem dX9_fits_66 : decode cX9_fits 66 = .ok (.aload_n 0, 1) := by decide +kernel
theorem dX9_fits_67 : decode cX9_fits 67 = .ok (.iload_n 1, 1) := by decide +kernel
theorem dX9_fits_68 : decode cX9_fits 68 = .ok (.invokevirtual 275, 3) := by decide +kernel
theorem dX9_fits_71 : decode cX9_fits 71 = .ok (.ifCond .eq 10, 3) := by decide +kernel
theorem dX9_fits_74 : decode cX9_fits 74 = .ok (.aload_n 0, 1) := by decide +kernel
theorem dX9_fits_75 : decode cX9_fits 75 = .ok (.bipush (-3), 2) := by decide +kernel
theorem dX9_fits_77 : decode cX9_fits 77 = .ok (.invokevirtual 185, 3) := by decide +kernel
theorem dX9_fits_80 : decode cX9_fits 80 = .ok (.lreturn, 1) := by decide +kernel
theorem dX9_fits_81 : decode cX9_fits 81 = .ok (.lconst 0, 1) := by decide +kernel
theorem dX9_fits_82 : decode cX9_fits 82 = .ok (.lstore 4, 2) := by decide +kernel
theorem dX9_fits_84 : decode cX9_fits 84 = .ok (.iconst 1, 1) := by decide +kernel
theorem dX9_fits_85 : decode cX9_fits 85 = .ok (.istore 6, 2) := by decide +kernel
theorem dX9_fits_87 : decode cX9_fits 87 = .ok (.iload 6, 2) := by decide +kernel
theorem dX9_fits_89 : decode cX9_fits 89 = .ok (.aload_n 0, 1) := by decide +kernel
theorem dX9_fits_90 : decode cX9_fits 90 = .ok (.getfield 7, 3) := by decide +kernel
theorem dX9_fits_93 : decode cX9_fits 93 = .ok (.if_icmp .ge 30, 3) := by decide +kernel
theorem dX9_fits_96 : decode cX9_fits 96 = .ok (.aload_n 0, 1) := by decide +kernel
theorem dX9_fits_97 : decode cX9_fits 97 = .ok (.iload_n 1, 1) := by decide +kernel
theorem dX9_fits_98 : decode cX9_fits 98 = .ok (.iload_n 2, 1) := by decide +kernel
theorem dX9_fits_99 : decode cX9_fits 99 = .ok (.iload 6, 2) := by decide +kernel
theorem dX9_fits_101 : decode cX9_fits 101 = .ok (.iload_n 3, 1) := by decide +kernel
theorem dX9_fits_102 : decode cX9_fits 102 = .ok (.invokevirtual 278, 3) := by decide +kernel
theorem dX9_fits_105 : decode cX9_fits 105 = .ok (.ifCond .eq 12, 3) := by decide +kernel
theorem dX9_fits_108 : decode cX9_fits 108 = .ok (.lload 4, 2) := by decide +kernel
theorem dX9_fits_110 : decode cX9_fits 110 = .ok (.lconst 1, 1) := by decide +kernel
theorem dX9_fits_111 : decode cX9_fits 111 = .ok (.iload 6, 2) := by decide +kernel
theorem dX9_fits_113 : decode cX9_fits 113 = .ok (.lshl, 1) := by decide +kernel
theorem dX9_fits_114 : decode cX9_fits 114 = .ok (.lor, 1) := by decide +kernel
theorem dX9_fits_115 : decode cX9_fits 115 = .ok (.lstore 4, 2) := by decide +kernel
theorem dX9_fits_117 : decode cX9_fits 117 = .ok (.iinc 6 1, 3) := by decide +kernel
theorem dX9_fits_120 : decode cX9_fits 120 = .ok (.goto (-33), 3) := by decide +kernel
theorem dX9_fits_123 : decode cX9_fits 123 = .ok (.lload 4, 2) := by decide +kernel
theorem dX9_fits_125 : decode cX9_fits 125 = .ok (.lreturn, 1) := by decide +kernel
set_option maxRecDepth 20000 in
set_option maxHeartbeats 4000000 in
theorem v_X9_fits_L87 (l : Launch) (g : GG) {r : Int64 × SS} {κ : Int64 → SS → Option (Int64 × SS)} (hκ : ∀ (y4 : Int64) (τ : SS) , κ y4 τ = some r → VV l g 3 RX9 cX9_fits 7 (some .long) (some (.long r.1), r.2) 123 [(4, .long y4)] [] τ) : ∀ (fu : Nat) (q0 : Nat) (x1 : Int32) (x2 : Int32) (x3 : Int32) (x4 : Int64) (x6 : Int32) (hq0 : kd q0 = 8) (σ : SS), f_X9_fits_L87 κ fu q0 x1 x2 x3 x4 x6 σ = some r → VV l g 3 RX9 cX9_fits 7 (some .long) (some (.long r.1), r.2) 87 [(0, .ref (g.1 q0)), (1, .int x1), (2, .int x2), (3, .int x3), (4, .long x4), (6, .int x6)] [] σ := by
  intro fu
  induction fu with
  | zero => intro q0 x1 x2 x3 x4 x6 hq0 σ h; cases h
  | succ fu ih =>
    intro q0 x1 x2 x3 x4 x6 hq0 σ h
    simp only [f_X9_fits_L87] at h
    refine vr_iload (pc := 87) 5 dX9_fits_87 rfl ?_
    refine vr_aload_n (pc := 89) 0 dX9_fits_89 rfl rfl ?_
    refine vr_getI (pc := 90) 0 dX9_fits_90 fi_X9_7 hq0 (sh_8_0 hq0) ?_
    refine vr_icmp_ge (pc := 93) 123 dX9_fits_93 (by decide) (fun c10 => ?_) (fun c10 => ?_)
    · rw [if_pos c10] at h
      refine vr_sub [4] [(4, .long x4)] rfl ?_
      exact hκ x4 σ h
    · rw [if_neg c10] at h
      refine vr_aload_n (pc := 96) 0 dX9_fits_96 rfl rfl ?_
      refine vr_iload_n (pc := 97) 1 dX9_fits_97 rfl rfl ?_
      refine vr_iload_n (pc := 98) 2 dX9_fits_98 rfl rfl ?_
      refine vr_iload (pc := 99) 5 dX9_fits_99 rfl ?_
      refine vr_iload_n (pc := 101) 3 dX9_fits_101 rfl rfl ?_
      obtain ⟨z11, hz12, h⟩ := ob_some h
      refine vr_callV (pc := 102) (ρ1 := (some (.int z11), σ)) [.int x1, .int x2, .int x6, .int x3] dX9_fits_102 (s_X9_isDrawn l g (hq0) hz12) cw_X9_isDrawn ml_X9_278 hq0 rfl (by decide) (by decide) rfl rfl (Nat.le_of_ble_eq_true rfl) ?_
      refine vr_if_eq (pc := 105) 117 dX9_fits_105 (by decide) (fun c13 => ?_) (fun c13 => ?_)
      · rw [if_pos c13] at h
        refine vr_iinc (pc := 117) [(6, .int (x6 + 1)), (0, .ref (g.1 q0)), (1, .int x1), (2, .int x2), (3, .int x3), (4, .long x4)] 5 dX9_fits_117 rfl (congrArg (fun z => x6 + z) ci_1) (by decide) rfl ?_
        refine vr_goto (pc := 120) 87 dX9_fits_120 (by decide) ?_
        refine vr_sub [1, 2, 3, 4, 5, 0] [(0, .ref (g.1 q0)), (1, .int x1), (2, .int x2), (3, .int x3), (4, .long x4), (6, .int (x6 + 1))] rfl ?_
        exact ih q0 x1 x2 x3 x4 (x6 + 1) (hq0) σ h
      · rw [if_neg c13] at h
        refine vr_lload (pc := 108) 4 dX9_fits_108 rfl ?_
        refine vr_lconst (pc := 110) 1 dX9_fits_110 (by decide) ?_
        refine vr_iload (pc := 111) 5 dX9_fits_111 rfl ?_
        refine vr_lshl (pc := 113) dX9_fits_113 ?_
        refine vr_lor (pc := 114) dX9_fits_114 ?_
        refine vr_lstore (pc := 115) [(4, .long (x4 ||| ((1 : Int64) <<< (x6.toInt64 &&& 63)))), (0, .ref (g.1 q0)), (1, .int x1), (2, .int x2), (3, .int x3), (6, .int x6)] dX9_fits_115 (by decide) rfl ?_
        refine vr_iinc (pc := 117) [(6, .int (x6 + 1)), (4, .long (x4 ||| ((1 : Int64) <<< (x6.toInt64 &&& 63)))), (0, .ref (g.1 q0)), (1, .int x1), (2, .int x2), (3, .int x3)] 5 dX9_fits_117 rfl (congrArg (fun z => x6 + z) ci_1) (by decide) rfl ?_
        refine vr_goto (pc := 120) 87 dX9_fits_120 (by decide) ?_
        refine vr_sub [2, 3, 4, 5, 1, 0] [(0, .ref (g.1 q0)), (1, .int x1), (2, .int x2), (3, .int x3), (4, .long (x4 ||| ((1 : Int64) <<< (x6.toInt64 &&& 63)))), (6, .int (x6 + 1))] rfl ?_
        exact ih q0 x1 x2 x3 (x4 ||| ((1 : Int64) <<< (x6.toInt64 &&& 63))) (x6 + 1) (hq0) σ h
set_option maxRecDepth 20000 in
set_option maxHeartbeats 4000000 in
theorem s_X9_fits (l : Launch) (g : GG) {q0 : Nat} (hq0 : kd q0 = 8) {a1 : Int32} {a2 : Int32} {a3 : Int32} {σ : SS} {r : Int64 × SS} (h : f_X9_fits q0 a1 a2 a3 σ = some r) : CT l g 3 yX9_fits cX9_fits 7 (some .long) [.ref (g.1 q0), .int a1, .int a2, .int a3] σ (some (.long r.1), r.2) := by
  refine CT.of (lv := [(0, .ref (g.1 q0)), (1, .int a1), (2, .int a2), (3, .int a3)]) RX9 (by decide +kernel) rfl (Nat.le_of_ble_eq_true rfl) rfl ?_
  unfold f_X9_fits at h
  refine vr_iload_n (pc := 0) 1 dX9_fits_0 rfl rfl ?_
  refine vr_callS (pc := 1) (ρ1 := (some (.int (f_X9_isList a1)), σ)) [.int a1] dX9_fits_1 (s_X9_isList l g rfl) cw_X9_isList ml_X9_270 (by decide) rfl rfl (Nat.le_of_ble_eq_true rfl) ?_
  refine vr_if_ne (pc := 4) 13 dX9_fits_4 (by decide) (fun c1 => ?_) (fun c1 => ?_)
  · rw [if_neg c1] at h
    refine vr_iload_n (pc := 13) 2 dX9_fits_13 rfl rfl ?_
    refine vr_iconst (pc := 14) 0 dX9_fits_14 ci_0 ?_
    refine vr_iconst (pc := 15) 5 dX9_fits_15 ci_5 ?_
    refine vr_callS (pc := 16) (ρ1 := (some (.int (f_X9_within a2 0 5)), σ)) [.int a2, .int 0, .int 5] dX9_fits_16 (s_X9_within l g rfl) cw_X9_within ml_X9_111 (by decide) rfl rfl (Nat.le_of_ble_eq_true rfl) ?_
    refine vr_if_ne (pc := 19) 29 dX9_fits_19 (by decide) (fun c2 => ?_) (fun c2 => ?_)
    · rw [if_neg c2] at h
      refine vr_iload_n (pc := 29) 3 dX9_fits_29 rfl rfl ?_
      refine vr_if_ge (pc := 30) 40 dX9_fits_30 (by decide) (fun c3 => ?_) (fun c3 => ?_)
      · rw [if_pos c3] at h
        refine vr_iload_n (pc := 40) 3 dX9_fits_40 rfl rfl ?_
        refine vr_bipush (pc := 41) 9 dX9_fits_41 cb_9 ?_
        refine vr_icmp_le (pc := 43) 53 dX9_fits_43 (by decide) (fun c4 => ?_) (fun c4 => ?_)
        · rw [if_pos c4] at h
          refine vr_aload_n (pc := 53) 0 dX9_fits_53 rfl rfl ?_
          refine vr_getR (pc := 54) 13 dX9_fits_54 fi_X9_44 hq0 (sh_8_13 hq0).1 ?_
          refine vr_iload_n (pc := 57) 1 dX9_fits_57 rfl rfl ?_
          obtain ⟨hc5, h⟩ := ck_some h
          refine vr_iald (pc := 58) dX9_fits_58 (sh_8_13 hq0).2 hc5 ?_
          refine vr_if_ge (pc := 59) 66 dX9_fits_59 (by decide) (fun c6 => ?_) (fun c6 => ?_)
          · rw [if_pos c6] at h
            refine vr_aload_n (pc := 66) 0 dX9_fits_66 rfl rfl ?_
            refine vr_iload_n (pc := 67) 1 dX9_fits_67 rfl rfl ?_
            obtain ⟨z7, hz8, h⟩ := ob_some h
            refine vr_callV (pc := 68) (ρ1 := (some (.int z7), σ)) [.int a1] dX9_fits_68 (s_X9_hasOthers l g (hq0) hz8) cw_X9_hasOthers ml_X9_275 hq0 rfl (by decide) (by decide) rfl rfl (Nat.le_of_ble_eq_true rfl) ?_
            refine vr_if_eq (pc := 71) 81 dX9_fits_71 (by decide) (fun c9 => ?_) (fun c9 => ?_)
            · rw [if_pos c9] at h
              refine vr_lconst (pc := 81) 0 dX9_fits_81 (by decide) ?_
              refine vr_lstore (pc := 82) [(4, .long (0 : Int64)), (0, .ref (g.1 q0)), (1, .int a1), (2, .int a2), (3, .int a3)] dX9_fits_82 (by decide) rfl ?_
              refine vr_iconst (pc := 84) 1 dX9_fits_84 ci_1 ?_
              refine vr_istore (pc := 85) [(6, .int 1), (4, .long (0 : Int64)), (0, .ref (g.1 q0)), (1, .int a1), (2, .int a2), (3, .int a3)] dX9_fits_85 (by decide) rfl ?_
              refine vr_sub [2, 3, 4, 5, 1, 0] [(0, .ref (g.1 q0)), (1, .int a1), (2, .int a2), (3, .int a3), (4, .long (0 : Int64)), (6, .int 1)] rfl ?_
              refine v_X9_fits_L87 l g (fun y4 τ h => ?_) FU q0 a1 a2 a3 (0 : Int64) 1 (hq0) σ h
              refine vr_lload (pc := 123) 0 dX9_fits_123 rfl ?_
              have h := Option.some.inj h; subst h
              exact vr_lret (pc := 125) dX9_fits_125 rfl rfl
            · rw [if_neg c9] at h
              refine vr_aload_n (pc := 74) 0 dX9_fits_74 rfl rfl ?_
              refine vr_bipush (pc := 75) (-3) dX9_fits_75 cb_m3 ?_
              obtain ⟨z14, hz15, h⟩ := ob_some h
              refine vr_callV (pc := 77) (ρ1 := (some (.long z14.1), z14.2)) [.int (-3)] dX9_fits_77 (s_X9_noFar l g (hq0) hz15) cw_X9_noFar ml_X9_185 hq0 rfl (by decide) (by decide) rfl rfl (Nat.le_of_ble_eq_true rfl) ?_
              have h := Option.some.inj h; subst h
              exact vr_lret (pc := 80) dX9_fits_80 rfl rfl
          · rw [if_neg c6] at h
            refine vr_ldc2 (pc := 62) 4000000000000000011 dX9_fits_62 co_X9_273 ?_
            have h := Option.some.inj h; subst h
            exact vr_lret (pc := 65) dX9_fits_65 rfl rfl
        · rw [if_neg c4] at h
          refine vr_aload_n (pc := 46) 0 dX9_fits_46 rfl rfl ?_
          refine vr_bipush (pc := 47) (-6) dX9_fits_47 cb_m6 ?_
          obtain ⟨z16, hz17, h⟩ := ob_some h
          refine vr_callV (pc := 49) (ρ1 := (some (.long z16.1), z16.2)) [.int (-6)] dX9_fits_49 (s_X9_noFar l g (hq0) hz17) cw_X9_noFar ml_X9_185 hq0 rfl (by decide) (by decide) rfl rfl (Nat.le_of_ble_eq_true rfl) ?_
          have h := Option.some.inj h; subst h
          exact vr_lret (pc := 52) dX9_fits_52 rfl rfl
      · rw [if_neg c3] at h
        refine vr_aload_n (pc := 33) 0 dX9_fits_33 rfl rfl ?_
        refine vr_bipush (pc := 34) (-4) dX9_fits_34 cb_m4 ?_
        obtain ⟨z18, hz19, h⟩ := ob_some h
        refine vr_callV (pc := 36) (ρ1 := (some (.long z18.1), z18.2)) [.int (-4)] dX9_fits_36 (s_X9_noFar l g (hq0) hz19) cw_X9_noFar ml_X9_185 hq0 rfl (by decide) (by decide) rfl rfl (Nat.le_of_ble_eq_true rfl) ?_
        have h := Option.some.inj h; subst h
        exact vr_lret (pc := 39) dX9_fits_39 rfl rfl
    · rw [if_pos c2] at h
      refine vr_aload_n (pc := 22) 0 dX9_fits_22 rfl rfl ?_
      refine vr_bipush (pc := 23) (-2) dX9_fits_23 cb_m2 ?_
      obtain ⟨z20, hz21, h⟩ := ob_some h
      refine vr_callV (pc := 25) (ρ1 := (some (.long z20.1), z20.2)) [.int (-2)] dX9_fits_25 (s_X9_noFar l g (hq0) hz21) cw_X9_noFar ml_X9_185 hq0 rfl (by decide) (by decide) rfl rfl (Nat.le_of_ble_eq_true rfl) ?_
      have h := Option.some.inj h; subst h
      exact vr_lret (pc := 28) dX9_fits_28 rfl rfl
  · rw [if_pos c1] at h
    refine vr_aload_n (pc := 7) 0 dX9_fits_7 rfl rfl ?_
    refine vr_iconst (pc := 8) (-1) dX9_fits_8 ci_m1 ?_
    obtain ⟨z22, hz23, h⟩ := ob_some h
    refine vr_callV (pc := 9) (ρ1 := (some (.long z22.1), z22.2)) [.int (-1)] dX9_fits_9 (s_X9_noFar l g (hq0) hz23) cw_X9_noFar ml_X9_185 hq0 rfl (by decide) (by decide) rfl rfl (Nat.le_of_ble_eq_true rfl) ?_
    have h := Option.some.inj h; subst h
    exact vr_lret (pc := 12) dX9_fits_12 rfl rfl
theorem dX9_kinds_0 : decode cX9_kinds 0 = .ok (.iload_n 1, 1) := by decide +kernel
theorem dX9_kinds_1 : decode cX9_kinds 1 = .ok (.invokestatic 270, 3) := by decide +kernel
theorem dX9_kinds_4 : decode cX9_kinds 4 = .ok (.ifCond .eq 11, 3) := by decide +kernel
theorem dX9_kinds_7 : decode cX9_kinds 7 = .ok (.aload_n 0, 1) := by decide +kernel
theorem dX9_kinds_8 : decode cX9_kinds 8 = .ok (.iload_n 2, 1) := by decide +kernel
theorem dX9_kinds_9 : decode cX9_kinds 9 = .ok (.invokevirtual 176, 3) := by decide +kernel
theorem dX9_kinds_12 : decode cX9_kinds 12 = .ok (.ifCond .ne 9, 3) := by decide +kernel
theorem dX9_kinds_15 : decode cX9_kinds 15 = .ok (.aload_n 0, 1) := by decide +kernel
theorem dX9_kinds_16 : decode cX9_kinds 16 = .ok (.iconst (-1), 1) := by decide +kernel
theorem dX9_kinds_17 : decode cX9_kinds 17 = .ok (.invokevirtual 104, 3) := by decide +kernel
theorem dX9_kinds_20 : decode cX9_kinds 20 = .ok (.ireturn, 1) := by decide +kernel
theorem dX9_kinds_21 : decode cX9_kinds 21 = .ok (.iload_n 3, 1) := by decide +kernel
theorem dX9_kinds_22 : decode cX9_kinds 22 = .ok (.iconst 0, 1) := by decide +kernel
theorem dX9_kinds_23 : decode cX9_kinds 23 = .ok (.iconst 1, 1) := by decide +kernel
theorem dX9_kinds_24 : decode cX9_kinds 24 = .ok (.invokestatic 111, 3) := by decide +kernel
theorem dX9_kinds_27 : decode cX9_kinds 27 = .ok (.ifCond .ne 10, 3) := by decide +kernel
theorem dX9_kinds_30 : decode cX9_kinds 30 = .ok (.aload_n 0, 1) := by decide +kernel
theorem dX9_kinds_31 : decode cX9_kinds 31 = .ok (.bipush (-2), 2) := by decide +kernel
theorem dX9_kinds_33 : decode cX9_kinds 33 = .ok (.invokevirtual 104, 3) := by decide +kernel
theorem dX9_kinds_36 : decode cX9_kinds 36 = .ok (.ireturn, 1) := by decide +kernel
theorem dX9_kinds_37 : decode cX9_kinds 37 = .ok (.aload_n 0, 1) := by decide +kernel
theorem dX9_kinds_38 : decode cX9_kinds 38 = .ok (.getfield 44, 3) := by decide +kernel
theorem dX9_kinds_41 : decode cX9_kinds 41 = .ok (.iload_n 1, 1) := by decide +kernel
theorem dX9_kinds_42 : decode cX9_kinds 42 = .ok (.iaload, 1) := by decide +kernel
theorem dX9_kinds_43 : decode cX9_kinds 43 = .ok (.ifCond .ge 6, 3) := by decide +kernel
theorem dX9_kinds_46 : decode cX9_kinds 46 = .ok (.bipush (-11), 2) := by decide +kernel
theorem dX9_kinds_48 : decode cX9_kinds 48 = .ok (.ireturn, 1) := by decide +kernel
theorem dX9_kinds_49 : decode cX9_kinds 49 = .ok (.aload_n 0, 1) := by decide +kernel
theorem dX9_kinds_50 : decode cX9_kinds 50 = .ok (.iload_n 1, 1) := by decide +kernel
theorem dX9_kinds_51 : decode cX9_kinds 51 = .ok (.invokevirtual 275, 3) := by decide +kernel
theorem dX9_kinds_54 : decode cX9_kinds 54 = .ok (.ifCond .eq 10, 3) := by decide +kernel
theorem dX9_kinds_57 : decode cX9_kinds 57 = .ok (.aload_n 0, 1) := by decide +kernel
theorem dX9_kinds_58 : decode cX9_kinds 58 = .ok (.bipush (-3), 2) := by decide +kernel
theorem dX9_kinds_60 : decode cX9_kinds 60 = .ok (.invokevirtual 104, 3) := by decide +kernel
theorem dX9_kinds_63 : decode cX9_kinds 63 = .ok (.ireturn, 1) := by decide +kernel
theorem dX9_kinds_64 : decode cX9_kinds 64 = .ok (.iconst 0, 1) := by decide +kernel
theorem dX9_kinds_65 : decode cX9_kinds 65 = .ok (.istore 4, 2) := by decide +kernel
theorem dX9_kinds_67 : decode cX9_kinds 67 = .ok (.iconst 0, 1) := by decide +kernel
theorem dX9_kinds_68 : decode cX9_kinds 68 = .ok (.istore 5, 2) := by decide +kernel
theorem dX9_kinds_70 : decode cX9_kinds 70 = .ok (.iload 5, 2) := by decide +kernel
theorem dX9_kinds_72 : decode cX9_kinds 72 = .ok (.iload_n 3, 1) := by decide +kernel
theorem dX9_kinds_73 : decode cX9_kinds 73 = .ok (.ifCond .ne 8, 3) := by decide +kernel
theorem dX9_kinds_76 : decode cX9_kinds 76 = .ok (.bipush 6, 2) := by decide +kernel
theorem dX9_kinds_78 : decode cX9_kinds 78 = .ok (.goto 5, 3) := by decide +kernel
theorem dX9_kinds_81 : decode cX9_kinds 81 = .ok (.bipush 10, 2) := by decide +kernel
theorem dX9_kinds_83 : decode cX9_kinds 83 = .ok (.if_icmp .ge 70, 3) := by decide +kernel
theorem dX9_kinds_86 : decode cX9_kinds 86 = .ok (.iload_n 3, 1) := by decide +kernel
theorem dX9_kinds_87 : decode cX9_kinds 87 = .ok (.ifCond .ne 25, 3) := by decide +kernel
theorem dX9_kinds_90 : decode cX9_kinds 90 = .ok (.aload_n 0, 1) := by decide +kernel
theorem dX9_kinds_91 : decode cX9_kinds 91 = .ok (.iload_n 1, 1) := by decide +kernel
theorem dX9_kinds_92 : decode cX9_kinds 92 = .ok (.iload 5, 2) := by decide +kernel
theorem dX9_kinds_94 : decode cX9_kinds 94 = .ok (.aload_n 0, 1) := by decide +kernel
theorem dX9_kinds_95 : decode cX9_kinds 95 = .ok (.getfield 23, 3) := by decide +kernel
theorem dX9_kinds_98 : decode cX9_kinds 98 = .ok (.iload_n 2, 1) := by decide +kernel
theorem dX9_kinds_99 : decode cX9_kinds 99 = .ok (.iaload, 1) := by decide +kernel
theorem dX9_kinds_100 : decode cX9_kinds 100 = .ok (.aload_n 0, 1) := by decide +kernel
theorem dX9_kinds_101 : decode cX9_kinds 101 = .ok (.getfield 26, 3) := by decide +kernel
theorem dX9_kinds_104 : decode cX9_kinds 104 = .ok (.iload_n 2, 1) := by decide +kernel
theorem dX9_kinds_105 : decode cX9_kinds 105 = .ok (.iaload, 1) := by decide +kernel
theorem dX9_kinds_106 : decode cX9_kinds 106 = .ok (.invokevirtual 278, 3) := by decide +kernel
theorem dX9_kinds_109 : decode cX9_kinds 109 = .ok (.goto 22, 3) := by decide +kernel
theorem dX9_kinds_112 : decode cX9_kinds 112 = .ok (.aload_n 0, 1) := by decide +kernel
theorem dX9_kinds_113 : decode cX9_kinds 113 = .ok (.iload_n 1, 1) := by decide +kernel
theorem dX9_kinds_114 : decode cX9_kinds 114 = .ok (.aload_n 0, 1) := by decide +kernel
theorem dX9_kinds_115 : decode cX9_kinds 115 = .ok (.getfield 20, 3) := by decide +kernel
theorem dX9_kinds_118 : decode cX9_kinds 118 = .ok (.iload_n 2, 1) := by decide +kernel
theorem dX9_kinds_119 : decode cX9_kinds 119 = .ok (.iaload, 1) := by decide +kernel
theorem dX9_kinds_120 : decode cX9_kinds 120 = .ok (.aload_n 0, 1) := by decide +kernel
theorem dX9_kinds_121 : decode cX9_kinds 121 = .ok (.getfield 23, 3) := by decide +kernel
theorem dX9_kinds_124 : decode cX9_kinds 124 = .ok (.iload_n 2, 1) := by decide +kernel
theorem dX9_kinds_125 : decode cX9_kinds 125 = .ok (.iaload, 1) := by decide +kernel
theorem dX9_kinds_126 : decode cX9_kinds 126 = .ok (.iload 5, 2) := by decide +kernel
theorem dX9_kinds_128 : decode cX9_kinds 128 = .ok (.invokevirtual 278, 3) := by decide +kernel
theorem dX9_kinds_131 : decode cX9_kinds 131 = .ok (.istore 6, 2) := by decide +kernel
theorem dX9_kinds_133 : decode cX9_kinds 133 = .ok (.iload 6, 2) := by decide +kernel
theorem dX9_kinds_135 : decode cX9_kinds 135 = .ok (.ifCond .eq 12, 3) := by decide +kernel
theorem dX9_kinds_138 : decode cX9_kinds 138 = .ok (.iload 4, 2) := by decide +kernel
theorem dX9_kinds_140 : decode cX9_kinds 140 = .ok (.iconst 1, 1) := by decide +kernel
theorem dX9_kinds_141 : decode cX9_kinds 141 = .ok (.iload 5, 2) := by decide +kernel
theorem dX9_kinds_143 : decode cX9_kinds 143 = .ok (.ishl, 1) := by decide +kernel
theorem dX9_kinds_144 : decode cX9_kinds 144 = .ok (.ior, 1) := by decide +kernel
theorem dX9_kinds_145 : decode cX9_kinds 145 = .ok (.istore 4, 2) := by decide +kernel
theorem dX9_kinds_147 : decode cX9_kinds 147 = .ok (.iinc 5 1, 3) := by decide +kernel
theorem dX9_kinds_150 : decode cX9_kinds 150 = .ok (.goto (-80), 3) := by decide +kernel
theorem dX9_kinds_153 : decode cX9_kinds 153 = .ok (.iload 4, 2) := by decide +kernel
theorem dX9_kinds_155 : decode cX9_kinds 155 = .ok (.ireturn, 1) := by decide +kernel
set_option maxRecDepth 20000 in
set_option maxHeartbeats 4000000 in
theorem v_X9_kinds_L70 (l : Launch) (g : GG) {r : Int32 × SS} {κ : Int32 → SS → Option (Int32 × SS)} (hκ : ∀ (y4 : Int32) (τ : SS) , κ y4 τ = some r → VV l g 3 RX9 cX9_kinds 7 (some .int) (some (.int r.1), r.2) 153 [(4, .int y4)] [] τ) : ∀ (fu : Nat) (q0 : Nat) (x1 : Int32) (x2 : Int32) (x3 : Int32) (x4 : Int32) (x5 : Int32) (hq0 : kd q0 = 8) (σ : SS), f_X9_kinds_L70 κ fu q0 x1 x2 x3 x4 x5 σ = some r → VV l g 3 RX9 cX9_kinds 7 (some .int) (some (.int r.1), r.2) 70 [(0, .ref (g.1 q0)), (1, .int x1), (2, .int x2), (3, .int x3), (4, .int x4), (5, .int x5)] [] σ := by
  intro fu
  induction fu with
  | zero => intro q0 x1 x2 x3 x4 x5 hq0 σ h; cases h
  | succ fu ih =>
    intro q0 x1 x2 x3 x4 x5 hq0 σ h
    simp only [f_X9_kinds_L70] at h
    refine vr_iload (pc := 70) 5 dX9_kinds_70 rfl ?_
    refine vr_iload_n (pc := 72) 3 dX9_kinds_72 rfl rfl ?_
    obtain ⟨j11, ej11, h⟩ := jn1_e h
    have hj11 : ∀ (v13 : Int32) , j11 v13 = some r → VV l g 3 RX9 cX9_kinds 7 (some .int) (some (.int r.1), r.2) 83 [(0, .ref (g.1 q0)), (1, .int x1), (2, .int x2), (3, .int x3), (4, .int x4), (5, .int x5)] [.int v13, .int x5] σ := by
      intro v13  h
      rw [ej11] at h
      refine vr_icmp_ge (pc := 83) 153 dX9_kinds_83 (by decide) (fun c14 => ?_) (fun c14 => ?_)
      · rw [if_pos c14] at h
        refine vr_sub [4] [(4, .int x4)] rfl ?_
        exact hκ x4 σ h
      · rw [if_neg c14] at h
        refine vr_iload_n (pc := 86) 3 dX9_kinds_86 rfl rfl ?_
        obtain ⟨j15, ej15, h⟩ := jn1_e h
        have hj15 : ∀ (v17 : Int32) , j15 v17 = some r → VV l g 3 RX9 cX9_kinds 7 (some .int) (some (.int r.1), r.2) 131 [(0, .ref (g.1 q0)), (1, .int x1), (2, .int x2), (3, .int x3), (4, .int x4), (5, .int x5)] [.int v17] σ := by
          intro v17  h
          rw [ej15] at h
          refine vr_istore (pc := 131) [(6, .int v17), (0, .ref (g.1 q0)), (1, .int x1), (2, .int x2), (3, .int x3), (4, .int x4), (5, .int x5)] dX9_kinds_131 (by decide) rfl ?_
          refine vr_iload (pc := 133) 0 dX9_kinds_133 rfl ?_
          refine vr_if_eq (pc := 135) 147 dX9_kinds_135 (by decide) (fun c18 => ?_) (fun c18 => ?_)
          · rw [if_pos c18] at h
            refine vr_iinc (pc := 147) [(5, .int (x5 + 1)), (6, .int v17), (0, .ref (g.1 q0)), (1, .int x1), (2, .int x2), (3, .int x3), (4, .int x4)] 6 dX9_kinds_147 rfl (congrArg (fun z => x5 + z) ci_1) (by decide) rfl ?_
            refine vr_goto (pc := 150) 70 dX9_kinds_150 (by decide) ?_
            refine vr_sub [2, 3, 4, 5, 6, 0] [(0, .ref (g.1 q0)), (1, .int x1), (2, .int x2), (3, .int x3), (4, .int x4), (5, .int (x5 + 1))] rfl ?_
            exact ih q0 x1 x2 x3 x4 (x5 + 1) (hq0) σ h
          · rw [if_neg c18] at h
            refine vr_iload (pc := 138) 5 dX9_kinds_138 rfl ?_
            refine vr_iconst (pc := 140) 1 dX9_kinds_140 ci_1 ?_
            refine vr_iload (pc := 141) 6 dX9_kinds_141 rfl ?_
            refine vr_ishl (pc := 143) dX9_kinds_143 ?_
            refine vr_ior (pc := 144) dX9_kinds_144 ?_
            refine vr_istore (pc := 145) [(4, .int (x4 ||| (1 <<< (x5 &&& 31)))), (6, .int v17), (0, .ref (g.1 q0)), (1, .int x1), (2, .int x2), (3, .int x3), (5, .int x5)] dX9_kinds_145 (by decide) rfl ?_
            refine vr_iinc (pc := 147) [(5, .int (x5 + 1)), (4, .int (x4 ||| (1 <<< (x5 &&& 31)))), (6, .int v17), (0, .ref (g.1 q0)), (1, .int x1), (2, .int x2), (3, .int x3)] 6 dX9_kinds_147 rfl (congrArg (fun z => x5 + z) ci_1) (by decide) rfl ?_
            refine vr_goto (pc := 150) 70 dX9_kinds_150 (by decide) ?_
            refine vr_sub [3, 4, 5, 6, 1, 0] [(0, .ref (g.1 q0)), (1, .int x1), (2, .int x2), (3, .int x3), (4, .int (x4 ||| (1 <<< (x5 &&& 31)))), (5, .int (x5 + 1))] rfl ?_
            exact ih q0 x1 x2 x3 (x4 ||| (1 <<< (x5 &&& 31))) (x5 + 1) (hq0) σ h
        refine vr_if_ne (pc := 87) 112 dX9_kinds_87 (by decide) (fun c19 => ?_) (fun c19 => ?_)
        · rw [if_neg c19] at h
          refine vr_aload_n (pc := 112) 0 dX9_kinds_112 rfl rfl ?_
          refine vr_iload_n (pc := 113) 1 dX9_kinds_113 rfl rfl ?_
          refine vr_aload_n (pc := 114) 0 dX9_kinds_114 rfl rfl ?_
          refine vr_getR (pc := 115) 4 dX9_kinds_115 fi_X9_20 hq0 (sh_8_4 hq0).1 ?_
          refine vr_iload_n (pc := 118) 2 dX9_kinds_118 rfl rfl ?_
          obtain ⟨hc20, h⟩ := ck_some h
          refine vr_iald (pc := 119) dX9_kinds_119 (sh_8_4 hq0).2 hc20 ?_
          refine vr_aload_n (pc := 120) 0 dX9_kinds_120 rfl rfl ?_
          refine vr_getR (pc := 121) 5 dX9_kinds_121 fi_X9_23 hq0 (sh_8_5 hq0).1 ?_
          refine vr_iload_n (pc := 124) 2 dX9_kinds_124 rfl rfl ?_
          obtain ⟨hc21, h⟩ := ck_some h
          refine vr_iald (pc := 125) dX9_kinds_125 (sh_8_5 hq0).2 hc21 ?_
          refine vr_iload (pc := 126) 5 dX9_kinds_126 rfl ?_
          obtain ⟨z22, hz23, h⟩ := ob_some h
          refine vr_callV (pc := 128) (ρ1 := (some (.int z22), σ)) [.int x1, .int (σ.1 (rid q0 4) x2.toNatClampNeg), .int (σ.1 (rid q0 5) x2.toNatClampNeg), .int x5] dX9_kinds_128 (s_X9_isDrawn l g (hq0) hz23) cw_X9_isDrawn ml_X9_278 hq0 rfl (by decide) (by decide) rfl rfl (Nat.le_of_ble_eq_true rfl) ?_
          exact hj15 z22 h
        · rw [if_pos c19] at h
          refine vr_aload_n (pc := 90) 0 dX9_kinds_90 rfl rfl ?_
          refine vr_iload_n (pc := 91) 1 dX9_kinds_91 rfl rfl ?_
          refine vr_iload (pc := 92) 5 dX9_kinds_92 rfl ?_
          refine vr_aload_n (pc := 94) 0 dX9_kinds_94 rfl rfl ?_
          refine vr_getR (pc := 95) 5 dX9_kinds_95 fi_X9_23 hq0 (sh_8_5 hq0).1 ?_
          refine vr_iload_n (pc := 98) 2 dX9_kinds_98 rfl rfl ?_
          obtain ⟨hc24, h⟩ := ck_some h
          refine vr_iald (pc := 99) dX9_kinds_99 (sh_8_5 hq0).2 hc24 ?_
          refine vr_aload_n (pc := 100) 0 dX9_kinds_100 rfl rfl ?_
          refine vr_getR (pc := 101) 6 dX9_kinds_101 fi_X9_26 hq0 (sh_8_6 hq0).1 ?_
          refine vr_iload_n (pc := 104) 2 dX9_kinds_104 rfl rfl ?_
          obtain ⟨hc25, h⟩ := ck_some h
          refine vr_iald (pc := 105) dX9_kinds_105 (sh_8_6 hq0).2 hc25 ?_
          obtain ⟨z26, hz27, h⟩ := ob_some h
          refine vr_callV (pc := 106) (ρ1 := (some (.int z26), σ)) [.int x1, .int x5, .int (σ.1 (rid q0 5) x2.toNatClampNeg), .int (σ.1 (rid q0 6) x2.toNatClampNeg)] dX9_kinds_106 (s_X9_isDrawn l g (hq0) hz27) cw_X9_isDrawn ml_X9_278 hq0 rfl (by decide) (by decide) rfl rfl (Nat.le_of_ble_eq_true rfl) ?_
          refine vr_goto (pc := 109) 131 dX9_kinds_109 (by decide) ?_
          exact hj15 z26 h
    refine vr_if_ne (pc := 73) 81 dX9_kinds_73 (by decide) (fun c28 => ?_) (fun c28 => ?_)
    · rw [if_neg c28] at h
      refine vr_bipush (pc := 81) 10 dX9_kinds_81 cb_10 ?_
      exact hj11 10 h
    · rw [if_pos c28] at h
      refine vr_bipush (pc := 76) 6 dX9_kinds_76 cb_6 ?_
      refine vr_goto (pc := 78) 83 dX9_kinds_78 (by decide) ?_
      exact hj11 6 h
set_option maxRecDepth 20000 in
set_option maxHeartbeats 4000000 in
theorem s_X9_kinds (l : Launch) (g : GG) {q0 : Nat} (hq0 : kd q0 = 8) {a1 : Int32} {a2 : Int32} {a3 : Int32} {σ : SS} {r : Int32 × SS} (h : f_X9_kinds q0 a1 a2 a3 σ = some r) : CT l g 3 yX9_kinds cX9_kinds 7 (some .int) [.ref (g.1 q0), .int a1, .int a2, .int a3] σ (some (.int r.1), r.2) := by
  refine CT.of (lv := [(0, .ref (g.1 q0)), (1, .int a1), (2, .int a2), (3, .int a3)]) RX9 (by decide +kernel) rfl (Nat.le_of_ble_eq_true rfl) rfl ?_
  unfold f_X9_kinds at h
  refine vr_iload_n (pc := 0) 1 dX9_kinds_0 rfl rfl ?_
  refine vr_callS (pc := 1) (ρ1 := (some (.int (f_X9_isList a1)), σ)) [.int a1] dX9_kinds_1 (s_X9_isList l g rfl) cw_X9_isList ml_X9_270 (by decide) rfl rfl (Nat.le_of_ble_eq_true rfl) ?_
  refine vr_if_eq (pc := 4) 15 dX9_kinds_4 (by decide) (fun c1 => ?_) (fun c1 => ?_)
  · rw [if_pos c1] at h
    refine vr_aload_n (pc := 15) 0 dX9_kinds_15 rfl rfl ?_
    refine vr_iconst (pc := 16) (-1) dX9_kinds_16 ci_m1 ?_
    obtain ⟨z2, hz3, h⟩ := ob_some h
    refine vr_callV (pc := 17) (ρ1 := (some (.int z2.1), z2.2)) [.int (-1)] dX9_kinds_17 (s_X9_no l g (hq0) hz3) cw_X9_no ml_X9_104 hq0 rfl (by decide) (by decide) rfl rfl (Nat.le_of_ble_eq_true rfl) ?_
    have h := Option.some.inj h; subst h
    exact vr_iret (pc := 20) .int dX9_kinds_20 rfl rfl rfl
  · rw [if_neg c1] at h
    refine vr_aload_n (pc := 7) 0 dX9_kinds_7 rfl rfl ?_
    refine vr_iload_n (pc := 8) 2 dX9_kinds_8 rfl rfl ?_
    refine vr_callV (pc := 9) (ρ1 := (some (.int (f_X9_isWheel q0 a2 σ)), σ)) [.int a2] dX9_kinds_9 (s_X9_isWheel l g (hq0) rfl) cw_X9_isWheel ml_X9_176 hq0 rfl (by decide) (by decide) rfl rfl (Nat.le_of_ble_eq_true rfl) ?_
    refine vr_if_ne (pc := 12) 21 dX9_kinds_12 (by decide) (fun c4 => ?_) (fun c4 => ?_)
    · rw [if_neg c4] at h
      refine vr_iload_n (pc := 21) 3 dX9_kinds_21 rfl rfl ?_
      refine vr_iconst (pc := 22) 0 dX9_kinds_22 ci_0 ?_
      refine vr_iconst (pc := 23) 1 dX9_kinds_23 ci_1 ?_
      refine vr_callS (pc := 24) (ρ1 := (some (.int (f_X9_within a3 0 1)), σ)) [.int a3, .int 0, .int 1] dX9_kinds_24 (s_X9_within l g rfl) cw_X9_within ml_X9_111 (by decide) rfl rfl (Nat.le_of_ble_eq_true rfl) ?_
      refine vr_if_ne (pc := 27) 37 dX9_kinds_27 (by decide) (fun c5 => ?_) (fun c5 => ?_)
      · rw [if_neg c5] at h
        refine vr_aload_n (pc := 37) 0 dX9_kinds_37 rfl rfl ?_
        refine vr_getR (pc := 38) 13 dX9_kinds_38 fi_X9_44 hq0 (sh_8_13 hq0).1 ?_
        refine vr_iload_n (pc := 41) 1 dX9_kinds_41 rfl rfl ?_
        obtain ⟨hc6, h⟩ := ck_some h
        refine vr_iald (pc := 42) dX9_kinds_42 (sh_8_13 hq0).2 hc6 ?_
        refine vr_if_ge (pc := 43) 49 dX9_kinds_43 (by decide) (fun c7 => ?_) (fun c7 => ?_)
        · rw [if_pos c7] at h
          refine vr_aload_n (pc := 49) 0 dX9_kinds_49 rfl rfl ?_
          refine vr_iload_n (pc := 50) 1 dX9_kinds_50 rfl rfl ?_
          obtain ⟨z8, hz9, h⟩ := ob_some h
          refine vr_callV (pc := 51) (ρ1 := (some (.int z8), σ)) [.int a1] dX9_kinds_51 (s_X9_hasOthers l g (hq0) hz9) cw_X9_hasOthers ml_X9_275 hq0 rfl (by decide) (by decide) rfl rfl (Nat.le_of_ble_eq_true rfl) ?_
          refine vr_if_eq (pc := 54) 64 dX9_kinds_54 (by decide) (fun c10 => ?_) (fun c10 => ?_)
          · rw [if_pos c10] at h
            refine vr_iconst (pc := 64) 0 dX9_kinds_64 ci_0 ?_
            refine vr_istore (pc := 65) [(4, .int 0), (0, .ref (g.1 q0)), (1, .int a1), (2, .int a2), (3, .int a3)] dX9_kinds_65 (by decide) rfl ?_
            refine vr_iconst (pc := 67) 0 dX9_kinds_67 ci_0 ?_
            refine vr_istore (pc := 68) [(5, .int 0), (4, .int 0), (0, .ref (g.1 q0)), (1, .int a1), (2, .int a2), (3, .int a3)] dX9_kinds_68 (by decide) rfl ?_
            refine vr_sub [2, 3, 4, 5, 1, 0] [(0, .ref (g.1 q0)), (1, .int a1), (2, .int a2), (3, .int a3), (4, .int 0), (5, .int 0)] rfl ?_
            refine v_X9_kinds_L70 l g (fun y4 τ h => ?_) FU q0 a1 a2 a3 0 0 (hq0) σ h
            refine vr_iload (pc := 153) 0 dX9_kinds_153 rfl ?_
            have h := Option.some.inj h; subst h
            exact vr_iret (pc := 155) .int dX9_kinds_155 rfl rfl rfl
          · rw [if_neg c10] at h
            refine vr_aload_n (pc := 57) 0 dX9_kinds_57 rfl rfl ?_
            refine vr_bipush (pc := 58) (-3) dX9_kinds_58 cb_m3 ?_
            obtain ⟨z29, hz30, h⟩ := ob_some h
            refine vr_callV (pc := 60) (ρ1 := (some (.int z29.1), z29.2)) [.int (-3)] dX9_kinds_60 (s_X9_no l g (hq0) hz30) cw_X9_no ml_X9_104 hq0 rfl (by decide) (by decide) rfl rfl (Nat.le_of_ble_eq_true rfl) ?_
            have h := Option.some.inj h; subst h
            exact vr_iret (pc := 63) .int dX9_kinds_63 rfl rfl rfl
        · rw [if_neg c7] at h
          refine vr_bipush (pc := 46) (-11) dX9_kinds_46 cb_m11 ?_
          have h := Option.some.inj h; subst h
          exact vr_iret (pc := 48) .int dX9_kinds_48 rfl rfl rfl
      · rw [if_pos c5] at h
        refine vr_aload_n (pc := 30) 0 dX9_kinds_30 rfl rfl ?_
        refine vr_bipush (pc := 31) (-2) dX9_kinds_31 cb_m2 ?_
        obtain ⟨z31, hz32, h⟩ := ob_some h
        refine vr_callV (pc := 33) (ρ1 := (some (.int z31.1), z31.2)) [.int (-2)] dX9_kinds_33 (s_X9_no l g (hq0) hz32) cw_X9_no ml_X9_104 hq0 rfl (by decide) (by decide) rfl rfl (Nat.le_of_ble_eq_true rfl) ?_
        have h := Option.some.inj h; subst h
        exact vr_iret (pc := 36) .int dX9_kinds_36 rfl rfl rfl
    · rw [if_pos c4] at h
      refine vr_aload_n (pc := 15) 0 dX9_kinds_15 rfl rfl ?_
      refine vr_iconst (pc := 16) (-1) dX9_kinds_16 ci_m1 ?_
      obtain ⟨z33, hz34, h⟩ := ob_some h
      refine vr_callV (pc := 17) (ρ1 := (some (.int z33.1), z33.2)) [.int (-1)] dX9_kinds_17 (s_X9_no l g (hq0) hz34) cw_X9_no ml_X9_104 hq0 rfl (by decide) (by decide) rfl rfl (Nat.le_of_ble_eq_true rfl) ?_
      have h := Option.some.inj h; subst h
      exact vr_iret (pc := 20) .int dX9_kinds_20 rfl rfl rfl
theorem dX9_drawnBy_0 : decode cX9_drawnBy 0 = .ok (.iload_n 1, 1) := by decide +kernel
theorem dX9_drawnBy_1 : decode cX9_drawnBy 1 = .ok (.ifCond .lt 7, 3) := by decide +kernel
theorem dX9_drawnBy_4 : decode cX9_drawnBy 4 = .ok (.iload_n 2, 1) := by decide +kernel
theorem dX9_drawnBy_5 : decode cX9_drawnBy 5 = .ok (.ifCond .ge 10, 3) := by decide +kernel
theorem dX9_drawnBy_8 : decode cX9_drawnBy 8 = .ok (.aload_n 0, 1) := by decide +kernel
theorem dX9_drawnBy_9 : decode cX9_drawnBy 9 = .ok (.bipush (-4), 2) := by decide +kernel
theorem dX9_drawnBy_11 : decode cX9_drawnBy 11 = .ok (.invokevirtual 104, 3) := by decide +kernel
theorem dX9_drawnBy_14 : decode cX9_drawnBy 14 = .ok (.ireturn, 1) := by decide +kernel
theorem dX9_drawnBy_15 : decode cX9_drawnBy 15 = .ok (.iconst 1, 1) := by decide +kernel
theorem dX9_drawnBy_16 : decode cX9_drawnBy 16 = .ok (.istore_n 3, 1) := by decide +kernel
theorem dX9_drawnBy_17 : decode cX9_drawnBy 17 = .ok (.iload_n 3, 1) := by decide +kernel
theorem dX9_drawnBy_18 : decode cX9_drawnBy 18 = .ok (.aload_n 0, 1) := by decide +kernel
theorem dX9_drawnBy_19 : decode cX9_drawnBy 19 = .ok (.getfield 7, 3) := by decide +kernel
theorem dX9_drawnBy_22 : decode cX9_drawnBy 22 = .ok (.if_icmp .ge 35, 3) := by decide +kernel
theorem dX9_drawnBy_25 : decode cX9_drawnBy 25 = .ok (.aload_n 0, 1) := by decide +kernel
theorem dX9_drawnBy_26 : decode cX9_drawnBy 26 = .ok (.iconst 0, 1) := by decide +kernel
theorem dX9_drawnBy_27 : decode cX9_drawnBy 27 = .ok (.iload_n 3, 1) := by decide +kernel
theorem dX9_drawnBy_28 : decode cX9_drawnBy 28 = .ok (.iconst 0, 1) := by decide +kernel
theorem dX9_drawnBy_29 : decode cX9_drawnBy 29 = .ok (.iconst 0, 1) := by decide +kernel
theorem dX9_drawnBy_30 : decode cX9_drawnBy 30 = .ok (.invokevirtual 199, 3) := by decide +kernel
theorem dX9_drawnBy_33 : decode cX9_drawnBy 33 = .ok (.aload_n 0, 1) := by decide +kernel
theorem dX9_drawnBy_34 : decode cX9_drawnBy 34 = .ok (.getfield 193, 3) := by decide +kernel
theorem dX9_drawnBy_37 : decode cX9_drawnBy 37 = .ok (.iload_n 1, 1) := by decide +kernel
theorem dX9_drawnBy_38 : decode cX9_drawnBy 38 = .ok (.if_icmp .ne 13, 3) := by decide +kernel
theorem dX9_drawnBy_41 : decode cX9_drawnBy 41 = .ok (.aload_n 0, 1) := by decide +kernel
theorem dX9_drawnBy_42 : decode cX9_drawnBy 42 = .ok (.invokevirtual 228, 3) := by decide +kernel
theorem dX9_drawnBy_45 : decode cX9_drawnBy 45 = .ok (.iload_n 2, 1) := by decide +kernel
theorem dX9_drawnBy_46 : decode cX9_drawnBy 46 = .ok (.if_icmp .ne 5, 3) := by decide +kernel
theorem dX9_drawnBy_49 : decode cX9_drawnBy 49 = .ok (.iload_n 3, 1) := by decide +kernel
theorem dX9_drawnBy_50 : decode cX9_drawnBy 50 = .ok (.ireturn, 1) := by decide +kernel
theorem dX9_drawnBy_51 : decode cX9_drawnBy 51 = .ok (.iinc 3 1, 3) := by decide +kernel
theorem dX9_drawnBy_54 : decode cX9_drawnBy 54 = .ok (.goto (-37), 3) := by decide +kernel
theorem dX9_drawnBy_57 : decode cX9_drawnBy 57 = .ok (.bipush (-9), 2) := by decide +kernel
theorem dX9_drawnBy_59 : decode cX9_drawnBy 59 = .ok (.ireturn, 1) := by decide +kernel
set_option maxRecDepth 20000 in
set_option maxHeartbeats 4000000 in
theorem v_X9_drawnBy_L17 (l : Launch) (g : GG) {r : Int32 × SS} {κ : SS → Option (Int32 × SS)} (hκ : ∀ (τ : SS) , κ  τ = some r → VV l g 5 RX9 cX9_drawnBy 4 (some .int) (some (.int r.1), r.2) 57 [] [] τ) : ∀ (fu : Nat) (q0 : Nat) (x1 : Int32) (x2 : Int32) (x3 : Int32) (hq0 : kd q0 = 8) (σ : SS), f_X9_drawnBy_L17 κ fu q0 x1 x2 x3 σ = some r → VV l g 5 RX9 cX9_drawnBy 4 (some .int) (some (.int r.1), r.2) 17 [(0, .ref (g.1 q0)), (1, .int x1), (2, .int x2), (3, .int x3)] [] σ := by
  intro fu
  induction fu with
  | zero => intro q0 x1 x2 x3 hq0 σ h; cases h
  | succ fu ih =>
    intro q0 x1 x2 x3 hq0 σ h
    simp only [f_X9_drawnBy_L17] at h
    refine vr_iload_n (pc := 17) 3 dX9_drawnBy_17 rfl rfl ?_
    refine vr_aload_n (pc := 18) 0 dX9_drawnBy_18 rfl rfl ?_
    refine vr_getI (pc := 19) 0 dX9_drawnBy_19 fi_X9_7 hq0 (sh_8_0 hq0) ?_
    refine vr_icmp_ge (pc := 22) 57 dX9_drawnBy_22 (by decide) (fun c5 => ?_) (fun c5 => ?_)
    · rw [if_pos c5] at h
      refine vr_sub [] [] rfl ?_
      exact hκ σ h
    · rw [if_neg c5] at h
      refine vr_aload_n (pc := 25) 0 dX9_drawnBy_25 rfl rfl ?_
      refine vr_iconst (pc := 26) 0 dX9_drawnBy_26 ci_0 ?_
      refine vr_iload_n (pc := 27) 3 dX9_drawnBy_27 rfl rfl ?_
      refine vr_iconst (pc := 28) 0 dX9_drawnBy_28 ci_0 ?_
      refine vr_iconst (pc := 29) 0 dX9_drawnBy_29 ci_0 ?_
      obtain ⟨z6, hz7, h⟩ := ob_some h
      refine vr_callV (pc := 30) (ρ1 := (none, z6)) [.int 0, .int x3, .int 0, .int 0] dX9_drawnBy_30 (s_X9_draws l g (hq0) hz7) cw_X9_draws ml_X9_199 hq0 rfl (by decide) (by decide) rfl rfl (Nat.le_of_ble_eq_true rfl) ?_
      refine vr_aload_n (pc := 33) 0 dX9_drawnBy_33 rfl rfl ?_
      refine vr_getI (pc := 34) 23 dX9_drawnBy_34 fi_X9_193 hq0 (sh_8_23 hq0) ?_
      refine vr_iload_n (pc := 37) 1 dX9_drawnBy_37 rfl rfl ?_
      refine vr_icmp_ne (pc := 38) 51 dX9_drawnBy_38 (by decide) (fun c8 => ?_) (fun c8 => ?_)
      · rw [if_neg c8] at h
        refine vr_iinc (pc := 51) [(3, .int (x3 + 1)), (0, .ref (g.1 q0)), (1, .int x1), (2, .int x2)] 3 dX9_drawnBy_51 rfl (congrArg (fun z => x3 + z) ci_1) (by decide) rfl ?_
        refine vr_goto (pc := 54) 17 dX9_drawnBy_54 (by decide) ?_
        refine vr_sub [1, 2, 3, 0] [(0, .ref (g.1 q0)), (1, .int x1), (2, .int x2), (3, .int (x3 + 1))] rfl ?_
        exact ih q0 x1 x2 (x3 + 1) (hq0) z6 h
      · rw [if_pos c8] at h
        refine vr_aload_n (pc := 41) 0 dX9_drawnBy_41 rfl rfl ?_
        obtain ⟨z9, hz10, h⟩ := ob_some h
        refine vr_callV (pc := 42) (ρ1 := (some (.int z9), z6)) [] dX9_drawnBy_42 (s_X9_crossings l g (hq0) hz10) cw_X9_crossings ml_X9_228 hq0 rfl (by decide) (by decide) rfl rfl (Nat.le_of_ble_eq_true rfl) ?_
        refine vr_iload_n (pc := 45) 2 dX9_drawnBy_45 rfl rfl ?_
        refine vr_icmp_ne (pc := 46) 51 dX9_drawnBy_46 (by decide) (fun c11 => ?_) (fun c11 => ?_)
        · rw [if_neg c11] at h
          refine vr_iinc (pc := 51) [(3, .int (x3 + 1)), (0, .ref (g.1 q0)), (1, .int x1), (2, .int x2)] 3 dX9_drawnBy_51 rfl (congrArg (fun z => x3 + z) ci_1) (by decide) rfl ?_
          refine vr_goto (pc := 54) 17 dX9_drawnBy_54 (by decide) ?_
          refine vr_sub [1, 2, 3, 0] [(0, .ref (g.1 q0)), (1, .int x1), (2, .int x2), (3, .int (x3 + 1))] rfl ?_
          exact ih q0 x1 x2 (x3 + 1) (hq0) z6 h
        · rw [if_pos c11] at h
          refine vr_iload_n (pc := 49) 3 dX9_drawnBy_49 rfl rfl ?_
          have h := Option.some.inj h; subst h
          exact vr_iret (pc := 50) .int dX9_drawnBy_50 rfl rfl rfl
set_option maxRecDepth 20000 in
set_option maxHeartbeats 4000000 in
theorem s_X9_drawnBy (l : Launch) (g : GG) {q0 : Nat} (hq0 : kd q0 = 8) {a1 : Int32} {a2 : Int32} {σ : SS} {r : Int32 × SS} (h : f_X9_drawnBy q0 a1 a2 σ = some r) : CT l g 5 yX9_drawnBy cX9_drawnBy 4 (some .int) [.ref (g.1 q0), .int a1, .int a2] σ (some (.int r.1), r.2) := by
  refine CT.of (lv := [(0, .ref (g.1 q0)), (1, .int a1), (2, .int a2)]) RX9 (by decide +kernel) rfl (Nat.le_of_ble_eq_true rfl) rfl ?_
  unfold f_X9_drawnBy at h
  refine vr_iload_n (pc := 0) 1 dX9_drawnBy_0 rfl rfl ?_
  refine vr_if_lt (pc := 1) 8 dX9_drawnBy_1 (by decide) (fun c1 => ?_) (fun c1 => ?_)
  · rw [if_pos c1] at h
    refine vr_aload_n (pc := 8) 0 dX9_drawnBy_8 rfl rfl ?_
    refine vr_bipush (pc := 9) (-4) dX9_drawnBy_9 cb_m4 ?_
    obtain ⟨z2, hz3, h⟩ := ob_some h
    refine vr_callV (pc := 11) (ρ1 := (some (.int z2.1), z2.2)) [.int (-4)] dX9_drawnBy_11 (s_X9_no l g (hq0) hz3) cw_X9_no ml_X9_104 hq0 rfl (by decide) (by decide) rfl rfl (Nat.le_of_ble_eq_true rfl) ?_
    have h := Option.some.inj h; subst h
    exact vr_iret (pc := 14) .int dX9_drawnBy_14 rfl rfl rfl
  · rw [if_neg c1] at h
    refine vr_iload_n (pc := 4) 2 dX9_drawnBy_4 rfl rfl ?_
    refine vr_if_ge (pc := 5) 15 dX9_drawnBy_5 (by decide) (fun c4 => ?_) (fun c4 => ?_)
    · rw [if_pos c4] at h
      refine vr_iconst (pc := 15) 1 dX9_drawnBy_15 ci_1 ?_
      refine vr_istore_n (pc := 16) [(3, .int 1), (0, .ref (g.1 q0)), (1, .int a1), (2, .int a2)] dX9_drawnBy_16 rfl (by decide) rfl ?_
      refine vr_sub [1, 2, 3, 0] [(0, .ref (g.1 q0)), (1, .int a1), (2, .int a2), (3, .int 1)] rfl ?_
      refine v_X9_drawnBy_L17 l g (fun τ h => ?_) FU q0 a1 a2 1 (hq0) σ h
      refine vr_bipush (pc := 57) (-9) dX9_drawnBy_57 cb_m9 ?_
      have h := Option.some.inj h; subst h
      exact vr_iret (pc := 59) .int dX9_drawnBy_59 rfl rfl rfl
    · rw [if_neg c4] at h
      refine vr_aload_n (pc := 8) 0 dX9_drawnBy_8 rfl rfl ?_
      refine vr_bipush (pc := 9) (-4) dX9_drawnBy_9 cb_m4 ?_
      obtain ⟨z12, hz13, h⟩ := ob_some h
      refine vr_callV (pc := 11) (ρ1 := (some (.int z12.1), z12.2)) [.int (-4)] dX9_drawnBy_11 (s_X9_no l g (hq0) hz13) cw_X9_no ml_X9_104 hq0 rfl (by decide) (by decide) rfl rfl (Nat.le_of_ble_eq_true rfl) ?_
      have h := Option.some.inj h; subst h
      exact vr_iret (pc := 14) .int dX9_drawnBy_14 rfl rfl rfl
theorem dX9_judge_0 : decode cX9_judge 0 = .ok (.iload_n 1, 1) := by decide +kernel
theorem dX9_judge_1 : decode cX9_judge 1 = .ok (.invokestatic 270, 3) := by decide +kernel
theorem dX9_judge_4 : decode cX9_judge 4 = .ok (.ifCond .eq 11, 3) := by decide +kernel
theorem dX9_judge_7 : decode cX9_judge 7 = .ok (.aload_n 0, 1) := by decide +kernel
theorem dX9_judge_8 : decode cX9_judge 8 = .ok (.iload_n 2, 1) := by decide +kernel
theorem dX9_judge_9 : decode cX9_judge 9 = .ok (.invokevirtual 176, 3) := by decide +kernel
theorem dX9_judge_12 : decode cX9_judge 12 = .ok (.ifCond .ne 9, 3) := by decide +kernel
theorem dX9_judge_15 : decode cX9_judge 15 = .ok (.aload_n 0, 1) := by decide +kernel
theorem dX9_judge_16 : decode cX9_judge 16 = .ok (.iconst (-1), 1) := by decide +kernel
theorem dX9_judge_17 : decode cX9_judge 17 = .ok (.invokevirtual 104, 3) := by decide +kernel
theorem dX9_judge_20 : decode cX9_judge 20 = .ok (.ireturn, 1) := by decide +kernel
theorem dX9_judge_21 : decode cX9_judge 21 = .ok (.aload_n 0, 1) := by decide +kernel
theorem dX9_judge_22 : decode cX9_judge 22 = .ok (.getfield 44, 3) := by decide +kernel
theorem dX9_judge_25 : decode cX9_judge 25 = .ok (.iload_n 1, 1) := by decide +kernel
theorem dX9_judge_26 : decode cX9_judge 26 = .ok (.iaload, 1) := by decide +kernel
theorem dX9_judge_27 : decode cX9_judge 27 = .ok (.ifCond .ge 6, 3) := by decide +kernel
theorem dX9_judge_30 : decode cX9_judge 30 = .ok (.bipush (-11), 2) := by decide +kernel
theorem dX9_judge_32 : decode cX9_judge 32 = .ok (.ireturn, 1) := by decide +kernel
theorem dX9_judge_33 : decode cX9_judge 33 = .ok (.aload_n 0, 1) := by decide +kernel
theorem dX9_judge_34 : decode cX9_judge 34 = .ok (.iload_n 2, 1) := by decide +kernel
theorem dX9_judge_35 : decode cX9_judge 35 = .ok (.invokevirtual 219, 3) := by decide +kernel
theorem dX9_judge_38 : decode cX9_judge 38 = .ok (.iconst 0, 1) := by decide +kernel
theorem dX9_judge_39 : decode cX9_judge 39 = .ok (.istore_n 3, 1) := by decide +kernel
theorem dX9_judge_40 : decode cX9_judge 40 = .ok (.iload_n 3, 1) := by decide +kernel
theorem dX9_judge_41 : decode cX9_judge 41 = .ok (.aload_n 0, 1) := by decide +kernel
theorem dX9_judge_42 : decode cX9_judge 42 = .ok (.getfield 44, 3) := by decide +kernel
theorem dX9_judge_45 : decode cX9_judge 45 = .ok (.iload_n 1, 1) := by decide +kernel
theorem dX9_judge_46 : decode cX9_judge 46 = .ok (.iaload, 1) := by decide +kernel
theorem dX9_judge_47 : decode cX9_judge 47 = .ok (.if_icmp .ge 39, 3) := by decide +kernel
theorem dX9_judge_50 : decode cX9_judge 50 = .ok (.iload_n 3, 1) := by decide +kernel
theorem dX9_judge_51 : decode cX9_judge 51 = .ok (.aload_n 0, 1) := by decide +kernel
theorem dX9_judge_52 : decode cX9_judge 52 = .ok (.getfield 193, 3) := by decide +kernel
theorem dX9_judge_55 : decode cX9_judge 55 = .ok (.if_icmp .ge 23, 3) := by decide +kernel
theorem dX9_judge_58 : decode cX9_judge 58 = .ok (.aload_n 0, 1) := by decide +kernel
theorem dX9_judge_59 : decode cX9_judge 59 = .ok (.getfield 41, 3) := by decide +kernel
theorem dX9_judge_62 : decode cX9_judge 62 = .ok (.bipush 40, 2) := by decide +kernel
theorem dX9_judge_64 : decode cX9_judge 64 = .ok (.iload_n 1, 1) := by decide +kernel
theorem dX9_judge_65 : decode cX9_judge 65 = .ok (.imul, 1) := by decide +kernel
theorem dX9_judge_66 : decode cX9_judge 66 = .ok (.iload_n 3, 1) := by decide +kernel
theorem dX9_judge_67 : decode cX9_judge 67 = .ok (.iadd, 1) := by decide +kernel
theorem dX9_judge_68 : decode cX9_judge 68 = .ok (.iaload, 1) := by decide +kernel
theorem dX9_judge_69 : decode cX9_judge 69 = .ok (.aload_n 0, 1) := by decide +kernel
theorem dX9_judge_70 : decode cX9_judge 70 = .ok (.getfield 59, 3) := by decide +kernel
theorem dX9_judge_73 : decode cX9_judge 73 = .ok (.iload_n 3, 1) := by decide +kernel
theorem dX9_judge_74 : decode cX9_judge 74 = .ok (.iaload, 1) := by decide +kernel
theorem dX9_judge_75 : decode cX9_judge 75 = .ok (.if_icmp .eq 5, 3) := by decide +kernel
theorem dX9_judge_78 : decode cX9_judge 78 = .ok (.iload_n 3, 1) := by decide +kernel
theorem dX9_judge_79 : decode cX9_judge 79 = .ok (.ireturn, 1) := by decide +kernel
theorem dX9_judge_80 : decode cX9_judge 80 = .ok (.iinc 3 1, 3) := by decide +kernel
theorem dX9_judge_83 : decode cX9_judge 83 = .ok (.goto (-43), 3) := by decide +kernel
theorem dX9_judge_86 : decode cX9_judge 86 = .ok (.bipush (-9), 2) := by decide +kernel
theorem dX9_judge_88 : decode cX9_judge 88 = .ok (.ireturn, 1) := by decide +kernel
set_option maxRecDepth 20000 in
set_option maxHeartbeats 4000000 in
theorem v_X9_judge_L40 (l : Launch) (g : GG) {r : Int32 × SS} {κ : SS → Option (Int32 × SS)} (hκ : ∀ (τ : SS) , κ  τ = some r → VV l g 4 RX9 cX9_judge 4 (some .int) (some (.int r.1), r.2) 86 [] [] τ) : ∀ (fu : Nat) (q0 : Nat) (x1 : Int32) (x3 : Int32) (hq0 : kd q0 = 8) (σ : SS), f_X9_judge_L40 κ fu q0 x1 x3 σ = some r → VV l g 4 RX9 cX9_judge 4 (some .int) (some (.int r.1), r.2) 40 [(0, .ref (g.1 q0)), (1, .int x1), (3, .int x3)] [] σ := by
  intro fu
  induction fu with
  | zero => intro q0 x1 x3 hq0 σ h; cases h
  | succ fu ih =>
    intro q0 x1 x3 hq0 σ h
    simp only [f_X9_judge_L40] at h
    refine vr_iload_n (pc := 40) 2 dX9_judge_40 rfl rfl ?_
    refine vr_aload_n (pc := 41) 0 dX9_judge_41 rfl rfl ?_
    refine vr_getR (pc := 42) 13 dX9_judge_42 fi_X9_44 hq0 (sh_8_13 hq0).1 ?_
    refine vr_iload_n (pc := 45) 1 dX9_judge_45 rfl rfl ?_
    obtain ⟨hc9, h⟩ := ck_some h
    refine vr_iald (pc := 46) dX9_judge_46 (sh_8_13 hq0).2 hc9 ?_
    refine vr_icmp_ge (pc := 47) 86 dX9_judge_47 (by decide) (fun c10 => ?_) (fun c10 => ?_)
    · rw [if_pos c10] at h
      refine vr_sub [] [] rfl ?_
      exact hκ σ h
    · rw [if_neg c10] at h
      refine vr_iload_n (pc := 50) 2 dX9_judge_50 rfl rfl ?_
      refine vr_aload_n (pc := 51) 0 dX9_judge_51 rfl rfl ?_
      refine vr_getI (pc := 52) 23 dX9_judge_52 fi_X9_193 hq0 (sh_8_23 hq0) ?_
      refine vr_icmp_ge (pc := 55) 78 dX9_judge_55 (by decide) (fun c11 => ?_) (fun c11 => ?_)
      · rw [if_pos c11] at h
        refine vr_iload_n (pc := 78) 2 dX9_judge_78 rfl rfl ?_
        have h := Option.some.inj h; subst h
        exact vr_iret (pc := 79) .int dX9_judge_79 rfl rfl rfl
      · rw [if_neg c11] at h
        refine vr_aload_n (pc := 58) 0 dX9_judge_58 rfl rfl ?_
        refine vr_getR (pc := 59) 12 dX9_judge_59 fi_X9_41 hq0 (sh_8_12 hq0).1 ?_
        refine vr_bipush (pc := 62) 40 dX9_judge_62 cb_40 ?_
        refine vr_iload_n (pc := 64) 1 dX9_judge_64 rfl rfl ?_
        refine vr_imul (pc := 65) dX9_judge_65 ?_
        refine vr_iload_n (pc := 66) 2 dX9_judge_66 rfl rfl ?_
        refine vr_iadd (pc := 67) dX9_judge_67 ?_
        obtain ⟨hc12, h⟩ := ck_some h
        refine vr_iald (pc := 68) dX9_judge_68 (sh_8_12 hq0).2 hc12 ?_
        refine vr_aload_n (pc := 69) 0 dX9_judge_69 rfl rfl ?_
        refine vr_getR (pc := 70) 20 dX9_judge_70 fi_X9_59 hq0 (sh_8_20 hq0).1 ?_
        refine vr_iload_n (pc := 73) 2 dX9_judge_73 rfl rfl ?_
        obtain ⟨hc13, h⟩ := ck_some h
        refine vr_iald (pc := 74) dX9_judge_74 (sh_8_20 hq0).2 hc13 ?_
        refine vr_icmp_eq (pc := 75) 80 dX9_judge_75 (by decide) (fun c14 => ?_) (fun c14 => ?_)
        · rw [if_pos c14] at h
          refine vr_iinc (pc := 80) [(3, .int (x3 + 1)), (0, .ref (g.1 q0)), (1, .int x1)] 2 dX9_judge_80 rfl (congrArg (fun z => x3 + z) ci_1) (by decide) rfl ?_
          refine vr_goto (pc := 83) 40 dX9_judge_83 (by decide) ?_
          refine vr_sub [1, 2, 0] [(0, .ref (g.1 q0)), (1, .int x1), (3, .int (x3 + 1))] rfl ?_
          exact ih q0 x1 (x3 + 1) (hq0) σ h
        · rw [if_neg c14] at h
          refine vr_iload_n (pc := 78) 2 dX9_judge_78 rfl rfl ?_
          have h := Option.some.inj h; subst h
          exact vr_iret (pc := 79) .int dX9_judge_79 rfl rfl rfl
set_option maxRecDepth 20000 in
set_option maxHeartbeats 4000000 in
theorem s_X9_judge (l : Launch) (g : GG) {q0 : Nat} (hq0 : kd q0 = 8) {a1 : Int32} {a2 : Int32} {σ : SS} {r : Int32 × SS} (h : f_X9_judge q0 a1 a2 σ = some r) : CT l g 4 yX9_judge cX9_judge 4 (some .int) [.ref (g.1 q0), .int a1, .int a2] σ (some (.int r.1), r.2) := by
  refine CT.of (lv := [(0, .ref (g.1 q0)), (1, .int a1), (2, .int a2)]) RX9 (by decide +kernel) rfl (Nat.le_of_ble_eq_true rfl) rfl ?_
  unfold f_X9_judge at h
  refine vr_iload_n (pc := 0) 1 dX9_judge_0 rfl rfl ?_
  refine vr_callS (pc := 1) (ρ1 := (some (.int (f_X9_isList a1)), σ)) [.int a1] dX9_judge_1 (s_X9_isList l g rfl) cw_X9_isList ml_X9_270 (by decide) rfl rfl (Nat.le_of_ble_eq_true rfl) ?_
  refine vr_if_eq (pc := 4) 15 dX9_judge_4 (by decide) (fun c1 => ?_) (fun c1 => ?_)
  · rw [if_pos c1] at h
    refine vr_aload_n (pc := 15) 0 dX9_judge_15 rfl rfl ?_
    refine vr_iconst (pc := 16) (-1) dX9_judge_16 ci_m1 ?_
    obtain ⟨z2, hz3, h⟩ := ob_some h
    refine vr_callV (pc := 17) (ρ1 := (some (.int z2.1), z2.2)) [.int (-1)] dX9_judge_17 (s_X9_no l g (hq0) hz3) cw_X9_no ml_X9_104 hq0 rfl (by decide) (by decide) rfl rfl (Nat.le_of_ble_eq_true rfl) ?_
    have h := Option.some.inj h; subst h
    exact vr_iret (pc := 20) .int dX9_judge_20 rfl rfl rfl
  · rw [if_neg c1] at h
    refine vr_aload_n (pc := 7) 0 dX9_judge_7 rfl rfl ?_
    refine vr_iload_n (pc := 8) 2 dX9_judge_8 rfl rfl ?_
    refine vr_callV (pc := 9) (ρ1 := (some (.int (f_X9_isWheel q0 a2 σ)), σ)) [.int a2] dX9_judge_9 (s_X9_isWheel l g (hq0) rfl) cw_X9_isWheel ml_X9_176 hq0 rfl (by decide) (by decide) rfl rfl (Nat.le_of_ble_eq_true rfl) ?_
    refine vr_if_ne (pc := 12) 21 dX9_judge_12 (by decide) (fun c4 => ?_) (fun c4 => ?_)
    · rw [if_neg c4] at h
      refine vr_aload_n (pc := 21) 0 dX9_judge_21 rfl rfl ?_
      refine vr_getR (pc := 22) 13 dX9_judge_22 fi_X9_44 hq0 (sh_8_13 hq0).1 ?_
      refine vr_iload_n (pc := 25) 1 dX9_judge_25 rfl rfl ?_
      obtain ⟨hc5, h⟩ := ck_some h
      refine vr_iald (pc := 26) dX9_judge_26 (sh_8_13 hq0).2 hc5 ?_
      refine vr_if_ge (pc := 27) 33 dX9_judge_27 (by decide) (fun c6 => ?_) (fun c6 => ?_)
      · rw [if_pos c6] at h
        refine vr_aload_n (pc := 33) 0 dX9_judge_33 rfl rfl ?_
        refine vr_iload_n (pc := 34) 2 dX9_judge_34 rfl rfl ?_
        obtain ⟨z7, hz8, h⟩ := ob_some h
        refine vr_callV (pc := 35) (ρ1 := (none, z7)) [.int a2] dX9_judge_35 (s_X9_drawsBy l g (hq0) hz8) cw_X9_drawsBy ml_X9_219 hq0 rfl (by decide) (by decide) rfl rfl (Nat.le_of_ble_eq_true rfl) ?_
        refine vr_iconst (pc := 38) 0 dX9_judge_38 ci_0 ?_
        refine vr_istore_n (pc := 39) [(3, .int 0), (0, .ref (g.1 q0)), (1, .int a1), (2, .int a2)] dX9_judge_39 rfl (by decide) rfl ?_
        refine vr_sub [1, 2, 0] [(0, .ref (g.1 q0)), (1, .int a1), (3, .int 0)] rfl ?_
        refine v_X9_judge_L40 l g (fun τ h => ?_) FU q0 a1 0 (hq0) z7 h
        refine vr_bipush (pc := 86) (-9) dX9_judge_86 cb_m9 ?_
        have h := Option.some.inj h; subst h
        exact vr_iret (pc := 88) .int dX9_judge_88 rfl rfl rfl
      · rw [if_neg c6] at h
        refine vr_bipush (pc := 30) (-11) dX9_judge_30 cb_m11 ?_
        have h := Option.some.inj h; subst h
        exact vr_iret (pc := 32) .int dX9_judge_32 rfl rfl rfl
    · rw [if_pos c4] at h
      refine vr_aload_n (pc := 15) 0 dX9_judge_15 rfl rfl ?_
      refine vr_iconst (pc := 16) (-1) dX9_judge_16 ci_m1 ?_
      obtain ⟨z15, hz16, h⟩ := ob_some h
      refine vr_callV (pc := 17) (ρ1 := (some (.int z15.1), z15.2)) [.int (-1)] dX9_judge_17 (s_X9_no l g (hq0) hz16) cw_X9_no ml_X9_104 hq0 rfl (by decide) (by decide) rfl rfl (Nat.le_of_ble_eq_true rfl) ?_
      have h := Option.some.inj h; subst h
      exact vr_iret (pc := 20) .int dX9_judge_20 rfl rfl rfl
theorem dX9_draw_0 : decode cX9_draw 0 = .ok (.aload_n 0, 1) := by decide +kernel
theorem dX9_draw_1 : decode cX9_draw 1 = .ok (.aload_n 0, 1) := by decide +kernel
theorem dX9_draw_2 : decode cX9_draw 2 = .ok (.getfield 281, 3) := by decide +kernel
theorem dX9_draw_5 : decode cX9_draw 5 = .ok (.ldc_w 284, 3) := by decide +kernel
theorem dX9_draw_8 : decode cX9_draw 8 = .ok (.imul, 1) := by decide +kernel
theorem dX9_draw_9 : decode cX9_draw 9 = .ok (.ldc_w 285, 3) := by decide +kernel
theorem dX9_draw_12 : decode cX9_draw 12 = .ok (.iadd, 1) := by decide +kernel
theorem dX9_draw_13 : decode cX9_draw 13 = .ok (.putfield 281, 3) := by decide +kernel
theorem dX9_draw_16 : decode cX9_draw 16 = .ok (.aload_n 0, 1) := by decide +kernel
theorem dX9_draw_17 : decode cX9_draw 17 = .ok (.getfield 281, 3) := by decide +kernel
theorem dX9_draw_20 : decode cX9_draw 20 = .ok (.ldc_w 286, 3) := by decide +kernel
theorem dX9_draw_23 : decode cX9_draw 23 = .ok (.iand, 1) := by decide +kernel
theorem dX9_draw_24 : decode cX9_draw 24 = .ok (.sipush 256, 3) := by decide +kernel
theorem dX9_draw_27 : decode cX9_draw 27 = .ok (.idiv, 1) := by decide +kernel
theorem dX9_draw_28 : decode cX9_draw 28 = .ok (.iload_n 1, 1) := by decide +kernel
theorem dX9_draw_29 : decode cX9_draw 29 = .ok (.irem, 1) := by decide +kernel
theorem dX9_draw_30 : decode cX9_draw 30 = .ok (.ireturn, 1) := by decide +kernel
set_option maxRecDepth 20000 in
set_option maxHeartbeats 4000000 in
theorem s_X9_draw (l : Launch) (g : GG) {q0 : Nat} (hq0 : kd q0 = 8) {a1 : Int32} {σ : SS} {r : Int32 × SS} (h : f_X9_draw q0 a1 σ = some r) : CT l g 0 yX9_draw cX9_draw 2 (some .int) [.ref (g.1 q0), .int a1] σ (some (.int r.1), r.2) := by
  refine CT.of (lv := [(0, .ref (g.1 q0)), (1, .int a1)]) RX9 (by decide +kernel) rfl (Nat.le_of_ble_eq_true rfl) rfl ?_
  unfold f_X9_draw at h
  refine vr_aload_n (pc := 0) 0 dX9_draw_0 rfl rfl ?_
  refine vr_aload_n (pc := 1) 0 dX9_draw_1 rfl rfl ?_
  refine vr_getI (pc := 2) 37 dX9_draw_2 fi_X9_281 hq0 (sh_8_37 hq0) ?_
  refine vr_ldcw (pc := 5) 1664525 dX9_draw_5 co_X9_284 ?_
  refine vr_imul (pc := 8) dX9_draw_8 ?_
  refine vr_ldcw (pc := 9) 1013904223 dX9_draw_9 co_X9_285 ?_
  refine vr_iadd (pc := 12) dX9_draw_12 ?_
  refine vr_putI (pc := 13) 37 dX9_draw_13 fi_X9_281 (fw_8_37 _) hq0 (sh_8_37 hq0) ?_
  refine vr_aload_n (pc := 16) 0 dX9_draw_16 rfl rfl ?_
  refine vr_getI (pc := 17) 37 dX9_draw_17 fi_X9_281 hq0 (sh_8_37 hq0) ?_
  refine vr_ldcw (pc := 20) 2147483647 dX9_draw_20 co_X9_286 ?_
  refine vr_iand (pc := 23) dX9_draw_23 ?_
  refine vr_sipush (pc := 24) 256 dX9_draw_24 cs_256 ?_
  refine vr_idiv (pc := 27) dX9_draw_27 (by decide) ?_
  refine vr_iload_n (pc := 28) 1 dX9_draw_28 rfl rfl ?_
  obtain ⟨hc1, h⟩ := ck_some h
  refine vr_irem (pc := 29) dX9_draw_29 hc1 ?_
  have h := Option.some.inj h; subst h
  exact vr_iret (pc := 30) .int dX9_draw_30 rfl rfl rfl
theorem dX9_lots_0 : decode cX9_lots 0 = .ok (.iload_n 1, 1) := by decide +kernel
theorem dX9_lots_1 : decode cX9_lots 1 = .ok (.iconst 1, 1) := by decide +kernel
theorem dX9_lots_2 : decode cX9_lots 2 = .ok (.if_icmp .ge 10, 3) := by decide +kernel
theorem dX9_lots_5 : decode cX9_lots 5 = .ok (.aload_n 0, 1) := by decide +kernel
theorem dX9_lots_6 : decode cX9_lots 6 = .ok (.bipush (-4), 2) := by decide +kernel
theorem dX9_lots_8 : decode cX9_lots 8 = .ok (.invokevirtual 104, 3) := by decide +kernel
theorem dX9_lots_11 : decode cX9_lots 11 = .ok (.ireturn, 1) := by decide +kernel
theorem dX9_lots_12 : decode cX9_lots 12 = .ok (.iload_n 1, 1) := by decide +kernel
theorem dX9_lots_13 : decode cX9_lots 13 = .ok (.bipush 50, 2) := by decide +kernel
theorem dX9_lots_15 : decode cX9_lots 15 = .ok (.if_icmp .le 10, 3) := by decide +kernel
theorem dX9_lots_18 : decode cX9_lots 18 = .ok (.aload_n 0, 1) := by decide +kernel
theorem dX9_lots_19 : decode cX9_lots 19 = .ok (.bipush (-6), 2) := by decide +kernel
theorem dX9_lots_21 : decode cX9_lots 21 = .ok (.invokevirtual 104, 3) := by decide +kernel
theorem dX9_lots_24 : decode cX9_lots 24 = .ok (.ireturn, 1) := by decide +kernel
theorem dX9_lots_25 : decode cX9_lots 25 = .ok (.iload_n 3, 1) := by decide +kernel
theorem dX9_lots_26 : decode cX9_lots 26 = .ok (.iconst 0, 1) := by decide +kernel
theorem dX9_lots_27 : decode cX9_lots 27 = .ok (.iconst 1, 1) := by decide +kernel
theorem dX9_lots_28 : decode cX9_lots 28 = .ok (.invokestatic 111, 3) := by decide +kernel
theorem dX9_lots_31 : decode cX9_lots 31 = .ok (.ifCond .ne 10, 3) := by decide +kernel
theorem dX9_lots_34 : decode cX9_lots 34 = .ok (.aload_n 0, 1) := by decide +kernel
theorem dX9_lots_35 : decode cX9_lots 35 = .ok (.bipush (-2), 2) := by decide +kernel
theorem dX9_lots_37 : decode cX9_lots 37 = .ok (.invokevirtual 104, 3) := by decide +kernel
theorem dX9_lots_40 : decode cX9_lots 40 = .ok (.ireturn, 1) := by decide +kernel
theorem dX9_lots_41 : decode cX9_lots 41 = .ok (.aload_n 0, 1) := by decide +kernel
theorem dX9_lots_42 : decode cX9_lots 42 = .ok (.getfield 108, 3) := by decide +kernel
theorem dX9_lots_45 : decode cX9_lots 45 = .ok (.ifCond .ne 10, 3) := by decide +kernel
theorem dX9_lots_48 : decode cX9_lots 48 = .ok (.aload_n 0, 1) := by decide +kernel
theorem dX9_lots_49 : decode cX9_lots 49 = .ok (.bipush (-3), 2) := by decide +kernel
theorem dX9_lots_51 : decode cX9_lots 51 = .ok (.invokevirtual 104, 3) := by decide +kernel
theorem dX9_lots_54 : decode cX9_lots 54 = .ok (.ireturn, 1) := by decide +kernel
theorem dX9_lots_55 : decode cX9_lots 55 = .ok (.aload_n 0, 1) := by decide +kernel
theorem dX9_lots_56 : decode cX9_lots 56 = .ok (.iload_n 2, 1) := by decide +kernel
theorem dX9_lots_57 : decode cX9_lots 57 = .ok (.putfield 281, 3) := by decide +kernel
theorem dX9_lots_60 : decode cX9_lots 60 = .ok (.aload_n 0, 1) := by decide +kernel
theorem dX9_lots_61 : decode cX9_lots 61 = .ok (.invokevirtual 255, 3) := by decide +kernel
theorem dX9_lots_64 : decode cX9_lots 64 = .ok (.iconst 0, 1) := by decide +kernel
theorem dX9_lots_65 : decode cX9_lots 65 = .ok (.istore 4, 2) := by decide +kernel
theorem dX9_lots_67 : decode cX9_lots 67 = .ok (.iload 4, 2) := by decide +kernel
theorem dX9_lots_69 : decode cX9_lots 69 = .ok (.aload_n 0, 1) := by decide +kernel
theorem dX9_lots_70 : decode cX9_lots 70 = .ok (.getfield 7, 3) := by decide +kernel
theorem dX9_lots_73 : decode cX9_lots 73 = .ok (.if_icmp .ge 17, 3) := by decide +kernel
theorem dX9_lots_76 : decode cX9_lots 76 = .ok (.aload_n 0, 1) := by decide +kernel
theorem dX9_lots_77 : decode cX9_lots 77 = .ok (.getfield 99, 3) := by decide +kernel
theorem dX9_lots_80 : decode cX9_lots 80 = .ok (.iload 4, 2) := by decide +kernel
theorem dX9_lots_82 : decode cX9_lots 82 = .ok (.iconst 0, 1) := by decide +kernel
theorem dX9_lots_83 : decode cX9_lots 83 = .ok (.iastore, 1) := by decide +kernel
theorem dX9_lots_84 : decode cX9_lots 84 = .ok (.iinc 4 1, 3) := by decide +kernel
theorem dX9_lots_87 : decode cX9_lots 87 = .ok (.goto (-20), 3) := by decide +kernel
theorem dX9_lots_90 : decode cX9_lots 90 = .ok (.iconst 0, 1) := by decide +kernel
theorem dX9_lots_91 : decode cX9_lots 91 = .ok (.istore 4, 2) := by decide +kernel
theorem dX9_lots_93 : decode cX9_lots 93 = .ok (.iload 4, 2) := by decide +kernel
theorem dX9_lots_95 : decode cX9_lots 95 = .ok (.iload_n 1, 1) := by decide +kernel
theorem dX9_lots_96 : decode cX9_lots 96 = .ok (.if_icmp .ge 80, 3) := by decide +kernel
theorem dX9_lots_99 : decode cX9_lots 99 = .ok (.aload_n 0, 1) := by decide +kernel
theorem dX9_lots_100 : decode cX9_lots 100 = .ok (.aload_n 0, 1) := by decide +kernel
theorem dX9_lots_101 : decode cX9_lots 101 = .ok (.getfield 108, 3) := by decide +kernel
theorem dX9_lots_104 : decode cX9_lots 104 = .ok (.invokevirtual 287, 3) := by decide +kernel
theorem dX9_lots_107 : decode cX9_lots 107 = .ok (.istore 5, 2) := by decide +kernel
theorem dX9_lots_109 : decode cX9_lots 109 = .ok (.aload_n 0, 1) := by decide +kernel
theorem dX9_lots_110 : decode cX9_lots 110 = .ok (.iconst 4, 1) := by decide +kernel
theorem dX9_lots_111 : decode cX9_lots 111 = .ok (.invokevirtual 287, 3) := by decide +kernel
theorem dX9_lots_114 : decode cX9_lots 114 = .ok (.iconst 1, 1) := by decide +kernel
theorem dX9_lots_115 : decode cX9_lots 115 = .ok (.iadd, 1) := by decide +kernel
theorem dX9_lots_116 : decode cX9_lots 116 = .ok (.istore 6, 2) := by decide +kernel
theorem dX9_lots_118 : decode cX9_lots 118 = .ok (.iconst 0, 1) := by decide +kernel
theorem dX9_lots_119 : decode cX9_lots 119 = .ok (.istore 7, 2) := by decide +kernel
theorem dX9_lots_121 : decode cX9_lots 121 = .ok (.iload 7, 2) := by decide +kernel
theorem dX9_lots_123 : decode cX9_lots 123 = .ok (.iload 6, 2) := by decide +kernel
theorem dX9_lots_125 : decode cX9_lots 125 = .ok (.if_icmp .ge 45, 3) := by decide +kernel
theorem dX9_lots_128 : decode cX9_lots 128 = .ok (.aload_n 0, 1) := by decide +kernel
theorem dX9_lots_129 : decode cX9_lots 129 = .ok (.getfield 93, 3) := by decide +kernel
theorem dX9_lots_132 : decode cX9_lots 132 = .ok (.iload 5, 2) := by decide +kernel
theorem dX9_lots_134 : decode cX9_lots 134 = .ok (.aload_n 0, 1) := by decide +kernel
theorem dX9_lots_135 : decode cX9_lots 135 = .ok (.iload 5, 2) := by decide +kernel
theorem dX9_lots_137 : decode cX9_lots 137 = .ok (.aload_n 0, 1) := by decide +kernel
theorem dX9_lots_138 : decode cX9_lots 138 = .ok (.getfield 93, 3) := by decide +kernel
theorem dX9_lots_141 : decode cX9_lots 141 = .ok (.iload 5, 2) := by decide +kernel
theorem dX9_lots_143 : decode cX9_lots 143 = .ok (.iaload, 1) := by decide +kernel
theorem dX9_lots_144 : decode cX9_lots 144 = .ok (.invokevirtual 124, 3) := by decide +kernel
theorem dX9_lots_147 : decode cX9_lots 147 = .ok (.iastore, 1) := by decide +kernel
theorem dX9_lots_148 : decode cX9_lots 148 = .ok (.aload_n 0, 1) := by decide +kernel
theorem dX9_lots_149 : decode cX9_lots 149 = .ok (.getfield 99, 3) := by decide +kernel
theorem dX9_lots_152 : decode cX9_lots 152 = .ok (.aload_n 0, 1) := by decide +kernel
theorem dX9_lots_153 : decode cX9_lots 153 = .ok (.getfield 93, 3) := by decide +kernel
theorem dX9_lots_156 : decode cX9_lots 156 = .ok (.iload 5, 2) := by decide +kernel
theorem dX9_lots_158 : decode cX9_lots 158 = .ok (.iaload, 1) := by decide +kernel
theorem dX9_lots_159 : decode cX9_lots 159 = .ok (.dup2, 1) := by decide +kernel
theorem dX9_lots_160 : decode cX9_lots 160 = .ok (.iaload, 1) := by decide +kernel
theorem dX9_lots_161 : decode cX9_lots 161 = .ok (.iconst 1, 1) := by decide +kernel
theorem dX9_lots_162 : decode cX9_lots 162 = .ok (.iadd, 1) := by decide +kernel
theorem dX9_lots_163 : decode cX9_lots 163 = .ok (.iastore, 1) := by decide +kernel
theorem dX9_lots_164 : decode cX9_lots 164 = .ok (.iinc 7 1, 3) := by decide +kernel
theorem dX9_lots_167 : decode cX9_lots 167 = .ok (.goto (-46), 3) := by decide +kernel
theorem dX9_lots_170 : decode cX9_lots 170 = .ok (.iinc 4 1, 3) := by decide +kernel
theorem dX9_lots_173 : decode cX9_lots 173 = .ok (.goto (-80), 3) := by decide +kernel
theorem dX9_lots_176 : decode cX9_lots 176 = .ok (.iload_n 3, 1) := by decide +kernel
theorem dX9_lots_177 : decode cX9_lots 177 = .ok (.iconst 1, 1) := by decide +kernel
theorem dX9_lots_178 : decode cX9_lots 178 = .ok (.if_icmp .ne 10, 3) := by decide +kernel
theorem dX9_lots_181 : decode cX9_lots 181 = .ok (.aload_n 0, 1) := by decide +kernel
theorem dX9_lots_182 : decode cX9_lots 182 = .ok (.getfield 99, 3) := by decide +kernel
theorem dX9_lots_185 : decode cX9_lots 185 = .ok (.iconst 0, 1) := by decide +kernel
theorem dX9_lots_186 : decode cX9_lots 186 = .ok (.iaload, 1) := by decide +kernel
theorem dX9_lots_187 : decode cX9_lots 187 = .ok (.ireturn, 1) := by decide +kernel
theorem dX9_lots_188 : decode cX9_lots 188 = .ok (.iconst 0, 1) := by decide +kernel
theorem dX9_lots_189 : decode cX9_lots 189 = .ok (.istore 4, 2) := by decide +kernel
theorem dX9_lots_191 : decode cX9_lots 191 = .ok (.iconst 0, 1) := by decide +kernel
theorem dX9_lots_192 : decode cX9_lots 192 = .ok (.istore 5, 2) := by decide +kernel
theorem dX9_lots_194 : decode cX9_lots 194 = .ok (.iload 5, 2) := by decide +kernel
theorem dX9_lots_196 : decode cX9_lots 196 = .ok (.aload_n 0, 1) := by decide +kernel
theorem dX9_lots_197 : decode cX9_lots 197 = .ok (.getfield 7, 3) := by decide +kernel
theorem dX9_lots_200 : decode cX9_lots 200 = .ok (.if_icmp .ge 22, 3) := by decide +kernel
theorem dX9_lots_203 : decode cX9_lots 203 = .ok (.aload_n 0, 1) := by decide +kernel
theorem dX9_lots_204 : decode cX9_lots 204 = .ok (.getfield 99, 3) := by decide +kernel
theorem dX9_lots_207 : decode cX9_lots 207 = .ok (.iload 5, 2) := by decide +kernel
theorem dX9_lots_209 : decode cX9_lots 209 = .ok (.iaload, 1) := by decide +kernel
theorem dX9_lots_210 : decode cX9_lots 210 = .ok (.ifCond .le 6, 3) := by decide +kernel
theorem dX9_lots_213 : decode cX9_lots 213 = .ok (.iinc 4 1, 3) := by decide +kernel
theorem dX9_lots_216 : decode cX9_lots 216 = .ok (.iinc 5 1, 3) := by decide +kernel
theorem dX9_lots_219 : decode cX9_lots 219 = .ok (.goto (-25), 3) := by decide +kernel
theorem dX9_lots_222 : decode cX9_lots 222 = .ok (.iload 4, 2) := by decide +kernel
theorem dX9_lots_224 : decode cX9_lots 224 = .ok (.ireturn, 1) := by decide +kernel
set_option maxRecDepth 20000 in
set_option maxHeartbeats 4000000 in
theorem v_X9_lots_L67 (l : Launch) (g : GG) {r : Int32 × SS} {κ : Nat → Int32 → Int32 → SS → Option (Int32 × SS)} (hκ : ∀ (p0 : Nat) (y1 : Int32) (y3 : Int32) (τ : SS) (hp0 : kd p0 = 8), κ p0 y1 y3 τ = some r → VV l g 3 RX9 cX9_lots 8 (some .int) (some (.int r.1), r.2) 90 [(0, .ref (g.1 p0)), (1, .int y1), (3, .int y3)] [] τ) : ∀ (fu : Nat) (q0 : Nat) (x1 : Int32) (x3 : Int32) (x4 : Int32) (hq0 : kd q0 = 8) (σ : SS), f_X9_lots_L67 κ fu q0 x1 x3 x4 σ = some r → VV l g 3 RX9 cX9_lots 8 (some .int) (some (.int r.1), r.2) 67 [(0, .ref (g.1 q0)), (1, .int x1), (3, .int x3), (4, .int x4)] [] σ := by
  intro fu
  induction fu with
  | zero => intro q0 x1 x3 x4 hq0 σ h; cases h
  | succ fu ih =>
    intro q0 x1 x3 x4 hq0 σ h
    simp only [f_X9_lots_L67] at h
    refine vr_iload (pc := 67) 3 dX9_lots_67 rfl ?_
    refine vr_aload_n (pc := 69) 0 dX9_lots_69 rfl rfl ?_
    refine vr_getI (pc := 70) 0 dX9_lots_70 fi_X9_7 hq0 (sh_8_0 hq0) ?_
    refine vr_icmp_ge (pc := 73) 90 dX9_lots_73 (by decide) (fun c7 => ?_) (fun c7 => ?_)
    · rw [if_pos c7] at h
      refine vr_sub [0, 1, 2] [(0, .ref (g.1 q0)), (1, .int x1), (3, .int x3)] rfl ?_
      exact hκ q0 x1 x3 σ (hq0) h
    · rw [if_neg c7] at h
      refine vr_aload_n (pc := 76) 0 dX9_lots_76 rfl rfl ?_
      refine vr_getR (pc := 77) 36 dX9_lots_77 fi_X9_99 hq0 (sh_8_36 hq0).1 ?_
      refine vr_iload (pc := 80) 3 dX9_lots_80 rfl ?_
      refine vr_iconst (pc := 82) 0 dX9_lots_82 ci_0 ?_
      obtain ⟨hc8, h⟩ := ck_some h
      refine vr_iast (pc := 83) dX9_lots_83 (sh_8_36 hq0).2 hc8 ?_
      refine vr_iinc (pc := 84) [(4, .int (x4 + 1)), (0, .ref (g.1 q0)), (1, .int x1), (3, .int x3)] 3 dX9_lots_84 rfl (congrArg (fun z => x4 + z) ci_1) (by decide) rfl ?_
      refine vr_goto (pc := 87) 67 dX9_lots_87 (by decide) ?_
      refine vr_sub [1, 2, 3, 0] [(0, .ref (g.1 q0)), (1, .int x1), (3, .int x3), (4, .int (x4 + 1))] rfl ?_
      exact ih q0 x1 x3 (x4 + 1) (hq0) (sI σ (rid q0 36) x4.toNatClampNeg 0) h
set_option maxRecDepth 20000 in
set_option maxHeartbeats 4000000 in
theorem v_X9_lots_L121 (l : Launch) (g : GG) {r : Int32 × SS} {κ : Nat → Int32 → Int32 → Int32 → SS → Option (Int32 × SS)} (hκ : ∀ (p0 : Nat) (y1 : Int32) (y3 : Int32) (y4 : Int32) (τ : SS) (hp0 : kd p0 = 8), κ p0 y1 y3 y4 τ = some r → VV l g 3 RX9 cX9_lots 8 (some .int) (some (.int r.1), r.2) 170 [(0, .ref (g.1 p0)), (1, .int y1), (3, .int y3), (4, .int y4)] [] τ) : ∀ (fu : Nat) (q0 : Nat) (x1 : Int32) (x3 : Int32) (x4 : Int32) (x5 : Int32) (x6 : Int32) (x7 : Int32) (hq0 : kd q0 = 8) (σ : SS), f_X9_lots_L121 κ fu q0 x1 x3 x4 x5 x6 x7 σ = some r → VV l g 3 RX9 cX9_lots 8 (some .int) (some (.int r.1), r.2) 121 [(0, .ref (g.1 q0)), (1, .int x1), (3, .int x3), (4, .int x4), (5, .int x5), (6, .int x6), (7, .int x7)] [] σ := by
  intro fu
  induction fu with
  | zero => intro q0 x1 x3 x4 x5 x6 x7 hq0 σ h; cases h
  | succ fu ih =>
    intro q0 x1 x3 x4 x5 x6 x7 hq0 σ h
    simp only [f_X9_lots_L121] at h
    refine vr_iload (pc := 121) 6 dX9_lots_121 rfl ?_
    refine vr_iload (pc := 123) 5 dX9_lots_123 rfl ?_
    refine vr_icmp_ge (pc := 125) 170 dX9_lots_125 (by decide) (fun c14 => ?_) (fun c14 => ?_)
    · rw [if_pos c14] at h
      refine vr_sub [0, 1, 2, 3] [(0, .ref (g.1 q0)), (1, .int x1), (3, .int x3), (4, .int x4)] rfl ?_
      exact hκ q0 x1 x3 x4 σ (hq0) h
    · rw [if_neg c14] at h
      refine vr_aload_n (pc := 128) 0 dX9_lots_128 rfl rfl ?_
      refine vr_getR (pc := 129) 34 dX9_lots_129 fi_X9_93 hq0 (sh_8_34 hq0).1 ?_
      refine vr_iload (pc := 132) 4 dX9_lots_132 rfl ?_
      refine vr_aload_n (pc := 134) 0 dX9_lots_134 rfl rfl ?_
      refine vr_iload (pc := 135) 4 dX9_lots_135 rfl ?_
      refine vr_aload_n (pc := 137) 0 dX9_lots_137 rfl rfl ?_
      refine vr_getR (pc := 138) 34 dX9_lots_138 fi_X9_93 hq0 (sh_8_34 hq0).1 ?_
      refine vr_iload (pc := 141) 4 dX9_lots_141 rfl ?_
      obtain ⟨hc15, h⟩ := ck_some h
      refine vr_iald (pc := 143) dX9_lots_143 (sh_8_34 hq0).2 hc15 ?_
      obtain ⟨z16, hz17, h⟩ := ob_some h
      refine vr_callV (pc := 144) (ρ1 := (some (.int z16), σ)) [.int x5, .int (σ.1 (rid q0 34) x5.toNatClampNeg)] dX9_lots_144 (s_X9_nextBy l g (hq0) hz17) cw_X9_nextBy ml_X9_124 hq0 rfl (by decide) (by decide) rfl rfl (Nat.le_of_ble_eq_true rfl) ?_
      obtain ⟨hc18, h⟩ := ck_some h
      refine vr_iast (pc := 147) dX9_lots_147 (sh_8_34 hq0).2 hc18 ?_
      refine vr_aload_n (pc := 148) 0 dX9_lots_148 rfl rfl ?_
      refine vr_getR (pc := 149) 36 dX9_lots_149 fi_X9_99 hq0 (sh_8_36 hq0).1 ?_
      refine vr_aload_n (pc := 152) 0 dX9_lots_152 rfl rfl ?_
      refine vr_getR (pc := 153) 34 dX9_lots_153 fi_X9_93 hq0 (sh_8_34 hq0).1 ?_
      refine vr_iload (pc := 156) 4 dX9_lots_156 rfl ?_
      obtain ⟨hc19, h⟩ := ck_some h
      refine vr_iald (pc := 158) dX9_lots_158 (sh_8_34 hq0).2 hc19 ?_
      refine vr_dup2 (pc := 159) dX9_lots_159 rfl rfl ?_
      obtain ⟨hc20, h⟩ := ck_some h
      refine vr_iald (pc := 160) dX9_lots_160 (sh_8_36 hq0).2 hc20 ?_
      refine vr_iconst (pc := 161) 1 dX9_lots_161 ci_1 ?_
      refine vr_iadd (pc := 162) dX9_lots_162 ?_
      obtain ⟨hc21, h⟩ := ck_some h
      refine vr_iast (pc := 163) dX9_lots_163 (sh_8_36 hq0).2 hc21 ?_
      refine vr_iinc (pc := 164) [(7, .int (x7 + 1)), (0, .ref (g.1 q0)), (1, .int x1), (3, .int x3), (4, .int x4), (5, .int x5), (6, .int x6)] 6 dX9_lots_164 rfl (congrArg (fun z => x7 + z) ci_1) (by decide) rfl ?_
      refine vr_goto (pc := 167) 121 dX9_lots_167 (by decide) ?_
      refine vr_sub [1, 2, 3, 4, 5, 6, 0] [(0, .ref (g.1 q0)), (1, .int x1), (3, .int x3), (4, .int x4), (5, .int x5), (6, .int x6), (7, .int (x7 + 1))] rfl ?_
      exact ih q0 x1 x3 x4 x5 x6 (x7 + 1) (hq0) (sI (sI σ (rid q0 34) x5.toNatClampNeg z16) (rid q0 36) ((sI σ (rid q0 34) x5.toNatClampNeg z16).1 (rid q0 34) x5.toNatClampNeg).toNatClampNeg (((sI σ (rid q0 34) x5.toNatClampNeg z16).1 (rid q0 36) ((sI σ (rid q0 34) x5.toNatClampNeg z16).1 (rid q0 34) x5.toNatClampNeg).toNatClampNeg) + 1)) h
set_option maxRecDepth 20000 in
set_option maxHeartbeats 4000000 in
theorem v_X9_lots_L93 (l : Launch) (g : GG) {r : Int32 × SS} {κ : Nat → Int32 → SS → Option (Int32 × SS)} (hκ : ∀ (p0 : Nat) (y3 : Int32) (τ : SS) (hp0 : kd p0 = 8), κ p0 y3 τ = some r → VV l g 3 RX9 cX9_lots 8 (some .int) (some (.int r.1), r.2) 176 [(0, .ref (g.1 p0)), (3, .int y3)] [] τ) : ∀ (fu : Nat) (q0 : Nat) (x1 : Int32) (x3 : Int32) (x4 : Int32) (hq0 : kd q0 = 8) (σ : SS), f_X9_lots_L93 κ fu q0 x1 x3 x4 σ = some r → VV l g 3 RX9 cX9_lots 8 (some .int) (some (.int r.1), r.2) 93 [(0, .ref (g.1 q0)), (1, .int x1), (3, .int x3), (4, .int x4)] [] σ := by
  intro fu
  induction fu with
  | zero => intro q0 x1 x3 x4 hq0 σ h; cases h
  | succ fu ih =>
    intro q0 x1 x3 x4 hq0 σ h
    simp only [f_X9_lots_L93] at h
    refine vr_iload (pc := 93) 3 dX9_lots_93 rfl ?_
    refine vr_iload_n (pc := 95) 1 dX9_lots_95 rfl rfl ?_
    refine vr_icmp_ge (pc := 96) 176 dX9_lots_96 (by decide) (fun c9 => ?_) (fun c9 => ?_)
    · rw [if_pos c9] at h
      refine vr_sub [0, 2] [(0, .ref (g.1 q0)), (3, .int x3)] rfl ?_
      exact hκ q0 x3 σ (hq0) h
    · rw [if_neg c9] at h
      refine vr_aload_n (pc := 99) 0 dX9_lots_99 rfl rfl ?_
      refine vr_aload_n (pc := 100) 0 dX9_lots_100 rfl rfl ?_
      refine vr_getI (pc := 101) 3 dX9_lots_101 fi_X9_108 hq0 (sh_8_3 hq0) ?_
      obtain ⟨z10, hz11, h⟩ := ob_some h
      refine vr_callV (pc := 104) (ρ1 := (some (.int z10.1), z10.2)) [.int (σ.1 q0 3)] dX9_lots_104 (s_X9_draw l g (hq0) hz11) cw_X9_draw ml_X9_287 hq0 rfl (by decide) (by decide) rfl rfl (Nat.le_of_ble_eq_true rfl) ?_
      refine vr_istore (pc := 107) [(5, .int z10.1), (0, .ref (g.1 q0)), (1, .int x1), (3, .int x3), (4, .int x4)] dX9_lots_107 (by decide) rfl ?_
      refine vr_aload_n (pc := 109) 1 dX9_lots_109 rfl rfl ?_
      refine vr_iconst (pc := 110) 4 dX9_lots_110 ci_4 ?_
      obtain ⟨z12, hz13, h⟩ := ob_some h
      refine vr_callV (pc := 111) (ρ1 := (some (.int z12.1), z12.2)) [.int 4] dX9_lots_111 (s_X9_draw l g (hq0) hz13) cw_X9_draw ml_X9_287 hq0 rfl (by decide) (by decide) rfl rfl (Nat.le_of_ble_eq_true rfl) ?_
      refine vr_iconst (pc := 114) 1 dX9_lots_114 ci_1 ?_
      refine vr_iadd (pc := 115) dX9_lots_115 ?_
      refine vr_istore (pc := 116) [(6, .int (z12.1 + 1)), (5, .int z10.1), (0, .ref (g.1 q0)), (1, .int x1), (3, .int x3), (4, .int x4)] dX9_lots_116 (by decide) rfl ?_
      refine vr_iconst (pc := 118) 0 dX9_lots_118 ci_0 ?_
      refine vr_istore (pc := 119) [(7, .int 0), (6, .int (z12.1 + 1)), (5, .int z10.1), (0, .ref (g.1 q0)), (1, .int x1), (3, .int x3), (4, .int x4)] dX9_lots_119 (by decide) rfl ?_
      refine vr_sub [3, 4, 5, 6, 2, 1, 0] [(0, .ref (g.1 q0)), (1, .int x1), (3, .int x3), (4, .int x4), (5, .int z10.1), (6, .int (z12.1 + 1)), (7, .int 0)] rfl ?_
      refine v_X9_lots_L121 l g (fun p0 y1 y3 y4 τ hp0 h => ?_) FU q0 x1 x3 x4 z10.1 (z12.1 + 1) 0 (hq0) z12.2 h
      refine vr_iinc (pc := 170) [(4, .int (y4 + 1)), (0, .ref (g.1 p0)), (1, .int y1), (3, .int y3)] 3 dX9_lots_170 rfl (congrArg (fun z => y4 + z) ci_1) (by decide) rfl ?_
      refine vr_goto (pc := 173) 93 dX9_lots_173 (by decide) ?_
      refine vr_sub [1, 2, 3, 0] [(0, .ref (g.1 p0)), (1, .int y1), (3, .int y3), (4, .int (y4 + 1))] rfl ?_
      exact ih p0 y1 y3 (y4 + 1) (hp0) τ h
set_option maxRecDepth 20000 in
set_option maxHeartbeats 4000000 in
theorem v_X9_lots_L194 (l : Launch) (g : GG) {r : Int32 × SS} {κ : Int32 → SS → Option (Int32 × SS)} (hκ : ∀ (y4 : Int32) (τ : SS) , κ y4 τ = some r → VV l g 3 RX9 cX9_lots 8 (some .int) (some (.int r.1), r.2) 222 [(4, .int y4)] [] τ) : ∀ (fu : Nat) (q0 : Nat) (x4 : Int32) (x5 : Int32) (hq0 : kd q0 = 8) (σ : SS), f_X9_lots_L194 κ fu q0 x4 x5 σ = some r → VV l g 3 RX9 cX9_lots 8 (some .int) (some (.int r.1), r.2) 194 [(0, .ref (g.1 q0)), (4, .int x4), (5, .int x5)] [] σ := by
  intro fu
  induction fu with
  | zero => intro q0 x4 x5 hq0 σ h; cases h
  | succ fu ih =>
    intro q0 x4 x5 hq0 σ h
    simp only [f_X9_lots_L194] at h
    refine vr_iload (pc := 194) 2 dX9_lots_194 rfl ?_
    refine vr_aload_n (pc := 196) 0 dX9_lots_196 rfl rfl ?_
    refine vr_getI (pc := 197) 0 dX9_lots_197 fi_X9_7 hq0 (sh_8_0 hq0) ?_
    refine vr_icmp_ge (pc := 200) 222 dX9_lots_200 (by decide) (fun c23 => ?_) (fun c23 => ?_)
    · rw [if_pos c23] at h
      refine vr_sub [1] [(4, .int x4)] rfl ?_
      exact hκ x4 σ h
    · rw [if_neg c23] at h
      refine vr_aload_n (pc := 203) 0 dX9_lots_203 rfl rfl ?_
      refine vr_getR (pc := 204) 36 dX9_lots_204 fi_X9_99 hq0 (sh_8_36 hq0).1 ?_
      refine vr_iload (pc := 207) 2 dX9_lots_207 rfl ?_
      obtain ⟨hc24, h⟩ := ck_some h
      refine vr_iald (pc := 209) dX9_lots_209 (sh_8_36 hq0).2 hc24 ?_
      refine vr_if_le (pc := 210) 216 dX9_lots_210 (by decide) (fun c25 => ?_) (fun c25 => ?_)
      · rw [if_pos c25] at h
        refine vr_iinc (pc := 216) [(5, .int (x5 + 1)), (0, .ref (g.1 q0)), (4, .int x4)] 2 dX9_lots_216 rfl (congrArg (fun z => x5 + z) ci_1) (by decide) rfl ?_
        refine vr_goto (pc := 219) 194 dX9_lots_219 (by decide) ?_
        refine vr_sub [1, 2, 0] [(0, .ref (g.1 q0)), (4, .int x4), (5, .int (x5 + 1))] rfl ?_
        exact ih q0 x4 (x5 + 1) (hq0) σ h
      · rw [if_neg c25] at h
        refine vr_iinc (pc := 213) [(4, .int (x4 + 1)), (0, .ref (g.1 q0)), (5, .int x5)] 1 dX9_lots_213 rfl (congrArg (fun z => x4 + z) ci_1) (by decide) rfl ?_
        refine vr_iinc (pc := 216) [(5, .int (x5 + 1)), (4, .int (x4 + 1)), (0, .ref (g.1 q0))] 2 dX9_lots_216 rfl (congrArg (fun z => x5 + z) ci_1) (by decide) rfl ?_
        refine vr_goto (pc := 219) 194 dX9_lots_219 (by decide) ?_
        refine vr_sub [2, 1, 0] [(0, .ref (g.1 q0)), (4, .int (x4 + 1)), (5, .int (x5 + 1))] rfl ?_
        exact ih q0 (x4 + 1) (x5 + 1) (hq0) σ h
set_option maxRecDepth 20000 in
set_option maxHeartbeats 4000000 in
theorem s_X9_lots (l : Launch) (g : GG) {q0 : Nat} (hq0 : kd q0 = 8) {a1 : Int32} {a2 : Int32} {a3 : Int32} {σ : SS} {r : Int32 × SS} (h : f_X9_lots q0 a1 a2 a3 σ = some r) : CT l g 3 yX9_lots cX9_lots 8 (some .int) [.ref (g.1 q0), .int a1, .int a2, .int a3] σ (some (.int r.1), r.2) := by
  refine CT.of (lv := [(0, .ref (g.1 q0)), (1, .int a1), (2, .int a2), (3, .int a3)]) RX9 (by decide +kernel) rfl (Nat.le_of_ble_eq_true rfl) rfl ?_
  unfold f_X9_lots at h
  refine vr_iload_n (pc := 0) 1 dX9_lots_0 rfl rfl ?_
  refine vr_iconst (pc := 1) 1 dX9_lots_1 ci_1 ?_
  refine vr_icmp_ge (pc := 2) 12 dX9_lots_2 (by decide) (fun c1 => ?_) (fun c1 => ?_)
  · rw [if_pos c1] at h
    refine vr_iload_n (pc := 12) 1 dX9_lots_12 rfl rfl ?_
    refine vr_bipush (pc := 13) 50 dX9_lots_13 cb_50 ?_
    refine vr_icmp_le (pc := 15) 25 dX9_lots_15 (by decide) (fun c2 => ?_) (fun c2 => ?_)
    · rw [if_pos c2] at h
      refine vr_iload_n (pc := 25) 3 dX9_lots_25 rfl rfl ?_
      refine vr_iconst (pc := 26) 0 dX9_lots_26 ci_0 ?_
      refine vr_iconst (pc := 27) 1 dX9_lots_27 ci_1 ?_
      refine vr_callS (pc := 28) (ρ1 := (some (.int (f_X9_within a3 0 1)), σ)) [.int a3, .int 0, .int 1] dX9_lots_28 (s_X9_within l g rfl) cw_X9_within ml_X9_111 (by decide) rfl rfl (Nat.le_of_ble_eq_true rfl) ?_
      refine vr_if_ne (pc := 31) 41 dX9_lots_31 (by decide) (fun c3 => ?_) (fun c3 => ?_)
      · rw [if_neg c3] at h
        refine vr_aload_n (pc := 41) 0 dX9_lots_41 rfl rfl ?_
        refine vr_getI (pc := 42) 3 dX9_lots_42 fi_X9_108 hq0 (sh_8_3 hq0) ?_
        refine vr_if_ne (pc := 45) 55 dX9_lots_45 (by decide) (fun c4 => ?_) (fun c4 => ?_)
        · rw [if_neg c4] at h
          refine vr_aload_n (pc := 55) 0 dX9_lots_55 rfl rfl ?_
          refine vr_iload_n (pc := 56) 2 dX9_lots_56 rfl rfl ?_
          refine vr_putI (pc := 57) 37 dX9_lots_57 fi_X9_281 (fw_8_37 _) hq0 (sh_8_37 hq0) ?_
          refine vr_aload_n (pc := 60) 0 dX9_lots_60 rfl rfl ?_
          obtain ⟨z5, hz6, h⟩ := ob_some h
          refine vr_callV (pc := 61) (ρ1 := (none, z5)) [] dX9_lots_61 (s_X9_starts l g (hq0) hz6) cw_X9_starts ml_X9_255 hq0 rfl (by decide) (by decide) rfl rfl (Nat.le_of_ble_eq_true rfl) ?_
          refine vr_iconst (pc := 64) 0 dX9_lots_64 ci_0 ?_
          refine vr_istore (pc := 65) [(4, .int 0), (0, .ref (g.1 q0)), (1, .int a1), (2, .int a2), (3, .int a3)] dX9_lots_65 (by decide) rfl ?_
          refine vr_sub [1, 2, 4, 0] [(0, .ref (g.1 q0)), (1, .int a1), (3, .int a3), (4, .int 0)] rfl ?_
          refine v_X9_lots_L67 l g (fun p0 y1 y3 τ hp0 h => ?_) FU q0 a1 a3 0 (hq0) z5 h
          refine vr_iconst (pc := 90) 0 dX9_lots_90 ci_0 ?_
          refine vr_istore (pc := 91) [(4, .int 0), (0, .ref (g.1 p0)), (1, .int y1), (3, .int y3)] dX9_lots_91 (by decide) rfl ?_
          refine vr_sub [1, 2, 3, 0] [(0, .ref (g.1 p0)), (1, .int y1), (3, .int y3), (4, .int 0)] rfl ?_
          refine v_X9_lots_L93 l g (fun p0 y3 τ hp0 h => ?_) FU p0 y1 y3 0 (hp0) τ h
          refine vr_iload_n (pc := 176) 1 dX9_lots_176 rfl rfl ?_
          refine vr_iconst (pc := 177) 1 dX9_lots_177 ci_1 ?_
          refine vr_icmp_ne (pc := 178) 188 dX9_lots_178 (by decide) (fun c22 => ?_) (fun c22 => ?_)
          · rw [if_neg c22] at h
            refine vr_iconst (pc := 188) 0 dX9_lots_188 ci_0 ?_
            refine vr_istore (pc := 189) [(4, .int 0), (0, .ref (g.1 p0)), (3, .int y3)] dX9_lots_189 (by decide) rfl ?_
            refine vr_iconst (pc := 191) 0 dX9_lots_191 ci_0 ?_
            refine vr_istore (pc := 192) [(5, .int 0), (4, .int 0), (0, .ref (g.1 p0)), (3, .int y3)] dX9_lots_192 (by decide) rfl ?_
            refine vr_sub [2, 1, 0] [(0, .ref (g.1 p0)), (4, .int 0), (5, .int 0)] rfl ?_
            refine v_X9_lots_L194 l g (fun y4 τ h => ?_) FU p0 0 0 (hp0) τ h
            refine vr_iload (pc := 222) 0 dX9_lots_222 rfl ?_
            have h := Option.some.inj h; subst h
            exact vr_iret (pc := 224) .int dX9_lots_224 rfl rfl rfl
          · rw [if_pos c22] at h
            refine vr_aload_n (pc := 181) 0 dX9_lots_181 rfl rfl ?_
            refine vr_getR (pc := 182) 36 dX9_lots_182 fi_X9_99 hp0 (sh_8_36 hp0).1 ?_
            refine vr_iconst (pc := 185) 0 dX9_lots_185 ci_0 ?_
            obtain ⟨hc26, h⟩ := ck_some h
            refine vr_iald (pc := 186) dX9_lots_186 (sh_8_36 hp0).2 hc26 ?_
            have h := Option.some.inj h; subst h
            exact vr_iret (pc := 187) .int dX9_lots_187 rfl rfl rfl
        · rw [if_pos c4] at h
          refine vr_aload_n (pc := 48) 0 dX9_lots_48 rfl rfl ?_
          refine vr_bipush (pc := 49) (-3) dX9_lots_49 cb_m3 ?_
          obtain ⟨z27, hz28, h⟩ := ob_some h
          refine vr_callV (pc := 51) (ρ1 := (some (.int z27.1), z27.2)) [.int (-3)] dX9_lots_51 (s_X9_no l g (hq0) hz28) cw_X9_no ml_X9_104 hq0 rfl (by decide) (by decide) rfl rfl (Nat.le_of_ble_eq_true rfl) ?_
          have h := Option.some.inj h; subst h
          exact vr_iret (pc := 54) .int dX9_lots_54 rfl rfl rfl
      · rw [if_pos c3] at h
        refine vr_aload_n (pc := 34) 0 dX9_lots_34 rfl rfl ?_
        refine vr_bipush (pc := 35) (-2) dX9_lots_35 cb_m2 ?_
        obtain ⟨z29, hz30, h⟩ := ob_some h
        refine vr_callV (pc := 37) (ρ1 := (some (.int z29.1), z29.2)) [.int (-2)] dX9_lots_37 (s_X9_no l g (hq0) hz30) cw_X9_no ml_X9_104 hq0 rfl (by decide) (by decide) rfl rfl (Nat.le_of_ble_eq_true rfl) ?_
        have h := Option.some.inj h; subst h
        exact vr_iret (pc := 40) .int dX9_lots_40 rfl rfl rfl
    · rw [if_neg c2] at h
      refine vr_aload_n (pc := 18) 0 dX9_lots_18 rfl rfl ?_
      refine vr_bipush (pc := 19) (-6) dX9_lots_19 cb_m6 ?_
      obtain ⟨z31, hz32, h⟩ := ob_some h
      refine vr_callV (pc := 21) (ρ1 := (some (.int z31.1), z31.2)) [.int (-6)] dX9_lots_21 (s_X9_no l g (hq0) hz32) cw_X9_no ml_X9_104 hq0 rfl (by decide) (by decide) rfl rfl (Nat.le_of_ble_eq_true rfl) ?_
      have h := Option.some.inj h; subst h
      exact vr_iret (pc := 24) .int dX9_lots_24 rfl rfl rfl
  · rw [if_neg c1] at h
    refine vr_aload_n (pc := 5) 0 dX9_lots_5 rfl rfl ?_
    refine vr_bipush (pc := 6) (-4) dX9_lots_6 cb_m4 ?_
    obtain ⟨z33, hz34, h⟩ := ob_some h
    refine vr_callV (pc := 8) (ρ1 := (some (.int z33.1), z33.2)) [.int (-4)] dX9_lots_8 (s_X9_no l g (hq0) hz34) cw_X9_no ml_X9_104 hq0 rfl (by decide) (by decide) rfl rfl (Nat.le_of_ble_eq_true rfl) ?_
    have h := Option.some.inj h; subst h
    exact vr_iret (pc := 11) .int dX9_lots_11 rfl rfl rfl
theorem dX9_list_0 : decode cX9_list 0 = .ok (.iload_n 1, 1) := by decide +kernel
theorem dX9_list_1 : decode cX9_list 1 = .ok (.invokestatic 270, 3) := by decide +kernel
theorem dX9_list_4 : decode cX9_list 4 = .ok (.ifCond .ne 9, 3) := by decide +kernel
theorem dX9_list_7 : decode cX9_list 7 = .ok (.aload_n 0, 1) := by decide +kernel
theorem dX9_list_8 : decode cX9_list 8 = .ok (.iconst (-1), 1) := by decide +kernel
theorem dX9_list_9 : decode cX9_list 9 = .ok (.invokevirtual 104, 3) := by decide +kernel
theorem dX9_list_12 : decode cX9_list 12 = .ok (.ireturn, 1) := by decide +kernel
theorem dX9_list_13 : decode cX9_list 13 = .ok (.iload_n 2, 1) := by decide +kernel
theorem dX9_list_14 : decode cX9_list 14 = .ok (.bipush 40, 2) := by decide +kernel
theorem dX9_list_16 : decode cX9_list 16 = .ok (.if_icmp .le 10, 3) := by decide +kernel
theorem dX9_list_19 : decode cX9_list 19 = .ok (.aload_n 0, 1) := by decide +kernel
theorem dX9_list_20 : decode cX9_list 20 = .ok (.bipush (-6), 2) := by decide +kernel
theorem dX9_list_22 : decode cX9_list 22 = .ok (.invokevirtual 104, 3) := by decide +kernel
theorem dX9_list_25 : decode cX9_list 25 = .ok (.ireturn, 1) := by decide +kernel
theorem dX9_list_26 : decode cX9_list 26 = .ok (.iload_n 2, 1) := by decide +kernel
theorem dX9_list_27 : decode cX9_list 27 = .ok (.ifCond .ge 6, 3) := by decide +kernel
theorem dX9_list_30 : decode cX9_list 30 = .ok (.bipush (-14), 2) := by decide +kernel
theorem dX9_list_32 : decode cX9_list 32 = .ok (.ireturn, 1) := by decide +kernel
theorem dX9_list_33 : decode cX9_list 33 = .ok (.aload_n 0, 1) := by decide +kernel
theorem dX9_list_34 : decode cX9_list 34 = .ok (.getfield 44, 3) := by decide +kernel
theorem dX9_list_37 : decode cX9_list 37 = .ok (.iload_n 1, 1) := by decide +kernel
theorem dX9_list_38 : decode cX9_list 38 = .ok (.iload_n 2, 1) := by decide +kernel
theorem dX9_list_39 : decode cX9_list 39 = .ok (.iastore, 1) := by decide +kernel
theorem dX9_list_40 : decode cX9_list 40 = .ok (.iconst 0, 1) := by decide +kernel
theorem dX9_list_41 : decode cX9_list 41 = .ok (.istore_n 3, 1) := by decide +kernel
theorem dX9_list_42 : decode cX9_list 42 = .ok (.iload_n 3, 1) := by decide +kernel
theorem dX9_list_43 : decode cX9_list 43 = .ok (.bipush 40, 2) := by decide +kernel
theorem dX9_list_45 : decode cX9_list 45 = .ok (.if_icmp .ge 21, 3) := by decide +kernel
theorem dX9_list_48 : decode cX9_list 48 = .ok (.aload_n 0, 1) := by decide +kernel
theorem dX9_list_49 : decode cX9_list 49 = .ok (.getfield 41, 3) := by decide +kernel
theorem dX9_list_52 : decode cX9_list 52 = .ok (.bipush 40, 2) := by decide +kernel
theorem dX9_list_54 : decode cX9_list 54 = .ok (.iload_n 1, 1) := by decide +kernel
theorem dX9_list_55 : decode cX9_list 55 = .ok (.imul, 1) := by decide +kernel
theorem dX9_list_56 : decode cX9_list 56 = .ok (.iload_n 3, 1) := by decide +kernel
theorem dX9_list_57 : decode cX9_list 57 = .ok (.iadd, 1) := by decide +kernel
theorem dX9_list_58 : decode cX9_list 58 = .ok (.iconst 0, 1) := by decide +kernel
theorem dX9_list_59 : decode cX9_list 59 = .ok (.iastore, 1) := by decide +kernel
theorem dX9_list_60 : decode cX9_list 60 = .ok (.iinc 3 1, 3) := by decide +kernel
theorem dX9_list_63 : decode cX9_list 63 = .ok (.goto (-21), 3) := by decide +kernel
theorem dX9_list_66 : decode cX9_list 66 = .ok (.iconst 1, 1) := by decide +kernel
theorem dX9_list_67 : decode cX9_list 67 = .ok (.ireturn, 1) := by decide +kernel
set_option maxRecDepth 20000 in
set_option maxHeartbeats 4000000 in
theorem v_X9_list_L42 (l : Launch) (g : GG) {r : Int32 × SS} {κ : SS → Option (Int32 × SS)} (hκ : ∀ (τ : SS) , κ  τ = some r → VV l g 2 RX9 cX9_list 4 (some .int) (some (.int r.1), r.2) 66 [] [] τ) : ∀ (fu : Nat) (q0 : Nat) (x1 : Int32) (x3 : Int32) (hq0 : kd q0 = 8) (σ : SS), f_X9_list_L42 κ fu q0 x1 x3 σ = some r → VV l g 2 RX9 cX9_list 4 (some .int) (some (.int r.1), r.2) 42 [(0, .ref (g.1 q0)), (1, .int x1), (3, .int x3)] [] σ := by
  intro fu
  induction fu with
  | zero => intro q0 x1 x3 hq0 σ h; cases h
  | succ fu ih =>
    intro q0 x1 x3 hq0 σ h
    simp only [f_X9_list_L42] at h
    refine vr_iload_n (pc := 42) 2 dX9_list_42 rfl rfl ?_
    refine vr_bipush (pc := 43) 40 dX9_list_43 cb_40 ?_
    refine vr_icmp_ge (pc := 45) 66 dX9_list_45 (by decide) (fun c5 => ?_) (fun c5 => ?_)
    · rw [if_pos c5] at h
      refine vr_sub [] [] rfl ?_
      exact hκ σ h
    · rw [if_neg c5] at h
      refine vr_aload_n (pc := 48) 0 dX9_list_48 rfl rfl ?_
      refine vr_getR (pc := 49) 12 dX9_list_49 fi_X9_41 hq0 (sh_8_12 hq0).1 ?_
      refine vr_bipush (pc := 52) 40 dX9_list_52 cb_40 ?_
      refine vr_iload_n (pc := 54) 1 dX9_list_54 rfl rfl ?_
      refine vr_imul (pc := 55) dX9_list_55 ?_
      refine vr_iload_n (pc := 56) 2 dX9_list_56 rfl rfl ?_
      refine vr_iadd (pc := 57) dX9_list_57 ?_
      refine vr_iconst (pc := 58) 0 dX9_list_58 ci_0 ?_
      obtain ⟨hc6, h⟩ := ck_some h
      refine vr_iast (pc := 59) dX9_list_59 (sh_8_12 hq0).2 hc6 ?_
      refine vr_iinc (pc := 60) [(3, .int (x3 + 1)), (0, .ref (g.1 q0)), (1, .int x1)] 2 dX9_list_60 rfl (congrArg (fun z => x3 + z) ci_1) (by decide) rfl ?_
      refine vr_goto (pc := 63) 42 dX9_list_63 (by decide) ?_
      refine vr_sub [1, 2, 0] [(0, .ref (g.1 q0)), (1, .int x1), (3, .int (x3 + 1))] rfl ?_
      exact ih q0 x1 (x3 + 1) (hq0) (sI σ (rid q0 12) ((40 * x1) + x3).toNatClampNeg 0) h
set_option maxRecDepth 20000 in
set_option maxHeartbeats 4000000 in
theorem s_X9_list (l : Launch) (g : GG) {q0 : Nat} (hq0 : kd q0 = 8) {a1 : Int32} {a2 : Int32} {σ : SS} {r : Int32 × SS} (h : f_X9_list q0 a1 a2 σ = some r) : CT l g 2 yX9_list cX9_list 4 (some .int) [.ref (g.1 q0), .int a1, .int a2] σ (some (.int r.1), r.2) := by
  refine CT.of (lv := [(0, .ref (g.1 q0)), (1, .int a1), (2, .int a2)]) RX9 (by decide +kernel) rfl (Nat.le_of_ble_eq_true rfl) rfl ?_
  unfold f_X9_list at h
  refine vr_iload_n (pc := 0) 1 dX9_list_0 rfl rfl ?_
  refine vr_callS (pc := 1) (ρ1 := (some (.int (f_X9_isList a1)), σ)) [.int a1] dX9_list_1 (s_X9_isList l g rfl) cw_X9_isList ml_X9_270 (by decide) rfl rfl (Nat.le_of_ble_eq_true rfl) ?_
  refine vr_if_ne (pc := 4) 13 dX9_list_4 (by decide) (fun c1 => ?_) (fun c1 => ?_)
  · rw [if_neg c1] at h
    refine vr_iload_n (pc := 13) 2 dX9_list_13 rfl rfl ?_
    refine vr_bipush (pc := 14) 40 dX9_list_14 cb_40 ?_
    refine vr_icmp_le (pc := 16) 26 dX9_list_16 (by decide) (fun c2 => ?_) (fun c2 => ?_)
    · rw [if_pos c2] at h
      refine vr_iload_n (pc := 26) 2 dX9_list_26 rfl rfl ?_
      refine vr_if_ge (pc := 27) 33 dX9_list_27 (by decide) (fun c3 => ?_) (fun c3 => ?_)
      · rw [if_pos c3] at h
        refine vr_aload_n (pc := 33) 0 dX9_list_33 rfl rfl ?_
        refine vr_getR (pc := 34) 13 dX9_list_34 fi_X9_44 hq0 (sh_8_13 hq0).1 ?_
        refine vr_iload_n (pc := 37) 1 dX9_list_37 rfl rfl ?_
        refine vr_iload_n (pc := 38) 2 dX9_list_38 rfl rfl ?_
        obtain ⟨hc4, h⟩ := ck_some h
        refine vr_iast (pc := 39) dX9_list_39 (sh_8_13 hq0).2 hc4 ?_
        refine vr_iconst (pc := 40) 0 dX9_list_40 ci_0 ?_
        refine vr_istore_n (pc := 41) [(3, .int 0), (0, .ref (g.1 q0)), (1, .int a1), (2, .int a2)] dX9_list_41 rfl (by decide) rfl ?_
        refine vr_sub [1, 2, 0] [(0, .ref (g.1 q0)), (1, .int a1), (3, .int 0)] rfl ?_
        refine v_X9_list_L42 l g (fun τ h => ?_) FU q0 a1 0 (hq0) (sI σ (rid q0 13) a1.toNatClampNeg a2) h
        refine vr_iconst (pc := 66) 1 dX9_list_66 ci_1 ?_
        have h := Option.some.inj h; subst h
        exact vr_iret (pc := 67) .int dX9_list_67 rfl rfl rfl
      · rw [if_neg c3] at h
        refine vr_bipush (pc := 30) (-14) dX9_list_30 cb_m14 ?_
        have h := Option.some.inj h; subst h
        exact vr_iret (pc := 32) .int dX9_list_32 rfl rfl rfl
    · rw [if_neg c2] at h
      refine vr_aload_n (pc := 19) 0 dX9_list_19 rfl rfl ?_
      refine vr_bipush (pc := 20) (-6) dX9_list_20 cb_m6 ?_
      obtain ⟨z7, hz8, h⟩ := ob_some h
      refine vr_callV (pc := 22) (ρ1 := (some (.int z7.1), z7.2)) [.int (-6)] dX9_list_22 (s_X9_no l g (hq0) hz8) cw_X9_no ml_X9_104 hq0 rfl (by decide) (by decide) rfl rfl (Nat.le_of_ble_eq_true rfl) ?_
      have h := Option.some.inj h; subst h
      exact vr_iret (pc := 25) .int dX9_list_25 rfl rfl rfl
  · rw [if_pos c1] at h
    refine vr_aload_n (pc := 7) 0 dX9_list_7 rfl rfl ?_
    refine vr_iconst (pc := 8) (-1) dX9_list_8 ci_m1 ?_
    obtain ⟨z9, hz10, h⟩ := ob_some h
    refine vr_callV (pc := 9) (ρ1 := (some (.int z9.1), z9.2)) [.int (-1)] dX9_list_9 (s_X9_no l g (hq0) hz10) cw_X9_no ml_X9_104 hq0 rfl (by decide) (by decide) rfl rfl (Nat.le_of_ble_eq_true rfl) ?_
    have h := Option.some.inj h; subst h
    exact vr_iret (pc := 12) .int dX9_list_12 rfl rfl rfl
theorem dX9_put_0 : decode cX9_put 0 = .ok (.iload_n 1, 1) := by decide +kernel
theorem dX9_put_1 : decode cX9_put 1 = .ok (.invokestatic 270, 3) := by decide +kernel
theorem dX9_put_4 : decode cX9_put 4 = .ok (.ifCond .ne 9, 3) := by decide +kernel
theorem dX9_put_7 : decode cX9_put 7 = .ok (.aload_n 0, 1) := by decide +kernel
theorem dX9_put_8 : decode cX9_put 8 = .ok (.iconst (-1), 1) := by decide +kernel
theorem dX9_put_9 : decode cX9_put 9 = .ok (.invokevirtual 104, 3) := by decide +kernel
theorem dX9_put_12 : decode cX9_put 12 = .ok (.ireturn, 1) := by decide +kernel
theorem dX9_put_13 : decode cX9_put 13 = .ok (.aload_n 0, 1) := by decide +kernel
theorem dX9_put_14 : decode cX9_put 14 = .ok (.getfield 44, 3) := by decide +kernel
theorem dX9_put_17 : decode cX9_put 17 = .ok (.iload_n 1, 1) := by decide +kernel
theorem dX9_put_18 : decode cX9_put 18 = .ok (.iaload, 1) := by decide +kernel
theorem dX9_put_19 : decode cX9_put 19 = .ok (.ifCond .ge 6, 3) := by decide +kernel
theorem dX9_put_22 : decode cX9_put 22 = .ok (.bipush (-11), 2) := by decide +kernel
theorem dX9_put_24 : decode cX9_put 24 = .ok (.ireturn, 1) := by decide +kernel
theorem dX9_put_25 : decode cX9_put 25 = .ok (.iload_n 2, 1) := by decide +kernel
theorem dX9_put_26 : decode cX9_put 26 = .ok (.iconst 0, 1) := by decide +kernel
theorem dX9_put_27 : decode cX9_put 27 = .ok (.aload_n 0, 1) := by decide +kernel
theorem dX9_put_28 : decode cX9_put 28 = .ok (.getfield 44, 3) := by decide +kernel
theorem dX9_put_31 : decode cX9_put 31 = .ok (.iload_n 1, 1) := by decide +kernel
theorem dX9_put_32 : decode cX9_put 32 = .ok (.iaload, 1) := by decide +kernel
theorem dX9_put_33 : decode cX9_put 33 = .ok (.iconst 1, 1) := by decide +kernel
theorem dX9_put_34 : decode cX9_put 34 = .ok (.isub, 1) := by decide +kernel
theorem dX9_put_35 : decode cX9_put 35 = .ok (.invokestatic 111, 3) := by decide +kernel
theorem dX9_put_38 : decode cX9_put 38 = .ok (.ifCond .ne 6, 3) := by decide +kernel
theorem dX9_put_41 : decode cX9_put 41 = .ok (.bipush (-13), 2) := by decide +kernel
theorem dX9_put_43 : decode cX9_put 43 = .ok (.ireturn, 1) := by decide +kernel
theorem dX9_put_44 : decode cX9_put 44 = .ok (.aload_n 0, 1) := by decide +kernel
theorem dX9_put_45 : decode cX9_put 45 = .ok (.getfield 41, 3) := by decide +kernel
theorem dX9_put_48 : decode cX9_put 48 = .ok (.bipush 40, 2) := by decide +kernel
theorem dX9_put_50 : decode cX9_put 50 = .ok (.iload_n 1, 1) := by decide +kernel
theorem dX9_put_51 : decode cX9_put 51 = .ok (.imul, 1) := by decide +kernel
theorem dX9_put_52 : decode cX9_put 52 = .ok (.iload_n 2, 1) := by decide +kernel
theorem dX9_put_53 : decode cX9_put 53 = .ok (.iadd, 1) := by decide +kernel
theorem dX9_put_54 : decode cX9_put 54 = .ok (.iload_n 3, 1) := by decide +kernel
theorem dX9_put_55 : decode cX9_put 55 = .ok (.iastore, 1) := by decide +kernel
theorem dX9_put_56 : decode cX9_put 56 = .ok (.iconst 1, 1) := by decide +kernel
theorem dX9_put_57 : decode cX9_put 57 = .ok (.ireturn, 1) := by decide +kernel
set_option maxRecDepth 20000 in
set_option maxHeartbeats 4000000 in
theorem s_X9_put (l : Launch) (g : GG) {q0 : Nat} (hq0 : kd q0 = 8) {a1 : Int32} {a2 : Int32} {a3 : Int32} {σ : SS} {r : Int32 × SS} (h : f_X9_put q0 a1 a2 a3 σ = some r) : CT l g 2 yX9_put cX9_put 4 (some .int) [.ref (g.1 q0), .int a1, .int a2, .int a3] σ (some (.int r.1), r.2) := by
  refine CT.of (lv := [(0, .ref (g.1 q0)), (1, .int a1), (2, .int a2), (3, .int a3)]) RX9 (by decide +kernel) rfl (Nat.le_of_ble_eq_true rfl) rfl ?_
  unfold f_X9_put at h
  refine vr_iload_n (pc := 0) 1 dX9_put_0 rfl rfl ?_
  refine vr_callS (pc := 1) (ρ1 := (some (.int (f_X9_isList a1)), σ)) [.int a1] dX9_put_1 (s_X9_isList l g rfl) cw_X9_isList ml_X9_270 (by decide) rfl rfl (Nat.le_of_ble_eq_true rfl) ?_
  refine vr_if_ne (pc := 4) 13 dX9_put_4 (by decide) (fun c1 => ?_) (fun c1 => ?_)
  · rw [if_neg c1] at h
    refine vr_aload_n (pc := 13) 0 dX9_put_13 rfl rfl ?_
    refine vr_getR (pc := 14) 13 dX9_put_14 fi_X9_44 hq0 (sh_8_13 hq0).1 ?_
    refine vr_iload_n (pc := 17) 1 dX9_put_17 rfl rfl ?_
    obtain ⟨hc2, h⟩ := ck_some h
    refine vr_iald (pc := 18) dX9_put_18 (sh_8_13 hq0).2 hc2 ?_
    refine vr_if_ge (pc := 19) 25 dX9_put_19 (by decide) (fun c3 => ?_) (fun c3 => ?_)
    · rw [if_pos c3] at h
      refine vr_iload_n (pc := 25) 2 dX9_put_25 rfl rfl ?_
      refine vr_iconst (pc := 26) 0 dX9_put_26 ci_0 ?_
      refine vr_aload_n (pc := 27) 0 dX9_put_27 rfl rfl ?_
      refine vr_getR (pc := 28) 13 dX9_put_28 fi_X9_44 hq0 (sh_8_13 hq0).1 ?_
      refine vr_iload_n (pc := 31) 1 dX9_put_31 rfl rfl ?_
      obtain ⟨hc4, h⟩ := ck_some h
      refine vr_iald (pc := 32) dX9_put_32 (sh_8_13 hq0).2 hc4 ?_
      refine vr_iconst (pc := 33) 1 dX9_put_33 ci_1 ?_
      refine vr_isub (pc := 34) dX9_put_34 ?_
      refine vr_callS (pc := 35) (ρ1 := (some (.int (f_X9_within a2 0 ((σ.1 (rid q0 13) a1.toNatClampNeg) - 1))), σ)) [.int a2, .int 0, .int ((σ.1 (rid q0 13) a1.toNatClampNeg) - 1)] dX9_put_35 (s_X9_within l g rfl) cw_X9_within ml_X9_111 (by decide) rfl rfl (Nat.le_of_ble_eq_true rfl) ?_
      refine vr_if_ne (pc := 38) 44 dX9_put_38 (by decide) (fun c5 => ?_) (fun c5 => ?_)
      · rw [if_neg c5] at h
        refine vr_aload_n (pc := 44) 0 dX9_put_44 rfl rfl ?_
        refine vr_getR (pc := 45) 12 dX9_put_45 fi_X9_41 hq0 (sh_8_12 hq0).1 ?_
        refine vr_bipush (pc := 48) 40 dX9_put_48 cb_40 ?_
        refine vr_iload_n (pc := 50) 1 dX9_put_50 rfl rfl ?_
        refine vr_imul (pc := 51) dX9_put_51 ?_
        refine vr_iload_n (pc := 52) 2 dX9_put_52 rfl rfl ?_
        refine vr_iadd (pc := 53) dX9_put_53 ?_
        refine vr_iload_n (pc := 54) 3 dX9_put_54 rfl rfl ?_
        obtain ⟨hc6, h⟩ := ck_some h
        refine vr_iast (pc := 55) dX9_put_55 (sh_8_12 hq0).2 hc6 ?_
        refine vr_iconst (pc := 56) 1 dX9_put_56 ci_1 ?_
        have h := Option.some.inj h; subst h
        exact vr_iret (pc := 57) .int dX9_put_57 rfl rfl rfl
      · rw [if_pos c5] at h
        refine vr_bipush (pc := 41) (-13) dX9_put_41 cb_m13 ?_
        have h := Option.some.inj h; subst h
        exact vr_iret (pc := 43) .int dX9_put_43 rfl rfl rfl
    · rw [if_neg c3] at h
      refine vr_bipush (pc := 22) (-11) dX9_put_22 cb_m11 ?_
      have h := Option.some.inj h; subst h
      exact vr_iret (pc := 24) .int dX9_put_24 rfl rfl rfl
  · rw [if_pos c1] at h
    refine vr_aload_n (pc := 7) 0 dX9_put_7 rfl rfl ?_
    refine vr_iconst (pc := 8) (-1) dX9_put_8 ci_m1 ?_
    obtain ⟨z7, hz8, h⟩ := ob_some h
    refine vr_callV (pc := 9) (ρ1 := (some (.int z7.1), z7.2)) [.int (-1)] dX9_put_9 (s_X9_no l g (hq0) hz8) cw_X9_no ml_X9_104 hq0 rfl (by decide) (by decide) rfl rfl (Nat.le_of_ble_eq_true rfl) ?_
    have h := Option.some.inj h; subst h
    exact vr_iret (pc := 12) .int dX9_put_12 rfl rfl rfl
theorem dX9_look_0 : decode cX9_look 0 = .ok (.iload_n 1, 1) := by decide +kernel
theorem dX9_look_1 : decode cX9_look 1 = .ok (.invokestatic 270, 3) := by decide +kernel
theorem dX9_look_4 : decode cX9_look 4 = .ok (.ifCond .ne 9, 3) := by decide +kernel
theorem dX9_look_7 : decode cX9_look 7 = .ok (.aload_n 0, 1) := by decide +kernel
theorem dX9_look_8 : decode cX9_look 8 = .ok (.iconst (-1), 1) := by decide +kernel
theorem dX9_look_9 : decode cX9_look 9 = .ok (.invokevirtual 185, 3) := by decide +kernel
theorem dX9_look_12 : decode cX9_look 12 = .ok (.lreturn, 1) := by decide +kernel
theorem dX9_look_13 : decode cX9_look 13 = .ok (.aload_n 0, 1) := by decide +kernel
theorem dX9_look_14 : decode cX9_look 14 = .ok (.getfield 44, 3) := by decide +kernel
theorem dX9_look_17 : decode cX9_look 17 = .ok (.iload_n 1, 1) := by decide +kernel
theorem dX9_look_18 : decode cX9_look 18 = .ok (.iaload, 1) := by decide +kernel
theorem dX9_look_19 : decode cX9_look 19 = .ok (.ifCond .ge 7, 3) := by decide +kernel
theorem dX9_look_22 : decode cX9_look 22 = .ok (.ldc2_w 273, 3) := by decide +kernel
theorem dX9_look_25 : decode cX9_look 25 = .ok (.lreturn, 1) := by decide +kernel
theorem dX9_look_26 : decode cX9_look 26 = .ok (.iload_n 2, 1) := by decide +kernel
theorem dX9_look_27 : decode cX9_look 27 = .ok (.iconst 0, 1) := by decide +kernel
theorem dX9_look_28 : decode cX9_look 28 = .ok (.aload_n 0, 1) := by decide +kernel
theorem dX9_look_29 : decode cX9_look 29 = .ok (.getfield 44, 3) := by decide +kernel
theorem dX9_look_32 : decode cX9_look 32 = .ok (.iload_n 1, 1) := by decide +kernel
theorem dX9_look_33 : decode cX9_look 33 = .ok (.iaload, 1) := by decide +kernel
theorem dX9_look_34 : decode cX9_look 34 = .ok (.iconst 1, 1) := by decide +kernel
theorem dX9_look_35 : decode cX9_look 35 = .ok (.isub, 1) := by decide +kernel
theorem dX9_look_36 : decode cX9_look 36 = .ok (.invokestatic 111, 3) := by decide +kernel
theorem dX9_look_39 : decode cX9_look 39 = .ok (.ifCond .ne 7, 3) := by decide +kernel
theorem dX9_look_42 : decode cX9_look 42 = .ok (.ldc2_w 290, 3) := by decide +kernel
theorem dX9_look_45 : decode cX9_look 45 = .ok (.lreturn, 1) := by decide +kernel
theorem dX9_look_46 : decode cX9_look 46 = .ok (.aload_n 0, 1) := by decide +kernel
theorem dX9_look_47 : decode cX9_look 47 = .ok (.getfield 41, 3) := by decide +kernel
theorem dX9_look_50 : decode cX9_look 50 = .ok (.bipush 40, 2) := by decide +kernel
theorem dX9_look_52 : decode cX9_look 52 = .ok (.iload_n 1, 1) := by decide +kernel
theorem dX9_look_53 : decode cX9_look 53 = .ok (.imul, 1) := by decide +kernel
theorem dX9_look_54 : decode cX9_look 54 = .ok (.iload_n 2, 1) := by decide +kernel
theorem dX9_look_55 : decode cX9_look 55 = .ok (.iadd, 1) := by decide +kernel
theorem dX9_look_56 : decode cX9_look 56 = .ok (.iaload, 1) := by decide +kernel
theorem dX9_look_57 : decode cX9_look 57 = .ok (.i2l, 1) := by decide +kernel
theorem dX9_look_58 : decode cX9_look 58 = .ok (.lreturn, 1) := by decide +kernel
set_option maxRecDepth 20000 in
set_option maxHeartbeats 4000000 in
theorem s_X9_look (l : Launch) (g : GG) {q0 : Nat} (hq0 : kd q0 = 8) {a1 : Int32} {a2 : Int32} {σ : SS} {r : Int64 × SS} (h : f_X9_look q0 a1 a2 σ = some r) : CT l g 2 yX9_look cX9_look 3 (some .long) [.ref (g.1 q0), .int a1, .int a2] σ (some (.long r.1), r.2) := by
  refine CT.of (lv := [(0, .ref (g.1 q0)), (1, .int a1), (2, .int a2)]) RX9 (by decide +kernel) rfl (Nat.le_of_ble_eq_true rfl) rfl ?_
  unfold f_X9_look at h
  refine vr_iload_n (pc := 0) 1 dX9_look_0 rfl rfl ?_
  refine vr_callS (pc := 1) (ρ1 := (some (.int (f_X9_isList a1)), σ)) [.int a1] dX9_look_1 (s_X9_isList l g rfl) cw_X9_isList ml_X9_270 (by decide) rfl rfl (Nat.le_of_ble_eq_true rfl) ?_
  refine vr_if_ne (pc := 4) 13 dX9_look_4 (by decide) (fun c1 => ?_) (fun c1 => ?_)
  · rw [if_neg c1] at h
    refine vr_aload_n (pc := 13) 0 dX9_look_13 rfl rfl ?_
    refine vr_getR (pc := 14) 13 dX9_look_14 fi_X9_44 hq0 (sh_8_13 hq0).1 ?_
    refine vr_iload_n (pc := 17) 1 dX9_look_17 rfl rfl ?_
    obtain ⟨hc2, h⟩ := ck_some h
    refine vr_iald (pc := 18) dX9_look_18 (sh_8_13 hq0).2 hc2 ?_
    refine vr_if_ge (pc := 19) 26 dX9_look_19 (by decide) (fun c3 => ?_) (fun c3 => ?_)
    · rw [if_pos c3] at h
      refine vr_iload_n (pc := 26) 2 dX9_look_26 rfl rfl ?_
      refine vr_iconst (pc := 27) 0 dX9_look_27 ci_0 ?_
      refine vr_aload_n (pc := 28) 0 dX9_look_28 rfl rfl ?_
      refine vr_getR (pc := 29) 13 dX9_look_29 fi_X9_44 hq0 (sh_8_13 hq0).1 ?_
      refine vr_iload_n (pc := 32) 1 dX9_look_32 rfl rfl ?_
      obtain ⟨hc4, h⟩ := ck_some h
      refine vr_iald (pc := 33) dX9_look_33 (sh_8_13 hq0).2 hc4 ?_
      refine vr_iconst (pc := 34) 1 dX9_look_34 ci_1 ?_
      refine vr_isub (pc := 35) dX9_look_35 ?_
      refine vr_callS (pc := 36) (ρ1 := (some (.int (f_X9_within a2 0 ((σ.1 (rid q0 13) a1.toNatClampNeg) - 1))), σ)) [.int a2, .int 0, .int ((σ.1 (rid q0 13) a1.toNatClampNeg) - 1)] dX9_look_36 (s_X9_within l g rfl) cw_X9_within ml_X9_111 (by decide) rfl rfl (Nat.le_of_ble_eq_true rfl) ?_
      refine vr_if_ne (pc := 39) 46 dX9_look_39 (by decide) (fun c5 => ?_) (fun c5 => ?_)
      · rw [if_neg c5] at h
        refine vr_aload_n (pc := 46) 0 dX9_look_46 rfl rfl ?_
        refine vr_getR (pc := 47) 12 dX9_look_47 fi_X9_41 hq0 (sh_8_12 hq0).1 ?_
        refine vr_bipush (pc := 50) 40 dX9_look_50 cb_40 ?_
        refine vr_iload_n (pc := 52) 1 dX9_look_52 rfl rfl ?_
        refine vr_imul (pc := 53) dX9_look_53 ?_
        refine vr_iload_n (pc := 54) 2 dX9_look_54 rfl rfl ?_
        refine vr_iadd (pc := 55) dX9_look_55 ?_
        obtain ⟨hc6, h⟩ := ck_some h
        refine vr_iald (pc := 56) dX9_look_56 (sh_8_12 hq0).2 hc6 ?_
        refine vr_i2l (pc := 57) dX9_look_57 ?_
        have h := Option.some.inj h; subst h
        exact vr_lret (pc := 58) dX9_look_58 rfl rfl
      · rw [if_pos c5] at h
        refine vr_ldc2 (pc := 42) 4000000000000000013 dX9_look_42 co_X9_290 ?_
        have h := Option.some.inj h; subst h
        exact vr_lret (pc := 45) dX9_look_45 rfl rfl
    · rw [if_neg c3] at h
      refine vr_ldc2 (pc := 22) 4000000000000000011 dX9_look_22 co_X9_273 ?_
      have h := Option.some.inj h; subst h
      exact vr_lret (pc := 25) dX9_look_25 rfl rfl
  · rw [if_pos c1] at h
    refine vr_aload_n (pc := 7) 0 dX9_look_7 rfl rfl ?_
    refine vr_iconst (pc := 8) (-1) dX9_look_8 ci_m1 ?_
    obtain ⟨z7, hz8, h⟩ := ob_some h
    refine vr_callV (pc := 9) (ρ1 := (some (.long z7.1), z7.2)) [.int (-1)] dX9_look_9 (s_X9_noFar l g (hq0) hz8) cw_X9_noFar ml_X9_185 hq0 rfl (by decide) (by decide) rfl rfl (Nat.le_of_ble_eq_true rfl) ?_
    have h := Option.some.inj h; subst h
    exact vr_lret (pc := 12) dX9_look_12 rfl rfl
theorem dX9_lays__0 : decode cX9_lays_ 0 = .ok (.iload_n 1, 1) := by decide +kernel
theorem dX9_lays__1 : decode cX9_lays_ 1 = .ok (.invokestatic 270, 3) := by decide +kernel
theorem dX9_lays__4 : decode cX9_lays_ 4 = .ok (.ifCond .eq 11, 3) := by decide +kernel
theorem dX9_lays__7 : decode cX9_lays_ 7 = .ok (.aload_n 0, 1) := by decide +kernel
theorem dX9_lays__8 : decode cX9_lays_ 8 = .ok (.iload_n 3, 1) := by decide +kernel
theorem dX9_lays__9 : decode cX9_lays_ 9 = .ok (.invokevirtual 176, 3) := by decide +kernel
theorem dX9_lays__12 : decode cX9_lays_ 12 = .ok (.ifCond .ne 9, 3) := by decide +kernel
theorem dX9_lays__15 : decode cX9_lays_ 15 = .ok (.aload_n 0, 1) := by decide +kernel
theorem dX9_lays__16 : decode cX9_lays_ 16 = .ok (.iconst (-1), 1) := by decide +kernel
theorem dX9_lays__17 : decode cX9_lays_ 17 = .ok (.invokevirtual 104, 3) := by decide +kernel
theorem dX9_lays__20 : decode cX9_lays_ 20 = .ok (.ireturn, 1) := by decide +kernel
theorem dX9_lays__21 : decode cX9_lays_ 21 = .ok (.aload_n 0, 1) := by decide +kernel
theorem dX9_lays__22 : decode cX9_lays_ 22 = .ok (.getfield 44, 3) := by decide +kernel
theorem dX9_lays__25 : decode cX9_lays_ 25 = .ok (.iload_n 1, 1) := by decide +kernel
theorem dX9_lays__26 : decode cX9_lays_ 26 = .ok (.iaload, 1) := by decide +kernel
theorem dX9_lays__27 : decode cX9_lays_ 27 = .ok (.ifCond .ge 6, 3) := by decide +kernel
theorem dX9_lays__30 : decode cX9_lays_ 30 = .ok (.bipush (-11), 2) := by decide +kernel
theorem dX9_lays__32 : decode cX9_lays_ 32 = .ok (.ireturn, 1) := by decide +kernel
theorem dX9_lays__33 : decode cX9_lays_ 33 = .ok (.iload_n 2, 1) := by decide +kernel
theorem dX9_lays__34 : decode cX9_lays_ 34 = .ok (.iconst 0, 1) := by decide +kernel
theorem dX9_lays__35 : decode cX9_lays_ 35 = .ok (.aload_n 0, 1) := by decide +kernel
theorem dX9_lays__36 : decode cX9_lays_ 36 = .ok (.getfield 44, 3) := by decide +kernel
theorem dX9_lays__39 : decode cX9_lays_ 39 = .ok (.iload_n 1, 1) := by decide +kernel
theorem dX9_lays__40 : decode cX9_lays_ 40 = .ok (.iaload, 1) := by decide +kernel
theorem dX9_lays__41 : decode cX9_lays_ 41 = .ok (.iconst 1, 1) := by decide +kernel
theorem dX9_lays__42 : decode cX9_lays_ 42 = .ok (.isub, 1) := by decide +kernel
theorem dX9_lays__43 : decode cX9_lays_ 43 = .ok (.invokestatic 111, 3) := by decide +kernel
theorem dX9_lays__46 : decode cX9_lays_ 46 = .ok (.ifCond .ne 6, 3) := by decide +kernel
theorem dX9_lays__49 : decode cX9_lays_ 49 = .ok (.bipush (-13), 2) := by decide +kernel
theorem dX9_lays__51 : decode cX9_lays_ 51 = .ok (.ireturn, 1) := by decide +kernel
theorem dX9_lays__52 : decode cX9_lays_ 52 = .ok (.aload_n 0, 1) := by decide +kernel
theorem dX9_lays__53 : decode cX9_lays_ 53 = .ok (.iload_n 3, 1) := by decide +kernel
theorem dX9_lays__54 : decode cX9_lays_ 54 = .ok (.invokevirtual 219, 3) := by decide +kernel
theorem dX9_lays__57 : decode cX9_lays_ 57 = .ok (.aload_n 0, 1) := by decide +kernel
theorem dX9_lays__58 : decode cX9_lays_ 58 = .ok (.getfield 193, 3) := by decide +kernel
theorem dX9_lays__61 : decode cX9_lays_ 61 = .ok (.aload_n 0, 1) := by decide +kernel
theorem dX9_lays__62 : decode cX9_lays_ 62 = .ok (.getfield 44, 3) := by decide +kernel
theorem dX9_lays__65 : decode cX9_lays_ 65 = .ok (.iload_n 1, 1) := by decide +kernel
theorem dX9_lays__66 : decode cX9_lays_ 66 = .ok (.iaload, 1) := by decide +kernel
theorem dX9_lays__67 : decode cX9_lays_ 67 = .ok (.iload_n 2, 1) := by decide +kernel
theorem dX9_lays__68 : decode cX9_lays_ 68 = .ok (.isub, 1) := by decide +kernel
theorem dX9_lays__69 : decode cX9_lays_ 69 = .ok (.invokestatic 128, 3) := by decide +kernel
theorem dX9_lays__72 : decode cX9_lays_ 72 = .ok (.istore 4, 2) := by decide +kernel
theorem dX9_lays__74 : decode cX9_lays_ 74 = .ok (.iconst 0, 1) := by decide +kernel
theorem dX9_lays__75 : decode cX9_lays_ 75 = .ok (.istore 5, 2) := by decide +kernel
theorem dX9_lays__77 : decode cX9_lays_ 77 = .ok (.iload 5, 2) := by decide +kernel
theorem dX9_lays__79 : decode cX9_lays_ 79 = .ok (.iload 4, 2) := by decide +kernel
theorem dX9_lays__81 : decode cX9_lays_ 81 = .ok (.if_icmp .ge 30, 3) := by decide +kernel
theorem dX9_lays__84 : decode cX9_lays_ 84 = .ok (.aload_n 0, 1) := by decide +kernel
theorem dX9_lays__85 : decode cX9_lays_ 85 = .ok (.getfield 41, 3) := by decide +kernel
theorem dX9_lays__88 : decode cX9_lays_ 88 = .ok (.bipush 40, 2) := by decide +kernel
theorem dX9_lays__90 : decode cX9_lays_ 90 = .ok (.iload_n 1, 1) := by decide +kernel
theorem dX9_lays__91 : decode cX9_lays_ 91 = .ok (.imul, 1) := by decide +kernel
theorem dX9_lays__92 : decode cX9_lays_ 92 = .ok (.iload_n 2, 1) := by decide +kernel
theorem dX9_lays__93 : decode cX9_lays_ 93 = .ok (.iadd, 1) := by decide +kernel
theorem dX9_lays__94 : decode cX9_lays_ 94 = .ok (.iload 5, 2) := by decide +kernel
theorem dX9_lays__96 : decode cX9_lays_ 96 = .ok (.iadd, 1) := by decide +kernel
theorem dX9_lays__97 : decode cX9_lays_ 97 = .ok (.aload_n 0, 1) := by decide +kernel
theorem dX9_lays__98 : decode cX9_lays_ 98 = .ok (.getfield 59, 3) := by decide +kernel
theorem dX9_lays__101 : decode cX9_lays_ 101 = .ok (.iload 5, 2) := by decide +kernel
theorem dX9_lays__103 : decode cX9_lays_ 103 = .ok (.iaload, 1) := by decide +kernel
theorem dX9_lays__104 : decode cX9_lays_ 104 = .ok (.iastore, 1) := by decide +kernel
theorem dX9_lays__105 : decode cX9_lays_ 105 = .ok (.iinc 5 1, 3) := by decide +kernel
theorem dX9_lays__108 : decode cX9_lays_ 108 = .ok (.goto (-31), 3) := by decide +kernel
theorem dX9_lays__111 : decode cX9_lays_ 111 = .ok (.iload 4, 2) := by decide +kernel
theorem dX9_lays__113 : decode cX9_lays_ 113 = .ok (.ireturn, 1) := by decide +kernel
set_option maxRecDepth 20000 in
set_option maxHeartbeats 4000000 in
theorem v_X9_lays__L77 (l : Launch) (g : GG) {r : Int32 × SS} {κ : Int32 → SS → Option (Int32 × SS)} (hκ : ∀ (y4 : Int32) (τ : SS) , κ y4 τ = some r → VV l g 4 RX9 cX9_lays_ 6 (some .int) (some (.int r.1), r.2) 111 [(4, .int y4)] [] τ) : ∀ (fu : Nat) (q0 : Nat) (x1 : Int32) (x2 : Int32) (x4 : Int32) (x5 : Int32) (hq0 : kd q0 = 8) (σ : SS), f_X9_lays__L77 κ fu q0 x1 x2 x4 x5 σ = some r → VV l g 4 RX9 cX9_lays_ 6 (some .int) (some (.int r.1), r.2) 77 [(0, .ref (g.1 q0)), (1, .int x1), (2, .int x2), (4, .int x4), (5, .int x5)] [] σ := by
  intro fu
  induction fu with
  | zero => intro q0 x1 x2 x4 x5 hq0 σ h; cases h
  | succ fu ih =>
    intro q0 x1 x2 x4 x5 hq0 σ h
    simp only [f_X9_lays__L77] at h
    refine vr_iload (pc := 77) 4 dX9_lays__77 rfl ?_
    refine vr_iload (pc := 79) 3 dX9_lays__79 rfl ?_
    refine vr_icmp_ge (pc := 81) 111 dX9_lays__81 (by decide) (fun c12 => ?_) (fun c12 => ?_)
    · rw [if_pos c12] at h
      refine vr_sub [3] [(4, .int x4)] rfl ?_
      exact hκ x4 σ h
    · rw [if_neg c12] at h
      refine vr_aload_n (pc := 84) 0 dX9_lays__84 rfl rfl ?_
      refine vr_getR (pc := 85) 12 dX9_lays__85 fi_X9_41 hq0 (sh_8_12 hq0).1 ?_
      refine vr_bipush (pc := 88) 40 dX9_lays__88 cb_40 ?_
      refine vr_iload_n (pc := 90) 1 dX9_lays__90 rfl rfl ?_
      refine vr_imul (pc := 91) dX9_lays__91 ?_
      refine vr_iload_n (pc := 92) 2 dX9_lays__92 rfl rfl ?_
      refine vr_iadd (pc := 93) dX9_lays__93 ?_
      refine vr_iload (pc := 94) 4 dX9_lays__94 rfl ?_
      refine vr_iadd (pc := 96) dX9_lays__96 ?_
      refine vr_aload_n (pc := 97) 0 dX9_lays__97 rfl rfl ?_
      refine vr_getR (pc := 98) 20 dX9_lays__98 fi_X9_59 hq0 (sh_8_20 hq0).1 ?_
      refine vr_iload (pc := 101) 4 dX9_lays__101 rfl ?_
      obtain ⟨hc13, h⟩ := ck_some h
      refine vr_iald (pc := 103) dX9_lays__103 (sh_8_20 hq0).2 hc13 ?_
      obtain ⟨hc14, h⟩ := ck_some h
      refine vr_iast (pc := 104) dX9_lays__104 (sh_8_12 hq0).2 hc14 ?_
      refine vr_iinc (pc := 105) [(5, .int (x5 + 1)), (0, .ref (g.1 q0)), (1, .int x1), (2, .int x2), (4, .int x4)] 4 dX9_lays__105 rfl (congrArg (fun z => x5 + z) ci_1) (by decide) rfl ?_
      refine vr_goto (pc := 108) 77 dX9_lays__108 (by decide) ?_
      refine vr_sub [1, 2, 3, 4, 0] [(0, .ref (g.1 q0)), (1, .int x1), (2, .int x2), (4, .int x4), (5, .int (x5 + 1))] rfl ?_
      exact ih q0 x1 x2 x4 (x5 + 1) (hq0) (sI σ (rid q0 12) (((40 * x1) + x2) + x5).toNatClampNeg (σ.1 (rid q0 20) x5.toNatClampNeg)) h
set_option maxRecDepth 20000 in
set_option maxHeartbeats 4000000 in
theorem s_X9_lays_ (l : Launch) (g : GG) {q0 : Nat} (hq0 : kd q0 = 8) {a1 : Int32} {a2 : Int32} {a3 : Int32} {σ : SS} {r : Int32 × SS} (h : f_X9_lays_ q0 a1 a2 a3 σ = some r) : CT l g 4 yX9_lays_ cX9_lays_ 6 (some .int) [.ref (g.1 q0), .int a1, .int a2, .int a3] σ (some (.int r.1), r.2) := by
  refine CT.of (lv := [(0, .ref (g.1 q0)), (1, .int a1), (2, .int a2), (3, .int a3)]) RX9 (by decide +kernel) rfl (Nat.le_of_ble_eq_true rfl) rfl ?_
  unfold f_X9_lays_ at h
  refine vr_iload_n (pc := 0) 1 dX9_lays__0 rfl rfl ?_
  refine vr_callS (pc := 1) (ρ1 := (some (.int (f_X9_isList a1)), σ)) [.int a1] dX9_lays__1 (s_X9_isList l g rfl) cw_X9_isList ml_X9_270 (by decide) rfl rfl (Nat.le_of_ble_eq_true rfl) ?_
  refine vr_if_eq (pc := 4) 15 dX9_lays__4 (by decide) (fun c1 => ?_) (fun c1 => ?_)
  · rw [if_pos c1] at h
    refine vr_aload_n (pc := 15) 0 dX9_lays__15 rfl rfl ?_
    refine vr_iconst (pc := 16) (-1) dX9_lays__16 ci_m1 ?_
    obtain ⟨z2, hz3, h⟩ := ob_some h
    refine vr_callV (pc := 17) (ρ1 := (some (.int z2.1), z2.2)) [.int (-1)] dX9_lays__17 (s_X9_no l g (hq0) hz3) cw_X9_no ml_X9_104 hq0 rfl (by decide) (by decide) rfl rfl (Nat.le_of_ble_eq_true rfl) ?_
    have h := Option.some.inj h; subst h
    exact vr_iret (pc := 20) .int dX9_lays__20 rfl rfl rfl
  · rw [if_neg c1] at h
    refine vr_aload_n (pc := 7) 0 dX9_lays__7 rfl rfl ?_
    refine vr_iload_n (pc := 8) 3 dX9_lays__8 rfl rfl ?_
    refine vr_callV (pc := 9) (ρ1 := (some (.int (f_X9_isWheel q0 a3 σ)), σ)) [.int a3] dX9_lays__9 (s_X9_isWheel l g (hq0) rfl) cw_X9_isWheel ml_X9_176 hq0 rfl (by decide) (by decide) rfl rfl (Nat.le_of_ble_eq_true rfl) ?_
    refine vr_if_ne (pc := 12) 21 dX9_lays__12 (by decide) (fun c4 => ?_) (fun c4 => ?_)
    · rw [if_neg c4] at h
      refine vr_aload_n (pc := 21) 0 dX9_lays__21 rfl rfl ?_
      refine vr_getR (pc := 22) 13 dX9_lays__22 fi_X9_44 hq0 (sh_8_13 hq0).1 ?_
      refine vr_iload_n (pc := 25) 1 dX9_lays__25 rfl rfl ?_
      obtain ⟨hc5, h⟩ := ck_some h
      refine vr_iald (pc := 26) dX9_lays__26 (sh_8_13 hq0).2 hc5 ?_
      refine vr_if_ge (pc := 27) 33 dX9_lays__27 (by decide) (fun c6 => ?_) (fun c6 => ?_)
      · rw [if_pos c6] at h
        refine vr_iload_n (pc := 33) 2 dX9_lays__33 rfl rfl ?_
        refine vr_iconst (pc := 34) 0 dX9_lays__34 ci_0 ?_
        refine vr_aload_n (pc := 35) 0 dX9_lays__35 rfl rfl ?_
        refine vr_getR (pc := 36) 13 dX9_lays__36 fi_X9_44 hq0 (sh_8_13 hq0).1 ?_
        refine vr_iload_n (pc := 39) 1 dX9_lays__39 rfl rfl ?_
        obtain ⟨hc7, h⟩ := ck_some h
        refine vr_iald (pc := 40) dX9_lays__40 (sh_8_13 hq0).2 hc7 ?_
        refine vr_iconst (pc := 41) 1 dX9_lays__41 ci_1 ?_
        refine vr_isub (pc := 42) dX9_lays__42 ?_
        refine vr_callS (pc := 43) (ρ1 := (some (.int (f_X9_within a2 0 ((σ.1 (rid q0 13) a1.toNatClampNeg) - 1))), σ)) [.int a2, .int 0, .int ((σ.1 (rid q0 13) a1.toNatClampNeg) - 1)] dX9_lays__43 (s_X9_within l g rfl) cw_X9_within ml_X9_111 (by decide) rfl rfl (Nat.le_of_ble_eq_true rfl) ?_
        refine vr_if_ne (pc := 46) 52 dX9_lays__46 (by decide) (fun c8 => ?_) (fun c8 => ?_)
        · rw [if_neg c8] at h
          refine vr_aload_n (pc := 52) 0 dX9_lays__52 rfl rfl ?_
          refine vr_iload_n (pc := 53) 3 dX9_lays__53 rfl rfl ?_
          obtain ⟨z9, hz10, h⟩ := ob_some h
          refine vr_callV (pc := 54) (ρ1 := (none, z9)) [.int a3] dX9_lays__54 (s_X9_drawsBy l g (hq0) hz10) cw_X9_drawsBy ml_X9_219 hq0 rfl (by decide) (by decide) rfl rfl (Nat.le_of_ble_eq_true rfl) ?_
          refine vr_aload_n (pc := 57) 0 dX9_lays__57 rfl rfl ?_
          refine vr_getI (pc := 58) 23 dX9_lays__58 fi_X9_193 hq0 (sh_8_23 hq0) ?_
          refine vr_aload_n (pc := 61) 0 dX9_lays__61 rfl rfl ?_
          refine vr_getR (pc := 62) 13 dX9_lays__62 fi_X9_44 hq0 (sh_8_13 hq0).1 ?_
          refine vr_iload_n (pc := 65) 1 dX9_lays__65 rfl rfl ?_
          obtain ⟨hc11, h⟩ := ck_some h
          refine vr_iald (pc := 66) dX9_lays__66 (sh_8_13 hq0).2 hc11 ?_
          refine vr_iload_n (pc := 67) 2 dX9_lays__67 rfl rfl ?_
          refine vr_isub (pc := 68) dX9_lays__68 ?_
          refine vr_mmin (pc := 69) dX9_lays__69 ml_X9_128 (by decide) (Nat.le_of_ble_eq_true rfl) ?_
          refine vr_istore (pc := 72) [(4, .int (f_J9_min_7cf53 (z9.1 q0 23) ((z9.1 (rid q0 13) a1.toNatClampNeg) - a2))), (0, .ref (g.1 q0)), (1, .int a1), (2, .int a2), (3, .int a3)] dX9_lays__72 (by decide) rfl ?_
          refine vr_iconst (pc := 74) 0 dX9_lays__74 ci_0 ?_
          refine vr_istore (pc := 75) [(5, .int 0), (4, .int (f_J9_min_7cf53 (z9.1 q0 23) ((z9.1 (rid q0 13) a1.toNatClampNeg) - a2))), (0, .ref (g.1 q0)), (1, .int a1), (2, .int a2), (3, .int a3)] dX9_lays__75 (by decide) rfl ?_
          refine vr_sub [2, 3, 4, 1, 0] [(0, .ref (g.1 q0)), (1, .int a1), (2, .int a2), (4, .int (f_J9_min_7cf53 (z9.1 q0 23) ((z9.1 (rid q0 13) a1.toNatClampNeg) - a2))), (5, .int 0)] rfl ?_
          refine v_X9_lays__L77 l g (fun y4 τ h => ?_) FU q0 a1 a2 (f_J9_min_7cf53 (z9.1 q0 23) ((z9.1 (rid q0 13) a1.toNatClampNeg) - a2)) 0 (hq0) z9 h
          refine vr_iload (pc := 111) 0 dX9_lays__111 rfl ?_
          have h := Option.some.inj h; subst h
          exact vr_iret (pc := 113) .int dX9_lays__113 rfl rfl rfl
        · rw [if_pos c8] at h
          refine vr_bipush (pc := 49) (-13) dX9_lays__49 cb_m13 ?_
          have h := Option.some.inj h; subst h
          exact vr_iret (pc := 51) .int dX9_lays__51 rfl rfl rfl
      · rw [if_neg c6] at h
        refine vr_bipush (pc := 30) (-11) dX9_lays__30 cb_m11 ?_
        have h := Option.some.inj h; subst h
        exact vr_iret (pc := 32) .int dX9_lays__32 rfl rfl rfl
    · rw [if_pos c4] at h
      refine vr_aload_n (pc := 15) 0 dX9_lays__15 rfl rfl ?_
      refine vr_iconst (pc := 16) (-1) dX9_lays__16 ci_m1 ?_
      obtain ⟨z15, hz16, h⟩ := ob_some h
      refine vr_callV (pc := 17) (ρ1 := (some (.int z15.1), z15.2)) [.int (-1)] dX9_lays__17 (s_X9_no l g (hq0) hz16) cw_X9_no ml_X9_104 hq0 rfl (by decide) (by decide) rfl rfl (Nat.le_of_ble_eq_true rfl) ?_
      have h := Option.some.inj h; subst h
      exact vr_iret (pc := 20) .int dX9_lays__20 rfl rfl rfl
theorem dX9_undo_0 : decode cX9_undo 0 = .ok (.aload_n 0, 1) := by decide +kernel
theorem dX9_undo_1 : decode cX9_undo 1 = .ok (.getfield 166, 3) := by decide +kernel
theorem dX9_undo_4 : decode cX9_undo 4 = .ok (.ifCond .ne 10, 3) := by decide +kernel
theorem dX9_undo_7 : decode cX9_undo 7 = .ok (.aload_n 0, 1) := by decide +kernel
theorem dX9_undo_8 : decode cX9_undo 8 = .ok (.bipush (-3), 2) := by decide +kernel
theorem dX9_undo_10 : decode cX9_undo 10 = .ok (.invokevirtual 104, 3) := by decide +kernel
theorem dX9_undo_13 : decode cX9_undo 13 = .ok (.ireturn, 1) := by decide +kernel
theorem dX9_undo_14 : decode cX9_undo 14 = .ok (.aload_n 0, 1) := by decide +kernel
theorem dX9_undo_15 : decode cX9_undo 15 = .ok (.dup, 1) := by decide +kernel
theorem dX9_undo_16 : decode cX9_undo 16 = .ok (.getfield 166, 3) := by decide +kernel
theorem dX9_undo_19 : decode cX9_undo 19 = .ok (.iconst 1, 1) := by decide +kernel
theorem dX9_undo_20 : decode cX9_undo 20 = .ok (.isub, 1) := by decide +kernel
theorem dX9_undo_21 : decode cX9_undo 21 = .ok (.putfield 166, 3) := by decide +kernel
theorem dX9_undo_24 : decode cX9_undo 24 = .ok (.aload_n 0, 1) := by decide +kernel
theorem dX9_undo_25 : decode cX9_undo 25 = .ok (.getfield 166, 3) := by decide +kernel
theorem dX9_undo_28 : decode cX9_undo 28 = .ok (.sipush 132, 3) := by decide +kernel
theorem dX9_undo_31 : decode cX9_undo 31 = .ok (.imul, 1) := by decide +kernel
theorem dX9_undo_32 : decode cX9_undo 32 = .ok (.istore_n 1, 1) := by decide +kernel
theorem dX9_undo_33 : decode cX9_undo 33 = .ok (.iconst 0, 1) := by decide +kernel
theorem dX9_undo_34 : decode cX9_undo 34 = .ok (.istore_n 2, 1) := by decide +kernel
theorem dX9_undo_35 : decode cX9_undo 35 = .ok (.iload_n 2, 1) := by decide +kernel
theorem dX9_undo_36 : decode cX9_undo 36 = .ok (.bipush 6, 2) := by decide +kernel
theorem dX9_undo_38 : decode cX9_undo 38 = .ok (.if_icmp .ge 40, 3) := by decide +kernel
theorem dX9_undo_41 : decode cX9_undo 41 = .ok (.aload_n 0, 1) := by decide +kernel
theorem dX9_undo_42 : decode cX9_undo 42 = .ok (.getfield 32, 3) := by decide +kernel
theorem dX9_undo_45 : decode cX9_undo 45 = .ok (.iload_n 2, 1) := by decide +kernel
theorem dX9_undo_46 : decode cX9_undo 46 = .ok (.aload_n 0, 1) := by decide +kernel
theorem dX9_undo_47 : decode cX9_undo 47 = .ok (.getfield 47, 3) := by decide +kernel
theorem dX9_undo_50 : decode cX9_undo 50 = .ok (.iload_n 1, 1) := by decide +kernel
theorem dX9_undo_51 : decode cX9_undo 51 = .ok (.iload_n 2, 1) := by decide +kernel
theorem dX9_undo_52 : decode cX9_undo 52 = .ok (.iadd, 1) := by decide +kernel
theorem dX9_undo_53 : decode cX9_undo 53 = .ok (.iaload, 1) := by decide +kernel
theorem dX9_undo_54 : decode cX9_undo 54 = .ok (.iastore, 1) := by decide +kernel
theorem dX9_undo_55 : decode cX9_undo 55 = .ok (.aload_n 0, 1) := by decide +kernel
theorem dX9_undo_56 : decode cX9_undo 56 = .ok (.getfield 35, 3) := by decide +kernel
theorem dX9_undo_59 : decode cX9_undo 59 = .ok (.iload_n 2, 1) := by decide +kernel
theorem dX9_undo_60 : decode cX9_undo 60 = .ok (.aload_n 0, 1) := by decide +kernel
theorem dX9_undo_61 : decode cX9_undo 61 = .ok (.getfield 47, 3) := by decide +kernel
theorem dX9_undo_64 : decode cX9_undo 64 = .ok (.iload_n 1, 1) := by decide +kernel
theorem dX9_undo_65 : decode cX9_undo 65 = .ok (.bipush 6, 2) := by decide +kernel
theorem dX9_undo_67 : decode cX9_undo 67 = .ok (.iadd, 1) := by decide +kernel
theorem dX9_undo_68 : decode cX9_undo 68 = .ok (.iload_n 2, 1) := by decide +kernel
theorem dX9_undo_69 : decode cX9_undo 69 = .ok (.iadd, 1) := by decide +kernel
theorem dX9_undo_70 : decode cX9_undo 70 = .ok (.iaload, 1) := by decide +kernel
theorem dX9_undo_71 : decode cX9_undo 71 = .ok (.iastore, 1) := by decide +kernel
theorem dX9_undo_72 : decode cX9_undo 72 = .ok (.iinc 2 1, 3) := by decide +kernel
theorem dX9_undo_75 : decode cX9_undo 75 = .ok (.goto (-40), 3) := by decide +kernel
theorem dX9_undo_78 : decode cX9_undo 78 = .ok (.iconst 0, 1) := by decide +kernel
theorem dX9_undo_79 : decode cX9_undo 79 = .ok (.istore_n 2, 1) := by decide +kernel
theorem dX9_undo_80 : decode cX9_undo 80 = .ok (.iload_n 2, 1) := by decide +kernel
theorem dX9_undo_81 : decode cX9_undo 81 = .ok (.bipush 60, 2) := by decide +kernel
theorem dX9_undo_83 : decode cX9_undo 83 = .ok (.if_icmp .ge 43, 3) := by decide +kernel
theorem dX9_undo_86 : decode cX9_undo 86 = .ok (.aload_n 0, 1) := by decide +kernel
theorem dX9_undo_87 : decode cX9_undo 87 = .ok (.getfield 17, 3) := by decide +kernel
theorem dX9_undo_90 : decode cX9_undo 90 = .ok (.iload_n 2, 1) := by decide +kernel
theorem dX9_undo_91 : decode cX9_undo 91 = .ok (.aload_n 0, 1) := by decide +kernel
theorem dX9_undo_92 : decode cX9_undo 92 = .ok (.getfield 47, 3) := by decide +kernel
theorem dX9_undo_95 : decode cX9_undo 95 = .ok (.iload_n 1, 1) := by decide +kernel
theorem dX9_undo_96 : decode cX9_undo 96 = .ok (.bipush 12, 2) := by decide +kernel
theorem dX9_undo_98 : decode cX9_undo 98 = .ok (.iadd, 1) := by decide +kernel
theorem dX9_undo_99 : decode cX9_undo 99 = .ok (.iload_n 2, 1) := by decide +kernel
theorem dX9_undo_100 : decode cX9_undo 100 = .ok (.iadd, 1) := by decide +kernel
theorem dX9_undo_101 : decode cX9_undo 101 = .ok (.iaload, 1) := by decide +kernel
theorem dX9_undo_102 : decode cX9_undo 102 = .ok (.iastore, 1) := by decide +kernel
theorem dX9_undo_103 : decode cX9_undo 103 = .ok (.aload_n 0, 1) := by decide +kernel
theorem dX9_undo_104 : decode cX9_undo 104 = .ok (.getfield 13, 3) := by decide +kernel
theorem dX9_undo_107 : decode cX9_undo 107 = .ok (.iload_n 2, 1) := by decide +kernel
theorem dX9_undo_108 : decode cX9_undo 108 = .ok (.aload_n 0, 1) := by decide +kernel
theorem dX9_undo_109 : decode cX9_undo 109 = .ok (.getfield 47, 3) := by decide +kernel
theorem dX9_undo_112 : decode cX9_undo 112 = .ok (.iload_n 1, 1) := by decide +kernel
theorem dX9_undo_113 : decode cX9_undo 113 = .ok (.bipush 72, 2) := by decide +kernel
theorem dX9_undo_115 : decode cX9_undo 115 = .ok (.iadd, 1) := by decide +kernel
theorem dX9_undo_116 : decode cX9_undo 116 = .ok (.iload_n 2, 1) := by decide +kernel
theorem dX9_undo_117 : decode cX9_undo 117 = .ok (.iadd, 1) := by decide +kernel
theorem dX9_undo_118 : decode cX9_undo 118 = .ok (.iaload, 1) := by decide +kernel
theorem dX9_undo_119 : decode cX9_undo 119 = .ok (.iastore, 1) := by decide +kernel
theorem dX9_undo_120 : decode cX9_undo 120 = .ok (.iinc 2 1, 3) := by decide +kernel
theorem dX9_undo_123 : decode cX9_undo 123 = .ok (.goto (-43), 3) := by decide +kernel
theorem dX9_undo_126 : decode cX9_undo 126 = .ok (.aload_n 0, 1) := by decide +kernel
theorem dX9_undo_127 : decode cX9_undo 127 = .ok (.getfield 166, 3) := by decide +kernel
theorem dX9_undo_130 : decode cX9_undo 130 = .ok (.ireturn, 1) := by decide +kernel
set_option maxRecDepth 20000 in
set_option maxHeartbeats 4000000 in
theorem v_X9_undo_L35 (l : Launch) (g : GG) {r : Int32 × SS} {κ : Nat → Int32 → SS → Option (Int32 × SS)} (hκ : ∀ (p0 : Nat) (y1 : Int32) (τ : SS) (hp0 : kd p0 = 8), κ p0 y1 τ = some r → VV l g 1 RX9 cX9_undo 3 (some .int) (some (.int r.1), r.2) 78 [(0, .ref (g.1 p0)), (1, .int y1)] [] τ) : ∀ (fu : Nat) (q0 : Nat) (x1 : Int32) (x2 : Int32) (hq0 : kd q0 = 8) (σ : SS), f_X9_undo_L35 κ fu q0 x1 x2 σ = some r → VV l g 1 RX9 cX9_undo 3 (some .int) (some (.int r.1), r.2) 35 [(0, .ref (g.1 q0)), (1, .int x1), (2, .int x2)] [] σ := by
  intro fu
  induction fu with
  | zero => intro q0 x1 x2 hq0 σ h; cases h
  | succ fu ih =>
    intro q0 x1 x2 hq0 σ h
    simp only [f_X9_undo_L35] at h
    refine vr_iload_n (pc := 35) 2 dX9_undo_35 rfl rfl ?_
    refine vr_bipush (pc := 36) 6 dX9_undo_36 cb_6 ?_
    refine vr_icmp_ge (pc := 38) 78 dX9_undo_38 (by decide) (fun c2 => ?_) (fun c2 => ?_)
    · rw [if_pos c2] at h
      refine vr_sub [0, 1] [(0, .ref (g.1 q0)), (1, .int x1)] rfl ?_
      exact hκ q0 x1 σ (hq0) h
    · rw [if_neg c2] at h
      refine vr_aload_n (pc := 41) 0 dX9_undo_41 rfl rfl ?_
      refine vr_getR (pc := 42) 8 dX9_undo_42 fi_X9_32 hq0 (sh_8_8 hq0).1 ?_
      refine vr_iload_n (pc := 45) 2 dX9_undo_45 rfl rfl ?_
      refine vr_aload_n (pc := 46) 0 dX9_undo_46 rfl rfl ?_
      refine vr_getR (pc := 47) 14 dX9_undo_47 fi_X9_47 hq0 (sh_8_14 hq0).1 ?_
      refine vr_iload_n (pc := 50) 1 dX9_undo_50 rfl rfl ?_
      refine vr_iload_n (pc := 51) 2 dX9_undo_51 rfl rfl ?_
      refine vr_iadd (pc := 52) dX9_undo_52 ?_
      obtain ⟨hc3, h⟩ := ck_some h
      refine vr_iald (pc := 53) dX9_undo_53 (sh_8_14 hq0).2 hc3 ?_
      obtain ⟨hc4, h⟩ := ck_some h
      refine vr_iast (pc := 54) dX9_undo_54 (sh_8_8 hq0).2 hc4 ?_
      refine vr_aload_n (pc := 55) 0 dX9_undo_55 rfl rfl ?_
      refine vr_getR (pc := 56) 9 dX9_undo_56 fi_X9_35 hq0 (sh_8_9 hq0).1 ?_
      refine vr_iload_n (pc := 59) 2 dX9_undo_59 rfl rfl ?_
      refine vr_aload_n (pc := 60) 0 dX9_undo_60 rfl rfl ?_
      refine vr_getR (pc := 61) 14 dX9_undo_61 fi_X9_47 hq0 (sh_8_14 hq0).1 ?_
      refine vr_iload_n (pc := 64) 1 dX9_undo_64 rfl rfl ?_
      refine vr_bipush (pc := 65) 6 dX9_undo_65 cb_6 ?_
      refine vr_iadd (pc := 67) dX9_undo_67 ?_
      refine vr_iload_n (pc := 68) 2 dX9_undo_68 rfl rfl ?_
      refine vr_iadd (pc := 69) dX9_undo_69 ?_
      obtain ⟨hc5, h⟩ := ck_some h
      refine vr_iald (pc := 70) dX9_undo_70 (sh_8_14 hq0).2 hc5 ?_
      obtain ⟨hc6, h⟩ := ck_some h
      refine vr_iast (pc := 71) dX9_undo_71 (sh_8_9 hq0).2 hc6 ?_
      refine vr_iinc (pc := 72) [(2, .int (x2 + 1)), (0, .ref (g.1 q0)), (1, .int x1)] 2 dX9_undo_72 rfl (congrArg (fun z => x2 + z) ci_1) (by decide) rfl ?_
      refine vr_goto (pc := 75) 35 dX9_undo_75 (by decide) ?_
      refine vr_sub [1, 2, 0] [(0, .ref (g.1 q0)), (1, .int x1), (2, .int (x2 + 1))] rfl ?_
      exact ih q0 x1 (x2 + 1) (hq0) (sI (sI σ (rid q0 8) x2.toNatClampNeg (σ.1 (rid q0 14) (x1 + x2).toNatClampNeg)) (rid q0 9) x2.toNatClampNeg ((sI σ (rid q0 8) x2.toNatClampNeg (σ.1 (rid q0 14) (x1 + x2).toNatClampNeg)).1 (rid q0 14) ((x1 + 6) + x2).toNatClampNeg)) h
set_option maxRecDepth 20000 in
set_option maxHeartbeats 4000000 in
theorem v_X9_undo_L80 (l : Launch) (g : GG) {r : Int32 × SS} {κ : Nat → SS → Option (Int32 × SS)} (hκ : ∀ (p0 : Nat) (τ : SS) (hp0 : kd p0 = 8), κ p0 τ = some r → VV l g 1 RX9 cX9_undo 3 (some .int) (some (.int r.1), r.2) 126 [(0, .ref (g.1 p0))] [] τ) : ∀ (fu : Nat) (q0 : Nat) (x1 : Int32) (x2 : Int32) (hq0 : kd q0 = 8) (σ : SS), f_X9_undo_L80 κ fu q0 x1 x2 σ = some r → VV l g 1 RX9 cX9_undo 3 (some .int) (some (.int r.1), r.2) 80 [(0, .ref (g.1 q0)), (1, .int x1), (2, .int x2)] [] σ := by
  intro fu
  induction fu with
  | zero => intro q0 x1 x2 hq0 σ h; cases h
  | succ fu ih =>
    intro q0 x1 x2 hq0 σ h
    simp only [f_X9_undo_L80] at h
    refine vr_iload_n (pc := 80) 2 dX9_undo_80 rfl rfl ?_
    refine vr_bipush (pc := 81) 60 dX9_undo_81 cb_60 ?_
    refine vr_icmp_ge (pc := 83) 126 dX9_undo_83 (by decide) (fun c7 => ?_) (fun c7 => ?_)
    · rw [if_pos c7] at h
      refine vr_sub [0] [(0, .ref (g.1 q0))] rfl ?_
      exact hκ q0 σ (hq0) h
    · rw [if_neg c7] at h
      refine vr_aload_n (pc := 86) 0 dX9_undo_86 rfl rfl ?_
      refine vr_getR (pc := 87) 2 dX9_undo_87 fi_X9_17 hq0 (sh_8_2 hq0).1 ?_
      refine vr_iload_n (pc := 90) 2 dX9_undo_90 rfl rfl ?_
      refine vr_aload_n (pc := 91) 0 dX9_undo_91 rfl rfl ?_
      refine vr_getR (pc := 92) 14 dX9_undo_92 fi_X9_47 hq0 (sh_8_14 hq0).1 ?_
      refine vr_iload_n (pc := 95) 1 dX9_undo_95 rfl rfl ?_
      refine vr_bipush (pc := 96) 12 dX9_undo_96 cb_12 ?_
      refine vr_iadd (pc := 98) dX9_undo_98 ?_
      refine vr_iload_n (pc := 99) 2 dX9_undo_99 rfl rfl ?_
      refine vr_iadd (pc := 100) dX9_undo_100 ?_
      obtain ⟨hc8, h⟩ := ck_some h
      refine vr_iald (pc := 101) dX9_undo_101 (sh_8_14 hq0).2 hc8 ?_
      obtain ⟨hc9, h⟩ := ck_some h
      refine vr_iast (pc := 102) dX9_undo_102 (sh_8_2 hq0).2 hc9 ?_
      refine vr_aload_n (pc := 103) 0 dX9_undo_103 rfl rfl ?_
      refine vr_getR (pc := 104) 1 dX9_undo_104 fi_X9_13 hq0 (sh_8_1 hq0).1 ?_
      refine vr_iload_n (pc := 107) 2 dX9_undo_107 rfl rfl ?_
      refine vr_aload_n (pc := 108) 0 dX9_undo_108 rfl rfl ?_
      refine vr_getR (pc := 109) 14 dX9_undo_109 fi_X9_47 hq0 (sh_8_14 hq0).1 ?_
      refine vr_iload_n (pc := 112) 1 dX9_undo_112 rfl rfl ?_
      refine vr_bipush (pc := 113) 72 dX9_undo_113 cb_72 ?_
      refine vr_iadd (pc := 115) dX9_undo_115 ?_
      refine vr_iload_n (pc := 116) 2 dX9_undo_116 rfl rfl ?_
      refine vr_iadd (pc := 117) dX9_undo_117 ?_
      obtain ⟨hc10, h⟩ := ck_some h
      refine vr_iald (pc := 118) dX9_undo_118 (sh_8_14 hq0).2 hc10 ?_
      obtain ⟨hc11, h⟩ := ck_some h
      refine vr_iast (pc := 119) dX9_undo_119 (sh_8_1 hq0).2 hc11 ?_
      refine vr_iinc (pc := 120) [(2, .int (x2 + 1)), (0, .ref (g.1 q0)), (1, .int x1)] 2 dX9_undo_120 rfl (congrArg (fun z => x2 + z) ci_1) (by decide) rfl ?_
      refine vr_goto (pc := 123) 80 dX9_undo_123 (by decide) ?_
      refine vr_sub [1, 2, 0] [(0, .ref (g.1 q0)), (1, .int x1), (2, .int (x2 + 1))] rfl ?_
      exact ih q0 x1 (x2 + 1) (hq0) (sI (sI σ (rid q0 2) x2.toNatClampNeg (σ.1 (rid q0 14) ((x1 + 12) + x2).toNatClampNeg)) (rid q0 1) x2.toNatClampNeg ((sI σ (rid q0 2) x2.toNatClampNeg (σ.1 (rid q0 14) ((x1 + 12) + x2).toNatClampNeg)).1 (rid q0 14) ((x1 + 72) + x2).toNatClampNeg)) h
set_option maxRecDepth 20000 in
set_option maxHeartbeats 4000000 in
theorem s_X9_undo (l : Launch) (g : GG) {q0 : Nat} (hq0 : kd q0 = 8) {σ : SS} {r : Int32 × SS} (h : f_X9_undo q0 σ = some r) : CT l g 1 yX9_undo cX9_undo 3 (some .int) [.ref (g.1 q0)] σ (some (.int r.1), r.2) := by
  refine CT.of (lv := [(0, .ref (g.1 q0))]) RX9 (by decide +kernel) rfl (Nat.le_of_ble_eq_true rfl) rfl ?_
  unfold f_X9_undo at h
  refine vr_aload_n (pc := 0) 0 dX9_undo_0 rfl rfl ?_
  refine vr_getI (pc := 1) 15 dX9_undo_1 fi_X9_166 hq0 (sh_8_15 hq0) ?_
  refine vr_if_ne (pc := 4) 14 dX9_undo_4 (by decide) (fun c1 => ?_) (fun c1 => ?_)
  · rw [if_neg c1] at h
    refine vr_aload_n (pc := 14) 0 dX9_undo_14 rfl rfl ?_
    refine vr_dup (pc := 15) dX9_undo_15 rfl ?_
    refine vr_getI (pc := 16) 15 dX9_undo_16 fi_X9_166 hq0 (sh_8_15 hq0) ?_
    refine vr_iconst (pc := 19) 1 dX9_undo_19 ci_1 ?_
    refine vr_isub (pc := 20) dX9_undo_20 ?_
    refine vr_putI (pc := 21) 15 dX9_undo_21 fi_X9_166 (fw_8_15 _) hq0 (sh_8_15 hq0) ?_
    refine vr_aload_n (pc := 24) 0 dX9_undo_24 rfl rfl ?_
    refine vr_getI (pc := 25) 15 dX9_undo_25 fi_X9_166 hq0 (sh_8_15 hq0) ?_
    refine vr_sipush (pc := 28) 132 dX9_undo_28 cs_132 ?_
    refine vr_imul (pc := 31) dX9_undo_31 ?_
    refine vr_istore_n (pc := 32) [(1, .int (((sI σ q0 15 ((σ.1 q0 15) - 1)).1 q0 15) * 132)), (0, .ref (g.1 q0))] dX9_undo_32 rfl (by decide) rfl ?_
    refine vr_iconst (pc := 33) 0 dX9_undo_33 ci_0 ?_
    refine vr_istore_n (pc := 34) [(2, .int 0), (1, .int (((sI σ q0 15 ((σ.1 q0 15) - 1)).1 q0 15) * 132)), (0, .ref (g.1 q0))] dX9_undo_34 rfl (by decide) rfl ?_
    refine vr_sub [2, 1, 0] [(0, .ref (g.1 q0)), (1, .int (((sI σ q0 15 ((σ.1 q0 15) - 1)).1 q0 15) * 132)), (2, .int 0)] rfl ?_
    refine v_X9_undo_L35 l g (fun p0 y1 τ hp0 h => ?_) FU q0 (((sI σ q0 15 ((σ.1 q0 15) - 1)).1 q0 15) * 132) 0 (hq0) (sI σ q0 15 ((σ.1 q0 15) - 1)) h
    refine vr_iconst (pc := 78) 0 dX9_undo_78 ci_0 ?_
    refine vr_istore_n (pc := 79) [(2, .int 0), (0, .ref (g.1 p0)), (1, .int y1)] dX9_undo_79 rfl (by decide) rfl ?_
    refine vr_sub [1, 2, 0] [(0, .ref (g.1 p0)), (1, .int y1), (2, .int 0)] rfl ?_
    refine v_X9_undo_L80 l g (fun p0 τ hp0 h => ?_) FU p0 y1 0 (hp0) τ h
    refine vr_aload_n (pc := 126) 0 dX9_undo_126 rfl rfl ?_
    refine vr_getI (pc := 127) 15 dX9_undo_127 fi_X9_166 hp0 (sh_8_15 hp0) ?_
    have h := Option.some.inj h; subst h
    exact vr_iret (pc := 130) .int dX9_undo_130 rfl rfl rfl
  · rw [if_pos c1] at h
    refine vr_aload_n (pc := 7) 0 dX9_undo_7 rfl rfl ?_
    refine vr_bipush (pc := 8) (-3) dX9_undo_8 cb_m3 ?_
    obtain ⟨z12, hz13, h⟩ := ob_some h
    refine vr_callV (pc := 10) (ρ1 := (some (.int z12.1), z12.2)) [.int (-3)] dX9_undo_10 (s_X9_no l g (hq0) hz13) cw_X9_no ml_X9_104 hq0 rfl (by decide) (by decide) rfl rfl (Nat.le_of_ble_eq_true rfl) ?_
    have h := Option.some.inj h; subst h
    exact vr_iret (pc := 13) .int dX9_undo_13 rfl rfl rfl
theorem dX9_image_0 : decode cX9_image 0 = .ok (.aload_n 0, 1) := by decide +kernel
theorem dX9_image_1 : decode cX9_image 1 = .ok (.aload_n 0, 1) := by decide +kernel
theorem dX9_image_2 : decode cX9_image 2 = .ok (.getfield 50, 3) := by decide +kernel
theorem dX9_image_5 : decode cX9_image 5 = .ok (.invokevirtual 156, 3) := by decide +kernel
theorem dX9_image_8 : decode cX9_image 8 = .ok (.aload_n 0, 1) := by decide +kernel
theorem dX9_image_9 : decode cX9_image 9 = .ok (.iconst 1, 1) := by decide +kernel
theorem dX9_image_10 : decode cX9_image 10 = .ok (.putfield 292, 3) := by decide +kernel
theorem dX9_image_13 : decode cX9_image 13 = .ok (.aload_n 0, 1) := by decide +kernel
theorem dX9_image_14 : decode cX9_image 14 = .ok (.getfield 108, 3) := by decide +kernel
theorem dX9_image_17 : decode cX9_image 17 = .ok (.ireturn, 1) := by decide +kernel
set_option maxRecDepth 20000 in
set_option maxHeartbeats 4000000 in
theorem s_X9_image (l : Launch) (g : GG) {q0 : Nat} (hq0 : kd q0 = 8) {σ : SS} {r : Int32 × SS} (h : f_X9_image q0 σ = some r) : CT l g 1 yX9_image cX9_image 1 (some .int) [.ref (g.1 q0)] σ (some (.int r.1), r.2) := by
  refine CT.of (lv := [(0, .ref (g.1 q0))]) RX9 (by decide +kernel) rfl (Nat.le_of_ble_eq_true rfl) rfl ?_
  unfold f_X9_image at h
  refine vr_aload_n (pc := 0) 0 dX9_image_0 rfl rfl ?_
  refine vr_aload_n (pc := 1) 0 dX9_image_1 rfl rfl ?_
  refine vr_getR (pc := 2) 16 dX9_image_2 fi_X9_50 hq0 (sh_8_16 hq0).1 ?_
  obtain ⟨z1, hz2, h⟩ := ob_some h
  refine vr_callV (pc := 5) (ρ1 := (none, z1)) [.ref (g.1 (rid q0 16))] dX9_image_5 (s_X9_keep l g (hq0) (sh_8_16 hq0).2 hz2) cw_X9_keep ml_X9_156 hq0 rfl (by decide) (by decide) rfl rfl (Nat.le_of_ble_eq_true rfl) ?_
  refine vr_aload_n (pc := 8) 0 dX9_image_8 rfl rfl ?_
  refine vr_iconst (pc := 9) 1 dX9_image_9 ci_1 ?_
  refine vr_putI (pc := 10) 18 dX9_image_10 fi_X9_292 (fw1_8_18) hq0 (sh_8_18 hq0) ?_
  refine vr_aload_n (pc := 13) 0 dX9_image_13 rfl rfl ?_
  refine vr_getI (pc := 14) 3 dX9_image_14 fi_X9_108 hq0 (sh_8_3 hq0) ?_
  have h := Option.some.inj h; subst h
  exact vr_iret (pc := 17) .int dX9_image_17 rfl rfl rfl
theorem dX9_on_0 : decode cX9_on 0 = .ok (.aload_n 0, 1) := by decide +kernel
theorem dX9_on_1 : decode cX9_on 1 = .ok (.getfield 292, 3) := by decide +kernel
theorem dX9_on_4 : decode cX9_on 4 = .ok (.ifCond .ne 10, 3) := by decide +kernel
theorem dX9_on_7 : decode cX9_on 7 = .ok (.aload_n 0, 1) := by decide +kernel
theorem dX9_on_8 : decode cX9_on 8 = .ok (.bipush (-3), 2) := by decide +kernel
theorem dX9_on_10 : decode cX9_on 10 = .ok (.invokevirtual 104, 3) := by decide +kernel
theorem dX9_on_13 : decode cX9_on 13 = .ok (.ireturn, 1) := by decide +kernel
theorem dX9_on_14 : decode cX9_on 14 = .ok (.aload_n 0, 1) := by decide +kernel
theorem dX9_on_15 : decode cX9_on 15 = .ok (.aload_n 0, 1) := by decide +kernel
theorem dX9_on_16 : decode cX9_on 16 = .ok (.getfield 50, 3) := by decide +kernel
theorem dX9_on_19 : decode cX9_on 19 = .ok (.invokevirtual 163, 3) := by decide +kernel
theorem dX9_on_22 : decode cX9_on 22 = .ok (.aload_n 0, 1) := by decide +kernel
theorem dX9_on_23 : decode cX9_on 23 = .ok (.iconst 0, 1) := by decide +kernel
theorem dX9_on_24 : decode cX9_on 24 = .ok (.putfield 166, 3) := by decide +kernel
theorem dX9_on_27 : decode cX9_on 27 = .ok (.aload_n 0, 1) := by decide +kernel
theorem dX9_on_28 : decode cX9_on 28 = .ok (.getfield 108, 3) := by decide +kernel
theorem dX9_on_31 : decode cX9_on 31 = .ok (.ireturn, 1) := by decide +kernel
set_option maxRecDepth 20000 in
set_option maxHeartbeats 4000000 in
theorem s_X9_on (l : Launch) (g : GG) {q0 : Nat} (hq0 : kd q0 = 8) {σ : SS} {r : Int32 × SS} (h : f_X9_on q0 σ = some r) : CT l g 1 yX9_on cX9_on 1 (some .int) [.ref (g.1 q0)] σ (some (.int r.1), r.2) := by
  refine CT.of (lv := [(0, .ref (g.1 q0))]) RX9 (by decide +kernel) rfl (Nat.le_of_ble_eq_true rfl) rfl ?_
  unfold f_X9_on at h
  refine vr_aload_n (pc := 0) 0 dX9_on_0 rfl rfl ?_
  refine vr_getI (pc := 1) 18 dX9_on_1 fi_X9_292 hq0 (sh_8_18 hq0) ?_
  refine vr_if_ne (pc := 4) 14 dX9_on_4 (by decide) (fun c1 => ?_) (fun c1 => ?_)
  · rw [if_neg c1] at h
    refine vr_aload_n (pc := 14) 0 dX9_on_14 rfl rfl ?_
    refine vr_aload_n (pc := 15) 0 dX9_on_15 rfl rfl ?_
    refine vr_getR (pc := 16) 16 dX9_on_16 fi_X9_50 hq0 (sh_8_16 hq0).1 ?_
    obtain ⟨z2, hz3, h⟩ := ob_some h
    refine vr_callV (pc := 19) (ρ1 := (none, z2)) [.ref (g.1 (rid q0 16))] dX9_on_19 (s_X9_again l g (hq0) (sh_8_16 hq0).2 hz3) cw_X9_again ml_X9_163 hq0 rfl (by decide) (by decide) rfl rfl (Nat.le_of_ble_eq_true rfl) ?_
    refine vr_aload_n (pc := 22) 0 dX9_on_22 rfl rfl ?_
    refine vr_iconst (pc := 23) 0 dX9_on_23 ci_0 ?_
    refine vr_putI (pc := 24) 15 dX9_on_24 fi_X9_166 (fw_8_15 _) hq0 (sh_8_15 hq0) ?_
    refine vr_aload_n (pc := 27) 0 dX9_on_27 rfl rfl ?_
    refine vr_getI (pc := 28) 3 dX9_on_28 fi_X9_108 hq0 (sh_8_3 hq0) ?_
    have h := Option.some.inj h; subst h
    exact vr_iret (pc := 31) .int dX9_on_31 rfl rfl rfl
  · rw [if_pos c1] at h
    refine vr_aload_n (pc := 7) 0 dX9_on_7 rfl rfl ?_
    refine vr_bipush (pc := 8) (-3) dX9_on_8 cb_m3 ?_
    obtain ⟨z4, hz5, h⟩ := ob_some h
    refine vr_callV (pc := 10) (ρ1 := (some (.int z4.1), z4.2)) [.int (-3)] dX9_on_10 (s_X9_no l g (hq0) hz5) cw_X9_no ml_X9_104 hq0 rfl (by decide) (by decide) rfl rfl (Nat.le_of_ble_eq_true rfl) ?_
    have h := Option.some.inj h; subst h
    exact vr_iret (pc := 13) .int dX9_on_13 rfl rfl rfl
theorem dX9_count_0 : decode cX9_count 0 = .ok (.iconst 0, 1) := by decide +kernel
theorem dX9_count_1 : decode cX9_count 1 = .ok (.istore_n 2, 1) := by decide +kernel
theorem dX9_count_2 : decode cX9_count 2 = .ok (.iload_n 1, 1) := by decide +kernel
theorem dX9_count_3 : decode cX9_count 3 = .ok (.tableswitch 120 0 6 #[41, 46, 51, 56, 83, 110, 115], 41) := by decide +kernel
theorem dX9_count_44 : decode cX9_count 44 = .ok (.aload_n 0, 1) := by decide +kernel
theorem dX9_count_45 : decode cX9_count 45 = .ok (.getfield 108, 3) := by decide +kernel
theorem dX9_count_48 : decode cX9_count 48 = .ok (.ireturn, 1) := by decide +kernel
theorem dX9_count_49 : decode cX9_count 49 = .ok (.aload_n 0, 1) := by decide +kernel
theorem dX9_count_50 : decode cX9_count 50 = .ok (.getfield 7, 3) := by decide +kernel
theorem dX9_count_53 : decode cX9_count 53 = .ok (.ireturn, 1) := by decide +kernel
theorem dX9_count_54 : decode cX9_count 54 = .ok (.aload_n 0, 1) := by decide +kernel
theorem dX9_count_55 : decode cX9_count 55 = .ok (.invokevirtual 267, 3) := by decide +kernel
theorem dX9_count_58 : decode cX9_count 58 = .ok (.ireturn, 1) := by decide +kernel
theorem dX9_count_59 : decode cX9_count 59 = .ok (.iconst 0, 1) := by decide +kernel
theorem dX9_count_60 : decode cX9_count 60 = .ok (.istore_n 3, 1) := by decide +kernel
theorem dX9_count_61 : decode cX9_count 61 = .ok (.iload_n 3, 1) := by decide +kernel
theorem dX9_count_62 : decode cX9_count 62 = .ok (.aload_n 0, 1) := by decide +kernel
theorem dX9_count_63 : decode cX9_count 63 = .ok (.getfield 7, 3) := by decide +kernel
theorem dX9_count_66 : decode cX9_count 66 = .ok (.if_icmp .ge 18, 3) := by decide +kernel
theorem dX9_count_69 : decode cX9_count 69 = .ok (.iload_n 2, 1) := by decide +kernel
theorem dX9_count_70 : decode cX9_count 70 = .ok (.aload_n 0, 1) := by decide +kernel
theorem dX9_count_71 : decode cX9_count 71 = .ok (.getfield 13, 3) := by decide +kernel
theorem dX9_count_74 : decode cX9_count 74 = .ok (.iload_n 3, 1) := by decide +kernel
theorem dX9_count_75 : decode cX9_count 75 = .ok (.iaload, 1) := by decide +kernel
theorem dX9_count_76 : decode cX9_count 76 = .ok (.iadd, 1) := by decide +kernel
theorem dX9_count_77 : decode cX9_count 77 = .ok (.istore_n 2, 1) := by decide +kernel
theorem dX9_count_78 : decode cX9_count 78 = .ok (.iinc 3 1, 3) := by decide +kernel
theorem dX9_count_81 : decode cX9_count 81 = .ok (.goto (-20), 3) := by decide +kernel
theorem dX9_count_84 : decode cX9_count 84 = .ok (.iload_n 2, 1) := by decide +kernel
theorem dX9_count_85 : decode cX9_count 85 = .ok (.ireturn, 1) := by decide +kernel
theorem dX9_count_86 : decode cX9_count 86 = .ok (.iconst 0, 1) := by decide +kernel
theorem dX9_count_87 : decode cX9_count 87 = .ok (.istore_n 3, 1) := by decide +kernel
theorem dX9_count_88 : decode cX9_count 88 = .ok (.iload_n 3, 1) := by decide +kernel
theorem dX9_count_89 : decode cX9_count 89 = .ok (.aload_n 0, 1) := by decide +kernel
theorem dX9_count_90 : decode cX9_count 90 = .ok (.getfield 7, 3) := by decide +kernel
theorem dX9_count_93 : decode cX9_count 93 = .ok (.if_icmp .ge 18, 3) := by decide +kernel
theorem dX9_count_96 : decode cX9_count 96 = .ok (.iload_n 2, 1) := by decide +kernel
theorem dX9_count_97 : decode cX9_count 97 = .ok (.aload_n 0, 1) := by decide +kernel
theorem dX9_count_98 : decode cX9_count 98 = .ok (.getfield 17, 3) := by decide +kernel
theorem dX9_count_101 : decode cX9_count 101 = .ok (.iload_n 3, 1) := by decide +kernel
theorem dX9_count_102 : decode cX9_count 102 = .ok (.iaload, 1) := by decide +kernel
theorem dX9_count_103 : decode cX9_count 103 = .ok (.iadd, 1) := by decide +kernel
theorem dX9_count_104 : decode cX9_count 104 = .ok (.istore_n 2, 1) := by decide +kernel
theorem dX9_count_105 : decode cX9_count 105 = .ok (.iinc 3 1, 3) := by decide +kernel
theorem dX9_count_108 : decode cX9_count 108 = .ok (.goto (-20), 3) := by decide +kernel
theorem dX9_count_111 : decode cX9_count 111 = .ok (.iload_n 2, 1) := by decide +kernel
theorem dX9_count_112 : decode cX9_count 112 = .ok (.ireturn, 1) := by decide +kernel
theorem dX9_count_113 : decode cX9_count 113 = .ok (.aload_n 0, 1) := by decide +kernel
theorem dX9_count_114 : decode cX9_count 114 = .ok (.getfield 115, 3) := by decide +kernel
theorem dX9_count_117 : decode cX9_count 117 = .ok (.ireturn, 1) := by decide +kernel
theorem dX9_count_118 : decode cX9_count 118 = .ok (.aload_n 0, 1) := by decide +kernel
theorem dX9_count_119 : decode cX9_count 119 = .ok (.getfield 166, 3) := by decide +kernel
theorem dX9_count_122 : decode cX9_count 122 = .ok (.ireturn, 1) := by decide +kernel
theorem dX9_count_123 : decode cX9_count 123 = .ok (.iload_n 1, 1) := by decide +kernel
theorem dX9_count_124 : decode cX9_count 124 = .ok (.bipush 11, 2) := by decide +kernel
theorem dX9_count_126 : decode cX9_count 126 = .ok (.bipush 16, 2) := by decide +kernel
theorem dX9_count_128 : decode cX9_count 128 = .ok (.invokestatic 111, 3) := by decide +kernel
theorem dX9_count_131 : decode cX9_count 131 = .ok (.ifCond .eq 15, 3) := by decide +kernel
theorem dX9_count_134 : decode cX9_count 134 = .ok (.aload_n 0, 1) := by decide +kernel
theorem dX9_count_135 : decode cX9_count 135 = .ok (.getfield 56, 3) := by decide +kernel
theorem dX9_count_138 : decode cX9_count 138 = .ok (.iload_n 1, 1) := by decide +kernel
theorem dX9_count_139 : decode cX9_count 139 = .ok (.bipush 10, 2) := by decide +kernel
theorem dX9_count_141 : decode cX9_count 141 = .ok (.isub, 1) := by decide +kernel
theorem dX9_count_142 : decode cX9_count 142 = .ok (.iaload, 1) := by decide +kernel
theorem dX9_count_143 : decode cX9_count 143 = .ok (.goto 5, 3) := by decide +kernel
theorem dX9_count_146 : decode cX9_count 146 = .ok (.bipush (-9), 2) := by decide +kernel
theorem dX9_count_148 : decode cX9_count 148 = .ok (.ireturn, 1) := by decide +kernel
set_option maxRecDepth 20000 in
set_option maxHeartbeats 4000000 in
theorem v_X9_count_L61 (l : Launch) (g : GG) {r : Int32} {σ : SS} {κ : Int32 → Option Int32} (hκ : ∀ (y2 : Int32) , κ y2 = some r → VV l g 1 RX9 cX9_count 4 (some .int) (some (.int r), σ) 84 [(2, .int y2)] [] σ) : ∀ (fu : Nat) (q0 : Nat) (x2 : Int32) (x3 : Int32) (hq0 : kd q0 = 8), f_X9_count_L61 σ κ fu q0 x2 x3 = some r → VV l g 1 RX9 cX9_count 4 (some .int) (some (.int r), σ) 61 [(0, .ref (g.1 q0)), (2, .int x2), (3, .int x3)] [] σ := by
  intro fu
  induction fu with
  | zero => intro q0 x2 x3 hq0 h; cases h
  | succ fu ih =>
    intro q0 x2 x3 hq0 h
    simp only [f_X9_count_L61] at h
    refine vr_iload_n (pc := 61) 2 dX9_count_61 rfl rfl ?_
    refine vr_aload_n (pc := 62) 0 dX9_count_62 rfl rfl ?_
    refine vr_getI (pc := 63) 0 dX9_count_63 fi_X9_7 hq0 (sh_8_0 hq0) ?_
    refine vr_icmp_ge (pc := 66) 84 dX9_count_66 (by decide) (fun c7 => ?_) (fun c7 => ?_)
    · rw [if_pos c7] at h
      refine vr_sub [1] [(2, .int x2)] rfl ?_
      exact hκ x2 h
    · rw [if_neg c7] at h
      refine vr_iload_n (pc := 69) 1 dX9_count_69 rfl rfl ?_
      refine vr_aload_n (pc := 70) 0 dX9_count_70 rfl rfl ?_
      refine vr_getR (pc := 71) 1 dX9_count_71 fi_X9_13 hq0 (sh_8_1 hq0).1 ?_
      refine vr_iload_n (pc := 74) 2 dX9_count_74 rfl rfl ?_
      obtain ⟨hc8, h⟩ := ck_some h
      refine vr_iald (pc := 75) dX9_count_75 (sh_8_1 hq0).2 hc8 ?_
      refine vr_iadd (pc := 76) dX9_count_76 ?_
      refine vr_istore_n (pc := 77) [(2, .int (x2 + (σ.1 (rid q0 1) x3.toNatClampNeg))), (0, .ref (g.1 q0)), (3, .int x3)] dX9_count_77 rfl (by decide) rfl ?_
      refine vr_iinc (pc := 78) [(3, .int (x3 + 1)), (2, .int (x2 + (σ.1 (rid q0 1) x3.toNatClampNeg))), (0, .ref (g.1 q0))] 2 dX9_count_78 rfl (congrArg (fun z => x3 + z) ci_1) (by decide) rfl ?_
      refine vr_goto (pc := 81) 61 dX9_count_81 (by decide) ?_
      refine vr_sub [2, 1, 0] [(0, .ref (g.1 q0)), (2, .int (x2 + (σ.1 (rid q0 1) x3.toNatClampNeg))), (3, .int (x3 + 1))] rfl ?_
      exact ih q0 (x2 + (σ.1 (rid q0 1) x3.toNatClampNeg)) (x3 + 1) (hq0) h
set_option maxRecDepth 20000 in
set_option maxHeartbeats 4000000 in
theorem v_X9_count_L88 (l : Launch) (g : GG) {r : Int32} {σ : SS} {κ : Int32 → Option Int32} (hκ : ∀ (y2 : Int32) , κ y2 = some r → VV l g 1 RX9 cX9_count 4 (some .int) (some (.int r), σ) 111 [(2, .int y2)] [] σ) : ∀ (fu : Nat) (q0 : Nat) (x2 : Int32) (x3 : Int32) (hq0 : kd q0 = 8), f_X9_count_L88 σ κ fu q0 x2 x3 = some r → VV l g 1 RX9 cX9_count 4 (some .int) (some (.int r), σ) 88 [(0, .ref (g.1 q0)), (2, .int x2), (3, .int x3)] [] σ := by
  intro fu
  induction fu with
  | zero => intro q0 x2 x3 hq0 h; cases h
  | succ fu ih =>
    intro q0 x2 x3 hq0 h
    simp only [f_X9_count_L88] at h
    refine vr_iload_n (pc := 88) 2 dX9_count_88 rfl rfl ?_
    refine vr_aload_n (pc := 89) 0 dX9_count_89 rfl rfl ?_
    refine vr_getI (pc := 90) 0 dX9_count_90 fi_X9_7 hq0 (sh_8_0 hq0) ?_
    refine vr_icmp_ge (pc := 93) 111 dX9_count_93 (by decide) (fun c10 => ?_) (fun c10 => ?_)
    · rw [if_pos c10] at h
      refine vr_sub [1] [(2, .int x2)] rfl ?_
      exact hκ x2 h
    · rw [if_neg c10] at h
      refine vr_iload_n (pc := 96) 1 dX9_count_96 rfl rfl ?_
      refine vr_aload_n (pc := 97) 0 dX9_count_97 rfl rfl ?_
      refine vr_getR (pc := 98) 2 dX9_count_98 fi_X9_17 hq0 (sh_8_2 hq0).1 ?_
      refine vr_iload_n (pc := 101) 2 dX9_count_101 rfl rfl ?_
      obtain ⟨hc11, h⟩ := ck_some h
      refine vr_iald (pc := 102) dX9_count_102 (sh_8_2 hq0).2 hc11 ?_
      refine vr_iadd (pc := 103) dX9_count_103 ?_
      refine vr_istore_n (pc := 104) [(2, .int (x2 + (σ.1 (rid q0 2) x3.toNatClampNeg))), (0, .ref (g.1 q0)), (3, .int x3)] dX9_count_104 rfl (by decide) rfl ?_
      refine vr_iinc (pc := 105) [(3, .int (x3 + 1)), (2, .int (x2 + (σ.1 (rid q0 2) x3.toNatClampNeg))), (0, .ref (g.1 q0))] 2 dX9_count_105 rfl (congrArg (fun z => x3 + z) ci_1) (by decide) rfl ?_
      refine vr_goto (pc := 108) 88 dX9_count_108 (by decide) ?_
      refine vr_sub [2, 1, 0] [(0, .ref (g.1 q0)), (2, .int (x2 + (σ.1 (rid q0 2) x3.toNatClampNeg))), (3, .int (x3 + 1))] rfl ?_
      exact ih q0 (x2 + (σ.1 (rid q0 2) x3.toNatClampNeg)) (x3 + 1) (hq0) h
set_option maxRecDepth 20000 in
set_option maxHeartbeats 4000000 in
theorem s_X9_count (l : Launch) (g : GG) {q0 : Nat} (hq0 : kd q0 = 8) {a1 : Int32} {σ : SS} {r : Int32} (h : f_X9_count q0 a1 σ = some r) : CT l g 1 yX9_count cX9_count 4 (some .int) [.ref (g.1 q0), .int a1] σ (some (.int r), σ) := by
  refine CT.of (lv := [(0, .ref (g.1 q0)), (1, .int a1)]) RX9 (by decide +kernel) rfl (Nat.le_of_ble_eq_true rfl) rfl ?_
  unfold f_X9_count at h
  refine vr_iconst (pc := 0) 0 dX9_count_0 ci_0 ?_
  refine vr_istore_n (pc := 1) [(2, .int 0), (0, .ref (g.1 q0)), (1, .int a1)] dX9_count_1 rfl (by decide) rfl ?_
  refine vr_iload_n (pc := 2) 2 dX9_count_2 rfl rfl ?_
  by_cases c1 : a1 = 0
  · rw [if_pos c1] at h
    refine vr_tableIn (pc := 3) 41 44 dX9_count_3 (by rw [c1]; decide) (by rw [c1]; decide) (by rw [c1]; rfl) (by decide) ?_
    refine vr_aload_n (pc := 44) 1 dX9_count_44 rfl rfl ?_
    refine vr_getI (pc := 45) 3 dX9_count_45 fi_X9_108 hq0 (sh_8_3 hq0) ?_
    have h := Option.some.inj h; subst h
    exact vr_iret (pc := 48) .int dX9_count_48 rfl rfl rfl
  · rw [if_neg c1] at h
    by_cases c2 : a1 = 1
    · rw [if_pos c2] at h
      refine vr_tableIn (pc := 3) 46 49 dX9_count_3 (by rw [c2]; decide) (by rw [c2]; decide) (by rw [c2]; rfl) (by decide) ?_
      refine vr_aload_n (pc := 49) 1 dX9_count_49 rfl rfl ?_
      refine vr_getI (pc := 50) 0 dX9_count_50 fi_X9_7 hq0 (sh_8_0 hq0) ?_
      have h := Option.some.inj h; subst h
      exact vr_iret (pc := 53) .int dX9_count_53 rfl rfl rfl
    · rw [if_neg c2] at h
      by_cases c3 : a1 = 2
      · rw [if_pos c3] at h
        refine vr_tableIn (pc := 3) 51 54 dX9_count_3 (by rw [c3]; decide) (by rw [c3]; decide) (by rw [c3]; rfl) (by decide) ?_
        refine vr_aload_n (pc := 54) 1 dX9_count_54 rfl rfl ?_
        obtain ⟨z4, hz5, h⟩ := ob_some h
        refine vr_callV (pc := 55) (ρ1 := (some (.int z4), σ)) [] dX9_count_55 (s_X9_inkedTeeth l g (hq0) hz5) cw_X9_inkedTeeth ml_X9_267 hq0 rfl (by decide) (by decide) rfl rfl (Nat.le_of_ble_eq_true rfl) ?_
        have h := Option.some.inj h; subst h
        exact vr_iret (pc := 58) .int dX9_count_58 rfl rfl rfl
      · rw [if_neg c3] at h
        by_cases c6 : a1 = 3
        · rw [if_pos c6] at h
          refine vr_tableIn (pc := 3) 56 59 dX9_count_3 (by rw [c6]; decide) (by rw [c6]; decide) (by rw [c6]; rfl) (by decide) ?_
          refine vr_iconst (pc := 59) 0 dX9_count_59 ci_0 ?_
          refine vr_istore_n (pc := 60) [(3, .int 0), (2, .int 0), (0, .ref (g.1 q0)), (1, .int a1)] dX9_count_60 rfl (by decide) rfl ?_
          refine vr_sub [2, 1, 0] [(0, .ref (g.1 q0)), (2, .int 0), (3, .int 0)] rfl ?_
          refine v_X9_count_L61 l g (fun y2 h => ?_) FU q0 0 0 (hq0) h
          refine vr_iload_n (pc := 84) 0 dX9_count_84 rfl rfl ?_
          have h := Option.some.inj h; subst h
          exact vr_iret (pc := 85) .int dX9_count_85 rfl rfl rfl
        · rw [if_neg c6] at h
          by_cases c9 : a1 = 4
          · rw [if_pos c9] at h
            refine vr_tableIn (pc := 3) 83 86 dX9_count_3 (by rw [c9]; decide) (by rw [c9]; decide) (by rw [c9]; rfl) (by decide) ?_
            refine vr_iconst (pc := 86) 0 dX9_count_86 ci_0 ?_
            refine vr_istore_n (pc := 87) [(3, .int 0), (2, .int 0), (0, .ref (g.1 q0)), (1, .int a1)] dX9_count_87 rfl (by decide) rfl ?_
            refine vr_sub [2, 1, 0] [(0, .ref (g.1 q0)), (2, .int 0), (3, .int 0)] rfl ?_
            refine v_X9_count_L88 l g (fun y2 h => ?_) FU q0 0 0 (hq0) h
            refine vr_iload_n (pc := 111) 0 dX9_count_111 rfl rfl ?_
            have h := Option.some.inj h; subst h
            exact vr_iret (pc := 112) .int dX9_count_112 rfl rfl rfl
          · rw [if_neg c9] at h
            by_cases c12 : a1 = 5
            · rw [if_pos c12] at h
              refine vr_tableIn (pc := 3) 110 113 dX9_count_3 (by rw [c12]; decide) (by rw [c12]; decide) (by rw [c12]; rfl) (by decide) ?_
              refine vr_aload_n (pc := 113) 1 dX9_count_113 rfl rfl ?_
              refine vr_getI (pc := 114) 11 dX9_count_114 fi_X9_115 hq0 (sh_8_11 hq0) ?_
              have h := Option.some.inj h; subst h
              exact vr_iret (pc := 117) .int dX9_count_117 rfl rfl rfl
            · rw [if_neg c12] at h
              by_cases c13 : a1 = 6
              · rw [if_pos c13] at h
                refine vr_tableIn (pc := 3) 115 118 dX9_count_3 (by rw [c13]; decide) (by rw [c13]; decide) (by rw [c13]; rfl) (by decide) ?_
                refine vr_aload_n (pc := 118) 1 dX9_count_118 rfl rfl ?_
                refine vr_getI (pc := 119) 15 dX9_count_119 fi_X9_166 hq0 (sh_8_15 hq0) ?_
                have h := Option.some.inj h; subst h
                exact vr_iret (pc := 122) .int dX9_count_122 rfl rfl rfl
              · rw [if_neg c13] at h
                refine vr_tableOut (pc := 3) 123 dX9_count_3 (tab_out (x := a1) 0 6 (fun z1 z2 => by rcases (show a1.toInt = 0 ∨ a1.toInt = 1 ∨ a1.toInt = 2 ∨ a1.toInt = 3 ∨ a1.toInt = 4 ∨ a1.toInt = 5 ∨ a1.toInt = 6 from by omega) with z | z | z | z | z | z | z <;> first | exact c1 (i32_of z (by decide)) | exact c2 (i32_of z (by decide)) | exact c3 (i32_of z (by decide)) | exact c6 (i32_of z (by decide)) | exact c9 (i32_of z (by decide)) | exact c12 (i32_of z (by decide)) | exact c13 (i32_of z (by decide)))) (by decide) ?_
                refine vr_iload_n (pc := 123) 2 dX9_count_123 rfl rfl ?_
                refine vr_bipush (pc := 124) 11 dX9_count_124 cb_11 ?_
                refine vr_bipush (pc := 126) 16 dX9_count_126 cb_16 ?_
                refine vr_callS (pc := 128) (ρ1 := (some (.int (f_X9_within a1 11 16)), σ)) [.int a1, .int 11, .int 16] dX9_count_128 (s_X9_within l g rfl) cw_X9_within ml_X9_111 (by decide) rfl rfl (Nat.le_of_ble_eq_true rfl) ?_
                refine vr_if_eq (pc := 131) 146 dX9_count_131 (by decide) (fun c14 => ?_) (fun c14 => ?_)
                · rw [if_pos c14] at h
                  refine vr_bipush (pc := 146) (-9) dX9_count_146 cb_m9 ?_
                  have h := Option.some.inj h; subst h
                  exact vr_iret (pc := 148) .int dX9_count_148 rfl rfl rfl
                · rw [if_neg c14] at h
                  refine vr_aload_n (pc := 134) 1 dX9_count_134 rfl rfl ?_
                  refine vr_getR (pc := 135) 19 dX9_count_135 fi_X9_56 hq0 (sh_8_19 hq0).1 ?_
                  refine vr_iload_n (pc := 138) 2 dX9_count_138 rfl rfl ?_
                  refine vr_bipush (pc := 139) 10 dX9_count_139 cb_10 ?_
                  refine vr_isub (pc := 141) dX9_count_141 ?_
                  obtain ⟨hc15, h⟩ := ck_some h
                  refine vr_iald (pc := 142) dX9_count_142 (sh_8_19 hq0).2 hc15 ?_
                  refine vr_goto (pc := 143) 148 dX9_count_143 (by decide) ?_
                  have h := Option.some.inj h; subst h
                  exact vr_iret (pc := 148) .int dX9_count_148 rfl rfl rfl
