theorem dX9_within_0 : decode cX9_within 0 = .ok (.iload_n 0, 1) := by decide +kernel
theorem dX9_within_1 : decode cX9_within 1 = .ok (.iload_n 1, 1) := by decide +kernel
theorem dX9_within_2 : decode cX9_within 2 = .ok (.if_icmp .lt 12, 3) := by decide +kernel
theorem dX9_within_5 : decode cX9_within 5 = .ok (.iload_n 0, 1) := by decide +kernel
theorem dX9_within_6 : decode cX9_within 6 = .ok (.iload_n 2, 1) := by decide +kernel
theorem dX9_within_7 : decode cX9_within 7 = .ok (.if_icmp .gt 7, 3) := by decide +kernel
theorem dX9_within_10 : decode cX9_within 10 = .ok (.iconst 1, 1) := by decide +kernel
theorem dX9_within_11 : decode cX9_within 11 = .ok (.goto 4, 3) := by decide +kernel
theorem dX9_within_14 : decode cX9_within 14 = .ok (.iconst 0, 1) := by decide +kernel
theorem dX9_within_15 : decode cX9_within 15 = .ok (.ireturn, 1) := by decide +kernel
set_option maxRecDepth 20000 in
set_option maxHeartbeats 4000000 in
theorem s_X9_within (l : Launch) (g : GG) {a0 : Int32} {a1 : Int32} {a2 : Int32} {σ : SS} {r : Int32} (h : f_X9_within a0 a1 a2 = r) : CT l g 0 yX9_within cX9_within 3 (some .boolean) [.int a0, .int a1, .int a2] σ (some (.int r), σ) := by
  refine CT.of (lv := [(0, .int a0), (1, .int a1), (2, .int a2)]) RX9 (by decide +kernel) rfl (Nat.le_of_ble_eq_true rfl) rfl ?_
  unfold f_X9_within at h
  refine vr_iload_n (pc := 0) 0 dX9_within_0 rfl rfl ?_
  refine vr_iload_n (pc := 1) 1 dX9_within_1 rfl rfl ?_
  refine vr_icmp_lt (pc := 2) 14 dX9_within_2 (by decide) (fun c1 => ?_) (fun c1 => ?_)
  · rw [if_pos c1] at h
    refine vr_iconst (pc := 14) 0 dX9_within_14 ci_0 ?_
    subst h
    exact vr_iret (pc := 15) .boolean dX9_within_15 rfl rfl rfl
  · rw [if_neg c1] at h
    refine vr_iload_n (pc := 5) 0 dX9_within_5 rfl rfl ?_
    refine vr_iload_n (pc := 6) 2 dX9_within_6 rfl rfl ?_
    refine vr_icmp_gt (pc := 7) 14 dX9_within_7 (by decide) (fun c2 => ?_) (fun c2 => ?_)
    · rw [if_pos c2] at h
      refine vr_iconst (pc := 14) 0 dX9_within_14 ci_0 ?_
      subst h
      exact vr_iret (pc := 15) .boolean dX9_within_15 rfl rfl rfl
    · rw [if_neg c2] at h
      refine vr_iconst (pc := 10) 1 dX9_within_10 ci_1 ?_
      refine vr_goto (pc := 11) 15 dX9_within_11 (by decide) ?_
      subst h
      exact vr_iret (pc := 15) .boolean dX9_within_15 rfl rfl rfl
theorem dX9_no_0 : decode cX9_no 0 = .ok (.aload_n 0, 1) := by decide +kernel
theorem dX9_no_1 : decode cX9_no 1 = .ok (.getfield 56, 3) := by decide +kernel
theorem dX9_no_4 : decode cX9_no 4 = .ok (.iload_n 1, 1) := by decide +kernel
theorem dX9_no_5 : decode cX9_no 5 = .ok (.ineg, 1) := by decide +kernel
theorem dX9_no_6 : decode cX9_no 6 = .ok (.dup2, 1) := by decide +kernel
theorem dX9_no_7 : decode cX9_no 7 = .ok (.iaload, 1) := by decide +kernel
theorem dX9_no_8 : decode cX9_no 8 = .ok (.iconst 1, 1) := by decide +kernel
theorem dX9_no_9 : decode cX9_no 9 = .ok (.iadd, 1) := by decide +kernel
theorem dX9_no_10 : decode cX9_no 10 = .ok (.iastore, 1) := by decide +kernel
theorem dX9_no_11 : decode cX9_no 11 = .ok (.iload_n 1, 1) := by decide +kernel
theorem dX9_no_12 : decode cX9_no 12 = .ok (.ireturn, 1) := by decide +kernel
set_option maxRecDepth 20000 in
set_option maxHeartbeats 4000000 in
theorem s_X9_no (l : Launch) (g : GG) {q0 : Nat} (hq0 : kd q0 = 8) {a1 : Int32} {σ : SS} {r : Int32 × SS} (h : f_X9_no q0 a1 σ = some r) : CT l g 0 yX9_no cX9_no 2 (some .int) [.ref (g.1 q0), .int a1] σ (some (.int r.1), r.2) := by
  refine CT.of (lv := [(0, .ref (g.1 q0)), (1, .int a1)]) RX9 (by decide +kernel) rfl (Nat.le_of_ble_eq_true rfl) rfl ?_
  unfold f_X9_no at h
  refine vr_aload_n (pc := 0) 0 dX9_no_0 rfl rfl ?_
  refine vr_getR (pc := 1) 19 dX9_no_1 fi_X9_56 hq0 (sh_8_19 hq0).1 ?_
  refine vr_iload_n (pc := 4) 1 dX9_no_4 rfl rfl ?_
  refine vr_ineg (pc := 5) dX9_no_5 ?_
  refine vr_dup2 (pc := 6) dX9_no_6 rfl rfl ?_
  obtain ⟨hc1, h⟩ := ck_some h
  refine vr_iald (pc := 7) dX9_no_7 (sh_8_19 hq0).2 hc1 ?_
  refine vr_iconst (pc := 8) 1 dX9_no_8 ci_1 ?_
  refine vr_iadd (pc := 9) dX9_no_9 ?_
  obtain ⟨hc2, h⟩ := ck_some h
  refine vr_iast (pc := 10) dX9_no_10 (sh_8_19 hq0).2 hc2 ?_
  refine vr_iload_n (pc := 11) 1 dX9_no_11 rfl rfl ?_
  have h := Option.some.inj h; subst h
  exact vr_iret (pc := 12) .int dX9_no_12 rfl rfl rfl
theorem dX9_noFar_0 : decode cX9_noFar 0 = .ok (.ldc2_w 102, 3) := by decide +kernel
theorem dX9_noFar_3 : decode cX9_noFar 3 = .ok (.aload_n 0, 1) := by decide +kernel
theorem dX9_noFar_4 : decode cX9_noFar 4 = .ok (.iload_n 1, 1) := by decide +kernel
theorem dX9_noFar_5 : decode cX9_noFar 5 = .ok (.invokevirtual 104, 3) := by decide +kernel
theorem dX9_noFar_8 : decode cX9_noFar 8 = .ok (.i2l, 1) := by decide +kernel
theorem dX9_noFar_9 : decode cX9_noFar 9 = .ok (.lsub, 1) := by decide +kernel
theorem dX9_noFar_10 : decode cX9_noFar 10 = .ok (.lreturn, 1) := by decide +kernel
set_option maxRecDepth 20000 in
set_option maxHeartbeats 4000000 in
theorem s_X9_noFar (l : Launch) (g : GG) {q0 : Nat} (hq0 : kd q0 = 8) {a1 : Int32} {σ : SS} {r : Int64 × SS} (h : f_X9_noFar q0 a1 σ = some r) : CT l g 1 yX9_noFar cX9_noFar 2 (some .long) [.ref (g.1 q0), .int a1] σ (some (.long r.1), r.2) := by
  refine CT.of (lv := [(0, .ref (g.1 q0)), (1, .int a1)]) RX9 (by decide +kernel) rfl (Nat.le_of_ble_eq_true rfl) rfl ?_
  unfold f_X9_noFar at h
  refine vr_ldc2 (pc := 0) 4000000000000000000 dX9_noFar_0 co_X9_102 ?_
  refine vr_aload_n (pc := 3) 0 dX9_noFar_3 rfl rfl ?_
  refine vr_iload_n (pc := 4) 1 dX9_noFar_4 rfl rfl ?_
  obtain ⟨z1, hz2, h⟩ := ob_some h
  refine vr_callV (pc := 5) (ρ1 := (some (.int z1.1), z1.2)) [.int a1] dX9_noFar_5 (s_X9_no l g (hq0) hz2) cw_X9_no ml_X9_104 hq0 rfl (by decide) (by decide) rfl rfl (Nat.le_of_ble_eq_true rfl) ?_
  refine vr_i2l (pc := 8) dX9_noFar_8 ?_
  refine vr_lsub (pc := 9) dX9_noFar_9 ?_
  have h := Option.some.inj h; subst h
  exact vr_lret (pc := 10) dX9_noFar_10 rfl rfl
theorem dX9_isWheel_0 : decode cX9_isWheel 0 = .ok (.iload_n 1, 1) := by decide +kernel
theorem dX9_isWheel_1 : decode cX9_isWheel 1 = .ok (.iconst 0, 1) := by decide +kernel
theorem dX9_isWheel_2 : decode cX9_isWheel 2 = .ok (.aload_n 0, 1) := by decide +kernel
theorem dX9_isWheel_3 : decode cX9_isWheel 3 = .ok (.getfield 108, 3) := by decide +kernel
theorem dX9_isWheel_6 : decode cX9_isWheel 6 = .ok (.iconst 1, 1) := by decide +kernel
theorem dX9_isWheel_7 : decode cX9_isWheel 7 = .ok (.isub, 1) := by decide +kernel
theorem dX9_isWheel_8 : decode cX9_isWheel 8 = .ok (.invokestatic 111, 3) := by decide +kernel
theorem dX9_isWheel_11 : decode cX9_isWheel 11 = .ok (.ireturn, 1) := by decide +kernel
set_option maxRecDepth 20000 in
set_option maxHeartbeats 4000000 in
theorem s_X9_isWheel (l : Launch) (g : GG) {q0 : Nat} (hq0 : kd q0 = 8) {a1 : Int32} {σ : SS} {r : Int32} (h : f_X9_isWheel q0 a1 σ = r) : CT l g 1 yX9_isWheel cX9_isWheel 2 (some .boolean) [.ref (g.1 q0), .int a1] σ (some (.int r), σ) := by
  refine CT.of (lv := [(0, .ref (g.1 q0)), (1, .int a1)]) RX9 (by decide +kernel) rfl (Nat.le_of_ble_eq_true rfl) rfl ?_
  unfold f_X9_isWheel at h
  refine vr_iload_n (pc := 0) 1 dX9_isWheel_0 rfl rfl ?_
  refine vr_iconst (pc := 1) 0 dX9_isWheel_1 ci_0 ?_
  refine vr_aload_n (pc := 2) 0 dX9_isWheel_2 rfl rfl ?_
  refine vr_getI (pc := 3) 3 dX9_isWheel_3 fi_X9_108 hq0 (sh_8_3 hq0) ?_
  refine vr_iconst (pc := 6) 1 dX9_isWheel_6 ci_1 ?_
  refine vr_isub (pc := 7) dX9_isWheel_7 ?_
  refine vr_callS (pc := 8) (ρ1 := (some (.int (f_X9_within a1 0 ((σ.1 q0 3) - 1))), σ)) [.int a1, .int 0, .int ((σ.1 q0 3) - 1)] dX9_isWheel_8 (s_X9_within l g rfl) cw_X9_within ml_X9_111 (by decide) rfl rfl (Nat.le_of_ble_eq_true rfl) ?_
  subst h
  exact vr_iret (pc := 11) .boolean dX9_isWheel_11 rfl (nar_b (b_X9_within a1 0 ((σ.1 q0 3) - 1))) rfl
theorem dX9_isTooth_0 : decode cX9_isTooth 0 = .ok (.iload_n 1, 1) := by decide +kernel
theorem dX9_isTooth_1 : decode cX9_isTooth 1 = .ok (.iconst 0, 1) := by decide +kernel
theorem dX9_isTooth_2 : decode cX9_isTooth 2 = .ok (.aload_n 0, 1) := by decide +kernel
theorem dX9_isTooth_3 : decode cX9_isTooth 3 = .ok (.getfield 7, 3) := by decide +kernel
theorem dX9_isTooth_6 : decode cX9_isTooth 6 = .ok (.iconst 1, 1) := by decide +kernel
theorem dX9_isTooth_7 : decode cX9_isTooth 7 = .ok (.isub, 1) := by decide +kernel
theorem dX9_isTooth_8 : decode cX9_isTooth 8 = .ok (.invokestatic 111, 3) := by decide +kernel
theorem dX9_isTooth_11 : decode cX9_isTooth 11 = .ok (.ireturn, 1) := by decide +kernel
set_option maxRecDepth 20000 in
set_option maxHeartbeats 4000000 in
theorem s_X9_isTooth (l : Launch) (g : GG) {q0 : Nat} (hq0 : kd q0 = 8) {a1 : Int32} {σ : SS} {r : Int32} (h : f_X9_isTooth q0 a1 σ = r) : CT l g 1 yX9_isTooth cX9_isTooth 2 (some .boolean) [.ref (g.1 q0), .int a1] σ (some (.int r), σ) := by
  refine CT.of (lv := [(0, .ref (g.1 q0)), (1, .int a1)]) RX9 (by decide +kernel) rfl (Nat.le_of_ble_eq_true rfl) rfl ?_
  unfold f_X9_isTooth at h
  refine vr_iload_n (pc := 0) 1 dX9_isTooth_0 rfl rfl ?_
  refine vr_iconst (pc := 1) 0 dX9_isTooth_1 ci_0 ?_
  refine vr_aload_n (pc := 2) 0 dX9_isTooth_2 rfl rfl ?_
  refine vr_getI (pc := 3) 0 dX9_isTooth_3 fi_X9_7 hq0 (sh_8_0 hq0) ?_
  refine vr_iconst (pc := 6) 1 dX9_isTooth_6 ci_1 ?_
  refine vr_isub (pc := 7) dX9_isTooth_7 ?_
  refine vr_callS (pc := 8) (ρ1 := (some (.int (f_X9_within a1 0 ((σ.1 q0 0) - 1))), σ)) [.int a1, .int 0, .int ((σ.1 q0 0) - 1)] dX9_isTooth_8 (s_X9_within l g rfl) cw_X9_within ml_X9_111 (by decide) rfl rfl (Nat.le_of_ble_eq_true rfl) ?_
  subst h
  exact vr_iret (pc := 11) .boolean dX9_isTooth_11 rfl (nar_b (b_X9_within a1 0 ((σ.1 q0 0) - 1))) rfl
theorem dX9_isList_0 : decode cX9_isList 0 = .ok (.iload_n 0, 1) := by decide +kernel
theorem dX9_isList_1 : decode cX9_isList 1 = .ok (.iconst 0, 1) := by decide +kernel
theorem dX9_isList_2 : decode cX9_isList 2 = .ok (.iconst 2, 1) := by decide +kernel
theorem dX9_isList_3 : decode cX9_isList 3 = .ok (.invokestatic 111, 3) := by decide +kernel
theorem dX9_isList_6 : decode cX9_isList 6 = .ok (.ireturn, 1) := by decide +kernel
set_option maxRecDepth 20000 in
set_option maxHeartbeats 4000000 in
theorem s_X9_isList (l : Launch) (g : GG) {a0 : Int32} {σ : SS} {r : Int32} (h : f_X9_isList a0 = r) : CT l g 1 yX9_isList cX9_isList 1 (some .boolean) [.int a0] σ (some (.int r), σ) := by
  refine CT.of (lv := [(0, .int a0)]) RX9 (by decide +kernel) rfl (Nat.le_of_ble_eq_true rfl) rfl ?_
  unfold f_X9_isList at h
  refine vr_iload_n (pc := 0) 0 dX9_isList_0 rfl rfl ?_
  refine vr_iconst (pc := 1) 0 dX9_isList_1 ci_0 ?_
  refine vr_iconst (pc := 2) 2 dX9_isList_2 ci_2 ?_
  refine vr_callS (pc := 3) (ρ1 := (some (.int (f_X9_within a0 0 2)), σ)) [.int a0, .int 0, .int 2] dX9_isList_3 (s_X9_within l g rfl) cw_X9_within ml_X9_111 (by decide) rfl rfl (Nat.le_of_ble_eq_true rfl) ?_
  subst h
  exact vr_iret (pc := 6) .boolean dX9_isList_6 rfl (nar_b (b_X9_within a0 0 2)) rfl
theorem dX9_isSet_0 : decode cX9_isSet 0 = .ok (.iload_n 1, 1) := by decide +kernel
theorem dX9_isSet_1 : decode cX9_isSet 1 = .ok (.iconst 1, 1) := by decide +kernel
theorem dX9_isSet_2 : decode cX9_isSet 2 = .ok (.iconst 1, 1) := by decide +kernel
theorem dX9_isSet_3 : decode cX9_isSet 3 = .ok (.aload_n 0, 1) := by decide +kernel
theorem dX9_isSet_4 : decode cX9_isSet 4 = .ok (.getfield 108, 3) := by decide +kernel
theorem dX9_isSet_7 : decode cX9_isSet 7 = .ok (.ishl, 1) := by decide +kernel
theorem dX9_isSet_8 : decode cX9_isSet 8 = .ok (.iconst 1, 1) := by decide +kernel
theorem dX9_isSet_9 : decode cX9_isSet 9 = .ok (.isub, 1) := by decide +kernel
theorem dX9_isSet_10 : decode cX9_isSet 10 = .ok (.invokestatic 111, 3) := by decide +kernel
theorem dX9_isSet_13 : decode cX9_isSet 13 = .ok (.ireturn, 1) := by decide +kernel
set_option maxRecDepth 20000 in
set_option maxHeartbeats 4000000 in
theorem s_X9_isSet (l : Launch) (g : GG) {q0 : Nat} (hq0 : kd q0 = 8) {a1 : Int32} {σ : SS} {r : Int32} (h : f_X9_isSet q0 a1 σ = r) : CT l g 1 yX9_isSet cX9_isSet 2 (some .boolean) [.ref (g.1 q0), .int a1] σ (some (.int r), σ) := by
  refine CT.of (lv := [(0, .ref (g.1 q0)), (1, .int a1)]) RX9 (by decide +kernel) rfl (Nat.le_of_ble_eq_true rfl) rfl ?_
  unfold f_X9_isSet at h
  refine vr_iload_n (pc := 0) 1 dX9_isSet_0 rfl rfl ?_
  refine vr_iconst (pc := 1) 1 dX9_isSet_1 ci_1 ?_
  refine vr_iconst (pc := 2) 1 dX9_isSet_2 ci_1 ?_
  refine vr_aload_n (pc := 3) 0 dX9_isSet_3 rfl rfl ?_
  refine vr_getI (pc := 4) 3 dX9_isSet_4 fi_X9_108 hq0 (sh_8_3 hq0) ?_
  refine vr_ishl (pc := 7) dX9_isSet_7 ?_
  refine vr_iconst (pc := 8) 1 dX9_isSet_8 ci_1 ?_
  refine vr_isub (pc := 9) dX9_isSet_9 ?_
  refine vr_callS (pc := 10) (ρ1 := (some (.int (f_X9_within a1 1 ((1 <<< ((σ.1 q0 3) &&& 31)) - 1))), σ)) [.int a1, .int 1, .int ((1 <<< ((σ.1 q0 3) &&& 31)) - 1)] dX9_isSet_10 (s_X9_within l g rfl) cw_X9_within ml_X9_111 (by decide) rfl rfl (Nat.le_of_ble_eq_true rfl) ?_
  subst h
  exact vr_iret (pc := 13) .boolean dX9_isSet_13 rfl (nar_b (b_X9_within a1 1 ((1 <<< ((σ.1 q0 3) &&& 31)) - 1))) rfl
theorem dX9_has_0 : decode cX9_has 0 = .ok (.iload_n 0, 1) := by decide +kernel
theorem dX9_has_1 : decode cX9_has 1 = .ok (.iload_n 1, 1) := by decide +kernel
theorem dX9_has_2 : decode cX9_has 2 = .ok (.ishr, 1) := by decide +kernel
theorem dX9_has_3 : decode cX9_has 3 = .ok (.iconst 1, 1) := by decide +kernel
theorem dX9_has_4 : decode cX9_has 4 = .ok (.iand, 1) := by decide +kernel
theorem dX9_has_5 : decode cX9_has 5 = .ok (.iconst 1, 1) := by decide +kernel
theorem dX9_has_6 : decode cX9_has 6 = .ok (.if_icmp .ne 7, 3) := by decide +kernel
theorem dX9_has_9 : decode cX9_has 9 = .ok (.iconst 1, 1) := by decide +kernel
theorem dX9_has_10 : decode cX9_has 10 = .ok (.goto 4, 3) := by decide +kernel
theorem dX9_has_13 : decode cX9_has 13 = .ok (.iconst 0, 1) := by decide +kernel
theorem dX9_has_14 : decode cX9_has 14 = .ok (.ireturn, 1) := by decide +kernel
set_option maxRecDepth 20000 in
set_option maxHeartbeats 4000000 in
theorem s_X9_has (l : Launch) (g : GG) {a0 : Int32} {a1 : Int32} {σ : SS} {r : Int32} (h : f_X9_has a0 a1 = r) : CT l g 0 yX9_has cX9_has 2 (some .boolean) [.int a0, .int a1] σ (some (.int r), σ) := by
  refine CT.of (lv := [(0, .int a0), (1, .int a1)]) RX9 (by decide +kernel) rfl (Nat.le_of_ble_eq_true rfl) rfl ?_
  unfold f_X9_has at h
  refine vr_iload_n (pc := 0) 0 dX9_has_0 rfl rfl ?_
  refine vr_iload_n (pc := 1) 1 dX9_has_1 rfl rfl ?_
  refine vr_ishr (pc := 2) dX9_has_2 ?_
  refine vr_iconst (pc := 3) 1 dX9_has_3 ci_1 ?_
  refine vr_iand (pc := 4) dX9_has_4 ?_
  refine vr_iconst (pc := 5) 1 dX9_has_5 ci_1 ?_
  refine vr_icmp_ne (pc := 6) 13 dX9_has_6 (by decide) (fun c1 => ?_) (fun c1 => ?_)
  · rw [if_neg c1] at h
    refine vr_iconst (pc := 13) 0 dX9_has_13 ci_0 ?_
    subst h
    exact vr_iret (pc := 14) .boolean dX9_has_14 rfl rfl rfl
  · rw [if_pos c1] at h
    refine vr_iconst (pc := 9) 1 dX9_has_9 ci_1 ?_
    refine vr_goto (pc := 10) 14 dX9_has_10 (by decide) ?_
    subst h
    exact vr_iret (pc := 14) .boolean dX9_has_14 rfl rfl rfl
theorem dX9_letter_0 : decode cX9_letter 0 = .ok (.iload_n 1, 1) := by decide +kernel
theorem dX9_letter_1 : decode cX9_letter 1 = .ok (.ifCond .ge 10, 3) := by decide +kernel
theorem dX9_letter_4 : decode cX9_letter 4 = .ok (.aload_n 0, 1) := by decide +kernel
theorem dX9_letter_5 : decode cX9_letter 5 = .ok (.bipush (-4), 2) := by decide +kernel
theorem dX9_letter_7 : decode cX9_letter 7 = .ok (.invokevirtual 104, 3) := by decide +kernel
theorem dX9_letter_10 : decode cX9_letter 10 = .ok (.ireturn, 1) := by decide +kernel
theorem dX9_letter_11 : decode cX9_letter 11 = .ok (.iload_n 1, 1) := by decide +kernel
theorem dX9_letter_12 : decode cX9_letter 12 = .ok (.sipush 255, 3) := by decide +kernel
theorem dX9_letter_15 : decode cX9_letter 15 = .ok (.if_icmp .gt 12, 3) := by decide +kernel
theorem dX9_letter_18 : decode cX9_letter 18 = .ok (.aload_n 0, 1) := by decide +kernel
theorem dX9_letter_19 : decode cX9_letter 19 = .ok (.getfield 115, 3) := by decide +kernel
theorem dX9_letter_22 : decode cX9_letter 22 = .ok (.bipush 72, 2) := by decide +kernel
theorem dX9_letter_24 : decode cX9_letter 24 = .ok (.if_icmp .ne 10, 3) := by decide +kernel
theorem dX9_letter_27 : decode cX9_letter 27 = .ok (.aload_n 0, 1) := by decide +kernel
theorem dX9_letter_28 : decode cX9_letter 28 = .ok (.bipush (-6), 2) := by decide +kernel
theorem dX9_letter_30 : decode cX9_letter 30 = .ok (.invokevirtual 104, 3) := by decide +kernel
theorem dX9_letter_33 : decode cX9_letter 33 = .ok (.ireturn, 1) := by decide +kernel
theorem dX9_letter_34 : decode cX9_letter 34 = .ok (.aload_n 0, 1) := by decide +kernel
theorem dX9_letter_35 : decode cX9_letter 35 = .ok (.getfield 38, 3) := by decide +kernel
theorem dX9_letter_38 : decode cX9_letter 38 = .ok (.aload_n 0, 1) := by decide +kernel
theorem dX9_letter_39 : decode cX9_letter 39 = .ok (.dup, 1) := by decide +kernel
theorem dX9_letter_40 : decode cX9_letter 40 = .ok (.getfield 115, 3) := by decide +kernel
theorem dX9_letter_43 : decode cX9_letter 43 = .ok (.dup_x1, 1) := by decide +kernel
theorem dX9_letter_44 : decode cX9_letter 44 = .ok (.iconst 1, 1) := by decide +kernel
theorem dX9_letter_45 : decode cX9_letter 45 = .ok (.iadd, 1) := by decide +kernel
theorem dX9_letter_46 : decode cX9_letter 46 = .ok (.putfield 115, 3) := by decide +kernel
theorem dX9_letter_49 : decode cX9_letter 49 = .ok (.iload_n 1, 1) := by decide +kernel
theorem dX9_letter_50 : decode cX9_letter 50 = .ok (.iastore, 1) := by decide +kernel
theorem dX9_letter_51 : decode cX9_letter 51 = .ok (.aload_n 0, 1) := by decide +kernel
theorem dX9_letter_52 : decode cX9_letter 52 = .ok (.getfield 115, 3) := by decide +kernel
theorem dX9_letter_55 : decode cX9_letter 55 = .ok (.ireturn, 1) := by decide +kernel
set_option maxRecDepth 20000 in
set_option maxHeartbeats 4000000 in
theorem s_X9_letter (l : Launch) (g : GG) {q0 : Nat} (hq0 : kd q0 = 8) {a1 : Int32} {σ : SS} {r : Int32 × SS} (h : f_X9_letter q0 a1 σ = some r) : CT l g 1 yX9_letter cX9_letter 2 (some .int) [.ref (g.1 q0), .int a1] σ (some (.int r.1), r.2) := by
  refine CT.of (lv := [(0, .ref (g.1 q0)), (1, .int a1)]) RX9 (by decide +kernel) rfl (Nat.le_of_ble_eq_true rfl) rfl ?_
  unfold f_X9_letter at h
  refine vr_iload_n (pc := 0) 1 dX9_letter_0 rfl rfl ?_
  refine vr_if_ge (pc := 1) 11 dX9_letter_1 (by decide) (fun c1 => ?_) (fun c1 => ?_)
  · rw [if_pos c1] at h
    refine vr_iload_n (pc := 11) 1 dX9_letter_11 rfl rfl ?_
    refine vr_sipush (pc := 12) 255 dX9_letter_12 cs_255 ?_
    refine vr_icmp_gt (pc := 15) 27 dX9_letter_15 (by decide) (fun c2 => ?_) (fun c2 => ?_)
    · rw [if_pos c2] at h
      refine vr_aload_n (pc := 27) 0 dX9_letter_27 rfl rfl ?_
      refine vr_bipush (pc := 28) (-6) dX9_letter_28 cb_m6 ?_
      obtain ⟨z3, hz4, h⟩ := ob_some h
      refine vr_callV (pc := 30) (ρ1 := (some (.int z3.1), z3.2)) [.int (-6)] dX9_letter_30 (s_X9_no l g (hq0) hz4) cw_X9_no ml_X9_104 hq0 rfl (by decide) (by decide) rfl rfl (Nat.le_of_ble_eq_true rfl) ?_
      have h := Option.some.inj h; subst h
      exact vr_iret (pc := 33) .int dX9_letter_33 rfl rfl rfl
    · rw [if_neg c2] at h
      refine vr_aload_n (pc := 18) 0 dX9_letter_18 rfl rfl ?_
      refine vr_getI (pc := 19) 11 dX9_letter_19 fi_X9_115 hq0 (sh_8_11 hq0) ?_
      refine vr_bipush (pc := 22) 72 dX9_letter_22 cb_72 ?_
      refine vr_icmp_ne (pc := 24) 34 dX9_letter_24 (by decide) (fun c5 => ?_) (fun c5 => ?_)
      · rw [if_neg c5] at h
        refine vr_aload_n (pc := 34) 0 dX9_letter_34 rfl rfl ?_
        refine vr_getR (pc := 35) 10 dX9_letter_35 fi_X9_38 hq0 (sh_8_10 hq0).1 ?_
        refine vr_aload_n (pc := 38) 0 dX9_letter_38 rfl rfl ?_
        refine vr_dup (pc := 39) dX9_letter_39 rfl ?_
        refine vr_getI (pc := 40) 11 dX9_letter_40 fi_X9_115 hq0 (sh_8_11 hq0) ?_
        refine vr_dup_x1 (pc := 43) dX9_letter_43 rfl rfl ?_
        refine vr_iconst (pc := 44) 1 dX9_letter_44 ci_1 ?_
        refine vr_iadd (pc := 45) dX9_letter_45 ?_
        refine vr_putI (pc := 46) 11 dX9_letter_46 fi_X9_115 (fw_8_11 _) hq0 (sh_8_11 hq0) ?_
        refine vr_iload_n (pc := 49) 1 dX9_letter_49 rfl rfl ?_
        obtain ⟨hc6, h⟩ := ck_some h
        refine vr_iast (pc := 50) dX9_letter_50 (sh_8_10 hq0).2 hc6 ?_
        refine vr_aload_n (pc := 51) 0 dX9_letter_51 rfl rfl ?_
        refine vr_getI (pc := 52) 11 dX9_letter_52 fi_X9_115 hq0 (sh_8_11 hq0) ?_
        have h := Option.some.inj h; subst h
        exact vr_iret (pc := 55) .int dX9_letter_55 rfl rfl rfl
      · rw [if_pos c5] at h
        refine vr_aload_n (pc := 27) 0 dX9_letter_27 rfl rfl ?_
        refine vr_bipush (pc := 28) (-6) dX9_letter_28 cb_m6 ?_
        obtain ⟨z7, hz8, h⟩ := ob_some h
        refine vr_callV (pc := 30) (ρ1 := (some (.int z7.1), z7.2)) [.int (-6)] dX9_letter_30 (s_X9_no l g (hq0) hz8) cw_X9_no ml_X9_104 hq0 rfl (by decide) (by decide) rfl rfl (Nat.le_of_ble_eq_true rfl) ?_
        have h := Option.some.inj h; subst h
        exact vr_iret (pc := 33) .int dX9_letter_33 rfl rfl rfl
  · rw [if_neg c1] at h
    refine vr_aload_n (pc := 4) 0 dX9_letter_4 rfl rfl ?_
    refine vr_bipush (pc := 5) (-4) dX9_letter_5 cb_m4 ?_
    obtain ⟨z9, hz10, h⟩ := ob_some h
    refine vr_callV (pc := 7) (ρ1 := (some (.int z9.1), z9.2)) [.int (-4)] dX9_letter_7 (s_X9_no l g (hq0) hz10) cw_X9_no ml_X9_104 hq0 rfl (by decide) (by decide) rfl rfl (Nat.le_of_ble_eq_true rfl) ?_
    have h := Option.some.inj h; subst h
    exact vr_iret (pc := 10) .int dX9_letter_10 rfl rfl rfl
theorem dX9_digitsOf_0 : decode cX9_digitsOf 0 = .ok (.iload_n 0, 1) := by decide +kernel
theorem dX9_digitsOf_1 : decode cX9_digitsOf 1 = .ok (.lookupswitch 58 #[(97, 53), (103, 53), (114, 51), (119, 55), (120, 51)], 51) := by decide +kernel
theorem dX9_digitsOf_52 : decode cX9_digitsOf 52 = .ok (.iconst 2, 1) := by decide +kernel
theorem dX9_digitsOf_53 : decode cX9_digitsOf 53 = .ok (.ireturn, 1) := by decide +kernel
theorem dX9_digitsOf_54 : decode cX9_digitsOf 54 = .ok (.iconst 3, 1) := by decide +kernel
theorem dX9_digitsOf_55 : decode cX9_digitsOf 55 = .ok (.ireturn, 1) := by decide +kernel
theorem dX9_digitsOf_56 : decode cX9_digitsOf 56 = .ok (.bipush 7, 2) := by decide +kernel
theorem dX9_digitsOf_58 : decode cX9_digitsOf 58 = .ok (.ireturn, 1) := by decide +kernel
theorem dX9_digitsOf_59 : decode cX9_digitsOf 59 = .ok (.iconst (-1), 1) := by decide +kernel
theorem dX9_digitsOf_60 : decode cX9_digitsOf 60 = .ok (.ireturn, 1) := by decide +kernel
set_option maxRecDepth 20000 in
set_option maxHeartbeats 4000000 in
theorem s_X9_digitsOf (l : Launch) (g : GG) {a0 : Int32} {σ : SS} {r : Int32} (h : f_X9_digitsOf a0 = r) : CT l g 0 yX9_digitsOf cX9_digitsOf 1 (some .int) [.int a0] σ (some (.int r), σ) := by
  refine CT.of (lv := [(0, .int a0)]) RX9 (by decide +kernel) rfl (Nat.le_of_ble_eq_true rfl) rfl ?_
  unfold f_X9_digitsOf at h
  refine vr_iload_n (pc := 0) 0 dX9_digitsOf_0 rfl rfl ?_
  by_cases c1 : a0 = 97
  · rw [if_pos c1] at h
    refine vr_lookup (pc := 1) 53 54 dX9_digitsOf_1 (by decide) (by rw [c1]; rfl) (by decide) ?_
    refine vr_iconst (pc := 54) 3 dX9_digitsOf_54 ci_3 ?_
    subst h
    exact vr_iret (pc := 55) .int dX9_digitsOf_55 rfl rfl rfl
  · rw [if_neg c1] at h
    by_cases c2 : a0 = 103
    · rw [if_pos c2] at h
      refine vr_lookup (pc := 1) 53 54 dX9_digitsOf_1 (by decide) (by rw [c2]; rfl) (by decide) ?_
      refine vr_iconst (pc := 54) 3 dX9_digitsOf_54 ci_3 ?_
      subst h
      exact vr_iret (pc := 55) .int dX9_digitsOf_55 rfl rfl rfl
    · rw [if_neg c2] at h
      by_cases c3 : a0 = 114
      · rw [if_pos c3] at h
        refine vr_lookup (pc := 1) 51 52 dX9_digitsOf_1 (by decide) (by rw [c3]; rfl) (by decide) ?_
        refine vr_iconst (pc := 52) 2 dX9_digitsOf_52 ci_2 ?_
        subst h
        exact vr_iret (pc := 53) .int dX9_digitsOf_53 rfl rfl rfl
      · rw [if_neg c3] at h
        by_cases c4 : a0 = 119
        · rw [if_pos c4] at h
          refine vr_lookup (pc := 1) 55 56 dX9_digitsOf_1 (by decide) (by rw [c4]; rfl) (by decide) ?_
          refine vr_bipush (pc := 56) 7 dX9_digitsOf_56 cb_7 ?_
          subst h
          exact vr_iret (pc := 58) .int dX9_digitsOf_58 rfl rfl rfl
        · rw [if_neg c4] at h
          by_cases c5 : a0 = 120
          · rw [if_pos c5] at h
            refine vr_lookup (pc := 1) 51 52 dX9_digitsOf_1 (by decide) (by rw [c5]; rfl) (by decide) ?_
            refine vr_iconst (pc := 52) 2 dX9_digitsOf_52 ci_2 ?_
            subst h
            exact vr_iret (pc := 53) .int dX9_digitsOf_53 rfl rfl rfl
          · rw [if_neg c5] at h
            refine vr_lookup (pc := 1) 58 59 dX9_digitsOf_1 (by decide) (by simp only [Op.lookupswitch.offset]; have nc1 := i32_ne (n := 97) (by decide) c1; have nc2 := i32_ne (n := 103) (by decide) c2; have nc3 := i32_ne (n := 114) (by decide) c3; have nc4 := i32_ne (n := 119) (by decide) c4; have nc5 := i32_ne (n := 120) (by decide) c5; simp [nc1, nc2, nc3, nc4, nc5, Ne.symm, eq_comm]) (by decide) ?_
            refine vr_iconst (pc := 59) (-1) dX9_digitsOf_59 ci_m1 ?_
            subst h
            exact vr_iret (pc := 60) .int dX9_digitsOf_60 rfl rfl rfl
theorem dX9_badLetter_0 : decode cX9_badLetter 0 = .ok (.aload_n 0, 1) := by decide +kernel
theorem dX9_badLetter_1 : decode cX9_badLetter 1 = .ok (.getfield 115, 3) := by decide +kernel
theorem dX9_badLetter_4 : decode cX9_badLetter 4 = .ok (.ifCond .ne 5, 3) := by decide +kernel
theorem dX9_badLetter_7 : decode cX9_badLetter 7 = .ok (.iconst 0, 1) := by decide +kernel
theorem dX9_badLetter_8 : decode cX9_badLetter 8 = .ok (.ireturn, 1) := by decide +kernel
theorem dX9_badLetter_9 : decode cX9_badLetter 9 = .ok (.iconst 0, 1) := by decide +kernel
theorem dX9_badLetter_10 : decode cX9_badLetter 10 = .ok (.istore_n 1, 1) := by decide +kernel
theorem dX9_badLetter_11 : decode cX9_badLetter 11 = .ok (.iload_n 1, 1) := by decide +kernel
theorem dX9_badLetter_12 : decode cX9_badLetter 12 = .ok (.aload_n 0, 1) := by decide +kernel
theorem dX9_badLetter_13 : decode cX9_badLetter 13 = .ok (.getfield 115, 3) := by decide +kernel
theorem dX9_badLetter_16 : decode cX9_badLetter 16 = .ok (.if_icmp .ge 97, 3) := by decide +kernel
theorem dX9_badLetter_19 : decode cX9_badLetter 19 = .ok (.aload_n 0, 1) := by decide +kernel
theorem dX9_badLetter_20 : decode cX9_badLetter 20 = .ok (.getfield 38, 3) := by decide +kernel
theorem dX9_badLetter_23 : decode cX9_badLetter 23 = .ok (.iload_n 1, 1) := by decide +kernel
theorem dX9_badLetter_24 : decode cX9_badLetter 24 = .ok (.iaload, 1) := by decide +kernel
theorem dX9_badLetter_25 : decode cX9_badLetter 25 = .ok (.invokestatic 118, 3) := by decide +kernel
theorem dX9_badLetter_28 : decode cX9_badLetter 28 = .ok (.istore_n 2, 1) := by decide +kernel
theorem dX9_badLetter_29 : decode cX9_badLetter 29 = .ok (.iload_n 2, 1) := by decide +kernel
theorem dX9_badLetter_30 : decode cX9_badLetter 30 = .ok (.ifCond .ge 5, 3) := by decide +kernel
theorem dX9_badLetter_33 : decode cX9_badLetter 33 = .ok (.iload_n 1, 1) := by decide +kernel
theorem dX9_badLetter_34 : decode cX9_badLetter 34 = .ok (.ireturn, 1) := by decide +kernel
theorem dX9_badLetter_35 : decode cX9_badLetter 35 = .ok (.iconst 1, 1) := by decide +kernel
theorem dX9_badLetter_36 : decode cX9_badLetter 36 = .ok (.istore_n 3, 1) := by decide +kernel
theorem dX9_badLetter_37 : decode cX9_badLetter 37 = .ok (.iload_n 3, 1) := by decide +kernel
theorem dX9_badLetter_38 : decode cX9_badLetter 38 = .ok (.iload_n 2, 1) := by decide +kernel
theorem dX9_badLetter_39 : decode cX9_badLetter 39 = .ok (.if_icmp .gt 41, 3) := by decide +kernel
theorem dX9_badLetter_42 : decode cX9_badLetter 42 = .ok (.iload_n 1, 1) := by decide +kernel
theorem dX9_badLetter_43 : decode cX9_badLetter 43 = .ok (.iload_n 3, 1) := by decide +kernel
theorem dX9_badLetter_44 : decode cX9_badLetter 44 = .ok (.iadd, 1) := by decide +kernel
theorem dX9_badLetter_45 : decode cX9_badLetter 45 = .ok (.aload_n 0, 1) := by decide +kernel
theorem dX9_badLetter_46 : decode cX9_badLetter 46 = .ok (.getfield 115, 3) := by decide +kernel
theorem dX9_badLetter_49 : decode cX9_badLetter 49 = .ok (.if_icmp .ge 21, 3) := by decide +kernel
theorem dX9_badLetter_52 : decode cX9_badLetter 52 = .ok (.aload_n 0, 1) := by decide +kernel
theorem dX9_badLetter_53 : decode cX9_badLetter 53 = .ok (.getfield 38, 3) := by decide +kernel
theorem dX9_badLetter_56 : decode cX9_badLetter 56 = .ok (.iload_n 1, 1) := by decide +kernel
theorem dX9_badLetter_57 : decode cX9_badLetter 57 = .ok (.iload_n 3, 1) := by decide +kernel
theorem dX9_badLetter_58 : decode cX9_badLetter 58 = .ok (.iadd, 1) := by decide +kernel
theorem dX9_badLetter_59 : decode cX9_badLetter 59 = .ok (.iaload, 1) := by decide +kernel
theorem dX9_badLetter_60 : decode cX9_badLetter 60 = .ok (.bipush 48, 2) := by decide +kernel
theorem dX9_badLetter_62 : decode cX9_badLetter 62 = .ok (.bipush 57, 2) := by decide +kernel
theorem dX9_badLetter_64 : decode cX9_badLetter 64 = .ok (.invokestatic 111, 3) := by decide +kernel
theorem dX9_badLetter_67 : decode cX9_badLetter 67 = .ok (.ifCond .ne 7, 3) := by decide +kernel
theorem dX9_badLetter_70 : decode cX9_badLetter 70 = .ok (.iload_n 1, 1) := by decide +kernel
theorem dX9_badLetter_71 : decode cX9_badLetter 71 = .ok (.iload_n 3, 1) := by decide +kernel
theorem dX9_badLetter_72 : decode cX9_badLetter 72 = .ok (.iadd, 1) := by decide +kernel
theorem dX9_badLetter_73 : decode cX9_badLetter 73 = .ok (.ireturn, 1) := by decide +kernel
theorem dX9_badLetter_74 : decode cX9_badLetter 74 = .ok (.iinc 3 1, 3) := by decide +kernel
theorem dX9_badLetter_77 : decode cX9_badLetter 77 = .ok (.goto (-40), 3) := by decide +kernel
theorem dX9_badLetter_80 : decode cX9_badLetter 80 = .ok (.iload_n 1, 1) := by decide +kernel
theorem dX9_badLetter_81 : decode cX9_badLetter 81 = .ok (.iload_n 2, 1) := by decide +kernel
theorem dX9_badLetter_82 : decode cX9_badLetter 82 = .ok (.iconst 1, 1) := by decide +kernel
theorem dX9_badLetter_83 : decode cX9_badLetter 83 = .ok (.iadd, 1) := by decide +kernel
theorem dX9_badLetter_84 : decode cX9_badLetter 84 = .ok (.iadd, 1) := by decide +kernel
theorem dX9_badLetter_85 : decode cX9_badLetter 85 = .ok (.istore_n 1, 1) := by decide +kernel
theorem dX9_badLetter_86 : decode cX9_badLetter 86 = .ok (.iload_n 1, 1) := by decide +kernel
theorem dX9_badLetter_87 : decode cX9_badLetter 87 = .ok (.aload_n 0, 1) := by decide +kernel
theorem dX9_badLetter_88 : decode cX9_badLetter 88 = .ok (.getfield 115, 3) := by decide +kernel
theorem dX9_badLetter_91 : decode cX9_badLetter 91 = .ok (.if_icmp .ge 14, 3) := by decide +kernel
theorem dX9_badLetter_94 : decode cX9_badLetter 94 = .ok (.aload_n 0, 1) := by decide +kernel
theorem dX9_badLetter_95 : decode cX9_badLetter 95 = .ok (.getfield 38, 3) := by decide +kernel
theorem dX9_badLetter_98 : decode cX9_badLetter 98 = .ok (.iload_n 1, 1) := by decide +kernel
theorem dX9_badLetter_99 : decode cX9_badLetter 99 = .ok (.iaload, 1) := by decide +kernel
theorem dX9_badLetter_100 : decode cX9_badLetter 100 = .ok (.bipush 59, 2) := by decide +kernel
theorem dX9_badLetter_102 : decode cX9_badLetter 102 = .ok (.if_icmp .eq 5, 3) := by decide +kernel
theorem dX9_badLetter_105 : decode cX9_badLetter 105 = .ok (.iload_n 1, 1) := by decide +kernel
theorem dX9_badLetter_106 : decode cX9_badLetter 106 = .ok (.ireturn, 1) := by decide +kernel
theorem dX9_badLetter_107 : decode cX9_badLetter 107 = .ok (.iinc 1 1, 3) := by decide +kernel
theorem dX9_badLetter_110 : decode cX9_badLetter 110 = .ok (.goto (-99), 3) := by decide +kernel
theorem dX9_badLetter_113 : decode cX9_badLetter 113 = .ok (.iconst (-1), 1) := by decide +kernel
theorem dX9_badLetter_114 : decode cX9_badLetter 114 = .ok (.ireturn, 1) := by decide +kernel
set_option maxRecDepth 20000 in
set_option maxHeartbeats 4000000 in
theorem v_X9_badLetter_L37 (l : Launch) (g : GG) {r : Int32} {σ : SS} {κ : Nat → Int32 → Int32 → Option Int32} (hκ : ∀ (p0 : Nat) (y1 : Int32) (y2 : Int32) (hp0 : kd p0 = 8), κ p0 y1 y2 = some r → VV l g 1 RX9 cX9_badLetter 4 (some .int) (some (.int r), σ) 80 [(0, .ref (g.1 p0)), (1, .int y1), (2, .int y2)] [] σ) : ∀ (fu : Nat) (q0 : Nat) (x1 : Int32) (x2 : Int32) (x3 : Int32) (hq0 : kd q0 = 8), f_X9_badLetter_L37 σ κ fu q0 x1 x2 x3 = some r → VV l g 1 RX9 cX9_badLetter 4 (some .int) (some (.int r), σ) 37 [(0, .ref (g.1 q0)), (1, .int x1), (2, .int x2), (3, .int x3)] [] σ := by
  intro fu
  induction fu with
  | zero => intro q0 x1 x2 x3 hq0 h; cases h
  | succ fu ih =>
    intro q0 x1 x2 x3 hq0 h
    simp only [f_X9_badLetter_L37] at h
    refine vr_iload_n (pc := 37) 3 dX9_badLetter_37 rfl rfl ?_
    refine vr_iload_n (pc := 38) 2 dX9_badLetter_38 rfl rfl ?_
    refine vr_icmp_gt (pc := 39) 80 dX9_badLetter_39 (by decide) (fun c5 => ?_) (fun c5 => ?_)
    · rw [if_pos c5] at h
      refine vr_sub [0, 1, 2] [(0, .ref (g.1 q0)), (1, .int x1), (2, .int x2)] rfl ?_
      exact hκ q0 x1 x2 (hq0) h
    · rw [if_neg c5] at h
      refine vr_iload_n (pc := 42) 1 dX9_badLetter_42 rfl rfl ?_
      refine vr_iload_n (pc := 43) 3 dX9_badLetter_43 rfl rfl ?_
      refine vr_iadd (pc := 44) dX9_badLetter_44 ?_
      refine vr_aload_n (pc := 45) 0 dX9_badLetter_45 rfl rfl ?_
      refine vr_getI (pc := 46) 11 dX9_badLetter_46 fi_X9_115 hq0 (sh_8_11 hq0) ?_
      refine vr_icmp_ge (pc := 49) 70 dX9_badLetter_49 (by decide) (fun c6 => ?_) (fun c6 => ?_)
      · rw [if_pos c6] at h
        refine vr_iload_n (pc := 70) 1 dX9_badLetter_70 rfl rfl ?_
        refine vr_iload_n (pc := 71) 3 dX9_badLetter_71 rfl rfl ?_
        refine vr_iadd (pc := 72) dX9_badLetter_72 ?_
        have h := Option.some.inj h; subst h
        exact vr_iret (pc := 73) .int dX9_badLetter_73 rfl rfl rfl
      · rw [if_neg c6] at h
        refine vr_aload_n (pc := 52) 0 dX9_badLetter_52 rfl rfl ?_
        refine vr_getR (pc := 53) 10 dX9_badLetter_53 fi_X9_38 hq0 (sh_8_10 hq0).1 ?_
        refine vr_iload_n (pc := 56) 1 dX9_badLetter_56 rfl rfl ?_
        refine vr_iload_n (pc := 57) 3 dX9_badLetter_57 rfl rfl ?_
        refine vr_iadd (pc := 58) dX9_badLetter_58 ?_
        obtain ⟨hc7, h⟩ := ck_some h
        refine vr_iald (pc := 59) dX9_badLetter_59 (sh_8_10 hq0).2 hc7 ?_
        refine vr_bipush (pc := 60) 48 dX9_badLetter_60 cb_48 ?_
        refine vr_bipush (pc := 62) 57 dX9_badLetter_62 cb_57 ?_
        refine vr_callS (pc := 64) (ρ1 := (some (.int (f_X9_within (σ.1 (rid q0 10) (x1 + x3).toNatClampNeg) 48 57)), σ)) [.int (σ.1 (rid q0 10) (x1 + x3).toNatClampNeg), .int 48, .int 57] dX9_badLetter_64 (s_X9_within l g rfl) cw_X9_within ml_X9_111 (by decide) rfl rfl (Nat.le_of_ble_eq_true rfl) ?_
        refine vr_if_ne (pc := 67) 74 dX9_badLetter_67 (by decide) (fun c8 => ?_) (fun c8 => ?_)
        · rw [if_neg c8] at h
          refine vr_iinc (pc := 74) [(3, .int (x3 + 1)), (0, .ref (g.1 q0)), (1, .int x1), (2, .int x2)] 3 dX9_badLetter_74 rfl (congrArg (fun z => x3 + z) ci_1) (by decide) rfl ?_
          refine vr_goto (pc := 77) 37 dX9_badLetter_77 (by decide) ?_
          refine vr_sub [1, 2, 3, 0] [(0, .ref (g.1 q0)), (1, .int x1), (2, .int x2), (3, .int (x3 + 1))] rfl ?_
          exact ih q0 x1 x2 (x3 + 1) (hq0) h
        · rw [if_pos c8] at h
          refine vr_iload_n (pc := 70) 1 dX9_badLetter_70 rfl rfl ?_
          refine vr_iload_n (pc := 71) 3 dX9_badLetter_71 rfl rfl ?_
          refine vr_iadd (pc := 72) dX9_badLetter_72 ?_
          have h := Option.some.inj h; subst h
          exact vr_iret (pc := 73) .int dX9_badLetter_73 rfl rfl rfl
set_option maxRecDepth 20000 in
set_option maxHeartbeats 4000000 in
theorem v_X9_badLetter_L11 (l : Launch) (g : GG) {r : Int32} {σ : SS} {κ : Unit → Option Int32} (hκ : κ () = some r → VV l g 1 RX9 cX9_badLetter 4 (some .int) (some (.int r), σ) 113 [] [] σ) : ∀ (fu : Nat) (q0 : Nat) (x1 : Int32) (hq0 : kd q0 = 8), f_X9_badLetter_L11 σ κ fu q0 x1 = some r → VV l g 1 RX9 cX9_badLetter 4 (some .int) (some (.int r), σ) 11 [(0, .ref (g.1 q0)), (1, .int x1)] [] σ := by
  intro fu
  induction fu with
  | zero => intro q0 x1 hq0 h; cases h
  | succ fu ih =>
    intro q0 x1 hq0 h
    simp only [f_X9_badLetter_L11] at h
    refine vr_iload_n (pc := 11) 1 dX9_badLetter_11 rfl rfl ?_
    refine vr_aload_n (pc := 12) 0 dX9_badLetter_12 rfl rfl ?_
    refine vr_getI (pc := 13) 11 dX9_badLetter_13 fi_X9_115 hq0 (sh_8_11 hq0) ?_
    refine vr_icmp_ge (pc := 16) 113 dX9_badLetter_16 (by decide) (fun c2 => ?_) (fun c2 => ?_)
    · rw [if_pos c2] at h
      refine vr_sub [] [] rfl ?_
      exact hκ h
    · rw [if_neg c2] at h
      refine vr_aload_n (pc := 19) 0 dX9_badLetter_19 rfl rfl ?_
      refine vr_getR (pc := 20) 10 dX9_badLetter_20 fi_X9_38 hq0 (sh_8_10 hq0).1 ?_
      refine vr_iload_n (pc := 23) 1 dX9_badLetter_23 rfl rfl ?_
      obtain ⟨hc3, h⟩ := ck_some h
      refine vr_iald (pc := 24) dX9_badLetter_24 (sh_8_10 hq0).2 hc3 ?_
      refine vr_callS (pc := 25) (ρ1 := (some (.int (f_X9_digitsOf (σ.1 (rid q0 10) x1.toNatClampNeg))), σ)) [.int (σ.1 (rid q0 10) x1.toNatClampNeg)] dX9_badLetter_25 (s_X9_digitsOf l g rfl) cw_X9_digitsOf ml_X9_118 (by decide) rfl rfl (Nat.le_of_ble_eq_true rfl) ?_
      refine vr_istore_n (pc := 28) [(2, .int (f_X9_digitsOf (σ.1 (rid q0 10) x1.toNatClampNeg))), (0, .ref (g.1 q0)), (1, .int x1)] dX9_badLetter_28 rfl (by decide) rfl ?_
      refine vr_iload_n (pc := 29) 0 dX9_badLetter_29 rfl rfl ?_
      refine vr_if_ge (pc := 30) 35 dX9_badLetter_30 (by decide) (fun c4 => ?_) (fun c4 => ?_)
      · rw [if_pos c4] at h
        refine vr_iconst (pc := 35) 1 dX9_badLetter_35 ci_1 ?_
        refine vr_istore_n (pc := 36) [(3, .int 1), (2, .int (f_X9_digitsOf (σ.1 (rid q0 10) x1.toNatClampNeg))), (0, .ref (g.1 q0)), (1, .int x1)] dX9_badLetter_36 rfl (by decide) rfl ?_
        refine vr_sub [2, 3, 1, 0] [(0, .ref (g.1 q0)), (1, .int x1), (2, .int (f_X9_digitsOf (σ.1 (rid q0 10) x1.toNatClampNeg))), (3, .int 1)] rfl ?_
        refine v_X9_badLetter_L37 l g (fun p0 y1 y2 hp0 h => ?_) FU q0 x1 (f_X9_digitsOf (σ.1 (rid q0 10) x1.toNatClampNeg)) 1 (hq0) h
        refine vr_iload_n (pc := 80) 1 dX9_badLetter_80 rfl rfl ?_
        refine vr_iload_n (pc := 81) 2 dX9_badLetter_81 rfl rfl ?_
        refine vr_iconst (pc := 82) 1 dX9_badLetter_82 ci_1 ?_
        refine vr_iadd (pc := 83) dX9_badLetter_83 ?_
        refine vr_iadd (pc := 84) dX9_badLetter_84 ?_
        refine vr_istore_n (pc := 85) [(1, .int (y1 + (y2 + 1))), (0, .ref (g.1 p0)), (2, .int y2)] dX9_badLetter_85 rfl (by decide) rfl ?_
        refine vr_iload_n (pc := 86) 0 dX9_badLetter_86 rfl rfl ?_
        refine vr_aload_n (pc := 87) 1 dX9_badLetter_87 rfl rfl ?_
        refine vr_getI (pc := 88) 11 dX9_badLetter_88 fi_X9_115 hp0 (sh_8_11 hp0) ?_
        refine vr_icmp_ge (pc := 91) 105 dX9_badLetter_91 (by decide) (fun c9 => ?_) (fun c9 => ?_)
        · rw [if_pos c9] at h
          refine vr_iload_n (pc := 105) 0 dX9_badLetter_105 rfl rfl ?_
          have h := Option.some.inj h; subst h
          exact vr_iret (pc := 106) .int dX9_badLetter_106 rfl rfl rfl
        · rw [if_neg c9] at h
          refine vr_aload_n (pc := 94) 1 dX9_badLetter_94 rfl rfl ?_
          refine vr_getR (pc := 95) 10 dX9_badLetter_95 fi_X9_38 hp0 (sh_8_10 hp0).1 ?_
          refine vr_iload_n (pc := 98) 0 dX9_badLetter_98 rfl rfl ?_
          obtain ⟨hc10, h⟩ := ck_some h
          refine vr_iald (pc := 99) dX9_badLetter_99 (sh_8_10 hp0).2 hc10 ?_
          refine vr_bipush (pc := 100) 59 dX9_badLetter_100 cb_59 ?_
          refine vr_icmp_eq (pc := 102) 107 dX9_badLetter_102 (by decide) (fun c11 => ?_) (fun c11 => ?_)
          · rw [if_pos c11] at h
            refine vr_iinc (pc := 107) [(1, .int ((y1 + (y2 + 1)) + 1)), (0, .ref (g.1 p0)), (2, .int y2)] 0 dX9_badLetter_107 rfl (congrArg (fun z => (y1 + (y2 + 1)) + z) ci_1) (by decide) rfl ?_
            refine vr_goto (pc := 110) 11 dX9_badLetter_110 (by decide) ?_
            refine vr_sub [1, 0] [(0, .ref (g.1 p0)), (1, .int ((y1 + (y2 + 1)) + 1))] rfl ?_
            exact ih p0 ((y1 + (y2 + 1)) + 1) (hp0) h
          · rw [if_neg c11] at h
            refine vr_iload_n (pc := 105) 0 dX9_badLetter_105 rfl rfl ?_
            have h := Option.some.inj h; subst h
            exact vr_iret (pc := 106) .int dX9_badLetter_106 rfl rfl rfl
      · rw [if_neg c4] at h
        refine vr_iload_n (pc := 33) 2 dX9_badLetter_33 rfl rfl ?_
        have h := Option.some.inj h; subst h
        exact vr_iret (pc := 34) .int dX9_badLetter_34 rfl rfl rfl
set_option maxRecDepth 20000 in
set_option maxHeartbeats 4000000 in
theorem s_X9_badLetter (l : Launch) (g : GG) {q0 : Nat} (hq0 : kd q0 = 8) {σ : SS} {r : Int32} (h : f_X9_badLetter q0 σ = some r) : CT l g 1 yX9_badLetter cX9_badLetter 4 (some .int) [.ref (g.1 q0)] σ (some (.int r), σ) := by
  refine CT.of (lv := [(0, .ref (g.1 q0))]) RX9 (by decide +kernel) rfl (Nat.le_of_ble_eq_true rfl) rfl ?_
  unfold f_X9_badLetter at h
  refine vr_aload_n (pc := 0) 0 dX9_badLetter_0 rfl rfl ?_
  refine vr_getI (pc := 1) 11 dX9_badLetter_1 fi_X9_115 hq0 (sh_8_11 hq0) ?_
  refine vr_if_ne (pc := 4) 9 dX9_badLetter_4 (by decide) (fun c1 => ?_) (fun c1 => ?_)
  · rw [if_neg c1] at h
    refine vr_iconst (pc := 9) 0 dX9_badLetter_9 ci_0 ?_
    refine vr_istore_n (pc := 10) [(1, .int 0), (0, .ref (g.1 q0))] dX9_badLetter_10 rfl (by decide) rfl ?_
    refine vr_sub [1, 0] [(0, .ref (g.1 q0)), (1, .int 0)] rfl ?_
    refine v_X9_badLetter_L11 l g (fun h => ?_) FU q0 0 (hq0) h
    refine vr_iconst (pc := 113) (-1) dX9_badLetter_113 ci_m1 ?_
    have h := Option.some.inj h; subst h
    exact vr_iret (pc := 114) .int dX9_badLetter_114 rfl rfl rfl
  · rw [if_pos c1] at h
    refine vr_iconst (pc := 7) 0 dX9_badLetter_7 ci_0 ?_
    have h := Option.some.inj h; subst h
    exact vr_iret (pc := 8) .int dX9_badLetter_8 rfl rfl rfl
theorem dX9_one_0 : decode cX9_one 0 = .ok (.aload_n 0, 1) := by decide +kernel
theorem dX9_one_1 : decode cX9_one 1 = .ok (.getfield 38, 3) := by decide +kernel
theorem dX9_one_4 : decode cX9_one 4 = .ok (.iload_n 1, 1) := by decide +kernel
theorem dX9_one_5 : decode cX9_one 5 = .ok (.iaload, 1) := by decide +kernel
theorem dX9_one_6 : decode cX9_one 6 = .ok (.bipush 48, 2) := by decide +kernel
theorem dX9_one_8 : decode cX9_one 8 = .ok (.isub, 1) := by decide +kernel
theorem dX9_one_9 : decode cX9_one 9 = .ok (.ireturn, 1) := by decide +kernel
set_option maxRecDepth 20000 in
set_option maxHeartbeats 4000000 in
theorem s_X9_one (l : Launch) (g : GG) {q0 : Nat} (hq0 : kd q0 = 8) {a1 : Int32} {σ : SS} {r : Int32} (h : f_X9_one q0 a1 σ = some r) : CT l g 0 yX9_one cX9_one 2 (some .int) [.ref (g.1 q0), .int a1] σ (some (.int r), σ) := by
  refine CT.of (lv := [(0, .ref (g.1 q0)), (1, .int a1)]) RX9 (by decide +kernel) rfl (Nat.le_of_ble_eq_true rfl) rfl ?_
  unfold f_X9_one at h
  refine vr_aload_n (pc := 0) 0 dX9_one_0 rfl rfl ?_
  refine vr_getR (pc := 1) 10 dX9_one_1 fi_X9_38 hq0 (sh_8_10 hq0).1 ?_
  refine vr_iload_n (pc := 4) 1 dX9_one_4 rfl rfl ?_
  obtain ⟨hc1, h⟩ := ck_some h
  refine vr_iald (pc := 5) dX9_one_5 (sh_8_10 hq0).2 hc1 ?_
  refine vr_bipush (pc := 6) 48 dX9_one_6 cb_48 ?_
  refine vr_isub (pc := 8) dX9_one_8 ?_
  have h := Option.some.inj h; subst h
  exact vr_iret (pc := 9) .int dX9_one_9 rfl rfl rfl
theorem dX9_two_0 : decode cX9_two 0 = .ok (.bipush 10, 2) := by decide +kernel
theorem dX9_two_2 : decode cX9_two 2 = .ok (.aload_n 0, 1) := by decide +kernel
theorem dX9_two_3 : decode cX9_two 3 = .ok (.iload_n 1, 1) := by decide +kernel
theorem dX9_two_4 : decode cX9_two 4 = .ok (.invokevirtual 121, 3) := by decide +kernel
theorem dX9_two_7 : decode cX9_two 7 = .ok (.imul, 1) := by decide +kernel
theorem dX9_two_8 : decode cX9_two 8 = .ok (.aload_n 0, 1) := by decide +kernel
theorem dX9_two_9 : decode cX9_two 9 = .ok (.iload_n 1, 1) := by decide +kernel
theorem dX9_two_10 : decode cX9_two 10 = .ok (.iconst 1, 1) := by decide +kernel
theorem dX9_two_11 : decode cX9_two 11 = .ok (.iadd, 1) := by decide +kernel
theorem dX9_two_12 : decode cX9_two 12 = .ok (.invokevirtual 121, 3) := by decide +kernel
theorem dX9_two_15 : decode cX9_two 15 = .ok (.iadd, 1) := by decide +kernel
theorem dX9_two_16 : decode cX9_two 16 = .ok (.ireturn, 1) := by decide +kernel
set_option maxRecDepth 20000 in
set_option maxHeartbeats 4000000 in
theorem s_X9_two (l : Launch) (g : GG) {q0 : Nat} (hq0 : kd q0 = 8) {a1 : Int32} {σ : SS} {r : Int32} (h : f_X9_two q0 a1 σ = some r) : CT l g 1 yX9_two cX9_two 2 (some .int) [.ref (g.1 q0), .int a1] σ (some (.int r), σ) := by
  refine CT.of (lv := [(0, .ref (g.1 q0)), (1, .int a1)]) RX9 (by decide +kernel) rfl (Nat.le_of_ble_eq_true rfl) rfl ?_
  unfold f_X9_two at h
  refine vr_bipush (pc := 0) 10 dX9_two_0 cb_10 ?_
  refine vr_aload_n (pc := 2) 0 dX9_two_2 rfl rfl ?_
  refine vr_iload_n (pc := 3) 1 dX9_two_3 rfl rfl ?_
  obtain ⟨z1, hz2, h⟩ := ob_some h
  refine vr_callV (pc := 4) (ρ1 := (some (.int z1), σ)) [.int a1] dX9_two_4 (s_X9_one l g (hq0) hz2) cw_X9_one ml_X9_121 hq0 rfl (by decide) (by decide) rfl rfl (Nat.le_of_ble_eq_true rfl) ?_
  refine vr_imul (pc := 7) dX9_two_7 ?_
  refine vr_aload_n (pc := 8) 0 dX9_two_8 rfl rfl ?_
  refine vr_iload_n (pc := 9) 1 dX9_two_9 rfl rfl ?_
  refine vr_iconst (pc := 10) 1 dX9_two_10 ci_1 ?_
  refine vr_iadd (pc := 11) dX9_two_11 ?_
  obtain ⟨z3, hz4, h⟩ := ob_some h
  refine vr_callV (pc := 12) (ρ1 := (some (.int z3), σ)) [.int (a1 + 1)] dX9_two_12 (s_X9_one l g (hq0) hz4) cw_X9_one ml_X9_121 hq0 rfl (by decide) (by decide) rfl rfl (Nat.le_of_ble_eq_true rfl) ?_
  refine vr_iadd (pc := 15) dX9_two_15 ?_
  have h := Option.some.inj h; subst h
  exact vr_iret (pc := 16) .int dX9_two_16 rfl rfl rfl
theorem dX9_fitsAll_0 : decode cX9_fitsAll 0 = .ok (.iconst 0, 1) := by decide +kernel
theorem dX9_fitsAll_1 : decode cX9_fitsAll 1 = .ok (.istore_n 2, 1) := by decide +kernel
theorem dX9_fitsAll_2 : decode cX9_fitsAll 2 = .ok (.iload_n 2, 1) := by decide +kernel
theorem dX9_fitsAll_3 : decode cX9_fitsAll 3 = .ok (.aload_n 0, 1) := by decide +kernel
theorem dX9_fitsAll_4 : decode cX9_fitsAll 4 = .ok (.getfield 108, 3) := by decide +kernel
theorem dX9_fitsAll_7 : decode cX9_fitsAll 7 = .ok (.if_icmp .ge 31, 3) := by decide +kernel
theorem dX9_fitsAll_10 : decode cX9_fitsAll 10 = .ok (.aload_n 0, 1) := by decide +kernel
theorem dX9_fitsAll_11 : decode cX9_fitsAll 11 = .ok (.getfield 23, 3) := by decide +kernel
theorem dX9_fitsAll_14 : decode cX9_fitsAll 14 = .ok (.iload_n 2, 1) := by decide +kernel
theorem dX9_fitsAll_15 : decode cX9_fitsAll 15 = .ok (.iaload, 1) := by decide +kernel
theorem dX9_fitsAll_16 : decode cX9_fitsAll 16 = .ok (.iload_n 1, 1) := by decide +kernel
theorem dX9_fitsAll_17 : decode cX9_fitsAll 17 = .ok (.if_icmp .ge 13, 3) := by decide +kernel
theorem dX9_fitsAll_20 : decode cX9_fitsAll 20 = .ok (.aload_n 0, 1) := by decide +kernel
theorem dX9_fitsAll_21 : decode cX9_fitsAll 21 = .ok (.getfield 32, 3) := by decide +kernel
theorem dX9_fitsAll_24 : decode cX9_fitsAll 24 = .ok (.iload_n 2, 1) := by decide +kernel
theorem dX9_fitsAll_25 : decode cX9_fitsAll 25 = .ok (.iaload, 1) := by decide +kernel
theorem dX9_fitsAll_26 : decode cX9_fitsAll 26 = .ok (.iload_n 1, 1) := by decide +kernel
theorem dX9_fitsAll_27 : decode cX9_fitsAll 27 = .ok (.if_icmp .lt 5, 3) := by decide +kernel
theorem dX9_fitsAll_30 : decode cX9_fitsAll 30 = .ok (.iconst 0, 1) := by decide +kernel
theorem dX9_fitsAll_31 : decode cX9_fitsAll 31 = .ok (.ireturn, 1) := by decide +kernel
theorem dX9_fitsAll_32 : decode cX9_fitsAll 32 = .ok (.iinc 2 1, 3) := by decide +kernel
theorem dX9_fitsAll_35 : decode cX9_fitsAll 35 = .ok (.goto (-33), 3) := by decide +kernel
theorem dX9_fitsAll_38 : decode cX9_fitsAll 38 = .ok (.iconst 1, 1) := by decide +kernel
theorem dX9_fitsAll_39 : decode cX9_fitsAll 39 = .ok (.ireturn, 1) := by decide +kernel
set_option maxRecDepth 20000 in
set_option maxHeartbeats 4000000 in
theorem v_X9_fitsAll_L2 (l : Launch) (g : GG) {r : Int32} {σ : SS} {κ : Unit → Option Int32} (hκ : κ () = some r → VV l g 0 RX9 cX9_fitsAll 3 (some .boolean) (some (.int r), σ) 38 [] [] σ) : ∀ (fu : Nat) (q0 : Nat) (x1 : Int32) (x2 : Int32) (hq0 : kd q0 = 8), f_X9_fitsAll_L2 σ κ fu q0 x1 x2 = some r → VV l g 0 RX9 cX9_fitsAll 3 (some .boolean) (some (.int r), σ) 2 [(0, .ref (g.1 q0)), (1, .int x1), (2, .int x2)] [] σ := by
  intro fu
  induction fu with
  | zero => intro q0 x1 x2 hq0 h; cases h
  | succ fu ih =>
    intro q0 x1 x2 hq0 h
    simp only [f_X9_fitsAll_L2] at h
    refine vr_iload_n (pc := 2) 2 dX9_fitsAll_2 rfl rfl ?_
    refine vr_aload_n (pc := 3) 0 dX9_fitsAll_3 rfl rfl ?_
    refine vr_getI (pc := 4) 3 dX9_fitsAll_4 fi_X9_108 hq0 (sh_8_3 hq0) ?_
    refine vr_icmp_ge (pc := 7) 38 dX9_fitsAll_7 (by decide) (fun c1 => ?_) (fun c1 => ?_)
    · rw [if_pos c1] at h
      refine vr_sub [] [] rfl ?_
      exact hκ h
    · rw [if_neg c1] at h
      refine vr_aload_n (pc := 10) 0 dX9_fitsAll_10 rfl rfl ?_
      refine vr_getR (pc := 11) 5 dX9_fitsAll_11 fi_X9_23 hq0 (sh_8_5 hq0).1 ?_
      refine vr_iload_n (pc := 14) 2 dX9_fitsAll_14 rfl rfl ?_
      obtain ⟨hc2, h⟩ := ck_some h
      refine vr_iald (pc := 15) dX9_fitsAll_15 (sh_8_5 hq0).2 hc2 ?_
      refine vr_iload_n (pc := 16) 1 dX9_fitsAll_16 rfl rfl ?_
      refine vr_icmp_ge (pc := 17) 30 dX9_fitsAll_17 (by decide) (fun c3 => ?_) (fun c3 => ?_)
      · rw [if_pos c3] at h
        refine vr_iconst (pc := 30) 0 dX9_fitsAll_30 ci_0 ?_
        have h := Option.some.inj h; subst h
        exact vr_iret (pc := 31) .boolean dX9_fitsAll_31 rfl rfl rfl
      · rw [if_neg c3] at h
        refine vr_aload_n (pc := 20) 0 dX9_fitsAll_20 rfl rfl ?_
        refine vr_getR (pc := 21) 8 dX9_fitsAll_21 fi_X9_32 hq0 (sh_8_8 hq0).1 ?_
        refine vr_iload_n (pc := 24) 2 dX9_fitsAll_24 rfl rfl ?_
        obtain ⟨hc4, h⟩ := ck_some h
        refine vr_iald (pc := 25) dX9_fitsAll_25 (sh_8_8 hq0).2 hc4 ?_
        refine vr_iload_n (pc := 26) 1 dX9_fitsAll_26 rfl rfl ?_
        refine vr_icmp_lt (pc := 27) 32 dX9_fitsAll_27 (by decide) (fun c5 => ?_) (fun c5 => ?_)
        · rw [if_pos c5] at h
          refine vr_iinc (pc := 32) [(2, .int (x2 + 1)), (0, .ref (g.1 q0)), (1, .int x1)] 2 dX9_fitsAll_32 rfl (congrArg (fun z => x2 + z) ci_1) (by decide) rfl ?_
          refine vr_goto (pc := 35) 2 dX9_fitsAll_35 (by decide) ?_
          refine vr_sub [1, 2, 0] [(0, .ref (g.1 q0)), (1, .int x1), (2, .int (x2 + 1))] rfl ?_
          exact ih q0 x1 (x2 + 1) (hq0) h
        · rw [if_neg c5] at h
          refine vr_iconst (pc := 30) 0 dX9_fitsAll_30 ci_0 ?_
          have h := Option.some.inj h; subst h
          exact vr_iret (pc := 31) .boolean dX9_fitsAll_31 rfl rfl rfl
set_option maxRecDepth 20000 in
set_option maxHeartbeats 4000000 in
theorem s_X9_fitsAll (l : Launch) (g : GG) {q0 : Nat} (hq0 : kd q0 = 8) {a1 : Int32} {σ : SS} {r : Int32} (h : f_X9_fitsAll q0 a1 σ = some r) : CT l g 0 yX9_fitsAll cX9_fitsAll 3 (some .boolean) [.ref (g.1 q0), .int a1] σ (some (.int r), σ) := by
  refine CT.of (lv := [(0, .ref (g.1 q0)), (1, .int a1)]) RX9 (by decide +kernel) rfl (Nat.le_of_ble_eq_true rfl) rfl ?_
  unfold f_X9_fitsAll at h
  refine vr_iconst (pc := 0) 0 dX9_fitsAll_0 ci_0 ?_
  refine vr_istore_n (pc := 1) [(2, .int 0), (0, .ref (g.1 q0)), (1, .int a1)] dX9_fitsAll_1 rfl (by decide) rfl ?_
  refine vr_sub [1, 2, 0] [(0, .ref (g.1 q0)), (1, .int a1), (2, .int 0)] rfl ?_
  refine v_X9_fitsAll_L2 l g (fun h => ?_) FU q0 a1 0 (hq0) h
  refine vr_iconst (pc := 38) 1 dX9_fitsAll_38 ci_1 ?_
  have h := Option.some.inj h; subst h
  exact vr_iret (pc := 39) .boolean dX9_fitsAll_39 rfl rfl rfl
theorem dX9_becomes_0 : decode cX9_becomes 0 = .ok (.aload_n 0, 1) := by decide +kernel
theorem dX9_becomes_1 : decode cX9_becomes 1 = .ok (.iload_n 1, 1) := by decide +kernel
theorem dX9_becomes_2 : decode cX9_becomes 2 = .ok (.putfield 7, 3) := by decide +kernel
theorem dX9_becomes_5 : decode cX9_becomes 5 = .ok (.iconst 0, 1) := by decide +kernel
theorem dX9_becomes_6 : decode cX9_becomes 6 = .ok (.istore_n 2, 1) := by decide +kernel
theorem dX9_becomes_7 : decode cX9_becomes 7 = .ok (.iload_n 2, 1) := by decide +kernel
theorem dX9_becomes_8 : decode cX9_becomes 8 = .ok (.bipush 60, 2) := by decide +kernel
theorem dX9_becomes_10 : decode cX9_becomes 10 = .ok (.if_icmp .ge 23, 3) := by decide +kernel
theorem dX9_becomes_13 : decode cX9_becomes 13 = .ok (.aload_n 0, 1) := by decide +kernel
theorem dX9_becomes_14 : decode cX9_becomes 14 = .ok (.getfield 13, 3) := by decide +kernel
theorem dX9_becomes_17 : decode cX9_becomes 17 = .ok (.iload_n 2, 1) := by decide +kernel
theorem dX9_becomes_18 : decode cX9_becomes 18 = .ok (.iconst 0, 1) := by decide +kernel
theorem dX9_becomes_19 : decode cX9_becomes 19 = .ok (.iastore, 1) := by decide +kernel
theorem dX9_becomes_20 : decode cX9_becomes 20 = .ok (.aload_n 0, 1) := by decide +kernel
theorem dX9_becomes_21 : decode cX9_becomes 21 = .ok (.getfield 17, 3) := by decide +kernel
theorem dX9_becomes_24 : decode cX9_becomes 24 = .ok (.iload_n 2, 1) := by decide +kernel
theorem dX9_becomes_25 : decode cX9_becomes 25 = .ok (.iconst 0, 1) := by decide +kernel
theorem dX9_becomes_26 : decode cX9_becomes 26 = .ok (.iastore, 1) := by decide +kernel
theorem dX9_becomes_27 : decode cX9_becomes 27 = .ok (.iinc 2 1, 3) := by decide +kernel
theorem dX9_becomes_30 : decode cX9_becomes 30 = .ok (.goto (-23), 3) := by decide +kernel
theorem dX9_becomes_33 : decode cX9_becomes 33 = .ok (.return_, 1) := by decide +kernel
set_option maxRecDepth 20000 in
set_option maxHeartbeats 4000000 in
theorem v_X9_becomes_L7 (l : Launch) (g : GG) {r : SS} {κ : SS → Option SS} (hκ : ∀ (τ : SS) , κ  τ = some r → VV l g 0 RX9 cX9_becomes 3 none (none, r) 33 [] [] τ) : ∀ (fu : Nat) (q0 : Nat) (x2 : Int32) (hq0 : kd q0 = 8) (σ : SS), f_X9_becomes_L7 κ fu q0 x2 σ = some r → VV l g 0 RX9 cX9_becomes 3 none (none, r) 7 [(0, .ref (g.1 q0)), (2, .int x2)] [] σ := by
  intro fu
  induction fu with
  | zero => intro q0 x2 hq0 σ h; cases h
  | succ fu ih =>
    intro q0 x2 hq0 σ h
    simp only [f_X9_becomes_L7] at h
    refine vr_iload_n (pc := 7) 1 dX9_becomes_7 rfl rfl ?_
    refine vr_bipush (pc := 8) 60 dX9_becomes_8 cb_60 ?_
    refine vr_icmp_ge (pc := 10) 33 dX9_becomes_10 (by decide) (fun c1 => ?_) (fun c1 => ?_)
    · rw [if_pos c1] at h
      refine vr_sub [] [] rfl ?_
      exact hκ σ h
    · rw [if_neg c1] at h
      refine vr_aload_n (pc := 13) 0 dX9_becomes_13 rfl rfl ?_
      refine vr_getR (pc := 14) 1 dX9_becomes_14 fi_X9_13 hq0 (sh_8_1 hq0).1 ?_
      refine vr_iload_n (pc := 17) 1 dX9_becomes_17 rfl rfl ?_
      refine vr_iconst (pc := 18) 0 dX9_becomes_18 ci_0 ?_
      obtain ⟨hc2, h⟩ := ck_some h
      refine vr_iast (pc := 19) dX9_becomes_19 (sh_8_1 hq0).2 hc2 ?_
      refine vr_aload_n (pc := 20) 0 dX9_becomes_20 rfl rfl ?_
      refine vr_getR (pc := 21) 2 dX9_becomes_21 fi_X9_17 hq0 (sh_8_2 hq0).1 ?_
      refine vr_iload_n (pc := 24) 1 dX9_becomes_24 rfl rfl ?_
      refine vr_iconst (pc := 25) 0 dX9_becomes_25 ci_0 ?_
      obtain ⟨hc3, h⟩ := ck_some h
      refine vr_iast (pc := 26) dX9_becomes_26 (sh_8_2 hq0).2 hc3 ?_
      refine vr_iinc (pc := 27) [(2, .int (x2 + 1)), (0, .ref (g.1 q0))] 1 dX9_becomes_27 rfl (congrArg (fun z => x2 + z) ci_1) (by decide) rfl ?_
      refine vr_goto (pc := 30) 7 dX9_becomes_30 (by decide) ?_
      refine vr_sub [1, 0] [(0, .ref (g.1 q0)), (2, .int (x2 + 1))] rfl ?_
      exact ih q0 (x2 + 1) (hq0) (sI (sI σ (rid q0 1) x2.toNatClampNeg 0) (rid q0 2) x2.toNatClampNeg 0) h
set_option maxRecDepth 20000 in
set_option maxHeartbeats 4000000 in
theorem s_X9_becomes (l : Launch) (g : GG) {q0 : Nat} (hq0 : kd q0 = 8) {a1 : Int32} {σ : SS} {r : SS} (h : f_X9_becomes q0 a1 σ = some r) : CT l g 0 yX9_becomes cX9_becomes 3 none [.ref (g.1 q0), .int a1] σ (none, r) := by
  refine CT.of (lv := [(0, .ref (g.1 q0)), (1, .int a1)]) RX9 (by decide +kernel) rfl (Nat.le_of_ble_eq_true rfl) rfl ?_
  unfold f_X9_becomes at h
  refine vr_aload_n (pc := 0) 0 dX9_becomes_0 rfl rfl ?_
  refine vr_iload_n (pc := 1) 1 dX9_becomes_1 rfl rfl ?_
  refine vr_putI (pc := 2) 0 dX9_becomes_2 fi_X9_7 (fw_8_0 _) hq0 (sh_8_0 hq0) ?_
  refine vr_iconst (pc := 5) 0 dX9_becomes_5 ci_0 ?_
  refine vr_istore_n (pc := 6) [(2, .int 0), (0, .ref (g.1 q0)), (1, .int a1)] dX9_becomes_6 rfl (by decide) rfl ?_
  refine vr_sub [1, 0] [(0, .ref (g.1 q0)), (2, .int 0)] rfl ?_
  refine v_X9_becomes_L7 l g (fun τ h => ?_) FU q0 0 (hq0) (sI σ q0 0 a1) h
  have h := Option.some.inj h; subst h
  exact vr_vret (pc := 33) dX9_becomes_33 rfl rfl
theorem dX9_comes_0 : decode cX9_comes 0 = .ok (.aload_n 0, 1) := by decide +kernel
theorem dX9_comes_1 : decode cX9_comes 1 = .ok (.getfield 20, 3) := by decide +kernel
theorem dX9_comes_4 : decode cX9_comes 4 = .ok (.aload_n 0, 1) := by decide +kernel
theorem dX9_comes_5 : decode cX9_comes 5 = .ok (.getfield 108, 3) := by decide +kernel
theorem dX9_comes_8 : decode cX9_comes 8 = .ok (.iload_n 1, 1) := by decide +kernel
theorem dX9_comes_9 : decode cX9_comes 9 = .ok (.iastore, 1) := by decide +kernel
theorem dX9_comes_10 : decode cX9_comes 10 = .ok (.aload_n 0, 1) := by decide +kernel
theorem dX9_comes_11 : decode cX9_comes 11 = .ok (.getfield 23, 3) := by decide +kernel
theorem dX9_comes_14 : decode cX9_comes 14 = .ok (.aload_n 0, 1) := by decide +kernel
theorem dX9_comes_15 : decode cX9_comes 15 = .ok (.getfield 108, 3) := by decide +kernel
theorem dX9_comes_18 : decode cX9_comes 18 = .ok (.iload_n 2, 1) := by decide +kernel
theorem dX9_comes_19 : decode cX9_comes 19 = .ok (.iastore, 1) := by decide +kernel
theorem dX9_comes_20 : decode cX9_comes 20 = .ok (.aload_n 0, 1) := by decide +kernel
theorem dX9_comes_21 : decode cX9_comes 21 = .ok (.getfield 26, 3) := by decide +kernel
theorem dX9_comes_24 : decode cX9_comes 24 = .ok (.aload_n 0, 1) := by decide +kernel
theorem dX9_comes_25 : decode cX9_comes 25 = .ok (.getfield 108, 3) := by decide +kernel
theorem dX9_comes_28 : decode cX9_comes 28 = .ok (.iload_n 3, 1) := by decide +kernel
theorem dX9_comes_29 : decode cX9_comes 29 = .ok (.iastore, 1) := by decide +kernel
theorem dX9_comes_30 : decode cX9_comes 30 = .ok (.aload_n 0, 1) := by decide +kernel
theorem dX9_comes_31 : decode cX9_comes 31 = .ok (.getfield 29, 3) := by decide +kernel
theorem dX9_comes_34 : decode cX9_comes 34 = .ok (.aload_n 0, 1) := by decide +kernel
theorem dX9_comes_35 : decode cX9_comes 35 = .ok (.getfield 108, 3) := by decide +kernel
theorem dX9_comes_38 : decode cX9_comes 38 = .ok (.iload 5, 2) := by decide +kernel
theorem dX9_comes_40 : decode cX9_comes 40 = .ok (.iastore, 1) := by decide +kernel
theorem dX9_comes_41 : decode cX9_comes 41 = .ok (.aload_n 0, 1) := by decide +kernel
theorem dX9_comes_42 : decode cX9_comes 42 = .ok (.getfield 32, 3) := by decide +kernel
theorem dX9_comes_45 : decode cX9_comes 45 = .ok (.aload_n 0, 1) := by decide +kernel
theorem dX9_comes_46 : decode cX9_comes 46 = .ok (.getfield 108, 3) := by decide +kernel
theorem dX9_comes_49 : decode cX9_comes 49 = .ok (.iload 4, 2) := by decide +kernel
theorem dX9_comes_51 : decode cX9_comes 51 = .ok (.iastore, 1) := by decide +kernel
theorem dX9_comes_52 : decode cX9_comes 52 = .ok (.aload_n 0, 1) := by decide +kernel
theorem dX9_comes_53 : decode cX9_comes 53 = .ok (.getfield 35, 3) := by decide +kernel
theorem dX9_comes_56 : decode cX9_comes 56 = .ok (.aload_n 0, 1) := by decide +kernel
theorem dX9_comes_57 : decode cX9_comes 57 = .ok (.getfield 108, 3) := by decide +kernel
theorem dX9_comes_60 : decode cX9_comes 60 = .ok (.iconst 0, 1) := by decide +kernel
theorem dX9_comes_61 : decode cX9_comes 61 = .ok (.iastore, 1) := by decide +kernel
theorem dX9_comes_62 : decode cX9_comes 62 = .ok (.aload_n 0, 1) := by decide +kernel
theorem dX9_comes_63 : decode cX9_comes 63 = .ok (.dup, 1) := by decide +kernel
theorem dX9_comes_64 : decode cX9_comes 64 = .ok (.getfield 108, 3) := by decide +kernel
theorem dX9_comes_67 : decode cX9_comes 67 = .ok (.iconst 1, 1) := by decide +kernel
theorem dX9_comes_68 : decode cX9_comes 68 = .ok (.iadd, 1) := by decide +kernel
theorem dX9_comes_69 : decode cX9_comes 69 = .ok (.putfield 108, 3) := by decide +kernel
theorem dX9_comes_72 : decode cX9_comes 72 = .ok (.return_, 1) := by decide +kernel
set_option maxRecDepth 20000 in
set_option maxHeartbeats 4000000 in
theorem s_X9_comes (l : Launch) (g : GG) {q0 : Nat} (hq0 : kd q0 = 8) {a1 : Int32} {a2 : Int32} {a3 : Int32} {a4 : Int32} {a5 : Int32} {σ : SS} {r : SS} (h : f_X9_comes q0 a1 a2 a3 a4 a5 σ = some r) : CT l g 0 yX9_comes cX9_comes 6 none [.ref (g.1 q0), .int a1, .int a2, .int a3, .int a4, .int a5] σ (none, r) := by
  refine CT.of (lv := [(0, .ref (g.1 q0)), (1, .int a1), (2, .int a2), (3, .int a3), (4, .int a4), (5, .int a5)]) RX9 (by decide +kernel) rfl (Nat.le_of_ble_eq_true rfl) rfl ?_
  unfold f_X9_comes at h
  refine vr_aload_n (pc := 0) 0 dX9_comes_0 rfl rfl ?_
  refine vr_getR (pc := 1) 4 dX9_comes_1 fi_X9_20 hq0 (sh_8_4 hq0).1 ?_
  refine vr_aload_n (pc := 4) 0 dX9_comes_4 rfl rfl ?_
  refine vr_getI (pc := 5) 3 dX9_comes_5 fi_X9_108 hq0 (sh_8_3 hq0) ?_
  refine vr_iload_n (pc := 8) 1 dX9_comes_8 rfl rfl ?_
  obtain ⟨hc1, h⟩ := ck_some h
  refine vr_iast (pc := 9) dX9_comes_9 (sh_8_4 hq0).2 hc1 ?_
  refine vr_aload_n (pc := 10) 0 dX9_comes_10 rfl rfl ?_
  refine vr_getR (pc := 11) 5 dX9_comes_11 fi_X9_23 hq0 (sh_8_5 hq0).1 ?_
  refine vr_aload_n (pc := 14) 0 dX9_comes_14 rfl rfl ?_
  refine vr_getI (pc := 15) 3 dX9_comes_15 fi_X9_108 hq0 (sh_8_3 hq0) ?_
  refine vr_iload_n (pc := 18) 2 dX9_comes_18 rfl rfl ?_
  obtain ⟨hc2, h⟩ := ck_some h
  refine vr_iast (pc := 19) dX9_comes_19 (sh_8_5 hq0).2 hc2 ?_
  refine vr_aload_n (pc := 20) 0 dX9_comes_20 rfl rfl ?_
  refine vr_getR (pc := 21) 6 dX9_comes_21 fi_X9_26 hq0 (sh_8_6 hq0).1 ?_
  refine vr_aload_n (pc := 24) 0 dX9_comes_24 rfl rfl ?_
  refine vr_getI (pc := 25) 3 dX9_comes_25 fi_X9_108 hq0 (sh_8_3 hq0) ?_
  refine vr_iload_n (pc := 28) 3 dX9_comes_28 rfl rfl ?_
  obtain ⟨hc3, h⟩ := ck_some h
  refine vr_iast (pc := 29) dX9_comes_29 (sh_8_6 hq0).2 hc3 ?_
  refine vr_aload_n (pc := 30) 0 dX9_comes_30 rfl rfl ?_
  refine vr_getR (pc := 31) 7 dX9_comes_31 fi_X9_29 hq0 (sh_8_7 hq0).1 ?_
  refine vr_aload_n (pc := 34) 0 dX9_comes_34 rfl rfl ?_
  refine vr_getI (pc := 35) 3 dX9_comes_35 fi_X9_108 hq0 (sh_8_3 hq0) ?_
  refine vr_iload (pc := 38) 5 dX9_comes_38 rfl ?_
  obtain ⟨hc4, h⟩ := ck_some h
  refine vr_iast (pc := 40) dX9_comes_40 (sh_8_7 hq0).2 hc4 ?_
  refine vr_aload_n (pc := 41) 0 dX9_comes_41 rfl rfl ?_
  refine vr_getR (pc := 42) 8 dX9_comes_42 fi_X9_32 hq0 (sh_8_8 hq0).1 ?_
  refine vr_aload_n (pc := 45) 0 dX9_comes_45 rfl rfl ?_
  refine vr_getI (pc := 46) 3 dX9_comes_46 fi_X9_108 hq0 (sh_8_3 hq0) ?_
  refine vr_iload (pc := 49) 4 dX9_comes_49 rfl ?_
  obtain ⟨hc5, h⟩ := ck_some h
  refine vr_iast (pc := 51) dX9_comes_51 (sh_8_8 hq0).2 hc5 ?_
  refine vr_aload_n (pc := 52) 0 dX9_comes_52 rfl rfl ?_
  refine vr_getR (pc := 53) 9 dX9_comes_53 fi_X9_35 hq0 (sh_8_9 hq0).1 ?_
  refine vr_aload_n (pc := 56) 0 dX9_comes_56 rfl rfl ?_
  refine vr_getI (pc := 57) 3 dX9_comes_57 fi_X9_108 hq0 (sh_8_3 hq0) ?_
  refine vr_iconst (pc := 60) 0 dX9_comes_60 ci_0 ?_
  obtain ⟨hc6, h⟩ := ck_some h
  refine vr_iast (pc := 61) dX9_comes_61 (sh_8_9 hq0).2 hc6 ?_
  refine vr_aload_n (pc := 62) 0 dX9_comes_62 rfl rfl ?_
  refine vr_dup (pc := 63) dX9_comes_63 rfl ?_
  refine vr_getI (pc := 64) 3 dX9_comes_64 fi_X9_108 hq0 (sh_8_3 hq0) ?_
  refine vr_iconst (pc := 67) 1 dX9_comes_67 ci_1 ?_
  refine vr_iadd (pc := 68) dX9_comes_68 ?_
  refine vr_putI (pc := 69) 3 dX9_comes_69 fi_X9_108 (fw_8_3 _) hq0 (sh_8_3 hq0) ?_
  have h := Option.some.inj h; subst h
  exact vr_vret (pc := 72) dX9_comes_72 rfl rfl
theorem dX9_nextOf_0 : decode cX9_nextOf 0 = .ok (.iload_n 1, 1) := by decide +kernel
theorem dX9_nextOf_1 : decode cX9_nextOf 1 = .ok (.tableswitch 146 0 4 #[35, 35, 45, 70, 85], 35) := by decide +kernel
theorem dX9_nextOf_36 : decode cX9_nextOf 36 = .ok (.iload 4, 2) := by decide +kernel
theorem dX9_nextOf_38 : decode cX9_nextOf 38 = .ok (.iload_n 2, 1) := by decide +kernel
theorem dX9_nextOf_39 : decode cX9_nextOf 39 = .ok (.iadd, 1) := by decide +kernel
theorem dX9_nextOf_40 : decode cX9_nextOf 40 = .ok (.aload_n 0, 1) := by decide +kernel
theorem dX9_nextOf_41 : decode cX9_nextOf 41 = .ok (.getfield 7, 3) := by decide +kernel
theorem dX9_nextOf_44 : decode cX9_nextOf 44 = .ok (.irem, 1) := by decide +kernel
theorem dX9_nextOf_45 : decode cX9_nextOf 45 = .ok (.ireturn, 1) := by decide +kernel
theorem dX9_nextOf_46 : decode cX9_nextOf 46 = .ok (.iload 4, 2) := by decide +kernel
theorem dX9_nextOf_48 : decode cX9_nextOf 48 = .ok (.iload_n 2, 1) := by decide +kernel
theorem dX9_nextOf_49 : decode cX9_nextOf 49 = .ok (.iadd, 1) := by decide +kernel
theorem dX9_nextOf_50 : decode cX9_nextOf 50 = .ok (.iload 4, 2) := by decide +kernel
theorem dX9_nextOf_52 : decode cX9_nextOf 52 = .ok (.iload_n 3, 1) := by decide +kernel
theorem dX9_nextOf_53 : decode cX9_nextOf 53 = .ok (.iconst 2, 1) := by decide +kernel
theorem dX9_nextOf_54 : decode cX9_nextOf 54 = .ok (.iadd, 1) := by decide +kernel
theorem dX9_nextOf_55 : decode cX9_nextOf 55 = .ok (.irem, 1) := by decide +kernel
theorem dX9_nextOf_56 : decode cX9_nextOf 56 = .ok (.ifCond .ne 7, 3) := by decide +kernel
theorem dX9_nextOf_59 : decode cX9_nextOf 59 = .ok (.iload_n 3, 1) := by decide +kernel
theorem dX9_nextOf_60 : decode cX9_nextOf 60 = .ok (.goto 4, 3) := by decide +kernel
theorem dX9_nextOf_63 : decode cX9_nextOf 63 = .ok (.iconst 0, 1) := by decide +kernel
theorem dX9_nextOf_64 : decode cX9_nextOf 64 = .ok (.iadd, 1) := by decide +kernel
theorem dX9_nextOf_65 : decode cX9_nextOf 65 = .ok (.aload_n 0, 1) := by decide +kernel
theorem dX9_nextOf_66 : decode cX9_nextOf 66 = .ok (.getfield 7, 3) := by decide +kernel
theorem dX9_nextOf_69 : decode cX9_nextOf 69 = .ok (.irem, 1) := by decide +kernel
theorem dX9_nextOf_70 : decode cX9_nextOf 70 = .ok (.ireturn, 1) := by decide +kernel
theorem dX9_nextOf_71 : decode cX9_nextOf 71 = .ok (.iload 4, 2) := by decide +kernel
theorem dX9_nextOf_73 : decode cX9_nextOf 73 = .ok (.aload_n 0, 1) := by decide +kernel
theorem dX9_nextOf_74 : decode cX9_nextOf 74 = .ok (.getfield 7, 3) := by decide +kernel
theorem dX9_nextOf_77 : decode cX9_nextOf 77 = .ok (.iadd, 1) := by decide +kernel
theorem dX9_nextOf_78 : decode cX9_nextOf 78 = .ok (.iload_n 2, 1) := by decide +kernel
theorem dX9_nextOf_79 : decode cX9_nextOf 79 = .ok (.isub, 1) := by decide +kernel
theorem dX9_nextOf_80 : decode cX9_nextOf 80 = .ok (.aload_n 0, 1) := by decide +kernel
theorem dX9_nextOf_81 : decode cX9_nextOf 81 = .ok (.getfield 7, 3) := by decide +kernel
theorem dX9_nextOf_84 : decode cX9_nextOf 84 = .ok (.irem, 1) := by decide +kernel
theorem dX9_nextOf_85 : decode cX9_nextOf 85 = .ok (.ireturn, 1) := by decide +kernel
theorem dX9_nextOf_86 : decode cX9_nextOf 86 = .ok (.aload_n 0, 1) := by decide +kernel
theorem dX9_nextOf_87 : decode cX9_nextOf 87 = .ok (.iconst 2, 1) := by decide +kernel
theorem dX9_nextOf_88 : decode cX9_nextOf 88 = .ok (.iload_n 2, 1) := by decide +kernel
theorem dX9_nextOf_89 : decode cX9_nextOf 89 = .ok (.iload_n 3, 1) := by decide +kernel
theorem dX9_nextOf_90 : decode cX9_nextOf 90 = .ok (.iload 4, 2) := by decide +kernel
theorem dX9_nextOf_92 : decode cX9_nextOf 92 = .ok (.invokevirtual 172, 3) := by decide +kernel
theorem dX9_nextOf_95 : decode cX9_nextOf 95 = .ok (.istore 5, 2) := by decide +kernel
theorem dX9_nextOf_97 : decode cX9_nextOf 97 = .ok (.iconst 0, 1) := by decide +kernel
theorem dX9_nextOf_98 : decode cX9_nextOf 98 = .ok (.istore 6, 2) := by decide +kernel
theorem dX9_nextOf_100 : decode cX9_nextOf 100 = .ok (.iload 6, 2) := by decide +kernel
theorem dX9_nextOf_102 : decode cX9_nextOf 102 = .ok (.aload_n 0, 1) := by decide +kernel
theorem dX9_nextOf_103 : decode cX9_nextOf 103 = .ok (.getfield 7, 3) := by decide +kernel
theorem dX9_nextOf_106 : decode cX9_nextOf 106 = .ok (.if_icmp .ge 38, 3) := by decide +kernel
theorem dX9_nextOf_109 : decode cX9_nextOf 109 = .ok (.aload_n 0, 1) := by decide +kernel
theorem dX9_nextOf_110 : decode cX9_nextOf 110 = .ok (.getfield 13, 3) := by decide +kernel
theorem dX9_nextOf_113 : decode cX9_nextOf 113 = .ok (.iload 5, 2) := by decide +kernel
theorem dX9_nextOf_115 : decode cX9_nextOf 115 = .ok (.iload 6, 2) := by decide +kernel
theorem dX9_nextOf_117 : decode cX9_nextOf 117 = .ok (.iadd, 1) := by decide +kernel
theorem dX9_nextOf_118 : decode cX9_nextOf 118 = .ok (.aload_n 0, 1) := by decide +kernel
theorem dX9_nextOf_119 : decode cX9_nextOf 119 = .ok (.getfield 7, 3) := by decide +kernel
theorem dX9_nextOf_122 : decode cX9_nextOf 122 = .ok (.irem, 1) := by decide +kernel
theorem dX9_nextOf_123 : decode cX9_nextOf 123 = .ok (.iaload, 1) := by decide +kernel
theorem dX9_nextOf_124 : decode cX9_nextOf 124 = .ok (.ifCond .ne 14, 3) := by decide +kernel
theorem dX9_nextOf_127 : decode cX9_nextOf 127 = .ok (.iload 5, 2) := by decide +kernel
theorem dX9_nextOf_129 : decode cX9_nextOf 129 = .ok (.iload 6, 2) := by decide +kernel
theorem dX9_nextOf_131 : decode cX9_nextOf 131 = .ok (.iadd, 1) := by decide +kernel
theorem dX9_nextOf_132 : decode cX9_nextOf 132 = .ok (.aload_n 0, 1) := by decide +kernel
theorem dX9_nextOf_133 : decode cX9_nextOf 133 = .ok (.getfield 7, 3) := by decide +kernel
theorem dX9_nextOf_136 : decode cX9_nextOf 136 = .ok (.irem, 1) := by decide +kernel
theorem dX9_nextOf_137 : decode cX9_nextOf 137 = .ok (.ireturn, 1) := by decide +kernel
theorem dX9_nextOf_138 : decode cX9_nextOf 138 = .ok (.iinc 6 1, 3) := by decide +kernel
theorem dX9_nextOf_141 : decode cX9_nextOf 141 = .ok (.goto (-41), 3) := by decide +kernel
theorem dX9_nextOf_144 : decode cX9_nextOf 144 = .ok (.iload 5, 2) := by decide +kernel
theorem dX9_nextOf_146 : decode cX9_nextOf 146 = .ok (.ireturn, 1) := by decide +kernel
theorem dX9_nextOf_147 : decode cX9_nextOf 147 = .ok (.iload 4, 2) := by decide +kernel
theorem dX9_nextOf_149 : decode cX9_nextOf 149 = .ok (.iconst 2, 1) := by decide +kernel
theorem dX9_nextOf_150 : decode cX9_nextOf 150 = .ok (.aload_n 0, 1) := by decide +kernel
theorem dX9_nextOf_151 : decode cX9_nextOf 151 = .ok (.getfield 7, 3) := by decide +kernel
theorem dX9_nextOf_154 : decode cX9_nextOf 154 = .ok (.iload_n 2, 1) := by decide +kernel
theorem dX9_nextOf_155 : decode cX9_nextOf 155 = .ok (.isub, 1) := by decide +kernel
theorem dX9_nextOf_156 : decode cX9_nextOf 156 = .ok (.imul, 1) := by decide +kernel
theorem dX9_nextOf_157 : decode cX9_nextOf 157 = .ok (.iadd, 1) := by decide +kernel
theorem dX9_nextOf_158 : decode cX9_nextOf 158 = .ok (.aload_n 0, 1) := by decide +kernel
theorem dX9_nextOf_159 : decode cX9_nextOf 159 = .ok (.getfield 7, 3) := by decide +kernel
theorem dX9_nextOf_162 : decode cX9_nextOf 162 = .ok (.irem, 1) := by decide +kernel
theorem dX9_nextOf_163 : decode cX9_nextOf 163 = .ok (.ireturn, 1) := by decide +kernel
set_option maxRecDepth 20000 in
set_option maxHeartbeats 4000000 in
theorem s_X9_nextOf_0 (l : Launch) (g : GG) {q0 : Nat} (hq0 : kd q0 = 8) {a1 : Int32} {a2 : Int32} {a3 : Int32} {a4 : Int32} {σ : SS} {r : Int32} (h : f_X9_nextOf_0 q0 a1 a2 a3 a4 σ = some r) : CT l g 0 yX9_nextOf cX9_nextOf 7 (some .int) [.ref (g.1 q0), .int a1, .int a2, .int a3, .int a4] σ (some (.int r), σ) := by
  refine CT.of (lv := [(0, .ref (g.1 q0)), (1, .int a1), (2, .int a2), (3, .int a3), (4, .int a4)]) RX9 (by decide +kernel) rfl (Nat.le_of_ble_eq_true rfl) rfl ?_
  unfold f_X9_nextOf_0 at h
  refine vr_iload_n (pc := 0) 1 dX9_nextOf_0 rfl rfl ?_
  by_cases c1 : a1 = 0
  · rw [if_pos c1] at h
    refine vr_tableIn (pc := 1) 35 36 dX9_nextOf_1 (by rw [c1]; decide) (by rw [c1]; decide) (by rw [c1]; rfl) (by decide) ?_
    refine vr_iload (pc := 36) 4 dX9_nextOf_36 rfl ?_
    refine vr_iload_n (pc := 38) 2 dX9_nextOf_38 rfl rfl ?_
    refine vr_iadd (pc := 39) dX9_nextOf_39 ?_
    refine vr_aload_n (pc := 40) 0 dX9_nextOf_40 rfl rfl ?_
    refine vr_getI (pc := 41) 0 dX9_nextOf_41 fi_X9_7 hq0 (sh_8_0 hq0) ?_
    obtain ⟨hc2, h⟩ := ck_some h
    refine vr_irem (pc := 44) dX9_nextOf_44 hc2 ?_
    have h := Option.some.inj h; subst h
    exact vr_iret (pc := 45) .int dX9_nextOf_45 rfl rfl rfl
  · rw [if_neg c1] at h
    by_cases c3 : a1 = 1
    · rw [if_pos c3] at h
      refine vr_tableIn (pc := 1) 35 36 dX9_nextOf_1 (by rw [c3]; decide) (by rw [c3]; decide) (by rw [c3]; rfl) (by decide) ?_
      refine vr_iload (pc := 36) 4 dX9_nextOf_36 rfl ?_
      refine vr_iload_n (pc := 38) 2 dX9_nextOf_38 rfl rfl ?_
      refine vr_iadd (pc := 39) dX9_nextOf_39 ?_
      refine vr_aload_n (pc := 40) 0 dX9_nextOf_40 rfl rfl ?_
      refine vr_getI (pc := 41) 0 dX9_nextOf_41 fi_X9_7 hq0 (sh_8_0 hq0) ?_
      obtain ⟨hc4, h⟩ := ck_some h
      refine vr_irem (pc := 44) dX9_nextOf_44 hc4 ?_
      have h := Option.some.inj h; subst h
      exact vr_iret (pc := 45) .int dX9_nextOf_45 rfl rfl rfl
    · rw [if_neg c3] at h
      by_cases c5 : a1 = 2
      · rw [if_pos c5] at h
        refine vr_tableIn (pc := 1) 45 46 dX9_nextOf_1 (by rw [c5]; decide) (by rw [c5]; decide) (by rw [c5]; rfl) (by decide) ?_
        refine vr_iload (pc := 46) 4 dX9_nextOf_46 rfl ?_
        refine vr_iload_n (pc := 48) 2 dX9_nextOf_48 rfl rfl ?_
        refine vr_iadd (pc := 49) dX9_nextOf_49 ?_
        refine vr_iload (pc := 50) 4 dX9_nextOf_50 rfl ?_
        refine vr_iload_n (pc := 52) 3 dX9_nextOf_52 rfl rfl ?_
        refine vr_iconst (pc := 53) 2 dX9_nextOf_53 ci_2 ?_
        refine vr_iadd (pc := 54) dX9_nextOf_54 ?_
        obtain ⟨hc6, h⟩ := ck_some h
        refine vr_irem (pc := 55) dX9_nextOf_55 hc6 ?_
        refine vr_if_ne (pc := 56) 63 dX9_nextOf_56 (by decide) (fun c7 => ?_) (fun c7 => ?_)
        · rw [if_neg c7] at h
          refine vr_iconst (pc := 63) 0 dX9_nextOf_63 ci_0 ?_
          refine vr_iadd (pc := 64) dX9_nextOf_64 ?_
          refine vr_aload_n (pc := 65) 0 dX9_nextOf_65 rfl rfl ?_
          refine vr_getI (pc := 66) 0 dX9_nextOf_66 fi_X9_7 hq0 (sh_8_0 hq0) ?_
          obtain ⟨hc8, h⟩ := ck_some h
          refine vr_irem (pc := 69) dX9_nextOf_69 hc8 ?_
          have h := Option.some.inj h; subst h
          exact vr_iret (pc := 70) .int dX9_nextOf_70 rfl rfl rfl
        · rw [if_pos c7] at h
          refine vr_iload_n (pc := 59) 3 dX9_nextOf_59 rfl rfl ?_
          refine vr_goto (pc := 60) 64 dX9_nextOf_60 (by decide) ?_
          refine vr_iadd (pc := 64) dX9_nextOf_64 ?_
          refine vr_aload_n (pc := 65) 0 dX9_nextOf_65 rfl rfl ?_
          refine vr_getI (pc := 66) 0 dX9_nextOf_66 fi_X9_7 hq0 (sh_8_0 hq0) ?_
          obtain ⟨hc9, h⟩ := ck_some h
          refine vr_irem (pc := 69) dX9_nextOf_69 hc9 ?_
          have h := Option.some.inj h; subst h
          exact vr_iret (pc := 70) .int dX9_nextOf_70 rfl rfl rfl
      · rw [if_neg c5] at h
        by_cases c10 : a1 = 3
        · rw [if_pos c10] at h
          refine vr_tableIn (pc := 1) 70 71 dX9_nextOf_1 (by rw [c10]; decide) (by rw [c10]; decide) (by rw [c10]; rfl) (by decide) ?_
          refine vr_iload (pc := 71) 4 dX9_nextOf_71 rfl ?_
          refine vr_aload_n (pc := 73) 0 dX9_nextOf_73 rfl rfl ?_
          refine vr_getI (pc := 74) 0 dX9_nextOf_74 fi_X9_7 hq0 (sh_8_0 hq0) ?_
          refine vr_iadd (pc := 77) dX9_nextOf_77 ?_
          refine vr_iload_n (pc := 78) 2 dX9_nextOf_78 rfl rfl ?_
          refine vr_isub (pc := 79) dX9_nextOf_79 ?_
          refine vr_aload_n (pc := 80) 0 dX9_nextOf_80 rfl rfl ?_
          refine vr_getI (pc := 81) 0 dX9_nextOf_81 fi_X9_7 hq0 (sh_8_0 hq0) ?_
          obtain ⟨hc11, h⟩ := ck_some h
          refine vr_irem (pc := 84) dX9_nextOf_84 hc11 ?_
          have h := Option.some.inj h; subst h
          exact vr_iret (pc := 85) .int dX9_nextOf_85 rfl rfl rfl
        · rw [if_neg c10] at h
          by_cases c12 : a1 = 4
          · rw [if_pos c12] at h
            refine vr_tableIn (pc := 1) 85 86 dX9_nextOf_1 (by rw [c12]; decide) (by rw [c12]; decide) (by rw [c12]; rfl) (by decide) ?_
            refine vr_aload_n (pc := 86) 0 dX9_nextOf_86 rfl rfl ?_
            refine vr_iconst (pc := 87) 2 dX9_nextOf_87 ci_2 ?_
            refine vr_iload_n (pc := 88) 2 dX9_nextOf_88 rfl rfl ?_
            refine vr_iload_n (pc := 89) 3 dX9_nextOf_89 rfl rfl ?_
            refine vr_iload (pc := 90) 4 dX9_nextOf_90 rfl ?_
            cases h
          · rw [if_neg c12] at h
            refine vr_tableOut (pc := 1) 147 dX9_nextOf_1 (tab_out (x := a1) 0 4 (fun z1 z2 => by rcases (show a1.toInt = 0 ∨ a1.toInt = 1 ∨ a1.toInt = 2 ∨ a1.toInt = 3 ∨ a1.toInt = 4 from by omega) with z | z | z | z | z <;> first | exact c1 (i32_of z (by decide)) | exact c3 (i32_of z (by decide)) | exact c5 (i32_of z (by decide)) | exact c10 (i32_of z (by decide)) | exact c12 (i32_of z (by decide)))) (by decide) ?_
            refine vr_iload (pc := 147) 4 dX9_nextOf_147 rfl ?_
            refine vr_iconst (pc := 149) 2 dX9_nextOf_149 ci_2 ?_
            refine vr_aload_n (pc := 150) 0 dX9_nextOf_150 rfl rfl ?_
            refine vr_getI (pc := 151) 0 dX9_nextOf_151 fi_X9_7 hq0 (sh_8_0 hq0) ?_
            refine vr_iload_n (pc := 154) 2 dX9_nextOf_154 rfl rfl ?_
            refine vr_isub (pc := 155) dX9_nextOf_155 ?_
            refine vr_imul (pc := 156) dX9_nextOf_156 ?_
            refine vr_iadd (pc := 157) dX9_nextOf_157 ?_
            refine vr_aload_n (pc := 158) 0 dX9_nextOf_158 rfl rfl ?_
            refine vr_getI (pc := 159) 0 dX9_nextOf_159 fi_X9_7 hq0 (sh_8_0 hq0) ?_
            obtain ⟨hc13, h⟩ := ck_some h
            refine vr_irem (pc := 162) dX9_nextOf_162 hc13 ?_
            have h := Option.some.inj h; subst h
            exact vr_iret (pc := 163) .int dX9_nextOf_163 rfl rfl rfl
set_option maxRecDepth 20000 in
set_option maxHeartbeats 4000000 in
theorem v_X9_nextOf_L100 (l : Launch) (g : GG) {r : Int32} {σ : SS} {κ : Int32 → Option Int32} (hκ : ∀ (y5 : Int32) , κ y5 = some r → VV l g 1 RX9 cX9_nextOf 7 (some .int) (some (.int r), σ) 144 [(5, .int y5)] [] σ) : ∀ (fu : Nat) (q0 : Nat) (x5 : Int32) (x6 : Int32) (hq0 : kd q0 = 8), f_X9_nextOf_L100 σ κ fu q0 x5 x6 = some r → VV l g 1 RX9 cX9_nextOf 7 (some .int) (some (.int r), σ) 100 [(0, .ref (g.1 q0)), (5, .int x5), (6, .int x6)] [] σ := by
  intro fu
  induction fu with
  | zero => intro q0 x5 x6 hq0 h; cases h
  | succ fu ih =>
    intro q0 x5 x6 hq0 h
    simp only [f_X9_nextOf_L100] at h
    refine vr_iload (pc := 100) 2 dX9_nextOf_100 rfl ?_
    refine vr_aload_n (pc := 102) 0 dX9_nextOf_102 rfl rfl ?_
    refine vr_getI (pc := 103) 0 dX9_nextOf_103 fi_X9_7 hq0 (sh_8_0 hq0) ?_
    refine vr_icmp_ge (pc := 106) 144 dX9_nextOf_106 (by decide) (fun c15 => ?_) (fun c15 => ?_)
    · rw [if_pos c15] at h
      refine vr_sub [1] [(5, .int x5)] rfl ?_
      exact hκ x5 h
    · rw [if_neg c15] at h
      refine vr_aload_n (pc := 109) 0 dX9_nextOf_109 rfl rfl ?_
      refine vr_getR (pc := 110) 1 dX9_nextOf_110 fi_X9_13 hq0 (sh_8_1 hq0).1 ?_
      refine vr_iload (pc := 113) 1 dX9_nextOf_113 rfl ?_
      refine vr_iload (pc := 115) 2 dX9_nextOf_115 rfl ?_
      refine vr_iadd (pc := 117) dX9_nextOf_117 ?_
      refine vr_aload_n (pc := 118) 0 dX9_nextOf_118 rfl rfl ?_
      refine vr_getI (pc := 119) 0 dX9_nextOf_119 fi_X9_7 hq0 (sh_8_0 hq0) ?_
      obtain ⟨hc16, h⟩ := ck_some h
      refine vr_irem (pc := 122) dX9_nextOf_122 hc16 ?_
      obtain ⟨hc17, h⟩ := ck_some h
      refine vr_iald (pc := 123) dX9_nextOf_123 (sh_8_1 hq0).2 hc17 ?_
      refine vr_if_ne (pc := 124) 138 dX9_nextOf_124 (by decide) (fun c18 => ?_) (fun c18 => ?_)
      · rw [if_neg c18] at h
        refine vr_iinc (pc := 138) [(6, .int (x6 + 1)), (0, .ref (g.1 q0)), (5, .int x5)] 2 dX9_nextOf_138 rfl (congrArg (fun z => x6 + z) ci_1) (by decide) rfl ?_
        refine vr_goto (pc := 141) 100 dX9_nextOf_141 (by decide) ?_
        refine vr_sub [1, 2, 0] [(0, .ref (g.1 q0)), (5, .int x5), (6, .int (x6 + 1))] rfl ?_
        exact ih q0 x5 (x6 + 1) (hq0) h
      · rw [if_pos c18] at h
        refine vr_iload (pc := 127) 1 dX9_nextOf_127 rfl ?_
        refine vr_iload (pc := 129) 2 dX9_nextOf_129 rfl ?_
        refine vr_iadd (pc := 131) dX9_nextOf_131 ?_
        refine vr_aload_n (pc := 132) 0 dX9_nextOf_132 rfl rfl ?_
        refine vr_getI (pc := 133) 0 dX9_nextOf_133 fi_X9_7 hq0 (sh_8_0 hq0) ?_
        obtain ⟨hc19, h⟩ := ck_some h
        refine vr_irem (pc := 136) dX9_nextOf_136 hc19 ?_
        have h := Option.some.inj h; subst h
        exact vr_iret (pc := 137) .int dX9_nextOf_137 rfl rfl rfl
set_option maxRecDepth 20000 in
set_option maxHeartbeats 4000000 in
theorem s_X9_nextOf (l : Launch) (g : GG) {q0 : Nat} (hq0 : kd q0 = 8) {a1 : Int32} {a2 : Int32} {a3 : Int32} {a4 : Int32} {σ : SS} {r : Int32} (h : f_X9_nextOf q0 a1 a2 a3 a4 σ = some r) : CT l g 1 yX9_nextOf cX9_nextOf 7 (some .int) [.ref (g.1 q0), .int a1, .int a2, .int a3, .int a4] σ (some (.int r), σ) := by
  refine CT.of (lv := [(0, .ref (g.1 q0)), (1, .int a1), (2, .int a2), (3, .int a3), (4, .int a4)]) RX9 (by decide +kernel) rfl (Nat.le_of_ble_eq_true rfl) rfl ?_
  unfold f_X9_nextOf at h
  refine vr_iload_n (pc := 0) 1 dX9_nextOf_0 rfl rfl ?_
  by_cases c1 : a1 = 0
  · rw [if_pos c1] at h
    refine vr_tableIn (pc := 1) 35 36 dX9_nextOf_1 (by rw [c1]; decide) (by rw [c1]; decide) (by rw [c1]; rfl) (by decide) ?_
    refine vr_iload (pc := 36) 4 dX9_nextOf_36 rfl ?_
    refine vr_iload_n (pc := 38) 2 dX9_nextOf_38 rfl rfl ?_
    refine vr_iadd (pc := 39) dX9_nextOf_39 ?_
    refine vr_aload_n (pc := 40) 0 dX9_nextOf_40 rfl rfl ?_
    refine vr_getI (pc := 41) 0 dX9_nextOf_41 fi_X9_7 hq0 (sh_8_0 hq0) ?_
    obtain ⟨hc2, h⟩ := ck_some h
    refine vr_irem (pc := 44) dX9_nextOf_44 hc2 ?_
    have h := Option.some.inj h; subst h
    exact vr_iret (pc := 45) .int dX9_nextOf_45 rfl rfl rfl
  · rw [if_neg c1] at h
    by_cases c3 : a1 = 1
    · rw [if_pos c3] at h
      refine vr_tableIn (pc := 1) 35 36 dX9_nextOf_1 (by rw [c3]; decide) (by rw [c3]; decide) (by rw [c3]; rfl) (by decide) ?_
      refine vr_iload (pc := 36) 4 dX9_nextOf_36 rfl ?_
      refine vr_iload_n (pc := 38) 2 dX9_nextOf_38 rfl rfl ?_
      refine vr_iadd (pc := 39) dX9_nextOf_39 ?_
      refine vr_aload_n (pc := 40) 0 dX9_nextOf_40 rfl rfl ?_
      refine vr_getI (pc := 41) 0 dX9_nextOf_41 fi_X9_7 hq0 (sh_8_0 hq0) ?_
      obtain ⟨hc4, h⟩ := ck_some h
      refine vr_irem (pc := 44) dX9_nextOf_44 hc4 ?_
      have h := Option.some.inj h; subst h
      exact vr_iret (pc := 45) .int dX9_nextOf_45 rfl rfl rfl
    · rw [if_neg c3] at h
      by_cases c5 : a1 = 2
      · rw [if_pos c5] at h
        refine vr_tableIn (pc := 1) 45 46 dX9_nextOf_1 (by rw [c5]; decide) (by rw [c5]; decide) (by rw [c5]; rfl) (by decide) ?_
        refine vr_iload (pc := 46) 4 dX9_nextOf_46 rfl ?_
        refine vr_iload_n (pc := 48) 2 dX9_nextOf_48 rfl rfl ?_
        refine vr_iadd (pc := 49) dX9_nextOf_49 ?_
        refine vr_iload (pc := 50) 4 dX9_nextOf_50 rfl ?_
        refine vr_iload_n (pc := 52) 3 dX9_nextOf_52 rfl rfl ?_
        refine vr_iconst (pc := 53) 2 dX9_nextOf_53 ci_2 ?_
        refine vr_iadd (pc := 54) dX9_nextOf_54 ?_
        obtain ⟨hc6, h⟩ := ck_some h
        refine vr_irem (pc := 55) dX9_nextOf_55 hc6 ?_
        refine vr_if_ne (pc := 56) 63 dX9_nextOf_56 (by decide) (fun c7 => ?_) (fun c7 => ?_)
        · rw [if_neg c7] at h
          refine vr_iconst (pc := 63) 0 dX9_nextOf_63 ci_0 ?_
          refine vr_iadd (pc := 64) dX9_nextOf_64 ?_
          refine vr_aload_n (pc := 65) 0 dX9_nextOf_65 rfl rfl ?_
          refine vr_getI (pc := 66) 0 dX9_nextOf_66 fi_X9_7 hq0 (sh_8_0 hq0) ?_
          obtain ⟨hc8, h⟩ := ck_some h
          refine vr_irem (pc := 69) dX9_nextOf_69 hc8 ?_
          have h := Option.some.inj h; subst h
          exact vr_iret (pc := 70) .int dX9_nextOf_70 rfl rfl rfl
        · rw [if_pos c7] at h
          refine vr_iload_n (pc := 59) 3 dX9_nextOf_59 rfl rfl ?_
          refine vr_goto (pc := 60) 64 dX9_nextOf_60 (by decide) ?_
          refine vr_iadd (pc := 64) dX9_nextOf_64 ?_
          refine vr_aload_n (pc := 65) 0 dX9_nextOf_65 rfl rfl ?_
          refine vr_getI (pc := 66) 0 dX9_nextOf_66 fi_X9_7 hq0 (sh_8_0 hq0) ?_
          obtain ⟨hc9, h⟩ := ck_some h
          refine vr_irem (pc := 69) dX9_nextOf_69 hc9 ?_
          have h := Option.some.inj h; subst h
          exact vr_iret (pc := 70) .int dX9_nextOf_70 rfl rfl rfl
      · rw [if_neg c5] at h
        by_cases c10 : a1 = 3
        · rw [if_pos c10] at h
          refine vr_tableIn (pc := 1) 70 71 dX9_nextOf_1 (by rw [c10]; decide) (by rw [c10]; decide) (by rw [c10]; rfl) (by decide) ?_
          refine vr_iload (pc := 71) 4 dX9_nextOf_71 rfl ?_
          refine vr_aload_n (pc := 73) 0 dX9_nextOf_73 rfl rfl ?_
          refine vr_getI (pc := 74) 0 dX9_nextOf_74 fi_X9_7 hq0 (sh_8_0 hq0) ?_
          refine vr_iadd (pc := 77) dX9_nextOf_77 ?_
          refine vr_iload_n (pc := 78) 2 dX9_nextOf_78 rfl rfl ?_
          refine vr_isub (pc := 79) dX9_nextOf_79 ?_
          refine vr_aload_n (pc := 80) 0 dX9_nextOf_80 rfl rfl ?_
          refine vr_getI (pc := 81) 0 dX9_nextOf_81 fi_X9_7 hq0 (sh_8_0 hq0) ?_
          obtain ⟨hc11, h⟩ := ck_some h
          refine vr_irem (pc := 84) dX9_nextOf_84 hc11 ?_
          have h := Option.some.inj h; subst h
          exact vr_iret (pc := 85) .int dX9_nextOf_85 rfl rfl rfl
        · rw [if_neg c10] at h
          by_cases c12 : a1 = 4
          · rw [if_pos c12] at h
            refine vr_tableIn (pc := 1) 85 86 dX9_nextOf_1 (by rw [c12]; decide) (by rw [c12]; decide) (by rw [c12]; rfl) (by decide) ?_
            refine vr_aload_n (pc := 86) 0 dX9_nextOf_86 rfl rfl ?_
            refine vr_iconst (pc := 87) 2 dX9_nextOf_87 ci_2 ?_
            refine vr_iload_n (pc := 88) 2 dX9_nextOf_88 rfl rfl ?_
            refine vr_iload_n (pc := 89) 3 dX9_nextOf_89 rfl rfl ?_
            refine vr_iload (pc := 90) 4 dX9_nextOf_90 rfl ?_
            obtain ⟨z13, hz14, h⟩ := ob_some h
            refine vr_callV (pc := 92) (ρ1 := (some (.int z13), σ)) [.int 2, .int a2, .int a3, .int a4] dX9_nextOf_92 (s_X9_nextOf_0 l g (hq0) hz14) cw_X9_nextOf ml_X9_172 hq0 rfl (by decide) (by decide) rfl rfl (Nat.le_of_ble_eq_true rfl) ?_
            refine vr_istore (pc := 95) [(5, .int z13), (0, .ref (g.1 q0)), (1, .int a1), (2, .int a2), (3, .int a3), (4, .int a4)] dX9_nextOf_95 (by decide) rfl ?_
            refine vr_iconst (pc := 97) 0 dX9_nextOf_97 ci_0 ?_
            refine vr_istore (pc := 98) [(6, .int 0), (5, .int z13), (0, .ref (g.1 q0)), (1, .int a1), (2, .int a2), (3, .int a3), (4, .int a4)] dX9_nextOf_98 (by decide) rfl ?_
            refine vr_sub [2, 1, 0] [(0, .ref (g.1 q0)), (5, .int z13), (6, .int 0)] rfl ?_
            refine v_X9_nextOf_L100 l g (fun y5 h => ?_) FU q0 z13 0 (hq0) h
            refine vr_iload (pc := 144) 0 dX9_nextOf_144 rfl ?_
            have h := Option.some.inj h; subst h
            exact vr_iret (pc := 146) .int dX9_nextOf_146 rfl rfl rfl
          · rw [if_neg c12] at h
            refine vr_tableOut (pc := 1) 147 dX9_nextOf_1 (tab_out (x := a1) 0 4 (fun z1 z2 => by rcases (show a1.toInt = 0 ∨ a1.toInt = 1 ∨ a1.toInt = 2 ∨ a1.toInt = 3 ∨ a1.toInt = 4 from by omega) with z | z | z | z | z <;> first | exact c1 (i32_of z (by decide)) | exact c3 (i32_of z (by decide)) | exact c5 (i32_of z (by decide)) | exact c10 (i32_of z (by decide)) | exact c12 (i32_of z (by decide)))) (by decide) ?_
            refine vr_iload (pc := 147) 4 dX9_nextOf_147 rfl ?_
            refine vr_iconst (pc := 149) 2 dX9_nextOf_149 ci_2 ?_
            refine vr_aload_n (pc := 150) 0 dX9_nextOf_150 rfl rfl ?_
            refine vr_getI (pc := 151) 0 dX9_nextOf_151 fi_X9_7 hq0 (sh_8_0 hq0) ?_
            refine vr_iload_n (pc := 154) 2 dX9_nextOf_154 rfl rfl ?_
            refine vr_isub (pc := 155) dX9_nextOf_155 ?_
            refine vr_imul (pc := 156) dX9_nextOf_156 ?_
            refine vr_iadd (pc := 157) dX9_nextOf_157 ?_
            refine vr_aload_n (pc := 158) 0 dX9_nextOf_158 rfl rfl ?_
            refine vr_getI (pc := 159) 0 dX9_nextOf_159 fi_X9_7 hq0 (sh_8_0 hq0) ?_
            obtain ⟨hc20, h⟩ := ck_some h
            refine vr_irem (pc := 162) dX9_nextOf_162 hc20 ?_
            have h := Option.some.inj h; subst h
            exact vr_iret (pc := 163) .int dX9_nextOf_163 rfl rfl rfl
theorem dX9_nextBy_0 : decode cX9_nextBy 0 = .ok (.aload_n 0, 1) := by decide +kernel
theorem dX9_nextBy_1 : decode cX9_nextBy 1 = .ok (.aload_n 0, 1) := by decide +kernel
theorem dX9_nextBy_2 : decode cX9_nextBy 2 = .ok (.getfield 20, 3) := by decide +kernel
theorem dX9_nextBy_5 : decode cX9_nextBy 5 = .ok (.iload_n 1, 1) := by decide +kernel
theorem dX9_nextBy_6 : decode cX9_nextBy 6 = .ok (.iaload, 1) := by decide +kernel
theorem dX9_nextBy_7 : decode cX9_nextBy 7 = .ok (.aload_n 0, 1) := by decide +kernel
theorem dX9_nextBy_8 : decode cX9_nextBy 8 = .ok (.getfield 23, 3) := by decide +kernel
theorem dX9_nextBy_11 : decode cX9_nextBy 11 = .ok (.iload_n 1, 1) := by decide +kernel
theorem dX9_nextBy_12 : decode cX9_nextBy 12 = .ok (.iaload, 1) := by decide +kernel
theorem dX9_nextBy_13 : decode cX9_nextBy 13 = .ok (.aload_n 0, 1) := by decide +kernel
theorem dX9_nextBy_14 : decode cX9_nextBy 14 = .ok (.getfield 26, 3) := by decide +kernel
theorem dX9_nextBy_17 : decode cX9_nextBy 17 = .ok (.iload_n 1, 1) := by decide +kernel
theorem dX9_nextBy_18 : decode cX9_nextBy 18 = .ok (.iaload, 1) := by decide +kernel
theorem dX9_nextBy_19 : decode cX9_nextBy 19 = .ok (.iload_n 2, 1) := by decide +kernel
theorem dX9_nextBy_20 : decode cX9_nextBy 20 = .ok (.invokevirtual 172, 3) := by decide +kernel
theorem dX9_nextBy_23 : decode cX9_nextBy 23 = .ok (.ireturn, 1) := by decide +kernel
set_option maxRecDepth 20000 in
set_option maxHeartbeats 4000000 in
theorem s_X9_nextBy (l : Launch) (g : GG) {q0 : Nat} (hq0 : kd q0 = 8) {a1 : Int32} {a2 : Int32} {σ : SS} {r : Int32} (h : f_X9_nextBy q0 a1 a2 σ = some r) : CT l g 2 yX9_nextBy cX9_nextBy 3 (some .int) [.ref (g.1 q0), .int a1, .int a2] σ (some (.int r), σ) := by
  refine CT.of (lv := [(0, .ref (g.1 q0)), (1, .int a1), (2, .int a2)]) RX9 (by decide +kernel) rfl (Nat.le_of_ble_eq_true rfl) rfl ?_
  unfold f_X9_nextBy at h
  refine vr_aload_n (pc := 0) 0 dX9_nextBy_0 rfl rfl ?_
  refine vr_aload_n (pc := 1) 0 dX9_nextBy_1 rfl rfl ?_
  refine vr_getR (pc := 2) 4 dX9_nextBy_2 fi_X9_20 hq0 (sh_8_4 hq0).1 ?_
  refine vr_iload_n (pc := 5) 1 dX9_nextBy_5 rfl rfl ?_
  obtain ⟨hc1, h⟩ := ck_some h
  refine vr_iald (pc := 6) dX9_nextBy_6 (sh_8_4 hq0).2 hc1 ?_
  refine vr_aload_n (pc := 7) 0 dX9_nextBy_7 rfl rfl ?_
  refine vr_getR (pc := 8) 5 dX9_nextBy_8 fi_X9_23 hq0 (sh_8_5 hq0).1 ?_
  refine vr_iload_n (pc := 11) 1 dX9_nextBy_11 rfl rfl ?_
  obtain ⟨hc2, h⟩ := ck_some h
  refine vr_iald (pc := 12) dX9_nextBy_12 (sh_8_5 hq0).2 hc2 ?_
  refine vr_aload_n (pc := 13) 0 dX9_nextBy_13 rfl rfl ?_
  refine vr_getR (pc := 14) 6 dX9_nextBy_14 fi_X9_26 hq0 (sh_8_6 hq0).1 ?_
  refine vr_iload_n (pc := 17) 1 dX9_nextBy_17 rfl rfl ?_
  obtain ⟨hc3, h⟩ := ck_some h
  refine vr_iald (pc := 18) dX9_nextBy_18 (sh_8_6 hq0).2 hc3 ?_
  refine vr_iload_n (pc := 19) 2 dX9_nextBy_19 rfl rfl ?_
  obtain ⟨z4, hz5, h⟩ := ob_some h
  refine vr_callV (pc := 20) (ρ1 := (some (.int z4), σ)) [.int (σ.1 (rid q0 4) a1.toNatClampNeg), .int (σ.1 (rid q0 5) a1.toNatClampNeg), .int (σ.1 (rid q0 6) a1.toNatClampNeg), .int a2] dX9_nextBy_20 (s_X9_nextOf l g (hq0) hz5) cw_X9_nextOf ml_X9_172 hq0 rfl (by decide) (by decide) rfl rfl (Nat.le_of_ble_eq_true rfl) ?_
  have h := Option.some.inj h; subst h
  exact vr_iret (pc := 23) .int dX9_nextBy_23 rfl rfl rfl
theorem dX9_goesOn_0 : decode cX9_goesOn 0 = .ok (.iconst 0, 1) := by decide +kernel
theorem dX9_goesOn_1 : decode cX9_goesOn 1 = .ok (.istore_n 3, 1) := by decide +kernel
theorem dX9_goesOn_2 : decode cX9_goesOn 2 = .ok (.iload_n 3, 1) := by decide +kernel
theorem dX9_goesOn_3 : decode cX9_goesOn 3 = .ok (.iload_n 2, 1) := by decide +kernel
theorem dX9_goesOn_4 : decode cX9_goesOn 4 = .ok (.if_icmp .ge 52, 3) := by decide +kernel
theorem dX9_goesOn_7 : decode cX9_goesOn 7 = .ok (.aload_n 0, 1) := by decide +kernel
theorem dX9_goesOn_8 : decode cX9_goesOn 8 = .ok (.iload_n 1, 1) := by decide +kernel
theorem dX9_goesOn_9 : decode cX9_goesOn 9 = .ok (.aload_n 0, 1) := by decide +kernel
theorem dX9_goesOn_10 : decode cX9_goesOn 10 = .ok (.getfield 32, 3) := by decide +kernel
theorem dX9_goesOn_13 : decode cX9_goesOn 13 = .ok (.iload_n 1, 1) := by decide +kernel
theorem dX9_goesOn_14 : decode cX9_goesOn 14 = .ok (.iaload, 1) := by decide +kernel
theorem dX9_goesOn_15 : decode cX9_goesOn 15 = .ok (.invokevirtual 124, 3) := by decide +kernel
theorem dX9_goesOn_18 : decode cX9_goesOn 18 = .ok (.istore 4, 2) := by decide +kernel
theorem dX9_goesOn_20 : decode cX9_goesOn 20 = .ok (.aload_n 0, 1) := by decide +kernel
theorem dX9_goesOn_21 : decode cX9_goesOn 21 = .ok (.getfield 17, 3) := by decide +kernel
theorem dX9_goesOn_24 : decode cX9_goesOn 24 = .ok (.iload 4, 2) := by decide +kernel
theorem dX9_goesOn_26 : decode cX9_goesOn 26 = .ok (.sipush 9999, 3) := by decide +kernel
theorem dX9_goesOn_29 : decode cX9_goesOn 29 = .ok (.aload_n 0, 1) := by decide +kernel
theorem dX9_goesOn_30 : decode cX9_goesOn 30 = .ok (.getfield 17, 3) := by decide +kernel
theorem dX9_goesOn_33 : decode cX9_goesOn 33 = .ok (.iload 4, 2) := by decide +kernel
theorem dX9_goesOn_35 : decode cX9_goesOn 35 = .ok (.iaload, 1) := by decide +kernel
theorem dX9_goesOn_36 : decode cX9_goesOn 36 = .ok (.iconst 1, 1) := by decide +kernel
theorem dX9_goesOn_37 : decode cX9_goesOn 37 = .ok (.iadd, 1) := by decide +kernel
theorem dX9_goesOn_38 : decode cX9_goesOn 38 = .ok (.invokestatic 128, 3) := by decide +kernel
theorem dX9_goesOn_41 : decode cX9_goesOn 41 = .ok (.iastore, 1) := by decide +kernel
theorem dX9_goesOn_42 : decode cX9_goesOn 42 = .ok (.aload_n 0, 1) := by decide +kernel
theorem dX9_goesOn_43 : decode cX9_goesOn 43 = .ok (.getfield 32, 3) := by decide +kernel
theorem dX9_goesOn_46 : decode cX9_goesOn 46 = .ok (.iload_n 1, 1) := by decide +kernel
theorem dX9_goesOn_47 : decode cX9_goesOn 47 = .ok (.iload 4, 2) := by decide +kernel
theorem dX9_goesOn_49 : decode cX9_goesOn 49 = .ok (.iastore, 1) := by decide +kernel
theorem dX9_goesOn_50 : decode cX9_goesOn 50 = .ok (.iinc 3 1, 3) := by decide +kernel
theorem dX9_goesOn_53 : decode cX9_goesOn 53 = .ok (.goto (-51), 3) := by decide +kernel
theorem dX9_goesOn_56 : decode cX9_goesOn 56 = .ok (.aload_n 0, 1) := by decide +kernel
theorem dX9_goesOn_57 : decode cX9_goesOn 57 = .ok (.getfield 35, 3) := by decide +kernel
theorem dX9_goesOn_60 : decode cX9_goesOn 60 = .ok (.iload_n 1, 1) := by decide +kernel
theorem dX9_goesOn_61 : decode cX9_goesOn 61 = .ok (.sipush 9999, 3) := by decide +kernel
theorem dX9_goesOn_64 : decode cX9_goesOn 64 = .ok (.aload_n 0, 1) := by decide +kernel
theorem dX9_goesOn_65 : decode cX9_goesOn 65 = .ok (.getfield 35, 3) := by decide +kernel
theorem dX9_goesOn_68 : decode cX9_goesOn 68 = .ok (.iload_n 1, 1) := by decide +kernel
theorem dX9_goesOn_69 : decode cX9_goesOn 69 = .ok (.iaload, 1) := by decide +kernel
theorem dX9_goesOn_70 : decode cX9_goesOn 70 = .ok (.iload_n 2, 1) := by decide +kernel
theorem dX9_goesOn_71 : decode cX9_goesOn 71 = .ok (.iadd, 1) := by decide +kernel
theorem dX9_goesOn_72 : decode cX9_goesOn 72 = .ok (.invokestatic 128, 3) := by decide +kernel
theorem dX9_goesOn_75 : decode cX9_goesOn 75 = .ok (.iastore, 1) := by decide +kernel
theorem dX9_goesOn_76 : decode cX9_goesOn 76 = .ok (.return_, 1) := by decide +kernel
set_option maxRecDepth 20000 in
set_option maxHeartbeats 4000000 in
theorem v_X9_goesOn_L2 (l : Launch) (g : GG) {r : SS} {κ : Nat → Int32 → Int32 → SS → Option SS} (hκ : ∀ (p0 : Nat) (y1 : Int32) (y2 : Int32) (τ : SS) (hp0 : kd p0 = 8), κ p0 y1 y2 τ = some r → VV l g 3 RX9 cX9_goesOn 5 none (none, r) 56 [(0, .ref (g.1 p0)), (1, .int y1), (2, .int y2)] [] τ) : ∀ (fu : Nat) (q0 : Nat) (x1 : Int32) (x2 : Int32) (x3 : Int32) (hq0 : kd q0 = 8) (σ : SS), f_X9_goesOn_L2 κ fu q0 x1 x2 x3 σ = some r → VV l g 3 RX9 cX9_goesOn 5 none (none, r) 2 [(0, .ref (g.1 q0)), (1, .int x1), (2, .int x2), (3, .int x3)] [] σ := by
  intro fu
  induction fu with
  | zero => intro q0 x1 x2 x3 hq0 σ h; cases h
  | succ fu ih =>
    intro q0 x1 x2 x3 hq0 σ h
    simp only [f_X9_goesOn_L2] at h
    refine vr_iload_n (pc := 2) 3 dX9_goesOn_2 rfl rfl ?_
    refine vr_iload_n (pc := 3) 2 dX9_goesOn_3 rfl rfl ?_
    refine vr_icmp_ge (pc := 4) 56 dX9_goesOn_4 (by decide) (fun c1 => ?_) (fun c1 => ?_)
    · rw [if_pos c1] at h
      refine vr_sub [0, 1, 2] [(0, .ref (g.1 q0)), (1, .int x1), (2, .int x2)] rfl ?_
      exact hκ q0 x1 x2 σ (hq0) h
    · rw [if_neg c1] at h
      refine vr_aload_n (pc := 7) 0 dX9_goesOn_7 rfl rfl ?_
      refine vr_iload_n (pc := 8) 1 dX9_goesOn_8 rfl rfl ?_
      refine vr_aload_n (pc := 9) 0 dX9_goesOn_9 rfl rfl ?_
      refine vr_getR (pc := 10) 8 dX9_goesOn_10 fi_X9_32 hq0 (sh_8_8 hq0).1 ?_
      refine vr_iload_n (pc := 13) 1 dX9_goesOn_13 rfl rfl ?_
      obtain ⟨hc2, h⟩ := ck_some h
      refine vr_iald (pc := 14) dX9_goesOn_14 (sh_8_8 hq0).2 hc2 ?_
      obtain ⟨z3, hz4, h⟩ := ob_some h
      refine vr_callV (pc := 15) (ρ1 := (some (.int z3), σ)) [.int x1, .int (σ.1 (rid q0 8) x1.toNatClampNeg)] dX9_goesOn_15 (s_X9_nextBy l g (hq0) hz4) cw_X9_nextBy ml_X9_124 hq0 rfl (by decide) (by decide) rfl rfl (Nat.le_of_ble_eq_true rfl) ?_
      refine vr_istore (pc := 18) [(4, .int z3), (0, .ref (g.1 q0)), (1, .int x1), (2, .int x2), (3, .int x3)] dX9_goesOn_18 (by decide) rfl ?_
      refine vr_aload_n (pc := 20) 1 dX9_goesOn_20 rfl rfl ?_
      refine vr_getR (pc := 21) 2 dX9_goesOn_21 fi_X9_17 hq0 (sh_8_2 hq0).1 ?_
      refine vr_iload (pc := 24) 0 dX9_goesOn_24 rfl ?_
      refine vr_sipush (pc := 26) 9999 dX9_goesOn_26 cs_9999 ?_
      refine vr_aload_n (pc := 29) 1 dX9_goesOn_29 rfl rfl ?_
      refine vr_getR (pc := 30) 2 dX9_goesOn_30 fi_X9_17 hq0 (sh_8_2 hq0).1 ?_
      refine vr_iload (pc := 33) 0 dX9_goesOn_33 rfl ?_
      obtain ⟨hc5, h⟩ := ck_some h
      refine vr_iald (pc := 35) dX9_goesOn_35 (sh_8_2 hq0).2 hc5 ?_
      refine vr_iconst (pc := 36) 1 dX9_goesOn_36 ci_1 ?_
      refine vr_iadd (pc := 37) dX9_goesOn_37 ?_
      refine vr_mmin (pc := 38) dX9_goesOn_38 ml_X9_128 (by decide) (Nat.le_of_ble_eq_true rfl) ?_
      obtain ⟨hc6, h⟩ := ck_some h
      refine vr_iast (pc := 41) dX9_goesOn_41 (sh_8_2 hq0).2 hc6 ?_
      refine vr_aload_n (pc := 42) 1 dX9_goesOn_42 rfl rfl ?_
      refine vr_getR (pc := 43) 8 dX9_goesOn_43 fi_X9_32 hq0 (sh_8_8 hq0).1 ?_
      refine vr_iload_n (pc := 46) 2 dX9_goesOn_46 rfl rfl ?_
      refine vr_iload (pc := 47) 0 dX9_goesOn_47 rfl ?_
      obtain ⟨hc7, h⟩ := ck_some h
      refine vr_iast (pc := 49) dX9_goesOn_49 (sh_8_8 hq0).2 hc7 ?_
      refine vr_iinc (pc := 50) [(3, .int (x3 + 1)), (4, .int z3), (0, .ref (g.1 q0)), (1, .int x1), (2, .int x2)] 4 dX9_goesOn_50 rfl (congrArg (fun z => x3 + z) ci_1) (by decide) rfl ?_
      refine vr_goto (pc := 53) 2 dX9_goesOn_53 (by decide) ?_
      refine vr_sub [2, 3, 4, 0] [(0, .ref (g.1 q0)), (1, .int x1), (2, .int x2), (3, .int (x3 + 1))] rfl ?_
      exact ih q0 x1 x2 (x3 + 1) (hq0) (sI (sI σ (rid q0 2) z3.toNatClampNeg (f_J9_min_7cf53 9999 ((σ.1 (rid q0 2) z3.toNatClampNeg) + 1))) (rid q0 8) x1.toNatClampNeg z3) h
set_option maxRecDepth 20000 in
set_option maxHeartbeats 4000000 in
theorem s_X9_goesOn (l : Launch) (g : GG) {q0 : Nat} (hq0 : kd q0 = 8) {a1 : Int32} {a2 : Int32} {σ : SS} {r : SS} (h : f_X9_goesOn q0 a1 a2 σ = some r) : CT l g 3 yX9_goesOn cX9_goesOn 5 none [.ref (g.1 q0), .int a1, .int a2] σ (none, r) := by
  refine CT.of (lv := [(0, .ref (g.1 q0)), (1, .int a1), (2, .int a2)]) RX9 (by decide +kernel) rfl (Nat.le_of_ble_eq_true rfl) rfl ?_
  unfold f_X9_goesOn at h
  refine vr_iconst (pc := 0) 0 dX9_goesOn_0 ci_0 ?_
  refine vr_istore_n (pc := 1) [(3, .int 0), (0, .ref (g.1 q0)), (1, .int a1), (2, .int a2)] dX9_goesOn_1 rfl (by decide) rfl ?_
  refine vr_sub [1, 2, 3, 0] [(0, .ref (g.1 q0)), (1, .int a1), (2, .int a2), (3, .int 0)] rfl ?_
  refine v_X9_goesOn_L2 l g (fun p0 y1 y2 τ hp0 h => ?_) FU q0 a1 a2 0 (hq0) σ h
  refine vr_aload_n (pc := 56) 0 dX9_goesOn_56 rfl rfl ?_
  refine vr_getR (pc := 57) 9 dX9_goesOn_57 fi_X9_35 hp0 (sh_8_9 hp0).1 ?_
  refine vr_iload_n (pc := 60) 1 dX9_goesOn_60 rfl rfl ?_
  refine vr_sipush (pc := 61) 9999 dX9_goesOn_61 cs_9999 ?_
  refine vr_aload_n (pc := 64) 0 dX9_goesOn_64 rfl rfl ?_
  refine vr_getR (pc := 65) 9 dX9_goesOn_65 fi_X9_35 hp0 (sh_8_9 hp0).1 ?_
  refine vr_iload_n (pc := 68) 1 dX9_goesOn_68 rfl rfl ?_
  obtain ⟨hc8, h⟩ := ck_some h
  refine vr_iald (pc := 69) dX9_goesOn_69 (sh_8_9 hp0).2 hc8 ?_
  refine vr_iload_n (pc := 70) 2 dX9_goesOn_70 rfl rfl ?_
  refine vr_iadd (pc := 71) dX9_goesOn_71 ?_
  refine vr_mmin (pc := 72) dX9_goesOn_72 ml_X9_128 (by decide) (Nat.le_of_ble_eq_true rfl) ?_
  obtain ⟨hc9, h⟩ := ck_some h
  refine vr_iast (pc := 75) dX9_goesOn_75 (sh_8_9 hp0).2 hc9 ?_
  have h := Option.some.inj h; subst h
  exact vr_vret (pc := 76) dX9_goesOn_76 rfl rfl
theorem dX9_does_0 : decode cX9_does 0 = .ok (.aload_n 0, 1) := by decide +kernel
theorem dX9_does_1 : decode cX9_does 1 = .ok (.getfield 38, 3) := by decide +kernel
theorem dX9_does_4 : decode cX9_does 4 = .ok (.iload_n 1, 1) := by decide +kernel
theorem dX9_does_5 : decode cX9_does 5 = .ok (.iaload, 1) := by decide +kernel
theorem dX9_does_6 : decode cX9_does 6 = .ok (.lookupswitch 256 #[(97, 213), (114, 42), (119, 77), (120, 179)], 42) := by decide +kernel
theorem dX9_does_48 : decode cX9_does 48 = .ok (.aload_n 0, 1) := by decide +kernel
theorem dX9_does_49 : decode cX9_does 49 = .ok (.iload_n 1, 1) := by decide +kernel
theorem dX9_does_50 : decode cX9_does 50 = .ok (.iconst 1, 1) := by decide +kernel
theorem dX9_does_51 : decode cX9_does 51 = .ok (.iadd, 1) := by decide +kernel
theorem dX9_does_52 : decode cX9_does 52 = .ok (.invokevirtual 133, 3) := by decide +kernel
theorem dX9_does_55 : decode cX9_does 55 = .ok (.istore_n 2, 1) := by decide +kernel
theorem dX9_does_56 : decode cX9_does 56 = .ok (.iload_n 2, 1) := by decide +kernel
theorem dX9_does_57 : decode cX9_does 57 = .ok (.iconst 3, 1) := by decide +kernel
theorem dX9_does_58 : decode cX9_does 58 = .ok (.bipush 60, 2) := by decide +kernel
theorem dX9_does_60 : decode cX9_does 60 = .ok (.invokestatic 111, 3) := by decide +kernel
theorem dX9_does_63 : decode cX9_does 63 = .ok (.ifCond .eq 11, 3) := by decide +kernel
theorem dX9_does_66 : decode cX9_does 66 = .ok (.aload_n 0, 1) := by decide +kernel
theorem dX9_does_67 : decode cX9_does 67 = .ok (.iload_n 2, 1) := by decide +kernel
theorem dX9_does_68 : decode cX9_does 68 = .ok (.invokevirtual 136, 3) := by decide +kernel
theorem dX9_does_71 : decode cX9_does 71 = .ok (.ifCond .ne 5, 3) := by decide +kernel
theorem dX9_does_74 : decode cX9_does 74 = .ok (.iconst 0, 1) := by decide +kernel
theorem dX9_does_75 : decode cX9_does 75 = .ok (.ireturn, 1) := by decide +kernel
theorem dX9_does_76 : decode cX9_does 76 = .ok (.aload_n 0, 1) := by decide +kernel
theorem dX9_does_77 : decode cX9_does 77 = .ok (.iload_n 2, 1) := by decide +kernel
theorem dX9_does_78 : decode cX9_does 78 = .ok (.invokevirtual 140, 3) := by decide +kernel
theorem dX9_does_81 : decode cX9_does 81 = .ok (.iconst 1, 1) := by decide +kernel
theorem dX9_does_82 : decode cX9_does 82 = .ok (.ireturn, 1) := by decide +kernel
theorem dX9_does_83 : decode cX9_does 83 = .ok (.aload_n 0, 1) := by decide +kernel
theorem dX9_does_84 : decode cX9_does 84 = .ok (.iload_n 1, 1) := by decide +kernel
theorem dX9_does_85 : decode cX9_does 85 = .ok (.iconst 1, 1) := by decide +kernel
theorem dX9_does_86 : decode cX9_does 86 = .ok (.iadd, 1) := by decide +kernel
theorem dX9_does_87 : decode cX9_does 87 = .ok (.invokevirtual 121, 3) := by decide +kernel
theorem dX9_does_90 : decode cX9_does 90 = .ok (.istore_n 2, 1) := by decide +kernel
theorem dX9_does_91 : decode cX9_does 91 = .ok (.aload_n 0, 1) := by decide +kernel
theorem dX9_does_92 : decode cX9_does 92 = .ok (.iload_n 1, 1) := by decide +kernel
theorem dX9_does_93 : decode cX9_does 93 = .ok (.iconst 2, 1) := by decide +kernel
theorem dX9_does_94 : decode cX9_does 94 = .ok (.iadd, 1) := by decide +kernel
theorem dX9_does_95 : decode cX9_does 95 = .ok (.invokevirtual 133, 3) := by decide +kernel
theorem dX9_does_98 : decode cX9_does 98 = .ok (.istore_n 3, 1) := by decide +kernel
theorem dX9_does_99 : decode cX9_does 99 = .ok (.aload_n 0, 1) := by decide +kernel
theorem dX9_does_100 : decode cX9_does 100 = .ok (.iload_n 1, 1) := by decide +kernel
theorem dX9_does_101 : decode cX9_does 101 = .ok (.iconst 4, 1) := by decide +kernel
theorem dX9_does_102 : decode cX9_does 102 = .ok (.iadd, 1) := by decide +kernel
theorem dX9_does_103 : decode cX9_does 103 = .ok (.invokevirtual 121, 3) := by decide +kernel
theorem dX9_does_106 : decode cX9_does 106 = .ok (.istore 4, 2) := by decide +kernel
theorem dX9_does_108 : decode cX9_does 108 = .ok (.aload_n 0, 1) := by decide +kernel
theorem dX9_does_109 : decode cX9_does 109 = .ok (.iload_n 1, 1) := by decide +kernel
theorem dX9_does_110 : decode cX9_does 110 = .ok (.iconst 5, 1) := by decide +kernel
theorem dX9_does_111 : decode cX9_does 111 = .ok (.iadd, 1) := by decide +kernel
theorem dX9_does_112 : decode cX9_does 112 = .ok (.invokevirtual 133, 3) := by decide +kernel
theorem dX9_does_115 : decode cX9_does 115 = .ok (.istore 5, 2) := by decide +kernel
theorem dX9_does_117 : decode cX9_does 117 = .ok (.aload_n 0, 1) := by decide +kernel
theorem dX9_does_118 : decode cX9_does 118 = .ok (.iload_n 1, 1) := by decide +kernel
theorem dX9_does_119 : decode cX9_does 119 = .ok (.bipush 7, 2) := by decide +kernel
theorem dX9_does_121 : decode cX9_does 121 = .ok (.iadd, 1) := by decide +kernel
theorem dX9_does_122 : decode cX9_does 122 = .ok (.invokevirtual 121, 3) := by decide +kernel
theorem dX9_does_125 : decode cX9_does 125 = .ok (.istore 6, 2) := by decide +kernel
theorem dX9_does_127 : decode cX9_does 127 = .ok (.iload_n 2, 1) := by decide +kernel
theorem dX9_does_128 : decode cX9_does 128 = .ok (.iconst 5, 1) := by decide +kernel
theorem dX9_does_129 : decode cX9_does 129 = .ok (.if_icmp .gt 40, 3) := by decide +kernel
theorem dX9_does_132 : decode cX9_does 132 = .ok (.iload_n 3, 1) := by decide +kernel
theorem dX9_does_133 : decode cX9_does 133 = .ok (.iconst 1, 1) := by decide +kernel
theorem dX9_does_134 : decode cX9_does 134 = .ok (.aload_n 0, 1) := by decide +kernel
theorem dX9_does_135 : decode cX9_does 135 = .ok (.getfield 7, 3) := by decide +kernel
theorem dX9_does_138 : decode cX9_does 138 = .ok (.iconst 1, 1) := by decide +kernel
theorem dX9_does_139 : decode cX9_does 139 = .ok (.isub, 1) := by decide +kernel
theorem dX9_does_140 : decode cX9_does 140 = .ok (.invokestatic 111, 3) := by decide +kernel
theorem dX9_does_143 : decode cX9_does 143 = .ok (.ifCond .eq 26, 3) := by decide +kernel
theorem dX9_does_146 : decode cX9_does 146 = .ok (.iload 5, 2) := by decide +kernel
theorem dX9_does_148 : decode cX9_does 148 = .ok (.aload_n 0, 1) := by decide +kernel
theorem dX9_does_149 : decode cX9_does 149 = .ok (.getfield 7, 3) := by decide +kernel
theorem dX9_does_152 : decode cX9_does 152 = .ok (.if_icmp .ge 17, 3) := by decide +kernel
theorem dX9_does_155 : decode cX9_does 155 = .ok (.iload 6, 2) := by decide +kernel
theorem dX9_does_157 : decode cX9_does 157 = .ok (.ifCond .eq 12, 3) := by decide +kernel
theorem dX9_does_160 : decode cX9_does 160 = .ok (.aload_n 0, 1) := by decide +kernel
theorem dX9_does_161 : decode cX9_does 161 = .ok (.getfield 108, 3) := by decide +kernel
theorem dX9_does_164 : decode cX9_does 164 = .ok (.bipush 6, 2) := by decide +kernel
theorem dX9_does_166 : decode cX9_does 166 = .ok (.if_icmp .ne 5, 3) := by decide +kernel
theorem dX9_does_169 : decode cX9_does 169 = .ok (.iconst 0, 1) := by decide +kernel
theorem dX9_does_170 : decode cX9_does 170 = .ok (.ireturn, 1) := by decide +kernel
theorem dX9_does_171 : decode cX9_does 171 = .ok (.aload_n 0, 1) := by decide +kernel
theorem dX9_does_172 : decode cX9_does 172 = .ok (.iload_n 2, 1) := by decide +kernel
theorem dX9_does_173 : decode cX9_does 173 = .ok (.iload_n 3, 1) := by decide +kernel
theorem dX9_does_174 : decode cX9_does 174 = .ok (.iload 4, 2) := by decide +kernel
theorem dX9_does_176 : decode cX9_does 176 = .ok (.iload 5, 2) := by decide +kernel
theorem dX9_does_178 : decode cX9_does 178 = .ok (.iload 6, 2) := by decide +kernel
theorem dX9_does_180 : decode cX9_does 180 = .ok (.invokevirtual 144, 3) := by decide +kernel
theorem dX9_does_183 : decode cX9_does 183 = .ok (.iconst 1, 1) := by decide +kernel
theorem dX9_does_184 : decode cX9_does 184 = .ok (.ireturn, 1) := by decide +kernel
theorem dX9_does_185 : decode cX9_does 185 = .ok (.aload_n 0, 1) := by decide +kernel
theorem dX9_does_186 : decode cX9_does 186 = .ok (.iload_n 1, 1) := by decide +kernel
theorem dX9_does_187 : decode cX9_does 187 = .ok (.iconst 1, 1) := by decide +kernel
theorem dX9_does_188 : decode cX9_does 188 = .ok (.iadd, 1) := by decide +kernel
theorem dX9_does_189 : decode cX9_does 189 = .ok (.invokevirtual 133, 3) := by decide +kernel
theorem dX9_does_192 : decode cX9_does 192 = .ok (.istore_n 2, 1) := by decide +kernel
theorem dX9_does_193 : decode cX9_does 193 = .ok (.iload_n 2, 1) := by decide +kernel
theorem dX9_does_194 : decode cX9_does 194 = .ok (.aload_n 0, 1) := by decide +kernel
theorem dX9_does_195 : decode cX9_does 195 = .ok (.getfield 7, 3) := by decide +kernel
theorem dX9_does_198 : decode cX9_does 198 = .ok (.if_icmp .lt 5, 3) := by decide +kernel
theorem dX9_does_201 : decode cX9_does 201 = .ok (.iconst 0, 1) := by decide +kernel
theorem dX9_does_202 : decode cX9_does 202 = .ok (.ireturn, 1) := by decide +kernel
theorem dX9_does_203 : decode cX9_does 203 = .ok (.aload_n 0, 1) := by decide +kernel
theorem dX9_does_204 : decode cX9_does 204 = .ok (.getfield 13, 3) := by decide +kernel
theorem dX9_does_207 : decode cX9_does 207 = .ok (.iload_n 2, 1) := by decide +kernel
theorem dX9_does_208 : decode cX9_does 208 = .ok (.iconst 1, 1) := by decide +kernel
theorem dX9_does_209 : decode cX9_does 209 = .ok (.aload_n 0, 1) := by decide +kernel
theorem dX9_does_210 : decode cX9_does 210 = .ok (.getfield 13, 3) := by decide +kernel
theorem dX9_does_213 : decode cX9_does 213 = .ok (.iload_n 2, 1) := by decide +kernel
theorem dX9_does_214 : decode cX9_does 214 = .ok (.iaload, 1) := by decide +kernel
theorem dX9_does_215 : decode cX9_does 215 = .ok (.isub, 1) := by decide +kernel
theorem dX9_does_216 : decode cX9_does 216 = .ok (.iastore, 1) := by decide +kernel
theorem dX9_does_217 : decode cX9_does 217 = .ok (.iconst 1, 1) := by decide +kernel
theorem dX9_does_218 : decode cX9_does 218 = .ok (.ireturn, 1) := by decide +kernel
theorem dX9_does_219 : decode cX9_does 219 = .ok (.aload_n 0, 1) := by decide +kernel
theorem dX9_does_220 : decode cX9_does 220 = .ok (.iload_n 1, 1) := by decide +kernel
theorem dX9_does_221 : decode cX9_does 221 = .ok (.iconst 1, 1) := by decide +kernel
theorem dX9_does_222 : decode cX9_does 222 = .ok (.iadd, 1) := by decide +kernel
theorem dX9_does_223 : decode cX9_does 223 = .ok (.invokevirtual 121, 3) := by decide +kernel
theorem dX9_does_226 : decode cX9_does 226 = .ok (.istore_n 2, 1) := by decide +kernel
theorem dX9_does_227 : decode cX9_does 227 = .ok (.aload_n 0, 1) := by decide +kernel
theorem dX9_does_228 : decode cX9_does 228 = .ok (.iload_n 1, 1) := by decide +kernel
theorem dX9_does_229 : decode cX9_does 229 = .ok (.iconst 2, 1) := by decide +kernel
theorem dX9_does_230 : decode cX9_does 230 = .ok (.iadd, 1) := by decide +kernel
theorem dX9_does_231 : decode cX9_does 231 = .ok (.invokevirtual 133, 3) := by decide +kernel
theorem dX9_does_234 : decode cX9_does 234 = .ok (.istore_n 3, 1) := by decide +kernel
theorem dX9_does_235 : decode cX9_does 235 = .ok (.iload_n 2, 1) := by decide +kernel
theorem dX9_does_236 : decode cX9_does 236 = .ok (.aload_n 0, 1) := by decide +kernel
theorem dX9_does_237 : decode cX9_does 237 = .ok (.getfield 108, 3) := by decide +kernel
theorem dX9_does_240 : decode cX9_does 240 = .ok (.if_icmp .ge 11, 3) := by decide +kernel
theorem dX9_does_243 : decode cX9_does 243 = .ok (.iload_n 3, 1) := by decide +kernel
theorem dX9_does_244 : decode cX9_does 244 = .ok (.aload_n 0, 1) := by decide +kernel
theorem dX9_does_245 : decode cX9_does 245 = .ok (.getfield 7, 3) := by decide +kernel
theorem dX9_does_248 : decode cX9_does 248 = .ok (.if_icmp .lt 5, 3) := by decide +kernel
theorem dX9_does_251 : decode cX9_does 251 = .ok (.iconst 0, 1) := by decide +kernel
theorem dX9_does_252 : decode cX9_does 252 = .ok (.ireturn, 1) := by decide +kernel
theorem dX9_does_253 : decode cX9_does 253 = .ok (.aload_n 0, 1) := by decide +kernel
theorem dX9_does_254 : decode cX9_does 254 = .ok (.getfield 32, 3) := by decide +kernel
theorem dX9_does_257 : decode cX9_does 257 = .ok (.iload_n 2, 1) := by decide +kernel
theorem dX9_does_258 : decode cX9_does 258 = .ok (.iload_n 3, 1) := by decide +kernel
theorem dX9_does_259 : decode cX9_does 259 = .ok (.iastore, 1) := by decide +kernel
theorem dX9_does_260 : decode cX9_does 260 = .ok (.iconst 1, 1) := by decide +kernel
theorem dX9_does_261 : decode cX9_does 261 = .ok (.ireturn, 1) := by decide +kernel
theorem dX9_does_262 : decode cX9_does 262 = .ok (.aload_n 0, 1) := by decide +kernel
theorem dX9_does_263 : decode cX9_does 263 = .ok (.iload_n 1, 1) := by decide +kernel
theorem dX9_does_264 : decode cX9_does 264 = .ok (.iconst 1, 1) := by decide +kernel
theorem dX9_does_265 : decode cX9_does 265 = .ok (.iadd, 1) := by decide +kernel
theorem dX9_does_266 : decode cX9_does 266 = .ok (.invokevirtual 121, 3) := by decide +kernel
theorem dX9_does_269 : decode cX9_does 269 = .ok (.istore_n 2, 1) := by decide +kernel
theorem dX9_does_270 : decode cX9_does 270 = .ok (.aload_n 0, 1) := by decide +kernel
theorem dX9_does_271 : decode cX9_does 271 = .ok (.iload_n 1, 1) := by decide +kernel
theorem dX9_does_272 : decode cX9_does 272 = .ok (.iconst 2, 1) := by decide +kernel
theorem dX9_does_273 : decode cX9_does 273 = .ok (.iadd, 1) := by decide +kernel
theorem dX9_does_274 : decode cX9_does 274 = .ok (.invokevirtual 133, 3) := by decide +kernel
theorem dX9_does_277 : decode cX9_does 277 = .ok (.istore_n 3, 1) := by decide +kernel
theorem dX9_does_278 : decode cX9_does 278 = .ok (.iload_n 2, 1) := by decide +kernel
theorem dX9_does_279 : decode cX9_does 279 = .ok (.aload_n 0, 1) := by decide +kernel
theorem dX9_does_280 : decode cX9_does 280 = .ok (.getfield 108, 3) := by decide +kernel
theorem dX9_does_283 : decode cX9_does 283 = .ok (.if_icmp .ge 13, 3) := by decide +kernel
theorem dX9_does_286 : decode cX9_does 286 = .ok (.iload_n 3, 1) := by decide +kernel
theorem dX9_does_287 : decode cX9_does 287 = .ok (.iconst 1, 1) := by decide +kernel
theorem dX9_does_288 : decode cX9_does 288 = .ok (.bipush 40, 2) := by decide +kernel
theorem dX9_does_290 : decode cX9_does 290 = .ok (.invokestatic 111, 3) := by decide +kernel
theorem dX9_does_293 : decode cX9_does 293 = .ok (.ifCond .ne 5, 3) := by decide +kernel
theorem dX9_does_296 : decode cX9_does 296 = .ok (.iconst 0, 1) := by decide +kernel
theorem dX9_does_297 : decode cX9_does 297 = .ok (.ireturn, 1) := by decide +kernel
theorem dX9_does_298 : decode cX9_does 298 = .ok (.aload_n 0, 1) := by decide +kernel
theorem dX9_does_299 : decode cX9_does 299 = .ok (.iload_n 2, 1) := by decide +kernel
theorem dX9_does_300 : decode cX9_does 300 = .ok (.iload_n 3, 1) := by decide +kernel
theorem dX9_does_301 : decode cX9_does 301 = .ok (.invokevirtual 148, 3) := by decide +kernel
theorem dX9_does_304 : decode cX9_does 304 = .ok (.iconst 1, 1) := by decide +kernel
theorem dX9_does_305 : decode cX9_does 305 = .ok (.ireturn, 1) := by decide +kernel
set_option maxRecDepth 20000 in
set_option maxHeartbeats 4000000 in
theorem s_X9_does (l : Launch) (g : GG) {q0 : Nat} (hq0 : kd q0 = 8) {a1 : Int32} {σ : SS} {r : Int32 × SS} (h : f_X9_does q0 a1 σ = some r) : CT l g 4 yX9_does cX9_does 7 (some .boolean) [.ref (g.1 q0), .int a1] σ (some (.int r.1), r.2) := by
  refine CT.of (lv := [(0, .ref (g.1 q0)), (1, .int a1)]) RX9 (by decide +kernel) rfl (Nat.le_of_ble_eq_true rfl) rfl ?_
  unfold f_X9_does at h
  refine vr_aload_n (pc := 0) 0 dX9_does_0 rfl rfl ?_
  refine vr_getR (pc := 1) 10 dX9_does_1 fi_X9_38 hq0 (sh_8_10 hq0).1 ?_
  refine vr_iload_n (pc := 4) 1 dX9_does_4 rfl rfl ?_
  obtain ⟨hc1, h⟩ := ck_some h
  refine vr_iald (pc := 5) dX9_does_5 (sh_8_10 hq0).2 hc1 ?_
  by_cases c2 : (σ.1 (rid q0 10) a1.toNatClampNeg) = 97
  · rw [if_pos c2] at h
    refine vr_lookup (pc := 6) 213 219 dX9_does_6 (by decide) (by rw [c2]; rfl) (by decide) ?_
    refine vr_aload_n (pc := 219) 0 dX9_does_219 rfl rfl ?_
    refine vr_iload_n (pc := 220) 1 dX9_does_220 rfl rfl ?_
    refine vr_iconst (pc := 221) 1 dX9_does_221 ci_1 ?_
    refine vr_iadd (pc := 222) dX9_does_222 ?_
    obtain ⟨z3, hz4, h⟩ := ob_some h
    refine vr_callV (pc := 223) (ρ1 := (some (.int z3), σ)) [.int (a1 + 1)] dX9_does_223 (s_X9_one l g (hq0) hz4) cw_X9_one ml_X9_121 hq0 rfl (by decide) (by decide) rfl rfl (Nat.le_of_ble_eq_true rfl) ?_
    refine vr_istore_n (pc := 226) [(2, .int z3), (0, .ref (g.1 q0)), (1, .int a1)] dX9_does_226 rfl (by decide) rfl ?_
    refine vr_aload_n (pc := 227) 1 dX9_does_227 rfl rfl ?_
    refine vr_iload_n (pc := 228) 2 dX9_does_228 rfl rfl ?_
    refine vr_iconst (pc := 229) 2 dX9_does_229 ci_2 ?_
    refine vr_iadd (pc := 230) dX9_does_230 ?_
    obtain ⟨z5, hz6, h⟩ := ob_some h
    refine vr_callV (pc := 231) (ρ1 := (some (.int z5), σ)) [.int (a1 + 2)] dX9_does_231 (s_X9_two l g (hq0) hz6) cw_X9_two ml_X9_133 hq0 rfl (by decide) (by decide) rfl rfl (Nat.le_of_ble_eq_true rfl) ?_
    refine vr_istore_n (pc := 234) [(3, .int z5), (2, .int z3), (0, .ref (g.1 q0)), (1, .int a1)] dX9_does_234 rfl (by decide) rfl ?_
    refine vr_iload_n (pc := 235) 1 dX9_does_235 rfl rfl ?_
    refine vr_aload_n (pc := 236) 2 dX9_does_236 rfl rfl ?_
    refine vr_getI (pc := 237) 3 dX9_does_237 fi_X9_108 hq0 (sh_8_3 hq0) ?_
    refine vr_icmp_ge (pc := 240) 251 dX9_does_240 (by decide) (fun c7 => ?_) (fun c7 => ?_)
    · rw [if_pos c7] at h
      refine vr_iconst (pc := 251) 0 dX9_does_251 ci_0 ?_
      have h := Option.some.inj h; subst h
      exact vr_iret (pc := 252) .boolean dX9_does_252 rfl rfl rfl
    · rw [if_neg c7] at h
      refine vr_iload_n (pc := 243) 0 dX9_does_243 rfl rfl ?_
      refine vr_aload_n (pc := 244) 2 dX9_does_244 rfl rfl ?_
      refine vr_getI (pc := 245) 0 dX9_does_245 fi_X9_7 hq0 (sh_8_0 hq0) ?_
      refine vr_icmp_lt (pc := 248) 253 dX9_does_248 (by decide) (fun c8 => ?_) (fun c8 => ?_)
      · rw [if_pos c8] at h
        refine vr_aload_n (pc := 253) 2 dX9_does_253 rfl rfl ?_
        refine vr_getR (pc := 254) 8 dX9_does_254 fi_X9_32 hq0 (sh_8_8 hq0).1 ?_
        refine vr_iload_n (pc := 257) 1 dX9_does_257 rfl rfl ?_
        refine vr_iload_n (pc := 258) 0 dX9_does_258 rfl rfl ?_
        obtain ⟨hc9, h⟩ := ck_some h
        refine vr_iast (pc := 259) dX9_does_259 (sh_8_8 hq0).2 hc9 ?_
        refine vr_iconst (pc := 260) 1 dX9_does_260 ci_1 ?_
        have h := Option.some.inj h; subst h
        exact vr_iret (pc := 261) .boolean dX9_does_261 rfl rfl rfl
      · rw [if_neg c8] at h
        refine vr_iconst (pc := 251) 0 dX9_does_251 ci_0 ?_
        have h := Option.some.inj h; subst h
        exact vr_iret (pc := 252) .boolean dX9_does_252 rfl rfl rfl
  · rw [if_neg c2] at h
    by_cases c10 : (σ.1 (rid q0 10) a1.toNatClampNeg) = 114
    · rw [if_pos c10] at h
      refine vr_lookup (pc := 6) 42 48 dX9_does_6 (by decide) (by rw [c10]; rfl) (by decide) ?_
      refine vr_aload_n (pc := 48) 0 dX9_does_48 rfl rfl ?_
      refine vr_iload_n (pc := 49) 1 dX9_does_49 rfl rfl ?_
      refine vr_iconst (pc := 50) 1 dX9_does_50 ci_1 ?_
      refine vr_iadd (pc := 51) dX9_does_51 ?_
      obtain ⟨z11, hz12, h⟩ := ob_some h
      refine vr_callV (pc := 52) (ρ1 := (some (.int z11), σ)) [.int (a1 + 1)] dX9_does_52 (s_X9_two l g (hq0) hz12) cw_X9_two ml_X9_133 hq0 rfl (by decide) (by decide) rfl rfl (Nat.le_of_ble_eq_true rfl) ?_
      refine vr_istore_n (pc := 55) [(2, .int z11), (0, .ref (g.1 q0)), (1, .int a1)] dX9_does_55 rfl (by decide) rfl ?_
      refine vr_iload_n (pc := 56) 0 dX9_does_56 rfl rfl ?_
      refine vr_iconst (pc := 57) 3 dX9_does_57 ci_3 ?_
      refine vr_bipush (pc := 58) 60 dX9_does_58 cb_60 ?_
      refine vr_callS (pc := 60) (ρ1 := (some (.int (f_X9_within z11 3 60)), σ)) [.int z11, .int 3, .int 60] dX9_does_60 (s_X9_within l g rfl) cw_X9_within ml_X9_111 (by decide) rfl rfl (Nat.le_of_ble_eq_true rfl) ?_
      refine vr_if_eq (pc := 63) 74 dX9_does_63 (by decide) (fun c13 => ?_) (fun c13 => ?_)
      · rw [if_pos c13] at h
        refine vr_iconst (pc := 74) 0 dX9_does_74 ci_0 ?_
        have h := Option.some.inj h; subst h
        exact vr_iret (pc := 75) .boolean dX9_does_75 rfl rfl rfl
      · rw [if_neg c13] at h
        refine vr_aload_n (pc := 66) 1 dX9_does_66 rfl rfl ?_
        refine vr_iload_n (pc := 67) 0 dX9_does_67 rfl rfl ?_
        obtain ⟨z14, hz15, h⟩ := ob_some h
        refine vr_callV (pc := 68) (ρ1 := (some (.int z14), σ)) [.int z11] dX9_does_68 (s_X9_fitsAll l g (hq0) hz15) cw_X9_fitsAll ml_X9_136 hq0 rfl (by decide) (by decide) rfl rfl (Nat.le_of_ble_eq_true rfl) ?_
        refine vr_if_ne (pc := 71) 76 dX9_does_71 (by decide) (fun c16 => ?_) (fun c16 => ?_)
        · rw [if_neg c16] at h
          refine vr_aload_n (pc := 76) 1 dX9_does_76 rfl rfl ?_
          refine vr_iload_n (pc := 77) 0 dX9_does_77 rfl rfl ?_
          obtain ⟨z17, hz18, h⟩ := ob_some h
          refine vr_callV (pc := 78) (ρ1 := (none, z17)) [.int z11] dX9_does_78 (s_X9_becomes l g (hq0) hz18) cw_X9_becomes ml_X9_140 hq0 rfl (by decide) (by decide) rfl rfl (Nat.le_of_ble_eq_true rfl) ?_
          refine vr_iconst (pc := 81) 1 dX9_does_81 ci_1 ?_
          have h := Option.some.inj h; subst h
          exact vr_iret (pc := 82) .boolean dX9_does_82 rfl rfl rfl
        · rw [if_pos c16] at h
          refine vr_iconst (pc := 74) 0 dX9_does_74 ci_0 ?_
          have h := Option.some.inj h; subst h
          exact vr_iret (pc := 75) .boolean dX9_does_75 rfl rfl rfl
    · rw [if_neg c10] at h
      by_cases c19 : (σ.1 (rid q0 10) a1.toNatClampNeg) = 119
      · rw [if_pos c19] at h
        refine vr_lookup (pc := 6) 77 83 dX9_does_6 (by decide) (by rw [c19]; rfl) (by decide) ?_
        refine vr_aload_n (pc := 83) 0 dX9_does_83 rfl rfl ?_
        refine vr_iload_n (pc := 84) 1 dX9_does_84 rfl rfl ?_
        refine vr_iconst (pc := 85) 1 dX9_does_85 ci_1 ?_
        refine vr_iadd (pc := 86) dX9_does_86 ?_
        obtain ⟨z20, hz21, h⟩ := ob_some h
        refine vr_callV (pc := 87) (ρ1 := (some (.int z20), σ)) [.int (a1 + 1)] dX9_does_87 (s_X9_one l g (hq0) hz21) cw_X9_one ml_X9_121 hq0 rfl (by decide) (by decide) rfl rfl (Nat.le_of_ble_eq_true rfl) ?_
        refine vr_istore_n (pc := 90) [(2, .int z20), (0, .ref (g.1 q0)), (1, .int a1)] dX9_does_90 rfl (by decide) rfl ?_
        refine vr_aload_n (pc := 91) 1 dX9_does_91 rfl rfl ?_
        refine vr_iload_n (pc := 92) 2 dX9_does_92 rfl rfl ?_
        refine vr_iconst (pc := 93) 2 dX9_does_93 ci_2 ?_
        refine vr_iadd (pc := 94) dX9_does_94 ?_
        obtain ⟨z22, hz23, h⟩ := ob_some h
        refine vr_callV (pc := 95) (ρ1 := (some (.int z22), σ)) [.int (a1 + 2)] dX9_does_95 (s_X9_two l g (hq0) hz23) cw_X9_two ml_X9_133 hq0 rfl (by decide) (by decide) rfl rfl (Nat.le_of_ble_eq_true rfl) ?_
        refine vr_istore_n (pc := 98) [(3, .int z22), (2, .int z20), (0, .ref (g.1 q0)), (1, .int a1)] dX9_does_98 rfl (by decide) rfl ?_
        refine vr_aload_n (pc := 99) 2 dX9_does_99 rfl rfl ?_
        refine vr_iload_n (pc := 100) 3 dX9_does_100 rfl rfl ?_
        refine vr_iconst (pc := 101) 4 dX9_does_101 ci_4 ?_
        refine vr_iadd (pc := 102) dX9_does_102 ?_
        obtain ⟨z24, hz25, h⟩ := ob_some h
        refine vr_callV (pc := 103) (ρ1 := (some (.int z24), σ)) [.int (a1 + 4)] dX9_does_103 (s_X9_one l g (hq0) hz25) cw_X9_one ml_X9_121 hq0 rfl (by decide) (by decide) rfl rfl (Nat.le_of_ble_eq_true rfl) ?_
        refine vr_istore (pc := 106) [(4, .int z24), (3, .int z22), (2, .int z20), (0, .ref (g.1 q0)), (1, .int a1)] dX9_does_106 (by decide) rfl ?_
        refine vr_aload_n (pc := 108) 3 dX9_does_108 rfl rfl ?_
        refine vr_iload_n (pc := 109) 4 dX9_does_109 rfl rfl ?_
        refine vr_iconst (pc := 110) 5 dX9_does_110 ci_5 ?_
        refine vr_iadd (pc := 111) dX9_does_111 ?_
        obtain ⟨z26, hz27, h⟩ := ob_some h
        refine vr_callV (pc := 112) (ρ1 := (some (.int z26), σ)) [.int (a1 + 5)] dX9_does_112 (s_X9_two l g (hq0) hz27) cw_X9_two ml_X9_133 hq0 rfl (by decide) (by decide) rfl rfl (Nat.le_of_ble_eq_true rfl) ?_
        refine vr_istore (pc := 115) [(5, .int z26), (4, .int z24), (3, .int z22), (2, .int z20), (0, .ref (g.1 q0)), (1, .int a1)] dX9_does_115 (by decide) rfl ?_
        refine vr_aload_n (pc := 117) 4 dX9_does_117 rfl rfl ?_
        refine vr_iload_n (pc := 118) 5 dX9_does_118 rfl rfl ?_
        refine vr_bipush (pc := 119) 7 dX9_does_119 cb_7 ?_
        refine vr_iadd (pc := 121) dX9_does_121 ?_
        obtain ⟨z28, hz29, h⟩ := ob_some h
        refine vr_callV (pc := 122) (ρ1 := (some (.int z28), σ)) [.int (a1 + 7)] dX9_does_122 (s_X9_one l g (hq0) hz29) cw_X9_one ml_X9_121 hq0 rfl (by decide) (by decide) rfl rfl (Nat.le_of_ble_eq_true rfl) ?_
        refine vr_istore (pc := 125) [(6, .int z28), (5, .int z26), (4, .int z24), (3, .int z22), (2, .int z20), (0, .ref (g.1 q0)), (1, .int a1)] dX9_does_125 (by decide) rfl ?_
        refine vr_iload_n (pc := 127) 4 dX9_does_127 rfl rfl ?_
        refine vr_iconst (pc := 128) 5 dX9_does_128 ci_5 ?_
        refine vr_icmp_gt (pc := 129) 169 dX9_does_129 (by decide) (fun c30 => ?_) (fun c30 => ?_)
        · rw [if_pos c30] at h
          refine vr_iconst (pc := 169) 0 dX9_does_169 ci_0 ?_
          have h := Option.some.inj h; subst h
          exact vr_iret (pc := 170) .boolean dX9_does_170 rfl rfl rfl
        · rw [if_neg c30] at h
          refine vr_iload_n (pc := 132) 3 dX9_does_132 rfl rfl ?_
          refine vr_iconst (pc := 133) 1 dX9_does_133 ci_1 ?_
          refine vr_aload_n (pc := 134) 5 dX9_does_134 rfl rfl ?_
          refine vr_getI (pc := 135) 0 dX9_does_135 fi_X9_7 hq0 (sh_8_0 hq0) ?_
          refine vr_iconst (pc := 138) 1 dX9_does_138 ci_1 ?_
          refine vr_isub (pc := 139) dX9_does_139 ?_
          refine vr_callS (pc := 140) (ρ1 := (some (.int (f_X9_within z22 1 ((σ.1 q0 0) - 1))), σ)) [.int z22, .int 1, .int ((σ.1 q0 0) - 1)] dX9_does_140 (s_X9_within l g rfl) cw_X9_within ml_X9_111 (by decide) rfl rfl (Nat.le_of_ble_eq_true rfl) ?_
          refine vr_if_eq (pc := 143) 169 dX9_does_143 (by decide) (fun c31 => ?_) (fun c31 => ?_)
          · rw [if_pos c31] at h
            refine vr_iconst (pc := 169) 0 dX9_does_169 ci_0 ?_
            have h := Option.some.inj h; subst h
            exact vr_iret (pc := 170) .boolean dX9_does_170 rfl rfl rfl
          · rw [if_neg c31] at h
            refine vr_iload (pc := 146) 1 dX9_does_146 rfl ?_
            refine vr_aload_n (pc := 148) 5 dX9_does_148 rfl rfl ?_
            refine vr_getI (pc := 149) 0 dX9_does_149 fi_X9_7 hq0 (sh_8_0 hq0) ?_
            refine vr_icmp_ge (pc := 152) 169 dX9_does_152 (by decide) (fun c32 => ?_) (fun c32 => ?_)
            · rw [if_pos c32] at h
              refine vr_iconst (pc := 169) 0 dX9_does_169 ci_0 ?_
              have h := Option.some.inj h; subst h
              exact vr_iret (pc := 170) .boolean dX9_does_170 rfl rfl rfl
            · rw [if_neg c32] at h
              refine vr_iload (pc := 155) 0 dX9_does_155 rfl ?_
              refine vr_if_eq (pc := 157) 169 dX9_does_157 (by decide) (fun c33 => ?_) (fun c33 => ?_)
              · rw [if_pos c33] at h
                refine vr_iconst (pc := 169) 0 dX9_does_169 ci_0 ?_
                have h := Option.some.inj h; subst h
                exact vr_iret (pc := 170) .boolean dX9_does_170 rfl rfl rfl
              · rw [if_neg c33] at h
                refine vr_aload_n (pc := 160) 5 dX9_does_160 rfl rfl ?_
                refine vr_getI (pc := 161) 3 dX9_does_161 fi_X9_108 hq0 (sh_8_3 hq0) ?_
                refine vr_bipush (pc := 164) 6 dX9_does_164 cb_6 ?_
                refine vr_icmp_ne (pc := 166) 171 dX9_does_166 (by decide) (fun c34 => ?_) (fun c34 => ?_)
                · rw [if_neg c34] at h
                  refine vr_aload_n (pc := 171) 5 dX9_does_171 rfl rfl ?_
                  refine vr_iload_n (pc := 172) 4 dX9_does_172 rfl rfl ?_
                  refine vr_iload_n (pc := 173) 3 dX9_does_173 rfl rfl ?_
                  refine vr_iload (pc := 174) 2 dX9_does_174 rfl ?_
                  refine vr_iload (pc := 176) 1 dX9_does_176 rfl ?_
                  refine vr_iload (pc := 178) 0 dX9_does_178 rfl ?_
                  obtain ⟨z35, hz36, h⟩ := ob_some h
                  refine vr_callV (pc := 180) (ρ1 := (none, z35)) [.int z20, .int z22, .int z24, .int z26, .int z28] dX9_does_180 (s_X9_comes l g (hq0) hz36) cw_X9_comes ml_X9_144 hq0 rfl (by decide) (by decide) rfl rfl (Nat.le_of_ble_eq_true rfl) ?_
                  refine vr_iconst (pc := 183) 1 dX9_does_183 ci_1 ?_
                  have h := Option.some.inj h; subst h
                  exact vr_iret (pc := 184) .boolean dX9_does_184 rfl rfl rfl
                · rw [if_pos c34] at h
                  refine vr_iconst (pc := 169) 0 dX9_does_169 ci_0 ?_
                  have h := Option.some.inj h; subst h
                  exact vr_iret (pc := 170) .boolean dX9_does_170 rfl rfl rfl
      · rw [if_neg c19] at h
        by_cases c37 : (σ.1 (rid q0 10) a1.toNatClampNeg) = 120
        · rw [if_pos c37] at h
          refine vr_lookup (pc := 6) 179 185 dX9_does_6 (by decide) (by rw [c37]; rfl) (by decide) ?_
          refine vr_aload_n (pc := 185) 0 dX9_does_185 rfl rfl ?_
          refine vr_iload_n (pc := 186) 1 dX9_does_186 rfl rfl ?_
          refine vr_iconst (pc := 187) 1 dX9_does_187 ci_1 ?_
          refine vr_iadd (pc := 188) dX9_does_188 ?_
          obtain ⟨z38, hz39, h⟩ := ob_some h
          refine vr_callV (pc := 189) (ρ1 := (some (.int z38), σ)) [.int (a1 + 1)] dX9_does_189 (s_X9_two l g (hq0) hz39) cw_X9_two ml_X9_133 hq0 rfl (by decide) (by decide) rfl rfl (Nat.le_of_ble_eq_true rfl) ?_
          refine vr_istore_n (pc := 192) [(2, .int z38), (0, .ref (g.1 q0)), (1, .int a1)] dX9_does_192 rfl (by decide) rfl ?_
          refine vr_iload_n (pc := 193) 0 dX9_does_193 rfl rfl ?_
          refine vr_aload_n (pc := 194) 1 dX9_does_194 rfl rfl ?_
          refine vr_getI (pc := 195) 0 dX9_does_195 fi_X9_7 hq0 (sh_8_0 hq0) ?_
          refine vr_icmp_lt (pc := 198) 203 dX9_does_198 (by decide) (fun c40 => ?_) (fun c40 => ?_)
          · rw [if_pos c40] at h
            refine vr_aload_n (pc := 203) 1 dX9_does_203 rfl rfl ?_
            refine vr_getR (pc := 204) 1 dX9_does_204 fi_X9_13 hq0 (sh_8_1 hq0).1 ?_
            refine vr_iload_n (pc := 207) 0 dX9_does_207 rfl rfl ?_
            refine vr_iconst (pc := 208) 1 dX9_does_208 ci_1 ?_
            refine vr_aload_n (pc := 209) 1 dX9_does_209 rfl rfl ?_
            refine vr_getR (pc := 210) 1 dX9_does_210 fi_X9_13 hq0 (sh_8_1 hq0).1 ?_
            refine vr_iload_n (pc := 213) 0 dX9_does_213 rfl rfl ?_
            obtain ⟨hc41, h⟩ := ck_some h
            refine vr_iald (pc := 214) dX9_does_214 (sh_8_1 hq0).2 hc41 ?_
            refine vr_isub (pc := 215) dX9_does_215 ?_
            obtain ⟨hc42, h⟩ := ck_some h
            refine vr_iast (pc := 216) dX9_does_216 (sh_8_1 hq0).2 hc42 ?_
            refine vr_iconst (pc := 217) 1 dX9_does_217 ci_1 ?_
            have h := Option.some.inj h; subst h
            exact vr_iret (pc := 218) .boolean dX9_does_218 rfl rfl rfl
          · rw [if_neg c40] at h
            refine vr_iconst (pc := 201) 0 dX9_does_201 ci_0 ?_
            have h := Option.some.inj h; subst h
            exact vr_iret (pc := 202) .boolean dX9_does_202 rfl rfl rfl
        · rw [if_neg c37] at h
          refine vr_lookup (pc := 6) 256 262 dX9_does_6 (by decide) (by simp only [Op.lookupswitch.offset]; have nc2 := i32_ne (n := 97) (by decide) c2; have nc10 := i32_ne (n := 114) (by decide) c10; have nc19 := i32_ne (n := 119) (by decide) c19; have nc37 := i32_ne (n := 120) (by decide) c37; simp [nc2, nc10, nc19, nc37, Ne.symm, eq_comm]) (by decide) ?_
          refine vr_aload_n (pc := 262) 0 dX9_does_262 rfl rfl ?_
          refine vr_iload_n (pc := 263) 1 dX9_does_263 rfl rfl ?_
          refine vr_iconst (pc := 264) 1 dX9_does_264 ci_1 ?_
          refine vr_iadd (pc := 265) dX9_does_265 ?_
          obtain ⟨z43, hz44, h⟩ := ob_some h
          refine vr_callV (pc := 266) (ρ1 := (some (.int z43), σ)) [.int (a1 + 1)] dX9_does_266 (s_X9_one l g (hq0) hz44) cw_X9_one ml_X9_121 hq0 rfl (by decide) (by decide) rfl rfl (Nat.le_of_ble_eq_true rfl) ?_
          refine vr_istore_n (pc := 269) [(2, .int z43), (0, .ref (g.1 q0)), (1, .int a1)] dX9_does_269 rfl (by decide) rfl ?_
          refine vr_aload_n (pc := 270) 1 dX9_does_270 rfl rfl ?_
          refine vr_iload_n (pc := 271) 2 dX9_does_271 rfl rfl ?_
          refine vr_iconst (pc := 272) 2 dX9_does_272 ci_2 ?_
          refine vr_iadd (pc := 273) dX9_does_273 ?_
          obtain ⟨z45, hz46, h⟩ := ob_some h
          refine vr_callV (pc := 274) (ρ1 := (some (.int z45), σ)) [.int (a1 + 2)] dX9_does_274 (s_X9_two l g (hq0) hz46) cw_X9_two ml_X9_133 hq0 rfl (by decide) (by decide) rfl rfl (Nat.le_of_ble_eq_true rfl) ?_
          refine vr_istore_n (pc := 277) [(3, .int z45), (2, .int z43), (0, .ref (g.1 q0)), (1, .int a1)] dX9_does_277 rfl (by decide) rfl ?_
          refine vr_iload_n (pc := 278) 1 dX9_does_278 rfl rfl ?_
          refine vr_aload_n (pc := 279) 2 dX9_does_279 rfl rfl ?_
          refine vr_getI (pc := 280) 3 dX9_does_280 fi_X9_108 hq0 (sh_8_3 hq0) ?_
          refine vr_icmp_ge (pc := 283) 296 dX9_does_283 (by decide) (fun c47 => ?_) (fun c47 => ?_)
          · rw [if_pos c47] at h
            refine vr_iconst (pc := 296) 0 dX9_does_296 ci_0 ?_
            have h := Option.some.inj h; subst h
            exact vr_iret (pc := 297) .boolean dX9_does_297 rfl rfl rfl
          · rw [if_neg c47] at h
            refine vr_iload_n (pc := 286) 0 dX9_does_286 rfl rfl ?_
            refine vr_iconst (pc := 287) 1 dX9_does_287 ci_1 ?_
            refine vr_bipush (pc := 288) 40 dX9_does_288 cb_40 ?_
            refine vr_callS (pc := 290) (ρ1 := (some (.int (f_X9_within z45 1 40)), σ)) [.int z45, .int 1, .int 40] dX9_does_290 (s_X9_within l g rfl) cw_X9_within ml_X9_111 (by decide) rfl rfl (Nat.le_of_ble_eq_true rfl) ?_
            refine vr_if_ne (pc := 293) 298 dX9_does_293 (by decide) (fun c48 => ?_) (fun c48 => ?_)
            · rw [if_neg c48] at h
              refine vr_aload_n (pc := 298) 2 dX9_does_298 rfl rfl ?_
              refine vr_iload_n (pc := 299) 1 dX9_does_299 rfl rfl ?_
              refine vr_iload_n (pc := 300) 0 dX9_does_300 rfl rfl ?_
              obtain ⟨z49, hz50, h⟩ := ob_some h
              refine vr_callV (pc := 301) (ρ1 := (none, z49)) [.int z43, .int z45] dX9_does_301 (s_X9_goesOn l g (hq0) hz50) cw_X9_goesOn ml_X9_148 hq0 rfl (by decide) (by decide) rfl rfl (Nat.le_of_ble_eq_true rfl) ?_
              refine vr_iconst (pc := 304) 1 dX9_does_304 ci_1 ?_
              have h := Option.some.inj h; subst h
              exact vr_iret (pc := 305) .boolean dX9_does_305 rfl rfl rfl
            · rw [if_pos c48] at h
              refine vr_iconst (pc := 296) 0 dX9_does_296 ci_0 ?_
              have h := Option.some.inj h; subst h
              exact vr_iret (pc := 297) .boolean dX9_does_297 rfl rfl rfl
theorem dX9_keep_0 : decode cX9_keep 0 = .ok (.aload_n 1, 1) := by decide +kernel
theorem dX9_keep_1 : decode cX9_keep 1 = .ok (.iconst 0, 1) := by decide +kernel
theorem dX9_keep_2 : decode cX9_keep 2 = .ok (.aload_n 0, 1) := by decide +kernel
theorem dX9_keep_3 : decode cX9_keep 3 = .ok (.getfield 7, 3) := by decide +kernel
theorem dX9_keep_6 : decode cX9_keep 6 = .ok (.iastore, 1) := by decide +kernel
theorem dX9_keep_7 : decode cX9_keep 7 = .ok (.aload_n 1, 1) := by decide +kernel
theorem dX9_keep_8 : decode cX9_keep 8 = .ok (.iconst 1, 1) := by decide +kernel
theorem dX9_keep_9 : decode cX9_keep 9 = .ok (.aload_n 0, 1) := by decide +kernel
theorem dX9_keep_10 : decode cX9_keep 10 = .ok (.getfield 108, 3) := by decide +kernel
theorem dX9_keep_13 : decode cX9_keep 13 = .ok (.iastore, 1) := by decide +kernel
theorem dX9_keep_14 : decode cX9_keep 14 = .ok (.iconst 0, 1) := by decide +kernel
theorem dX9_keep_15 : decode cX9_keep 15 = .ok (.istore_n 2, 1) := by decide +kernel
theorem dX9_keep_16 : decode cX9_keep 16 = .ok (.iload_n 2, 1) := by decide +kernel
theorem dX9_keep_17 : decode cX9_keep 17 = .ok (.bipush 6, 2) := by decide +kernel
theorem dX9_keep_19 : decode cX9_keep 19 = .ok (.if_icmp .ge 80, 3) := by decide +kernel
theorem dX9_keep_22 : decode cX9_keep 22 = .ok (.aload_n 1, 1) := by decide +kernel
theorem dX9_keep_23 : decode cX9_keep 23 = .ok (.iconst 2, 1) := by decide +kernel
theorem dX9_keep_24 : decode cX9_keep 24 = .ok (.iload_n 2, 1) := by decide +kernel
theorem dX9_keep_25 : decode cX9_keep 25 = .ok (.iadd, 1) := by decide +kernel
theorem dX9_keep_26 : decode cX9_keep 26 = .ok (.aload_n 0, 1) := by decide +kernel
theorem dX9_keep_27 : decode cX9_keep 27 = .ok (.getfield 20, 3) := by decide +kernel
theorem dX9_keep_30 : decode cX9_keep 30 = .ok (.iload_n 2, 1) := by decide +kernel
theorem dX9_keep_31 : decode cX9_keep 31 = .ok (.iaload, 1) := by decide +kernel
theorem dX9_keep_32 : decode cX9_keep 32 = .ok (.iastore, 1) := by decide +kernel
theorem dX9_keep_33 : decode cX9_keep 33 = .ok (.aload_n 1, 1) := by decide +kernel
theorem dX9_keep_34 : decode cX9_keep 34 = .ok (.bipush 8, 2) := by decide +kernel
theorem dX9_keep_36 : decode cX9_keep 36 = .ok (.iload_n 2, 1) := by decide +kernel
theorem dX9_keep_37 : decode cX9_keep 37 = .ok (.iadd, 1) := by decide +kernel
theorem dX9_keep_38 : decode cX9_keep 38 = .ok (.aload_n 0, 1) := by decide +kernel
theorem dX9_keep_39 : decode cX9_keep 39 = .ok (.getfield 23, 3) := by decide +kernel
theorem dX9_keep_42 : decode cX9_keep 42 = .ok (.iload_n 2, 1) := by decide +kernel
theorem dX9_keep_43 : decode cX9_keep 43 = .ok (.iaload, 1) := by decide +kernel
theorem dX9_keep_44 : decode cX9_keep 44 = .ok (.iastore, 1) := by decide +kernel
theorem dX9_keep_45 : decode cX9_keep 45 = .ok (.aload_n 1, 1) := by decide +kernel
theorem dX9_keep_46 : decode cX9_keep 46 = .ok (.bipush 14, 2) := by decide +kernel
theorem dX9_keep_48 : decode cX9_keep 48 = .ok (.iload_n 2, 1) := by decide +kernel
theorem dX9_keep_49 : decode cX9_keep 49 = .ok (.iadd, 1) := by decide +kernel
theorem dX9_keep_50 : decode cX9_keep 50 = .ok (.aload_n 0, 1) := by decide +kernel
theorem dX9_keep_51 : decode cX9_keep 51 = .ok (.getfield 26, 3) := by decide +kernel
theorem dX9_keep_54 : decode cX9_keep 54 = .ok (.iload_n 2, 1) := by decide +kernel
theorem dX9_keep_55 : decode cX9_keep 55 = .ok (.iaload, 1) := by decide +kernel
theorem dX9_keep_56 : decode cX9_keep 56 = .ok (.iastore, 1) := by decide +kernel
theorem dX9_keep_57 : decode cX9_keep 57 = .ok (.aload_n 1, 1) := by decide +kernel
theorem dX9_keep_58 : decode cX9_keep 58 = .ok (.bipush 20, 2) := by decide +kernel
theorem dX9_keep_60 : decode cX9_keep 60 = .ok (.iload_n 2, 1) := by decide +kernel
theorem dX9_keep_61 : decode cX9_keep 61 = .ok (.iadd, 1) := by decide +kernel
theorem dX9_keep_62 : decode cX9_keep 62 = .ok (.aload_n 0, 1) := by decide +kernel
theorem dX9_keep_63 : decode cX9_keep 63 = .ok (.getfield 29, 3) := by decide +kernel
theorem dX9_keep_66 : decode cX9_keep 66 = .ok (.iload_n 2, 1) := by decide +kernel
theorem dX9_keep_67 : decode cX9_keep 67 = .ok (.iaload, 1) := by decide +kernel
theorem dX9_keep_68 : decode cX9_keep 68 = .ok (.iastore, 1) := by decide +kernel
theorem dX9_keep_69 : decode cX9_keep 69 = .ok (.aload_n 1, 1) := by decide +kernel
theorem dX9_keep_70 : decode cX9_keep 70 = .ok (.bipush 26, 2) := by decide +kernel
theorem dX9_keep_72 : decode cX9_keep 72 = .ok (.iload_n 2, 1) := by decide +kernel
theorem dX9_keep_73 : decode cX9_keep 73 = .ok (.iadd, 1) := by decide +kernel
theorem dX9_keep_74 : decode cX9_keep 74 = .ok (.aload_n 0, 1) := by decide +kernel
theorem dX9_keep_75 : decode cX9_keep 75 = .ok (.getfield 32, 3) := by decide +kernel
theorem dX9_keep_78 : decode cX9_keep 78 = .ok (.iload_n 2, 1) := by decide +kernel
theorem dX9_keep_79 : decode cX9_keep 79 = .ok (.iaload, 1) := by decide +kernel
theorem dX9_keep_80 : decode cX9_keep 80 = .ok (.iastore, 1) := by decide +kernel
theorem dX9_keep_81 : decode cX9_keep 81 = .ok (.aload_n 1, 1) := by decide +kernel
theorem dX9_keep_82 : decode cX9_keep 82 = .ok (.bipush 32, 2) := by decide +kernel
theorem dX9_keep_84 : decode cX9_keep 84 = .ok (.iload_n 2, 1) := by decide +kernel
theorem dX9_keep_85 : decode cX9_keep 85 = .ok (.iadd, 1) := by decide +kernel
theorem dX9_keep_86 : decode cX9_keep 86 = .ok (.aload_n 0, 1) := by decide +kernel
theorem dX9_keep_87 : decode cX9_keep 87 = .ok (.getfield 35, 3) := by decide +kernel
theorem dX9_keep_90 : decode cX9_keep 90 = .ok (.iload_n 2, 1) := by decide +kernel
theorem dX9_keep_91 : decode cX9_keep 91 = .ok (.iaload, 1) := by decide +kernel
theorem dX9_keep_92 : decode cX9_keep 92 = .ok (.iastore, 1) := by decide +kernel
theorem dX9_keep_93 : decode cX9_keep 93 = .ok (.iinc 2 1, 3) := by decide +kernel
theorem dX9_keep_96 : decode cX9_keep 96 = .ok (.goto (-80), 3) := by decide +kernel
theorem dX9_keep_99 : decode cX9_keep 99 = .ok (.iconst 0, 1) := by decide +kernel
theorem dX9_keep_100 : decode cX9_keep 100 = .ok (.istore_n 2, 1) := by decide +kernel
theorem dX9_keep_101 : decode cX9_keep 101 = .ok (.iload_n 2, 1) := by decide +kernel
theorem dX9_keep_102 : decode cX9_keep 102 = .ok (.bipush 60, 2) := by decide +kernel
theorem dX9_keep_104 : decode cX9_keep 104 = .ok (.if_icmp .ge 33, 3) := by decide +kernel
theorem dX9_keep_107 : decode cX9_keep 107 = .ok (.aload_n 1, 1) := by decide +kernel
theorem dX9_keep_108 : decode cX9_keep 108 = .ok (.bipush 38, 2) := by decide +kernel
theorem dX9_keep_110 : decode cX9_keep 110 = .ok (.iload_n 2, 1) := by decide +kernel
theorem dX9_keep_111 : decode cX9_keep 111 = .ok (.iadd, 1) := by decide +kernel
theorem dX9_keep_112 : decode cX9_keep 112 = .ok (.aload_n 0, 1) := by decide +kernel
theorem dX9_keep_113 : decode cX9_keep 113 = .ok (.getfield 17, 3) := by decide +kernel
theorem dX9_keep_116 : decode cX9_keep 116 = .ok (.iload_n 2, 1) := by decide +kernel
theorem dX9_keep_117 : decode cX9_keep 117 = .ok (.iaload, 1) := by decide +kernel
theorem dX9_keep_118 : decode cX9_keep 118 = .ok (.iastore, 1) := by decide +kernel
theorem dX9_keep_119 : decode cX9_keep 119 = .ok (.aload_n 1, 1) := by decide +kernel
theorem dX9_keep_120 : decode cX9_keep 120 = .ok (.bipush 98, 2) := by decide +kernel
theorem dX9_keep_122 : decode cX9_keep 122 = .ok (.iload_n 2, 1) := by decide +kernel
theorem dX9_keep_123 : decode cX9_keep 123 = .ok (.iadd, 1) := by decide +kernel
theorem dX9_keep_124 : decode cX9_keep 124 = .ok (.aload_n 0, 1) := by decide +kernel
theorem dX9_keep_125 : decode cX9_keep 125 = .ok (.getfield 13, 3) := by decide +kernel
theorem dX9_keep_128 : decode cX9_keep 128 = .ok (.iload_n 2, 1) := by decide +kernel
theorem dX9_keep_129 : decode cX9_keep 129 = .ok (.iaload, 1) := by decide +kernel
theorem dX9_keep_130 : decode cX9_keep 130 = .ok (.iastore, 1) := by decide +kernel
theorem dX9_keep_131 : decode cX9_keep 131 = .ok (.iinc 2 1, 3) := by decide +kernel
theorem dX9_keep_134 : decode cX9_keep 134 = .ok (.goto (-33), 3) := by decide +kernel
theorem dX9_keep_137 : decode cX9_keep 137 = .ok (.return_, 1) := by decide +kernel
set_option maxRecDepth 20000 in
set_option maxHeartbeats 4000000 in
theorem v_X9_keep_L16 (l : Launch) (g : GG) {r : SS} {κ : Nat → Nat → SS → Option SS} (hκ : ∀ (p0 : Nat) (p1 : Nat) (τ : SS) (hp0 : kd p0 = 8) (hp1 : kd p1 = 9), κ p0 p1 τ = some r → VV l g 0 RX9 cX9_keep 3 none (none, r) 99 [(0, .ref (g.1 p0)), (1, .ref (g.1 p1))] [] τ) : ∀ (fu : Nat) (q0 : Nat) (q1 : Nat) (x2 : Int32) (hq0 : kd q0 = 8) (hq1 : kd q1 = 9) (σ : SS), f_X9_keep_L16 κ fu q0 q1 x2 σ = some r → VV l g 0 RX9 cX9_keep 3 none (none, r) 16 [(0, .ref (g.1 q0)), (1, .ref (g.1 q1)), (2, .int x2)] [] σ := by
  intro fu
  induction fu with
  | zero => intro q0 q1 x2 hq0 hq1 σ h; cases h
  | succ fu ih =>
    intro q0 q1 x2 hq0 hq1 σ h
    simp only [f_X9_keep_L16] at h
    refine vr_iload_n (pc := 16) 2 dX9_keep_16 rfl rfl ?_
    refine vr_bipush (pc := 17) 6 dX9_keep_17 cb_6 ?_
    refine vr_icmp_ge (pc := 19) 99 dX9_keep_19 (by decide) (fun c3 => ?_) (fun c3 => ?_)
    · rw [if_pos c3] at h
      refine vr_sub [0, 1] [(0, .ref (g.1 q0)), (1, .ref (g.1 q1))] rfl ?_
      exact hκ q0 q1 σ (hq0) (hq1) h
    · rw [if_neg c3] at h
      refine vr_aload_n (pc := 22) 1 dX9_keep_22 rfl rfl ?_
      refine vr_iconst (pc := 23) 2 dX9_keep_23 ci_2 ?_
      refine vr_iload_n (pc := 24) 2 dX9_keep_24 rfl rfl ?_
      refine vr_iadd (pc := 25) dX9_keep_25 ?_
      refine vr_aload_n (pc := 26) 0 dX9_keep_26 rfl rfl ?_
      refine vr_getR (pc := 27) 4 dX9_keep_27 fi_X9_20 hq0 (sh_8_4 hq0).1 ?_
      refine vr_iload_n (pc := 30) 2 dX9_keep_30 rfl rfl ?_
      obtain ⟨hc4, h⟩ := ck_some h
      refine vr_iald (pc := 31) dX9_keep_31 (sh_8_4 hq0).2 hc4 ?_
      obtain ⟨hc5, h⟩ := ck_some h
      refine vr_iast (pc := 32) dX9_keep_32 hq1 hc5 ?_
      refine vr_aload_n (pc := 33) 1 dX9_keep_33 rfl rfl ?_
      refine vr_bipush (pc := 34) 8 dX9_keep_34 cb_8 ?_
      refine vr_iload_n (pc := 36) 2 dX9_keep_36 rfl rfl ?_
      refine vr_iadd (pc := 37) dX9_keep_37 ?_
      refine vr_aload_n (pc := 38) 0 dX9_keep_38 rfl rfl ?_
      refine vr_getR (pc := 39) 5 dX9_keep_39 fi_X9_23 hq0 (sh_8_5 hq0).1 ?_
      refine vr_iload_n (pc := 42) 2 dX9_keep_42 rfl rfl ?_
      obtain ⟨hc6, h⟩ := ck_some h
      refine vr_iald (pc := 43) dX9_keep_43 (sh_8_5 hq0).2 hc6 ?_
      obtain ⟨hc7, h⟩ := ck_some h
      refine vr_iast (pc := 44) dX9_keep_44 hq1 hc7 ?_
      refine vr_aload_n (pc := 45) 1 dX9_keep_45 rfl rfl ?_
      refine vr_bipush (pc := 46) 14 dX9_keep_46 cb_14 ?_
      refine vr_iload_n (pc := 48) 2 dX9_keep_48 rfl rfl ?_
      refine vr_iadd (pc := 49) dX9_keep_49 ?_
      refine vr_aload_n (pc := 50) 0 dX9_keep_50 rfl rfl ?_
      refine vr_getR (pc := 51) 6 dX9_keep_51 fi_X9_26 hq0 (sh_8_6 hq0).1 ?_
      refine vr_iload_n (pc := 54) 2 dX9_keep_54 rfl rfl ?_
      obtain ⟨hc8, h⟩ := ck_some h
      refine vr_iald (pc := 55) dX9_keep_55 (sh_8_6 hq0).2 hc8 ?_
      obtain ⟨hc9, h⟩ := ck_some h
      refine vr_iast (pc := 56) dX9_keep_56 hq1 hc9 ?_
      refine vr_aload_n (pc := 57) 1 dX9_keep_57 rfl rfl ?_
      refine vr_bipush (pc := 58) 20 dX9_keep_58 cb_20 ?_
      refine vr_iload_n (pc := 60) 2 dX9_keep_60 rfl rfl ?_
      refine vr_iadd (pc := 61) dX9_keep_61 ?_
      refine vr_aload_n (pc := 62) 0 dX9_keep_62 rfl rfl ?_
      refine vr_getR (pc := 63) 7 dX9_keep_63 fi_X9_29 hq0 (sh_8_7 hq0).1 ?_
      refine vr_iload_n (pc := 66) 2 dX9_keep_66 rfl rfl ?_
      obtain ⟨hc10, h⟩ := ck_some h
      refine vr_iald (pc := 67) dX9_keep_67 (sh_8_7 hq0).2 hc10 ?_
      obtain ⟨hc11, h⟩ := ck_some h
      refine vr_iast (pc := 68) dX9_keep_68 hq1 hc11 ?_
      refine vr_aload_n (pc := 69) 1 dX9_keep_69 rfl rfl ?_
      refine vr_bipush (pc := 70) 26 dX9_keep_70 cb_26 ?_
      refine vr_iload_n (pc := 72) 2 dX9_keep_72 rfl rfl ?_
      refine vr_iadd (pc := 73) dX9_keep_73 ?_
      refine vr_aload_n (pc := 74) 0 dX9_keep_74 rfl rfl ?_
      refine vr_getR (pc := 75) 8 dX9_keep_75 fi_X9_32 hq0 (sh_8_8 hq0).1 ?_
      refine vr_iload_n (pc := 78) 2 dX9_keep_78 rfl rfl ?_
      obtain ⟨hc12, h⟩ := ck_some h
      refine vr_iald (pc := 79) dX9_keep_79 (sh_8_8 hq0).2 hc12 ?_
      obtain ⟨hc13, h⟩ := ck_some h
      refine vr_iast (pc := 80) dX9_keep_80 hq1 hc13 ?_
      refine vr_aload_n (pc := 81) 1 dX9_keep_81 rfl rfl ?_
      refine vr_bipush (pc := 82) 32 dX9_keep_82 cb_32 ?_
      refine vr_iload_n (pc := 84) 2 dX9_keep_84 rfl rfl ?_
      refine vr_iadd (pc := 85) dX9_keep_85 ?_
      refine vr_aload_n (pc := 86) 0 dX9_keep_86 rfl rfl ?_
      refine vr_getR (pc := 87) 9 dX9_keep_87 fi_X9_35 hq0 (sh_8_9 hq0).1 ?_
      refine vr_iload_n (pc := 90) 2 dX9_keep_90 rfl rfl ?_
      obtain ⟨hc14, h⟩ := ck_some h
      refine vr_iald (pc := 91) dX9_keep_91 (sh_8_9 hq0).2 hc14 ?_
      obtain ⟨hc15, h⟩ := ck_some h
      refine vr_iast (pc := 92) dX9_keep_92 hq1 hc15 ?_
      refine vr_iinc (pc := 93) [(2, .int (x2 + 1)), (0, .ref (g.1 q0)), (1, .ref (g.1 q1))] 2 dX9_keep_93 rfl (congrArg (fun z => x2 + z) ci_1) (by decide) rfl ?_
      refine vr_goto (pc := 96) 16 dX9_keep_96 (by decide) ?_
      refine vr_sub [1, 2, 0] [(0, .ref (g.1 q0)), (1, .ref (g.1 q1)), (2, .int (x2 + 1))] rfl ?_
      exact ih q0 q1 (x2 + 1) (hq0) (hq1) (sI (sI (sI (sI (sI (sI σ q1 (2 + x2).toNatClampNeg (σ.1 (rid q0 4) x2.toNatClampNeg)) q1 (8 + x2).toNatClampNeg ((sI σ q1 (2 + x2).toNatClampNeg (σ.1 (rid q0 4) x2.toNatClampNeg)).1 (rid q0 5) x2.toNatClampNeg)) q1 (14 + x2).toNatClampNeg ((sI (sI σ q1 (2 + x2).toNatClampNeg (σ.1 (rid q0 4) x2.toNatClampNeg)) q1 (8 + x2).toNatClampNeg ((sI σ q1 (2 + x2).toNatClampNeg (σ.1 (rid q0 4) x2.toNatClampNeg)).1 (rid q0 5) x2.toNatClampNeg)).1 (rid q0 6) x2.toNatClampNeg)) q1 (20 + x2).toNatClampNeg ((sI (sI (sI σ q1 (2 + x2).toNatClampNeg (σ.1 (rid q0 4) x2.toNatClampNeg)) q1 (8 + x2).toNatClampNeg ((sI σ q1 (2 + x2).toNatClampNeg (σ.1 (rid q0 4) x2.toNatClampNeg)).1 (rid q0 5) x2.toNatClampNeg)) q1 (14 + x2).toNatClampNeg ((sI (sI σ q1 (2 + x2).toNatClampNeg (σ.1 (rid q0 4) x2.toNatClampNeg)) q1 (8 + x2).toNatClampNeg ((sI σ q1 (2 + x2).toNatClampNeg (σ.1 (rid q0 4) x2.toNatClampNeg)).1 (rid q0 5) x2.toNatClampNeg)).1 (rid q0 6) x2.toNatClampNeg)).1 (rid q0 7) x2.toNatClampNeg)) q1 (26 + x2).toNatClampNeg ((sI (sI (sI (sI σ q1 (2 + x2).toNatClampNeg (σ.1 (rid q0 4) x2.toNatClampNeg)) q1 (8 + x2).toNatClampNeg ((sI σ q1 (2 + x2).toNatClampNeg (σ.1 (rid q0 4) x2.toNatClampNeg)).1 (rid q0 5) x2.toNatClampNeg)) q1 (14 + x2).toNatClampNeg ((sI (sI σ q1 (2 + x2).toNatClampNeg (σ.1 (rid q0 4) x2.toNatClampNeg)) q1 (8 + x2).toNatClampNeg ((sI σ q1 (2 + x2).toNatClampNeg (σ.1 (rid q0 4) x2.toNatClampNeg)).1 (rid q0 5) x2.toNatClampNeg)).1 (rid q0 6) x2.toNatClampNeg)) q1 (20 + x2).toNatClampNeg ((sI (sI (sI σ q1 (2 + x2).toNatClampNeg (σ.1 (rid q0 4) x2.toNatClampNeg)) q1 (8 + x2).toNatClampNeg ((sI σ q1 (2 + x2).toNatClampNeg (σ.1 (rid q0 4) x2.toNatClampNeg)).1 (rid q0 5) x2.toNatClampNeg)) q1 (14 + x2).toNatClampNeg ((sI (sI σ q1 (2 + x2).toNatClampNeg (σ.1 (rid q0 4) x2.toNatClampNeg)) q1 (8 + x2).toNatClampNeg ((sI σ q1 (2 + x2).toNatClampNeg (σ.1 (rid q0 4) x2.toNatClampNeg)).1 (rid q0 5) x2.toNatClampNeg)).1 (rid q0 6) x2.toNatClampNeg)).1 (rid q0 7) x2.toNatClampNeg)).1 (rid q0 8) x2.toNatClampNeg)) q1 (32 + x2).toNatClampNeg ((sI (sI (sI (sI (sI σ q1 (2 + x2).toNatClampNeg (σ.1 (rid q0 4) x2.toNatClampNeg)) q1 (8 + x2).toNatClampNeg ((sI σ q1 (2 + x2).toNatClampNeg (σ.1 (rid q0 4) x2.toNatClampNeg)).1 (rid q0 5) x2.toNatClampNeg)) q1 (14 + x2).toNatClampNeg ((sI (sI σ q1 (2 + x2).toNatClampNeg (σ.1 (rid q0 4) x2.toNatClampNeg)) q1 (8 + x2).toNatClampNeg ((sI σ q1 (2 + x2).toNatClampNeg (σ.1 (rid q0 4) x2.toNatClampNeg)).1 (rid q0 5) x2.toNatClampNeg)).1 (rid q0 6) x2.toNatClampNeg)) q1 (20 + x2).toNatClampNeg ((sI (sI (sI σ q1 (2 + x2).toNatClampNeg (σ.1 (rid q0 4) x2.toNatClampNeg)) q1 (8 + x2).toNatClampNeg ((sI σ q1 (2 + x2).toNatClampNeg (σ.1 (rid q0 4) x2.toNatClampNeg)).1 (rid q0 5) x2.toNatClampNeg)) q1 (14 + x2).toNatClampNeg ((sI (sI σ q1 (2 + x2).toNatClampNeg (σ.1 (rid q0 4) x2.toNatClampNeg)) q1 (8 + x2).toNatClampNeg ((sI σ q1 (2 + x2).toNatClampNeg (σ.1 (rid q0 4) x2.toNatClampNeg)).1 (rid q0 5) x2.toNatClampNeg)).1 (rid q0 6) x2.toNatClampNeg)).1 (rid q0 7) x2.toNatClampNeg)) q1 (26 + x2).toNatClampNeg ((sI (sI (sI (sI σ q1 (2 + x2).toNatClampNeg (σ.1 (rid q0 4) x2.toNatClampNeg)) q1 (8 + x2).toNatClampNeg ((sI σ q1 (2 + x2).toNatClampNeg (σ.1 (rid q0 4) x2.toNatClampNeg)).1 (rid q0 5) x2.toNatClampNeg)) q1 (14 + x2).toNatClampNeg ((sI (sI σ q1 (2 + x2).toNatClampNeg (σ.1 (rid q0 4) x2.toNatClampNeg)) q1 (8 + x2).toNatClampNeg ((sI σ q1 (2 + x2).toNatClampNeg (σ.1 (rid q0 4) x2.toNatClampNeg)).1 (rid q0 5) x2.toNatClampNeg)).1 (rid q0 6) x2.toNatClampNeg)) q1 (20 + x2).toNatClampNeg ((sI (sI (sI σ q1 (2 + x2).toNatClampNeg (σ.1 (rid q0 4) x2.toNatClampNeg)) q1 (8 + x2).toNatClampNeg ((sI σ q1 (2 + x2).toNatClampNeg (σ.1 (rid q0 4) x2.toNatClampNeg)).1 (rid q0 5) x2.toNatClampNeg)) q1 (14 + x2).toNatClampNeg ((sI (sI σ q1 (2 + x2).toNatClampNeg (σ.1 (rid q0 4) x2.toNatClampNeg)) q1 (8 + x2).toNatClampNeg ((sI σ q1 (2 + x2).toNatClampNeg (σ.1 (rid q0 4) x2.toNatClampNeg)).1 (rid q0 5) x2.toNatClampNeg)).1 (rid q0 6) x2.toNatClampNeg)).1 (rid q0 7) x2.toNatClampNeg)).1 (rid q0 8) x2.toNatClampNeg)).1 (rid q0 9) x2.toNatClampNeg)) h
set_option maxRecDepth 20000 in
set_option maxHeartbeats 4000000 in
theorem v_X9_keep_L101 (l : Launch) (g : GG) {r : SS} {κ : SS → Option SS} (hκ : ∀ (τ : SS) , κ  τ = some r → VV l g 0 RX9 cX9_keep 3 none (none, r) 137 [] [] τ) : ∀ (fu : Nat) (q0 : Nat) (q1 : Nat) (x2 : Int32) (hq0 : kd q0 = 8) (hq1 : kd q1 = 9) (σ : SS), f_X9_keep_L101 κ fu q0 q1 x2 σ = some r → VV l g 0 RX9 cX9_keep 3 none (none, r) 101 [(0, .ref (g.1 q0)), (1, .ref (g.1 q1)), (2, .int x2)] [] σ := by
  intro fu
  induction fu with
  | zero => intro q0 q1 x2 hq0 hq1 σ h; cases h
  | succ fu ih =>
    intro q0 q1 x2 hq0 hq1 σ h
    simp only [f_X9_keep_L101] at h
    refine vr_iload_n (pc := 101) 2 dX9_keep_101 rfl rfl ?_
    refine vr_bipush (pc := 102) 60 dX9_keep_102 cb_60 ?_
    refine vr_icmp_ge (pc := 104) 137 dX9_keep_104 (by decide) (fun c16 => ?_) (fun c16 => ?_)
    · rw [if_pos c16] at h
      refine vr_sub [] [] rfl ?_
      exact hκ σ h
    · rw [if_neg c16] at h
      refine vr_aload_n (pc := 107) 1 dX9_keep_107 rfl rfl ?_
      refine vr_bipush (pc := 108) 38 dX9_keep_108 cb_38 ?_
      refine vr_iload_n (pc := 110) 2 dX9_keep_110 rfl rfl ?_
      refine vr_iadd (pc := 111) dX9_keep_111 ?_
      refine vr_aload_n (pc := 112) 0 dX9_keep_112 rfl rfl ?_
      refine vr_getR (pc := 113) 2 dX9_keep_113 fi_X9_17 hq0 (sh_8_2 hq0).1 ?_
      refine vr_iload_n (pc := 116) 2 dX9_keep_116 rfl rfl ?_
      obtain ⟨hc17, h⟩ := ck_some h
      refine vr_iald (pc := 117) dX9_keep_117 (sh_8_2 hq0).2 hc17 ?_
      obtain ⟨hc18, h⟩ := ck_some h
      refine vr_iast (pc := 118) dX9_keep_118 hq1 hc18 ?_
      refine vr_aload_n (pc := 119) 1 dX9_keep_119 rfl rfl ?_
      refine vr_bipush (pc := 120) 98 dX9_keep_120 cb_98 ?_
      refine vr_iload_n (pc := 122) 2 dX9_keep_122 rfl rfl ?_
      refine vr_iadd (pc := 123) dX9_keep_123 ?_
      refine vr_aload_n (pc := 124) 0 dX9_keep_124 rfl rfl ?_
      refine vr_getR (pc := 125) 1 dX9_keep_125 fi_X9_13 hq0 (sh_8_1 hq0).1 ?_
      refine vr_iload_n (pc := 128) 2 dX9_keep_128 rfl rfl ?_
      obtain ⟨hc19, h⟩ := ck_some h
      refine vr_iald (pc := 129) dX9_keep_129 (sh_8_1 hq0).2 hc19 ?_
      obtain ⟨hc20, h⟩ := ck_some h
      refine vr_iast (pc := 130) dX9_keep_130 hq1 hc20 ?_
      refine vr_iinc (pc := 131) [(2, .int (x2 + 1)), (0, .ref (g.1 q0)), (1, .ref (g.1 q1))] 2 dX9_keep_131 rfl (congrArg (fun z => x2 + z) ci_1) (by decide) rfl ?_
      refine vr_goto (pc := 134) 101 dX9_keep_134 (by decide) ?_
      refine vr_sub [1, 2, 0] [(0, .ref (g.1 q0)), (1, .ref (g.1 q1)), (2, .int (x2 + 1))] rfl ?_
      exact ih q0 q1 (x2 + 1) (hq0) (hq1) (sI (sI σ q1 (38 + x2).toNatClampNeg (σ.1 (rid q0 2) x2.toNatClampNeg)) q1 (98 + x2).toNatClampNeg ((sI σ q1 (38 + x2).toNatClampNeg (σ.1 (rid q0 2) x2.toNatClampNeg)).1 (rid q0 1) x2.toNatClampNeg)) h
set_option maxRecDepth 20000 in
set_option maxHeartbeats 4000000 in
theorem s_X9_keep (l : Launch) (g : GG) {q0 : Nat} (hq0 : kd q0 = 8) {q1 : Nat} (hq1 : kd q1 = 9) {σ : SS} {r : SS} (h : f_X9_keep q0 q1 σ = some r) : CT l g 0 yX9_keep cX9_keep 3 none [.ref (g.1 q0), .ref (g.1 q1)] σ (none, r) := by
  refine CT.of (lv := [(0, .ref (g.1 q0)), (1, .ref (g.1 q1))]) RX9 (by decide +kernel) rfl (Nat.le_of_ble_eq_true rfl) rfl ?_
  unfold f_X9_keep at h
  refine vr_aload_n (pc := 0) 1 dX9_keep_0 rfl rfl ?_
  refine vr_iconst (pc := 1) 0 dX9_keep_1 ci_0 ?_
  refine vr_aload_n (pc := 2) 0 dX9_keep_2 rfl rfl ?_
  refine vr_getI (pc := 3) 0 dX9_keep_3 fi_X9_7 hq0 (sh_8_0 hq0) ?_
  obtain ⟨hc1, h⟩ := ck_some h
  refine vr_iast (pc := 6) dX9_keep_6 hq1 hc1 ?_
  refine vr_aload_n (pc := 7) 1 dX9_keep_7 rfl rfl ?_
  refine vr_iconst (pc := 8) 1 dX9_keep_8 ci_1 ?_
  refine vr_aload_n (pc := 9) 0 dX9_keep_9 rfl rfl ?_
  refine vr_getI (pc := 10) 3 dX9_keep_10 fi_X9_108 hq0 (sh_8_3 hq0) ?_
  obtain ⟨hc2, h⟩ := ck_some h
  refine vr_iast (pc := 13) dX9_keep_13 hq1 hc2 ?_
  refine vr_iconst (pc := 14) 0 dX9_keep_14 ci_0 ?_
  refine vr_istore_n (pc := 15) [(2, .int 0), (0, .ref (g.1 q0)), (1, .ref (g.1 q1))] dX9_keep_15 rfl (by decide) rfl ?_
  refine vr_sub [1, 2, 0] [(0, .ref (g.1 q0)), (1, .ref (g.1 q1)), (2, .int 0)] rfl ?_
  refine v_X9_keep_L16 l g (fun p0 p1 τ hp0 hp1 h => ?_) FU q0 q1 0 (hq0) (hq1) (sI (sI σ q1 (0 : Int32).toNatClampNeg (σ.1 q0 0)) q1 (1 : Int32).toNatClampNeg ((sI σ q1 (0 : Int32).toNatClampNeg (σ.1 q0 0)).1 q0 3)) h
  refine vr_iconst (pc := 99) 0 dX9_keep_99 ci_0 ?_
  refine vr_istore_n (pc := 100) [(2, .int 0), (0, .ref (g.1 p0)), (1, .ref (g.1 p1))] dX9_keep_100 rfl (by decide) rfl ?_
  refine vr_sub [1, 2, 0] [(0, .ref (g.1 p0)), (1, .ref (g.1 p1)), (2, .int 0)] rfl ?_
  refine v_X9_keep_L101 l g (fun τ h => ?_) FU p0 p1 0 (hp0) (hp1) τ h
  have h := Option.some.inj h; subst h
  exact vr_vret (pc := 137) dX9_keep_137 rfl rfl
theorem dX9_again_0 : decode cX9_again 0 = .ok (.aload_n 0, 1) := by decide +kernel
theorem dX9_again_1 : decode cX9_again 1 = .ok (.aload_n 1, 1) := by decide +kernel
theorem dX9_again_2 : decode cX9_again 2 = .ok (.iconst 0, 1) := by decide +kernel
theorem dX9_again_3 : decode cX9_again 3 = .ok (.iaload, 1) := by decide +kernel
theorem dX9_again_4 : decode cX9_again 4 = .ok (.putfield 7, 3) := by decide +kernel
theorem dX9_again_7 : decode cX9_again 7 = .ok (.aload_n 0, 1) := by decide +kernel
theorem dX9_again_8 : decode cX9_again 8 = .ok (.aload_n 1, 1) := by decide +kernel
theorem dX9_again_9 : decode cX9_again 9 = .ok (.iconst 1, 1) := by decide +kernel
theorem dX9_again_10 : decode cX9_again 10 = .ok (.iaload, 1) := by decide +kernel
theorem dX9_again_11 : decode cX9_again 11 = .ok (.putfield 108, 3) := by decide +kernel
theorem dX9_again_14 : decode cX9_again 14 = .ok (.iconst 0, 1) := by decide +kernel
theorem dX9_again_15 : decode cX9_again 15 = .ok (.istore_n 2, 1) := by decide +kernel
theorem dX9_again_16 : decode cX9_again 16 = .ok (.iload_n 2, 1) := by decide +kernel
theorem dX9_again_17 : decode cX9_again 17 = .ok (.bipush 6, 2) := by decide +kernel
theorem dX9_again_19 : decode cX9_again 19 = .ok (.if_icmp .ge 80, 3) := by decide +kernel
theorem dX9_again_22 : decode cX9_again 22 = .ok (.aload_n 0, 1) := by decide +kernel
theorem dX9_again_23 : decode cX9_again 23 = .ok (.getfield 20, 3) := by decide +kernel
theorem dX9_again_26 : decode cX9_again 26 = .ok (.iload_n 2, 1) := by decide +kernel
theorem dX9_again_27 : decode cX9_again 27 = .ok (.aload_n 1, 1) := by decide +kernel
theorem dX9_again_28 : decode cX9_again 28 = .ok (.iconst 2, 1) := by decide +kernel
theorem dX9_again_29 : decode cX9_again 29 = .ok (.iload_n 2, 1) := by decide +kernel
theorem dX9_again_30 : decode cX9_again 30 = .ok (.iadd, 1) := by decide +kernel
theorem dX9_again_31 : decode cX9_again 31 = .ok (.iaload, 1) := by decide +kernel
theorem dX9_again_32 : decode cX9_again 32 = .ok (.iastore, 1) := by decide +kernel
theorem dX9_again_33 : decode cX9_again 33 = .ok (.aload_n 0, 1) := by decide +kernel
theorem dX9_again_34 : decode cX9_again 34 = .ok (.getfield 23, 3) := by decide +kernel
theorem dX9_again_37 : decode cX9_again 37 = .ok (.iload_n 2, 1) := by decide +kernel
theorem dX9_again_38 : decode cX9_again 38 = .ok (.aload_n 1, 1) := by decide +kernel
theorem dX9_again_39 : decode cX9_again 39 = .ok (.bipush 8, 2) := by decide +kernel
theorem dX9_again_41 : decode cX9_again 41 = .ok (.iload_n 2, 1) := by decide +kernel
theorem dX9_again_42 : decode cX9_again 42 = .ok (.iadd, 1) := by decide +kernel
theorem dX9_again_43 : decode cX9_again 43 = .ok (.iaload, 1) := by decide +kernel
theorem dX9_again_44 : decode cX9_again 44 = .ok (.iastore, 1) := by decide +kernel
theorem dX9_again_45 : decode cX9_again 45 = .ok (.aload_n 0, 1) := by decide +kernel
theorem dX9_again_46 : decode cX9_again 46 = .ok (.getfield 26, 3) := by decide +kernel
theorem dX9_again_49 : decode cX9_again 49 = .ok (.iload_n 2, 1) := by decide +kernel
theorem dX9_again_50 : decode cX9_again 50 = .ok (.aload_n 1, 1) := by decide +kernel
theorem dX9_again_51 : decode cX9_again 51 = .ok (.bipush 14, 2) := by decide +kernel
theorem dX9_again_53 : decode cX9_again 53 = .ok (.iload_n 2, 1) := by decide +kernel
theorem dX9_again_54 : decode cX9_again 54 = .ok (.iadd, 1) := by decide +kernel
theorem dX9_again_55 : decode cX9_again 55 = .ok (.iaload, 1) := by decide +kernel
theorem dX9_again_56 : decode cX9_again 56 = .ok (.iastore, 1) := by decide +kernel
theorem dX9_again_57 : decode cX9_again 57 = .ok (.aload_n 0, 1) := by decide +kernel
theorem dX9_again_58 : decode cX9_again 58 = .ok (.getfield 29, 3) := by decide +kernel
theorem dX9_again_61 : decode cX9_again 61 = .ok (.iload_n 2, 1) := by decide +kernel
theorem dX9_again_62 : decode cX9_again 62 = .ok (.aload_n 1, 1) := by decide +kernel
theorem dX9_again_63 : decode cX9_again 63 = .ok (.bipush 20, 2) := by decide +kernel
theorem dX9_again_65 : decode cX9_again 65 = .ok (.iload_n 2, 1) := by decide +kernel
theorem dX9_again_66 : decode cX9_again 66 = .ok (.iadd, 1) := by decide +kernel
theorem dX9_again_67 : decode cX9_again 67 = .ok (.iaload, 1) := by decide +kernel
theorem dX9_again_68 : decode cX9_again 68 = .ok (.iastore, 1) := by decide +kernel
theorem dX9_again_69 : decode cX9_again 69 = .ok (.aload_n 0, 1) := by decide +kernel
theorem dX9_again_70 : decode cX9_again 70 = .ok (.getfield 32, 3) := by decide +kernel
theorem dX9_again_73 : decode cX9_again 73 = .ok (.iload_n 2, 1) := by decide +kernel
theorem dX9_again_74 : decode cX9_again 74 = .ok (.aload_n 1, 1) := by decide +kernel
theorem dX9_again_75 : decode cX9_again 75 = .ok (.bipush 26, 2) := by decide +kernel
theorem dX9_again_77 : decode cX9_again 77 = .ok (.iload_n 2, 1) := by decide +kernel
theorem dX9_again_78 : decode cX9_again 78 = .ok (.iadd, 1) := by decide +kernel
theorem dX9_again_79 : decode cX9_again 79 = .ok (.iaload, 1) := by decide +kernel
theorem dX9_again_80 : decode cX9_again 80 = .ok (.iastore, 1) := by decide +kernel
theorem dX9_again_81 : decode cX9_again 81 = .ok (.aload_n 0, 1) := by decide +kernel
theorem dX9_again_82 : decode cX9_again 82 = .ok (.getfield 35, 3) := by decide +kernel
theorem dX9_again_85 : decode cX9_again 85 = .ok (.iload_n 2, 1) := by decide +kernel
theorem dX9_again_86 : decode cX9_again 86 = .ok (.aload_n 1, 1) := by decide +kernel
theorem dX9_again_87 : decode cX9_again 87 = .ok (.bipush 32, 2) := by decide +kernel
theorem dX9_again_89 : decode cX9_again 89 = .ok (.iload_n 2, 1) := by decide +kernel
theorem dX9_again_90 : decode cX9_again 90 = .ok (.iadd, 1) := by decide +kernel
theorem dX9_again_91 : decode cX9_again 91 = .ok (.iaload, 1) := by decide +kernel
theorem dX9_again_92 : decode cX9_again 92 = .ok (.iastore, 1) := by decide +kernel
theorem dX9_again_93 : decode cX9_again 93 = .ok (.iinc 2 1, 3) := by decide +kernel
theorem dX9_again_96 : decode cX9_again 96 = .ok (.goto (-80), 3) := by decide +kernel
theorem dX9_again_99 : decode cX9_again 99 = .ok (.iconst 0, 1) := by decide +kernel
theorem dX9_again_100 : decode cX9_again 100 = .ok (.istore_n 2, 1) := by decide +kernel
theorem dX9_again_101 : decode cX9_again 101 = .ok (.iload_n 2, 1) := by decide +kernel
theorem dX9_again_102 : decode cX9_again 102 = .ok (.bipush 60, 2) := by decide +kernel
theorem dX9_again_104 : decode cX9_again 104 = .ok (.if_icmp .ge 33, 3) := by decide +kernel
theorem dX9_again_107 : decode cX9_again 107 = .ok (.aload_n 0, 1) := by decide +kernel
theorem dX9_again_108 : decode cX9_again 108 = .ok (.getfield 17, 3) := by decide +kernel
theorem dX9_again_111 : decode cX9_again 111 = .ok (.iload_n 2, 1) := by decide +kernel
theorem dX9_again_112 : decode cX9_again 112 = .ok (.aload_n 1, 1) := by decide +kernel
theorem dX9_again_113 : decode cX9_again 113 = .ok (.bipush 38, 2) := by decide +kernel
theorem dX9_again_115 : decode cX9_again 115 = .ok (.iload_n 2, 1) := by decide +kernel
theorem dX9_again_116 : decode cX9_again 116 = .ok (.iadd, 1) := by decide +kernel
theorem dX9_again_117 : decode cX9_again 117 = .ok (.iaload, 1) := by decide +kernel
theorem dX9_again_118 : decode cX9_again 118 = .ok (.iastore, 1) := by decide +kernel
theorem dX9_again_119 : decode cX9_again 119 = .ok (.aload_n 0, 1) := by decide +kernel
theorem dX9_again_120 : decode cX9_again 120 = .ok (.getfield 13, 3) := by decide +kernel
theorem dX9_again_123 : decode cX9_again 123 = .ok (.iload_n 2, 1) := by decide +kernel
theorem dX9_again_124 : decode cX9_again 124 = .ok (.aload_n 1, 1) := by decide +kernel
theorem dX9_again_125 : decode cX9_again 125 = .ok (.bipush 98, 2) := by decide +kernel
theorem dX9_again_127 : decode cX9_again 127 = .ok (.iload_n 2, 1) := by decide +kernel
theorem dX9_again_128 : decode cX9_again 128 = .ok (.iadd, 1) := by decide +kernel
theorem dX9_again_129 : decode cX9_again 129 = .ok (.iaload, 1) := by decide +kernel
theorem dX9_again_130 : decode cX9_again 130 = .ok (.iastore, 1) := by decide +kernel
theorem dX9_again_131 : decode cX9_again 131 = .ok (.iinc 2 1, 3) := by decide +kernel
theorem dX9_again_134 : decode cX9_again 134 = .ok (.goto (-33), 3) := by decide +kernel
theorem dX9_again_137 : decode cX9_again 137 = .ok (.return_, 1) := by decide +kernel
set_option maxRecDepth 20000 in
set_option maxHeartbeats 4000000 in
theorem v_X9_again_L16 (l : Launch) (g : GG) {r : SS} {κ : Nat → Nat → SS → Option SS} (hκ : ∀ (p0 : Nat) (p1 : Nat) (τ : SS) (hp0 : kd p0 = 8) (hp1 : kd p1 = 9), κ p0 p1 τ = some r → VV l g 0 RX9 cX9_again 3 none (none, r) 99 [(0, .ref (g.1 p0)), (1, .ref (g.1 p1))] [] τ) : ∀ (fu : Nat) (q0 : Nat) (q1 : Nat) (x2 : Int32) (hq0 : kd q0 = 8) (hq1 : kd q1 = 9) (σ : SS), f_X9_again_L16 κ fu q0 q1 x2 σ = some r → VV l g 0 RX9 cX9_again 3 none (none, r) 16 [(0, .ref (g.1 q0)), (1, .ref (g.1 q1)), (2, .int x2)] [] σ := by
  intro fu
  induction fu with
  | zero => intro q0 q1 x2 hq0 hq1 σ h; cases h
  | succ fu ih =>
    intro q0 q1 x2 hq0 hq1 σ h
    simp only [f_X9_again_L16] at h
    refine vr_iload_n (pc := 16) 2 dX9_again_16 rfl rfl ?_
    refine vr_bipush (pc := 17) 6 dX9_again_17 cb_6 ?_
    refine vr_icmp_ge (pc := 19) 99 dX9_again_19 (by decide) (fun c3 => ?_) (fun c3 => ?_)
    · rw [if_pos c3] at h
      refine vr_sub [0, 1] [(0, .ref (g.1 q0)), (1, .ref (g.1 q1))] rfl ?_
      exact hκ q0 q1 σ (hq0) (hq1) h
    · rw [if_neg c3] at h
      refine vr_aload_n (pc := 22) 0 dX9_again_22 rfl rfl ?_
      refine vr_getR (pc := 23) 4 dX9_again_23 fi_X9_20 hq0 (sh_8_4 hq0).1 ?_
      refine vr_iload_n (pc := 26) 2 dX9_again_26 rfl rfl ?_
      refine vr_aload_n (pc := 27) 1 dX9_again_27 rfl rfl ?_
      refine vr_iconst (pc := 28) 2 dX9_again_28 ci_2 ?_
      refine vr_iload_n (pc := 29) 2 dX9_again_29 rfl rfl ?_
      refine vr_iadd (pc := 30) dX9_again_30 ?_
      obtain ⟨hc4, h⟩ := ck_some h
      refine vr_iald (pc := 31) dX9_again_31 hq1 hc4 ?_
      obtain ⟨hc5, h⟩ := ck_some h
      refine vr_iast (pc := 32) dX9_again_32 (sh_8_4 hq0).2 hc5 ?_
      refine vr_aload_n (pc := 33) 0 dX9_again_33 rfl rfl ?_
      refine vr_getR (pc := 34) 5 dX9_again_34 fi_X9_23 hq0 (sh_8_5 hq0).1 ?_
      refine vr_iload_n (pc := 37) 2 dX9_again_37 rfl rfl ?_
      refine vr_aload_n (pc := 38) 1 dX9_again_38 rfl rfl ?_
      refine vr_bipush (pc := 39) 8 dX9_again_39 cb_8 ?_
      refine vr_iload_n (pc := 41) 2 dX9_again_41 rfl rfl ?_
      refine vr_iadd (pc := 42) dX9_again_42 ?_
      obtain ⟨hc6, h⟩ := ck_some h
      refine vr_iald (pc := 43) dX9_again_43 hq1 hc6 ?_
      obtain ⟨hc7, h⟩ := ck_some h
      refine vr_iast (pc := 44) dX9_again_44 (sh_8_5 hq0).2 hc7 ?_
      refine vr_aload_n (pc := 45) 0 dX9_again_45 rfl rfl ?_
      refine vr_getR (pc := 46) 6 dX9_again_46 fi_X9_26 hq0 (sh_8_6 hq0).1 ?_
      refine vr_iload_n (pc := 49) 2 dX9_again_49 rfl rfl ?_
      refine vr_aload_n (pc := 50) 1 dX9_again_50 rfl rfl ?_
      refine vr_bipush (pc := 51) 14 dX9_again_51 cb_14 ?_
      refine vr_iload_n (pc := 53) 2 dX9_again_53 rfl rfl ?_
      refine vr_iadd (pc := 54) dX9_again_54 ?_
      obtain ⟨hc8, h⟩ := ck_some h
      refine vr_iald (pc := 55) dX9_again_55 hq1 hc8 ?_
      obtain ⟨hc9, h⟩ := ck_some h
      refine vr_iast (pc := 56) dX9_again_56 (sh_8_6 hq0).2 hc9 ?_
      refine vr_aload_n (pc := 57) 0 dX9_again_57 rfl rfl ?_
      refine vr_getR (pc := 58) 7 dX9_again_58 fi_X9_29 hq0 (sh_8_7 hq0).1 ?_
      refine vr_iload_n (pc := 61) 2 dX9_again_61 rfl rfl ?_
      refine vr_aload_n (pc := 62) 1 dX9_again_62 rfl rfl ?_
      refine vr_bipush (pc := 63) 20 dX9_again_63 cb_20 ?_
      refine vr_iload_n (pc := 65) 2 dX9_again_65 rfl rfl ?_
      refine vr_iadd (pc := 66) dX9_again_66 ?_
      obtain ⟨hc10, h⟩ := ck_some h
      refine vr_iald (pc := 67) dX9_again_67 hq1 hc10 ?_
      obtain ⟨hc11, h⟩ := ck_some h
      refine vr_iast (pc := 68) dX9_again_68 (sh_8_7 hq0).2 hc11 ?_
      refine vr_aload_n (pc := 69) 0 dX9_again_69 rfl rfl ?_
      refine vr_getR (pc := 70) 8 dX9_again_70 fi_X9_32 hq0 (sh_8_8 hq0).1 ?_
      refine vr_iload_n (pc := 73) 2 dX9_again_73 rfl rfl ?_
      refine vr_aload_n (pc := 74) 1 dX9_again_74 rfl rfl ?_
      refine vr_bipush (pc := 75) 26 dX9_again_75 cb_26 ?_
      refine vr_iload_n (pc := 77) 2 dX9_again_77 rfl rfl ?_
      refine vr_iadd (pc := 78) dX9_again_78 ?_
      obtain ⟨hc12, h⟩ := ck_some h
      refine vr_iald (pc := 79) dX9_again_79 hq1 hc12 ?_
      obtain ⟨hc13, h⟩ := ck_some h
      refine vr_iast (pc := 80) dX9_again_80 (sh_8_8 hq0).2 hc13 ?_
      refine vr_aload_n (pc := 81) 0 dX9_again_81 rfl rfl ?_
      refine vr_getR (pc := 82) 9 dX9_again_82 fi_X9_35 hq0 (sh_8_9 hq0).1 ?_
      refine vr_iload_n (pc := 85) 2 dX9_again_85 rfl rfl ?_
      refine vr_aload_n (pc := 86) 1 dX9_again_86 rfl rfl ?_
      refine vr_bipush (pc := 87) 32 dX9_again_87 cb_32 ?_
      refine vr_iload_n (pc := 89) 2 dX9_again_89 rfl rfl ?_
      refine vr_iadd (pc := 90) dX9_again_90 ?_
      obtain ⟨hc14, h⟩ := ck_some h
      refine vr_iald (pc := 91) dX9_again_91 hq1 hc14 ?_
      obtain ⟨hc15, h⟩ := ck_some h
      refine vr_iast (pc := 92) dX9_again_92 (sh_8_9 hq0).2 hc15 ?_
      refine vr_iinc (pc := 93) [(2, .int (x2 + 1)), (0, .ref (g.1 q0)), (1, .ref (g.1 q1))] 2 dX9_again_93 rfl (congrArg (fun z => x2 + z) ci_1) (by decide) rfl ?_
      refine vr_goto (pc := 96) 16 dX9_again_96 (by decide) ?_
      refine vr_sub [1, 2, 0] [(0, .ref (g.1 q0)), (1, .ref (g.1 q1)), (2, .int (x2 + 1))] rfl ?_
      exact ih q0 q1 (x2 + 1) (hq0) (hq1) (sI (sI (sI (sI (sI (sI σ (rid q0 4) x2.toNatClampNeg (σ.1 q1 (2 + x2).toNatClampNeg)) (rid q0 5) x2.toNatClampNeg ((sI σ (rid q0 4) x2.toNatClampNeg (σ.1 q1 (2 + x2).toNatClampNeg)).1 q1 (8 + x2).toNatClampNeg)) (rid q0 6) x2.toNatClampNeg ((sI (sI σ (rid q0 4) x2.toNatClampNeg (σ.1 q1 (2 + x2).toNatClampNeg)) (rid q0 5) x2.toNatClampNeg ((sI σ (rid q0 4) x2.toNatClampNeg (σ.1 q1 (2 + x2).toNatClampNeg)).1 q1 (8 + x2).toNatClampNeg)).1 q1 (14 + x2).toNatClampNeg)) (rid q0 7) x2.toNatClampNeg ((sI (sI (sI σ (rid q0 4) x2.toNatClampNeg (σ.1 q1 (2 + x2).toNatClampNeg)) (rid q0 5) x2.toNatClampNeg ((sI σ (rid q0 4) x2.toNatClampNeg (σ.1 q1 (2 + x2).toNatClampNeg)).1 q1 (8 + x2).toNatClampNeg)) (rid q0 6) x2.toNatClampNeg ((sI (sI σ (rid q0 4) x2.toNatClampNeg (σ.1 q1 (2 + x2).toNatClampNeg)) (rid q0 5) x2.toNatClampNeg ((sI σ (rid q0 4) x2.toNatClampNeg (σ.1 q1 (2 + x2).toNatClampNeg)).1 q1 (8 + x2).toNatClampNeg)).1 q1 (14 + x2).toNatClampNeg)).1 q1 (20 + x2).toNatClampNeg)) (rid q0 8) x2.toNatClampNeg ((sI (sI (sI (sI σ (rid q0 4) x2.toNatClampNeg (σ.1 q1 (2 + x2).toNatClampNeg)) (rid q0 5) x2.toNatClampNeg ((sI σ (rid q0 4) x2.toNatClampNeg (σ.1 q1 (2 + x2).toNatClampNeg)).1 q1 (8 + x2).toNatClampNeg)) (rid q0 6) x2.toNatClampNeg ((sI (sI σ (rid q0 4) x2.toNatClampNeg (σ.1 q1 (2 + x2).toNatClampNeg)) (rid q0 5) x2.toNatClampNeg ((sI σ (rid q0 4) x2.toNatClampNeg (σ.1 q1 (2 + x2).toNatClampNeg)).1 q1 (8 + x2).toNatClampNeg)).1 q1 (14 + x2).toNatClampNeg)) (rid q0 7) x2.toNatClampNeg ((sI (sI (sI σ (rid q0 4) x2.toNatClampNeg (σ.1 q1 (2 + x2).toNatClampNeg)) (rid q0 5) x2.toNatClampNeg ((sI σ (rid q0 4) x2.toNatClampNeg (σ.1 q1 (2 + x2).toNatClampNeg)).1 q1 (8 + x2).toNatClampNeg)) (rid q0 6) x2.toNatClampNeg ((sI (sI σ (rid q0 4) x2.toNatClampNeg (σ.1 q1 (2 + x2).toNatClampNeg)) (rid q0 5) x2.toNatClampNeg ((sI σ (rid q0 4) x2.toNatClampNeg (σ.1 q1 (2 + x2).toNatClampNeg)).1 q1 (8 + x2).toNatClampNeg)).1 q1 (14 + x2).toNatClampNeg)).1 q1 (20 + x2).toNatClampNeg)).1 q1 (26 + x2).toNatClampNeg)) (rid q0 9) x2.toNatClampNeg ((sI (sI (sI (sI (sI σ (rid q0 4) x2.toNatClampNeg (σ.1 q1 (2 + x2).toNatClampNeg)) (rid q0 5) x2.toNatClampNeg ((sI σ (rid q0 4) x2.toNatClampNeg (σ.1 q1 (2 + x2).toNatClampNeg)).1 q1 (8 + x2).toNatClampNeg)) (rid q0 6) x2.toNatClampNeg ((sI (sI σ (rid q0 4) x2.toNatClampNeg (σ.1 q1 (2 + x2).toNatClampNeg)) (rid q0 5) x2.toNatClampNeg ((sI σ (rid q0 4) x2.toNatClampNeg (σ.1 q1 (2 + x2).toNatClampNeg)).1 q1 (8 + x2).toNatClampNeg)).1 q1 (14 + x2).toNatClampNeg)) (rid q0 7) x2.toNatClampNeg ((sI (sI (sI σ (rid q0 4) x2.toNatClampNeg (σ.1 q1 (2 + x2).toNatClampNeg)) (rid q0 5) x2.toNatClampNeg ((sI σ (rid q0 4) x2.toNatClampNeg (σ.1 q1 (2 + x2).toNatClampNeg)).1 q1 (8 + x2).toNatClampNeg)) (rid q0 6) x2.toNatClampNeg ((sI (sI σ (rid q0 4) x2.toNatClampNeg (σ.1 q1 (2 + x2).toNatClampNeg)) (rid q0 5) x2.toNatClampNeg ((sI σ (rid q0 4) x2.toNatClampNeg (σ.1 q1 (2 + x2).toNatClampNeg)).1 q1 (8 + x2).toNatClampNeg)).1 q1 (14 + x2).toNatClampNeg)).1 q1 (20 + x2).toNatClampNeg)) (rid q0 8) x2.toNatClampNeg ((sI (sI (sI (sI σ (rid q0 4) x2.toNatClampNeg (σ.1 q1 (2 + x2).toNatClampNeg)) (rid q0 5) x2.toNatClampNeg ((sI σ (rid q0 4) x2.toNatClampNeg (σ.1 q1 (2 + x2).toNatClampNeg)).1 q1 (8 + x2).toNatClampNeg)) (rid q0 6) x2.toNatClampNeg ((sI (sI σ (rid q0 4) x2.toNatClampNeg (σ.1 q1 (2 + x2).toNatClampNeg)) (rid q0 5) x2.toNatClampNeg ((sI σ (rid q0 4) x2.toNatClampNeg (σ.1 q1 (2 + x2).toNatClampNeg)).1 q1 (8 + x2).toNatClampNeg)).1 q1 (14 + x2).toNatClampNeg)) (rid q0 7) x2.toNatClampNeg ((sI (sI (sI σ (rid q0 4) x2.toNatClampNeg (σ.1 q1 (2 + x2).toNatClampNeg)) (rid q0 5) x2.toNatClampNeg ((sI σ (rid q0 4) x2.toNatClampNeg (σ.1 q1 (2 + x2).toNatClampNeg)).1 q1 (8 + x2).toNatClampNeg)) (rid q0 6) x2.toNatClampNeg ((sI (sI σ (rid q0 4) x2.toNatClampNeg (σ.1 q1 (2 + x2).toNatClampNeg)) (rid q0 5) x2.toNatClampNeg ((sI σ (rid q0 4) x2.toNatClampNeg (σ.1 q1 (2 + x2).toNatClampNeg)).1 q1 (8 + x2).toNatClampNeg)).1 q1 (14 + x2).toNatClampNeg)).1 q1 (20 + x2).toNatClampNeg)).1 q1 (26 + x2).toNatClampNeg)).1 q1 (32 + x2).toNatClampNeg)) h
set_option maxRecDepth 20000 in
set_option maxHeartbeats 4000000 in
theorem v_X9_again_L101 (l : Launch) (g : GG) {r : SS} {κ : SS → Option SS} (hκ : ∀ (τ : SS) , κ  τ = some r → VV l g 0 RX9 cX9_again 3 none (none, r) 137 [] [] τ) : ∀ (fu : Nat) (q0 : Nat) (q1 : Nat) (x2 : Int32) (hq0 : kd q0 = 8) (hq1 : kd q1 = 9) (σ : SS), f_X9_again_L101 κ fu q0 q1 x2 σ = some r → VV l g 0 RX9 cX9_again 3 none (none, r) 101 [(0, .ref (g.1 q0)), (1, .ref (g.1 q1)), (2, .int x2)] [] σ := by
  intro fu
  induction fu with
  | zero => intro q0 q1 x2 hq0 hq1 σ h; cases h
  | succ fu ih =>
    intro q0 q1 x2 hq0 hq1 σ h
    simp only [f_X9_again_L101] at h
    refine vr_iload_n (pc := 101) 2 dX9_again_101 rfl rfl ?_
    refine vr_bipush (pc := 102) 60 dX9_again_102 cb_60 ?_
    refine vr_icmp_ge (pc := 104) 137 dX9_again_104 (by decide) (fun c16 => ?_) (fun c16 => ?_)
    · rw [if_pos c16] at h
      refine vr_sub [] [] rfl ?_
      exact hκ σ h
    · rw [if_neg c16] at h
      refine vr_aload_n (pc := 107) 0 dX9_again_107 rfl rfl ?_
      refine vr_getR (pc := 108) 2 dX9_again_108 fi_X9_17 hq0 (sh_8_2 hq0).1 ?_
      refine vr_iload_n (pc := 111) 2 dX9_again_111 rfl rfl ?_
      refine vr_aload_n (pc := 112) 1 dX9_again_112 rfl rfl ?_
      refine vr_bipush (pc := 113) 38 dX9_again_113 cb_38 ?_
      refine vr_iload_n (pc := 115) 2 dX9_again_115 rfl rfl ?_
      refine vr_iadd (pc := 116) dX9_again_116 ?_
      obtain ⟨hc17, h⟩ := ck_some h
      refine vr_iald (pc := 117) dX9_again_117 hq1 hc17 ?_
      obtain ⟨hc18, h⟩ := ck_some h
      refine vr_iast (pc := 118) dX9_again_118 (sh_8_2 hq0).2 hc18 ?_
      refine vr_aload_n (pc := 119) 0 dX9_again_119 rfl rfl ?_
      refine vr_getR (pc := 120) 1 dX9_again_120 fi_X9_13 hq0 (sh_8_1 hq0).1 ?_
      refine vr_iload_n (pc := 123) 2 dX9_again_123 rfl rfl ?_
      refine vr_aload_n (pc := 124) 1 dX9_again_124 rfl rfl ?_
      refine vr_bipush (pc := 125) 98 dX9_again_125 cb_98 ?_
      refine vr_iload_n (pc := 127) 2 dX9_again_127 rfl rfl ?_
      refine vr_iadd (pc := 128) dX9_again_128 ?_
      obtain ⟨hc19, h⟩ := ck_some h
      refine vr_iald (pc := 129) dX9_again_129 hq1 hc19 ?_
      obtain ⟨hc20, h⟩ := ck_some h
      refine vr_iast (pc := 130) dX9_again_130 (sh_8_1 hq0).2 hc20 ?_
      refine vr_iinc (pc := 131) [(2, .int (x2 + 1)), (0, .ref (g.1 q0)), (1, .ref (g.1 q1))] 2 dX9_again_131 rfl (congrArg (fun z => x2 + z) ci_1) (by decide) rfl ?_
      refine vr_goto (pc := 134) 101 dX9_again_134 (by decide) ?_
      refine vr_sub [1, 2, 0] [(0, .ref (g.1 q0)), (1, .ref (g.1 q1)), (2, .int (x2 + 1))] rfl ?_
      exact ih q0 q1 (x2 + 1) (hq0) (hq1) (sI (sI σ (rid q0 2) x2.toNatClampNeg (σ.1 q1 (38 + x2).toNatClampNeg)) (rid q0 1) x2.toNatClampNeg ((sI σ (rid q0 2) x2.toNatClampNeg (σ.1 q1 (38 + x2).toNatClampNeg)).1 q1 (98 + x2).toNatClampNeg)) h
set_option maxRecDepth 20000 in
set_option maxHeartbeats 4000000 in
theorem s_X9_again (l : Launch) (g : GG) {q0 : Nat} (hq0 : kd q0 = 8) {q1 : Nat} (hq1 : kd q1 = 9) {σ : SS} {r : SS} (h : f_X9_again q0 q1 σ = some r) : CT l g 0 yX9_again cX9_again 3 none [.ref (g.1 q0), .ref (g.1 q1)] σ (none, r) := by
  refine CT.of (lv := [(0, .ref (g.1 q0)), (1, .ref (g.1 q1))]) RX9 (by decide +kernel) rfl (Nat.le_of_ble_eq_true rfl) rfl ?_
  unfold f_X9_again at h
  refine vr_aload_n (pc := 0) 0 dX9_again_0 rfl rfl ?_
  refine vr_aload_n (pc := 1) 1 dX9_again_1 rfl rfl ?_
  refine vr_iconst (pc := 2) 0 dX9_again_2 ci_0 ?_
  obtain ⟨hc1, h⟩ := ck_some h
  refine vr_iald (pc := 3) dX9_again_3 hq1 hc1 ?_
  refine vr_putI (pc := 4) 0 dX9_again_4 fi_X9_7 (fw_8_0 _) hq0 (sh_8_0 hq0) ?_
  refine vr_aload_n (pc := 7) 0 dX9_again_7 rfl rfl ?_
  refine vr_aload_n (pc := 8) 1 dX9_again_8 rfl rfl ?_
  refine vr_iconst (pc := 9) 1 dX9_again_9 ci_1 ?_
  obtain ⟨hc2, h⟩ := ck_some h
  refine vr_iald (pc := 10) dX9_again_10 hq1 hc2 ?_
  refine vr_putI (pc := 11) 3 dX9_again_11 fi_X9_108 (fw_8_3 _) hq0 (sh_8_3 hq0) ?_
  refine vr_iconst (pc := 14) 0 dX9_again_14 ci_0 ?_
  refine vr_istore_n (pc := 15) [(2, .int 0), (0, .ref (g.1 q0)), (1, .ref (g.1 q1))] dX9_again_15 rfl (by decide) rfl ?_
  refine vr_sub [1, 2, 0] [(0, .ref (g.1 q0)), (1, .ref (g.1 q1)), (2, .int 0)] rfl ?_
  refine v_X9_again_L16 l g (fun p0 p1 τ hp0 hp1 h => ?_) FU q0 q1 0 (hq0) (hq1) (sI (sI σ q0 0 (σ.1 q1 (0 : Int32).toNatClampNeg)) q0 3 ((sI σ q0 0 (σ.1 q1 (0 : Int32).toNatClampNeg)).1 q1 (1 : Int32).toNatClampNeg)) h
  refine vr_iconst (pc := 99) 0 dX9_again_99 ci_0 ?_
  refine vr_istore_n (pc := 100) [(2, .int 0), (0, .ref (g.1 p0)), (1, .ref (g.1 p1))] dX9_again_100 rfl (by decide) rfl ?_
  refine vr_sub [1, 2, 0] [(0, .ref (g.1 p0)), (1, .ref (g.1 p1)), (2, .int 0)] rfl ?_
  refine v_X9_again_L101 l g (fun τ h => ?_) FU p0 p1 0 (hp0) (hp1) τ h
  have h := Option.some.inj h; subst h
  exact vr_vret (pc := 137) dX9_again_137 rfl rfl
theorem dX9_sheet_0 : decode cX9_sheet 0 = .ok (.aload_n 0, 1) := by decide +kernel
theorem dX9_sheet_1 : decode cX9_sheet 1 = .ok (.invokevirtual 152, 3) := by decide +kernel
theorem dX9_sheet_4 : decode cX9_sheet 4 = .ok (.istore_n 1, 1) := by decide +kernel
theorem dX9_sheet_5 : decode cX9_sheet 5 = .ok (.iconst 0, 1) := by decide +kernel
theorem dX9_sheet_6 : decode cX9_sheet 6 = .ok (.istore_n 2, 1) := by decide +kernel
theorem dX9_sheet_7 : decode cX9_sheet 7 = .ok (.iload_n 1, 1) := by decide +kernel
theorem dX9_sheet_8 : decode cX9_sheet 8 = .ok (.ifCond .ge 82, 3) := by decide +kernel
theorem dX9_sheet_11 : decode cX9_sheet 11 = .ok (.aload_n 0, 1) := by decide +kernel
theorem dX9_sheet_12 : decode cX9_sheet 12 = .ok (.aload_n 0, 1) := by decide +kernel
theorem dX9_sheet_13 : decode cX9_sheet 13 = .ok (.getfield 53, 3) := by decide +kernel
theorem dX9_sheet_16 : decode cX9_sheet 16 = .ok (.invokevirtual 156, 3) := by decide +kernel
theorem dX9_sheet_19 : decode cX9_sheet 19 = .ok (.iconst 0, 1) := by decide +kernel
theorem dX9_sheet_20 : decode cX9_sheet 20 = .ok (.istore_n 3, 1) := by decide +kernel
theorem dX9_sheet_21 : decode cX9_sheet 21 = .ok (.iload_n 3, 1) := by decide +kernel
theorem dX9_sheet_22 : decode cX9_sheet 22 = .ok (.aload_n 0, 1) := by decide +kernel
theorem dX9_sheet_23 : decode cX9_sheet 23 = .ok (.getfield 115, 3) := by decide +kernel
theorem dX9_sheet_26 : decode cX9_sheet 26 = .ok (.if_icmp .ge 44, 3) := by decide +kernel
theorem dX9_sheet_29 : decode cX9_sheet 29 = .ok (.iload_n 1, 1) := by decide +kernel
theorem dX9_sheet_30 : decode cX9_sheet 30 = .ok (.ifCond .ge 40, 3) := by decide +kernel
theorem dX9_sheet_33 : decode cX9_sheet 33 = .ok (.aload_n 0, 1) := by decide +kernel
theorem dX9_sheet_34 : decode cX9_sheet 34 = .ok (.iload_n 3, 1) := by decide +kernel
theorem dX9_sheet_35 : decode cX9_sheet 35 = .ok (.invokevirtual 160, 3) := by decide +kernel
theorem dX9_sheet_38 : decode cX9_sheet 38 = .ok (.ifCond .eq 9, 3) := by decide +kernel
theorem dX9_sheet_41 : decode cX9_sheet 41 = .ok (.iinc 2 1, 3) := by decide +kernel
theorem dX9_sheet_44 : decode cX9_sheet 44 = .ok (.goto 9, 3) := by decide +kernel
theorem dX9_sheet_47 : decode cX9_sheet 47 = .ok (.sipush 1000, 3) := by decide +kernel
theorem dX9_sheet_50 : decode cX9_sheet 50 = .ok (.iload_n 3, 1) := by decide +kernel
theorem dX9_sheet_51 : decode cX9_sheet 51 = .ok (.iadd, 1) := by decide +kernel
theorem dX9_sheet_52 : decode cX9_sheet 52 = .ok (.istore_n 1, 1) := by decide +kernel
theorem dX9_sheet_53 : decode cX9_sheet 53 = .ok (.iload_n 3, 1) := by decide +kernel
theorem dX9_sheet_54 : decode cX9_sheet 54 = .ok (.aload_n 0, 1) := by decide +kernel
theorem dX9_sheet_55 : decode cX9_sheet 55 = .ok (.getfield 38, 3) := by decide +kernel
theorem dX9_sheet_58 : decode cX9_sheet 58 = .ok (.iload_n 3, 1) := by decide +kernel
theorem dX9_sheet_59 : decode cX9_sheet 59 = .ok (.iaload, 1) := by decide +kernel
theorem dX9_sheet_60 : decode cX9_sheet 60 = .ok (.invokestatic 118, 3) := by decide +kernel
theorem dX9_sheet_63 : decode cX9_sheet 63 = .ok (.iconst 2, 1) := by decide +kernel
theorem dX9_sheet_64 : decode cX9_sheet 64 = .ok (.iadd, 1) := by decide +kernel
theorem dX9_sheet_65 : decode cX9_sheet 65 = .ok (.iadd, 1) := by decide +kernel
theorem dX9_sheet_66 : decode cX9_sheet 66 = .ok (.istore_n 3, 1) := by decide +kernel
theorem dX9_sheet_67 : decode cX9_sheet 67 = .ok (.goto (-46), 3) := by decide +kernel
theorem dX9_sheet_70 : decode cX9_sheet 70 = .ok (.iload_n 1, 1) := by decide +kernel
theorem dX9_sheet_71 : decode cX9_sheet 71 = .ok (.ifCond .lt 14, 3) := by decide +kernel
theorem dX9_sheet_74 : decode cX9_sheet 74 = .ok (.aload_n 0, 1) := by decide +kernel
theorem dX9_sheet_75 : decode cX9_sheet 75 = .ok (.aload_n 0, 1) := by decide +kernel
theorem dX9_sheet_76 : decode cX9_sheet 76 = .ok (.getfield 53, 3) := by decide +kernel
theorem dX9_sheet_79 : decode cX9_sheet 79 = .ok (.invokevirtual 163, 3) := by decide +kernel
theorem dX9_sheet_82 : decode cX9_sheet 82 = .ok (.goto 8, 3) := by decide +kernel
theorem dX9_sheet_85 : decode cX9_sheet 85 = .ok (.aload_n 0, 1) := by decide +kernel
theorem dX9_sheet_86 : decode cX9_sheet 86 = .ok (.iconst 0, 1) := by decide +kernel
theorem dX9_sheet_87 : decode cX9_sheet 87 = .ok (.putfield 166, 3) := by decide +kernel
theorem dX9_sheet_90 : decode cX9_sheet 90 = .ok (.aload_n 0, 1) := by decide +kernel
theorem dX9_sheet_91 : decode cX9_sheet 91 = .ok (.iconst 0, 1) := by decide +kernel
theorem dX9_sheet_92 : decode cX9_sheet 92 = .ok (.putfield 115, 3) := by decide +kernel
theorem dX9_sheet_95 : decode cX9_sheet 95 = .ok (.iload_n 1, 1) := by decide +kernel
theorem dX9_sheet_96 : decode cX9_sheet 96 = .ok (.ifCond .ge 7, 3) := by decide +kernel
theorem dX9_sheet_99 : decode cX9_sheet 99 = .ok (.iload_n 2, 1) := by decide +kernel
theorem dX9_sheet_100 : decode cX9_sheet 100 = .ok (.goto 8, 3) := by decide +kernel
theorem dX9_sheet_103 : decode cX9_sheet 103 = .ok (.sipush (-1000), 3) := by decide +kernel
theorem dX9_sheet_106 : decode cX9_sheet 106 = .ok (.iload_n 1, 1) := by decide +kernel
theorem dX9_sheet_107 : decode cX9_sheet 107 = .ok (.isub, 1) := by decide +kernel
theorem dX9_sheet_108 : decode cX9_sheet 108 = .ok (.ireturn, 1) := by decide +kernel
set_option maxRecDepth 20000 in
set_option maxHeartbeats 4000000 in
theorem v_X9_sheet_L21 (l : Launch) (g : GG) {r : Int32 × SS} {κ : Nat → Int32 → Int32 → SS → Option (Int32 × SS)} (hκ : ∀ (p0 : Nat) (y1 : Int32) (y2 : Int32) (τ : SS) (hp0 : kd p0 = 8), κ p0 y1 y2 τ = some r → VV l g 5 RX9 cX9_sheet 4 (some .int) (some (.int r.1), r.2) 70 [(0, .ref (g.1 p0)), (1, .int y1), (2, .int y2)] [] τ) : ∀ (fu : Nat) (q0 : Nat) (x1 : Int32) (x2 : Int32) (x3 : Int32) (hq0 : kd q0 = 8) (σ : SS), f_X9_sheet_L21 κ fu q0 x1 x2 x3 σ = some r → VV l g 5 RX9 cX9_sheet 4 (some .int) (some (.int r.1), r.2) 21 [(0, .ref (g.1 q0)), (1, .int x1), (2, .int x2), (3, .int x3)] [] σ := by
  intro fu
  induction fu with
  | zero => intro q0 x1 x2 x3 hq0 σ h; cases h
  | succ fu ih =>
    intro q0 x1 x2 x3 hq0 σ h
    simp only [f_X9_sheet_L21] at h
    refine vr_iload_n (pc := 21) 3 dX9_sheet_21 rfl rfl ?_
    refine vr_aload_n (pc := 22) 0 dX9_sheet_22 rfl rfl ?_
    refine vr_getI (pc := 23) 11 dX9_sheet_23 fi_X9_115 hq0 (sh_8_11 hq0) ?_
    refine vr_icmp_ge (pc := 26) 70 dX9_sheet_26 (by decide) (fun c13 => ?_) (fun c13 => ?_)
    · rw [if_pos c13] at h
      refine vr_sub [0, 1, 2] [(0, .ref (g.1 q0)), (1, .int x1), (2, .int x2)] rfl ?_
      exact hκ q0 x1 x2 σ (hq0) h
    · rw [if_neg c13] at h
      refine vr_iload_n (pc := 29) 1 dX9_sheet_29 rfl rfl ?_
      refine vr_if_ge (pc := 30) 70 dX9_sheet_30 (by decide) (fun c14 => ?_) (fun c14 => ?_)
      · rw [if_pos c14] at h
        refine vr_sub [0, 1, 2] [(0, .ref (g.1 q0)), (1, .int x1), (2, .int x2)] rfl ?_
        exact hκ q0 x1 x2 σ (hq0) h
      · rw [if_neg c14] at h
        refine vr_aload_n (pc := 33) 0 dX9_sheet_33 rfl rfl ?_
        refine vr_iload_n (pc := 34) 3 dX9_sheet_34 rfl rfl ?_
        obtain ⟨z15, hz16, h⟩ := ob_some h
        refine vr_callV (pc := 35) (ρ1 := (some (.int z15.1), z15.2)) [.int x3] dX9_sheet_35 (s_X9_does l g (hq0) hz16) cw_X9_does ml_X9_160 hq0 rfl (by decide) (by decide) rfl rfl (Nat.le_of_ble_eq_true rfl) ?_
        obtain ⟨j17, ej17, h⟩ := jn2_e h
        have hj17 : ∀ (v19 : Int32) (v20 : Int32) , j17 v19 v20 = some r → VV l g 5 RX9 cX9_sheet 4 (some .int) (some (.int r.1), r.2) 53 [(0, .ref (g.1 q0)), (1, .int v19), (2, .int v20), (3, .int x3)] [] z15.2 := by
          intro v19 v20  h
          rw [ej17] at h
          refine vr_iload_n (pc := 53) 3 dX9_sheet_53 rfl rfl ?_
          refine vr_aload_n (pc := 54) 0 dX9_sheet_54 rfl rfl ?_
          refine vr_getR (pc := 55) 10 dX9_sheet_55 fi_X9_38 hq0 (sh_8_10 hq0).1 ?_
          refine vr_iload_n (pc := 58) 3 dX9_sheet_58 rfl rfl ?_
          obtain ⟨hc21, h⟩ := ck_some h
          refine vr_iald (pc := 59) dX9_sheet_59 (sh_8_10 hq0).2 hc21 ?_
          refine vr_callS (pc := 60) (ρ1 := (some (.int (f_X9_digitsOf (z15.2.1 (rid q0 10) x3.toNatClampNeg))), z15.2)) [.int (z15.2.1 (rid q0 10) x3.toNatClampNeg)] dX9_sheet_60 (s_X9_digitsOf l g rfl) cw_X9_digitsOf ml_X9_118 (by decide) rfl rfl (Nat.le_of_ble_eq_true rfl) ?_
          refine vr_iconst (pc := 63) 2 dX9_sheet_63 ci_2 ?_
          refine vr_iadd (pc := 64) dX9_sheet_64 ?_
          refine vr_iadd (pc := 65) dX9_sheet_65 ?_
          refine vr_istore_n (pc := 66) [(3, .int (x3 + ((f_X9_digitsOf (z15.2.1 (rid q0 10) x3.toNatClampNeg)) + 2))), (0, .ref (g.1 q0)), (1, .int v19), (2, .int v20)] dX9_sheet_66 rfl (by decide) rfl ?_
          refine vr_goto (pc := 67) 21 dX9_sheet_67 (by decide) ?_
          refine vr_sub [1, 2, 3, 0] [(0, .ref (g.1 q0)), (1, .int v19), (2, .int v20), (3, .int (x3 + ((f_X9_digitsOf (z15.2.1 (rid q0 10) x3.toNatClampNeg)) + 2)))] rfl ?_
          exact ih q0 v19 v20 (x3 + ((f_X9_digitsOf (z15.2.1 (rid q0 10) x3.toNatClampNeg)) + 2)) (hq0) z15.2 h
        refine vr_if_eq (pc := 38) 47 dX9_sheet_38 (by decide) (fun c22 => ?_) (fun c22 => ?_)
        · rw [if_pos c22] at h
          refine vr_sipush (pc := 47) 1000 dX9_sheet_47 cs_1000 ?_
          refine vr_iload_n (pc := 50) 3 dX9_sheet_50 rfl rfl ?_
          refine vr_iadd (pc := 51) dX9_sheet_51 ?_
          refine vr_istore_n (pc := 52) [(1, .int (1000 + x3)), (0, .ref (g.1 q0)), (2, .int x2), (3, .int x3)] dX9_sheet_52 rfl (by decide) rfl ?_
          refine vr_sub [1, 0, 2, 3] [(0, .ref (g.1 q0)), (1, .int (1000 + x3)), (2, .int x2), (3, .int x3)] rfl ?_
          exact hj17 (1000 + x3) x2 h
        · rw [if_neg c22] at h
          refine vr_iinc (pc := 41) [(2, .int (x2 + 1)), (0, .ref (g.1 q0)), (1, .int x1), (3, .int x3)] 2 dX9_sheet_41 rfl (congrArg (fun z => x2 + z) ci_1) (by decide) rfl ?_
          refine vr_goto (pc := 44) 53 dX9_sheet_44 (by decide) ?_
          refine vr_sub [1, 2, 0, 3] [(0, .ref (g.1 q0)), (1, .int x1), (2, .int (x2 + 1)), (3, .int x3)] rfl ?_
          exact hj17 x1 (x2 + 1) h
set_option maxRecDepth 20000 in
set_option maxHeartbeats 4000000 in
theorem s_X9_sheet (l : Launch) (g : GG) {q0 : Nat} (hq0 : kd q0 = 8) {σ : SS} {r : Int32 × SS} (h : f_X9_sheet q0 σ = some r) : CT l g 5 yX9_sheet cX9_sheet 4 (some .int) [.ref (g.1 q0)] σ (some (.int r.1), r.2) := by
  refine CT.of (lv := [(0, .ref (g.1 q0))]) RX9 (by decide +kernel) rfl (Nat.le_of_ble_eq_true rfl) rfl ?_
  unfold f_X9_sheet at h
  refine vr_aload_n (pc := 0) 0 dX9_sheet_0 rfl rfl ?_
  obtain ⟨z1, hz2, h⟩ := ob_some h
  refine vr_callV (pc := 1) (ρ1 := (some (.int z1), σ)) [] dX9_sheet_1 (s_X9_badLetter l g (hq0) hz2) cw_X9_badLetter ml_X9_152 hq0 rfl (by decide) (by decide) rfl rfl (Nat.le_of_ble_eq_true rfl) ?_
  refine vr_istore_n (pc := 4) [(1, .int z1), (0, .ref (g.1 q0))] dX9_sheet_4 rfl (by decide) rfl ?_
  refine vr_iconst (pc := 5) 0 dX9_sheet_5 ci_0 ?_
  refine vr_istore_n (pc := 6) [(2, .int 0), (1, .int z1), (0, .ref (g.1 q0))] dX9_sheet_6 rfl (by decide) rfl ?_
  refine vr_iload_n (pc := 7) 1 dX9_sheet_7 rfl rfl ?_
  obtain ⟨j3, ej3, h⟩ := jn4_e h
  have hj3 : ∀ (v5 : Nat) (v6 : Int32) (v7 : Int32) (σ8 : SS) (hv5 : kd v5 = 8), j3 v5 v6 v7 σ8 = some r → VV l g 5 RX9 cX9_sheet 4 (some .int) (some (.int r.1), r.2) 90 [(0, .ref (g.1 v5)), (1, .int v6), (2, .int v7)] [] σ8 := by
    intro v5 v6 v7 σ8 hv5 h
    rw [ej3] at h
    refine vr_aload_n (pc := 90) 0 dX9_sheet_90 rfl rfl ?_
    refine vr_iconst (pc := 91) 0 dX9_sheet_91 ci_0 ?_
    refine vr_putI (pc := 92) 11 dX9_sheet_92 fi_X9_115 (fw_8_11 _) hv5 (sh_8_11 hv5) ?_
    refine vr_iload_n (pc := 95) 1 dX9_sheet_95 rfl rfl ?_
    refine vr_if_ge (pc := 96) 103 dX9_sheet_96 (by decide) (fun c9 => ?_) (fun c9 => ?_)
    · rw [if_pos c9] at h
      refine vr_sipush (pc := 103) (-1000) dX9_sheet_103 cs_m1000 ?_
      refine vr_iload_n (pc := 106) 1 dX9_sheet_106 rfl rfl ?_
      refine vr_isub (pc := 107) dX9_sheet_107 ?_
      have h := Option.some.inj h; subst h
      exact vr_iret (pc := 108) .int dX9_sheet_108 rfl rfl rfl
    · rw [if_neg c9] at h
      refine vr_iload_n (pc := 99) 2 dX9_sheet_99 rfl rfl ?_
      refine vr_goto (pc := 100) 108 dX9_sheet_100 (by decide) ?_
      have h := Option.some.inj h; subst h
      exact vr_iret (pc := 108) .int dX9_sheet_108 rfl rfl rfl
  refine vr_if_ge (pc := 8) 90 dX9_sheet_8 (by decide) (fun c10 => ?_) (fun c10 => ?_)
  · rw [if_pos c10] at h
    refine vr_sub [2, 1, 0] [(0, .ref (g.1 q0)), (1, .int z1), (2, .int 0)] rfl ?_
    exact hj3 q0 z1 0 σ (hq0) h
  · rw [if_neg c10] at h
    refine vr_aload_n (pc := 11) 2 dX9_sheet_11 rfl rfl ?_
    refine vr_aload_n (pc := 12) 2 dX9_sheet_12 rfl rfl ?_
    refine vr_getR (pc := 13) 17 dX9_sheet_13 fi_X9_53 hq0 (sh_8_17 hq0).1 ?_
    obtain ⟨z11, hz12, h⟩ := ob_some h
    refine vr_callV (pc := 16) (ρ1 := (none, z11)) [.ref (g.1 (rid q0 17))] dX9_sheet_16 (s_X9_keep l g (hq0) (sh_8_17 hq0).2 hz12) cw_X9_keep ml_X9_156 hq0 rfl (by decide) (by decide) rfl rfl (Nat.le_of_ble_eq_true rfl) ?_
    refine vr_iconst (pc := 19) 0 dX9_sheet_19 ci_0 ?_
    refine vr_istore_n (pc := 20) [(3, .int 0), (2, .int 0), (1, .int z1), (0, .ref (g.1 q0))] dX9_sheet_20 rfl (by decide) rfl ?_
    refine vr_sub [3, 2, 1, 0] [(0, .ref (g.1 q0)), (1, .int z1), (2, .int 0), (3, .int 0)] rfl ?_
    refine v_X9_sheet_L21 l g (fun p0 y1 y2 τ hp0 h => ?_) FU q0 z1 0 0 (hq0) z11 h
    refine vr_iload_n (pc := 70) 1 dX9_sheet_70 rfl rfl ?_
    refine vr_if_lt (pc := 71) 85 dX9_sheet_71 (by decide) (fun c23 => ?_) (fun c23 => ?_)
    · rw [if_pos c23] at h
      refine vr_aload_n (pc := 85) 0 dX9_sheet_85 rfl rfl ?_
      refine vr_iconst (pc := 86) 0 dX9_sheet_86 ci_0 ?_
      refine vr_putI (pc := 87) 15 dX9_sheet_87 fi_X9_166 (fw_8_15 _) hp0 (sh_8_15 hp0) ?_
      exact hj3 p0 y1 y2 (sI τ p0 15 0) (hp0) h
    · rw [if_neg c23] at h
      refine vr_aload_n (pc := 74) 0 dX9_sheet_74 rfl rfl ?_
      refine vr_aload_n (pc := 75) 0 dX9_sheet_75 rfl rfl ?_
      refine vr_getR (pc := 76) 17 dX9_sheet_76 fi_X9_53 hp0 (sh_8_17 hp0).1 ?_
      obtain ⟨z24, hz25, h⟩ := ob_some h
      refine vr_callV (pc := 79) (ρ1 := (none, z24)) [.ref (g.1 (rid p0 17))] dX9_sheet_79 (s_X9_again l g (hp0) (sh_8_17 hp0).2 hz25) cw_X9_again ml_X9_163 hp0 rfl (by decide) (by decide) rfl rfl (Nat.le_of_ble_eq_true rfl) ?_
      refine vr_goto (pc := 82) 90 dX9_sheet_82 (by decide) ?_
      exact hj3 p0 y1 y2 z24 (hp0) h
theorem dX9_ring_0 : decode cX9_ring 0 = .ok (.iload_n 1, 1) := by decide +kernel
theorem dX9_ring_1 : decode cX9_ring 1 = .ok (.iconst 3, 1) := by decide +kernel
theorem dX9_ring_2 : decode cX9_ring 2 = .ok (.if_icmp .ge 10, 3) := by decide +kernel
theorem dX9_ring_5 : decode cX9_ring 5 = .ok (.aload_n 0, 1) := by decide +kernel
theorem dX9_ring_6 : decode cX9_ring 6 = .ok (.bipush (-4), 2) := by decide +kernel
theorem dX9_ring_8 : decode cX9_ring 8 = .ok (.invokevirtual 104, 3) := by decide +kernel
theorem dX9_ring_11 : decode cX9_ring 11 = .ok (.ireturn, 1) := by decide +kernel
theorem dX9_ring_12 : decode cX9_ring 12 = .ok (.iload_n 1, 1) := by decide +kernel
theorem dX9_ring_13 : decode cX9_ring 13 = .ok (.bipush 60, 2) := by decide +kernel
theorem dX9_ring_15 : decode cX9_ring 15 = .ok (.if_icmp .le 10, 3) := by decide +kernel
theorem dX9_ring_18 : decode cX9_ring 18 = .ok (.aload_n 0, 1) := by decide +kernel
theorem dX9_ring_19 : decode cX9_ring 19 = .ok (.bipush (-6), 2) := by decide +kernel
theorem dX9_ring_21 : decode cX9_ring 21 = .ok (.invokevirtual 104, 3) := by decide +kernel
theorem dX9_ring_24 : decode cX9_ring 24 = .ok (.ireturn, 1) := by decide +kernel
theorem dX9_ring_25 : decode cX9_ring 25 = .ok (.aload_n 0, 1) := by decide +kernel
theorem dX9_ring_26 : decode cX9_ring 26 = .ok (.iload_n 1, 1) := by decide +kernel
theorem dX9_ring_27 : decode cX9_ring 27 = .ok (.invokevirtual 136, 3) := by decide +kernel
theorem dX9_ring_30 : decode cX9_ring 30 = .ok (.ifCond .ne 10, 3) := by decide +kernel
theorem dX9_ring_33 : decode cX9_ring 33 = .ok (.aload_n 0, 1) := by decide +kernel
theorem dX9_ring_34 : decode cX9_ring 34 = .ok (.bipush (-3), 2) := by decide +kernel
theorem dX9_ring_36 : decode cX9_ring 36 = .ok (.invokevirtual 104, 3) := by decide +kernel
theorem dX9_ring_39 : decode cX9_ring 39 = .ok (.ireturn, 1) := by decide +kernel
theorem dX9_ring_40 : decode cX9_ring 40 = .ok (.aload_n 0, 1) := by decide +kernel
theorem dX9_ring_41 : decode cX9_ring 41 = .ok (.getfield 7, 3) := by decide +kernel
theorem dX9_ring_44 : decode cX9_ring 44 = .ok (.istore_n 2, 1) := by decide +kernel
theorem dX9_ring_45 : decode cX9_ring 45 = .ok (.aload_n 0, 1) := by decide +kernel
theorem dX9_ring_46 : decode cX9_ring 46 = .ok (.iload_n 1, 1) := by decide +kernel
theorem dX9_ring_47 : decode cX9_ring 47 = .ok (.invokevirtual 140, 3) := by decide +kernel
theorem dX9_ring_50 : decode cX9_ring 50 = .ok (.aload_n 0, 1) := by decide +kernel
theorem dX9_ring_51 : decode cX9_ring 51 = .ok (.iconst 0, 1) := by decide +kernel
theorem dX9_ring_52 : decode cX9_ring 52 = .ok (.putfield 166, 3) := by decide +kernel
theorem dX9_ring_55 : decode cX9_ring 55 = .ok (.iload_n 2, 1) := by decide +kernel
theorem dX9_ring_56 : decode cX9_ring 56 = .ok (.ireturn, 1) := by decide +kernel
set_option maxRecDepth 20000 in
set_option maxHeartbeats 4000000 in
theorem s_X9_ring (l : Launch) (g : GG) {q0 : Nat} (hq0 : kd q0 = 8) {a1 : Int32} {σ : SS} {r : Int32 × SS} (h : f_X9_ring q0 a1 σ = some r) : CT l g 1 yX9_ring cX9_ring 3 (some .int) [.ref (g.1 q0), .int a1] σ (some (.int r.1), r.2) := by
  refine CT.of (lv := [(0, .ref (g.1 q0)), (1, .int a1)]) RX9 (by decide +kernel) rfl (Nat.le_of_ble_eq_true rfl) rfl ?_
  unfold f_X9_ring at h
  refine vr_iload_n (pc := 0) 1 dX9_ring_0 rfl rfl ?_
  refine vr_iconst (pc := 1) 3 dX9_ring_1 ci_3 ?_
  refine vr_icmp_ge (pc := 2) 12 dX9_ring_2 (by decide) (fun c1 => ?_) (fun c1 => ?_)
  · rw [if_pos c1] at h
    refine vr_iload_n (pc := 12) 1 dX9_ring_12 rfl rfl ?_
    refine vr_bipush (pc := 13) 60 dX9_ring_13 cb_60 ?_
    refine vr_icmp_le (pc := 15) 25 dX9_ring_15 (by decide) (fun c2 => ?_) (fun c2 => ?_)
    · rw [if_pos c2] at h
      refine vr_aload_n (pc := 25) 0 dX9_ring_25 rfl rfl ?_
      refine vr_iload_n (pc := 26) 1 dX9_ring_26 rfl rfl ?_
      obtain ⟨z3, hz4, h⟩ := ob_some h
      refine vr_callV (pc := 27) (ρ1 := (some (.int z3), σ)) [.int a1] dX9_ring_27 (s_X9_fitsAll l g (hq0) hz4) cw_X9_fitsAll ml_X9_136 hq0 rfl (by decide) (by decide) rfl rfl (Nat.le_of_ble_eq_true rfl) ?_
      refine vr_if_ne (pc := 30) 40 dX9_ring_30 (by decide) (fun c5 => ?_) (fun c5 => ?_)
      · rw [if_neg c5] at h
        refine vr_aload_n (pc := 40) 0 dX9_ring_40 rfl rfl ?_
        refine vr_getI (pc := 41) 0 dX9_ring_41 fi_X9_7 hq0 (sh_8_0 hq0) ?_
        refine vr_istore_n (pc := 44) [(2, .int (σ.1 q0 0)), (0, .ref (g.1 q0)), (1, .int a1)] dX9_ring_44 rfl (by decide) rfl ?_
        refine vr_aload_n (pc := 45) 1 dX9_ring_45 rfl rfl ?_
        refine vr_iload_n (pc := 46) 2 dX9_ring_46 rfl rfl ?_
        obtain ⟨z6, hz7, h⟩ := ob_some h
        refine vr_callV (pc := 47) (ρ1 := (none, z6)) [.int a1] dX9_ring_47 (s_X9_becomes l g (hq0) hz7) cw_X9_becomes ml_X9_140 hq0 rfl (by decide) (by decide) rfl rfl (Nat.le_of_ble_eq_true rfl) ?_
        refine vr_aload_n (pc := 50) 1 dX9_ring_50 rfl rfl ?_
        refine vr_iconst (pc := 51) 0 dX9_ring_51 ci_0 ?_
        refine vr_putI (pc := 52) 15 dX9_ring_52 fi_X9_166 (fw_8_15 _) hq0 (sh_8_15 hq0) ?_
        refine vr_iload_n (pc := 55) 0 dX9_ring_55 rfl rfl ?_
        have h := Option.some.inj h; subst h
        exact vr_iret (pc := 56) .int dX9_ring_56 rfl rfl rfl
      · rw [if_pos c5] at h
        refine vr_aload_n (pc := 33) 0 dX9_ring_33 rfl rfl ?_
        refine vr_bipush (pc := 34) (-3) dX9_ring_34 cb_m3 ?_
        obtain ⟨z8, hz9, h⟩ := ob_some h
        refine vr_callV (pc := 36) (ρ1 := (some (.int z8.1), z8.2)) [.int (-3)] dX9_ring_36 (s_X9_no l g (hq0) hz9) cw_X9_no ml_X9_104 hq0 rfl (by decide) (by decide) rfl rfl (Nat.le_of_ble_eq_true rfl) ?_
        have h := Option.some.inj h; subst h
        exact vr_iret (pc := 39) .int dX9_ring_39 rfl rfl rfl
    · rw [if_neg c2] at h
      refine vr_aload_n (pc := 18) 0 dX9_ring_18 rfl rfl ?_
      refine vr_bipush (pc := 19) (-6) dX9_ring_19 cb_m6 ?_
      obtain ⟨z10, hz11, h⟩ := ob_some h
      refine vr_callV (pc := 21) (ρ1 := (some (.int z10.1), z10.2)) [.int (-6)] dX9_ring_21 (s_X9_no l g (hq0) hz11) cw_X9_no ml_X9_104 hq0 rfl (by decide) (by decide) rfl rfl (Nat.le_of_ble_eq_true rfl) ?_
      have h := Option.some.inj h; subst h
      exact vr_iret (pc := 24) .int dX9_ring_24 rfl rfl rfl
  · rw [if_neg c1] at h
    refine vr_aload_n (pc := 5) 0 dX9_ring_5 rfl rfl ?_
    refine vr_bipush (pc := 6) (-4) dX9_ring_6 cb_m4 ?_
    obtain ⟨z12, hz13, h⟩ := ob_some h
    refine vr_callV (pc := 8) (ρ1 := (some (.int z12.1), z12.2)) [.int (-4)] dX9_ring_8 (s_X9_no l g (hq0) hz13) cw_X9_no ml_X9_104 hq0 rfl (by decide) (by decide) rfl rfl (Nat.le_of_ble_eq_true rfl) ?_
    have h := Option.some.inj h; subst h
    exact vr_iret (pc := 11) .int dX9_ring_11 rfl rfl rfl
theorem dX9_wheel_0 : decode cX9_wheel 0 = .ok (.iload_n 1, 1) := by decide +kernel
theorem dX9_wheel_1 : decode cX9_wheel 1 = .ok (.iconst 0, 1) := by decide +kernel
theorem dX9_wheel_2 : decode cX9_wheel 2 = .ok (.iconst 5, 1) := by decide +kernel
theorem dX9_wheel_3 : decode cX9_wheel 3 = .ok (.invokestatic 111, 3) := by decide +kernel
theorem dX9_wheel_6 : decode cX9_wheel 6 = .ok (.ifCond .ne 10, 3) := by decide +kernel
theorem dX9_wheel_9 : decode cX9_wheel 9 = .ok (.aload_n 0, 1) := by decide +kernel
theorem dX9_wheel_10 : decode cX9_wheel 10 = .ok (.bipush (-2), 2) := by decide +kernel
theorem dX9_wheel_12 : decode cX9_wheel 12 = .ok (.invokevirtual 104, 3) := by decide +kernel
theorem dX9_wheel_15 : decode cX9_wheel 15 = .ok (.ireturn, 1) := by decide +kernel
theorem dX9_wheel_16 : decode cX9_wheel 16 = .ok (.iload_n 2, 1) := by decide +kernel
theorem dX9_wheel_17 : decode cX9_wheel 17 = .ok (.iconst 1, 1) := by decide +kernel
theorem dX9_wheel_18 : decode cX9_wheel 18 = .ok (.if_icmp .lt 13, 3) := by decide +kernel
theorem dX9_wheel_21 : decode cX9_wheel 21 = .ok (.iload_n 3, 1) := by decide +kernel
theorem dX9_wheel_22 : decode cX9_wheel 22 = .ok (.ifCond .lt 9, 3) := by decide +kernel
theorem dX9_wheel_25 : decode cX9_wheel 25 = .ok (.iload 5, 2) := by decide +kernel
theorem dX9_wheel_27 : decode cX9_wheel 27 = .ok (.iconst 1, 1) := by decide +kernel
theorem dX9_wheel_28 : decode cX9_wheel 28 = .ok (.if_icmp .ge 10, 3) := by decide +kernel
theorem dX9_wheel_31 : decode cX9_wheel 31 = .ok (.aload_n 0, 1) := by decide +kernel
theorem dX9_wheel_32 : decode cX9_wheel 32 = .ok (.bipush (-4), 2) := by decide +kernel
theorem dX9_wheel_34 : decode cX9_wheel 34 = .ok (.invokevirtual 104, 3) := by decide +kernel
theorem dX9_wheel_37 : decode cX9_wheel 37 = .ok (.ireturn, 1) := by decide +kernel
theorem dX9_wheel_38 : decode cX9_wheel 38 = .ok (.iload_n 2, 1) := by decide +kernel
theorem dX9_wheel_39 : decode cX9_wheel 39 = .ok (.aload_n 0, 1) := by decide +kernel
theorem dX9_wheel_40 : decode cX9_wheel 40 = .ok (.getfield 7, 3) := by decide +kernel
theorem dX9_wheel_43 : decode cX9_wheel 43 = .ok (.iconst 1, 1) := by decide +kernel
theorem dX9_wheel_44 : decode cX9_wheel 44 = .ok (.isub, 1) := by decide +kernel
theorem dX9_wheel_45 : decode cX9_wheel 45 = .ok (.if_icmp .gt 25, 3) := by decide +kernel
theorem dX9_wheel_48 : decode cX9_wheel 48 = .ok (.iload_n 3, 1) := by decide +kernel
theorem dX9_wheel_49 : decode cX9_wheel 49 = .ok (.bipush 9, 2) := by decide +kernel
theorem dX9_wheel_51 : decode cX9_wheel 51 = .ok (.if_icmp .gt 19, 3) := by decide +kernel
theorem dX9_wheel_54 : decode cX9_wheel 54 = .ok (.iload 5, 2) := by decide +kernel
theorem dX9_wheel_56 : decode cX9_wheel 56 = .ok (.bipush 9, 2) := by decide +kernel
theorem dX9_wheel_58 : decode cX9_wheel 58 = .ok (.if_icmp .gt 12, 3) := by decide +kernel
theorem dX9_wheel_61 : decode cX9_wheel 61 = .ok (.aload_n 0, 1) := by decide +kernel
theorem dX9_wheel_62 : decode cX9_wheel 62 = .ok (.getfield 108, 3) := by decide +kernel
theorem dX9_wheel_65 : decode cX9_wheel 65 = .ok (.bipush 6, 2) := by decide +kernel
theorem dX9_wheel_67 : decode cX9_wheel 67 = .ok (.if_icmp .ne 10, 3) := by decide +kernel
theorem dX9_wheel_70 : decode cX9_wheel 70 = .ok (.aload_n 0, 1) := by decide +kernel
theorem dX9_wheel_71 : decode cX9_wheel 71 = .ok (.bipush (-6), 2) := by decide +kernel
theorem dX9_wheel_73 : decode cX9_wheel 73 = .ok (.invokevirtual 104, 3) := by decide +kernel
theorem dX9_wheel_76 : decode cX9_wheel 76 = .ok (.ireturn, 1) := by decide +kernel
theorem dX9_wheel_77 : decode cX9_wheel 77 = .ok (.aload_n 0, 1) := by decide +kernel
theorem dX9_wheel_78 : decode cX9_wheel 78 = .ok (.iload 4, 2) := by decide +kernel
theorem dX9_wheel_80 : decode cX9_wheel 80 = .ok (.invokevirtual 169, 3) := by decide +kernel
theorem dX9_wheel_83 : decode cX9_wheel 83 = .ok (.ifCond .ne 9, 3) := by decide +kernel
theorem dX9_wheel_86 : decode cX9_wheel 86 = .ok (.aload_n 0, 1) := by decide +kernel
theorem dX9_wheel_87 : decode cX9_wheel 87 = .ok (.iconst (-1), 1) := by decide +kernel
theorem dX9_wheel_88 : decode cX9_wheel 88 = .ok (.invokevirtual 104, 3) := by decide +kernel
theorem dX9_wheel_91 : decode cX9_wheel 91 = .ok (.ireturn, 1) := by decide +kernel
theorem dX9_wheel_92 : decode cX9_wheel 92 = .ok (.aload_n 0, 1) := by decide +kernel
theorem dX9_wheel_93 : decode cX9_wheel 93 = .ok (.iload_n 1, 1) := by decide +kernel
theorem dX9_wheel_94 : decode cX9_wheel 94 = .ok (.iload_n 2, 1) := by decide +kernel
theorem dX9_wheel_95 : decode cX9_wheel 95 = .ok (.iload_n 3, 1) := by decide +kernel
theorem dX9_wheel_96 : decode cX9_wheel 96 = .ok (.iload 4, 2) := by decide +kernel
theorem dX9_wheel_98 : decode cX9_wheel 98 = .ok (.iload 5, 2) := by decide +kernel
theorem dX9_wheel_100 : decode cX9_wheel 100 = .ok (.invokevirtual 144, 3) := by decide +kernel
theorem dX9_wheel_103 : decode cX9_wheel 103 = .ok (.aload_n 0, 1) := by decide +kernel
theorem dX9_wheel_104 : decode cX9_wheel 104 = .ok (.iconst 0, 1) := by decide +kernel
theorem dX9_wheel_105 : decode cX9_wheel 105 = .ok (.putfield 166, 3) := by decide +kernel
theorem dX9_wheel_108 : decode cX9_wheel 108 = .ok (.aload_n 0, 1) := by decide +kernel
theorem dX9_wheel_109 : decode cX9_wheel 109 = .ok (.getfield 108, 3) := by decide +kernel
theorem dX9_wheel_112 : decode cX9_wheel 112 = .ok (.iconst 1, 1) := by decide +kernel
theorem dX9_wheel_113 : decode cX9_wheel 113 = .ok (.isub, 1) := by decide +kernel
theorem dX9_wheel_114 : decode cX9_wheel 114 = .ok (.ireturn, 1) := by decide +kernel
set_option maxRecDepth 20000 in
set_option maxHeartbeats 4000000 in
theorem s_X9_wheel (l : Launch) (g : GG) {q0 : Nat} (hq0 : kd q0 = 8) {a1 : Int32} {a2 : Int32} {a3 : Int32} {a4 : Int32} {a5 : Int32} {σ : SS} {r : Int32 × SS} (h : f_X9_wheel q0 a1 a2 a3 a4 a5 σ = some r) : CT l g 2 yX9_wheel cX9_wheel 6 (some .int) [.ref (g.1 q0), .int a1, .int a2, .int a3, .int a4, .int a5] σ (some (.int r.1), r.2) := by
  refine CT.of (lv := [(0, .ref (g.1 q0)), (1, .int a1), (2, .int a2), (3, .int a3), (4, .int a4), (5, .int a5)]) RX9 (by decide +kernel) rfl (Nat.le_of_ble_eq_true rfl) rfl ?_
  unfold f_X9_wheel at h
  refine vr_iload_n (pc := 0) 1 dX9_wheel_0 rfl rfl ?_
  refine vr_iconst (pc := 1) 0 dX9_wheel_1 ci_0 ?_
  refine vr_iconst (pc := 2) 5 dX9_wheel_2 ci_5 ?_
  refine vr_callS (pc := 3) (ρ1 := (some (.int (f_X9_within a1 0 5)), σ)) [.int a1, .int 0, .int 5] dX9_wheel_3 (s_X9_within l g rfl) cw_X9_within ml_X9_111 (by decide) rfl rfl (Nat.le_of_ble_eq_true rfl) ?_
  refine vr_if_ne (pc := 6) 16 dX9_wheel_6 (by decide) (fun c1 => ?_) (fun c1 => ?_)
  · rw [if_neg c1] at h
    refine vr_iload_n (pc := 16) 2 dX9_wheel_16 rfl rfl ?_
    refine vr_iconst (pc := 17) 1 dX9_wheel_17 ci_1 ?_
    refine vr_icmp_lt (pc := 18) 31 dX9_wheel_18 (by decide) (fun c2 => ?_) (fun c2 => ?_)
    · rw [if_pos c2] at h
      refine vr_aload_n (pc := 31) 0 dX9_wheel_31 rfl rfl ?_
      refine vr_bipush (pc := 32) (-4) dX9_wheel_32 cb_m4 ?_
      obtain ⟨z3, hz4, h⟩ := ob_some h
      refine vr_callV (pc := 34) (ρ1 := (some (.int z3.1), z3.2)) [.int (-4)] dX9_wheel_34 (s_X9_no l g (hq0) hz4) cw_X9_no ml_X9_104 hq0 rfl (by decide) (by decide) rfl rfl (Nat.le_of_ble_eq_true rfl) ?_
      have h := Option.some.inj h; subst h
      exact vr_iret (pc := 37) .int dX9_wheel_37 rfl rfl rfl
    · rw [if_neg c2] at h
      refine vr_iload_n (pc := 21) 3 dX9_wheel_21 rfl rfl ?_
      refine vr_if_lt (pc := 22) 31 dX9_wheel_22 (by decide) (fun c5 => ?_) (fun c5 => ?_)
      · rw [if_pos c5] at h
        refine vr_aload_n (pc := 31) 0 dX9_wheel_31 rfl rfl ?_
        refine vr_bipush (pc := 32) (-4) dX9_wheel_32 cb_m4 ?_
        obtain ⟨z6, hz7, h⟩ := ob_some h
        refine vr_callV (pc := 34) (ρ1 := (some (.int z6.1), z6.2)) [.int (-4)] dX9_wheel_34 (s_X9_no l g (hq0) hz7) cw_X9_no ml_X9_104 hq0 rfl (by decide) (by decide) rfl rfl (Nat.le_of_ble_eq_true rfl) ?_
        have h := Option.some.inj h; subst h
        exact vr_iret (pc := 37) .int dX9_wheel_37 rfl rfl rfl
      · rw [if_neg c5] at h
        refine vr_iload (pc := 25) 5 dX9_wheel_25 rfl ?_
        refine vr_iconst (pc := 27) 1 dX9_wheel_27 ci_1 ?_
        refine vr_icmp_ge (pc := 28) 38 dX9_wheel_28 (by decide) (fun c8 => ?_) (fun c8 => ?_)
        · rw [if_pos c8] at h
          refine vr_iload_n (pc := 38) 2 dX9_wheel_38 rfl rfl ?_
          refine vr_aload_n (pc := 39) 0 dX9_wheel_39 rfl rfl ?_
          refine vr_getI (pc := 40) 0 dX9_wheel_40 fi_X9_7 hq0 (sh_8_0 hq0) ?_
          refine vr_iconst (pc := 43) 1 dX9_wheel_43 ci_1 ?_
          refine vr_isub (pc := 44) dX9_wheel_44 ?_
          refine vr_icmp_gt (pc := 45) 70 dX9_wheel_45 (by decide) (fun c9 => ?_) (fun c9 => ?_)
          · rw [if_pos c9] at h
            refine vr_aload_n (pc := 70) 0 dX9_wheel_70 rfl rfl ?_
            refine vr_bipush (pc := 71) (-6) dX9_wheel_71 cb_m6 ?_
            obtain ⟨z10, hz11, h⟩ := ob_some h
            refine vr_callV (pc := 73) (ρ1 := (some (.int z10.1), z10.2)) [.int (-6)] dX9_wheel_73 (s_X9_no l g (hq0) hz11) cw_X9_no ml_X9_104 hq0 rfl (by decide) (by decide) rfl rfl (Nat.le_of_ble_eq_true rfl) ?_
            have h := Option.some.inj h; subst h
            exact vr_iret (pc := 76) .int dX9_wheel_76 rfl rfl rfl
          · rw [if_neg c9] at h
            refine vr_iload_n (pc := 48) 3 dX9_wheel_48 rfl rfl ?_
            refine vr_bipush (pc := 49) 9 dX9_wheel_49 cb_9 ?_
            refine vr_icmp_gt (pc := 51) 70 dX9_wheel_51 (by decide) (fun c12 => ?_) (fun c12 => ?_)
            · rw [if_pos c12] at h
              refine vr_aload_n (pc := 70) 0 dX9_wheel_70 rfl rfl ?_
              refine vr_bipush (pc := 71) (-6) dX9_wheel_71 cb_m6 ?_
              obtain ⟨z13, hz14, h⟩ := ob_some h
              refine vr_callV (pc := 73) (ρ1 := (some (.int z13.1), z13.2)) [.int (-6)] dX9_wheel_73 (s_X9_no l g (hq0) hz14) cw_X9_no ml_X9_104 hq0 rfl (by decide) (by decide) rfl rfl (Nat.le_of_ble_eq_true rfl) ?_
              have h := Option.some.inj h; subst h
              exact vr_iret (pc := 76) .int dX9_wheel_76 rfl rfl rfl
            · rw [if_neg c12] at h
              refine vr_iload (pc := 54) 5 dX9_wheel_54 rfl ?_
              refine vr_bipush (pc := 56) 9 dX9_wheel_56 cb_9 ?_
              refine vr_icmp_gt (pc := 58) 70 dX9_wheel_58 (by decide) (fun c15 => ?_) (fun c15 => ?_)
              · rw [if_pos c15] at h
                refine vr_aload_n (pc := 70) 0 dX9_wheel_70 rfl rfl ?_
                refine vr_bipush (pc := 71) (-6) dX9_wheel_71 cb_m6 ?_
                obtain ⟨z16, hz17, h⟩ := ob_some h
                refine vr_callV (pc := 73) (ρ1 := (some (.int z16.1), z16.2)) [.int (-6)] dX9_wheel_73 (s_X9_no l g (hq0) hz17) cw_X9_no ml_X9_104 hq0 rfl (by decide) (by decide) rfl rfl (Nat.le_of_ble_eq_true rfl) ?_
                have h := Option.some.inj h; subst h
                exact vr_iret (pc := 76) .int dX9_wheel_76 rfl rfl rfl
              · rw [if_neg c15] at h
                refine vr_aload_n (pc := 61) 0 dX9_wheel_61 rfl rfl ?_
                refine vr_getI (pc := 62) 3 dX9_wheel_62 fi_X9_108 hq0 (sh_8_3 hq0) ?_
                refine vr_bipush (pc := 65) 6 dX9_wheel_65 cb_6 ?_
                refine vr_icmp_ne (pc := 67) 77 dX9_wheel_67 (by decide) (fun c18 => ?_) (fun c18 => ?_)
                · rw [if_neg c18] at h
                  refine vr_aload_n (pc := 77) 0 dX9_wheel_77 rfl rfl ?_
                  refine vr_iload (pc := 78) 4 dX9_wheel_78 rfl ?_
                  refine vr_callV (pc := 80) (ρ1 := (some (.int (f_X9_isTooth q0 a4 σ)), σ)) [.int a4] dX9_wheel_80 (s_X9_isTooth l g (hq0) rfl) cw_X9_isTooth ml_X9_169 hq0 rfl (by decide) (by decide) rfl rfl (Nat.le_of_ble_eq_true rfl) ?_
                  refine vr_if_ne (pc := 83) 92 dX9_wheel_83 (by decide) (fun c19 => ?_) (fun c19 => ?_)
                  · rw [if_neg c19] at h
                    refine vr_aload_n (pc := 92) 0 dX9_wheel_92 rfl rfl ?_
                    refine vr_iload_n (pc := 93) 1 dX9_wheel_93 rfl rfl ?_
                    refine vr_iload_n (pc := 94) 2 dX9_wheel_94 rfl rfl ?_
                    refine vr_iload_n (pc := 95) 3 dX9_wheel_95 rfl rfl ?_
                    refine vr_iload (pc := 96) 4 dX9_wheel_96 rfl ?_
                    refine vr_iload (pc := 98) 5 dX9_wheel_98 rfl ?_
                    obtain ⟨z20, hz21, h⟩ := ob_some h
                    refine vr_callV (pc := 100) (ρ1 := (none, z20)) [.int a1, .int a2, .int a3, .int a4, .int a5] dX9_wheel_100 (s_X9_comes l g (hq0) hz21) cw_X9_comes ml_X9_144 hq0 rfl (by decide) (by decide) rfl rfl (Nat.le_of_ble_eq_true rfl) ?_
                    refine vr_aload_n (pc := 103) 0 dX9_wheel_103 rfl rfl ?_
                    refine vr_iconst (pc := 104) 0 dX9_wheel_104 ci_0 ?_
                    refine vr_putI (pc := 105) 15 dX9_wheel_105 fi_X9_166 (fw_8_15 _) hq0 (sh_8_15 hq0) ?_
                    refine vr_aload_n (pc := 108) 0 dX9_wheel_108 rfl rfl ?_
                    refine vr_getI (pc := 109) 3 dX9_wheel_109 fi_X9_108 hq0 (sh_8_3 hq0) ?_
                    refine vr_iconst (pc := 112) 1 dX9_wheel_112 ci_1 ?_
                    refine vr_isub (pc := 113) dX9_wheel_113 ?_
                    have h := Option.some.inj h; subst h
                    exact vr_iret (pc := 114) .int dX9_wheel_114 rfl rfl rfl
                  · rw [if_pos c19] at h
                    refine vr_aload_n (pc := 86) 0 dX9_wheel_86 rfl rfl ?_
                    refine vr_iconst (pc := 87) (-1) dX9_wheel_87 ci_m1 ?_
                    obtain ⟨z22, hz23, h⟩ := ob_some h
                    refine vr_callV (pc := 88) (ρ1 := (some (.int z22.1), z22.2)) [.int (-1)] dX9_wheel_88 (s_X9_no l g (hq0) hz23) cw_X9_no ml_X9_104 hq0 rfl (by decide) (by decide) rfl rfl (Nat.le_of_ble_eq_true rfl) ?_
                    have h := Option.some.inj h; subst h
                    exact vr_iret (pc := 91) .int dX9_wheel_91 rfl rfl rfl
                · rw [if_pos c18] at h
                  refine vr_aload_n (pc := 70) 0 dX9_wheel_70 rfl rfl ?_
                  refine vr_bipush (pc := 71) (-6) dX9_wheel_71 cb_m6 ?_
                  obtain ⟨z24, hz25, h⟩ := ob_some h
                  refine vr_callV (pc := 73) (ρ1 := (some (.int z24.1), z24.2)) [.int (-6)] dX9_wheel_73 (s_X9_no l g (hq0) hz25) cw_X9_no ml_X9_104 hq0 rfl (by decide) (by decide) rfl rfl (Nat.le_of_ble_eq_true rfl) ?_
                  have h := Option.some.inj h; subst h
                  exact vr_iret (pc := 76) .int dX9_wheel_76 rfl rfl rfl
        · rw [if_neg c8] at h
          refine vr_aload_n (pc := 31) 0 dX9_wheel_31 rfl rfl ?_
          refine vr_bipush (pc := 32) (-4) dX9_wheel_32 cb_m4 ?_
          obtain ⟨z26, hz27, h⟩ := ob_some h
          refine vr_callV (pc := 34) (ρ1 := (some (.int z26.1), z26.2)) [.int (-4)] dX9_wheel_34 (s_X9_no l g (hq0) hz27) cw_X9_no ml_X9_104 hq0 rfl (by decide) (by decide) rfl rfl (Nat.le_of_ble_eq_true rfl) ?_
          have h := Option.some.inj h; subst h
          exact vr_iret (pc := 37) .int dX9_wheel_37 rfl rfl rfl
  · rw [if_pos c1] at h
    refine vr_aload_n (pc := 9) 0 dX9_wheel_9 rfl rfl ?_
    refine vr_bipush (pc := 10) (-2) dX9_wheel_10 cb_m2 ?_
    obtain ⟨z28, hz29, h⟩ := ob_some h
    refine vr_callV (pc := 12) (ρ1 := (some (.int z28.1), z28.2)) [.int (-2)] dX9_wheel_12 (s_X9_no l g (hq0) hz29) cw_X9_no ml_X9_104 hq0 rfl (by decide) (by decide) rfl rfl (Nat.le_of_ble_eq_true rfl) ?_
    have h := Option.some.inj h; subst h
    exact vr_iret (pc := 15) .int dX9_wheel_15 rfl rfl rfl
theorem dX9_sideOf_0 : decode cX9_sideOf 0 = .ok (.iload_n 0, 1) := by decide +kernel
theorem dX9_sideOf_1 : decode cX9_sideOf 1 = .ok (.ifCond .eq 13, 3) := by decide +kernel
theorem dX9_sideOf_4 : decode cX9_sideOf 4 = .ok (.iload_n 0, 1) := by decide +kernel
theorem dX9_sideOf_5 : decode cX9_sideOf 5 = .ok (.iconst 2, 1) := by decide +kernel
theorem dX9_sideOf_6 : decode cX9_sideOf 6 = .ok (.if_icmp .eq 8, 3) := by decide +kernel
theorem dX9_sideOf_9 : decode cX9_sideOf 9 = .ok (.iload_n 0, 1) := by decide +kernel
theorem dX9_sideOf_10 : decode cX9_sideOf 10 = .ok (.iconst 4, 1) := by decide +kernel
theorem dX9_sideOf_11 : decode cX9_sideOf 11 = .ok (.if_icmp .ne 7, 3) := by decide +kernel
theorem dX9_sideOf_14 : decode cX9_sideOf 14 = .ok (.iconst 0, 1) := by decide +kernel
theorem dX9_sideOf_15 : decode cX9_sideOf 15 = .ok (.goto 4, 3) := by decide +kernel
theorem dX9_sideOf_18 : decode cX9_sideOf 18 = .ok (.iconst 1, 1) := by decide +kernel
theorem dX9_sideOf_19 : decode cX9_sideOf 19 = .ok (.ireturn, 1) := by decide +kernel
set_option maxRecDepth 20000 in
set_option maxHeartbeats 4000000 in
theorem s_X9_sideOf (l : Launch) (g : GG) {a0 : Int32} {σ : SS} {r : Int32} (h : f_X9_sideOf a0 = r) : CT l g 0 yX9_sideOf cX9_sideOf 1 (some .int) [.int a0] σ (some (.int r), σ) := by
  refine CT.of (lv := [(0, .int a0)]) RX9 (by decide +kernel) rfl (Nat.le_of_ble_eq_true rfl) rfl ?_
  unfold f_X9_sideOf at h
  refine vr_iload_n (pc := 0) 0 dX9_sideOf_0 rfl rfl ?_
  refine vr_if_eq (pc := 1) 14 dX9_sideOf_1 (by decide) (fun c1 => ?_) (fun c1 => ?_)
  · rw [if_pos c1] at h
    refine vr_iconst (pc := 14) 0 dX9_sideOf_14 ci_0 ?_
    refine vr_goto (pc := 15) 19 dX9_sideOf_15 (by decide) ?_
    subst h
    exact vr_iret (pc := 19) .int dX9_sideOf_19 rfl rfl rfl
  · rw [if_neg c1] at h
    refine vr_iload_n (pc := 4) 0 dX9_sideOf_4 rfl rfl ?_
    refine vr_iconst (pc := 5) 2 dX9_sideOf_5 ci_2 ?_
    refine vr_icmp_eq (pc := 6) 14 dX9_sideOf_6 (by decide) (fun c2 => ?_) (fun c2 => ?_)
    · rw [if_pos c2] at h
      refine vr_iconst (pc := 14) 0 dX9_sideOf_14 ci_0 ?_
      refine vr_goto (pc := 15) 19 dX9_sideOf_15 (by decide) ?_
      subst h
      exact vr_iret (pc := 19) .int dX9_sideOf_19 rfl rfl rfl
    · rw [if_neg c2] at h
      refine vr_iload_n (pc := 9) 0 dX9_sideOf_9 rfl rfl ?_
      refine vr_iconst (pc := 10) 4 dX9_sideOf_10 ci_4 ?_
      refine vr_icmp_ne (pc := 11) 18 dX9_sideOf_11 (by decide) (fun c3 => ?_) (fun c3 => ?_)
      · rw [if_neg c3] at h
        refine vr_iconst (pc := 18) 1 dX9_sideOf_18 ci_1 ?_
        subst h
        exact vr_iret (pc := 19) .int dX9_sideOf_19 rfl rfl rfl
      · rw [if_pos c3] at h
        refine vr_iconst (pc := 14) 0 dX9_sideOf_14 ci_0 ?_
        refine vr_goto (pc := 15) 19 dX9_sideOf_15 (by decide) ?_
        subst h
        exact vr_iret (pc := 19) .int dX9_sideOf_19 rfl rfl rfl
theorem dX9_of_0 : decode cX9_of 0 = .ok (.aload_n 0, 1) := by decide +kernel
theorem dX9_of_1 : decode cX9_of 1 = .ok (.iload_n 1, 1) := by decide +kernel
theorem dX9_of_2 : decode cX9_of 2 = .ok (.invokevirtual 176, 3) := by decide +kernel
theorem dX9_of_5 : decode cX9_of 5 = .ok (.ifCond .ne 9, 3) := by decide +kernel
theorem dX9_of_8 : decode cX9_of 8 = .ok (.aload_n 0, 1) := by decide +kernel
theorem dX9_of_9 : decode cX9_of 9 = .ok (.iconst (-1), 1) := by decide +kernel
theorem dX9_of_10 : decode cX9_of 10 = .ok (.invokevirtual 104, 3) := by decide +kernel
theorem dX9_of_13 : decode cX9_of 13 = .ok (.ireturn, 1) := by decide +kernel
theorem dX9_of_14 : decode cX9_of 14 = .ok (.iload_n 2, 1) := by decide +kernel
theorem dX9_of_15 : decode cX9_of 15 = .ok (.tableswitch 109 0 7 #[45, 52, 59, 66, 73, 80, 87, 97], 45) := by decide +kernel
theorem dX9_of_60 : decode cX9_of 60 = .ok (.aload_n 0, 1) := by decide +kernel
theorem dX9_of_61 : decode cX9_of 61 = .ok (.getfield 20, 3) := by decide +kernel
theorem dX9_of_64 : decode cX9_of 64 = .ok (.iload_n 1, 1) := by decide +kernel
theorem dX9_of_65 : decode cX9_of 65 = .ok (.iaload, 1) := by decide +kernel
theorem dX9_of_66 : decode cX9_of 66 = .ok (.ireturn, 1) := by decide +kernel
theorem dX9_of_67 : decode cX9_of 67 = .ok (.aload_n 0, 1) := by decide +kernel
theorem dX9_of_68 : decode cX9_of 68 = .ok (.getfield 23, 3) := by decide +kernel
theorem dX9_of_71 : decode cX9_of 71 = .ok (.iload_n 1, 1) := by decide +kernel
theorem dX9_of_72 : decode cX9_of 72 = .ok (.iaload, 1) := by decide +kernel
theorem dX9_of_73 : decode cX9_of 73 = .ok (.ireturn, 1) := by decide +kernel
theorem dX9_of_74 : decode cX9_of 74 = .ok (.aload_n 0, 1) := by decide +kernel
theorem dX9_of_75 : decode cX9_of 75 = .ok (.getfield 26, 3) := by decide +kernel
theorem dX9_of_78 : decode cX9_of 78 = .ok (.iload_n 1, 1) := by decide +kernel
theorem dX9_of_79 : decode cX9_of 79 = .ok (.iaload, 1) := by decide +kernel
theorem dX9_of_80 : decode cX9_of 80 = .ok (.ireturn, 1) := by decide +kernel
theorem dX9_of_81 : decode cX9_of 81 = .ok (.aload_n 0, 1) := by decide +kernel
theorem dX9_of_82 : decode cX9_of 82 = .ok (.getfield 29, 3) := by decide +kernel
theorem dX9_of_85 : decode cX9_of 85 = .ok (.iload_n 1, 1) := by decide +kernel
theorem dX9_of_86 : decode cX9_of 86 = .ok (.iaload, 1) := by decide +kernel
theorem dX9_of_87 : decode cX9_of 87 = .ok (.ireturn, 1) := by decide +kernel
theorem dX9_of_88 : decode cX9_of 88 = .ok (.aload_n 0, 1) := by decide +kernel
theorem dX9_of_89 : decode cX9_of 89 = .ok (.getfield 32, 3) := by decide +kernel
theorem dX9_of_92 : decode cX9_of 92 = .ok (.iload_n 1, 1) := by decide +kernel
theorem dX9_of_93 : decode cX9_of 93 = .ok (.iaload, 1) := by decide +kernel
theorem dX9_of_94 : decode cX9_of 94 = .ok (.ireturn, 1) := by decide +kernel
theorem dX9_of_95 : decode cX9_of 95 = .ok (.aload_n 0, 1) := by decide +kernel
theorem dX9_of_96 : decode cX9_of 96 = .ok (.getfield 35, 3) := by decide +kernel
theorem dX9_of_99 : decode cX9_of 99 = .ok (.iload_n 1, 1) := by decide +kernel
theorem dX9_of_100 : decode cX9_of 100 = .ok (.iaload, 1) := by decide +kernel
theorem dX9_of_101 : decode cX9_of 101 = .ok (.ireturn, 1) := by decide +kernel
theorem dX9_of_102 : decode cX9_of 102 = .ok (.aload_n 0, 1) := by decide +kernel
theorem dX9_of_103 : decode cX9_of 103 = .ok (.getfield 20, 3) := by decide +kernel
theorem dX9_of_106 : decode cX9_of 106 = .ok (.iload_n 1, 1) := by decide +kernel
theorem dX9_of_107 : decode cX9_of 107 = .ok (.iaload, 1) := by decide +kernel
theorem dX9_of_108 : decode cX9_of 108 = .ok (.invokestatic 179, 3) := by decide +kernel
theorem dX9_of_111 : decode cX9_of 111 = .ok (.ireturn, 1) := by decide +kernel
theorem dX9_of_112 : decode cX9_of 112 = .ok (.aload_n 0, 1) := by decide +kernel
theorem dX9_of_113 : decode cX9_of 113 = .ok (.iload_n 1, 1) := by decide +kernel
theorem dX9_of_114 : decode cX9_of 114 = .ok (.aload_n 0, 1) := by decide +kernel
theorem dX9_of_115 : decode cX9_of 115 = .ok (.getfield 32, 3) := by decide +kernel
theorem dX9_of_118 : decode cX9_of 118 = .ok (.iload_n 1, 1) := by decide +kernel
theorem dX9_of_119 : decode cX9_of 119 = .ok (.iaload, 1) := by decide +kernel
theorem dX9_of_120 : decode cX9_of 120 = .ok (.invokevirtual 124, 3) := by decide +kernel
theorem dX9_of_123 : decode cX9_of 123 = .ok (.ireturn, 1) := by decide +kernel
theorem dX9_of_124 : decode cX9_of 124 = .ok (.aload_n 0, 1) := by decide +kernel
theorem dX9_of_125 : decode cX9_of 125 = .ok (.bipush (-2), 2) := by decide +kernel
theorem dX9_of_127 : decode cX9_of 127 = .ok (.invokevirtual 104, 3) := by decide +kernel
theorem dX9_of_130 : decode cX9_of 130 = .ok (.ireturn, 1) := by decide +kernel
set_option maxRecDepth 20000 in
set_option maxHeartbeats 4000000 in
theorem s_X9_of (l : Launch) (g : GG) {q0 : Nat} (hq0 : kd q0 = 8) {a1 : Int32} {a2 : Int32} {σ : SS} {r : Int32 × SS} (h : f_X9_of q0 a1 a2 σ = some r) : CT l g 3 yX9_of cX9_of 3 (some .int) [.ref (g.1 q0), .int a1, .int a2] σ (some (.int r.1), r.2) := by
  refine CT.of (lv := [(0, .ref (g.1 q0)), (1, .int a1), (2, .int a2)]) RX9 (by decide +kernel) rfl (Nat.le_of_ble_eq_true rfl) rfl ?_
  unfold f_X9_of at h
  refine vr_aload_n (pc := 0) 0 dX9_of_0 rfl rfl ?_
  refine vr_iload_n (pc := 1) 1 dX9_of_1 rfl rfl ?_
  refine vr_callV (pc := 2) (ρ1 := (some (.int (f_X9_isWheel q0 a1 σ)), σ)) [.int a1] dX9_of_2 (s_X9_isWheel l g (hq0) rfl) cw_X9_isWheel ml_X9_176 hq0 rfl (by decide) (by decide) rfl rfl (Nat.le_of_ble_eq_true rfl) ?_
  refine vr_if_ne (pc := 5) 14 dX9_of_5 (by decide) (fun c1 => ?_) (fun c1 => ?_)
  · rw [if_neg c1] at h
    refine vr_iload_n (pc := 14) 2 dX9_of_14 rfl rfl ?_
    by_cases c2 : a2 = 0
    · rw [if_pos c2] at h
      refine vr_tableIn (pc := 15) 45 60 dX9_of_15 (by rw [c2]; decide) (by rw [c2]; decide) (by rw [c2]; rfl) (by decide) ?_
      refine vr_aload_n (pc := 60) 0 dX9_of_60 rfl rfl ?_
      refine vr_getR (pc := 61) 4 dX9_of_61 fi_X9_20 hq0 (sh_8_4 hq0).1 ?_
      refine vr_iload_n (pc := 64) 1 dX9_of_64 rfl rfl ?_
      obtain ⟨hc3, h⟩ := ck_some h
      refine vr_iald (pc := 65) dX9_of_65 (sh_8_4 hq0).2 hc3 ?_
      have h := Option.some.inj h; subst h
      exact vr_iret (pc := 66) .int dX9_of_66 rfl rfl rfl
    · rw [if_neg c2] at h
      by_cases c4 : a2 = 1
      · rw [if_pos c4] at h
        refine vr_tableIn (pc := 15) 52 67 dX9_of_15 (by rw [c4]; decide) (by rw [c4]; decide) (by rw [c4]; rfl) (by decide) ?_
        refine vr_aload_n (pc := 67) 0 dX9_of_67 rfl rfl ?_
        refine vr_getR (pc := 68) 5 dX9_of_68 fi_X9_23 hq0 (sh_8_5 hq0).1 ?_
        refine vr_iload_n (pc := 71) 1 dX9_of_71 rfl rfl ?_
        obtain ⟨hc5, h⟩ := ck_some h
        refine vr_iald (pc := 72) dX9_of_72 (sh_8_5 hq0).2 hc5 ?_
        have h := Option.some.inj h; subst h
        exact vr_iret (pc := 73) .int dX9_of_73 rfl rfl rfl
      · rw [if_neg c4] at h
        by_cases c6 : a2 = 2
        · rw [if_pos c6] at h
          refine vr_tableIn (pc := 15) 59 74 dX9_of_15 (by rw [c6]; decide) (by rw [c6]; decide) (by rw [c6]; rfl) (by decide) ?_
          refine vr_aload_n (pc := 74) 0 dX9_of_74 rfl rfl ?_
          refine vr_getR (pc := 75) 6 dX9_of_75 fi_X9_26 hq0 (sh_8_6 hq0).1 ?_
          refine vr_iload_n (pc := 78) 1 dX9_of_78 rfl rfl ?_
          obtain ⟨hc7, h⟩ := ck_some h
          refine vr_iald (pc := 79) dX9_of_79 (sh_8_6 hq0).2 hc7 ?_
          have h := Option.some.inj h; subst h
          exact vr_iret (pc := 80) .int dX9_of_80 rfl rfl rfl
        · rw [if_neg c6] at h
          by_cases c8 : a2 = 3
          · rw [if_pos c8] at h
            refine vr_tableIn (pc := 15) 66 81 dX9_of_15 (by rw [c8]; decide) (by rw [c8]; decide) (by rw [c8]; rfl) (by decide) ?_
            refine vr_aload_n (pc := 81) 0 dX9_of_81 rfl rfl ?_
            refine vr_getR (pc := 82) 7 dX9_of_82 fi_X9_29 hq0 (sh_8_7 hq0).1 ?_
            refine vr_iload_n (pc := 85) 1 dX9_of_85 rfl rfl ?_
            obtain ⟨hc9, h⟩ := ck_some h
            refine vr_iald (pc := 86) dX9_of_86 (sh_8_7 hq0).2 hc9 ?_
            have h := Option.some.inj h; subst h
            exact vr_iret (pc := 87) .int dX9_of_87 rfl rfl rfl
          · rw [if_neg c8] at h
            by_cases c10 : a2 = 4
            · rw [if_pos c10] at h
              refine vr_tableIn (pc := 15) 73 88 dX9_of_15 (by rw [c10]; decide) (by rw [c10]; decide) (by rw [c10]; rfl) (by decide) ?_
              refine vr_aload_n (pc := 88) 0 dX9_of_88 rfl rfl ?_
              refine vr_getR (pc := 89) 8 dX9_of_89 fi_X9_32 hq0 (sh_8_8 hq0).1 ?_
              refine vr_iload_n (pc := 92) 1 dX9_of_92 rfl rfl ?_
              obtain ⟨hc11, h⟩ := ck_some h
              refine vr_iald (pc := 93) dX9_of_93 (sh_8_8 hq0).2 hc11 ?_
              have h := Option.some.inj h; subst h
              exact vr_iret (pc := 94) .int dX9_of_94 rfl rfl rfl
            · rw [if_neg c10] at h
              by_cases c12 : a2 = 5
              · rw [if_pos c12] at h
                refine vr_tableIn (pc := 15) 80 95 dX9_of_15 (by rw [c12]; decide) (by rw [c12]; decide) (by rw [c12]; rfl) (by decide) ?_
                refine vr_aload_n (pc := 95) 0 dX9_of_95 rfl rfl ?_
                refine vr_getR (pc := 96) 9 dX9_of_96 fi_X9_35 hq0 (sh_8_9 hq0).1 ?_
                refine vr_iload_n (pc := 99) 1 dX9_of_99 rfl rfl ?_
                obtain ⟨hc13, h⟩ := ck_some h
                refine vr_iald (pc := 100) dX9_of_100 (sh_8_9 hq0).2 hc13 ?_
                have h := Option.some.inj h; subst h
                exact vr_iret (pc := 101) .int dX9_of_101 rfl rfl rfl
              · rw [if_neg c12] at h
                by_cases c14 : a2 = 6
                · rw [if_pos c14] at h
                  refine vr_tableIn (pc := 15) 87 102 dX9_of_15 (by rw [c14]; decide) (by rw [c14]; decide) (by rw [c14]; rfl) (by decide) ?_
                  refine vr_aload_n (pc := 102) 0 dX9_of_102 rfl rfl ?_
                  refine vr_getR (pc := 103) 4 dX9_of_103 fi_X9_20 hq0 (sh_8_4 hq0).1 ?_
                  refine vr_iload_n (pc := 106) 1 dX9_of_106 rfl rfl ?_
                  obtain ⟨hc15, h⟩ := ck_some h
                  refine vr_iald (pc := 107) dX9_of_107 (sh_8_4 hq0).2 hc15 ?_
                  refine vr_callS (pc := 108) (ρ1 := (some (.int (f_X9_sideOf (σ.1 (rid q0 4) a1.toNatClampNeg))), σ)) [.int (σ.1 (rid q0 4) a1.toNatClampNeg)] dX9_of_108 (s_X9_sideOf l g rfl) cw_X9_sideOf ml_X9_179 (by decide) rfl rfl (Nat.le_of_ble_eq_true rfl) ?_
                  have h := Option.some.inj h; subst h
                  exact vr_iret (pc := 111) .int dX9_of_111 rfl rfl rfl
                · rw [if_neg c14] at h
                  by_cases c16 : a2 = 7
                  · rw [if_pos c16] at h
                    refine vr_tableIn (pc := 15) 97 112 dX9_of_15 (by rw [c16]; decide) (by rw [c16]; decide) (by rw [c16]; rfl) (by decide) ?_
                    refine vr_aload_n (pc := 112) 0 dX9_of_112 rfl rfl ?_
                    refine vr_iload_n (pc := 113) 1 dX9_of_113 rfl rfl ?_
                    refine vr_aload_n (pc := 114) 0 dX9_of_114 rfl rfl ?_
                    refine vr_getR (pc := 115) 8 dX9_of_115 fi_X9_32 hq0 (sh_8_8 hq0).1 ?_
                    refine vr_iload_n (pc := 118) 1 dX9_of_118 rfl rfl ?_
                    obtain ⟨hc17, h⟩ := ck_some h
                    refine vr_iald (pc := 119) dX9_of_119 (sh_8_8 hq0).2 hc17 ?_
                    obtain ⟨z18, hz19, h⟩ := ob_some h
                    refine vr_callV (pc := 120) (ρ1 := (some (.int z18), σ)) [.int a1, .int (σ.1 (rid q0 8) a1.toNatClampNeg)] dX9_of_120 (s_X9_nextBy l g (hq0) hz19) cw_X9_nextBy ml_X9_124 hq0 rfl (by decide) (by decide) rfl rfl (Nat.le_of_ble_eq_true rfl) ?_
                    have h := Option.some.inj h; subst h
                    exact vr_iret (pc := 123) .int dX9_of_123 rfl rfl rfl
                  · rw [if_neg c16] at h
                    refine vr_tableOut (pc := 15) 124 dX9_of_15 (tab_out (x := a2) 0 7 (fun z1 z2 => by rcases (show a2.toInt = 0 ∨ a2.toInt = 1 ∨ a2.toInt = 2 ∨ a2.toInt = 3 ∨ a2.toInt = 4 ∨ a2.toInt = 5 ∨ a2.toInt = 6 ∨ a2.toInt = 7 from by omega) with z | z | z | z | z | z | z | z <;> first | exact c2 (i32_of z (by decide)) | exact c4 (i32_of z (by decide)) | exact c6 (i32_of z (by decide)) | exact c8 (i32_of z (by decide)) | exact c10 (i32_of z (by decide)) | exact c12 (i32_of z (by decide)) | exact c14 (i32_of z (by decide)) | exact c16 (i32_of z (by decide)))) (by decide) ?_
                    refine vr_aload_n (pc := 124) 0 dX9_of_124 rfl rfl ?_
                    refine vr_bipush (pc := 125) (-2) dX9_of_125 cb_m2 ?_
                    obtain ⟨z20, hz21, h⟩ := ob_some h
                    refine vr_callV (pc := 127) (ρ1 := (some (.int z20.1), z20.2)) [.int (-2)] dX9_of_127 (s_X9_no l g (hq0) hz21) cw_X9_no ml_X9_104 hq0 rfl (by decide) (by decide) rfl rfl (Nat.le_of_ble_eq_true rfl) ?_
                    have h := Option.some.inj h; subst h
                    exact vr_iret (pc := 130) .int dX9_of_130 rfl rfl rfl
  · rw [if_pos c1] at h
    refine vr_aload_n (pc := 8) 0 dX9_of_8 rfl rfl ?_
    refine vr_iconst (pc := 9) (-1) dX9_of_9 ci_m1 ?_
    obtain ⟨z22, hz23, h⟩ := ob_some h
    refine vr_callV (pc := 10) (ρ1 := (some (.int z22.1), z22.2)) [.int (-1)] dX9_of_10 (s_X9_no l g (hq0) hz23) cw_X9_no ml_X9_104 hq0 rfl (by decide) (by decide) rfl rfl (Nat.le_of_ble_eq_true rfl) ?_
    have h := Option.some.inj h; subst h
    exact vr_iret (pc := 13) .int dX9_of_13 rfl rfl rfl
theorem dX9_change_0 : decode cX9_change 0 = .ok (.aload_n 0, 1) := by decide +kernel
theorem dX9_change_1 : decode cX9_change 1 = .ok (.iload_n 1, 1) := by decide +kernel
theorem dX9_change_2 : decode cX9_change 2 = .ok (.invokevirtual 176, 3) := by decide +kernel
theorem dX9_change_5 : decode cX9_change 5 = .ok (.ifCond .ne 9, 3) := by decide +kernel
theorem dX9_change_8 : decode cX9_change 8 = .ok (.aload_n 0, 1) := by decide +kernel
theorem dX9_change_9 : decode cX9_change 9 = .ok (.iconst (-1), 1) := by decide +kernel
theorem dX9_change_10 : decode cX9_change 10 = .ok (.invokevirtual 104, 3) := by decide +kernel
theorem dX9_change_13 : decode cX9_change 13 = .ok (.ireturn, 1) := by decide +kernel
theorem dX9_change_14 : decode cX9_change 14 = .ok (.iload_n 2, 1) := by decide +kernel
theorem dX9_change_15 : decode cX9_change 15 = .ok (.iconst 1, 1) := by decide +kernel
theorem dX9_change_16 : decode cX9_change 16 = .ok (.iconst 3, 1) := by decide +kernel
theorem dX9_change_17 : decode cX9_change 17 = .ok (.invokestatic 111, 3) := by decide +kernel
theorem dX9_change_20 : decode cX9_change 20 = .ok (.ifCond .ne 10, 3) := by decide +kernel
theorem dX9_change_23 : decode cX9_change 23 = .ok (.aload_n 0, 1) := by decide +kernel
theorem dX9_change_24 : decode cX9_change 24 = .ok (.bipush (-2), 2) := by decide +kernel
theorem dX9_change_26 : decode cX9_change 26 = .ok (.invokevirtual 104, 3) := by decide +kernel
theorem dX9_change_29 : decode cX9_change 29 = .ok (.ireturn, 1) := by decide +kernel
theorem dX9_change_30 : decode cX9_change 30 = .ok (.iload_n 3, 1) := by decide +kernel
theorem dX9_change_31 : decode cX9_change 31 = .ok (.iload_n 2, 1) := by decide +kernel
theorem dX9_change_32 : decode cX9_change 32 = .ok (.iconst 2, 1) := by decide +kernel
theorem dX9_change_33 : decode cX9_change 33 = .ok (.if_icmp .ne 7, 3) := by decide +kernel
theorem dX9_change_36 : decode cX9_change 36 = .ok (.iconst 0, 1) := by decide +kernel
theorem dX9_change_37 : decode cX9_change 37 = .ok (.goto 4, 3) := by decide +kernel
theorem dX9_change_40 : decode cX9_change 40 = .ok (.iconst 1, 1) := by decide +kernel
theorem dX9_change_41 : decode cX9_change 41 = .ok (.if_icmp .ge 10, 3) := by decide +kernel
theorem dX9_change_44 : decode cX9_change 44 = .ok (.aload_n 0, 1) := by decide +kernel
theorem dX9_change_45 : decode cX9_change 45 = .ok (.bipush (-4), 2) := by decide +kernel
theorem dX9_change_47 : decode cX9_change 47 = .ok (.invokevirtual 104, 3) := by decide +kernel
theorem dX9_change_50 : decode cX9_change 50 = .ok (.ireturn, 1) := by decide +kernel
theorem dX9_change_51 : decode cX9_change 51 = .ok (.iload_n 3, 1) := by decide +kernel
theorem dX9_change_52 : decode cX9_change 52 = .ok (.iload_n 2, 1) := by decide +kernel
theorem dX9_change_53 : decode cX9_change 53 = .ok (.iconst 1, 1) := by decide +kernel
theorem dX9_change_54 : decode cX9_change 54 = .ok (.if_icmp .ne 12, 3) := by decide +kernel
theorem dX9_change_57 : decode cX9_change 57 = .ok (.aload_n 0, 1) := by decide +kernel
theorem dX9_change_58 : decode cX9_change 58 = .ok (.getfield 7, 3) := by decide +kernel
theorem dX9_change_61 : decode cX9_change 61 = .ok (.iconst 1, 1) := by decide +kernel
theorem dX9_change_62 : decode cX9_change 62 = .ok (.isub, 1) := by decide +kernel
theorem dX9_change_63 : decode cX9_change 63 = .ok (.goto 5, 3) := by decide +kernel
theorem dX9_change_66 : decode cX9_change 66 = .ok (.bipush 9, 2) := by decide +kernel
theorem dX9_change_68 : decode cX9_change 68 = .ok (.if_icmp .le 10, 3) := by decide +kernel
theorem dX9_change_71 : decode cX9_change 71 = .ok (.aload_n 0, 1) := by decide +kernel
theorem dX9_change_72 : decode cX9_change 72 = .ok (.bipush (-6), 2) := by decide +kernel
theorem dX9_change_74 : decode cX9_change 74 = .ok (.invokevirtual 104, 3) := by decide +kernel
theorem dX9_change_77 : decode cX9_change 77 = .ok (.ireturn, 1) := by decide +kernel
theorem dX9_change_78 : decode cX9_change 78 = .ok (.aload_n 0, 1) := by decide +kernel
theorem dX9_change_79 : decode cX9_change 79 = .ok (.iconst 0, 1) := by decide +kernel
theorem dX9_change_80 : decode cX9_change 80 = .ok (.putfield 166, 3) := by decide +kernel
theorem dX9_change_83 : decode cX9_change 83 = .ok (.iload_n 2, 1) := by decide +kernel
theorem dX9_change_84 : decode cX9_change 84 = .ok (.iconst 1, 1) := by decide +kernel
theorem dX9_change_85 : decode cX9_change 85 = .ok (.if_icmp .ne 10, 3) := by decide +kernel
theorem dX9_change_88 : decode cX9_change 88 = .ok (.aload_n 0, 1) := by decide +kernel
theorem dX9_change_89 : decode cX9_change 89 = .ok (.getfield 23, 3) := by decide +kernel
theorem dX9_change_92 : decode cX9_change 92 = .ok (.goto 19, 3) := by decide +kernel
theorem dX9_change_95 : decode cX9_change 95 = .ok (.iload_n 2, 1) := by decide +kernel
theorem dX9_change_96 : decode cX9_change 96 = .ok (.iconst 2, 1) := by decide +kernel
theorem dX9_change_97 : decode cX9_change 97 = .ok (.if_icmp .ne 10, 3) := by decide +kernel
theorem dX9_change_100 : decode cX9_change 100 = .ok (.aload_n 0, 1) := by decide +kernel
theorem dX9_change_101 : decode cX9_change 101 = .ok (.getfield 26, 3) := by decide +kernel
theorem dX9_change_104 : decode cX9_change 104 = .ok (.goto 7, 3) := by decide +kernel
theorem dX9_change_107 : decode cX9_change 107 = .ok (.aload_n 0, 1) := by decide +kernel
theorem dX9_change_108 : decode cX9_change 108 = .ok (.getfield 29, 3) := by decide +kernel
theorem dX9_change_111 : decode cX9_change 111 = .ok (.astore 4, 2) := by decide +kernel
theorem dX9_change_113 : decode cX9_change 113 = .ok (.aload 4, 2) := by decide +kernel
theorem dX9_change_115 : decode cX9_change 115 = .ok (.iload_n 1, 1) := by decide +kernel
theorem dX9_change_116 : decode cX9_change 116 = .ok (.iaload, 1) := by decide +kernel
theorem dX9_change_117 : decode cX9_change 117 = .ok (.istore 5, 2) := by decide +kernel
theorem dX9_change_119 : decode cX9_change 119 = .ok (.aload 4, 2) := by decide +kernel
theorem dX9_change_121 : decode cX9_change 121 = .ok (.iload_n 1, 1) := by decide +kernel
theorem dX9_change_122 : decode cX9_change 122 = .ok (.iload_n 3, 1) := by decide +kernel
theorem dX9_change_123 : decode cX9_change 123 = .ok (.iastore, 1) := by decide +kernel
theorem dX9_change_124 : decode cX9_change 124 = .ok (.iload 5, 2) := by decide +kernel
theorem dX9_change_126 : decode cX9_change 126 = .ok (.ireturn, 1) := by decide +kernel
set_option maxRecDepth 20000 in
set_option maxHeartbeats 4000000 in
theorem s_X9_change (l : Launch) (g : GG) {q0 : Nat} (hq0 : kd q0 = 8) {a1 : Int32} {a2 : Int32} {a3 : Int32} {σ : SS} {r : Int32 × SS} (h : f_X9_change q0 a1 a2 a3 σ = some r) : CT l g 2 yX9_change cX9_change 6 (some .int) [.ref (g.1 q0), .int a1, .int a2, .int a3] σ (some (.int r.1), r.2) := by
  refine CT.of (lv := [(0, .ref (g.1 q0)), (1, .int a1), (2, .int a2), (3, .int a3)]) RX9 (by decide +kernel) rfl (Nat.le_of_ble_eq_true rfl) rfl ?_
  unfold f_X9_change at h
  refine vr_aload_n (pc := 0) 0 dX9_change_0 rfl rfl ?_
  refine vr_iload_n (pc := 1) 1 dX9_change_1 rfl rfl ?_
  refine vr_callV (pc := 2) (ρ1 := (some (.int (f_X9_isWheel q0 a1 σ)), σ)) [.int a1] dX9_change_2 (s_X9_isWheel l g (hq0) rfl) cw_X9_isWheel ml_X9_176 hq0 rfl (by decide) (by decide) rfl rfl (Nat.le_of_ble_eq_true rfl) ?_
  refine vr_if_ne (pc := 5) 14 dX9_change_5 (by decide) (fun c1 => ?_) (fun c1 => ?_)
  · rw [if_neg c1] at h
    refine vr_iload_n (pc := 14) 2 dX9_change_14 rfl rfl ?_
    refine vr_iconst (pc := 15) 1 dX9_change_15 ci_1 ?_
    refine vr_iconst (pc := 16) 3 dX9_change_16 ci_3 ?_
    refine vr_callS (pc := 17) (ρ1 := (some (.int (f_X9_within a2 1 3)), σ)) [.int a2, .int 1, .int 3] dX9_change_17 (s_X9_within l g rfl) cw_X9_within ml_X9_111 (by decide) rfl rfl (Nat.le_of_ble_eq_true rfl) ?_
    refine vr_if_ne (pc := 20) 30 dX9_change_20 (by decide) (fun c2 => ?_) (fun c2 => ?_)
    · rw [if_neg c2] at h
      refine vr_iload_n (pc := 30) 3 dX9_change_30 rfl rfl ?_
      refine vr_iload_n (pc := 31) 2 dX9_change_31 rfl rfl ?_
      refine vr_iconst (pc := 32) 2 dX9_change_32 ci_2 ?_
      obtain ⟨j3, ej3, h⟩ := jn1_e h
      have hj3 : ∀ (v5 : Int32) , j3 v5 = some r → VV l g 2 RX9 cX9_change 6 (some .int) (some (.int r.1), r.2) 41 [(0, .ref (g.1 q0)), (1, .int a1), (2, .int a2), (3, .int a3)] [.int v5, .int a3] σ := by
        intro v5  h
        rw [ej3] at h
        refine vr_icmp_ge (pc := 41) 51 dX9_change_41 (by decide) (fun c6 => ?_) (fun c6 => ?_)
        · rw [if_pos c6] at h
          refine vr_iload_n (pc := 51) 3 dX9_change_51 rfl rfl ?_
          refine vr_iload_n (pc := 52) 2 dX9_change_52 rfl rfl ?_
          refine vr_iconst (pc := 53) 1 dX9_change_53 ci_1 ?_
          obtain ⟨j7, ej7, h⟩ := jn1_e h
          have hj7 : ∀ (v9 : Int32) , j7 v9 = some r → VV l g 2 RX9 cX9_change 6 (some .int) (some (.int r.1), r.2) 68 [(0, .ref (g.1 q0)), (1, .int a1), (2, .int a2), (3, .int a3)] [.int v9, .int a3] σ := by
            intro v9  h
            rw [ej7] at h
            refine vr_icmp_le (pc := 68) 78 dX9_change_68 (by decide) (fun c10 => ?_) (fun c10 => ?_)
            · rw [if_pos c10] at h
              refine vr_aload_n (pc := 78) 0 dX9_change_78 rfl rfl ?_
              refine vr_iconst (pc := 79) 0 dX9_change_79 ci_0 ?_
              refine vr_putI (pc := 80) 15 dX9_change_80 fi_X9_166 (fw_8_15 _) hq0 (sh_8_15 hq0) ?_
              refine vr_iload_n (pc := 83) 2 dX9_change_83 rfl rfl ?_
              refine vr_iconst (pc := 84) 1 dX9_change_84 ci_1 ?_
              obtain ⟨j11, ej11, h⟩ := jn1_e h
              have hj11 : ∀ (v13 : Nat) (hv13 : kd v13 = 9), j11 v13 = some r → VV l g 2 RX9 cX9_change 6 (some .int) (some (.int r.1), r.2) 111 [(1, .int a1), (3, .int a3)] [.ref (g.1 v13)] (sI σ q0 15 0) := by
                intro v13 hv13 h
                rw [ej11] at h
                refine vr_astore (pc := 111) [(4, .ref (g.1 v13)), (1, .int a1), (3, .int a3)] dX9_change_111 (by decide) rfl ?_
                refine vr_aload (pc := 113) 0 dX9_change_113 rfl ?_
                refine vr_iload_n (pc := 115) 1 dX9_change_115 rfl rfl ?_
                obtain ⟨hc14, h⟩ := ck_some h
                refine vr_iald (pc := 116) dX9_change_116 hv13 hc14 ?_
                refine vr_istore (pc := 117) [(5, .int ((sI σ q0 15 0).1 v13 a1.toNatClampNeg)), (4, .ref (g.1 v13)), (1, .int a1), (3, .int a3)] dX9_change_117 (by decide) rfl ?_
                refine vr_aload (pc := 119) 1 dX9_change_119 rfl ?_
                refine vr_iload_n (pc := 121) 2 dX9_change_121 rfl rfl ?_
                refine vr_iload_n (pc := 122) 3 dX9_change_122 rfl rfl ?_
                obtain ⟨hc15, h⟩ := ck_some h
                refine vr_iast (pc := 123) dX9_change_123 hv13 hc15 ?_
                refine vr_iload (pc := 124) 0 dX9_change_124 rfl ?_
                have h := Option.some.inj h; subst h
                exact vr_iret (pc := 126) .int dX9_change_126 rfl rfl rfl
              refine vr_icmp_ne (pc := 85) 95 dX9_change_85 (by decide) (fun c16 => ?_) (fun c16 => ?_)
              · rw [if_neg c16] at h
                refine vr_iload_n (pc := 95) 2 dX9_change_95 rfl rfl ?_
                refine vr_iconst (pc := 96) 2 dX9_change_96 ci_2 ?_
                refine vr_icmp_ne (pc := 97) 107 dX9_change_97 (by decide) (fun c17 => ?_) (fun c17 => ?_)
                · rw [if_neg c17] at h
                  refine vr_aload_n (pc := 107) 0 dX9_change_107 rfl rfl ?_
                  refine vr_getR (pc := 108) 7 dX9_change_108 fi_X9_29 hq0 (sh_8_7 hq0).1 ?_
                  refine vr_sub [1, 3] [(1, .int a1), (3, .int a3)] rfl ?_
                  exact hj11 (rid q0 7) ((sh_8_7 hq0).2) h
                · rw [if_pos c17] at h
                  refine vr_aload_n (pc := 100) 0 dX9_change_100 rfl rfl ?_
                  refine vr_getR (pc := 101) 6 dX9_change_101 fi_X9_26 hq0 (sh_8_6 hq0).1 ?_
                  refine vr_goto (pc := 104) 111 dX9_change_104 (by decide) ?_
                  refine vr_sub [1, 3] [(1, .int a1), (3, .int a3)] rfl ?_
                  exact hj11 (rid q0 6) ((sh_8_6 hq0).2) h
              · rw [if_pos c16] at h
                refine vr_aload_n (pc := 88) 0 dX9_change_88 rfl rfl ?_
                refine vr_getR (pc := 89) 5 dX9_change_89 fi_X9_23 hq0 (sh_8_5 hq0).1 ?_
                refine vr_goto (pc := 92) 111 dX9_change_92 (by decide) ?_
                refine vr_sub [1, 3] [(1, .int a1), (3, .int a3)] rfl ?_
                exact hj11 (rid q0 5) ((sh_8_5 hq0).2) h
            · rw [if_neg c10] at h
              refine vr_aload_n (pc := 71) 0 dX9_change_71 rfl rfl ?_
              refine vr_bipush (pc := 72) (-6) dX9_change_72 cb_m6 ?_
              obtain ⟨z18, hz19, h⟩ := ob_some h
              refine vr_callV (pc := 74) (ρ1 := (some (.int z18.1), z18.2)) [.int (-6)] dX9_change_74 (s_X9_no l g (hq0) hz19) cw_X9_no ml_X9_104 hq0 rfl (by decide) (by decide) rfl rfl (Nat.le_of_ble_eq_true rfl) ?_
              have h := Option.some.inj h; subst h
              exact vr_iret (pc := 77) .int dX9_change_77 rfl rfl rfl
          refine vr_icmp_ne (pc := 54) 66 dX9_change_54 (by decide) (fun c20 => ?_) (fun c20 => ?_)
          · rw [if_neg c20] at h
            refine vr_bipush (pc := 66) 9 dX9_change_66 cb_9 ?_
            exact hj7 9 h
          · rw [if_pos c20] at h
            refine vr_aload_n (pc := 57) 0 dX9_change_57 rfl rfl ?_
            refine vr_getI (pc := 58) 0 dX9_change_58 fi_X9_7 hq0 (sh_8_0 hq0) ?_
            refine vr_iconst (pc := 61) 1 dX9_change_61 ci_1 ?_
            refine vr_isub (pc := 62) dX9_change_62 ?_
            refine vr_goto (pc := 63) 68 dX9_change_63 (by decide) ?_
            exact hj7 ((σ.1 q0 0) - 1) h
        · rw [if_neg c6] at h
          refine vr_aload_n (pc := 44) 0 dX9_change_44 rfl rfl ?_
          refine vr_bipush (pc := 45) (-4) dX9_change_45 cb_m4 ?_
          obtain ⟨z21, hz22, h⟩ := ob_some h
          refine vr_callV (pc := 47) (ρ1 := (some (.int z21.1), z21.2)) [.int (-4)] dX9_change_47 (s_X9_no l g (hq0) hz22) cw_X9_no ml_X9_104 hq0 rfl (by decide) (by decide) rfl rfl (Nat.le_of_ble_eq_true rfl) ?_
          have h := Option.some.inj h; subst h
          exact vr_iret (pc := 50) .int dX9_change_50 rfl rfl rfl
      refine vr_icmp_ne (pc := 33) 40 dX9_change_33 (by decide) (fun c23 => ?_) (fun c23 => ?_)
      · rw [if_neg c23] at h
        refine vr_iconst (pc := 40) 1 dX9_change_40 ci_1 ?_
        exact hj3 1 h
      · rw [if_pos c23] at h
        refine vr_iconst (pc := 36) 0 dX9_change_36 ci_0 ?_
        refine vr_goto (pc := 37) 41 dX9_change_37 (by decide) ?_
        exact hj3 0 h
    · rw [if_pos c2] at h
      refine vr_aload_n (pc := 23) 0 dX9_change_23 rfl rfl ?_
      refine vr_bipush (pc := 24) (-2) dX9_change_24 cb_m2 ?_
      obtain ⟨z24, hz25, h⟩ := ob_some h
      refine vr_callV (pc := 26) (ρ1 := (some (.int z24.1), z24.2)) [.int (-2)] dX9_change_26 (s_X9_no l g (hq0) hz25) cw_X9_no ml_X9_104 hq0 rfl (by decide) (by decide) rfl rfl (Nat.le_of_ble_eq_true rfl) ?_
      have h := Option.some.inj h; subst h
      exact vr_iret (pc := 29) .int dX9_change_29 rfl rfl rfl
  · rw [if_pos c1] at h
    refine vr_aload_n (pc := 8) 0 dX9_change_8 rfl rfl ?_
    refine vr_iconst (pc := 9) (-1) dX9_change_9 ci_m1 ?_
    obtain ⟨z26, hz27, h⟩ := ob_some h
    refine vr_callV (pc := 10) (ρ1 := (some (.int z26.1), z26.2)) [.int (-1)] dX9_change_10 (s_X9_no l g (hq0) hz27) cw_X9_no ml_X9_104 hq0 rfl (by decide) (by decide) rfl rfl (Nat.le_of_ble_eq_true rfl) ?_
    have h := Option.some.inj h; subst h
    exact vr_iret (pc := 13) .int dX9_change_13 rfl rfl rfl
theorem dX9_layBy_0 : decode cX9_layBy 0 = .ok (.aload_n 0, 1) := by decide +kernel
theorem dX9_layBy_1 : decode cX9_layBy 1 = .ok (.getfield 166, 3) := by decide +kernel
theorem dX9_layBy_4 : decode cX9_layBy 4 = .ok (.bipush 8, 2) := by decide +kernel
theorem dX9_layBy_6 : decode cX9_layBy 6 = .ok (.if_icmp .ne 46, 3) := by decide +kernel
theorem dX9_layBy_9 : decode cX9_layBy 9 = .ok (.sipush 132, 3) := by decide +kernel
theorem dX9_layBy_12 : decode cX9_layBy 12 = .ok (.istore_n 1, 1) := by decide +kernel
theorem dX9_layBy_13 : decode cX9_layBy 13 = .ok (.iload_n 1, 1) := by decide +kernel
theorem dX9_layBy_14 : decode cX9_layBy 14 = .ok (.sipush 1056, 3) := by decide +kernel
theorem dX9_layBy_17 : decode cX9_layBy 17 = .ok (.if_icmp .ge 25, 3) := by decide +kernel
theorem dX9_layBy_20 : decode cX9_layBy 20 = .ok (.aload_n 0, 1) := by decide +kernel
theorem dX9_layBy_21 : decode cX9_layBy 21 = .ok (.getfield 47, 3) := by decide +kernel
theorem dX9_layBy_24 : decode cX9_layBy 24 = .ok (.iload_n 1, 1) := by decide +kernel
theorem dX9_layBy_25 : decode cX9_layBy 25 = .ok (.sipush 132, 3) := by decide +kernel
theorem dX9_layBy_28 : decode cX9_layBy 28 = .ok (.isub, 1) := by decide +kernel
theorem dX9_layBy_29 : decode cX9_layBy 29 = .ok (.aload_n 0, 1) := by decide +kernel
theorem dX9_layBy_30 : decode cX9_layBy 30 = .ok (.getfield 47, 3) := by decide +kernel
theorem dX9_layBy_33 : decode cX9_layBy 33 = .ok (.iload_n 1, 1) := by decide +kernel
theorem dX9_layBy_34 : decode cX9_layBy 34 = .ok (.iaload, 1) := by decide +kernel
theorem dX9_layBy_35 : decode cX9_layBy 35 = .ok (.iastore, 1) := by decide +kernel
theorem dX9_layBy_36 : decode cX9_layBy 36 = .ok (.iinc 1 1, 3) := by decide +kernel
theorem dX9_layBy_39 : decode cX9_layBy 39 = .ok (.goto (-26), 3) := by decide +kernel
theorem dX9_layBy_42 : decode cX9_layBy 42 = .ok (.aload_n 0, 1) := by decide +kernel
theorem dX9_layBy_43 : decode cX9_layBy 43 = .ok (.dup, 1) := by decide +kernel
theorem dX9_layBy_44 : decode cX9_layBy 44 = .ok (.getfield 166, 3) := by decide +kernel
theorem dX9_layBy_47 : decode cX9_layBy 47 = .ok (.iconst 1, 1) := by decide +kernel
theorem dX9_layBy_48 : decode cX9_layBy 48 = .ok (.isub, 1) := by decide +kernel
theorem dX9_layBy_49 : decode cX9_layBy 49 = .ok (.putfield 166, 3) := by decide +kernel
theorem dX9_layBy_52 : decode cX9_layBy 52 = .ok (.aload_n 0, 1) := by decide +kernel
theorem dX9_layBy_53 : decode cX9_layBy 53 = .ok (.getfield 166, 3) := by decide +kernel
theorem dX9_layBy_56 : decode cX9_layBy 56 = .ok (.sipush 132, 3) := by decide +kernel
theorem dX9_layBy_59 : decode cX9_layBy 59 = .ok (.imul, 1) := by decide +kernel
theorem dX9_layBy_60 : decode cX9_layBy 60 = .ok (.istore_n 1, 1) := by decide +kernel
theorem dX9_layBy_61 : decode cX9_layBy 61 = .ok (.iconst 0, 1) := by decide +kernel
theorem dX9_layBy_62 : decode cX9_layBy 62 = .ok (.istore_n 2, 1) := by decide +kernel
theorem dX9_layBy_63 : decode cX9_layBy 63 = .ok (.iload_n 2, 1) := by decide +kernel
theorem dX9_layBy_64 : decode cX9_layBy 64 = .ok (.bipush 6, 2) := by decide +kernel
theorem dX9_layBy_66 : decode cX9_layBy 66 = .ok (.if_icmp .ge 40, 3) := by decide +kernel
theorem dX9_layBy_69 : decode cX9_layBy 69 = .ok (.aload_n 0, 1) := by decide +kernel
theorem dX9_layBy_70 : decode cX9_layBy 70 = .ok (.getfield 47, 3) := by decide +kernel
theorem dX9_layBy_73 : decode cX9_layBy 73 = .ok (.iload_n 1, 1) := by decide +kernel
theorem dX9_layBy_74 : decode cX9_layBy 74 = .ok (.iload_n 2, 1) := by decide +kernel
theorem dX9_layBy_75 : decode cX9_layBy 75 = .ok (.iadd, 1) := by decide +kernel
theorem dX9_layBy_76 : decode cX9_layBy 76 = .ok (.aload_n 0, 1) := by decide +kernel
theorem dX9_layBy_77 : decode cX9_layBy 77 = .ok (.getfield 32, 3) := by decide +kernel
theorem dX9_layBy_80 : decode cX9_layBy 80 = .ok (.iload_n 2, 1) := by decide +kernel
theorem dX9_layBy_81 : decode cX9_layBy 81 = .ok (.iaload, 1) := by decide +kernel
theorem dX9_layBy_82 : decode cX9_layBy 82 = .ok (.iastore, 1) := by decide +kernel
theorem dX9_layBy_83 : decode cX9_layBy 83 = .ok (.aload_n 0, 1) := by decide +kernel
theorem dX9_layBy_84 : decode cX9_layBy 84 = .ok (.getfield 47, 3) := by decide +kernel
theorem dX9_layBy_87 : decode cX9_layBy 87 = .ok (.iload_n 1, 1) := by decide +kernel
theorem dX9_layBy_88 : decode cX9_layBy 88 = .ok (.bipush 6, 2) := by decide +kernel
theorem dX9_layBy_90 : decode cX9_layBy 90 = .ok (.iadd, 1) := by decide +kernel
theorem dX9_layBy_91 : decode cX9_layBy 91 = .ok (.iload_n 2, 1) := by decide +kernel
theorem dX9_layBy_92 : decode cX9_layBy 92 = .ok (.iadd, 1) := by decide +kernel
theorem dX9_layBy_93 : decode cX9_layBy 93 = .ok (.aload_n 0, 1) := by decide +kernel
theorem dX9_layBy_94 : decode cX9_layBy 94 = .ok (.getfield 35, 3) := by decide +kernel
theorem dX9_layBy_97 : decode cX9_layBy 97 = .ok (.iload_n 2, 1) := by decide +kernel
theorem dX9_layBy_98 : decode cX9_layBy 98 = .ok (.iaload, 1) := by decide +kernel
theorem dX9_layBy_99 : decode cX9_layBy 99 = .ok (.iastore, 1) := by decide +kernel
theorem dX9_layBy_100 : decode cX9_layBy 100 = .ok (.iinc 2 1, 3) := by decide +kernel
theorem dX9_layBy_103 : decode cX9_layBy 103 = .ok (.goto (-40), 3) := by decide +kernel
theorem dX9_layBy_106 : decode cX9_layBy 106 = .ok (.iconst 0, 1) := by decide +kernel
theorem dX9_layBy_107 : decode cX9_layBy 107 = .ok (.istore_n 2, 1) := by decide +kernel
theorem dX9_layBy_108 : decode cX9_layBy 108 = .ok (.iload_n 2, 1) := by decide +kernel
theorem dX9_layBy_109 : decode cX9_layBy 109 = .ok (.bipush 60, 2) := by decide +kernel
theorem dX9_layBy_111 : decode cX9_layBy 111 = .ok (.if_icmp .ge 43, 3) := by decide +kernel
theorem dX9_layBy_114 : decode cX9_layBy 114 = .ok (.aload_n 0, 1) := by decide +kernel
theorem dX9_layBy_115 : decode cX9_layBy 115 = .ok (.getfield 47, 3) := by decide +kernel
theorem dX9_layBy_118 : decode cX9_layBy 118 = .ok (.iload_n 1, 1) := by decide +kernel
theorem dX9_layBy_119 : decode cX9_layBy 119 = .ok (.bipush 12, 2) := by decide +kernel
theorem dX9_layBy_121 : decode cX9_layBy 121 = .ok (.iadd, 1) := by decide +kernel
theorem dX9_layBy_122 : decode cX9_layBy 122 = .ok (.iload_n 2, 1) := by decide +kernel
theorem dX9_layBy_123 : decode cX9_layBy 123 = .ok (.iadd, 1) := by decide +kernel
theorem dX9_layBy_124 : decode cX9_layBy 124 = .ok (.aload_n 0, 1) := by decide +kernel
theorem dX9_layBy_125 : decode cX9_layBy 125 = .ok (.getfield 17, 3) := by decide +kernel
theorem dX9_layBy_128 : decode cX9_layBy 128 = .ok (.iload_n 2, 1) := by decide +kernel
theorem dX9_layBy_129 : decode cX9_layBy 129 = .ok (.iaload, 1) := by decide +kernel
theorem dX9_layBy_130 : decode cX9_layBy 130 = .ok (.iastore, 1) := by decide +kernel
theorem dX9_layBy_131 : decode cX9_layBy 131 = .ok (.aload_n 0, 1) := by decide +kernel
theorem dX9_layBy_132 : decode cX9_layBy 132 = .ok (.getfield 47, 3) := by decide +kernel
theorem dX9_layBy_135 : decode cX9_layBy 135 = .ok (.iload_n 1, 1) := by decide +kernel
theorem dX9_layBy_136 : decode cX9_layBy 136 = .ok (.bipush 72, 2) := by decide +kernel
theorem dX9_layBy_138 : decode cX9_layBy 138 = .ok (.iadd, 1) := by decide +kernel
theorem dX9_layBy_139 : decode cX9_layBy 139 = .ok (.iload_n 2, 1) := by decide +kernel
theorem dX9_layBy_140 : decode cX9_layBy 140 = .ok (.iadd, 1) := by decide +kernel
theorem dX9_layBy_141 : decode cX9_layBy 141 = .ok (.aload_n 0, 1) := by decide +kernel
theorem dX9_layBy_142 : decode cX9_layBy 142 = .ok (.getfield 13, 3) := by decide +kernel
theorem dX9_layBy_145 : decode cX9_layBy 145 = .ok (.iload_n 2, 1) := by decide +kernel
theorem dX9_layBy_146 : decode cX9_layBy 146 = .ok (.iaload, 1) := by decide +kernel
theorem dX9_layBy_147 : decode cX9_layBy 147 = .ok (.iastore, 1) := by decide +kernel
theorem dX9_layBy_148 : decode cX9_layBy 148 = .ok (.iinc 2 1, 3) := by decide +kernel
theorem dX9_layBy_151 : decode cX9_layBy 151 = .ok (.goto (-43), 3) := by decide +kernel
theorem dX9_layBy_154 : decode cX9_layBy 154 = .ok (.aload_n 0, 1) := by decide +kernel
theorem dX9_layBy_155 : decode cX9_layBy 155 = .ok (.dup, 1) := by decide +kernel
theorem dX9_layBy_156 : decode cX9_layBy 156 = .ok (.getfield 166, 3) := by decide +kernel
theorem dX9_layBy_159 : decode cX9_layBy 159 = .ok (.iconst 1, 1) := by decide +kernel
theorem dX9_layBy_160 : decode cX9_layBy 160 = .ok (.iadd, 1) := by decide +kernel
theorem dX9_layBy_161 : decode cX9_layBy 161 = .ok (.putfield 166, 3) := by decide +kernel
theorem dX9_layBy_164 : decode cX9_layBy 164 = .ok (.return_, 1) := by decide +kernel
set_option maxRecDepth 20000 in
set_option maxHeartbeats 4000000 in
theorem v_X9_layBy_L63 (l : Launch) (g : GG) {r : SS} {κ : Nat → Int32 → SS → Option SS} (hκ : ∀ (p0 : Nat) (y1 : Int32) (τ : SS) (hp0 : kd p0 = 8), κ p0 y1 τ = some r → VV l g 0 RX9 cX9_layBy 3 none (none, r) 106 [(0, .ref (g.1 p0)), (1, .int y1)] [] τ) : ∀ (fu : Nat) (q0 : Nat) (x1 : Int32) (x2 : Int32) (hq0 : kd q0 = 8) (σ : SS), f_X9_layBy_L63 κ fu q0 x1 x2 σ = some r → VV l g 0 RX9 cX9_layBy 3 none (none, r) 63 [(0, .ref (g.1 q0)), (1, .int x1), (2, .int x2)] [] σ := by
  intro fu
  induction fu with
  | zero => intro q0 x1 x2 hq0 σ h; cases h
  | succ fu ih =>
    intro q0 x1 x2 hq0 σ h
    simp only [f_X9_layBy_L63] at h
    refine vr_iload_n (pc := 63) 2 dX9_layBy_63 rfl rfl ?_
    refine vr_bipush (pc := 64) 6 dX9_layBy_64 cb_6 ?_
    refine vr_icmp_ge (pc := 66) 106 dX9_layBy_66 (by decide) (fun c5 => ?_) (fun c5 => ?_)
    · rw [if_pos c5] at h
      refine vr_sub [0, 1] [(0, .ref (g.1 q0)), (1, .int x1)] rfl ?_
      exact hκ q0 x1 σ (hq0) h
    · rw [if_neg c5] at h
      refine vr_aload_n (pc := 69) 0 dX9_layBy_69 rfl rfl ?_
      refine vr_getR (pc := 70) 14 dX9_layBy_70 fi_X9_47 hq0 (sh_8_14 hq0).1 ?_
      refine vr_iload_n (pc := 73) 1 dX9_layBy_73 rfl rfl ?_
      refine vr_iload_n (pc := 74) 2 dX9_layBy_74 rfl rfl ?_
      refine vr_iadd (pc := 75) dX9_layBy_75 ?_
      refine vr_aload_n (pc := 76) 0 dX9_layBy_76 rfl rfl ?_
      refine vr_getR (pc := 77) 8 dX9_layBy_77 fi_X9_32 hq0 (sh_8_8 hq0).1 ?_
      refine vr_iload_n (pc := 80) 2 dX9_layBy_80 rfl rfl ?_
      obtain ⟨hc6, h⟩ := ck_some h
      refine vr_iald (pc := 81) dX9_layBy_81 (sh_8_8 hq0).2 hc6 ?_
      obtain ⟨hc7, h⟩ := ck_some h
      refine vr_iast (pc := 82) dX9_layBy_82 (sh_8_14 hq0).2 hc7 ?_
      refine vr_aload_n (pc := 83) 0 dX9_layBy_83 rfl rfl ?_
      refine vr_getR (pc := 84) 14 dX9_layBy_84 fi_X9_47 hq0 (sh_8_14 hq0).1 ?_
      refine vr_iload_n (pc := 87) 1 dX9_layBy_87 rfl rfl ?_
      refine vr_bipush (pc := 88) 6 dX9_layBy_88 cb_6 ?_
      refine vr_iadd (pc := 90) dX9_layBy_90 ?_
      refine vr_iload_n (pc := 91) 2 dX9_layBy_91 rfl rfl ?_
      refine vr_iadd (pc := 92) dX9_layBy_92 ?_
      refine vr_aload_n (pc := 93) 0 dX9_layBy_93 rfl rfl ?_
      refine vr_getR (pc := 94) 9 dX9_layBy_94 fi_X9_35 hq0 (sh_8_9 hq0).1 ?_
      refine vr_iload_n (pc := 97) 2 dX9_layBy_97 rfl rfl ?_
      obtain ⟨hc8, h⟩ := ck_some h
      refine vr_iald (pc := 98) dX9_layBy_98 (sh_8_9 hq0).2 hc8 ?_
      obtain ⟨hc9, h⟩ := ck_some h
      refine vr_iast (pc := 99) dX9_layBy_99 (sh_8_14 hq0).2 hc9 ?_
      refine vr_iinc (pc := 100) [(2, .int (x2 + 1)), (0, .ref (g.1 q0)), (1, .int x1)] 2 dX9_layBy_100 rfl (congrArg (fun z => x2 + z) ci_1) (by decide) rfl ?_
      refine vr_goto (pc := 103) 63 dX9_layBy_103 (by decide) ?_
      refine vr_sub [1, 2, 0] [(0, .ref (g.1 q0)), (1, .int x1), (2, .int (x2 + 1))] rfl ?_
      exact ih q0 x1 (x2 + 1) (hq0) (sI (sI σ (rid q0 14) (x1 + x2).toNatClampNeg (σ.1 (rid q0 8) x2.toNatClampNeg)) (rid q0 14) ((x1 + 6) + x2).toNatClampNeg ((sI σ (rid q0 14) (x1 + x2).toNatClampNeg (σ.1 (rid q0 8) x2.toNatClampNeg)).1 (rid q0 9) x2.toNatClampNeg)) h
set_option maxRecDepth 20000 in
set_option maxHeartbeats 4000000 in
theorem v_X9_layBy_L108 (l : Launch) (g : GG) {r : SS} {κ : Nat → SS → Option SS} (hκ : ∀ (p0 : Nat) (τ : SS) (hp0 : kd p0 = 8), κ p0 τ = some r → VV l g 0 RX9 cX9_layBy 3 none (none, r) 154 [(0, .ref (g.1 p0))] [] τ) : ∀ (fu : Nat) (q0 : Nat) (x1 : Int32) (x2 : Int32) (hq0 : kd q0 = 8) (σ : SS), f_X9_layBy_L108 κ fu q0 x1 x2 σ = some r → VV l g 0 RX9 cX9_layBy 3 none (none, r) 108 [(0, .ref (g.1 q0)), (1, .int x1), (2, .int x2)] [] σ := by
  intro fu
  induction fu with
  | zero => intro q0 x1 x2 hq0 σ h; cases h
  | succ fu ih =>
    intro q0 x1 x2 hq0 σ h
    simp only [f_X9_layBy_L108] at h
    refine vr_iload_n (pc := 108) 2 dX9_layBy_108 rfl rfl ?_
    refine vr_bipush (pc := 109) 60 dX9_layBy_109 cb_60 ?_
    refine vr_icmp_ge (pc := 111) 154 dX9_layBy_111 (by decide) (fun c10 => ?_) (fun c10 => ?_)
    · rw [if_pos c10] at h
      refine vr_sub [0] [(0, .ref (g.1 q0))] rfl ?_
      exact hκ q0 σ (hq0) h
    · rw [if_neg c10] at h
      refine vr_aload_n (pc := 114) 0 dX9_layBy_114 rfl rfl ?_
      refine vr_getR (pc := 115) 14 dX9_layBy_115 fi_X9_47 hq0 (sh_8_14 hq0).1 ?_
      refine vr_iload_n (pc := 118) 1 dX9_layBy_118 rfl rfl ?_
      refine vr_bipush (pc := 119) 12 dX9_layBy_119 cb_12 ?_
      refine vr_iadd (pc := 121) dX9_layBy_121 ?_
      refine vr_iload_n (pc := 122) 2 dX9_layBy_122 rfl rfl ?_
      refine vr_iadd (pc := 123) dX9_layBy_123 ?_
      refine vr_aload_n (pc := 124) 0 dX9_layBy_124 rfl rfl ?_
      refine vr_getR (pc := 125) 2 dX9_layBy_125 fi_X9_17 hq0 (sh_8_2 hq0).1 ?_
      refine vr_iload_n (pc := 128) 2 dX9_layBy_128 rfl rfl ?_
      obtain ⟨hc11, h⟩ := ck_some h
      refine vr_iald (pc := 129) dX9_layBy_129 (sh_8_2 hq0).2 hc11 ?_
      obtain ⟨hc12, h⟩ := ck_some h
      refine vr_iast (pc := 130) dX9_layBy_130 (sh_8_14 hq0).2 hc12 ?_
      refine vr_aload_n (pc := 131) 0 dX9_layBy_131 rfl rfl ?_
      refine vr_getR (pc := 132) 14 dX9_layBy_132 fi_X9_47 hq0 (sh_8_14 hq0).1 ?_
      refine vr_iload_n (pc := 135) 1 dX9_layBy_135 rfl rfl ?_
      refine vr_bipush (pc := 136) 72 dX9_layBy_136 cb_72 ?_
      refine vr_iadd (pc := 138) dX9_layBy_138 ?_
      refine vr_iload_n (pc := 139) 2 dX9_layBy_139 rfl rfl ?_
      refine vr_iadd (pc := 140) dX9_layBy_140 ?_
      refine vr_aload_n (pc := 141) 0 dX9_layBy_141 rfl rfl ?_
      refine vr_getR (pc := 142) 1 dX9_layBy_142 fi_X9_13 hq0 (sh_8_1 hq0).1 ?_
      refine vr_iload_n (pc := 145) 2 dX9_layBy_145 rfl rfl ?_
      obtain ⟨hc13, h⟩ := ck_some h
      refine vr_iald (pc := 146) dX9_layBy_146 (sh_8_1 hq0).2 hc13 ?_
      obtain ⟨hc14, h⟩ := ck_some h
      refine vr_iast (pc := 147) dX9_layBy_147 (sh_8_14 hq0).2 hc14 ?_
      refine vr_iinc (pc := 148) [(2, .int (x2 + 1)), (0, .ref (g.1 q0)), (1, .int x1)] 2 dX9_layBy_148 rfl (congrArg (fun z => x2 + z) ci_1) (by decide) rfl ?_
      refine vr_goto (pc := 151) 108 dX9_layBy_151 (by decide) ?_
      refine vr_sub [1, 2, 0] [(0, .ref (g.1 q0)), (1, .int x1), (2, .int (x2 + 1))] rfl ?_
      exact ih q0 x1 (x2 + 1) (hq0) (sI (sI σ (rid q0 14) ((x1 + 12) + x2).toNatClampNeg (σ.1 (rid q0 2) x2.toNatClampNeg)) (rid q0 14) ((x1 + 72) + x2).toNatClampNeg ((sI σ (rid q0 14) ((x1 + 12) + x2).toNatClampNeg (σ.1 (rid q0 2) x2.toNatClampNeg)).1 (rid q0 1) x2.toNatClampNeg)) h
set_option maxRecDepth 20000 in
set_option maxHeartbeats 4000000 in
theorem v_X9_layBy_L13 (l : Launch) (g : GG) {r : SS} {κ : Nat → SS → Option SS} (hκ : ∀ (p0 : Nat) (τ : SS) (hp0 : kd p0 = 8), κ p0 τ = some r → VV l g 0 RX9 cX9_layBy 3 none (none, r) 42 [(0, .ref (g.1 p0))] [] τ) : ∀ (fu : Nat) (q0 : Nat) (x1 : Int32) (hq0 : kd q0 = 8) (σ : SS), f_X9_layBy_L13 κ fu q0 x1 σ = some r → VV l g 0 RX9 cX9_layBy 3 none (none, r) 13 [(0, .ref (g.1 q0)), (1, .int x1)] [] σ := by
  intro fu
  induction fu with
  | zero => intro q0 x1 hq0 σ h; cases h
  | succ fu ih =>
    intro q0 x1 hq0 σ h
    simp only [f_X9_layBy_L13] at h
    refine vr_iload_n (pc := 13) 1 dX9_layBy_13 rfl rfl ?_
    refine vr_sipush (pc := 14) 1056 dX9_layBy_14 cs_1056 ?_
    refine vr_icmp_ge (pc := 17) 42 dX9_layBy_17 (by decide) (fun c16 => ?_) (fun c16 => ?_)
    · rw [if_pos c16] at h
      refine vr_sub [0] [(0, .ref (g.1 q0))] rfl ?_
      exact hκ q0 σ (hq0) h
    · rw [if_neg c16] at h
      refine vr_aload_n (pc := 20) 0 dX9_layBy_20 rfl rfl ?_
      refine vr_getR (pc := 21) 14 dX9_layBy_21 fi_X9_47 hq0 (sh_8_14 hq0).1 ?_
      refine vr_iload_n (pc := 24) 1 dX9_layBy_24 rfl rfl ?_
      refine vr_sipush (pc := 25) 132 dX9_layBy_25 cs_132 ?_
      refine vr_isub (pc := 28) dX9_layBy_28 ?_
      refine vr_aload_n (pc := 29) 0 dX9_layBy_29 rfl rfl ?_
      refine vr_getR (pc := 30) 14 dX9_layBy_30 fi_X9_47 hq0 (sh_8_14 hq0).1 ?_
      refine vr_iload_n (pc := 33) 1 dX9_layBy_33 rfl rfl ?_
      obtain ⟨hc17, h⟩ := ck_some h
      refine vr_iald (pc := 34) dX9_layBy_34 (sh_8_14 hq0).2 hc17 ?_
      obtain ⟨hc18, h⟩ := ck_some h
      refine vr_iast (pc := 35) dX9_layBy_35 (sh_8_14 hq0).2 hc18 ?_
      refine vr_iinc (pc := 36) [(1, .int (x1 + 1)), (0, .ref (g.1 q0))] 1 dX9_layBy_36 rfl (congrArg (fun z => x1 + z) ci_1) (by decide) rfl ?_
      refine vr_goto (pc := 39) 13 dX9_layBy_39 (by decide) ?_
      refine vr_sub [1, 0] [(0, .ref (g.1 q0)), (1, .int (x1 + 1))] rfl ?_
      exact ih q0 (x1 + 1) (hq0) (sI σ (rid q0 14) (x1 - 132).toNatClampNeg (σ.1 (rid q0 14) x1.toNatClampNeg)) h
set_option maxRecDepth 20000 in
set_option maxHeartbeats 4000000 in
theorem s_X9_layBy (l : Launch) (g : GG) {q0 : Nat} (hq0 : kd q0 = 8) {σ : SS} {r : SS} (h : f_X9_layBy q0 σ = some r) : CT l g 0 yX9_layBy cX9_layBy 3 none [.ref (g.1 q0)] σ (none, r) := by
  refine CT.of (lv := [(0, .ref (g.1 q0))]) RX9 (by decide +kernel) rfl (Nat.le_of_ble_eq_true rfl) rfl ?_
  unfold f_X9_layBy at h
  refine vr_aload_n (pc := 0) 0 dX9_layBy_0 rfl rfl ?_
  refine vr_getI (pc := 1) 15 dX9_layBy_1 fi_X9_166 hq0 (sh_8_15 hq0) ?_
  refine vr_bipush (pc := 4) 8 dX9_layBy_4 cb_8 ?_
  obtain ⟨j1, ej1, h⟩ := jn2_e h
  have hj1 : ∀ (v3 : Nat) (σ4 : SS) (hv3 : kd v3 = 8), j1 v3 σ4 = some r → VV l g 0 RX9 cX9_layBy 3 none (none, r) 52 [(0, .ref (g.1 v3))] [] σ4 := by
    intro v3 σ4 hv3 h
    rw [ej1] at h
    refine vr_aload_n (pc := 52) 0 dX9_layBy_52 rfl rfl ?_
    refine vr_getI (pc := 53) 15 dX9_layBy_53 fi_X9_166 hv3 (sh_8_15 hv3) ?_
    refine vr_sipush (pc := 56) 132 dX9_layBy_56 cs_132 ?_
    refine vr_imul (pc := 59) dX9_layBy_59 ?_
    refine vr_istore_n (pc := 60) [(1, .int ((σ4.1 v3 15) * 132)), (0, .ref (g.1 v3))] dX9_layBy_60 rfl (by decide) rfl ?_
    refine vr_iconst (pc := 61) 0 dX9_layBy_61 ci_0 ?_
    refine vr_istore_n (pc := 62) [(2, .int 0), (1, .int ((σ4.1 v3 15) * 132)), (0, .ref (g.1 v3))] dX9_layBy_62 rfl (by decide) rfl ?_
    refine vr_sub [2, 1, 0] [(0, .ref (g.1 v3)), (1, .int ((σ4.1 v3 15) * 132)), (2, .int 0)] rfl ?_
    refine v_X9_layBy_L63 l g (fun p0 y1 τ hp0 h => ?_) FU v3 ((σ4.1 v3 15) * 132) 0 (hv3) σ4 h
    refine vr_iconst (pc := 106) 0 dX9_layBy_106 ci_0 ?_
    refine vr_istore_n (pc := 107) [(2, .int 0), (0, .ref (g.1 p0)), (1, .int y1)] dX9_layBy_107 rfl (by decide) rfl ?_
    refine vr_sub [1, 2, 0] [(0, .ref (g.1 p0)), (1, .int y1), (2, .int 0)] rfl ?_
    refine v_X9_layBy_L108 l g (fun p0 τ hp0 h => ?_) FU p0 y1 0 (hp0) τ h
    refine vr_aload_n (pc := 154) 0 dX9_layBy_154 rfl rfl ?_
    refine vr_dup (pc := 155) dX9_layBy_155 rfl ?_
    refine vr_getI (pc := 156) 15 dX9_layBy_156 fi_X9_166 hp0 (sh_8_15 hp0) ?_
    refine vr_iconst (pc := 159) 1 dX9_layBy_159 ci_1 ?_
    refine vr_iadd (pc := 160) dX9_layBy_160 ?_
    refine vr_putI (pc := 161) 15 dX9_layBy_161 fi_X9_166 (fw_8_15 _) hp0 (sh_8_15 hp0) ?_
    have h := Option.some.inj h; subst h
    exact vr_vret (pc := 164) dX9_layBy_164 rfl rfl
  refine vr_icmp_ne (pc := 6) 52 dX9_layBy_6 (by decide) (fun c15 => ?_) (fun c15 => ?_)
  · rw [if_neg c15] at h
    exact hj1 q0 σ (hq0) h
  · rw [if_pos c15] at h
    refine vr_sipush (pc := 9) 132 dX9_layBy_9 cs_132 ?_
    refine vr_istore_n (pc := 12) [(1, .int 132), (0, .ref (g.1 q0))] dX9_layBy_12 rfl (by decide) rfl ?_
    refine vr_sub [1, 0] [(0, .ref (g.1 q0)), (1, .int 132)] rfl ?_
    refine v_X9_layBy_L13 l g (fun p0 τ hp0 h => ?_) FU q0 132 (hq0) σ h
    refine vr_aload_n (pc := 42) 0 dX9_layBy_42 rfl rfl ?_
    refine vr_dup (pc := 43) dX9_layBy_43 rfl ?_
    refine vr_getI (pc := 44) 15 dX9_layBy_44 fi_X9_166 hp0 (sh_8_15 hp0) ?_
    refine vr_iconst (pc := 47) 1 dX9_layBy_47 ci_1 ?_
    refine vr_isub (pc := 48) dX9_layBy_48 ?_
    refine vr_putI (pc := 49) 15 dX9_layBy_49 fi_X9_166 (fw_8_15 _) hp0 (sh_8_15 hp0) ?_
    exact hj1 p0 (sI τ p0 15 ((τ.1 p0 15) - 1)) (hp0) h
theorem dX9_puts_0 : decode cX9_puts 0 = .ok (.aload_n 0, 1) := by decide +kernel
theorem dX9_puts_1 : decode cX9_puts 1 = .ok (.iload_n 1, 1) := by decide +kernel
theorem dX9_puts_2 : decode cX9_puts 2 = .ok (.invokevirtual 176, 3) := by decide +kernel
theorem dX9_puts_5 : decode cX9_puts 5 = .ok (.ifCond .eq 11, 3) := by decide +kernel
theorem dX9_puts_8 : decode cX9_puts 8 = .ok (.aload_n 0, 1) := by decide +kernel
theorem dX9_puts_9 : decode cX9_puts 9 = .ok (.iload_n 2, 1) := by decide +kernel
theorem dX9_puts_10 : decode cX9_puts 10 = .ok (.invokevirtual 169, 3) := by decide +kernel
theorem dX9_puts_13 : decode cX9_puts 13 = .ok (.ifCond .ne 9, 3) := by decide +kernel
theorem dX9_puts_16 : decode cX9_puts 16 = .ok (.aload_n 0, 1) := by decide +kernel
theorem dX9_puts_17 : decode cX9_puts 17 = .ok (.iconst (-1), 1) := by decide +kernel
theorem dX9_puts_18 : decode cX9_puts 18 = .ok (.invokevirtual 104, 3) := by decide +kernel
theorem dX9_puts_21 : decode cX9_puts 21 = .ok (.ireturn, 1) := by decide +kernel
theorem dX9_puts_22 : decode cX9_puts 22 = .ok (.aload_n 0, 1) := by decide +kernel
theorem dX9_puts_23 : decode cX9_puts 23 = .ok (.invokevirtual 182, 3) := by decide +kernel
theorem dX9_puts_26 : decode cX9_puts 26 = .ok (.aload_n 0, 1) := by decide +kernel
theorem dX9_puts_27 : decode cX9_puts 27 = .ok (.getfield 32, 3) := by decide +kernel
theorem dX9_puts_30 : decode cX9_puts 30 = .ok (.iload_n 1, 1) := by decide +kernel
theorem dX9_puts_31 : decode cX9_puts 31 = .ok (.iaload, 1) := by decide +kernel
theorem dX9_puts_32 : decode cX9_puts 32 = .ok (.istore_n 3, 1) := by decide +kernel
theorem dX9_puts_33 : decode cX9_puts 33 = .ok (.aload_n 0, 1) := by decide +kernel
theorem dX9_puts_34 : decode cX9_puts 34 = .ok (.getfield 32, 3) := by decide +kernel
theorem dX9_puts_37 : decode cX9_puts 37 = .ok (.iload_n 1, 1) := by decide +kernel
theorem dX9_puts_38 : decode cX9_puts 38 = .ok (.iload_n 2, 1) := by decide +kernel
theorem dX9_puts_39 : decode cX9_puts 39 = .ok (.iastore, 1) := by decide +kernel
theorem dX9_puts_40 : decode cX9_puts 40 = .ok (.iload_n 3, 1) := by decide +kernel
theorem dX9_puts_41 : decode cX9_puts 41 = .ok (.ireturn, 1) := by decide +kernel
set_option maxRecDepth 20000 in
set_option maxHeartbeats 4000000 in
theorem s_X9_puts (l : Launch) (g : GG) {q0 : Nat} (hq0 : kd q0 = 8) {a1 : Int32} {a2 : Int32} {σ : SS} {r : Int32 × SS} (h : f_X9_puts q0 a1 a2 σ = some r) : CT l g 2 yX9_puts cX9_puts 4 (some .int) [.ref (g.1 q0), .int a1, .int a2] σ (some (.int r.1), r.2) := by
  refine CT.of (lv := [(0, .ref (g.1 q0)), (1, .int a1), (2, .int a2)]) RX9 (by decide +kernel) rfl (Nat.le_of_ble_eq_true rfl) rfl ?_
  unfold f_X9_puts at h
  refine vr_aload_n (pc := 0) 0 dX9_puts_0 rfl rfl ?_
  refine vr_iload_n (pc := 1) 1 dX9_puts_1 rfl rfl ?_
  refine vr_callV (pc := 2) (ρ1 := (some (.int (f_X9_isWheel q0 a1 σ)), σ)) [.int a1] dX9_puts_2 (s_X9_isWheel l g (hq0) rfl) cw_X9_isWheel ml_X9_176 hq0 rfl (by decide) (by decide) rfl rfl (Nat.le_of_ble_eq_true rfl) ?_
  refine vr_if_eq (pc := 5) 16 dX9_puts_5 (by decide) (fun c1 => ?_) (fun c1 => ?_)
  · rw [if_pos c1] at h
    refine vr_aload_n (pc := 16) 0 dX9_puts_16 rfl rfl ?_
    refine vr_iconst (pc := 17) (-1) dX9_puts_17 ci_m1 ?_
    obtain ⟨z2, hz3, h⟩ := ob_some h
    refine vr_callV (pc := 18) (ρ1 := (some (.int z2.1), z2.2)) [.int (-1)] dX9_puts_18 (s_X9_no l g (hq0) hz3) cw_X9_no ml_X9_104 hq0 rfl (by decide) (by decide) rfl rfl (Nat.le_of_ble_eq_true rfl) ?_
    have h := Option.some.inj h; subst h
    exact vr_iret (pc := 21) .int dX9_puts_21 rfl rfl rfl
  · rw [if_neg c1] at h
    refine vr_aload_n (pc := 8) 0 dX9_puts_8 rfl rfl ?_
    refine vr_iload_n (pc := 9) 2 dX9_puts_9 rfl rfl ?_
    refine vr_callV (pc := 10) (ρ1 := (some (.int (f_X9_isTooth q0 a2 σ)), σ)) [.int a2] dX9_puts_10 (s_X9_isTooth l g (hq0) rfl) cw_X9_isTooth ml_X9_169 hq0 rfl (by decide) (by decide) rfl rfl (Nat.le_of_ble_eq_true rfl) ?_
    refine vr_if_ne (pc := 13) 22 dX9_puts_13 (by decide) (fun c4 => ?_) (fun c4 => ?_)
    · rw [if_neg c4] at h
      refine vr_aload_n (pc := 22) 0 dX9_puts_22 rfl rfl ?_
      obtain ⟨z5, hz6, h⟩ := ob_some h
      refine vr_callV (pc := 23) (ρ1 := (none, z5)) [] dX9_puts_23 (s_X9_layBy l g (hq0) hz6) cw_X9_layBy ml_X9_182 hq0 rfl (by decide) (by decide) rfl rfl (Nat.le_of_ble_eq_true rfl) ?_
      refine vr_aload_n (pc := 26) 0 dX9_puts_26 rfl rfl ?_
      refine vr_getR (pc := 27) 8 dX9_puts_27 fi_X9_32 hq0 (sh_8_8 hq0).1 ?_
      refine vr_iload_n (pc := 30) 1 dX9_puts_30 rfl rfl ?_
      obtain ⟨hc7, h⟩ := ck_some h
      refine vr_iald (pc := 31) dX9_puts_31 (sh_8_8 hq0).2 hc7 ?_
      refine vr_istore_n (pc := 32) [(3, .int (z5.1 (rid q0 8) a1.toNatClampNeg)), (0, .ref (g.1 q0)), (1, .int a1), (2, .int a2)] dX9_puts_32 rfl (by decide) rfl ?_
      refine vr_aload_n (pc := 33) 1 dX9_puts_33 rfl rfl ?_
      refine vr_getR (pc := 34) 8 dX9_puts_34 fi_X9_32 hq0 (sh_8_8 hq0).1 ?_
      refine vr_iload_n (pc := 37) 2 dX9_puts_37 rfl rfl ?_
      refine vr_iload_n (pc := 38) 3 dX9_puts_38 rfl rfl ?_
      obtain ⟨hc8, h⟩ := ck_some h
      refine vr_iast (pc := 39) dX9_puts_39 (sh_8_8 hq0).2 hc8 ?_
      refine vr_iload_n (pc := 40) 0 dX9_puts_40 rfl rfl ?_
      have h := Option.some.inj h; subst h
      exact vr_iret (pc := 41) .int dX9_puts_41 rfl rfl rfl
    · rw [if_pos c4] at h
      refine vr_aload_n (pc := 16) 0 dX9_puts_16 rfl rfl ?_
      refine vr_iconst (pc := 17) (-1) dX9_puts_17 ci_m1 ?_
      obtain ⟨z9, hz10, h⟩ := ob_some h
      refine vr_callV (pc := 18) (ρ1 := (some (.int z9.1), z9.2)) [.int (-1)] dX9_puts_18 (s_X9_no l g (hq0) hz10) cw_X9_no ml_X9_104 hq0 rfl (by decide) (by decide) rfl rfl (Nat.le_of_ble_eq_true rfl) ?_
      have h := Option.some.inj h; subst h
      exact vr_iret (pc := 21) .int dX9_puts_21 rfl rfl rfl
theorem dX9_next_0 : decode cX9_next 0 = .ok (.aload_n 0, 1) := by decide +kernel
theorem dX9_next_1 : decode cX9_next 1 = .ok (.iload_n 1, 1) := by decide +kernel
theorem dX9_next_2 : decode cX9_next 2 = .ok (.invokevirtual 176, 3) := by decide +kernel
theorem dX9_next_5 : decode cX9_next 5 = .ok (.ifCond .eq 20, 3) := by decide +kernel
theorem dX9_next_8 : decode cX9_next 8 = .ok (.aload_n 0, 1) := by decide +kernel
theorem dX9_next_9 : decode cX9_next 9 = .ok (.iload_n 2, 1) := by decide +kernel
theorem dX9_next_10 : decode cX9_next 10 = .ok (.invokevirtual 169, 3) := by decide +kernel
theorem dX9_next_13 : decode cX9_next 13 = .ok (.ifCond .eq 12, 3) := by decide +kernel
theorem dX9_next_16 : decode cX9_next 16 = .ok (.aload_n 0, 1) := by decide +kernel
theorem dX9_next_17 : decode cX9_next 17 = .ok (.iload_n 1, 1) := by decide +kernel
theorem dX9_next_18 : decode cX9_next 18 = .ok (.iload_n 2, 1) := by decide +kernel
theorem dX9_next_19 : decode cX9_next 19 = .ok (.invokevirtual 124, 3) := by decide +kernel
theorem dX9_next_22 : decode cX9_next 22 = .ok (.goto 8, 3) := by decide +kernel
theorem dX9_next_25 : decode cX9_next 25 = .ok (.aload_n 0, 1) := by decide +kernel
theorem dX9_next_26 : decode cX9_next 26 = .ok (.iconst (-1), 1) := by decide +kernel
theorem dX9_next_27 : decode cX9_next 27 = .ok (.invokevirtual 104, 3) := by decide +kernel
theorem dX9_next_30 : decode cX9_next 30 = .ok (.ireturn, 1) := by decide +kernel
set_option maxRecDepth 20000 in
set_option maxHeartbeats 4000000 in
theorem s_X9_next (l : Launch) (g : GG) {q0 : Nat} (hq0 : kd q0 = 8) {a1 : Int32} {a2 : Int32} {σ : SS} {r : Int32 × SS} (h : f_X9_next q0 a1 a2 σ = some r) : CT l g 3 yX9_next cX9_next 3 (some .int) [.ref (g.1 q0), .int a1, .int a2] σ (some (.int r.1), r.2) := by
  refine CT.of (lv := [(0, .ref (g.1 q0)), (1, .int a1), (2, .int a2)]) RX9 (by decide +kernel) rfl (Nat.le_of_ble_eq_true rfl) rfl ?_
  unfold f_X9_next at h
  refine vr_aload_n (pc := 0) 0 dX9_next_0 rfl rfl ?_
  refine vr_iload_n (pc := 1) 1 dX9_next_1 rfl rfl ?_
  refine vr_callV (pc := 2) (ρ1 := (some (.int (f_X9_isWheel q0 a1 σ)), σ)) [.int a1] dX9_next_2 (s_X9_isWheel l g (hq0) rfl) cw_X9_isWheel ml_X9_176 hq0 rfl (by decide) (by decide) rfl rfl (Nat.le_of_ble_eq_true rfl) ?_
  refine vr_if_eq (pc := 5) 25 dX9_next_5 (by decide) (fun c1 => ?_) (fun c1 => ?_)
  · rw [if_pos c1] at h
    refine vr_aload_n (pc := 25) 0 dX9_next_25 rfl rfl ?_
    refine vr_iconst (pc := 26) (-1) dX9_next_26 ci_m1 ?_
    obtain ⟨z2, hz3, h⟩ := ob_some h
    refine vr_callV (pc := 27) (ρ1 := (some (.int z2.1), z2.2)) [.int (-1)] dX9_next_27 (s_X9_no l g (hq0) hz3) cw_X9_no ml_X9_104 hq0 rfl (by decide) (by decide) rfl rfl (Nat.le_of_ble_eq_true rfl) ?_
    have h := Option.some.inj h; subst h
    exact vr_iret (pc := 30) .int dX9_next_30 rfl rfl rfl
  · rw [if_neg c1] at h
    refine vr_aload_n (pc := 8) 0 dX9_next_8 rfl rfl ?_
    refine vr_iload_n (pc := 9) 2 dX9_next_9 rfl rfl ?_
    refine vr_callV (pc := 10) (ρ1 := (some (.int (f_X9_isTooth q0 a2 σ)), σ)) [.int a2] dX9_next_10 (s_X9_isTooth l g (hq0) rfl) cw_X9_isTooth ml_X9_169 hq0 rfl (by decide) (by decide) rfl rfl (Nat.le_of_ble_eq_true rfl) ?_
    refine vr_if_eq (pc := 13) 25 dX9_next_13 (by decide) (fun c4 => ?_) (fun c4 => ?_)
    · rw [if_pos c4] at h
      refine vr_aload_n (pc := 25) 0 dX9_next_25 rfl rfl ?_
      refine vr_iconst (pc := 26) (-1) dX9_next_26 ci_m1 ?_
      obtain ⟨z5, hz6, h⟩ := ob_some h
      refine vr_callV (pc := 27) (ρ1 := (some (.int z5.1), z5.2)) [.int (-1)] dX9_next_27 (s_X9_no l g (hq0) hz6) cw_X9_no ml_X9_104 hq0 rfl (by decide) (by decide) rfl rfl (Nat.le_of_ble_eq_true rfl) ?_
      have h := Option.some.inj h; subst h
      exact vr_iret (pc := 30) .int dX9_next_30 rfl rfl rfl
    · rw [if_neg c4] at h
      refine vr_aload_n (pc := 16) 0 dX9_next_16 rfl rfl ?_
      refine vr_iload_n (pc := 17) 1 dX9_next_17 rfl rfl ?_
      refine vr_iload_n (pc := 18) 2 dX9_next_18 rfl rfl ?_
      obtain ⟨z7, hz8, h⟩ := ob_some h
      refine vr_callV (pc := 19) (ρ1 := (some (.int z7), σ)) [.int a1, .int a2] dX9_next_19 (s_X9_nextBy l g (hq0) hz8) cw_X9_nextBy ml_X9_124 hq0 rfl (by decide) (by decide) rfl rfl (Nat.le_of_ble_eq_true rfl) ?_
      refine vr_goto (pc := 22) 30 dX9_next_22 (by decide) ?_
      have h := Option.some.inj h; subst h
      exact vr_iret (pc := 30) .int dX9_next_30 rfl rfl rfl
theorem dX9_lowest_0 : decode cX9_lowest 0 = .ok (.iload_n 0, 1) := by decide +kernel
theorem dX9_lowest_1 : decode cX9_lowest 1 = .ok (.ifCond .ge 8, 3) := by decide +kernel
theorem dX9_lowest_4 : decode cX9_lowest 4 = .ok (.iload_n 0, 1) := by decide +kernel
theorem dX9_lowest_5 : decode cX9_lowest 5 = .ok (.ineg, 1) := by decide +kernel
theorem dX9_lowest_6 : decode cX9_lowest 6 = .ok (.goto 4, 3) := by decide +kernel
theorem dX9_lowest_9 : decode cX9_lowest 9 = .ok (.iload_n 0, 1) := by decide +kernel
theorem dX9_lowest_10 : decode cX9_lowest 10 = .ok (.istore_n 3, 1) := by decide +kernel
theorem dX9_lowest_11 : decode cX9_lowest 11 = .ok (.iload_n 1, 1) := by decide +kernel
theorem dX9_lowest_12 : decode cX9_lowest 12 = .ok (.istore 4, 2) := by decide +kernel
theorem dX9_lowest_14 : decode cX9_lowest 14 = .ok (.iload 4, 2) := by decide +kernel
theorem dX9_lowest_16 : decode cX9_lowest 16 = .ok (.ifCond .eq 19, 3) := by decide +kernel
theorem dX9_lowest_19 : decode cX9_lowest 19 = .ok (.iload_n 3, 1) := by decide +kernel
theorem dX9_lowest_20 : decode cX9_lowest 20 = .ok (.iload 4, 2) := by decide +kernel
theorem dX9_lowest_22 : decode cX9_lowest 22 = .ok (.irem, 1) := by decide +kernel
theorem dX9_lowest_23 : decode cX9_lowest 23 = .ok (.istore 5, 2) := by decide +kernel
theorem dX9_lowest_25 : decode cX9_lowest 25 = .ok (.iload 4, 2) := by decide +kernel
theorem dX9_lowest_27 : decode cX9_lowest 27 = .ok (.istore_n 3, 1) := by decide +kernel
theorem dX9_lowest_28 : decode cX9_lowest 28 = .ok (.iload 5, 2) := by decide +kernel
theorem dX9_lowest_30 : decode cX9_lowest 30 = .ok (.istore 4, 2) := by decide +kernel
theorem dX9_lowest_32 : decode cX9_lowest 32 = .ok (.goto (-18), 3) := by decide +kernel
theorem dX9_lowest_35 : decode cX9_lowest 35 = .ok (.iload_n 2, 1) := by decide +kernel
theorem dX9_lowest_36 : decode cX9_lowest 36 = .ok (.ifCond .ne 10, 3) := by decide +kernel
theorem dX9_lowest_39 : decode cX9_lowest 39 = .ok (.iload_n 0, 1) := by decide +kernel
theorem dX9_lowest_40 : decode cX9_lowest 40 = .ok (.iload_n 3, 1) := by decide +kernel
theorem dX9_lowest_41 : decode cX9_lowest 41 = .ok (.idiv, 1) := by decide +kernel
theorem dX9_lowest_42 : decode cX9_lowest 42 = .ok (.i2l, 1) := by decide +kernel
theorem dX9_lowest_43 : decode cX9_lowest 43 = .ok (.goto 7, 3) := by decide +kernel
theorem dX9_lowest_46 : decode cX9_lowest 46 = .ok (.iload_n 1, 1) := by decide +kernel
theorem dX9_lowest_47 : decode cX9_lowest 47 = .ok (.iload_n 3, 1) := by decide +kernel
theorem dX9_lowest_48 : decode cX9_lowest 48 = .ok (.idiv, 1) := by decide +kernel
theorem dX9_lowest_49 : decode cX9_lowest 49 = .ok (.i2l, 1) := by decide +kernel
theorem dX9_lowest_50 : decode cX9_lowest 50 = .ok (.lreturn, 1) := by decide +kernel
set_option maxRecDepth 20000 in
set_option maxHeartbeats 4000000 in
theorem v_X9_lowest_L14 (l : Launch) (g : GG) {r : Int64} {σ : SS} {κ : Int32 → Int32 → Int32 → Int32 → Option Int64} (hκ : ∀ (y0 : Int32) (y1 : Int32) (y2 : Int32) (y3 : Int32) , κ y0 y1 y2 y3 = some r → VV l g 0 RX9 cX9_lowest 6 (some .long) (some (.long r), σ) 35 [(0, .int y0), (1, .int y1), (2, .int y2), (3, .int y3)] [] σ) : ∀ (fu : Nat) (x0 : Int32) (x1 : Int32) (x2 : Int32) (x3 : Int32) (x4 : Int32) , f_X9_lowest_L14 κ fu x0 x1 x2 x3 x4 = some r → VV l g 0 RX9 cX9_lowest 6 (some .long) (some (.long r), σ) 14 [(0, .int x0), (1, .int x1), (2, .int x2), (3, .int x3), (4, .int x4)] [] σ := by
  intro fu
  induction fu with
  | zero => intro x0 x1 x2 x3 x4  h; cases h
  | succ fu ih =>
    intro x0 x1 x2 x3 x4  h
    simp only [f_X9_lowest_L14] at h
    refine vr_iload (pc := 14) 4 dX9_lowest_14 rfl ?_
    refine vr_if_eq (pc := 16) 35 dX9_lowest_16 (by decide) (fun c4 => ?_) (fun c4 => ?_)
    · rw [if_pos c4] at h
      refine vr_sub [0, 1, 2, 3] [(0, .int x0), (1, .int x1), (2, .int x2), (3, .int x3)] rfl ?_
      exact hκ x0 x1 x2 x3 h
    · rw [if_neg c4] at h
      refine vr_iload_n (pc := 19) 3 dX9_lowest_19 rfl rfl ?_
      refine vr_iload (pc := 20) 4 dX9_lowest_20 rfl ?_
      obtain ⟨hc5, h⟩ := ck_some h
      refine vr_irem (pc := 22) dX9_lowest_22 hc5 ?_
      refine vr_istore (pc := 23) [(5, .int (x3 - x3 / x4 * x4)), (0, .int x0), (1, .int x1), (2, .int x2), (3, .int x3), (4, .int x4)] dX9_lowest_23 (by decide) rfl ?_
      refine vr_iload (pc := 25) 5 dX9_lowest_25 rfl ?_
      refine vr_istore_n (pc := 27) [(3, .int x4), (5, .int (x3 - x3 / x4 * x4)), (0, .int x0), (1, .int x1), (2, .int x2), (4, .int x4)] dX9_lowest_27 rfl (by decide) rfl ?_
      refine vr_iload (pc := 28) 1 dX9_lowest_28 rfl ?_
      refine vr_istore (pc := 30) [(4, .int (x3 - x3 / x4 * x4)), (3, .int x4), (5, .int (x3 - x3 / x4 * x4)), (0, .int x0), (1, .int x1), (2, .int x2)] dX9_lowest_30 (by decide) rfl ?_
      refine vr_goto (pc := 32) 14 dX9_lowest_32 (by decide) ?_
      refine vr_sub [3, 4, 5, 1, 0] [(0, .int x0), (1, .int x1), (2, .int x2), (3, .int x4), (4, .int (x3 - x3 / x4 * x4))] rfl ?_
      exact ih x0 x1 x2 x4 (x3 - x3 / x4 * x4) h
set_option maxRecDepth 20000 in
set_option maxHeartbeats 4000000 in
theorem s_X9_lowest (l : Launch) (g : GG) {a0 : Int32} {a1 : Int32} {a2 : Int32} {σ : SS} {r : Int64} (h : f_X9_lowest a0 a1 a2 = some r) : CT l g 0 yX9_lowest cX9_lowest 6 (some .long) [.int a0, .int a1, .int a2] σ (some (.long r), σ) := by
  refine CT.of (lv := [(0, .int a0), (1, .int a1), (2, .int a2)]) RX9 (by decide +kernel) rfl (Nat.le_of_ble_eq_true rfl) rfl ?_
  unfold f_X9_lowest at h
  refine vr_iload_n (pc := 0) 0 dX9_lowest_0 rfl rfl ?_
  obtain ⟨j1, ej1, h⟩ := jn1_e h
  have hj1 : ∀ (v3 : Int32) , j1 v3 = some r → VV l g 0 RX9 cX9_lowest 6 (some .long) (some (.long r), σ) 10 [(0, .int a0), (1, .int a1), (2, .int a2)] [.int v3] σ := by
    intro v3  h
    rw [ej1] at h
    refine vr_istore_n (pc := 10) [(3, .int v3), (0, .int a0), (1, .int a1), (2, .int a2)] dX9_lowest_10 rfl (by decide) rfl ?_
    refine vr_iload_n (pc := 11) 2 dX9_lowest_11 rfl rfl ?_
    refine vr_istore (pc := 12) [(4, .int a1), (3, .int v3), (0, .int a0), (1, .int a1), (2, .int a2)] dX9_lowest_12 (by decide) rfl ?_
    refine vr_sub [2, 3, 4, 1, 0] [(0, .int a0), (1, .int a1), (2, .int a2), (3, .int v3), (4, .int a1)] rfl ?_
    refine v_X9_lowest_L14 l g (fun y0 y1 y2 y3 h => ?_) FU a0 a1 a2 v3 a1 h
    refine vr_iload_n (pc := 35) 2 dX9_lowest_35 rfl rfl ?_
    refine vr_if_ne (pc := 36) 46 dX9_lowest_36 (by decide) (fun c6 => ?_) (fun c6 => ?_)
    · rw [if_neg c6] at h
      refine vr_iload_n (pc := 46) 1 dX9_lowest_46 rfl rfl ?_
      refine vr_iload_n (pc := 47) 3 dX9_lowest_47 rfl rfl ?_
      obtain ⟨hc7, h⟩ := ck_some h
      refine vr_idiv (pc := 48) dX9_lowest_48 hc7 ?_
      refine vr_i2l (pc := 49) dX9_lowest_49 ?_
      have h := Option.some.inj h; subst h
      exact vr_lret (pc := 50) dX9_lowest_50 rfl rfl
    · rw [if_pos c6] at h
      refine vr_iload_n (pc := 39) 0 dX9_lowest_39 rfl rfl ?_
      refine vr_iload_n (pc := 40) 3 dX9_lowest_40 rfl rfl ?_
      obtain ⟨hc8, h⟩ := ck_some h
      refine vr_idiv (pc := 41) dX9_lowest_41 hc8 ?_
      refine vr_i2l (pc := 42) dX9_lowest_42 ?_
      refine vr_goto (pc := 43) 50 dX9_lowest_43 (by decide) ?_
      have h := Option.some.inj h; subst h
      exact vr_lret (pc := 50) dX9_lowest_50 rfl rfl
  refine vr_if_ge (pc := 1) 9 dX9_lowest_1 (by decide) (fun c9 => ?_) (fun c9 => ?_)
  · rw [if_pos c9] at h
    refine vr_iload_n (pc := 9) 0 dX9_lowest_9 rfl rfl ?_
    exact hj1 a0 h
  · rw [if_neg c9] at h
    refine vr_iload_n (pc := 4) 0 dX9_lowest_4 rfl rfl ?_
    refine vr_ineg (pc := 5) dX9_lowest_5 ?_
    refine vr_goto (pc := 6) 10 dX9_lowest_6 (by decide) ?_
    exact hj1 (-a0) h
theorem dX9_ratio_0 : decode cX9_ratio 0 = .ok (.aload_n 0, 1) := by decide +kernel
theorem dX9_ratio_1 : decode cX9_ratio 1 = .ok (.iload_n 1, 1) := by decide +kernel
theorem dX9_ratio_2 : decode cX9_ratio 2 = .ok (.invokevirtual 176, 3) := by decide +kernel
theorem dX9_ratio_5 : decode cX9_ratio 5 = .ok (.ifCond .ne 9, 3) := by decide +kernel
theorem dX9_ratio_8 : decode cX9_ratio 8 = .ok (.aload_n 0, 1) := by decide +kernel
theorem dX9_ratio_9 : decode cX9_ratio 9 = .ok (.iconst (-1), 1) := by decide +kernel
theorem dX9_ratio_10 : decode cX9_ratio 10 = .ok (.invokevirtual 185, 3) := by decide +kernel
theorem dX9_ratio_13 : decode cX9_ratio 13 = .ok (.lreturn, 1) := by decide +kernel
theorem dX9_ratio_14 : decode cX9_ratio 14 = .ok (.iload_n 2, 1) := by decide +kernel
theorem dX9_ratio_15 : decode cX9_ratio 15 = .ok (.iconst 0, 1) := by decide +kernel
theorem dX9_ratio_16 : decode cX9_ratio 16 = .ok (.iconst 1, 1) := by decide +kernel
theorem dX9_ratio_17 : decode cX9_ratio 17 = .ok (.invokestatic 111, 3) := by decide +kernel
theorem dX9_ratio_20 : decode cX9_ratio 20 = .ok (.ifCond .ne 10, 3) := by decide +kernel
theorem dX9_ratio_23 : decode cX9_ratio 23 = .ok (.aload_n 0, 1) := by decide +kernel
theorem dX9_ratio_24 : decode cX9_ratio 24 = .ok (.bipush (-2), 2) := by decide +kernel
theorem dX9_ratio_26 : decode cX9_ratio 26 = .ok (.invokevirtual 185, 3) := by decide +kernel
theorem dX9_ratio_29 : decode cX9_ratio 29 = .ok (.lreturn, 1) := by decide +kernel
theorem dX9_ratio_30 : decode cX9_ratio 30 = .ok (.aload_n 0, 1) := by decide +kernel
theorem dX9_ratio_31 : decode cX9_ratio 31 = .ok (.getfield 23, 3) := by decide +kernel
theorem dX9_ratio_34 : decode cX9_ratio 34 = .ok (.iload_n 1, 1) := by decide +kernel
theorem dX9_ratio_35 : decode cX9_ratio 35 = .ok (.iaload, 1) := by decide +kernel
theorem dX9_ratio_36 : decode cX9_ratio 36 = .ok (.istore_n 3, 1) := by decide +kernel
theorem dX9_ratio_37 : decode cX9_ratio 37 = .ok (.aload_n 0, 1) := by decide +kernel
theorem dX9_ratio_38 : decode cX9_ratio 38 = .ok (.getfield 20, 3) := by decide +kernel
theorem dX9_ratio_41 : decode cX9_ratio 41 = .ok (.iload_n 1, 1) := by decide +kernel
theorem dX9_ratio_42 : decode cX9_ratio 42 = .ok (.iaload, 1) := by decide +kernel
theorem dX9_ratio_43 : decode cX9_ratio 43 = .ok (.tableswitch 85 0 5 #[37, 48, 85, 59, 85, 71], 37) := by decide +kernel
theorem dX9_ratio_80 : decode cX9_ratio 80 = .ok (.aload_n 0, 1) := by decide +kernel
theorem dX9_ratio_81 : decode cX9_ratio 81 = .ok (.getfield 7, 3) := by decide +kernel
theorem dX9_ratio_84 : decode cX9_ratio 84 = .ok (.iload_n 3, 1) := by decide +kernel
theorem dX9_ratio_85 : decode cX9_ratio 85 = .ok (.isub, 1) := by decide +kernel
theorem dX9_ratio_86 : decode cX9_ratio 86 = .ok (.istore 4, 2) := by decide +kernel
theorem dX9_ratio_88 : decode cX9_ratio 88 = .ok (.goto 55, 3) := by decide +kernel
theorem dX9_ratio_91 : decode cX9_ratio 91 = .ok (.aload_n 0, 1) := by decide +kernel
theorem dX9_ratio_92 : decode cX9_ratio 92 = .ok (.getfield 7, 3) := by decide +kernel
theorem dX9_ratio_95 : decode cX9_ratio 95 = .ok (.iload_n 3, 1) := by decide +kernel
theorem dX9_ratio_96 : decode cX9_ratio 96 = .ok (.iadd, 1) := by decide +kernel
theorem dX9_ratio_97 : decode cX9_ratio 97 = .ok (.istore 4, 2) := by decide +kernel
theorem dX9_ratio_99 : decode cX9_ratio 99 = .ok (.goto 44, 3) := by decide +kernel
theorem dX9_ratio_102 : decode cX9_ratio 102 = .ok (.aload_n 0, 1) := by decide +kernel
theorem dX9_ratio_103 : decode cX9_ratio 103 = .ok (.getfield 7, 3) := by decide +kernel
theorem dX9_ratio_106 : decode cX9_ratio 106 = .ok (.ineg, 1) := by decide +kernel
theorem dX9_ratio_107 : decode cX9_ratio 107 = .ok (.iload_n 3, 1) := by decide +kernel
theorem dX9_ratio_108 : decode cX9_ratio 108 = .ok (.isub, 1) := by decide +kernel
theorem dX9_ratio_109 : decode cX9_ratio 109 = .ok (.istore 4, 2) := by decide +kernel
theorem dX9_ratio_111 : decode cX9_ratio 111 = .ok (.goto 32, 3) := by decide +kernel
theorem dX9_ratio_114 : decode cX9_ratio 114 = .ok (.bipush (-2), 2) := by decide +kernel
theorem dX9_ratio_116 : decode cX9_ratio 116 = .ok (.aload_n 0, 1) := by decide +kernel
theorem dX9_ratio_117 : decode cX9_ratio 117 = .ok (.getfield 7, 3) := by decide +kernel
theorem dX9_ratio_120 : decode cX9_ratio 120 = .ok (.iload_n 3, 1) := by decide +kernel
theorem dX9_ratio_121 : decode cX9_ratio 121 = .ok (.iadd, 1) := by decide +kernel
theorem dX9_ratio_122 : decode cX9_ratio 122 = .ok (.imul, 1) := by decide +kernel
theorem dX9_ratio_123 : decode cX9_ratio 123 = .ok (.istore 4, 2) := by decide +kernel
theorem dX9_ratio_125 : decode cX9_ratio 125 = .ok (.goto 18, 3) := by decide +kernel
theorem dX9_ratio_128 : decode cX9_ratio 128 = .ok (.aload_n 0, 1) := by decide +kernel
theorem dX9_ratio_129 : decode cX9_ratio 129 = .ok (.getfield 7, 3) := by decide +kernel
theorem dX9_ratio_132 : decode cX9_ratio 132 = .ok (.iload_n 3, 1) := by decide +kernel
theorem dX9_ratio_133 : decode cX9_ratio 133 = .ok (.isub, 1) := by decide +kernel
theorem dX9_ratio_134 : decode cX9_ratio 134 = .ok (.aload_n 0, 1) := by decide +kernel
theorem dX9_ratio_135 : decode cX9_ratio 135 = .ok (.getfield 26, 3) := by decide +kernel
theorem dX9_ratio_138 : decode cX9_ratio 138 = .ok (.iload_n 1, 1) := by decide +kernel
theorem dX9_ratio_139 : decode cX9_ratio 139 = .ok (.iaload, 1) := by decide +kernel
theorem dX9_ratio_140 : decode cX9_ratio 140 = .ok (.isub, 1) := by decide +kernel
theorem dX9_ratio_141 : decode cX9_ratio 141 = .ok (.istore 4, 2) := by decide +kernel
theorem dX9_ratio_143 : decode cX9_ratio 143 = .ok (.iload 4, 2) := by decide +kernel
theorem dX9_ratio_145 : decode cX9_ratio 145 = .ok (.iload_n 3, 1) := by decide +kernel
theorem dX9_ratio_146 : decode cX9_ratio 146 = .ok (.iload_n 2, 1) := by decide +kernel
theorem dX9_ratio_147 : decode cX9_ratio 147 = .ok (.invokestatic 189, 3) := by decide +kernel
theorem dX9_ratio_150 : decode cX9_ratio 150 = .ok (.lreturn, 1) := by decide +kernel
set_option maxRecDepth 20000 in
set_option maxHeartbeats 4000000 in
theorem s_X9_ratio (l : Launch) (g : GG) {q0 : Nat} (hq0 : kd q0 = 8) {a1 : Int32} {a2 : Int32} {σ : SS} {r : Int64 × SS} (h : f_X9_ratio q0 a1 a2 σ = some r) : CT l g 2 yX9_ratio cX9_ratio 5 (some .long) [.ref (g.1 q0), .int a1, .int a2] σ (some (.long r.1), r.2) := by
  refine CT.of (lv := [(0, .ref (g.1 q0)), (1, .int a1), (2, .int a2)]) RX9 (by decide +kernel) rfl (Nat.le_of_ble_eq_true rfl) rfl ?_
  unfold f_X9_ratio at h
  refine vr_aload_n (pc := 0) 0 dX9_ratio_0 rfl rfl ?_
  refine vr_iload_n (pc := 1) 1 dX9_ratio_1 rfl rfl ?_
  refine vr_callV (pc := 2) (ρ1 := (some (.int (f_X9_isWheel q0 a1 σ)), σ)) [.int a1] dX9_ratio_2 (s_X9_isWheel l g (hq0) rfl) cw_X9_isWheel ml_X9_176 hq0 rfl (by decide) (by decide) rfl rfl (Nat.le_of_ble_eq_true rfl) ?_
  refine vr_if_ne (pc := 5) 14 dX9_ratio_5 (by decide) (fun c1 => ?_) (fun c1 => ?_)
  · rw [if_neg c1] at h
    refine vr_iload_n (pc := 14) 2 dX9_ratio_14 rfl rfl ?_
    refine vr_iconst (pc := 15) 0 dX9_ratio_15 ci_0 ?_
    refine vr_iconst (pc := 16) 1 dX9_ratio_16 ci_1 ?_
    refine vr_callS (pc := 17) (ρ1 := (some (.int (f_X9_within a2 0 1)), σ)) [.int a2, .int 0, .int 1] dX9_ratio_17 (s_X9_within l g rfl) cw_X9_within ml_X9_111 (by decide) rfl rfl (Nat.le_of_ble_eq_true rfl) ?_
    refine vr_if_ne (pc := 20) 30 dX9_ratio_20 (by decide) (fun c2 => ?_) (fun c2 => ?_)
    · rw [if_neg c2] at h
      refine vr_aload_n (pc := 30) 0 dX9_ratio_30 rfl rfl ?_
      refine vr_getR (pc := 31) 5 dX9_ratio_31 fi_X9_23 hq0 (sh_8_5 hq0).1 ?_
      refine vr_iload_n (pc := 34) 1 dX9_ratio_34 rfl rfl ?_
      obtain ⟨hc3, h⟩ := ck_some h
      refine vr_iald (pc := 35) dX9_ratio_35 (sh_8_5 hq0).2 hc3 ?_
      refine vr_istore_n (pc := 36) [(3, .int (σ.1 (rid q0 5) a1.toNatClampNeg)), (0, .ref (g.1 q0)), (1, .int a1), (2, .int a2)] dX9_ratio_36 rfl (by decide) rfl ?_
      refine vr_aload_n (pc := 37) 1 dX9_ratio_37 rfl rfl ?_
      refine vr_getR (pc := 38) 4 dX9_ratio_38 fi_X9_20 hq0 (sh_8_4 hq0).1 ?_
      refine vr_iload_n (pc := 41) 2 dX9_ratio_41 rfl rfl ?_
      obtain ⟨hc4, h⟩ := ck_some h
      refine vr_iald (pc := 42) dX9_ratio_42 (sh_8_4 hq0).2 hc4 ?_
      obtain ⟨j5, ej5, h⟩ := jn1_e h
      have hj5 : ∀ (u7 : Unit) , j5 u7 = some r → VV l g 2 RX9 cX9_ratio 5 (some .long) (some (.long r.1), r.2) 128 [(0, .ref (g.1 q0)), (1, .int a1), (2, .int a2), (3, .int (σ.1 (rid q0 5) a1.toNatClampNeg))] [] σ := by
        intro u7  h
        rw [ej5] at h
        refine vr_aload_n (pc := 128) 0 dX9_ratio_128 rfl rfl ?_
        refine vr_getI (pc := 129) 0 dX9_ratio_129 fi_X9_7 hq0 (sh_8_0 hq0) ?_
        refine vr_iload_n (pc := 132) 3 dX9_ratio_132 rfl rfl ?_
        refine vr_isub (pc := 133) dX9_ratio_133 ?_
        refine vr_aload_n (pc := 134) 0 dX9_ratio_134 rfl rfl ?_
        refine vr_getR (pc := 135) 6 dX9_ratio_135 fi_X9_26 hq0 (sh_8_6 hq0).1 ?_
        refine vr_iload_n (pc := 138) 1 dX9_ratio_138 rfl rfl ?_
        obtain ⟨hc8, h⟩ := ck_some h
        refine vr_iald (pc := 139) dX9_ratio_139 (sh_8_6 hq0).2 hc8 ?_
        refine vr_isub (pc := 140) dX9_ratio_140 ?_
        refine vr_istore (pc := 141) [(4, .int (((σ.1 q0 0) - (σ.1 (rid q0 5) a1.toNatClampNeg)) - (σ.1 (rid q0 6) a1.toNatClampNeg))), (0, .ref (g.1 q0)), (1, .int a1), (2, .int a2), (3, .int (σ.1 (rid q0 5) a1.toNatClampNeg))] dX9_ratio_141 (by decide) rfl ?_
        refine vr_iload (pc := 143) 0 dX9_ratio_143 rfl ?_
        refine vr_iload_n (pc := 145) 4 dX9_ratio_145 rfl rfl ?_
        refine vr_iload_n (pc := 146) 3 dX9_ratio_146 rfl rfl ?_
        obtain ⟨z9, hz10, h⟩ := ob_some h
        refine vr_callS (pc := 147) (ρ1 := (some (.long z9), σ)) [.int (((σ.1 q0 0) - (σ.1 (rid q0 5) a1.toNatClampNeg)) - (σ.1 (rid q0 6) a1.toNatClampNeg)), .int (σ.1 (rid q0 5) a1.toNatClampNeg), .int a2] dX9_ratio_147 (s_X9_lowest l g hz10) cw_X9_lowest ml_X9_189 (by decide) rfl rfl (Nat.le_of_ble_eq_true rfl) ?_
        have h := Option.some.inj h; subst h
        exact vr_lret (pc := 150) dX9_ratio_150 rfl rfl
      by_cases c11 : (σ.1 (rid q0 4) a1.toNatClampNeg) = 0
      · rw [if_pos c11] at h
        refine vr_tableIn (pc := 43) 37 80 dX9_ratio_43 (by rw [c11]; decide) (by rw [c11]; decide) (by rw [c11]; rfl) (by decide) ?_
        refine vr_aload_n (pc := 80) 1 dX9_ratio_80 rfl rfl ?_
        refine vr_getI (pc := 81) 0 dX9_ratio_81 fi_X9_7 hq0 (sh_8_0 hq0) ?_
        refine vr_iload_n (pc := 84) 0 dX9_ratio_84 rfl rfl ?_
        refine vr_isub (pc := 85) dX9_ratio_85 ?_
        refine vr_istore (pc := 86) [(4, .int ((σ.1 q0 0) - (σ.1 (rid q0 5) a1.toNatClampNeg))), (3, .int (σ.1 (rid q0 5) a1.toNatClampNeg)), (0, .ref (g.1 q0)), (1, .int a1), (2, .int a2)] dX9_ratio_86 (by decide) rfl ?_
        refine vr_goto (pc := 88) 143 dX9_ratio_88 (by decide) ?_
        refine vr_iload (pc := 143) 0 dX9_ratio_143 rfl ?_
        refine vr_iload_n (pc := 145) 1 dX9_ratio_145 rfl rfl ?_
        refine vr_iload_n (pc := 146) 4 dX9_ratio_146 rfl rfl ?_
        obtain ⟨z12, hz13, h⟩ := ob_some h
        refine vr_callS (pc := 147) (ρ1 := (some (.long z12), σ)) [.int ((σ.1 q0 0) - (σ.1 (rid q0 5) a1.toNatClampNeg)), .int (σ.1 (rid q0 5) a1.toNatClampNeg), .int a2] dX9_ratio_147 (s_X9_lowest l g hz13) cw_X9_lowest ml_X9_189 (by decide) rfl rfl (Nat.le_of_ble_eq_true rfl) ?_
        have h := Option.some.inj h; subst h
        exact vr_lret (pc := 150) dX9_ratio_150 rfl rfl
      · rw [if_neg c11] at h
        by_cases c14 : (σ.1 (rid q0 4) a1.toNatClampNeg) = 1
        · rw [if_pos c14] at h
          refine vr_tableIn (pc := 43) 48 91 dX9_ratio_43 (by rw [c14]; decide) (by rw [c14]; decide) (by rw [c14]; rfl) (by decide) ?_
          refine vr_aload_n (pc := 91) 1 dX9_ratio_91 rfl rfl ?_
          refine vr_getI (pc := 92) 0 dX9_ratio_92 fi_X9_7 hq0 (sh_8_0 hq0) ?_
          refine vr_iload_n (pc := 95) 0 dX9_ratio_95 rfl rfl ?_
          refine vr_iadd (pc := 96) dX9_ratio_96 ?_
          refine vr_istore (pc := 97) [(4, .int ((σ.1 q0 0) + (σ.1 (rid q0 5) a1.toNatClampNeg))), (3, .int (σ.1 (rid q0 5) a1.toNatClampNeg)), (0, .ref (g.1 q0)), (1, .int a1), (2, .int a2)] dX9_ratio_97 (by decide) rfl ?_
          refine vr_goto (pc := 99) 143 dX9_ratio_99 (by decide) ?_
          refine vr_iload (pc := 143) 0 dX9_ratio_143 rfl ?_
          refine vr_iload_n (pc := 145) 1 dX9_ratio_145 rfl rfl ?_
          refine vr_iload_n (pc := 146) 4 dX9_ratio_146 rfl rfl ?_
          obtain ⟨z15, hz16, h⟩ := ob_some h
          refine vr_callS (pc := 147) (ρ1 := (some (.long z15), σ)) [.int ((σ.1 q0 0) + (σ.1 (rid q0 5) a1.toNatClampNeg)), .int (σ.1 (rid q0 5) a1.toNatClampNeg), .int a2] dX9_ratio_147 (s_X9_lowest l g hz16) cw_X9_lowest ml_X9_189 (by decide) rfl rfl (Nat.le_of_ble_eq_true rfl) ?_
          have h := Option.some.inj h; subst h
          exact vr_lret (pc := 150) dX9_ratio_150 rfl rfl
        · rw [if_neg c14] at h
          by_cases c17 : (σ.1 (rid q0 4) a1.toNatClampNeg) = 2
          · rw [if_pos c17] at h
            refine vr_tableIn (pc := 43) 85 128 dX9_ratio_43 (by rw [c17]; decide) (by rw [c17]; decide) (by rw [c17]; rfl) (by decide) ?_
            refine vr_sub [1, 2, 3, 0] [(0, .ref (g.1 q0)), (1, .int a1), (2, .int a2), (3, .int (σ.1 (rid q0 5) a1.toNatClampNeg))] rfl ?_
            exact hj5 () h
          · rw [if_neg c17] at h
            by_cases c18 : (σ.1 (rid q0 4) a1.toNatClampNeg) = 3
            · rw [if_pos c18] at h
              refine vr_tableIn (pc := 43) 59 102 dX9_ratio_43 (by rw [c18]; decide) (by rw [c18]; decide) (by rw [c18]; rfl) (by decide) ?_
              refine vr_aload_n (pc := 102) 1 dX9_ratio_102 rfl rfl ?_
              refine vr_getI (pc := 103) 0 dX9_ratio_103 fi_X9_7 hq0 (sh_8_0 hq0) ?_
              refine vr_ineg (pc := 106) dX9_ratio_106 ?_
              refine vr_iload_n (pc := 107) 0 dX9_ratio_107 rfl rfl ?_
              refine vr_isub (pc := 108) dX9_ratio_108 ?_
              refine vr_istore (pc := 109) [(4, .int ((-(σ.1 q0 0)) - (σ.1 (rid q0 5) a1.toNatClampNeg))), (3, .int (σ.1 (rid q0 5) a1.toNatClampNeg)), (0, .ref (g.1 q0)), (1, .int a1), (2, .int a2)] dX9_ratio_109 (by decide) rfl ?_
              refine vr_goto (pc := 111) 143 dX9_ratio_111 (by decide) ?_
              refine vr_iload (pc := 143) 0 dX9_ratio_143 rfl ?_
              refine vr_iload_n (pc := 145) 1 dX9_ratio_145 rfl rfl ?_
              refine vr_iload_n (pc := 146) 4 dX9_ratio_146 rfl rfl ?_
              obtain ⟨z19, hz20, h⟩ := ob_some h
              refine vr_callS (pc := 147) (ρ1 := (some (.long z19), σ)) [.int ((-(σ.1 q0 0)) - (σ.1 (rid q0 5) a1.toNatClampNeg)), .int (σ.1 (rid q0 5) a1.toNatClampNeg), .int a2] dX9_ratio_147 (s_X9_lowest l g hz20) cw_X9_lowest ml_X9_189 (by decide) rfl rfl (Nat.le_of_ble_eq_true rfl) ?_
              have h := Option.some.inj h; subst h
              exact vr_lret (pc := 150) dX9_ratio_150 rfl rfl
            · rw [if_neg c18] at h
              by_cases c21 : (σ.1 (rid q0 4) a1.toNatClampNeg) = 4
              · rw [if_pos c21] at h
                refine vr_tableIn (pc := 43) 85 128 dX9_ratio_43 (by rw [c21]; decide) (by rw [c21]; decide) (by rw [c21]; rfl) (by decide) ?_
                refine vr_sub [1, 2, 3, 0] [(0, .ref (g.1 q0)), (1, .int a1), (2, .int a2), (3, .int (σ.1 (rid q0 5) a1.toNatClampNeg))] rfl ?_
                exact hj5 () h
              · rw [if_neg c21] at h
                by_cases c22 : (σ.1 (rid q0 4) a1.toNatClampNeg) = 5
                · rw [if_pos c22] at h
                  refine vr_tableIn (pc := 43) 71 114 dX9_ratio_43 (by rw [c22]; decide) (by rw [c22]; decide) (by rw [c22]; rfl) (by decide) ?_
                  refine vr_bipush (pc := 114) (-2) dX9_ratio_114 cb_m2 ?_
                  refine vr_aload_n (pc := 116) 1 dX9_ratio_116 rfl rfl ?_
                  refine vr_getI (pc := 117) 0 dX9_ratio_117 fi_X9_7 hq0 (sh_8_0 hq0) ?_
                  refine vr_iload_n (pc := 120) 0 dX9_ratio_120 rfl rfl ?_
                  refine vr_iadd (pc := 121) dX9_ratio_121 ?_
                  refine vr_imul (pc := 122) dX9_ratio_122 ?_
                  refine vr_istore (pc := 123) [(4, .int ((-2) * ((σ.1 q0 0) + (σ.1 (rid q0 5) a1.toNatClampNeg)))), (3, .int (σ.1 (rid q0 5) a1.toNatClampNeg)), (0, .ref (g.1 q0)), (1, .int a1), (2, .int a2)] dX9_ratio_123 (by decide) rfl ?_
                  refine vr_goto (pc := 125) 143 dX9_ratio_125 (by decide) ?_
                  refine vr_iload (pc := 143) 0 dX9_ratio_143 rfl ?_
                  refine vr_iload_n (pc := 145) 1 dX9_ratio_145 rfl rfl ?_
                  refine vr_iload_n (pc := 146) 4 dX9_ratio_146 rfl rfl ?_
                  obtain ⟨z23, hz24, h⟩ := ob_some h
                  refine vr_callS (pc := 147) (ρ1 := (some (.long z23), σ)) [.int ((-2) * ((σ.1 q0 0) + (σ.1 (rid q0 5) a1.toNatClampNeg))), .int (σ.1 (rid q0 5) a1.toNatClampNeg), .int a2] dX9_ratio_147 (s_X9_lowest l g hz24) cw_X9_lowest ml_X9_189 (by decide) rfl rfl (Nat.le_of_ble_eq_true rfl) ?_
                  have h := Option.some.inj h; subst h
                  exact vr_lret (pc := 150) dX9_ratio_150 rfl rfl
                · rw [if_neg c22] at h
                  refine vr_tableOut (pc := 43) 128 dX9_ratio_43 (tab_out (x := (σ.1 (rid q0 4) a1.toNatClampNeg)) 0 5 (fun z1 z2 => by rcases (show (σ.1 (rid q0 4) a1.toNatClampNeg).toInt = 0 ∨ (σ.1 (rid q0 4) a1.toNatClampNeg).toInt = 1 ∨ (σ.1 (rid q0 4) a1.toNatClampNeg).toInt = 2 ∨ (σ.1 (rid q0 4) a1.toNatClampNeg).toInt = 3 ∨ (σ.1 (rid q0 4) a1.toNatClampNeg).toInt = 4 ∨ (σ.1 (rid q0 4) a1.toNatClampNeg).toInt = 5 from by omega) with z | z | z | z | z | z <;> first | exact c11 (i32_of z (by decide)) | exact c14 (i32_of z (by decide)) | exact c17 (i32_of z (by decide)) | exact c18 (i32_of z (by decide)) | exact c21 (i32_of z (by decide)) | exact c22 (i32_of z (by decide)))) (by decide) ?_
                  refine vr_sub [1, 2, 3, 0] [(0, .ref (g.1 q0)), (1, .int a1), (2, .int a2), (3, .int (σ.1 (rid q0 5) a1.toNatClampNeg))] rfl ?_
                  exact hj5 () h
    · rw [if_pos c2] at h
      refine vr_aload_n (pc := 23) 0 dX9_ratio_23 rfl rfl ?_
      refine vr_bipush (pc := 24) (-2) dX9_ratio_24 cb_m2 ?_
      obtain ⟨z25, hz26, h⟩ := ob_some h
      refine vr_callV (pc := 26) (ρ1 := (some (.long z25.1), z25.2)) [.int (-2)] dX9_ratio_26 (s_X9_noFar l g (hq0) hz26) cw_X9_noFar ml_X9_185 hq0 rfl (by decide) (by decide) rfl rfl (Nat.le_of_ble_eq_true rfl) ?_
      have h := Option.some.inj h; subst h
      exact vr_lret (pc := 29) dX9_ratio_29 rfl rfl
  · rw [if_pos c1] at h
    refine vr_aload_n (pc := 8) 0 dX9_ratio_8 rfl rfl ?_
    refine vr_iconst (pc := 9) (-1) dX9_ratio_9 ci_m1 ?_
    obtain ⟨z27, hz28, h⟩ := ob_some h
    refine vr_callV (pc := 10) (ρ1 := (some (.long z27.1), z27.2)) [.int (-1)] dX9_ratio_10 (s_X9_noFar l g (hq0) hz28) cw_X9_noFar ml_X9_185 hq0 rfl (by decide) (by decide) rfl rfl (Nat.le_of_ble_eq_true rfl) ?_
    have h := Option.some.inj h; subst h
    exact vr_lret (pc := 13) dX9_ratio_13 rfl rfl
theorem dX9_wears_0 : decode cX9_wears 0 = .ok (.aload_n 0, 1) := by decide +kernel
theorem dX9_wears_1 : decode cX9_wears 1 = .ok (.iload_n 1, 1) := by decide +kernel
theorem dX9_wears_2 : decode cX9_wears 2 = .ok (.invokevirtual 169, 3) := by decide +kernel
theorem dX9_wears_5 : decode cX9_wears 5 = .ok (.ifCond .ne 9, 3) := by decide +kernel
theorem dX9_wears_8 : decode cX9_wears 8 = .ok (.aload_n 0, 1) := by decide +kernel
theorem dX9_wears_9 : decode cX9_wears 9 = .ok (.iconst (-1), 1) := by decide +kernel
theorem dX9_wears_10 : decode cX9_wears 10 = .ok (.invokevirtual 104, 3) := by decide +kernel
theorem dX9_wears_13 : decode cX9_wears 13 = .ok (.ireturn, 1) := by decide +kernel
theorem dX9_wears_14 : decode cX9_wears 14 = .ok (.aload_n 0, 1) := by decide +kernel
theorem dX9_wears_15 : decode cX9_wears 15 = .ok (.invokevirtual 182, 3) := by decide +kernel
theorem dX9_wears_18 : decode cX9_wears 18 = .ok (.aload_n 0, 1) := by decide +kernel
theorem dX9_wears_19 : decode cX9_wears 19 = .ok (.getfield 13, 3) := by decide +kernel
theorem dX9_wears_22 : decode cX9_wears 22 = .ok (.iload_n 1, 1) := by decide +kernel
theorem dX9_wears_23 : decode cX9_wears 23 = .ok (.iconst 1, 1) := by decide +kernel
theorem dX9_wears_24 : decode cX9_wears 24 = .ok (.aload_n 0, 1) := by decide +kernel
theorem dX9_wears_25 : decode cX9_wears 25 = .ok (.getfield 13, 3) := by decide +kernel
theorem dX9_wears_28 : decode cX9_wears 28 = .ok (.iload_n 1, 1) := by decide +kernel
theorem dX9_wears_29 : decode cX9_wears 29 = .ok (.iaload, 1) := by decide +kernel
theorem dX9_wears_30 : decode cX9_wears 30 = .ok (.isub, 1) := by decide +kernel
theorem dX9_wears_31 : decode cX9_wears 31 = .ok (.iastore, 1) := by decide +kernel
theorem dX9_wears_32 : decode cX9_wears 32 = .ok (.aload_n 0, 1) := by decide +kernel
theorem dX9_wears_33 : decode cX9_wears 33 = .ok (.getfield 13, 3) := by decide +kernel
theorem dX9_wears_36 : decode cX9_wears 36 = .ok (.iload_n 1, 1) := by decide +kernel
theorem dX9_wears_37 : decode cX9_wears 37 = .ok (.iaload, 1) := by decide +kernel
theorem dX9_wears_38 : decode cX9_wears 38 = .ok (.ireturn, 1) := by decide +kernel
set_option maxRecDepth 20000 in
set_option maxHeartbeats 4000000 in
theorem s_X9_wears (l : Launch) (g : GG) {q0 : Nat} (hq0 : kd q0 = 8) {a1 : Int32} {σ : SS} {r : Int32 × SS} (h : f_X9_wears q0 a1 σ = some r) : CT l g 2 yX9_wears cX9_wears 2 (some .int) [.ref (g.1 q0), .int a1] σ (some (.int r.1), r.2) := by
  refine CT.of (lv := [(0, .ref (g.1 q0)), (1, .int a1)]) RX9 (by decide +kernel) rfl (Nat.le_of_ble_eq_true rfl) rfl ?_
  unfold f_X9_wears at h
  refine vr_aload_n (pc := 0) 0 dX9_wears_0 rfl rfl ?_
  refine vr_iload_n (pc := 1) 1 dX9_wears_1 rfl rfl ?_
  refine vr_callV (pc := 2) (ρ1 := (some (.int (f_X9_isTooth q0 a1 σ)), σ)) [.int a1] dX9_wears_2 (s_X9_isTooth l g (hq0) rfl) cw_X9_isTooth ml_X9_169 hq0 rfl (by decide) (by decide) rfl rfl (Nat.le_of_ble_eq_true rfl) ?_
  refine vr_if_ne (pc := 5) 14 dX9_wears_5 (by decide) (fun c1 => ?_) (fun c1 => ?_)
  · rw [if_neg c1] at h
    refine vr_aload_n (pc := 14) 0 dX9_wears_14 rfl rfl ?_
    obtain ⟨z2, hz3, h⟩ := ob_some h
    refine vr_callV (pc := 15) (ρ1 := (none, z2)) [] dX9_wears_15 (s_X9_layBy l g (hq0) hz3) cw_X9_layBy ml_X9_182 hq0 rfl (by decide) (by decide) rfl rfl (Nat.le_of_ble_eq_true rfl) ?_
    refine vr_aload_n (pc := 18) 0 dX9_wears_18 rfl rfl ?_
    refine vr_getR (pc := 19) 1 dX9_wears_19 fi_X9_13 hq0 (sh_8_1 hq0).1 ?_
    refine vr_iload_n (pc := 22) 1 dX9_wears_22 rfl rfl ?_
    refine vr_iconst (pc := 23) 1 dX9_wears_23 ci_1 ?_
    refine vr_aload_n (pc := 24) 0 dX9_wears_24 rfl rfl ?_
    refine vr_getR (pc := 25) 1 dX9_wears_25 fi_X9_13 hq0 (sh_8_1 hq0).1 ?_
    refine vr_iload_n (pc := 28) 1 dX9_wears_28 rfl rfl ?_
    obtain ⟨hc4, h⟩ := ck_some h
    refine vr_iald (pc := 29) dX9_wears_29 (sh_8_1 hq0).2 hc4 ?_
    refine vr_isub (pc := 30) dX9_wears_30 ?_
    obtain ⟨hc5, h⟩ := ck_some h
    refine vr_iast (pc := 31) dX9_wears_31 (sh_8_1 hq0).2 hc5 ?_
    refine vr_aload_n (pc := 32) 0 dX9_wears_32 rfl rfl ?_
    refine vr_getR (pc := 33) 1 dX9_wears_33 fi_X9_13 hq0 (sh_8_1 hq0).1 ?_
    refine vr_iload_n (pc := 36) 1 dX9_wears_36 rfl rfl ?_
    obtain ⟨hc6, h⟩ := ck_some h
    refine vr_iald (pc := 37) dX9_wears_37 (sh_8_1 hq0).2 hc6 ?_
    have h := Option.some.inj h; subst h
    exact vr_iret (pc := 38) .int dX9_wears_38 rfl rfl rfl
  · rw [if_pos c1] at h
    refine vr_aload_n (pc := 8) 0 dX9_wears_8 rfl rfl ?_
    refine vr_iconst (pc := 9) (-1) dX9_wears_9 ci_m1 ?_
    obtain ⟨z7, hz8, h⟩ := ob_some h
    refine vr_callV (pc := 10) (ρ1 := (some (.int z7.1), z7.2)) [.int (-1)] dX9_wears_10 (s_X9_no l g (hq0) hz8) cw_X9_no ml_X9_104 hq0 rfl (by decide) (by decide) rfl rfl (Nat.le_of_ble_eq_true rfl) ?_
    have h := Option.some.inj h; subst h
    exact vr_iret (pc := 13) .int dX9_wears_13 rfl rfl rfl
theorem dX9_tooth_0 : decode cX9_tooth 0 = .ok (.aload_n 0, 1) := by decide +kernel
theorem dX9_tooth_1 : decode cX9_tooth 1 = .ok (.iload_n 1, 1) := by decide +kernel
theorem dX9_tooth_2 : decode cX9_tooth 2 = .ok (.invokevirtual 169, 3) := by decide +kernel
theorem dX9_tooth_5 : decode cX9_tooth 5 = .ok (.ifCond .ne 9, 3) := by decide +kernel
theorem dX9_tooth_8 : decode cX9_tooth 8 = .ok (.aload_n 0, 1) := by decide +kernel
theorem dX9_tooth_9 : decode cX9_tooth 9 = .ok (.iconst (-1), 1) := by decide +kernel
theorem dX9_tooth_10 : decode cX9_tooth 10 = .ok (.invokevirtual 104, 3) := by decide +kernel
theorem dX9_tooth_13 : decode cX9_tooth 13 = .ok (.ireturn, 1) := by decide +kernel
theorem dX9_tooth_14 : decode cX9_tooth 14 = .ok (.iload_n 2, 1) := by decide +kernel
theorem dX9_tooth_15 : decode cX9_tooth 15 = .ok (.iconst 0, 1) := by decide +kernel
theorem dX9_tooth_16 : decode cX9_tooth 16 = .ok (.iconst 1, 1) := by decide +kernel
theorem dX9_tooth_17 : decode cX9_tooth 17 = .ok (.invokestatic 111, 3) := by decide +kernel
theorem dX9_tooth_20 : decode cX9_tooth 20 = .ok (.ifCond .ne 10, 3) := by decide +kernel
theorem dX9_tooth_23 : decode cX9_tooth 23 = .ok (.aload_n 0, 1) := by decide +kernel
theorem dX9_tooth_24 : decode cX9_tooth 24 = .ok (.bipush (-2), 2) := by decide +kernel
theorem dX9_tooth_26 : decode cX9_tooth 26 = .ok (.invokevirtual 104, 3) := by decide +kernel
theorem dX9_tooth_29 : decode cX9_tooth 29 = .ok (.ireturn, 1) := by decide +kernel
theorem dX9_tooth_30 : decode cX9_tooth 30 = .ok (.iload_n 2, 1) := by decide +kernel
theorem dX9_tooth_31 : decode cX9_tooth 31 = .ok (.ifCond .ne 12, 3) := by decide +kernel
theorem dX9_tooth_34 : decode cX9_tooth 34 = .ok (.aload_n 0, 1) := by decide +kernel
theorem dX9_tooth_35 : decode cX9_tooth 35 = .ok (.getfield 13, 3) := by decide +kernel
theorem dX9_tooth_38 : decode cX9_tooth 38 = .ok (.iload_n 1, 1) := by decide +kernel
theorem dX9_tooth_39 : decode cX9_tooth 39 = .ok (.iaload, 1) := by decide +kernel
theorem dX9_tooth_40 : decode cX9_tooth 40 = .ok (.goto 9, 3) := by decide +kernel
theorem dX9_tooth_43 : decode cX9_tooth 43 = .ok (.aload_n 0, 1) := by decide +kernel
theorem dX9_tooth_44 : decode cX9_tooth 44 = .ok (.getfield 17, 3) := by decide +kernel
theorem dX9_tooth_47 : decode cX9_tooth 47 = .ok (.iload_n 1, 1) := by decide +kernel
theorem dX9_tooth_48 : decode cX9_tooth 48 = .ok (.iaload, 1) := by decide +kernel
theorem dX9_tooth_49 : decode cX9_tooth 49 = .ok (.ireturn, 1) := by decide +kernel
set_option maxRecDepth 20000 in
set_option maxHeartbeats 4000000 in
theorem s_X9_tooth (l : Launch) (g : GG) {q0 : Nat} (hq0 : kd q0 = 8) {a1 : Int32} {a2 : Int32} {σ : SS} {r : Int32 × SS} (h : f_X9_tooth q0 a1 a2 σ = some r) : CT l g 2 yX9_tooth cX9_tooth 3 (some .int) [.ref (g.1 q0), .int a1, .int a2] σ (some (.int r.1), r.2) := by
  refine CT.of (lv := [(0, .ref (g.1 q0)), (1, .int a1), (2, .int a2)]) RX9 (by decide +kernel) rfl (Nat.le_of_ble_eq_true rfl) rfl ?_
  unfold f_X9_tooth at h
  refine vr_aload_n (pc := 0) 0 dX9_tooth_0 rfl rfl ?_
  refine vr_iload_n (pc := 1) 1 dX9_tooth_1 rfl rfl ?_
  refine vr_callV (pc := 2) (ρ1 := (some (.int (f_X9_isTooth q0 a1 σ)), σ)) [.int a1] dX9_tooth_2 (s_X9_isTooth l g (hq0) rfl) cw_X9_isTooth ml_X9_169 hq0 rfl (by decide) (by decide) rfl rfl (Nat.le_of_ble_eq_true rfl) ?_
  refine vr_if_ne (pc := 5) 14 dX9_tooth_5 (by decide) (fun c1 => ?_) (fun c1 => ?_)
  · rw [if_neg c1] at h
    refine vr_iload_n (pc := 14) 2 dX9_tooth_14 rfl rfl ?_
    refine vr_iconst (pc := 15) 0 dX9_tooth_15 ci_0 ?_
    refine vr_iconst (pc := 16) 1 dX9_tooth_16 ci_1 ?_
    refine vr_callS (pc := 17) (ρ1 := (some (.int (f_X9_within a2 0 1)), σ)) [.int a2, .int 0, .int 1] dX9_tooth_17 (s_X9_within l g rfl) cw_X9_within ml_X9_111 (by decide) rfl rfl (Nat.le_of_ble_eq_true rfl) ?_
    refine vr_if_ne (pc := 20) 30 dX9_tooth_20 (by decide) (fun c2 => ?_) (fun c2 => ?_)
    · rw [if_neg c2] at h
      refine vr_iload_n (pc := 30) 2 dX9_tooth_30 rfl rfl ?_
      refine vr_if_ne (pc := 31) 43 dX9_tooth_31 (by decide) (fun c3 => ?_) (fun c3 => ?_)
      · rw [if_neg c3] at h
        refine vr_aload_n (pc := 43) 0 dX9_tooth_43 rfl rfl ?_
        refine vr_getR (pc := 44) 2 dX9_tooth_44 fi_X9_17 hq0 (sh_8_2 hq0).1 ?_
        refine vr_iload_n (pc := 47) 1 dX9_tooth_47 rfl rfl ?_
        obtain ⟨hc4, h⟩ := ck_some h
        refine vr_iald (pc := 48) dX9_tooth_48 (sh_8_2 hq0).2 hc4 ?_
        have h := Option.some.inj h; subst h
        exact vr_iret (pc := 49) .int dX9_tooth_49 rfl rfl rfl
      · rw [if_pos c3] at h
        refine vr_aload_n (pc := 34) 0 dX9_tooth_34 rfl rfl ?_
        refine vr_getR (pc := 35) 1 dX9_tooth_35 fi_X9_13 hq0 (sh_8_1 hq0).1 ?_
        refine vr_iload_n (pc := 38) 1 dX9_tooth_38 rfl rfl ?_
        obtain ⟨hc5, h⟩ := ck_some h
        refine vr_iald (pc := 39) dX9_tooth_39 (sh_8_1 hq0).2 hc5 ?_
        refine vr_goto (pc := 40) 49 dX9_tooth_40 (by decide) ?_
        have h := Option.some.inj h; subst h
        exact vr_iret (pc := 49) .int dX9_tooth_49 rfl rfl rfl
    · rw [if_pos c2] at h
      refine vr_aload_n (pc := 23) 0 dX9_tooth_23 rfl rfl ?_
      refine vr_bipush (pc := 24) (-2) dX9_tooth_24 cb_m2 ?_
      obtain ⟨z6, hz7, h⟩ := ob_some h
      refine vr_callV (pc := 26) (ρ1 := (some (.int z6.1), z6.2)) [.int (-2)] dX9_tooth_26 (s_X9_no l g (hq0) hz7) cw_X9_no ml_X9_104 hq0 rfl (by decide) (by decide) rfl rfl (Nat.le_of_ble_eq_true rfl) ?_
      have h := Option.some.inj h; subst h
      exact vr_iret (pc := 29) .int dX9_tooth_29 rfl rfl rfl
  · rw [if_pos c1] at h
    refine vr_aload_n (pc := 8) 0 dX9_tooth_8 rfl rfl ?_
    refine vr_iconst (pc := 9) (-1) dX9_tooth_9 ci_m1 ?_
    obtain ⟨z8, hz9, h⟩ := ob_some h
    refine vr_callV (pc := 10) (ρ1 := (some (.int z8.1), z8.2)) [.int (-1)] dX9_tooth_10 (s_X9_no l g (hq0) hz9) cw_X9_no ml_X9_104 hq0 rfl (by decide) (by decide) rfl rfl (Nat.le_of_ble_eq_true rfl) ?_
    have h := Option.some.inj h; subst h
    exact vr_iret (pc := 13) .int dX9_tooth_13 rfl rfl rfl
theorem dX9_draws_0 : decode cX9_draws 0 = .ok (.iconst 0, 1) := by decide +kernel
theorem dX9_draws_1 : decode cX9_draws 1 = .ok (.istore 5, 2) := by decide +kernel
theorem dX9_draws_3 : decode cX9_draws 3 = .ok (.iload 5, 2) := by decide +kernel
theorem dX9_draws_5 : decode cX9_draws 5 = .ok (.aload_n 0, 1) := by decide +kernel
theorem dX9_draws_6 : decode cX9_draws 6 = .ok (.getfield 7, 3) := by decide +kernel
theorem dX9_draws_9 : decode cX9_draws 9 = .ok (.if_icmp .ge 17, 3) := by decide +kernel
theorem dX9_draws_12 : decode cX9_draws 12 = .ok (.aload_n 0, 1) := by decide +kernel
theorem dX9_draws_13 : decode cX9_draws 13 = .ok (.getfield 65, 3) := by decide +kernel
theorem dX9_draws_16 : decode cX9_draws 16 = .ok (.iload 5, 2) := by decide +kernel
theorem dX9_draws_18 : decode cX9_draws 18 = .ok (.iconst (-1), 1) := by decide +kernel
theorem dX9_draws_19 : decode cX9_draws 19 = .ok (.iastore, 1) := by decide +kernel
theorem dX9_draws_20 : decode cX9_draws 20 = .ok (.iinc 5 1, 3) := by decide +kernel
theorem dX9_draws_23 : decode cX9_draws 23 = .ok (.goto (-20), 3) := by decide +kernel
theorem dX9_draws_26 : decode cX9_draws 26 = .ok (.aload_n 0, 1) := by decide +kernel
theorem dX9_draws_27 : decode cX9_draws 27 = .ok (.iconst 0, 1) := by decide +kernel
theorem dX9_draws_28 : decode cX9_draws 28 = .ok (.putfield 193, 3) := by decide +kernel
theorem dX9_draws_31 : decode cX9_draws 31 = .ok (.iload 4, 2) := by decide +kernel
theorem dX9_draws_33 : decode cX9_draws 33 = .ok (.istore 5, 2) := by decide +kernel
theorem dX9_draws_35 : decode cX9_draws 35 = .ok (.aload_n 0, 1) := by decide +kernel
theorem dX9_draws_36 : decode cX9_draws 36 = .ok (.getfield 65, 3) := by decide +kernel
theorem dX9_draws_39 : decode cX9_draws 39 = .ok (.iload 5, 2) := by decide +kernel
theorem dX9_draws_41 : decode cX9_draws 41 = .ok (.iaload, 1) := by decide +kernel
theorem dX9_draws_42 : decode cX9_draws 42 = .ok (.ifCond .ge 60, 3) := by decide +kernel
theorem dX9_draws_45 : decode cX9_draws 45 = .ok (.aload_n 0, 1) := by decide +kernel
theorem dX9_draws_46 : decode cX9_draws 46 = .ok (.getfield 65, 3) := by decide +kernel
theorem dX9_draws_49 : decode cX9_draws 49 = .ok (.iload 5, 2) := by decide +kernel
theorem dX9_draws_51 : decode cX9_draws 51 = .ok (.aload_n 0, 1) := by decide +kernel
theorem dX9_draws_52 : decode cX9_draws 52 = .ok (.getfield 193, 3) := by decide +kernel
theorem dX9_draws_55 : decode cX9_draws 55 = .ok (.iastore, 1) := by decide +kernel
theorem dX9_draws_56 : decode cX9_draws 56 = .ok (.aload_n 0, 1) := by decide +kernel
theorem dX9_draws_57 : decode cX9_draws 57 = .ok (.getfield 59, 3) := by decide +kernel
theorem dX9_draws_60 : decode cX9_draws 60 = .ok (.aload_n 0, 1) := by decide +kernel
theorem dX9_draws_61 : decode cX9_draws 61 = .ok (.getfield 193, 3) := by decide +kernel
theorem dX9_draws_64 : decode cX9_draws 64 = .ok (.iload 5, 2) := by decide +kernel
theorem dX9_draws_66 : decode cX9_draws 66 = .ok (.iastore, 1) := by decide +kernel
theorem dX9_draws_67 : decode cX9_draws 67 = .ok (.aload_n 0, 1) := by decide +kernel
theorem dX9_draws_68 : decode cX9_draws 68 = .ok (.iload_n 1, 1) := by decide +kernel
theorem dX9_draws_69 : decode cX9_draws 69 = .ok (.iload_n 2, 1) := by decide +kernel
theorem dX9_draws_70 : decode cX9_draws 70 = .ok (.iload_n 3, 1) := by decide +kernel
theorem dX9_draws_71 : decode cX9_draws 71 = .ok (.iload 5, 2) := by decide +kernel
theorem dX9_draws_73 : decode cX9_draws 73 = .ok (.invokevirtual 172, 3) := by decide +kernel
theorem dX9_draws_76 : decode cX9_draws 76 = .ok (.istore 5, 2) := by decide +kernel
theorem dX9_draws_78 : decode cX9_draws 78 = .ok (.aload_n 0, 1) := by decide +kernel
theorem dX9_draws_79 : decode cX9_draws 79 = .ok (.getfield 62, 3) := by decide +kernel
theorem dX9_draws_82 : decode cX9_draws 82 = .ok (.aload_n 0, 1) := by decide +kernel
theorem dX9_draws_83 : decode cX9_draws 83 = .ok (.getfield 193, 3) := by decide +kernel
theorem dX9_draws_86 : decode cX9_draws 86 = .ok (.iload 5, 2) := by decide +kernel
theorem dX9_draws_88 : decode cX9_draws 88 = .ok (.iastore, 1) := by decide +kernel
theorem dX9_draws_89 : decode cX9_draws 89 = .ok (.aload_n 0, 1) := by decide +kernel
theorem dX9_draws_90 : decode cX9_draws 90 = .ok (.dup, 1) := by decide +kernel
theorem dX9_draws_91 : decode cX9_draws 91 = .ok (.getfield 193, 3) := by decide +kernel
theorem dX9_draws_94 : decode cX9_draws 94 = .ok (.iconst 1, 1) := by decide +kernel
theorem dX9_draws_95 : decode cX9_draws 95 = .ok (.iadd, 1) := by decide +kernel
theorem dX9_draws_96 : decode cX9_draws 96 = .ok (.putfield 193, 3) := by decide +kernel
theorem dX9_draws_99 : decode cX9_draws 99 = .ok (.goto (-64), 3) := by decide +kernel
theorem dX9_draws_102 : decode cX9_draws 102 = .ok (.aload_n 0, 1) := by decide +kernel
theorem dX9_draws_103 : decode cX9_draws 103 = .ok (.aload_n 0, 1) := by decide +kernel
theorem dX9_draws_104 : decode cX9_draws 104 = .ok (.getfield 65, 3) := by decide +kernel
theorem dX9_draws_107 : decode cX9_draws 107 = .ok (.iload 5, 2) := by decide +kernel
theorem dX9_draws_109 : decode cX9_draws 109 = .ok (.iaload, 1) := by decide +kernel
theorem dX9_draws_110 : decode cX9_draws 110 = .ok (.putfield 196, 3) := by decide +kernel
theorem dX9_draws_113 : decode cX9_draws 113 = .ok (.return_, 1) := by decide +kernel
set_option maxRecDepth 20000 in
set_option maxHeartbeats 4000000 in
theorem v_X9_draws_L3 (l : Launch) (g : GG) {r : SS} {κ : Nat → Int32 → Int32 → Int32 → Int32 → SS → Option SS} (hκ : ∀ (p0 : Nat) (y1 : Int32) (y2 : Int32) (y3 : Int32) (y4 : Int32) (τ : SS) (hp0 : kd p0 = 8), κ p0 y1 y2 y3 y4 τ = some r → VV l g 2 RX9 cX9_draws 6 none (none, r) 26 [(0, .ref (g.1 p0)), (1, .int y1), (2, .int y2), (3, .int y3), (4, .int y4)] [] τ) : ∀ (fu : Nat) (q0 : Nat) (x1 : Int32) (x2 : Int32) (x3 : Int32) (x4 : Int32) (x5 : Int32) (hq0 : kd q0 = 8) (σ : SS), f_X9_draws_L3 κ fu q0 x1 x2 x3 x4 x5 σ = some r → VV l g 2 RX9 cX9_draws 6 none (none, r) 3 [(0, .ref (g.1 q0)), (1, .int x1), (2, .int x2), (3, .int x3), (4, .int x4), (5, .int x5)] [] σ := by
  intro fu
  induction fu with
  | zero => intro q0 x1 x2 x3 x4 x5 hq0 σ h; cases h
  | succ fu ih =>
    intro q0 x1 x2 x3 x4 x5 hq0 σ h
    simp only [f_X9_draws_L3] at h
    refine vr_iload (pc := 3) 5 dX9_draws_3 rfl ?_
    refine vr_aload_n (pc := 5) 0 dX9_draws_5 rfl rfl ?_
    refine vr_getI (pc := 6) 0 dX9_draws_6 fi_X9_7 hq0 (sh_8_0 hq0) ?_
    refine vr_icmp_ge (pc := 9) 26 dX9_draws_9 (by decide) (fun c1 => ?_) (fun c1 => ?_)
    · rw [if_pos c1] at h
      refine vr_sub [0, 1, 2, 3, 4] [(0, .ref (g.1 q0)), (1, .int x1), (2, .int x2), (3, .int x3), (4, .int x4)] rfl ?_
      exact hκ q0 x1 x2 x3 x4 σ (hq0) h
    · rw [if_neg c1] at h
      refine vr_aload_n (pc := 12) 0 dX9_draws_12 rfl rfl ?_
      refine vr_getR (pc := 13) 22 dX9_draws_13 fi_X9_65 hq0 (sh_8_22 hq0).1 ?_
      refine vr_iload (pc := 16) 5 dX9_draws_16 rfl ?_
      refine vr_iconst (pc := 18) (-1) dX9_draws_18 ci_m1 ?_
      obtain ⟨hc2, h⟩ := ck_some h
      refine vr_iast (pc := 19) dX9_draws_19 (sh_8_22 hq0).2 hc2 ?_
      refine vr_iinc (pc := 20) [(5, .int (x5 + 1)), (0, .ref (g.1 q0)), (1, .int x1), (2, .int x2), (3, .int x3), (4, .int x4)] 5 dX9_draws_20 rfl (congrArg (fun z => x5 + z) ci_1) (by decide) rfl ?_
      refine vr_goto (pc := 23) 3 dX9_draws_23 (by decide) ?_
      refine vr_sub [1, 2, 3, 4, 5, 0] [(0, .ref (g.1 q0)), (1, .int x1), (2, .int x2), (3, .int x3), (4, .int x4), (5, .int (x5 + 1))] rfl ?_
      exact ih q0 x1 x2 x3 x4 (x5 + 1) (hq0) (sI σ (rid q0 22) x5.toNatClampNeg (-1)) h
set_option maxRecDepth 20000 in
set_option maxHeartbeats 4000000 in
theorem v_X9_draws_L35 (l : Launch) (g : GG) {r : SS} {κ : Nat → Int32 → SS → Option SS} (hκ : ∀ (p0 : Nat) (y5 : Int32) (τ : SS) (hp0 : kd p0 = 8), κ p0 y5 τ = some r → VV l g 2 RX9 cX9_draws 6 none (none, r) 102 [(0, .ref (g.1 p0)), (5, .int y5)] [] τ) : ∀ (fu : Nat) (q0 : Nat) (x1 : Int32) (x2 : Int32) (x3 : Int32) (x5 : Int32) (hq0 : kd q0 = 8) (σ : SS), f_X9_draws_L35 κ fu q0 x1 x2 x3 x5 σ = some r → VV l g 2 RX9 cX9_draws 6 none (none, r) 35 [(0, .ref (g.1 q0)), (1, .int x1), (2, .int x2), (3, .int x3), (5, .int x5)] [] σ := by
  intro fu
  induction fu with
  | zero => intro q0 x1 x2 x3 x5 hq0 σ h; cases h
  | succ fu ih =>
    intro q0 x1 x2 x3 x5 hq0 σ h
    simp only [f_X9_draws_L35] at h
    refine vr_aload_n (pc := 35) 0 dX9_draws_35 rfl rfl ?_
    refine vr_getR (pc := 36) 22 dX9_draws_36 fi_X9_65 hq0 (sh_8_22 hq0).1 ?_
    refine vr_iload (pc := 39) 4 dX9_draws_39 rfl ?_
    obtain ⟨hc3, h⟩ := ck_some h
    refine vr_iald (pc := 41) dX9_draws_41 (sh_8_22 hq0).2 hc3 ?_
    refine vr_if_ge (pc := 42) 102 dX9_draws_42 (by decide) (fun c4 => ?_) (fun c4 => ?_)
    · rw [if_pos c4] at h
      refine vr_sub [0, 4] [(0, .ref (g.1 q0)), (5, .int x5)] rfl ?_
      exact hκ q0 x5 σ (hq0) h
    · rw [if_neg c4] at h
      refine vr_aload_n (pc := 45) 0 dX9_draws_45 rfl rfl ?_
      refine vr_getR (pc := 46) 22 dX9_draws_46 fi_X9_65 hq0 (sh_8_22 hq0).1 ?_
      refine vr_iload (pc := 49) 4 dX9_draws_49 rfl ?_
      refine vr_aload_n (pc := 51) 0 dX9_draws_51 rfl rfl ?_
      refine vr_getI (pc := 52) 23 dX9_draws_52 fi_X9_193 hq0 (sh_8_23 hq0) ?_
      obtain ⟨hc5, h⟩ := ck_some h
      refine vr_iast (pc := 55) dX9_draws_55 (sh_8_22 hq0).2 hc5 ?_
      refine vr_aload_n (pc := 56) 0 dX9_draws_56 rfl rfl ?_
      refine vr_getR (pc := 57) 20 dX9_draws_57 fi_X9_59 hq0 (sh_8_20 hq0).1 ?_
      refine vr_aload_n (pc := 60) 0 dX9_draws_60 rfl rfl ?_
      refine vr_getI (pc := 61) 23 dX9_draws_61 fi_X9_193 hq0 (sh_8_23 hq0) ?_
      refine vr_iload (pc := 64) 4 dX9_draws_64 rfl ?_
      obtain ⟨hc6, h⟩ := ck_some h
      refine vr_iast (pc := 66) dX9_draws_66 (sh_8_20 hq0).2 hc6 ?_
      refine vr_aload_n (pc := 67) 0 dX9_draws_67 rfl rfl ?_
      refine vr_iload_n (pc := 68) 1 dX9_draws_68 rfl rfl ?_
      refine vr_iload_n (pc := 69) 2 dX9_draws_69 rfl rfl ?_
      refine vr_iload_n (pc := 70) 3 dX9_draws_70 rfl rfl ?_
      refine vr_iload (pc := 71) 4 dX9_draws_71 rfl ?_
      obtain ⟨z7, hz8, h⟩ := ob_some h
      refine vr_callV (pc := 73) (ρ1 := (some (.int z7), (sI (sI σ (rid q0 22) x5.toNatClampNeg (σ.1 q0 23)) (rid q0 20) ((sI σ (rid q0 22) x5.toNatClampNeg (σ.1 q0 23)).1 q0 23).toNatClampNeg x5))) [.int x1, .int x2, .int x3, .int x5] dX9_draws_73 (s_X9_nextOf l g (hq0) hz8) cw_X9_nextOf ml_X9_172 hq0 rfl (by decide) (by decide) rfl rfl (Nat.le_of_ble_eq_true rfl) ?_
      refine vr_istore (pc := 76) [(5, .int z7), (0, .ref (g.1 q0)), (1, .int x1), (2, .int x2), (3, .int x3)] dX9_draws_76 (by decide) rfl ?_
      refine vr_aload_n (pc := 78) 1 dX9_draws_78 rfl rfl ?_
      refine vr_getR (pc := 79) 21 dX9_draws_79 fi_X9_62 hq0 (sh_8_21 hq0).1 ?_
      refine vr_aload_n (pc := 82) 1 dX9_draws_82 rfl rfl ?_
      refine vr_getI (pc := 83) 23 dX9_draws_83 fi_X9_193 hq0 (sh_8_23 hq0) ?_
      refine vr_iload (pc := 86) 0 dX9_draws_86 rfl ?_
      obtain ⟨hc9, h⟩ := ck_some h
      refine vr_iast (pc := 88) dX9_draws_88 (sh_8_21 hq0).2 hc9 ?_
      refine vr_aload_n (pc := 89) 1 dX9_draws_89 rfl rfl ?_
      refine vr_dup (pc := 90) dX9_draws_90 rfl ?_
      refine vr_getI (pc := 91) 23 dX9_draws_91 fi_X9_193 hq0 (sh_8_23 hq0) ?_
      refine vr_iconst (pc := 94) 1 dX9_draws_94 ci_1 ?_
      refine vr_iadd (pc := 95) dX9_draws_95 ?_
      refine vr_putI (pc := 96) 23 dX9_draws_96 fi_X9_193 (fw_8_23 _) hq0 (sh_8_23 hq0) ?_
      refine vr_goto (pc := 99) 35 dX9_draws_99 (by decide) ?_
      refine vr_sub [1, 2, 3, 4, 0] [(0, .ref (g.1 q0)), (1, .int x1), (2, .int x2), (3, .int x3), (5, .int z7)] rfl ?_
      exact ih q0 x1 x2 x3 z7 (hq0) (sI (sI (sI (sI σ (rid q0 22) x5.toNatClampNeg (σ.1 q0 23)) (rid q0 20) ((sI σ (rid q0 22) x5.toNatClampNeg (σ.1 q0 23)).1 q0 23).toNatClampNeg x5) (rid q0 21) ((sI (sI σ (rid q0 22) x5.toNatClampNeg (σ.1 q0 23)) (rid q0 20) ((sI σ (rid q0 22) x5.toNatClampNeg (σ.1 q0 23)).1 q0 23).toNatClampNeg x5).1 q0 23).toNatClampNeg z7) q0 23 (((sI (sI (sI σ (rid q0 22) x5.toNatClampNeg (σ.1 q0 23)) (rid q0 20) ((sI σ (rid q0 22) x5.toNatClampNeg (σ.1 q0 23)).1 q0 23).toNatClampNeg x5) (rid q0 21) ((sI (sI σ (rid q0 22) x5.toNatClampNeg (σ.1 q0 23)) (rid q0 20) ((sI σ (rid q0 22) x5.toNatClampNeg (σ.1 q0 23)).1 q0 23).toNatClampNeg x5).1 q0 23).toNatClampNeg z7).1 q0 23) + 1)) h
set_option maxRecDepth 20000 in
set_option maxHeartbeats 4000000 in
theorem s_X9_draws (l : Launch) (g : GG) {q0 : Nat} (hq0 : kd q0 = 8) {a1 : Int32} {a2 : Int32} {a3 : Int32} {a4 : Int32} {σ : SS} {r : SS} (h : f_X9_draws q0 a1 a2 a3 a4 σ = some r) : CT l g 2 yX9_draws cX9_draws 6 none [.ref (g.1 q0), .int a1, .int a2, .int a3, .int a4] σ (none, r) := by
  refine CT.of (lv := [(0, .ref (g.1 q0)), (1, .int a1), (2, .int a2), (3, .int a3), (4, .int a4)]) RX9 (by decide +kernel) rfl (Nat.le_of_ble_eq_true rfl) rfl ?_
  unfold f_X9_draws at h
  refine vr_iconst (pc := 0) 0 dX9_draws_0 ci_0 ?_
  refine vr_istore (pc := 1) [(5, .int 0), (0, .ref (g.1 q0)), (1, .int a1), (2, .int a2), (3, .int a3), (4, .int a4)] dX9_draws_1 (by decide) rfl ?_
  refine vr_sub [1, 2, 3, 4, 5, 0] [(0, .ref (g.1 q0)), (1, .int a1), (2, .int a2), (3, .int a3), (4, .int a4), (5, .int 0)] rfl ?_
  refine v_X9_draws_L3 l g (fun p0 y1 y2 y3 y4 τ hp0 h => ?_) FU q0 a1 a2 a3 a4 0 (hq0) σ h
  refine vr_aload_n (pc := 26) 0 dX9_draws_26 rfl rfl ?_
  refine vr_iconst (pc := 27) 0 dX9_draws_27 ci_0 ?_
  refine vr_putI (pc := 28) 23 dX9_draws_28 fi_X9_193 (fw_8_23 _) hp0 (sh_8_23 hp0) ?_
  refine vr_iload (pc := 31) 4 dX9_draws_31 rfl ?_
  refine vr_istore (pc := 33) [(5, .int y4), (0, .ref (g.1 p0)), (1, .int y1), (2, .int y2), (3, .int y3), (4, .int y4)] dX9_draws_33 (by decide) rfl ?_
  refine vr_sub [1, 2, 3, 4, 0] [(0, .ref (g.1 p0)), (1, .int y1), (2, .int y2), (3, .int y3), (5, .int y4)] rfl ?_
  refine v_X9_draws_L35 l g (fun p0 y5 τ hp0 h => ?_) FU p0 y1 y2 y3 y4 (hp0) (sI τ p0 23 0) h
  refine vr_aload_n (pc := 102) 0 dX9_draws_102 rfl rfl ?_
  refine vr_aload_n (pc := 103) 0 dX9_draws_103 rfl rfl ?_
  refine vr_getR (pc := 104) 22 dX9_draws_104 fi_X9_65 hp0 (sh_8_22 hp0).1 ?_
  refine vr_iload (pc := 107) 1 dX9_draws_107 rfl ?_
  obtain ⟨hc10, h⟩ := ck_some h
  refine vr_iald (pc := 109) dX9_draws_109 (sh_8_22 hp0).2 hc10 ?_
  refine vr_putI (pc := 110) 24 dX9_draws_110 fi_X9_196 (fw_8_24 _) hp0 (sh_8_24 hp0) ?_
  have h := Option.some.inj h; subst h
  exact vr_vret (pc := 113) dX9_draws_113 rfl rfl
theorem dX9_drawsBy_0 : decode cX9_drawsBy 0 = .ok (.aload_n 0, 1) := by decide +kernel
theorem dX9_drawsBy_1 : decode cX9_drawsBy 1 = .ok (.aload_n 0, 1) := by decide +kernel
theorem dX9_drawsBy_2 : decode cX9_drawsBy 2 = .ok (.getfield 20, 3) := by decide +kernel
theorem dX9_drawsBy_5 : decode cX9_drawsBy 5 = .ok (.iload_n 1, 1) := by decide +kernel
theorem dX9_drawsBy_6 : decode cX9_drawsBy 6 = .ok (.iaload, 1) := by decide +kernel
theorem dX9_drawsBy_7 : decode cX9_drawsBy 7 = .ok (.aload_n 0, 1) := by decide +kernel
theorem dX9_drawsBy_8 : decode cX9_drawsBy 8 = .ok (.getfield 23, 3) := by decide +kernel
theorem dX9_drawsBy_11 : decode cX9_drawsBy 11 = .ok (.iload_n 1, 1) := by decide +kernel
theorem dX9_drawsBy_12 : decode cX9_drawsBy 12 = .ok (.iaload, 1) := by decide +kernel
theorem dX9_drawsBy_13 : decode cX9_drawsBy 13 = .ok (.aload_n 0, 1) := by decide +kernel
theorem dX9_drawsBy_14 : decode cX9_drawsBy 14 = .ok (.getfield 26, 3) := by decide +kernel
theorem dX9_drawsBy_17 : decode cX9_drawsBy 17 = .ok (.iload_n 1, 1) := by decide +kernel
theorem dX9_drawsBy_18 : decode cX9_drawsBy 18 = .ok (.iaload, 1) := by decide +kernel
theorem dX9_drawsBy_19 : decode cX9_drawsBy 19 = .ok (.aload_n 0, 1) := by decide +kernel
theorem dX9_drawsBy_20 : decode cX9_drawsBy 20 = .ok (.getfield 32, 3) := by decide +kernel
theorem dX9_drawsBy_23 : decode cX9_drawsBy 23 = .ok (.iload_n 1, 1) := by decide +kernel
theorem dX9_drawsBy_24 : decode cX9_drawsBy 24 = .ok (.iaload, 1) := by decide +kernel
theorem dX9_drawsBy_25 : decode cX9_drawsBy 25 = .ok (.invokevirtual 199, 3) := by decide +kernel
theorem dX9_drawsBy_28 : decode cX9_drawsBy 28 = .ok (.return_, 1) := by decide +kernel
set_option maxRecDepth 20000 in
set_option maxHeartbeats 4000000 in
theorem s_X9_drawsBy (l : Launch) (g : GG) {q0 : Nat} (hq0 : kd q0 = 8) {a1 : Int32} {σ : SS} {r : SS} (h : f_X9_drawsBy q0 a1 σ = some r) : CT l g 3 yX9_drawsBy cX9_drawsBy 2 none [.ref (g.1 q0), .int a1] σ (none, r) := by
  refine CT.of (lv := [(0, .ref (g.1 q0)), (1, .int a1)]) RX9 (by decide +kernel) rfl (Nat.le_of_ble_eq_true rfl) rfl ?_
  unfold f_X9_drawsBy at h
  refine vr_aload_n (pc := 0) 0 dX9_drawsBy_0 rfl rfl ?_
  refine vr_aload_n (pc := 1) 0 dX9_drawsBy_1 rfl rfl ?_
  refine vr_getR (pc := 2) 4 dX9_drawsBy_2 fi_X9_20 hq0 (sh_8_4 hq0).1 ?_
  refine vr_iload_n (pc := 5) 1 dX9_drawsBy_5 rfl rfl ?_
  obtain ⟨hc1, h⟩ := ck_some h
  refine vr_iald (pc := 6) dX9_drawsBy_6 (sh_8_4 hq0).2 hc1 ?_
  refine vr_aload_n (pc := 7) 0 dX9_drawsBy_7 rfl rfl ?_
  refine vr_getR (pc := 8) 5 dX9_drawsBy_8 fi_X9_23 hq0 (sh_8_5 hq0).1 ?_
  refine vr_iload_n (pc := 11) 1 dX9_drawsBy_11 rfl rfl ?_
  obtain ⟨hc2, h⟩ := ck_some h
  refine vr_iald (pc := 12) dX9_drawsBy_12 (sh_8_5 hq0).2 hc2 ?_
  refine vr_aload_n (pc := 13) 0 dX9_drawsBy_13 rfl rfl ?_
  refine vr_getR (pc := 14) 6 dX9_drawsBy_14 fi_X9_26 hq0 (sh_8_6 hq0).1 ?_
  refine vr_iload_n (pc := 17) 1 dX9_drawsBy_17 rfl rfl ?_
  obtain ⟨hc3, h⟩ := ck_some h
  refine vr_iald (pc := 18) dX9_drawsBy_18 (sh_8_6 hq0).2 hc3 ?_
  refine vr_aload_n (pc := 19) 0 dX9_drawsBy_19 rfl rfl ?_
  refine vr_getR (pc := 20) 8 dX9_drawsBy_20 fi_X9_32 hq0 (sh_8_8 hq0).1 ?_
  refine vr_iload_n (pc := 23) 1 dX9_drawsBy_23 rfl rfl ?_
  obtain ⟨hc4, h⟩ := ck_some h
  refine vr_iald (pc := 24) dX9_drawsBy_24 (sh_8_8 hq0).2 hc4 ?_
  obtain ⟨z5, hz6, h⟩ := ob_some h
  refine vr_callV (pc := 25) (ρ1 := (none, z5)) [.int (σ.1 (rid q0 4) a1.toNatClampNeg), .int (σ.1 (rid q0 5) a1.toNatClampNeg), .int (σ.1 (rid q0 6) a1.toNatClampNeg), .int (σ.1 (rid q0 8) a1.toNatClampNeg)] dX9_drawsBy_25 (s_X9_draws l g (hq0) hz6) cw_X9_draws ml_X9_199 hq0 rfl (by decide) (by decide) rfl rfl (Nat.le_of_ble_eq_true rfl) ?_
  have h := Option.some.inj h; subst h
  exact vr_vret (pc := 28) dX9_drawsBy_28 rfl rfl
theorem dX9_isBetween_0 : decode cX9_isBetween 0 = .ok (.iload_n 0, 1) := by decide +kernel
theorem dX9_isBetween_1 : decode cX9_isBetween 1 = .ok (.iload_n 1, 1) := by decide +kernel
theorem dX9_isBetween_2 : decode cX9_isBetween 2 = .ok (.iload_n 2, 1) := by decide +kernel
theorem dX9_isBetween_3 : decode cX9_isBetween 3 = .ok (.invokestatic 128, 3) := by decide +kernel
theorem dX9_isBetween_6 : decode cX9_isBetween 6 = .ok (.if_icmp .le 16, 3) := by decide +kernel
theorem dX9_isBetween_9 : decode cX9_isBetween 9 = .ok (.iload_n 0, 1) := by decide +kernel
theorem dX9_isBetween_10 : decode cX9_isBetween 10 = .ok (.iload_n 1, 1) := by decide +kernel
theorem dX9_isBetween_11 : decode cX9_isBetween 11 = .ok (.iload_n 2, 1) := by decide +kernel
theorem dX9_isBetween_12 : decode cX9_isBetween 12 = .ok (.invokestatic 203, 3) := by decide +kernel
theorem dX9_isBetween_15 : decode cX9_isBetween 15 = .ok (.if_icmp .ge 7, 3) := by decide +kernel
theorem dX9_isBetween_18 : decode cX9_isBetween 18 = .ok (.iconst 1, 1) := by decide +kernel
theorem dX9_isBetween_19 : decode cX9_isBetween 19 = .ok (.goto 4, 3) := by decide +kernel
theorem dX9_isBetween_22 : decode cX9_isBetween 22 = .ok (.iconst 0, 1) := by decide +kernel
theorem dX9_isBetween_23 : decode cX9_isBetween 23 = .ok (.ireturn, 1) := by decide +kernel
set_option maxRecDepth 20000 in
set_option maxHeartbeats 4000000 in
theorem s_X9_isBetween (l : Launch) (g : GG) {a0 : Int32} {a1 : Int32} {a2 : Int32} {σ : SS} {r : Int32} (h : f_X9_isBetween a0 a1 a2 = r) : CT l g 1 yX9_isBetween cX9_isBetween 3 (some .boolean) [.int a0, .int a1, .int a2] σ (some (.int r), σ) := by
  refine CT.of (lv := [(0, .int a0), (1, .int a1), (2, .int a2)]) RX9 (by decide +kernel) rfl (Nat.le_of_ble_eq_true rfl) rfl ?_
  unfold f_X9_isBetween at h
  refine vr_iload_n (pc := 0) 0 dX9_isBetween_0 rfl rfl ?_
  refine vr_iload_n (pc := 1) 1 dX9_isBetween_1 rfl rfl ?_
  refine vr_iload_n (pc := 2) 2 dX9_isBetween_2 rfl rfl ?_
  refine vr_mmin (pc := 3) dX9_isBetween_3 ml_X9_128 (by decide) (Nat.le_of_ble_eq_true rfl) ?_
  refine vr_icmp_le (pc := 6) 22 dX9_isBetween_6 (by decide) (fun c1 => ?_) (fun c1 => ?_)
  · rw [if_pos c1] at h
    refine vr_iconst (pc := 22) 0 dX9_isBetween_22 ci_0 ?_
    subst h
    exact vr_iret (pc := 23) .boolean dX9_isBetween_23 rfl rfl rfl
  · rw [if_neg c1] at h
    refine vr_iload_n (pc := 9) 0 dX9_isBetween_9 rfl rfl ?_
    refine vr_iload_n (pc := 10) 1 dX9_isBetween_10 rfl rfl ?_
    refine vr_iload_n (pc := 11) 2 dX9_isBetween_11 rfl rfl ?_
    refine vr_mmax (pc := 12) dX9_isBetween_12 ml_X9_203 (by decide) (Nat.le_of_ble_eq_true rfl) ?_
    refine vr_icmp_ge (pc := 15) 22 dX9_isBetween_15 (by decide) (fun c2 => ?_) (fun c2 => ?_)
    · rw [if_pos c2] at h
      refine vr_iconst (pc := 22) 0 dX9_isBetween_22 ci_0 ?_
      subst h
      exact vr_iret (pc := 23) .boolean dX9_isBetween_23 rfl rfl rfl
    · rw [if_neg c2] at h
      refine vr_iconst (pc := 18) 1 dX9_isBetween_18 ci_1 ?_
      refine vr_goto (pc := 19) 23 dX9_isBetween_19 (by decide) ?_
      subst h
      exact vr_iret (pc := 23) .boolean dX9_isBetween_23 rfl rfl rfl
theorem dX9_cross_0 : decode cX9_cross 0 = .ok (.iload_n 0, 1) := by decide +kernel
theorem dX9_cross_1 : decode cX9_cross 1 = .ok (.iload_n 1, 1) := by decide +kernel
theorem dX9_cross_2 : decode cX9_cross 2 = .ok (.if_icmp .eq 28, 3) := by decide +kernel
theorem dX9_cross_5 : decode cX9_cross 5 = .ok (.iload_n 2, 1) := by decide +kernel
theorem dX9_cross_6 : decode cX9_cross 6 = .ok (.iload_n 3, 1) := by decide +kernel
theorem dX9_cross_7 : decode cX9_cross 7 = .ok (.if_icmp .eq 23, 3) := by decide +kernel
theorem dX9_cross_10 : decode cX9_cross 10 = .ok (.iload_n 0, 1) := by decide +kernel
theorem dX9_cross_11 : decode cX9_cross 11 = .ok (.iload_n 2, 1) := by decide +kernel
theorem dX9_cross_12 : decode cX9_cross 12 = .ok (.if_icmp .eq 18, 3) := by decide +kernel
theorem dX9_cross_15 : decode cX9_cross 15 = .ok (.iload_n 0, 1) := by decide +kernel
theorem dX9_cross_16 : decode cX9_cross 16 = .ok (.iload_n 3, 1) := by decide +kernel
theorem dX9_cross_17 : decode cX9_cross 17 = .ok (.if_icmp .eq 13, 3) := by decide +kernel
theorem dX9_cross_20 : decode cX9_cross 20 = .ok (.iload_n 1, 1) := by decide +kernel
theorem dX9_cross_21 : decode cX9_cross 21 = .ok (.iload_n 2, 1) := by decide +kernel
theorem dX9_cross_22 : decode cX9_cross 22 = .ok (.if_icmp .eq 8, 3) := by decide +kernel
theorem dX9_cross_25 : decode cX9_cross 25 = .ok (.iload_n 1, 1) := by decide +kernel
theorem dX9_cross_26 : decode cX9_cross 26 = .ok (.iload_n 3, 1) := by decide +kernel
theorem dX9_cross_27 : decode cX9_cross 27 = .ok (.if_icmp .ne 5, 3) := by decide +kernel
theorem dX9_cross_30 : decode cX9_cross 30 = .ok (.iconst 0, 1) := by decide +kernel
theorem dX9_cross_31 : decode cX9_cross 31 = .ok (.ireturn, 1) := by decide +kernel
theorem dX9_cross_32 : decode cX9_cross 32 = .ok (.iload_n 0, 1) := by decide +kernel
theorem dX9_cross_33 : decode cX9_cross 33 = .ok (.iload_n 2, 1) := by decide +kernel
theorem dX9_cross_34 : decode cX9_cross 34 = .ok (.iload_n 3, 1) := by decide +kernel
theorem dX9_cross_35 : decode cX9_cross 35 = .ok (.invokestatic 206, 3) := by decide +kernel
theorem dX9_cross_38 : decode cX9_cross 38 = .ok (.iload_n 1, 1) := by decide +kernel
theorem dX9_cross_39 : decode cX9_cross 39 = .ok (.iload_n 2, 1) := by decide +kernel
theorem dX9_cross_40 : decode cX9_cross 40 = .ok (.iload_n 3, 1) := by decide +kernel
theorem dX9_cross_41 : decode cX9_cross 41 = .ok (.invokestatic 206, 3) := by decide +kernel
theorem dX9_cross_44 : decode cX9_cross 44 = .ok (.if_icmp .eq 7, 3) := by decide +kernel
theorem dX9_cross_47 : decode cX9_cross 47 = .ok (.iconst 1, 1) := by decide +kernel
theorem dX9_cross_48 : decode cX9_cross 48 = .ok (.goto 4, 3) := by decide +kernel
theorem dX9_cross_51 : decode cX9_cross 51 = .ok (.iconst 0, 1) := by decide +kernel
theorem dX9_cross_52 : decode cX9_cross 52 = .ok (.ireturn, 1) := by decide +kernel
set_option maxRecDepth 20000 in
set_option maxHeartbeats 4000000 in
theorem s_X9_cross (l : Launch) (g : GG) {a0 : Int32} {a1 : Int32} {a2 : Int32} {a3 : Int32} {σ : SS} {r : Int32} (h : f_X9_cross a0 a1 a2 a3 = r) : CT l g 2 yX9_cross cX9_cross 4 (some .boolean) [.int a0, .int a1, .int a2, .int a3] σ (some (.int r), σ) := by
  refine CT.of (lv := [(0, .int a0), (1, .int a1), (2, .int a2), (3, .int a3)]) RX9 (by decide +kernel) rfl (Nat.le_of_ble_eq_true rfl) rfl ?_
  unfold f_X9_cross at h
  refine vr_iload_n (pc := 0) 0 dX9_cross_0 rfl rfl ?_
  refine vr_iload_n (pc := 1) 1 dX9_cross_1 rfl rfl ?_
  refine vr_icmp_eq (pc := 2) 30 dX9_cross_2 (by decide) (fun c1 => ?_) (fun c1 => ?_)
  · rw [if_pos c1] at h
    refine vr_iconst (pc := 30) 0 dX9_cross_30 ci_0 ?_
    subst h
    exact vr_iret (pc := 31) .boolean dX9_cross_31 rfl rfl rfl
  · rw [if_neg c1] at h
    refine vr_iload_n (pc := 5) 2 dX9_cross_5 rfl rfl ?_
    refine vr_iload_n (pc := 6) 3 dX9_cross_6 rfl rfl ?_
    refine vr_icmp_eq (pc := 7) 30 dX9_cross_7 (by decide) (fun c2 => ?_) (fun c2 => ?_)
    · rw [if_pos c2] at h
      refine vr_iconst (pc := 30) 0 dX9_cross_30 ci_0 ?_
      subst h
      exact vr_iret (pc := 31) .boolean dX9_cross_31 rfl rfl rfl
    · rw [if_neg c2] at h
      refine vr_iload_n (pc := 10) 0 dX9_cross_10 rfl rfl ?_
      refine vr_iload_n (pc := 11) 2 dX9_cross_11 rfl rfl ?_
      refine vr_icmp_eq (pc := 12) 30 dX9_cross_12 (by decide) (fun c3 => ?_) (fun c3 => ?_)
      · rw [if_pos c3] at h
        refine vr_iconst (pc := 30) 0 dX9_cross_30 ci_0 ?_
        subst h
        exact vr_iret (pc := 31) .boolean dX9_cross_31 rfl rfl rfl
      · rw [if_neg c3] at h
        refine vr_iload_n (pc := 15) 0 dX9_cross_15 rfl rfl ?_
        refine vr_iload_n (pc := 16) 3 dX9_cross_16 rfl rfl ?_
        refine vr_icmp_eq (pc := 17) 30 dX9_cross_17 (by decide) (fun c4 => ?_) (fun c4 => ?_)
        · rw [if_pos c4] at h
          refine vr_iconst (pc := 30) 0 dX9_cross_30 ci_0 ?_
          subst h
          exact vr_iret (pc := 31) .boolean dX9_cross_31 rfl rfl rfl
        · rw [if_neg c4] at h
          refine vr_iload_n (pc := 20) 1 dX9_cross_20 rfl rfl ?_
          refine vr_iload_n (pc := 21) 2 dX9_cross_21 rfl rfl ?_
          refine vr_icmp_eq (pc := 22) 30 dX9_cross_22 (by decide) (fun c5 => ?_) (fun c5 => ?_)
          · rw [if_pos c5] at h
            refine vr_iconst (pc := 30) 0 dX9_cross_30 ci_0 ?_
            subst h
            exact vr_iret (pc := 31) .boolean dX9_cross_31 rfl rfl rfl
          · rw [if_neg c5] at h
            refine vr_iload_n (pc := 25) 1 dX9_cross_25 rfl rfl ?_
            refine vr_iload_n (pc := 26) 3 dX9_cross_26 rfl rfl ?_
            refine vr_icmp_ne (pc := 27) 32 dX9_cross_27 (by decide) (fun c6 => ?_) (fun c6 => ?_)
            · rw [if_neg c6] at h
              refine vr_iload_n (pc := 32) 0 dX9_cross_32 rfl rfl ?_
              refine vr_iload_n (pc := 33) 2 dX9_cross_33 rfl rfl ?_
              refine vr_iload_n (pc := 34) 3 dX9_cross_34 rfl rfl ?_
              refine vr_callS (pc := 35) (ρ1 := (some (.int (f_X9_isBetween a0 a2 a3)), σ)) [.int a0, .int a2, .int a3] dX9_cross_35 (s_X9_isBetween l g rfl) cw_X9_isBetween ml_X9_206 (by decide) rfl rfl (Nat.le_of_ble_eq_true rfl) ?_
              refine vr_iload_n (pc := 38) 1 dX9_cross_38 rfl rfl ?_
              refine vr_iload_n (pc := 39) 2 dX9_cross_39 rfl rfl ?_
              refine vr_iload_n (pc := 40) 3 dX9_cross_40 rfl rfl ?_
              refine vr_callS (pc := 41) (ρ1 := (some (.int (f_X9_isBetween a1 a2 a3)), σ)) [.int a1, .int a2, .int a3] dX9_cross_41 (s_X9_isBetween l g rfl) cw_X9_isBetween ml_X9_206 (by decide) rfl rfl (Nat.le_of_ble_eq_true rfl) ?_
              refine vr_icmp_eq (pc := 44) 51 dX9_cross_44 (by decide) (fun c7 => ?_) (fun c7 => ?_)
              · rw [if_pos c7] at h
                refine vr_iconst (pc := 51) 0 dX9_cross_51 ci_0 ?_
                subst h
                exact vr_iret (pc := 52) .boolean dX9_cross_52 rfl rfl rfl
              · rw [if_neg c7] at h
                refine vr_iconst (pc := 47) 1 dX9_cross_47 ci_1 ?_
                refine vr_goto (pc := 48) 52 dX9_cross_48 (by decide) ?_
                subst h
                exact vr_iret (pc := 52) .boolean dX9_cross_52 rfl rfl rfl
            · rw [if_pos c6] at h
              refine vr_iconst (pc := 30) 0 dX9_cross_30 ci_0 ?_
              subst h
              exact vr_iret (pc := 31) .boolean dX9_cross_31 rfl rfl rfl
theorem dX9_crossesOf_0 : decode cX9_crossesOf 0 = .ok (.iconst 0, 1) := by decide +kernel
theorem dX9_crossesOf_1 : decode cX9_crossesOf 1 = .ok (.istore_n 2, 1) := by decide +kernel
theorem dX9_crossesOf_2 : decode cX9_crossesOf 2 = .ok (.iconst 0, 1) := by decide +kernel
theorem dX9_crossesOf_3 : decode cX9_crossesOf 3 = .ok (.istore_n 3, 1) := by decide +kernel
theorem dX9_crossesOf_4 : decode cX9_crossesOf 4 = .ok (.iload_n 3, 1) := by decide +kernel
theorem dX9_crossesOf_5 : decode cX9_crossesOf 5 = .ok (.aload_n 0, 1) := by decide +kernel
theorem dX9_crossesOf_6 : decode cX9_crossesOf 6 = .ok (.getfield 193, 3) := by decide +kernel
theorem dX9_crossesOf_9 : decode cX9_crossesOf 9 = .ok (.if_icmp .ge 47, 3) := by decide +kernel
theorem dX9_crossesOf_12 : decode cX9_crossesOf 12 = .ok (.iload_n 3, 1) := by decide +kernel
theorem dX9_crossesOf_13 : decode cX9_crossesOf 13 = .ok (.iload_n 1, 1) := by decide +kernel
theorem dX9_crossesOf_14 : decode cX9_crossesOf 14 = .ok (.if_icmp .eq 36, 3) := by decide +kernel
theorem dX9_crossesOf_17 : decode cX9_crossesOf 17 = .ok (.aload_n 0, 1) := by decide +kernel
theorem dX9_crossesOf_18 : decode cX9_crossesOf 18 = .ok (.getfield 59, 3) := by decide +kernel
theorem dX9_crossesOf_21 : decode cX9_crossesOf 21 = .ok (.iload_n 1, 1) := by decide +kernel
theorem dX9_crossesOf_22 : decode cX9_crossesOf 22 = .ok (.iaload, 1) := by decide +kernel
theorem dX9_crossesOf_23 : decode cX9_crossesOf 23 = .ok (.aload_n 0, 1) := by decide +kernel
theorem dX9_crossesOf_24 : decode cX9_crossesOf 24 = .ok (.getfield 62, 3) := by decide +kernel
theorem dX9_crossesOf_27 : decode cX9_crossesOf 27 = .ok (.iload_n 1, 1) := by decide +kernel
theorem dX9_crossesOf_28 : decode cX9_crossesOf 28 = .ok (.iaload, 1) := by decide +kernel
theorem dX9_crossesOf_29 : decode cX9_crossesOf 29 = .ok (.aload_n 0, 1) := by decide +kernel
theorem dX9_crossesOf_30 : decode cX9_crossesOf 30 = .ok (.getfield 59, 3) := by decide +kernel
theorem dX9_crossesOf_33 : decode cX9_crossesOf 33 = .ok (.iload_n 3, 1) := by decide +kernel
theorem dX9_crossesOf_34 : decode cX9_crossesOf 34 = .ok (.iaload, 1) := by decide +kernel
theorem dX9_crossesOf_35 : decode cX9_crossesOf 35 = .ok (.aload_n 0, 1) := by decide +kernel
theorem dX9_crossesOf_36 : decode cX9_crossesOf 36 = .ok (.getfield 62, 3) := by decide +kernel
theorem dX9_crossesOf_39 : decode cX9_crossesOf 39 = .ok (.iload_n 3, 1) := by decide +kernel
theorem dX9_crossesOf_40 : decode cX9_crossesOf 40 = .ok (.iaload, 1) := by decide +kernel
theorem dX9_crossesOf_41 : decode cX9_crossesOf 41 = .ok (.invokestatic 209, 3) := by decide +kernel
theorem dX9_crossesOf_44 : decode cX9_crossesOf 44 = .ok (.ifCond .eq 6, 3) := by decide +kernel
theorem dX9_crossesOf_47 : decode cX9_crossesOf 47 = .ok (.iinc 2 1, 3) := by decide +kernel
theorem dX9_crossesOf_50 : decode cX9_crossesOf 50 = .ok (.iinc 3 1, 3) := by decide +kernel
theorem dX9_crossesOf_53 : decode cX9_crossesOf 53 = .ok (.goto (-49), 3) := by decide +kernel
theorem dX9_crossesOf_56 : decode cX9_crossesOf 56 = .ok (.iload_n 2, 1) := by decide +kernel
theorem dX9_crossesOf_57 : decode cX9_crossesOf 57 = .ok (.ireturn, 1) := by decide +kernel
set_option maxRecDepth 20000 in
set_option maxHeartbeats 4000000 in
theorem v_X9_crossesOf_L4 (l : Launch) (g : GG) {r : Int32} {σ : SS} {κ : Int32 → Option Int32} (hκ : ∀ (y2 : Int32) , κ y2 = some r → VV l g 3 RX9 cX9_crossesOf 4 (some .int) (some (.int r), σ) 56 [(2, .int y2)] [] σ) : ∀ (fu : Nat) (q0 : Nat) (x1 : Int32) (x2 : Int32) (x3 : Int32) (hq0 : kd q0 = 8), f_X9_crossesOf_L4 σ κ fu q0 x1 x2 x3 = some r → VV l g 3 RX9 cX9_crossesOf 4 (some .int) (some (.int r), σ) 4 [(0, .ref (g.1 q0)), (1, .int x1), (2, .int x2), (3, .int x3)] [] σ := by
  intro fu
  induction fu with
  | zero => intro q0 x1 x2 x3 hq0 h; cases h
  | succ fu ih =>
    intro q0 x1 x2 x3 hq0 h
    simp only [f_X9_crossesOf_L4] at h
    refine vr_iload_n (pc := 4) 3 dX9_crossesOf_4 rfl rfl ?_
    refine vr_aload_n (pc := 5) 0 dX9_crossesOf_5 rfl rfl ?_
    refine vr_getI (pc := 6) 23 dX9_crossesOf_6 fi_X9_193 hq0 (sh_8_23 hq0) ?_
    refine vr_icmp_ge (pc := 9) 56 dX9_crossesOf_9 (by decide) (fun c1 => ?_) (fun c1 => ?_)
    · rw [if_pos c1] at h
      refine vr_sub [2] [(2, .int x2)] rfl ?_
      exact hκ x2 h
    · rw [if_neg c1] at h
      refine vr_iload_n (pc := 12) 3 dX9_crossesOf_12 rfl rfl ?_
      refine vr_iload_n (pc := 13) 1 dX9_crossesOf_13 rfl rfl ?_
      refine vr_icmp_eq (pc := 14) 50 dX9_crossesOf_14 (by decide) (fun c2 => ?_) (fun c2 => ?_)
      · rw [if_pos c2] at h
        refine vr_iinc (pc := 50) [(3, .int (x3 + 1)), (0, .ref (g.1 q0)), (1, .int x1), (2, .int x2)] 3 dX9_crossesOf_50 rfl (congrArg (fun z => x3 + z) ci_1) (by decide) rfl ?_
        refine vr_goto (pc := 53) 4 dX9_crossesOf_53 (by decide) ?_
        refine vr_sub [1, 2, 3, 0] [(0, .ref (g.1 q0)), (1, .int x1), (2, .int x2), (3, .int (x3 + 1))] rfl ?_
        exact ih q0 x1 x2 (x3 + 1) (hq0) h
      · rw [if_neg c2] at h
        refine vr_aload_n (pc := 17) 0 dX9_crossesOf_17 rfl rfl ?_
        refine vr_getR (pc := 18) 20 dX9_crossesOf_18 fi_X9_59 hq0 (sh_8_20 hq0).1 ?_
        refine vr_iload_n (pc := 21) 1 dX9_crossesOf_21 rfl rfl ?_
        obtain ⟨hc3, h⟩ := ck_some h
        refine vr_iald (pc := 22) dX9_crossesOf_22 (sh_8_20 hq0).2 hc3 ?_
        refine vr_aload_n (pc := 23) 0 dX9_crossesOf_23 rfl rfl ?_
        refine vr_getR (pc := 24) 21 dX9_crossesOf_24 fi_X9_62 hq0 (sh_8_21 hq0).1 ?_
        refine vr_iload_n (pc := 27) 1 dX9_crossesOf_27 rfl rfl ?_
        obtain ⟨hc4, h⟩ := ck_some h
        refine vr_iald (pc := 28) dX9_crossesOf_28 (sh_8_21 hq0).2 hc4 ?_
        refine vr_aload_n (pc := 29) 0 dX9_crossesOf_29 rfl rfl ?_
        refine vr_getR (pc := 30) 20 dX9_crossesOf_30 fi_X9_59 hq0 (sh_8_20 hq0).1 ?_
        refine vr_iload_n (pc := 33) 3 dX9_crossesOf_33 rfl rfl ?_
        obtain ⟨hc5, h⟩ := ck_some h
        refine vr_iald (pc := 34) dX9_crossesOf_34 (sh_8_20 hq0).2 hc5 ?_
        refine vr_aload_n (pc := 35) 0 dX9_crossesOf_35 rfl rfl ?_
        refine vr_getR (pc := 36) 21 dX9_crossesOf_36 fi_X9_62 hq0 (sh_8_21 hq0).1 ?_
        refine vr_iload_n (pc := 39) 3 dX9_crossesOf_39 rfl rfl ?_
        obtain ⟨hc6, h⟩ := ck_some h
        refine vr_iald (pc := 40) dX9_crossesOf_40 (sh_8_21 hq0).2 hc6 ?_
        refine vr_callS (pc := 41) (ρ1 := (some (.int (f_X9_cross (σ.1 (rid q0 20) x1.toNatClampNeg) (σ.1 (rid q0 21) x1.toNatClampNeg) (σ.1 (rid q0 20) x3.toNatClampNeg) (σ.1 (rid q0 21) x3.toNatClampNeg))), σ)) [.int (σ.1 (rid q0 20) x1.toNatClampNeg), .int (σ.1 (rid q0 21) x1.toNatClampNeg), .int (σ.1 (rid q0 20) x3.toNatClampNeg), .int (σ.1 (rid q0 21) x3.toNatClampNeg)] dX9_crossesOf_41 (s_X9_cross l g rfl) cw_X9_cross ml_X9_209 (by decide) rfl rfl (Nat.le_of_ble_eq_true rfl) ?_
        refine vr_if_eq (pc := 44) 50 dX9_crossesOf_44 (by decide) (fun c7 => ?_) (fun c7 => ?_)
        · rw [if_pos c7] at h
          refine vr_iinc (pc := 50) [(3, .int (x3 + 1)), (0, .ref (g.1 q0)), (1, .int x1), (2, .int x2)] 3 dX9_crossesOf_50 rfl (congrArg (fun z => x3 + z) ci_1) (by decide) rfl ?_
          refine vr_goto (pc := 53) 4 dX9_crossesOf_53 (by decide) ?_
          refine vr_sub [1, 2, 3, 0] [(0, .ref (g.1 q0)), (1, .int x1), (2, .int x2), (3, .int (x3 + 1))] rfl ?_
          exact ih q0 x1 x2 (x3 + 1) (hq0) h
        · rw [if_neg c7] at h
          refine vr_iinc (pc := 47) [(2, .int (x2 + 1)), (0, .ref (g.1 q0)), (1, .int x1), (3, .int x3)] 2 dX9_crossesOf_47 rfl (congrArg (fun z => x2 + z) ci_1) (by decide) rfl ?_
          refine vr_iinc (pc := 50) [(3, .int (x3 + 1)), (2, .int (x2 + 1)), (0, .ref (g.1 q0)), (1, .int x1)] 3 dX9_crossesOf_50 rfl (congrArg (fun z => x3 + z) ci_1) (by decide) rfl ?_
          refine vr_goto (pc := 53) 4 dX9_crossesOf_53 (by decide) ?_
          refine vr_sub [2, 3, 1, 0] [(0, .ref (g.1 q0)), (1, .int x1), (2, .int (x2 + 1)), (3, .int (x3 + 1))] rfl ?_
          exact ih q0 x1 (x2 + 1) (x3 + 1) (hq0) h
set_option maxRecDepth 20000 in
set_option maxHeartbeats 4000000 in
theorem s_X9_crossesOf (l : Launch) (g : GG) {q0 : Nat} (hq0 : kd q0 = 8) {a1 : Int32} {σ : SS} {r : Int32} (h : f_X9_crossesOf q0 a1 σ = some r) : CT l g 3 yX9_crossesOf cX9_crossesOf 4 (some .int) [.ref (g.1 q0), .int a1] σ (some (.int r), σ) := by
  refine CT.of (lv := [(0, .ref (g.1 q0)), (1, .int a1)]) RX9 (by decide +kernel) rfl (Nat.le_of_ble_eq_true rfl) rfl ?_
  unfold f_X9_crossesOf at h
  refine vr_iconst (pc := 0) 0 dX9_crossesOf_0 ci_0 ?_
  refine vr_istore_n (pc := 1) [(2, .int 0), (0, .ref (g.1 q0)), (1, .int a1)] dX9_crossesOf_1 rfl (by decide) rfl ?_
  refine vr_iconst (pc := 2) 0 dX9_crossesOf_2 ci_0 ?_
  refine vr_istore_n (pc := 3) [(3, .int 0), (2, .int 0), (0, .ref (g.1 q0)), (1, .int a1)] dX9_crossesOf_3 rfl (by decide) rfl ?_
  refine vr_sub [2, 3, 1, 0] [(0, .ref (g.1 q0)), (1, .int a1), (2, .int 0), (3, .int 0)] rfl ?_
  refine v_X9_crossesOf_L4 l g (fun y2 h => ?_) FU q0 a1 0 0 (hq0) h
  refine vr_iload_n (pc := 56) 0 dX9_crossesOf_56 rfl rfl ?_
  have h := Option.some.inj h; subst h
  exact vr_iret (pc := 57) .int dX9_crossesOf_57 rfl rfl rfl
theorem dX9_crossings_0 : decode cX9_crossings 0 = .ok (.iconst 0, 1) := by decide +kernel
theorem dX9_crossings_1 : decode cX9_crossings 1 = .ok (.istore_n 1, 1) := by decide +kernel
theorem dX9_crossings_2 : decode cX9_crossings 2 = .ok (.iconst 0, 1) := by decide +kernel
theorem dX9_crossings_3 : decode cX9_crossings 3 = .ok (.istore_n 2, 1) := by decide +kernel
theorem dX9_crossings_4 : decode cX9_crossings 4 = .ok (.iload_n 2, 1) := by decide +kernel
theorem dX9_crossings_5 : decode cX9_crossings 5 = .ok (.aload_n 0, 1) := by decide +kernel
theorem dX9_crossings_6 : decode cX9_crossings 6 = .ok (.getfield 193, 3) := by decide +kernel
theorem dX9_crossings_9 : decode cX9_crossings 9 = .ok (.if_icmp .ge 17, 3) := by decide +kernel
theorem dX9_crossings_12 : decode cX9_crossings 12 = .ok (.iload_n 1, 1) := by decide +kernel
theorem dX9_crossings_13 : decode cX9_crossings 13 = .ok (.aload_n 0, 1) := by decide +kernel
theorem dX9_crossings_14 : decode cX9_crossings 14 = .ok (.iload_n 2, 1) := by decide +kernel
theorem dX9_crossings_15 : decode cX9_crossings 15 = .ok (.invokevirtual 213, 3) := by decide +kernel
theorem dX9_crossings_18 : decode cX9_crossings 18 = .ok (.iadd, 1) := by decide +kernel
theorem dX9_crossings_19 : decode cX9_crossings 19 = .ok (.istore_n 1, 1) := by decide +kernel
theorem dX9_crossings_20 : decode cX9_crossings 20 = .ok (.iinc 2 1, 3) := by decide +kernel
theorem dX9_crossings_23 : decode cX9_crossings 23 = .ok (.goto (-19), 3) := by decide +kernel
theorem dX9_crossings_26 : decode cX9_crossings 26 = .ok (.iload_n 1, 1) := by decide +kernel
theorem dX9_crossings_27 : decode cX9_crossings 27 = .ok (.iconst 2, 1) := by decide +kernel
theorem dX9_crossings_28 : decode cX9_crossings 28 = .ok (.idiv, 1) := by decide +kernel
theorem dX9_crossings_29 : decode cX9_crossings 29 = .ok (.ireturn, 1) := by decide +kernel
set_option maxRecDepth 20000 in
set_option maxHeartbeats 4000000 in
theorem v_X9_crossings_L4 (l : Launch) (g : GG) {r : Int32} {σ : SS} {κ : Int32 → Option Int32} (hκ : ∀ (y1 : Int32) , κ y1 = some r → VV l g 4 RX9 cX9_crossings 3 (some .int) (some (.int r), σ) 26 [(1, .int y1)] [] σ) : ∀ (fu : Nat) (q0 : Nat) (x1 : Int32) (x2 : Int32) (hq0 : kd q0 = 8), f_X9_crossings_L4 σ κ fu q0 x1 x2 = some r → VV l g 4 RX9 cX9_crossings 3 (some .int) (some (.int r), σ) 4 [(0, .ref (g.1 q0)), (1, .int x1), (2, .int x2)] [] σ := by
  intro fu
  induction fu with
  | zero => intro q0 x1 x2 hq0 h; cases h
  | succ fu ih =>
    intro q0 x1 x2 hq0 h
    simp only [f_X9_crossings_L4] at h
    refine vr_iload_n (pc := 4) 2 dX9_crossings_4 rfl rfl ?_
    refine vr_aload_n (pc := 5) 0 dX9_crossings_5 rfl rfl ?_
    refine vr_getI (pc := 6) 23 dX9_crossings_6 fi_X9_193 hq0 (sh_8_23 hq0) ?_
    refine vr_icmp_ge (pc := 9) 26 dX9_crossings_9 (by decide) (fun c1 => ?_) (fun c1 => ?_)
    · rw [if_pos c1] at h
      refine vr_sub [1] [(1, .int x1)] rfl ?_
      exact hκ x1 h
    · rw [if_neg c1] at h
      refine vr_iload_n (pc := 12) 1 dX9_crossings_12 rfl rfl ?_
      refine vr_aload_n (pc := 13) 0 dX9_crossings_13 rfl rfl ?_
      refine vr_iload_n (pc := 14) 2 dX9_crossings_14 rfl rfl ?_
      obtain ⟨z2, hz3, h⟩ := ob_some h
      refine vr_callV (pc := 15) (ρ1 := (some (.int z2), σ)) [.int x2] dX9_crossings_15 (s_X9_crossesOf l g (hq0) hz3) cw_X9_crossesOf ml_X9_213 hq0 rfl (by decide) (by decide) rfl rfl (Nat.le_of_ble_eq_true rfl) ?_
      refine vr_iadd (pc := 18) dX9_crossings_18 ?_
      refine vr_istore_n (pc := 19) [(1, .int (x1 + z2)), (0, .ref (g.1 q0)), (2, .int x2)] dX9_crossings_19 rfl (by decide) rfl ?_
      refine vr_iinc (pc := 20) [(2, .int (x2 + 1)), (1, .int (x1 + z2)), (0, .ref (g.1 q0))] 2 dX9_crossings_20 rfl (congrArg (fun z => x2 + z) ci_1) (by decide) rfl ?_
      refine vr_goto (pc := 23) 4 dX9_crossings_23 (by decide) ?_
      refine vr_sub [2, 1, 0] [(0, .ref (g.1 q0)), (1, .int (x1 + z2)), (2, .int (x2 + 1))] rfl ?_
      exact ih q0 (x1 + z2) (x2 + 1) (hq0) h
set_option maxRecDepth 20000 in
set_option maxHeartbeats 4000000 in
theorem s_X9_crossings (l : Launch) (g : GG) {q0 : Nat} (hq0 : kd q0 = 8) {σ : SS} {r : Int32} (h : f_X9_crossings q0 σ = some r) : CT l g 4 yX9_crossings cX9_crossings 3 (some .int) [.ref (g.1 q0)] σ (some (.int r), σ) := by
  refine CT.of (lv := [(0, .ref (g.1 q0))]) RX9 (by decide +kernel) rfl (Nat.le_of_ble_eq_true rfl) rfl ?_
  unfold f_X9_crossings at h
  refine vr_iconst (pc := 0) 0 dX9_crossings_0 ci_0 ?_
  refine vr_istore_n (pc := 1) [(1, .int 0), (0, .ref (g.1 q0))] dX9_crossings_1 rfl (by decide) rfl ?_
  refine vr_iconst (pc := 2) 0 dX9_crossings_2 ci_0 ?_
  refine vr_istore_n (pc := 3) [(2, .int 0), (1, .int 0), (0, .ref (g.1 q0))] dX9_crossings_3 rfl (by decide) rfl ?_
  refine vr_sub [2, 1, 0] [(0, .ref (g.1 q0)), (1, .int 0), (2, .int 0)] rfl ?_
  refine v_X9_crossings_L4 l g (fun y1 h => ?_) FU q0 0 0 (hq0) h
  refine vr_iload_n (pc := 26) 0 dX9_crossings_26 rfl rfl ?_
  refine vr_iconst (pc := 27) 2 dX9_crossings_27 ci_2 ?_
  refine vr_idiv (pc := 28) dX9_crossings_28 (by decide) ?_
  have h := Option.some.inj h; subst h
  exact vr_iret (pc := 29) .int dX9_crossings_29 rfl rfl rfl
