theorem dX7_side_0 : decode cX7_side 0 = .ok (.aload_n 0, 1) := by decide +kernel
theorem dX7_side_1 : decode cX7_side 1 = .ok (.getfield 18, 3) := by decide +kernel
theorem dX7_side_4 : decode cX7_side 4 = .ok (.ifCond .eq 19, 3) := by decide +kernel
theorem dX7_side_7 : decode cX7_side 7 = .ok (.aload_n 0, 1) := by decide +kernel
theorem dX7_side_8 : decode cX7_side 8 = .ok (.getfield 18, 3) := by decide +kernel
theorem dX7_side_11 : decode cX7_side 11 = .ok (.iconst 2, 1) := by decide +kernel
theorem dX7_side_12 : decode cX7_side 12 = .ok (.if_icmp .eq 11, 3) := by decide +kernel
theorem dX7_side_15 : decode cX7_side 15 = .ok (.aload_n 0, 1) := by decide +kernel
theorem dX7_side_16 : decode cX7_side 16 = .ok (.getfield 18, 3) := by decide +kernel
theorem dX7_side_19 : decode cX7_side 19 = .ok (.iconst 4, 1) := by decide +kernel
theorem dX7_side_20 : decode cX7_side 20 = .ok (.if_icmp .ne 7, 3) := by decide +kernel
theorem dX7_side_23 : decode cX7_side 23 = .ok (.iconst 0, 1) := by decide +kernel
theorem dX7_side_24 : decode cX7_side 24 = .ok (.goto 4, 3) := by decide +kernel
theorem dX7_side_27 : decode cX7_side 27 = .ok (.iconst 1, 1) := by decide +kernel
theorem dX7_side_28 : decode cX7_side 28 = .ok (.ireturn, 1) := by decide +kernel
set_option maxRecDepth 20000 in
set_option maxHeartbeats 4000000 in
theorem s_X7_side (l : Launch) (g : GG) {q0 : Nat} (hq0 : kd q0 = 6) {σ : SS} {r : Int32} (h : f_X7_side q0 σ = r) : CT l g 0 yX7_side cX7_side 1 (some .int) [.ref (g.1 q0)] σ (some (.int r), σ) := by
  refine CT.of (lv := [(0, .ref (g.1 q0))]) RX7 (by decide +kernel) rfl (Nat.le_of_ble_eq_true rfl) rfl ?_
  unfold f_X7_side at h
  refine vr_aload_n (pc := 0) 0 dX7_side_0 rfl rfl ?_
  refine vr_getI (pc := 1) 0 dX7_side_1 fi_X7_18 hq0 (sh_6_0 hq0) ?_
  refine vr_if_eq (pc := 4) 23 dX7_side_4 (by decide) (fun c1 => ?_) (fun c1 => ?_)
  · rw [if_pos c1] at h
    refine vr_iconst (pc := 23) 0 dX7_side_23 ci_0 ?_
    refine vr_goto (pc := 24) 28 dX7_side_24 (by decide) ?_
    subst h
    exact vr_iret (pc := 28) .int dX7_side_28 rfl rfl rfl
  · rw [if_neg c1] at h
    refine vr_aload_n (pc := 7) 0 dX7_side_7 rfl rfl ?_
    refine vr_getI (pc := 8) 0 dX7_side_8 fi_X7_18 hq0 (sh_6_0 hq0) ?_
    refine vr_iconst (pc := 11) 2 dX7_side_11 ci_2 ?_
    refine vr_icmp_eq (pc := 12) 23 dX7_side_12 (by decide) (fun c2 => ?_) (fun c2 => ?_)
    · rw [if_pos c2] at h
      refine vr_iconst (pc := 23) 0 dX7_side_23 ci_0 ?_
      refine vr_goto (pc := 24) 28 dX7_side_24 (by decide) ?_
      subst h
      exact vr_iret (pc := 28) .int dX7_side_28 rfl rfl rfl
    · rw [if_neg c2] at h
      refine vr_aload_n (pc := 15) 0 dX7_side_15 rfl rfl ?_
      refine vr_getI (pc := 16) 0 dX7_side_16 fi_X7_18 hq0 (sh_6_0 hq0) ?_
      refine vr_iconst (pc := 19) 4 dX7_side_19 ci_4 ?_
      refine vr_icmp_ne (pc := 20) 27 dX7_side_20 (by decide) (fun c3 => ?_) (fun c3 => ?_)
      · rw [if_neg c3] at h
        refine vr_iconst (pc := 27) 1 dX7_side_27 ci_1 ?_
        subst h
        exact vr_iret (pc := 28) .int dX7_side_28 rfl rfl rfl
      · rw [if_pos c3] at h
        refine vr_iconst (pc := 23) 0 dX7_side_23 ci_0 ?_
        refine vr_goto (pc := 24) 28 dX7_side_24 (by decide) ?_
        subst h
        exact vr_iret (pc := 28) .int dX7_side_28 rfl rfl rfl
theorem dJ7_fill_53178_0 : decode cJ7_fill_53178 0 = .ok (.iconst 0, 1) := by decide +kernel
theorem dJ7_fill_53178_1 : decode cJ7_fill_53178 1 = .ok (.istore_n 2, 1) := by decide +kernel
theorem dJ7_fill_53178_2 : decode cJ7_fill_53178 2 = .ok (.aload_n 0, 1) := by decide +kernel
theorem dJ7_fill_53178_3 : decode cJ7_fill_53178 3 = .ok (.arraylength, 1) := by decide +kernel
theorem dJ7_fill_53178_4 : decode cJ7_fill_53178 4 = .ok (.istore_n 3, 1) := by decide +kernel
theorem dJ7_fill_53178_5 : decode cJ7_fill_53178 5 = .ok (.iload_n 2, 1) := by decide +kernel
theorem dJ7_fill_53178_6 : decode cJ7_fill_53178 6 = .ok (.iload_n 3, 1) := by decide +kernel
theorem dJ7_fill_53178_7 : decode cJ7_fill_53178 7 = .ok (.if_icmp .ge 13, 3) := by decide +kernel
theorem dJ7_fill_53178_10 : decode cJ7_fill_53178 10 = .ok (.aload_n 0, 1) := by decide +kernel
theorem dJ7_fill_53178_11 : decode cJ7_fill_53178 11 = .ok (.iload_n 2, 1) := by decide +kernel
theorem dJ7_fill_53178_12 : decode cJ7_fill_53178 12 = .ok (.iload_n 1, 1) := by decide +kernel
theorem dJ7_fill_53178_13 : decode cJ7_fill_53178 13 = .ok (.iastore, 1) := by decide +kernel
theorem dJ7_fill_53178_14 : decode cJ7_fill_53178 14 = .ok (.iinc 2 1, 3) := by decide +kernel
theorem dJ7_fill_53178_17 : decode cJ7_fill_53178 17 = .ok (.goto (-12), 3) := by decide +kernel
theorem dJ7_fill_53178_20 : decode cJ7_fill_53178 20 = .ok (.return_, 1) := by decide +kernel
set_option maxRecDepth 20000 in
set_option maxHeartbeats 4000000 in
theorem v_J7_fill_53178_L5 (l : Launch) (g : GG) {r : SS} {κ : SS → Option SS} (hκ : ∀ (τ : SS) , κ  τ = some r → VV l g 0 RJ7 cJ7_fill_53178 4 none (none, r) 20 [] [] τ) : ∀ (fu : Nat) (q0 : Nat) (x1 : Int32) (x2 : Int32) (x3 : Int32) (hq0 : kd q0 = 9) (σ : SS), f_J7_fill_53178_L5 κ fu q0 x1 x2 x3 σ = some r → VV l g 0 RJ7 cJ7_fill_53178 4 none (none, r) 5 [(0, .ref (g.1 q0)), (1, .int x1), (2, .int x2), (3, .int x3)] [] σ := by
  intro fu
  induction fu with
  | zero => intro q0 x1 x2 x3 hq0 σ h; cases h
  | succ fu ih =>
    intro q0 x1 x2 x3 hq0 σ h
    simp only [f_J7_fill_53178_L5] at h
    refine vr_iload_n (pc := 5) 2 dJ7_fill_53178_5 rfl rfl ?_
    refine vr_iload_n (pc := 6) 3 dJ7_fill_53178_6 rfl rfl ?_
    refine vr_icmp_ge (pc := 7) 20 dJ7_fill_53178_7 (by decide) (fun c1 => ?_) (fun c1 => ?_)
    · rw [if_pos c1] at h
      refine vr_sub [] [] rfl ?_
      exact hκ σ h
    · rw [if_neg c1] at h
      refine vr_aload_n (pc := 10) 0 dJ7_fill_53178_10 rfl rfl ?_
      refine vr_iload_n (pc := 11) 2 dJ7_fill_53178_11 rfl rfl ?_
      refine vr_iload_n (pc := 12) 1 dJ7_fill_53178_12 rfl rfl ?_
      obtain ⟨hc2, h⟩ := ck_some h
      refine vr_iast (pc := 13) dJ7_fill_53178_13 hq0 hc2 ?_
      refine vr_iinc (pc := 14) [(2, .int (x2 + 1)), (0, .ref (g.1 q0)), (1, .int x1), (3, .int x3)] 2 dJ7_fill_53178_14 rfl (congrArg (fun z => x2 + z) ci_1) (by decide) rfl ?_
      refine vr_goto (pc := 17) 5 dJ7_fill_53178_17 (by decide) ?_
      refine vr_sub [1, 2, 0, 3] [(0, .ref (g.1 q0)), (1, .int x1), (2, .int (x2 + 1)), (3, .int x3)] rfl ?_
      exact ih q0 x1 (x2 + 1) x3 (hq0) (sI σ q0 x2.toNatClampNeg x1) h
set_option maxRecDepth 20000 in
set_option maxHeartbeats 4000000 in
theorem s_J7_fill_53178 (l : Launch) (g : GG) {q0 : Nat} (hq0 : kd q0 = 9) {a1 : Int32} {σ : SS} {r : SS} (h : f_J7_fill_53178 q0 a1 σ = some r) : CT l g 0 yJ7_fill_53178 cJ7_fill_53178 4 none [.ref (g.1 q0), .int a1] σ (none, r) := by
  refine CT.of (lv := [(0, .ref (g.1 q0)), (1, .int a1)]) RJ7 (by decide +kernel) rfl (Nat.le_of_ble_eq_true rfl) rfl ?_
  unfold f_J7_fill_53178 at h
  refine vr_iconst (pc := 0) 0 dJ7_fill_53178_0 ci_0 ?_
  refine vr_istore_n (pc := 1) [(2, .int 0), (0, .ref (g.1 q0)), (1, .int a1)] dJ7_fill_53178_1 rfl (by decide) rfl ?_
  refine vr_aload_n (pc := 2) 1 dJ7_fill_53178_2 rfl rfl ?_
  refine vr_alen (pc := 3) dJ7_fill_53178_3 hq0 (by decide) ?_
  refine vr_istore_n (pc := 4) [(3, .int (Int32.ofNat (ln q0))), (2, .int 0), (0, .ref (g.1 q0)), (1, .int a1)] dJ7_fill_53178_4 rfl (by decide) rfl ?_
  refine vr_sub [2, 3, 1, 0] [(0, .ref (g.1 q0)), (1, .int a1), (2, .int 0), (3, .int (Int32.ofNat (ln q0)))] rfl ?_
  refine v_J7_fill_53178_L5 l g (fun τ h => ?_) FU q0 a1 0 (Int32.ofNat (ln q0)) (hq0) σ h
  have h := Option.some.inj h; subst h
  exact vr_vret (pc := 20) dJ7_fill_53178_20 rfl rfl
theorem dJ7_fill_d0a16_0 : decode cJ7_fill_d0a16 0 = .ok (.iconst 0, 1) := by decide +kernel
theorem dJ7_fill_d0a16_1 : decode cJ7_fill_d0a16 1 = .ok (.istore_n 3, 1) := by decide +kernel
theorem dJ7_fill_d0a16_2 : decode cJ7_fill_d0a16 2 = .ok (.aload_n 0, 1) := by decide +kernel
theorem dJ7_fill_d0a16_3 : decode cJ7_fill_d0a16 3 = .ok (.arraylength, 1) := by decide +kernel
theorem dJ7_fill_d0a16_4 : decode cJ7_fill_d0a16 4 = .ok (.istore 4, 2) := by decide +kernel
theorem dJ7_fill_d0a16_6 : decode cJ7_fill_d0a16 6 = .ok (.iload_n 3, 1) := by decide +kernel
theorem dJ7_fill_d0a16_7 : decode cJ7_fill_d0a16 7 = .ok (.iload 4, 2) := by decide +kernel
theorem dJ7_fill_d0a16_9 : decode cJ7_fill_d0a16 9 = .ok (.if_icmp .ge 13, 3) := by decide +kernel
theorem dJ7_fill_d0a16_12 : decode cJ7_fill_d0a16 12 = .ok (.aload_n 0, 1) := by decide +kernel
theorem dJ7_fill_d0a16_13 : decode cJ7_fill_d0a16 13 = .ok (.iload_n 3, 1) := by decide +kernel
theorem dJ7_fill_d0a16_14 : decode cJ7_fill_d0a16 14 = .ok (.lload_n 1, 1) := by decide +kernel
theorem dJ7_fill_d0a16_15 : decode cJ7_fill_d0a16 15 = .ok (.lastore, 1) := by decide +kernel
theorem dJ7_fill_d0a16_16 : decode cJ7_fill_d0a16 16 = .ok (.iinc 3 1, 3) := by decide +kernel
theorem dJ7_fill_d0a16_19 : decode cJ7_fill_d0a16 19 = .ok (.goto (-13), 3) := by decide +kernel
theorem dJ7_fill_d0a16_22 : decode cJ7_fill_d0a16 22 = .ok (.return_, 1) := by decide +kernel
set_option maxRecDepth 20000 in
set_option maxHeartbeats 4000000 in
theorem v_J7_fill_d0a16_L6 (l : Launch) (g : GG) {r : SS} {κ : SS → Option SS} (hκ : ∀ (τ : SS) , κ  τ = some r → VV l g 0 RJ7 cJ7_fill_d0a16 5 none (none, r) 22 [] [] τ) : ∀ (fu : Nat) (q0 : Nat) (x1 : Int64) (x3 : Int32) (x4 : Int32) (hq0 : kd q0 = 11) (σ : SS), f_J7_fill_d0a16_L6 κ fu q0 x1 x3 x4 σ = some r → VV l g 0 RJ7 cJ7_fill_d0a16 5 none (none, r) 6 [(0, .ref (g.1 q0)), (1, .long x1), (3, .int x3), (4, .int x4)] [] σ := by
  intro fu
  induction fu with
  | zero => intro q0 x1 x3 x4 hq0 σ h; cases h
  | succ fu ih =>
    intro q0 x1 x3 x4 hq0 σ h
    simp only [f_J7_fill_d0a16_L6] at h
    refine vr_iload_n (pc := 6) 2 dJ7_fill_d0a16_6 rfl rfl ?_
    refine vr_iload (pc := 7) 3 dJ7_fill_d0a16_7 rfl ?_
    refine vr_icmp_ge (pc := 9) 22 dJ7_fill_d0a16_9 (by decide) (fun c1 => ?_) (fun c1 => ?_)
    · rw [if_pos c1] at h
      refine vr_sub [] [] rfl ?_
      exact hκ σ h
    · rw [if_neg c1] at h
      refine vr_aload_n (pc := 12) 0 dJ7_fill_d0a16_12 rfl rfl ?_
      refine vr_iload_n (pc := 13) 2 dJ7_fill_d0a16_13 rfl rfl ?_
      refine vr_lload_n (pc := 14) 1 dJ7_fill_d0a16_14 rfl rfl ?_
      obtain ⟨hc2, h⟩ := ck_some h
      refine vr_last (pc := 15) dJ7_fill_d0a16_15 hq0 hc2 ?_
      refine vr_iinc (pc := 16) [(3, .int (x3 + 1)), (0, .ref (g.1 q0)), (1, .long x1), (4, .int x4)] 2 dJ7_fill_d0a16_16 rfl (congrArg (fun z => x3 + z) ci_1) (by decide) rfl ?_
      refine vr_goto (pc := 19) 6 dJ7_fill_d0a16_19 (by decide) ?_
      refine vr_sub [1, 2, 0, 3] [(0, .ref (g.1 q0)), (1, .long x1), (3, .int (x3 + 1)), (4, .int x4)] rfl ?_
      exact ih q0 x1 (x3 + 1) x4 (hq0) (sL σ q0 x3.toNatClampNeg x1) h
set_option maxRecDepth 20000 in
set_option maxHeartbeats 4000000 in
theorem s_J7_fill_d0a16 (l : Launch) (g : GG) {q0 : Nat} (hq0 : kd q0 = 11) {a1 : Int64} {σ : SS} {r : SS} (h : f_J7_fill_d0a16 q0 a1 σ = some r) : CT l g 0 yJ7_fill_d0a16 cJ7_fill_d0a16 5 none [.ref (g.1 q0), .long a1] σ (none, r) := by
  refine CT.of (lv := [(0, .ref (g.1 q0)), (1, .long a1)]) RJ7 (by decide +kernel) rfl (Nat.le_of_ble_eq_true rfl) rfl ?_
  unfold f_J7_fill_d0a16 at h
  refine vr_iconst (pc := 0) 0 dJ7_fill_d0a16_0 ci_0 ?_
  refine vr_istore_n (pc := 1) [(3, .int 0), (0, .ref (g.1 q0)), (1, .long a1)] dJ7_fill_d0a16_1 rfl (by decide) rfl ?_
  refine vr_aload_n (pc := 2) 1 dJ7_fill_d0a16_2 rfl rfl ?_
  refine vr_alen (pc := 3) dJ7_fill_d0a16_3 hq0 (by decide) ?_
  refine vr_istore (pc := 4) [(4, .int (Int32.ofNat (ln q0))), (3, .int 0), (0, .ref (g.1 q0)), (1, .long a1)] dJ7_fill_d0a16_4 (by decide) rfl ?_
  refine vr_sub [2, 3, 1, 0] [(0, .ref (g.1 q0)), (1, .long a1), (3, .int 0), (4, .int (Int32.ofNat (ln q0)))] rfl ?_
  refine v_J7_fill_d0a16_L6 l g (fun τ h => ?_) FU q0 a1 0 (Int32.ofNat (ln q0)) (hq0) σ h
  have h := Option.some.inj h; subst h
  exact vr_vret (pc := 22) dJ7_fill_d0a16_22 rfl rfl
theorem dX2_modulo_0 : decode cX2_modulo 0 = .ok (.iload_n 1, 1) := by decide +kernel
theorem dX2_modulo_1 : decode cX2_modulo 1 = .ok (.iconst 1, 1) := by decide +kernel
theorem dX2_modulo_2 : decode cX2_modulo 2 = .ok (.if_icmp .ge 7, 3) := by decide +kernel
theorem dX2_modulo_5 : decode cX2_modulo 5 = .ok (.iconst 0, 1) := by decide +kernel
theorem dX2_modulo_6 : decode cX2_modulo 6 = .ok (.goto 6, 3) := by decide +kernel
theorem dX2_modulo_9 : decode cX2_modulo 9 = .ok (.iload_n 0, 1) := by decide +kernel
theorem dX2_modulo_10 : decode cX2_modulo 10 = .ok (.iload_n 1, 1) := by decide +kernel
theorem dX2_modulo_11 : decode cX2_modulo 11 = .ok (.irem, 1) := by decide +kernel
theorem dX2_modulo_12 : decode cX2_modulo 12 = .ok (.istore_n 2, 1) := by decide +kernel
theorem dX2_modulo_13 : decode cX2_modulo 13 = .ok (.iload_n 2, 1) := by decide +kernel
theorem dX2_modulo_14 : decode cX2_modulo 14 = .ok (.ifCond .ge 9, 3) := by decide +kernel
theorem dX2_modulo_17 : decode cX2_modulo 17 = .ok (.iload_n 2, 1) := by decide +kernel
theorem dX2_modulo_18 : decode cX2_modulo 18 = .ok (.iload_n 1, 1) := by decide +kernel
theorem dX2_modulo_19 : decode cX2_modulo 19 = .ok (.iadd, 1) := by decide +kernel
theorem dX2_modulo_20 : decode cX2_modulo 20 = .ok (.goto 4, 3) := by decide +kernel
theorem dX2_modulo_23 : decode cX2_modulo 23 = .ok (.iload_n 2, 1) := by decide +kernel
theorem dX2_modulo_24 : decode cX2_modulo 24 = .ok (.ireturn, 1) := by decide +kernel
set_option maxRecDepth 20000 in
set_option maxHeartbeats 4000000 in
theorem s_X2_modulo (l : Launch) (g : GG) {a0 : Int32} {a1 : Int32} {σ : SS} {r : Int32} (h : f_X2_modulo a0 a1 = r) : CT l g 0 yX2_modulo cX2_modulo 3 (some .int) [.int a0, .int a1] σ (some (.int r), σ) := by
  refine CT.of (lv := [(0, .int a0), (1, .int a1)]) RX2 (by decide +kernel) rfl (Nat.le_of_ble_eq_true rfl) rfl ?_
  unfold f_X2_modulo at h
  refine vr_iload_n (pc := 0) 1 dX2_modulo_0 rfl rfl ?_
  refine vr_iconst (pc := 1) 1 dX2_modulo_1 ci_1 ?_
  obtain ⟨j1, ej1, h⟩ := jn1_e h
  have hj1 : ∀ (v3 : Int32) , j1 v3 = r → VV l g 0 RX2 cX2_modulo 3 (some .int) (some (.int r), σ) 12 [(1, .int a1)] [.int v3] σ := by
    intro v3  h
    rw [ej1] at h
    refine vr_istore_n (pc := 12) [(2, .int v3), (1, .int a1)] dX2_modulo_12 rfl (by decide) rfl ?_
    refine vr_iload_n (pc := 13) 0 dX2_modulo_13 rfl rfl ?_
    refine vr_if_ge (pc := 14) 23 dX2_modulo_14 (by decide) (fun c4 => ?_) (fun c4 => ?_)
    · rw [if_pos c4] at h
      refine vr_iload_n (pc := 23) 0 dX2_modulo_23 rfl rfl ?_
      subst h
      exact vr_iret (pc := 24) .int dX2_modulo_24 rfl rfl rfl
    · rw [if_neg c4] at h
      refine vr_iload_n (pc := 17) 0 dX2_modulo_17 rfl rfl ?_
      refine vr_iload_n (pc := 18) 1 dX2_modulo_18 rfl rfl ?_
      refine vr_iadd (pc := 19) dX2_modulo_19 ?_
      refine vr_goto (pc := 20) 24 dX2_modulo_20 (by decide) ?_
      subst h
      exact vr_iret (pc := 24) .int dX2_modulo_24 rfl rfl rfl
  refine vr_icmp_ge (pc := 2) 9 dX2_modulo_2 (by decide) (fun c5 => ?_) (fun c5 => ?_)
  · rw [if_pos c5] at h
    refine vr_iload_n (pc := 9) 0 dX2_modulo_9 rfl rfl ?_
    refine vr_iload_n (pc := 10) 1 dX2_modulo_10 rfl rfl ?_
    refine vr_irem (pc := 11) dX2_modulo_11 (ne0_le1 c5) ?_
    refine vr_sub [1] [(1, .int a1)] rfl ?_
    exact hj1 (a0 - a0 / a1 * a1) h
  · rw [if_neg c5] at h
    refine vr_iconst (pc := 5) 0 dX2_modulo_5 ci_0 ?_
    refine vr_goto (pc := 6) 12 dX2_modulo_6 (by decide) ?_
    refine vr_sub [1] [(1, .int a1)] rfl ?_
    exact hj1 0 h
theorem dX4_slipped_0 : decode cX4_slipped 0 = .ok (.iload_n 2, 1) := by decide +kernel
theorem dX4_slipped_1 : decode cX4_slipped 1 = .ok (.aload_n 1, 1) := by decide +kernel
theorem dX4_slipped_2 : decode cX4_slipped 2 = .ok (.getfield 82, 3) := by decide +kernel
theorem dX4_slipped_5 : decode cX4_slipped 5 = .ok (.iconst 2, 1) := by decide +kernel
theorem dX4_slipped_6 : decode cX4_slipped 6 = .ok (.iadd, 1) := by decide +kernel
theorem dX4_slipped_7 : decode cX4_slipped 7 = .ok (.invokestatic 68, 3) := by decide +kernel
theorem dX4_slipped_10 : decode cX4_slipped 10 = .ok (.ifCond .ne 10, 3) := by decide +kernel
theorem dX4_slipped_13 : decode cX4_slipped 13 = .ok (.aload_n 1, 1) := by decide +kernel
theorem dX4_slipped_14 : decode cX4_slipped 14 = .ok (.getfield 82, 3) := by decide +kernel
theorem dX4_slipped_17 : decode cX4_slipped 17 = .ok (.goto 4, 3) := by decide +kernel
theorem dX4_slipped_20 : decode cX4_slipped 20 = .ok (.iconst 0, 1) := by decide +kernel
theorem dX4_slipped_21 : decode cX4_slipped 21 = .ok (.istore_n 3, 1) := by decide +kernel
theorem dX4_slipped_22 : decode cX4_slipped 22 = .ok (.iload_n 2, 1) := by decide +kernel
theorem dX4_slipped_23 : decode cX4_slipped 23 = .ok (.aload_n 1, 1) := by decide +kernel
theorem dX4_slipped_24 : decode cX4_slipped 24 = .ok (.getfield 42, 3) := by decide +kernel
theorem dX4_slipped_27 : decode cX4_slipped 27 = .ok (.iadd, 1) := by decide +kernel
theorem dX4_slipped_28 : decode cX4_slipped 28 = .ok (.iload_n 3, 1) := by decide +kernel
theorem dX4_slipped_29 : decode cX4_slipped 29 = .ok (.iadd, 1) := by decide +kernel
theorem dX4_slipped_30 : decode cX4_slipped 30 = .ok (.aload_n 0, 1) := by decide +kernel
theorem dX4_slipped_31 : decode cX4_slipped 31 = .ok (.getfield 9, 3) := by decide +kernel
theorem dX4_slipped_34 : decode cX4_slipped 34 = .ok (.invokestatic 68, 3) := by decide +kernel
theorem dX4_slipped_37 : decode cX4_slipped 37 = .ok (.ireturn, 1) := by decide +kernel
set_option maxRecDepth 20000 in
set_option maxHeartbeats 4000000 in
theorem s_X4_slipped (l : Launch) (g : GG) {q0 : Nat} (hq0 : kd q0 = 3) {q1 : Nat} (hq1 : kd q1 = 6) {a2 : Int32} {σ : SS} {r : Int32} (h : f_X4_slipped q0 q1 a2 σ = r) : CT l g 1 yX4_slipped cX4_slipped 4 (some .int) [.ref (g.1 q0), .ref (g.1 q1), .int a2] σ (some (.int r), σ) := by
  refine CT.of (lv := [(0, .ref (g.1 q0)), (1, .ref (g.1 q1)), (2, .int a2)]) RX4 (by decide +kernel) rfl (Nat.le_of_ble_eq_true rfl) rfl ?_
  unfold f_X4_slipped at h
  refine vr_iload_n (pc := 0) 2 dX4_slipped_0 rfl rfl ?_
  refine vr_aload_n (pc := 1) 1 dX4_slipped_1 rfl rfl ?_
  refine vr_getI (pc := 2) 2 dX4_slipped_2 fi_X4_82 hq1 (sh_6_2 hq1) ?_
  refine vr_iconst (pc := 5) 2 dX4_slipped_5 ci_2 ?_
  refine vr_iadd (pc := 6) dX4_slipped_6 ?_
  refine vr_callS (pc := 7) (ρ1 := (some (.int (f_X2_modulo a2 ((σ.1 q1 2) + 2))), σ)) [.int a2, .int ((σ.1 q1 2) + 2)] dX4_slipped_7 (s_X2_modulo l g rfl) cw_X2_modulo ml_X4_68 (by decide) rfl rfl (Nat.le_of_ble_eq_true rfl) ?_
  obtain ⟨j1, ej1, h⟩ := jn1_e h
  have hj1 : ∀ (v3 : Int32) , j1 v3 = r → VV l g 1 RX4 cX4_slipped 4 (some .int) (some (.int r), σ) 21 [(0, .ref (g.1 q0)), (1, .ref (g.1 q1)), (2, .int a2)] [.int v3] σ := by
    intro v3  h
    rw [ej1] at h
    refine vr_istore_n (pc := 21) [(3, .int v3), (0, .ref (g.1 q0)), (1, .ref (g.1 q1)), (2, .int a2)] dX4_slipped_21 rfl (by decide) rfl ?_
    refine vr_iload_n (pc := 22) 3 dX4_slipped_22 rfl rfl ?_
    refine vr_aload_n (pc := 23) 2 dX4_slipped_23 rfl rfl ?_
    refine vr_getI (pc := 24) 1 dX4_slipped_24 fi_X4_42 hq1 (sh_6_1 hq1) ?_
    refine vr_iadd (pc := 27) dX4_slipped_27 ?_
    refine vr_iload_n (pc := 28) 0 dX4_slipped_28 rfl rfl ?_
    refine vr_iadd (pc := 29) dX4_slipped_29 ?_
    refine vr_aload_n (pc := 30) 1 dX4_slipped_30 rfl rfl ?_
    refine vr_getI (pc := 31) 0 dX4_slipped_31 fi_X4_9 hq0 (sh_3_0 hq0) ?_
    refine vr_callS (pc := 34) (ρ1 := (some (.int (f_X2_modulo ((a2 + (σ.1 q1 1)) + v3) (σ.1 q0 0))), σ)) [.int ((a2 + (σ.1 q1 1)) + v3), .int (σ.1 q0 0)] dX4_slipped_34 (s_X2_modulo l g rfl) cw_X2_modulo ml_X4_68 (by decide) rfl rfl (Nat.le_of_ble_eq_true rfl) ?_
    subst h
    exact vr_iret (pc := 37) .int dX4_slipped_37 rfl rfl rfl
  refine vr_if_ne (pc := 10) 20 dX4_slipped_10 (by decide) (fun c4 => ?_) (fun c4 => ?_)
  · rw [if_neg c4] at h
    refine vr_iconst (pc := 20) 0 dX4_slipped_20 ci_0 ?_
    exact hj1 0 h
  · rw [if_pos c4] at h
    refine vr_aload_n (pc := 13) 1 dX4_slipped_13 rfl rfl ?_
    refine vr_getI (pc := 14) 2 dX4_slipped_14 fi_X4_82 hq1 (sh_6_2 hq1) ?_
    refine vr_goto (pc := 17) 21 dX4_slipped_17 (by decide) ?_
    exact hj1 (σ.1 q1 2) h
theorem dX4_unwornFrom_0 : decode cX4_unwornFrom 0 = .ok (.iconst 0, 1) := by decide +kernel
theorem dX4_unwornFrom_1 : decode cX4_unwornFrom 1 = .ok (.istore_n 2, 1) := by decide +kernel
theorem dX4_unwornFrom_2 : decode cX4_unwornFrom 2 = .ok (.iload_n 2, 1) := by decide +kernel
theorem dX4_unwornFrom_3 : decode cX4_unwornFrom 3 = .ok (.aload_n 0, 1) := by decide +kernel
theorem dX4_unwornFrom_4 : decode cX4_unwornFrom 4 = .ok (.getfield 9, 3) := by decide +kernel
theorem dX4_unwornFrom_7 : decode cX4_unwornFrom 7 = .ok (.if_icmp .ge 31, 3) := by decide +kernel
theorem dX4_unwornFrom_10 : decode cX4_unwornFrom 10 = .ok (.iload_n 1, 1) := by decide +kernel
theorem dX4_unwornFrom_11 : decode cX4_unwornFrom 11 = .ok (.iload_n 2, 1) := by decide +kernel
theorem dX4_unwornFrom_12 : decode cX4_unwornFrom 12 = .ok (.iadd, 1) := by decide +kernel
theorem dX4_unwornFrom_13 : decode cX4_unwornFrom 13 = .ok (.aload_n 0, 1) := by decide +kernel
theorem dX4_unwornFrom_14 : decode cX4_unwornFrom 14 = .ok (.getfield 9, 3) := by decide +kernel
theorem dX4_unwornFrom_17 : decode cX4_unwornFrom 17 = .ok (.invokestatic 68, 3) := by decide +kernel
theorem dX4_unwornFrom_20 : decode cX4_unwornFrom 20 = .ok (.istore_n 3, 1) := by decide +kernel
theorem dX4_unwornFrom_21 : decode cX4_unwornFrom 21 = .ok (.aload_n 0, 1) := by decide +kernel
theorem dX4_unwornFrom_22 : decode cX4_unwornFrom 22 = .ok (.getfield 19, 3) := by decide +kernel
theorem dX4_unwornFrom_25 : decode cX4_unwornFrom 25 = .ok (.iload_n 3, 1) := by decide +kernel
theorem dX4_unwornFrom_26 : decode cX4_unwornFrom 26 = .ok (.iaload, 1) := by decide +kernel
theorem dX4_unwornFrom_27 : decode cX4_unwornFrom 27 = .ok (.ifCond .ne 5, 3) := by decide +kernel
theorem dX4_unwornFrom_30 : decode cX4_unwornFrom 30 = .ok (.iload_n 3, 1) := by decide +kernel
theorem dX4_unwornFrom_31 : decode cX4_unwornFrom 31 = .ok (.ireturn, 1) := by decide +kernel
theorem dX4_unwornFrom_32 : decode cX4_unwornFrom 32 = .ok (.iinc 2 1, 3) := by decide +kernel
theorem dX4_unwornFrom_35 : decode cX4_unwornFrom 35 = .ok (.goto (-33), 3) := by decide +kernel
theorem dX4_unwornFrom_38 : decode cX4_unwornFrom 38 = .ok (.iload_n 1, 1) := by decide +kernel
theorem dX4_unwornFrom_39 : decode cX4_unwornFrom 39 = .ok (.ireturn, 1) := by decide +kernel
set_option maxRecDepth 20000 in
set_option maxHeartbeats 4000000 in
theorem v_X4_unwornFrom_L2 (l : Launch) (g : GG) {r : Int32} {σ : SS} {κ : Int32 → Option Int32} (hκ : ∀ (y1 : Int32) , κ y1 = some r → VV l g 1 RX4 cX4_unwornFrom 4 (some .int) (some (.int r), σ) 38 [(1, .int y1)] [] σ) : ∀ (fu : Nat) (q0 : Nat) (x1 : Int32) (x2 : Int32) (hq0 : kd q0 = 3), f_X4_unwornFrom_L2 σ κ fu q0 x1 x2 = some r → VV l g 1 RX4 cX4_unwornFrom 4 (some .int) (some (.int r), σ) 2 [(0, .ref (g.1 q0)), (1, .int x1), (2, .int x2)] [] σ := by
  intro fu
  induction fu with
  | zero => intro q0 x1 x2 hq0 h; cases h
  | succ fu ih =>
    intro q0 x1 x2 hq0 h
    simp only [f_X4_unwornFrom_L2] at h
    refine vr_iload_n (pc := 2) 2 dX4_unwornFrom_2 rfl rfl ?_
    refine vr_aload_n (pc := 3) 0 dX4_unwornFrom_3 rfl rfl ?_
    refine vr_getI (pc := 4) 0 dX4_unwornFrom_4 fi_X4_9 hq0 (sh_3_0 hq0) ?_
    refine vr_icmp_ge (pc := 7) 38 dX4_unwornFrom_7 (by decide) (fun c1 => ?_) (fun c1 => ?_)
    · rw [if_pos c1] at h
      refine vr_sub [1] [(1, .int x1)] rfl ?_
      exact hκ x1 h
    · rw [if_neg c1] at h
      refine vr_iload_n (pc := 10) 1 dX4_unwornFrom_10 rfl rfl ?_
      refine vr_iload_n (pc := 11) 2 dX4_unwornFrom_11 rfl rfl ?_
      refine vr_iadd (pc := 12) dX4_unwornFrom_12 ?_
      refine vr_aload_n (pc := 13) 0 dX4_unwornFrom_13 rfl rfl ?_
      refine vr_getI (pc := 14) 0 dX4_unwornFrom_14 fi_X4_9 hq0 (sh_3_0 hq0) ?_
      refine vr_callS (pc := 17) (ρ1 := (some (.int (f_X2_modulo (x1 + x2) (σ.1 q0 0))), σ)) [.int (x1 + x2), .int (σ.1 q0 0)] dX4_unwornFrom_17 (s_X2_modulo l g rfl) cw_X2_modulo ml_X4_68 (by decide) rfl rfl (Nat.le_of_ble_eq_true rfl) ?_
      refine vr_istore_n (pc := 20) [(3, .int (f_X2_modulo (x1 + x2) (σ.1 q0 0))), (0, .ref (g.1 q0)), (1, .int x1), (2, .int x2)] dX4_unwornFrom_20 rfl (by decide) rfl ?_
      refine vr_aload_n (pc := 21) 1 dX4_unwornFrom_21 rfl rfl ?_
      refine vr_getR (pc := 22) 3 dX4_unwornFrom_22 fi_X4_19 hq0 (sh_3_3 hq0).1 ?_
      refine vr_iload_n (pc := 25) 0 dX4_unwornFrom_25 rfl rfl ?_
      obtain ⟨hc2, h⟩ := ck_some h
      refine vr_iald (pc := 26) dX4_unwornFrom_26 (sh_3_3 hq0).2 hc2 ?_
      refine vr_if_ne (pc := 27) 32 dX4_unwornFrom_27 (by decide) (fun c3 => ?_) (fun c3 => ?_)
      · rw [if_neg c3] at h
        refine vr_iinc (pc := 32) [(2, .int (x2 + 1)), (3, .int (f_X2_modulo (x1 + x2) (σ.1 q0 0))), (0, .ref (g.1 q0)), (1, .int x1)] 3 dX4_unwornFrom_32 rfl (congrArg (fun z => x2 + z) ci_1) (by decide) rfl ?_
        refine vr_goto (pc := 35) 2 dX4_unwornFrom_35 (by decide) ?_
        refine vr_sub [2, 3, 0] [(0, .ref (g.1 q0)), (1, .int x1), (2, .int (x2 + 1))] rfl ?_
        exact ih q0 x1 (x2 + 1) (hq0) h
      · rw [if_pos c3] at h
        refine vr_iload_n (pc := 30) 0 dX4_unwornFrom_30 rfl rfl ?_
        have h := Option.some.inj h; subst h
        exact vr_iret (pc := 31) .int dX4_unwornFrom_31 rfl rfl rfl
set_option maxRecDepth 20000 in
set_option maxHeartbeats 4000000 in
theorem s_X4_unwornFrom (l : Launch) (g : GG) {q0 : Nat} (hq0 : kd q0 = 3) {a1 : Int32} {σ : SS} {r : Int32} (h : f_X4_unwornFrom q0 a1 σ = some r) : CT l g 1 yX4_unwornFrom cX4_unwornFrom 4 (some .int) [.ref (g.1 q0), .int a1] σ (some (.int r), σ) := by
  refine CT.of (lv := [(0, .ref (g.1 q0)), (1, .int a1)]) RX4 (by decide +kernel) rfl (Nat.le_of_ble_eq_true rfl) rfl ?_
  unfold f_X4_unwornFrom at h
  refine vr_iconst (pc := 0) 0 dX4_unwornFrom_0 ci_0 ?_
  refine vr_istore_n (pc := 1) [(2, .int 0), (0, .ref (g.1 q0)), (1, .int a1)] dX4_unwornFrom_1 rfl (by decide) rfl ?_
  refine vr_sub [1, 2, 0] [(0, .ref (g.1 q0)), (1, .int a1), (2, .int 0)] rfl ?_
  refine v_X4_unwornFrom_L2 l g (fun y1 h => ?_) FU q0 a1 0 (hq0) h
  refine vr_iload_n (pc := 38) 0 dX4_unwornFrom_38 rfl rfl ?_
  have h := Option.some.inj h; subst h
  exact vr_iret (pc := 39) .int dX4_unwornFrom_39 rfl rfl rfl
theorem dX4_nextBy_0 : decode cX4_nextBy 0 = .ok (.aload_n 1, 1) := by decide +kernel
theorem dX4_nextBy_1 : decode cX4_nextBy 1 = .ok (.getfield 65, 3) := by decide +kernel
theorem dX4_nextBy_4 : decode cX4_nextBy 4 = .ok (.tableswitch 82 0 4 #[36, 36, 50, 57, 71], 36) := by decide +kernel
theorem dX4_nextBy_40 : decode cX4_nextBy 40 = .ok (.iload_n 2, 1) := by decide +kernel
theorem dX4_nextBy_41 : decode cX4_nextBy 41 = .ok (.aload_n 1, 1) := by decide +kernel
theorem dX4_nextBy_42 : decode cX4_nextBy 42 = .ok (.getfield 42, 3) := by decide +kernel
theorem dX4_nextBy_45 : decode cX4_nextBy 45 = .ok (.iadd, 1) := by decide +kernel
theorem dX4_nextBy_46 : decode cX4_nextBy 46 = .ok (.aload_n 0, 1) := by decide +kernel
theorem dX4_nextBy_47 : decode cX4_nextBy 47 = .ok (.getfield 9, 3) := by decide +kernel
theorem dX4_nextBy_50 : decode cX4_nextBy 50 = .ok (.invokestatic 68, 3) := by decide +kernel
theorem dX4_nextBy_53 : decode cX4_nextBy 53 = .ok (.ireturn, 1) := by decide +kernel
theorem dX4_nextBy_54 : decode cX4_nextBy 54 = .ok (.aload_n 0, 1) := by decide +kernel
theorem dX4_nextBy_55 : decode cX4_nextBy 55 = .ok (.aload_n 1, 1) := by decide +kernel
theorem dX4_nextBy_56 : decode cX4_nextBy 56 = .ok (.iload_n 2, 1) := by decide +kernel
theorem dX4_nextBy_57 : decode cX4_nextBy 57 = .ok (.invokevirtual 74, 3) := by decide +kernel
theorem dX4_nextBy_60 : decode cX4_nextBy 60 = .ok (.ireturn, 1) := by decide +kernel
theorem dX4_nextBy_61 : decode cX4_nextBy 61 = .ok (.iload_n 2, 1) := by decide +kernel
theorem dX4_nextBy_62 : decode cX4_nextBy 62 = .ok (.aload_n 1, 1) := by decide +kernel
theorem dX4_nextBy_63 : decode cX4_nextBy 63 = .ok (.getfield 42, 3) := by decide +kernel
theorem dX4_nextBy_66 : decode cX4_nextBy 66 = .ok (.isub, 1) := by decide +kernel
theorem dX4_nextBy_67 : decode cX4_nextBy 67 = .ok (.aload_n 0, 1) := by decide +kernel
theorem dX4_nextBy_68 : decode cX4_nextBy 68 = .ok (.getfield 9, 3) := by decide +kernel
theorem dX4_nextBy_71 : decode cX4_nextBy 71 = .ok (.invokestatic 68, 3) := by decide +kernel
theorem dX4_nextBy_74 : decode cX4_nextBy 74 = .ok (.ireturn, 1) := by decide +kernel
theorem dX4_nextBy_75 : decode cX4_nextBy 75 = .ok (.aload_n 0, 1) := by decide +kernel
theorem dX4_nextBy_76 : decode cX4_nextBy 76 = .ok (.aload_n 0, 1) := by decide +kernel
theorem dX4_nextBy_77 : decode cX4_nextBy 77 = .ok (.aload_n 1, 1) := by decide +kernel
theorem dX4_nextBy_78 : decode cX4_nextBy 78 = .ok (.iload_n 2, 1) := by decide +kernel
theorem dX4_nextBy_79 : decode cX4_nextBy 79 = .ok (.invokevirtual 74, 3) := by decide +kernel
theorem dX4_nextBy_82 : decode cX4_nextBy 82 = .ok (.invokevirtual 78, 3) := by decide +kernel
theorem dX4_nextBy_85 : decode cX4_nextBy 85 = .ok (.ireturn, 1) := by decide +kernel
theorem dX4_nextBy_86 : decode cX4_nextBy 86 = .ok (.iload_n 2, 1) := by decide +kernel
theorem dX4_nextBy_87 : decode cX4_nextBy 87 = .ok (.iconst 2, 1) := by decide +kernel
theorem dX4_nextBy_88 : decode cX4_nextBy 88 = .ok (.aload_n 1, 1) := by decide +kernel
theorem dX4_nextBy_89 : decode cX4_nextBy 89 = .ok (.getfield 42, 3) := by decide +kernel
theorem dX4_nextBy_92 : decode cX4_nextBy 92 = .ok (.imul, 1) := by decide +kernel
theorem dX4_nextBy_93 : decode cX4_nextBy 93 = .ok (.isub, 1) := by decide +kernel
theorem dX4_nextBy_94 : decode cX4_nextBy 94 = .ok (.aload_n 0, 1) := by decide +kernel
theorem dX4_nextBy_95 : decode cX4_nextBy 95 = .ok (.getfield 9, 3) := by decide +kernel
theorem dX4_nextBy_98 : decode cX4_nextBy 98 = .ok (.invokestatic 68, 3) := by decide +kernel
theorem dX4_nextBy_101 : decode cX4_nextBy 101 = .ok (.ireturn, 1) := by decide +kernel
set_option maxRecDepth 20000 in
set_option maxHeartbeats 4000000 in
theorem s_X4_nextBy (l : Launch) (g : GG) {q0 : Nat} (hq0 : kd q0 = 3) {q1 : Nat} (hq1 : kd q1 = 6) {a2 : Int32} {σ : SS} {r : Int32} (h : f_X4_nextBy q0 q1 a2 σ = some r) : CT l g 2 yX4_nextBy cX4_nextBy 3 (some .int) [.ref (g.1 q0), .ref (g.1 q1), .int a2] σ (some (.int r), σ) := by
  refine CT.of (lv := [(0, .ref (g.1 q0)), (1, .ref (g.1 q1)), (2, .int a2)]) RX4 (by decide +kernel) rfl (Nat.le_of_ble_eq_true rfl) rfl ?_
  unfold f_X4_nextBy at h
  refine vr_aload_n (pc := 0) 1 dX4_nextBy_0 rfl rfl ?_
  refine vr_getI (pc := 1) 0 dX4_nextBy_1 fi_X4_65 hq1 (sh_6_0 hq1) ?_
  by_cases c1 : (σ.1 q1 0) = 0
  · rw [if_pos c1] at h
    refine vr_tableIn (pc := 4) 36 40 dX4_nextBy_4 (by rw [c1]; decide) (by rw [c1]; decide) (by rw [c1]; rfl) (by decide) ?_
    refine vr_iload_n (pc := 40) 2 dX4_nextBy_40 rfl rfl ?_
    refine vr_aload_n (pc := 41) 1 dX4_nextBy_41 rfl rfl ?_
    refine vr_getI (pc := 42) 1 dX4_nextBy_42 fi_X4_42 hq1 (sh_6_1 hq1) ?_
    refine vr_iadd (pc := 45) dX4_nextBy_45 ?_
    refine vr_aload_n (pc := 46) 0 dX4_nextBy_46 rfl rfl ?_
    refine vr_getI (pc := 47) 0 dX4_nextBy_47 fi_X4_9 hq0 (sh_3_0 hq0) ?_
    refine vr_callS (pc := 50) (ρ1 := (some (.int (f_X2_modulo (a2 + (σ.1 q1 1)) (σ.1 q0 0))), σ)) [.int (a2 + (σ.1 q1 1)), .int (σ.1 q0 0)] dX4_nextBy_50 (s_X2_modulo l g rfl) cw_X2_modulo ml_X4_68 (by decide) rfl rfl (Nat.le_of_ble_eq_true rfl) ?_
    have h := Option.some.inj h; subst h
    exact vr_iret (pc := 53) .int dX4_nextBy_53 rfl rfl rfl
  · rw [if_neg c1] at h
    by_cases c2 : (σ.1 q1 0) = 1
    · rw [if_pos c2] at h
      refine vr_tableIn (pc := 4) 36 40 dX4_nextBy_4 (by rw [c2]; decide) (by rw [c2]; decide) (by rw [c2]; rfl) (by decide) ?_
      refine vr_iload_n (pc := 40) 2 dX4_nextBy_40 rfl rfl ?_
      refine vr_aload_n (pc := 41) 1 dX4_nextBy_41 rfl rfl ?_
      refine vr_getI (pc := 42) 1 dX4_nextBy_42 fi_X4_42 hq1 (sh_6_1 hq1) ?_
      refine vr_iadd (pc := 45) dX4_nextBy_45 ?_
      refine vr_aload_n (pc := 46) 0 dX4_nextBy_46 rfl rfl ?_
      refine vr_getI (pc := 47) 0 dX4_nextBy_47 fi_X4_9 hq0 (sh_3_0 hq0) ?_
      refine vr_callS (pc := 50) (ρ1 := (some (.int (f_X2_modulo (a2 + (σ.1 q1 1)) (σ.1 q0 0))), σ)) [.int (a2 + (σ.1 q1 1)), .int (σ.1 q0 0)] dX4_nextBy_50 (s_X2_modulo l g rfl) cw_X2_modulo ml_X4_68 (by decide) rfl rfl (Nat.le_of_ble_eq_true rfl) ?_
      have h := Option.some.inj h; subst h
      exact vr_iret (pc := 53) .int dX4_nextBy_53 rfl rfl rfl
    · rw [if_neg c2] at h
      by_cases c3 : (σ.1 q1 0) = 2
      · rw [if_pos c3] at h
        refine vr_tableIn (pc := 4) 50 54 dX4_nextBy_4 (by rw [c3]; decide) (by rw [c3]; decide) (by rw [c3]; rfl) (by decide) ?_
        refine vr_aload_n (pc := 54) 0 dX4_nextBy_54 rfl rfl ?_
        refine vr_aload_n (pc := 55) 1 dX4_nextBy_55 rfl rfl ?_
        refine vr_iload_n (pc := 56) 2 dX4_nextBy_56 rfl rfl ?_
        refine vr_callV (pc := 57) (ρ1 := (some (.int (f_X4_slipped q0 q1 a2 σ)), σ)) [.ref (g.1 q1), .int a2] dX4_nextBy_57 (s_X4_slipped l g (hq0) (hq1) rfl) cw_X4_slipped ml_X4_74 hq0 rfl (by decide) (by decide) rfl rfl (Nat.le_of_ble_eq_true rfl) ?_
        have h := Option.some.inj h; subst h
        exact vr_iret (pc := 60) .int dX4_nextBy_60 rfl rfl rfl
      · rw [if_neg c3] at h
        by_cases c4 : (σ.1 q1 0) = 3
        · rw [if_pos c4] at h
          refine vr_tableIn (pc := 4) 57 61 dX4_nextBy_4 (by rw [c4]; decide) (by rw [c4]; decide) (by rw [c4]; rfl) (by decide) ?_
          refine vr_iload_n (pc := 61) 2 dX4_nextBy_61 rfl rfl ?_
          refine vr_aload_n (pc := 62) 1 dX4_nextBy_62 rfl rfl ?_
          refine vr_getI (pc := 63) 1 dX4_nextBy_63 fi_X4_42 hq1 (sh_6_1 hq1) ?_
          refine vr_isub (pc := 66) dX4_nextBy_66 ?_
          refine vr_aload_n (pc := 67) 0 dX4_nextBy_67 rfl rfl ?_
          refine vr_getI (pc := 68) 0 dX4_nextBy_68 fi_X4_9 hq0 (sh_3_0 hq0) ?_
          refine vr_callS (pc := 71) (ρ1 := (some (.int (f_X2_modulo (a2 - (σ.1 q1 1)) (σ.1 q0 0))), σ)) [.int (a2 - (σ.1 q1 1)), .int (σ.1 q0 0)] dX4_nextBy_71 (s_X2_modulo l g rfl) cw_X2_modulo ml_X4_68 (by decide) rfl rfl (Nat.le_of_ble_eq_true rfl) ?_
          have h := Option.some.inj h; subst h
          exact vr_iret (pc := 74) .int dX4_nextBy_74 rfl rfl rfl
        · rw [if_neg c4] at h
          by_cases c5 : (σ.1 q1 0) = 4
          · rw [if_pos c5] at h
            refine vr_tableIn (pc := 4) 71 75 dX4_nextBy_4 (by rw [c5]; decide) (by rw [c5]; decide) (by rw [c5]; rfl) (by decide) ?_
            refine vr_aload_n (pc := 75) 0 dX4_nextBy_75 rfl rfl ?_
            refine vr_aload_n (pc := 76) 0 dX4_nextBy_76 rfl rfl ?_
            refine vr_aload_n (pc := 77) 1 dX4_nextBy_77 rfl rfl ?_
            refine vr_iload_n (pc := 78) 2 dX4_nextBy_78 rfl rfl ?_
            refine vr_callV (pc := 79) (ρ1 := (some (.int (f_X4_slipped q0 q1 a2 σ)), σ)) [.ref (g.1 q1), .int a2] dX4_nextBy_79 (s_X4_slipped l g (hq0) (hq1) rfl) cw_X4_slipped ml_X4_74 hq0 rfl (by decide) (by decide) rfl rfl (Nat.le_of_ble_eq_true rfl) ?_
            obtain ⟨z6, hz7, h⟩ := ob_some h
            refine vr_callV (pc := 82) (ρ1 := (some (.int z6), σ)) [.int (f_X4_slipped q0 q1 a2 σ)] dX4_nextBy_82 (s_X4_unwornFrom l g (hq0) hz7) cw_X4_unwornFrom ml_X4_78 hq0 rfl (by decide) (by decide) rfl rfl (Nat.le_of_ble_eq_true rfl) ?_
            have h := Option.some.inj h; subst h
            exact vr_iret (pc := 85) .int dX4_nextBy_85 rfl rfl rfl
          · rw [if_neg c5] at h
            refine vr_tableOut (pc := 4) 86 dX4_nextBy_4 (tab_out (x := (σ.1 q1 0)) 0 4 (fun z1 z2 => by rcases (show (σ.1 q1 0).toInt = 0 ∨ (σ.1 q1 0).toInt = 1 ∨ (σ.1 q1 0).toInt = 2 ∨ (σ.1 q1 0).toInt = 3 ∨ (σ.1 q1 0).toInt = 4 from by omega) with z | z | z | z | z <;> first | exact c1 (i32_of z (by decide)) | exact c2 (i32_of z (by decide)) | exact c3 (i32_of z (by decide)) | exact c4 (i32_of z (by decide)) | exact c5 (i32_of z (by decide)))) (by decide) ?_
            refine vr_iload_n (pc := 86) 2 dX4_nextBy_86 rfl rfl ?_
            refine vr_iconst (pc := 87) 2 dX4_nextBy_87 ci_2 ?_
            refine vr_aload_n (pc := 88) 1 dX4_nextBy_88 rfl rfl ?_
            refine vr_getI (pc := 89) 1 dX4_nextBy_89 fi_X4_42 hq1 (sh_6_1 hq1) ?_
            refine vr_imul (pc := 92) dX4_nextBy_92 ?_
            refine vr_isub (pc := 93) dX4_nextBy_93 ?_
            refine vr_aload_n (pc := 94) 0 dX4_nextBy_94 rfl rfl ?_
            refine vr_getI (pc := 95) 0 dX4_nextBy_95 fi_X4_9 hq0 (sh_3_0 hq0) ?_
            refine vr_callS (pc := 98) (ρ1 := (some (.int (f_X2_modulo (a2 - (2 * (σ.1 q1 1))) (σ.1 q0 0))), σ)) [.int (a2 - (2 * (σ.1 q1 1))), .int (σ.1 q0 0)] dX4_nextBy_98 (s_X2_modulo l g rfl) cw_X2_modulo ml_X4_68 (by decide) rfl rfl (Nat.le_of_ble_eq_true rfl) ?_
            have h := Option.some.inj h; subst h
            exact vr_iret (pc := 101) .int dX4_nextBy_101 rfl rfl rfl
theorem dX7_goes_0 : decode cX7_goes 0 = .ok (.aload_n 0, 1) := by decide +kernel
theorem dX7_goes_1 : decode cX7_goes 1 = .ok (.getfield 18, 3) := by decide +kernel
theorem dX7_goes_4 : decode cX7_goes 4 = .ok (.iconst 3, 1) := by decide +kernel
theorem dX7_goes_5 : decode cX7_goes 5 = .ok (.if_icmp .eq 11, 3) := by decide +kernel
theorem dX7_goes_8 : decode cX7_goes 8 = .ok (.aload_n 0, 1) := by decide +kernel
theorem dX7_goes_9 : decode cX7_goes 9 = .ok (.getfield 18, 3) := by decide +kernel
theorem dX7_goes_12 : decode cX7_goes 12 = .ok (.iconst 5, 1) := by decide +kernel
theorem dX7_goes_13 : decode cX7_goes 13 = .ok (.if_icmp .ne 7, 3) := by decide +kernel
theorem dX7_goes_16 : decode cX7_goes 16 = .ok (.iconst 1, 1) := by decide +kernel
theorem dX7_goes_17 : decode cX7_goes 17 = .ok (.goto 4, 3) := by decide +kernel
theorem dX7_goes_20 : decode cX7_goes 20 = .ok (.iconst 0, 1) := by decide +kernel
theorem dX7_goes_21 : decode cX7_goes 21 = .ok (.istore 4, 2) := by decide +kernel
theorem dX7_goes_23 : decode cX7_goes 23 = .ok (.iload 4, 2) := by decide +kernel
theorem dX7_goes_25 : decode cX7_goes 25 = .ok (.ifCond .eq 9, 3) := by decide +kernel
theorem dX7_goes_28 : decode cX7_goes 28 = .ok (.iload_n 1, 1) := by decide +kernel
theorem dX7_goes_29 : decode cX7_goes 29 = .ok (.iload_n 2, 1) := by decide +kernel
theorem dX7_goes_30 : decode cX7_goes 30 = .ok (.isub, 1) := by decide +kernel
theorem dX7_goes_31 : decode cX7_goes 31 = .ok (.goto 6, 3) := by decide +kernel
theorem dX7_goes_34 : decode cX7_goes 34 = .ok (.iload_n 2, 1) := by decide +kernel
theorem dX7_goes_35 : decode cX7_goes 35 = .ok (.iload_n 1, 1) := by decide +kernel
theorem dX7_goes_36 : decode cX7_goes 36 = .ok (.isub, 1) := by decide +kernel
theorem dX7_goes_37 : decode cX7_goes 37 = .ok (.iload_n 3, 1) := by decide +kernel
theorem dX7_goes_38 : decode cX7_goes 38 = .ok (.invokestatic 34, 3) := by decide +kernel
theorem dX7_goes_41 : decode cX7_goes 41 = .ok (.ireturn, 1) := by decide +kernel
set_option maxRecDepth 20000 in
set_option maxHeartbeats 4000000 in
theorem s_X7_goes (l : Launch) (g : GG) {q0 : Nat} (hq0 : kd q0 = 6) {a1 : Int32} {a2 : Int32} {a3 : Int32} {σ : SS} {r : Int32} (h : f_X7_goes q0 a1 a2 a3 σ = r) : CT l g 1 yX7_goes cX7_goes 5 (some .int) [.ref (g.1 q0), .int a1, .int a2, .int a3] σ (some (.int r), σ) := by
  refine CT.of (lv := [(0, .ref (g.1 q0)), (1, .int a1), (2, .int a2), (3, .int a3)]) RX7 (by decide +kernel) rfl (Nat.le_of_ble_eq_true rfl) rfl ?_
  unfold f_X7_goes at h
  refine vr_aload_n (pc := 0) 0 dX7_goes_0 rfl rfl ?_
  refine vr_getI (pc := 1) 0 dX7_goes_1 fi_X7_18 hq0 (sh_6_0 hq0) ?_
  refine vr_iconst (pc := 4) 3 dX7_goes_4 ci_3 ?_
  obtain ⟨j1, ej1, h⟩ := jn1_e h
  have hj1 : ∀ (v3 : Int32) , j1 v3 = r → VV l g 1 RX7 cX7_goes 5 (some .int) (some (.int r), σ) 21 [(1, .int a1), (2, .int a2), (3, .int a3)] [.int v3] σ := by
    intro v3  h
    rw [ej1] at h
    refine vr_istore (pc := 21) [(4, .int v3), (1, .int a1), (2, .int a2), (3, .int a3)] dX7_goes_21 (by decide) rfl ?_
    refine vr_iload (pc := 23) 0 dX7_goes_23 rfl ?_
    refine vr_if_eq (pc := 25) 34 dX7_goes_25 (by decide) (fun c4 => ?_) (fun c4 => ?_)
    · rw [if_pos c4] at h
      refine vr_iload_n (pc := 34) 2 dX7_goes_34 rfl rfl ?_
      refine vr_iload_n (pc := 35) 1 dX7_goes_35 rfl rfl ?_
      refine vr_isub (pc := 36) dX7_goes_36 ?_
      refine vr_iload_n (pc := 37) 3 dX7_goes_37 rfl rfl ?_
      refine vr_callS (pc := 38) (ρ1 := (some (.int (f_X2_modulo (a2 - a1) a3)), σ)) [.int (a2 - a1), .int a3] dX7_goes_38 (s_X2_modulo l g rfl) cw_X2_modulo ml_X7_34 (by decide) rfl rfl (Nat.le_of_ble_eq_true rfl) ?_
      subst h
      exact vr_iret (pc := 41) .int dX7_goes_41 rfl rfl rfl
    · rw [if_neg c4] at h
      refine vr_iload_n (pc := 28) 1 dX7_goes_28 rfl rfl ?_
      refine vr_iload_n (pc := 29) 2 dX7_goes_29 rfl rfl ?_
      refine vr_isub (pc := 30) dX7_goes_30 ?_
      refine vr_goto (pc := 31) 37 dX7_goes_31 (by decide) ?_
      refine vr_iload_n (pc := 37) 3 dX7_goes_37 rfl rfl ?_
      refine vr_callS (pc := 38) (ρ1 := (some (.int (f_X2_modulo (a1 - a2) a3)), σ)) [.int (a1 - a2), .int a3] dX7_goes_38 (s_X2_modulo l g rfl) cw_X2_modulo ml_X7_34 (by decide) rfl rfl (Nat.le_of_ble_eq_true rfl) ?_
      subst h
      exact vr_iret (pc := 41) .int dX7_goes_41 rfl rfl rfl
  refine vr_icmp_eq (pc := 5) 16 dX7_goes_5 (by decide) (fun c5 => ?_) (fun c5 => ?_)
  · rw [if_pos c5] at h
    refine vr_iconst (pc := 16) 1 dX7_goes_16 ci_1 ?_
    refine vr_goto (pc := 17) 21 dX7_goes_17 (by decide) ?_
    refine vr_sub [1, 2, 3] [(1, .int a1), (2, .int a2), (3, .int a3)] rfl ?_
    exact hj1 1 h
  · rw [if_neg c5] at h
    refine vr_aload_n (pc := 8) 0 dX7_goes_8 rfl rfl ?_
    refine vr_getI (pc := 9) 0 dX7_goes_9 fi_X7_18 hq0 (sh_6_0 hq0) ?_
    refine vr_iconst (pc := 12) 5 dX7_goes_12 ci_5 ?_
    refine vr_icmp_ne (pc := 13) 20 dX7_goes_13 (by decide) (fun c6 => ?_) (fun c6 => ?_)
    · rw [if_neg c6] at h
      refine vr_iconst (pc := 20) 0 dX7_goes_20 ci_0 ?_
      refine vr_sub [1, 2, 3] [(1, .int a1), (2, .int a2), (3, .int a3)] rfl ?_
      exact hj1 0 h
    · rw [if_pos c6] at h
      refine vr_iconst (pc := 16) 1 dX7_goes_16 ci_1 ?_
      refine vr_goto (pc := 17) 21 dX7_goes_17 (by decide) ?_
      refine vr_sub [1, 2, 3] [(1, .int a1), (2, .int a2), (3, .int a3)] rfl ?_
      exact hj1 1 h
theorem dJ9_min_7cf53_0 : decode cJ9_min_7cf53 0 = .ok (.iload_n 0, 1) := by decide +kernel
theorem dJ9_min_7cf53_1 : decode cJ9_min_7cf53 1 = .ok (.iload_n 1, 1) := by decide +kernel
theorem dJ9_min_7cf53_2 : decode cJ9_min_7cf53 2 = .ok (.if_icmp .gt 7, 3) := by decide +kernel
theorem dJ9_min_7cf53_5 : decode cJ9_min_7cf53 5 = .ok (.iload_n 0, 1) := by decide +kernel
theorem dJ9_min_7cf53_6 : decode cJ9_min_7cf53 6 = .ok (.goto 4, 3) := by decide +kernel
theorem dJ9_min_7cf53_9 : decode cJ9_min_7cf53 9 = .ok (.iload_n 1, 1) := by decide +kernel
theorem dJ9_min_7cf53_10 : decode cJ9_min_7cf53 10 = .ok (.ireturn, 1) := by decide +kernel
theorem dJ9_max_7cf53_0 : decode cJ9_max_7cf53 0 = .ok (.iload_n 0, 1) := by decide +kernel
theorem dJ9_max_7cf53_1 : decode cJ9_max_7cf53 1 = .ok (.iload_n 1, 1) := by decide +kernel
theorem dJ9_max_7cf53_2 : decode cJ9_max_7cf53 2 = .ok (.if_icmp .lt 7, 3) := by decide +kernel
theorem dJ9_max_7cf53_5 : decode cJ9_max_7cf53 5 = .ok (.iload_n 0, 1) := by decide +kernel
theorem dJ9_max_7cf53_6 : decode cJ9_max_7cf53 6 = .ok (.goto 4, 3) := by decide +kernel
theorem dJ9_max_7cf53_9 : decode cJ9_max_7cf53 9 = .ok (.iload_n 1, 1) := by decide +kernel
theorem dJ9_max_7cf53_10 : decode cJ9_max_7cf53 10 = .ok (.ireturn, 1) := by decide +kernel
theorem dX2_cross_0 : decode cX2_cross 0 = .ok (.iload_n 0, 1) := by decide +kernel
theorem dX2_cross_1 : decode cX2_cross 1 = .ok (.iload_n 1, 1) := by decide +kernel
theorem dX2_cross_2 : decode cX2_cross 2 = .ok (.if_icmp .eq 28, 3) := by decide +kernel
theorem dX2_cross_5 : decode cX2_cross 5 = .ok (.iload_n 2, 1) := by decide +kernel
theorem dX2_cross_6 : decode cX2_cross 6 = .ok (.iload_n 3, 1) := by decide +kernel
theorem dX2_cross_7 : decode cX2_cross 7 = .ok (.if_icmp .eq 23, 3) := by decide +kernel
theorem dX2_cross_10 : decode cX2_cross 10 = .ok (.iload_n 0, 1) := by decide +kernel
theorem dX2_cross_11 : decode cX2_cross 11 = .ok (.iload_n 2, 1) := by decide +kernel
theorem dX2_cross_12 : decode cX2_cross 12 = .ok (.if_icmp .eq 18, 3) := by decide +kernel
theorem dX2_cross_15 : decode cX2_cross 15 = .ok (.iload_n 0, 1) := by decide +kernel
theorem dX2_cross_16 : decode cX2_cross 16 = .ok (.iload_n 3, 1) := by decide +kernel
theorem dX2_cross_17 : decode cX2_cross 17 = .ok (.if_icmp .eq 13, 3) := by decide +kernel
theorem dX2_cross_20 : decode cX2_cross 20 = .ok (.iload_n 1, 1) := by decide +kernel
theorem dX2_cross_21 : decode cX2_cross 21 = .ok (.iload_n 2, 1) := by decide +kernel
theorem dX2_cross_22 : decode cX2_cross 22 = .ok (.if_icmp .eq 8, 3) := by decide +kernel
theorem dX2_cross_25 : decode cX2_cross 25 = .ok (.iload_n 1, 1) := by decide +kernel
theorem dX2_cross_26 : decode cX2_cross 26 = .ok (.iload_n 3, 1) := by decide +kernel
theorem dX2_cross_27 : decode cX2_cross 27 = .ok (.if_icmp .ne 5, 3) := by decide +kernel
theorem dX2_cross_30 : decode cX2_cross 30 = .ok (.iconst 0, 1) := by decide +kernel
theorem dX2_cross_31 : decode cX2_cross 31 = .ok (.ireturn, 1) := by decide +kernel
theorem dX2_cross_32 : decode cX2_cross 32 = .ok (.iload_n 0, 1) := by decide +kernel
theorem dX2_cross_33 : decode cX2_cross 33 = .ok (.iload_n 1, 1) := by decide +kernel
theorem dX2_cross_34 : decode cX2_cross 34 = .ok (.invokestatic 25, 3) := by decide +kernel
theorem dX2_cross_37 : decode cX2_cross 37 = .ok (.istore 4, 2) := by decide +kernel
theorem dX2_cross_39 : decode cX2_cross 39 = .ok (.iload_n 0, 1) := by decide +kernel
theorem dX2_cross_40 : decode cX2_cross 40 = .ok (.iload_n 1, 1) := by decide +kernel
theorem dX2_cross_41 : decode cX2_cross 41 = .ok (.invokestatic 28, 3) := by decide +kernel
theorem dX2_cross_44 : decode cX2_cross 44 = .ok (.istore 5, 2) := by decide +kernel
theorem dX2_cross_46 : decode cX2_cross 46 = .ok (.iload_n 2, 1) := by decide +kernel
theorem dX2_cross_47 : decode cX2_cross 47 = .ok (.iload 4, 2) := by decide +kernel
theorem dX2_cross_49 : decode cX2_cross 49 = .ok (.if_icmp .le 13, 3) := by decide +kernel
theorem dX2_cross_52 : decode cX2_cross 52 = .ok (.iload_n 2, 1) := by decide +kernel
theorem dX2_cross_53 : decode cX2_cross 53 = .ok (.iload 5, 2) := by decide +kernel
theorem dX2_cross_55 : decode cX2_cross 55 = .ok (.if_icmp .ge 7, 3) := by decide +kernel
theorem dX2_cross_58 : decode cX2_cross 58 = .ok (.iconst 1, 1) := by decide +kernel
theorem dX2_cross_59 : decode cX2_cross 59 = .ok (.goto 4, 3) := by decide +kernel
theorem dX2_cross_62 : decode cX2_cross 62 = .ok (.iconst 0, 1) := by decide +kernel
theorem dX2_cross_63 : decode cX2_cross 63 = .ok (.istore 6, 2) := by decide +kernel
theorem dX2_cross_65 : decode cX2_cross 65 = .ok (.iload_n 3, 1) := by decide +kernel
theorem dX2_cross_66 : decode cX2_cross 66 = .ok (.iload 4, 2) := by decide +kernel
theorem dX2_cross_68 : decode cX2_cross 68 = .ok (.if_icmp .le 13, 3) := by decide +kernel
theorem dX2_cross_71 : decode cX2_cross 71 = .ok (.iload_n 3, 1) := by decide +kernel
theorem dX2_cross_72 : decode cX2_cross 72 = .ok (.iload 5, 2) := by decide +kernel
theorem dX2_cross_74 : decode cX2_cross 74 = .ok (.if_icmp .ge 7, 3) := by decide +kernel
theorem dX2_cross_77 : decode cX2_cross 77 = .ok (.iconst 1, 1) := by decide +kernel
theorem dX2_cross_78 : decode cX2_cross 78 = .ok (.goto 4, 3) := by decide +kernel
theorem dX2_cross_81 : decode cX2_cross 81 = .ok (.iconst 0, 1) := by decide +kernel
theorem dX2_cross_82 : decode cX2_cross 82 = .ok (.istore 7, 2) := by decide +kernel
theorem dX2_cross_84 : decode cX2_cross 84 = .ok (.iload 6, 2) := by decide +kernel
theorem dX2_cross_86 : decode cX2_cross 86 = .ok (.iload 7, 2) := by decide +kernel
theorem dX2_cross_88 : decode cX2_cross 88 = .ok (.if_icmp .eq 7, 3) := by decide +kernel
theorem dX2_cross_91 : decode cX2_cross 91 = .ok (.iconst 1, 1) := by decide +kernel
theorem dX2_cross_92 : decode cX2_cross 92 = .ok (.goto 4, 3) := by decide +kernel
theorem dX2_cross_95 : decode cX2_cross 95 = .ok (.iconst 0, 1) := by decide +kernel
theorem dX2_cross_96 : decode cX2_cross 96 = .ok (.ireturn, 1) := by decide +kernel
set_option maxRecDepth 20000 in
set_option maxHeartbeats 4000000 in
theorem s_X2_cross (l : Launch) (g : GG) {a0 : Int32} {a1 : Int32} {a2 : Int32} {a3 : Int32} {σ : SS} {r : Int32} (h : f_X2_cross a0 a1 a2 a3 = r) : CT l g 1 yX2_cross cX2_cross 8 (some .boolean) [.int a0, .int a1, .int a2, .int a3] σ (some (.int r), σ) := by
  refine CT.of (lv := [(0, .int a0), (1, .int a1), (2, .int a2), (3, .int a3)]) RX2 (by decide +kernel) rfl (Nat.le_of_ble_eq_true rfl) rfl ?_
  unfold f_X2_cross at h
  refine vr_iload_n (pc := 0) 0 dX2_cross_0 rfl rfl ?_
  refine vr_iload_n (pc := 1) 1 dX2_cross_1 rfl rfl ?_
  refine vr_icmp_eq (pc := 2) 30 dX2_cross_2 (by decide) (fun c1 => ?_) (fun c1 => ?_)
  · rw [if_pos c1] at h
    refine vr_iconst (pc := 30) 0 dX2_cross_30 ci_0 ?_
    subst h
    exact vr_iret (pc := 31) .boolean dX2_cross_31 rfl rfl rfl
  · rw [if_neg c1] at h
    refine vr_iload_n (pc := 5) 2 dX2_cross_5 rfl rfl ?_
    refine vr_iload_n (pc := 6) 3 dX2_cross_6 rfl rfl ?_
    refine vr_icmp_eq (pc := 7) 30 dX2_cross_7 (by decide) (fun c2 => ?_) (fun c2 => ?_)
    · rw [if_pos c2] at h
      refine vr_iconst (pc := 30) 0 dX2_cross_30 ci_0 ?_
      subst h
      exact vr_iret (pc := 31) .boolean dX2_cross_31 rfl rfl rfl
    · rw [if_neg c2] at h
      refine vr_iload_n (pc := 10) 0 dX2_cross_10 rfl rfl ?_
      refine vr_iload_n (pc := 11) 2 dX2_cross_11 rfl rfl ?_
      refine vr_icmp_eq (pc := 12) 30 dX2_cross_12 (by decide) (fun c3 => ?_) (fun c3 => ?_)
      · rw [if_pos c3] at h
        refine vr_iconst (pc := 30) 0 dX2_cross_30 ci_0 ?_
        subst h
        exact vr_iret (pc := 31) .boolean dX2_cross_31 rfl rfl rfl
      · rw [if_neg c3] at h
        refine vr_iload_n (pc := 15) 0 dX2_cross_15 rfl rfl ?_
        refine vr_iload_n (pc := 16) 3 dX2_cross_16 rfl rfl ?_
        refine vr_icmp_eq (pc := 17) 30 dX2_cross_17 (by decide) (fun c4 => ?_) (fun c4 => ?_)
        · rw [if_pos c4] at h
          refine vr_iconst (pc := 30) 0 dX2_cross_30 ci_0 ?_
          subst h
          exact vr_iret (pc := 31) .boolean dX2_cross_31 rfl rfl rfl
        · rw [if_neg c4] at h
          refine vr_iload_n (pc := 20) 1 dX2_cross_20 rfl rfl ?_
          refine vr_iload_n (pc := 21) 2 dX2_cross_21 rfl rfl ?_
          refine vr_icmp_eq (pc := 22) 30 dX2_cross_22 (by decide) (fun c5 => ?_) (fun c5 => ?_)
          · rw [if_pos c5] at h
            refine vr_iconst (pc := 30) 0 dX2_cross_30 ci_0 ?_
            subst h
            exact vr_iret (pc := 31) .boolean dX2_cross_31 rfl rfl rfl
          · rw [if_neg c5] at h
            refine vr_iload_n (pc := 25) 1 dX2_cross_25 rfl rfl ?_
            refine vr_iload_n (pc := 26) 3 dX2_cross_26 rfl rfl ?_
            refine vr_icmp_ne (pc := 27) 32 dX2_cross_27 (by decide) (fun c6 => ?_) (fun c6 => ?_)
            · rw [if_neg c6] at h
              refine vr_iload_n (pc := 32) 0 dX2_cross_32 rfl rfl ?_
              refine vr_iload_n (pc := 33) 1 dX2_cross_33 rfl rfl ?_
              refine vr_mmin (pc := 34) dX2_cross_34 ml_X2_25 (by decide) (Nat.le_of_ble_eq_true rfl) ?_
              refine vr_istore (pc := 37) [(4, .int (f_J9_min_7cf53 a0 a1)), (0, .int a0), (1, .int a1), (2, .int a2), (3, .int a3)] dX2_cross_37 (by decide) rfl ?_
              refine vr_iload_n (pc := 39) 1 dX2_cross_39 rfl rfl ?_
              refine vr_iload_n (pc := 40) 2 dX2_cross_40 rfl rfl ?_
              refine vr_mmax (pc := 41) dX2_cross_41 ml_X2_28 (by decide) (Nat.le_of_ble_eq_true rfl) ?_
              refine vr_istore (pc := 44) [(5, .int (f_J9_max_7cf53 a0 a1)), (4, .int (f_J9_min_7cf53 a0 a1)), (0, .int a0), (1, .int a1), (2, .int a2), (3, .int a3)] dX2_cross_44 (by decide) rfl ?_
              refine vr_iload_n (pc := 46) 4 dX2_cross_46 rfl rfl ?_
              refine vr_iload (pc := 47) 1 dX2_cross_47 rfl ?_
              obtain ⟨j7, ej7, h⟩ := jn1_e h
              have hj7 : ∀ (v9 : Int32) , j7 v9 = r → VV l g 1 RX2 cX2_cross 8 (some .boolean) (some (.int r), σ) 63 [(3, .int a3), (4, .int (f_J9_min_7cf53 a0 a1)), (5, .int (f_J9_max_7cf53 a0 a1))] [.int v9] σ := by
                intro v9  h
                rw [ej7] at h
                refine vr_istore (pc := 63) [(6, .int v9), (3, .int a3), (4, .int (f_J9_min_7cf53 a0 a1)), (5, .int (f_J9_max_7cf53 a0 a1))] dX2_cross_63 (by decide) rfl ?_
                refine vr_iload_n (pc := 65) 1 dX2_cross_65 rfl rfl ?_
                refine vr_iload (pc := 66) 2 dX2_cross_66 rfl ?_
                obtain ⟨j10, ej10, h⟩ := jn1_e h
                have hj10 : ∀ (u12 : Unit) , j10 u12 = r → VV l g 1 RX2 cX2_cross 8 (some .boolean) (some (.int r), σ) 81 [(6, .int v9)] [] σ := by
                  intro u12  h
                  rw [ej10] at h
                  refine vr_iconst (pc := 81) 0 dX2_cross_81 ci_0 ?_
                  refine vr_istore (pc := 82) [(7, .int 0), (6, .int v9)] dX2_cross_82 (by decide) rfl ?_
                  refine vr_iload (pc := 84) 1 dX2_cross_84 rfl ?_
                  refine vr_iload (pc := 86) 0 dX2_cross_86 rfl ?_
                  refine vr_icmp_eq (pc := 88) 95 dX2_cross_88 (by decide) (fun c13 => ?_) (fun c13 => ?_)
                  · rw [if_pos c13] at h
                    refine vr_iconst (pc := 95) 0 dX2_cross_95 ci_0 ?_
                    subst h
                    exact vr_iret (pc := 96) .boolean dX2_cross_96 rfl rfl rfl
                  · rw [if_neg c13] at h
                    refine vr_iconst (pc := 91) 1 dX2_cross_91 ci_1 ?_
                    refine vr_goto (pc := 92) 96 dX2_cross_92 (by decide) ?_
                    subst h
                    exact vr_iret (pc := 96) .boolean dX2_cross_96 rfl rfl rfl
                refine vr_icmp_le (pc := 68) 81 dX2_cross_68 (by decide) (fun c14 => ?_) (fun c14 => ?_)
                · rw [if_pos c14] at h
                  refine vr_sub [0] [(6, .int v9)] rfl ?_
                  exact hj10 () h
                · rw [if_neg c14] at h
                  refine vr_iload_n (pc := 71) 1 dX2_cross_71 rfl rfl ?_
                  refine vr_iload (pc := 72) 3 dX2_cross_72 rfl ?_
                  refine vr_icmp_ge (pc := 74) 81 dX2_cross_74 (by decide) (fun c15 => ?_) (fun c15 => ?_)
                  · rw [if_pos c15] at h
                    refine vr_sub [0] [(6, .int v9)] rfl ?_
                    exact hj10 () h
                  · rw [if_neg c15] at h
                    refine vr_iconst (pc := 77) 1 dX2_cross_77 ci_1 ?_
                    refine vr_goto (pc := 78) 82 dX2_cross_78 (by decide) ?_
                    refine vr_istore (pc := 82) [(7, .int 1), (6, .int v9), (3, .int a3), (4, .int (f_J9_min_7cf53 a0 a1)), (5, .int (f_J9_max_7cf53 a0 a1))] dX2_cross_82 (by decide) rfl ?_
                    refine vr_iload (pc := 84) 1 dX2_cross_84 rfl ?_
                    refine vr_iload (pc := 86) 0 dX2_cross_86 rfl ?_
                    refine vr_icmp_eq (pc := 88) 95 dX2_cross_88 (by decide) (fun c16 => ?_) (fun c16 => ?_)
                    · rw [if_pos c16] at h
                      refine vr_iconst (pc := 95) 0 dX2_cross_95 ci_0 ?_
                      subst h
                      exact vr_iret (pc := 96) .boolean dX2_cross_96 rfl rfl rfl
                    · rw [if_neg c16] at h
                      refine vr_iconst (pc := 91) 1 dX2_cross_91 ci_1 ?_
                      refine vr_goto (pc := 92) 96 dX2_cross_92 (by decide) ?_
                      subst h
                      exact vr_iret (pc := 96) .boolean dX2_cross_96 rfl rfl rfl
              refine vr_icmp_le (pc := 49) 62 dX2_cross_49 (by decide) (fun c17 => ?_) (fun c17 => ?_)
              · rw [if_pos c17] at h
                refine vr_iconst (pc := 62) 0 dX2_cross_62 ci_0 ?_
                refine vr_sub [5, 1, 0] [(3, .int a3), (4, .int (f_J9_min_7cf53 a0 a1)), (5, .int (f_J9_max_7cf53 a0 a1))] rfl ?_
                exact hj7 0 h
              · rw [if_neg c17] at h
                refine vr_iload_n (pc := 52) 4 dX2_cross_52 rfl rfl ?_
                refine vr_iload (pc := 53) 0 dX2_cross_53 rfl ?_
                refine vr_icmp_ge (pc := 55) 62 dX2_cross_55 (by decide) (fun c18 => ?_) (fun c18 => ?_)
                · rw [if_pos c18] at h
                  refine vr_iconst (pc := 62) 0 dX2_cross_62 ci_0 ?_
                  refine vr_sub [5, 1, 0] [(3, .int a3), (4, .int (f_J9_min_7cf53 a0 a1)), (5, .int (f_J9_max_7cf53 a0 a1))] rfl ?_
                  exact hj7 0 h
                · rw [if_neg c18] at h
                  refine vr_iconst (pc := 58) 1 dX2_cross_58 ci_1 ?_
                  refine vr_goto (pc := 59) 63 dX2_cross_59 (by decide) ?_
                  refine vr_sub [5, 1, 0] [(3, .int a3), (4, .int (f_J9_min_7cf53 a0 a1)), (5, .int (f_J9_max_7cf53 a0 a1))] rfl ?_
                  exact hj7 1 h
            · rw [if_pos c6] at h
              refine vr_iconst (pc := 30) 0 dX2_cross_30 ci_0 ?_
              subst h
              exact vr_iret (pc := 31) .boolean dX2_cross_31 rfl rfl rfl
theorem dX4_canHave_0 : decode cX4_canHave 0 = .ok (.iload_n 1, 1) := by decide +kernel
theorem dX4_canHave_1 : decode cX4_canHave 1 = .ok (.iconst 3, 1) := by decide +kernel
theorem dX4_canHave_2 : decode cX4_canHave 2 = .ok (.if_icmp .lt 13, 3) := by decide +kernel
theorem dX4_canHave_5 : decode cX4_canHave 5 = .ok (.iload_n 1, 1) := by decide +kernel
theorem dX4_canHave_6 : decode cX4_canHave 6 = .ok (.bipush 60, 2) := by decide +kernel
theorem dX4_canHave_8 : decode cX4_canHave 8 = .ok (.if_icmp .gt 7, 3) := by decide +kernel
theorem dX4_canHave_11 : decode cX4_canHave 11 = .ok (.iconst 1, 1) := by decide +kernel
theorem dX4_canHave_12 : decode cX4_canHave 12 = .ok (.goto 4, 3) := by decide +kernel
theorem dX4_canHave_15 : decode cX4_canHave 15 = .ok (.iconst 0, 1) := by decide +kernel
theorem dX4_canHave_16 : decode cX4_canHave 16 = .ok (.istore_n 2, 1) := by decide +kernel
theorem dX4_canHave_17 : decode cX4_canHave 17 = .ok (.iconst 0, 1) := by decide +kernel
theorem dX4_canHave_18 : decode cX4_canHave 18 = .ok (.istore_n 3, 1) := by decide +kernel
theorem dX4_canHave_19 : decode cX4_canHave 19 = .ok (.iload_n 3, 1) := by decide +kernel
theorem dX4_canHave_20 : decode cX4_canHave 20 = .ok (.aload_n 0, 1) := by decide +kernel
theorem dX4_canHave_21 : decode cX4_canHave 21 = .ok (.getfield 29, 3) := by decide +kernel
theorem dX4_canHave_24 : decode cX4_canHave 24 = .ok (.if_icmp .ge 45, 3) := by decide +kernel
theorem dX4_canHave_27 : decode cX4_canHave 27 = .ok (.iload_n 2, 1) := by decide +kernel
theorem dX4_canHave_28 : decode cX4_canHave 28 = .ok (.ifCond .eq 33, 3) := by decide +kernel
theorem dX4_canHave_31 : decode cX4_canHave 31 = .ok (.aload_n 0, 1) := by decide +kernel
theorem dX4_canHave_32 : decode cX4_canHave 32 = .ok (.getfield 24, 3) := by decide +kernel
theorem dX4_canHave_35 : decode cX4_canHave 35 = .ok (.iload_n 3, 1) := by decide +kernel
theorem dX4_canHave_36 : decode cX4_canHave 36 = .ok (.aaload, 1) := by decide +kernel
theorem dX4_canHave_37 : decode cX4_canHave 37 = .ok (.getfield 42, 3) := by decide +kernel
theorem dX4_canHave_40 : decode cX4_canHave 40 = .ok (.iload_n 1, 1) := by decide +kernel
theorem dX4_canHave_41 : decode cX4_canHave 41 = .ok (.if_icmp .ge 20, 3) := by decide +kernel
theorem dX4_canHave_44 : decode cX4_canHave 44 = .ok (.aload_n 0, 1) := by decide +kernel
theorem dX4_canHave_45 : decode cX4_canHave 45 = .ok (.getfield 24, 3) := by decide +kernel
theorem dX4_canHave_48 : decode cX4_canHave 48 = .ok (.iload_n 3, 1) := by decide +kernel
theorem dX4_canHave_49 : decode cX4_canHave 49 = .ok (.aaload, 1) := by decide +kernel
theorem dX4_canHave_50 : decode cX4_canHave 50 = .ok (.getfield 45, 3) := by decide +kernel
theorem dX4_canHave_53 : decode cX4_canHave 53 = .ok (.iload_n 1, 1) := by decide +kernel
theorem dX4_canHave_54 : decode cX4_canHave 54 = .ok (.if_icmp .ge 7, 3) := by decide +kernel
theorem dX4_canHave_57 : decode cX4_canHave 57 = .ok (.iconst 1, 1) := by decide +kernel
theorem dX4_canHave_58 : decode cX4_canHave 58 = .ok (.goto 4, 3) := by decide +kernel
theorem dX4_canHave_61 : decode cX4_canHave 61 = .ok (.iconst 0, 1) := by decide +kernel
theorem dX4_canHave_62 : decode cX4_canHave 62 = .ok (.istore_n 2, 1) := by decide +kernel
theorem dX4_canHave_63 : decode cX4_canHave 63 = .ok (.iinc 3 1, 3) := by decide +kernel
theorem dX4_canHave_66 : decode cX4_canHave 66 = .ok (.goto (-47), 3) := by decide +kernel
theorem dX4_canHave_69 : decode cX4_canHave 69 = .ok (.iload_n 2, 1) := by decide +kernel
theorem dX4_canHave_70 : decode cX4_canHave 70 = .ok (.ireturn, 1) := by decide +kernel
set_option maxRecDepth 20000 in
set_option maxHeartbeats 4000000 in
theorem v_X4_canHave_L19 (l : Launch) (g : GG) {r : Int32} {σ : SS} {κ : Int32 → Option Int32} (hκ : ∀ (y2 : Int32) , κ y2 = some r → VV l g 0 RX4 cX4_canHave 4 (some .boolean) (some (.int r), σ) 69 [(2, .int y2)] [] σ) : ∀ (fu : Nat) (q0 : Nat) (x1 : Int32) (x2 : Int32) (x3 : Int32) (hq0 : kd q0 = 3), f_X4_canHave_L19 σ κ fu q0 x1 x2 x3 = some r → VV l g 0 RX4 cX4_canHave 4 (some .boolean) (some (.int r), σ) 19 [(0, .ref (g.1 q0)), (1, .int x1), (2, .int x2), (3, .int x3)] [] σ := by
  intro fu
  induction fu with
  | zero => intro q0 x1 x2 x3 hq0 h; cases h
  | succ fu ih =>
    intro q0 x1 x2 x3 hq0 h
    simp only [f_X4_canHave_L19] at h
    refine vr_iload_n (pc := 19) 3 dX4_canHave_19 rfl rfl ?_
    refine vr_aload_n (pc := 20) 0 dX4_canHave_20 rfl rfl ?_
    refine vr_getI (pc := 21) 1 dX4_canHave_21 fi_X4_29 hq0 (sh_3_1 hq0) ?_
    refine vr_icmp_ge (pc := 24) 69 dX4_canHave_24 (by decide) (fun c4 => ?_) (fun c4 => ?_)
    · rw [if_pos c4] at h
      refine vr_sub [2] [(2, .int x2)] rfl ?_
      exact hκ x2 h
    · rw [if_neg c4] at h
      refine vr_iload_n (pc := 27) 2 dX4_canHave_27 rfl rfl ?_
      refine vr_if_eq (pc := 28) 61 dX4_canHave_28 (by decide) (fun c5 => ?_) (fun c5 => ?_)
      · rw [if_pos c5] at h
        refine vr_iconst (pc := 61) 0 dX4_canHave_61 ci_0 ?_
        refine vr_istore_n (pc := 62) [(2, .int 0), (0, .ref (g.1 q0)), (1, .int x1), (3, .int x3)] dX4_canHave_62 rfl (by decide) rfl ?_
        refine vr_iinc (pc := 63) [(3, .int (x3 + 1)), (2, .int 0), (0, .ref (g.1 q0)), (1, .int x1)] 3 dX4_canHave_63 rfl (congrArg (fun z => x3 + z) ci_1) (by decide) rfl ?_
        refine vr_goto (pc := 66) 19 dX4_canHave_66 (by decide) ?_
        refine vr_sub [2, 3, 1, 0] [(0, .ref (g.1 q0)), (1, .int x1), (2, .int 0), (3, .int (x3 + 1))] rfl ?_
        exact ih q0 x1 0 (x3 + 1) (hq0) h
      · rw [if_neg c5] at h
        refine vr_aload_n (pc := 31) 0 dX4_canHave_31 rfl rfl ?_
        refine vr_getR (pc := 32) 4 dX4_canHave_32 fi_X4_24 hq0 (sh_3_4 hq0).1 ?_
        refine vr_iload_n (pc := 35) 3 dX4_canHave_35 rfl rfl ?_
        obtain ⟨hc6, h⟩ := ck_some h
        refine vr_aald (pc := 36) dX4_canHave_36 (sh_3_4 hq0).2 (by decide) hc6 (sha_13 (sh_3_4 hq0).2 (lt_ck hc6)).1 ?_
        refine vr_getI (pc := 37) 1 dX4_canHave_37 fi_X4_42 (sha_13 (sh_3_4 hq0).2 (lt_ck hc6)).2 (sh_6_1 (sha_13 (sh_3_4 hq0).2 (lt_ck hc6)).2) ?_
        refine vr_iload_n (pc := 40) 1 dX4_canHave_40 rfl rfl ?_
        refine vr_icmp_ge (pc := 41) 61 dX4_canHave_41 (by decide) (fun c7 => ?_) (fun c7 => ?_)
        · rw [if_pos c7] at h
          refine vr_iconst (pc := 61) 0 dX4_canHave_61 ci_0 ?_
          refine vr_istore_n (pc := 62) [(2, .int 0), (0, .ref (g.1 q0)), (1, .int x1), (3, .int x3)] dX4_canHave_62 rfl (by decide) rfl ?_
          refine vr_iinc (pc := 63) [(3, .int (x3 + 1)), (2, .int 0), (0, .ref (g.1 q0)), (1, .int x1)] 3 dX4_canHave_63 rfl (congrArg (fun z => x3 + z) ci_1) (by decide) rfl ?_
          refine vr_goto (pc := 66) 19 dX4_canHave_66 (by decide) ?_
          refine vr_sub [2, 3, 1, 0] [(0, .ref (g.1 q0)), (1, .int x1), (2, .int 0), (3, .int (x3 + 1))] rfl ?_
          exact ih q0 x1 0 (x3 + 1) (hq0) h
        · rw [if_neg c7] at h
          refine vr_aload_n (pc := 44) 0 dX4_canHave_44 rfl rfl ?_
          refine vr_getR (pc := 45) 4 dX4_canHave_45 fi_X4_24 hq0 (sh_3_4 hq0).1 ?_
          refine vr_iload_n (pc := 48) 3 dX4_canHave_48 rfl rfl ?_
          obtain ⟨hc8, h⟩ := ck_some h
          refine vr_aald (pc := 49) dX4_canHave_49 (sh_3_4 hq0).2 (by decide) hc8 (sha_13 (sh_3_4 hq0).2 (lt_ck hc8)).1 ?_
          refine vr_getI (pc := 50) 4 dX4_canHave_50 fi_X4_45 (sha_13 (sh_3_4 hq0).2 (lt_ck hc8)).2 (sh_6_4 (sha_13 (sh_3_4 hq0).2 (lt_ck hc8)).2) ?_
          refine vr_iload_n (pc := 53) 1 dX4_canHave_53 rfl rfl ?_
          refine vr_icmp_ge (pc := 54) 61 dX4_canHave_54 (by decide) (fun c9 => ?_) (fun c9 => ?_)
          · rw [if_pos c9] at h
            refine vr_iconst (pc := 61) 0 dX4_canHave_61 ci_0 ?_
            refine vr_istore_n (pc := 62) [(2, .int 0), (0, .ref (g.1 q0)), (1, .int x1), (3, .int x3)] dX4_canHave_62 rfl (by decide) rfl ?_
            refine vr_iinc (pc := 63) [(3, .int (x3 + 1)), (2, .int 0), (0, .ref (g.1 q0)), (1, .int x1)] 3 dX4_canHave_63 rfl (congrArg (fun z => x3 + z) ci_1) (by decide) rfl ?_
            refine vr_goto (pc := 66) 19 dX4_canHave_66 (by decide) ?_
            refine vr_sub [2, 3, 1, 0] [(0, .ref (g.1 q0)), (1, .int x1), (2, .int 0), (3, .int (x3 + 1))] rfl ?_
            exact ih q0 x1 0 (x3 + 1) (hq0) h
          · rw [if_neg c9] at h
            refine vr_iconst (pc := 57) 1 dX4_canHave_57 ci_1 ?_
            refine vr_goto (pc := 58) 62 dX4_canHave_58 (by decide) ?_
            refine vr_istore_n (pc := 62) [(2, .int 1), (0, .ref (g.1 q0)), (1, .int x1), (3, .int x3)] dX4_canHave_62 rfl (by decide) rfl ?_
            refine vr_iinc (pc := 63) [(3, .int (x3 + 1)), (2, .int 1), (0, .ref (g.1 q0)), (1, .int x1)] 3 dX4_canHave_63 rfl (congrArg (fun z => x3 + z) ci_1) (by decide) rfl ?_
            refine vr_goto (pc := 66) 19 dX4_canHave_66 (by decide) ?_
            refine vr_sub [2, 3, 1, 0] [(0, .ref (g.1 q0)), (1, .int x1), (2, .int 1), (3, .int (x3 + 1))] rfl ?_
            exact ih q0 x1 1 (x3 + 1) (hq0) h
set_option maxRecDepth 20000 in
set_option maxHeartbeats 4000000 in
theorem s_X4_canHave (l : Launch) (g : GG) {q0 : Nat} (hq0 : kd q0 = 3) {a1 : Int32} {σ : SS} {r : Int32} (h : f_X4_canHave q0 a1 σ = some r) : CT l g 0 yX4_canHave cX4_canHave 4 (some .boolean) [.ref (g.1 q0), .int a1] σ (some (.int r), σ) := by
  refine CT.of (lv := [(0, .ref (g.1 q0)), (1, .int a1)]) RX4 (by decide +kernel) rfl (Nat.le_of_ble_eq_true rfl) rfl ?_
  unfold f_X4_canHave at h
  refine vr_iload_n (pc := 0) 1 dX4_canHave_0 rfl rfl ?_
  refine vr_iconst (pc := 1) 3 dX4_canHave_1 ci_3 ?_
  obtain ⟨j1, ej1, h⟩ := jn1_e h
  have hj1 : ∀ (v3 : Int32) , j1 v3 = some r → VV l g 0 RX4 cX4_canHave 4 (some .boolean) (some (.int r), σ) 16 [(0, .ref (g.1 q0)), (1, .int a1)] [.int v3] σ := by
    intro v3  h
    rw [ej1] at h
    refine vr_istore_n (pc := 16) [(2, .int v3), (0, .ref (g.1 q0)), (1, .int a1)] dX4_canHave_16 rfl (by decide) rfl ?_
    refine vr_iconst (pc := 17) 0 dX4_canHave_17 ci_0 ?_
    refine vr_istore_n (pc := 18) [(3, .int 0), (2, .int v3), (0, .ref (g.1 q0)), (1, .int a1)] dX4_canHave_18 rfl (by decide) rfl ?_
    refine vr_sub [2, 3, 1, 0] [(0, .ref (g.1 q0)), (1, .int a1), (2, .int v3), (3, .int 0)] rfl ?_
    refine v_X4_canHave_L19 l g (fun y2 h => ?_) FU q0 a1 v3 0 (hq0) h
    refine vr_iload_n (pc := 69) 0 dX4_canHave_69 rfl rfl ?_
    obtain ⟨hb, h⟩ := ck_some h
    have h := Option.some.inj h; subst h
    exact vr_iret (pc := 70) .boolean dX4_canHave_70 rfl (nar_b hb) rfl
  refine vr_icmp_lt (pc := 2) 15 dX4_canHave_2 (by decide) (fun c10 => ?_) (fun c10 => ?_)
  · rw [if_pos c10] at h
    refine vr_iconst (pc := 15) 0 dX4_canHave_15 ci_0 ?_
    exact hj1 0 h
  · rw [if_neg c10] at h
    refine vr_iload_n (pc := 5) 1 dX4_canHave_5 rfl rfl ?_
    refine vr_bipush (pc := 6) 60 dX4_canHave_6 cb_60 ?_
    refine vr_icmp_gt (pc := 8) 15 dX4_canHave_8 (by decide) (fun c11 => ?_) (fun c11 => ?_)
    · rw [if_pos c11] at h
      refine vr_iconst (pc := 15) 0 dX4_canHave_15 ci_0 ?_
      exact hj1 0 h
    · rw [if_neg c11] at h
      refine vr_iconst (pc := 11) 1 dX4_canHave_11 ci_1 ?_
      refine vr_goto (pc := 12) 16 dX4_canHave_12 (by decide) ?_
      exact hj1 1 h
theorem dX4_renew_0 : decode cX4_renew 0 = .ok (.aload_n 0, 1) := by decide +kernel
theorem dX4_renew_1 : decode cX4_renew 1 = .ok (.iload_n 1, 1) := by decide +kernel
theorem dX4_renew_2 : decode cX4_renew 2 = .ok (.invokevirtual 48, 3) := by decide +kernel
theorem dX4_renew_5 : decode cX4_renew 5 = .ok (.ifCond .eq 24, 3) := by decide +kernel
theorem dX4_renew_8 : decode cX4_renew 8 = .ok (.aload_n 0, 1) := by decide +kernel
theorem dX4_renew_9 : decode cX4_renew 9 = .ok (.iload_n 1, 1) := by decide +kernel
theorem dX4_renew_10 : decode cX4_renew 10 = .ok (.putfield 9, 3) := by decide +kernel
theorem dX4_renew_13 : decode cX4_renew 13 = .ok (.aload_n 0, 1) := by decide +kernel
theorem dX4_renew_14 : decode cX4_renew 14 = .ok (.getfield 15, 3) := by decide +kernel
theorem dX4_renew_17 : decode cX4_renew 17 = .ok (.iconst 0, 1) := by decide +kernel
theorem dX4_renew_18 : decode cX4_renew 18 = .ok (.invokestatic 52, 3) := by decide +kernel
theorem dX4_renew_21 : decode cX4_renew 21 = .ok (.aload_n 0, 1) := by decide +kernel
theorem dX4_renew_22 : decode cX4_renew 22 = .ok (.getfield 19, 3) := by decide +kernel
theorem dX4_renew_25 : decode cX4_renew 25 = .ok (.iconst 0, 1) := by decide +kernel
theorem dX4_renew_26 : decode cX4_renew 26 = .ok (.invokestatic 52, 3) := by decide +kernel
theorem dX4_renew_29 : decode cX4_renew 29 = .ok (.return_, 1) := by decide +kernel
set_option maxRecDepth 20000 in
set_option maxHeartbeats 4000000 in
theorem s_X4_renew (l : Launch) (g : GG) {q0 : Nat} (hq0 : kd q0 = 3) {a1 : Int32} {σ : SS} {r : SS} (h : f_X4_renew q0 a1 σ = some r) : CT l g 1 yX4_renew cX4_renew 2 none [.ref (g.1 q0), .int a1] σ (none, r) := by
  refine CT.of (lv := [(0, .ref (g.1 q0)), (1, .int a1)]) RX4 (by decide +kernel) rfl (Nat.le_of_ble_eq_true rfl) rfl ?_
  unfold f_X4_renew at h
  refine vr_aload_n (pc := 0) 0 dX4_renew_0 rfl rfl ?_
  refine vr_iload_n (pc := 1) 1 dX4_renew_1 rfl rfl ?_
  obtain ⟨z1, hz2, h⟩ := ob_some h
  refine vr_callV (pc := 2) (ρ1 := (some (.int z1), σ)) [.int a1] dX4_renew_2 (s_X4_canHave l g (hq0) hz2) cw_X4_canHave ml_X4_48 hq0 rfl (by decide) (by decide) rfl rfl (Nat.le_of_ble_eq_true rfl) ?_
  refine vr_if_eq (pc := 5) 29 dX4_renew_5 (by decide) (fun c3 => ?_) (fun c3 => ?_)
  · rw [if_pos c3] at h
    have h := Option.some.inj h; subst h
    exact vr_vret (pc := 29) dX4_renew_29 rfl rfl
  · rw [if_neg c3] at h
    refine vr_aload_n (pc := 8) 0 dX4_renew_8 rfl rfl ?_
    refine vr_iload_n (pc := 9) 1 dX4_renew_9 rfl rfl ?_
    refine vr_putI (pc := 10) 0 dX4_renew_10 fi_X4_9 (fw_3_0 _) hq0 (sh_3_0 hq0) ?_
    refine vr_aload_n (pc := 13) 0 dX4_renew_13 rfl rfl ?_
    refine vr_getR (pc := 14) 2 dX4_renew_14 fi_X4_15 hq0 (sh_3_2 hq0).1 ?_
    refine vr_iconst (pc := 17) 0 dX4_renew_17 ci_0 ?_
    obtain ⟨z4, hz5, h⟩ := ob_some h
    refine vr_callS (pc := 18) (ρ1 := (none, z4)) [.ref (g.1 (rid q0 2)), .int 0] dX4_renew_18 (s_J7_fill_53178 l g (sh_3_2 hq0).2 hz5) cw_J7_fill_53178 ml_X4_52 (by decide) rfl rfl (Nat.le_of_ble_eq_true rfl) ?_
    refine vr_aload_n (pc := 21) 0 dX4_renew_21 rfl rfl ?_
    refine vr_getR (pc := 22) 3 dX4_renew_22 fi_X4_19 hq0 (sh_3_3 hq0).1 ?_
    refine vr_iconst (pc := 25) 0 dX4_renew_25 ci_0 ?_
    obtain ⟨z6, hz7, h⟩ := ob_some h
    refine vr_callS (pc := 26) (ρ1 := (none, z6)) [.ref (g.1 (rid q0 3)), .int 0] dX4_renew_26 (s_J7_fill_53178 l g (sh_3_3 hq0).2 hz7) cw_J7_fill_53178 ml_X4_52 (by decide) rfl rfl (Nat.le_of_ble_eq_true rfl) ?_
    have h := Option.some.inj h; subst h
    exact vr_vret (pc := 29) dX4_renew_29 rfl rfl
theorem dX4_isTooth_0 : decode cX4_isTooth 0 = .ok (.iload_n 1, 1) := by decide +kernel
theorem dX4_isTooth_1 : decode cX4_isTooth 1 = .ok (.ifCond .lt 15, 3) := by decide +kernel
theorem dX4_isTooth_4 : decode cX4_isTooth 4 = .ok (.iload_n 1, 1) := by decide +kernel
theorem dX4_isTooth_5 : decode cX4_isTooth 5 = .ok (.aload_n 0, 1) := by decide +kernel
theorem dX4_isTooth_6 : decode cX4_isTooth 6 = .ok (.getfield 9, 3) := by decide +kernel
theorem dX4_isTooth_9 : decode cX4_isTooth 9 = .ok (.if_icmp .ge 7, 3) := by decide +kernel
theorem dX4_isTooth_12 : decode cX4_isTooth 12 = .ok (.iconst 1, 1) := by decide +kernel
theorem dX4_isTooth_13 : decode cX4_isTooth 13 = .ok (.goto 4, 3) := by decide +kernel
theorem dX4_isTooth_16 : decode cX4_isTooth 16 = .ok (.iconst 0, 1) := by decide +kernel
theorem dX4_isTooth_17 : decode cX4_isTooth 17 = .ok (.ireturn, 1) := by decide +kernel
set_option maxRecDepth 20000 in
set_option maxHeartbeats 4000000 in
theorem s_X4_isTooth (l : Launch) (g : GG) {q0 : Nat} (hq0 : kd q0 = 3) {a1 : Int32} {σ : SS} {r : Int32} (h : f_X4_isTooth q0 a1 σ = r) : CT l g 0 yX4_isTooth cX4_isTooth 2 (some .boolean) [.ref (g.1 q0), .int a1] σ (some (.int r), σ) := by
  refine CT.of (lv := [(0, .ref (g.1 q0)), (1, .int a1)]) RX4 (by decide +kernel) rfl (Nat.le_of_ble_eq_true rfl) rfl ?_
  unfold f_X4_isTooth at h
  refine vr_iload_n (pc := 0) 1 dX4_isTooth_0 rfl rfl ?_
  refine vr_if_lt (pc := 1) 16 dX4_isTooth_1 (by decide) (fun c1 => ?_) (fun c1 => ?_)
  · rw [if_pos c1] at h
    refine vr_iconst (pc := 16) 0 dX4_isTooth_16 ci_0 ?_
    subst h
    exact vr_iret (pc := 17) .boolean dX4_isTooth_17 rfl rfl rfl
  · rw [if_neg c1] at h
    refine vr_iload_n (pc := 4) 1 dX4_isTooth_4 rfl rfl ?_
    refine vr_aload_n (pc := 5) 0 dX4_isTooth_5 rfl rfl ?_
    refine vr_getI (pc := 6) 0 dX4_isTooth_6 fi_X4_9 hq0 (sh_3_0 hq0) ?_
    refine vr_icmp_ge (pc := 9) 16 dX4_isTooth_9 (by decide) (fun c2 => ?_) (fun c2 => ?_)
    · rw [if_pos c2] at h
      refine vr_iconst (pc := 16) 0 dX4_isTooth_16 ci_0 ?_
      subst h
      exact vr_iret (pc := 17) .boolean dX4_isTooth_17 rfl rfl rfl
    · rw [if_neg c2] at h
      refine vr_iconst (pc := 12) 1 dX4_isTooth_12 ci_1 ?_
      refine vr_goto (pc := 13) 17 dX4_isTooth_13 (by decide) ?_
      subst h
      exact vr_iret (pc := 17) .boolean dX4_isTooth_17 rfl rfl rfl
theorem dX4_refusalOfWheel_0 : decode cX4_refusalOfWheel 0 = .ok (.iload_n 1, 1) := by decide +kernel
theorem dX4_refusalOfWheel_1 : decode cX4_refusalOfWheel 1 = .ok (.ifCond .lt 9, 3) := by decide +kernel
theorem dX4_refusalOfWheel_4 : decode cX4_refusalOfWheel 4 = .ok (.iload_n 1, 1) := by decide +kernel
theorem dX4_refusalOfWheel_5 : decode cX4_refusalOfWheel 5 = .ok (.bipush 6, 2) := by decide +kernel
theorem dX4_refusalOfWheel_7 : decode cX4_refusalOfWheel 7 = .ok (.if_icmp .lt 6, 3) := by decide +kernel
theorem dX4_refusalOfWheel_10 : decode cX4_refusalOfWheel 10 = .ok (.bipush (-2), 2) := by decide +kernel
theorem dX4_refusalOfWheel_12 : decode cX4_refusalOfWheel 12 = .ok (.ireturn, 1) := by decide +kernel
theorem dX4_refusalOfWheel_13 : decode cX4_refusalOfWheel 13 = .ok (.iload_n 2, 1) := by decide +kernel
theorem dX4_refusalOfWheel_14 : decode cX4_refusalOfWheel 14 = .ok (.iconst 1, 1) := by decide +kernel
theorem dX4_refusalOfWheel_15 : decode cX4_refusalOfWheel 15 = .ok (.if_icmp .lt 13, 3) := by decide +kernel
theorem dX4_refusalOfWheel_18 : decode cX4_refusalOfWheel 18 = .ok (.iload_n 3, 1) := by decide +kernel
theorem dX4_refusalOfWheel_19 : decode cX4_refusalOfWheel 19 = .ok (.ifCond .lt 9, 3) := by decide +kernel
theorem dX4_refusalOfWheel_22 : decode cX4_refusalOfWheel 22 = .ok (.iload 5, 2) := by decide +kernel
theorem dX4_refusalOfWheel_24 : decode cX4_refusalOfWheel 24 = .ok (.iconst 1, 1) := by decide +kernel
theorem dX4_refusalOfWheel_25 : decode cX4_refusalOfWheel 25 = .ok (.if_icmp .ge 6, 3) := by decide +kernel
theorem dX4_refusalOfWheel_28 : decode cX4_refusalOfWheel 28 = .ok (.bipush (-4), 2) := by decide +kernel
theorem dX4_refusalOfWheel_30 : decode cX4_refusalOfWheel 30 = .ok (.ireturn, 1) := by decide +kernel
theorem dX4_refusalOfWheel_31 : decode cX4_refusalOfWheel 31 = .ok (.iload_n 2, 1) := by decide +kernel
theorem dX4_refusalOfWheel_32 : decode cX4_refusalOfWheel 32 = .ok (.aload_n 0, 1) := by decide +kernel
theorem dX4_refusalOfWheel_33 : decode cX4_refusalOfWheel 33 = .ok (.getfield 9, 3) := by decide +kernel
theorem dX4_refusalOfWheel_36 : decode cX4_refusalOfWheel 36 = .ok (.if_icmp .ge 16, 3) := by decide +kernel
theorem dX4_refusalOfWheel_39 : decode cX4_refusalOfWheel 39 = .ok (.iload_n 3, 1) := by decide +kernel
theorem dX4_refusalOfWheel_40 : decode cX4_refusalOfWheel 40 = .ok (.bipush 9, 2) := by decide +kernel
theorem dX4_refusalOfWheel_42 : decode cX4_refusalOfWheel 42 = .ok (.if_icmp .gt 10, 3) := by decide +kernel
theorem dX4_refusalOfWheel_45 : decode cX4_refusalOfWheel 45 = .ok (.iload 5, 2) := by decide +kernel
theorem dX4_refusalOfWheel_47 : decode cX4_refusalOfWheel 47 = .ok (.bipush 9, 2) := by decide +kernel
theorem dX4_refusalOfWheel_49 : decode cX4_refusalOfWheel 49 = .ok (.if_icmp .le 7, 3) := by decide +kernel
theorem dX4_refusalOfWheel_52 : decode cX4_refusalOfWheel 52 = .ok (.iconst 1, 1) := by decide +kernel
theorem dX4_refusalOfWheel_53 : decode cX4_refusalOfWheel 53 = .ok (.goto 4, 3) := by decide +kernel
theorem dX4_refusalOfWheel_56 : decode cX4_refusalOfWheel 56 = .ok (.iconst 0, 1) := by decide +kernel
theorem dX4_refusalOfWheel_57 : decode cX4_refusalOfWheel 57 = .ok (.istore 6, 2) := by decide +kernel
theorem dX4_refusalOfWheel_59 : decode cX4_refusalOfWheel 59 = .ok (.iload 6, 2) := by decide +kernel
theorem dX4_refusalOfWheel_61 : decode cX4_refusalOfWheel 61 = .ok (.ifCond .ne 12, 3) := by decide +kernel
theorem dX4_refusalOfWheel_64 : decode cX4_refusalOfWheel 64 = .ok (.aload_n 0, 1) := by decide +kernel
theorem dX4_refusalOfWheel_65 : decode cX4_refusalOfWheel 65 = .ok (.getfield 29, 3) := by decide +kernel
theorem dX4_refusalOfWheel_68 : decode cX4_refusalOfWheel 68 = .ok (.bipush 6, 2) := by decide +kernel
theorem dX4_refusalOfWheel_70 : decode cX4_refusalOfWheel 70 = .ok (.if_icmp .lt 6, 3) := by decide +kernel
theorem dX4_refusalOfWheel_73 : decode cX4_refusalOfWheel 73 = .ok (.bipush (-6), 2) := by decide +kernel
theorem dX4_refusalOfWheel_75 : decode cX4_refusalOfWheel 75 = .ok (.ireturn, 1) := by decide +kernel
theorem dX4_refusalOfWheel_76 : decode cX4_refusalOfWheel 76 = .ok (.aload_n 0, 1) := by decide +kernel
theorem dX4_refusalOfWheel_77 : decode cX4_refusalOfWheel 77 = .ok (.iload 4, 2) := by decide +kernel
theorem dX4_refusalOfWheel_79 : decode cX4_refusalOfWheel 79 = .ok (.invokevirtual 58, 3) := by decide +kernel
theorem dX4_refusalOfWheel_82 : decode cX4_refusalOfWheel 82 = .ok (.ifCond .eq 7, 3) := by decide +kernel
theorem dX4_refusalOfWheel_85 : decode cX4_refusalOfWheel 85 = .ok (.iconst 0, 1) := by decide +kernel
theorem dX4_refusalOfWheel_86 : decode cX4_refusalOfWheel 86 = .ok (.goto 4, 3) := by decide +kernel
theorem dX4_refusalOfWheel_89 : decode cX4_refusalOfWheel 89 = .ok (.iconst (-1), 1) := by decide +kernel
theorem dX4_refusalOfWheel_90 : decode cX4_refusalOfWheel 90 = .ok (.ireturn, 1) := by decide +kernel
set_option maxRecDepth 20000 in
set_option maxHeartbeats 4000000 in
theorem s_X4_refusalOfWheel (l : Launch) (g : GG) {q0 : Nat} (hq0 : kd q0 = 3) {a1 : Int32} {a2 : Int32} {a3 : Int32} {a4 : Int32} {a5 : Int32} {σ : SS} {r : Int32} (h : f_X4_refusalOfWheel q0 a1 a2 a3 a4 a5 σ = r) : CT l g 1 yX4_refusalOfWheel cX4_refusalOfWheel 7 (some .int) [.ref (g.1 q0), .int a1, .int a2, .int a3, .int a4, .int a5] σ (some (.int r), σ) := by
  refine CT.of (lv := [(0, .ref (g.1 q0)), (1, .int a1), (2, .int a2), (3, .int a3), (4, .int a4), (5, .int a5)]) RX4 (by decide +kernel) rfl (Nat.le_of_ble_eq_true rfl) rfl ?_
  unfold f_X4_refusalOfWheel at h
  refine vr_iload_n (pc := 0) 1 dX4_refusalOfWheel_0 rfl rfl ?_
  refine vr_if_lt (pc := 1) 10 dX4_refusalOfWheel_1 (by decide) (fun c1 => ?_) (fun c1 => ?_)
  · rw [if_pos c1] at h
    refine vr_bipush (pc := 10) (-2) dX4_refusalOfWheel_10 cb_m2 ?_
    subst h
    exact vr_iret (pc := 12) .int dX4_refusalOfWheel_12 rfl rfl rfl
  · rw [if_neg c1] at h
    refine vr_iload_n (pc := 4) 1 dX4_refusalOfWheel_4 rfl rfl ?_
    refine vr_bipush (pc := 5) 6 dX4_refusalOfWheel_5 cb_6 ?_
    refine vr_icmp_lt (pc := 7) 13 dX4_refusalOfWheel_7 (by decide) (fun c2 => ?_) (fun c2 => ?_)
    · rw [if_pos c2] at h
      refine vr_iload_n (pc := 13) 2 dX4_refusalOfWheel_13 rfl rfl ?_
      refine vr_iconst (pc := 14) 1 dX4_refusalOfWheel_14 ci_1 ?_
      refine vr_icmp_lt (pc := 15) 28 dX4_refusalOfWheel_15 (by decide) (fun c3 => ?_) (fun c3 => ?_)
      · rw [if_pos c3] at h
        refine vr_bipush (pc := 28) (-4) dX4_refusalOfWheel_28 cb_m4 ?_
        subst h
        exact vr_iret (pc := 30) .int dX4_refusalOfWheel_30 rfl rfl rfl
      · rw [if_neg c3] at h
        refine vr_iload_n (pc := 18) 3 dX4_refusalOfWheel_18 rfl rfl ?_
        refine vr_if_lt (pc := 19) 28 dX4_refusalOfWheel_19 (by decide) (fun c4 => ?_) (fun c4 => ?_)
        · rw [if_pos c4] at h
          refine vr_bipush (pc := 28) (-4) dX4_refusalOfWheel_28 cb_m4 ?_
          subst h
          exact vr_iret (pc := 30) .int dX4_refusalOfWheel_30 rfl rfl rfl
        · rw [if_neg c4] at h
          refine vr_iload (pc := 22) 5 dX4_refusalOfWheel_22 rfl ?_
          refine vr_iconst (pc := 24) 1 dX4_refusalOfWheel_24 ci_1 ?_
          refine vr_icmp_ge (pc := 25) 31 dX4_refusalOfWheel_25 (by decide) (fun c5 => ?_) (fun c5 => ?_)
          · rw [if_pos c5] at h
            refine vr_iload_n (pc := 31) 2 dX4_refusalOfWheel_31 rfl rfl ?_
            refine vr_aload_n (pc := 32) 0 dX4_refusalOfWheel_32 rfl rfl ?_
            refine vr_getI (pc := 33) 0 dX4_refusalOfWheel_33 fi_X4_9 hq0 (sh_3_0 hq0) ?_
            obtain ⟨j6, ej6, h⟩ := jn1_e h
            have hj6 : ∀ (v8 : Int32) , j6 v8 = r → VV l g 1 RX4 cX4_refusalOfWheel 7 (some .int) (some (.int r), σ) 57 [(0, .ref (g.1 q0)), (4, .int a4)] [.int v8] σ := by
              intro v8  h
              rw [ej6] at h
              refine vr_istore (pc := 57) [(6, .int v8), (0, .ref (g.1 q0)), (4, .int a4)] dX4_refusalOfWheel_57 (by decide) rfl ?_
              refine vr_iload (pc := 59) 0 dX4_refusalOfWheel_59 rfl ?_
              refine vr_if_ne (pc := 61) 73 dX4_refusalOfWheel_61 (by decide) (fun c9 => ?_) (fun c9 => ?_)
              · rw [if_neg c9] at h
                refine vr_bipush (pc := 73) (-6) dX4_refusalOfWheel_73 cb_m6 ?_
                subst h
                exact vr_iret (pc := 75) .int dX4_refusalOfWheel_75 rfl rfl rfl
              · rw [if_pos c9] at h
                refine vr_aload_n (pc := 64) 1 dX4_refusalOfWheel_64 rfl rfl ?_
                refine vr_getI (pc := 65) 1 dX4_refusalOfWheel_65 fi_X4_29 hq0 (sh_3_1 hq0) ?_
                refine vr_bipush (pc := 68) 6 dX4_refusalOfWheel_68 cb_6 ?_
                refine vr_icmp_lt (pc := 70) 76 dX4_refusalOfWheel_70 (by decide) (fun c10 => ?_) (fun c10 => ?_)
                · rw [if_pos c10] at h
                  refine vr_aload_n (pc := 76) 1 dX4_refusalOfWheel_76 rfl rfl ?_
                  refine vr_iload (pc := 77) 2 dX4_refusalOfWheel_77 rfl ?_
                  refine vr_callV (pc := 79) (ρ1 := (some (.int (f_X4_isTooth q0 a4 σ)), σ)) [.int a4] dX4_refusalOfWheel_79 (s_X4_isTooth l g (hq0) rfl) cw_X4_isTooth ml_X4_58 hq0 rfl (by decide) (by decide) rfl rfl (Nat.le_of_ble_eq_true rfl) ?_
                  refine vr_if_eq (pc := 82) 89 dX4_refusalOfWheel_82 (by decide) (fun c11 => ?_) (fun c11 => ?_)
                  · rw [if_pos c11] at h
                    refine vr_iconst (pc := 89) (-1) dX4_refusalOfWheel_89 ci_m1 ?_
                    subst h
                    exact vr_iret (pc := 90) .int dX4_refusalOfWheel_90 rfl rfl rfl
                  · rw [if_neg c11] at h
                    refine vr_iconst (pc := 85) 0 dX4_refusalOfWheel_85 ci_0 ?_
                    refine vr_goto (pc := 86) 90 dX4_refusalOfWheel_86 (by decide) ?_
                    subst h
                    exact vr_iret (pc := 90) .int dX4_refusalOfWheel_90 rfl rfl rfl
                · rw [if_neg c10] at h
                  refine vr_bipush (pc := 73) (-6) dX4_refusalOfWheel_73 cb_m6 ?_
                  subst h
                  exact vr_iret (pc := 75) .int dX4_refusalOfWheel_75 rfl rfl rfl
            refine vr_icmp_ge (pc := 36) 52 dX4_refusalOfWheel_36 (by decide) (fun c12 => ?_) (fun c12 => ?_)
            · rw [if_pos c12] at h
              refine vr_iconst (pc := 52) 1 dX4_refusalOfWheel_52 ci_1 ?_
              refine vr_goto (pc := 53) 57 dX4_refusalOfWheel_53 (by decide) ?_
              refine vr_sub [0, 4] [(0, .ref (g.1 q0)), (4, .int a4)] rfl ?_
              exact hj6 1 h
            · rw [if_neg c12] at h
              refine vr_iload_n (pc := 39) 3 dX4_refusalOfWheel_39 rfl rfl ?_
              refine vr_bipush (pc := 40) 9 dX4_refusalOfWheel_40 cb_9 ?_
              refine vr_icmp_gt (pc := 42) 52 dX4_refusalOfWheel_42 (by decide) (fun c13 => ?_) (fun c13 => ?_)
              · rw [if_pos c13] at h
                refine vr_iconst (pc := 52) 1 dX4_refusalOfWheel_52 ci_1 ?_
                refine vr_goto (pc := 53) 57 dX4_refusalOfWheel_53 (by decide) ?_
                refine vr_sub [0, 4] [(0, .ref (g.1 q0)), (4, .int a4)] rfl ?_
                exact hj6 1 h
              · rw [if_neg c13] at h
                refine vr_iload (pc := 45) 5 dX4_refusalOfWheel_45 rfl ?_
                refine vr_bipush (pc := 47) 9 dX4_refusalOfWheel_47 cb_9 ?_
                refine vr_icmp_le (pc := 49) 56 dX4_refusalOfWheel_49 (by decide) (fun c14 => ?_) (fun c14 => ?_)
                · rw [if_pos c14] at h
                  refine vr_iconst (pc := 56) 0 dX4_refusalOfWheel_56 ci_0 ?_
                  refine vr_sub [0, 4] [(0, .ref (g.1 q0)), (4, .int a4)] rfl ?_
                  exact hj6 0 h
                · rw [if_neg c14] at h
                  refine vr_iconst (pc := 52) 1 dX4_refusalOfWheel_52 ci_1 ?_
                  refine vr_goto (pc := 53) 57 dX4_refusalOfWheel_53 (by decide) ?_
                  refine vr_sub [0, 4] [(0, .ref (g.1 q0)), (4, .int a4)] rfl ?_
                  exact hj6 1 h
          · rw [if_neg c5] at h
            refine vr_bipush (pc := 28) (-4) dX4_refusalOfWheel_28 cb_m4 ?_
            subst h
            exact vr_iret (pc := 30) .int dX4_refusalOfWheel_30 rfl rfl rfl
    · rw [if_neg c2] at h
      refine vr_bipush (pc := 10) (-2) dX4_refusalOfWheel_10 cb_m2 ?_
      subst h
      exact vr_iret (pc := 12) .int dX4_refusalOfWheel_12 rfl rfl rfl
theorem dX7_set_0 : decode cX7_set 0 = .ok (.aload_n 0, 1) := by decide +kernel
theorem dX7_set_1 : decode cX7_set 1 = .ok (.iload_n 1, 1) := by decide +kernel
theorem dX7_set_2 : decode cX7_set 2 = .ok (.putfield 18, 3) := by decide +kernel
theorem dX7_set_5 : decode cX7_set 5 = .ok (.aload_n 0, 1) := by decide +kernel
theorem dX7_set_6 : decode cX7_set 6 = .ok (.iload_n 2, 1) := by decide +kernel
theorem dX7_set_7 : decode cX7_set 7 = .ok (.putfield 9, 3) := by decide +kernel
theorem dX7_set_10 : decode cX7_set 10 = .ok (.aload_n 0, 1) := by decide +kernel
theorem dX7_set_11 : decode cX7_set 11 = .ok (.iload_n 3, 1) := by decide +kernel
theorem dX7_set_12 : decode cX7_set 12 = .ok (.putfield 21, 3) := by decide +kernel
theorem dX7_set_15 : decode cX7_set 15 = .ok (.aload_n 0, 1) := by decide +kernel
theorem dX7_set_16 : decode cX7_set 16 = .ok (.iload 5, 2) := by decide +kernel
theorem dX7_set_18 : decode cX7_set 18 = .ok (.putfield 15, 3) := by decide +kernel
theorem dX7_set_21 : decode cX7_set 21 = .ok (.aload_n 0, 1) := by decide +kernel
theorem dX7_set_22 : decode cX7_set 22 = .ok (.iload 4, 2) := by decide +kernel
theorem dX7_set_24 : decode cX7_set 24 = .ok (.putfield 24, 3) := by decide +kernel
theorem dX7_set_27 : decode cX7_set 27 = .ok (.aload_n 0, 1) := by decide +kernel
theorem dX7_set_28 : decode cX7_set 28 = .ok (.iconst 0, 1) := by decide +kernel
theorem dX7_set_29 : decode cX7_set 29 = .ok (.putfield 27, 3) := by decide +kernel
theorem dX7_set_32 : decode cX7_set 32 = .ok (.return_, 1) := by decide +kernel
set_option maxRecDepth 20000 in
set_option maxHeartbeats 4000000 in
theorem s_X7_set (l : Launch) (g : GG) {q0 : Nat} (hq0 : kd q0 = 6) {a1 : Int32} {a2 : Int32} {a3 : Int32} {a4 : Int32} {a5 : Int32} {σ : SS} {r : SS} (h : f_X7_set q0 a1 a2 a3 a4 a5 σ = some r) : CT l g 0 yX7_set cX7_set 6 none [.ref (g.1 q0), .int a1, .int a2, .int a3, .int a4, .int a5] σ (none, r) := by
  refine CT.of (lv := [(0, .ref (g.1 q0)), (1, .int a1), (2, .int a2), (3, .int a3), (4, .int a4), (5, .int a5)]) RX7 (by decide +kernel) rfl (Nat.le_of_ble_eq_true rfl) rfl ?_
  unfold f_X7_set at h
  refine vr_aload_n (pc := 0) 0 dX7_set_0 rfl rfl ?_
  refine vr_iload_n (pc := 1) 1 dX7_set_1 rfl rfl ?_
  refine vr_putI (pc := 2) 0 dX7_set_2 fi_X7_18 (fw_6_0 _) hq0 (sh_6_0 hq0) ?_
  refine vr_aload_n (pc := 5) 0 dX7_set_5 rfl rfl ?_
  refine vr_iload_n (pc := 6) 2 dX7_set_6 rfl rfl ?_
  refine vr_putI (pc := 7) 1 dX7_set_7 fi_X7_9 (fw_6_1 _) hq0 (sh_6_1 hq0) ?_
  refine vr_aload_n (pc := 10) 0 dX7_set_10 rfl rfl ?_
  refine vr_iload_n (pc := 11) 3 dX7_set_11 rfl rfl ?_
  refine vr_putI (pc := 12) 2 dX7_set_12 fi_X7_21 (fw_6_2 _) hq0 (sh_6_2 hq0) ?_
  refine vr_aload_n (pc := 15) 0 dX7_set_15 rfl rfl ?_
  refine vr_iload (pc := 16) 5 dX7_set_16 rfl ?_
  refine vr_putI (pc := 18) 3 dX7_set_18 fi_X7_15 (fw_6_3 _) hq0 (sh_6_3 hq0) ?_
  refine vr_aload_n (pc := 21) 0 dX7_set_21 rfl rfl ?_
  refine vr_iload (pc := 22) 4 dX7_set_22 rfl ?_
  refine vr_putI (pc := 24) 4 dX7_set_24 fi_X7_24 (fw_6_4 _) hq0 (sh_6_4 hq0) ?_
  refine vr_aload_n (pc := 27) 0 dX7_set_27 rfl rfl ?_
  refine vr_iconst (pc := 28) 0 dX7_set_28 ci_0 ?_
  refine vr_putI (pc := 29) 5 dX7_set_29 fi_X7_27 (fw_6_5 _) hq0 (sh_6_5 hq0) ?_
  have h := Option.some.inj h; subst h
  exact vr_vret (pc := 32) dX7_set_32 rfl rfl
theorem dX4_addWheel_0 : decode cX4_addWheel 0 = .ok (.aload_n 0, 1) := by decide +kernel
theorem dX4_addWheel_1 : decode cX4_addWheel 1 = .ok (.getfield 29, 3) := by decide +kernel
theorem dX4_addWheel_4 : decode cX4_addWheel 4 = .ok (.bipush 6, 2) := by decide +kernel
theorem dX4_addWheel_6 : decode cX4_addWheel 6 = .ok (.if_icmp .ge 32, 3) := by decide +kernel
theorem dX4_addWheel_9 : decode cX4_addWheel 9 = .ok (.aload_n 0, 1) := by decide +kernel
theorem dX4_addWheel_10 : decode cX4_addWheel 10 = .ok (.getfield 24, 3) := by decide +kernel
theorem dX4_addWheel_13 : decode cX4_addWheel 13 = .ok (.aload_n 0, 1) := by decide +kernel
theorem dX4_addWheel_14 : decode cX4_addWheel 14 = .ok (.getfield 29, 3) := by decide +kernel
theorem dX4_addWheel_17 : decode cX4_addWheel 17 = .ok (.aaload, 1) := by decide +kernel
theorem dX4_addWheel_18 : decode cX4_addWheel 18 = .ok (.iload_n 1, 1) := by decide +kernel
theorem dX4_addWheel_19 : decode cX4_addWheel 19 = .ok (.iload_n 2, 1) := by decide +kernel
theorem dX4_addWheel_20 : decode cX4_addWheel 20 = .ok (.iload_n 3, 1) := by decide +kernel
theorem dX4_addWheel_21 : decode cX4_addWheel 21 = .ok (.iload 4, 2) := by decide +kernel
theorem dX4_addWheel_23 : decode cX4_addWheel 23 = .ok (.iload 5, 2) := by decide +kernel
theorem dX4_addWheel_25 : decode cX4_addWheel 25 = .ok (.invokevirtual 61, 3) := by decide +kernel
theorem dX4_addWheel_28 : decode cX4_addWheel 28 = .ok (.aload_n 0, 1) := by decide +kernel
theorem dX4_addWheel_29 : decode cX4_addWheel 29 = .ok (.dup, 1) := by decide +kernel
theorem dX4_addWheel_30 : decode cX4_addWheel 30 = .ok (.getfield 29, 3) := by decide +kernel
theorem dX4_addWheel_33 : decode cX4_addWheel 33 = .ok (.iconst 1, 1) := by decide +kernel
theorem dX4_addWheel_34 : decode cX4_addWheel 34 = .ok (.iadd, 1) := by decide +kernel
theorem dX4_addWheel_35 : decode cX4_addWheel 35 = .ok (.putfield 29, 3) := by decide +kernel
theorem dX4_addWheel_38 : decode cX4_addWheel 38 = .ok (.return_, 1) := by decide +kernel
set_option maxRecDepth 20000 in
set_option maxHeartbeats 4000000 in
theorem s_X4_addWheel (l : Launch) (g : GG) {q0 : Nat} (hq0 : kd q0 = 3) {a1 : Int32} {a2 : Int32} {a3 : Int32} {a4 : Int32} {a5 : Int32} {σ : SS} {r : SS} (h : f_X4_addWheel q0 a1 a2 a3 a4 a5 σ = some r) : CT l g 1 yX4_addWheel cX4_addWheel 6 none [.ref (g.1 q0), .int a1, .int a2, .int a3, .int a4, .int a5] σ (none, r) := by
  refine CT.of (lv := [(0, .ref (g.1 q0)), (1, .int a1), (2, .int a2), (3, .int a3), (4, .int a4), (5, .int a5)]) RX4 (by decide +kernel) rfl (Nat.le_of_ble_eq_true rfl) rfl ?_
  unfold f_X4_addWheel at h
  refine vr_aload_n (pc := 0) 0 dX4_addWheel_0 rfl rfl ?_
  refine vr_getI (pc := 1) 1 dX4_addWheel_1 fi_X4_29 hq0 (sh_3_1 hq0) ?_
  refine vr_bipush (pc := 4) 6 dX4_addWheel_4 cb_6 ?_
  refine vr_icmp_ge (pc := 6) 38 dX4_addWheel_6 (by decide) (fun c1 => ?_) (fun c1 => ?_)
  · rw [if_pos c1] at h
    have h := Option.some.inj h; subst h
    exact vr_vret (pc := 38) dX4_addWheel_38 rfl rfl
  · rw [if_neg c1] at h
    refine vr_aload_n (pc := 9) 0 dX4_addWheel_9 rfl rfl ?_
    refine vr_getR (pc := 10) 4 dX4_addWheel_10 fi_X4_24 hq0 (sh_3_4 hq0).1 ?_
    refine vr_aload_n (pc := 13) 0 dX4_addWheel_13 rfl rfl ?_
    refine vr_getI (pc := 14) 1 dX4_addWheel_14 fi_X4_29 hq0 (sh_3_1 hq0) ?_
    obtain ⟨hc2, h⟩ := ck_some h
    refine vr_aald (pc := 17) dX4_addWheel_17 (sh_3_4 hq0).2 (by decide) hc2 (sha_13 (sh_3_4 hq0).2 (lt_ck hc2)).1 ?_
    refine vr_iload_n (pc := 18) 1 dX4_addWheel_18 rfl rfl ?_
    refine vr_iload_n (pc := 19) 2 dX4_addWheel_19 rfl rfl ?_
    refine vr_iload_n (pc := 20) 3 dX4_addWheel_20 rfl rfl ?_
    refine vr_iload (pc := 21) 4 dX4_addWheel_21 rfl ?_
    refine vr_iload (pc := 23) 5 dX4_addWheel_23 rfl ?_
    obtain ⟨z3, hz4, h⟩ := ob_some h
    refine vr_callV (pc := 25) (ρ1 := (none, z3)) [.int a1, .int a2, .int a3, .int a4, .int a5] dX4_addWheel_25 (s_X7_set l g (sha_13 (sh_3_4 hq0).2 (lt_ck hc2)).2 hz4) cw_X7_set ml_X4_61 (sha_13 (sh_3_4 hq0).2 (lt_ck hc2)).2 rfl (by decide) (by decide) rfl rfl (Nat.le_of_ble_eq_true rfl) ?_
    refine vr_aload_n (pc := 28) 0 dX4_addWheel_28 rfl rfl ?_
    refine vr_dup (pc := 29) dX4_addWheel_29 rfl ?_
    refine vr_getI (pc := 30) 1 dX4_addWheel_30 fi_X4_29 hq0 (sh_3_1 hq0) ?_
    refine vr_iconst (pc := 33) 1 dX4_addWheel_33 ci_1 ?_
    refine vr_iadd (pc := 34) dX4_addWheel_34 ?_
    refine vr_putI (pc := 35) 1 dX4_addWheel_35 fi_X4_29 (fw_3_1 _) hq0 (sh_3_1 hq0) ?_
    have h := Option.some.inj h; subst h
    exact vr_vret (pc := 38) dX4_addWheel_38 rfl rfl
theorem dX4_wearOrMend_0 : decode cX4_wearOrMend 0 = .ok (.aload_n 0, 1) := by decide +kernel
theorem dX4_wearOrMend_1 : decode cX4_wearOrMend 1 = .ok (.iload_n 1, 1) := by decide +kernel
theorem dX4_wearOrMend_2 : decode cX4_wearOrMend 2 = .ok (.invokevirtual 58, 3) := by decide +kernel
theorem dX4_wearOrMend_5 : decode cX4_wearOrMend 5 = .ok (.ifCond .eq 17, 3) := by decide +kernel
theorem dX4_wearOrMend_8 : decode cX4_wearOrMend 8 = .ok (.aload_n 0, 1) := by decide +kernel
theorem dX4_wearOrMend_9 : decode cX4_wearOrMend 9 = .ok (.getfield 19, 3) := by decide +kernel
theorem dX4_wearOrMend_12 : decode cX4_wearOrMend 12 = .ok (.iload_n 1, 1) := by decide +kernel
theorem dX4_wearOrMend_13 : decode cX4_wearOrMend 13 = .ok (.iconst 1, 1) := by decide +kernel
theorem dX4_wearOrMend_14 : decode cX4_wearOrMend 14 = .ok (.aload_n 0, 1) := by decide +kernel
theorem dX4_wearOrMend_15 : decode cX4_wearOrMend 15 = .ok (.getfield 19, 3) := by decide +kernel
theorem dX4_wearOrMend_18 : decode cX4_wearOrMend 18 = .ok (.iload_n 1, 1) := by decide +kernel
theorem dX4_wearOrMend_19 : decode cX4_wearOrMend 19 = .ok (.iaload, 1) := by decide +kernel
theorem dX4_wearOrMend_20 : decode cX4_wearOrMend 20 = .ok (.isub, 1) := by decide +kernel
theorem dX4_wearOrMend_21 : decode cX4_wearOrMend 21 = .ok (.iastore, 1) := by decide +kernel
theorem dX4_wearOrMend_22 : decode cX4_wearOrMend 22 = .ok (.return_, 1) := by decide +kernel
set_option maxRecDepth 20000 in
set_option maxHeartbeats 4000000 in
theorem s_X4_wearOrMend (l : Launch) (g : GG) {q0 : Nat} (hq0 : kd q0 = 3) {a1 : Int32} {σ : SS} {r : SS} (h : f_X4_wearOrMend q0 a1 σ = some r) : CT l g 1 yX4_wearOrMend cX4_wearOrMend 2 none [.ref (g.1 q0), .int a1] σ (none, r) := by
  refine CT.of (lv := [(0, .ref (g.1 q0)), (1, .int a1)]) RX4 (by decide +kernel) rfl (Nat.le_of_ble_eq_true rfl) rfl ?_
  unfold f_X4_wearOrMend at h
  refine vr_aload_n (pc := 0) 0 dX4_wearOrMend_0 rfl rfl ?_
  refine vr_iload_n (pc := 1) 1 dX4_wearOrMend_1 rfl rfl ?_
  refine vr_callV (pc := 2) (ρ1 := (some (.int (f_X4_isTooth q0 a1 σ)), σ)) [.int a1] dX4_wearOrMend_2 (s_X4_isTooth l g (hq0) rfl) cw_X4_isTooth ml_X4_58 hq0 rfl (by decide) (by decide) rfl rfl (Nat.le_of_ble_eq_true rfl) ?_
  refine vr_if_eq (pc := 5) 22 dX4_wearOrMend_5 (by decide) (fun c1 => ?_) (fun c1 => ?_)
  · rw [if_pos c1] at h
    have h := Option.some.inj h; subst h
    exact vr_vret (pc := 22) dX4_wearOrMend_22 rfl rfl
  · rw [if_neg c1] at h
    refine vr_aload_n (pc := 8) 0 dX4_wearOrMend_8 rfl rfl ?_
    refine vr_getR (pc := 9) 3 dX4_wearOrMend_9 fi_X4_19 hq0 (sh_3_3 hq0).1 ?_
    refine vr_iload_n (pc := 12) 1 dX4_wearOrMend_12 rfl rfl ?_
    refine vr_iconst (pc := 13) 1 dX4_wearOrMend_13 ci_1 ?_
    refine vr_aload_n (pc := 14) 0 dX4_wearOrMend_14 rfl rfl ?_
    refine vr_getR (pc := 15) 3 dX4_wearOrMend_15 fi_X4_19 hq0 (sh_3_3 hq0).1 ?_
    refine vr_iload_n (pc := 18) 1 dX4_wearOrMend_18 rfl rfl ?_
    obtain ⟨hc2, h⟩ := ck_some h
    refine vr_iald (pc := 19) dX4_wearOrMend_19 (sh_3_3 hq0).2 hc2 ?_
    refine vr_isub (pc := 20) dX4_wearOrMend_20 ?_
    obtain ⟨hc3, h⟩ := ck_some h
    refine vr_iast (pc := 21) dX4_wearOrMend_21 (sh_3_3 hq0).2 hc3 ?_
    have h := Option.some.inj h; subst h
    exact vr_vret (pc := 22) dX4_wearOrMend_22 rfl rfl
theorem dX4_wheelAt_0 : decode cX4_wheelAt 0 = .ok (.iload_n 1, 1) := by decide +kernel
theorem dX4_wheelAt_1 : decode cX4_wheelAt 1 = .ok (.ifCond .lt 20, 3) := by decide +kernel
theorem dX4_wheelAt_4 : decode cX4_wheelAt 4 = .ok (.iload_n 1, 1) := by decide +kernel
theorem dX4_wheelAt_5 : decode cX4_wheelAt 5 = .ok (.aload_n 0, 1) := by decide +kernel
theorem dX4_wheelAt_6 : decode cX4_wheelAt 6 = .ok (.getfield 29, 3) := by decide +kernel
theorem dX4_wheelAt_9 : decode cX4_wheelAt 9 = .ok (.if_icmp .ge 12, 3) := by decide +kernel
theorem dX4_wheelAt_12 : decode cX4_wheelAt 12 = .ok (.aload_n 0, 1) := by decide +kernel
theorem dX4_wheelAt_13 : decode cX4_wheelAt 13 = .ok (.getfield 24, 3) := by decide +kernel
theorem dX4_wheelAt_16 : decode cX4_wheelAt 16 = .ok (.iload_n 1, 1) := by decide +kernel
theorem dX4_wheelAt_17 : decode cX4_wheelAt 17 = .ok (.aaload, 1) := by decide +kernel
theorem dX4_wheelAt_18 : decode cX4_wheelAt 18 = .ok (.goto 4, 3) := by decide +kernel
theorem dX4_wheelAt_21 : decode cX4_wheelAt 21 = .ok (.aconst_null, 1) := by decide +kernel
theorem dX4_wheelAt_22 : decode cX4_wheelAt 22 = .ok (.areturn, 1) := by decide +kernel
set_option maxRecDepth 20000 in
set_option maxHeartbeats 4000000 in
theorem s_X4_wheelAt (l : Launch) (g : GG) {q0 : Nat} (hq0 : kd q0 = 3) {a1 : Int32} {σ : SS} {r : Option Nat} (h : f_X4_wheelAt q0 a1 σ = some r) : CT l g 0 yX4_wheelAt cX4_wheelAt 2 (some (.object "WheelOnWheel$Wheel")) [.ref (g.1 q0), .int a1] σ (some (rvO g r), σ) := by
  refine CT.of (lv := [(0, .ref (g.1 q0)), (1, .int a1)]) RX4 (by decide +kernel) rfl (Nat.le_of_ble_eq_true rfl) rfl ?_
  unfold f_X4_wheelAt at h
  refine vr_iload_n (pc := 0) 1 dX4_wheelAt_0 rfl rfl ?_
  refine vr_if_lt (pc := 1) 21 dX4_wheelAt_1 (by decide) (fun c1 => ?_) (fun c1 => ?_)
  · rw [if_pos c1] at h
    refine vr_null (pc := 21) dX4_wheelAt_21 ?_
    have h := Option.some.inj h; subst h
    exact vr_aret (pc := 22) (o := none) dX4_wheelAt_22 rfl rfl
  · rw [if_neg c1] at h
    refine vr_iload_n (pc := 4) 1 dX4_wheelAt_4 rfl rfl ?_
    refine vr_aload_n (pc := 5) 0 dX4_wheelAt_5 rfl rfl ?_
    refine vr_getI (pc := 6) 1 dX4_wheelAt_6 fi_X4_29 hq0 (sh_3_1 hq0) ?_
    refine vr_icmp_ge (pc := 9) 21 dX4_wheelAt_9 (by decide) (fun c2 => ?_) (fun c2 => ?_)
    · rw [if_pos c2] at h
      refine vr_null (pc := 21) dX4_wheelAt_21 ?_
      have h := Option.some.inj h; subst h
      exact vr_aret (pc := 22) (o := none) dX4_wheelAt_22 rfl rfl
    · rw [if_neg c2] at h
      refine vr_aload_n (pc := 12) 0 dX4_wheelAt_12 rfl rfl ?_
      refine vr_getR (pc := 13) 4 dX4_wheelAt_13 fi_X4_24 hq0 (sh_3_4 hq0).1 ?_
      refine vr_iload_n (pc := 16) 1 dX4_wheelAt_16 rfl rfl ?_
      obtain ⟨hc3, h⟩ := ck_some h
      refine vr_aald (pc := 17) dX4_wheelAt_17 (sh_3_4 hq0).2 (by decide) hc3 (sha_13 (sh_3_4 hq0).2 (lt_ck hc3)).1 ?_
      refine vr_goto (pc := 18) 22 dX4_wheelAt_18 (by decide) ?_
      have h := Option.some.inj h; subst h
      exact vr_aret (pc := 22) (o := (some (rid (rid q0 4) a1.toNatClampNeg))) dX4_wheelAt_22 rfl rfl
theorem dX4_rollTruly_0 : decode cX4_rollTruly 0 = .ok (.iconst 0, 1) := by decide +kernel
theorem dX4_rollTruly_1 : decode cX4_rollTruly 1 = .ok (.istore_n 3, 1) := by decide +kernel
theorem dX4_rollTruly_2 : decode cX4_rollTruly 2 = .ok (.iload_n 3, 1) := by decide +kernel
theorem dX4_rollTruly_3 : decode cX4_rollTruly 3 = .ok (.iload_n 2, 1) := by decide +kernel
theorem dX4_rollTruly_4 : decode cX4_rollTruly 4 = .ok (.if_icmp .ge 48, 3) := by decide +kernel
theorem dX4_rollTruly_7 : decode cX4_rollTruly 7 = .ok (.aload_n 0, 1) := by decide +kernel
theorem dX4_rollTruly_8 : decode cX4_rollTruly 8 = .ok (.aload_n 1, 1) := by decide +kernel
theorem dX4_rollTruly_9 : decode cX4_rollTruly 9 = .ok (.aload_n 1, 1) := by decide +kernel
theorem dX4_rollTruly_10 : decode cX4_rollTruly 10 = .ok (.getfield 45, 3) := by decide +kernel
theorem dX4_rollTruly_13 : decode cX4_rollTruly 13 = .ok (.invokevirtual 85, 3) := by decide +kernel
theorem dX4_rollTruly_16 : decode cX4_rollTruly 16 = .ok (.istore 4, 2) := by decide +kernel
theorem dX4_rollTruly_18 : decode cX4_rollTruly 18 = .ok (.aload_n 0, 1) := by decide +kernel
theorem dX4_rollTruly_19 : decode cX4_rollTruly 19 = .ok (.getfield 15, 3) := by decide +kernel
theorem dX4_rollTruly_22 : decode cX4_rollTruly 22 = .ok (.iload 4, 2) := by decide +kernel
theorem dX4_rollTruly_24 : decode cX4_rollTruly 24 = .ok (.aload_n 0, 1) := by decide +kernel
theorem dX4_rollTruly_25 : decode cX4_rollTruly 25 = .ok (.getfield 15, 3) := by decide +kernel
theorem dX4_rollTruly_28 : decode cX4_rollTruly 28 = .ok (.iload 4, 2) := by decide +kernel
theorem dX4_rollTruly_30 : decode cX4_rollTruly 30 = .ok (.iaload, 1) := by decide +kernel
theorem dX4_rollTruly_31 : decode cX4_rollTruly 31 = .ok (.iconst 1, 1) := by decide +kernel
theorem dX4_rollTruly_32 : decode cX4_rollTruly 32 = .ok (.iadd, 1) := by decide +kernel
theorem dX4_rollTruly_33 : decode cX4_rollTruly 33 = .ok (.sipush 9999, 3) := by decide +kernel
theorem dX4_rollTruly_36 : decode cX4_rollTruly 36 = .ok (.invokestatic 88, 3) := by decide +kernel
theorem dX4_rollTruly_39 : decode cX4_rollTruly 39 = .ok (.iastore, 1) := by decide +kernel
theorem dX4_rollTruly_40 : decode cX4_rollTruly 40 = .ok (.aload_n 1, 1) := by decide +kernel
theorem dX4_rollTruly_41 : decode cX4_rollTruly 41 = .ok (.iload 4, 2) := by decide +kernel
theorem dX4_rollTruly_43 : decode cX4_rollTruly 43 = .ok (.putfield 45, 3) := by decide +kernel
theorem dX4_rollTruly_46 : decode cX4_rollTruly 46 = .ok (.iinc 3 1, 3) := by decide +kernel
theorem dX4_rollTruly_49 : decode cX4_rollTruly 49 = .ok (.goto (-47), 3) := by decide +kernel
theorem dX4_rollTruly_52 : decode cX4_rollTruly 52 = .ok (.aload_n 1, 1) := by decide +kernel
theorem dX4_rollTruly_53 : decode cX4_rollTruly 53 = .ok (.aload_n 1, 1) := by decide +kernel
theorem dX4_rollTruly_54 : decode cX4_rollTruly 54 = .ok (.getfield 93, 3) := by decide +kernel
theorem dX4_rollTruly_57 : decode cX4_rollTruly 57 = .ok (.iload_n 2, 1) := by decide +kernel
theorem dX4_rollTruly_58 : decode cX4_rollTruly 58 = .ok (.iadd, 1) := by decide +kernel
theorem dX4_rollTruly_59 : decode cX4_rollTruly 59 = .ok (.sipush 9999, 3) := by decide +kernel
theorem dX4_rollTruly_62 : decode cX4_rollTruly 62 = .ok (.invokestatic 88, 3) := by decide +kernel
theorem dX4_rollTruly_65 : decode cX4_rollTruly 65 = .ok (.putfield 93, 3) := by decide +kernel
theorem dX4_rollTruly_68 : decode cX4_rollTruly 68 = .ok (.return_, 1) := by decide +kernel
set_option maxRecDepth 20000 in
set_option maxHeartbeats 4000000 in
theorem v_X4_rollTruly_L2 (l : Launch) (g : GG) {r : SS} {κ : Nat → Int32 → SS → Option SS} (hκ : ∀ (p1 : Nat) (y2 : Int32) (τ : SS) (hp1 : kd p1 = 6), κ p1 y2 τ = some r → VV l g 3 RX4 cX4_rollTruly 5 none (none, r) 52 [(1, .ref (g.1 p1)), (2, .int y2)] [] τ) : ∀ (fu : Nat) (q0 : Nat) (q1 : Nat) (x2 : Int32) (x3 : Int32) (hq0 : kd q0 = 3) (hq1 : kd q1 = 6) (σ : SS), f_X4_rollTruly_L2 κ fu q0 q1 x2 x3 σ = some r → VV l g 3 RX4 cX4_rollTruly 5 none (none, r) 2 [(0, .ref (g.1 q0)), (1, .ref (g.1 q1)), (2, .int x2), (3, .int x3)] [] σ := by
  intro fu
  induction fu with
  | zero => intro q0 q1 x2 x3 hq0 hq1 σ h; cases h
  | succ fu ih =>
    intro q0 q1 x2 x3 hq0 hq1 σ h
    simp only [f_X4_rollTruly_L2] at h
    refine vr_iload_n (pc := 2) 3 dX4_rollTruly_2 rfl rfl ?_
    refine vr_iload_n (pc := 3) 2 dX4_rollTruly_3 rfl rfl ?_
    refine vr_icmp_ge (pc := 4) 52 dX4_rollTruly_4 (by decide) (fun c1 => ?_) (fun c1 => ?_)
    · rw [if_pos c1] at h
      refine vr_sub [1, 2] [(1, .ref (g.1 q1)), (2, .int x2)] rfl ?_
      exact hκ q1 x2 σ (hq1) h
    · rw [if_neg c1] at h
      refine vr_aload_n (pc := 7) 0 dX4_rollTruly_7 rfl rfl ?_
      refine vr_aload_n (pc := 8) 1 dX4_rollTruly_8 rfl rfl ?_
      refine vr_aload_n (pc := 9) 1 dX4_rollTruly_9 rfl rfl ?_
      refine vr_getI (pc := 10) 4 dX4_rollTruly_10 fi_X4_45 hq1 (sh_6_4 hq1) ?_
      obtain ⟨z2, hz3, h⟩ := ob_some h
      refine vr_callV (pc := 13) (ρ1 := (some (.int z2), σ)) [.ref (g.1 q1), .int (σ.1 q1 4)] dX4_rollTruly_13 (s_X4_nextBy l g (hq0) (hq1) hz3) cw_X4_nextBy ml_X4_85 hq0 rfl (by decide) (by decide) rfl rfl (Nat.le_of_ble_eq_true rfl) ?_
      refine vr_istore (pc := 16) [(4, .int z2), (0, .ref (g.1 q0)), (1, .ref (g.1 q1)), (2, .int x2), (3, .int x3)] dX4_rollTruly_16 (by decide) rfl ?_
      refine vr_aload_n (pc := 18) 1 dX4_rollTruly_18 rfl rfl ?_
      refine vr_getR (pc := 19) 2 dX4_rollTruly_19 fi_X4_15 hq0 (sh_3_2 hq0).1 ?_
      refine vr_iload (pc := 22) 0 dX4_rollTruly_22 rfl ?_
      refine vr_aload_n (pc := 24) 1 dX4_rollTruly_24 rfl rfl ?_
      refine vr_getR (pc := 25) 2 dX4_rollTruly_25 fi_X4_15 hq0 (sh_3_2 hq0).1 ?_
      refine vr_iload (pc := 28) 0 dX4_rollTruly_28 rfl ?_
      obtain ⟨hc4, h⟩ := ck_some h
      refine vr_iald (pc := 30) dX4_rollTruly_30 (sh_3_2 hq0).2 hc4 ?_
      refine vr_iconst (pc := 31) 1 dX4_rollTruly_31 ci_1 ?_
      refine vr_iadd (pc := 32) dX4_rollTruly_32 ?_
      refine vr_sipush (pc := 33) 9999 dX4_rollTruly_33 cs_9999 ?_
      refine vr_mmin (pc := 36) dX4_rollTruly_36 ml_X4_88 (by decide) (Nat.le_of_ble_eq_true rfl) ?_
      obtain ⟨hc5, h⟩ := ck_some h
      refine vr_iast (pc := 39) dX4_rollTruly_39 (sh_3_2 hq0).2 hc5 ?_
      refine vr_aload_n (pc := 40) 2 dX4_rollTruly_40 rfl rfl ?_
      refine vr_iload (pc := 41) 0 dX4_rollTruly_41 rfl ?_
      refine vr_putI (pc := 43) 4 dX4_rollTruly_43 fi_X4_45 (fw_6_4 _) hq1 (sh_6_4 hq1) ?_
      refine vr_iinc (pc := 46) [(3, .int (x3 + 1)), (4, .int z2), (0, .ref (g.1 q0)), (1, .ref (g.1 q1)), (2, .int x2)] 4 dX4_rollTruly_46 rfl (congrArg (fun z => x3 + z) ci_1) (by decide) rfl ?_
      refine vr_goto (pc := 49) 2 dX4_rollTruly_49 (by decide) ?_
      refine vr_sub [2, 3, 4, 0] [(0, .ref (g.1 q0)), (1, .ref (g.1 q1)), (2, .int x2), (3, .int (x3 + 1))] rfl ?_
      exact ih q0 q1 x2 (x3 + 1) (hq0) (hq1) (sI (sI σ (rid q0 2) z2.toNatClampNeg (f_J9_min_7cf53 ((σ.1 (rid q0 2) z2.toNatClampNeg) + 1) 9999)) q1 4 z2) h
set_option maxRecDepth 20000 in
set_option maxHeartbeats 4000000 in
theorem s_X4_rollTruly (l : Launch) (g : GG) {q0 : Nat} (hq0 : kd q0 = 3) {q1 : Nat} (hq1 : kd q1 = 6) {a2 : Int32} {σ : SS} {r : SS} (h : f_X4_rollTruly q0 q1 a2 σ = some r) : CT l g 3 yX4_rollTruly cX4_rollTruly 5 none [.ref (g.1 q0), .ref (g.1 q1), .int a2] σ (none, r) := by
  refine CT.of (lv := [(0, .ref (g.1 q0)), (1, .ref (g.1 q1)), (2, .int a2)]) RX4 (by decide +kernel) rfl (Nat.le_of_ble_eq_true rfl) rfl ?_
  unfold f_X4_rollTruly at h
  refine vr_iconst (pc := 0) 0 dX4_rollTruly_0 ci_0 ?_
  refine vr_istore_n (pc := 1) [(3, .int 0), (0, .ref (g.1 q0)), (1, .ref (g.1 q1)), (2, .int a2)] dX4_rollTruly_1 rfl (by decide) rfl ?_
  refine vr_sub [1, 2, 3, 0] [(0, .ref (g.1 q0)), (1, .ref (g.1 q1)), (2, .int a2), (3, .int 0)] rfl ?_
  refine v_X4_rollTruly_L2 l g (fun p1 y2 τ hp1 h => ?_) FU q0 q1 a2 0 (hq0) (hq1) σ h
  refine vr_aload_n (pc := 52) 0 dX4_rollTruly_52 rfl rfl ?_
  refine vr_aload_n (pc := 53) 0 dX4_rollTruly_53 rfl rfl ?_
  refine vr_getI (pc := 54) 5 dX4_rollTruly_54 fi_X4_93 hp1 (sh_6_5 hp1) ?_
  refine vr_iload_n (pc := 57) 1 dX4_rollTruly_57 rfl rfl ?_
  refine vr_iadd (pc := 58) dX4_rollTruly_58 ?_
  refine vr_sipush (pc := 59) 9999 dX4_rollTruly_59 cs_9999 ?_
  refine vr_mmin (pc := 62) dX4_rollTruly_62 ml_X4_88 (by decide) (Nat.le_of_ble_eq_true rfl) ?_
  refine vr_putI (pc := 65) 5 dX4_rollTruly_65 fi_X4_93 (fw_6_5 _) hp1 (sh_6_5 hp1) ?_
  have h := Option.some.inj h; subst h
  exact vr_vret (pc := 68) dX4_rollTruly_68 rfl rfl
theorem dJ9_abs_0f7a4_0 : decode cJ9_abs_0f7a4 0 = .ok (.iload_n 0, 1) := by decide +kernel
theorem dJ9_abs_0f7a4_1 : decode cJ9_abs_0f7a4 1 = .ok (.ifCond .ge 8, 3) := by decide +kernel
theorem dJ9_abs_0f7a4_4 : decode cJ9_abs_0f7a4 4 = .ok (.iload_n 0, 1) := by decide +kernel
theorem dJ9_abs_0f7a4_5 : decode cJ9_abs_0f7a4 5 = .ok (.ineg, 1) := by decide +kernel
theorem dJ9_abs_0f7a4_6 : decode cJ9_abs_0f7a4 6 = .ok (.goto 4, 3) := by decide +kernel
theorem dJ9_abs_0f7a4_9 : decode cJ9_abs_0f7a4 9 = .ok (.iload_n 0, 1) := by decide +kernel
theorem dJ9_abs_0f7a4_10 : decode cJ9_abs_0f7a4 10 = .ok (.ireturn, 1) := by decide +kernel
theorem dX2_greatestDivisor_0 : decode cX2_greatestDivisor 0 = .ok (.iload_n 0, 1) := by decide +kernel
theorem dX2_greatestDivisor_1 : decode cX2_greatestDivisor 1 = .ok (.invokestatic 7, 3) := by decide +kernel
theorem dX2_greatestDivisor_4 : decode cX2_greatestDivisor 4 = .ok (.istore_n 2, 1) := by decide +kernel
theorem dX2_greatestDivisor_5 : decode cX2_greatestDivisor 5 = .ok (.iload_n 1, 1) := by decide +kernel
theorem dX2_greatestDivisor_6 : decode cX2_greatestDivisor 6 = .ok (.invokestatic 7, 3) := by decide +kernel
theorem dX2_greatestDivisor_9 : decode cX2_greatestDivisor 9 = .ok (.istore_n 3, 1) := by decide +kernel
theorem dX2_greatestDivisor_10 : decode cX2_greatestDivisor 10 = .ok (.iconst 0, 1) := by decide +kernel
theorem dX2_greatestDivisor_11 : decode cX2_greatestDivisor 11 = .ok (.istore 4, 2) := by decide +kernel
theorem dX2_greatestDivisor_13 : decode cX2_greatestDivisor 13 = .ok (.iload 4, 2) := by decide +kernel
theorem dX2_greatestDivisor_15 : decode cX2_greatestDivisor 15 = .ok (.bipush 64, 2) := by decide +kernel
theorem dX2_greatestDivisor_17 : decode cX2_greatestDivisor 17 = .ok (.if_icmp .ge 23, 3) := by decide +kernel
theorem dX2_greatestDivisor_20 : decode cX2_greatestDivisor 20 = .ok (.iload_n 3, 1) := by decide +kernel
theorem dX2_greatestDivisor_21 : decode cX2_greatestDivisor 21 = .ok (.ifCond .eq 19, 3) := by decide +kernel
theorem dX2_greatestDivisor_24 : decode cX2_greatestDivisor 24 = .ok (.iload_n 2, 1) := by decide +kernel
theorem dX2_greatestDivisor_25 : decode cX2_greatestDivisor 25 = .ok (.iload_n 3, 1) := by decide +kernel
theorem dX2_greatestDivisor_26 : decode cX2_greatestDivisor 26 = .ok (.irem, 1) := by decide +kernel
theorem dX2_greatestDivisor_27 : decode cX2_greatestDivisor 27 = .ok (.istore 5, 2) := by decide +kernel
theorem dX2_greatestDivisor_29 : decode cX2_greatestDivisor 29 = .ok (.iload_n 3, 1) := by decide +kernel
theorem dX2_greatestDivisor_30 : decode cX2_greatestDivisor 30 = .ok (.istore_n 2, 1) := by decide +kernel
theorem dX2_greatestDivisor_31 : decode cX2_greatestDivisor 31 = .ok (.iload 5, 2) := by decide +kernel
theorem dX2_greatestDivisor_33 : decode cX2_greatestDivisor 33 = .ok (.istore_n 3, 1) := by decide +kernel
theorem dX2_greatestDivisor_34 : decode cX2_greatestDivisor 34 = .ok (.iinc 4 1, 3) := by decide +kernel
theorem dX2_greatestDivisor_37 : decode cX2_greatestDivisor 37 = .ok (.goto (-24), 3) := by decide +kernel
theorem dX2_greatestDivisor_40 : decode cX2_greatestDivisor 40 = .ok (.iload_n 2, 1) := by decide +kernel
theorem dX2_greatestDivisor_41 : decode cX2_greatestDivisor 41 = .ok (.ireturn, 1) := by decide +kernel
set_option maxRecDepth 20000 in
set_option maxHeartbeats 4000000 in
theorem v_X2_greatestDivisor_L13 (l : Launch) (g : GG) {r : Int32} {σ : SS} {κ : Int32 → Option Int32} (hκ : ∀ (y2 : Int32) , κ y2 = some r → VV l g 1 RX2 cX2_greatestDivisor 6 (some .int) (some (.int r), σ) 40 [(2, .int y2)] [] σ) : ∀ (fu : Nat) (x2 : Int32) (x3 : Int32) (x4 : Int32) , f_X2_greatestDivisor_L13 κ fu x2 x3 x4 = some r → VV l g 1 RX2 cX2_greatestDivisor 6 (some .int) (some (.int r), σ) 13 [(2, .int x2), (3, .int x3), (4, .int x4)] [] σ := by
  intro fu
  induction fu with
  | zero => intro x2 x3 x4  h; cases h
  | succ fu ih =>
    intro x2 x3 x4  h
    simp only [f_X2_greatestDivisor_L13] at h
    refine vr_iload (pc := 13) 2 dX2_greatestDivisor_13 rfl ?_
    refine vr_bipush (pc := 15) 64 dX2_greatestDivisor_15 cb_64 ?_
    refine vr_icmp_ge (pc := 17) 40 dX2_greatestDivisor_17 (by decide) (fun c1 => ?_) (fun c1 => ?_)
    · rw [if_pos c1] at h
      refine vr_sub [0] [(2, .int x2)] rfl ?_
      exact hκ x2 h
    · rw [if_neg c1] at h
      refine vr_iload_n (pc := 20) 1 dX2_greatestDivisor_20 rfl rfl ?_
      refine vr_if_eq (pc := 21) 40 dX2_greatestDivisor_21 (by decide) (fun c2 => ?_) (fun c2 => ?_)
      · rw [if_pos c2] at h
        refine vr_sub [0] [(2, .int x2)] rfl ?_
        exact hκ x2 h
      · rw [if_neg c2] at h
        refine vr_iload_n (pc := 24) 0 dX2_greatestDivisor_24 rfl rfl ?_
        refine vr_iload_n (pc := 25) 1 dX2_greatestDivisor_25 rfl rfl ?_
        obtain ⟨hc3, h⟩ := ck_some h
        refine vr_irem (pc := 26) dX2_greatestDivisor_26 hc3 ?_
        refine vr_istore (pc := 27) [(5, .int (x2 - x2 / x3 * x3)), (2, .int x2), (3, .int x3), (4, .int x4)] dX2_greatestDivisor_27 (by decide) rfl ?_
        refine vr_iload_n (pc := 29) 2 dX2_greatestDivisor_29 rfl rfl ?_
        refine vr_istore_n (pc := 30) [(2, .int x3), (5, .int (x2 - x2 / x3 * x3)), (3, .int x3), (4, .int x4)] dX2_greatestDivisor_30 rfl (by decide) rfl ?_
        refine vr_iload (pc := 31) 1 dX2_greatestDivisor_31 rfl ?_
        refine vr_istore_n (pc := 33) [(3, .int (x2 - x2 / x3 * x3)), (2, .int x3), (5, .int (x2 - x2 / x3 * x3)), (4, .int x4)] dX2_greatestDivisor_33 rfl (by decide) rfl ?_
        refine vr_iinc (pc := 34) [(4, .int (x4 + 1)), (3, .int (x2 - x2 / x3 * x3)), (2, .int x3), (5, .int (x2 - x2 / x3 * x3))] 3 dX2_greatestDivisor_34 rfl (congrArg (fun z => x4 + z) ci_1) (by decide) rfl ?_
        refine vr_goto (pc := 37) 13 dX2_greatestDivisor_37 (by decide) ?_
        refine vr_sub [2, 1, 0] [(2, .int x3), (3, .int (x2 - x2 / x3 * x3)), (4, .int (x4 + 1))] rfl ?_
        exact ih x3 (x2 - x2 / x3 * x3) (x4 + 1) h
set_option maxRecDepth 20000 in
set_option maxHeartbeats 4000000 in
theorem s_X2_greatestDivisor (l : Launch) (g : GG) {a0 : Int32} {a1 : Int32} {σ : SS} {r : Int32} (h : f_X2_greatestDivisor a0 a1 = some r) : CT l g 1 yX2_greatestDivisor cX2_greatestDivisor 6 (some .int) [.int a0, .int a1] σ (some (.int r), σ) := by
  refine CT.of (lv := [(0, .int a0), (1, .int a1)]) RX2 (by decide +kernel) rfl (Nat.le_of_ble_eq_true rfl) rfl ?_
  unfold f_X2_greatestDivisor at h
  refine vr_iload_n (pc := 0) 0 dX2_greatestDivisor_0 rfl rfl ?_
  refine vr_mabs (pc := 1) dX2_greatestDivisor_1 ml_X2_7 (by decide) (Nat.le_of_ble_eq_true rfl) ?_
  refine vr_istore_n (pc := 4) [(2, .int (f_J9_abs_0f7a4 a0)), (0, .int a0), (1, .int a1)] dX2_greatestDivisor_4 rfl (by decide) rfl ?_
  refine vr_iload_n (pc := 5) 2 dX2_greatestDivisor_5 rfl rfl ?_
  refine vr_mabs (pc := 6) dX2_greatestDivisor_6 ml_X2_7 (by decide) (Nat.le_of_ble_eq_true rfl) ?_
  refine vr_istore_n (pc := 9) [(3, .int (f_J9_abs_0f7a4 a1)), (2, .int (f_J9_abs_0f7a4 a0)), (0, .int a0), (1, .int a1)] dX2_greatestDivisor_9 rfl (by decide) rfl ?_
  refine vr_iconst (pc := 10) 0 dX2_greatestDivisor_10 ci_0 ?_
  refine vr_istore (pc := 11) [(4, .int 0), (3, .int (f_J9_abs_0f7a4 a1)), (2, .int (f_J9_abs_0f7a4 a0)), (0, .int a0), (1, .int a1)] dX2_greatestDivisor_11 (by decide) rfl ?_
  refine vr_sub [2, 1, 0] [(2, .int (f_J9_abs_0f7a4 a0)), (3, .int (f_J9_abs_0f7a4 a1)), (4, .int 0)] rfl ?_
  refine v_X2_greatestDivisor_L13 l g (fun y2 h => ?_) FU (f_J9_abs_0f7a4 a0) (f_J9_abs_0f7a4 a1) 0 h
  refine vr_iload_n (pc := 40) 0 dX2_greatestDivisor_40 rfl rfl ?_
  have h := Option.some.inj h; subst h
  exact vr_iret (pc := 41) .int dX2_greatestDivisor_41 rfl rfl rfl
theorem dX2_partOf_0 : decode cX2_partOf 0 = .ok (.iload_n 0, 1) := by decide +kernel
theorem dX2_partOf_1 : decode cX2_partOf 1 = .ok (.iload_n 1, 1) := by decide +kernel
theorem dX2_partOf_2 : decode cX2_partOf 2 = .ok (.invokestatic 13, 3) := by decide +kernel
theorem dX2_partOf_5 : decode cX2_partOf 5 = .ok (.istore_n 3, 1) := by decide +kernel
theorem dX2_partOf_6 : decode cX2_partOf 6 = .ok (.iload_n 3, 1) := by decide +kernel
theorem dX2_partOf_7 : decode cX2_partOf 7 = .ok (.ifCond .ne 5, 3) := by decide +kernel
theorem dX2_partOf_10 : decode cX2_partOf 10 = .ok (.iconst 0, 1) := by decide +kernel
theorem dX2_partOf_11 : decode cX2_partOf 11 = .ok (.ireturn, 1) := by decide +kernel
theorem dX2_partOf_12 : decode cX2_partOf 12 = .ok (.iload_n 2, 1) := by decide +kernel
theorem dX2_partOf_13 : decode cX2_partOf 13 = .ok (.ifCond .ne 9, 3) := by decide +kernel
theorem dX2_partOf_16 : decode cX2_partOf 16 = .ok (.iload_n 0, 1) := by decide +kernel
theorem dX2_partOf_17 : decode cX2_partOf 17 = .ok (.iload_n 3, 1) := by decide +kernel
theorem dX2_partOf_18 : decode cX2_partOf 18 = .ok (.idiv, 1) := by decide +kernel
theorem dX2_partOf_19 : decode cX2_partOf 19 = .ok (.goto 6, 3) := by decide +kernel
theorem dX2_partOf_22 : decode cX2_partOf 22 = .ok (.iload_n 1, 1) := by decide +kernel
theorem dX2_partOf_23 : decode cX2_partOf 23 = .ok (.iload_n 3, 1) := by decide +kernel
theorem dX2_partOf_24 : decode cX2_partOf 24 = .ok (.idiv, 1) := by decide +kernel
theorem dX2_partOf_25 : decode cX2_partOf 25 = .ok (.ireturn, 1) := by decide +kernel
set_option maxRecDepth 20000 in
set_option maxHeartbeats 4000000 in
theorem s_X2_partOf (l : Launch) (g : GG) {a0 : Int32} {a1 : Int32} {a2 : Int32} {σ : SS} {r : Int32} (h : f_X2_partOf a0 a1 a2 = some r) : CT l g 2 yX2_partOf cX2_partOf 4 (some .int) [.int a0, .int a1, .int a2] σ (some (.int r), σ) := by
  refine CT.of (lv := [(0, .int a0), (1, .int a1), (2, .int a2)]) RX2 (by decide +kernel) rfl (Nat.le_of_ble_eq_true rfl) rfl ?_
  unfold f_X2_partOf at h
  refine vr_iload_n (pc := 0) 0 dX2_partOf_0 rfl rfl ?_
  refine vr_iload_n (pc := 1) 1 dX2_partOf_1 rfl rfl ?_
  obtain ⟨z1, hz2, h⟩ := ob_some h
  refine vr_callS (pc := 2) (ρ1 := (some (.int z1), σ)) [.int a0, .int a1] dX2_partOf_2 (s_X2_greatestDivisor l g hz2) cw_X2_greatestDivisor ml_X2_13 (by decide) rfl rfl (Nat.le_of_ble_eq_true rfl) ?_
  refine vr_istore_n (pc := 5) [(3, .int z1), (0, .int a0), (1, .int a1), (2, .int a2)] dX2_partOf_5 rfl (by decide) rfl ?_
  refine vr_iload_n (pc := 6) 0 dX2_partOf_6 rfl rfl ?_
  refine vr_if_ne (pc := 7) 12 dX2_partOf_7 (by decide) (fun c3 => ?_) (fun c3 => ?_)
  · rw [if_neg c3] at h
    refine vr_iload_n (pc := 12) 3 dX2_partOf_12 rfl rfl ?_
    refine vr_if_ne (pc := 13) 22 dX2_partOf_13 (by decide) (fun c4 => ?_) (fun c4 => ?_)
    · rw [if_neg c4] at h
      refine vr_iload_n (pc := 22) 2 dX2_partOf_22 rfl rfl ?_
      refine vr_iload_n (pc := 23) 0 dX2_partOf_23 rfl rfl ?_
      obtain ⟨hc5, h⟩ := ck_some h
      refine vr_idiv (pc := 24) dX2_partOf_24 hc5 ?_
      have h := Option.some.inj h; subst h
      exact vr_iret (pc := 25) .int dX2_partOf_25 rfl rfl rfl
    · rw [if_pos c4] at h
      refine vr_iload_n (pc := 16) 1 dX2_partOf_16 rfl rfl ?_
      refine vr_iload_n (pc := 17) 0 dX2_partOf_17 rfl rfl ?_
      obtain ⟨hc6, h⟩ := ck_some h
      refine vr_idiv (pc := 18) dX2_partOf_18 hc6 ?_
      refine vr_goto (pc := 19) 25 dX2_partOf_19 (by decide) ?_
      have h := Option.some.inj h; subst h
      exact vr_iret (pc := 25) .int dX2_partOf_25 rfl rfl rfl
  · rw [if_pos c3] at h
    refine vr_iconst (pc := 10) 0 dX2_partOf_10 ci_0 ?_
    have h := Option.some.inj h; subst h
    exact vr_iret (pc := 11) .int dX2_partOf_11 rfl rfl rfl
theorem dX2_placeOfMost_0 : decode cX2_placeOfMost 0 = .ok (.iconst 0, 1) := by decide +kernel
theorem dX2_placeOfMost_1 : decode cX2_placeOfMost 1 = .ok (.istore_n 2, 1) := by decide +kernel
theorem dX2_placeOfMost_2 : decode cX2_placeOfMost 2 = .ok (.iconst 1, 1) := by decide +kernel
theorem dX2_placeOfMost_3 : decode cX2_placeOfMost 3 = .ok (.istore_n 3, 1) := by decide +kernel
theorem dX2_placeOfMost_4 : decode cX2_placeOfMost 4 = .ok (.iload_n 3, 1) := by decide +kernel
theorem dX2_placeOfMost_5 : decode cX2_placeOfMost 5 = .ok (.iload_n 1, 1) := by decide +kernel
theorem dX2_placeOfMost_6 : decode cX2_placeOfMost 6 = .ok (.if_icmp .ge 26, 3) := by decide +kernel
theorem dX2_placeOfMost_9 : decode cX2_placeOfMost 9 = .ok (.iload_n 3, 1) := by decide +kernel
theorem dX2_placeOfMost_10 : decode cX2_placeOfMost 10 = .ok (.aload_n 0, 1) := by decide +kernel
theorem dX2_placeOfMost_11 : decode cX2_placeOfMost 11 = .ok (.arraylength, 1) := by decide +kernel
theorem dX2_placeOfMost_12 : decode cX2_placeOfMost 12 = .ok (.if_icmp .ge 20, 3) := by decide +kernel
theorem dX2_placeOfMost_15 : decode cX2_placeOfMost 15 = .ok (.aload_n 0, 1) := by decide +kernel
theorem dX2_placeOfMost_16 : decode cX2_placeOfMost 16 = .ok (.iload_n 3, 1) := by decide +kernel
theorem dX2_placeOfMost_17 : decode cX2_placeOfMost 17 = .ok (.iaload, 1) := by decide +kernel
theorem dX2_placeOfMost_18 : decode cX2_placeOfMost 18 = .ok (.aload_n 0, 1) := by decide +kernel
theorem dX2_placeOfMost_19 : decode cX2_placeOfMost 19 = .ok (.iload_n 2, 1) := by decide +kernel
theorem dX2_placeOfMost_20 : decode cX2_placeOfMost 20 = .ok (.iaload, 1) := by decide +kernel
theorem dX2_placeOfMost_21 : decode cX2_placeOfMost 21 = .ok (.if_icmp .le 5, 3) := by decide +kernel
theorem dX2_placeOfMost_24 : decode cX2_placeOfMost 24 = .ok (.iload_n 3, 1) := by decide +kernel
theorem dX2_placeOfMost_25 : decode cX2_placeOfMost 25 = .ok (.istore_n 2, 1) := by decide +kernel
theorem dX2_placeOfMost_26 : decode cX2_placeOfMost 26 = .ok (.iinc 3 1, 3) := by decide +kernel
theorem dX2_placeOfMost_29 : decode cX2_placeOfMost 29 = .ok (.goto (-25), 3) := by decide +kernel
theorem dX2_placeOfMost_32 : decode cX2_placeOfMost 32 = .ok (.iload_n 2, 1) := by decide +kernel
theorem dX2_placeOfMost_33 : decode cX2_placeOfMost 33 = .ok (.ireturn, 1) := by decide +kernel
set_option maxRecDepth 20000 in
set_option maxHeartbeats 4000000 in
theorem v_X2_placeOfMost_L4 (l : Launch) (g : GG) {r : Int32} {σ : SS} {κ : Int32 → Option Int32} (hκ : ∀ (y2 : Int32) , κ y2 = some r → VV l g 0 RX2 cX2_placeOfMost 4 (some .int) (some (.int r), σ) 32 [(2, .int y2)] [] σ) : ∀ (fu : Nat) (q0 : Nat) (x1 : Int32) (x2 : Int32) (x3 : Int32) (hq0 : kd q0 = 9), f_X2_placeOfMost_L4 σ κ fu q0 x1 x2 x3 = some r → VV l g 0 RX2 cX2_placeOfMost 4 (some .int) (some (.int r), σ) 4 [(0, .ref (g.1 q0)), (1, .int x1), (2, .int x2), (3, .int x3)] [] σ := by
  intro fu
  induction fu with
  | zero => intro q0 x1 x2 x3 hq0 h; cases h
  | succ fu ih =>
    intro q0 x1 x2 x3 hq0 h
    simp only [f_X2_placeOfMost_L4] at h
    refine vr_iload_n (pc := 4) 3 dX2_placeOfMost_4 rfl rfl ?_
    refine vr_iload_n (pc := 5) 1 dX2_placeOfMost_5 rfl rfl ?_
    refine vr_icmp_ge (pc := 6) 32 dX2_placeOfMost_6 (by decide) (fun c1 => ?_) (fun c1 => ?_)
    · rw [if_pos c1] at h
      refine vr_sub [2] [(2, .int x2)] rfl ?_
      exact hκ x2 h
    · rw [if_neg c1] at h
      refine vr_iload_n (pc := 9) 3 dX2_placeOfMost_9 rfl rfl ?_
      refine vr_aload_n (pc := 10) 0 dX2_placeOfMost_10 rfl rfl ?_
      refine vr_alen (pc := 11) dX2_placeOfMost_11 hq0 (by decide) ?_
      refine vr_icmp_ge (pc := 12) 32 dX2_placeOfMost_12 (by decide) (fun c2 => ?_) (fun c2 => ?_)
      · rw [if_pos c2] at h
        refine vr_sub [2] [(2, .int x2)] rfl ?_
        exact hκ x2 h
      · rw [if_neg c2] at h
        refine vr_aload_n (pc := 15) 0 dX2_placeOfMost_15 rfl rfl ?_
        refine vr_iload_n (pc := 16) 3 dX2_placeOfMost_16 rfl rfl ?_
        obtain ⟨hc3, h⟩ := ck_some h
        refine vr_iald (pc := 17) dX2_placeOfMost_17 hq0 hc3 ?_
        refine vr_aload_n (pc := 18) 0 dX2_placeOfMost_18 rfl rfl ?_
        refine vr_iload_n (pc := 19) 2 dX2_placeOfMost_19 rfl rfl ?_
        obtain ⟨hc4, h⟩ := ck_some h
        refine vr_iald (pc := 20) dX2_placeOfMost_20 hq0 hc4 ?_
        refine vr_icmp_le (pc := 21) 26 dX2_placeOfMost_21 (by decide) (fun c5 => ?_) (fun c5 => ?_)
        · rw [if_pos c5] at h
          refine vr_iinc (pc := 26) [(3, .int (x3 + 1)), (0, .ref (g.1 q0)), (1, .int x1), (2, .int x2)] 3 dX2_placeOfMost_26 rfl (congrArg (fun z => x3 + z) ci_1) (by decide) rfl ?_
          refine vr_goto (pc := 29) 4 dX2_placeOfMost_29 (by decide) ?_
          refine vr_sub [1, 2, 3, 0] [(0, .ref (g.1 q0)), (1, .int x1), (2, .int x2), (3, .int (x3 + 1))] rfl ?_
          exact ih q0 x1 x2 (x3 + 1) (hq0) h
        · rw [if_neg c5] at h
          refine vr_iload_n (pc := 24) 3 dX2_placeOfMost_24 rfl rfl ?_
          refine vr_istore_n (pc := 25) [(2, .int x3), (0, .ref (g.1 q0)), (1, .int x1), (3, .int x3)] dX2_placeOfMost_25 rfl (by decide) rfl ?_
          refine vr_iinc (pc := 26) [(3, .int (x3 + 1)), (2, .int x3), (0, .ref (g.1 q0)), (1, .int x1)] 3 dX2_placeOfMost_26 rfl (congrArg (fun z => x3 + z) ci_1) (by decide) rfl ?_
          refine vr_goto (pc := 29) 4 dX2_placeOfMost_29 (by decide) ?_
          refine vr_sub [2, 3, 1, 0] [(0, .ref (g.1 q0)), (1, .int x1), (2, .int x3), (3, .int (x3 + 1))] rfl ?_
          exact ih q0 x1 x3 (x3 + 1) (hq0) h
set_option maxRecDepth 20000 in
set_option maxHeartbeats 4000000 in
theorem s_X2_placeOfMost (l : Launch) (g : GG) {q0 : Nat} (hq0 : kd q0 = 9) {a1 : Int32} {σ : SS} {r : Int32} (h : f_X2_placeOfMost q0 a1 σ = some r) : CT l g 0 yX2_placeOfMost cX2_placeOfMost 4 (some .int) [.ref (g.1 q0), .int a1] σ (some (.int r), σ) := by
  refine CT.of (lv := [(0, .ref (g.1 q0)), (1, .int a1)]) RX2 (by decide +kernel) rfl (Nat.le_of_ble_eq_true rfl) rfl ?_
  unfold f_X2_placeOfMost at h
  refine vr_iconst (pc := 0) 0 dX2_placeOfMost_0 ci_0 ?_
  refine vr_istore_n (pc := 1) [(2, .int 0), (0, .ref (g.1 q0)), (1, .int a1)] dX2_placeOfMost_1 rfl (by decide) rfl ?_
  refine vr_iconst (pc := 2) 1 dX2_placeOfMost_2 ci_1 ?_
  refine vr_istore_n (pc := 3) [(3, .int 1), (2, .int 0), (0, .ref (g.1 q0)), (1, .int a1)] dX2_placeOfMost_3 rfl (by decide) rfl ?_
  refine vr_sub [2, 3, 1, 0] [(0, .ref (g.1 q0)), (1, .int a1), (2, .int 0), (3, .int 1)] rfl ?_
  refine v_X2_placeOfMost_L4 l g (fun y2 h => ?_) FU q0 a1 0 1 (hq0) h
  refine vr_iload_n (pc := 32) 0 dX2_placeOfMost_32 rfl rfl ?_
  have h := Option.some.inj h; subst h
  exact vr_iret (pc := 33) .int dX2_placeOfMost_33 rfl rfl rfl
theorem dX2_placesOf_0 : decode cX2_placesOf 0 = .ok (.iconst 0, 1) := by decide +kernel
theorem dX2_placesOf_1 : decode cX2_placesOf 1 = .ok (.istore_n 3, 1) := by decide +kernel
theorem dX2_placesOf_2 : decode cX2_placesOf 2 = .ok (.iconst 0, 1) := by decide +kernel
theorem dX2_placesOf_3 : decode cX2_placesOf 3 = .ok (.istore 4, 2) := by decide +kernel
theorem dX2_placesOf_5 : decode cX2_placesOf 5 = .ok (.iload 4, 2) := by decide +kernel
theorem dX2_placesOf_7 : decode cX2_placesOf 7 = .ok (.iload_n 2, 1) := by decide +kernel
theorem dX2_placesOf_8 : decode cX2_placesOf 8 = .ok (.if_icmp .ge 27, 3) := by decide +kernel
theorem dX2_placesOf_11 : decode cX2_placesOf 11 = .ok (.iload 4, 2) := by decide +kernel
theorem dX2_placesOf_13 : decode cX2_placesOf 13 = .ok (.aload_n 1, 1) := by decide +kernel
theorem dX2_placesOf_14 : decode cX2_placesOf 14 = .ok (.arraylength, 1) := by decide +kernel
theorem dX2_placesOf_15 : decode cX2_placesOf 15 = .ok (.if_icmp .ge 20, 3) := by decide +kernel
theorem dX2_placesOf_18 : decode cX2_placesOf 18 = .ok (.aload_n 1, 1) := by decide +kernel
theorem dX2_placesOf_19 : decode cX2_placesOf 19 = .ok (.iload 4, 2) := by decide +kernel
theorem dX2_placesOf_21 : decode cX2_placesOf 21 = .ok (.iaload, 1) := by decide +kernel
theorem dX2_placesOf_22 : decode cX2_placesOf 22 = .ok (.iload_n 0, 1) := by decide +kernel
theorem dX2_placesOf_23 : decode cX2_placesOf 23 = .ok (.if_icmp .ne 6, 3) := by decide +kernel
theorem dX2_placesOf_26 : decode cX2_placesOf 26 = .ok (.iinc 3 1, 3) := by decide +kernel
theorem dX2_placesOf_29 : decode cX2_placesOf 29 = .ok (.iinc 4 1, 3) := by decide +kernel
theorem dX2_placesOf_32 : decode cX2_placesOf 32 = .ok (.goto (-27), 3) := by decide +kernel
theorem dX2_placesOf_35 : decode cX2_placesOf 35 = .ok (.iload_n 3, 1) := by decide +kernel
theorem dX2_placesOf_36 : decode cX2_placesOf 36 = .ok (.ireturn, 1) := by decide +kernel
set_option maxRecDepth 20000 in
set_option maxHeartbeats 4000000 in
theorem v_X2_placesOf_L5 (l : Launch) (g : GG) {r : Int32} {σ : SS} {κ : Int32 → Option Int32} (hκ : ∀ (y3 : Int32) , κ y3 = some r → VV l g 0 RX2 cX2_placesOf 5 (some .int) (some (.int r), σ) 35 [(3, .int y3)] [] σ) : ∀ (fu : Nat) (x0 : Int32) (q1 : Nat) (x2 : Int32) (x3 : Int32) (x4 : Int32) (hq1 : kd q1 = 9), f_X2_placesOf_L5 σ κ fu x0 q1 x2 x3 x4 = some r → VV l g 0 RX2 cX2_placesOf 5 (some .int) (some (.int r), σ) 5 [(0, .int x0), (1, .ref (g.1 q1)), (2, .int x2), (3, .int x3), (4, .int x4)] [] σ := by
  intro fu
  induction fu with
  | zero => intro x0 q1 x2 x3 x4 hq1 h; cases h
  | succ fu ih =>
    intro x0 q1 x2 x3 x4 hq1 h
    simp only [f_X2_placesOf_L5] at h
    refine vr_iload (pc := 5) 4 dX2_placesOf_5 rfl ?_
    refine vr_iload_n (pc := 7) 2 dX2_placesOf_7 rfl rfl ?_
    refine vr_icmp_ge (pc := 8) 35 dX2_placesOf_8 (by decide) (fun c1 => ?_) (fun c1 => ?_)
    · rw [if_pos c1] at h
      refine vr_sub [3] [(3, .int x3)] rfl ?_
      exact hκ x3 h
    · rw [if_neg c1] at h
      refine vr_iload (pc := 11) 4 dX2_placesOf_11 rfl ?_
      refine vr_aload_n (pc := 13) 1 dX2_placesOf_13 rfl rfl ?_
      refine vr_alen (pc := 14) dX2_placesOf_14 hq1 (by decide) ?_
      refine vr_icmp_ge (pc := 15) 35 dX2_placesOf_15 (by decide) (fun c2 => ?_) (fun c2 => ?_)
      · rw [if_pos c2] at h
        refine vr_sub [3] [(3, .int x3)] rfl ?_
        exact hκ x3 h
      · rw [if_neg c2] at h
        refine vr_aload_n (pc := 18) 1 dX2_placesOf_18 rfl rfl ?_
        refine vr_iload (pc := 19) 4 dX2_placesOf_19 rfl ?_
        obtain ⟨hc3, h⟩ := ck_some h
        refine vr_iald (pc := 21) dX2_placesOf_21 hq1 hc3 ?_
        refine vr_iload_n (pc := 22) 0 dX2_placesOf_22 rfl rfl ?_
        refine vr_icmp_ne (pc := 23) 29 dX2_placesOf_23 (by decide) (fun c4 => ?_) (fun c4 => ?_)
        · rw [if_neg c4] at h
          refine vr_iinc (pc := 29) [(4, .int (x4 + 1)), (0, .int x0), (1, .ref (g.1 q1)), (2, .int x2), (3, .int x3)] 4 dX2_placesOf_29 rfl (congrArg (fun z => x4 + z) ci_1) (by decide) rfl ?_
          refine vr_goto (pc := 32) 5 dX2_placesOf_32 (by decide) ?_
          refine vr_sub [1, 2, 3, 4, 0] [(0, .int x0), (1, .ref (g.1 q1)), (2, .int x2), (3, .int x3), (4, .int (x4 + 1))] rfl ?_
          exact ih x0 q1 x2 x3 (x4 + 1) (hq1) h
        · rw [if_pos c4] at h
          refine vr_iinc (pc := 26) [(3, .int (x3 + 1)), (0, .int x0), (1, .ref (g.1 q1)), (2, .int x2), (4, .int x4)] 3 dX2_placesOf_26 rfl (congrArg (fun z => x3 + z) ci_1) (by decide) rfl ?_
          refine vr_iinc (pc := 29) [(4, .int (x4 + 1)), (3, .int (x3 + 1)), (0, .int x0), (1, .ref (g.1 q1)), (2, .int x2)] 4 dX2_placesOf_29 rfl (congrArg (fun z => x4 + z) ci_1) (by decide) rfl ?_
          refine vr_goto (pc := 32) 5 dX2_placesOf_32 (by decide) ?_
          refine vr_sub [2, 3, 4, 1, 0] [(0, .int x0), (1, .ref (g.1 q1)), (2, .int x2), (3, .int (x3 + 1)), (4, .int (x4 + 1))] rfl ?_
          exact ih x0 q1 x2 (x3 + 1) (x4 + 1) (hq1) h
set_option maxRecDepth 20000 in
set_option maxHeartbeats 4000000 in
theorem s_X2_placesOf (l : Launch) (g : GG) {a0 : Int32} {q1 : Nat} (hq1 : kd q1 = 9) {a2 : Int32} {σ : SS} {r : Int32} (h : f_X2_placesOf a0 q1 a2 σ = some r) : CT l g 0 yX2_placesOf cX2_placesOf 5 (some .int) [.int a0, .ref (g.1 q1), .int a2] σ (some (.int r), σ) := by
  refine CT.of (lv := [(0, .int a0), (1, .ref (g.1 q1)), (2, .int a2)]) RX2 (by decide +kernel) rfl (Nat.le_of_ble_eq_true rfl) rfl ?_
  unfold f_X2_placesOf at h
  refine vr_iconst (pc := 0) 0 dX2_placesOf_0 ci_0 ?_
  refine vr_istore_n (pc := 1) [(3, .int 0), (0, .int a0), (1, .ref (g.1 q1)), (2, .int a2)] dX2_placesOf_1 rfl (by decide) rfl ?_
  refine vr_iconst (pc := 2) 0 dX2_placesOf_2 ci_0 ?_
  refine vr_istore (pc := 3) [(4, .int 0), (3, .int 0), (0, .int a0), (1, .ref (g.1 q1)), (2, .int a2)] dX2_placesOf_3 (by decide) rfl ?_
  refine vr_sub [2, 3, 4, 1, 0] [(0, .int a0), (1, .ref (g.1 q1)), (2, .int a2), (3, .int 0), (4, .int 0)] rfl ?_
  refine v_X2_placesOf_L5 l g (fun y3 h => ?_) FU a0 q1 a2 0 0 (hq1) h
  refine vr_iload_n (pc := 35) 0 dX2_placesOf_35 rfl rfl ?_
  have h := Option.some.inj h; subst h
  exact vr_iret (pc := 36) .int dX2_placesOf_36 rfl rfl rfl
theorem dX2_seedBehind_0 : decode cX2_seedBehind 0 = .ok (.iload_n 0, 1) := by decide +kernel
theorem dX2_seedBehind_1 : decode cX2_seedBehind 1 = .ok (.ldc 19, 2) := by decide +kernel
theorem dX2_seedBehind_3 : decode cX2_seedBehind 3 = .ok (.imul, 1) := by decide +kernel
theorem dX2_seedBehind_4 : decode cX2_seedBehind 4 = .ok (.ldc 20, 2) := by decide +kernel
theorem dX2_seedBehind_6 : decode cX2_seedBehind 6 = .ok (.iadd, 1) := by decide +kernel
theorem dX2_seedBehind_7 : decode cX2_seedBehind 7 = .ok (.ireturn, 1) := by decide +kernel
set_option maxRecDepth 20000 in
set_option maxHeartbeats 4000000 in
theorem s_X2_seedBehind (l : Launch) (g : GG) {a0 : Int32} {σ : SS} {r : Int32} (h : f_X2_seedBehind a0 = r) : CT l g 0 yX2_seedBehind cX2_seedBehind 1 (some .int) [.int a0] σ (some (.int r), σ) := by
  refine CT.of (lv := [(0, .int a0)]) RX2 (by decide +kernel) rfl (Nat.le_of_ble_eq_true rfl) rfl ?_
  unfold f_X2_seedBehind at h
  refine vr_iload_n (pc := 0) 0 dX2_seedBehind_0 rfl rfl ?_
  refine vr_ldc (pc := 1) 1664525 dX2_seedBehind_1 co_X2_19 ?_
  refine vr_imul (pc := 3) dX2_seedBehind_3 ?_
  refine vr_ldc (pc := 4) 1013904223 dX2_seedBehind_4 co_X2_20 ?_
  refine vr_iadd (pc := 6) dX2_seedBehind_6 ?_
  subst h
  exact vr_iret (pc := 7) .int dX2_seedBehind_7 rfl rfl rfl
theorem dX2_drawn_0 : decode cX2_drawn 0 = .ok (.iload_n 0, 1) := by decide +kernel
theorem dX2_drawn_1 : decode cX2_drawn 1 = .ok (.ldc 21, 2) := by decide +kernel
theorem dX2_drawn_3 : decode cX2_drawn 3 = .ok (.iand, 1) := by decide +kernel
theorem dX2_drawn_4 : decode cX2_drawn 4 = .ok (.sipush 256, 3) := by decide +kernel
theorem dX2_drawn_7 : decode cX2_drawn 7 = .ok (.idiv, 1) := by decide +kernel
theorem dX2_drawn_8 : decode cX2_drawn 8 = .ok (.iload_n 1, 1) := by decide +kernel
theorem dX2_drawn_9 : decode cX2_drawn 9 = .ok (.invokestatic 22, 3) := by decide +kernel
theorem dX2_drawn_12 : decode cX2_drawn 12 = .ok (.ireturn, 1) := by decide +kernel
set_option maxRecDepth 20000 in
set_option maxHeartbeats 4000000 in
theorem s_X2_drawn (l : Launch) (g : GG) {a0 : Int32} {a1 : Int32} {σ : SS} {r : Int32} (h : f_X2_drawn a0 a1 = r) : CT l g 1 yX2_drawn cX2_drawn 2 (some .int) [.int a0, .int a1] σ (some (.int r), σ) := by
  refine CT.of (lv := [(0, .int a0), (1, .int a1)]) RX2 (by decide +kernel) rfl (Nat.le_of_ble_eq_true rfl) rfl ?_
  unfold f_X2_drawn at h
  refine vr_iload_n (pc := 0) 0 dX2_drawn_0 rfl rfl ?_
  refine vr_ldc (pc := 1) 2147483647 dX2_drawn_1 co_X2_21 ?_
  refine vr_iand (pc := 3) dX2_drawn_3 ?_
  refine vr_sipush (pc := 4) 256 dX2_drawn_4 cs_256 ?_
  refine vr_idiv (pc := 7) dX2_drawn_7 (by decide) ?_
  refine vr_iload_n (pc := 8) 1 dX2_drawn_8 rfl rfl ?_
  refine vr_callS (pc := 9) (ρ1 := (some (.int (f_X2_modulo ((a0 &&& 2147483647) / 256) a1)), σ)) [.int ((a0 &&& 2147483647) / 256), .int a1] dX2_drawn_9 (s_X2_modulo l g rfl) cw_X2_modulo ml_X2_22 (by decide) rfl rfl (Nat.le_of_ble_eq_true rfl) ?_
  subst h
  exact vr_iret (pc := 12) .int dX2_drawn_12 rfl rfl rfl
theorem dX7_become_0 : decode cX7_become 0 = .ok (.aload_n 0, 1) := by decide +kernel
theorem dX7_become_1 : decode cX7_become 1 = .ok (.aload_n 1, 1) := by decide +kernel
theorem dX7_become_2 : decode cX7_become 2 = .ok (.getfield 18, 3) := by decide +kernel
theorem dX7_become_5 : decode cX7_become 5 = .ok (.aload_n 1, 1) := by decide +kernel
theorem dX7_become_6 : decode cX7_become 6 = .ok (.getfield 9, 3) := by decide +kernel
theorem dX7_become_9 : decode cX7_become 9 = .ok (.aload_n 1, 1) := by decide +kernel
theorem dX7_become_10 : decode cX7_become 10 = .ok (.getfield 21, 3) := by decide +kernel
theorem dX7_become_13 : decode cX7_become 13 = .ok (.aload_n 1, 1) := by decide +kernel
theorem dX7_become_14 : decode cX7_become 14 = .ok (.getfield 24, 3) := by decide +kernel
theorem dX7_become_17 : decode cX7_become 17 = .ok (.aload_n 1, 1) := by decide +kernel
theorem dX7_become_18 : decode cX7_become 18 = .ok (.getfield 15, 3) := by decide +kernel
theorem dX7_become_21 : decode cX7_become 21 = .ok (.invokevirtual 30, 3) := by decide +kernel
theorem dX7_become_24 : decode cX7_become 24 = .ok (.aload_n 0, 1) := by decide +kernel
theorem dX7_become_25 : decode cX7_become 25 = .ok (.aload_n 1, 1) := by decide +kernel
theorem dX7_become_26 : decode cX7_become 26 = .ok (.getfield 27, 3) := by decide +kernel
theorem dX7_become_29 : decode cX7_become 29 = .ok (.putfield 27, 3) := by decide +kernel
theorem dX7_become_32 : decode cX7_become 32 = .ok (.return_, 1) := by decide +kernel
set_option maxRecDepth 20000 in
set_option maxHeartbeats 4000000 in
theorem s_X7_become (l : Launch) (g : GG) {q0 : Nat} (hq0 : kd q0 = 6) {q1 : Nat} (hq1 : kd q1 = 6) {σ : SS} {r : SS} (h : f_X7_become q0 q1 σ = some r) : CT l g 1 yX7_become cX7_become 2 none [.ref (g.1 q0), .ref (g.1 q1)] σ (none, r) := by
  refine CT.of (lv := [(0, .ref (g.1 q0)), (1, .ref (g.1 q1))]) RX7 (by decide +kernel) rfl (Nat.le_of_ble_eq_true rfl) rfl ?_
  unfold f_X7_become at h
  refine vr_aload_n (pc := 0) 0 dX7_become_0 rfl rfl ?_
  refine vr_aload_n (pc := 1) 1 dX7_become_1 rfl rfl ?_
  refine vr_getI (pc := 2) 0 dX7_become_2 fi_X7_18 hq1 (sh_6_0 hq1) ?_
  refine vr_aload_n (pc := 5) 1 dX7_become_5 rfl rfl ?_
  refine vr_getI (pc := 6) 1 dX7_become_6 fi_X7_9 hq1 (sh_6_1 hq1) ?_
  refine vr_aload_n (pc := 9) 1 dX7_become_9 rfl rfl ?_
  refine vr_getI (pc := 10) 2 dX7_become_10 fi_X7_21 hq1 (sh_6_2 hq1) ?_
  refine vr_aload_n (pc := 13) 1 dX7_become_13 rfl rfl ?_
  refine vr_getI (pc := 14) 4 dX7_become_14 fi_X7_24 hq1 (sh_6_4 hq1) ?_
  refine vr_aload_n (pc := 17) 1 dX7_become_17 rfl rfl ?_
  refine vr_getI (pc := 18) 3 dX7_become_18 fi_X7_15 hq1 (sh_6_3 hq1) ?_
  obtain ⟨z1, hz2, h⟩ := ob_some h
  refine vr_callV (pc := 21) (ρ1 := (none, z1)) [.int (σ.1 q1 0), .int (σ.1 q1 1), .int (σ.1 q1 2), .int (σ.1 q1 4), .int (σ.1 q1 3)] dX7_become_21 (s_X7_set l g (hq0) hz2) cw_X7_set ml_X7_30 hq0 rfl (by decide) (by decide) rfl rfl (Nat.le_of_ble_eq_true rfl) ?_
  refine vr_aload_n (pc := 24) 0 dX7_become_24 rfl rfl ?_
  refine vr_aload_n (pc := 25) 1 dX7_become_25 rfl rfl ?_
  refine vr_getI (pc := 26) 5 dX7_become_26 fi_X7_27 hq1 (sh_6_5 hq1) ?_
  refine vr_putI (pc := 29) 5 dX7_become_29 fi_X7_27 (fw_6_5 _) hq0 (sh_6_5 hq0) ?_
  have h := Option.some.inj h; subst h
  exact vr_vret (pc := 32) dX7_become_32 rfl rfl
theorem dX4_become_0 : decode cX4_become 0 = .ok (.aload_n 0, 1) := by decide +kernel
theorem dX4_become_1 : decode cX4_become 1 = .ok (.aload_n 1, 1) := by decide +kernel
theorem dX4_become_2 : decode cX4_become 2 = .ok (.getfield 9, 3) := by decide +kernel
theorem dX4_become_5 : decode cX4_become 5 = .ok (.putfield 9, 3) := by decide +kernel
theorem dX4_become_8 : decode cX4_become 8 = .ok (.aload_n 0, 1) := by decide +kernel
theorem dX4_become_9 : decode cX4_become 9 = .ok (.aload_n 1, 1) := by decide +kernel
theorem dX4_become_10 : decode cX4_become 10 = .ok (.getfield 29, 3) := by decide +kernel
theorem dX4_become_13 : decode cX4_become 13 = .ok (.putfield 29, 3) := by decide +kernel
theorem dX4_become_16 : decode cX4_become 16 = .ok (.aload_n 1, 1) := by decide +kernel
theorem dX4_become_17 : decode cX4_become 17 = .ok (.getfield 15, 3) := by decide +kernel
theorem dX4_become_20 : decode cX4_become 20 = .ok (.iconst 0, 1) := by decide +kernel
theorem dX4_become_21 : decode cX4_become 21 = .ok (.aload_n 0, 1) := by decide +kernel
theorem dX4_become_22 : decode cX4_become 22 = .ok (.getfield 15, 3) := by decide +kernel
theorem dX4_become_25 : decode cX4_become 25 = .ok (.iconst 0, 1) := by decide +kernel
theorem dX4_become_26 : decode cX4_become 26 = .ok (.bipush 60, 2) := by decide +kernel
theorem dX4_become_28 : decode cX4_become 28 = .ok (.invokestatic 32, 3) := by decide +kernel
theorem dX4_become_31 : decode cX4_become 31 = .ok (.aload_n 1, 1) := by decide +kernel
theorem dX4_become_32 : decode cX4_become 32 = .ok (.getfield 19, 3) := by decide +kernel
theorem dX4_become_35 : decode cX4_become 35 = .ok (.iconst 0, 1) := by decide +kernel
theorem dX4_become_36 : decode cX4_become 36 = .ok (.aload_n 0, 1) := by decide +kernel
theorem dX4_become_37 : decode cX4_become 37 = .ok (.getfield 19, 3) := by decide +kernel
theorem dX4_become_40 : decode cX4_become 40 = .ok (.iconst 0, 1) := by decide +kernel
theorem dX4_become_41 : decode cX4_become 41 = .ok (.bipush 60, 2) := by decide +kernel
theorem dX4_become_43 : decode cX4_become 43 = .ok (.invokestatic 32, 3) := by decide +kernel
theorem dX4_become_46 : decode cX4_become 46 = .ok (.iconst 0, 1) := by decide +kernel
theorem dX4_become_47 : decode cX4_become 47 = .ok (.istore_n 2, 1) := by decide +kernel
theorem dX4_become_48 : decode cX4_become 48 = .ok (.iload_n 2, 1) := by decide +kernel
theorem dX4_become_49 : decode cX4_become 49 = .ok (.bipush 6, 2) := by decide +kernel
theorem dX4_become_51 : decode cX4_become 51 = .ok (.if_icmp .ge 24, 3) := by decide +kernel
theorem dX4_become_54 : decode cX4_become 54 = .ok (.aload_n 0, 1) := by decide +kernel
theorem dX4_become_55 : decode cX4_become 55 = .ok (.getfield 24, 3) := by decide +kernel
theorem dX4_become_58 : decode cX4_become 58 = .ok (.iload_n 2, 1) := by decide +kernel
theorem dX4_become_59 : decode cX4_become 59 = .ok (.aaload, 1) := by decide +kernel
theorem dX4_become_60 : decode cX4_become 60 = .ok (.aload_n 1, 1) := by decide +kernel
theorem dX4_become_61 : decode cX4_become 61 = .ok (.getfield 24, 3) := by decide +kernel
theorem dX4_become_64 : decode cX4_become 64 = .ok (.iload_n 2, 1) := by decide +kernel
theorem dX4_become_65 : decode cX4_become 65 = .ok (.aaload, 1) := by decide +kernel
theorem dX4_become_66 : decode cX4_become 66 = .ok (.invokevirtual 38, 3) := by decide +kernel
theorem dX4_become_69 : decode cX4_become 69 = .ok (.iinc 2 1, 3) := by decide +kernel
theorem dX4_become_72 : decode cX4_become 72 = .ok (.goto (-24), 3) := by decide +kernel
theorem dX4_become_75 : decode cX4_become 75 = .ok (.return_, 1) := by decide +kernel
set_option maxRecDepth 20000 in
set_option maxHeartbeats 4000000 in
theorem v_X4_become_L48 (l : Launch) (g : GG) {r : SS} {κ : SS → Option SS} (hκ : ∀ (τ : SS) , κ  τ = some r → VV l g 2 RX4 cX4_become 3 none (none, r) 75 [] [] τ) : ∀ (fu : Nat) (q0 : Nat) (q1 : Nat) (x2 : Int32) (hq0 : kd q0 = 3) (hq1 : kd q1 = 3) (σ : SS), f_X4_become_L48 κ fu q0 q1 x2 σ = some r → VV l g 2 RX4 cX4_become 3 none (none, r) 48 [(0, .ref (g.1 q0)), (1, .ref (g.1 q1)), (2, .int x2)] [] σ := by
  intro fu
  induction fu with
  | zero => intro q0 q1 x2 hq0 hq1 σ h; cases h
  | succ fu ih =>
    intro q0 q1 x2 hq0 hq1 σ h
    simp only [f_X4_become_L48] at h
    refine vr_iload_n (pc := 48) 2 dX4_become_48 rfl rfl ?_
    refine vr_bipush (pc := 49) 6 dX4_become_49 cb_6 ?_
    refine vr_icmp_ge (pc := 51) 75 dX4_become_51 (by decide) (fun c3 => ?_) (fun c3 => ?_)
    · rw [if_pos c3] at h
      refine vr_sub [] [] rfl ?_
      exact hκ σ h
    · rw [if_neg c3] at h
      refine vr_aload_n (pc := 54) 0 dX4_become_54 rfl rfl ?_
      refine vr_getR (pc := 55) 4 dX4_become_55 fi_X4_24 hq0 (sh_3_4 hq0).1 ?_
      refine vr_iload_n (pc := 58) 2 dX4_become_58 rfl rfl ?_
      obtain ⟨hc4, h⟩ := ck_some h
      refine vr_aald (pc := 59) dX4_become_59 (sh_3_4 hq0).2 (by decide) hc4 (sha_13 (sh_3_4 hq0).2 (lt_ck hc4)).1 ?_
      refine vr_aload_n (pc := 60) 1 dX4_become_60 rfl rfl ?_
      refine vr_getR (pc := 61) 4 dX4_become_61 fi_X4_24 hq1 (sh_3_4 hq1).1 ?_
      refine vr_iload_n (pc := 64) 2 dX4_become_64 rfl rfl ?_
      obtain ⟨hc5, h⟩ := ck_some h
      refine vr_aald (pc := 65) dX4_become_65 (sh_3_4 hq1).2 (by decide) hc5 (sha_13 (sh_3_4 hq1).2 (lt_ck hc5)).1 ?_
      obtain ⟨z6, hz7, h⟩ := ob_some h
      refine vr_callV (pc := 66) (ρ1 := (none, z6)) [.ref (g.1 (rid (rid q1 4) x2.toNatClampNeg))] dX4_become_66 (s_X7_become l g (sha_13 (sh_3_4 hq0).2 (lt_ck hc4)).2 (sha_13 (sh_3_4 hq1).2 (lt_ck hc5)).2 hz7) cw_X7_become ml_X4_38 (sha_13 (sh_3_4 hq0).2 (lt_ck hc4)).2 rfl (by decide) (by decide) rfl rfl (Nat.le_of_ble_eq_true rfl) ?_
      refine vr_iinc (pc := 69) [(2, .int (x2 + 1)), (0, .ref (g.1 q0)), (1, .ref (g.1 q1))] 2 dX4_become_69 rfl (congrArg (fun z => x2 + z) ci_1) (by decide) rfl ?_
      refine vr_goto (pc := 72) 48 dX4_become_72 (by decide) ?_
      refine vr_sub [1, 2, 0] [(0, .ref (g.1 q0)), (1, .ref (g.1 q1)), (2, .int (x2 + 1))] rfl ?_
      exact ih q0 q1 (x2 + 1) (hq0) (hq1) z6 h
set_option maxRecDepth 20000 in
set_option maxHeartbeats 4000000 in
theorem s_X4_become (l : Launch) (g : GG) {q0 : Nat} (hq0 : kd q0 = 3) {q1 : Nat} (hq1 : kd q1 = 3) {σ : SS} {r : SS} (h : f_X4_become q0 q1 σ = some r) : CT l g 2 yX4_become cX4_become 3 none [.ref (g.1 q0), .ref (g.1 q1)] σ (none, r) := by
  refine CT.of (lv := [(0, .ref (g.1 q0)), (1, .ref (g.1 q1))]) RX4 (by decide +kernel) rfl (Nat.le_of_ble_eq_true rfl) rfl ?_
  unfold f_X4_become at h
  refine vr_aload_n (pc := 0) 0 dX4_become_0 rfl rfl ?_
  refine vr_aload_n (pc := 1) 1 dX4_become_1 rfl rfl ?_
  refine vr_getI (pc := 2) 0 dX4_become_2 fi_X4_9 hq1 (sh_3_0 hq1) ?_
  refine vr_putI (pc := 5) 0 dX4_become_5 fi_X4_9 (fw_3_0 _) hq0 (sh_3_0 hq0) ?_
  refine vr_aload_n (pc := 8) 0 dX4_become_8 rfl rfl ?_
  refine vr_aload_n (pc := 9) 1 dX4_become_9 rfl rfl ?_
  refine vr_getI (pc := 10) 1 dX4_become_10 fi_X4_29 hq1 (sh_3_1 hq1) ?_
  refine vr_putI (pc := 13) 1 dX4_become_13 fi_X4_29 (fw_3_1 _) hq0 (sh_3_1 hq0) ?_
  refine vr_aload_n (pc := 16) 1 dX4_become_16 rfl rfl ?_
  refine vr_getR (pc := 17) 2 dX4_become_17 fi_X4_15 hq1 (sh_3_2 hq1).1 ?_
  refine vr_iconst (pc := 20) 0 dX4_become_20 ci_0 ?_
  refine vr_aload_n (pc := 21) 0 dX4_become_21 rfl rfl ?_
  refine vr_getR (pc := 22) 2 dX4_become_22 fi_X4_15 hq0 (sh_3_2 hq0).1 ?_
  refine vr_iconst (pc := 25) 0 dX4_become_25 ci_0 ?_
  refine vr_bipush (pc := 26) 60 dX4_become_26 cb_60 ?_
  obtain ⟨hc1, h⟩ := ck_some h
  refine vr_copy (pc := 28) dX4_become_28 ml_X4_32 wcopy (sh_3_2 hq1).2 (sh_3_2 hq0).2 hc1 (by decide) (by decide) ?_
  refine vr_aload_n (pc := 31) 1 dX4_become_31 rfl rfl ?_
  refine vr_getR (pc := 32) 3 dX4_become_32 fi_X4_19 hq1 (sh_3_3 hq1).1 ?_
  refine vr_iconst (pc := 35) 0 dX4_become_35 ci_0 ?_
  refine vr_aload_n (pc := 36) 0 dX4_become_36 rfl rfl ?_
  refine vr_getR (pc := 37) 3 dX4_become_37 fi_X4_19 hq0 (sh_3_3 hq0).1 ?_
  refine vr_iconst (pc := 40) 0 dX4_become_40 ci_0 ?_
  refine vr_bipush (pc := 41) 60 dX4_become_41 cb_60 ?_
  obtain ⟨hc2, h⟩ := ck_some h
  refine vr_copy (pc := 43) dX4_become_43 ml_X4_32 wcopy (sh_3_3 hq1).2 (sh_3_3 hq0).2 hc2 (by decide) (by decide) ?_
  refine vr_iconst (pc := 46) 0 dX4_become_46 ci_0 ?_
  refine vr_istore_n (pc := 47) [(2, .int 0), (0, .ref (g.1 q0)), (1, .ref (g.1 q1))] dX4_become_47 rfl (by decide) rfl ?_
  refine vr_sub [1, 2, 0] [(0, .ref (g.1 q0)), (1, .ref (g.1 q1)), (2, .int 0)] rfl ?_
  refine v_X4_become_L48 l g (fun τ h => ?_) FU q0 q1 0 (hq0) (hq1) (sC (sC (sI (sI σ q0 0 (σ.1 q1 0)) q0 1 ((sI σ q0 0 (σ.1 q1 0)).1 q1 1)) (rid q0 2) (va_cpy ((sI (sI σ q0 0 (σ.1 q1 0)) q0 1 ((sI σ q0 0 (σ.1 q1 0)).1 q1 1)).1 (rid q1 2)) ((sI (sI σ q0 0 (σ.1 q1 0)) q0 1 ((sI σ q0 0 (σ.1 q1 0)).1 q1 1)).1 (rid q0 2)) (0 : Int32).toNatClampNeg (0 : Int32).toNatClampNeg (60 : Int32).toNatClampNeg)) (rid q0 3) (va_cpy ((sC (sI (sI σ q0 0 (σ.1 q1 0)) q0 1 ((sI σ q0 0 (σ.1 q1 0)).1 q1 1)) (rid q0 2) (va_cpy ((sI (sI σ q0 0 (σ.1 q1 0)) q0 1 ((sI σ q0 0 (σ.1 q1 0)).1 q1 1)).1 (rid q1 2)) ((sI (sI σ q0 0 (σ.1 q1 0)) q0 1 ((sI σ q0 0 (σ.1 q1 0)).1 q1 1)).1 (rid q0 2)) (0 : Int32).toNatClampNeg (0 : Int32).toNatClampNeg (60 : Int32).toNatClampNeg)).1 (rid q1 3)) ((sC (sI (sI σ q0 0 (σ.1 q1 0)) q0 1 ((sI σ q0 0 (σ.1 q1 0)).1 q1 1)) (rid q0 2) (va_cpy ((sI (sI σ q0 0 (σ.1 q1 0)) q0 1 ((sI σ q0 0 (σ.1 q1 0)).1 q1 1)).1 (rid q1 2)) ((sI (sI σ q0 0 (σ.1 q1 0)) q0 1 ((sI σ q0 0 (σ.1 q1 0)).1 q1 1)).1 (rid q0 2)) (0 : Int32).toNatClampNeg (0 : Int32).toNatClampNeg (60 : Int32).toNatClampNeg)).1 (rid q0 3)) (0 : Int32).toNatClampNeg (0 : Int32).toNatClampNeg (60 : Int32).toNatClampNeg)) h
  have h := Option.some.inj h; subst h
  exact vr_vret (pc := 75) dX4_become_75 rfl rfl
theorem dX4_isSet_0 : decode cX4_isSet 0 = .ok (.iload_n 1, 1) := by decide +kernel
theorem dX4_isSet_1 : decode cX4_isSet 1 = .ok (.iconst 1, 1) := by decide +kernel
theorem dX4_isSet_2 : decode cX4_isSet 2 = .ok (.if_icmp .lt 17, 3) := by decide +kernel
theorem dX4_isSet_5 : decode cX4_isSet 5 = .ok (.iload_n 1, 1) := by decide +kernel
theorem dX4_isSet_6 : decode cX4_isSet 6 = .ok (.iconst 1, 1) := by decide +kernel
theorem dX4_isSet_7 : decode cX4_isSet 7 = .ok (.aload_n 0, 1) := by decide +kernel
theorem dX4_isSet_8 : decode cX4_isSet 8 = .ok (.getfield 29, 3) := by decide +kernel
theorem dX4_isSet_11 : decode cX4_isSet 11 = .ok (.ishl, 1) := by decide +kernel
theorem dX4_isSet_12 : decode cX4_isSet 12 = .ok (.if_icmp .ge 7, 3) := by decide +kernel
theorem dX4_isSet_15 : decode cX4_isSet 15 = .ok (.iconst 1, 1) := by decide +kernel
theorem dX4_isSet_16 : decode cX4_isSet 16 = .ok (.goto 4, 3) := by decide +kernel
theorem dX4_isSet_19 : decode cX4_isSet 19 = .ok (.iconst 0, 1) := by decide +kernel
theorem dX4_isSet_20 : decode cX4_isSet 20 = .ok (.ireturn, 1) := by decide +kernel
set_option maxRecDepth 20000 in
set_option maxHeartbeats 4000000 in
theorem s_X4_isSet (l : Launch) (g : GG) {q0 : Nat} (hq0 : kd q0 = 3) {a1 : Int32} {σ : SS} {r : Int32} (h : f_X4_isSet q0 a1 σ = r) : CT l g 0 yX4_isSet cX4_isSet 2 (some .boolean) [.ref (g.1 q0), .int a1] σ (some (.int r), σ) := by
  refine CT.of (lv := [(0, .ref (g.1 q0)), (1, .int a1)]) RX4 (by decide +kernel) rfl (Nat.le_of_ble_eq_true rfl) rfl ?_
  unfold f_X4_isSet at h
  refine vr_iload_n (pc := 0) 1 dX4_isSet_0 rfl rfl ?_
  refine vr_iconst (pc := 1) 1 dX4_isSet_1 ci_1 ?_
  refine vr_icmp_lt (pc := 2) 19 dX4_isSet_2 (by decide) (fun c1 => ?_) (fun c1 => ?_)
  · rw [if_pos c1] at h
    refine vr_iconst (pc := 19) 0 dX4_isSet_19 ci_0 ?_
    subst h
    exact vr_iret (pc := 20) .boolean dX4_isSet_20 rfl rfl rfl
  · rw [if_neg c1] at h
    refine vr_iload_n (pc := 5) 1 dX4_isSet_5 rfl rfl ?_
    refine vr_iconst (pc := 6) 1 dX4_isSet_6 ci_1 ?_
    refine vr_aload_n (pc := 7) 0 dX4_isSet_7 rfl rfl ?_
    refine vr_getI (pc := 8) 1 dX4_isSet_8 fi_X4_29 hq0 (sh_3_1 hq0) ?_
    refine vr_ishl (pc := 11) dX4_isSet_11 ?_
    refine vr_icmp_ge (pc := 12) 19 dX4_isSet_12 (by decide) (fun c2 => ?_) (fun c2 => ?_)
    · rw [if_pos c2] at h
      refine vr_iconst (pc := 19) 0 dX4_isSet_19 ci_0 ?_
      subst h
      exact vr_iret (pc := 20) .boolean dX4_isSet_20 rfl rfl rfl
    · rw [if_neg c2] at h
      refine vr_iconst (pc := 15) 1 dX4_isSet_15 ci_1 ?_
      refine vr_goto (pc := 16) 20 dX4_isSet_16 (by decide) ?_
      subst h
      exact vr_iret (pc := 20) .boolean dX4_isSet_20 rfl rfl rfl
theorem dX4_inkedTeeth_0 : decode cX4_inkedTeeth 0 = .ok (.aload_n 0, 1) := by decide +kernel
theorem dX4_inkedTeeth_1 : decode cX4_inkedTeeth 1 = .ok (.getfield 9, 3) := by decide +kernel
theorem dX4_inkedTeeth_4 : decode cX4_inkedTeeth 4 = .ok (.iconst 0, 1) := by decide +kernel
theorem dX4_inkedTeeth_5 : decode cX4_inkedTeeth 5 = .ok (.aload_n 0, 1) := by decide +kernel
theorem dX4_inkedTeeth_6 : decode cX4_inkedTeeth 6 = .ok (.getfield 15, 3) := by decide +kernel
theorem dX4_inkedTeeth_9 : decode cX4_inkedTeeth 9 = .ok (.aload_n 0, 1) := by decide +kernel
theorem dX4_inkedTeeth_10 : decode cX4_inkedTeeth 10 = .ok (.getfield 9, 3) := by decide +kernel
theorem dX4_inkedTeeth_13 : decode cX4_inkedTeeth 13 = .ok (.invokestatic 96, 3) := by decide +kernel
theorem dX4_inkedTeeth_16 : decode cX4_inkedTeeth 16 = .ok (.isub, 1) := by decide +kernel
theorem dX4_inkedTeeth_17 : decode cX4_inkedTeeth 17 = .ok (.ireturn, 1) := by decide +kernel
set_option maxRecDepth 20000 in
set_option maxHeartbeats 4000000 in
theorem s_X4_inkedTeeth (l : Launch) (g : GG) {q0 : Nat} (hq0 : kd q0 = 3) {σ : SS} {r : Int32} (h : f_X4_inkedTeeth q0 σ = some r) : CT l g 1 yX4_inkedTeeth cX4_inkedTeeth 1 (some .int) [.ref (g.1 q0)] σ (some (.int r), σ) := by
  refine CT.of (lv := [(0, .ref (g.1 q0))]) RX4 (by decide +kernel) rfl (Nat.le_of_ble_eq_true rfl) rfl ?_
  unfold f_X4_inkedTeeth at h
  refine vr_aload_n (pc := 0) 0 dX4_inkedTeeth_0 rfl rfl ?_
  refine vr_getI (pc := 1) 0 dX4_inkedTeeth_1 fi_X4_9 hq0 (sh_3_0 hq0) ?_
  refine vr_iconst (pc := 4) 0 dX4_inkedTeeth_4 ci_0 ?_
  refine vr_aload_n (pc := 5) 0 dX4_inkedTeeth_5 rfl rfl ?_
  refine vr_getR (pc := 6) 2 dX4_inkedTeeth_6 fi_X4_15 hq0 (sh_3_2 hq0).1 ?_
  refine vr_aload_n (pc := 9) 0 dX4_inkedTeeth_9 rfl rfl ?_
  refine vr_getI (pc := 10) 0 dX4_inkedTeeth_10 fi_X4_9 hq0 (sh_3_0 hq0) ?_
  obtain ⟨z1, hz2, h⟩ := ob_some h
  refine vr_callS (pc := 13) (ρ1 := (some (.int z1), σ)) [.int 0, .ref (g.1 (rid q0 2)), .int (σ.1 q0 0)] dX4_inkedTeeth_13 (s_X2_placesOf l g (sh_3_2 hq0).2 hz2) cw_X2_placesOf ml_X4_96 (by decide) rfl rfl (Nat.le_of_ble_eq_true rfl) ?_
  refine vr_isub (pc := 16) dX4_inkedTeeth_16 ?_
  have h := Option.some.inj h; subst h
  exact vr_iret (pc := 17) .int dX4_inkedTeeth_17 rfl rfl rfl
theorem dX4_inkedFrom_0 : decode cX4_inkedFrom 0 = .ok (.iload_n 1, 1) := by decide +kernel
theorem dX4_inkedFrom_1 : decode cX4_inkedFrom 1 = .ok (.iconst 0, 1) := by decide +kernel
theorem dX4_inkedFrom_2 : decode cX4_inkedFrom 2 = .ok (.invokestatic 100, 3) := by decide +kernel
theorem dX4_inkedFrom_5 : decode cX4_inkedFrom 5 = .ok (.istore_n 2, 1) := by decide +kernel
theorem dX4_inkedFrom_6 : decode cX4_inkedFrom 6 = .ok (.iload_n 2, 1) := by decide +kernel
theorem dX4_inkedFrom_7 : decode cX4_inkedFrom 7 = .ok (.aload_n 0, 1) := by decide +kernel
theorem dX4_inkedFrom_8 : decode cX4_inkedFrom 8 = .ok (.getfield 9, 3) := by decide +kernel
theorem dX4_inkedFrom_11 : decode cX4_inkedFrom 11 = .ok (.if_icmp .ge 20, 3) := by decide +kernel
theorem dX4_inkedFrom_14 : decode cX4_inkedFrom 14 = .ok (.aload_n 0, 1) := by decide +kernel
theorem dX4_inkedFrom_15 : decode cX4_inkedFrom 15 = .ok (.getfield 15, 3) := by decide +kernel
theorem dX4_inkedFrom_18 : decode cX4_inkedFrom 18 = .ok (.iload_n 2, 1) := by decide +kernel
theorem dX4_inkedFrom_19 : decode cX4_inkedFrom 19 = .ok (.iaload, 1) := by decide +kernel
theorem dX4_inkedFrom_20 : decode cX4_inkedFrom 20 = .ok (.ifCond .le 5, 3) := by decide +kernel
theorem dX4_inkedFrom_23 : decode cX4_inkedFrom 23 = .ok (.iload_n 2, 1) := by decide +kernel
theorem dX4_inkedFrom_24 : decode cX4_inkedFrom 24 = .ok (.ireturn, 1) := by decide +kernel
theorem dX4_inkedFrom_25 : decode cX4_inkedFrom 25 = .ok (.iinc 2 1, 3) := by decide +kernel
theorem dX4_inkedFrom_28 : decode cX4_inkedFrom 28 = .ok (.goto (-22), 3) := by decide +kernel
theorem dX4_inkedFrom_31 : decode cX4_inkedFrom 31 = .ok (.bipush (-9), 2) := by decide +kernel
theorem dX4_inkedFrom_33 : decode cX4_inkedFrom 33 = .ok (.ireturn, 1) := by decide +kernel
set_option maxRecDepth 20000 in
set_option maxHeartbeats 4000000 in
theorem v_X4_inkedFrom_L6 (l : Launch) (g : GG) {r : Int32} {σ : SS} {κ : Unit → Option Int32} (hκ : κ () = some r → VV l g 1 RX4 cX4_inkedFrom 3 (some .int) (some (.int r), σ) 31 [] [] σ) : ∀ (fu : Nat) (q0 : Nat) (x2 : Int32) (hq0 : kd q0 = 3), f_X4_inkedFrom_L6 σ κ fu q0 x2 = some r → VV l g 1 RX4 cX4_inkedFrom 3 (some .int) (some (.int r), σ) 6 [(0, .ref (g.1 q0)), (2, .int x2)] [] σ := by
  intro fu
  induction fu with
  | zero => intro q0 x2 hq0 h; cases h
  | succ fu ih =>
    intro q0 x2 hq0 h
    simp only [f_X4_inkedFrom_L6] at h
    refine vr_iload_n (pc := 6) 1 dX4_inkedFrom_6 rfl rfl ?_
    refine vr_aload_n (pc := 7) 0 dX4_inkedFrom_7 rfl rfl ?_
    refine vr_getI (pc := 8) 0 dX4_inkedFrom_8 fi_X4_9 hq0 (sh_3_0 hq0) ?_
    refine vr_icmp_ge (pc := 11) 31 dX4_inkedFrom_11 (by decide) (fun c1 => ?_) (fun c1 => ?_)
    · rw [if_pos c1] at h
      refine vr_sub [] [] rfl ?_
      exact hκ h
    · rw [if_neg c1] at h
      refine vr_aload_n (pc := 14) 0 dX4_inkedFrom_14 rfl rfl ?_
      refine vr_getR (pc := 15) 2 dX4_inkedFrom_15 fi_X4_15 hq0 (sh_3_2 hq0).1 ?_
      refine vr_iload_n (pc := 18) 1 dX4_inkedFrom_18 rfl rfl ?_
      obtain ⟨hc2, h⟩ := ck_some h
      refine vr_iald (pc := 19) dX4_inkedFrom_19 (sh_3_2 hq0).2 hc2 ?_
      refine vr_if_le (pc := 20) 25 dX4_inkedFrom_20 (by decide) (fun c3 => ?_) (fun c3 => ?_)
      · rw [if_pos c3] at h
        refine vr_iinc (pc := 25) [(2, .int (x2 + 1)), (0, .ref (g.1 q0))] 1 dX4_inkedFrom_25 rfl (congrArg (fun z => x2 + z) ci_1) (by decide) rfl ?_
        refine vr_goto (pc := 28) 6 dX4_inkedFrom_28 (by decide) ?_
        refine vr_sub [1, 0] [(0, .ref (g.1 q0)), (2, .int (x2 + 1))] rfl ?_
        exact ih q0 (x2 + 1) (hq0) h
      · rw [if_neg c3] at h
        refine vr_iload_n (pc := 23) 1 dX4_inkedFrom_23 rfl rfl ?_
        have h := Option.some.inj h; subst h
        exact vr_iret (pc := 24) .int dX4_inkedFrom_24 rfl rfl rfl
set_option maxRecDepth 20000 in
set_option maxHeartbeats 4000000 in
theorem s_X4_inkedFrom (l : Launch) (g : GG) {q0 : Nat} (hq0 : kd q0 = 3) {a1 : Int32} {σ : SS} {r : Int32} (h : f_X4_inkedFrom q0 a1 σ = some r) : CT l g 1 yX4_inkedFrom cX4_inkedFrom 3 (some .int) [.ref (g.1 q0), .int a1] σ (some (.int r), σ) := by
  refine CT.of (lv := [(0, .ref (g.1 q0)), (1, .int a1)]) RX4 (by decide +kernel) rfl (Nat.le_of_ble_eq_true rfl) rfl ?_
  unfold f_X4_inkedFrom at h
  refine vr_iload_n (pc := 0) 1 dX4_inkedFrom_0 rfl rfl ?_
  refine vr_iconst (pc := 1) 0 dX4_inkedFrom_1 ci_0 ?_
  refine vr_mmax (pc := 2) dX4_inkedFrom_2 ml_X4_100 (by decide) (Nat.le_of_ble_eq_true rfl) ?_
  refine vr_istore_n (pc := 5) [(2, .int (f_J9_max_7cf53 a1 0)), (0, .ref (g.1 q0)), (1, .int a1)] dX4_inkedFrom_5 rfl (by decide) rfl ?_
  refine vr_sub [1, 0] [(0, .ref (g.1 q0)), (2, .int (f_J9_max_7cf53 a1 0))] rfl ?_
  refine v_X4_inkedFrom_L6 l g (fun h => ?_) FU q0 (f_J9_max_7cf53 a1 0) (hq0) h
  refine vr_bipush (pc := 31) (-9) dX4_inkedFrom_31 cb_m9 ?_
  have h := Option.some.inj h; subst h
  exact vr_iret (pc := 33) .int dX4_inkedFrom_33 rfl rfl rfl
theorem dX4_lastInked_0 : decode cX4_lastInked 0 = .ok (.aload_n 0, 1) := by decide +kernel
theorem dX4_lastInked_1 : decode cX4_lastInked 1 = .ok (.getfield 9, 3) := by decide +kernel
theorem dX4_lastInked_4 : decode cX4_lastInked 4 = .ok (.iconst 1, 1) := by decide +kernel
theorem dX4_lastInked_5 : decode cX4_lastInked 5 = .ok (.isub, 1) := by decide +kernel
theorem dX4_lastInked_6 : decode cX4_lastInked 6 = .ok (.istore_n 1, 1) := by decide +kernel
theorem dX4_lastInked_7 : decode cX4_lastInked 7 = .ok (.iload_n 1, 1) := by decide +kernel
theorem dX4_lastInked_8 : decode cX4_lastInked 8 = .ok (.ifCond .lt 20, 3) := by decide +kernel
theorem dX4_lastInked_11 : decode cX4_lastInked 11 = .ok (.aload_n 0, 1) := by decide +kernel
theorem dX4_lastInked_12 : decode cX4_lastInked 12 = .ok (.getfield 15, 3) := by decide +kernel
theorem dX4_lastInked_15 : decode cX4_lastInked 15 = .ok (.iload_n 1, 1) := by decide +kernel
theorem dX4_lastInked_16 : decode cX4_lastInked 16 = .ok (.iaload, 1) := by decide +kernel
theorem dX4_lastInked_17 : decode cX4_lastInked 17 = .ok (.ifCond .le 5, 3) := by decide +kernel
theorem dX4_lastInked_20 : decode cX4_lastInked 20 = .ok (.iload_n 1, 1) := by decide +kernel
theorem dX4_lastInked_21 : decode cX4_lastInked 21 = .ok (.ireturn, 1) := by decide +kernel
theorem dX4_lastInked_22 : decode cX4_lastInked 22 = .ok (.iinc 1 (-1), 3) := by decide +kernel
theorem dX4_lastInked_25 : decode cX4_lastInked 25 = .ok (.goto (-18), 3) := by decide +kernel
theorem dX4_lastInked_28 : decode cX4_lastInked 28 = .ok (.bipush (-9), 2) := by decide +kernel
theorem dX4_lastInked_30 : decode cX4_lastInked 30 = .ok (.ireturn, 1) := by decide +kernel
set_option maxRecDepth 20000 in
set_option maxHeartbeats 4000000 in
theorem v_X4_lastInked_L7 (l : Launch) (g : GG) {r : Int32} {σ : SS} {κ : Unit → Option Int32} (hκ : κ () = some r → VV l g 0 RX4 cX4_lastInked 2 (some .int) (some (.int r), σ) 28 [] [] σ) : ∀ (fu : Nat) (q0 : Nat) (x1 : Int32) (hq0 : kd q0 = 3), f_X4_lastInked_L7 σ κ fu q0 x1 = some r → VV l g 0 RX4 cX4_lastInked 2 (some .int) (some (.int r), σ) 7 [(0, .ref (g.1 q0)), (1, .int x1)] [] σ := by
  intro fu
  induction fu with
  | zero => intro q0 x1 hq0 h; cases h
  | succ fu ih =>
    intro q0 x1 hq0 h
    simp only [f_X4_lastInked_L7] at h
    refine vr_iload_n (pc := 7) 1 dX4_lastInked_7 rfl rfl ?_
    refine vr_if_lt (pc := 8) 28 dX4_lastInked_8 (by decide) (fun c1 => ?_) (fun c1 => ?_)
    · rw [if_pos c1] at h
      refine vr_sub [] [] rfl ?_
      exact hκ h
    · rw [if_neg c1] at h
      refine vr_aload_n (pc := 11) 0 dX4_lastInked_11 rfl rfl ?_
      refine vr_getR (pc := 12) 2 dX4_lastInked_12 fi_X4_15 hq0 (sh_3_2 hq0).1 ?_
      refine vr_iload_n (pc := 15) 1 dX4_lastInked_15 rfl rfl ?_
      obtain ⟨hc2, h⟩ := ck_some h
      refine vr_iald (pc := 16) dX4_lastInked_16 (sh_3_2 hq0).2 hc2 ?_
      refine vr_if_le (pc := 17) 22 dX4_lastInked_17 (by decide) (fun c3 => ?_) (fun c3 => ?_)
      · rw [if_pos c3] at h
        refine vr_iinc (pc := 22) [(1, .int (x1 + (-1))), (0, .ref (g.1 q0))] 1 dX4_lastInked_22 rfl (congrArg (fun z => x1 + z) ci_m1) (by decide) rfl ?_
        refine vr_goto (pc := 25) 7 dX4_lastInked_25 (by decide) ?_
        refine vr_sub [1, 0] [(0, .ref (g.1 q0)), (1, .int (x1 + (-1)))] rfl ?_
        exact ih q0 (x1 + (-1)) (hq0) h
      · rw [if_neg c3] at h
        refine vr_iload_n (pc := 20) 1 dX4_lastInked_20 rfl rfl ?_
        have h := Option.some.inj h; subst h
        exact vr_iret (pc := 21) .int dX4_lastInked_21 rfl rfl rfl
set_option maxRecDepth 20000 in
set_option maxHeartbeats 4000000 in
theorem s_X4_lastInked (l : Launch) (g : GG) {q0 : Nat} (hq0 : kd q0 = 3) {σ : SS} {r : Int32} (h : f_X4_lastInked q0 σ = some r) : CT l g 0 yX4_lastInked cX4_lastInked 2 (some .int) [.ref (g.1 q0)] σ (some (.int r), σ) := by
  refine CT.of (lv := [(0, .ref (g.1 q0))]) RX4 (by decide +kernel) rfl (Nat.le_of_ble_eq_true rfl) rfl ?_
  unfold f_X4_lastInked at h
  refine vr_aload_n (pc := 0) 0 dX4_lastInked_0 rfl rfl ?_
  refine vr_getI (pc := 1) 0 dX4_lastInked_1 fi_X4_9 hq0 (sh_3_0 hq0) ?_
  refine vr_iconst (pc := 4) 1 dX4_lastInked_4 ci_1 ?_
  refine vr_isub (pc := 5) dX4_lastInked_5 ?_
  refine vr_istore_n (pc := 6) [(1, .int ((σ.1 q0 0) - 1)), (0, .ref (g.1 q0))] dX4_lastInked_6 rfl (by decide) rfl ?_
  refine vr_sub [1, 0] [(0, .ref (g.1 q0)), (1, .int ((σ.1 q0 0) - 1))] rfl ?_
  refine v_X4_lastInked_L7 l g (fun h => ?_) FU q0 ((σ.1 q0 0) - 1) (hq0) h
  refine vr_bipush (pc := 28) (-9) dX4_lastInked_28 cb_m9 ?_
  have h := Option.some.inj h; subst h
  exact vr_iret (pc := 30) .int dX4_lastInked_30 rfl rfl rfl
theorem dX4_blot_0 : decode cX4_blot 0 = .ok (.aload_n 0, 1) := by decide +kernel
theorem dX4_blot_1 : decode cX4_blot 1 = .ok (.getfield 15, 3) := by decide +kernel
theorem dX4_blot_4 : decode cX4_blot 4 = .ok (.aload_n 0, 1) := by decide +kernel
theorem dX4_blot_5 : decode cX4_blot 5 = .ok (.getfield 9, 3) := by decide +kernel
theorem dX4_blot_8 : decode cX4_blot 8 = .ok (.invokestatic 103, 3) := by decide +kernel
theorem dX4_blot_11 : decode cX4_blot 11 = .ok (.istore_n 1, 1) := by decide +kernel
theorem dX4_blot_12 : decode cX4_blot 12 = .ok (.aload_n 0, 1) := by decide +kernel
theorem dX4_blot_13 : decode cX4_blot 13 = .ok (.getfield 15, 3) := by decide +kernel
theorem dX4_blot_16 : decode cX4_blot 16 = .ok (.iload_n 1, 1) := by decide +kernel
theorem dX4_blot_17 : decode cX4_blot 17 = .ok (.iaload, 1) := by decide +kernel
theorem dX4_blot_18 : decode cX4_blot 18 = .ok (.ifCond .le 7, 3) := by decide +kernel
theorem dX4_blot_21 : decode cX4_blot 21 = .ok (.iload_n 1, 1) := by decide +kernel
theorem dX4_blot_22 : decode cX4_blot 22 = .ok (.goto 5, 3) := by decide +kernel
theorem dX4_blot_25 : decode cX4_blot 25 = .ok (.bipush (-9), 2) := by decide +kernel
theorem dX4_blot_27 : decode cX4_blot 27 = .ok (.ireturn, 1) := by decide +kernel
set_option maxRecDepth 20000 in
set_option maxHeartbeats 4000000 in
theorem s_X4_blot (l : Launch) (g : GG) {q0 : Nat} (hq0 : kd q0 = 3) {σ : SS} {r : Int32} (h : f_X4_blot q0 σ = some r) : CT l g 1 yX4_blot cX4_blot 2 (some .int) [.ref (g.1 q0)] σ (some (.int r), σ) := by
  refine CT.of (lv := [(0, .ref (g.1 q0))]) RX4 (by decide +kernel) rfl (Nat.le_of_ble_eq_true rfl) rfl ?_
  unfold f_X4_blot at h
  refine vr_aload_n (pc := 0) 0 dX4_blot_0 rfl rfl ?_
  refine vr_getR (pc := 1) 2 dX4_blot_1 fi_X4_15 hq0 (sh_3_2 hq0).1 ?_
  refine vr_aload_n (pc := 4) 0 dX4_blot_4 rfl rfl ?_
  refine vr_getI (pc := 5) 0 dX4_blot_5 fi_X4_9 hq0 (sh_3_0 hq0) ?_
  obtain ⟨z1, hz2, h⟩ := ob_some h
  refine vr_callS (pc := 8) (ρ1 := (some (.int z1), σ)) [.ref (g.1 (rid q0 2)), .int (σ.1 q0 0)] dX4_blot_8 (s_X2_placeOfMost l g (sh_3_2 hq0).2 hz2) cw_X2_placeOfMost ml_X4_103 (by decide) rfl rfl (Nat.le_of_ble_eq_true rfl) ?_
  refine vr_istore_n (pc := 11) [(1, .int z1), (0, .ref (g.1 q0))] dX4_blot_11 rfl (by decide) rfl ?_
  refine vr_aload_n (pc := 12) 1 dX4_blot_12 rfl rfl ?_
  refine vr_getR (pc := 13) 2 dX4_blot_13 fi_X4_15 hq0 (sh_3_2 hq0).1 ?_
  refine vr_iload_n (pc := 16) 0 dX4_blot_16 rfl rfl ?_
  obtain ⟨hc3, h⟩ := ck_some h
  refine vr_iald (pc := 17) dX4_blot_17 (sh_3_2 hq0).2 hc3 ?_
  refine vr_if_le (pc := 18) 25 dX4_blot_18 (by decide) (fun c4 => ?_) (fun c4 => ?_)
  · rw [if_pos c4] at h
    refine vr_bipush (pc := 25) (-9) dX4_blot_25 cb_m9 ?_
    have h := Option.some.inj h; subst h
    exact vr_iret (pc := 27) .int dX4_blot_27 rfl rfl rfl
  · rw [if_neg c4] at h
    refine vr_iload_n (pc := 21) 0 dX4_blot_21 rfl rfl ?_
    refine vr_goto (pc := 22) 27 dX4_blot_22 (by decide) ?_
    have h := Option.some.inj h; subst h
    exact vr_iret (pc := 27) .int dX4_blot_27 rfl rfl rfl
theorem dX4_allInk_0 : decode cX4_allInk 0 = .ok (.iconst 0, 1) := by decide +kernel
theorem dX4_allInk_1 : decode cX4_allInk 1 = .ok (.istore_n 1, 1) := by decide +kernel
theorem dX4_allInk_2 : decode cX4_allInk 2 = .ok (.iconst 0, 1) := by decide +kernel
theorem dX4_allInk_3 : decode cX4_allInk 3 = .ok (.istore_n 2, 1) := by decide +kernel
theorem dX4_allInk_4 : decode cX4_allInk 4 = .ok (.iload_n 2, 1) := by decide +kernel
theorem dX4_allInk_5 : decode cX4_allInk 5 = .ok (.aload_n 0, 1) := by decide +kernel
theorem dX4_allInk_6 : decode cX4_allInk 6 = .ok (.getfield 9, 3) := by decide +kernel
theorem dX4_allInk_9 : decode cX4_allInk 9 = .ok (.if_icmp .ge 18, 3) := by decide +kernel
theorem dX4_allInk_12 : decode cX4_allInk 12 = .ok (.iload_n 1, 1) := by decide +kernel
theorem dX4_allInk_13 : decode cX4_allInk 13 = .ok (.aload_n 0, 1) := by decide +kernel
theorem dX4_allInk_14 : decode cX4_allInk 14 = .ok (.getfield 15, 3) := by decide +kernel
theorem dX4_allInk_17 : decode cX4_allInk 17 = .ok (.iload_n 2, 1) := by decide +kernel
theorem dX4_allInk_18 : decode cX4_allInk 18 = .ok (.iaload, 1) := by decide +kernel
theorem dX4_allInk_19 : decode cX4_allInk 19 = .ok (.iadd, 1) := by decide +kernel
theorem dX4_allInk_20 : decode cX4_allInk 20 = .ok (.istore_n 1, 1) := by decide +kernel
theorem dX4_allInk_21 : decode cX4_allInk 21 = .ok (.iinc 2 1, 3) := by decide +kernel
theorem dX4_allInk_24 : decode cX4_allInk 24 = .ok (.goto (-20), 3) := by decide +kernel
theorem dX4_allInk_27 : decode cX4_allInk 27 = .ok (.iload_n 1, 1) := by decide +kernel
theorem dX4_allInk_28 : decode cX4_allInk 28 = .ok (.ireturn, 1) := by decide +kernel
set_option maxRecDepth 20000 in
set_option maxHeartbeats 4000000 in
theorem v_X4_allInk_L4 (l : Launch) (g : GG) {r : Int32} {σ : SS} {κ : Int32 → Option Int32} (hκ : ∀ (y1 : Int32) , κ y1 = some r → VV l g 0 RX4 cX4_allInk 3 (some .int) (some (.int r), σ) 27 [(1, .int y1)] [] σ) : ∀ (fu : Nat) (q0 : Nat) (x1 : Int32) (x2 : Int32) (hq0 : kd q0 = 3), f_X4_allInk_L4 σ κ fu q0 x1 x2 = some r → VV l g 0 RX4 cX4_allInk 3 (some .int) (some (.int r), σ) 4 [(0, .ref (g.1 q0)), (1, .int x1), (2, .int x2)] [] σ := by
  intro fu
  induction fu with
  | zero => intro q0 x1 x2 hq0 h; cases h
  | succ fu ih =>
    intro q0 x1 x2 hq0 h
    simp only [f_X4_allInk_L4] at h
    refine vr_iload_n (pc := 4) 2 dX4_allInk_4 rfl rfl ?_
    refine vr_aload_n (pc := 5) 0 dX4_allInk_5 rfl rfl ?_
    refine vr_getI (pc := 6) 0 dX4_allInk_6 fi_X4_9 hq0 (sh_3_0 hq0) ?_
    refine vr_icmp_ge (pc := 9) 27 dX4_allInk_9 (by decide) (fun c1 => ?_) (fun c1 => ?_)
    · rw [if_pos c1] at h
      refine vr_sub [1] [(1, .int x1)] rfl ?_
      exact hκ x1 h
    · rw [if_neg c1] at h
      refine vr_iload_n (pc := 12) 1 dX4_allInk_12 rfl rfl ?_
      refine vr_aload_n (pc := 13) 0 dX4_allInk_13 rfl rfl ?_
      refine vr_getR (pc := 14) 2 dX4_allInk_14 fi_X4_15 hq0 (sh_3_2 hq0).1 ?_
      refine vr_iload_n (pc := 17) 2 dX4_allInk_17 rfl rfl ?_
      obtain ⟨hc2, h⟩ := ck_some h
      refine vr_iald (pc := 18) dX4_allInk_18 (sh_3_2 hq0).2 hc2 ?_
      refine vr_iadd (pc := 19) dX4_allInk_19 ?_
      refine vr_istore_n (pc := 20) [(1, .int (x1 + (σ.1 (rid q0 2) x2.toNatClampNeg))), (0, .ref (g.1 q0)), (2, .int x2)] dX4_allInk_20 rfl (by decide) rfl ?_
      refine vr_iinc (pc := 21) [(2, .int (x2 + 1)), (1, .int (x1 + (σ.1 (rid q0 2) x2.toNatClampNeg))), (0, .ref (g.1 q0))] 2 dX4_allInk_21 rfl (congrArg (fun z => x2 + z) ci_1) (by decide) rfl ?_
      refine vr_goto (pc := 24) 4 dX4_allInk_24 (by decide) ?_
      refine vr_sub [2, 1, 0] [(0, .ref (g.1 q0)), (1, .int (x1 + (σ.1 (rid q0 2) x2.toNatClampNeg))), (2, .int (x2 + 1))] rfl ?_
      exact ih q0 (x1 + (σ.1 (rid q0 2) x2.toNatClampNeg)) (x2 + 1) (hq0) h
set_option maxRecDepth 20000 in
set_option maxHeartbeats 4000000 in
theorem s_X4_allInk (l : Launch) (g : GG) {q0 : Nat} (hq0 : kd q0 = 3) {σ : SS} {r : Int32} (h : f_X4_allInk q0 σ = some r) : CT l g 0 yX4_allInk cX4_allInk 3 (some .int) [.ref (g.1 q0)] σ (some (.int r), σ) := by
  refine CT.of (lv := [(0, .ref (g.1 q0))]) RX4 (by decide +kernel) rfl (Nat.le_of_ble_eq_true rfl) rfl ?_
  unfold f_X4_allInk at h
  refine vr_iconst (pc := 0) 0 dX4_allInk_0 ci_0 ?_
  refine vr_istore_n (pc := 1) [(1, .int 0), (0, .ref (g.1 q0))] dX4_allInk_1 rfl (by decide) rfl ?_
  refine vr_iconst (pc := 2) 0 dX4_allInk_2 ci_0 ?_
  refine vr_istore_n (pc := 3) [(2, .int 0), (1, .int 0), (0, .ref (g.1 q0))] dX4_allInk_3 rfl (by decide) rfl ?_
  refine vr_sub [2, 1, 0] [(0, .ref (g.1 q0)), (1, .int 0), (2, .int 0)] rfl ?_
  refine v_X4_allInk_L4 l g (fun y1 h => ?_) FU q0 0 0 (hq0) h
  refine vr_iload_n (pc := 27) 0 dX4_allInk_27 rfl rfl ?_
  have h := Option.some.inj h; subst h
  exact vr_iret (pc := 28) .int dX4_allInk_28 rfl rfl rfl
theorem dX4_tellsTeeth_0 : decode cX4_tellsTeeth 0 = .ok (.iconst 0, 1) := by decide +kernel
theorem dX4_tellsTeeth_1 : decode cX4_tellsTeeth 1 = .ok (.istore_n 2, 1) := by decide +kernel
theorem dX4_tellsTeeth_2 : decode cX4_tellsTeeth 2 = .ok (.iload_n 2, 1) := by decide +kernel
theorem dX4_tellsTeeth_3 : decode cX4_tellsTeeth 3 = .ok (.aload_n 1, 1) := by decide +kernel
theorem dX4_tellsTeeth_4 : decode cX4_tellsTeeth 4 = .ok (.getfield 107, 3) := by decide +kernel
theorem dX4_tellsTeeth_7 : decode cX4_tellsTeeth 7 = .ok (.if_icmp .ge 24, 3) := by decide +kernel
theorem dX4_tellsTeeth_10 : decode cX4_tellsTeeth 10 = .ok (.aload_n 0, 1) := by decide +kernel
theorem dX4_tellsTeeth_11 : decode cX4_tellsTeeth 11 = .ok (.aload_n 1, 1) := by decide +kernel
theorem dX4_tellsTeeth_12 : decode cX4_tellsTeeth 12 = .ok (.getfield 110, 3) := by decide +kernel
theorem dX4_tellsTeeth_15 : decode cX4_tellsTeeth 15 = .ok (.iload_n 2, 1) := by decide +kernel
theorem dX4_tellsTeeth_16 : decode cX4_tellsTeeth 16 = .ok (.iaload, 1) := by decide +kernel
theorem dX4_tellsTeeth_17 : decode cX4_tellsTeeth 17 = .ok (.invokevirtual 58, 3) := by decide +kernel
theorem dX4_tellsTeeth_20 : decode cX4_tellsTeeth 20 = .ok (.ifCond .ne 5, 3) := by decide +kernel
theorem dX4_tellsTeeth_23 : decode cX4_tellsTeeth 23 = .ok (.iconst 0, 1) := by decide +kernel
theorem dX4_tellsTeeth_24 : decode cX4_tellsTeeth 24 = .ok (.ireturn, 1) := by decide +kernel
theorem dX4_tellsTeeth_25 : decode cX4_tellsTeeth 25 = .ok (.iinc 2 1, 3) := by decide +kernel
theorem dX4_tellsTeeth_28 : decode cX4_tellsTeeth 28 = .ok (.goto (-26), 3) := by decide +kernel
theorem dX4_tellsTeeth_31 : decode cX4_tellsTeeth 31 = .ok (.iconst 1, 1) := by decide +kernel
theorem dX4_tellsTeeth_32 : decode cX4_tellsTeeth 32 = .ok (.ireturn, 1) := by decide +kernel
set_option maxRecDepth 20000 in
set_option maxHeartbeats 4000000 in
theorem v_X4_tellsTeeth_L2 (l : Launch) (g : GG) {r : Int32} {σ : SS} {κ : Unit → Option Int32} (hκ : κ () = some r → VV l g 1 RX4 cX4_tellsTeeth 3 (some .boolean) (some (.int r), σ) 31 [] [] σ) : ∀ (fu : Nat) (q0 : Nat) (q1 : Nat) (x2 : Int32) (hq0 : kd q0 = 3) (hq1 : kd q1 = 4), f_X4_tellsTeeth_L2 σ κ fu q0 q1 x2 = some r → VV l g 1 RX4 cX4_tellsTeeth 3 (some .boolean) (some (.int r), σ) 2 [(0, .ref (g.1 q0)), (1, .ref (g.1 q1)), (2, .int x2)] [] σ := by
  intro fu
  induction fu with
  | zero => intro q0 q1 x2 hq0 hq1 h; cases h
  | succ fu ih =>
    intro q0 q1 x2 hq0 hq1 h
    simp only [f_X4_tellsTeeth_L2] at h
    refine vr_iload_n (pc := 2) 2 dX4_tellsTeeth_2 rfl rfl ?_
    refine vr_aload_n (pc := 3) 1 dX4_tellsTeeth_3 rfl rfl ?_
    refine vr_getI (pc := 4) 0 dX4_tellsTeeth_4 fi_X4_107 hq1 (sh_4_0 hq1) ?_
    refine vr_icmp_ge (pc := 7) 31 dX4_tellsTeeth_7 (by decide) (fun c1 => ?_) (fun c1 => ?_)
    · rw [if_pos c1] at h
      refine vr_sub [] [] rfl ?_
      exact hκ h
    · rw [if_neg c1] at h
      refine vr_aload_n (pc := 10) 0 dX4_tellsTeeth_10 rfl rfl ?_
      refine vr_aload_n (pc := 11) 1 dX4_tellsTeeth_11 rfl rfl ?_
      refine vr_getR (pc := 12) 1 dX4_tellsTeeth_12 fi_X4_110 hq1 (sh_4_1 hq1).1 ?_
      refine vr_iload_n (pc := 15) 2 dX4_tellsTeeth_15 rfl rfl ?_
      obtain ⟨hc2, h⟩ := ck_some h
      refine vr_iald (pc := 16) dX4_tellsTeeth_16 (sh_4_1 hq1).2 hc2 ?_
      refine vr_callV (pc := 17) (ρ1 := (some (.int (f_X4_isTooth q0 (σ.1 (rid q1 1) x2.toNatClampNeg) σ)), σ)) [.int (σ.1 (rid q1 1) x2.toNatClampNeg)] dX4_tellsTeeth_17 (s_X4_isTooth l g (hq0) rfl) cw_X4_isTooth ml_X4_58 hq0 rfl (by decide) (by decide) rfl rfl (Nat.le_of_ble_eq_true rfl) ?_
      refine vr_if_ne (pc := 20) 25 dX4_tellsTeeth_20 (by decide) (fun c3 => ?_) (fun c3 => ?_)
      · rw [if_neg c3] at h
        refine vr_iinc (pc := 25) [(2, .int (x2 + 1)), (0, .ref (g.1 q0)), (1, .ref (g.1 q1))] 2 dX4_tellsTeeth_25 rfl (congrArg (fun z => x2 + z) ci_1) (by decide) rfl ?_
        refine vr_goto (pc := 28) 2 dX4_tellsTeeth_28 (by decide) ?_
        refine vr_sub [1, 2, 0] [(0, .ref (g.1 q0)), (1, .ref (g.1 q1)), (2, .int (x2 + 1))] rfl ?_
        exact ih q0 q1 (x2 + 1) (hq0) (hq1) h
      · rw [if_pos c3] at h
        refine vr_iconst (pc := 23) 0 dX4_tellsTeeth_23 ci_0 ?_
        have h := Option.some.inj h; subst h
        exact vr_iret (pc := 24) .boolean dX4_tellsTeeth_24 rfl rfl rfl
set_option maxRecDepth 20000 in
set_option maxHeartbeats 4000000 in
theorem s_X4_tellsTeeth (l : Launch) (g : GG) {q0 : Nat} (hq0 : kd q0 = 3) {q1 : Nat} (hq1 : kd q1 = 4) {σ : SS} {r : Int32} (h : f_X4_tellsTeeth q0 q1 σ = some r) : CT l g 1 yX4_tellsTeeth cX4_tellsTeeth 3 (some .boolean) [.ref (g.1 q0), .ref (g.1 q1)] σ (some (.int r), σ) := by
  refine CT.of (lv := [(0, .ref (g.1 q0)), (1, .ref (g.1 q1))]) RX4 (by decide +kernel) rfl (Nat.le_of_ble_eq_true rfl) rfl ?_
  unfold f_X4_tellsTeeth at h
  refine vr_iconst (pc := 0) 0 dX4_tellsTeeth_0 ci_0 ?_
  refine vr_istore_n (pc := 1) [(2, .int 0), (0, .ref (g.1 q0)), (1, .ref (g.1 q1))] dX4_tellsTeeth_1 rfl (by decide) rfl ?_
  refine vr_sub [1, 2, 0] [(0, .ref (g.1 q0)), (1, .ref (g.1 q1)), (2, .int 0)] rfl ?_
  refine v_X4_tellsTeeth_L2 l g (fun h => ?_) FU q0 q1 0 (hq0) (hq1) h
  refine vr_iconst (pc := 31) 1 dX4_tellsTeeth_31 ci_1 ?_
  have h := Option.some.inj h; subst h
  exact vr_iret (pc := 32) .boolean dX4_tellsTeeth_32 rfl rfl rfl
theorem dX4_leads_0 : decode cX4_leads 0 = .ok (.iconst 1, 1) := by decide +kernel
theorem dX4_leads_1 : decode cX4_leads 1 = .ok (.istore_n 3, 1) := by decide +kernel
theorem dX4_leads_2 : decode cX4_leads 2 = .ok (.iload_n 3, 1) := by decide +kernel
theorem dX4_leads_3 : decode cX4_leads 3 = .ok (.aload_n 1, 1) := by decide +kernel
theorem dX4_leads_4 : decode cX4_leads 4 = .ok (.getfield 107, 3) := by decide +kernel
theorem dX4_leads_7 : decode cX4_leads 7 = .ok (.if_icmp .ge 33, 3) := by decide +kernel
theorem dX4_leads_10 : decode cX4_leads 10 = .ok (.aload_n 0, 1) := by decide +kernel
theorem dX4_leads_11 : decode cX4_leads 11 = .ok (.aload_n 2, 1) := by decide +kernel
theorem dX4_leads_12 : decode cX4_leads 12 = .ok (.aload_n 1, 1) := by decide +kernel
theorem dX4_leads_13 : decode cX4_leads 13 = .ok (.getfield 110, 3) := by decide +kernel
theorem dX4_leads_16 : decode cX4_leads 16 = .ok (.iload_n 3, 1) := by decide +kernel
theorem dX4_leads_17 : decode cX4_leads 17 = .ok (.iconst 1, 1) := by decide +kernel
theorem dX4_leads_18 : decode cX4_leads 18 = .ok (.isub, 1) := by decide +kernel
theorem dX4_leads_19 : decode cX4_leads 19 = .ok (.iaload, 1) := by decide +kernel
theorem dX4_leads_20 : decode cX4_leads 20 = .ok (.invokevirtual 85, 3) := by decide +kernel
theorem dX4_leads_23 : decode cX4_leads 23 = .ok (.aload_n 1, 1) := by decide +kernel
theorem dX4_leads_24 : decode cX4_leads 24 = .ok (.getfield 110, 3) := by decide +kernel
theorem dX4_leads_27 : decode cX4_leads 27 = .ok (.iload_n 3, 1) := by decide +kernel
theorem dX4_leads_28 : decode cX4_leads 28 = .ok (.iaload, 1) := by decide +kernel
theorem dX4_leads_29 : decode cX4_leads 29 = .ok (.if_icmp .eq 5, 3) := by decide +kernel
theorem dX4_leads_32 : decode cX4_leads 32 = .ok (.iconst 0, 1) := by decide +kernel
theorem dX4_leads_33 : decode cX4_leads 33 = .ok (.ireturn, 1) := by decide +kernel
theorem dX4_leads_34 : decode cX4_leads 34 = .ok (.iinc 3 1, 3) := by decide +kernel
theorem dX4_leads_37 : decode cX4_leads 37 = .ok (.goto (-35), 3) := by decide +kernel
theorem dX4_leads_40 : decode cX4_leads 40 = .ok (.iconst 1, 1) := by decide +kernel
theorem dX4_leads_41 : decode cX4_leads 41 = .ok (.ireturn, 1) := by decide +kernel
set_option maxRecDepth 20000 in
set_option maxHeartbeats 4000000 in
theorem v_X4_leads_L2 (l : Launch) (g : GG) {r : Int32} {σ : SS} {κ : Unit → Option Int32} (hκ : κ () = some r → VV l g 3 RX4 cX4_leads 4 (some .boolean) (some (.int r), σ) 40 [] [] σ) : ∀ (fu : Nat) (q0 : Nat) (q1 : Nat) (q2 : Nat) (x3 : Int32) (hq0 : kd q0 = 3) (hq1 : kd q1 = 4) (hq2 : kd q2 = 6), f_X4_leads_L2 σ κ fu q0 q1 q2 x3 = some r → VV l g 3 RX4 cX4_leads 4 (some .boolean) (some (.int r), σ) 2 [(0, .ref (g.1 q0)), (1, .ref (g.1 q1)), (2, .ref (g.1 q2)), (3, .int x3)] [] σ := by
  intro fu
  induction fu with
  | zero => intro q0 q1 q2 x3 hq0 hq1 hq2 h; cases h
  | succ fu ih =>
    intro q0 q1 q2 x3 hq0 hq1 hq2 h
    simp only [f_X4_leads_L2] at h
    refine vr_iload_n (pc := 2) 3 dX4_leads_2 rfl rfl ?_
    refine vr_aload_n (pc := 3) 1 dX4_leads_3 rfl rfl ?_
    refine vr_getI (pc := 4) 0 dX4_leads_4 fi_X4_107 hq1 (sh_4_0 hq1) ?_
    refine vr_icmp_ge (pc := 7) 40 dX4_leads_7 (by decide) (fun c1 => ?_) (fun c1 => ?_)
    · rw [if_pos c1] at h
      refine vr_sub [] [] rfl ?_
      exact hκ h
    · rw [if_neg c1] at h
      refine vr_aload_n (pc := 10) 0 dX4_leads_10 rfl rfl ?_
      refine vr_aload_n (pc := 11) 2 dX4_leads_11 rfl rfl ?_
      refine vr_aload_n (pc := 12) 1 dX4_leads_12 rfl rfl ?_
      refine vr_getR (pc := 13) 1 dX4_leads_13 fi_X4_110 hq1 (sh_4_1 hq1).1 ?_
      refine vr_iload_n (pc := 16) 3 dX4_leads_16 rfl rfl ?_
      refine vr_iconst (pc := 17) 1 dX4_leads_17 ci_1 ?_
      refine vr_isub (pc := 18) dX4_leads_18 ?_
      obtain ⟨hc2, h⟩ := ck_some h
      refine vr_iald (pc := 19) dX4_leads_19 (sh_4_1 hq1).2 hc2 ?_
      obtain ⟨z3, hz4, h⟩ := ob_some h
      refine vr_callV (pc := 20) (ρ1 := (some (.int z3), σ)) [.ref (g.1 q2), .int (σ.1 (rid q1 1) (x3 - 1).toNatClampNeg)] dX4_leads_20 (s_X4_nextBy l g (hq0) (hq2) hz4) cw_X4_nextBy ml_X4_85 hq0 rfl (by decide) (by decide) rfl rfl (Nat.le_of_ble_eq_true rfl) ?_
      refine vr_aload_n (pc := 23) 1 dX4_leads_23 rfl rfl ?_
      refine vr_getR (pc := 24) 1 dX4_leads_24 fi_X4_110 hq1 (sh_4_1 hq1).1 ?_
      refine vr_iload_n (pc := 27) 3 dX4_leads_27 rfl rfl ?_
      obtain ⟨hc5, h⟩ := ck_some h
      refine vr_iald (pc := 28) dX4_leads_28 (sh_4_1 hq1).2 hc5 ?_
      refine vr_icmp_eq (pc := 29) 34 dX4_leads_29 (by decide) (fun c6 => ?_) (fun c6 => ?_)
      · rw [if_pos c6] at h
        refine vr_iinc (pc := 34) [(3, .int (x3 + 1)), (0, .ref (g.1 q0)), (1, .ref (g.1 q1)), (2, .ref (g.1 q2))] 3 dX4_leads_34 rfl (congrArg (fun z => x3 + z) ci_1) (by decide) rfl ?_
        refine vr_goto (pc := 37) 2 dX4_leads_37 (by decide) ?_
        refine vr_sub [1, 2, 3, 0] [(0, .ref (g.1 q0)), (1, .ref (g.1 q1)), (2, .ref (g.1 q2)), (3, .int (x3 + 1))] rfl ?_
        exact ih q0 q1 q2 (x3 + 1) (hq0) (hq1) (hq2) h
      · rw [if_neg c6] at h
        refine vr_iconst (pc := 32) 0 dX4_leads_32 ci_0 ?_
        have h := Option.some.inj h; subst h
        exact vr_iret (pc := 33) .boolean dX4_leads_33 rfl rfl rfl
set_option maxRecDepth 20000 in
set_option maxHeartbeats 4000000 in
theorem s_X4_leads (l : Launch) (g : GG) {q0 : Nat} (hq0 : kd q0 = 3) {q1 : Nat} (hq1 : kd q1 = 4) {q2 : Nat} (hq2 : kd q2 = 6) {σ : SS} {r : Int32} (h : f_X4_leads q0 q1 q2 σ = some r) : CT l g 3 yX4_leads cX4_leads 4 (some .boolean) [.ref (g.1 q0), .ref (g.1 q1), .ref (g.1 q2)] σ (some (.int r), σ) := by
  refine CT.of (lv := [(0, .ref (g.1 q0)), (1, .ref (g.1 q1)), (2, .ref (g.1 q2))]) RX4 (by decide +kernel) rfl (Nat.le_of_ble_eq_true rfl) rfl ?_
  unfold f_X4_leads at h
  refine vr_iconst (pc := 0) 1 dX4_leads_0 ci_1 ?_
  refine vr_istore_n (pc := 1) [(3, .int 1), (0, .ref (g.1 q0)), (1, .ref (g.1 q1)), (2, .ref (g.1 q2))] dX4_leads_1 rfl (by decide) rfl ?_
  refine vr_sub [1, 2, 3, 0] [(0, .ref (g.1 q0)), (1, .ref (g.1 q1)), (2, .ref (g.1 q2)), (3, .int 1)] rfl ?_
  refine v_X4_leads_L2 l g (fun h => ?_) FU q0 q1 q2 1 (hq0) (hq1) (hq2) h
  refine vr_iconst (pc := 40) 1 dX4_leads_40 ci_1 ?_
  have h := Option.some.inj h; subst h
  exact vr_iret (pc := 41) .boolean dX4_leads_41 rfl rfl rfl
theorem dX5_isMissing_0 : decode cX5_isMissing 0 = .ok (.aload_n 0, 1) := by decide +kernel
theorem dX5_isMissing_1 : decode cX5_isMissing 1 = .ok (.getfield 9, 3) := by decide +kernel
theorem dX5_isMissing_4 : decode cX5_isMissing 4 = .ok (.ifCond .ge 7, 3) := by decide +kernel
theorem dX5_isMissing_7 : decode cX5_isMissing 7 = .ok (.iconst 1, 1) := by decide +kernel
theorem dX5_isMissing_8 : decode cX5_isMissing 8 = .ok (.goto 4, 3) := by decide +kernel
theorem dX5_isMissing_11 : decode cX5_isMissing 11 = .ok (.iconst 0, 1) := by decide +kernel
theorem dX5_isMissing_12 : decode cX5_isMissing 12 = .ok (.ireturn, 1) := by decide +kernel
set_option maxRecDepth 20000 in
set_option maxHeartbeats 4000000 in
theorem s_X5_isMissing (l : Launch) (g : GG) {q0 : Nat} (hq0 : kd q0 = 4) {σ : SS} {r : Int32} (h : f_X5_isMissing q0 σ = r) : CT l g 0 yX5_isMissing cX5_isMissing 1 (some .boolean) [.ref (g.1 q0)] σ (some (.int r), σ) := by
  refine CT.of (lv := [(0, .ref (g.1 q0))]) RX5 (by decide +kernel) rfl (Nat.le_of_ble_eq_true rfl) rfl ?_
  unfold f_X5_isMissing at h
  refine vr_aload_n (pc := 0) 0 dX5_isMissing_0 rfl rfl ?_
  refine vr_getI (pc := 1) 0 dX5_isMissing_1 fi_X5_9 hq0 (sh_4_0 hq0) ?_
  refine vr_if_ge (pc := 4) 11 dX5_isMissing_4 (by decide) (fun c1 => ?_) (fun c1 => ?_)
  · rw [if_pos c1] at h
    refine vr_iconst (pc := 11) 0 dX5_isMissing_11 ci_0 ?_
    subst h
    exact vr_iret (pc := 12) .boolean dX5_isMissing_12 rfl rfl rfl
  · rw [if_neg c1] at h
    refine vr_iconst (pc := 7) 1 dX5_isMissing_7 ci_1 ?_
    refine vr_goto (pc := 8) 12 dX5_isMissing_8 (by decide) ?_
    subst h
    exact vr_iret (pc := 12) .boolean dX5_isMissing_12 rfl rfl rfl
theorem dX5_hasPlace_0 : decode cX5_hasPlace 0 = .ok (.iload_n 1, 1) := by decide +kernel
theorem dX5_hasPlace_1 : decode cX5_hasPlace 1 = .ok (.ifCond .lt 15, 3) := by decide +kernel
theorem dX5_hasPlace_4 : decode cX5_hasPlace 4 = .ok (.iload_n 1, 1) := by decide +kernel
theorem dX5_hasPlace_5 : decode cX5_hasPlace 5 = .ok (.aload_n 0, 1) := by decide +kernel
theorem dX5_hasPlace_6 : decode cX5_hasPlace 6 = .ok (.getfield 9, 3) := by decide +kernel
theorem dX5_hasPlace_9 : decode cX5_hasPlace 9 = .ok (.if_icmp .ge 7, 3) := by decide +kernel
theorem dX5_hasPlace_12 : decode cX5_hasPlace 12 = .ok (.iconst 1, 1) := by decide +kernel
theorem dX5_hasPlace_13 : decode cX5_hasPlace 13 = .ok (.goto 4, 3) := by decide +kernel
theorem dX5_hasPlace_16 : decode cX5_hasPlace 16 = .ok (.iconst 0, 1) := by decide +kernel
theorem dX5_hasPlace_17 : decode cX5_hasPlace 17 = .ok (.ireturn, 1) := by decide +kernel
set_option maxRecDepth 20000 in
set_option maxHeartbeats 4000000 in
theorem s_X5_hasPlace (l : Launch) (g : GG) {q0 : Nat} (hq0 : kd q0 = 4) {a1 : Int32} {σ : SS} {r : Int32} (h : f_X5_hasPlace q0 a1 σ = r) : CT l g 0 yX5_hasPlace cX5_hasPlace 2 (some .boolean) [.ref (g.1 q0), .int a1] σ (some (.int r), σ) := by
  refine CT.of (lv := [(0, .ref (g.1 q0)), (1, .int a1)]) RX5 (by decide +kernel) rfl (Nat.le_of_ble_eq_true rfl) rfl ?_
  unfold f_X5_hasPlace at h
  refine vr_iload_n (pc := 0) 1 dX5_hasPlace_0 rfl rfl ?_
  refine vr_if_lt (pc := 1) 16 dX5_hasPlace_1 (by decide) (fun c1 => ?_) (fun c1 => ?_)
  · rw [if_pos c1] at h
    refine vr_iconst (pc := 16) 0 dX5_hasPlace_16 ci_0 ?_
    subst h
    exact vr_iret (pc := 17) .boolean dX5_hasPlace_17 rfl rfl rfl
  · rw [if_neg c1] at h
    refine vr_iload_n (pc := 4) 1 dX5_hasPlace_4 rfl rfl ?_
    refine vr_aload_n (pc := 5) 0 dX5_hasPlace_5 rfl rfl ?_
    refine vr_getI (pc := 6) 0 dX5_hasPlace_6 fi_X5_9 hq0 (sh_4_0 hq0) ?_
    refine vr_icmp_ge (pc := 9) 16 dX5_hasPlace_9 (by decide) (fun c2 => ?_) (fun c2 => ?_)
    · rw [if_pos c2] at h
      refine vr_iconst (pc := 16) 0 dX5_hasPlace_16 ci_0 ?_
      subst h
      exact vr_iret (pc := 17) .boolean dX5_hasPlace_17 rfl rfl rfl
    · rw [if_neg c2] at h
      refine vr_iconst (pc := 12) 1 dX5_hasPlace_12 ci_1 ?_
      refine vr_goto (pc := 13) 17 dX5_hasPlace_13 (by decide) ?_
      subst h
      exact vr_iret (pc := 17) .boolean dX5_hasPlace_17 rfl rfl rfl
theorem dX5_renew_0 : decode cX5_renew 0 = .ok (.iload_n 1, 1) := by decide +kernel
theorem dX5_renew_1 : decode cX5_renew 1 = .ok (.ifCond .lt 22, 3) := by decide +kernel
theorem dX5_renew_4 : decode cX5_renew 4 = .ok (.iload_n 1, 1) := by decide +kernel
theorem dX5_renew_5 : decode cX5_renew 5 = .ok (.bipush 40, 2) := by decide +kernel
theorem dX5_renew_7 : decode cX5_renew 7 = .ok (.if_icmp .gt 16, 3) := by decide +kernel
theorem dX5_renew_10 : decode cX5_renew 10 = .ok (.aload_n 0, 1) := by decide +kernel
theorem dX5_renew_11 : decode cX5_renew 11 = .ok (.iload_n 1, 1) := by decide +kernel
theorem dX5_renew_12 : decode cX5_renew 12 = .ok (.putfield 9, 3) := by decide +kernel
theorem dX5_renew_15 : decode cX5_renew 15 = .ok (.aload_n 0, 1) := by decide +kernel
theorem dX5_renew_16 : decode cX5_renew 16 = .ok (.getfield 15, 3) := by decide +kernel
theorem dX5_renew_19 : decode cX5_renew 19 = .ok (.iconst 0, 1) := by decide +kernel
theorem dX5_renew_20 : decode cX5_renew 20 = .ok (.invokestatic 19, 3) := by decide +kernel
theorem dX5_renew_23 : decode cX5_renew 23 = .ok (.return_, 1) := by decide +kernel
set_option maxRecDepth 20000 in
set_option maxHeartbeats 4000000 in
theorem s_X5_renew (l : Launch) (g : GG) {q0 : Nat} (hq0 : kd q0 = 4) {a1 : Int32} {σ : SS} {r : SS} (h : f_X5_renew q0 a1 σ = some r) : CT l g 1 yX5_renew cX5_renew 2 none [.ref (g.1 q0), .int a1] σ (none, r) := by
  refine CT.of (lv := [(0, .ref (g.1 q0)), (1, .int a1)]) RX5 (by decide +kernel) rfl (Nat.le_of_ble_eq_true rfl) rfl ?_
  unfold f_X5_renew at h
  refine vr_iload_n (pc := 0) 1 dX5_renew_0 rfl rfl ?_
  refine vr_if_lt (pc := 1) 23 dX5_renew_1 (by decide) (fun c1 => ?_) (fun c1 => ?_)
  · rw [if_pos c1] at h
    have h := Option.some.inj h; subst h
    exact vr_vret (pc := 23) dX5_renew_23 rfl rfl
  · rw [if_neg c1] at h
    refine vr_iload_n (pc := 4) 1 dX5_renew_4 rfl rfl ?_
    refine vr_bipush (pc := 5) 40 dX5_renew_5 cb_40 ?_
    refine vr_icmp_gt (pc := 7) 23 dX5_renew_7 (by decide) (fun c2 => ?_) (fun c2 => ?_)
    · rw [if_pos c2] at h
      have h := Option.some.inj h; subst h
      exact vr_vret (pc := 23) dX5_renew_23 rfl rfl
    · rw [if_neg c2] at h
      refine vr_aload_n (pc := 10) 0 dX5_renew_10 rfl rfl ?_
      refine vr_iload_n (pc := 11) 1 dX5_renew_11 rfl rfl ?_
      refine vr_putI (pc := 12) 0 dX5_renew_12 fi_X5_9 (fw_4_0 _) hq0 (sh_4_0 hq0) ?_
      refine vr_aload_n (pc := 15) 0 dX5_renew_15 rfl rfl ?_
      refine vr_getR (pc := 16) 1 dX5_renew_16 fi_X5_15 hq0 (sh_4_1 hq0).1 ?_
      refine vr_iconst (pc := 19) 0 dX5_renew_19 ci_0 ?_
      obtain ⟨z3, hz4, h⟩ := ob_some h
      refine vr_callS (pc := 20) (ρ1 := (none, z3)) [.ref (g.1 (rid q0 1)), .int 0] dX5_renew_20 (s_J7_fill_53178 l g (sh_4_1 hq0).2 hz4) cw_J7_fill_53178 ml_X5_19 (by decide) rfl rfl (Nat.le_of_ble_eq_true rfl) ?_
      have h := Option.some.inj h; subst h
      exact vr_vret (pc := 23) dX5_renew_23 rfl rfl
theorem dX7_exchange_0 : decode cX7_exchange 0 = .ok (.iload_n 1, 1) := by decide +kernel
theorem dX7_exchange_1 : decode cX7_exchange 1 = .ok (.iconst 1, 1) := by decide +kernel
theorem dX7_exchange_2 : decode cX7_exchange 2 = .ok (.if_icmp .ne 16, 3) := by decide +kernel
theorem dX7_exchange_5 : decode cX7_exchange 5 = .ok (.aload_n 0, 1) := by decide +kernel
theorem dX7_exchange_6 : decode cX7_exchange 6 = .ok (.getfield 9, 3) := by decide +kernel
theorem dX7_exchange_9 : decode cX7_exchange 9 = .ok (.istore_n 3, 1) := by decide +kernel
theorem dX7_exchange_10 : decode cX7_exchange 10 = .ok (.aload_n 0, 1) := by decide +kernel
theorem dX7_exchange_11 : decode cX7_exchange 11 = .ok (.iload_n 2, 1) := by decide +kernel
theorem dX7_exchange_12 : decode cX7_exchange 12 = .ok (.putfield 9, 3) := by decide +kernel
theorem dX7_exchange_15 : decode cX7_exchange 15 = .ok (.goto 31, 3) := by decide +kernel
theorem dX7_exchange_18 : decode cX7_exchange 18 = .ok (.iload_n 1, 1) := by decide +kernel
theorem dX7_exchange_19 : decode cX7_exchange 19 = .ok (.iconst 2, 1) := by decide +kernel
theorem dX7_exchange_20 : decode cX7_exchange 20 = .ok (.if_icmp .ne 16, 3) := by decide +kernel
theorem dX7_exchange_23 : decode cX7_exchange 23 = .ok (.aload_n 0, 1) := by decide +kernel
theorem dX7_exchange_24 : decode cX7_exchange 24 = .ok (.getfield 21, 3) := by decide +kernel
theorem dX7_exchange_27 : decode cX7_exchange 27 = .ok (.istore_n 3, 1) := by decide +kernel
theorem dX7_exchange_28 : decode cX7_exchange 28 = .ok (.aload_n 0, 1) := by decide +kernel
theorem dX7_exchange_29 : decode cX7_exchange 29 = .ok (.iload_n 2, 1) := by decide +kernel
theorem dX7_exchange_30 : decode cX7_exchange 30 = .ok (.putfield 21, 3) := by decide +kernel
theorem dX7_exchange_33 : decode cX7_exchange 33 = .ok (.goto 13, 3) := by decide +kernel
theorem dX7_exchange_36 : decode cX7_exchange 36 = .ok (.aload_n 0, 1) := by decide +kernel
theorem dX7_exchange_37 : decode cX7_exchange 37 = .ok (.getfield 15, 3) := by decide +kernel
theorem dX7_exchange_40 : decode cX7_exchange 40 = .ok (.istore_n 3, 1) := by decide +kernel
theorem dX7_exchange_41 : decode cX7_exchange 41 = .ok (.aload_n 0, 1) := by decide +kernel
theorem dX7_exchange_42 : decode cX7_exchange 42 = .ok (.iload_n 2, 1) := by decide +kernel
theorem dX7_exchange_43 : decode cX7_exchange 43 = .ok (.putfield 15, 3) := by decide +kernel
theorem dX7_exchange_46 : decode cX7_exchange 46 = .ok (.iload_n 3, 1) := by decide +kernel
theorem dX7_exchange_47 : decode cX7_exchange 47 = .ok (.ireturn, 1) := by decide +kernel
set_option maxRecDepth 20000 in
set_option maxHeartbeats 4000000 in
theorem s_X7_exchange (l : Launch) (g : GG) {q0 : Nat} (hq0 : kd q0 = 6) {a1 : Int32} {a2 : Int32} {σ : SS} {r : Int32 × SS} (h : f_X7_exchange q0 a1 a2 σ = some r) : CT l g 0 yX7_exchange cX7_exchange 4 (some .int) [.ref (g.1 q0), .int a1, .int a2] σ (some (.int r.1), r.2) := by
  refine CT.of (lv := [(0, .ref (g.1 q0)), (1, .int a1), (2, .int a2)]) RX7 (by decide +kernel) rfl (Nat.le_of_ble_eq_true rfl) rfl ?_
  unfold f_X7_exchange at h
  refine vr_iload_n (pc := 0) 1 dX7_exchange_0 rfl rfl ?_
  refine vr_iconst (pc := 1) 1 dX7_exchange_1 ci_1 ?_
  refine vr_icmp_ne (pc := 2) 18 dX7_exchange_2 (by decide) (fun c1 => ?_) (fun c1 => ?_)
  · rw [if_neg c1] at h
    refine vr_iload_n (pc := 18) 1 dX7_exchange_18 rfl rfl ?_
    refine vr_iconst (pc := 19) 2 dX7_exchange_19 ci_2 ?_
    refine vr_icmp_ne (pc := 20) 36 dX7_exchange_20 (by decide) (fun c2 => ?_) (fun c2 => ?_)
    · rw [if_neg c2] at h
      refine vr_aload_n (pc := 36) 0 dX7_exchange_36 rfl rfl ?_
      refine vr_getI (pc := 37) 3 dX7_exchange_37 fi_X7_15 hq0 (sh_6_3 hq0) ?_
      refine vr_istore_n (pc := 40) [(3, .int (σ.1 q0 3)), (0, .ref (g.1 q0)), (1, .int a1), (2, .int a2)] dX7_exchange_40 rfl (by decide) rfl ?_
      refine vr_aload_n (pc := 41) 1 dX7_exchange_41 rfl rfl ?_
      refine vr_iload_n (pc := 42) 3 dX7_exchange_42 rfl rfl ?_
      refine vr_putI (pc := 43) 3 dX7_exchange_43 fi_X7_15 (fw_6_3 _) hq0 (sh_6_3 hq0) ?_
      refine vr_iload_n (pc := 46) 0 dX7_exchange_46 rfl rfl ?_
      have h := Option.some.inj h; subst h
      exact vr_iret (pc := 47) .int dX7_exchange_47 rfl rfl rfl
    · rw [if_pos c2] at h
      refine vr_aload_n (pc := 23) 0 dX7_exchange_23 rfl rfl ?_
      refine vr_getI (pc := 24) 2 dX7_exchange_24 fi_X7_21 hq0 (sh_6_2 hq0) ?_
      refine vr_istore_n (pc := 27) [(3, .int (σ.1 q0 2)), (0, .ref (g.1 q0)), (1, .int a1), (2, .int a2)] dX7_exchange_27 rfl (by decide) rfl ?_
      refine vr_aload_n (pc := 28) 1 dX7_exchange_28 rfl rfl ?_
      refine vr_iload_n (pc := 29) 3 dX7_exchange_29 rfl rfl ?_
      refine vr_putI (pc := 30) 2 dX7_exchange_30 fi_X7_21 (fw_6_2 _) hq0 (sh_6_2 hq0) ?_
      refine vr_goto (pc := 33) 46 dX7_exchange_33 (by decide) ?_
      refine vr_iload_n (pc := 46) 0 dX7_exchange_46 rfl rfl ?_
      have h := Option.some.inj h; subst h
      exact vr_iret (pc := 47) .int dX7_exchange_47 rfl rfl rfl
  · rw [if_pos c1] at h
    refine vr_aload_n (pc := 5) 0 dX7_exchange_5 rfl rfl ?_
    refine vr_getI (pc := 6) 1 dX7_exchange_6 fi_X7_9 hq0 (sh_6_1 hq0) ?_
    refine vr_istore_n (pc := 9) [(3, .int (σ.1 q0 1)), (0, .ref (g.1 q0)), (1, .int a1), (2, .int a2)] dX7_exchange_9 rfl (by decide) rfl ?_
    refine vr_aload_n (pc := 10) 1 dX7_exchange_10 rfl rfl ?_
    refine vr_iload_n (pc := 11) 3 dX7_exchange_11 rfl rfl ?_
    refine vr_putI (pc := 12) 1 dX7_exchange_12 fi_X7_9 (fw_6_1 _) hq0 (sh_6_1 hq0) ?_
    refine vr_goto (pc := 15) 46 dX7_exchange_15 (by decide) ?_
    refine vr_iload_n (pc := 46) 0 dX7_exchange_46 rfl rfl ?_
    have h := Option.some.inj h; subst h
    exact vr_iret (pc := 47) .int dX7_exchange_47 rfl rfl rfl
theorem dX7_turnsTimesSize_0 : decode cX7_turnsTimesSize 0 = .ok (.aload_n 0, 1) := by decide +kernel
theorem dX7_turnsTimesSize_1 : decode cX7_turnsTimesSize 1 = .ok (.getfield 18, 3) := by decide +kernel
theorem dX7_turnsTimesSize_4 : decode cX7_turnsTimesSize 4 = .ok (.tableswitch 70 0 4 #[36, 43, 50, 62, 50], 36) := by decide +kernel
theorem dX7_turnsTimesSize_40 : decode cX7_turnsTimesSize 40 = .ok (.iload_n 1, 1) := by decide +kernel
theorem dX7_turnsTimesSize_41 : decode cX7_turnsTimesSize 41 = .ok (.aload_n 0, 1) := by decide +kernel
theorem dX7_turnsTimesSize_42 : decode cX7_turnsTimesSize 42 = .ok (.getfield 9, 3) := by decide +kernel
theorem dX7_turnsTimesSize_45 : decode cX7_turnsTimesSize 45 = .ok (.isub, 1) := by decide +kernel
theorem dX7_turnsTimesSize_46 : decode cX7_turnsTimesSize 46 = .ok (.ireturn, 1) := by decide +kernel
theorem dX7_turnsTimesSize_47 : decode cX7_turnsTimesSize 47 = .ok (.iload_n 1, 1) := by decide +kernel
theorem dX7_turnsTimesSize_48 : decode cX7_turnsTimesSize 48 = .ok (.aload_n 0, 1) := by decide +kernel
theorem dX7_turnsTimesSize_49 : decode cX7_turnsTimesSize 49 = .ok (.getfield 9, 3) := by decide +kernel
theorem dX7_turnsTimesSize_52 : decode cX7_turnsTimesSize 52 = .ok (.iadd, 1) := by decide +kernel
theorem dX7_turnsTimesSize_53 : decode cX7_turnsTimesSize 53 = .ok (.ireturn, 1) := by decide +kernel
theorem dX7_turnsTimesSize_54 : decode cX7_turnsTimesSize 54 = .ok (.iload_n 1, 1) := by decide +kernel
theorem dX7_turnsTimesSize_55 : decode cX7_turnsTimesSize 55 = .ok (.aload_n 0, 1) := by decide +kernel
theorem dX7_turnsTimesSize_56 : decode cX7_turnsTimesSize 56 = .ok (.getfield 9, 3) := by decide +kernel
theorem dX7_turnsTimesSize_59 : decode cX7_turnsTimesSize 59 = .ok (.isub, 1) := by decide +kernel
theorem dX7_turnsTimesSize_60 : decode cX7_turnsTimesSize 60 = .ok (.aload_n 0, 1) := by decide +kernel
theorem dX7_turnsTimesSize_61 : decode cX7_turnsTimesSize 61 = .ok (.getfield 21, 3) := by decide +kernel
theorem dX7_turnsTimesSize_64 : decode cX7_turnsTimesSize 64 = .ok (.isub, 1) := by decide +kernel
theorem dX7_turnsTimesSize_65 : decode cX7_turnsTimesSize 65 = .ok (.ireturn, 1) := by decide +kernel
theorem dX7_turnsTimesSize_66 : decode cX7_turnsTimesSize 66 = .ok (.iload_n 1, 1) := by decide +kernel
theorem dX7_turnsTimesSize_67 : decode cX7_turnsTimesSize 67 = .ok (.aload_n 0, 1) := by decide +kernel
theorem dX7_turnsTimesSize_68 : decode cX7_turnsTimesSize 68 = .ok (.getfield 9, 3) := by decide +kernel
theorem dX7_turnsTimesSize_71 : decode cX7_turnsTimesSize 71 = .ok (.iadd, 1) := by decide +kernel
theorem dX7_turnsTimesSize_72 : decode cX7_turnsTimesSize 72 = .ok (.ineg, 1) := by decide +kernel
theorem dX7_turnsTimesSize_73 : decode cX7_turnsTimesSize 73 = .ok (.ireturn, 1) := by decide +kernel
theorem dX7_turnsTimesSize_74 : decode cX7_turnsTimesSize 74 = .ok (.bipush (-2), 2) := by decide +kernel
theorem dX7_turnsTimesSize_76 : decode cX7_turnsTimesSize 76 = .ok (.iload_n 1, 1) := by decide +kernel
theorem dX7_turnsTimesSize_77 : decode cX7_turnsTimesSize 77 = .ok (.aload_n 0, 1) := by decide +kernel
theorem dX7_turnsTimesSize_78 : decode cX7_turnsTimesSize 78 = .ok (.getfield 9, 3) := by decide +kernel
theorem dX7_turnsTimesSize_81 : decode cX7_turnsTimesSize 81 = .ok (.iadd, 1) := by decide +kernel
theorem dX7_turnsTimesSize_82 : decode cX7_turnsTimesSize 82 = .ok (.imul, 1) := by decide +kernel
theorem dX7_turnsTimesSize_83 : decode cX7_turnsTimesSize 83 = .ok (.ireturn, 1) := by decide +kernel
set_option maxRecDepth 20000 in
set_option maxHeartbeats 4000000 in
theorem s_X7_turnsTimesSize (l : Launch) (g : GG) {q0 : Nat} (hq0 : kd q0 = 6) {a1 : Int32} {σ : SS} {r : Int32} (h : f_X7_turnsTimesSize q0 a1 σ = r) : CT l g 0 yX7_turnsTimesSize cX7_turnsTimesSize 2 (some .int) [.ref (g.1 q0), .int a1] σ (some (.int r), σ) := by
  refine CT.of (lv := [(0, .ref (g.1 q0)), (1, .int a1)]) RX7 (by decide +kernel) rfl (Nat.le_of_ble_eq_true rfl) rfl ?_
  unfold f_X7_turnsTimesSize at h
  refine vr_aload_n (pc := 0) 0 dX7_turnsTimesSize_0 rfl rfl ?_
  refine vr_getI (pc := 1) 0 dX7_turnsTimesSize_1 fi_X7_18 hq0 (sh_6_0 hq0) ?_
  by_cases c1 : (σ.1 q0 0) = 0
  · rw [if_pos c1] at h
    refine vr_tableIn (pc := 4) 36 40 dX7_turnsTimesSize_4 (by rw [c1]; decide) (by rw [c1]; decide) (by rw [c1]; rfl) (by decide) ?_
    refine vr_iload_n (pc := 40) 1 dX7_turnsTimesSize_40 rfl rfl ?_
    refine vr_aload_n (pc := 41) 0 dX7_turnsTimesSize_41 rfl rfl ?_
    refine vr_getI (pc := 42) 1 dX7_turnsTimesSize_42 fi_X7_9 hq0 (sh_6_1 hq0) ?_
    refine vr_isub (pc := 45) dX7_turnsTimesSize_45 ?_
    subst h
    exact vr_iret (pc := 46) .int dX7_turnsTimesSize_46 rfl rfl rfl
  · rw [if_neg c1] at h
    by_cases c2 : (σ.1 q0 0) = 1
    · rw [if_pos c2] at h
      refine vr_tableIn (pc := 4) 43 47 dX7_turnsTimesSize_4 (by rw [c2]; decide) (by rw [c2]; decide) (by rw [c2]; rfl) (by decide) ?_
      refine vr_iload_n (pc := 47) 1 dX7_turnsTimesSize_47 rfl rfl ?_
      refine vr_aload_n (pc := 48) 0 dX7_turnsTimesSize_48 rfl rfl ?_
      refine vr_getI (pc := 49) 1 dX7_turnsTimesSize_49 fi_X7_9 hq0 (sh_6_1 hq0) ?_
      refine vr_iadd (pc := 52) dX7_turnsTimesSize_52 ?_
      subst h
      exact vr_iret (pc := 53) .int dX7_turnsTimesSize_53 rfl rfl rfl
    · rw [if_neg c2] at h
      by_cases c3 : (σ.1 q0 0) = 2
      · rw [if_pos c3] at h
        refine vr_tableIn (pc := 4) 50 54 dX7_turnsTimesSize_4 (by rw [c3]; decide) (by rw [c3]; decide) (by rw [c3]; rfl) (by decide) ?_
        refine vr_iload_n (pc := 54) 1 dX7_turnsTimesSize_54 rfl rfl ?_
        refine vr_aload_n (pc := 55) 0 dX7_turnsTimesSize_55 rfl rfl ?_
        refine vr_getI (pc := 56) 1 dX7_turnsTimesSize_56 fi_X7_9 hq0 (sh_6_1 hq0) ?_
        refine vr_isub (pc := 59) dX7_turnsTimesSize_59 ?_
        refine vr_aload_n (pc := 60) 0 dX7_turnsTimesSize_60 rfl rfl ?_
        refine vr_getI (pc := 61) 2 dX7_turnsTimesSize_61 fi_X7_21 hq0 (sh_6_2 hq0) ?_
        refine vr_isub (pc := 64) dX7_turnsTimesSize_64 ?_
        subst h
        exact vr_iret (pc := 65) .int dX7_turnsTimesSize_65 rfl rfl rfl
      · rw [if_neg c3] at h
        by_cases c4 : (σ.1 q0 0) = 3
        · rw [if_pos c4] at h
          refine vr_tableIn (pc := 4) 62 66 dX7_turnsTimesSize_4 (by rw [c4]; decide) (by rw [c4]; decide) (by rw [c4]; rfl) (by decide) ?_
          refine vr_iload_n (pc := 66) 1 dX7_turnsTimesSize_66 rfl rfl ?_
          refine vr_aload_n (pc := 67) 0 dX7_turnsTimesSize_67 rfl rfl ?_
          refine vr_getI (pc := 68) 1 dX7_turnsTimesSize_68 fi_X7_9 hq0 (sh_6_1 hq0) ?_
          refine vr_iadd (pc := 71) dX7_turnsTimesSize_71 ?_
          refine vr_ineg (pc := 72) dX7_turnsTimesSize_72 ?_
          subst h
          exact vr_iret (pc := 73) .int dX7_turnsTimesSize_73 rfl rfl rfl
        · rw [if_neg c4] at h
          by_cases c5 : (σ.1 q0 0) = 4
          · rw [if_pos c5] at h
            refine vr_tableIn (pc := 4) 50 54 dX7_turnsTimesSize_4 (by rw [c5]; decide) (by rw [c5]; decide) (by rw [c5]; rfl) (by decide) ?_
            refine vr_iload_n (pc := 54) 1 dX7_turnsTimesSize_54 rfl rfl ?_
            refine vr_aload_n (pc := 55) 0 dX7_turnsTimesSize_55 rfl rfl ?_
            refine vr_getI (pc := 56) 1 dX7_turnsTimesSize_56 fi_X7_9 hq0 (sh_6_1 hq0) ?_
            refine vr_isub (pc := 59) dX7_turnsTimesSize_59 ?_
            refine vr_aload_n (pc := 60) 0 dX7_turnsTimesSize_60 rfl rfl ?_
            refine vr_getI (pc := 61) 2 dX7_turnsTimesSize_61 fi_X7_21 hq0 (sh_6_2 hq0) ?_
            refine vr_isub (pc := 64) dX7_turnsTimesSize_64 ?_
            subst h
            exact vr_iret (pc := 65) .int dX7_turnsTimesSize_65 rfl rfl rfl
          · rw [if_neg c5] at h
            refine vr_tableOut (pc := 4) 74 dX7_turnsTimesSize_4 (tab_out (x := (σ.1 q0 0)) 0 4 (fun z1 z2 => by rcases (show (σ.1 q0 0).toInt = 0 ∨ (σ.1 q0 0).toInt = 1 ∨ (σ.1 q0 0).toInt = 2 ∨ (σ.1 q0 0).toInt = 3 ∨ (σ.1 q0 0).toInt = 4 from by omega) with z | z | z | z | z <;> first | exact c1 (i32_of z (by decide)) | exact c2 (i32_of z (by decide)) | exact c3 (i32_of z (by decide)) | exact c4 (i32_of z (by decide)) | exact c5 (i32_of z (by decide)))) (by decide) ?_
            refine vr_bipush (pc := 74) (-2) dX7_turnsTimesSize_74 cb_m2 ?_
            refine vr_iload_n (pc := 76) 1 dX7_turnsTimesSize_76 rfl rfl ?_
            refine vr_aload_n (pc := 77) 0 dX7_turnsTimesSize_77 rfl rfl ?_
            refine vr_getI (pc := 78) 1 dX7_turnsTimesSize_78 fi_X7_9 hq0 (sh_6_1 hq0) ?_
            refine vr_iadd (pc := 81) dX7_turnsTimesSize_81 ?_
            refine vr_imul (pc := 82) dX7_turnsTimesSize_82 ?_
            subst h
            exact vr_iret (pc := 83) .int dX7_turnsTimesSize_83 rfl rfl rfl
