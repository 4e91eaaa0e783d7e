def p_X7 (g : GG) (h0 : Nat) (w : va_W) : Prop := w = ((h0, .inr (6, [.int 0, .int 1, .int 0, .int 1, .int 0, .int 0])) :: ([] : va_W))
theorem mem_X7 {g : GG} {h0 : Nat} {w : va_W} (h : p_X7 g h0 w) : ∃ vs, (h0, .inr (6, vs)) ∈ w := by
  have h : w = _ := h
  subst h
  exact ⟨_, List.mem_cons_self⟩
theorem dX7_init_0 : decode cX7_init 0 = .ok (.aload_n 0, 1) := by decide +kernel
theorem dX7_init_1 : decode cX7_init 1 = .ok (.invokespecial 3, 3) := by decide +kernel
theorem dX7_init_4 : decode cX7_init 4 = .ok (.aload_n 0, 1) := by decide +kernel
theorem dX7_init_5 : decode cX7_init 5 = .ok (.iconst 1, 1) := by decide +kernel
theorem dX7_init_6 : decode cX7_init 6 = .ok (.putfield 9, 3) := by decide +kernel
theorem dX7_init_9 : decode cX7_init 9 = .ok (.aload_n 0, 1) := by decide +kernel
theorem dX7_init_10 : decode cX7_init 10 = .ok (.iconst 1, 1) := by decide +kernel
theorem dX7_init_11 : decode cX7_init 11 = .ok (.putfield 15, 3) := by decide +kernel
theorem dX7_init_14 : decode cX7_init 14 = .ok (.return_, 1) := by decide +kernel
theorem mo_X7_3 : Cond.methodLink RX7 3 objectInit ∈ lw_g := lw_in 87 (by decide +kernel) rfl
theorem w_oi : Cond.instanceMethod objectInit ∈ lw_g ∧ Cond.code objectInit ⟨#[0xb1]⟩ 1 none ∈ lw_g := ⟨lw_in 73 (by decide +kernel) rfl, lw_in 74 (by decide +kernel) rfl⟩
theorem ki_X7 : KI 6 RX7 TX7 6 tyX7 := ⟨rfl, igX7, tyX7_ok, nmX7⟩
set_option maxRecDepth 20000 in
set_option maxHeartbeats 4000000 in
theorem k_X7 (l : Launch) (g : GG) (h0 sz : Nat) : CB l g 1 yX7_init cX7_init 1 h0 [(h0, .inr (6, [.int 0, .int 0, .int 0, .int 0, .int 0, .int 0]))] sz (p_X7 g h0) 0 0 := by
  refine CB.of RX7 (by decide +kernel) rfl rfl (by decide) ?_
  refine vx_aload_n (pc := 0) 0 dX7_init_0 rfl rfl ?_
  refine wb_objInit (pc := 1) dX7_init_1 mo_X7_3 w_oi (by decide) (Nat.le_of_ble_eq_true rfl) ?_
  refine vx_aload_n (pc := 4) 0 dX7_init_4 rfl rfl ?_
  refine vx_iconst (pc := 5) 1 dX7_init_5 (by decide) ?_
  refine wb_put (fs := [.int 0, .int 0, .int 0, .int 0, .int 0, .int 0]) (pc := 6) (k := 0) (sl := 0) (pre := ([] : va_W)) (pst := ([] : va_W)) 1 [.int 0, .int 1, .int 0, .int 0, .int 0, .int 0] dX7_init_6 ki_X7 (lw_in 91 (by decide +kernel) rfl) (by decide) rfl rfl ⟨rfl, rfl⟩ (Nat.le_of_ble_eq_true rfl) rfl (by simp) ?_
  refine vx_aload_n (pc := 9) 0 dX7_init_9 rfl rfl ?_
  refine vx_iconst (pc := 10) 1 dX7_init_10 (by decide) ?_
  refine wb_put (fs := [.int 0, .int 1, .int 0, .int 0, .int 0, .int 0]) (pc := 11) (k := 0) (sl := 0) (pre := ([] : va_W)) (pst := ([] : va_W)) 3 [.int 0, .int 1, .int 0, .int 1, .int 0, .int 0] dX7_init_11 ki_X7 (lw_in 97 (by decide +kernel) rfl) (by decide) rfl rfl ⟨rfl, rfl⟩ (Nat.le_of_ble_eq_true rfl) rfl (by simp) ?_
  exact wb_ret (pc := 14) (k := 0) (sl := 0) dX7_init_14 (by decide) (by decide) (by show _ = _; simp)
def p_X5 (g : GG) (h0 : Nat) (w : va_W) : Prop := ∃ (q1 : Nat), w = ((h0, .inr (4, [.int (-1), .ref q1])) :: ((q1, .inl (g.2.2 9, 40, .inl (fun _ => 0))) :: ([] : va_W)))
theorem mem_X5 {g : GG} {h0 : Nat} {w : va_W} (h : p_X5 g h0 w) : ∃ vs, (h0, .inr (4, vs)) ∈ w := by
  obtain ⟨q1, rfl⟩ := h
  exact ⟨_, List.mem_cons_self⟩
theorem dX5_init_0 : decode cX5_init 0 = .ok (.aload_n 0, 1) := by decide +kernel
theorem dX5_init_1 : decode cX5_init 1 = .ok (.invokespecial 3, 3) := by decide +kernel
theorem dX5_init_4 : decode cX5_init 4 = .ok (.aload_n 0, 1) := by decide +kernel
theorem dX5_init_5 : decode cX5_init 5 = .ok (.iconst (-1), 1) := by decide +kernel
theorem dX5_init_6 : decode cX5_init 6 = .ok (.putfield 9, 3) := by decide +kernel
theorem dX5_init_9 : decode cX5_init 9 = .ok (.aload_n 0, 1) := by decide +kernel
theorem dX5_init_10 : decode cX5_init 10 = .ok (.bipush 40, 2) := by decide +kernel
theorem dX5_init_12 : decode cX5_init 12 = .ok (.newarray .int, 2) := by decide +kernel
theorem dX5_init_14 : decode cX5_init 14 = .ok (.putfield 15, 3) := by decide +kernel
theorem dX5_init_17 : decode cX5_init 17 = .ok (.return_, 1) := by decide +kernel
theorem mo_X5_3 : Cond.methodLink RX5 3 objectInit ∈ lw_g := lw_in 262 (by decide +kernel) rfl
theorem ki_X5 : KI 4 RX5 TX5 2 tyX5 := ⟨rfl, igX5, tyX5_ok, nmX5⟩
set_option maxRecDepth 20000 in
set_option maxHeartbeats 4000000 in
theorem k_X5 (l : Launch) (g : GG) (h0 sz : Nat) : CB l g 1 yX5_init cX5_init 1 h0 [(h0, .inr (4, [.int 0, .null]))] sz (p_X5 g h0) 1 40 := by
  refine CB.of RX5 (by decide +kernel) rfl rfl (by decide) ?_
  refine vx_aload_n (pc := 0) 0 dX5_init_0 rfl rfl ?_
  refine wb_objInit (pc := 1) dX5_init_1 mo_X5_3 w_oi (by decide) (Nat.le_of_ble_eq_true rfl) ?_
  refine vx_aload_n (pc := 4) 0 dX5_init_4 rfl rfl ?_
  refine vx_iconst (pc := 5) (-1) dX5_init_5 (by decide) ?_
  refine wb_put (fs := [.int 0, .null]) (pc := 6) (k := 0) (sl := 0) (pre := ([] : va_W)) (pst := ([] : va_W)) 0 [.int (-1), .null] dX5_init_6 ki_X5 (lw_in 263 (by decide +kernel) rfl) (by decide) rfl rfl ⟨rfl, rfl⟩ (Nat.le_of_ble_eq_true rfl) rfl (by simp) ?_
  refine vx_aload_n (pc := 9) 0 dX5_init_9 rfl rfl ?_
  refine vx_bipush (pc := 10) 40 dX5_init_10 (by decide) ?_
  refine wb_newa (pc := 12) (k := 0) (sl := 0) 40 .int 0 9 (40, .inl (fun _ => 0)) dX5_init_12 (lw_in 122 (by decide +kernel) rfl) rfl (fun _ => rfl) (fun _ => rfl) (by decide) (by decide) (by decide) (by decide) (by decide) (fun q1 => ?_)
  refine wb_put (fs := [.int (-1), .null]) (pc := 14) (k := 1) (sl := 40) (pre := ([] : va_W)) (pst := ((q1, .inl (g.2.2 9, 40, .inl (fun _ => 0))) :: ([] : va_W))) 1 [.int (-1), .ref q1] dX5_init_14 ki_X5 (lw_in 266 (by decide +kernel) rfl) (by decide) rfl rfl (fits_ref (Or.inr ⟨_, rfl⟩)) (Nat.le_of_ble_eq_true rfl) rfl (by simp) ?_
  exact wb_ret (pc := 17) (k := 1) (sl := 40) dX5_init_17 (by decide) (by decide) ⟨q1, by simp⟩
def p_X1 (g : GG) (h0 : Nat) (w : va_W) : Prop := ∃ (q1 : Nat), w = ((h0, .inr (1, [.ref q1, .int 0])) :: ((q1, .inl (g.2.2 9, 72, .inl (fun _ => 0))) :: ([] : va_W)))
theorem mem_X1 {g : GG} {h0 : Nat} {w : va_W} (h : p_X1 g h0 w) : ∃ vs, (h0, .inr (1, vs)) ∈ w := by
  obtain ⟨q1, rfl⟩ := h
  exact ⟨_, List.mem_cons_self⟩
theorem dX1_init_0 : decode cX1_init 0 = .ok (.aload_n 0, 1) := by decide +kernel
theorem dX1_init_1 : decode cX1_init 1 = .ok (.invokespecial 3, 3) := by decide +kernel
theorem dX1_init_4 : decode cX1_init 4 = .ok (.aload_n 0, 1) := by decide +kernel
theorem dX1_init_5 : decode cX1_init 5 = .ok (.bipush 72, 2) := by decide +kernel
theorem dX1_init_7 : decode cX1_init 7 = .ok (.newarray .int, 2) := by decide +kernel
theorem dX1_init_9 : decode cX1_init 9 = .ok (.putfield 9, 3) := by decide +kernel
theorem dX1_init_12 : decode cX1_init 12 = .ok (.return_, 1) := by decide +kernel
theorem mo_X1_3 : Cond.methodLink RX1 3 objectInit ∈ lw_g := lw_in 171 (by decide +kernel) rfl
theorem ki_X1 : KI 1 RX1 TX1 2 tyX1 := ⟨rfl, igX1, tyX1_ok, nmX1⟩
set_option maxRecDepth 20000 in
set_option maxHeartbeats 4000000 in
theorem k_X1 (l : Launch) (g : GG) (h0 sz : Nat) : CB l g 1 yX1_init cX1_init 1 h0 [(h0, .inr (1, [.null, .int 0]))] sz (p_X1 g h0) 1 72 := by
  refine CB.of RX1 (by decide +kernel) rfl rfl (by decide) ?_
  refine vx_aload_n (pc := 0) 0 dX1_init_0 rfl rfl ?_
  refine wb_objInit (pc := 1) dX1_init_1 mo_X1_3 w_oi (by decide) (Nat.le_of_ble_eq_true rfl) ?_
  refine vx_aload_n (pc := 4) 0 dX1_init_4 rfl rfl ?_
  refine vx_bipush (pc := 5) 72 dX1_init_5 (by decide) ?_
  refine wb_newa (pc := 7) (k := 0) (sl := 0) 72 .int 0 9 (72, .inl (fun _ => 0)) dX1_init_7 (lw_in 122 (by decide +kernel) rfl) rfl (fun _ => rfl) (fun _ => rfl) (by decide) (by decide) (by decide) (by decide) (by decide) (fun q1 => ?_)
  refine wb_put (fs := [.null, .int 0]) (pc := 9) (k := 1) (sl := 72) (pre := ([] : va_W)) (pst := ((q1, .inl (g.2.2 9, 72, .inl (fun _ => 0))) :: ([] : va_W))) 0 [.ref q1, .int 0] dX1_init_9 ki_X1 (lw_in 172 (by decide +kernel) rfl) (by decide) rfl rfl (fits_ref (Or.inr ⟨_, rfl⟩)) (Nat.le_of_ble_eq_true rfl) rfl (by simp) ?_
  exact wb_ret (pc := 12) (k := 1) (sl := 72) dX1_init_12 (by decide) (by decide) ⟨q1, by simp⟩
def p_X0 (g : GG) (h0 : Nat) (w : va_W) : Prop := ∃ (q1 : Nat) (q2 : Nat) (q3 : Nat) (q4 : Nat) (q5 : Nat), w = ((h0, .inr (0, [.int 0, .int 0, .int 0, .int 0, .int 0, .ref q1, .ref q2, .ref q3, .ref q4, .ref q5])) :: ((q1, .inl (g.2.2 9, 60, .inl (fun _ => 0))) :: ((q2, .inl (g.2.2 9, 60, .inl (fun _ => 0))) :: ((q3, .inl (g.2.2 9, 60, .inl (fun _ => 0))) :: ((q4, .inl (g.2.2 9, 60, .inl (fun _ => 0))) :: ((q5, .inl (g.2.2 11, 60, .inr (.inl (fun _ => 0)))) :: ([] : va_W)))))))
theorem mem_X0 {g : GG} {h0 : Nat} {w : va_W} (h : p_X0 g h0 w) : ∃ vs, (h0, .inr (0, vs)) ∈ w := by
  obtain ⟨q1, q2, q3, q4, q5, rfl⟩ := h
  exact ⟨_, List.mem_cons_self⟩
theorem dX0_init_0 : decode cX0_init 0 = .ok (.aload_n 0, 1) := by decide +kernel
theorem dX0_init_1 : decode cX0_init 1 = .ok (.invokespecial 3, 3) := by decide +kernel
theorem dX0_init_4 : decode cX0_init 4 = .ok (.aload_n 0, 1) := by decide +kernel
theorem dX0_init_5 : decode cX0_init 5 = .ok (.bipush 60, 2) := by decide +kernel
theorem dX0_init_7 : decode cX0_init 7 = .ok (.newarray .int, 2) := by decide +kernel
theorem dX0_init_9 : decode cX0_init 9 = .ok (.putfield 9, 3) := by decide +kernel
theorem dX0_init_12 : decode cX0_init 12 = .ok (.aload_n 0, 1) := by decide +kernel
theorem dX0_init_13 : decode cX0_init 13 = .ok (.bipush 60, 2) := by decide +kernel
theorem dX0_init_15 : decode cX0_init 15 = .ok (.newarray .int, 2) := by decide +kernel
theorem dX0_init_17 : decode cX0_init 17 = .ok (.putfield 15, 3) := by decide +kernel
theorem dX0_init_20 : decode cX0_init 20 = .ok (.aload_n 0, 1) := by decide +kernel
theorem dX0_init_21 : decode cX0_init 21 = .ok (.bipush 60, 2) := by decide +kernel
theorem dX0_init_23 : decode cX0_init 23 = .ok (.newarray .int, 2) := by decide +kernel
theorem dX0_init_25 : decode cX0_init 25 = .ok (.putfield 18, 3) := by decide +kernel
theorem dX0_init_28 : decode cX0_init 28 = .ok (.aload_n 0, 1) := by decide +kernel
theorem dX0_init_29 : decode cX0_init 29 = .ok (.bipush 60, 2) := by decide +kernel
theorem dX0_init_31 : decode cX0_init 31 = .ok (.newarray .int, 2) := by decide +kernel
theorem dX0_init_33 : decode cX0_init 33 = .ok (.putfield 21, 3) := by decide +kernel
theorem dX0_init_36 : decode cX0_init 36 = .ok (.aload_n 0, 1) := by decide +kernel
theorem dX0_init_37 : decode cX0_init 37 = .ok (.bipush 60, 2) := by decide +kernel
theorem dX0_init_39 : decode cX0_init 39 = .ok (.newarray .long, 2) := by decide +kernel
theorem dX0_init_41 : decode cX0_init 41 = .ok (.putfield 24, 3) := by decide +kernel
theorem dX0_init_44 : decode cX0_init 44 = .ok (.return_, 1) := by decide +kernel
theorem mo_X0_3 : Cond.methodLink RX0 3 objectInit ∈ lw_g := lw_in 187 (by decide +kernel) rfl
theorem ki_X0 : KI 0 RX0 TX0 10 tyX0 := ⟨rfl, igX0, tyX0_ok, nmX0⟩
set_option maxRecDepth 20000 in
set_option maxHeartbeats 4000000 in
theorem k_X0 (l : Launch) (g : GG) (h0 sz : Nat) : CB l g 1 yX0_init cX0_init 1 h0 [(h0, .inr (0, [.int 0, .int 0, .int 0, .int 0, .int 0, .null, .null, .null, .null, .null]))] sz (p_X0 g h0) 5 300 := by
  refine CB.of RX0 (by decide +kernel) rfl rfl (by decide) ?_
  refine vx_aload_n (pc := 0) 0 dX0_init_0 rfl rfl ?_
  refine wb_objInit (pc := 1) dX0_init_1 mo_X0_3 w_oi (by decide) (Nat.le_of_ble_eq_true rfl) ?_
  refine vx_aload_n (pc := 4) 0 dX0_init_4 rfl rfl ?_
  refine vx_bipush (pc := 5) 60 dX0_init_5 (by decide) ?_
  refine wb_newa (pc := 7) (k := 0) (sl := 0) 60 .int 0 9 (60, .inl (fun _ => 0)) dX0_init_7 (lw_in 122 (by decide +kernel) rfl) rfl (fun _ => rfl) (fun _ => rfl) (by decide) (by decide) (by decide) (by decide) (by decide) (fun q1 => ?_)
  refine wb_put (fs := [.int 0, .int 0, .int 0, .int 0, .int 0, .null, .null, .null, .null, .null]) (pc := 9) (k := 1) (sl := 60) (pre := ([] : va_W)) (pst := ((q1, .inl (g.2.2 9, 60, .inl (fun _ => 0))) :: ([] : va_W))) 5 [.int 0, .int 0, .int 0, .int 0, .int 0, .ref q1, .null, .null, .null, .null] dX0_init_9 ki_X0 (lw_in 195 (by decide +kernel) rfl) (by decide) rfl rfl (fits_ref (Or.inr ⟨_, rfl⟩)) (Nat.le_of_ble_eq_true rfl) rfl (by simp) ?_
  refine vx_aload_n (pc := 12) 0 dX0_init_12 rfl rfl ?_
  refine vx_bipush (pc := 13) 60 dX0_init_13 (by decide) ?_
  refine wb_newa (pc := 15) (k := 1) (sl := 60) 60 .int 0 9 (60, .inl (fun _ => 0)) dX0_init_15 (lw_in 122 (by decide +kernel) rfl) rfl (fun _ => rfl) (fun _ => rfl) (by decide) (by decide) (by decide) (by decide) (by decide) (fun q2 => ?_)
  refine wb_put (fs := [.int 0, .int 0, .int 0, .int 0, .int 0, .ref q1, .null, .null, .null, .null]) (pc := 17) (k := 2) (sl := 120) (pre := ([] : va_W)) (pst := ((q1, .inl (g.2.2 9, 60, .inl (fun _ => 0))) :: ((q2, .inl (g.2.2 9, 60, .inl (fun _ => 0))) :: ([] : va_W)))) 6 [.int 0, .int 0, .int 0, .int 0, .int 0, .ref q1, .ref q2, .null, .null, .null] dX0_init_17 ki_X0 (lw_in 197 (by decide +kernel) rfl) (by decide) rfl rfl (fits_ref (Or.inr ⟨_, rfl⟩)) (Nat.le_of_ble_eq_true rfl) rfl (by simp) ?_
  refine vx_aload_n (pc := 20) 0 dX0_init_20 rfl rfl ?_
  refine vx_bipush (pc := 21) 60 dX0_init_21 (by decide) ?_
  refine wb_newa (pc := 23) (k := 2) (sl := 120) 60 .int 0 9 (60, .inl (fun _ => 0)) dX0_init_23 (lw_in 122 (by decide +kernel) rfl) rfl (fun _ => rfl) (fun _ => rfl) (by decide) (by decide) (by decide) (by decide) (by decide) (fun q3 => ?_)
  refine wb_put (fs := [.int 0, .int 0, .int 0, .int 0, .int 0, .ref q1, .ref q2, .null, .null, .null]) (pc := 25) (k := 3) (sl := 180) (pre := ([] : va_W)) (pst := ((q1, .inl (g.2.2 9, 60, .inl (fun _ => 0))) :: ((q2, .inl (g.2.2 9, 60, .inl (fun _ => 0))) :: ((q3, .inl (g.2.2 9, 60, .inl (fun _ => 0))) :: ([] : va_W))))) 7 [.int 0, .int 0, .int 0, .int 0, .int 0, .ref q1, .ref q2, .ref q3, .null, .null] dX0_init_25 ki_X0 (lw_in 198 (by decide +kernel) rfl) (by decide) rfl rfl (fits_ref (Or.inr ⟨_, rfl⟩)) (Nat.le_of_ble_eq_true rfl) rfl (by simp) ?_
  refine vx_aload_n (pc := 28) 0 dX0_init_28 rfl rfl ?_
  refine vx_bipush (pc := 29) 60 dX0_init_29 (by decide) ?_
  refine wb_newa (pc := 31) (k := 3) (sl := 180) 60 .int 0 9 (60, .inl (fun _ => 0)) dX0_init_31 (lw_in 122 (by decide +kernel) rfl) rfl (fun _ => rfl) (fun _ => rfl) (by decide) (by decide) (by decide) (by decide) (by decide) (fun q4 => ?_)
  refine wb_put (fs := [.int 0, .int 0, .int 0, .int 0, .int 0, .ref q1, .ref q2, .ref q3, .null, .null]) (pc := 33) (k := 4) (sl := 240) (pre := ([] : va_W)) (pst := ((q1, .inl (g.2.2 9, 60, .inl (fun _ => 0))) :: ((q2, .inl (g.2.2 9, 60, .inl (fun _ => 0))) :: ((q3, .inl (g.2.2 9, 60, .inl (fun _ => 0))) :: ((q4, .inl (g.2.2 9, 60, .inl (fun _ => 0))) :: ([] : va_W)))))) 8 [.int 0, .int 0, .int 0, .int 0, .int 0, .ref q1, .ref q2, .ref q3, .ref q4, .null] dX0_init_33 ki_X0 (lw_in 199 (by decide +kernel) rfl) (by decide) rfl rfl (fits_ref (Or.inr ⟨_, rfl⟩)) (Nat.le_of_ble_eq_true rfl) rfl (by simp) ?_
  refine vx_aload_n (pc := 36) 0 dX0_init_36 rfl rfl ?_
  refine vx_bipush (pc := 37) 60 dX0_init_37 (by decide) ?_
  refine wb_newa (pc := 39) (k := 4) (sl := 240) 60 .long 2 11 (60, .inr (.inl (fun _ => 0))) dX0_init_39 (lw_in 222 (by decide +kernel) rfl) rfl (fun _ => rfl) (fun _ => rfl) (by decide) (by decide) (by decide) (by decide) (by decide) (fun q5 => ?_)
  refine wb_put (fs := [.int 0, .int 0, .int 0, .int 0, .int 0, .ref q1, .ref q2, .ref q3, .ref q4, .null]) (pc := 41) (k := 5) (sl := 300) (pre := ([] : va_W)) (pst := ((q1, .inl (g.2.2 9, 60, .inl (fun _ => 0))) :: ((q2, .inl (g.2.2 9, 60, .inl (fun _ => 0))) :: ((q3, .inl (g.2.2 9, 60, .inl (fun _ => 0))) :: ((q4, .inl (g.2.2 9, 60, .inl (fun _ => 0))) :: ((q5, .inl (g.2.2 11, 60, .inr (.inl (fun _ => 0)))) :: ([] : va_W))))))) 9 [.int 0, .int 0, .int 0, .int 0, .int 0, .ref q1, .ref q2, .ref q3, .ref q4, .ref q5] dX0_init_41 ki_X0 (lw_in 200 (by decide +kernel) rfl) (by decide) rfl rfl (fits_ref (Or.inr ⟨_, rfl⟩)) (Nat.le_of_ble_eq_true rfl) rfl (by simp) ?_
  exact wb_ret (pc := 44) (k := 5) (sl := 300) dX0_init_44 (by decide) (by decide) ⟨q1, q2, q3, q4, q5, by simp⟩
def p_X6 (g : GG) (h0 : Nat) (w : va_W) : Prop := ∃ (q1 : Nat) (q2 : Nat) (q3 : Nat) (q4 : Nat) (q5 : Nat) (q6 : Nat), w = ((h0, .inr (5, [.ref q1, .ref q2, .ref q3, .ref q4, .ref q5, .ref q6, .int 0])) :: ((q1, .inl (g.2.2 9, 6, .inl (fun _ => 0))) :: ((q2, .inl (g.2.2 10, 6, .inl (fun _ => 0))) :: ((q3, .inl (g.2.2 9, 100, .inl (fun _ => 0))) :: ((q4, .inl (g.2.2 9, 100, .inl (fun _ => 0))) :: ((q5, .inl (g.2.2 9, 100, .inl (fun _ => 0))) :: ((q6, .inl (g.2.2 9, 60, .inl (fun _ => 0))) :: ([] : va_W))))))))
theorem mem_X6 {g : GG} {h0 : Nat} {w : va_W} (h : p_X6 g h0 w) : ∃ vs, (h0, .inr (5, vs)) ∈ w := by
  obtain ⟨q1, q2, q3, q4, q5, q6, rfl⟩ := h
  exact ⟨_, List.mem_cons_self⟩
theorem dX6_init_0 : decode cX6_init 0 = .ok (.aload_n 0, 1) := by decide +kernel
theorem dX6_init_1 : decode cX6_init 1 = .ok (.invokespecial 3, 3) := by decide +kernel
theorem dX6_init_4 : decode cX6_init 4 = .ok (.aload_n 0, 1) := by decide +kernel
theorem dX6_init_5 : decode cX6_init 5 = .ok (.bipush 6, 2) := by decide +kernel
theorem dX6_init_7 : decode cX6_init 7 = .ok (.newarray .int, 2) := by decide +kernel
theorem dX6_init_9 : decode cX6_init 9 = .ok (.putfield 9, 3) := by decide +kernel
theorem dX6_init_12 : decode cX6_init 12 = .ok (.aload_n 0, 1) := by decide +kernel
theorem dX6_init_13 : decode cX6_init 13 = .ok (.bipush 6, 2) := by decide +kernel
theorem dX6_init_15 : decode cX6_init 15 = .ok (.newarray .boolean, 2) := by decide +kernel
theorem dX6_init_17 : decode cX6_init 17 = .ok (.putfield 15, 3) := by decide +kernel
theorem dX6_init_20 : decode cX6_init 20 = .ok (.aload_n 0, 1) := by decide +kernel
theorem dX6_init_21 : decode cX6_init 21 = .ok (.bipush 100, 2) := by decide +kernel
theorem dX6_init_23 : decode cX6_init 23 = .ok (.newarray .int, 2) := by decide +kernel
theorem dX6_init_25 : decode cX6_init 25 = .ok (.putfield 19, 3) := by decide +kernel
theorem dX6_init_28 : decode cX6_init 28 = .ok (.aload_n 0, 1) := by decide +kernel
theorem dX6_init_29 : decode cX6_init 29 = .ok (.bipush 100, 2) := by decide +kernel
theorem dX6_init_31 : decode cX6_init 31 = .ok (.newarray .int, 2) := by decide +kernel
theorem dX6_init_33 : decode cX6_init 33 = .ok (.putfield 22, 3) := by decide +kernel
theorem dX6_init_36 : decode cX6_init 36 = .ok (.aload_n 0, 1) := by decide +kernel
theorem dX6_init_37 : decode cX6_init 37 = .ok (.bipush 100, 2) := by decide +kernel
theorem dX6_init_39 : decode cX6_init 39 = .ok (.newarray .int, 2) := by decide +kernel
theorem dX6_init_41 : decode cX6_init 41 = .ok (.putfield 25, 3) := by decide +kernel
theorem dX6_init_44 : decode cX6_init 44 = .ok (.aload_n 0, 1) := by decide +kernel
theorem dX6_init_45 : decode cX6_init 45 = .ok (.bipush 60, 2) := by decide +kernel
theorem dX6_init_47 : decode cX6_init 47 = .ok (.newarray .int, 2) := by decide +kernel
theorem dX6_init_49 : decode cX6_init 49 = .ok (.putfield 28, 3) := by decide +kernel
theorem dX6_init_52 : decode cX6_init 52 = .ok (.return_, 1) := by decide +kernel
theorem mo_X6_3 : Cond.methodLink RX6 3 objectInit ∈ lw_g := lw_in 228 (by decide +kernel) rfl
theorem ki_X6 : KI 5 RX6 TX6 7 tyX6 := ⟨rfl, igX6, tyX6_ok, nmX6⟩
set_option maxRecDepth 20000 in
set_option maxHeartbeats 4000000 in
theorem k_X6 (l : Launch) (g : GG) (h0 sz : Nat) : CB l g 1 yX6_init cX6_init 1 h0 [(h0, .inr (5, [.null, .null, .null, .null, .null, .null, .int 0]))] sz (p_X6 g h0) 6 372 := by
  refine CB.of RX6 (by decide +kernel) rfl rfl (by decide) ?_
  refine vx_aload_n (pc := 0) 0 dX6_init_0 rfl rfl ?_
  refine wb_objInit (pc := 1) dX6_init_1 mo_X6_3 w_oi (by decide) (Nat.le_of_ble_eq_true rfl) ?_
  refine vx_aload_n (pc := 4) 0 dX6_init_4 rfl rfl ?_
  refine vx_bipush (pc := 5) 6 dX6_init_5 (by decide) ?_
  refine wb_newa (pc := 7) (k := 0) (sl := 0) 6 .int 0 9 (6, .inl (fun _ => 0)) dX6_init_7 (lw_in 122 (by decide +kernel) rfl) rfl (fun _ => rfl) (fun _ => rfl) (by decide) (by decide) (by decide) (by decide) (by decide) (fun q1 => ?_)
  refine wb_put (fs := [.null, .null, .null, .null, .null, .null, .int 0]) (pc := 9) (k := 1) (sl := 6) (pre := ([] : va_W)) (pst := ((q1, .inl (g.2.2 9, 6, .inl (fun _ => 0))) :: ([] : va_W))) 0 [.ref q1, .null, .null, .null, .null, .null, .int 0] dX6_init_9 ki_X6 (lw_in 229 (by decide +kernel) rfl) (by decide) rfl rfl (fits_ref (Or.inr ⟨_, rfl⟩)) (Nat.le_of_ble_eq_true rfl) rfl (by simp) ?_
  refine vx_aload_n (pc := 12) 0 dX6_init_12 rfl rfl ?_
  refine vx_bipush (pc := 13) 6 dX6_init_13 (by decide) ?_
  refine wb_newa (pc := 15) (k := 1) (sl := 6) 6 .boolean 1 10 (6, .inl (fun _ => 0)) dX6_init_15 (lw_in 255 (by decide +kernel) rfl) rfl (fun _ => rfl) (fun _ => rfl) (by decide) (by decide) (by decide) (by decide) (by decide) (fun q2 => ?_)
  refine wb_put (fs := [.ref q1, .null, .null, .null, .null, .null, .int 0]) (pc := 17) (k := 2) (sl := 12) (pre := ([] : va_W)) (pst := ((q1, .inl (g.2.2 9, 6, .inl (fun _ => 0))) :: ((q2, .inl (g.2.2 10, 6, .inl (fun _ => 0))) :: ([] : va_W)))) 1 [.ref q1, .ref q2, .null, .null, .null, .null, .int 0] dX6_init_17 ki_X6 (lw_in 230 (by decide +kernel) rfl) (by decide) rfl rfl (fits_ref (Or.inr ⟨_, rfl⟩)) (Nat.le_of_ble_eq_true rfl) rfl (by simp) ?_
  refine vx_aload_n (pc := 20) 0 dX6_init_20 rfl rfl ?_
  refine vx_bipush (pc := 21) 100 dX6_init_21 (by decide) ?_
  refine wb_newa (pc := 23) (k := 2) (sl := 12) 100 .int 0 9 (100, .inl (fun _ => 0)) dX6_init_23 (lw_in 122 (by decide +kernel) rfl) rfl (fun _ => rfl) (fun _ => rfl) (by decide) (by decide) (by decide) (by decide) (by decide) (fun q3 => ?_)
  refine wb_put (fs := [.ref q1, .ref q2, .null, .null, .null, .null, .int 0]) (pc := 25) (k := 3) (sl := 112) (pre := ([] : va_W)) (pst := ((q1, .inl (g.2.2 9, 6, .inl (fun _ => 0))) :: ((q2, .inl (g.2.2 10, 6, .inl (fun _ => 0))) :: ((q3, .inl (g.2.2 9, 100, .inl (fun _ => 0))) :: ([] : va_W))))) 2 [.ref q1, .ref q2, .ref q3, .null, .null, .null, .int 0] dX6_init_25 ki_X6 (lw_in 231 (by decide +kernel) rfl) (by decide) rfl rfl (fits_ref (Or.inr ⟨_, rfl⟩)) (Nat.le_of_ble_eq_true rfl) rfl (by simp) ?_
  refine vx_aload_n (pc := 28) 0 dX6_init_28 rfl rfl ?_
  refine vx_bipush (pc := 29) 100 dX6_init_29 (by decide) ?_
  refine wb_newa (pc := 31) (k := 3) (sl := 112) 100 .int 0 9 (100, .inl (fun _ => 0)) dX6_init_31 (lw_in 122 (by decide +kernel) rfl) rfl (fun _ => rfl) (fun _ => rfl) (by decide) (by decide) (by decide) (by decide) (by decide) (fun q4 => ?_)
  refine wb_put (fs := [.ref q1, .ref q2, .ref q3, .null, .null, .null, .int 0]) (pc := 33) (k := 4) (sl := 212) (pre := ([] : va_W)) (pst := ((q1, .inl (g.2.2 9, 6, .inl (fun _ => 0))) :: ((q2, .inl (g.2.2 10, 6, .inl (fun _ => 0))) :: ((q3, .inl (g.2.2 9, 100, .inl (fun _ => 0))) :: ((q4, .inl (g.2.2 9, 100, .inl (fun _ => 0))) :: ([] : va_W)))))) 3 [.ref q1, .ref q2, .ref q3, .ref q4, .null, .null, .int 0] dX6_init_33 ki_X6 (lw_in 233 (by decide +kernel) rfl) (by decide) rfl rfl (fits_ref (Or.inr ⟨_, rfl⟩)) (Nat.le_of_ble_eq_true rfl) rfl (by simp) ?_
  refine vx_aload_n (pc := 36) 0 dX6_init_36 rfl rfl ?_
  refine vx_bipush (pc := 37) 100 dX6_init_37 (by decide) ?_
  refine wb_newa (pc := 39) (k := 4) (sl := 212) 100 .int 0 9 (100, .inl (fun _ => 0)) dX6_init_39 (lw_in 122 (by decide +kernel) rfl) rfl (fun _ => rfl) (fun _ => rfl) (by decide) (by decide) (by decide) (by decide) (by decide) (fun q5 => ?_)
  refine wb_put (fs := [.ref q1, .ref q2, .ref q3, .ref q4, .null, .null, .int 0]) (pc := 41) (k := 5) (sl := 312) (pre := ([] : va_W)) (pst := ((q1, .inl (g.2.2 9, 6, .inl (fun _ => 0))) :: ((q2, .inl (g.2.2 10, 6, .inl (fun _ => 0))) :: ((q3, .inl (g.2.2 9, 100, .inl (fun _ => 0))) :: ((q4, .inl (g.2.2 9, 100, .inl (fun _ => 0))) :: ((q5, .inl (g.2.2 9, 100, .inl (fun _ => 0))) :: ([] : va_W))))))) 4 [.ref q1, .ref q2, .ref q3, .ref q4, .ref q5, .null, .int 0] dX6_init_41 ki_X6 (lw_in 235 (by decide +kernel) rfl) (by decide) rfl rfl (fits_ref (Or.inr ⟨_, rfl⟩)) (Nat.le_of_ble_eq_true rfl) rfl (by simp) ?_
  refine vx_aload_n (pc := 44) 0 dX6_init_44 rfl rfl ?_
  refine vx_bipush (pc := 45) 60 dX6_init_45 (by decide) ?_
  refine wb_newa (pc := 47) (k := 5) (sl := 312) 60 .int 0 9 (60, .inl (fun _ => 0)) dX6_init_47 (lw_in 122 (by decide +kernel) rfl) rfl (fun _ => rfl) (fun _ => rfl) (by decide) (by decide) (by decide) (by decide) (by decide) (fun q6 => ?_)
  refine wb_put (fs := [.ref q1, .ref q2, .ref q3, .ref q4, .ref q5, .null, .int 0]) (pc := 49) (k := 6) (sl := 372) (pre := ([] : va_W)) (pst := ((q1, .inl (g.2.2 9, 6, .inl (fun _ => 0))) :: ((q2, .inl (g.2.2 10, 6, .inl (fun _ => 0))) :: ((q3, .inl (g.2.2 9, 100, .inl (fun _ => 0))) :: ((q4, .inl (g.2.2 9, 100, .inl (fun _ => 0))) :: ((q5, .inl (g.2.2 9, 100, .inl (fun _ => 0))) :: ((q6, .inl (g.2.2 9, 60, .inl (fun _ => 0))) :: ([] : va_W)))))))) 5 [.ref q1, .ref q2, .ref q3, .ref q4, .ref q5, .ref q6, .int 0] dX6_init_49 ki_X6 (lw_in 237 (by decide +kernel) rfl) (by decide) rfl rfl (fits_ref (Or.inr ⟨_, rfl⟩)) (Nat.le_of_ble_eq_true rfl) rfl (by simp) ?_
  exact wb_ret (pc := 52) (k := 6) (sl := 372) dX6_init_52 (by decide) (by decide) ⟨q1, q2, q3, q4, q5, q6, by simp⟩
def p_X4 (g : GG) (h0 : Nat) (w : va_W) : Prop := ∃ (q1 : Nat) (q2 : Nat) (q3 : Nat) (q4 : Nat) (q6 : Nat) (q8 : Nat) (q10 : Nat) (q12 : Nat) (q14 : Nat), w = ((h0, .inr (3, [.int 24, .int 0, .ref q1, .ref q2, .ref q3])) :: ((q1, .inl (g.2.2 9, 60, .inl (fun _ => 0))) :: ((q2, .inl (g.2.2 9, 60, .inl (fun _ => 0))) :: ((q3, .inl (g.2.2 13, 6, .inr (.inr (.inr (.inr (va_up (va_up (va_up (va_up (va_up (va_up (fun _ => none) 0 (some q4)) 1 (some q6)) 2 (some q8)) 3 (some q10)) 4 (some q12)) 5 (some q14))))))) :: ((q4, .inr (6, [.int 0, .int 1, .int 0, .int 1, .int 0, .int 0])) :: ((q6, .inr (6, [.int 0, .int 1, .int 0, .int 1, .int 0, .int 0])) :: ((q8, .inr (6, [.int 0, .int 1, .int 0, .int 1, .int 0, .int 0])) :: ((q10, .inr (6, [.int 0, .int 1, .int 0, .int 1, .int 0, .int 0])) :: ((q12, .inr (6, [.int 0, .int 1, .int 0, .int 1, .int 0, .int 0])) :: ((q14, .inr (6, [.int 0, .int 1, .int 0, .int 1, .int 0, .int 0])) :: ([] : va_W)))))))))))
theorem mem_X4 {g : GG} {h0 : Nat} {w : va_W} (h : p_X4 g h0 w) : ∃ vs, (h0, .inr (3, vs)) ∈ w := by
  obtain ⟨q1, q2, q3, q4, q6, q8, q10, q12, q14, rfl⟩ := h
  exact ⟨_, List.mem_cons_self⟩
theorem dX4_init_0 : decode cX4_init 0 = .ok (.aload_n 0, 1) := by decide +kernel
theorem dX4_init_1 : decode cX4_init 1 = .ok (.invokespecial 3, 3) := by decide +kernel
theorem dX4_init_4 : decode cX4_init 4 = .ok (.aload_n 0, 1) := by decide +kernel
theorem dX4_init_5 : decode cX4_init 5 = .ok (.bipush 24, 2) := by decide +kernel
theorem dX4_init_7 : decode cX4_init 7 = .ok (.putfield 9, 3) := by decide +kernel
theorem dX4_init_10 : decode cX4_init 10 = .ok (.aload_n 0, 1) := by decide +kernel
theorem dX4_init_11 : decode cX4_init 11 = .ok (.bipush 60, 2) := by decide +kernel
theorem dX4_init_13 : decode cX4_init 13 = .ok (.newarray .int, 2) := by decide +kernel
theorem dX4_init_15 : decode cX4_init 15 = .ok (.putfield 15, 3) := by decide +kernel
theorem dX4_init_18 : decode cX4_init 18 = .ok (.aload_n 0, 1) := by decide +kernel
theorem dX4_init_19 : decode cX4_init 19 = .ok (.bipush 60, 2) := by decide +kernel
theorem dX4_init_21 : decode cX4_init 21 = .ok (.newarray .int, 2) := by decide +kernel
theorem dX4_init_23 : decode cX4_init 23 = .ok (.putfield 19, 3) := by decide +kernel
theorem dX4_init_26 : decode cX4_init 26 = .ok (.aload_n 0, 1) := by decide +kernel
theorem dX4_init_27 : decode cX4_init 27 = .ok (.bipush 6, 2) := by decide +kernel
theorem dX4_init_29 : decode cX4_init 29 = .ok (.anewarray 22, 3) := by decide +kernel
theorem dX4_init_32 : decode cX4_init 32 = .ok (.putfield 24, 3) := by decide +kernel
theorem dX4_init_35 : decode cX4_init 35 = .ok (.iconst 0, 1) := by decide +kernel
theorem dX4_init_36 : decode cX4_init 36 = .ok (.istore_n 1, 1) := by decide +kernel
theorem dX4_init_37 : decode cX4_init 37 = .ok (.iload_n 1, 1) := by decide +kernel
theorem dX4_init_38 : decode cX4_init 38 = .ok (.bipush 6, 2) := by decide +kernel
theorem dX4_init_40 : decode cX4_init 40 = .ok (.if_icmp .ge 22, 3) := by decide +kernel
theorem dX4_init_43 : decode cX4_init 43 = .ok (.aload_n 0, 1) := by decide +kernel
theorem dX4_init_44 : decode cX4_init 44 = .ok (.getfield 24, 3) := by decide +kernel
theorem dX4_init_47 : decode cX4_init 47 = .ok (.iload_n 1, 1) := by decide +kernel
theorem dX4_init_48 : decode cX4_init 48 = .ok (.new 22, 3) := by decide +kernel
theorem dX4_init_51 : decode cX4_init 51 = .ok (.dup, 1) := by decide +kernel
theorem dX4_init_52 : decode cX4_init 52 = .ok (.invokespecial 28, 3) := by decide +kernel
theorem dX4_init_55 : decode cX4_init 55 = .ok (.aastore, 1) := by decide +kernel
theorem dX4_init_56 : decode cX4_init 56 = .ok (.iinc 1 1, 3) := by decide +kernel
theorem dX4_init_59 : decode cX4_init 59 = .ok (.goto (-22), 3) := by decide +kernel
theorem dX4_init_62 : decode cX4_init 62 = .ok (.return_, 1) := by decide +kernel
theorem mo_X4_3 : Cond.methodLink RX4 3 objectInit ∈ lw_g := lw_in 80 (by decide +kernel) rfl
theorem ki_X4 : KI 3 RX4 TX4 5 tyX4 := ⟨rfl, igX4, tyX4_ok, nmX4⟩
theorem cwi_X7 : Cond.code yX7_init cX7_init 1 none ∈ lw_g ∧ Cond.initialized yX7_init.cls ∈ lw_g ∧ Cond.instanceMethod yX7_init ∈ lw_g ∧ yX7_init.name = "<init>" ∧ (yX7_init.cls ≠ "java/lang/invoke/MethodHandle" ∧ yX7_init.cls ≠ "java/lang/invoke/VarHandle" ∧ (parseMethodDescriptor yX7_init.desc).map (fun d => d.parameters.length) = some 0) ∧ 1 ≤ 20 := ⟨lw_in 86 (by decide +kernel) rfl, lw_in 56 (by decide +kernel) rfl, lw_in 85 (by decide +kernel) rfl, rfl, by decide +kernel, by decide⟩
set_option maxRecDepth 20000 in
set_option maxHeartbeats 4000000 in
theorem k_X4 (l : Launch) (g : GG) (h0 sz : Nat) : CB l g 2 yX4_init cX4_init 2 h0 [(h0, .inr (3, [.int 0, .int 0, .null, .null, .null]))] sz (p_X4 g h0) 9 162 := by
  refine CB.of RX4 (by decide +kernel) rfl rfl (by decide) ?_
  refine vx_aload_n (pc := 0) 0 dX4_init_0 rfl rfl ?_
  refine wb_objInit (pc := 1) dX4_init_1 mo_X4_3 w_oi (by decide) (Nat.le_of_ble_eq_true rfl) ?_
  refine vx_aload_n (pc := 4) 0 dX4_init_4 rfl rfl ?_
  refine vx_bipush (pc := 5) 24 dX4_init_5 (by decide) ?_
  refine wb_put (fs := [.int 0, .int 0, .null, .null, .null]) (pc := 7) (k := 0) (sl := 0) (pre := ([] : va_W)) (pst := ([] : va_W)) 0 [.int 24, .int 0, .null, .null, .null] dX4_init_7 ki_X4 (lw_in 123 (by decide +kernel) rfl) (by decide) rfl rfl ⟨rfl, rfl⟩ (Nat.le_of_ble_eq_true rfl) rfl (by simp) ?_
  refine vx_aload_n (pc := 10) 0 dX4_init_10 rfl rfl ?_
  refine vx_bipush (pc := 11) 60 dX4_init_11 (by decide) ?_
  refine wb_newa (pc := 13) (k := 0) (sl := 0) 60 .int 0 9 (60, .inl (fun _ => 0)) dX4_init_13 (lw_in 122 (by decide +kernel) rfl) rfl (fun _ => rfl) (fun _ => rfl) (by decide) (by decide) (by decide) (by decide) (by decide) (fun q1 => ?_)
  refine wb_put (fs := [.int 24, .int 0, .null, .null, .null]) (pc := 15) (k := 1) (sl := 60) (pre := ([] : va_W)) (pst := ((q1, .inl (g.2.2 9, 60, .inl (fun _ => 0))) :: ([] : va_W))) 2 [.int 24, .int 0, .ref q1, .null, .null] dX4_init_15 ki_X4 (lw_in 129 (by decide +kernel) rfl) (by decide) rfl rfl (fits_ref (Or.inr ⟨_, rfl⟩)) (Nat.le_of_ble_eq_true rfl) rfl (by simp) ?_
  refine vx_aload_n (pc := 18) 0 dX4_init_18 rfl rfl ?_
  refine vx_bipush (pc := 19) 60 dX4_init_19 (by decide) ?_
  refine wb_newa (pc := 21) (k := 1) (sl := 60) 60 .int 0 9 (60, .inl (fun _ => 0)) dX4_init_21 (lw_in 122 (by decide +kernel) rfl) rfl (fun _ => rfl) (fun _ => rfl) (by decide) (by decide) (by decide) (by decide) (by decide) (fun q2 => ?_)
  refine wb_put (fs := [.int 24, .int 0, .ref q1, .null, .null]) (pc := 23) (k := 2) (sl := 120) (pre := ([] : va_W)) (pst := ((q1, .inl (g.2.2 9, 60, .inl (fun _ => 0))) :: ((q2, .inl (g.2.2 9, 60, .inl (fun _ => 0))) :: ([] : va_W)))) 3 [.int 24, .int 0, .ref q1, .ref q2, .null] dX4_init_23 ki_X4 (lw_in 131 (by decide +kernel) rfl) (by decide) rfl rfl (fits_ref (Or.inr ⟨_, rfl⟩)) (Nat.le_of_ble_eq_true rfl) rfl (by simp) ?_
  refine vx_aload_n (pc := 26) 0 dX4_init_26 rfl rfl ?_
  refine vx_bipush (pc := 27) 6 dX4_init_27 (by decide) ?_
  refine wb_newq (pc := 29) (k := 2) (sl := 120) 6 4 13 dX4_init_29 (lw_in 81 (by decide +kernel) rfl) (List.mem_of_getElem? (i := 82) (by decide +kernel)) (fun _ => rfl) (by decide) (by decide) (by decide) (by decide) (by decide) (fun q3 => ?_)
  refine wb_put (fs := [.int 24, .int 0, .ref q1, .ref q2, .null]) (pc := 32) (k := 3) (sl := 126) (pre := ([] : va_W)) (pst := ((q1, .inl (g.2.2 9, 60, .inl (fun _ => 0))) :: ((q2, .inl (g.2.2 9, 60, .inl (fun _ => 0))) :: ((q3, .inl (g.2.2 13, 6, .inr (.inr (.inr (.inr (fun _ => none)))))) :: ([] : va_W))))) 4 [.int 24, .int 0, .ref q1, .ref q2, .ref q3] dX4_init_32 ki_X4 (lw_in 133 (by decide +kernel) rfl) (by decide) rfl rfl (fits_ref (Or.inr ⟨_, rfl⟩)) (Nat.le_of_ble_eq_true rfl) rfl (by simp) ?_
  refine vx_iconst (pc := 35) 0 dX4_init_35 (by decide) ?_
  refine vx_istore_n (pc := 36) [(1, .int 0), (0, .ref h0)] dX4_init_36 rfl (by decide) rfl ?_
  refine vx_iload_n (pc := 37) 0 dX4_init_37 rfl rfl ?_
  refine vx_bipush (pc := 38) 6 dX4_init_38 (by decide) ?_
  refine vx_icmp_ge (pc := 40) 62 dX4_init_40 (by decide) (fun c => absurd c (by decide)) (fun _ => ?_)
  refine vx_aload_n (pc := 43) 1 dX4_init_43 rfl rfl ?_
  refine wb_get (fs := [.int 24, .int 0, .ref q1, .ref q2, .ref q3]) (pc := 44) (k := 3) (sl := 126) (pre := ([] : va_W)) (pst := ((q1, .inl (g.2.2 9, 60, .inl (fun _ => 0))) :: ((q2, .inl (g.2.2 9, 60, .inl (fun _ => 0))) :: ((q3, .inl (g.2.2 13, 6, .inr (.inr (.inr (.inr (fun _ => none)))))) :: ([] : va_W))))) 4 (.ref q3) dX4_init_44 ki_X4 (lw_in 133 (by decide +kernel) rfl) (by decide) rfl rfl (by simp) ?_
  refine vx_iload_n (pc := 47) 0 dX4_init_47 rfl rfl ?_
  refine wb_new (pc := 48) (k := 3) (sl := 126) [.int 0, .int 0, .int 0, .int 0, .int 0, .int 0] dX4_init_48 ki_X7 (lw_in 81 (by decide +kernel) rfl) (lw_in 83 (by decide +kernel) rfl) (lw_in 56 (by decide +kernel) rfl) (by decide +kernel) (by decide) (by decide) (fun q4 => ?_)
  refine vx_dup (pc := 51) dX4_init_51 rfl ?_
  refine wb_callI (pc := 52) (k := 4) (sl := 132) (q := q4) dX4_init_52 (fun z => k_X7 l g q4 z) cwi_X7 (Or.inr ⟨"WheelOnWheel", List.mem_of_getElem? (i := 84) (by decide +kernel)⟩) (by decide) (Nat.le_of_ble_eq_true rfl) (by decide) (by decide) rfl (fun w5 hw5 => ?_)
  have hw5 : w5 = ((q4, .inr (6, [.int 0, .int 1, .int 0, .int 1, .int 0, .int 0])) :: []) := hw5
  subst hw5
  refine wb_astq (n := 6) (f := fun _ => none) (pc := 55) (k := 4) (sl := 132) (ci := 6) (r := (RX7, TX7, 6)) (vs := [.int 0, .int 1, .int 0, .int 1, .int 0, .int 0]) (pre := ((h0, .inr (3, [.int 24, .int 0, .ref q1, .ref q2, .ref q3])) :: ((q1, .inl (g.2.2 9, 60, .inl (fun _ => 0))) :: ((q2, .inl (g.2.2 9, 60, .inl (fun _ => 0))) :: ([] : va_W))))) (pst := ((q4, .inr (6, [.int 0, .int 1, .int 0, .int 1, .int 0, .int 0])) :: ([] : va_W))) 4 13 (va_up (fun _ => none) 0 (some q4)) dX4_init_55 (by unfold vp_in; decide) (fun _ => rfl) rfl rfl (by simp) (by simp) ?_
  refine vx_iinc (v := 1) (pc := 56) [(1, .int 1), (0, .ref h0)] 0 dX4_init_56 rfl (by decide) (by decide) rfl ?_
  refine vx_goto (pc := 59) 37 dX4_init_59 (by decide) ?_
  refine vx_iload_n (pc := 37) 0 dX4_init_37 rfl rfl ?_
  refine vx_bipush (pc := 38) 6 dX4_init_38 (by decide) ?_
  refine vx_icmp_ge (pc := 40) 62 dX4_init_40 (by decide) (fun c => absurd c (by decide)) (fun _ => ?_)
  refine vx_aload_n (pc := 43) 1 dX4_init_43 rfl rfl ?_
  refine wb_get (fs := [.int 24, .int 0, .ref q1, .ref q2, .ref q3]) (pc := 44) (k := 4) (sl := 132) (pre := ([] : va_W)) (pst := ((q1, .inl (g.2.2 9, 60, .inl (fun _ => 0))) :: ((q2, .inl (g.2.2 9, 60, .inl (fun _ => 0))) :: ((q3, .inl (g.2.2 13, 6, .inr (.inr (.inr (.inr (va_up (fun _ => none) 0 (some q4))))))) :: ((q4, .inr (6, [.int 0, .int 1, .int 0, .int 1, .int 0, .int 0])) :: ([] : va_W)))))) 4 (.ref q3) dX4_init_44 ki_X4 (lw_in 133 (by decide +kernel) rfl) (by decide) rfl rfl (by simp) ?_
  refine vx_iload_n (pc := 47) 0 dX4_init_47 rfl rfl ?_
  refine wb_new (pc := 48) (k := 4) (sl := 132) [.int 0, .int 0, .int 0, .int 0, .int 0, .int 0] dX4_init_48 ki_X7 (lw_in 81 (by decide +kernel) rfl) (lw_in 83 (by decide +kernel) rfl) (lw_in 56 (by decide +kernel) rfl) (by decide +kernel) (by decide) (by decide) (fun q6 => ?_)
  refine vx_dup (pc := 51) dX4_init_51 rfl ?_
  refine wb_callI (pc := 52) (k := 5) (sl := 138) (q := q6) dX4_init_52 (fun z => k_X7 l g q6 z) cwi_X7 (Or.inr ⟨"WheelOnWheel", List.mem_of_getElem? (i := 84) (by decide +kernel)⟩) (by decide) (Nat.le_of_ble_eq_true rfl) (by decide) (by decide) rfl (fun w7 hw7 => ?_)
  have hw7 : w7 = ((q6, .inr (6, [.int 0, .int 1, .int 0, .int 1, .int 0, .int 0])) :: []) := hw7
  subst hw7
  refine wb_astq (n := 6) (f := va_up (fun _ => none) 0 (some q4)) (pc := 55) (k := 5) (sl := 138) (ci := 6) (r := (RX7, TX7, 6)) (vs := [.int 0, .int 1, .int 0, .int 1, .int 0, .int 0]) (pre := ((h0, .inr (3, [.int 24, .int 0, .ref q1, .ref q2, .ref q3])) :: ((q1, .inl (g.2.2 9, 60, .inl (fun _ => 0))) :: ((q2, .inl (g.2.2 9, 60, .inl (fun _ => 0))) :: ([] : va_W))))) (pst := ((q4, .inr (6, [.int 0, .int 1, .int 0, .int 1, .int 0, .int 0])) :: ((q6, .inr (6, [.int 0, .int 1, .int 0, .int 1, .int 0, .int 0])) :: ([] : va_W)))) 4 13 (va_up (va_up (fun _ => none) 0 (some q4)) 1 (some q6)) dX4_init_55 (by unfold vp_in; decide) (fun _ => rfl) rfl rfl (by simp) (by simp) ?_
  refine vx_iinc (v := 2) (pc := 56) [(1, .int 2), (0, .ref h0)] 0 dX4_init_56 rfl (by decide) (by decide) rfl ?_
  refine vx_goto (pc := 59) 37 dX4_init_59 (by decide) ?_
  refine vx_iload_n (pc := 37) 0 dX4_init_37 rfl rfl ?_
  refine vx_bipush (pc := 38) 6 dX4_init_38 (by decide) ?_
  refine vx_icmp_ge (pc := 40) 62 dX4_init_40 (by decide) (fun c => absurd c (by decide)) (fun _ => ?_)
  refine vx_aload_n (pc := 43) 1 dX4_init_43 rfl rfl ?_
  refine wb_get (fs := [.int 24, .int 0, .ref q1, .ref q2, .ref q3]) (pc := 44) (k := 5) (sl := 138) (pre := ([] : va_W)) (pst := ((q1, .inl (g.2.2 9, 60, .inl (fun _ => 0))) :: ((q2, .inl (g.2.2 9, 60, .inl (fun _ => 0))) :: ((q3, .inl (g.2.2 13, 6, .inr (.inr (.inr (.inr (va_up (va_up (fun _ => none) 0 (some q4)) 1 (some q6))))))) :: ((q4, .inr (6, [.int 0, .int 1, .int 0, .int 1, .int 0, .int 0])) :: ((q6, .inr (6, [.int 0, .int 1, .int 0, .int 1, .int 0, .int 0])) :: ([] : va_W))))))) 4 (.ref q3) dX4_init_44 ki_X4 (lw_in 133 (by decide +kernel) rfl) (by decide) rfl rfl (by simp) ?_
  refine vx_iload_n (pc := 47) 0 dX4_init_47 rfl rfl ?_
  refine wb_new (pc := 48) (k := 5) (sl := 138) [.int 0, .int 0, .int 0, .int 0, .int 0, .int 0] dX4_init_48 ki_X7 (lw_in 81 (by decide +kernel) rfl) (lw_in 83 (by decide +kernel) rfl) (lw_in 56 (by decide +kernel) rfl) (by decide +kernel) (by decide) (by decide) (fun q8 => ?_)
  refine vx_dup (pc := 51) dX4_init_51 rfl ?_
  refine wb_callI (pc := 52) (k := 6) (sl := 144) (q := q8) dX4_init_52 (fun z => k_X7 l g q8 z) cwi_X7 (Or.inr ⟨"WheelOnWheel", List.mem_of_getElem? (i := 84) (by decide +kernel)⟩) (by decide) (Nat.le_of_ble_eq_true rfl) (by decide) (by decide) rfl (fun w9 hw9 => ?_)
  have hw9 : w9 = ((q8, .inr (6, [.int 0, .int 1, .int 0, .int 1, .int 0, .int 0])) :: []) := hw9
  subst hw9
  refine wb_astq (n := 6) (f := va_up (va_up (fun _ => none) 0 (some q4)) 1 (some q6)) (pc := 55) (k := 6) (sl := 144) (ci := 6) (r := (RX7, TX7, 6)) (vs := [.int 0, .int 1, .int 0, .int 1, .int 0, .int 0]) (pre := ((h0, .inr (3, [.int 24, .int 0, .ref q1, .ref q2, .ref q3])) :: ((q1, .inl (g.2.2 9, 60, .inl (fun _ => 0))) :: ((q2, .inl (g.2.2 9, 60, .inl (fun _ => 0))) :: ([] : va_W))))) (pst := ((q4, .inr (6, [.int 0, .int 1, .int 0, .int 1, .int 0, .int 0])) :: ((q6, .inr (6, [.int 0, .int 1, .int 0, .int 1, .int 0, .int 0])) :: ((q8, .inr (6, [.int 0, .int 1, .int 0, .int 1, .int 0, .int 0])) :: ([] : va_W))))) 4 13 (va_up (va_up (va_up (fun _ => none) 0 (some q4)) 1 (some q6)) 2 (some q8)) dX4_init_55 (by unfold vp_in; decide) (fun _ => rfl) rfl rfl (by simp) (by simp) ?_
  refine vx_iinc (v := 3) (pc := 56) [(1, .int 3), (0, .ref h0)] 0 dX4_init_56 rfl (by decide) (by decide) rfl ?_
  refine vx_goto (pc := 59) 37 dX4_init_59 (by decide) ?_
  refine vx_iload_n (pc := 37) 0 dX4_init_37 rfl rfl ?_
  refine vx_bipush (pc := 38) 6 dX4_init_38 (by decide) ?_
  refine vx_icmp_ge (pc := 40) 62 dX4_init_40 (by decide) (fun c => absurd c (by decide)) (fun _ => ?_)
  refine vx_aload_n (pc := 43) 1 dX4_init_43 rfl rfl ?_
  refine wb_get (fs := [.int 24, .int 0, .ref q1, .ref q2, .ref q3]) (pc := 44) (k := 6) (sl := 144) (pre := ([] : va_W)) (pst := ((q1, .inl (g.2.2 9, 60, .inl (fun _ => 0))) :: ((q2, .inl (g.2.2 9, 60, .inl (fun _ => 0))) :: ((q3, .inl (g.2.2 13, 6, .inr (.inr (.inr (.inr (va_up (va_up (va_up (fun _ => none) 0 (some q4)) 1 (some q6)) 2 (some q8))))))) :: ((q4, .inr (6, [.int 0, .int 1, .int 0, .int 1, .int 0, .int 0])) :: ((q6, .inr (6, [.int 0, .int 1, .int 0, .int 1, .int 0, .int 0])) :: ((q8, .inr (6, [.int 0, .int 1, .int 0, .int 1, .int 0, .int 0])) :: ([] : va_W)))))))) 4 (.ref q3) dX4_init_44 ki_X4 (lw_in 133 (by decide +kernel) rfl) (by decide) rfl rfl (by simp) ?_
  refine vx_iload_n (pc := 47) 0 dX4_init_47 rfl rfl ?_
  refine wb_new (pc := 48) (k := 6) (sl := 144) [.int 0, .int 0, .int 0, .int 0, .int 0, .int 0] dX4_init_48 ki_X7 (lw_in 81 (by decide +kernel) rfl) (lw_in 83 (by decide +kernel) rfl) (lw_in 56 (by decide +kernel) rfl) (by decide +kernel) (by decide) (by decide) (fun q10 => ?_)
  refine vx_dup (pc := 51) dX4_init_51 rfl ?_
  refine wb_callI (pc := 52) (k := 7) (sl := 150) (q := q10) dX4_init_52 (fun z => k_X7 l g q10 z) cwi_X7 (Or.inr ⟨"WheelOnWheel", List.mem_of_getElem? (i := 84) (by decide +kernel)⟩) (by decide) (Nat.le_of_ble_eq_true rfl) (by decide) (by decide) rfl (fun w11 hw11 => ?_)
  have hw11 : w11 = ((q10, .inr (6, [.int 0, .int 1, .int 0, .int 1, .int 0, .int 0])) :: []) := hw11
  subst hw11
  refine wb_astq (n := 6) (f := va_up (va_up (va_up (fun _ => none) 0 (some q4)) 1 (some q6)) 2 (some q8)) (pc := 55) (k := 7) (sl := 150) (ci := 6) (r := (RX7, TX7, 6)) (vs := [.int 0, .int 1, .int 0, .int 1, .int 0, .int 0]) (pre := ((h0, .inr (3, [.int 24, .int 0, .ref q1, .ref q2, .ref q3])) :: ((q1, .inl (g.2.2 9, 60, .inl (fun _ => 0))) :: ((q2, .inl (g.2.2 9, 60, .inl (fun _ => 0))) :: ([] : va_W))))) (pst := ((q4, .inr (6, [.int 0, .int 1, .int 0, .int 1, .int 0, .int 0])) :: ((q6, .inr (6, [.int 0, .int 1, .int 0, .int 1, .int 0, .int 0])) :: ((q8, .inr (6, [.int 0, .int 1, .int 0, .int 1, .int 0, .int 0])) :: ((q10, .inr (6, [.int 0, .int 1, .int 0, .int 1, .int 0, .int 0])) :: ([] : va_W)))))) 4 13 (va_up (va_up (va_up (va_up (fun _ => none) 0 (some q4)) 1 (some q6)) 2 (some q8)) 3 (some q10)) dX4_init_55 (by unfold vp_in; decide) (fun _ => rfl) rfl rfl (by simp) (by simp) ?_
  refine vx_iinc (v := 4) (pc := 56) [(1, .int 4), (0, .ref h0)] 0 dX4_init_56 rfl (by decide) (by decide) rfl ?_
  refine vx_goto (pc := 59) 37 dX4_init_59 (by decide) ?_
  refine vx_iload_n (pc := 37) 0 dX4_init_37 rfl rfl ?_
  refine vx_bipush (pc := 38) 6 dX4_init_38 (by decide) ?_
  refine vx_icmp_ge (pc := 40) 62 dX4_init_40 (by decide) (fun c => absurd c (by decide)) (fun _ => ?_)
  refine vx_aload_n (pc := 43) 1 dX4_init_43 rfl rfl ?_
  refine wb_get (fs := [.int 24, .int 0, .ref q1, .ref q2, .ref q3]) (pc := 44) (k := 7) (sl := 150) (pre := ([] : va_W)) (pst := ((q1, .inl (g.2.2 9, 60, .inl (fun _ => 0))) :: ((q2, .inl (g.2.2 9, 60, .inl (fun _ => 0))) :: ((q3, .inl (g.2.2 13, 6, .inr (.inr (.inr (.inr (va_up (va_up (va_up (va_up (fun _ => none) 0 (some q4)) 1 (some q6)) 2 (some q8)) 3 (some q10))))))) :: ((q4, .inr (6, [.int 0, .int 1, .int 0, .int 1, .int 0, .int 0])) :: ((q6, .inr (6, [.int 0, .int 1, .int 0, .int 1, .int 0, .int 0])) :: ((q8, .inr (6, [.int 0, .int 1, .int 0, .int 1, .int 0, .int 0])) :: ((q10, .inr (6, [.int 0, .int 1, .int 0, .int 1, .int 0, .int 0])) :: ([] : va_W))))))))) 4 (.ref q3) dX4_init_44 ki_X4 (lw_in 133 (by decide +kernel) rfl) (by decide) rfl rfl (by simp) ?_
  refine vx_iload_n (pc := 47) 0 dX4_init_47 rfl rfl ?_
  refine wb_new (pc := 48) (k := 7) (sl := 150) [.int 0, .int 0, .int 0, .int 0, .int 0, .int 0] dX4_init_48 ki_X7 (lw_in 81 (by decide +kernel) rfl) (lw_in 83 (by decide +kernel) rfl) (lw_in 56 (by decide +kernel) rfl) (by decide +kernel) (by decide) (by decide) (fun q12 => ?_)
  refine vx_dup (pc := 51) dX4_init_51 rfl ?_
  refine wb_callI (pc := 52) (k := 8) (sl := 156) (q := q12) dX4_init_52 (fun z => k_X7 l g q12 z) cwi_X7 (Or.inr ⟨"WheelOnWheel", List.mem_of_getElem? (i := 84) (by decide +kernel)⟩) (by decide) (Nat.le_of_ble_eq_true rfl) (by decide) (by decide) rfl (fun w13 hw13 => ?_)
  have hw13 : w13 = ((q12, .inr (6, [.int 0, .int 1, .int 0, .int 1, .int 0, .int 0])) :: []) := hw13
  subst hw13
  refine wb_astq (n := 6) (f := va_up (va_up (va_up (va_up (fun _ => none) 0 (some q4)) 1 (some q6)) 2 (some q8)) 3 (some q10)) (pc := 55) (k := 8) (sl := 156) (ci := 6) (r := (RX7, TX7, 6)) (vs := [.int 0, .int 1, .int 0, .int 1, .int 0, .int 0]) (pre := ((h0, .inr (3, [.int 24, .int 0, .ref q1, .ref q2, .ref q3])) :: ((q1, .inl (g.2.2 9, 60, .inl (fun _ => 0))) :: ((q2, .inl (g.2.2 9, 60, .inl (fun _ => 0))) :: ([] : va_W))))) (pst := ((q4, .inr (6, [.int 0, .int 1, .int 0, .int 1, .int 0, .int 0])) :: ((q6, .inr (6, [.int 0, .int 1, .int 0, .int 1, .int 0, .int 0])) :: ((q8, .inr (6, [.int 0, .int 1, .int 0, .int 1, .int 0, .int 0])) :: ((q10, .inr (6, [.int 0, .int 1, .int 0, .int 1, .int 0, .int 0])) :: ((q12, .inr (6, [.int 0, .int 1, .int 0, .int 1, .int 0, .int 0])) :: ([] : va_W))))))) 4 13 (va_up (va_up (va_up (va_up (va_up (fun _ => none) 0 (some q4)) 1 (some q6)) 2 (some q8)) 3 (some q10)) 4 (some q12)) dX4_init_55 (by unfold vp_in; decide) (fun _ => rfl) rfl rfl (by simp) (by simp) ?_
  refine vx_iinc (v := 5) (pc := 56) [(1, .int 5), (0, .ref h0)] 0 dX4_init_56 rfl (by decide) (by decide) rfl ?_
  refine vx_goto (pc := 59) 37 dX4_init_59 (by decide) ?_
  refine vx_iload_n (pc := 37) 0 dX4_init_37 rfl rfl ?_
  refine vx_bipush (pc := 38) 6 dX4_init_38 (by decide) ?_
  refine vx_icmp_ge (pc := 40) 62 dX4_init_40 (by decide) (fun c => absurd c (by decide)) (fun _ => ?_)
  refine vx_aload_n (pc := 43) 1 dX4_init_43 rfl rfl ?_
  refine wb_get (fs := [.int 24, .int 0, .ref q1, .ref q2, .ref q3]) (pc := 44) (k := 8) (sl := 156) (pre := ([] : va_W)) (pst := ((q1, .inl (g.2.2 9, 60, .inl (fun _ => 0))) :: ((q2, .inl (g.2.2 9, 60, .inl (fun _ => 0))) :: ((q3, .inl (g.2.2 13, 6, .inr (.inr (.inr (.inr (va_up (va_up (va_up (va_up (va_up (fun _ => none) 0 (some q4)) 1 (some q6)) 2 (some q8)) 3 (some q10)) 4 (some q12))))))) :: ((q4, .inr (6, [.int 0, .int 1, .int 0, .int 1, .int 0, .int 0])) :: ((q6, .inr (6, [.int 0, .int 1, .int 0, .int 1, .int 0, .int 0])) :: ((q8, .inr (6, [.int 0, .int 1, .int 0, .int 1, .int 0, .int 0])) :: ((q10, .inr (6, [.int 0, .int 1, .int 0, .int 1, .int 0, .int 0])) :: ((q12, .inr (6, [.int 0, .int 1, .int 0, .int 1, .int 0, .int 0])) :: ([] : va_W)))))))))) 4 (.ref q3) dX4_init_44 ki_X4 (lw_in 133 (by decide +kernel) rfl) (by decide) rfl rfl (by simp) ?_
  refine vx_iload_n (pc := 47) 0 dX4_init_47 rfl rfl ?_
  refine wb_new (pc := 48) (k := 8) (sl := 156) [.int 0, .int 0, .int 0, .int 0, .int 0, .int 0] dX4_init_48 ki_X7 (lw_in 81 (by decide +kernel) rfl) (lw_in 83 (by decide +kernel) rfl) (lw_in 56 (by decide +kernel) rfl) (by decide +kernel) (by decide) (by decide) (fun q14 => ?_)
  refine vx_dup (pc := 51) dX4_init_51 rfl ?_
  refine wb_callI (pc := 52) (k := 9) (sl := 162) (q := q14) dX4_init_52 (fun z => k_X7 l g q14 z) cwi_X7 (Or.inr ⟨"WheelOnWheel", List.mem_of_getElem? (i := 84) (by decide +kernel)⟩) (by decide) (Nat.le_of_ble_eq_true rfl) (by decide) (by decide) rfl (fun w15 hw15 => ?_)
  have hw15 : w15 = ((q14, .inr (6, [.int 0, .int 1, .int 0, .int 1, .int 0, .int 0])) :: []) := hw15
  subst hw15
  refine wb_astq (n := 6) (f := va_up (va_up (va_up (va_up (va_up (fun _ => none) 0 (some q4)) 1 (some q6)) 2 (some q8)) 3 (some q10)) 4 (some q12)) (pc := 55) (k := 9) (sl := 162) (ci := 6) (r := (RX7, TX7, 6)) (vs := [.int 0, .int 1, .int 0, .int 1, .int 0, .int 0]) (pre := ((h0, .inr (3, [.int 24, .int 0, .ref q1, .ref q2, .ref q3])) :: ((q1, .inl (g.2.2 9, 60, .inl (fun _ => 0))) :: ((q2, .inl (g.2.2 9, 60, .inl (fun _ => 0))) :: ([] : va_W))))) (pst := ((q4, .inr (6, [.int 0, .int 1, .int 0, .int 1, .int 0, .int 0])) :: ((q6, .inr (6, [.int 0, .int 1, .int 0, .int 1, .int 0, .int 0])) :: ((q8, .inr (6, [.int 0, .int 1, .int 0, .int 1, .int 0, .int 0])) :: ((q10, .inr (6, [.int 0, .int 1, .int 0, .int 1, .int 0, .int 0])) :: ((q12, .inr (6, [.int 0, .int 1, .int 0, .int 1, .int 0, .int 0])) :: ((q14, .inr (6, [.int 0, .int 1, .int 0, .int 1, .int 0, .int 0])) :: ([] : va_W)))))))) 4 13 (va_up (va_up (va_up (va_up (va_up (va_up (fun _ => none) 0 (some q4)) 1 (some q6)) 2 (some q8)) 3 (some q10)) 4 (some q12)) 5 (some q14)) dX4_init_55 (by unfold vp_in; decide) (fun _ => rfl) rfl rfl (by simp) (by simp) ?_
  refine vx_iinc (v := 6) (pc := 56) [(1, .int 6), (0, .ref h0)] 0 dX4_init_56 rfl (by decide) (by decide) rfl ?_
  refine vx_goto (pc := 59) 37 dX4_init_59 (by decide) ?_
  refine vx_iload_n (pc := 37) 0 dX4_init_37 rfl rfl ?_
  refine vx_bipush (pc := 38) 6 dX4_init_38 (by decide) ?_
  refine vx_icmp_ge (pc := 40) 62 dX4_init_40 (by decide) (fun _ => ?_) (fun c => absurd (by decide) c)
  exact wb_ret (pc := 62) (k := 9) (sl := 162) dX4_init_62 (by decide) (by decide) ⟨q1, q2, q3, q4, q6, q8, q10, q12, q14, by simp⟩
def p_X3 (g : GG) (h0 : Nat) (w : va_W) : Prop := ∃ (q1 : Nat) (w3 : va_W) (w7 : va_W) (w11 : va_W) (w15 : va_W) (w19 : va_W) (w23 : va_W) (w27 : va_W) (w31 : va_W) (q2 : Nat) (q6 : Nat) (q10 : Nat) (q14 : Nat) (q18 : Nat) (q22 : Nat) (q26 : Nat) (q30 : Nat), p_X4 g q2 w3 ∧ p_X4 g q6 w7 ∧ p_X4 g q10 w11 ∧ p_X4 g q14 w15 ∧ p_X4 g q18 w19 ∧ p_X4 g q22 w23 ∧ p_X4 g q26 w27 ∧ p_X4 g q30 w31 ∧ w = ((h0, .inr (2, [.ref q1, .int 0, .int 0])) :: ((q1, .inl (g.2.2 12, 8, .inr (.inr (.inr (.inr (va_up (va_up (va_up (va_up (va_up (va_up (va_up (va_up (fun _ => none) 0 (some q2)) 1 (some q6)) 2 (some q10)) 3 (some q14)) 4 (some q18)) 5 (some q22)) 6 (some q26)) 7 (some q30))))))) :: (w3 ++ (w7 ++ (w11 ++ (w15 ++ (w19 ++ (w23 ++ (w27 ++ (w31 ++ ([] : va_W)))))))))))
theorem dX3_init_0 : decode cX3_init 0 = .ok (.aload_n 0, 1) := by decide +kernel
theorem dX3_init_1 : decode cX3_init 1 = .ok (.invokespecial 3, 3) := by decide +kernel
theorem dX3_init_4 : decode cX3_init 4 = .ok (.aload_n 0, 1) := by decide +kernel
theorem dX3_init_5 : decode cX3_init 5 = .ok (.bipush 8, 2) := by decide +kernel
theorem dX3_init_7 : decode cX3_init 7 = .ok (.anewarray 9, 3) := by decide +kernel
theorem dX3_init_10 : decode cX3_init 10 = .ok (.putfield 11, 3) := by decide +kernel
theorem dX3_init_13 : decode cX3_init 13 = .ok (.iconst 0, 1) := by decide +kernel
theorem dX3_init_14 : decode cX3_init 14 = .ok (.istore_n 1, 1) := by decide +kernel
theorem dX3_init_15 : decode cX3_init 15 = .ok (.iload_n 1, 1) := by decide +kernel
theorem dX3_init_16 : decode cX3_init 16 = .ok (.bipush 8, 2) := by decide +kernel
theorem dX3_init_18 : decode cX3_init 18 = .ok (.if_icmp .ge 22, 3) := by decide +kernel
theorem dX3_init_21 : decode cX3_init 21 = .ok (.aload_n 0, 1) := by decide +kernel
theorem dX3_init_22 : decode cX3_init 22 = .ok (.getfield 11, 3) := by decide +kernel
theorem dX3_init_25 : decode cX3_init 25 = .ok (.iload_n 1, 1) := by decide +kernel
theorem dX3_init_26 : decode cX3_init 26 = .ok (.new 9, 3) := by decide +kernel
theorem dX3_init_29 : decode cX3_init 29 = .ok (.dup, 1) := by decide +kernel
theorem dX3_init_30 : decode cX3_init 30 = .ok (.invokespecial 17, 3) := by decide +kernel
theorem dX3_init_33 : decode cX3_init 33 = .ok (.aastore, 1) := by decide +kernel
theorem dX3_init_34 : decode cX3_init 34 = .ok (.iinc 1 1, 3) := by decide +kernel
theorem dX3_init_37 : decode cX3_init 37 = .ok (.goto (-22), 3) := by decide +kernel
theorem dX3_init_40 : decode cX3_init 40 = .ok (.return_, 1) := by decide +kernel
theorem mo_X3_3 : Cond.methodLink RX3 3 objectInit ∈ lw_g := lw_in 151 (by decide +kernel) rfl
theorem ki_X3 : KI 2 RX3 TX3 3 tyX3 := ⟨rfl, igX3, tyX3_ok, nmX3⟩
theorem cwi_X4 : Cond.code yX4_init cX4_init 2 none ∈ lw_g ∧ Cond.initialized yX4_init.cls ∈ lw_g ∧ Cond.instanceMethod yX4_init ∈ lw_g ∧ yX4_init.name = "<init>" ∧ (yX4_init.cls ≠ "java/lang/invoke/MethodHandle" ∧ yX4_init.cls ≠ "java/lang/invoke/VarHandle" ∧ (parseMethodDescriptor yX4_init.desc).map (fun d => d.parameters.length) = some 0) ∧ 2 ≤ 20 := ⟨lw_in 79 (by decide +kernel) rfl, lw_in 55 (by decide +kernel) rfl, lw_in 78 (by decide +kernel) rfl, rfl, by decide +kernel, by decide⟩
set_option maxRecDepth 20000 in
set_option maxHeartbeats 4000000 in
theorem k_X3 (l : Launch) (g : GG) (h0 sz : Nat) : CB l g 3 yX3_init cX3_init 2 h0 [(h0, .inr (2, [.null, .int 0, .int 0]))] sz (p_X3 g h0) 81 1344 := by
  refine CB.of RX3 (by decide +kernel) rfl rfl (by decide) ?_
  refine vx_aload_n (pc := 0) 0 dX3_init_0 rfl rfl ?_
  refine wb_objInit (pc := 1) dX3_init_1 mo_X3_3 w_oi (by decide) (Nat.le_of_ble_eq_true rfl) ?_
  refine vx_aload_n (pc := 4) 0 dX3_init_4 rfl rfl ?_
  refine vx_bipush (pc := 5) 8 dX3_init_5 (by decide) ?_
  refine wb_newq (pc := 7) (k := 0) (sl := 0) 8 3 12 dX3_init_7 (lw_in 152 (by decide +kernel) rfl) (List.mem_of_getElem? (i := 153) (by decide +kernel)) (fun _ => rfl) (by decide) (by decide) (by decide) (by decide) (by decide) (fun q1 => ?_)
  refine wb_put (fs := [.null, .int 0, .int 0]) (pc := 10) (k := 1) (sl := 8) (pre := ([] : va_W)) (pst := ((q1, .inl (g.2.2 12, 8, .inr (.inr (.inr (.inr (fun _ => none)))))) :: ([] : va_W))) 0 [.ref q1, .int 0, .int 0] dX3_init_10 ki_X3 (lw_in 155 (by decide +kernel) rfl) (by decide) rfl rfl (fits_ref (Or.inr ⟨_, rfl⟩)) (Nat.le_of_ble_eq_true rfl) rfl (by simp) ?_
  refine vx_iconst (pc := 13) 0 dX3_init_13 (by decide) ?_
  refine vx_istore_n (pc := 14) [(1, .int 0), (0, .ref h0)] dX3_init_14 rfl (by decide) rfl ?_
  refine vx_iload_n (pc := 15) 0 dX3_init_15 rfl rfl ?_
  refine vx_bipush (pc := 16) 8 dX3_init_16 (by decide) ?_
  refine vx_icmp_ge (pc := 18) 40 dX3_init_18 (by decide) (fun c => absurd c (by decide)) (fun _ => ?_)
  refine vx_aload_n (pc := 21) 1 dX3_init_21 rfl rfl ?_
  refine wb_get (fs := [.ref q1, .int 0, .int 0]) (pc := 22) (k := 1) (sl := 8) (pre := ([] : va_W)) (pst := ((q1, .inl (g.2.2 12, 8, .inr (.inr (.inr (.inr (fun _ => none)))))) :: ([] : va_W))) 0 (.ref q1) dX3_init_22 ki_X3 (lw_in 155 (by decide +kernel) rfl) (by decide) rfl rfl (by simp) ?_
  refine vx_iload_n (pc := 25) 0 dX3_init_25 rfl rfl ?_
  refine wb_new (pc := 26) (k := 1) (sl := 8) [.int 0, .int 0, .null, .null, .null] dX3_init_26 ki_X4 (lw_in 152 (by decide +kernel) rfl) (lw_in 76 (by decide +kernel) rfl) (lw_in 55 (by decide +kernel) rfl) (by decide +kernel) (by decide) (by decide) (fun q2 => ?_)
  refine vx_dup (pc := 29) dX3_init_29 rfl ?_
  refine wb_callI (pc := 30) (k := 2) (sl := 13) (q := q2) dX3_init_30 (fun z => k_X4 l g q2 z) cwi_X4 (Or.inl (lw_in 154 (by decide +kernel) rfl)) (by decide) (Nat.le_of_ble_eq_true rfl) (by decide) (by decide) rfl (fun w3 hw3 => ?_)
  obtain ⟨vs5, hm4⟩ := mem_X4 hw3
  refine wb_astq (n := 8) (f := fun _ => none) (pc := 33) (k := 11) (sl := 175) (ci := 3) (r := (RX4, TX4, 5)) (vs := vs5) (pre := ((h0, .inr (2, [.ref q1, .int 0, .int 0])) :: ([] : va_W))) (pst := (w3 ++ ([] : va_W))) 3 12 (va_up (fun _ => none) 0 (some q2)) dX3_init_33 (by unfold vp_in; decide) (fun _ => rfl) rfl rfl (by simp) (by simp [hm4]) ?_
  refine vx_iinc (v := 1) (pc := 34) [(1, .int 1), (0, .ref h0)] 0 dX3_init_34 rfl (by decide) (by decide) rfl ?_
  refine vx_goto (pc := 37) 15 dX3_init_37 (by decide) ?_
  refine vx_iload_n (pc := 15) 0 dX3_init_15 rfl rfl ?_
  refine vx_bipush (pc := 16) 8 dX3_init_16 (by decide) ?_
  refine vx_icmp_ge (pc := 18) 40 dX3_init_18 (by decide) (fun c => absurd c (by decide)) (fun _ => ?_)
  refine vx_aload_n (pc := 21) 1 dX3_init_21 rfl rfl ?_
  refine wb_get (fs := [.ref q1, .int 0, .int 0]) (pc := 22) (k := 11) (sl := 175) (pre := ([] : va_W)) (pst := ((q1, .inl (g.2.2 12, 8, .inr (.inr (.inr (.inr (va_up (fun _ => none) 0 (some q2))))))) :: (w3 ++ ([] : va_W)))) 0 (.ref q1) dX3_init_22 ki_X3 (lw_in 155 (by decide +kernel) rfl) (by decide) rfl rfl (by simp) ?_
  refine vx_iload_n (pc := 25) 0 dX3_init_25 rfl rfl ?_
  refine wb_new (pc := 26) (k := 11) (sl := 175) [.int 0, .int 0, .null, .null, .null] dX3_init_26 ki_X4 (lw_in 152 (by decide +kernel) rfl) (lw_in 76 (by decide +kernel) rfl) (lw_in 55 (by decide +kernel) rfl) (by decide +kernel) (by decide) (by decide) (fun q6 => ?_)
  refine vx_dup (pc := 29) dX3_init_29 rfl ?_
  refine wb_callI (pc := 30) (k := 12) (sl := 180) (q := q6) dX3_init_30 (fun z => k_X4 l g q6 z) cwi_X4 (Or.inl (lw_in 154 (by decide +kernel) rfl)) (by decide) (Nat.le_of_ble_eq_true rfl) (by decide) (by decide) rfl (fun w7 hw7 => ?_)
  obtain ⟨vs9, hm8⟩ := mem_X4 hw7
  refine wb_astq (n := 8) (f := va_up (fun _ => none) 0 (some q2)) (pc := 33) (k := 21) (sl := 342) (ci := 3) (r := (RX4, TX4, 5)) (vs := vs9) (pre := ((h0, .inr (2, [.ref q1, .int 0, .int 0])) :: ([] : va_W))) (pst := (w3 ++ (w7 ++ ([] : va_W)))) 3 12 (va_up (va_up (fun _ => none) 0 (some q2)) 1 (some q6)) dX3_init_33 (by unfold vp_in; decide) (fun _ => rfl) rfl rfl (by simp) (by simp [hm8]) ?_
  refine vx_iinc (v := 2) (pc := 34) [(1, .int 2), (0, .ref h0)] 0 dX3_init_34 rfl (by decide) (by decide) rfl ?_
  refine vx_goto (pc := 37) 15 dX3_init_37 (by decide) ?_
  refine vx_iload_n (pc := 15) 0 dX3_init_15 rfl rfl ?_
  refine vx_bipush (pc := 16) 8 dX3_init_16 (by decide) ?_
  refine vx_icmp_ge (pc := 18) 40 dX3_init_18 (by decide) (fun c => absurd c (by decide)) (fun _ => ?_)
  refine vx_aload_n (pc := 21) 1 dX3_init_21 rfl rfl ?_
  refine wb_get (fs := [.ref q1, .int 0, .int 0]) (pc := 22) (k := 21) (sl := 342) (pre := ([] : va_W)) (pst := ((q1, .inl (g.2.2 12, 8, .inr (.inr (.inr (.inr (va_up (va_up (fun _ => none) 0 (some q2)) 1 (some q6))))))) :: (w3 ++ (w7 ++ ([] : va_W))))) 0 (.ref q1) dX3_init_22 ki_X3 (lw_in 155 (by decide +kernel) rfl) (by decide) rfl rfl (by simp) ?_
  refine vx_iload_n (pc := 25) 0 dX3_init_25 rfl rfl ?_
  refine wb_new (pc := 26) (k := 21) (sl := 342) [.int 0, .int 0, .null, .null, .null] dX3_init_26 ki_X4 (lw_in 152 (by decide +kernel) rfl) (lw_in 76 (by decide +kernel) rfl) (lw_in 55 (by decide +kernel) rfl) (by decide +kernel) (by decide) (by decide) (fun q10 => ?_)
  refine vx_dup (pc := 29) dX3_init_29 rfl ?_
  refine wb_callI (pc := 30) (k := 22) (sl := 347) (q := q10) dX3_init_30 (fun z => k_X4 l g q10 z) cwi_X4 (Or.inl (lw_in 154 (by decide +kernel) rfl)) (by decide) (Nat.le_of_ble_eq_true rfl) (by decide) (by decide) rfl (fun w11 hw11 => ?_)
  obtain ⟨vs13, hm12⟩ := mem_X4 hw11
  refine wb_astq (n := 8) (f := va_up (va_up (fun _ => none) 0 (some q2)) 1 (some q6)) (pc := 33) (k := 31) (sl := 509) (ci := 3) (r := (RX4, TX4, 5)) (vs := vs13) (pre := ((h0, .inr (2, [.ref q1, .int 0, .int 0])) :: ([] : va_W))) (pst := (w3 ++ (w7 ++ (w11 ++ ([] : va_W))))) 3 12 (va_up (va_up (va_up (fun _ => none) 0 (some q2)) 1 (some q6)) 2 (some q10)) dX3_init_33 (by unfold vp_in; decide) (fun _ => rfl) rfl rfl (by simp) (by simp [hm12]) ?_
  refine vx_iinc (v := 3) (pc := 34) [(1, .int 3), (0, .ref h0)] 0 dX3_init_34 rfl (by decide) (by decide) rfl ?_
  refine vx_goto (pc := 37) 15 dX3_init_37 (by decide) ?_
  refine vx_iload_n (pc := 15) 0 dX3_init_15 rfl rfl ?_
  refine vx_bipush (pc := 16) 8 dX3_init_16 (by decide) ?_
  refine vx_icmp_ge (pc := 18) 40 dX3_init_18 (by decide) (fun c => absurd c (by decide)) (fun _ => ?_)
  refine vx_aload_n (pc := 21) 1 dX3_init_21 rfl rfl ?_
  refine wb_get (fs := [.ref q1, .int 0, .int 0]) (pc := 22) (k := 31) (sl := 509) (pre := ([] : va_W)) (pst := ((q1, .inl (g.2.2 12, 8, .inr (.inr (.inr (.inr (va_up (va_up (va_up (fun _ => none) 0 (some q2)) 1 (some q6)) 2 (some q10))))))) :: (w3 ++ (w7 ++ (w11 ++ ([] : va_W)))))) 0 (.ref q1) dX3_init_22 ki_X3 (lw_in 155 (by decide +kernel) rfl) (by decide) rfl rfl (by simp) ?_
  refine vx_iload_n (pc := 25) 0 dX3_init_25 rfl rfl ?_
  refine wb_new (pc := 26) (k := 31) (sl := 509) [.int 0, .int 0, .null, .null, .null] dX3_init_26 ki_X4 (lw_in 152 (by decide +kernel) rfl) (lw_in 76 (by decide +kernel) rfl) (lw_in 55 (by decide +kernel) rfl) (by decide +kernel) (by decide) (by decide) (fun q14 => ?_)
  refine vx_dup (pc := 29) dX3_init_29 rfl ?_
  refine wb_callI (pc := 30) (k := 32) (sl := 514) (q := q14) dX3_init_30 (fun z => k_X4 l g q14 z) cwi_X4 (Or.inl (lw_in 154 (by decide +kernel) rfl)) (by decide) (Nat.le_of_ble_eq_true rfl) (by decide) (by decide) rfl (fun w15 hw15 => ?_)
  obtain ⟨vs17, hm16⟩ := mem_X4 hw15
  refine wb_astq (n := 8) (f := va_up (va_up (va_up (fun _ => none) 0 (some q2)) 1 (some q6)) 2 (some q10)) (pc := 33) (k := 41) (sl := 676) (ci := 3) (r := (RX4, TX4, 5)) (vs := vs17) (pre := ((h0, .inr (2, [.ref q1, .int 0, .int 0])) :: ([] : va_W))) (pst := (w3 ++ (w7 ++ (w11 ++ (w15 ++ ([] : va_W)))))) 3 12 (va_up (va_up (va_up (va_up (fun _ => none) 0 (some q2)) 1 (some q6)) 2 (some q10)) 3 (some q14)) dX3_init_33 (by unfold vp_in; decide) (fun _ => rfl) rfl rfl (by simp) (by simp [hm16]) ?_
  refine vx_iinc (v := 4) (pc := 34) [(1, .int 4), (0, .ref h0)] 0 dX3_init_34 rfl (by decide) (by decide) rfl ?_
  refine vx_goto (pc := 37) 15 dX3_init_37 (by decide) ?_
  refine vx_iload_n (pc := 15) 0 dX3_init_15 rfl rfl ?_
  refine vx_bipush (pc := 16) 8 dX3_init_16 (by decide) ?_
  refine vx_icmp_ge (pc := 18) 40 dX3_init_18 (by decide) (fun c => absurd c (by decide)) (fun _ => ?_)
  refine vx_aload_n (pc := 21) 1 dX3_init_21 rfl rfl ?_
  refine wb_get (fs := [.ref q1, .int 0, .int 0]) (pc := 22) (k := 41) (sl := 676) (pre := ([] : va_W)) (pst := ((q1, .inl (g.2.2 12, 8, .inr (.inr (.inr (.inr (va_up (va_up (va_up (va_up (fun _ => none) 0 (some q2)) 1 (some q6)) 2 (some q10)) 3 (some q14))))))) :: (w3 ++ (w7 ++ (w11 ++ (w15 ++ ([] : va_W))))))) 0 (.ref q1) dX3_init_22 ki_X3 (lw_in 155 (by decide +kernel) rfl) (by decide) rfl rfl (by simp) ?_
  refine vx_iload_n (pc := 25) 0 dX3_init_25 rfl rfl ?_
  refine wb_new (pc := 26) (k := 41) (sl := 676) [.int 0, .int 0, .null, .null, .null] dX3_init_26 ki_X4 (lw_in 152 (by decide +kernel) rfl) (lw_in 76 (by decide +kernel) rfl) (lw_in 55 (by decide +kernel) rfl) (by decide +kernel) (by decide) (by decide) (fun q18 => ?_)
  refine vx_dup (pc := 29) dX3_init_29 rfl ?_
  refine wb_callI (pc := 30) (k := 42) (sl := 681) (q := q18) dX3_init_30 (fun z => k_X4 l g q18 z) cwi_X4 (Or.inl (lw_in 154 (by decide +kernel) rfl)) (by decide) (Nat.le_of_ble_eq_true rfl) (by decide) (by decide) rfl (fun w19 hw19 => ?_)
  obtain ⟨vs21, hm20⟩ := mem_X4 hw19
  refine wb_astq (n := 8) (f := va_up (va_up (va_up (va_up (fun _ => none) 0 (some q2)) 1 (some q6)) 2 (some q10)) 3 (some q14)) (pc := 33) (k := 51) (sl := 843) (ci := 3) (r := (RX4, TX4, 5)) (vs := vs21) (pre := ((h0, .inr (2, [.ref q1, .int 0, .int 0])) :: ([] : va_W))) (pst := (w3 ++ (w7 ++ (w11 ++ (w15 ++ (w19 ++ ([] : va_W))))))) 3 12 (va_up (va_up (va_up (va_up (va_up (fun _ => none) 0 (some q2)) 1 (some q6)) 2 (some q10)) 3 (some q14)) 4 (some q18)) dX3_init_33 (by unfold vp_in; decide) (fun _ => rfl) rfl rfl (by simp) (by simp [hm20]) ?_
  refine vx_iinc (v := 5) (pc := 34) [(1, .int 5), (0, .ref h0)] 0 dX3_init_34 rfl (by decide) (by decide) rfl ?_
  refine vx_goto (pc := 37) 15 dX3_init_37 (by decide) ?_
  refine vx_iload_n (pc := 15) 0 dX3_init_15 rfl rfl ?_
  refine vx_bipush (pc := 16) 8 dX3_init_16 (by decide) ?_
  refine vx_icmp_ge (pc := 18) 40 dX3_init_18 (by decide) (fun c => absurd c (by decide)) (fun _ => ?_)
  refine vx_aload_n (pc := 21) 1 dX3_init_21 rfl rfl ?_
  refine wb_get (fs := [.ref q1, .int 0, .int 0]) (pc := 22) (k := 51) (sl := 843) (pre := ([] : va_W)) (pst := ((q1, .inl (g.2.2 12, 8, .inr (.inr (.inr (.inr (va_up (va_up (va_up (va_up (va_up (fun _ => none) 0 (some q2)) 1 (some q6)) 2 (some q10)) 3 (some q14)) 4 (some q18))))))) :: (w3 ++ (w7 ++ (w11 ++ (w15 ++ (w19 ++ ([] : va_W)))))))) 0 (.ref q1) dX3_init_22 ki_X3 (lw_in 155 (by decide +kernel) rfl) (by decide) rfl rfl (by simp) ?_
  refine vx_iload_n (pc := 25) 0 dX3_init_25 rfl rfl ?_
  refine wb_new (pc := 26) (k := 51) (sl := 843) [.int 0, .int 0, .null, .null, .null] dX3_init_26 ki_X4 (lw_in 152 (by decide +kernel) rfl) (lw_in 76 (by decide +kernel) rfl) (lw_in 55 (by decide +kernel) rfl) (by decide +kernel) (by decide) (by decide) (fun q22 => ?_)
  refine vx_dup (pc := 29) dX3_init_29 rfl ?_
  refine wb_callI (pc := 30) (k := 52) (sl := 848) (q := q22) dX3_init_30 (fun z => k_X4 l g q22 z) cwi_X4 (Or.inl (lw_in 154 (by decide +kernel) rfl)) (by decide) (Nat.le_of_ble_eq_true rfl) (by decide) (by decide) rfl (fun w23 hw23 => ?_)
  obtain ⟨vs25, hm24⟩ := mem_X4 hw23
  refine wb_astq (n := 8) (f := va_up (va_up (va_up (va_up (va_up (fun _ => none) 0 (some q2)) 1 (some q6)) 2 (some q10)) 3 (some q14)) 4 (some q18)) (pc := 33) (k := 61) (sl := 1010) (ci := 3) (r := (RX4, TX4, 5)) (vs := vs25) (pre := ((h0, .inr (2, [.ref q1, .int 0, .int 0])) :: ([] : va_W))) (pst := (w3 ++ (w7 ++ (w11 ++ (w15 ++ (w19 ++ (w23 ++ ([] : va_W)))))))) 3 12 (va_up (va_up (va_up (va_up (va_up (va_up (fun _ => none) 0 (some q2)) 1 (some q6)) 2 (some q10)) 3 (some q14)) 4 (some q18)) 5 (some q22)) dX3_init_33 (by unfold vp_in; decide) (fun _ => rfl) rfl rfl (by simp) (by simp [hm24]) ?_
  refine vx_iinc (v := 6) (pc := 34) [(1, .int 6), (0, .ref h0)] 0 dX3_init_34 rfl (by decide) (by decide) rfl ?_
  refine vx_goto (pc := 37) 15 dX3_init_37 (by decide) ?_
  refine vx_iload_n (pc := 15) 0 dX3_init_15 rfl rfl ?_
  refine vx_bipush (pc := 16) 8 dX3_init_16 (by decide) ?_
  refine vx_icmp_ge (pc := 18) 40 dX3_init_18 (by decide) (fun c => absurd c (by decide)) (fun _ => ?_)
  refine vx_aload_n (pc := 21) 1 dX3_init_21 rfl rfl ?_
  refine wb_get (fs := [.ref q1, .int 0, .int 0]) (pc := 22) (k := 61) (sl := 1010) (pre := ([] : va_W)) (pst := ((q1, .inl (g.2.2 12, 8, .inr (.inr (.inr (.inr (va_up (va_up (va_up (va_up (va_up (va_up (fun _ => none) 0 (some q2)) 1 (some q6)) 2 (some q10)) 3 (some q14)) 4 (some q18)) 5 (some q22))))))) :: (w3 ++ (w7 ++ (w11 ++ (w15 ++ (w19 ++ (w23 ++ ([] : va_W))))))))) 0 (.ref q1) dX3_init_22 ki_X3 (lw_in 155 (by decide +kernel) rfl) (by decide) rfl rfl (by simp) ?_
  refine vx_iload_n (pc := 25) 0 dX3_init_25 rfl rfl ?_
  refine wb_new (pc := 26) (k := 61) (sl := 1010) [.int 0, .int 0, .null, .null, .null] dX3_init_26 ki_X4 (lw_in 152 (by decide +kernel) rfl) (lw_in 76 (by decide +kernel) rfl) (lw_in 55 (by decide +kernel) rfl) (by decide +kernel) (by decide) (by decide) (fun q26 => ?_)
  refine vx_dup (pc := 29) dX3_init_29 rfl ?_
  refine wb_callI (pc := 30) (k := 62) (sl := 1015) (q := q26) dX3_init_30 (fun z => k_X4 l g q26 z) cwi_X4 (Or.inl (lw_in 154 (by decide +kernel) rfl)) (by decide) (Nat.le_of_ble_eq_true rfl) (by decide) (by decide) rfl (fun w27 hw27 => ?_)
  obtain ⟨vs29, hm28⟩ := mem_X4 hw27
  refine wb_astq (n := 8) (f := va_up (va_up (va_up (va_up (va_up (va_up (fun _ => none) 0 (some q2)) 1 (some q6)) 2 (some q10)) 3 (some q14)) 4 (some q18)) 5 (some q22)) (pc := 33) (k := 71) (sl := 1177) (ci := 3) (r := (RX4, TX4, 5)) (vs := vs29) (pre := ((h0, .inr (2, [.ref q1, .int 0, .int 0])) :: ([] : va_W))) (pst := (w3 ++ (w7 ++ (w11 ++ (w15 ++ (w19 ++ (w23 ++ (w27 ++ ([] : va_W))))))))) 3 12 (va_up (va_up (va_up (va_up (va_up (va_up (va_up (fun _ => none) 0 (some q2)) 1 (some q6)) 2 (some q10)) 3 (some q14)) 4 (some q18)) 5 (some q22)) 6 (some q26)) dX3_init_33 (by unfold vp_in; decide) (fun _ => rfl) rfl rfl (by simp) (by simp [hm28]) ?_
  refine vx_iinc (v := 7) (pc := 34) [(1, .int 7), (0, .ref h0)] 0 dX3_init_34 rfl (by decide) (by decide) rfl ?_
  refine vx_goto (pc := 37) 15 dX3_init_37 (by decide) ?_
  refine vx_iload_n (pc := 15) 0 dX3_init_15 rfl rfl ?_
  refine vx_bipush (pc := 16) 8 dX3_init_16 (by decide) ?_
  refine vx_icmp_ge (pc := 18) 40 dX3_init_18 (by decide) (fun c => absurd c (by decide)) (fun _ => ?_)
  refine vx_aload_n (pc := 21) 1 dX3_init_21 rfl rfl ?_
  refine wb_get (fs := [.ref q1, .int 0, .int 0]) (pc := 22) (k := 71) (sl := 1177) (pre := ([] : va_W)) (pst := ((q1, .inl (g.2.2 12, 8, .inr (.inr (.inr (.inr (va_up (va_up (va_up (va_up (va_up (va_up (va_up (fun _ => none) 0 (some q2)) 1 (some q6)) 2 (some q10)) 3 (some q14)) 4 (some q18)) 5 (some q22)) 6 (some q26))))))) :: (w3 ++ (w7 ++ (w11 ++ (w15 ++ (w19 ++ (w23 ++ (w27 ++ ([] : va_W)))))))))) 0 (.ref q1) dX3_init_22 ki_X3 (lw_in 155 (by decide +kernel) rfl) (by decide) rfl rfl (by simp) ?_
  refine vx_iload_n (pc := 25) 0 dX3_init_25 rfl rfl ?_
  refine wb_new (pc := 26) (k := 71) (sl := 1177) [.int 0, .int 0, .null, .null, .null] dX3_init_26 ki_X4 (lw_in 152 (by decide +kernel) rfl) (lw_in 76 (by decide +kernel) rfl) (lw_in 55 (by decide +kernel) rfl) (by decide +kernel) (by decide) (by decide) (fun q30 => ?_)
  refine vx_dup (pc := 29) dX3_init_29 rfl ?_
  refine wb_callI (pc := 30) (k := 72) (sl := 1182) (q := q30) dX3_init_30 (fun z => k_X4 l g q30 z) cwi_X4 (Or.inl (lw_in 154 (by decide +kernel) rfl)) (by decide) (Nat.le_of_ble_eq_true rfl) (by decide) (by decide) rfl (fun w31 hw31 => ?_)
  obtain ⟨vs33, hm32⟩ := mem_X4 hw31
  refine wb_astq (n := 8) (f := va_up (va_up (va_up (va_up (va_up (va_up (va_up (fun _ => none) 0 (some q2)) 1 (some q6)) 2 (some q10)) 3 (some q14)) 4 (some q18)) 5 (some q22)) 6 (some q26)) (pc := 33) (k := 81) (sl := 1344) (ci := 3) (r := (RX4, TX4, 5)) (vs := vs33) (pre := ((h0, .inr (2, [.ref q1, .int 0, .int 0])) :: ([] : va_W))) (pst := (w3 ++ (w7 ++ (w11 ++ (w15 ++ (w19 ++ (w23 ++ (w27 ++ (w31 ++ ([] : va_W)))))))))) 3 12 (va_up (va_up (va_up (va_up (va_up (va_up (va_up (va_up (fun _ => none) 0 (some q2)) 1 (some q6)) 2 (some q10)) 3 (some q14)) 4 (some q18)) 5 (some q22)) 6 (some q26)) 7 (some q30)) dX3_init_33 (by unfold vp_in; decide) (fun _ => rfl) rfl rfl (by simp) (by simp [hm32]) ?_
  refine vx_iinc (v := 8) (pc := 34) [(1, .int 8), (0, .ref h0)] 0 dX3_init_34 rfl (by decide) (by decide) rfl ?_
  refine vx_goto (pc := 37) 15 dX3_init_37 (by decide) ?_
  refine vx_iload_n (pc := 15) 0 dX3_init_15 rfl rfl ?_
  refine vx_bipush (pc := 16) 8 dX3_init_16 (by decide) ?_
  refine vx_icmp_ge (pc := 18) 40 dX3_init_18 (by decide) (fun _ => ?_) (fun c => absurd (by decide) c)
  exact wb_ret (pc := 40) (k := 81) (sl := 1344) dX3_init_40 (by decide) (by decide) ⟨q1, w3, w7, w11, w15, w19, w23, w27, w31, q2, q6, q10, q14, q18, q22, q26, q30, hw3, hw7, hw11, hw15, hw19, hw23, hw27, hw31, by simp⟩
def p_X8 (g : GG) (h0 : Nat) (w : va_W) : Prop := ∃ (q9 : Nat) (q11 : Nat) (q12 : Nat) (q19 : Nat) (q21 : Nat) (q22 : Nat) (q24 : Nat) (q25 : Nat) (q27 : Nat) (q28 : Nat) (q30 : Nat) (w2 : va_W) (w4 : va_W) (w6 : va_W) (w8 : va_W) (w14 : va_W) (w16 : va_W) (w18 : va_W) (q1 : Nat) (q3 : Nat) (q5 : Nat) (q7 : Nat) (q13 : Nat) (q15 : Nat) (q17 : Nat), p_X4 g q1 w2 ∧ p_X4 g q3 w4 ∧ p_X4 g q5 w6 ∧ p_X3 g q7 w8 ∧ p_X0 g q13 w14 ∧ p_X0 g q15 w16 ∧ p_X6 g q17 w18 ∧ w = ((h0, .inr (7, [.ref q1, .ref q3, .ref q5, .int 0, .ref q7, .ref q9, .ref q12, .ref q13, .ref q15, .ref q17, .ref q19, .ref q21])) :: (w2 ++ (w4 ++ (w6 ++ (w8 ++ ((q9, .inr (1, [.ref q11, .int 0])) :: ((q11, .inl (g.2.2 9, 72, .inl (fun _ => 0))) :: ((q12, .inl (g.2.2 14, 3, .inr (.inr (.inr (.inr (va_up (va_up (va_up (fun _ => none) 0 (some q22)) 1 (some q25)) 2 (some q28))))))) :: (w14 ++ (w16 ++ (w18 ++ ((q19, .inr (6, [.int 0, .int 1, .int 0, .int 1, .int 0, .int 0])) :: ((q21, .inl (g.2.2 9, 7, .inl (fun _ => 0))) :: ((q22, .inr (4, [.int (-1), .ref q24])) :: ((q24, .inl (g.2.2 9, 40, .inl (fun _ => 0))) :: ((q25, .inr (4, [.int (-1), .ref q27])) :: ((q27, .inl (g.2.2 9, 40, .inl (fun _ => 0))) :: ((q28, .inr (4, [.int (-1), .ref q30])) :: ((q30, .inl (g.2.2 9, 40, .inl (fun _ => 0))) :: ([] : va_W))))))))))))))))))))
theorem dX8_init_0 : decode cX8_init 0 = .ok (.aload_n 0, 1) := by decide +kernel
theorem dX8_init_1 : decode cX8_init 1 = .ok (.invokespecial 1, 3) := by decide +kernel
theorem dX8_init_4 : decode cX8_init 4 = .ok (.aload_n 0, 1) := by decide +kernel
theorem dX8_init_5 : decode cX8_init 5 = .ok (.new 7, 3) := by decide +kernel
theorem dX8_init_8 : decode cX8_init 8 = .ok (.dup, 1) := by decide +kernel
theorem dX8_init_9 : decode cX8_init 9 = .ok (.invokespecial 9, 3) := by decide +kernel
theorem dX8_init_12 : decode cX8_init 12 = .ok (.putfield 10, 3) := by decide +kernel
theorem dX8_init_15 : decode cX8_init 15 = .ok (.aload_n 0, 1) := by decide +kernel
theorem dX8_init_16 : decode cX8_init 16 = .ok (.new 7, 3) := by decide +kernel
theorem dX8_init_19 : decode cX8_init 19 = .ok (.dup, 1) := by decide +kernel
theorem dX8_init_20 : decode cX8_init 20 = .ok (.invokespecial 9, 3) := by decide +kernel
theorem dX8_init_23 : decode cX8_init 23 = .ok (.putfield 16, 3) := by decide +kernel
theorem dX8_init_26 : decode cX8_init 26 = .ok (.aload_n 0, 1) := by decide +kernel
theorem dX8_init_27 : decode cX8_init 27 = .ok (.new 7, 3) := by decide +kernel
theorem dX8_init_30 : decode cX8_init 30 = .ok (.dup, 1) := by decide +kernel
theorem dX8_init_31 : decode cX8_init 31 = .ok (.invokespecial 9, 3) := by decide +kernel
theorem dX8_init_34 : decode cX8_init 34 = .ok (.putfield 19, 3) := by decide +kernel
theorem dX8_init_37 : decode cX8_init 37 = .ok (.aload_n 0, 1) := by decide +kernel
theorem dX8_init_38 : decode cX8_init 38 = .ok (.new 22, 3) := by decide +kernel
theorem dX8_init_41 : decode cX8_init 41 = .ok (.dup, 1) := by decide +kernel
theorem dX8_init_42 : decode cX8_init 42 = .ok (.invokespecial 24, 3) := by decide +kernel
theorem dX8_init_45 : decode cX8_init 45 = .ok (.putfield 25, 3) := by decide +kernel
theorem dX8_init_48 : decode cX8_init 48 = .ok (.aload_n 0, 1) := by decide +kernel
theorem dX8_init_49 : decode cX8_init 49 = .ok (.new 29, 3) := by decide +kernel
theorem dX8_init_52 : decode cX8_init 52 = .ok (.dup, 1) := by decide +kernel
theorem dX8_init_53 : decode cX8_init 53 = .ok (.invokespecial 31, 3) := by decide +kernel
theorem dX8_init_56 : decode cX8_init 56 = .ok (.putfield 32, 3) := by decide +kernel
theorem dX8_init_59 : decode cX8_init 59 = .ok (.aload_n 0, 1) := by decide +kernel
theorem dX8_init_60 : decode cX8_init 60 = .ok (.iconst 3, 1) := by decide +kernel
theorem dX8_init_61 : decode cX8_init 61 = .ok (.anewarray 36, 3) := by decide +kernel
theorem dX8_init_64 : decode cX8_init 64 = .ok (.putfield 38, 3) := by decide +kernel
theorem dX8_init_67 : decode cX8_init 67 = .ok (.aload_n 0, 1) := by decide +kernel
theorem dX8_init_68 : decode cX8_init 68 = .ok (.new 42, 3) := by decide +kernel
theorem dX8_init_71 : decode cX8_init 71 = .ok (.dup, 1) := by decide +kernel
theorem dX8_init_72 : decode cX8_init 72 = .ok (.invokespecial 44, 3) := by decide +kernel
theorem dX8_init_75 : decode cX8_init 75 = .ok (.putfield 45, 3) := by decide +kernel
theorem dX8_init_78 : decode cX8_init 78 = .ok (.aload_n 0, 1) := by decide +kernel
theorem dX8_init_79 : decode cX8_init 79 = .ok (.new 42, 3) := by decide +kernel
theorem dX8_init_82 : decode cX8_init 82 = .ok (.dup, 1) := by decide +kernel
theorem dX8_init_83 : decode cX8_init 83 = .ok (.invokespecial 44, 3) := by decide +kernel
theorem dX8_init_86 : decode cX8_init 86 = .ok (.putfield 49, 3) := by decide +kernel
theorem dX8_init_89 : decode cX8_init 89 = .ok (.aload_n 0, 1) := by decide +kernel
theorem dX8_init_90 : decode cX8_init 90 = .ok (.new 52, 3) := by decide +kernel
theorem dX8_init_93 : decode cX8_init 93 = .ok (.dup, 1) := by decide +kernel
theorem dX8_init_94 : decode cX8_init 94 = .ok (.invokespecial 54, 3) := by decide +kernel
theorem dX8_init_97 : decode cX8_init 97 = .ok (.putfield 55, 3) := by decide +kernel
theorem dX8_init_100 : decode cX8_init 100 = .ok (.aload_n 0, 1) := by decide +kernel
theorem dX8_init_101 : decode cX8_init 101 = .ok (.new 59, 3) := by decide +kernel
theorem dX8_init_104 : decode cX8_init 104 = .ok (.dup, 1) := by decide +kernel
theorem dX8_init_105 : decode cX8_init 105 = .ok (.invokespecial 61, 3) := by decide +kernel
theorem dX8_init_108 : decode cX8_init 108 = .ok (.putfield 62, 3) := by decide +kernel
theorem dX8_init_111 : decode cX8_init 111 = .ok (.aload_n 0, 1) := by decide +kernel
theorem dX8_init_112 : decode cX8_init 112 = .ok (.bipush 7, 2) := by decide +kernel
theorem dX8_init_114 : decode cX8_init 114 = .ok (.newarray .int, 2) := by decide +kernel
theorem dX8_init_116 : decode cX8_init 116 = .ok (.putfield 66, 3) := by decide +kernel
theorem dX8_init_119 : decode cX8_init 119 = .ok (.iconst 0, 1) := by decide +kernel
theorem dX8_init_120 : decode cX8_init 120 = .ok (.istore_n 1, 1) := by decide +kernel
theorem dX8_init_121 : decode cX8_init 121 = .ok (.iload_n 1, 1) := by decide +kernel
theorem dX8_init_122 : decode cX8_init 122 = .ok (.iconst 3, 1) := by decide +kernel
theorem dX8_init_123 : decode cX8_init 123 = .ok (.if_icmp .ge 22, 3) := by decide +kernel
theorem dX8_init_126 : decode cX8_init 126 = .ok (.aload_n 0, 1) := by decide +kernel
theorem dX8_init_127 : decode cX8_init 127 = .ok (.getfield 38, 3) := by decide +kernel
theorem dX8_init_130 : decode cX8_init 130 = .ok (.iload_n 1, 1) := by decide +kernel
theorem dX8_init_131 : decode cX8_init 131 = .ok (.new 36, 3) := by decide +kernel
theorem dX8_init_134 : decode cX8_init 134 = .ok (.dup, 1) := by decide +kernel
theorem dX8_init_135 : decode cX8_init 135 = .ok (.invokespecial 70, 3) := by decide +kernel
theorem dX8_init_138 : decode cX8_init 138 = .ok (.aastore, 1) := by decide +kernel
theorem dX8_init_139 : decode cX8_init 139 = .ok (.iinc 1 1, 3) := by decide +kernel
theorem dX8_init_142 : decode cX8_init 142 = .ok (.goto (-21), 3) := by decide +kernel
theorem dX8_init_145 : decode cX8_init 145 = .ok (.return_, 1) := by decide +kernel
theorem mo_X8_1 : Cond.methodLink RX8 1 objectInit ∈ lw_g := lw_in 72 (by decide +kernel) rfl
theorem ki_X8 : KI 7 RX8 TX8 12 tyX8 := ⟨rfl, igX8, tyX8_ok, nmX8⟩
theorem cwi_X3 : Cond.code yX3_init cX3_init 2 none ∈ lw_g ∧ Cond.initialized yX3_init.cls ∈ lw_g ∧ Cond.instanceMethod yX3_init ∈ lw_g ∧ yX3_init.name = "<init>" ∧ (yX3_init.cls ≠ "java/lang/invoke/MethodHandle" ∧ yX3_init.cls ≠ "java/lang/invoke/VarHandle" ∧ (parseMethodDescriptor yX3_init.desc).map (fun d => d.parameters.length) = some 0) ∧ 2 ≤ 20 := ⟨lw_in 150 (by decide +kernel) rfl, lw_in 57 (by decide +kernel) rfl, lw_in 149 (by decide +kernel) rfl, rfl, by decide +kernel, by decide⟩
theorem cwi_X1 : Cond.code yX1_init cX1_init 1 none ∈ lw_g ∧ Cond.initialized yX1_init.cls ∈ lw_g ∧ Cond.instanceMethod yX1_init ∈ lw_g ∧ yX1_init.name = "<init>" ∧ (yX1_init.cls ≠ "java/lang/invoke/MethodHandle" ∧ yX1_init.cls ≠ "java/lang/invoke/VarHandle" ∧ (parseMethodDescriptor yX1_init.desc).map (fun d => d.parameters.length) = some 0) ∧ 1 ≤ 20 := ⟨lw_in 170 (by decide +kernel) rfl, lw_in 58 (by decide +kernel) rfl, lw_in 169 (by decide +kernel) rfl, rfl, by decide +kernel, by decide⟩
theorem cwi_X0 : Cond.code yX0_init cX0_init 1 none ∈ lw_g ∧ Cond.initialized yX0_init.cls ∈ lw_g ∧ Cond.instanceMethod yX0_init ∈ lw_g ∧ yX0_init.name = "<init>" ∧ (yX0_init.cls ≠ "java/lang/invoke/MethodHandle" ∧ yX0_init.cls ≠ "java/lang/invoke/VarHandle" ∧ (parseMethodDescriptor yX0_init.desc).map (fun d => d.parameters.length) = some 0) ∧ 1 ≤ 20 := ⟨lw_in 186 (by decide +kernel) rfl, lw_in 59 (by decide +kernel) rfl, lw_in 185 (by decide +kernel) rfl, rfl, by decide +kernel, by decide⟩
theorem cwi_X6 : Cond.code yX6_init cX6_init 1 none ∈ lw_g ∧ Cond.initialized yX6_init.cls ∈ lw_g ∧ Cond.instanceMethod yX6_init ∈ lw_g ∧ yX6_init.name = "<init>" ∧ (yX6_init.cls ≠ "java/lang/invoke/MethodHandle" ∧ yX6_init.cls ≠ "java/lang/invoke/VarHandle" ∧ (parseMethodDescriptor yX6_init.desc).map (fun d => d.parameters.length) = some 0) ∧ 1 ≤ 20 := ⟨lw_in 227 (by decide +kernel) rfl, lw_in 60 (by decide +kernel) rfl, lw_in 226 (by decide +kernel) rfl, rfl, by decide +kernel, by decide⟩
theorem cwi_X5 : Cond.code yX5_init cX5_init 1 none ∈ lw_g ∧ Cond.initialized yX5_init.cls ∈ lw_g ∧ Cond.instanceMethod yX5_init ∈ lw_g ∧ yX5_init.name = "<init>" ∧ (yX5_init.cls ≠ "java/lang/invoke/MethodHandle" ∧ yX5_init.cls ≠ "java/lang/invoke/VarHandle" ∧ (parseMethodDescriptor yX5_init.desc).map (fun d => d.parameters.length) = some 0) ∧ 1 ≤ 20 := ⟨lw_in 261 (by decide +kernel) rfl, lw_in 61 (by decide +kernel) rfl, lw_in 260 (by decide +kernel) rfl, rfl, by decide +kernel, by decide⟩
set_option maxRecDepth 20000 in
set_option maxHeartbeats 4000000 in
theorem k_X8 (l : Launch) (g : GG) (h0 sz : Nat) : CB l g 4 yX8_init cX8_init 2 h0 [(h0, .inr (7, [.null, .null, .null, .int 0, .null, .null, .null, .null, .null, .null, .null, .null]))] sz (p_X8 g h0) 142 3063 := by
  refine CB.of RX8 (by decide +kernel) rfl rfl (by decide) ?_
  refine vx_aload_n (pc := 0) 0 dX8_init_0 rfl rfl ?_
  refine wb_objInit (pc := 1) dX8_init_1 mo_X8_1 w_oi (by decide) (Nat.le_of_ble_eq_true rfl) ?_
  refine vx_aload_n (pc := 4) 0 dX8_init_4 rfl rfl ?_
  refine wb_new (pc := 5) (k := 0) (sl := 0) [.int 0, .int 0, .null, .null, .null] dX8_init_5 ki_X4 (lw_in 75 (by decide +kernel) rfl) (lw_in 76 (by decide +kernel) rfl) (lw_in 55 (by decide +kernel) rfl) (by decide +kernel) (by decide) (by decide) (fun q1 => ?_)
  refine vx_dup (pc := 8) dX8_init_8 rfl ?_
  refine wb_callI (pc := 9) (k := 1) (sl := 5) (q := q1) dX8_init_9 (fun z => k_X4 l g q1 z) cwi_X4 (Or.inl (lw_in 77 (by decide +kernel) rfl)) (by decide) (Nat.le_of_ble_eq_true rfl) (by decide) (by decide) rfl (fun w2 hw2 => ?_)
  refine wb_put (fs := [.null, .null, .null, .int 0, .null, .null, .null, .null, .null, .null, .null, .null]) (pc := 12) (k := 10) (sl := 167) (pre := ([] : va_W)) (pst := (w2 ++ ([] : va_W))) 0 [.ref q1, .null, .null, .int 0, .null, .null, .null, .null, .null, .null, .null, .null] dX8_init_12 ki_X8 (lw_in 274 (by decide +kernel) rfl) (by decide) rfl rfl (fits_ref (Or.inl ⟨_, rfl⟩)) (Nat.le_of_ble_eq_true rfl) rfl (by simp) ?_
  refine vx_aload_n (pc := 15) 0 dX8_init_15 rfl rfl ?_
  refine wb_new (pc := 16) (k := 10) (sl := 167) [.int 0, .int 0, .null, .null, .null] dX8_init_16 ki_X4 (lw_in 75 (by decide +kernel) rfl) (lw_in 76 (by decide +kernel) rfl) (lw_in 55 (by decide +kernel) rfl) (by decide +kernel) (by decide) (by decide) (fun q3 => ?_)
  refine vx_dup (pc := 19) dX8_init_19 rfl ?_
  refine wb_callI (pc := 20) (k := 11) (sl := 172) (q := q3) dX8_init_20 (fun z => k_X4 l g q3 z) cwi_X4 (Or.inl (lw_in 77 (by decide +kernel) rfl)) (by decide) (Nat.le_of_ble_eq_true rfl) (by decide) (by decide) rfl (fun w4 hw4 => ?_)
  refine wb_put (fs := [.ref q1, .null, .null, .int 0, .null, .null, .null, .null, .null, .null, .null, .null]) (pc := 23) (k := 20) (sl := 334) (pre := ([] : va_W)) (pst := (w2 ++ (w4 ++ ([] : va_W)))) 1 [.ref q1, .ref q3, .null, .int 0, .null, .null, .null, .null, .null, .null, .null, .null] dX8_init_23 ki_X8 (lw_in 275 (by decide +kernel) rfl) (by decide) rfl rfl (fits_ref (Or.inl ⟨_, rfl⟩)) (Nat.le_of_ble_eq_true rfl) rfl (by simp) ?_
  refine vx_aload_n (pc := 26) 0 dX8_init_26 rfl rfl ?_
  refine wb_new (pc := 27) (k := 20) (sl := 334) [.int 0, .int 0, .null, .null, .null] dX8_init_27 ki_X4 (lw_in 75 (by decide +kernel) rfl) (lw_in 76 (by decide +kernel) rfl) (lw_in 55 (by decide +kernel) rfl) (by decide +kernel) (by decide) (by decide) (fun q5 => ?_)
  refine vx_dup (pc := 30) dX8_init_30 rfl ?_
  refine wb_callI (pc := 31) (k := 21) (sl := 339) (q := q5) dX8_init_31 (fun z => k_X4 l g q5 z) cwi_X4 (Or.inl (lw_in 77 (by decide +kernel) rfl)) (by decide) (Nat.le_of_ble_eq_true rfl) (by decide) (by decide) rfl (fun w6 hw6 => ?_)
  refine wb_put (fs := [.ref q1, .ref q3, .null, .int 0, .null, .null, .null, .null, .null, .null, .null, .null]) (pc := 34) (k := 30) (sl := 501) (pre := ([] : va_W)) (pst := (w2 ++ (w4 ++ (w6 ++ ([] : va_W))))) 2 [.ref q1, .ref q3, .ref q5, .int 0, .null, .null, .null, .null, .null, .null, .null, .null] dX8_init_34 ki_X8 (lw_in 276 (by decide +kernel) rfl) (by decide) rfl rfl (fits_ref (Or.inl ⟨_, rfl⟩)) (Nat.le_of_ble_eq_true rfl) rfl (by simp) ?_
  refine vx_aload_n (pc := 37) 0 dX8_init_37 rfl rfl ?_
  refine wb_new (pc := 38) (k := 30) (sl := 501) [.null, .int 0, .int 0] dX8_init_38 ki_X3 (lw_in 146 (by decide +kernel) rfl) (lw_in 147 (by decide +kernel) rfl) (lw_in 57 (by decide +kernel) rfl) (by decide +kernel) (by decide) (by decide) (fun q7 => ?_)
  refine vx_dup (pc := 41) dX8_init_41 rfl ?_
  refine wb_callI (pc := 42) (k := 31) (sl := 504) (q := q7) dX8_init_42 (fun z => k_X3 l g q7 z) cwi_X3 (Or.inl (lw_in 148 (by decide +kernel) rfl)) (by decide) (Nat.le_of_ble_eq_true rfl) (by decide) (by decide) rfl (fun w8 hw8 => ?_)
  refine wb_put (fs := [.ref q1, .ref q3, .ref q5, .int 0, .null, .null, .null, .null, .null, .null, .null, .null]) (pc := 45) (k := 112) (sl := 1848) (pre := ([] : va_W)) (pst := (w2 ++ (w4 ++ (w6 ++ (w8 ++ ([] : va_W)))))) 4 [.ref q1, .ref q3, .ref q5, .int 0, .ref q7, .null, .null, .null, .null, .null, .null, .null] dX8_init_45 ki_X8 (lw_in 278 (by decide +kernel) rfl) (by decide) rfl rfl (fits_ref (Or.inl ⟨_, rfl⟩)) (Nat.le_of_ble_eq_true rfl) rfl (by simp) ?_
  refine vx_aload_n (pc := 48) 0 dX8_init_48 rfl rfl ?_
  refine wb_new (pc := 49) (k := 112) (sl := 1848) [.null, .int 0] dX8_init_49 ki_X1 (lw_in 166 (by decide +kernel) rfl) (lw_in 167 (by decide +kernel) rfl) (lw_in 58 (by decide +kernel) rfl) (by decide +kernel) (by decide) (by decide) (fun q9 => ?_)
  refine vx_dup (pc := 52) dX8_init_52 rfl ?_
  refine wb_callI (pc := 53) (k := 113) (sl := 1850) (q := q9) dX8_init_53 (fun z => k_X1 l g q9 z) cwi_X1 (Or.inr ⟨"WheelOnWheel", List.mem_of_getElem? (i := 168) (by decide +kernel)⟩) (by decide) (Nat.le_of_ble_eq_true rfl) (by decide) (by decide) rfl (fun w10 hw10 => ?_)
  obtain ⟨q11, rfl⟩ := hw10
  refine wb_put (fs := [.ref q1, .ref q3, .ref q5, .int 0, .ref q7, .null, .null, .null, .null, .null, .null, .null]) (pc := 56) (k := 114) (sl := 1922) (pre := ([] : va_W)) (pst := (w2 ++ (w4 ++ (w6 ++ (w8 ++ ((q9, .inr (1, [.ref q11, .int 0])) :: ((q11, .inl (g.2.2 9, 72, .inl (fun _ => 0))) :: ([] : va_W)))))))) 5 [.ref q1, .ref q3, .ref q5, .int 0, .ref q7, .ref q9, .null, .null, .null, .null, .null, .null] dX8_init_56 ki_X8 (lw_in 279 (by decide +kernel) rfl) (by decide) rfl rfl (fits_ref (Or.inl ⟨_, rfl⟩)) (Nat.le_of_ble_eq_true rfl) rfl (by simp) ?_
  refine vx_aload_n (pc := 59) 0 dX8_init_59 rfl rfl ?_
  refine vx_iconst (pc := 60) 3 dX8_init_60 (by decide) ?_
  refine wb_newq (pc := 61) (k := 114) (sl := 1922) 3 5 14 dX8_init_61 (lw_in 180 (by decide +kernel) rfl) (List.mem_of_getElem? (i := 181) (by decide +kernel)) (fun _ => rfl) (by decide) (by decide) (by decide) (by decide) (by decide) (fun q12 => ?_)
  refine wb_put (fs := [.ref q1, .ref q3, .ref q5, .int 0, .ref q7, .ref q9, .null, .null, .null, .null, .null, .null]) (pc := 64) (k := 115) (sl := 1925) (pre := ([] : va_W)) (pst := (w2 ++ (w4 ++ (w6 ++ (w8 ++ ((q9, .inr (1, [.ref q11, .int 0])) :: ((q11, .inl (g.2.2 9, 72, .inl (fun _ => 0))) :: ((q12, .inl (g.2.2 14, 3, .inr (.inr (.inr (.inr (fun _ => none)))))) :: ([] : va_W))))))))) 6 [.ref q1, .ref q3, .ref q5, .int 0, .ref q7, .ref q9, .ref q12, .null, .null, .null, .null, .null] dX8_init_64 ki_X8 (lw_in 280 (by decide +kernel) rfl) (by decide) rfl rfl (fits_ref (Or.inr ⟨_, rfl⟩)) (Nat.le_of_ble_eq_true rfl) rfl (by simp) ?_
  refine vx_aload_n (pc := 67) 0 dX8_init_67 rfl rfl ?_
  refine wb_new (pc := 68) (k := 115) (sl := 1925) [.int 0, .int 0, .int 0, .int 0, .int 0, .null, .null, .null, .null, .null] dX8_init_68 ki_X0 (lw_in 182 (by decide +kernel) rfl) (lw_in 183 (by decide +kernel) rfl) (lw_in 59 (by decide +kernel) rfl) (by decide +kernel) (by decide) (by decide) (fun q13 => ?_)
  refine vx_dup (pc := 71) dX8_init_71 rfl ?_
  refine wb_callI (pc := 72) (k := 116) (sl := 1935) (q := q13) dX8_init_72 (fun z => k_X0 l g q13 z) cwi_X0 (Or.inr ⟨"WheelOnWheel", List.mem_of_getElem? (i := 184) (by decide +kernel)⟩) (by decide) (Nat.le_of_ble_eq_true rfl) (by decide) (by decide) rfl (fun w14 hw14 => ?_)
  refine wb_put (fs := [.ref q1, .ref q3, .ref q5, .int 0, .ref q7, .ref q9, .ref q12, .null, .null, .null, .null, .null]) (pc := 75) (k := 121) (sl := 2235) (pre := ([] : va_W)) (pst := (w2 ++ (w4 ++ (w6 ++ (w8 ++ ((q9, .inr (1, [.ref q11, .int 0])) :: ((q11, .inl (g.2.2 9, 72, .inl (fun _ => 0))) :: ((q12, .inl (g.2.2 14, 3, .inr (.inr (.inr (.inr (fun _ => none)))))) :: (w14 ++ ([] : va_W)))))))))) 7 [.ref q1, .ref q3, .ref q5, .int 0, .ref q7, .ref q9, .ref q12, .ref q13, .null, .null, .null, .null] dX8_init_75 ki_X8 (lw_in 281 (by decide +kernel) rfl) (by decide) rfl rfl (fits_ref (Or.inl ⟨_, rfl⟩)) (Nat.le_of_ble_eq_true rfl) rfl (by simp) ?_
  refine vx_aload_n (pc := 78) 0 dX8_init_78 rfl rfl ?_
  refine wb_new (pc := 79) (k := 121) (sl := 2235) [.int 0, .int 0, .int 0, .int 0, .int 0, .null, .null, .null, .null, .null] dX8_init_79 ki_X0 (lw_in 182 (by decide +kernel) rfl) (lw_in 183 (by decide +kernel) rfl) (lw_in 59 (by decide +kernel) rfl) (by decide +kernel) (by decide) (by decide) (fun q15 => ?_)
  refine vx_dup (pc := 82) dX8_init_82 rfl ?_
  refine wb_callI (pc := 83) (k := 122) (sl := 2245) (q := q15) dX8_init_83 (fun z => k_X0 l g q15 z) cwi_X0 (Or.inr ⟨"WheelOnWheel", List.mem_of_getElem? (i := 184) (by decide +kernel)⟩) (by decide) (Nat.le_of_ble_eq_true rfl) (by decide) (by decide) rfl (fun w16 hw16 => ?_)
  refine wb_put (fs := [.ref q1, .ref q3, .ref q5, .int 0, .ref q7, .ref q9, .ref q12, .ref q13, .null, .null, .null, .null]) (pc := 86) (k := 127) (sl := 2545) (pre := ([] : va_W)) (pst := (w2 ++ (w4 ++ (w6 ++ (w8 ++ ((q9, .inr (1, [.ref q11, .int 0])) :: ((q11, .inl (g.2.2 9, 72, .inl (fun _ => 0))) :: ((q12, .inl (g.2.2 14, 3, .inr (.inr (.inr (.inr (fun _ => none)))))) :: (w14 ++ (w16 ++ ([] : va_W))))))))))) 8 [.ref q1, .ref q3, .ref q5, .int 0, .ref q7, .ref q9, .ref q12, .ref q13, .ref q15, .null, .null, .null] dX8_init_86 ki_X8 (lw_in 282 (by decide +kernel) rfl) (by decide) rfl rfl (fits_ref (Or.inl ⟨_, rfl⟩)) (Nat.le_of_ble_eq_true rfl) rfl (by simp) ?_
  refine vx_aload_n (pc := 89) 0 dX8_init_89 rfl rfl ?_
  refine wb_new (pc := 90) (k := 127) (sl := 2545) [.null, .null, .null, .null, .null, .null, .int 0] dX8_init_90 ki_X6 (lw_in 223 (by decide +kernel) rfl) (lw_in 224 (by decide +kernel) rfl) (lw_in 60 (by decide +kernel) rfl) (by decide +kernel) (by decide) (by decide) (fun q17 => ?_)
  refine vx_dup (pc := 93) dX8_init_93 rfl ?_
  refine wb_callI (pc := 94) (k := 128) (sl := 2552) (q := q17) dX8_init_94 (fun z => k_X6 l g q17 z) cwi_X6 (Or.inr ⟨"WheelOnWheel", List.mem_of_getElem? (i := 225) (by decide +kernel)⟩) (by decide) (Nat.le_of_ble_eq_true rfl) (by decide) (by decide) rfl (fun w18 hw18 => ?_)
  refine wb_put (fs := [.ref q1, .ref q3, .ref q5, .int 0, .ref q7, .ref q9, .ref q12, .ref q13, .ref q15, .null, .null, .null]) (pc := 97) (k := 134) (sl := 2924) (pre := ([] : va_W)) (pst := (w2 ++ (w4 ++ (w6 ++ (w8 ++ ((q9, .inr (1, [.ref q11, .int 0])) :: ((q11, .inl (g.2.2 9, 72, .inl (fun _ => 0))) :: ((q12, .inl (g.2.2 14, 3, .inr (.inr (.inr (.inr (fun _ => none)))))) :: (w14 ++ (w16 ++ (w18 ++ ([] : va_W)))))))))))) 9 [.ref q1, .ref q3, .ref q5, .int 0, .ref q7, .ref q9, .ref q12, .ref q13, .ref q15, .ref q17, .null, .null] dX8_init_97 ki_X8 (lw_in 283 (by decide +kernel) rfl) (by decide) rfl rfl (fits_ref (Or.inl ⟨_, rfl⟩)) (Nat.le_of_ble_eq_true rfl) rfl (by simp) ?_
  refine vx_aload_n (pc := 100) 0 dX8_init_100 rfl rfl ?_
  refine wb_new (pc := 101) (k := 134) (sl := 2924) [.int 0, .int 0, .int 0, .int 0, .int 0, .int 0] dX8_init_101 ki_X7 (lw_in 256 (by decide +kernel) rfl) (lw_in 83 (by decide +kernel) rfl) (lw_in 56 (by decide +kernel) rfl) (by decide +kernel) (by decide) (by decide) (fun q19 => ?_)
  refine vx_dup (pc := 104) dX8_init_104 rfl ?_
  refine wb_callI (pc := 105) (k := 135) (sl := 2930) (q := q19) dX8_init_105 (fun z => k_X7 l g q19 z) cwi_X7 (Or.inr ⟨"WheelOnWheel", List.mem_of_getElem? (i := 257) (by decide +kernel)⟩) (by decide) (Nat.le_of_ble_eq_true rfl) (by decide) (by decide) rfl (fun w20 hw20 => ?_)
  have hw20 : w20 = ((q19, .inr (6, [.int 0, .int 1, .int 0, .int 1, .int 0, .int 0])) :: []) := hw20
  subst hw20
  refine wb_put (fs := [.ref q1, .ref q3, .ref q5, .int 0, .ref q7, .ref q9, .ref q12, .ref q13, .ref q15, .ref q17, .null, .null]) (pc := 108) (k := 135) (sl := 2930) (pre := ([] : va_W)) (pst := (w2 ++ (w4 ++ (w6 ++ (w8 ++ ((q9, .inr (1, [.ref q11, .int 0])) :: ((q11, .inl (g.2.2 9, 72, .inl (fun _ => 0))) :: ((q12, .inl (g.2.2 14, 3, .inr (.inr (.inr (.inr (fun _ => none)))))) :: (w14 ++ (w16 ++ (w18 ++ ((q19, .inr (6, [.int 0, .int 1, .int 0, .int 1, .int 0, .int 0])) :: ([] : va_W))))))))))))) 10 [.ref q1, .ref q3, .ref q5, .int 0, .ref q7, .ref q9, .ref q12, .ref q13, .ref q15, .ref q17, .ref q19, .null] dX8_init_108 ki_X8 (lw_in 284 (by decide +kernel) rfl) (by decide) rfl rfl (fits_ref (Or.inl ⟨_, rfl⟩)) (Nat.le_of_ble_eq_true rfl) rfl (by simp) ?_
  refine vx_aload_n (pc := 111) 0 dX8_init_111 rfl rfl ?_
  refine vx_bipush (pc := 112) 7 dX8_init_112 (by decide) ?_
  refine wb_newa (pc := 114) (k := 135) (sl := 2930) 7 .int 0 9 (7, .inl (fun _ => 0)) dX8_init_114 (lw_in 122 (by decide +kernel) rfl) rfl (fun _ => rfl) (fun _ => rfl) (by decide) (by decide) (by decide) (by decide) (by decide) (fun q21 => ?_)
  refine wb_put (fs := [.ref q1, .ref q3, .ref q5, .int 0, .ref q7, .ref q9, .ref q12, .ref q13, .ref q15, .ref q17, .ref q19, .null]) (pc := 116) (k := 136) (sl := 2937) (pre := ([] : va_W)) (pst := (w2 ++ (w4 ++ (w6 ++ (w8 ++ ((q9, .inr (1, [.ref q11, .int 0])) :: ((q11, .inl (g.2.2 9, 72, .inl (fun _ => 0))) :: ((q12, .inl (g.2.2 14, 3, .inr (.inr (.inr (.inr (fun _ => none)))))) :: (w14 ++ (w16 ++ (w18 ++ ((q19, .inr (6, [.int 0, .int 1, .int 0, .int 1, .int 0, .int 0])) :: ((q21, .inl (g.2.2 9, 7, .inl (fun _ => 0))) :: ([] : va_W)))))))))))))) 11 [.ref q1, .ref q3, .ref q5, .int 0, .ref q7, .ref q9, .ref q12, .ref q13, .ref q15, .ref q17, .ref q19, .ref q21] dX8_init_116 ki_X8 (lw_in 285 (by decide +kernel) rfl) (by decide) rfl rfl (fits_ref (Or.inr ⟨_, rfl⟩)) (Nat.le_of_ble_eq_true rfl) rfl (by simp) ?_
  refine vx_iconst (pc := 119) 0 dX8_init_119 (by decide) ?_
  refine vx_istore_n (pc := 120) [(1, .int 0), (0, .ref h0)] dX8_init_120 rfl (by decide) rfl ?_
  refine vx_iload_n (pc := 121) 0 dX8_init_121 rfl rfl ?_
  refine vx_iconst (pc := 122) 3 dX8_init_122 (by decide) ?_
  refine vx_icmp_ge (pc := 123) 145 dX8_init_123 (by decide) (fun c => absurd c (by decide)) (fun _ => ?_)
  refine vx_aload_n (pc := 126) 1 dX8_init_126 rfl rfl ?_
  refine wb_get (fs := [.ref q1, .ref q3, .ref q5, .int 0, .ref q7, .ref q9, .ref q12, .ref q13, .ref q15, .ref q17, .ref q19, .ref q21]) (pc := 127) (k := 136) (sl := 2937) (pre := ([] : va_W)) (pst := (w2 ++ (w4 ++ (w6 ++ (w8 ++ ((q9, .inr (1, [.ref q11, .int 0])) :: ((q11, .inl (g.2.2 9, 72, .inl (fun _ => 0))) :: ((q12, .inl (g.2.2 14, 3, .inr (.inr (.inr (.inr (fun _ => none)))))) :: (w14 ++ (w16 ++ (w18 ++ ((q19, .inr (6, [.int 0, .int 1, .int 0, .int 1, .int 0, .int 0])) :: ((q21, .inl (g.2.2 9, 7, .inl (fun _ => 0))) :: ([] : va_W)))))))))))))) 6 (.ref q12) dX8_init_127 ki_X8 (lw_in 280 (by decide +kernel) rfl) (by decide) rfl rfl (by simp) ?_
  refine vx_iload_n (pc := 130) 0 dX8_init_130 rfl rfl ?_
  refine wb_new (pc := 131) (k := 136) (sl := 2937) [.int 0, .null] dX8_init_131 ki_X5 (lw_in 180 (by decide +kernel) rfl) (lw_in 258 (by decide +kernel) rfl) (lw_in 61 (by decide +kernel) rfl) (by decide +kernel) (by decide) (by decide) (fun q22 => ?_)
  refine vx_dup (pc := 134) dX8_init_134 rfl ?_
  refine wb_callI (pc := 135) (k := 137) (sl := 2939) (q := q22) dX8_init_135 (fun z => k_X5 l g q22 z) cwi_X5 (Or.inr ⟨"WheelOnWheel", List.mem_of_getElem? (i := 259) (by decide +kernel)⟩) (by decide) (Nat.le_of_ble_eq_true rfl) (by decide) (by decide) rfl (fun w23 hw23 => ?_)
  obtain ⟨q24, rfl⟩ := hw23
  refine wb_astq (n := 3) (f := fun _ => none) (pc := 138) (k := 138) (sl := 2979) (ci := 4) (r := (RX5, TX5, 2)) (vs := [.int (-1), .ref q24]) (pre := ((h0, .inr (7, [.ref q1, .ref q3, .ref q5, .int 0, .ref q7, .ref q9, .ref q12, .ref q13, .ref q15, .ref q17, .ref q19, .ref q21])) :: (w2 ++ (w4 ++ (w6 ++ (w8 ++ ((q9, .inr (1, [.ref q11, .int 0])) :: ((q11, .inl (g.2.2 9, 72, .inl (fun _ => 0))) :: ([] : va_W))))))))) (pst := (w14 ++ (w16 ++ (w18 ++ ((q19, .inr (6, [.int 0, .int 1, .int 0, .int 1, .int 0, .int 0])) :: ((q21, .inl (g.2.2 9, 7, .inl (fun _ => 0))) :: ((q22, .inr (4, [.int (-1), .ref q24])) :: ((q24, .inl (g.2.2 9, 40, .inl (fun _ => 0))) :: ([] : va_W))))))))) 5 14 (va_up (fun _ => none) 0 (some q22)) dX8_init_138 (by unfold vp_in; decide) (fun _ => rfl) rfl rfl (by simp) (by simp) ?_
  refine vx_iinc (v := 1) (pc := 139) [(1, .int 1), (0, .ref h0)] 0 dX8_init_139 rfl (by decide) (by decide) rfl ?_
  refine vx_goto (pc := 142) 121 dX8_init_142 (by decide) ?_
  refine vx_iload_n (pc := 121) 0 dX8_init_121 rfl rfl ?_
  refine vx_iconst (pc := 122) 3 dX8_init_122 (by decide) ?_
  refine vx_icmp_ge (pc := 123) 145 dX8_init_123 (by decide) (fun c => absurd c (by decide)) (fun _ => ?_)
  refine vx_aload_n (pc := 126) 1 dX8_init_126 rfl rfl ?_
  refine wb_get (fs := [.ref q1, .ref q3, .ref q5, .int 0, .ref q7, .ref q9, .ref q12, .ref q13, .ref q15, .ref q17, .ref q19, .ref q21]) (pc := 127) (k := 138) (sl := 2979) (pre := ([] : va_W)) (pst := (w2 ++ (w4 ++ (w6 ++ (w8 ++ ((q9, .inr (1, [.ref q11, .int 0])) :: ((q11, .inl (g.2.2 9, 72, .inl (fun _ => 0))) :: ((q12, .inl (g.2.2 14, 3, .inr (.inr (.inr (.inr (va_up (fun _ => none) 0 (some q22))))))) :: (w14 ++ (w16 ++ (w18 ++ ((q19, .inr (6, [.int 0, .int 1, .int 0, .int 1, .int 0, .int 0])) :: ((q21, .inl (g.2.2 9, 7, .inl (fun _ => 0))) :: ((q22, .inr (4, [.int (-1), .ref q24])) :: ((q24, .inl (g.2.2 9, 40, .inl (fun _ => 0))) :: ([] : va_W)))))))))))))))) 6 (.ref q12) dX8_init_127 ki_X8 (lw_in 280 (by decide +kernel) rfl) (by decide) rfl rfl (by simp) ?_
  refine vx_iload_n (pc := 130) 0 dX8_init_130 rfl rfl ?_
  refine wb_new (pc := 131) (k := 138) (sl := 2979) [.int 0, .null] dX8_init_131 ki_X5 (lw_in 180 (by decide +kernel) rfl) (lw_in 258 (by decide +kernel) rfl) (lw_in 61 (by decide +kernel) rfl) (by decide +kernel) (by decide) (by decide) (fun q25 => ?_)
  refine vx_dup (pc := 134) dX8_init_134 rfl ?_
  refine wb_callI (pc := 135) (k := 139) (sl := 2981) (q := q25) dX8_init_135 (fun z => k_X5 l g q25 z) cwi_X5 (Or.inr ⟨"WheelOnWheel", List.mem_of_getElem? (i := 259) (by decide +kernel)⟩) (by decide) (Nat.le_of_ble_eq_true rfl) (by decide) (by decide) rfl (fun w26 hw26 => ?_)
  obtain ⟨q27, rfl⟩ := hw26
  refine wb_astq (n := 3) (f := va_up (fun _ => none) 0 (some q22)) (pc := 138) (k := 140) (sl := 3021) (ci := 4) (r := (RX5, TX5, 2)) (vs := [.int (-1), .ref q27]) (pre := ((h0, .inr (7, [.ref q1, .ref q3, .ref q5, .int 0, .ref q7, .ref q9, .ref q12, .ref q13, .ref q15, .ref q17, .ref q19, .ref q21])) :: (w2 ++ (w4 ++ (w6 ++ (w8 ++ ((q9, .inr (1, [.ref q11, .int 0])) :: ((q11, .inl (g.2.2 9, 72, .inl (fun _ => 0))) :: ([] : va_W))))))))) (pst := (w14 ++ (w16 ++ (w18 ++ ((q19, .inr (6, [.int 0, .int 1, .int 0, .int 1, .int 0, .int 0])) :: ((q21, .inl (g.2.2 9, 7, .inl (fun _ => 0))) :: ((q22, .inr (4, [.int (-1), .ref q24])) :: ((q24, .inl (g.2.2 9, 40, .inl (fun _ => 0))) :: ((q25, .inr (4, [.int (-1), .ref q27])) :: ((q27, .inl (g.2.2 9, 40, .inl (fun _ => 0))) :: ([] : va_W))))))))))) 5 14 (va_up (va_up (fun _ => none) 0 (some q22)) 1 (some q25)) dX8_init_138 (by unfold vp_in; decide) (fun _ => rfl) rfl rfl (by simp) (by simp) ?_
  refine vx_iinc (v := 2) (pc := 139) [(1, .int 2), (0, .ref h0)] 0 dX8_init_139 rfl (by decide) (by decide) rfl ?_
  refine vx_goto (pc := 142) 121 dX8_init_142 (by decide) ?_
  refine vx_iload_n (pc := 121) 0 dX8_init_121 rfl rfl ?_
  refine vx_iconst (pc := 122) 3 dX8_init_122 (by decide) ?_
  refine vx_icmp_ge (pc := 123) 145 dX8_init_123 (by decide) (fun c => absurd c (by decide)) (fun _ => ?_)
  refine vx_aload_n (pc := 126) 1 dX8_init_126 rfl rfl ?_
  refine wb_get (fs := [.ref q1, .ref q3, .ref q5, .int 0, .ref q7, .ref q9, .ref q12, .ref q13, .ref q15, .ref q17, .ref q19, .ref q21]) (pc := 127) (k := 140) (sl := 3021) (pre := ([] : va_W)) (pst := (w2 ++ (w4 ++ (w6 ++ (w8 ++ ((q9, .inr (1, [.ref q11, .int 0])) :: ((q11, .inl (g.2.2 9, 72, .inl (fun _ => 0))) :: ((q12, .inl (g.2.2 14, 3, .inr (.inr (.inr (.inr (va_up (va_up (fun _ => none) 0 (some q22)) 1 (some q25))))))) :: (w14 ++ (w16 ++ (w18 ++ ((q19, .inr (6, [.int 0, .int 1, .int 0, .int 1, .int 0, .int 0])) :: ((q21, .inl (g.2.2 9, 7, .inl (fun _ => 0))) :: ((q22, .inr (4, [.int (-1), .ref q24])) :: ((q24, .inl (g.2.2 9, 40, .inl (fun _ => 0))) :: ((q25, .inr (4, [.int (-1), .ref q27])) :: ((q27, .inl (g.2.2 9, 40, .inl (fun _ => 0))) :: ([] : va_W)))))))))))))))))) 6 (.ref q12) dX8_init_127 ki_X8 (lw_in 280 (by decide +kernel) rfl) (by decide) rfl rfl (by simp) ?_
  refine vx_iload_n (pc := 130) 0 dX8_init_130 rfl rfl ?_
  refine wb_new (pc := 131) (k := 140) (sl := 3021) [.int 0, .null] dX8_init_131 ki_X5 (lw_in 180 (by decide +kernel) rfl) (lw_in 258 (by decide +kernel) rfl) (lw_in 61 (by decide +kernel) rfl) (by decide +kernel) (by decide) (by decide) (fun q28 => ?_)
  refine vx_dup (pc := 134) dX8_init_134 rfl ?_
  refine wb_callI (pc := 135) (k := 141) (sl := 3023) (q := q28) dX8_init_135 (fun z => k_X5 l g q28 z) cwi_X5 (Or.inr ⟨"WheelOnWheel", List.mem_of_getElem? (i := 259) (by decide +kernel)⟩) (by decide) (Nat.le_of_ble_eq_true rfl) (by decide) (by decide) rfl (fun w29 hw29 => ?_)
  obtain ⟨q30, rfl⟩ := hw29
  refine wb_astq (n := 3) (f := va_up (va_up (fun _ => none) 0 (some q22)) 1 (some q25)) (pc := 138) (k := 142) (sl := 3063) (ci := 4) (r := (RX5, TX5, 2)) (vs := [.int (-1), .ref q30]) (pre := ((h0, .inr (7, [.ref q1, .ref q3, .ref q5, .int 0, .ref q7, .ref q9, .ref q12, .ref q13, .ref q15, .ref q17, .ref q19, .ref q21])) :: (w2 ++ (w4 ++ (w6 ++ (w8 ++ ((q9, .inr (1, [.ref q11, .int 0])) :: ((q11, .inl (g.2.2 9, 72, .inl (fun _ => 0))) :: ([] : va_W))))))))) (pst := (w14 ++ (w16 ++ (w18 ++ ((q19, .inr (6, [.int 0, .int 1, .int 0, .int 1, .int 0, .int 0])) :: ((q21, .inl (g.2.2 9, 7, .inl (fun _ => 0))) :: ((q22, .inr (4, [.int (-1), .ref q24])) :: ((q24, .inl (g.2.2 9, 40, .inl (fun _ => 0))) :: ((q25, .inr (4, [.int (-1), .ref q27])) :: ((q27, .inl (g.2.2 9, 40, .inl (fun _ => 0))) :: ((q28, .inr (4, [.int (-1), .ref q30])) :: ((q30, .inl (g.2.2 9, 40, .inl (fun _ => 0))) :: ([] : va_W))))))))))))) 5 14 (va_up (va_up (va_up (fun _ => none) 0 (some q22)) 1 (some q25)) 2 (some q28)) dX8_init_138 (by unfold vp_in; decide) (fun _ => rfl) rfl rfl (by simp) (by simp) ?_
  refine vx_iinc (v := 3) (pc := 139) [(1, .int 3), (0, .ref h0)] 0 dX8_init_139 rfl (by decide) (by decide) rfl ?_
  refine vx_goto (pc := 142) 121 dX8_init_142 (by decide) ?_
  refine vx_iload_n (pc := 121) 0 dX8_init_121 rfl rfl ?_
  refine vx_iconst (pc := 122) 3 dX8_init_122 (by decide) ?_
  refine vx_icmp_ge (pc := 123) 145 dX8_init_123 (by decide) (fun _ => ?_) (fun c => absurd (by decide) c)
  exact wb_ret (pc := 145) (k := 142) (sl := 3063) dX8_init_145 (by decide) (by decide) ⟨q9, q11, q12, q19, q21, q22, q24, q25, q27, q28, q30, w2, w4, w6, w8, w14, w16, w18, q1, q3, q5, q7, q13, q15, q17, hw2, hw4, hw6, hw8, hw14, hw16, hw18, by simp⟩
def p_X9 (g : GG) (h0 : Nat) (w : va_W) : Prop := ∃ (q1 : Nat) (q2 : Nat) (q3 : Nat) (q4 : Nat) (q5 : Nat) (q6 : Nat) (q7 : Nat) (q8 : Nat) (q9 : Nat) (q10 : Nat) (q11 : Nat) (q12 : Nat) (q13 : Nat) (q14 : Nat) (q15 : Nat) (q16 : Nat) (q17 : Nat) (q18 : Nat) (q19 : Nat) (q20 : Nat) (q21 : Nat) (q22 : Nat) (q23 : Nat) (q24 : Nat) (q25 : Nat) (q26 : Nat) (q27 : Nat) (q28 : Nat) (q29 : Nat), w = ((h0, .inr (8, [.int 24, .ref q1, .ref q2, .int 0, .ref q3, .ref q4, .ref q5, .ref q6, .ref q7, .ref q8, .ref q9, .int 0, .ref q10, .ref q11, .ref q12, .int 0, .ref q13, .ref q14, .int 0, .ref q15, .ref q16, .ref q17, .ref q18, .int 0, .int 0, .ref q19, .ref q20, .int 0, .ref q21, .ref q22, .ref q23, .ref q24, .ref q25, .ref q26, .ref q27, .ref q28, .ref q29, .int 0])) :: ((q1, .inl (g.2.2 9, 60, .inl (fun _ => 0))) :: ((q2, .inl (g.2.2 9, 60, .inl (fun _ => 0))) :: ((q3, .inl (g.2.2 9, 6, .inl (fun _ => 0))) :: ((q4, .inl (g.2.2 9, 6, .inl (fun _ => 0))) :: ((q5, .inl (g.2.2 9, 6, .inl (fun _ => 0))) :: ((q6, .inl (g.2.2 9, 6, .inl (fun _ => 0))) :: ((q7, .inl (g.2.2 9, 6, .inl (fun _ => 0))) :: ((q8, .inl (g.2.2 9, 6, .inl (fun _ => 0))) :: ((q9, .inl (g.2.2 9, 72, .inl (fun _ => 0))) :: ((q10, .inl (g.2.2 9, 120, .inl (fun _ => 0))) :: ((q11, .inl (g.2.2 9, 3, .inl (upd (upd (upd (fun _ => 0) 0 (-1)) 1 (-1)) 2 (-1)))) :: ((q12, .inl (g.2.2 9, 1056, .inl (fun _ => 0))) :: ((q13, .inl (g.2.2 9, 158, .inl (fun _ => 0))) :: ((q14, .inl (g.2.2 9, 158, .inl (fun _ => 0))) :: ((q15, .inl (g.2.2 9, 7, .inl (fun _ => 0))) :: ((q16, .inl (g.2.2 9, 60, .inl (fun _ => 0))) :: ((q17, .inl (g.2.2 9, 60, .inl (fun _ => 0))) :: ((q18, .inl (g.2.2 9, 60, .inl (fun _ => 0))) :: ((q19, .inl (g.2.2 9, 60, .inl (fun _ => 0))) :: ((q20, .inl (g.2.2 9, 60, .inl (fun _ => 0))) :: ((q21, .inl (g.2.2 11, 60, .inr (.inl (fun _ => 0)))) :: ((q22, .inl (g.2.2 11, 60, .inr (.inl (fun _ => 0)))) :: ((q23, .inl (g.2.2 11, 60, .inr (.inl (fun _ => 0)))) :: ((q24, .inl (g.2.2 9, 100, .inl (fun _ => 0))) :: ((q25, .inl (g.2.2 9, 100, .inl (fun _ => 0))) :: ((q26, .inl (g.2.2 9, 100, .inl (fun _ => 0))) :: ((q27, .inl (g.2.2 9, 6, .inl (fun _ => 0))) :: ((q28, .inl (g.2.2 9, 6, .inl (fun _ => 0))) :: ((q29, .inl (g.2.2 9, 60, .inl (fun _ => 0))) :: ([] : va_W)))))))))))))))))))))))))))))))
theorem mem_X9 {g : GG} {h0 : Nat} {w : va_W} (h : p_X9 g h0 w) : ∃ vs, (h0, .inr (8, vs)) ∈ w := by
  obtain ⟨q1, q2, q3, q4, q5, q6, q7, q8, q9, q10, q11, q12, q13, q14, q15, q16, q17, q18, q19, q20, q21, q22, q23, q24, q25, q26, q27, q28, q29, rfl⟩ := h
  exact ⟨_, List.mem_cons_self⟩
theorem dX9_init_0 : decode cX9_init 0 = .ok (.aload_n 0, 1) := by decide +kernel
theorem dX9_init_1 : decode cX9_init 1 = .ok (.invokespecial 1, 3) := by decide +kernel
theorem dX9_init_4 : decode cX9_init 4 = .ok (.aload_n 0, 1) := by decide +kernel
theorem dX9_init_5 : decode cX9_init 5 = .ok (.bipush 24, 2) := by decide +kernel
theorem dX9_init_7 : decode cX9_init 7 = .ok (.putfield 7, 3) := by decide +kernel
theorem dX9_init_10 : decode cX9_init 10 = .ok (.aload_n 0, 1) := by decide +kernel
theorem dX9_init_11 : decode cX9_init 11 = .ok (.bipush 60, 2) := by decide +kernel
theorem dX9_init_13 : decode cX9_init 13 = .ok (.newarray .int, 2) := by decide +kernel
theorem dX9_init_15 : decode cX9_init 15 = .ok (.putfield 13, 3) := by decide +kernel
theorem dX9_init_18 : decode cX9_init 18 = .ok (.aload_n 0, 1) := by decide +kernel
theorem dX9_init_19 : decode cX9_init 19 = .ok (.bipush 60, 2) := by decide +kernel
theorem dX9_init_21 : decode cX9_init 21 = .ok (.newarray .int, 2) := by decide +kernel
theorem dX9_init_23 : decode cX9_init 23 = .ok (.putfield 17, 3) := by decide +kernel
theorem dX9_init_26 : decode cX9_init 26 = .ok (.aload_n 0, 1) := by decide +kernel
theorem dX9_init_27 : decode cX9_init 27 = .ok (.bipush 6, 2) := by decide +kernel
theorem dX9_init_29 : decode cX9_init 29 = .ok (.newarray .int, 2) := by decide +kernel
theorem dX9_init_31 : decode cX9_init 31 = .ok (.putfield 20, 3) := by decide +kernel
theorem dX9_init_34 : decode cX9_init 34 = .ok (.aload_n 0, 1) := by decide +kernel
theorem dX9_init_35 : decode cX9_init 35 = .ok (.bipush 6, 2) := by decide +kernel
theorem dX9_init_37 : decode cX9_init 37 = .ok (.newarray .int, 2) := by decide +kernel
theorem dX9_init_39 : decode cX9_init 39 = .ok (.putfield 23, 3) := by decide +kernel
theorem dX9_init_42 : decode cX9_init 42 = .ok (.aload_n 0, 1) := by decide +kernel
theorem dX9_init_43 : decode cX9_init 43 = .ok (.bipush 6, 2) := by decide +kernel
theorem dX9_init_45 : decode cX9_init 45 = .ok (.newarray .int, 2) := by decide +kernel
theorem dX9_init_47 : decode cX9_init 47 = .ok (.putfield 26, 3) := by decide +kernel
theorem dX9_init_50 : decode cX9_init 50 = .ok (.aload_n 0, 1) := by decide +kernel
theorem dX9_init_51 : decode cX9_init 51 = .ok (.bipush 6, 2) := by decide +kernel
theorem dX9_init_53 : decode cX9_init 53 = .ok (.newarray .int, 2) := by decide +kernel
theorem dX9_init_55 : decode cX9_init 55 = .ok (.putfield 29, 3) := by decide +kernel
theorem dX9_init_58 : decode cX9_init 58 = .ok (.aload_n 0, 1) := by decide +kernel
theorem dX9_init_59 : decode cX9_init 59 = .ok (.bipush 6, 2) := by decide +kernel
theorem dX9_init_61 : decode cX9_init 61 = .ok (.newarray .int, 2) := by decide +kernel
theorem dX9_init_63 : decode cX9_init 63 = .ok (.putfield 32, 3) := by decide +kernel
theorem dX9_init_66 : decode cX9_init 66 = .ok (.aload_n 0, 1) := by decide +kernel
theorem dX9_init_67 : decode cX9_init 67 = .ok (.bipush 6, 2) := by decide +kernel
theorem dX9_init_69 : decode cX9_init 69 = .ok (.newarray .int, 2) := by decide +kernel
theorem dX9_init_71 : decode cX9_init 71 = .ok (.putfield 35, 3) := by decide +kernel
theorem dX9_init_74 : decode cX9_init 74 = .ok (.aload_n 0, 1) := by decide +kernel
theorem dX9_init_75 : decode cX9_init 75 = .ok (.bipush 72, 2) := by decide +kernel
theorem dX9_init_77 : decode cX9_init 77 = .ok (.newarray .int, 2) := by decide +kernel
theorem dX9_init_79 : decode cX9_init 79 = .ok (.putfield 38, 3) := by decide +kernel
theorem dX9_init_82 : decode cX9_init 82 = .ok (.aload_n 0, 1) := by decide +kernel
theorem dX9_init_83 : decode cX9_init 83 = .ok (.bipush 120, 2) := by decide +kernel
theorem dX9_init_85 : decode cX9_init 85 = .ok (.newarray .int, 2) := by decide +kernel
theorem dX9_init_87 : decode cX9_init 87 = .ok (.putfield 41, 3) := by decide +kernel
theorem dX9_init_90 : decode cX9_init 90 = .ok (.aload_n 0, 1) := by decide +kernel
theorem dX9_init_91 : decode cX9_init 91 = .ok (.iconst 3, 1) := by decide +kernel
theorem dX9_init_92 : decode cX9_init 92 = .ok (.newarray .int, 2) := by decide +kernel
theorem dX9_init_94 : decode cX9_init 94 = .ok (.dup, 1) := by decide +kernel
theorem dX9_init_95 : decode cX9_init 95 = .ok (.iconst 0, 1) := by decide +kernel
theorem dX9_init_96 : decode cX9_init 96 = .ok (.iconst (-1), 1) := by decide +kernel
theorem dX9_init_97 : decode cX9_init 97 = .ok (.iastore, 1) := by decide +kernel
theorem dX9_init_98 : decode cX9_init 98 = .ok (.dup, 1) := by decide +kernel
theorem dX9_init_99 : decode cX9_init 99 = .ok (.iconst 1, 1) := by decide +kernel
theorem dX9_init_100 : decode cX9_init 100 = .ok (.iconst (-1), 1) := by decide +kernel
theorem dX9_init_101 : decode cX9_init 101 = .ok (.iastore, 1) := by decide +kernel
theorem dX9_init_102 : decode cX9_init 102 = .ok (.dup, 1) := by decide +kernel
theorem dX9_init_103 : decode cX9_init 103 = .ok (.iconst 2, 1) := by decide +kernel
theorem dX9_init_104 : decode cX9_init 104 = .ok (.iconst (-1), 1) := by decide +kernel
theorem dX9_init_105 : decode cX9_init 105 = .ok (.iastore, 1) := by decide +kernel
theorem dX9_init_106 : decode cX9_init 106 = .ok (.putfield 44, 3) := by decide +kernel
theorem dX9_init_109 : decode cX9_init 109 = .ok (.aload_n 0, 1) := by decide +kernel
theorem dX9_init_110 : decode cX9_init 110 = .ok (.sipush 1056, 3) := by decide +kernel
theorem dX9_init_113 : decode cX9_init 113 = .ok (.newarray .int, 2) := by decide +kernel
theorem dX9_init_115 : decode cX9_init 115 = .ok (.putfield 47, 3) := by decide +kernel
theorem dX9_init_118 : decode cX9_init 118 = .ok (.aload_n 0, 1) := by decide +kernel
theorem dX9_init_119 : decode cX9_init 119 = .ok (.sipush 158, 3) := by decide +kernel
theorem dX9_init_122 : decode cX9_init 122 = .ok (.newarray .int, 2) := by decide +kernel
theorem dX9_init_124 : decode cX9_init 124 = .ok (.putfield 50, 3) := by decide +kernel
theorem dX9_init_127 : decode cX9_init 127 = .ok (.aload_n 0, 1) := by decide +kernel
theorem dX9_init_128 : decode cX9_init 128 = .ok (.sipush 158, 3) := by decide +kernel
theorem dX9_init_131 : decode cX9_init 131 = .ok (.newarray .int, 2) := by decide +kernel
theorem dX9_init_133 : decode cX9_init 133 = .ok (.putfield 53, 3) := by decide +kernel
theorem dX9_init_136 : decode cX9_init 136 = .ok (.aload_n 0, 1) := by decide +kernel
theorem dX9_init_137 : decode cX9_init 137 = .ok (.bipush 7, 2) := by decide +kernel
theorem dX9_init_139 : decode cX9_init 139 = .ok (.newarray .int, 2) := by decide +kernel
theorem dX9_init_141 : decode cX9_init 141 = .ok (.putfield 56, 3) := by decide +kernel
theorem dX9_init_144 : decode cX9_init 144 = .ok (.aload_n 0, 1) := by decide +kernel
theorem dX9_init_145 : decode cX9_init 145 = .ok (.bipush 60, 2) := by decide +kernel
theorem dX9_init_147 : decode cX9_init 147 = .ok (.newarray .int, 2) := by decide +kernel
theorem dX9_init_149 : decode cX9_init 149 = .ok (.putfield 59, 3) := by decide +kernel
theorem dX9_init_152 : decode cX9_init 152 = .ok (.aload_n 0, 1) := by decide +kernel
theorem dX9_init_153 : decode cX9_init 153 = .ok (.bipush 60, 2) := by decide +kernel
theorem dX9_init_155 : decode cX9_init 155 = .ok (.newarray .int, 2) := by decide +kernel
theorem dX9_init_157 : decode cX9_init 157 = .ok (.putfield 62, 3) := by decide +kernel
theorem dX9_init_160 : decode cX9_init 160 = .ok (.aload_n 0, 1) := by decide +kernel
theorem dX9_init_161 : decode cX9_init 161 = .ok (.bipush 60, 2) := by decide +kernel
theorem dX9_init_163 : decode cX9_init 163 = .ok (.newarray .int, 2) := by decide +kernel
theorem dX9_init_165 : decode cX9_init 165 = .ok (.putfield 65, 3) := by decide +kernel
theorem dX9_init_168 : decode cX9_init 168 = .ok (.aload_n 0, 1) := by decide +kernel
theorem dX9_init_169 : decode cX9_init 169 = .ok (.bipush 60, 2) := by decide +kernel
theorem dX9_init_171 : decode cX9_init 171 = .ok (.newarray .int, 2) := by decide +kernel
theorem dX9_init_173 : decode cX9_init 173 = .ok (.putfield 68, 3) := by decide +kernel
theorem dX9_init_176 : decode cX9_init 176 = .ok (.aload_n 0, 1) := by decide +kernel
theorem dX9_init_177 : decode cX9_init 177 = .ok (.bipush 60, 2) := by decide +kernel
theorem dX9_init_179 : decode cX9_init 179 = .ok (.newarray .int, 2) := by decide +kernel
theorem dX9_init_181 : decode cX9_init 181 = .ok (.putfield 71, 3) := by decide +kernel
theorem dX9_init_184 : decode cX9_init 184 = .ok (.aload_n 0, 1) := by decide +kernel
theorem dX9_init_185 : decode cX9_init 185 = .ok (.bipush 60, 2) := by decide +kernel
theorem dX9_init_187 : decode cX9_init 187 = .ok (.newarray .long, 2) := by decide +kernel
theorem dX9_init_189 : decode cX9_init 189 = .ok (.putfield 74, 3) := by decide +kernel
theorem dX9_init_192 : decode cX9_init 192 = .ok (.aload_n 0, 1) := by decide +kernel
theorem dX9_init_193 : decode cX9_init 193 = .ok (.bipush 60, 2) := by decide +kernel
theorem dX9_init_195 : decode cX9_init 195 = .ok (.newarray .long, 2) := by decide +kernel
theorem dX9_init_197 : decode cX9_init 197 = .ok (.putfield 78, 3) := by decide +kernel
theorem dX9_init_200 : decode cX9_init 200 = .ok (.aload_n 0, 1) := by decide +kernel
theorem dX9_init_201 : decode cX9_init 201 = .ok (.bipush 60, 2) := by decide +kernel
theorem dX9_init_203 : decode cX9_init 203 = .ok (.newarray .long, 2) := by decide +kernel
theorem dX9_init_205 : decode cX9_init 205 = .ok (.putfield 81, 3) := by decide +kernel
theorem dX9_init_208 : decode cX9_init 208 = .ok (.aload_n 0, 1) := by decide +kernel
theorem dX9_init_209 : decode cX9_init 209 = .ok (.bipush 100, 2) := by decide +kernel
theorem dX9_init_211 : decode cX9_init 211 = .ok (.newarray .int, 2) := by decide +kernel
theorem dX9_init_213 : decode cX9_init 213 = .ok (.putfield 84, 3) := by decide +kernel
theorem dX9_init_216 : decode cX9_init 216 = .ok (.aload_n 0, 1) := by decide +kernel
theorem dX9_init_217 : decode cX9_init 217 = .ok (.bipush 100, 2) := by decide +kernel
theorem dX9_init_219 : decode cX9_init 219 = .ok (.newarray .int, 2) := by decide +kernel
theorem dX9_init_221 : decode cX9_init 221 = .ok (.putfield 87, 3) := by decide +kernel
theorem dX9_init_224 : decode cX9_init 224 = .ok (.aload_n 0, 1) := by decide +kernel
theorem dX9_init_225 : decode cX9_init 225 = .ok (.bipush 100, 2) := by decide +kernel
theorem dX9_init_227 : decode cX9_init 227 = .ok (.newarray .int, 2) := by decide +kernel
theorem dX9_init_229 : decode cX9_init 229 = .ok (.putfield 90, 3) := by decide +kernel
theorem dX9_init_232 : decode cX9_init 232 = .ok (.aload_n 0, 1) := by decide +kernel
theorem dX9_init_233 : decode cX9_init 233 = .ok (.bipush 6, 2) := by decide +kernel
theorem dX9_init_235 : decode cX9_init 235 = .ok (.newarray .int, 2) := by decide +kernel
theorem dX9_init_237 : decode cX9_init 237 = .ok (.putfield 93, 3) := by decide +kernel
theorem dX9_init_240 : decode cX9_init 240 = .ok (.aload_n 0, 1) := by decide +kernel
theorem dX9_init_241 : decode cX9_init 241 = .ok (.bipush 6, 2) := by decide +kernel
theorem dX9_init_243 : decode cX9_init 243 = .ok (.newarray .int, 2) := by decide +kernel
theorem dX9_init_245 : decode cX9_init 245 = .ok (.putfield 96, 3) := by decide +kernel
theorem dX9_init_248 : decode cX9_init 248 = .ok (.aload_n 0, 1) := by decide +kernel
theorem dX9_init_249 : decode cX9_init 249 = .ok (.bipush 60, 2) := by decide +kernel
theorem dX9_init_251 : decode cX9_init 251 = .ok (.newarray .int, 2) := by decide +kernel
theorem dX9_init_253 : decode cX9_init 253 = .ok (.putfield 99, 3) := by decide +kernel
theorem dX9_init_256 : decode cX9_init 256 = .ok (.return_, 1) := by decide +kernel
theorem mo_X9_1 : Cond.methodLink RX9 1 objectInit ∈ lw_g := lw_in 847 (by decide +kernel) rfl
theorem ki_X9 : KI 8 RX9 TX9 38 tyX9 := ⟨rfl, igX9, tyX9_ok, nmX9⟩
set_option maxRecDepth 20000 in
set_option maxHeartbeats 4000000 in
theorem k_X9 (l : Launch) (g : GG) (h0 sz : Nat) : CB l g 1 yX9_init cX9_init 1 h0 [(h0, .inr (8, [.int 0, .null, .null, .int 0, .null, .null, .null, .null, .null, .null, .null, .int 0, .null, .null, .null, .int 0, .null, .null, .int 0, .null, .null, .null, .null, .int 0, .int 0, .null, .null, .int 0, .null, .null, .null, .null, .null, .null, .null, .null, .null, .int 0]))] sz (p_X9 g h0) 29 2582 := by
  refine CB.of RX9 (by decide +kernel) rfl rfl (by decide) ?_
  refine vx_aload_n (pc := 0) 0 dX9_init_0 rfl rfl ?_
  refine wb_objInit (pc := 1) dX9_init_1 mo_X9_1 w_oi (by decide) (Nat.le_of_ble_eq_true rfl) ?_
  refine vx_aload_n (pc := 4) 0 dX9_init_4 rfl rfl ?_
  refine vx_bipush (pc := 5) 24 dX9_init_5 (by decide) ?_
  refine wb_put (fs := [.int 0, .null, .null, .int 0, .null, .null, .null, .null, .null, .null, .null, .int 0, .null, .null, .null, .int 0, .null, .null, .int 0, .null, .null, .null, .null, .int 0, .int 0, .null, .null, .int 0, .null, .null, .null, .null, .null, .null, .null, .null, .null, .int 0]) (pc := 7) (k := 0) (sl := 0) (pre := ([] : va_W)) (pst := ([] : va_W)) 0 [.int 24, .null, .null, .int 0, .null, .null, .null, .null, .null, .null, .null, .int 0, .null, .null, .null, .int 0, .null, .null, .int 0, .null, .null, .null, .null, .int 0, .int 0, .null, .null, .int 0, .null, .null, .null, .null, .null, .null, .null, .null, .null, .int 0] dX9_init_7 ki_X9 (lw_in 848 (by decide +kernel) rfl) (by decide) rfl rfl ⟨rfl, rfl⟩ (Nat.le_of_ble_eq_true rfl) rfl (by simp) ?_
  refine vx_aload_n (pc := 10) 0 dX9_init_10 rfl rfl ?_
  refine vx_bipush (pc := 11) 60 dX9_init_11 (by decide) ?_
  refine wb_newa (pc := 13) (k := 0) (sl := 0) 60 .int 0 9 (60, .inl (fun _ => 0)) dX9_init_13 (lw_in 122 (by decide +kernel) rfl) rfl (fun _ => rfl) (fun _ => rfl) (by decide) (by decide) (by decide) (by decide) (by decide) (fun q1 => ?_)
  refine wb_put (fs := [.int 24, .null, .null, .int 0, .null, .null, .null, .null, .null, .null, .null, .int 0, .null, .null, .null, .int 0, .null, .null, .int 0, .null, .null, .null, .null, .int 0, .int 0, .null, .null, .int 0, .null, .null, .null, .null, .null, .null, .null, .null, .null, .int 0]) (pc := 15) (k := 1) (sl := 60) (pre := ([] : va_W)) (pst := ((q1, .inl (g.2.2 9, 60, .inl (fun _ => 0))) :: ([] : va_W))) 1 [.int 24, .ref q1, .null, .int 0, .null, .null, .null, .null, .null, .null, .null, .int 0, .null, .null, .null, .int 0, .null, .null, .int 0, .null, .null, .null, .null, .int 0, .int 0, .null, .null, .int 0, .null, .null, .null, .null, .null, .null, .null, .null, .null, .int 0] dX9_init_15 ki_X9 (lw_in 849 (by decide +kernel) rfl) (by decide) rfl rfl (fits_ref (Or.inr ⟨_, rfl⟩)) (Nat.le_of_ble_eq_true rfl) rfl (by simp) ?_
  refine vx_aload_n (pc := 18) 0 dX9_init_18 rfl rfl ?_
  refine vx_bipush (pc := 19) 60 dX9_init_19 (by decide) ?_
  refine wb_newa (pc := 21) (k := 1) (sl := 60) 60 .int 0 9 (60, .inl (fun _ => 0)) dX9_init_21 (lw_in 122 (by decide +kernel) rfl) rfl (fun _ => rfl) (fun _ => rfl) (by decide) (by decide) (by decide) (by decide) (by decide) (fun q2 => ?_)
  refine wb_put (fs := [.int 24, .ref q1, .null, .int 0, .null, .null, .null, .null, .null, .null, .null, .int 0, .null, .null, .null, .int 0, .null, .null, .int 0, .null, .null, .null, .null, .int 0, .int 0, .null, .null, .int 0, .null, .null, .null, .null, .null, .null, .null, .null, .null, .int 0]) (pc := 23) (k := 2) (sl := 120) (pre := ([] : va_W)) (pst := ((q1, .inl (g.2.2 9, 60, .inl (fun _ => 0))) :: ((q2, .inl (g.2.2 9, 60, .inl (fun _ => 0))) :: ([] : va_W)))) 2 [.int 24, .ref q1, .ref q2, .int 0, .null, .null, .null, .null, .null, .null, .null, .int 0, .null, .null, .null, .int 0, .null, .null, .int 0, .null, .null, .null, .null, .int 0, .int 0, .null, .null, .int 0, .null, .null, .null, .null, .null, .null, .null, .null, .null, .int 0] dX9_init_23 ki_X9 (lw_in 850 (by decide +kernel) rfl) (by decide) rfl rfl (fits_ref (Or.inr ⟨_, rfl⟩)) (Nat.le_of_ble_eq_true rfl) rfl (by simp) ?_
  refine vx_aload_n (pc := 26) 0 dX9_init_26 rfl rfl ?_
  refine vx_bipush (pc := 27) 6 dX9_init_27 (by decide) ?_
  refine wb_newa (pc := 29) (k := 2) (sl := 120) 6 .int 0 9 (6, .inl (fun _ => 0)) dX9_init_29 (lw_in 122 (by decide +kernel) rfl) rfl (fun _ => rfl) (fun _ => rfl) (by decide) (by decide) (by decide) (by decide) (by decide) (fun q3 => ?_)
  refine wb_put (fs := [.int 24, .ref q1, .ref q2, .int 0, .null, .null, .null, .null, .null, .null, .null, .int 0, .null, .null, .null, .int 0, .null, .null, .int 0, .null, .null, .null, .null, .int 0, .int 0, .null, .null, .int 0, .null, .null, .null, .null, .null, .null, .null, .null, .null, .int 0]) (pc := 31) (k := 3) (sl := 126) (pre := ([] : va_W)) (pst := ((q1, .inl (g.2.2 9, 60, .inl (fun _ => 0))) :: ((q2, .inl (g.2.2 9, 60, .inl (fun _ => 0))) :: ((q3, .inl (g.2.2 9, 6, .inl (fun _ => 0))) :: ([] : va_W))))) 4 [.int 24, .ref q1, .ref q2, .int 0, .ref q3, .null, .null, .null, .null, .null, .null, .int 0, .null, .null, .null, .int 0, .null, .null, .int 0, .null, .null, .null, .null, .int 0, .int 0, .null, .null, .int 0, .null, .null, .null, .null, .null, .null, .null, .null, .null, .int 0] dX9_init_31 ki_X9 (lw_in 852 (by decide +kernel) rfl) (by decide) rfl rfl (fits_ref (Or.inr ⟨_, rfl⟩)) (Nat.le_of_ble_eq_true rfl) rfl (by simp) ?_
  refine vx_aload_n (pc := 34) 0 dX9_init_34 rfl rfl ?_
  refine vx_bipush (pc := 35) 6 dX9_init_35 (by decide) ?_
  refine wb_newa (pc := 37) (k := 3) (sl := 126) 6 .int 0 9 (6, .inl (fun _ => 0)) dX9_init_37 (lw_in 122 (by decide +kernel) rfl) rfl (fun _ => rfl) (fun _ => rfl) (by decide) (by decide) (by decide) (by decide) (by decide) (fun q4 => ?_)
  refine wb_put (fs := [.int 24, .ref q1, .ref q2, .int 0, .ref q3, .null, .null, .null, .null, .null, .null, .int 0, .null, .null, .null, .int 0, .null, .null, .int 0, .null, .null, .null, .null, .int 0, .int 0, .null, .null, .int 0, .null, .null, .null, .null, .null, .null, .null, .null, .null, .int 0]) (pc := 39) (k := 4) (sl := 132) (pre := ([] : va_W)) (pst := ((q1, .inl (g.2.2 9, 60, .inl (fun _ => 0))) :: ((q2, .inl (g.2.2 9, 60, .inl (fun _ => 0))) :: ((q3, .inl (g.2.2 9, 6, .inl (fun _ => 0))) :: ((q4, .inl (g.2.2 9, 6, .inl (fun _ => 0))) :: ([] : va_W)))))) 5 [.int 24, .ref q1, .ref q2, .int 0, .ref q3, .ref q4, .null, .null, .null, .null, .null, .int 0, .null, .null, .null, .int 0, .null, .null, .int 0, .null, .null, .null, .null, .int 0, .int 0, .null, .null, .int 0, .null, .null, .null, .null, .null, .null, .null, .null, .null, .int 0] dX9_init_39 ki_X9 (lw_in 853 (by decide +kernel) rfl) (by decide) rfl rfl (fits_ref (Or.inr ⟨_, rfl⟩)) (Nat.le_of_ble_eq_true rfl) rfl (by simp) ?_
  refine vx_aload_n (pc := 42) 0 dX9_init_42 rfl rfl ?_
  refine vx_bipush (pc := 43) 6 dX9_init_43 (by decide) ?_
  refine wb_newa (pc := 45) (k := 4) (sl := 132) 6 .int 0 9 (6, .inl (fun _ => 0)) dX9_init_45 (lw_in 122 (by decide +kernel) rfl) rfl (fun _ => rfl) (fun _ => rfl) (by decide) (by decide) (by decide) (by decide) (by decide) (fun q5 => ?_)
  refine wb_put (fs := [.int 24, .ref q1, .ref q2, .int 0, .ref q3, .ref q4, .null, .null, .null, .null, .null, .int 0, .null, .null, .null, .int 0, .null, .null, .int 0, .null, .null, .null, .null, .int 0, .int 0, .null, .null, .int 0, .null, .null, .null, .null, .null, .null, .null, .null, .null, .int 0]) (pc := 47) (k := 5) (sl := 138) (pre := ([] : va_W)) (pst := ((q1, .inl (g.2.2 9, 60, .inl (fun _ => 0))) :: ((q2, .inl (g.2.2 9, 60, .inl (fun _ => 0))) :: ((q3, .inl (g.2.2 9, 6, .inl (fun _ => 0))) :: ((q4, .inl (g.2.2 9, 6, .inl (fun _ => 0))) :: ((q5, .inl (g.2.2 9, 6, .inl (fun _ => 0))) :: ([] : va_W))))))) 6 [.int 24, .ref q1, .ref q2, .int 0, .ref q3, .ref q4, .ref q5, .null, .null, .null, .null, .int 0, .null, .null, .null, .int 0, .null, .null, .int 0, .null, .null, .null, .null, .int 0, .int 0, .null, .null, .int 0, .null, .null, .null, .null, .null, .null, .null, .null, .null, .int 0] dX9_init_47 ki_X9 (lw_in 854 (by decide +kernel) rfl) (by decide) rfl rfl (fits_ref (Or.inr ⟨_, rfl⟩)) (Nat.le_of_ble_eq_true rfl) rfl (by simp) ?_
  refine vx_aload_n (pc := 50) 0 dX9_init_50 rfl rfl ?_
  refine vx_bipush (pc := 51) 6 dX9_init_51 (by decide) ?_
  refine wb_newa (pc := 53) (k := 5) (sl := 138) 6 .int 0 9 (6, .inl (fun _ => 0)) dX9_init_53 (lw_in 122 (by decide +kernel) rfl) rfl (fun _ => rfl) (fun _ => rfl) (by decide) (by decide) (by decide) (by decide) (by decide) (fun q6 => ?_)
  refine wb_put (fs := [.int 24, .ref q1, .ref q2, .int 0, .ref q3, .ref q4, .ref q5, .null, .null, .null, .null, .int 0, .null, .null, .null, .int 0, .null, .null, .int 0, .null, .null, .null, .null, .int 0, .int 0, .null, .null, .int 0, .null, .null, .null, .null, .null, .null, .null, .null, .null, .int 0]) (pc := 55) (k := 6) (sl := 144) (pre := ([] : va_W)) (pst := ((q1, .inl (g.2.2 9, 60, .inl (fun _ => 0))) :: ((q2, .inl (g.2.2 9, 60, .inl (fun _ => 0))) :: ((q3, .inl (g.2.2 9, 6, .inl (fun _ => 0))) :: ((q4, .inl (g.2.2 9, 6, .inl (fun _ => 0))) :: ((q5, .inl (g.2.2 9, 6, .inl (fun _ => 0))) :: ((q6, .inl (g.2.2 9, 6, .inl (fun _ => 0))) :: ([] : va_W)))))))) 7 [.int 24, .ref q1, .ref q2, .int 0, .ref q3, .ref q4, .ref q5, .ref q6, .null, .null, .null, .int 0, .null, .null, .null, .int 0, .null, .null, .int 0, .null, .null, .null, .null, .int 0, .int 0, .null, .null, .int 0, .null, .null, .null, .null, .null, .null, .null, .null, .null, .int 0] dX9_init_55 ki_X9 (lw_in 855 (by decide +kernel) rfl) (by decide) rfl rfl (fits_ref (Or.inr ⟨_, rfl⟩)) (Nat.le_of_ble_eq_true rfl) rfl (by simp) ?_
  refine vx_aload_n (pc := 58) 0 dX9_init_58 rfl rfl ?_
  refine vx_bipush (pc := 59) 6 dX9_init_59 (by decide) ?_
  refine wb_newa (pc := 61) (k := 6) (sl := 144) 6 .int 0 9 (6, .inl (fun _ => 0)) dX9_init_61 (lw_in 122 (by decide +kernel) rfl) rfl (fun _ => rfl) (fun _ => rfl) (by decide) (by decide) (by decide) (by decide) (by decide) (fun q7 => ?_)
  refine wb_put (fs := [.int 24, .ref q1, .ref q2, .int 0, .ref q3, .ref q4, .ref q5, .ref q6, .null, .null, .null, .int 0, .null, .null, .null, .int 0, .null, .null, .int 0, .null, .null, .null, .null, .int 0, .int 0, .null, .null, .int 0, .null, .null, .null, .null, .null, .null, .null, .null, .null, .int 0]) (pc := 63) (k := 7) (sl := 150) (pre := ([] : va_W)) (pst := ((q1, .inl (g.2.2 9, 60, .inl (fun _ => 0))) :: ((q2, .inl (g.2.2 9, 60, .inl (fun _ => 0))) :: ((q3, .inl (g.2.2 9, 6, .inl (fun _ => 0))) :: ((q4, .inl (g.2.2 9, 6, .inl (fun _ => 0))) :: ((q5, .inl (g.2.2 9, 6, .inl (fun _ => 0))) :: ((q6, .inl (g.2.2 9, 6, .inl (fun _ => 0))) :: ((q7, .inl (g.2.2 9, 6, .inl (fun _ => 0))) :: ([] : va_W))))))))) 8 [.int 24, .ref q1, .ref q2, .int 0, .ref q3, .ref q4, .ref q5, .ref q6, .ref q7, .null, .null, .int 0, .null, .null, .null, .int 0, .null, .null, .int 0, .null, .null, .null, .null, .int 0, .int 0, .null, .null, .int 0, .null, .null, .null, .null, .null, .null, .null, .null, .null, .int 0] dX9_init_63 ki_X9 (lw_in 856 (by decide +kernel) rfl) (by decide) rfl rfl (fits_ref (Or.inr ⟨_, rfl⟩)) (Nat.le_of_ble_eq_true rfl) rfl (by simp) ?_
  refine vx_aload_n (pc := 66) 0 dX9_init_66 rfl rfl ?_
  refine vx_bipush (pc := 67) 6 dX9_init_67 (by decide) ?_
  refine wb_newa (pc := 69) (k := 7) (sl := 150) 6 .int 0 9 (6, .inl (fun _ => 0)) dX9_init_69 (lw_in 122 (by decide +kernel) rfl) rfl (fun _ => rfl) (fun _ => rfl) (by decide) (by decide) (by decide) (by decide) (by decide) (fun q8 => ?_)
  refine wb_put (fs := [.int 24, .ref q1, .ref q2, .int 0, .ref q3, .ref q4, .ref q5, .ref q6, .ref q7, .null, .null, .int 0, .null, .null, .null, .int 0, .null, .null, .int 0, .null, .null, .null, .null, .int 0, .int 0, .null, .null, .int 0, .null, .null, .null, .null, .null, .null, .null, .null, .null, .int 0]) (pc := 71) (k := 8) (sl := 156) (pre := ([] : va_W)) (pst := ((q1, .inl (g.2.2 9, 60, .inl (fun _ => 0))) :: ((q2, .inl (g.2.2 9, 60, .inl (fun _ => 0))) :: ((q3, .inl (g.2.2 9, 6, .inl (fun _ => 0))) :: ((q4, .inl (g.2.2 9, 6, .inl (fun _ => 0))) :: ((q5, .inl (g.2.2 9, 6, .inl (fun _ => 0))) :: ((q6, .inl (g.2.2 9, 6, .inl (fun _ => 0))) :: ((q7, .inl (g.2.2 9, 6, .inl (fun _ => 0))) :: ((q8, .inl (g.2.2 9, 6, .inl (fun _ => 0))) :: ([] : va_W)))))))))) 9 [.int 24, .ref q1, .ref q2, .int 0, .ref q3, .ref q4, .ref q5, .ref q6, .ref q7, .ref q8, .null, .int 0, .null, .null, .null, .int 0, .null, .null, .int 0, .null, .null, .null, .null, .int 0, .int 0, .null, .null, .int 0, .null, .null, .null, .null, .null, .null, .null, .null, .null, .int 0] dX9_init_71 ki_X9 (lw_in 857 (by decide +kernel) rfl) (by decide) rfl rfl (fits_ref (Or.inr ⟨_, rfl⟩)) (Nat.le_of_ble_eq_true rfl) rfl (by simp) ?_
  refine vx_aload_n (pc := 74) 0 dX9_init_74 rfl rfl ?_
  refine vx_bipush (pc := 75) 72 dX9_init_75 (by decide) ?_
  refine wb_newa (pc := 77) (k := 8) (sl := 156) 72 .int 0 9 (72, .inl (fun _ => 0)) dX9_init_77 (lw_in 122 (by decide +kernel) rfl) rfl (fun _ => rfl) (fun _ => rfl) (by decide) (by decide) (by decide) (by decide) (by decide) (fun q9 => ?_)
  refine wb_put (fs := [.int 24, .ref q1, .ref q2, .int 0, .ref q3, .ref q4, .ref q5, .ref q6, .ref q7, .ref q8, .null, .int 0, .null, .null, .null, .int 0, .null, .null, .int 0, .null, .null, .null, .null, .int 0, .int 0, .null, .null, .int 0, .null, .null, .null, .null, .null, .null, .null, .null, .null, .int 0]) (pc := 79) (k := 9) (sl := 228) (pre := ([] : va_W)) (pst := ((q1, .inl (g.2.2 9, 60, .inl (fun _ => 0))) :: ((q2, .inl (g.2.2 9, 60, .inl (fun _ => 0))) :: ((q3, .inl (g.2.2 9, 6, .inl (fun _ => 0))) :: ((q4, .inl (g.2.2 9, 6, .inl (fun _ => 0))) :: ((q5, .inl (g.2.2 9, 6, .inl (fun _ => 0))) :: ((q6, .inl (g.2.2 9, 6, .inl (fun _ => 0))) :: ((q7, .inl (g.2.2 9, 6, .inl (fun _ => 0))) :: ((q8, .inl (g.2.2 9, 6, .inl (fun _ => 0))) :: ((q9, .inl (g.2.2 9, 72, .inl (fun _ => 0))) :: ([] : va_W))))))))))) 10 [.int 24, .ref q1, .ref q2, .int 0, .ref q3, .ref q4, .ref q5, .ref q6, .ref q7, .ref q8, .ref q9, .int 0, .null, .null, .null, .int 0, .null, .null, .int 0, .null, .null, .null, .null, .int 0, .int 0, .null, .null, .int 0, .null, .null, .null, .null, .null, .null, .null, .null, .null, .int 0] dX9_init_79 ki_X9 (lw_in 858 (by decide +kernel) rfl) (by decide) rfl rfl (fits_ref (Or.inr ⟨_, rfl⟩)) (Nat.le_of_ble_eq_true rfl) rfl (by simp) ?_
  refine vx_aload_n (pc := 82) 0 dX9_init_82 rfl rfl ?_
  refine vx_bipush (pc := 83) 120 dX9_init_83 (by decide) ?_
  refine wb_newa (pc := 85) (k := 9) (sl := 228) 120 .int 0 9 (120, .inl (fun _ => 0)) dX9_init_85 (lw_in 122 (by decide +kernel) rfl) rfl (fun _ => rfl) (fun _ => rfl) (by decide) (by decide) (by decide) (by decide) (by decide) (fun q10 => ?_)
  refine wb_put (fs := [.int 24, .ref q1, .ref q2, .int 0, .ref q3, .ref q4, .ref q5, .ref q6, .ref q7, .ref q8, .ref q9, .int 0, .null, .null, .null, .int 0, .null, .null, .int 0, .null, .null, .null, .null, .int 0, .int 0, .null, .null, .int 0, .null, .null, .null, .null, .null, .null, .null, .null, .null, .int 0]) (pc := 87) (k := 10) (sl := 348) (pre := ([] : va_W)) (pst := ((q1, .inl (g.2.2 9, 60, .inl (fun _ => 0))) :: ((q2, .inl (g.2.2 9, 60, .inl (fun _ => 0))) :: ((q3, .inl (g.2.2 9, 6, .inl (fun _ => 0))) :: ((q4, .inl (g.2.2 9, 6, .inl (fun _ => 0))) :: ((q5, .inl (g.2.2 9, 6, .inl (fun _ => 0))) :: ((q6, .inl (g.2.2 9, 6, .inl (fun _ => 0))) :: ((q7, .inl (g.2.2 9, 6, .inl (fun _ => 0))) :: ((q8, .inl (g.2.2 9, 6, .inl (fun _ => 0))) :: ((q9, .inl (g.2.2 9, 72, .inl (fun _ => 0))) :: ((q10, .inl (g.2.2 9, 120, .inl (fun _ => 0))) :: ([] : va_W)))))))))))) 12 [.int 24, .ref q1, .ref q2, .int 0, .ref q3, .ref q4, .ref q5, .ref q6, .ref q7, .ref q8, .ref q9, .int 0, .ref q10, .null, .null, .int 0, .null, .null, .int 0, .null, .null, .null, .null, .int 0, .int 0, .null, .null, .int 0, .null, .null, .null, .null, .null, .null, .null, .null, .null, .int 0] dX9_init_87 ki_X9 (lw_in 860 (by decide +kernel) rfl) (by decide) rfl rfl (fits_ref (Or.inr ⟨_, rfl⟩)) (Nat.le_of_ble_eq_true rfl) rfl (by simp) ?_
  refine vx_aload_n (pc := 90) 0 dX9_init_90 rfl rfl ?_
  refine vx_iconst (pc := 91) 3 dX9_init_91 (by decide) ?_
  refine wb_newa (pc := 92) (k := 10) (sl := 348) 3 .int 0 9 (3, .inl (fun _ => 0)) dX9_init_92 (lw_in 122 (by decide +kernel) rfl) rfl (fun _ => rfl) (fun _ => rfl) (by decide) (by decide) (by decide) (by decide) (by decide) (fun q11 => ?_)
  refine vx_dup (pc := 94) dX9_init_94 rfl ?_
  refine vx_iconst (pc := 95) 0 dX9_init_95 (by decide) ?_
  refine vx_iconst (pc := 96) (-1) dX9_init_96 (by decide) ?_
  refine wb_iast (n := 3) (f := fun _ => 0) (pc := 97) (k := 11) (sl := 351) (pre := ((h0, .inr (8, [.int 24, .ref q1, .ref q2, .int 0, .ref q3, .ref q4, .ref q5, .ref q6, .ref q7, .ref q8, .ref q9, .int 0, .ref q10, .null, .null, .int 0, .null, .null, .int 0, .null, .null, .null, .null, .int 0, .int 0, .null, .null, .int 0, .null, .null, .null, .null, .null, .null, .null, .null, .null, .int 0])) :: ((q1, .inl (g.2.2 9, 60, .inl (fun _ => 0))) :: ((q2, .inl (g.2.2 9, 60, .inl (fun _ => 0))) :: ((q3, .inl (g.2.2 9, 6, .inl (fun _ => 0))) :: ((q4, .inl (g.2.2 9, 6, .inl (fun _ => 0))) :: ((q5, .inl (g.2.2 9, 6, .inl (fun _ => 0))) :: ((q6, .inl (g.2.2 9, 6, .inl (fun _ => 0))) :: ((q7, .inl (g.2.2 9, 6, .inl (fun _ => 0))) :: ((q8, .inl (g.2.2 9, 6, .inl (fun _ => 0))) :: ((q9, .inl (g.2.2 9, 72, .inl (fun _ => 0))) :: ((q10, .inl (g.2.2 9, 120, .inl (fun _ => 0))) :: ([] : va_W))))))))))))) (pst := ([] : va_W)) (upd (fun _ => 0) 0 (-1)) dX9_init_97 (by unfold vp_in; decide) rfl (by simp) ?_
  refine vx_dup (pc := 98) dX9_init_98 rfl ?_
  refine vx_iconst (pc := 99) 1 dX9_init_99 (by decide) ?_
  refine vx_iconst (pc := 100) (-1) dX9_init_100 (by decide) ?_
  refine wb_iast (n := 3) (f := upd (fun _ => 0) 0 (-1)) (pc := 101) (k := 11) (sl := 351) (pre := ((h0, .inr (8, [.int 24, .ref q1, .ref q2, .int 0, .ref q3, .ref q4, .ref q5, .ref q6, .ref q7, .ref q8, .ref q9, .int 0, .ref q10, .null, .null, .int 0, .null, .null, .int 0, .null, .null, .null, .null, .int 0, .int 0, .null, .null, .int 0, .null, .null, .null, .null, .null, .null, .null, .null, .null, .int 0])) :: ((q1, .inl (g.2.2 9, 60, .inl (fun _ => 0))) :: ((q2, .inl (g.2.2 9, 60, .inl (fun _ => 0))) :: ((q3, .inl (g.2.2 9, 6, .inl (fun _ => 0))) :: ((q4, .inl (g.2.2 9, 6, .inl (fun _ => 0))) :: ((q5, .inl (g.2.2 9, 6, .inl (fun _ => 0))) :: ((q6, .inl (g.2.2 9, 6, .inl (fun _ => 0))) :: ((q7, .inl (g.2.2 9, 6, .inl (fun _ => 0))) :: ((q8, .inl (g.2.2 9, 6, .inl (fun _ => 0))) :: ((q9, .inl (g.2.2 9, 72, .inl (fun _ => 0))) :: ((q10, .inl (g.2.2 9, 120, .inl (fun _ => 0))) :: ([] : va_W))))))))))))) (pst := ([] : va_W)) (upd (upd (fun _ => 0) 0 (-1)) 1 (-1)) dX9_init_101 (by unfold vp_in; decide) rfl (by simp) ?_
  refine vx_dup (pc := 102) dX9_init_102 rfl ?_
  refine vx_iconst (pc := 103) 2 dX9_init_103 (by decide) ?_
  refine vx_iconst (pc := 104) (-1) dX9_init_104 (by decide) ?_
  refine wb_iast (n := 3) (f := upd (upd (fun _ => 0) 0 (-1)) 1 (-1)) (pc := 105) (k := 11) (sl := 351) (pre := ((h0, .inr (8, [.int 24, .ref q1, .ref q2, .int 0, .ref q3, .ref q4, .ref q5, .ref q6, .ref q7, .ref q8, .ref q9, .int 0, .ref q10, .null, .null, .int 0, .null, .null, .int 0, .null, .null, .null, .null, .int 0, .int 0, .null, .null, .int 0, .null, .null, .null, .null, .null, .null, .null, .null, .null, .int 0])) :: ((q1, .inl (g.2.2 9, 60, .inl (fun _ => 0))) :: ((q2, .inl (g.2.2 9, 60, .inl (fun _ => 0))) :: ((q3, .inl (g.2.2 9, 6, .inl (fun _ => 0))) :: ((q4, .inl (g.2.2 9, 6, .inl (fun _ => 0))) :: ((q5, .inl (g.2.2 9, 6, .inl (fun _ => 0))) :: ((q6, .inl (g.2.2 9, 6, .inl (fun _ => 0))) :: ((q7, .inl (g.2.2 9, 6, .inl (fun _ => 0))) :: ((q8, .inl (g.2.2 9, 6, .inl (fun _ => 0))) :: ((q9, .inl (g.2.2 9, 72, .inl (fun _ => 0))) :: ((q10, .inl (g.2.2 9, 120, .inl (fun _ => 0))) :: ([] : va_W))))))))))))) (pst := ([] : va_W)) (upd (upd (upd (fun _ => 0) 0 (-1)) 1 (-1)) 2 (-1)) dX9_init_105 (by unfold vp_in; decide) rfl (by simp) ?_
  refine wb_put (fs := [.int 24, .ref q1, .ref q2, .int 0, .ref q3, .ref q4, .ref q5, .ref q6, .ref q7, .ref q8, .ref q9, .int 0, .ref q10, .null, .null, .int 0, .null, .null, .int 0, .null, .null, .null, .null, .int 0, .int 0, .null, .null, .int 0, .null, .null, .null, .null, .null, .null, .null, .null, .null, .int 0]) (pc := 106) (k := 11) (sl := 351) (pre := ([] : va_W)) (pst := ((q1, .inl (g.2.2 9, 60, .inl (fun _ => 0))) :: ((q2, .inl (g.2.2 9, 60, .inl (fun _ => 0))) :: ((q3, .inl (g.2.2 9, 6, .inl (fun _ => 0))) :: ((q4, .inl (g.2.2 9, 6, .inl (fun _ => 0))) :: ((q5, .inl (g.2.2 9, 6, .inl (fun _ => 0))) :: ((q6, .inl (g.2.2 9, 6, .inl (fun _ => 0))) :: ((q7, .inl (g.2.2 9, 6, .inl (fun _ => 0))) :: ((q8, .inl (g.2.2 9, 6, .inl (fun _ => 0))) :: ((q9, .inl (g.2.2 9, 72, .inl (fun _ => 0))) :: ((q10, .inl (g.2.2 9, 120, .inl (fun _ => 0))) :: ((q11, .inl (g.2.2 9, 3, .inl (upd (upd (upd (fun _ => 0) 0 (-1)) 1 (-1)) 2 (-1)))) :: ([] : va_W))))))))))))) 13 [.int 24, .ref q1, .ref q2, .int 0, .ref q3, .ref q4, .ref q5, .ref q6, .ref q7, .ref q8, .ref q9, .int 0, .ref q10, .ref q11, .null, .int 0, .null, .null, .int 0, .null, .null, .null, .null, .int 0, .int 0, .null, .null, .int 0, .null, .null, .null, .null, .null, .null, .null, .null, .null, .int 0] dX9_init_106 ki_X9 (lw_in 861 (by decide +kernel) rfl) (by decide) rfl rfl (fits_ref (Or.inr ⟨_, rfl⟩)) (Nat.le_of_ble_eq_true rfl) rfl (by simp) ?_
  refine vx_aload_n (pc := 109) 0 dX9_init_109 rfl rfl ?_
  refine vx_sipush (pc := 110) 1056 dX9_init_110 (by decide) ?_
  refine wb_newa (pc := 113) (k := 11) (sl := 351) 1056 .int 0 9 (1056, .inl (fun _ => 0)) dX9_init_113 (lw_in 122 (by decide +kernel) rfl) rfl (fun _ => rfl) (fun _ => rfl) (by decide) (by decide) (by decide) (by decide) (by decide) (fun q12 => ?_)
  refine wb_put (fs := [.int 24, .ref q1, .ref q2, .int 0, .ref q3, .ref q4, .ref q5, .ref q6, .ref q7, .ref q8, .ref q9, .int 0, .ref q10, .ref q11, .null, .int 0, .null, .null, .int 0, .null, .null, .null, .null, .int 0, .int 0, .null, .null, .int 0, .null, .null, .null, .null, .null, .null, .null, .null, .null, .int 0]) (pc := 115) (k := 12) (sl := 1407) (pre := ([] : va_W)) (pst := ((q1, .inl (g.2.2 9, 60, .inl (fun _ => 0))) :: ((q2, .inl (g.2.2 9, 60, .inl (fun _ => 0))) :: ((q3, .inl (g.2.2 9, 6, .inl (fun _ => 0))) :: ((q4, .inl (g.2.2 9, 6, .inl (fun _ => 0))) :: ((q5, .inl (g.2.2 9, 6, .inl (fun _ => 0))) :: ((q6, .inl (g.2.2 9, 6, .inl (fun _ => 0))) :: ((q7, .inl (g.2.2 9, 6, .inl (fun _ => 0))) :: ((q8, .inl (g.2.2 9, 6, .inl (fun _ => 0))) :: ((q9, .inl (g.2.2 9, 72, .inl (fun _ => 0))) :: ((q10, .inl (g.2.2 9, 120, .inl (fun _ => 0))) :: ((q11, .inl (g.2.2 9, 3, .inl (upd (upd (upd (fun _ => 0) 0 (-1)) 1 (-1)) 2 (-1)))) :: ((q12, .inl (g.2.2 9, 1056, .inl (fun _ => 0))) :: ([] : va_W)))))))))))))) 14 [.int 24, .ref q1, .ref q2, .int 0, .ref q3, .ref q4, .ref q5, .ref q6, .ref q7, .ref q8, .ref q9, .int 0, .ref q10, .ref q11, .ref q12, .int 0, .null, .null, .int 0, .null, .null, .null, .null, .int 0, .int 0, .null, .null, .int 0, .null, .null, .null, .null, .null, .null, .null, .null, .null, .int 0] dX9_init_115 ki_X9 (lw_in 862 (by decide +kernel) rfl) (by decide) rfl rfl (fits_ref (Or.inr ⟨_, rfl⟩)) (Nat.le_of_ble_eq_true rfl) rfl (by simp) ?_
  refine vx_aload_n (pc := 118) 0 dX9_init_118 rfl rfl ?_
  refine vx_sipush (pc := 119) 158 dX9_init_119 (by decide) ?_
  refine wb_newa (pc := 122) (k := 12) (sl := 1407) 158 .int 0 9 (158, .inl (fun _ => 0)) dX9_init_122 (lw_in 122 (by decide +kernel) rfl) rfl (fun _ => rfl) (fun _ => rfl) (by decide) (by decide) (by decide) (by decide) (by decide) (fun q13 => ?_)
  refine wb_put (fs := [.int 24, .ref q1, .ref q2, .int 0, .ref q3, .ref q4, .ref q5, .ref q6, .ref q7, .ref q8, .ref q9, .int 0, .ref q10, .ref q11, .ref q12, .int 0, .null, .null, .int 0, .null, .null, .null, .null, .int 0, .int 0, .null, .null, .int 0, .null, .null, .null, .null, .null, .null, .null, .null, .null, .int 0]) (pc := 124) (k := 13) (sl := 1565) (pre := ([] : va_W)) (pst := ((q1, .inl (g.2.2 9, 60, .inl (fun _ => 0))) :: ((q2, .inl (g.2.2 9, 60, .inl (fun _ => 0))) :: ((q3, .inl (g.2.2 9, 6, .inl (fun _ => 0))) :: ((q4, .inl (g.2.2 9, 6, .inl (fun _ => 0))) :: ((q5, .inl (g.2.2 9, 6, .inl (fun _ => 0))) :: ((q6, .inl (g.2.2 9, 6, .inl (fun _ => 0))) :: ((q7, .inl (g.2.2 9, 6, .inl (fun _ => 0))) :: ((q8, .inl (g.2.2 9, 6, .inl (fun _ => 0))) :: ((q9, .inl (g.2.2 9, 72, .inl (fun _ => 0))) :: ((q10, .inl (g.2.2 9, 120, .inl (fun _ => 0))) :: ((q11, .inl (g.2.2 9, 3, .inl (upd (upd (upd (fun _ => 0) 0 (-1)) 1 (-1)) 2 (-1)))) :: ((q12, .inl (g.2.2 9, 1056, .inl (fun _ => 0))) :: ((q13, .inl (g.2.2 9, 158, .inl (fun _ => 0))) :: ([] : va_W))))))))))))))) 16 [.int 24, .ref q1, .ref q2, .int 0, .ref q3, .ref q4, .ref q5, .ref q6, .ref q7, .ref q8, .ref q9, .int 0, .ref q10, .ref q11, .ref q12, .int 0, .ref q13, .null, .int 0, .null, .null, .null, .null, .int 0, .int 0, .null, .null, .int 0, .null, .null, .null, .null, .null, .null, .null, .null, .null, .int 0] dX9_init_124 ki_X9 (lw_in 864 (by decide +kernel) rfl) (by decide) rfl rfl (fits_ref (Or.inr ⟨_, rfl⟩)) (Nat.le_of_ble_eq_true rfl) rfl (by simp) ?_
  refine vx_aload_n (pc := 127) 0 dX9_init_127 rfl rfl ?_
  refine vx_sipush (pc := 128) 158 dX9_init_128 (by decide) ?_
  refine wb_newa (pc := 131) (k := 13) (sl := 1565) 158 .int 0 9 (158, .inl (fun _ => 0)) dX9_init_131 (lw_in 122 (by decide +kernel) rfl) rfl (fun _ => rfl) (fun _ => rfl) (by decide) (by decide) (by decide) (by decide) (by decide) (fun q14 => ?_)
  refine wb_put (fs := [.int 24, .ref q1, .ref q2, .int 0, .ref q3, .ref q4, .ref q5, .ref q6, .ref q7, .ref q8, .ref q9, .int 0, .ref q10, .ref q11, .ref q12, .int 0, .ref q13, .null, .int 0, .null, .null, .null, .null, .int 0, .int 0, .null, .null, .int 0, .null, .null, .null, .null, .null, .null, .null, .null, .null, .int 0]) (pc := 133) (k := 14) (sl := 1723) (pre := ([] : va_W)) (pst := ((q1, .inl (g.2.2 9, 60, .inl (fun _ => 0))) :: ((q2, .inl (g.2.2 9, 60, .inl (fun _ => 0))) :: ((q3, .inl (g.2.2 9, 6, .inl (fun _ => 0))) :: ((q4, .inl (g.2.2 9, 6, .inl (fun _ => 0))) :: ((q5, .inl (g.2.2 9, 6, .inl (fun _ => 0))) :: ((q6, .inl (g.2.2 9, 6, .inl (fun _ => 0))) :: ((q7, .inl (g.2.2 9, 6, .inl (fun _ => 0))) :: ((q8, .inl (g.2.2 9, 6, .inl (fun _ => 0))) :: ((q9, .inl (g.2.2 9, 72, .inl (fun _ => 0))) :: ((q10, .inl (g.2.2 9, 120, .inl (fun _ => 0))) :: ((q11, .inl (g.2.2 9, 3, .inl (upd (upd (upd (fun _ => 0) 0 (-1)) 1 (-1)) 2 (-1)))) :: ((q12, .inl (g.2.2 9, 1056, .inl (fun _ => 0))) :: ((q13, .inl (g.2.2 9, 158, .inl (fun _ => 0))) :: ((q14, .inl (g.2.2 9, 158, .inl (fun _ => 0))) :: ([] : va_W)))))))))))))))) 17 [.int 24, .ref q1, .ref q2, .int 0, .ref q3, .ref q4, .ref q5, .ref q6, .ref q7, .ref q8, .ref q9, .int 0, .ref q10, .ref q11, .ref q12, .int 0, .ref q13, .ref q14, .int 0, .null, .null, .null, .null, .int 0, .int 0, .null, .null, .int 0, .null, .null, .null, .null, .null, .null, .null, .null, .null, .int 0] dX9_init_133 ki_X9 (lw_in 865 (by decide +kernel) rfl) (by decide) rfl rfl (fits_ref (Or.inr ⟨_, rfl⟩)) (Nat.le_of_ble_eq_true rfl) rfl (by simp) ?_
  refine vx_aload_n (pc := 136) 0 dX9_init_136 rfl rfl ?_
  refine vx_bipush (pc := 137) 7 dX9_init_137 (by decide) ?_
  refine wb_newa (pc := 139) (k := 14) (sl := 1723) 7 .int 0 9 (7, .inl (fun _ => 0)) dX9_init_139 (lw_in 122 (by decide +kernel) rfl) rfl (fun _ => rfl) (fun _ => rfl) (by decide) (by decide) (by decide) (by decide) (by decide) (fun q15 => ?_)
  refine wb_put (fs := [.int 24, .ref q1, .ref q2, .int 0, .ref q3, .ref q4, .ref q5, .ref q6, .ref q7, .ref q8, .ref q9, .int 0, .ref q10, .ref q11, .ref q12, .int 0, .ref q13, .ref q14, .int 0, .null, .null, .null, .null, .int 0, .int 0, .null, .null, .int 0, .null, .null, .null, .null, .null, .null, .null, .null, .null, .int 0]) (pc := 141) (k := 15) (sl := 1730) (pre := ([] : va_W)) (pst := ((q1, .inl (g.2.2 9, 60, .inl (fun _ => 0))) :: ((q2, .inl (g.2.2 9, 60, .inl (fun _ => 0))) :: ((q3, .inl (g.2.2 9, 6, .inl (fun _ => 0))) :: ((q4, .inl (g.2.2 9, 6, .inl (fun _ => 0))) :: ((q5, .inl (g.2.2 9, 6, .inl (fun _ => 0))) :: ((q6, .inl (g.2.2 9, 6, .inl (fun _ => 0))) :: ((q7, .inl (g.2.2 9, 6, .inl (fun _ => 0))) :: ((q8, .inl (g.2.2 9, 6, .inl (fun _ => 0))) :: ((q9, .inl (g.2.2 9, 72, .inl (fun _ => 0))) :: ((q10, .inl (g.2.2 9, 120, .inl (fun _ => 0))) :: ((q11, .inl (g.2.2 9, 3, .inl (upd (upd (upd (fun _ => 0) 0 (-1)) 1 (-1)) 2 (-1)))) :: ((q12, .inl (g.2.2 9, 1056, .inl (fun _ => 0))) :: ((q13, .inl (g.2.2 9, 158, .inl (fun _ => 0))) :: ((q14, .inl (g.2.2 9, 158, .inl (fun _ => 0))) :: ((q15, .inl (g.2.2 9, 7, .inl (fun _ => 0))) :: ([] : va_W))))))))))))))))) 19 [.int 24, .ref q1, .ref q2, .int 0, .ref q3, .ref q4, .ref q5, .ref q6, .ref q7, .ref q8, .ref q9, .int 0, .ref q10, .ref q11, .ref q12, .int 0, .ref q13, .ref q14, .int 0, .ref q15, .null, .null, .null, .int 0, .int 0, .null, .null, .int 0, .null, .null, .null, .null, .null, .null, .null, .null, .null, .int 0] dX9_init_141 ki_X9 (lw_in 867 (by decide +kernel) rfl) (by decide) rfl rfl (fits_ref (Or.inr ⟨_, rfl⟩)) (Nat.le_of_ble_eq_true rfl) rfl (by simp) ?_
  refine vx_aload_n (pc := 144) 0 dX9_init_144 rfl rfl ?_
  refine vx_bipush (pc := 145) 60 dX9_init_145 (by decide) ?_
  refine wb_newa (pc := 147) (k := 15) (sl := 1730) 60 .int 0 9 (60, .inl (fun _ => 0)) dX9_init_147 (lw_in 122 (by decide +kernel) rfl) rfl (fun _ => rfl) (fun _ => rfl) (by decide) (by decide) (by decide) (by decide) (by decide) (fun q16 => ?_)
  refine wb_put (fs := [.int 24, .ref q1, .ref q2, .int 0, .ref q3, .ref q4, .ref q5, .ref q6, .ref q7, .ref q8, .ref q9, .int 0, .ref q10, .ref q11, .ref q12, .int 0, .ref q13, .ref q14, .int 0, .ref q15, .null, .null, .null, .int 0, .int 0, .null, .null, .int 0, .null, .null, .null, .null, .null, .null, .null, .null, .null, .int 0]) (pc := 149) (k := 16) (sl := 1790) (pre := ([] : va_W)) (pst := ((q1, .inl (g.2.2 9, 60, .inl (fun _ => 0))) :: ((q2, .inl (g.2.2 9, 60, .inl (fun _ => 0))) :: ((q3, .inl (g.2.2 9, 6, .inl (fun _ => 0))) :: ((q4, .inl (g.2.2 9, 6, .inl (fun _ => 0))) :: ((q5, .inl (g.2.2 9, 6, .inl (fun _ => 0))) :: ((q6, .inl (g.2.2 9, 6, .inl (fun _ => 0))) :: ((q7, .inl (g.2.2 9, 6, .inl (fun _ => 0))) :: ((q8, .inl (g.2.2 9, 6, .inl (fun _ => 0))) :: ((q9, .inl (g.2.2 9, 72, .inl (fun _ => 0))) :: ((q10, .inl (g.2.2 9, 120, .inl (fun _ => 0))) :: ((q11, .inl (g.2.2 9, 3, .inl (upd (upd (upd (fun _ => 0) 0 (-1)) 1 (-1)) 2 (-1)))) :: ((q12, .inl (g.2.2 9, 1056, .inl (fun _ => 0))) :: ((q13, .inl (g.2.2 9, 158, .inl (fun _ => 0))) :: ((q14, .inl (g.2.2 9, 158, .inl (fun _ => 0))) :: ((q15, .inl (g.2.2 9, 7, .inl (fun _ => 0))) :: ((q16, .inl (g.2.2 9, 60, .inl (fun _ => 0))) :: ([] : va_W)))))))))))))))))) 20 [.int 24, .ref q1, .ref q2, .int 0, .ref q3, .ref q4, .ref q5, .ref q6, .ref q7, .ref q8, .ref q9, .int 0, .ref q10, .ref q11, .ref q12, .int 0, .ref q13, .ref q14, .int 0, .ref q15, .ref q16, .null, .null, .int 0, .int 0, .null, .null, .int 0, .null, .null, .null, .null, .null, .null, .null, .null, .null, .int 0] dX9_init_149 ki_X9 (lw_in 868 (by decide +kernel) rfl) (by decide) rfl rfl (fits_ref (Or.inr ⟨_, rfl⟩)) (Nat.le_of_ble_eq_true rfl) rfl (by simp) ?_
  refine vx_aload_n (pc := 152) 0 dX9_init_152 rfl rfl ?_
  refine vx_bipush (pc := 153) 60 dX9_init_153 (by decide) ?_
  refine wb_newa (pc := 155) (k := 16) (sl := 1790) 60 .int 0 9 (60, .inl (fun _ => 0)) dX9_init_155 (lw_in 122 (by decide +kernel) rfl) rfl (fun _ => rfl) (fun _ => rfl) (by decide) (by decide) (by decide) (by decide) (by decide) (fun q17 => ?_)
  refine wb_put (fs := [.int 24, .ref q1, .ref q2, .int 0, .ref q3, .ref q4, .ref q5, .ref q6, .ref q7, .ref q8, .ref q9, .int 0, .ref q10, .ref q11, .ref q12, .int 0, .ref q13, .ref q14, .int 0, .ref q15, .ref q16, .null, .null, .int 0, .int 0, .null, .null, .int 0, .null, .null, .null, .null, .null, .null, .null, .null, .null, .int 0]) (pc := 157) (k := 17) (sl := 1850) (pre := ([] : va_W)) (pst := ((q1, .inl (g.2.2 9, 60, .inl (fun _ => 0))) :: ((q2, .inl (g.2.2 9, 60, .inl (fun _ => 0))) :: ((q3, .inl (g.2.2 9, 6, .inl (fun _ => 0))) :: ((q4, .inl (g.2.2 9, 6, .inl (fun _ => 0))) :: ((q5, .inl (g.2.2 9, 6, .inl (fun _ => 0))) :: ((q6, .inl (g.2.2 9, 6, .inl (fun _ => 0))) :: ((q7, .inl (g.2.2 9, 6, .inl (fun _ => 0))) :: ((q8, .inl (g.2.2 9, 6, .inl (fun _ => 0))) :: ((q9, .inl (g.2.2 9, 72, .inl (fun _ => 0))) :: ((q10, .inl (g.2.2 9, 120, .inl (fun _ => 0))) :: ((q11, .inl (g.2.2 9, 3, .inl (upd (upd (upd (fun _ => 0) 0 (-1)) 1 (-1)) 2 (-1)))) :: ((q12, .inl (g.2.2 9, 1056, .inl (fun _ => 0))) :: ((q13, .inl (g.2.2 9, 158, .inl (fun _ => 0))) :: ((q14, .inl (g.2.2 9, 158, .inl (fun _ => 0))) :: ((q15, .inl (g.2.2 9, 7, .inl (fun _ => 0))) :: ((q16, .inl (g.2.2 9, 60, .inl (fun _ => 0))) :: ((q17, .inl (g.2.2 9, 60, .inl (fun _ => 0))) :: ([] : va_W))))))))))))))))))) 21 [.int 24, .ref q1, .ref q2, .int 0, .ref q3, .ref q4, .ref q5, .ref q6, .ref q7, .ref q8, .ref q9, .int 0, .ref q10, .ref q11, .ref q12, .int 0, .ref q13, .ref q14, .int 0, .ref q15, .ref q16, .ref q17, .null, .int 0, .int 0, .null, .null, .int 0, .null, .null, .null, .null, .null, .null, .null, .null, .null, .int 0] dX9_init_157 ki_X9 (lw_in 869 (by decide +kernel) rfl) (by decide) rfl rfl (fits_ref (Or.inr ⟨_, rfl⟩)) (Nat.le_of_ble_eq_true rfl) rfl (by simp) ?_
  refine vx_aload_n (pc := 160) 0 dX9_init_160 rfl rfl ?_
  refine vx_bipush (pc := 161) 60 dX9_init_161 (by decide) ?_
  refine wb_newa (pc := 163) (k := 17) (sl := 1850) 60 .int 0 9 (60, .inl (fun _ => 0)) dX9_init_163 (lw_in 122 (by decide +kernel) rfl) rfl (fun _ => rfl) (fun _ => rfl) (by decide) (by decide) (by decide) (by decide) (by decide) (fun q18 => ?_)
  refine wb_put (fs := [.int 24, .ref q1, .ref q2, .int 0, .ref q3, .ref q4, .ref q5, .ref q6, .ref q7, .ref q8, .ref q9, .int 0, .ref q10, .ref q11, .ref q12, .int 0, .ref q13, .ref q14, .int 0, .ref q15, .ref q16, .ref q17, .null, .int 0, .int 0, .null, .null, .int 0, .null, .null, .null, .null, .null, .null, .null, .null, .null, .int 0]) (pc := 165) (k := 18) (sl := 1910) (pre := ([] : va_W)) (pst := ((q1, .inl (g.2.2 9, 60, .inl (fun _ => 0))) :: ((q2, .inl (g.2.2 9, 60, .inl (fun _ => 0))) :: ((q3, .inl (g.2.2 9, 6, .inl (fun _ => 0))) :: ((q4, .inl (g.2.2 9, 6, .inl (fun _ => 0))) :: ((q5, .inl (g.2.2 9, 6, .inl (fun _ => 0))) :: ((q6, .inl (g.2.2 9, 6, .inl (fun _ => 0))) :: ((q7, .inl (g.2.2 9, 6, .inl (fun _ => 0))) :: ((q8, .inl (g.2.2 9, 6, .inl (fun _ => 0))) :: ((q9, .inl (g.2.2 9, 72, .inl (fun _ => 0))) :: ((q10, .inl (g.2.2 9, 120, .inl (fun _ => 0))) :: ((q11, .inl (g.2.2 9, 3, .inl (upd (upd (upd (fun _ => 0) 0 (-1)) 1 (-1)) 2 (-1)))) :: ((q12, .inl (g.2.2 9, 1056, .inl (fun _ => 0))) :: ((q13, .inl (g.2.2 9, 158, .inl (fun _ => 0))) :: ((q14, .inl (g.2.2 9, 158, .inl (fun _ => 0))) :: ((q15, .inl (g.2.2 9, 7, .inl (fun _ => 0))) :: ((q16, .inl (g.2.2 9, 60, .inl (fun _ => 0))) :: ((q17, .inl (g.2.2 9, 60, .inl (fun _ => 0))) :: ((q18, .inl (g.2.2 9, 60, .inl (fun _ => 0))) :: ([] : va_W)))))))))))))))))))) 22 [.int 24, .ref q1, .ref q2, .int 0, .ref q3, .ref q4, .ref q5, .ref q6, .ref q7, .ref q8, .ref q9, .int 0, .ref q10, .ref q11, .ref q12, .int 0, .ref q13, .ref q14, .int 0, .ref q15, .ref q16, .ref q17, .ref q18, .int 0, .int 0, .null, .null, .int 0, .null, .null, .null, .null, .null, .null, .null, .null, .null, .int 0] dX9_init_165 ki_X9 (lw_in 870 (by decide +kernel) rfl) (by decide) rfl rfl (fits_ref (Or.inr ⟨_, rfl⟩)) (Nat.le_of_ble_eq_true rfl) rfl (by simp) ?_
  refine vx_aload_n (pc := 168) 0 dX9_init_168 rfl rfl ?_
  refine vx_bipush (pc := 169) 60 dX9_init_169 (by decide) ?_
  refine wb_newa (pc := 171) (k := 18) (sl := 1910) 60 .int 0 9 (60, .inl (fun _ => 0)) dX9_init_171 (lw_in 122 (by decide +kernel) rfl) rfl (fun _ => rfl) (fun _ => rfl) (by decide) (by decide) (by decide) (by decide) (by decide) (fun q19 => ?_)
  refine wb_put (fs := [.int 24, .ref q1, .ref q2, .int 0, .ref q3, .ref q4, .ref q5, .ref q6, .ref q7, .ref q8, .ref q9, .int 0, .ref q10, .ref q11, .ref q12, .int 0, .ref q13, .ref q14, .int 0, .ref q15, .ref q16, .ref q17, .ref q18, .int 0, .int 0, .null, .null, .int 0, .null, .null, .null, .null, .null, .null, .null, .null, .null, .int 0]) (pc := 173) (k := 19) (sl := 1970) (pre := ([] : va_W)) (pst := ((q1, .inl (g.2.2 9, 60, .inl (fun _ => 0))) :: ((q2, .inl (g.2.2 9, 60, .inl (fun _ => 0))) :: ((q3, .inl (g.2.2 9, 6, .inl (fun _ => 0))) :: ((q4, .inl (g.2.2 9, 6, .inl (fun _ => 0))) :: ((q5, .inl (g.2.2 9, 6, .inl (fun _ => 0))) :: ((q6, .inl (g.2.2 9, 6, .inl (fun _ => 0))) :: ((q7, .inl (g.2.2 9, 6, .inl (fun _ => 0))) :: ((q8, .inl (g.2.2 9, 6, .inl (fun _ => 0))) :: ((q9, .inl (g.2.2 9, 72, .inl (fun _ => 0))) :: ((q10, .inl (g.2.2 9, 120, .inl (fun _ => 0))) :: ((q11, .inl (g.2.2 9, 3, .inl (upd (upd (upd (fun _ => 0) 0 (-1)) 1 (-1)) 2 (-1)))) :: ((q12, .inl (g.2.2 9, 1056, .inl (fun _ => 0))) :: ((q13, .inl (g.2.2 9, 158, .inl (fun _ => 0))) :: ((q14, .inl (g.2.2 9, 158, .inl (fun _ => 0))) :: ((q15, .inl (g.2.2 9, 7, .inl (fun _ => 0))) :: ((q16, .inl (g.2.2 9, 60, .inl (fun _ => 0))) :: ((q17, .inl (g.2.2 9, 60, .inl (fun _ => 0))) :: ((q18, .inl (g.2.2 9, 60, .inl (fun _ => 0))) :: ((q19, .inl (g.2.2 9, 60, .inl (fun _ => 0))) :: ([] : va_W))))))))))))))))))))) 25 [.int 24, .ref q1, .ref q2, .int 0, .ref q3, .ref q4, .ref q5, .ref q6, .ref q7, .ref q8, .ref q9, .int 0, .ref q10, .ref q11, .ref q12, .int 0, .ref q13, .ref q14, .int 0, .ref q15, .ref q16, .ref q17, .ref q18, .int 0, .int 0, .ref q19, .null, .int 0, .null, .null, .null, .null, .null, .null, .null, .null, .null, .int 0] dX9_init_173 ki_X9 (lw_in 873 (by decide +kernel) rfl) (by decide) rfl rfl (fits_ref (Or.inr ⟨_, rfl⟩)) (Nat.le_of_ble_eq_true rfl) rfl (by simp) ?_
  refine vx_aload_n (pc := 176) 0 dX9_init_176 rfl rfl ?_
  refine vx_bipush (pc := 177) 60 dX9_init_177 (by decide) ?_
  refine wb_newa (pc := 179) (k := 19) (sl := 1970) 60 .int 0 9 (60, .inl (fun _ => 0)) dX9_init_179 (lw_in 122 (by decide +kernel) rfl) rfl (fun _ => rfl) (fun _ => rfl) (by decide) (by decide) (by decide) (by decide) (by decide) (fun q20 => ?_)
  refine wb_put (fs := [.int 24, .ref q1, .ref q2, .int 0, .ref q3, .ref q4, .ref q5, .ref q6, .ref q7, .ref q8, .ref q9, .int 0, .ref q10, .ref q11, .ref q12, .int 0, .ref q13, .ref q14, .int 0, .ref q15, .ref q16, .ref q17, .ref q18, .int 0, .int 0, .ref q19, .null, .int 0, .null, .null, .null, .null, .null, .null, .null, .null, .null, .int 0]) (pc := 181) (k := 20) (sl := 2030) (pre := ([] : va_W)) (pst := ((q1, .inl (g.2.2 9, 60, .inl (fun _ => 0))) :: ((q2, .inl (g.2.2 9, 60, .inl (fun _ => 0))) :: ((q3, .inl (g.2.2 9, 6, .inl (fun _ => 0))) :: ((q4, .inl (g.2.2 9, 6, .inl (fun _ => 0))) :: ((q5, .inl (g.2.2 9, 6, .inl (fun _ => 0))) :: ((q6, .inl (g.2.2 9, 6, .inl (fun _ => 0))) :: ((q7, .inl (g.2.2 9, 6, .inl (fun _ => 0))) :: ((q8, .inl (g.2.2 9, 6, .inl (fun _ => 0))) :: ((q9, .inl (g.2.2 9, 72, .inl (fun _ => 0))) :: ((q10, .inl (g.2.2 9, 120, .inl (fun _ => 0))) :: ((q11, .inl (g.2.2 9, 3, .inl (upd (upd (upd (fun _ => 0) 0 (-1)) 1 (-1)) 2 (-1)))) :: ((q12, .inl (g.2.2 9, 1056, .inl (fun _ => 0))) :: ((q13, .inl (g.2.2 9, 158, .inl (fun _ => 0))) :: ((q14, .inl (g.2.2 9, 158, .inl (fun _ => 0))) :: ((q15, .inl (g.2.2 9, 7, .inl (fun _ => 0))) :: ((q16, .inl (g.2.2 9, 60, .inl (fun _ => 0))) :: ((q17, .inl (g.2.2 9, 60, .inl (fun _ => 0))) :: ((q18, .inl (g.2.2 9, 60, .inl (fun _ => 0))) :: ((q19, .inl (g.2.2 9, 60, .inl (fun _ => 0))) :: ((q20, .inl (g.2.2 9, 60, .inl (fun _ => 0))) :: ([] : va_W)))))))))))))))))))))) 26 [.int 24, .ref q1, .ref q2, .int 0, .ref q3, .ref q4, .ref q5, .ref q6, .ref q7, .ref q8, .ref q9, .int 0, .ref q10, .ref q11, .ref q12, .int 0, .ref q13, .ref q14, .int 0, .ref q15, .ref q16, .ref q17, .ref q18, .int 0, .int 0, .ref q19, .ref q20, .int 0, .null, .null, .null, .null, .null, .null, .null, .null, .null, .int 0] dX9_init_181 ki_X9 (lw_in 874 (by decide +kernel) rfl) (by decide) rfl rfl (fits_ref (Or.inr ⟨_, rfl⟩)) (Nat.le_of_ble_eq_true rfl) rfl (by simp) ?_
  refine vx_aload_n (pc := 184) 0 dX9_init_184 rfl rfl ?_
  refine vx_bipush (pc := 185) 60 dX9_init_185 (by decide) ?_
  refine wb_newa (pc := 187) (k := 20) (sl := 2030) 60 .long 2 11 (60, .inr (.inl (fun _ => 0))) dX9_init_187 (lw_in 222 (by decide +kernel) rfl) rfl (fun _ => rfl) (fun _ => rfl) (by decide) (by decide) (by decide) (by decide) (by decide) (fun q21 => ?_)
  refine wb_put (fs := [.int 24, .ref q1, .ref q2, .int 0, .ref q3, .ref q4, .ref q5, .ref q6, .ref q7, .ref q8, .ref q9, .int 0, .ref q10, .ref q11, .ref q12, .int 0, .ref q13, .ref q14, .int 0, .ref q15, .ref q16, .ref q17, .ref q18, .int 0, .int 0, .ref q19, .ref q20, .int 0, .null, .null, .null, .null, .null, .null, .null, .null, .null, .int 0]) (pc := 189) (k := 21) (sl := 2090) (pre := ([] : va_W)) (pst := ((q1, .inl (g.2.2 9, 60, .inl (fun _ => 0))) :: ((q2, .inl (g.2.2 9, 60, .inl (fun _ => 0))) :: ((q3, .inl (g.2.2 9, 6, .inl (fun _ => 0))) :: ((q4, .inl (g.2.2 9, 6, .inl (fun _ => 0))) :: ((q5, .inl (g.2.2 9, 6, .inl (fun _ => 0))) :: ((q6, .inl (g.2.2 9, 6, .inl (fun _ => 0))) :: ((q7, .inl (g.2.2 9, 6, .inl (fun _ => 0))) :: ((q8, .inl (g.2.2 9, 6, .inl (fun _ => 0))) :: ((q9, .inl (g.2.2 9, 72, .inl (fun _ => 0))) :: ((q10, .inl (g.2.2 9, 120, .inl (fun _ => 0))) :: ((q11, .inl (g.2.2 9, 3, .inl (upd (upd (upd (fun _ => 0) 0 (-1)) 1 (-1)) 2 (-1)))) :: ((q12, .inl (g.2.2 9, 1056, .inl (fun _ => 0))) :: ((q13, .inl (g.2.2 9, 158, .inl (fun _ => 0))) :: ((q14, .inl (g.2.2 9, 158, .inl (fun _ => 0))) :: ((q15, .inl (g.2.2 9, 7, .inl (fun _ => 0))) :: ((q16, .inl (g.2.2 9, 60, .inl (fun _ => 0))) :: ((q17, .inl (g.2.2 9, 60, .inl (fun _ => 0))) :: ((q18, .inl (g.2.2 9, 60, .inl (fun _ => 0))) :: ((q19, .inl (g.2.2 9, 60, .inl (fun _ => 0))) :: ((q20, .inl (g.2.2 9, 60, .inl (fun _ => 0))) :: ((q21, .inl (g.2.2 11, 60, .inr (.inl (fun _ => 0)))) :: ([] : va_W))))))))))))))))))))))) 28 [.int 24, .ref q1, .ref q2, .int 0, .ref q3, .ref q4, .ref q5, .ref q6, .ref q7, .ref q8, .ref q9, .int 0, .ref q10, .ref q11, .ref q12, .int 0, .ref q13, .ref q14, .int 0, .ref q15, .ref q16, .ref q17, .ref q18, .int 0, .int 0, .ref q19, .ref q20, .int 0, .ref q21, .null, .null, .null, .null, .null, .null, .null, .null, .int 0] dX9_init_189 ki_X9 (lw_in 876 (by decide +kernel) rfl) (by decide) rfl rfl (fits_ref (Or.inr ⟨_, rfl⟩)) (Nat.le_of_ble_eq_true rfl) rfl (by simp) ?_
  refine vx_aload_n (pc := 192) 0 dX9_init_192 rfl rfl ?_
  refine vx_bipush (pc := 193) 60 dX9_init_193 (by decide) ?_
  refine wb_newa (pc := 195) (k := 21) (sl := 2090) 60 .long 2 11 (60, .inr (.inl (fun _ => 0))) dX9_init_195 (lw_in 222 (by decide +kernel) rfl) rfl (fun _ => rfl) (fun _ => rfl) (by decide) (by decide) (by decide) (by decide) (by decide) (fun q22 => ?_)
  refine wb_put (fs := [.int 24, .ref q1, .ref q2, .int 0, .ref q3, .ref q4, .ref q5, .ref q6, .ref q7, .ref q8, .ref q9, .int 0, .ref q10, .ref q11, .ref q12, .int 0, .ref q13, .ref q14, .int 0, .ref q15, .ref q16, .ref q17, .ref q18, .int 0, .int 0, .ref q19, .ref q20, .int 0, .ref q21, .null, .null, .null, .null, .null, .null, .null, .null, .int 0]) (pc := 197) (k := 22) (sl := 2150) (pre := ([] : va_W)) (pst := ((q1, .inl (g.2.2 9, 60, .inl (fun _ => 0))) :: ((q2, .inl (g.2.2 9, 60, .inl (fun _ => 0))) :: ((q3, .inl (g.2.2 9, 6, .inl (fun _ => 0))) :: ((q4, .inl (g.2.2 9, 6, .inl (fun _ => 0))) :: ((q5, .inl (g.2.2 9, 6, .inl (fun _ => 0))) :: ((q6, .inl (g.2.2 9, 6, .inl (fun _ => 0))) :: ((q7, .inl (g.2.2 9, 6, .inl (fun _ => 0))) :: ((q8, .inl (g.2.2 9, 6, .inl (fun _ => 0))) :: ((q9, .inl (g.2.2 9, 72, .inl (fun _ => 0))) :: ((q10, .inl (g.2.2 9, 120, .inl (fun _ => 0))) :: ((q11, .inl (g.2.2 9, 3, .inl (upd (upd (upd (fun _ => 0) 0 (-1)) 1 (-1)) 2 (-1)))) :: ((q12, .inl (g.2.2 9, 1056, .inl (fun _ => 0))) :: ((q13, .inl (g.2.2 9, 158, .inl (fun _ => 0))) :: ((q14, .inl (g.2.2 9, 158, .inl (fun _ => 0))) :: ((q15, .inl (g.2.2 9, 7, .inl (fun _ => 0))) :: ((q16, .inl (g.2.2 9, 60, .inl (fun _ => 0))) :: ((q17, .inl (g.2.2 9, 60, .inl (fun _ => 0))) :: ((q18, .inl (g.2.2 9, 60, .inl (fun _ => 0))) :: ((q19, .inl (g.2.2 9, 60, .inl (fun _ => 0))) :: ((q20, .inl (g.2.2 9, 60, .inl (fun _ => 0))) :: ((q21, .inl (g.2.2 11, 60, .inr (.inl (fun _ => 0)))) :: ((q22, .inl (g.2.2 11, 60, .inr (.inl (fun _ => 0)))) :: ([] : va_W)))))))))))))))))))))))) 29 [.int 24, .ref q1, .ref q2, .int 0, .ref q3, .ref q4, .ref q5, .ref q6, .ref q7, .ref q8, .ref q9, .int 0, .ref q10, .ref q11, .ref q12, .int 0, .ref q13, .ref q14, .int 0, .ref q15, .ref q16, .ref q17, .ref q18, .int 0, .int 0, .ref q19, .ref q20, .int 0, .ref q21, .ref q22, .null, .null, .null, .null, .null, .null, .null, .int 0] dX9_init_197 ki_X9 (lw_in 877 (by decide +kernel) rfl) (by decide) rfl rfl (fits_ref (Or.inr ⟨_, rfl⟩)) (Nat.le_of_ble_eq_true rfl) rfl (by simp) ?_
  refine vx_aload_n (pc := 200) 0 dX9_init_200 rfl rfl ?_
  refine vx_bipush (pc := 201) 60 dX9_init_201 (by decide) ?_
  refine wb_newa (pc := 203) (k := 22) (sl := 2150) 60 .long 2 11 (60, .inr (.inl (fun _ => 0))) dX9_init_203 (lw_in 222 (by decide +kernel) rfl) rfl (fun _ => rfl) (fun _ => rfl) (by decide) (by decide) (by decide) (by decide) (by decide) (fun q23 => ?_)
  refine wb_put (fs := [.int 24, .ref q1, .ref q2, .int 0, .ref q3, .ref q4, .ref q5, .ref q6, .ref q7, .ref q8, .ref q9, .int 0, .ref q10, .ref q11, .ref q12, .int 0, .ref q13, .ref q14, .int 0, .ref q15, .ref q16, .ref q17, .ref q18, .int 0, .int 0, .ref q19, .ref q20, .int 0, .ref q21, .ref q22, .null, .null, .null, .null, .null, .null, .null, .int 0]) (pc := 205) (k := 23) (sl := 2210) (pre := ([] : va_W)) (pst := ((q1, .inl (g.2.2 9, 60, .inl (fun _ => 0))) :: ((q2, .inl (g.2.2 9, 60, .inl (fun _ => 0))) :: ((q3, .inl (g.2.2 9, 6, .inl (fun _ => 0))) :: ((q4, .inl (g.2.2 9, 6, .inl (fun _ => 0))) :: ((q5, .inl (g.2.2 9, 6, .inl (fun _ => 0))) :: ((q6, .inl (g.2.2 9, 6, .inl (fun _ => 0))) :: ((q7, .inl (g.2.2 9, 6, .inl (fun _ => 0))) :: ((q8, .inl (g.2.2 9, 6, .inl (fun _ => 0))) :: ((q9, .inl (g.2.2 9, 72, .inl (fun _ => 0))) :: ((q10, .inl (g.2.2 9, 120, .inl (fun _ => 0))) :: ((q11, .inl (g.2.2 9, 3, .inl (upd (upd (upd (fun _ => 0) 0 (-1)) 1 (-1)) 2 (-1)))) :: ((q12, .inl (g.2.2 9, 1056, .inl (fun _ => 0))) :: ((q13, .inl (g.2.2 9, 158, .inl (fun _ => 0))) :: ((q14, .inl (g.2.2 9, 158, .inl (fun _ => 0))) :: ((q15, .inl (g.2.2 9, 7, .inl (fun _ => 0))) :: ((q16, .inl (g.2.2 9, 60, .inl (fun _ => 0))) :: ((q17, .inl (g.2.2 9, 60, .inl (fun _ => 0))) :: ((q18, .inl (g.2.2 9, 60, .inl (fun _ => 0))) :: ((q19, .inl (g.2.2 9, 60, .inl (fun _ => 0))) :: ((q20, .inl (g.2.2 9, 60, .inl (fun _ => 0))) :: ((q21, .inl (g.2.2 11, 60, .inr (.inl (fun _ => 0)))) :: ((q22, .inl (g.2.2 11, 60, .inr (.inl (fun _ => 0)))) :: ((q23, .inl (g.2.2 11, 60, .inr (.inl (fun _ => 0)))) :: ([] : va_W))))))))))))))))))))))))) 30 [.int 24, .ref q1, .ref q2, .int 0, .ref q3, .ref q4, .ref q5, .ref q6, .ref q7, .ref q8, .ref q9, .int 0, .ref q10, .ref q11, .ref q12, .int 0, .ref q13, .ref q14, .int 0, .ref q15, .ref q16, .ref q17, .ref q18, .int 0, .int 0, .ref q19, .ref q20, .int 0, .ref q21, .ref q22, .ref q23, .null, .null, .null, .null, .null, .null, .int 0] dX9_init_205 ki_X9 (lw_in 878 (by decide +kernel) rfl) (by decide) rfl rfl (fits_ref (Or.inr ⟨_, rfl⟩)) (Nat.le_of_ble_eq_true rfl) rfl (by simp) ?_
  refine vx_aload_n (pc := 208) 0 dX9_init_208 rfl rfl ?_
  refine vx_bipush (pc := 209) 100 dX9_init_209 (by decide) ?_
  refine wb_newa (pc := 211) (k := 23) (sl := 2210) 100 .int 0 9 (100, .inl (fun _ => 0)) dX9_init_211 (lw_in 122 (by decide +kernel) rfl) rfl (fun _ => rfl) (fun _ => rfl) (by decide) (by decide) (by decide) (by decide) (by decide) (fun q24 => ?_)
  refine wb_put (fs := [.int 24, .ref q1, .ref q2, .int 0, .ref q3, .ref q4, .ref q5, .ref q6, .ref q7, .ref q8, .ref q9, .int 0, .ref q10, .ref q11, .ref q12, .int 0, .ref q13, .ref q14, .int 0, .ref q15, .ref q16, .ref q17, .ref q18, .int 0, .int 0, .ref q19, .ref q20, .int 0, .ref q21, .ref q22, .ref q23, .null, .null, .null, .null, .null, .null, .int 0]) (pc := 213) (k := 24) (sl := 2310) (pre := ([] : va_W)) (pst := ((q1, .inl (g.2.2 9, 60, .inl (fun _ => 0))) :: ((q2, .inl (g.2.2 9, 60, .inl (fun _ => 0))) :: ((q3, .inl (g.2.2 9, 6, .inl (fun _ => 0))) :: ((q4, .inl (g.2.2 9, 6, .inl (fun _ => 0))) :: ((q5, .inl (g.2.2 9, 6, .inl (fun _ => 0))) :: ((q6, .inl (g.2.2 9, 6, .inl (fun _ => 0))) :: ((q7, .inl (g.2.2 9, 6, .inl (fun _ => 0))) :: ((q8, .inl (g.2.2 9, 6, .inl (fun _ => 0))) :: ((q9, .inl (g.2.2 9, 72, .inl (fun _ => 0))) :: ((q10, .inl (g.2.2 9, 120, .inl (fun _ => 0))) :: ((q11, .inl (g.2.2 9, 3, .inl (upd (upd (upd (fun _ => 0) 0 (-1)) 1 (-1)) 2 (-1)))) :: ((q12, .inl (g.2.2 9, 1056, .inl (fun _ => 0))) :: ((q13, .inl (g.2.2 9, 158, .inl (fun _ => 0))) :: ((q14, .inl (g.2.2 9, 158, .inl (fun _ => 0))) :: ((q15, .inl (g.2.2 9, 7, .inl (fun _ => 0))) :: ((q16, .inl (g.2.2 9, 60, .inl (fun _ => 0))) :: ((q17, .inl (g.2.2 9, 60, .inl (fun _ => 0))) :: ((q18, .inl (g.2.2 9, 60, .inl (fun _ => 0))) :: ((q19, .inl (g.2.2 9, 60, .inl (fun _ => 0))) :: ((q20, .inl (g.2.2 9, 60, .inl (fun _ => 0))) :: ((q21, .inl (g.2.2 11, 60, .inr (.inl (fun _ => 0)))) :: ((q22, .inl (g.2.2 11, 60, .inr (.inl (fun _ => 0)))) :: ((q23, .inl (g.2.2 11, 60, .inr (.inl (fun _ => 0)))) :: ((q24, .inl (g.2.2 9, 100, .inl (fun _ => 0))) :: ([] : va_W)))))))))))))))))))))))))) 31 [.int 24, .ref q1, .ref q2, .int 0, .ref q3, .ref q4, .ref q5, .ref q6, .ref q7, .ref q8, .ref q9, .int 0, .ref q10, .ref q11, .ref q12, .int 0, .ref q13, .ref q14, .int 0, .ref q15, .ref q16, .ref q17, .ref q18, .int 0, .int 0, .ref q19, .ref q20, .int 0, .ref q21, .ref q22, .ref q23, .ref q24, .null, .null, .null, .null, .null, .int 0] dX9_init_213 ki_X9 (lw_in 879 (by decide +kernel) rfl) (by decide) rfl rfl (fits_ref (Or.inr ⟨_, rfl⟩)) (Nat.le_of_ble_eq_true rfl) rfl (by simp) ?_
  refine vx_aload_n (pc := 216) 0 dX9_init_216 rfl rfl ?_
  refine vx_bipush (pc := 217) 100 dX9_init_217 (by decide) ?_
  refine wb_newa (pc := 219) (k := 24) (sl := 2310) 100 .int 0 9 (100, .inl (fun _ => 0)) dX9_init_219 (lw_in 122 (by decide +kernel) rfl) rfl (fun _ => rfl) (fun _ => rfl) (by decide) (by decide) (by decide) (by decide) (by decide) (fun q25 => ?_)
  refine wb_put (fs := [.int 24, .ref q1, .ref q2, .int 0, .ref q3, .ref q4, .ref q5, .ref q6, .ref q7, .ref q8, .ref q9, .int 0, .ref q10, .ref q11, .ref q12, .int 0, .ref q13, .ref q14, .int 0, .ref q15, .ref q16, .ref q17, .ref q18, .int 0, .int 0, .ref q19, .ref q20, .int 0, .ref q21, .ref q22, .ref q23, .ref q24, .null, .null, .null, .null, .null, .int 0]) (pc := 221) (k := 25) (sl := 2410) (pre := ([] : va_W)) (pst := ((q1, .inl (g.2.2 9, 60, .inl (fun _ => 0))) :: ((q2, .inl (g.2.2 9, 60, .inl (fun _ => 0))) :: ((q3, .inl (g.2.2 9, 6, .inl (fun _ => 0))) :: ((q4, .inl (g.2.2 9, 6, .inl (fun _ => 0))) :: ((q5, .inl (g.2.2 9, 6, .inl (fun _ => 0))) :: ((q6, .inl (g.2.2 9, 6, .inl (fun _ => 0))) :: ((q7, .inl (g.2.2 9, 6, .inl (fun _ => 0))) :: ((q8, .inl (g.2.2 9, 6, .inl (fun _ => 0))) :: ((q9, .inl (g.2.2 9, 72, .inl (fun _ => 0))) :: ((q10, .inl (g.2.2 9, 120, .inl (fun _ => 0))) :: ((q11, .inl (g.2.2 9, 3, .inl (upd (upd (upd (fun _ => 0) 0 (-1)) 1 (-1)) 2 (-1)))) :: ((q12, .inl (g.2.2 9, 1056, .inl (fun _ => 0))) :: ((q13, .inl (g.2.2 9, 158, .inl (fun _ => 0))) :: ((q14, .inl (g.2.2 9, 158, .inl (fun _ => 0))) :: ((q15, .inl (g.2.2 9, 7, .inl (fun _ => 0))) :: ((q16, .inl (g.2.2 9, 60, .inl (fun _ => 0))) :: ((q17, .inl (g.2.2 9, 60, .inl (fun _ => 0))) :: ((q18, .inl (g.2.2 9, 60, .inl (fun _ => 0))) :: ((q19, .inl (g.2.2 9, 60, .inl (fun _ => 0))) :: ((q20, .inl (g.2.2 9, 60, .inl (fun _ => 0))) :: ((q21, .inl (g.2.2 11, 60, .inr (.inl (fun _ => 0)))) :: ((q22, .inl (g.2.2 11, 60, .inr (.inl (fun _ => 0)))) :: ((q23, .inl (g.2.2 11, 60, .inr (.inl (fun _ => 0)))) :: ((q24, .inl (g.2.2 9, 100, .inl (fun _ => 0))) :: ((q25, .inl (g.2.2 9, 100, .inl (fun _ => 0))) :: ([] : va_W))))))))))))))))))))))))))) 32 [.int 24, .ref q1, .ref q2, .int 0, .ref q3, .ref q4, .ref q5, .ref q6, .ref q7, .ref q8, .ref q9, .int 0, .ref q10, .ref q11, .ref q12, .int 0, .ref q13, .ref q14, .int 0, .ref q15, .ref q16, .ref q17, .ref q18, .int 0, .int 0, .ref q19, .ref q20, .int 0, .ref q21, .ref q22, .ref q23, .ref q24, .ref q25, .null, .null, .null, .null, .int 0] dX9_init_221 ki_X9 (lw_in 880 (by decide +kernel) rfl) (by decide) rfl rfl (fits_ref (Or.inr ⟨_, rfl⟩)) (Nat.le_of_ble_eq_true rfl) rfl (by simp) ?_
  refine vx_aload_n (pc := 224) 0 dX9_init_224 rfl rfl ?_
  refine vx_bipush (pc := 225) 100 dX9_init_225 (by decide) ?_
  refine wb_newa (pc := 227) (k := 25) (sl := 2410) 100 .int 0 9 (100, .inl (fun _ => 0)) dX9_init_227 (lw_in 122 (by decide +kernel) rfl) rfl (fun _ => rfl) (fun _ => rfl) (by decide) (by decide) (by decide) (by decide) (by decide) (fun q26 => ?_)
  refine wb_put (fs := [.int 24, .ref q1, .ref q2, .int 0, .ref q3, .ref q4, .ref q5, .ref q6, .ref q7, .ref q8, .ref q9, .int 0, .ref q10, .ref q11, .ref q12, .int 0, .ref q13, .ref q14, .int 0, .ref q15, .ref q16, .ref q17, .ref q18, .int 0, .int 0, .ref q19, .ref q20, .int 0, .ref q21, .ref q22, .ref q23, .ref q24, .ref q25, .null, .null, .null, .null, .int 0]) (pc := 229) (k := 26) (sl := 2510) (pre := ([] : va_W)) (pst := ((q1, .inl (g.2.2 9, 60, .inl (fun _ => 0))) :: ((q2, .inl (g.2.2 9, 60, .inl (fun _ => 0))) :: ((q3, .inl (g.2.2 9, 6, .inl (fun _ => 0))) :: ((q4, .inl (g.2.2 9, 6, .inl (fun _ => 0))) :: ((q5, .inl (g.2.2 9, 6, .inl (fun _ => 0))) :: ((q6, .inl (g.2.2 9, 6, .inl (fun _ => 0))) :: ((q7, .inl (g.2.2 9, 6, .inl (fun _ => 0))) :: ((q8, .inl (g.2.2 9, 6, .inl (fun _ => 0))) :: ((q9, .inl (g.2.2 9, 72, .inl (fun _ => 0))) :: ((q10, .inl (g.2.2 9, 120, .inl (fun _ => 0))) :: ((q11, .inl (g.2.2 9, 3, .inl (upd (upd (upd (fun _ => 0) 0 (-1)) 1 (-1)) 2 (-1)))) :: ((q12, .inl (g.2.2 9, 1056, .inl (fun _ => 0))) :: ((q13, .inl (g.2.2 9, 158, .inl (fun _ => 0))) :: ((q14, .inl (g.2.2 9, 158, .inl (fun _ => 0))) :: ((q15, .inl (g.2.2 9, 7, .inl (fun _ => 0))) :: ((q16, .inl (g.2.2 9, 60, .inl (fun _ => 0))) :: ((q17, .inl (g.2.2 9, 60, .inl (fun _ => 0))) :: ((q18, .inl (g.2.2 9, 60, .inl (fun _ => 0))) :: ((q19, .inl (g.2.2 9, 60, .inl (fun _ => 0))) :: ((q20, .inl (g.2.2 9, 60, .inl (fun _ => 0))) :: ((q21, .inl (g.2.2 11, 60, .inr (.inl (fun _ => 0)))) :: ((q22, .inl (g.2.2 11, 60, .inr (.inl (fun _ => 0)))) :: ((q23, .inl (g.2.2 11, 60, .inr (.inl (fun _ => 0)))) :: ((q24, .inl (g.2.2 9, 100, .inl (fun _ => 0))) :: ((q25, .inl (g.2.2 9, 100, .inl (fun _ => 0))) :: ((q26, .inl (g.2.2 9, 100, .inl (fun _ => 0))) :: ([] : va_W)))))))))))))))))))))))))))) 33 [.int 24, .ref q1, .ref q2, .int 0, .ref q3, .ref q4, .ref q5, .ref q6, .ref q7, .ref q8, .ref q9, .int 0, .ref q10, .ref q11, .ref q12, .int 0, .ref q13, .ref q14, .int 0, .ref q15, .ref q16, .ref q17, .ref q18, .int 0, .int 0, .ref q19, .ref q20, .int 0, .ref q21, .ref q22, .ref q23, .ref q24, .ref q25, .ref q26, .null, .null, .null, .int 0] dX9_init_229 ki_X9 (lw_in 881 (by decide +kernel) rfl) (by decide) rfl rfl (fits_ref (Or.inr ⟨_, rfl⟩)) (Nat.le_of_ble_eq_true rfl) rfl (by simp) ?_
  refine vx_aload_n (pc := 232) 0 dX9_init_232 rfl rfl ?_
  refine vx_bipush (pc := 233) 6 dX9_init_233 (by decide) ?_
  refine wb_newa (pc := 235) (k := 26) (sl := 2510) 6 .int 0 9 (6, .inl (fun _ => 0)) dX9_init_235 (lw_in 122 (by decide +kernel) rfl) rfl (fun _ => rfl) (fun _ => rfl) (by decide) (by decide) (by decide) (by decide) (by decide) (fun q27 => ?_)
  refine wb_put (fs := [.int 24, .ref q1, .ref q2, .int 0, .ref q3, .ref q4, .ref q5, .ref q6, .ref q7, .ref q8, .ref q9, .int 0, .ref q10, .ref q11, .ref q12, .int 0, .ref q13, .ref q14, .int 0, .ref q15, .ref q16, .ref q17, .ref q18, .int 0, .int 0, .ref q19, .ref q20, .int 0, .ref q21, .ref q22, .ref q23, .ref q24, .ref q25, .ref q26, .null, .null, .null, .int 0]) (pc := 237) (k := 27) (sl := 2516) (pre := ([] : va_W)) (pst := ((q1, .inl (g.2.2 9, 60, .inl (fun _ => 0))) :: ((q2, .inl (g.2.2 9, 60, .inl (fun _ => 0))) :: ((q3, .inl (g.2.2 9, 6, .inl (fun _ => 0))) :: ((q4, .inl (g.2.2 9, 6, .inl (fun _ => 0))) :: ((q5, .inl (g.2.2 9, 6, .inl (fun _ => 0))) :: ((q6, .inl (g.2.2 9, 6, .inl (fun _ => 0))) :: ((q7, .inl (g.2.2 9, 6, .inl (fun _ => 0))) :: ((q8, .inl (g.2.2 9, 6, .inl (fun _ => 0))) :: ((q9, .inl (g.2.2 9, 72, .inl (fun _ => 0))) :: ((q10, .inl (g.2.2 9, 120, .inl (fun _ => 0))) :: ((q11, .inl (g.2.2 9, 3, .inl (upd (upd (upd (fun _ => 0) 0 (-1)) 1 (-1)) 2 (-1)))) :: ((q12, .inl (g.2.2 9, 1056, .inl (fun _ => 0))) :: ((q13, .inl (g.2.2 9, 158, .inl (fun _ => 0))) :: ((q14, .inl (g.2.2 9, 158, .inl (fun _ => 0))) :: ((q15, .inl (g.2.2 9, 7, .inl (fun _ => 0))) :: ((q16, .inl (g.2.2 9, 60, .inl (fun _ => 0))) :: ((q17, .inl (g.2.2 9, 60, .inl (fun _ => 0))) :: ((q18, .inl (g.2.2 9, 60, .inl (fun _ => 0))) :: ((q19, .inl (g.2.2 9, 60, .inl (fun _ => 0))) :: ((q20, .inl (g.2.2 9, 60, .inl (fun _ => 0))) :: ((q21, .inl (g.2.2 11, 60, .inr (.inl (fun _ => 0)))) :: ((q22, .inl (g.2.2 11, 60, .inr (.inl (fun _ => 0)))) :: ((q23, .inl (g.2.2 11, 60, .inr (.inl (fun _ => 0)))) :: ((q24, .inl (g.2.2 9, 100, .inl (fun _ => 0))) :: ((q25, .inl (g.2.2 9, 100, .inl (fun _ => 0))) :: ((q26, .inl (g.2.2 9, 100, .inl (fun _ => 0))) :: ((q27, .inl (g.2.2 9, 6, .inl (fun _ => 0))) :: ([] : va_W))))))))))))))))))))))))))))) 34 [.int 24, .ref q1, .ref q2, .int 0, .ref q3, .ref q4, .ref q5, .ref q6, .ref q7, .ref q8, .ref q9, .int 0, .ref q10, .ref q11, .ref q12, .int 0, .ref q13, .ref q14, .int 0, .ref q15, .ref q16, .ref q17, .ref q18, .int 0, .int 0, .ref q19, .ref q20, .int 0, .ref q21, .ref q22, .ref q23, .ref q24, .ref q25, .ref q26, .ref q27, .null, .null, .int 0] dX9_init_237 ki_X9 (lw_in 882 (by decide +kernel) rfl) (by decide) rfl rfl (fits_ref (Or.inr ⟨_, rfl⟩)) (Nat.le_of_ble_eq_true rfl) rfl (by simp) ?_
  refine vx_aload_n (pc := 240) 0 dX9_init_240 rfl rfl ?_
  refine vx_bipush (pc := 241) 6 dX9_init_241 (by decide) ?_
  refine wb_newa (pc := 243) (k := 27) (sl := 2516) 6 .int 0 9 (6, .inl (fun _ => 0)) dX9_init_243 (lw_in 122 (by decide +kernel) rfl) rfl (fun _ => rfl) (fun _ => rfl) (by decide) (by decide) (by decide) (by decide) (by decide) (fun q28 => ?_)
  refine wb_put (fs := [.int 24, .ref q1, .ref q2, .int 0, .ref q3, .ref q4, .ref q5, .ref q6, .ref q7, .ref q8, .ref q9, .int 0, .ref q10, .ref q11, .ref q12, .int 0, .ref q13, .ref q14, .int 0, .ref q15, .ref q16, .ref q17, .ref q18, .int 0, .int 0, .ref q19, .ref q20, .int 0, .ref q21, .ref q22, .ref q23, .ref q24, .ref q25, .ref q26, .ref q27, .null, .null, .int 0]) (pc := 245) (k := 28) (sl := 2522) (pre := ([] : va_W)) (pst := ((q1, .inl (g.2.2 9, 60, .inl (fun _ => 0))) :: ((q2, .inl (g.2.2 9, 60, .inl (fun _ => 0))) :: ((q3, .inl (g.2.2 9, 6, .inl (fun _ => 0))) :: ((q4, .inl (g.2.2 9, 6, .inl (fun _ => 0))) :: ((q5, .inl (g.2.2 9, 6, .inl (fun _ => 0))) :: ((q6, .inl (g.2.2 9, 6, .inl (fun _ => 0))) :: ((q7, .inl (g.2.2 9, 6, .inl (fun _ => 0))) :: ((q8, .inl (g.2.2 9, 6, .inl (fun _ => 0))) :: ((q9, .inl (g.2.2 9, 72, .inl (fun _ => 0))) :: ((q10, .inl (g.2.2 9, 120, .inl (fun _ => 0))) :: ((q11, .inl (g.2.2 9, 3, .inl (upd (upd (upd (fun _ => 0) 0 (-1)) 1 (-1)) 2 (-1)))) :: ((q12, .inl (g.2.2 9, 1056, .inl (fun _ => 0))) :: ((q13, .inl (g.2.2 9, 158, .inl (fun _ => 0))) :: ((q14, .inl (g.2.2 9, 158, .inl (fun _ => 0))) :: ((q15, .inl (g.2.2 9, 7, .inl (fun _ => 0))) :: ((q16, .inl (g.2.2 9, 60, .inl (fun _ => 0))) :: ((q17, .inl (g.2.2 9, 60, .inl (fun _ => 0))) :: ((q18, .inl (g.2.2 9, 60, .inl (fun _ => 0))) :: ((q19, .inl (g.2.2 9, 60, .inl (fun _ => 0))) :: ((q20, .inl (g.2.2 9, 60, .inl (fun _ => 0))) :: ((q21, .inl (g.2.2 11, 60, .inr (.inl (fun _ => 0)))) :: ((q22, .inl (g.2.2 11, 60, .inr (.inl (fun _ => 0)))) :: ((q23, .inl (g.2.2 11, 60, .inr (.inl (fun _ => 0)))) :: ((q24, .inl (g.2.2 9, 100, .inl (fun _ => 0))) :: ((q25, .inl (g.2.2 9, 100, .inl (fun _ => 0))) :: ((q26, .inl (g.2.2 9, 100, .inl (fun _ => 0))) :: ((q27, .inl (g.2.2 9, 6, .inl (fun _ => 0))) :: ((q28, .inl (g.2.2 9, 6, .inl (fun _ => 0))) :: ([] : va_W)))))))))))))))))))))))))))))) 35 [.int 24, .ref q1, .ref q2, .int 0, .ref q3, .ref q4, .ref q5, .ref q6, .ref q7, .ref q8, .ref q9, .int 0, .ref q10, .ref q11, .ref q12, .int 0, .ref q13, .ref q14, .int 0, .ref q15, .ref q16, .ref q17, .ref q18, .int 0, .int 0, .ref q19, .ref q20, .int 0, .ref q21, .ref q22, .ref q23, .ref q24, .ref q25, .ref q26, .ref q27, .ref q28, .null, .int 0] dX9_init_245 ki_X9 (lw_in 883 (by decide +kernel) rfl) (by decide) rfl rfl (fits_ref (Or.inr ⟨_, rfl⟩)) (Nat.le_of_ble_eq_true rfl) rfl (by simp) ?_
  refine vx_aload_n (pc := 248) 0 dX9_init_248 rfl rfl ?_
  refine vx_bipush (pc := 249) 60 dX9_init_249 (by decide) ?_
  refine wb_newa (pc := 251) (k := 28) (sl := 2522) 60 .int 0 9 (60, .inl (fun _ => 0)) dX9_init_251 (lw_in 122 (by decide +kernel) rfl) rfl (fun _ => rfl) (fun _ => rfl) (by decide) (by decide) (by decide) (by decide) (by decide) (fun q29 => ?_)
  refine wb_put (fs := [.int 24, .ref q1, .ref q2, .int 0, .ref q3, .ref q4, .ref q5, .ref q6, .ref q7, .ref q8, .ref q9, .int 0, .ref q10, .ref q11, .ref q12, .int 0, .ref q13, .ref q14, .int 0, .ref q15, .ref q16, .ref q17, .ref q18, .int 0, .int 0, .ref q19, .ref q20, .int 0, .ref q21, .ref q22, .ref q23, .ref q24, .ref q25, .ref q26, .ref q27, .ref q28, .null, .int 0]) (pc := 253) (k := 29) (sl := 2582) (pre := ([] : va_W)) (pst := ((q1, .inl (g.2.2 9, 60, .inl (fun _ => 0))) :: ((q2, .inl (g.2.2 9, 60, .inl (fun _ => 0))) :: ((q3, .inl (g.2.2 9, 6, .inl (fun _ => 0))) :: ((q4, .inl (g.2.2 9, 6, .inl (fun _ => 0))) :: ((q5, .inl (g.2.2 9, 6, .inl (fun _ => 0))) :: ((q6, .inl (g.2.2 9, 6, .inl (fun _ => 0))) :: ((q7, .inl (g.2.2 9, 6, .inl (fun _ => 0))) :: ((q8, .inl (g.2.2 9, 6, .inl (fun _ => 0))) :: ((q9, .inl (g.2.2 9, 72, .inl (fun _ => 0))) :: ((q10, .inl (g.2.2 9, 120, .inl (fun _ => 0))) :: ((q11, .inl (g.2.2 9, 3, .inl (upd (upd (upd (fun _ => 0) 0 (-1)) 1 (-1)) 2 (-1)))) :: ((q12, .inl (g.2.2 9, 1056, .inl (fun _ => 0))) :: ((q13, .inl (g.2.2 9, 158, .inl (fun _ => 0))) :: ((q14, .inl (g.2.2 9, 158, .inl (fun _ => 0))) :: ((q15, .inl (g.2.2 9, 7, .inl (fun _ => 0))) :: ((q16, .inl (g.2.2 9, 60, .inl (fun _ => 0))) :: ((q17, .inl (g.2.2 9, 60, .inl (fun _ => 0))) :: ((q18, .inl (g.2.2 9, 60, .inl (fun _ => 0))) :: ((q19, .inl (g.2.2 9, 60, .inl (fun _ => 0))) :: ((q20, .inl (g.2.2 9, 60, .inl (fun _ => 0))) :: ((q21, .inl (g.2.2 11, 60, .inr (.inl (fun _ => 0)))) :: ((q22, .inl (g.2.2 11, 60, .inr (.inl (fun _ => 0)))) :: ((q23, .inl (g.2.2 11, 60, .inr (.inl (fun _ => 0)))) :: ((q24, .inl (g.2.2 9, 100, .inl (fun _ => 0))) :: ((q25, .inl (g.2.2 9, 100, .inl (fun _ => 0))) :: ((q26, .inl (g.2.2 9, 100, .inl (fun _ => 0))) :: ((q27, .inl (g.2.2 9, 6, .inl (fun _ => 0))) :: ((q28, .inl (g.2.2 9, 6, .inl (fun _ => 0))) :: ((q29, .inl (g.2.2 9, 60, .inl (fun _ => 0))) :: ([] : va_W))))))))))))))))))))))))))))))) 36 [.int 24, .ref q1, .ref q2, .int 0, .ref q3, .ref q4, .ref q5, .ref q6, .ref q7, .ref q8, .ref q9, .int 0, .ref q10, .ref q11, .ref q12, .int 0, .ref q13, .ref q14, .int 0, .ref q15, .ref q16, .ref q17, .ref q18, .int 0, .int 0, .ref q19, .ref q20, .int 0, .ref q21, .ref q22, .ref q23, .ref q24, .ref q25, .ref q26, .ref q27, .ref q28, .ref q29, .int 0] dX9_init_253 ki_X9 (lw_in 884 (by decide +kernel) rfl) (by decide) rfl rfl (fits_ref (Or.inr ⟨_, rfl⟩)) (Nat.le_of_ble_eq_true rfl) rfl (by simp) ?_
  exact wb_ret (pc := 256) (k := 29) (sl := 2582) dX9_init_256 (by decide) (by decide) ⟨q1, q2, q3, q4, q5, q6, q7, q8, q9, q10, q11, q12, q13, q14, q15, q16, q17, q18, q19, q20, q21, q22, q23, q24, q25, q26, q27, q28, q29, by simp⟩
