/-! change -/
def LH (R j lo hi : Nat) : Prop := (j = 1 ∧ lo = 1 ∧ hi = R - 1) ∨ (j = 2 ∧ lo = 0 ∧ hi = 9) ∨ (j = 3 ∧ lo = 1 ∧ hi = 9)
theorem x_change {A : AB} {τ : SS} {w j lo hi : Nat} {v : Int32} (h : XH A τ) (hw : WF A) (hi' : w < rN A.1) (hj : LH (rT A.1) j lo hi) : f_X8_change 0 (nI w) (nI j) v τ = if nI lo ≤ v then if v ≤ nI hi then some (τ.1 (5 + w) j, sI (sI τ 31 1 0) (5 + w) j v) else (f_X8_refuse 0 (-6) τ).bind fun z => some (z.1, z.2) else (f_X8_refuse 0 (-4) τ).bind fun z => some (z.1, z.2) := by
  have hR3 := hw.1.1
  have h6 := hw.1.2.2.1
  have eT : nI (rT A.1) - 1 = nI (rT A.1 - 1) := by rw [fa_lit 1, sub_nI (by omega)]
  unfold f_X8_change f_X3_forget f_X7_exchange
  simp only [RD, x_wheel h.1.2.1 hw.1.2.2.1 hi', Option.bind_some, jn1, h.1.1, eT]
  rcases hj with ⟨rfl, rfl, rfl⟩ | ⟨rfl, rfl, rfl⟩ | ⟨rfl, rfl, rfl⟩
  · rw [if_neg (show ¬ nI 1 < 1 by decide), if_pos (show nI 1 ≤ 3 by decide), if_neg (show ¬ nI 1 = 2 by decide), if_pos (show nI 1 = 1 by decide), if_pos (show nI 1 = 1 by decide), Option.bind_some, rI_q (by omega)]
    rfl
  · rw [if_neg (show ¬ nI 2 < 1 by decide), if_pos (show nI 2 ≤ 3 by decide), if_pos (show nI 2 = 2 by decide), if_neg (show ¬ nI 2 = 1 by decide), if_pos (show nI 2 = 2 by decide), if_neg (show ¬ nI 2 = 1 by decide), if_pos (show nI 2 = 2 by decide), Option.bind_some, rI_q (by omega)]
    rfl
  · rw [if_neg (show ¬ nI 3 < 1 by decide), if_pos (show nI 3 ≤ 3 by decide), if_neg (show ¬ nI 3 = 2 by decide), if_neg (show ¬ nI 3 = 1 by decide), if_neg (show ¬ nI 3 = 2 by decide), if_neg (show ¬ nI 3 = 1 by decide), if_neg (show ¬ nI 3 = 2 by decide), Option.bind_some, rI_q (by omega)]
    rfl
theorem m_change {A : AB} {τ : SS} {w j lo hi : Nat} {v : Int32} (h : MH A τ) (hw : WF A) (hi' : w < rN A.1) (hj : LH (rT A.1) j lo hi) : f_X9_change 143 (nI w) (nI j) v τ = if nI lo ≤ v then if v ≤ nI hi then some (τ.1 (146 + j) w, sI (sI τ 143 15 0) (146 + j) w v) else (f_X9_no 143 (-6) τ).bind fun z => some (z.1, z.2) else (f_X9_no 143 (-4) τ).bind fun z => some (z.1, z.2) := by
  have hR3 := hw.1.1
  have h6 := hw.1.2.2.1
  have eT : nI (rT A.1) - 1 = nI (rT A.1 - 1) := by rw [fa_lit 1, sub_nI (by omega)]
  unfold f_X9_change
  rw [m_wheel h.1.2.1 h6 hi', if_neg one0]
  simp only [jn1, h.1.1, eT]
  rcases hj with ⟨rfl, rfl, rfl⟩ | ⟨rfl, rfl, rfl⟩ | ⟨rfl, rfl, rfl⟩
  · rw [show f_X9_within (nI 1) 1 3 = 1 by decide, if_neg one0, if_neg (show ¬ nI 1 = 2 by decide), if_pos (show nI 1 = 1 by decide), if_pos (show nI 1 = 1 by decide)]
    simp (disch := omega) only [RM, LN, cl_nI, ck_i, rI_q]
    rfl
  · rw [show f_X9_within (nI 2) 1 3 = 1 by decide, if_neg one0, if_pos (show nI 2 = 2 by decide), if_neg (show ¬ nI 2 = 1 by decide), if_neg (show ¬ nI 2 = 1 by decide), if_pos (show nI 2 = 2 by decide)]
    simp (disch := omega) only [RM, LN, cl_nI, ck_i, rI_q]
    rfl
  · rw [show f_X9_within (nI 3) 1 3 = 1 by decide, if_neg one0, if_neg (show ¬ nI 3 = 2 by decide), if_neg (show ¬ nI 3 = 1 by decide), if_neg (show ¬ nI 3 = 1 by decide), if_neg (show ¬ nI 3 = 2 by decide)]
    simp (disch := omega) only [RM, LN, cl_nI, ck_i, rI_q]
    rfl
theorem WR.putj {ρ : RG} {w j lo hi v : Nat} (h : WR ρ) (hj : LH (rT ρ) j lo hi) (h1 : lo ≤ v) (h2 : v ≤ hi) : WR (rPut ρ w j v) := by
  obtain ⟨w1, w2, w3, w4, w5, w6⟩ := h
  refine ⟨w1, w2, w3, w4, w5, fun i hi => ?_⟩
  obtain ⟨a1, a2, a3, a4, a5, a6, a7, a8⟩ := w6 i hi
  show _ ∧ _ ∧ _ < rT ρ ∧ _ ∧ _ ∧ _ ∧ _ < rT ρ ∧ _
  rw [rK_put, rK_put, rK_put, rK_put, rK_put, rK_put]
  rcases hj with ⟨rfl, rfl, rfl⟩ | ⟨rfl, rfl, rfl⟩ | ⟨rfl, rfl, rfl⟩ <;> (refine ⟨?_, ?_, ?_, ?_, ?_, ?_, ?_, ?_⟩ <;> split <;> omega)
theorem pc_change_ok : pc_change Rel := by
  rintro σ c1 c2 c3 ⟨A, hx, hm, hw⟩
  have hR := hw.1.2.1
  have hR3 := hw.1.1
  have hN := hw.1.2.2.1
  rcases ix_cases c1 (n := rN A.1) (by omega) with hb | ⟨w, hi, rfl⟩
  · refine both_ref (-1) 1 hx hm hw (fun τ h => ?_) (fun τ h => ?_)
    · unfold f_X8_change
      simp only [RD, x_wheel_bad h.1.2.1 hb, x_ref, Option.bind_some]
    · unfold f_X9_change
      simp only [m_wheel_bad h.1.2.1 hN hb, m_ref, Option.bind_some, if_true]
  by_cases t1 : c2 < 1
  · refine both_ref (-2) 2 hx hm hw (fun τ h => ?_) (fun τ h => ?_)
    · unfold f_X8_change
      simp only [RD, x_wheel h.1.2.1 hN hi, if_pos t1, x_ref, Option.bind_some]
    · unfold f_X9_change f_X9_within
      simp only [m_wheel h.1.2.1 hN hi, if_neg one0, if_pos t1, if_true, m_ref, Option.bind_some]
  by_cases t3 : c2 ≤ 3
  case neg =>
    refine both_ref (-2) 2 hx hm hw (fun τ h => ?_) (fun τ h => ?_)
    · unfold f_X8_change
      simp only [RD, x_wheel h.1.2.1 hN hi, if_neg t1, if_neg t3, x_ref, Option.bind_some]
    · unfold f_X9_change f_X9_within
      simp only [m_wheel h.1.2.1 hN hi, if_neg one0, if_neg t1, if_pos (show 3 < c2 from Int32.not_le.mp t3), if_true, m_ref, Option.bind_some]
  obtain ⟨j, hj, rfl⟩ : ∃ j, j < 4 ∧ c2 = nI j := by
    rcases ix_cases c2 (n := 4) (by omega) with (q | q) | q
    · exact absurd (neg_i q (k := 1) (by omega)).1 t1
    · exact absurd t3 (big_i q (k := 3) (by omega) (by omega)).2.1
    · exact q
  have hj1 : 1 ≤ j := by
    rw [fa_lit 1, lt_nI (by omega) (by omega)] at t1
    omega
  obtain ⟨lo, h', hLH, hlo, hh⟩ : ∃ lo h', LH (rT A.1) j lo h' ∧ lo ≤ 1 ∧ h' ≤ 60 := by
    obtain rfl | rfl | rfl : j = 1 ∨ j = 2 ∨ j = 3 := by omega
    · exact ⟨1, rT A.1 - 1, Or.inl ⟨rfl, rfl, rfl⟩, by omega, by omega⟩
    · exact ⟨0, 9, Or.inr (Or.inl ⟨rfl, rfl, rfl⟩), by omega, by omega⟩
    · exact ⟨1, 9, Or.inr (Or.inr ⟨rfl, rfl, rfl⟩), by omega, by omega⟩
  by_cases u1 : nI lo ≤ c3
  case neg =>
    refine both_ref (-4) 4 hx hm hw (fun τ h => ?_) (fun τ h => ?_)
    · rw [x_change h hw hi hLH, if_neg u1]
      simp only [x_ref, Option.bind_some]
    · rw [m_change h hw hi hLH, if_neg u1]
      simp only [m_ref, Option.bind_some]
  by_cases u2 : c3 ≤ nI h'
  case neg =>
    refine both_ref (-6) 6 hx hm hw (fun τ h => ?_) (fun τ h => ?_)
    · rw [x_change h hw hi hLH, if_pos u1, if_neg u2]
      simp only [x_ref, Option.bind_some]
    · rw [m_change h hw hi hLH, if_pos u1, if_neg u2]
      simp only [m_ref, Option.bind_some]
  obtain ⟨v, hv, rfl⟩ : ∃ v, v < h' + 1 ∧ c3 = nI v := by
    rcases ix_cases c3 (n := h' + 1) (by omega) with (q | q) | q
    · exact absurd u1 (neg_i q (k := lo) (by omega)).2.2.1
    · exact absurd u2 (big_i q (k := h') (by omega) (by omega)).2.1
    · exact q
  have hv1 : lo ≤ v := by
    rw [le_nI (by omega) (by omega)] at u1
    exact u1
  have hW := hw.1.putj (w := w) hLH hv1 (show v ≤ h' by omega)
  refine both (r := nI (rK A.1 w j)) (A' := aBe A (rPut A.1 w j v) []) hx hm hw (hw.fresh hW) (fun τ h => ?_) (fun τ h => ?_)
  · have g0 : X1 A.1 (sI τ 31 1 0) := X1.of hN h.1 (fun q j _ _ => rI_q (by omega))
    refine ⟨sI (sI τ 31 1 0) (5 + w) j (nI v), ?_, h.be hw (g0.put hN) (X3_nil h.2.2.1 (by rw [rI_q (by omega), rI_s]) (by rw [rI_q (by omega), rI_j (by omega)])) (fun q j hq => by rw [rI_q (by omega), rI_i, if_neg (by omega)]), fun q j hq => by rw [rI_q (by omega), rI_q (by omega)]⟩
    rw [x_change h hw hi hLH, if_pos u1, if_pos u2, h.1.2.2.2.2 w hi j (by omega)]
  · have g0 : M1 A.1 (sI τ 143 15 0) := M1.of hN h.1 (rI_j (by omega)) (rI_j (by omega)) (fun q j _ _ => rI_q (by omega))
    refine ⟨sI (sI τ 143 15 0) (146 + j) w (nI v), ?_, h.be g0.put (M3_nil (by rw [rI_q (by omega), rI_s])) (fun q j a b d _ => by rw [rI_q (by omega), rI_i, if_neg (by omega)]), fun q j hq => by rw [rI_q (by omega), rI_q (by omega)]⟩
    rw [m_change h hw hi hLH, if_pos u1, if_pos u2, h.1.2.2.2.2 w hi j (by omega)]
