/-! arc -/
theorem pc_arc_ok : pc_arc Rel := by
  rintro σ c1 c2 ⟨A, hx, hm, hw⟩
  have hR := hw.1.2.1
  have hN := hw.1.2.2.1
  rcases ix_cases c1 (n := rN A.1) (by omega) with hb | ⟨w, hi, rfl⟩
  · refine both_ref (-1) 1 hx hm hw (fun τ h => ?_) (fun τ h => ?_)
    · unfold f_X8_arc
      simp only [RD, x_wheel_bad h.1.2.1 hb, x_ref, Option.bind_some]
    · unfold f_X9_arc
      simp only [m_wheel_bad h.1.2.1 hN hb, m_ref, Option.bind_some, if_true]
  by_cases t0 : 0 ≤ c2
  case neg =>
    refine both_ref (-4) 4 hx hm hw (fun τ h => ?_) (fun τ h => ?_)
    · unfold f_X8_arc
      simp only [RD, x_wheel h.1.2.1 hN hi, if_neg t0, x_ref, Option.bind_some]
    · unfold f_X9_arc
      simp only [m_wheel h.1.2.1 hN hi, if_neg one0, if_neg t0, m_ref, Option.bind_some]
  obtain ⟨a, T, hD⟩ := bgW_D hw.1 hi
  have ha := hD.2.1
  have n0 : ¬ c2 < 0 := Int32.not_lt.mpr t0
  have fx : ∀ {τ τ' : SS}, (∀ q j, (q < 116 ∨ 116 + 5 < q) → τ'.1 q j = τ.1 q j) → FX τ τ' := fun h q j hq => h q j (by unfold SX at hq; omega)
  rcases ix_cases c2 (n := a) (by omega) with (q | q) | ⟨i, hia, rfl⟩
  · exact absurd q n0
  · refine both_same (-9) hx hm hw (fun τ h => ?_) (fun τ h => ?_)
    · obtain ⟨τ', f1, f2, f3⟩ := x_trace (Or.inl rfl) h.1 hw.1 hi hD
      refine ⟨τ', ?_, fx f3⟩
      unfold f_X8_arc f_X0_hasArc
      simp only [RD, x_wheel h.1.2.1 hN hi, if_pos t0, f1, Option.bind_some, if_neg n0, f2.2.1, if_pos q, if_true]
    · obtain ⟨τ', f1, f2, f3⟩ := m_drawsBy h.1 hw.1 hi hD
      refine ⟨τ', ?_, f3⟩
      unfold f_X9_arc
      simp only [m_wheel h.1.2.1 hN hi, if_neg one0, if_pos t0, f1, Option.bind_some, f2.1, if_pos q]
  · have q : ¬ nI a ≤ nI i := by rw [le_nI (by omega) (by omega)]; omega
    refine both_same (nI (bgW A.1 w i)) hx hm hw (fun τ h => ?_) (fun τ h => ?_)
    · obtain ⟨τ', f1, f2, f3⟩ := x_trace (Or.inl rfl) h.1 hw.1 hi hD
      refine ⟨τ', ?_, fx f3⟩
      have e : τ'.1 117 i = nI (bgW A.1 w i) := (f2.2.2.2 i hia).1
      unfold f_X8_arc f_X0_hasArc
      simp (disch := omega) only [RD, LN, x_wheel h.1.2.1 hN hi, if_pos t0, f1, Option.bind_some, if_neg n0, f2.2.1, if_neg q, if_neg one0, cl_nI, ck_i, e]
    · obtain ⟨τ', f1, f2, f3⟩ := m_drawsBy h.1 hw.1 hi hD
      refine ⟨τ', ?_, f3⟩
      unfold f_X9_arc
      simp (disch := omega) only [RM, LN, m_wheel h.1.2.1 hN hi, if_neg one0, if_pos t0, f1, Option.bind_some, f2.1, if_neg q, cl_nI, ck_i, (f2.2.2 i hia).1]
