/-! crosses, odds -/
theorem pc_crosses_ok : pc_crosses Rel := by
  rintro σ c1 c2 ⟨A, hx, hm, hw⟩
  have hR := hw.1.2.1
  have hN := hw.1.2.2.1
  rcases ix_cases c1 (n := rN A.1) (by omega) with hb | ⟨w, hi, rfl⟩
  · refine both_ref (-1) 1 hx hm hw (fun τ h => ?_) (fun τ h => ?_)
    · unfold f_X8_crosses
      simp only [RD, x_wheel_bad h.1.2.1 hb, x_ref, Option.bind_some]
    · unfold f_X9_crosses
      simp only [m_wheel_bad h.1.2.1 hN hb, m_ref, Option.bind_some, if_true]
  by_cases t0 : 0 ≤ c2
  case neg =>
    refine both_ref (-4) 4 hx hm hw (fun τ h => ?_) (fun τ h => ?_)
    · unfold f_X8_crosses
      simp only [RD, x_wheel h.1.2.1 hN hi, if_neg t0, x_ref, Option.bind_some]
    · unfold f_X9_crosses
      simp only [m_wheel h.1.2.1 hN hi, if_neg one0, if_neg t0, m_ref, Option.bind_some]
  obtain ⟨a, T, hD⟩ := bgW_D hw.1 hi
  have ha := hD.2.1
  have hbl : ∀ i, bgW A.1 w i < 60 := fun i => by have := hD.2.2.2.2.2 i; omega
  have n0 : ¬ c2 < 0 := Int32.not_lt.mpr t0
  rcases ix_cases c2 (n := a) (by omega) with (q | q) | ⟨i, hia, rfl⟩
  · exact absurd q n0
  · refine both_same (-9) hx hm hw (fun τ h => ?_) (fun τ h => ?_)
    · obtain ⟨τ', f1, f2, f3, f4⟩ := x_traceW (Or.inl rfl) h.1 hw.1 hi hD
      refine ⟨τ', ?_, fxD (Or.inl rfl) f3⟩
      unfold f_X8_crosses f_X0_hasArc
      simp only [RD, x_wheel h.1.2.1 hN hi, if_pos t0, f1, Option.bind_some, if_neg n0, f2.2.2.1, if_pos q, if_true]
    · obtain ⟨τ', f1, f2, f3, f4⟩ := m_drawsW h.1 hw.1 hi hD
      refine ⟨τ', ?_, fmD f3⟩
      unfold f_X9_crosses
      simp only [m_wheel h.1.2.1 hN hi, if_neg one0, if_pos t0, f1, Option.bind_some, f2.1, if_pos q]
  · have q : ¬ nI a ≤ nI i := by rw [le_nI (by omega) (by omega)]; omega
    refine both_same (nI (cb (bgW A.1 w) a (bgW A.1 w i) (bgW A.1 w (i + 1)))) hx hm hw (fun τ h => ?_) (fun τ h => ?_)
    · obtain ⟨τ', f1, f2, f3, f4⟩ := x_traceW (Or.inl rfl) h.1 hw.1 hi hD
      refine ⟨τ', ?_, fxD (Or.inl rfl) f3⟩
      have e := x_crossed (Or.inl rfl) (Or.inl rfl) f2 f2 (by omega) (by omega) hbl hbl rfl hia
      unfold f_X8_crosses f_X0_hasArc
      simp (disch := omega) only [RD, x_wheel h.1.2.1 hN hi, if_pos t0, f1, Option.bind_some, if_neg n0, f2.2.2.1, if_neg q, if_neg one0, e]
    · obtain ⟨τ', f1, f2, f3, f4⟩ := m_drawsW h.1 hw.1 hi hD
      refine ⟨τ', ?_, fmD f3⟩
      have e := m_crossed f2 (by omega) hbl hia
      unfold f_X9_crosses
      simp (disch := omega) only [m_wheel h.1.2.1 hN hi, if_neg one0, if_pos t0, f1, Option.bind_some, f2.1, if_neg q, e]
theorem pc_odds_ok : pc_odds Rel := by
  rintro σ c1 c2 ⟨A, hx, hm, hw⟩
  have hR := hw.1.2.1
  have hR3 := hw.1.1
  have hN := hw.1.2.2.1
  rcases ix_cases c1 (n := rN A.1) (by omega) with hb | ⟨w, hi, rfl⟩
  · refine both_ref 4000000000000000001 1 hx hm hw (fun τ h => ?_) (fun τ h => ?_)
    · unfold f_X8_odds
      simp only [RD, x_wheel_bad h.1.2.1 hb, x_refL, Option.bind_some]
    · unfold f_X9_odds
      simp only [m_wheel_bad h.1.2.1 hN hb, m_refL, Option.bind_some, if_true]
  by_cases h2 : c2 = 0 ∨ c2 = 1
  case neg =>
    have h2 := (two_ok c2).2 h2
    refine both_ref 4000000000000000002 2 hx hm hw (fun τ h => ?_) (fun τ h => ?_)
    · unfold f_X8_odds
      simp only [RD, x_wheel h.1.2.1 hN hi, h2, if_true, x_refL, Option.bind_some]
    · unfold f_X9_odds
      simp only [m_wheel h.1.2.1 hN hi, if_neg one0, h2, if_true, m_refL, Option.bind_some]
  obtain ⟨a, T, hD⟩ := bgW_D hw.1 hi
  have ha := hD.2.1
  have h3 := (two_ok c2).1 h2
  obtain ⟨r, r1, r2⟩ := frac (x := nI a) (W := rT A.1) (by rw [nI_toInt (by omega)]; omega) (by omega) hR h2
  refine both_same r.toInt64 hx hm hw (fun τ h => ?_) (fun τ h => ?_)
  · obtain ⟨τ', f1, f2, f3, f4⟩ := x_traceW (Or.inl rfl) h.1 hw.1 hi hD
    refine ⟨τ', ?_, fxD (Or.inl rfl) f3⟩
    have e : τ'.1 1 0 = nI (rT A.1) := (f3 1 0 (by omega)).trans h.1.1
    unfold f_X8_odds
    simp only [RD, x_wheel h.1.2.1 hN hi, h3, if_neg one0, f1, Option.bind_some, f2.2.2.1, e, r1]
  · obtain ⟨τ', f1, f2, f3, f4⟩ := m_drawsW h.1 hw.1 hi hD
    refine ⟨τ', ?_, fmD f3⟩
    have e : τ'.1 143 0 = nI (rT A.1) := (f3 143 0 (by omega) (by omega)).trans h.1.1
    unfold f_X9_odds
    simp only [m_wheel h.1.2.1 hN hi, if_neg one0, h3, f1, Option.bind_some, f2.1, e, r2]
