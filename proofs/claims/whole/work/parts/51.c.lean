/-! behind, drawing -/
theorem pc_behind_ok : pc_behind Rel := by
  rintro σ c1 c2 ⟨A, hx, hm, hw⟩
  have hR := hw.1.2.1
  have hR3 := hw.1.1
  have hN := hw.1.2.2.1
  rcases ix_cases c1 (n := rN A.1) (by omega) with hb | ⟨w, hi, rfl⟩
  · refine both_ref (-1) 1 hx hm hw (fun τ h => ?_) (fun τ h => ?_)
    · unfold f_X8_behind
      simp only [RD, x_wheel_bad h.1.2.1 hb, x_ref, Option.bind_some]
    · unfold f_X9_behind
      simp only [m_wheel_bad h.1.2.1 hN hb, m_ref, Option.bind_some, if_true]
  rcases ix_cases c2 (n := rT A.1) (by omega) with hb | ⟨t, ht, rfl⟩
  · refine both_ref (-1) 1 hx hm hw (fun τ h => ?_) (fun τ h => ?_)
    · unfold f_X8_behind
      simp only [RD, x_wheel h.1.2.1 hN hi, x_tooth_bad h.1.1 hb, x_ref, Option.bind_some, if_true]
    · unfold f_X9_behind
      simp only [m_wheel h.1.2.1 hN hi, if_neg one0, m_tooth_bad h.1.1 hR hb, m_ref, Option.bind_some, if_true]
  obtain ⟨a, T, hD⟩ := bgW_D hw.1 hi
  have ha := hD.2.1
  have ha1 := hD.1
  have hbl := hD.2.2.2.2.2
  refine both_same (nI ((t + nc (bgW A.1 w) a (rT A.1) t) % rT A.1)) hx hm hw (fun τ h => ?_) (fun τ h => ?_)
  · obtain ⟨τ', f1, f2, f3, f4⟩ := x_traceW (Or.inl rfl) h.1 hw.1 hi hD
    refine ⟨τ', ?_, fxD (Or.inl rfl) f3⟩
    unfold f_X8_behind
    simp only [RD, x_wheel h.1.2.1 hN hi, x_tooth h.1.1 hR ht, if_neg one0, f1, Option.bind_some, x_cuspFrom (Or.inl rfl) f2 (show 1 ≤ rT A.1 by omega) hR ha1 (show a ≤ 60 by omega) hbl (show t ≤ rT A.1 by omega)]
  · obtain ⟨τ', f1, f2, f3, f4⟩ := m_drawsW h.1 hw.1 hi hD
    refine ⟨τ', ?_, fmD f3⟩
    have e : τ'.1 143 0 = nI (rT A.1) := (f3 143 0 (by omega) (by omega)).trans h.1.1
    unfold f_X9_behind
    simp only [m_wheel h.1.2.1 hN hi, m_tooth h.1.1 hR ht, if_neg one0, f1, Option.bind_some, m_behind29 e f2 (show 1 ≤ rT A.1 by omega) hR ha1 (show a ≤ 60 by omega) hbl ht]
theorem pc_drawing_ok : pc_drawing Rel := by
  rintro σ c1 c2 ⟨A, hx, hm, hw⟩
  have hR := hw.1.2.1
  have hR3 := hw.1.1
  have hR1 : 1 ≤ rT A.1 := by omega
  have hN := hw.1.2.2.1
  rcases ix_cases c1 (n := rN A.1) (by omega) with hb | ⟨w, hi, rfl⟩
  · refine both_ref (-1) 1 hx hm hw (fun τ h => ?_) (fun τ h => ?_)
    · unfold f_X8_drawing
      simp only [RD, x_wheel_bad h.1.2.1 hb, x_ref, Option.bind_some]
    · unfold f_X9_drawing
      simp only [m_wheel_bad h.1.2.1 hN hb, m_ref, Option.bind_some, if_true]
  rcases ix_cases c2 (n := 8) (by omega) with hb | ⟨j, hj, rfl⟩
  · refine both_ref (-2) 2 hx hm hw (fun τ h => ?_) (fun τ h => ?_)
    · unfold f_X8_drawing
      simp only [RD, x_wheel h.1.2.1 hN hi, Option.bind_some]
      by_cases q0 : c2 < 0
      · rw [if_pos q0]
        simp only [x_ref, Option.bind_some]
      · have q7 : ¬ c2 ≤ 7 := by
          rcases hb with hb | hb
          · exact absurd hb q0
          · exact (big_i hb (show 7 < 8 by omega) (by omega)).2.1
        rw [if_neg q0, if_neg q7]
        simp only [x_ref, Option.bind_some]
    · unfold f_X9_drawing
      have e := within_bad (n := 7) hb (by omega)
      rw [m_wheel h.1.2.1 hN hi, if_neg one0, show f_X9_within c2 0 7 = 0 from e, if_pos rfl]
      simp only [m_ref, Option.bind_some]
  obtain ⟨a, T, hD⟩ := bgW_D hw.1 hi
  have ha : a ≤ 60 := by have := hD.2.1; omega
  have ha1 := hD.1
  have hT := hD.2.2.1
  have hbl := hD.2.2.2.2.2
  have hbl6 : ∀ i, bgW A.1 w i < 60 := fun i => by have := hbl i; omega
  have hx' : ∀ τ, XH A τ → ∃ τ', f_X0_trace 116 1 (5 + w) τ = some τ' ∧ DrX 116 (rT A.1) (rK A.1 w 0) (bgW A.1 w) a T τ' ∧ FX τ τ' := fun τ h => by
    obtain ⟨τ', f1, f2, f3, f4⟩ := x_traceW (Or.inl rfl) h.1 hw.1 hi hD
    exact ⟨τ', f1, f2, fxD (Or.inl rfl) f3⟩
  have hm' : ∀ τ, MH A τ → ∃ τ', f_X9_drawsBy 143 (nI w) τ = some τ' ∧ DrM (rT A.1) (bgW A.1 w) a T τ' ∧ FM τ τ' ∧ τ'.1 143 0 = nI (rT A.1) ∧ τ'.1 146 w = nI (rK A.1 w 0) := fun τ h => by
    obtain ⟨τ', f1, f2, f3, f4⟩ := m_drawsW h.1 hw.1 hi hD
    exact ⟨τ', f1, f2, fmD f3, (f3 143 0 (by omega) (by omega)).trans h.1.1, (f3 146 w (by omega) (by omega)).trans (h.1.2.2.2.2 w hi 0 (by omega))⟩
  have xw : ∀ τ, XH A τ → ∀ τ' v, (f_X0_trace 116 1 (5 + w) τ = some τ') → (if nI j = 0 then some ((τ'.1 116 3), τ') else if nI j = 1 then some (((τ'.1 116 2) - (τ'.1 116 3)), τ') else if nI j = 2 then some ((τ'.1 116 2), τ') else if nI j = 3 then (f_X0_rounds 116 τ').bind fun z15 => some (z15, τ') else if nI j = 4 then (f_X0_cuspOfGap 116 τ').bind fun z18 => (f_X0_gapAbove 116 z18 τ').bind fun z20 => some (z20, τ') else if nI j = 5 then (f_X0_cuspOfGap 116 τ').bind fun z23 => some (z23, τ') else if nI j = 6 then (f_X0_crossings 116 τ').bind fun z26 => some (z26, τ') else (f_X0_mostCrossing 116 τ').bind fun z28 => some (z28, τ')) = some v → f_X8_drawing 0 (nI w) (nI j) τ = some v := fun τ h τ' v e1 e2 => by
    unfold f_X8_drawing
    simp only [RD, x_wheel h.1.2.1 hN hi, Option.bind_some, e1]
    rw [if_neg (nlt_m (by omega)), if_pos (show nI j ≤ 7 by rw [fa_lit 7, le_nI (by omega) (by omega)]; omega)]
    exact e2
  have mw : ∀ τ, MH A τ → ∀ τ' v, (f_X9_drawsBy 143 (nI w) τ = some τ') → (if nI j = 0 then some ((τ'.1 143 24), τ') else if nI j = 1 then some (((τ'.1 143 23) - (τ'.1 143 24)), τ') else if nI j = 2 then some ((τ'.1 143 23), τ') else if nI j = 3 then (f_X9_rounds 143 (nI w) τ').bind fun z9 => some (z9, τ') else if nI j = 4 then (f_X9_widest 143 τ').bind fun z12 => (f_X9_gapFrom 143 z12 τ').bind fun z14 => some (z14, τ') else if nI j = 5 then (f_X9_widest 143 τ').bind fun z17 => some (z17, τ') else if nI j = 6 then (f_X9_crossings 143 τ').bind fun z20 => some (z20, τ') else (f_X9_mostCrossed 143 τ').bind fun z22 => some (z22, τ')) = some v → f_X9_drawing 143 (nI w) (nI j) τ = some v := fun τ h τ' v e1 e2 => by
    unfold f_X9_drawing
    rw [m_wheel h.1.2.1 hN hi, if_neg one0, show f_X9_within (nI j) 0 7 = 1 from within_ok (a := 0) (b := 7) (by omega) (by omega) (by omega), if_neg one0, e1, Option.bind_some]
    exact e2
  rcases (show j = 0 ∨ j = 1 ∨ j = 2 ∨ j = 3 ∨ j = 4 ∨ j = 5 ∨ j = 6 ∨ j = 7 by omega) with rfl | rfl | rfl | rfl | rfl | rfl | rfl | rfl
  · refine both_same (nI T) hx hm hw (fun τ h => ?_) (fun τ h => ?_)
    · obtain ⟨τ', f1, f2, f3⟩ := hx' τ h
      refine ⟨τ', xw τ h τ' _ f1 ?_, f3⟩
      rw [if_pos (show nI 0 = 0 by decide), f2.2.2.2.1]
    · obtain ⟨τ', f1, f2, f3, f4, f5⟩ := hm' τ h
      refine ⟨τ', mw τ h τ' _ f1 ?_, f3⟩
      rw [if_pos (show nI 0 = 0 by decide), f2.2.1]
  · refine both_same (nI (a - T)) hx hm hw (fun τ h => ?_) (fun τ h => ?_)
    · obtain ⟨τ', f1, f2, f3⟩ := hx' τ h
      refine ⟨τ', xw τ h τ' _ f1 ?_, f3⟩
      rw [if_neg (show ¬ nI 1 = 0 by decide), if_pos (show nI 1 = 1 by decide), f2.2.2.2.1, f2.2.2.1, sub_nI (by omega)]
    · obtain ⟨τ', f1, f2, f3, f4, f5⟩ := hm' τ h
      refine ⟨τ', mw τ h τ' _ f1 ?_, f3⟩
      rw [if_neg (show ¬ nI 1 = 0 by decide), if_pos (show nI 1 = 1 by decide), f2.2.1, f2.1, sub_nI (by omega)]
  · refine both_same (nI a) hx hm hw (fun τ h => ?_) (fun τ h => ?_)
    · obtain ⟨τ', f1, f2, f3⟩ := hx' τ h
      refine ⟨τ', xw τ h τ' _ f1 ?_, f3⟩
      rw [if_neg (show ¬ nI 2 = 0 by decide), if_neg (show ¬ nI 2 = 1 by decide), if_pos (show nI 2 = 2 by decide), f2.2.2.1]
    · obtain ⟨τ', f1, f2, f3, f4, f5⟩ := hm' τ h
      refine ⟨τ', mw τ h τ' _ f1 ?_, f3⟩
      rw [if_neg (show ¬ nI 2 = 0 by decide), if_neg (show ¬ nI 2 = 1 by decide), if_pos (show nI 2 = 2 by decide), f2.1]
  · refine both_same (nI (sm (rsF (rT A.1) (rK A.1 w 0) T (bgW A.1 w)) a / rT A.1)) hx hm hw (fun τ h => ?_) (fun τ h => ?_)
    · obtain ⟨τ', f1, f2, f3⟩ := hx' τ h
      refine ⟨τ', xw τ h τ' _ f1 ?_, f3⟩
      rw [if_neg (show ¬ nI 3 = 0 by decide), if_neg (show ¬ nI 3 = 1 by decide), if_neg (show ¬ nI 3 = 2 by decide), if_pos (show nI 3 = 3 by decide), x_rounds (Or.inl rfl) f2 hR1 hR ha hT, Option.bind_some]
    · obtain ⟨τ', f1, f2, f3, f4, f5⟩ := hm' τ h
      refine ⟨τ', mw τ h τ' _ f1 ?_, f3⟩
      rw [if_neg (show ¬ nI 3 = 0 by decide), if_neg (show ¬ nI 3 = 1 by decide), if_neg (show ¬ nI 3 = 2 by decide), if_pos (show nI 3 = 3 by decide), m_rounds f4 f5 (hw.1.2.2.2.2.2 w hi).1 (by omega) f2 hR1 hR ha hT hbl, Option.bind_some]
  · obtain ⟨b, hb1, hb2⟩ : ∃ b, b < rT A.1 ∧ wd (cu (bgW A.1 w) a) (gp (bgW A.1 w) a (rT A.1)) (rT A.1) = some b := by
      obtain ⟨τ', f1, f2, f3⟩ := hx' σ hx
      obtain ⟨b, k1, k2, k3⟩ := x_cuspOfGap (Or.inl rfl) f2 hR1 hR ha1 ha hbl
      exact ⟨b, k1, k2⟩
    refine both_same (nI (gp (bgW A.1 w) a (rT A.1) b)) hx hm hw (fun τ h => ?_) (fun τ h => ?_)
    · obtain ⟨τ', f1, f2, f3⟩ := hx' τ h
      obtain ⟨b', k1, k2, k3⟩ := x_cuspOfGap (Or.inl rfl) f2 hR1 hR ha1 ha hbl
      have eb : b' = b := Option.some.inj (k2.symm.trans hb2)
      subst eb
      refine ⟨τ', xw τ h τ' _ f1 ?_, f3⟩
      rw [if_neg (show ¬ nI 4 = 0 by decide), if_neg (show ¬ nI 4 = 1 by decide), if_neg (show ¬ nI 4 = 2 by decide), if_neg (show ¬ nI 4 = 3 by decide), if_pos (show nI 4 = 4 by decide), k3, Option.bind_some, x_gapAbove (Or.inl rfl) f2 hR1 hR ha1 ha hbl k1, Option.bind_some]
    · obtain ⟨τ', f1, f2, f3, f4, f5⟩ := hm' τ h
      refine ⟨τ', mw τ h τ' _ f1 ?_, f3⟩
      rw [if_neg (show ¬ nI 4 = 0 by decide), if_neg (show ¬ nI 4 = 1 by decide), if_neg (show ¬ nI 4 = 2 by decide), if_neg (show ¬ nI 4 = 3 by decide), if_pos (show nI 4 = 4 by decide), m_widest f4 f2 hR1 hR ha1 ha hbl hb2, Option.bind_some, m_gapFrom f4 f2 hR1 hR ha1 ha hbl hb1, Option.bind_some]
  · obtain ⟨b, hb1, hb2⟩ : ∃ b, b < rT A.1 ∧ wd (cu (bgW A.1 w) a) (gp (bgW A.1 w) a (rT A.1)) (rT A.1) = some b := by
      obtain ⟨τ', f1, f2, f3⟩ := hx' σ hx
      obtain ⟨b, k1, k2, k3⟩ := x_cuspOfGap (Or.inl rfl) f2 hR1 hR ha1 ha hbl
      exact ⟨b, k1, k2⟩
    refine both_same (nI b) hx hm hw (fun τ h => ?_) (fun τ h => ?_)
    · obtain ⟨τ', f1, f2, f3⟩ := hx' τ h
      obtain ⟨b', k1, k2, k3⟩ := x_cuspOfGap (Or.inl rfl) f2 hR1 hR ha1 ha hbl
      have eb : b' = b := Option.some.inj (k2.symm.trans hb2)
      subst eb
      refine ⟨τ', xw τ h τ' _ f1 ?_, f3⟩
      rw [if_neg (show ¬ nI 5 = 0 by decide), if_neg (show ¬ nI 5 = 1 by decide), if_neg (show ¬ nI 5 = 2 by decide), if_neg (show ¬ nI 5 = 3 by decide), if_neg (show ¬ nI 5 = 4 by decide), if_pos (show nI 5 = 5 by decide), k3, Option.bind_some]
    · obtain ⟨τ', f1, f2, f3, f4, f5⟩ := hm' τ h
      refine ⟨τ', mw τ h τ' _ f1 ?_, f3⟩
      rw [if_neg (show ¬ nI 5 = 0 by decide), if_neg (show ¬ nI 5 = 1 by decide), if_neg (show ¬ nI 5 = 2 by decide), if_neg (show ¬ nI 5 = 3 by decide), if_neg (show ¬ nI 5 = 4 by decide), if_pos (show nI 5 = 5 by decide), m_widest f4 f2 hR1 hR ha1 ha hbl hb2, Option.bind_some]
  · refine both_same (nI (sm (cbi (bgW A.1 w) a) a / 2)) hx hm hw (fun τ h => ?_) (fun τ h => ?_)
    · obtain ⟨τ', f1, f2, f3⟩ := hx' τ h
      refine ⟨τ', xw τ h τ' _ f1 ?_, f3⟩
      rw [if_neg (show ¬ nI 6 = 0 by decide), if_neg (show ¬ nI 6 = 1 by decide), if_neg (show ¬ nI 6 = 2 by decide), if_neg (show ¬ nI 6 = 3 by decide), if_neg (show ¬ nI 6 = 4 by decide), if_neg (show ¬ nI 6 = 5 by decide), if_pos (show nI 6 = 6 by decide), x_crossings (Or.inl rfl) f2 ha hbl6, Option.bind_some]
    · obtain ⟨τ', f1, f2, f3, f4, f5⟩ := hm' τ h
      refine ⟨τ', mw τ h τ' _ f1 ?_, f3⟩
      rw [if_neg (show ¬ nI 6 = 0 by decide), if_neg (show ¬ nI 6 = 1 by decide), if_neg (show ¬ nI 6 = 2 by decide), if_neg (show ¬ nI 6 = 3 by decide), if_neg (show ¬ nI 6 = 4 by decide), if_neg (show ¬ nI 6 = 5 by decide), if_pos (show nI 6 = 6 by decide), m_crossings f2 ha hbl6, Option.bind_some]
  · refine both_same (nI (bestF (cbi (bgW A.1 w) a) a)) hx hm hw (fun τ h => ?_) (fun τ h => ?_)
    · obtain ⟨τ', f1, f2, f3⟩ := hx' τ h
      refine ⟨τ', xw τ h τ' _ f1 ?_, f3⟩
      rw [if_neg (show ¬ nI 7 = 0 by decide), if_neg (show ¬ nI 7 = 1 by decide), if_neg (show ¬ nI 7 = 2 by decide), if_neg (show ¬ nI 7 = 3 by decide), if_neg (show ¬ nI 7 = 4 by decide), if_neg (show ¬ nI 7 = 5 by decide), if_neg (show ¬ nI 7 = 6 by decide), x_most (Or.inl rfl) f2 ha1 ha hbl6, Option.bind_some]
    · obtain ⟨τ', f1, f2, f3, f4, f5⟩ := hm' τ h
      refine ⟨τ', mw τ h τ' _ f1 ?_, f3⟩
      rw [if_neg (show ¬ nI 7 = 0 by decide), if_neg (show ¬ nI 7 = 1 by decide), if_neg (show ¬ nI 7 = 2 by decide), if_neg (show ¬ nI 7 = 3 by decide), if_neg (show ¬ nI 7 = 4 by decide), if_neg (show ¬ nI 7 = 5 by decide), if_neg (show ¬ nI 7 = 6 by decide), m_most f2 ha1 ha hbl6, Option.bind_some]
