/-! kinds -/
theorem x_kinds5 {τ : SS} {ρ : RG} {l n w : Nat} {f : Nat → Int32} {g : Nat → Nat} (hl : l < 3) (hn : n ≤ 40) (h : X1 ρ τ) (hw : WR ρ) (hi : w < rN ρ) (e : τ.1 (137 + 2 * l) 0 = nI n) (hf : ∀ i, i < 40 → τ.1 (138 + 2 * l) i = f i) (hg : ∀ i, i < n → f i = nI (g i) ∧ g i < rT ρ) :
    ∃ s, f_X8_kindsThatLead 0 (137 + 2 * l) (5 + w) τ = some (kbF (fun v => ld (rT ρ) (rW ρ) g n v (rK ρ w 1) (rK ρ w 2)) 6, s) ∧ FX τ s := by
  have hR := hw.2.1
  have hN := hw.2.2.1
  obtain ⟨a1, a2, a3, a4, a5, a6, a7, a8⟩ := hw.2.2.2.2.2 w hi
  unfold f_X8_kindsThatLead
  obtain ⟨s, h1, e⟩ := loop_eq (fun fu i (s : SS) => f_X8_kindsThatLead_L5 (fun (y3 : Int32) (τ : SS) => some (y3, τ)) fu 0 (137 + 2 * l) (5 + w) (kbF (fun v => ld (rT ρ) (rW ρ) g n v (rK ρ w 1) (rK ρ w 2)) i) (nI i) s) (fun s => some (kbF (fun v => ld (rT ρ) (rW ρ) g n v (rK ρ w 1) (rK ρ w 2)) 6, s)) 6 (fun i s => FX τ s)
    (fun fu s hI => by
      simp only [f_X8_kindsThatLead_L5]
      rw [if_pos (show (6 : Int32) ≤ nI 6 by decide)])
    (fun fu i s hi' hI => by
      have hX0 : X1 ρ s := X1.of hN h (fun q j _ _ => hI q j (by unfold SX; omega))
      have q1 := hX0.2.2.2.2 w hi 1 (by omega)
      have q2 := hX0.2.2.2.2 w hi 2 (by omega)
      obtain ⟨s', g0, g1, g2, g3, g4, g5⟩ := x_set135 i (rK ρ w 1) (rK ρ w 2) s
      have hF : FX τ s' := fun q j hq => (g5 q j (by unfold SX at hq; omega)).trans (hI q j hq)
      have hX : X1 ρ s' := X1.of hN h (fun q j _ _ => hF q j (by unfold SX; omega))
      have hld := x_leads hl hn hX hw g1 g2 g3 (by omega) a3 a4 ((hF _ _ (by unfold SX; omega)).trans e) (fun i hi => (hF _ _ (by unfold SX; omega)).trans (hf i hi)) hg
      refine ⟨s', hF, ?_⟩
      simp only [f_X8_kindsThatLead_L5, RD]
      rw [q1, q2, if_neg (show ¬ (6 : Int32) ≤ nI i by rw [fa_lit 6, le_nI (by omega) (by omega)]; omega), g0, Option.bind_some, hld, Option.bind_some]
      by_cases q : ld (rT ρ) (rW ρ) g n i (rK ρ w 1) (rK ρ w 2) = true
      · rw [if_pos q, if_neg one0, kbF_yes (p := fun v => ld (rT ρ) (rW ρ) g n v (rK ρ w 1) (rK ρ w 2)) q, ol_add]
      · rw [if_neg q, if_pos rfl, kbF_no (p := fun v => ld (rT ρ) (rW ρ) g n v (rK ρ w 1) (rK ρ w 2)) q, ol_add])
    (fu := FU) (i := 0) (s := τ) (by omega) (FU_big (by omega)) (fun _ _ _ => rfl)
  exact ⟨s, e, h1⟩
theorem x_figs5 {τ : SS} {ρ : RG} {l n w : Nat} {f : Nat → Int32} {g : Nat → Nat} (hl : l < 3) (hn : n ≤ 40) (h : X1 ρ τ) (hw : WR ρ) (hi : w < rN ρ) (e : τ.1 (137 + 2 * l) 0 = nI n) (hf : ∀ i, i < 40 → τ.1 (138 + 2 * l) i = f i) (hg : ∀ i, i < n → f i = nI (g i) ∧ g i < rT ρ) :
    ∃ s, f_X8_figuresThatLead 0 (137 + 2 * l) (5 + w) τ = some (kbF (fun v => ld (rT ρ) (rW ρ) g n (rK ρ w 0) (rK ρ w 1) v) 10, s) ∧ FX τ s := by
  have hR := hw.2.1
  have hN := hw.2.2.1
  obtain ⟨a1, a2, a3, a4, a5, a6, a7, a8⟩ := hw.2.2.2.2.2 w hi
  unfold f_X8_figuresThatLead
  obtain ⟨s, h1, e⟩ := loop_eq (fun fu i (s : SS) => f_X8_figuresThatLead_L5 (fun (y3 : Int32) (τ : SS) => some (y3, τ)) fu 0 (137 + 2 * l) (5 + w) (kbF (fun v => ld (rT ρ) (rW ρ) g n (rK ρ w 0) (rK ρ w 1) v) i) (nI i) s) (fun s => some (kbF (fun v => ld (rT ρ) (rW ρ) g n (rK ρ w 0) (rK ρ w 1) v) 10, s)) 10 (fun i s => FX τ s)
    (fun fu s hI => by
      simp only [f_X8_figuresThatLead_L5]
      rw [if_pos (show (9 : Int32) < nI 10 by decide)])
    (fun fu i s hi' hI => by
      have hX0 : X1 ρ s := X1.of hN h (fun q j _ _ => hI q j (by unfold SX; omega))
      have q0 : s.1 (5 + w) 0 = nI (rK ρ w 0) := hX0.2.2.2.2 w hi 0 (by omega)
      have q1 : s.1 (5 + w) 1 = nI (rK ρ w 1) := hX0.2.2.2.2 w hi 1 (by omega)
      obtain ⟨s', g0, g1, g2, g3, g4, g5⟩ := x_set135 (rK ρ w 0) (rK ρ w 1) i s
      have hF : FX τ s' := fun q j hq => (g5 q j (by unfold SX at hq; omega)).trans (hI q j hq)
      have hX : X1 ρ s' := X1.of hN h (fun q j _ _ => hF q j (by unfold SX; omega))
      have hld := x_leads hl hn hX hw g1 g2 g3 a1 a3 (by omega) ((hF _ _ (by unfold SX; omega)).trans e) (fun i hi => (hF _ _ (by unfold SX; omega)).trans (hf i hi)) hg
      refine ⟨s', hF, ?_⟩
      simp only [f_X8_figuresThatLead_L5, RD]
      rw [q0, q1, if_neg (show ¬ (9 : Int32) < nI i by rw [fa_lit 9, lt_nI (by omega) (by omega)]; omega), g0, Option.bind_some, hld, Option.bind_some]
      by_cases q : ld (rT ρ) (rW ρ) g n (rK ρ w 0) (rK ρ w 1) i = true
      · rw [if_pos q, if_neg one0, kbF_yes (p := fun v => ld (rT ρ) (rW ρ) g n (rK ρ w 0) (rK ρ w 1) v) q, ol_add]
      · rw [if_neg q, if_pos rfl, kbF_no (p := fun v => ld (rT ρ) (rW ρ) g n (rK ρ w 0) (rK ρ w 1) v) q, ol_add])
    (fu := FU) (i := 0) (s := τ) (by omega) (FU_big (by omega)) (fun _ _ _ => rfl)
  exact ⟨s, e, h1⟩
theorem m_kinds70a {τ : SS} {ρ : RG} {l n w : Nat} {f : Nat → Int32} {g : Nat → Nat} (hl : l < 3) (hn : n ≤ 40) (h : M1 ρ τ) (hw : WR ρ) (hi : w < rN ρ) (e : τ.1 154 l = nI n) (hf : ∀ i, i < 40 → τ.1 153 (40 * l + i) = f i) (hg : ∀ i, i < n → f i = nI (g i) ∧ g i < rT ρ) :
    f_X9_kinds_L70 (fun (y4 : Int32) (τ : SS) => some (y4, τ)) FU 143 (nI l) (nI w) 0 0 0 τ = some (kbF (fun v => ld (rT ρ) (rW ρ) g n v (rK ρ w 1) (rK ρ w 2)) 6, τ) := by
  have hR := hw.2.1
  have hN := hw.2.2.1
  obtain ⟨a1, a2, a3, a4, a5, a6, a7, a8⟩ := hw.2.2.2.2.2 w hi
  have q1 : τ.1 147 w = nI (rK ρ w 1) := h.2.2.2.2 w hi 1 (by omega)
  have q2 : τ.1 148 w = nI (rK ρ w 2) := h.2.2.2.2 w hi 2 (by omega)
  have := loop_fix (fun fu i => f_X9_kinds_L70 (fun (y4 : Int32) (τ : SS) => some (y4, τ)) fu 143 (nI l) (nI w) 0 (kbF (fun v => ld (rT ρ) (rW ρ) g n v (rK ρ w 1) (rK ρ w 2)) i) (nI i) τ) (some (kbF (fun v => ld (rT ρ) (rW ρ) g n v (rK ρ w 1) (rK ρ w 2)) 6, τ)) 6
    (fun fu => by
      simp only [f_X9_kinds_L70, jn1]
      rw [if_pos trivial, if_pos (show (6 : Int32) ≤ nI 6 by decide)])
    (fun fu i hi' => by
      have hld := m_drawnP (k := i) hl hn (h.mn hw) (by omega) a3 a4 e hf hg
      simp (disch := omega) only [f_X9_kinds_L70, jn1, RM, LN, cl_nI, ck_i, q1, q2, hld, Option.bind_some, if_true]
      rw [if_neg (show ¬ (6 : Int32) ≤ nI i by rw [fa_lit 6, le_nI (by omega) (by omega)]; omega)]
      by_cases q : ld (rT ρ) (rW ρ) g n i (rK ρ w 1) (rK ρ w 2) = true
      · rw [if_pos q, if_neg one0, kbF_yes (p := fun v => ld (rT ρ) (rW ρ) g n v (rK ρ w 1) (rK ρ w 2)) q, ol_add]
      · rw [if_neg q, if_pos rfl, kbF_no (p := fun v => ld (rT ρ) (rW ρ) g n v (rK ρ w 1) (rK ρ w 2)) q, ol_add])
    (fu := FU) (i := 0) (by omega) (FU_big (by omega))
  exact this
theorem m_kinds70b {τ : SS} {ρ : RG} {l n w : Nat} {f : Nat → Int32} {g : Nat → Nat} (hl : l < 3) (hn : n ≤ 40) (h : M1 ρ τ) (hw : WR ρ) (hi : w < rN ρ) (e : τ.1 154 l = nI n) (hf : ∀ i, i < 40 → τ.1 153 (40 * l + i) = f i) (hg : ∀ i, i < n → f i = nI (g i) ∧ g i < rT ρ) :
    f_X9_kinds_L70 (fun (y4 : Int32) (τ : SS) => some (y4, τ)) FU 143 (nI l) (nI w) 1 0 0 τ = some (kbF (fun v => ld (rT ρ) (rW ρ) g n (rK ρ w 0) (rK ρ w 1) v) 10, τ) := by
  have hR := hw.2.1
  have hN := hw.2.2.1
  obtain ⟨a1, a2, a3, a4, a5, a6, a7, a8⟩ := hw.2.2.2.2.2 w hi
  have q0 : τ.1 146 w = nI (rK ρ w 0) := h.2.2.2.2 w hi 0 (by omega)
  have q1 : τ.1 147 w = nI (rK ρ w 1) := h.2.2.2.2 w hi 1 (by omega)
  have := loop_fix (fun fu i => f_X9_kinds_L70 (fun (y4 : Int32) (τ : SS) => some (y4, τ)) fu 143 (nI l) (nI w) 1 (kbF (fun v => ld (rT ρ) (rW ρ) g n (rK ρ w 0) (rK ρ w 1) v) i) (nI i) τ) (some (kbF (fun v => ld (rT ρ) (rW ρ) g n (rK ρ w 0) (rK ρ w 1) v) 10, τ)) 10
    (fun fu => by
      simp only [f_X9_kinds_L70, jn1]
      rw [if_neg one0, if_pos (show (10 : Int32) ≤ nI 10 by decide)])
    (fun fu i hi' => by
      have hld := m_drawnP (fg := i) hl hn (h.mn hw) a1 a3 (by omega) e hf hg
      simp (disch := omega) only [f_X9_kinds_L70, jn1, RM, LN, cl_nI, ck_i, q0, q1, hld, Option.bind_some, one0, if_false]
      rw [if_neg (show ¬ (10 : Int32) ≤ nI i by rw [fa_lit 10, le_nI (by omega) (by omega)]; omega)]
      by_cases q : ld (rT ρ) (rW ρ) g n (rK ρ w 0) (rK ρ w 1) i = true
      · rw [if_pos q, if_neg one0, kbF_yes (p := fun v => ld (rT ρ) (rW ρ) g n (rK ρ w 0) (rK ρ w 1) v) q, ol_add]
      · rw [if_neg q, if_pos rfl, kbF_no (p := fun v => ld (rT ρ) (rW ρ) g n (rK ρ w 0) (rK ρ w 1) v) q, ol_add])
    (fu := FU) (i := 0) (by omega) (FU_big (by omega))
  exact this
theorem pc_kinds_ok : pc_kinds Rel := by
  rintro σ c1 c2 c3 ⟨A, hx, hm, hw⟩
  have hR := hw.1.2.1
  have hR3 := hw.1.1
  have hN := hw.1.2.2.1
  rcases ix_cases c1 (n := 3) (by omega) with hb | ⟨l, hl, rfl⟩
  · refine both_ref (-1) 1 hx hm hw (fun τ h => ?_) (fun τ h => ?_)
    · obtain ⟨o, ho⟩ := x_wheelE c2 h.1.2.1 hN
      unfold f_X8_kinds
      simp only [RD, x_row_bad τ hb, ho, Option.bind_some, x_ref]
    · unfold f_X9_kinds
      simp only [m_list_bad hb, if_true, m_ref, Option.bind_some]
  rcases ix_cases c2 (n := rN A.1) (by omega) with hb | ⟨w, hi, rfl⟩
  · refine both_ref (-1) 1 hx hm hw (fun τ h => ?_) (fun τ h => ?_)
    · unfold f_X8_kinds
      simp only [RD, x_row τ hl, x_wheel_bad h.1.2.1 hb, Option.bind_some, x_ref]
    · unfold f_X9_kinds
      simp only [m_list hl, if_neg one0, m_wheel_bad h.1.2.1 hN hb, if_true, m_ref, Option.bind_some]
  by_cases h2 : c3 = 0 ∨ c3 = 1
  case neg =>
    have h2 := (two_ok c3).2 h2
    refine both_ref (-2) 2 hx hm hw (fun τ h => ?_) (fun τ h => ?_)
    · unfold f_X8_kinds
      simp only [RD, x_row τ hl, x_wheel h.1.2.1 hN hi, h2, if_true, x_ref, Option.bind_some]
    · unfold f_X9_kinds
      simp only [m_list hl, m_wheel h.1.2.1 hN hi, if_neg one0, h2, if_true, m_ref, Option.bind_some]
  have h3 := (two_ok c3).1 h2
  rcases hw.2.2.2.2 l hl with hs | ⟨n, hn, hs⟩
  · refine both_same (-11) hx hm hw (fun τ h => ⟨τ, ?_, fun _ _ _ => rfl⟩) (fun τ h => ⟨τ, ?_, fun _ _ _ => rfl⟩)
    · have e := (h.2.2.2.2.1 l hl).1.trans hs
      unfold f_X8_kinds f_X5_isMissing
      simp only [RD, x_row τ hl, x_wheel h.1.2.1 hN hi, h3, Option.bind_some, e, if_neg mone, if_neg one0, x_ref]
    · have e := (h.2.2.2.2.1 l hl).1.trans hs
      unfold f_X9_kinds
      simp (disch := omega) only [m_list hl, m_wheel h.1.2.1 hN hi, if_neg one0, h3, RM, LN, cl_nI, ck_i, e, if_neg mone]
  have p0 : (0 : Int32) ≤ nI n := nI_pos' (by omega)
  by_cases q : fstF (fun i => !tth (rT A.1) (A.2.2.2.2.1.2 l i)) 0 n < n
  · refine both_ref (-3) 3 hx hm hw (fun τ h => ?_) (fun τ h => ?_)
    · have e := (h.2.2.2.2.1 l hl).1.trans hs
      have e1 := x_tells hl hn hR h.1.1 e (h.2.2.2.2.1 l hl).2
      rw [if_pos q] at e1
      unfold f_X8_kinds f_X5_isMissing
      simp only [RD, x_row τ hl, x_wheel h.1.2.1 hN hi, h3, if_neg one0, Option.bind_some, e, if_pos p0, if_true, e1, x_ref]
    · have e := (h.2.2.2.2.1 l hl).1.trans hs
      have e1 := m_others hl hn hR h.1.1 e (h.2.2.2.2.1 l hl).2
      rw [if_pos q] at e1
      unfold f_X9_kinds
      simp (disch := omega) only [m_list hl, m_wheel h.1.2.1 hN hi, if_neg one0, h3, RM, LN, cl_nI, ck_i, e, if_pos p0, e1, Option.bind_some, m_ref]
  have hg := tells_all hR q
  rcases h2 with rfl | rfl
  · refine both_same (kbF (fun v => ld (rT A.1) (rW A.1) (fun i => (A.2.2.2.2.1.2 l i).toNatClampNeg) n v (rK A.1 w 1) (rK A.1 w 2)) 6) hx hm hw (fun τ h => ?_) (fun τ h => ?_)
    · have e := (h.2.2.2.2.1 l hl).1.trans hs
      have e1 := x_tells hl hn hR h.1.1 e (h.2.2.2.2.1 l hl).2
      rw [if_neg q] at e1
      obtain ⟨s, f1, f2⟩ := x_kinds5 hl hn h.1 hw.1 hi e (h.2.2.2.2.1 l hl).2 hg
      refine ⟨s, ?_, f2⟩
      unfold f_X8_kinds f_X5_isMissing
      simp only [RD, x_row τ hl, x_wheel h.1.2.1 hN hi, h3, Option.bind_some, e, if_pos p0, if_true, e1, if_neg one0, f1]
    · have e := (h.2.2.2.2.1 l hl).1.trans hs
      have e1 := m_others hl hn hR h.1.1 e (h.2.2.2.2.1 l hl).2
      rw [if_neg q] at e1
      refine ⟨τ, ?_, fun _ _ _ => rfl⟩
      have f1 := m_kinds70a hl hn h.1 hw.1 hi e (h.2.2.2.2.1 l hl).2 hg
      unfold f_X9_kinds
      simp (disch := omega) only [m_list hl, m_wheel h.1.2.1 hN hi, if_neg one0, h3, RM, LN, cl_nI, ck_i, e, if_pos p0, e1, Option.bind_some, if_true, f1]
  · refine both_same (kbF (fun v => ld (rT A.1) (rW A.1) (fun i => (A.2.2.2.2.1.2 l i).toNatClampNeg) n (rK A.1 w 0) (rK A.1 w 1) v) 10) hx hm hw (fun τ h => ?_) (fun τ h => ?_)
    · have e := (h.2.2.2.2.1 l hl).1.trans hs
      have e1 := x_tells hl hn hR h.1.1 e (h.2.2.2.2.1 l hl).2
      rw [if_neg q] at e1
      obtain ⟨s, f1, f2⟩ := x_figs5 hl hn h.1 hw.1 hi e (h.2.2.2.2.1 l hl).2 hg
      refine ⟨s, ?_, f2⟩
      unfold f_X8_kinds f_X5_isMissing
      simp only [RD, x_row τ hl, x_wheel h.1.2.1 hN hi, h3, Option.bind_some, e, if_pos p0, if_true, e1, if_neg one0, f1]
    · have e := (h.2.2.2.2.1 l hl).1.trans hs
      have e1 := m_others hl hn hR h.1.1 e (h.2.2.2.2.1 l hl).2
      rw [if_neg q] at e1
      refine ⟨τ, ?_, fun _ _ _ => rfl⟩
      have f1 := m_kinds70b hl hn h.1 hw.1 hi e (h.2.2.2.2.1 l hl).2 hg
      unfold f_X9_kinds
      simp (disch := omega) only [m_list hl, m_wheel h.1.2.1 hN hi, if_neg one0, h3, RM, LN, cl_nI, ck_i, e, if_pos p0, e1, Option.bind_some, if_true, f1]
