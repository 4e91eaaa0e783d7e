/-! between -/
theorem sm_add (f g : Nat → Nat) : ∀ n, sm (fun i => f i + g i) n = sm f n + sm g n
  | 0 => rfl
  | n + 1 => by
    have := sm_add f g n
    simp only [sm] at *
    omega
theorem sm_congr {f g : Nat → Nat} : ∀ n, (∀ i, i < n → f i = g i) → sm f n = sm g n
  | 0, _ => rfl
  | n + 1, h => by
    simp only [sm]
    rw [sm_congr n (fun i hi => h i (by omega)), h n (by omega)]
theorem cnt_sm (p : Nat → Bool) : ∀ n, cnt p n = sm (fun i => if p i = true then 1 else 0) n
  | 0 => rfl
  | n + 1 => by
    simp only [sm, cnt]
    rw [cnt_sm p n]
theorem sm_0 : ∀ n, sm (fun _ => 0) n = 0
  | 0 => rfl
  | n + 1 => by simp only [sm, sm_0 n]
theorem sm_swap (P : Nat → Nat → Bool) (a : Nat) : ∀ b, sm (fun i => cnt (fun k => P k i) a) b = sm (fun k => cnt (fun i => P k i) b) a
  | 0 => by simp only [sm, cnt]; rw [sm_0]
  | b + 1 => by
    simp only [sm]
    rw [sm_swap P a b, cnt_sm (fun k => P k b) a, ← sm_add]
    rfl
theorem sm_le' {f : Nat → Nat} {c : Nat} : ∀ n, (∀ i, i < n → f i ≤ c) → sm f n ≤ n * c
  | 0, _ => by simp [sm]
  | n + 1, h => by
    have h1 := sm_le' n (fun i hi => h i (by omega))
    have h2 := h n (by omega)
    simp only [sm]
    rw [Nat.succ_mul]
    omega
theorem x_crossWith {d d2 R R2 k k2 A A2 T T2 : Nat} {bg bg2 : Nat → Nat} {σ : SS} (hd : d = 116 ∨ d = 122) (hd2 : d2 = 116 ∨ d2 = 122) (h : DrX d R k bg A T σ) (h2 : DrX d2 R2 k2 bg2 A2 T2 σ) (hA : A ≤ 60) (hA2 : A2 ≤ 60) (hb : ∀ i, bg i < 60) (hb2 : ∀ i, bg2 i < 60) (hs : sd k = sd k2) :
    f_X0_crossingsWith d d2 σ = some (nI (sm (fun i => cb bg A (bg2 i) (bg2 (i + 1))) A2)) := by
  unfold f_X0_crossingsWith
  have := loop_fix (fun fu i => f_X0_crossingsWith_L4 σ (fun y2 => some y2) fu d d2 (nI (sm (fun i => cb bg A (bg2 i) (bg2 (i + 1))) i)) (nI i)) (some (nI (sm (fun i => cb bg A (bg2 i) (bg2 (i + 1))) A2))) A2
    (fun fu => by
      simp only [f_X0_crossingsWith_L4]
      rw [h2.2.2.1, if_pos ((le_nI (by omega) (by omega)).mpr (Nat.le_refl _))])
    (fun fu i hi => by
      simp only [f_X0_crossingsWith_L4]
      rw [h2.2.2.1, if_neg (show ¬ nI A2 ≤ nI i by rw [le_nI (by omega) (by omega)]; omega), x_crossed hd hd2 h h2 hA hA2 hb hb2 hs hi, Option.bind_some, nI_add, ol_add]
      rfl)
    (fu := FU) (i := 0) (by omega) (FU_big (by omega))
  exact this
theorem x_crossWith_no {d d2 R R2 k k2 A A2 T T2 : Nat} {bg bg2 : Nat → Nat} {σ : SS} (h : DrX d R k bg A T σ) (h2 : DrX d2 R2 k2 bg2 A2 T2 σ) (hA2 : A2 ≤ 60) (hs : ¬ sd k = sd k2) :
    f_X0_crossingsWith d d2 σ = some 0 := by
  unfold f_X0_crossingsWith
  have := loop_fix (fun fu i => f_X0_crossingsWith_L4 σ (fun y2 => some y2) fu d d2 0 (nI i)) (some 0) A2
    (fun fu => by
      simp only [f_X0_crossingsWith_L4]
      rw [h2.2.2.1, if_pos ((le_nI (by omega) (by omega)).mpr (Nat.le_refl _))])
    (fun fu i hi => by
      simp only [f_X0_crossingsWith_L4]
      rw [h2.2.2.1, if_neg (show ¬ nI A2 ≤ nI i by rw [le_nI (by omega) (by omega)]; omega), x_crossed_no h h2 hs, Option.bind_some, ol_add]
      rfl)
    (fu := FU) (i := 0) (by omega) (FU_big (by omega))
  exact this
theorem x_both {ρ : RG} {σ : SS} {w v A T A2 T2 : Nat} (h : X1 ρ σ) (hw : WR ρ) (hi : w < rN ρ) (hi2 : v < rN ρ) (hD : IsD (rT ρ) (bgW ρ w) A T) (hD2 : IsD (rT ρ) (bgW ρ v) A2 T2) :
    ∃ σ', f_X8_tracesBoth 0 (nI w) (nI v) σ = some (1, σ') ∧ DrX 116 (rT ρ) (rK ρ w 0) (bgW ρ w) A T σ' ∧ DrX 122 (rT ρ) (rK ρ v 0) (bgW ρ v) A2 T2 σ' ∧ FX σ σ' := by
  have hN := hw.2.2.1
  obtain ⟨s1, f1, f2, f3, f4⟩ := x_traceW (Or.inl rfl) h hw hi hD
  have hX : X1 ρ s1 := X1.of hN h (fun q j _ _ => f3 q j (by omega))
  obtain ⟨s2, g1, g2, g3, g4⟩ := x_traceW (Or.inr rfl) hX hw hi2 hD2
  refine ⟨s2, ?_, f2.of (fun q j _ _ => g3 q j (by omega)) (fun j => g4 _ j (by omega)), g2, fun q j hq => ?_⟩
  · unfold f_X8_tracesBoth
    simp only [RD, x_wheel h.2.1 hN hi, x_wheel h.2.1 hN hi2, Option.bind_some, f1, g1]
  · unfold SX at hq
    rw [g3 q j (by omega), f3 q j (by omega)]
theorem x_both_bad {ρ : RG} {σ : SS} {c1 c2 : Int32} (h : X1 ρ σ) (hw : WR ρ) (hb : bad c1 (rN ρ) ∨ bad c2 (rN ρ)) : f_X8_tracesBoth 0 c1 c2 σ = some (0, σ) := by
  have hN := hw.2.2.1
  obtain ⟨o1, e1⟩ := x_wheelE c1 h.2.1 hN
  obtain ⟨o2, e2⟩ := x_wheelE c2 h.2.1 hN
  unfold f_X8_tracesBoth
  rcases hb with hb | hb
  · simp only [RD, x_wheel_bad h.2.1 hb, e2, Option.bind_some]
  · simp only [RD, x_wheel_bad h.2.1 hb, e1, Option.bind_some]
    cases o1 <;> rfl
theorem m_laysD {σ : SS} {R A T : Nat} {bg : Nat → Nat} (hA : A ≤ 60) (h : DrM R bg A T σ) : ∃ σ', f_X9_lays 143 σ = some σ' ∧ σ'.1 143 27 = nI A ∧ (∀ i, i < A → σ'.1 162 i = nI (bg i) ∧ σ'.1 163 i = nI (bg (i + 1))) ∧ ∀ q j, ¬ (q = 143 ∧ j = 27) → ¬ q = 162 → ¬ q = 163 → σ'.1 q j = σ.1 q j := by
  obtain ⟨s, ⟨h1, h2⟩, e⟩ := loop_eq (fun fu i (s : SS) => f_X9_lays_L2 (fun (p0 : Nat) (τ : SS) => some (sI τ p0 27 (τ.1 p0 23))) fu 143 (nI i) s) (fun s => some (sI s 143 27 (s.1 143 23))) A (fun i s => (∀ j, j < i → s.1 162 j = nI (bg j) ∧ s.1 163 j = nI (bg (j + 1))) ∧ ∀ q j, ¬ q = 162 → ¬ q = 163 → s.1 q j = σ.1 q j)
    (fun fu s hI => by
      simp only [f_X9_lays_L2]
      rw [hI.2 _ _ (by omega) (by omega), h.1, if_pos ((le_nI (by omega) (by omega)).mpr (Nat.le_refl _))])
    (fun fu i s hi hI => by
      have e1 : s.1 159 i = nI (bg i) := (hI.2 _ _ (by omega) (by omega)).trans (h.2.2.1 i hi).1
      have e2 : s.1 160 i = nI (bg (i + 1)) := (hI.2 _ _ (by omega) (by omega)).trans (h.2.2.1 i hi).2
      refine ⟨sI (sI s 162 i (nI (bg i))) 163 i (nI (bg (i + 1))), ⟨fun j hj => ?_, fun q j hq hq2 => ?_⟩, ?_⟩
      · by_cases e : j = i
        · subst e
          exact ⟨by rw [rI_q (by omega), rI_s], rI_s⟩
        · exact ⟨by rw [rI_q (by omega), rI_j e]; exact (hI.1 j (by omega)).1, by rw [rI_j e, rI_q (by omega)]; exact (hI.1 j (by omega)).2⟩
      · rw [rI_q hq2, rI_q hq]; exact hI.2 q j hq hq2
      · simp (disch := omega) only [f_X9_lays_L2, RM, LN, cl_nI, ck_i, e1, e2, rI_q, ol_add]
        rw [hI.2 _ _ (by omega) (by omega), h.1, if_neg (show ¬ nI A ≤ nI i by rw [le_nI (by omega) (by omega)]; omega)])
    (fu := FU) (i := 0) (s := σ) (by omega) (FU_big (by omega)) ⟨fun j hj => by omega, fun _ _ _ _ => rfl⟩
  refine ⟨sI s 143 27 (s.1 143 23), e, ?_, fun i hi => ⟨by rw [rI_q (by omega)]; exact (h1 i hi).1, by rw [rI_q (by omega)]; exact (h1 i hi).2⟩, fun q j hq hq2 hq3 => by rw [rI_i, if_neg hq]; exact h2 q j hq2 hq3⟩
  rw [rI_s, h2 _ _ (by omega) (by omega), h.1]
theorem m_betw76 {σ : SS} {R A T A2 i s : Nat} {bg bg2 : Nat → Nat} {κ : Nat → Int32 → Int32 → SS → Option (Int32 × SS)} (hA : A ≤ 60) (hA2 : A2 ≤ 60) (hb : ∀ i, bg i < 60) (hb2 : ∀ i, bg2 i < 60) (h : DrM R bg A T σ) (e27 : σ.1 143 27 = nI A2) (hr : ∀ i, i < A2 → σ.1 162 i = nI (bg2 i) ∧ σ.1 163 i = nI (bg2 (i + 1))) (hi : i < A) :
    f_X9_between_L76 κ FU 143 (nI s) (nI i) 0 σ = κ 143 (nI (s + cb bg2 A2 (bg i) (bg (i + 1)))) (nI i) σ := by
  have c1 := hb i
  have c2 := hb (i + 1)
  have := loop_fix (fun fu j => f_X9_between_L76 κ fu 143 (nI (s + cb bg2 j (bg i) (bg (i + 1)))) (nI i) (nI j) σ) (κ 143 (nI (s + cb bg2 A2 (bg i) (bg (i + 1)))) (nI i) σ) A2
    (fun fu => by
      simp only [f_X9_between_L76]
      rw [e27, if_pos ((le_nI (by omega) (by omega)).mpr (Nat.le_refl _))])
    (fun fu j hj => by
      have b1 := hb2 j
      have b2 := hb2 (j + 1)
      simp (disch := omega) only [f_X9_between_L76, RM, LN, cl_nI, ck_i, e27, (h.2.2.1 i hi).1, (h.2.2.1 i hi).2, (hr j hj).1, (hr j hj).2, m_cross, ol_add]
      rw [if_neg (show ¬ nI A2 ≤ nI j by rw [le_nI (by omega) (by omega)]; omega)]
      by_cases e : crP (bg2 j) (bg2 (j + 1)) (bg i) (bg (i + 1)) = true
      · rw [if_pos e, if_neg one0, show cb bg2 (j + 1) (bg i) (bg (i + 1)) = cb bg2 j (bg i) (bg (i + 1)) + 1 from cnt_yes e]
        rfl
      · rw [if_neg e, if_pos rfl, show cb bg2 (j + 1) (bg i) (bg (i + 1)) = cb bg2 j (bg i) (bg (i + 1)) from cnt_no e])
    (fu := FU) (i := 0) (by omega) (FU_big (by omega))
  exact this
theorem m_betw64 {σ : SS} {R A T A2 : Nat} {bg bg2 : Nat → Nat} (hA : A ≤ 60) (hA2 : A2 ≤ 60) (hb : ∀ i, bg i < 60) (hb2 : ∀ i, bg2 i < 60) (h : DrM R bg A T σ) (e27 : σ.1 143 27 = nI A2) (hr : ∀ i, i < A2 → σ.1 162 i = nI (bg2 i) ∧ σ.1 163 i = nI (bg2 (i + 1))) :
    f_X9_between_L64 (fun (y3 : Int32) (τ : SS) => some (y3, τ)) FU 143 0 0 σ = some (nI (sm (fun i => cb bg2 A2 (bg i) (bg (i + 1))) A), σ) := by
  have := loop_fix (fun fu i => f_X9_between_L64 (fun (y3 : Int32) (τ : SS) => some (y3, τ)) fu 143 (nI (sm (fun i => cb bg2 A2 (bg i) (bg (i + 1))) i)) (nI i) σ) (some (nI (sm (fun i => cb bg2 A2 (bg i) (bg (i + 1))) A), σ)) A
    (fun fu => by
      simp only [f_X9_between_L64]
      rw [h.1, if_pos ((le_nI (by omega) (by omega)).mpr (Nat.le_refl _))])
    (fun fu i hi => by
      simp only [f_X9_between_L64]
      rw [h.1, if_neg (show ¬ nI A ≤ nI i by rw [le_nI (by omega) (by omega)]; omega), m_betw76 hA hA2 hb hb2 h e27 hr hi, ol_add]
      rfl)
    (fu := FU) (i := 0) (by omega) (FU_big (by omega))
  exact this
theorem pc_between_ok : pc_between Rel := by
  rintro σ c1 c2 ⟨A, hx, hm, hw⟩
  have hR := hw.1.2.1
  have hN := hw.1.2.2.1
  have hbad : bad c1 (rN A.1) ∨ bad c2 (rN A.1) → ∃ (r : Int32) (σ1 σ2 : SS), f_X8_between 0 c1 c2 σ = some (r, σ1) ∧ f_X9_between 143 c1 c2 σ1 = some (r, σ2) ∧ Rel σ2 := fun hb => by
    refine both_ref (-1) 1 hx hm hw (fun τ h => ?_) (fun τ h => ?_)
    · unfold f_X8_between
      simp only [x_both_bad h.1 hw.1 hb, if_true, x_ref, Option.bind_some]
    · unfold f_X9_between
      rcases ix_cases c1 (n := rN A.1) (by omega) with hb1 | ⟨w, hi, rfl⟩
      · simp only [m_wheel_bad h.1.2.1 hN hb1, m_ref, Option.bind_some, if_true]
      · rcases hb with hb | hb
        · exact absurd rfl (hb.ne hi (by omega))
        · simp only [m_wheel h.1.2.1 hN hi, if_neg one0, m_wheel_bad h.1.2.1 hN hb, m_ref, Option.bind_some, if_true]
  rcases ix_cases c1 (n := rN A.1) (by omega) with hb | ⟨w, hi, rfl⟩
  · exact hbad (Or.inl hb)
  rcases ix_cases c2 (n := rN A.1) (by omega) with hb | ⟨v, hi2, rfl⟩
  · exact hbad (Or.inr hb)
  obtain ⟨a, T, hD⟩ := bgW_D hw.1 hi
  obtain ⟨a2, T2, hD2⟩ := bgW_D hw.1 hi2
  have ha := hD.2.1
  have ha2 := hD2.2.1
  have hbl : ∀ i, bgW A.1 w i < 60 := fun i => by have := hD.2.2.2.2.2 i; omega
  have hbl2 : ∀ i, bgW A.1 v i < 60 := fun i => by have := hD2.2.2.2.2.2 i; omega
  have k1 := (hw.1.2.2.2.2.2 w hi).1
  have k2 := (hw.1.2.2.2.2.2 v hi2).1
  have b : ∀ k, sd k ≤ 1 := fun k => by unfold sd; (repeat' split) <;> omega
  have b1 := b (rK A.1 w 0)
  have b2 := b (rK A.1 v 0)
  by_cases hs : sd (rK A.1 w 0) = sd (rK A.1 v 0)
  · refine both_same (nI (sm (fun i => cb (bgW A.1 w) a (bgW A.1 v i) (bgW A.1 v (i + 1))) a2)) hx hm hw (fun τ h => ?_) (fun τ h => ?_)
    · obtain ⟨τ', f1, f2, f3, f4⟩ := x_both h.1 hw.1 hi hi2 hD hD2
      refine ⟨τ', ?_, f4⟩
      unfold f_X8_between
      simp only [RD, f1, Option.bind_some, if_neg one0, x_crossWith (Or.inl rfl) (Or.inr rfl) f2 f3 (by omega) (by omega) hbl hbl2 hs]
    · obtain ⟨s1, f1, f2, f3, f4⟩ := m_drawsW h.1 hw.1 hi2 hD2
      obtain ⟨s2, g1, g2, g3, g4⟩ := m_laysD (by omega) f2
      have hM : M1 A.1 s2 := h.1.of hN (by rw [g4 _ _ (by omega) (by omega) (by omega), f3 _ _ (by omega) (by omega)]) (by rw [g4 _ _ (by omega) (by omega) (by omega), f3 _ _ (by omega) (by omega)]) (fun q j _ _ => by rw [g4 _ _ (by omega) (by omega) (by omega), f3 _ _ (by omega) (by omega)])
      obtain ⟨s3, k1', k2', k3, k4⟩ := m_drawsW hM hw.1 hi hD
      refine ⟨s3, ?_, fun q j hq => by unfold SM at hq; rw [k3 _ _ (by omega) (by omega), g4 _ _ (by omega) (by omega) (by omega), f3 _ _ (by omega) (by omega)]⟩
      have e0 : τ.1 146 w = nI (rK A.1 w 0) := h.1.2.2.2.2 w hi 0 (by omega)
      have e1 : τ.1 146 v = nI (rK A.1 v 0) := h.1.2.2.2.2 v hi2 0 (by omega)
      have e2 := m_betw64 (A := a) (A2 := a2) (by omega) (by omega) hbl hbl2 k2' ((k3 _ _ (by omega) (by omega)).trans g2) (fun i hi => ⟨(k3 _ _ (by omega) (by omega)).trans (g3 i hi).1, (k3 _ _ (by omega) (by omega)).trans (g3 i hi).2⟩)
      have e3 : sm (fun i => cb (bgW A.1 v) a2 (bgW A.1 w i) (bgW A.1 w (i + 1))) a = sm (fun i => cb (bgW A.1 w) a (bgW A.1 v i) (bgW A.1 v (i + 1))) a2 := by
        unfold cb
        rw [sm_swap (fun k i => crP (bgW A.1 v k) (bgW A.1 v (k + 1)) (bgW A.1 w i) (bgW A.1 w (i + 1)))]
        refine sm_congr _ (fun i _ => cnt_congr _ (fun k _ => crP_sym _ _ _ _))
      rw [e3] at e2
      unfold f_X9_between
      simp (disch := omega) only [m_wheel h.1.2.1 hN hi, m_wheel h.1.2.1 hN hi2, if_neg one0, RM, LN, cl_nI, ck_i, e0, e1, m_side, f1, g1, k1', Option.bind_some]
      rw [if_pos (by rw [hs])]
      exact e2
  · refine both_same 0 hx hm hw (fun τ h => ?_) (fun τ h => ⟨τ, ?_, fun _ _ _ => rfl⟩)
    · obtain ⟨τ', f1, f2, f3, f4⟩ := x_both h.1 hw.1 hi hi2 hD hD2
      refine ⟨τ', ?_, f4⟩
      unfold f_X8_between
      simp only [RD, f1, Option.bind_some, if_neg one0, x_crossWith_no f2 f3 (by omega) hs]
    · have e0 : τ.1 146 w = nI (rK A.1 w 0) := h.1.2.2.2.2 w hi 0 (by omega)
      have e1 : τ.1 146 v = nI (rK A.1 v 0) := h.1.2.2.2.2 v hi2 0 (by omega)
      unfold f_X9_between
      simp (disch := omega) only [m_wheel h.1.2.1 hN hi, m_wheel h.1.2.1 hN hi2, if_neg one0, RM, LN, cl_nI, ck_i, e0, e1, m_side]
      rw [if_neg (by rw [eq_nI (by omega) (by omega)]; exact hs)]
