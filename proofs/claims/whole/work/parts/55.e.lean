/-! meet, whole -/
theorem searchI {S β : Type} (g : Nat → Nat → S → β) (p : Nat → Bool) (I : Nat → S → Prop) (J : S → Prop) (n : Nat) (hit : Nat → S → β) (miss : S → β) (hm : ∀ fu s, I n s → J s ∧ g (fu + 1) n s = miss s)
    (hs : ∀ fu i s, i < n → I i s → ∃ s', J s' ∧ (p i = true → g (fu + 1) i s = hit i s') ∧ (¬ p i = true → I (i + 1) s' ∧ g (fu + 1) i s = g fu (i + 1) s')) :
    ∀ k i fu s, i + k = n → k < fu → I i s → ∃ s', J s' ∧ g fu i s = if fstF p i k < n then hit (fstF p i k) s' else miss s' := by
  intro k
  induction k with
  | zero =>
    intro i fu s hi hf hI
    obtain ⟨fu, rfl⟩ : ∃ z, fu = z + 1 := ⟨fu - 1, by omega⟩
    have : i = n := by omega
    subst this
    refine ⟨s, (hm fu s hI).1, ?_⟩
    rw [(hm fu s hI).2, show fstF p i 0 = i from rfl, if_neg (Nat.lt_irrefl _)]
  | succ k ih =>
    intro i fu s hi hf hI
    obtain ⟨fu, rfl⟩ : ∃ z, fu = z + 1 := ⟨fu - 1, by omega⟩
    obtain ⟨s', h1, h2, h3⟩ := hs fu i s (by omega) hI
    unfold fstF
    by_cases h : p i = true
    · refine ⟨s', h1, ?_⟩
      rw [h2 h, if_pos h, if_pos (by omega)]
    · obtain ⟨h4, h5⟩ := h3 h
      rw [h5, if_neg h]
      exact ih (i + 1) fu s' (by omega) (by omega) h4
/-- the least tooth at which two touch at a tick; R if there is none -/
def mvT (ρ : RG) (s i : Nat) : Nat := fstF (mtB (tc ρ s i) (psT ρ s i) (rN ρ)) 0 (rT ρ)
def mtV (ρ : RG) (s : Nat) (what : Int32) : Int32 := if fstF (fun i => decide (mvT ρ s i < rT ρ)) 1 200 < 201 then (if what = 0 then nI (fstF (fun i => decide (mvT ρ s i < rT ρ)) 1 200) else nI (mvT ρ s (fstF (fun i => decide (mvT ρ s i < rT ρ)) 1 200))) else -9
theorem pc_meet_ok : pc_meet Rel := by
  rintro σ c1 c2 ⟨A, hx, hm, hw⟩
  have hR := hw.1.2.1
  have hR3 := hw.1.1
  have hN := hw.1.2.2.1
  rcases set_cases c1 (rN A.1) hN with hb | ⟨s, hs1, hs2, rfl⟩
  · refine both_ref (-1) 1 hx hm hw (fun τ h => ?_) (fun τ h => ?_)
    · unfold f_X8_meet
      simp only [RD, x_set_bad h.1.2.1 hN hb, if_true, x_ref, Option.bind_some]
    · unfold f_X9_meet
      simp only [m_set_bad h.1.2.1 hN hb, if_true, m_ref, Option.bind_some]
  by_cases h2 : c2 = 0 ∨ c2 = 1
  case neg =>
    have h2 := (two_ok c2).2 h2
    refine both_ref (-2) 2 hx hm hw (fun τ h => ?_) (fun τ h => ?_)
    · unfold f_X8_meet
      simp only [RD, x_set h.1.2.1 hN hs1 hs2, if_neg one0, h2, if_true, x_ref, Option.bind_some]
    · unfold f_X9_meet
      simp only [m_set h.1.2.1 hN hs1 hs2, if_neg one0, h2, if_true, m_ref, Option.bind_some]
  have h3 := (two_ok c2).1 h2
  have hp0 : ∀ i, i < rN A.1 → rK A.1 i 4 < rT A.1 := fun i hi => (hw.1.2.2.2.2.2 i hi).2.2.2.2.2.2.1
  have hmv : ∀ i, mvT A.1 s i ≤ rT A.1 := fun i => by have := (fstF_le (mtB (tc A.1 s i) (psT A.1 s i) (rN A.1)) (rT A.1) 0).2; unfold mvT; omega
  refine both_same (mtV A.1 s c2) hx hm hw (fun τ h => ?_) (fun τ h => ?_)
  · obtain ⟨t0, f1, f2, f3, f4, f5⟩ := x_begin h.1 hN
    obtain ⟨t1, h1, e⟩ := searchI (fun fu i (t : SS) => f_X8_meet_L44 (fun (τ : SS) => some ((-9), τ)) fu 0 (nI s) c2 (nI i) t) (fun i => decide (mvT A.1 s i < rT A.1)) (fun i t => FX τ t ∧ 1 ≤ i ∧ ∀ w, w < rN A.1 → t.1 129 w = nI (psT A.1 s (i - 1) w) ∧ psT A.1 s (i - 1) w < rT A.1) (FX τ) 201 (fun i t => if c2 = 0 then some (nI i, t) else some (nI (mvT A.1 s i), t)) (fun t => some (-9, t))
      (fun fu t hI => ⟨hI.1, by
        simp only [f_X8_meet_L44]
        rw [if_pos (show (200 : Int32) < nI 201 by decide)]⟩)
      (fun fu i t hi hI => by
        obtain ⟨hI, hi1, hps⟩ := hI
        have hX : X1 A.1 t := X1.of hN h.1 (fun q j _ _ => hI q j (by unfold SX; omega))
        obtain ⟨t', g1, g2, g3, g4⟩ := x_pass (tick := i) hX hw.1 hs2 (by omega) hps
        have g2 : ∀ w, w < rN A.1 → t'.1 129 w = nI (psT A.1 s i w) ∧ psT A.1 s i w < rT A.1 := fun w hw' => by
          obtain ⟨i, rfl⟩ : ∃ z, i = z + 1 := ⟨i - 1, by omega⟩
          exact g2 w hw'
        obtain ⟨o, k1, k2⟩ := x_meetT (σ := t') (P := tc A.1 s i) (pos := psT A.1 s i) g3 (fun w hw' => ⟨(g2 w (tc_lt hw')).1, by have := (g2 w (tc_lt hw')).2; omega⟩)
        have k3 := meet_val hN (fun w hw' => tc_lt hw') (fun w hw' => (g2 w hw').2) k2
        have hF : FX τ t' := fun q j hq => (g4 q j (by unfold SX at hq; omega) (by unfold SX at hq; omega)).trans (hI q j hq)
        have hmvi := hmv i
        rw [k3] at k1
        refine ⟨t', hF, fun hp => ?_, fun hp => ⟨⟨hF, by omega, g2⟩, ?_⟩⟩
        · have hp := of_decide_eq_true hp
          simp only [f_X8_meet_L44, RD]
          rw [if_neg (show ¬ (200 : Int32) < nI i by rw [fa_lit 200, lt_nI (by omega) (by omega)]; omega), g1, Option.bind_some, k1, Option.bind_some]
          show (if (if mvT A.1 s i < rT A.1 then nI (mvT A.1 s i) else -9) = -9 then _ else if c2 = 0 then some (nI i, t') else some ((if mvT A.1 s i < rT A.1 then nI (mvT A.1 s i) else -9), t')) = _
          rw [if_pos hp, if_neg (ne_m9 (by omega))]
        · have hp : ¬ mvT A.1 s i < rT A.1 := fun z => hp (decide_eq_true z)
          simp only [f_X8_meet_L44, RD]
          rw [if_neg (show ¬ (200 : Int32) < nI i by rw [fa_lit 200, lt_nI (by omega) (by omega)]; omega), g1, Option.bind_some, k1, Option.bind_some]
          show (if (if mvT A.1 s i < rT A.1 then nI (mvT A.1 s i) else -9) = -9 then f_X8_meet_L44 (fun (τ : SS) => some ((-9), τ)) fu 0 (nI s) c2 (nI i + 1) t' else _) = _
          rw [if_neg hp, if_pos rfl, ol_add])
      200 1 FU t0 (by omega) (FU_big (by omega)) ⟨fun q j hq => f5 q j (by unfold SX at hq; omega) (by unfold SX at hq; omega) (by unfold SX at hq; omega), by omega, fun w hw' => ⟨f2 w hw', hp0 w hw'⟩⟩
    refine ⟨t1, ?_, h1⟩
    unfold f_X8_meet
    simp only [RD, x_set h.1.2.1 hN hs1 hs2, if_neg one0, h3, f1, Option.bind_some]
    refine e.trans ?_
    unfold mtV
    split
    · split <;> rfl
    · rfl
  · obtain ⟨t0, f1, f2, f3⟩ := m_starts h.1 hN
    obtain ⟨t1, h1, e⟩ := searchI (fun fu i (t : SS) => f_X9_meet_L36 (fun (τ : SS) => some ((-9), τ)) fu 143 (nI s) c2 (nI i) t) (fun i => decide (mvT A.1 s i < rT A.1)) (fun i t => FM τ t ∧ 1 ≤ i ∧ ∀ w, w < rN A.1 → t.1 170 w = nI (psT A.1 s (i - 1) w) ∧ psT A.1 s (i - 1) w < rT A.1) (FM τ) 201 (fun i t => if c2 = 0 then some (nI i, t) else some (nI (mvT A.1 s i), t)) (fun t => some (-9, t))
      (fun fu t hI => ⟨hI.1, by
        simp only [f_X9_meet_L36]
        rw [if_pos (show (200 : Int32) < nI 201 by decide)]⟩)
      (fun fu i t hi hI => by
        obtain ⟨hI, hi1, hps⟩ := hI
        have hX : M1 A.1 t := M1.of hN h.1 (hI _ _ (by unfold SM; omega)) (hI _ _ (by unfold SM; omega)) (fun q j _ _ => hI q j (by unfold SM; omega))
        obtain ⟨t', g1, g2, g3, g4⟩ := m_ticks (tick := i) hX hw.1 hs2 (by omega) hps
        have g2 : ∀ w, w < rN A.1 → t'.1 170 w = nI (psT A.1 s i w) ∧ psT A.1 s i w < rT A.1 := fun w hw' => by
          obtain ⟨i, rfl⟩ : ∃ z, i = z + 1 := ⟨i - 1, by omega⟩
          exact g2 w hw'
        have k1 := m_meet52 (σ := t') (P := tc A.1 s i) (pos := psT A.1 s i) (x1 := nI s) (x2 := c2) (x3 := nI i) (κ := fun (p0 : Nat) (y1 : Int32) (y2 : Int32) (y3 : Int32) (τ : SS) => f_X9_meet_L36 (fun (τ : SS) => some ((-9), τ)) fu p0 y1 y2 (y3 + 1) τ) ((g4 _ _ (by omega) (by omega)).trans hX.1) ((g4 _ _ (by omega) (by omega)).trans hX.2.1) hN hR g3 g2
        have hF : FM τ t' := fun q j hq => (g4 q j (by unfold SM at hq; omega) (by unfold SM at hq; omega)).trans (hI q j hq)
        refine ⟨t', hF, fun hp => ?_, fun hp => ⟨⟨hF, by omega, g2⟩, ?_⟩⟩
        · have hp := of_decide_eq_true hp
          simp only [f_X9_meet_L36]
          rw [if_neg (show ¬ (200 : Int32) < nI i by rw [fa_lit 200, lt_nI (by omega) (by omega)]; omega), g1, Option.bind_some, k1]
          exact if_pos hp
        · have hp : ¬ mvT A.1 s i < rT A.1 := fun z => hp (decide_eq_true z)
          simp only [f_X9_meet_L36]
          rw [if_neg (show ¬ (200 : Int32) < nI i by rw [fa_lit 200, lt_nI (by omega) (by omega)]; omega), g1, Option.bind_some, k1, ol_add]
          exact if_neg hp)
      200 1 FU t0 (by omega) (FU_big (by omega)) ⟨fun q j hq => f3 q j (by unfold SM at hq; omega), by omega, fun w hw' => ⟨f2 w hw', hp0 w hw'⟩⟩
    refine ⟨t1, ?_, h1⟩
    unfold f_X9_meet
    simp only [m_set h.1.2.1 hN hs1 hs2, if_neg one0, h3, f1, Option.bind_some]
    refine e.trans ?_
    unfold mtV
    split
    · split <;> rfl
    · rfl
