/-! crowd -/
def tyF (te : Nat → Nat) (n t : Nat) : Nat := cnt (fun i => decide (te i = t)) n
theorem tyF_le (te : Nat → Nat) (n t : Nat) : tyF te n t ≤ n := cnt_le _ _
theorem tyF_s (te : Nat → Nat) (n t : Nat) : tyF te (n + 1) t = if t = te n then tyF te n t + 1 else tyF te n t := by
  unfold tyF
  by_cases h : te n = t
  · rw [cnt_yes (p := fun i => decide (te i = t)) (decide_eq_true h), if_pos h.symm]
  · rw [cnt_no (p := fun i => decide (te i = t)) (fun z => h (of_decide_eq_true z)), if_neg (fun z => h z.symm)]
theorem x_tally {σ : SS} {te : Nat → Nat} {n F : Nat} (hn : n ≤ 100) (hF : n ≤ F) (hF2 : F ≤ 100) (h6 : σ.1 128 6 = nI F) (hz : ∀ t, t < 60 → σ.1 134 t = 0) (ht : ∀ i, i < n → σ.1 132 i = nI (te i) ∧ te i < 60) :
    ∃ σ', f_X6_tallyFirst 128 (nI n) σ = some σ' ∧ (∀ t, t < 60 → σ'.1 134 t = nI (tyF te n t)) ∧ ∀ q j, ¬ q = 134 → σ'.1 q j = σ.1 q j := by
  unfold f_X6_tallyFirst
  obtain ⟨σ', ⟨h1, h2⟩, e⟩ := loop_eq (fun fu i (τ : SS) => f_X6_tallyFirst_L2 (fun (τ : SS) => some τ) fu 128 (nI n) (nI i) τ) (fun τ => some τ) n (fun i τ => (∀ t, t < 60 → τ.1 134 t = nI (tyF te i t)) ∧ ∀ q j, ¬ q = 134 → τ.1 q j = σ.1 q j)
    (fun fu τ hI => by
      simp only [f_X6_tallyFirst_L2]
      rw [if_pos ((le_nI (by omega) (by omega)).mpr (Nat.le_refl _))])
    (fun fu i τ hi hI => by
      obtain ⟨i1, i2⟩ := hI
      obtain ⟨p1, p2⟩ := ht i hi
      have e1 : τ.1 132 i = nI (te i) := (i2 _ _ (by omega)).trans p1
      refine ⟨sI τ 134 (te i) (nI (tyF te i (te i) + 1)), ⟨fun t ht => ?_, fun q j hq => (rI_q hq).trans (i2 q j hq)⟩, ?_⟩
      · rw [tyF_s]
        by_cases e : t = te i
        · rw [if_pos e, e, rI_s]
        · rw [if_neg e, rI_j e]
          exact i1 t ht
      · simp (disch := omega) only [f_X6_tallyFirst_L2, RD, LN, cl_nI, ck_i, e1, i1, ol_add]
        rw [if_neg (show ¬ nI n ≤ nI i by rw [le_nI (by omega) (by omega)]; omega), i2 _ _ (by omega), h6, if_neg (show ¬ nI F ≤ nI i by rw [le_nI (by omega) (by omega)]; omega)])
    (fu := FU) (i := 0) (s := σ) (by omega) (FU_big (by omega)) ⟨fun t ht => hz t ht, fun _ _ _ => rfl⟩
  exact ⟨σ', e, h1, h2⟩
theorem m_crowd63 {R : Nat} {σ : SS} {x1 x3 : Int32} {κ : Nat → Int32 → Int32 → SS → Option (Int32 × SS)} (h : σ.1 143 0 = nI R) (hR : R ≤ 60) :
    ∃ σ', f_X9_crowd_L63 κ FU 143 x1 x3 0 σ = κ 143 x1 x3 σ' ∧ (∀ t, t < R → σ'.1 172 t = 0) ∧ ∀ q j, ¬ q = 172 → σ'.1 q j = σ.1 q j := by
  obtain ⟨s', ⟨h1, h2⟩, e⟩ := loop_eq (fun fu i (s : SS) => f_X9_crowd_L63 κ fu 143 x1 x3 (nI i) s) (fun s => κ 143 x1 x3 s) R (fun i s => (∀ t, t < i → s.1 172 t = 0) ∧ ∀ q j, ¬ q = 172 → s.1 q j = σ.1 q j)
    (fun fu s hI => by
      simp only [f_X9_crowd_L63]
      rw [hI.2 _ _ (by omega), h, if_pos ((le_nI (by omega) (by omega)).mpr (Nat.le_refl _))])
    (fun fu i s hi hI => by
      refine ⟨sI s 172 i 0, ⟨fun t ht => ?_, fun q j hq => (rI_q hq).trans (hI.2 q j hq)⟩, ?_⟩
      · by_cases e : t = i
        · rw [e, rI_s]
        · rw [rI_j e]; exact hI.1 t (by omega)
      · simp (disch := omega) only [f_X9_crowd_L63, RM, LN, cl_nI, ck_i, ol_add]
        rw [hI.2 _ _ (by omega), h, if_neg (show ¬ nI R ≤ nI i by rw [le_nI (by omega) (by omega)]; omega)])
    (fu := FU) (i := 0) (s := σ) (by omega) (FU_big (by omega)) ⟨fun t ht => by omega, fun _ _ _ => rfl⟩
  exact ⟨s', e, h1, h2⟩
theorem m_crowd89 {R n : Nat} {σ : SS} {x3 : Int32} {te : Nat → Nat} {κ : Nat → Int32 → Int32 → SS → Option (Int32 × SS)} (hR : R ≤ 60) (hn : n ≤ 100) (hz : ∀ t, t < R → σ.1 172 t = 0) (ht : ∀ i, i < n → σ.1 168 i = nI (te i) ∧ te i < R) :
    ∃ σ', f_X9_crowd_L89 κ FU 143 (nI n) x3 0 σ = κ 143 (nI n) x3 σ' ∧ (∀ t, t < R → σ'.1 172 t = nI (tyF te n t)) ∧ ∀ q j, ¬ q = 172 → σ'.1 q j = σ.1 q j := by
  obtain ⟨σ', ⟨h1, h2⟩, e⟩ := loop_eq (fun fu i (τ : SS) => f_X9_crowd_L89 κ fu 143 (nI n) x3 (nI i) τ) (fun τ => κ 143 (nI n) x3 τ) n (fun i τ => (∀ t, t < R → τ.1 172 t = nI (tyF te i t)) ∧ ∀ q j, ¬ q = 172 → τ.1 q j = σ.1 q j)
    (fun fu τ hI => by
      simp only [f_X9_crowd_L89]
      rw [if_pos ((le_nI (by omega) (by omega)).mpr (Nat.le_refl _))])
    (fun fu i τ hi hI => by
      obtain ⟨i1, i2⟩ := hI
      obtain ⟨p1, p2⟩ := ht i hi
      have e1 : τ.1 168 i = nI (te i) := (i2 _ _ (by omega)).trans p1
      refine ⟨sI τ 172 (te i) (nI (tyF te i (te i) + 1)), ⟨fun t ht => ?_, fun q j hq => (rI_q hq).trans (i2 q j hq)⟩, ?_⟩
      · rw [tyF_s]
        by_cases e : t = te i
        · rw [if_pos e, e, rI_s]
        · rw [if_neg e, rI_j e]
          exact i1 t ht
      · simp (disch := omega) only [f_X9_crowd_L89, RM, LN, cl_nI, ck_i, e1, i1, ol_add]
        rw [if_neg (show ¬ nI n ≤ nI i by rw [le_nI (by omega) (by omega)]; omega)])
    (fu := FU) (i := 0) (s := σ) (by omega) (FU_big (by omega)) ⟨fun t ht => hz t ht, fun _ _ _ => rfl⟩
  exact ⟨σ', e, h1, h2⟩
theorem m_crowd126 {R : Nat} {σ : SS} {x2 x3 : Int32} {f : Nat → Nat} {κ : Nat → Int32 → Int32 → Int32 → Int32 → SS → Option (Int32 × SS)} (h : σ.1 143 0 = nI R) (hR1 : 1 ≤ R) (hR : R ≤ 60) (hf : ∀ t, t < R → σ.1 172 t = nI (f t)) (hb : ∀ t, f t ≤ 100000) :
    f_X9_crowd_L126 κ FU 143 x2 x3 0 0 0 σ = κ 143 x2 x3 (nI (bestF f R)) (nI (cnt (fun t => decide (f t = 1)) R)) σ := by
  have := loop_fix (fun fu i => f_X9_crowd_L126 κ fu 143 x2 x3 (nI (bestF f i)) (nI (cnt (fun t => decide (f t = 1)) i)) (nI i) σ) (κ 143 x2 x3 (nI (bestF f R)) (nI (cnt (fun t => decide (f t = 1)) R)) σ) R
    (fun fu => by
      simp only [f_X9_crowd_L126]
      rw [h, if_pos ((le_nI (by omega) (by omega)).mpr (Nat.le_refl _))])
    (fun fu i hi => by
      have hbi := hb i
      have hbb : bestF f i < R := by
        rcases Nat.eq_zero_or_pos i with e | e
        · rw [e]; exact hR1
        · have := bestF_lt f i e; omega
      have hb2 := hb (bestF f i)
      simp (disch := omega) only [f_X9_crowd_L126, RM, LN, cl_nI, ck_i, hf i hi, hf _ hbb, ol_add, h, jn1]
      rw [if_neg (show ¬ nI R ≤ nI i by rw [le_nI (by omega) (by omega)]; omega)]
      have eb : (if nI (f i) ≤ nI (f (bestF f i)) then nI (bestF f i) else nI i) = nI (bestF f (i + 1)) := by
        by_cases e : f i ≤ f (bestF f i)
        · rw [if_pos ((le_nI (by omega) (by omega)).mpr e), show bestF f (i + 1) = bestF f i from if_neg (by omega)]
        · rw [if_neg (fun z => e ((le_nI (by omega) (by omega)).mp z)), show bestF f (i + 1) = i from if_pos (by omega)]
      by_cases q : f i = 1
      · rw [cnt_yes (p := fun t => decide (f t = 1)) (decide_eq_true q), ← eb]
        have q' : nI (f i) = 1 := congrArg nI q
        simp only [if_pos q']
        split <;> rfl
      · rw [cnt_no (p := fun t => decide (f t = 1)) (fun z => q (of_decide_eq_true z)), ← eb]
        have q' : ¬ nI (f i) = 1 := by rw [eq_nI1 (by omega)]; exact q
        simp only [if_neg q']
        split <;> rfl)
    (fu := FU) (i := 0) (by omega) (FU_big (by omega))
  exact this
theorem pc_crowd_ok : pc_crowd Rel := by
  rintro σ c1 c2 c3 ⟨A, hx, hm, hw⟩
  have hR := hw.1.2.1
  have hR3 := hw.1.1
  have hN := hw.1.2.2.1
  obtain ⟨w1, w2, w3, w4, w5, w6, w7, w8, w9, w10, w11, w12, w13⟩ := w012
  rcases set_cases c1 (rN A.1) hN with hb | ⟨s, hs1, hs2, rfl⟩
  · refine both_ref (-1) 1 hx hm hw (fun τ h => ?_) (fun τ h => ?_)
    · unfold f_X8_crowd
      simp only [RD, x_set_bad h.1.2.1 hN hb, if_true, x_ref, Option.bind_some]
    · unfold f_X9_crowd
      simp only [m_set_bad h.1.2.1 hN hb, if_true, m_ref, Option.bind_some]
  by_cases t1 : 0 ≤ c2
  case neg =>
    refine both_ref (-4) 4 hx hm hw (fun τ h => ?_) (fun τ h => ?_)
    · unfold f_X8_crowd
      simp only [RD, x_set h.1.2.1 hN hs1 hs2, if_neg one0, if_neg t1, x_ref, Option.bind_some]
    · unfold f_X9_crowd
      simp only [m_set h.1.2.1 hN hs1 hs2, if_neg one0, if_neg t1, m_ref, Option.bind_some]
  rcases ix_cases c2 (n := 101) (by omega) with (q | q) | ⟨n, hn, rfl⟩
  · exact absurd t1 (Int32.not_le.mpr q)
  · have t3 : ¬ c2 ≤ 100 := (big_i q (show 100 < 101 by omega) (by omega)).2.1
    refine both_ref (-6) 6 hx hm hw (fun τ h => ?_) (fun τ h => ?_)
    · unfold f_X8_crowd
      simp only [RD, x_set h.1.2.1 hN hs1 hs2, if_neg one0, if_pos t1, if_neg t3, x_ref, Option.bind_some]
    · unfold f_X9_crowd
      simp only [m_set h.1.2.1 hN hs1 hs2, if_neg one0, if_pos t1, if_neg t3, m_ref, Option.bind_some]
  have t3 : nI n ≤ 100 := by rw [fa_lit 100, le_nI (by omega) (by omega)]; omega
  rcases what3 c3 with hc | ⟨hc1, hc2⟩
  case inr =>
    refine both_ref (-2) 2 hx hm hw (fun τ h => ?_) (fun τ h => ?_)
    · unfold f_X8_crowd
      simp only [RD, x_set h.1.2.1 hN hs1 hs2, if_neg one0, if_pos t1, if_pos t3]
      rcases hc2 with hc2 | ⟨hc2, hc3⟩
      · rw [if_pos hc2]
        simp only [x_ref, Option.bind_some]
      · rw [if_neg hc2, if_neg hc3]
        simp only [x_ref, Option.bind_some]
    · unfold f_X9_crowd
      simp only [m_set h.1.2.1 hN hs1 hs2, if_neg one0, if_pos t1, if_pos t3, hc1, if_true, m_ref, Option.bind_some]
  have hl : 100 ≤ (al A.1 s 900).length := al_len hw.1 hs1 hs2 100
  have hte : ∀ i, i < n → (eAt A.1 s i).2.1 < rT A.1 := fun i hi => eAt_lt hw.1 (by omega)
  have hx' : ∀ τ, XH A τ → ∃ τ1 τ', f_X6_follow 128 1 (nI s) (nI n) τ = some τ1 ∧ f_X6_tallyFirst 128 (nI n) τ1 = some τ' ∧ (∀ t, t < 60 → τ'.1 134 t = nI (tyF (fun i => (eAt A.1 s i).2.1) n t)) ∧ FX τ τ' ∧ τ'.1 1 0 = nI (rT A.1) := fun τ h => by
    obtain ⟨τ1, m, f1, f2, f3, f4, f5, f6⟩ := x_follow (n := n) h.1 hw.1 hs1 hs2 (by omega)
    obtain ⟨τ2, g1, g2, g3⟩ := x_tally (σ := τ1) (te := fun i => (eAt A.1 s i).2.1) (n := n) (F := min (al A.1 s m).length 100) (by omega) (by omega) (by omega) f4 f5 (fun i hi => ⟨(f3.get hl (by omega) (by omega) (by omega)).2.1, by have := hte i hi; omega⟩)
    refine ⟨τ1, τ2, f1, g1, g2, fun q j hq => ?_, ?_⟩
    · rw [g3 q j (by unfold SX at hq; omega)]
      exact f6 q j hq
    · rw [g3 _ _ (by omega), f6 _ _ (by unfold SX; omega)]
      exact h.1.1
  have hm' : ∀ τ, MH A τ → ∀ κ : Nat → Int32 → Int32 → Int32 → Int32 → SS → Option (Int32 × SS), ∃ τ', (f_X9_touches 143 (nI s) (nI n) τ).bind (fun z5 => f_X9_crowd_L63 (fun (p0 : Nat) (y2 : Int32) (y3 : Int32) (τ : SS) => f_X9_crowd_L89 (fun (p0 : Nat) (y2 : Int32) (y3 : Int32) (τ : SS) => f_X9_crowd_L126 κ FU p0 y2 y3 0 0 0 τ) FU p0 y2 y3 0 τ) FU 143 (nI n) c3 0 z5) = κ 143 (nI n) c3 (nI (bestF (tyF (fun i => (eAt A.1 s i).2.1) n) (rT A.1))) (nI (cnt (fun t => decide (tyF (fun i => (eAt A.1 s i).2.1) n t = 1)) (rT A.1))) τ' ∧ (∀ t, t < rT A.1 → τ'.1 172 t = nI (tyF (fun i => (eAt A.1 s i).2.1) n t)) ∧ FM τ τ' := fun τ h κ => by
    obtain ⟨s1, m, f1, f2, f3, f4⟩ := m_touches (n := n) h.1 hw.1 hs1 hs2 (by omega)
    have e0 : s1.1 143 0 = nI (rT A.1) := (f4 _ _ (by unfold SM; omega)).trans h.1.1
    obtain ⟨s2, g1, g2, g3⟩ := m_crowd63 (σ := s1) (x1 := nI n) (x3 := c3) (κ := fun (p0 : Nat) (y2 : Int32) (y3 : Int32) (τ : SS) => f_X9_crowd_L89 (fun (p0 : Nat) (y2 : Int32) (y3 : Int32) (τ : SS) => f_X9_crowd_L126 κ FU p0 y2 y3 0 0 0 τ) FU p0 y2 y3 0 τ) e0 hR
    obtain ⟨s3, k1, k2, k3⟩ := m_crowd89 (σ := s2) (R := rT A.1) (n := n) (x3 := c3) (te := fun i => (eAt A.1 s i).2.1) (κ := fun (p0 : Nat) (y2 : Int32) (y3 : Int32) (τ : SS) => f_X9_crowd_L126 κ FU p0 y2 y3 0 0 0 τ) hR (by omega) g2 (fun i hi => ⟨(g3 _ _ (by omega)).trans (f3.get hl hi (by omega) (by omega)).2.1, hte i hi⟩)
    have k4 := m_crowd126 (σ := s3) (R := rT A.1) (x2 := nI n) (x3 := c3) (f := tyF (fun i => (eAt A.1 s i).2.1) n) (κ := κ) (by rw [k3 _ _ (by omega), g3 _ _ (by omega)]; exact e0) (by omega) hR k2 (fun t => by have := tyF_le (fun i => (eAt A.1 s i).2.1) n t; omega)
    refine ⟨s3, ?_, k2, fun q j hq => ?_⟩
    · rw [f1, Option.bind_some, g1, k1, k4]
    · unfold SM at hq
      rw [k3 q j (by omega), g3 q j (by omega)]
      exact f4 q j (by unfold SM; omega)
  have hty : ∀ t, tyF (fun i => (eAt A.1 s i).2.1) n t ≤ 100000 := fun t => by have := tyF_le (fun i => (eAt A.1 s i).2.1) n t; omega
  have hbest := bestF_lt (tyF (fun i => (eAt A.1 s i).2.1) n) (rT A.1) (by omega)
  rcases hc with rfl | rfl | rfl
  · refine both_same (if nI n = 0 then -9 else nI (bestF (tyF (fun i => (eAt A.1 s i).2.1) n) (rT A.1))) hx hm hw (fun τ h => ?_) (fun τ h => ?_)
    · obtain ⟨τ1, τ', f1, f2, f3, f4, f5⟩ := hx' τ h
      refine ⟨τ', ?_, f4⟩
      have e1 := x_placeOfMost (q := 134) (n := rT A.1) (fun i hi => f3 i (by omega)) hty (by omega) (by simp only [LN]; omega) (by simp only [LN]; omega)
      unfold f_X8_crowd
      simp only [RD, x_set h.1.2.1 hN hs1 hs2, if_neg one0, if_pos t1, if_pos t3, w4, w7, w13, z1, if_false, if_true, f1, f2, f5, e1, Option.bind_some]
      split <;> rfl
    · obtain ⟨τ', f1, f2, f3⟩ := hm' τ h _
      refine ⟨τ', ?_, f3⟩
      unfold f_X9_crowd
      simp only [m_set h.1.2.1 hN hs1 hs2, if_neg one0, if_pos t1, if_pos t3, w1]
      refine f1.trans ?_
      rw [if_neg w13, if_neg z1]
      split <;> rfl
  · refine both_same (nI (tyF (fun i => (eAt A.1 s i).2.1) n (bestF (tyF (fun i => (eAt A.1 s i).2.1) n) (rT A.1)))) hx hm hw (fun τ h => ?_) (fun τ h => ?_)
    · obtain ⟨τ1, τ', f1, f2, f3, f4, f5⟩ := hx' τ h
      refine ⟨τ', ?_, f4⟩
      have e1 := x_placeOfMost (q := 134) (n := rT A.1) (fun i hi => f3 i (by omega)) hty (by omega) (by simp only [LN]; omega) (by simp only [LN]; omega)
      unfold f_X8_crowd
      simp (disch := omega) only [RD, LN, x_set h.1.2.1 hN hs1 hs2, if_neg one0, if_pos t1, if_pos t3, w5, w8, w12, if_false, if_true, f1, f2, f5, e1, Option.bind_some, cl_nI, ck_i, f3]
    · obtain ⟨τ', f1, f2, f3⟩ := hm' τ h _
      refine ⟨τ', ?_, f3⟩
      unfold f_X9_crowd
      simp only [m_set h.1.2.1 hN hs1 hs2, if_neg one0, if_pos t1, if_pos t3, w2]
      refine f1.trans ?_
      simp (disch := omega) only [w12, if_false, if_true, RM, LN, cl_nI, ck_i, f2]
  · refine both_same (nI (cnt (fun t => decide (tyF (fun i => (eAt A.1 s i).2.1) n t = 1)) (rT A.1))) hx hm hw (fun τ h => ?_) (fun τ h => ?_)
    · obtain ⟨τ1, τ', f1, f2, f3, f4, f5⟩ := hx' τ h
      refine ⟨τ', ?_, f4⟩
      have e1 := x_placesOf (q := 134) (n := rT A.1) (v := 1) (fun i hi => f3 i (by omega)) hty (by simp only [LN]; omega) (by simp only [LN]; omega) (by omega)
      unfold f_X8_crowd
      simp only [RD, x_set h.1.2.1 hN hs1 hs2, if_neg one0, if_pos t1, if_pos t3, w6, w9, if_false, if_true, f1, f2, f5, Option.bind_some]
      rw [show f_X2_placesOf 1 134 (nI (rT A.1)) τ' = _ from e1, Option.bind_some]
    · obtain ⟨τ', f1, f2, f3⟩ := hm' τ h _
      refine ⟨τ', ?_, f3⟩
      unfold f_X9_crowd
      simp only [m_set h.1.2.1 hN hs1 hs2, if_neg one0, if_pos t1, if_pos t3, w3]
      refine f1.trans ?_
      rw [if_pos rfl]
