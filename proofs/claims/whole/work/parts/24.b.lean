/-! ratio, ahead, letter, list, put, look -/
theorem search {β : Type} (g : Nat → Nat → β) (p : Nat → Bool) (hit : Nat → β) (miss : β) (n : Nat) (hm : ∀ fu, g (fu + 1) n = miss) (hs : ∀ fu i, i < n → g (fu + 1) i = if p i then hit i else g fu (i + 1)) :
    ∀ k i fu, i + k = n → k < fu → g fu i = if fstF p i k < n then hit (fstF p i k) else miss := by
  intro k
  induction k with
  | zero =>
    intro i fu hi hf
    obtain ⟨fu, rfl⟩ : ∃ z, fu = z + 1 := ⟨fu - 1, by omega⟩
    have : i = n := by omega
    subst this
    rw [hm, show fstF p i 0 = i from rfl, if_neg (Nat.lt_irrefl _)]
  | succ k ih =>
    intro i fu hi hf
    obtain ⟨fu, rfl⟩ : ∃ z, fu = z + 1 := ⟨fu - 1, by omega⟩
    rw [hs fu i (by omega)]
    unfold fstF
    by_cases h : p i = true
    · rw [if_pos h, if_pos h, if_pos (by omega)]
    · rw [if_neg h, if_neg h]
      exact ih (i + 1) fu (by omega) (by omega)
theorem FAR : (4000000000000000000 : Int64) - (-1 : Int32).toInt64 = 4000000000000000001 ∧ (4000000000000000000 : Int64) - (-2 : Int32).toInt64 = 4000000000000000002 ∧ (4000000000000000000 : Int64) - (-3 : Int32).toInt64 = 4000000000000000003 ∧ (4000000000000000000 : Int64) - (-4 : Int32).toInt64 = 4000000000000000004 ∧ (4000000000000000000 : Int64) - (-6 : Int32).toInt64 = 4000000000000000006 ∧ (4000000000000000000 : Int64) - (-11 : Int32).toInt64 = 4000000000000000011 ∧ (4000000000000000000 : Int64) - (-13 : Int32).toInt64 = 4000000000000000013 := by decide +kernel
/-- refusals of longs -/
theorem x_refL (σ : SS) : f_X8_refuseLong 0 (-1) σ = some (4000000000000000001, sI σ 136 1 (σ.1 136 1 + 1)) ∧ f_X8_refuseLong 0 (-2) σ = some (4000000000000000002, sI σ 136 2 (σ.1 136 2 + 1)) ∧ f_X8_refuseLong 0 (-3) σ = some (4000000000000000003, sI σ 136 3 (σ.1 136 3 + 1)) ∧ f_X8_refuseLong 0 (-4) σ = some (4000000000000000004, sI σ 136 4 (σ.1 136 4 + 1)) ∧ f_X8_refuseLong 0 (-6) σ = some (4000000000000000006, sI σ 136 6 (σ.1 136 6 + 1)) ∧ f_X8_refuseLong 0 (-11) σ = some (4000000000000000011, σ) ∧ f_X8_refuseLong 0 (-13) σ = some (4000000000000000013, σ) := by
  refine ⟨?_, ?_, ?_, ?_, ?_, ?_, ?_⟩ <;> (unfold f_X8_refuseLong; simp only [x_ref, Option.bind_some, FAR])
theorem m_refL (σ : SS) : f_X9_noFar 143 (-1) σ = some (4000000000000000001, sI σ 158 1 (σ.1 158 1 + 1)) ∧ f_X9_noFar 143 (-2) σ = some (4000000000000000002, sI σ 158 2 (σ.1 158 2 + 1)) ∧ f_X9_noFar 143 (-3) σ = some (4000000000000000003, sI σ 158 3 (σ.1 158 3 + 1)) ∧ f_X9_noFar 143 (-4) σ = some (4000000000000000004, sI σ 158 4 (σ.1 158 4 + 1)) ∧ f_X9_noFar 143 (-6) σ = some (4000000000000000006, sI σ 158 6 (σ.1 158 6 + 1)) := by
  refine ⟨?_, ?_, ?_, ?_, ?_⟩ <;> (unfold f_X9_noFar; simp only [m_ref, Option.bind_some, FAR])
theorem one0 : ¬ (1 : Int32) = 0 := by decide
theorem ti_add {a b : Nat} (h : a + b ≤ 2000000) : (nI a + nI b).toInt = (a : Int) + b := by rw [nI_add, nI_toInt (by omega)]; omega
theorem ti_sub3 {a b c : Nat} (ha : a ≤ 100000) (hb : b ≤ 100000) (hc : c ≤ 100000) : (nI a - nI b - nI c).toInt = (a : Int) - b - c := by
  rw [Int32.toInt_sub, pk_sub_toInt (by omega) (by omega), nI_toInt (by omega), Int.bmod_eq_of_le (by omega) (by omega)]
theorem ti_neg {a : Nat} (ha : a ≤ 100000) : (-nI a).toInt = -(a : Int) := by
  rw [Int32.toInt_neg, nI_toInt (by omega), Int.bmod_eq_of_le (by omega) (by omega)]
theorem ti_m2 {a : Nat} (ha : a ≤ 100000) : ((-2) * nI a).toInt = -2 * (a : Int) := by
  rw [Int32.toInt_mul, nI_toInt (by omega), show (-2 : Int32).toInt = -2 from by decide, Int.bmod_eq_of_le (by omega) (by omega)]
/-- what stands above the line of TURNS -/
def up8 (R k W f : Nat) : Int32 := if k = 0 then nI R - nI W else if k = 1 then nI R + nI W else if k = 2 then nI R - nI W - nI f else if k = 3 then -(nI R + nI W) else if k = 4 then nI R - nI W - nI f else (-2) * (nI R + nI W)
theorem up8_abs {R k W f : Nat} (hR : R ≤ 60) (hW : W ≤ 60) (hf : f ≤ 9) : (up8 R k W f).toInt.natAbs ≤ 1000 := by
  unfold up8
  repeat' split
  · rw [pk_sub_toInt (by omega) (by omega)]; omega
  · rw [ti_add (by omega)]; omega
  · rw [ti_sub3 (by omega) (by omega) (by omega)]; omega
  · rw [nI_add, ti_neg (by omega)]; omega
  · rw [ti_sub3 (by omega) (by omega) (by omega)]; omega
  · rw [nI_add, ti_m2 (by omega)]; omega
theorem neg_sub {R W : Nat} (hR : R ≤ 60) (hW : W ≤ 60) : -nI R - nI W = -(nI R + nI W) := by
  apply Int32.toInt_inj.mp
  rw [Int32.toInt_sub, ti_neg (by omega), nI_add, ti_neg (by omega), nI_toInt (by omega), Int.bmod_eq_of_le (by omega) (by omega)]
  omega
theorem pc_ratio_ok : pc_ratio Rel := by
  rintro σ c1 c2 ⟨A, hx, hm, hw⟩
  have hR := hw.1.2.1
  have hN := hw.1.2.2.1
  rcases ix_cases c1 (n := rN A.1) (by omega) with hb | ⟨w, hi, rfl⟩
  · refine both_ref 4000000000000000001 1 hx hm hw (fun τ h => ?_) (fun τ h => ?_)
    · unfold f_X8_ratio
      simp only [RD, x_wheel_bad h.1.2.1 hb, x_refL, Option.bind_some]
    · unfold f_X9_ratio
      simp only [m_wheel_bad h.1.2.1 hN hb, m_refL, Option.bind_some, if_true]
  · obtain ⟨a1, a2, a3, a4, a5, a6, a7, a8⟩ := hw.1.2.2.2.2.2 w hi
    by_cases h2 : c2 = 0 ∨ c2 = 1
    · obtain ⟨r, e1, e2⟩ := frac (up8_abs (k := rK A.1 w 0) (W := rK A.1 w 1) (f := rK A.1 w 2) hR (by omega) a4) a2 (by omega) h2
      refine both_same r.toInt64 hx hm hw (fun τ h => ⟨τ, ?_, fun _ _ _ => rfl⟩) (fun τ h => ⟨τ, ?_, fun _ _ _ => rfl⟩)
      · have hk := h.1.2.2.2.2 w hi
        have h0 := hk 0 (by omega)
        have h1 := hk 1 (by omega)
        have h3 := hk 2 (by omega)
        have ht := h.1.1
        have hu : f_X7_turnsTimesSize (5 + w) (nI (rT A.1)) τ = up8 (rT A.1) (rK A.1 w 0) (rK A.1 w 1) (rK A.1 w 2) := by
          unfold f_X7_turnsTimesSize up8
          rw [h0, h1, h3]
          rcases (show rK A.1 w 0 = 0 ∨ rK A.1 w 0 = 1 ∨ rK A.1 w 0 = 2 ∨ rK A.1 w 0 = 3 ∨ rK A.1 w 0 = 4 ∨ rK A.1 w 0 = 5 by omega) with e | e | e | e | e | e <;> rw [e] <;> rfl
        unfold f_X8_ratio
        simp only [RD, x_wheel h.1.2.1 hN hi, Option.bind_some, (two_ok c2).1 h2, if_neg one0, ht, hu, h1, e1]
      · have hk : ∀ j, j < 6 → τ.1 (146 + j) w = nI (rK A.1 w j) := h.1.2.2.2.2 w hi
        have h0 : τ.1 146 w = _ := hk 0 (by omega)
        have h1 : τ.1 147 w = _ := hk 1 (by omega)
        have h3 : τ.1 148 w = _ := hk 2 (by omega)
        have ht := h.1.1
        unfold f_X9_ratio jn1
        simp (disch := omega) only [RM, LN, m_wheel h.1.2.1 hN hi, if_neg one0, (two_ok c2).1 h2, cl_nI, ck_i, h0, h1, h3, ht]
        unfold up8 at e2
        rcases (show rK A.1 w 0 = 0 ∨ rK A.1 w 0 = 1 ∨ rK A.1 w 0 = 2 ∨ rK A.1 w 0 = 3 ∨ rK A.1 w 0 = 4 ∨ rK A.1 w 0 = 5 by omega) with e | e | e | e | e | e
        · rw [e] at e2 ⊢
          rw [if_pos rfl] at e2
          rw [if_pos (show nI 0 = 0 from rfl), e2]; rfl
        · rw [e] at e2 ⊢
          rw [if_neg (by decide), if_pos rfl] at e2
          rw [if_neg (show ¬ nI 1 = 0 by decide), if_pos (show nI 1 = 1 from rfl), e2]; rfl
        · rw [e] at e2 ⊢
          rw [if_neg (by decide), if_neg (by decide), if_pos rfl] at e2
          rw [if_neg (show ¬ nI 2 = 0 by decide), if_neg (show ¬ nI 2 = 1 by decide), if_pos (show nI 2 = 2 from rfl), e2]; rfl
        · rw [e] at e2 ⊢
          rw [if_neg (by decide), if_neg (by decide), if_neg (by decide), if_pos rfl] at e2
          rw [if_neg (show ¬ nI 3 = 0 by decide), if_neg (show ¬ nI 3 = 1 by decide), if_neg (show ¬ nI 3 = 2 by decide), if_pos (show nI 3 = 3 from rfl), neg_sub hR (by omega), e2]; rfl
        · rw [e] at e2 ⊢
          rw [if_neg (by decide), if_neg (by decide), if_neg (by decide), if_neg (by decide), if_pos rfl] at e2
          rw [if_neg (show ¬ nI 4 = 0 by decide), if_neg (show ¬ nI 4 = 1 by decide), if_neg (show ¬ nI 4 = 2 by decide), if_neg (show ¬ nI 4 = 3 by decide), if_pos (show nI 4 = 4 from rfl), e2]; rfl
        · rw [e] at e2 ⊢
          rw [if_neg (by decide), if_neg (by decide), if_neg (by decide), if_neg (by decide), if_neg (by decide)] at e2
          rw [if_neg (show ¬ nI 5 = 0 by decide), if_neg (show ¬ nI 5 = 1 by decide), if_neg (show ¬ nI 5 = 2 by decide), if_neg (show ¬ nI 5 = 3 by decide), if_neg (show ¬ nI 5 = 4 by decide), if_pos (show nI 5 = 5 from rfl), e2]; rfl
    · have h2 := (two_ok c2).2 h2
      refine both_ref 4000000000000000002 2 hx hm hw (fun τ h => ?_) (fun τ h => ?_)
      · unfold f_X8_ratio
        simp only [RD, x_wheel h.1.2.1 hN hi, h2, x_refL, Option.bind_some, if_true]
      · unfold f_X9_ratio
        simp only [m_wheel h.1.2.1 hN hi, h2, m_refL, Option.bind_some, if_true, if_neg one0]
/-- the first inked tooth from a on -/
def fin (ρ : RG) (a : Nat) : Int32 := if fstF (fun t => decide (0 < rI ρ t)) a (rT ρ - a) < rT ρ then nI (fstF (fun t => decide (0 < rI ρ t)) a (rT ρ - a)) else -9
theorem x_inkedFrom {ρ : RG} {σ : SS} {a : Nat} (h : X1 ρ σ) (hw : WR ρ) (ha : a < rT ρ) : f_X4_inkedFrom 1 (nI a) σ = some (fin ρ a) := by
  obtain ⟨h1, h2, h3, -⟩ := h
  have hT := hw.2.1
  have hI := hw.2.2.2.1
  unfold f_X4_inkedFrom fin
  have e : f_J9_max_7cf53 (nI a) 0 = nI a := by
    unfold f_J9_max_7cf53
    rw [if_neg (nlt_m (by omega))]
  rw [e, search (fun fu i => f_X4_inkedFrom_L6 σ (fun _ => some (-9)) fu 1 (nI i)) (fun t => decide (0 < rI ρ t)) (fun i => some (nI i)) (some (-9)) (rT ρ) ?_ ?_ (rT ρ - a) a FU (by omega) (FU_big (by omega))]
  · split <;> rfl
  · intro fu
    simp only [f_X4_inkedFrom_L6, h1]
    rw [if_pos ((le_nI (by omega) (by omega)).mpr (Nat.le_refl _))]
  · intro fu i hi
    have := hI i
    simp (disch := omega) only [f_X4_inkedFrom_L6, h1, RD, LN, cl_nI, ck_i, h3, le_nI, le_nI0, ol_add]
    rw [if_neg (by omega)]
    by_cases h0 : 0 < rI ρ i
    · rw [if_neg (show ¬ rI ρ i ≤ 0 by omega), if_pos (show decide (0 < rI ρ i) = true by simpa using h0)]
    · rw [if_pos (show rI ρ i ≤ 0 by omega), if_neg (show ¬ decide (0 < rI ρ i) = true by simpa using h0)]
theorem pc_ahead_ok : pc_ahead Rel := by
  rintro σ c ⟨A, hx, hm, hw⟩
  have hR := hw.1.2.1
  rcases ix_cases c (n := rT A.1) (by omega) with hb | ⟨t, ht, rfl⟩
  · refine both_ref (-1) 1 hx hm hw (fun τ h => ?_) (fun τ h => ?_)
    · unfold f_X8_ahead
      simp only [RD, x_tooth_bad h.1.1 hb, x_ref, Option.bind_some, if_true]
    · unfold f_X9_ahead
      simp only [m_tooth_bad h.1.1 hR hb, m_ref, Option.bind_some, if_true]
  · refine both_same (fin A.1 t) hx hm hw (fun τ h => ⟨τ, ?_, fun _ _ _ => rfl⟩) (fun τ h => ⟨τ, ?_, fun _ _ _ => rfl⟩)
    · unfold f_X8_ahead
      simp only [RD, x_tooth h.1.1 hR ht, if_neg one0, x_inkedFrom h.1 hw.1 ht, Option.bind_some]
    · unfold f_X9_ahead fin
      have hI := hw.1.2.2.2.1
      simp only [m_tooth h.1.1 hR ht, if_neg one0]
      rw [search (fun fu i => f_X9_ahead_L16 (fun (τ : SS) => some ((-9), τ)) fu 143 (nI i) τ) (fun t => decide (0 < rI A.1 t)) (fun i => some (nI i, τ)) (some (-9, τ)) (rT A.1) ?_ ?_ (rT A.1 - t) t FU (by omega) (FU_big (by omega))]
      · split <;> rfl
      · intro fu
        simp only [f_X9_ahead_L16, h.1.1]
        rw [if_pos ((le_nI (by omega) (by omega)).mpr (Nat.le_refl _))]
      · intro fu i hi
        have := hI i
        have h3 := h.1.2.2.1
        have h1 := h.1.1
        simp (disch := omega) only [f_X9_ahead_L16, h1, RM, LN, cl_nI, ck_i, h3, le_nI, le_nI0, ol_add]
        rw [if_neg (by omega)]
        by_cases h0 : 0 < rI A.1 i
        · rw [if_neg (show ¬ rI A.1 i ≤ 0 by omega), if_pos (show decide (0 < rI A.1 i) = true by simpa using h0)]
        · rw [if_pos (show rI A.1 i ≤ 0 by omega), if_neg (show ¬ decide (0 < rI A.1 i) = true by simpa using h0)]
