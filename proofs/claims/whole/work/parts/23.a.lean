/-! fractions, sides; of, ratio, letter -/
theorem gcd_x {κ : Int32 → Option Int32} : ∀ b a i fu, b + i ≤ 63 → a ≤ 1000 → b < fu → f_X2_greatestDivisor_L13 κ fu (nI a) (nI b) (nI i) = κ (nI (Nat.gcd a b)) := by
  intro b
  induction b using Nat.strongRecOn with
  | ind b ih =>
    intro a i fu h1 h2 h3
    obtain ⟨fu, rfl⟩ : ∃ z, fu = z + 1 := ⟨fu - 1, by omega⟩
    simp only [f_X2_greatestDivisor_L13]
    rw [if_neg (show ¬ (64 : Int32) ≤ nI i by rw [fa_lit 64, le_nI (by omega) (by omega)]; omega)]
    by_cases h0 : b = 0
    · subst h0
      rw [if_pos (show nI 0 = 0 from rfl), Nat.gcd_zero_right]
    · have hz : ¬ nI b = 0 := by rw [fa_lit 0, eq_nI (by omega) (by omega)]; exact h0
      have hl := Nat.mod_lt a (show b > 0 by omega)
      rw [if_neg hz, ck_pos hz, rem_nI (by omega) (by omega) (by omega), fa_lit 1, nI_add, ih (a % b) hl b (i + 1) fu (by omega) (by omega) (by omega)]
      rw [Nat.gcd_comm b, ← Nat.gcd_rec, Nat.gcd_comm]
theorem gcd_m {κ : Int32 → Int32 → Int32 → Int32 → Option Int64} {x0 x1 x2 : Int32} : ∀ b a fu, b ≤ 1000 → a ≤ 1000 → b < fu → f_X9_lowest_L14 κ fu x0 x1 x2 (nI a) (nI b) = κ x0 x1 x2 (nI (Nat.gcd a b)) := by
  intro b
  induction b using Nat.strongRecOn with
  | ind b ih =>
    intro a fu h1 h2 h3
    obtain ⟨fu, rfl⟩ : ∃ z, fu = z + 1 := ⟨fu - 1, by omega⟩
    simp only [f_X9_lowest_L14]
    by_cases h0 : b = 0
    · subst h0
      rw [if_pos (show nI 0 = 0 from rfl), Nat.gcd_zero_right]
    · have hz : ¬ nI b = 0 := by rw [fa_lit 0, eq_nI (by omega) (by omega)]; exact h0
      have hl := Nat.mod_lt a (show b > 0 by omega)
      rw [if_neg hz, ck_pos hz, rem_nI (by omega) (by omega) (by omega), ih (a % b) hl b fu (by omega) (by omega) (by omega)]
      rw [Nat.gcd_comm b, ← Nat.gcd_rec, Nat.gcd_comm]
theorem abs_spec {x : Int32} (h : x.toInt.natAbs ≤ 1000) : f_J9_abs_0f7a4 x = nI x.toInt.natAbs ∧ (if 0 ≤ x then x else -x) = nI x.toInt.natAbs := by
  unfold f_J9_abs_0f7a4
  by_cases h0 : 0 ≤ x
  · rw [if_pos h0, if_pos h0]
    have h0 : 0 ≤ x.toInt := by rw [Int32.le_iff_toInt_le] at h0; exact h0
    have : x = nI x.toInt.natAbs := Int32.toInt_inj.mp (by rw [nI_toInt (by omega)]; omega)
    exact ⟨this, this⟩
  · rw [if_neg h0, if_neg h0]
    have h0 : ¬ 0 ≤ x.toInt := fun q => h0 (by rw [Int32.le_iff_toInt_le]; exact q)
    constructor
    · apply Int32.toInt_inj.mp
      rw [Int32.toInt_sub, nI_toInt (by omega), show (0 : Int32).toInt = 0 from by decide, Int.bmod_eq_of_le (by omega) (by omega)]
      omega
    · apply Int32.toInt_inj.mp
      rw [Int32.toInt_neg, nI_toInt (by omega), Int.bmod_eq_of_le (by omega) (by omega)]
      omega
theorem frac {x : Int32} {W : Nat} (hx : x.toInt.natAbs ≤ 1000) (h1 : 1 ≤ W) (h2 : W ≤ 60) {p : Int32} (hp : p = 0 ∨ p = 1) : ∃ r : Int32, f_X2_partOf x (nI W) p = some r ∧ f_X9_lowest x (nI W) p = some r.toInt64 := by
  have hg : Nat.gcd x.toInt.natAbs W ≤ W := Nat.gcd_le_right _ (by omega)
  have hg0 : 0 < Nat.gcd x.toInt.natAbs W := Nat.gcd_pos_of_pos_right _ (by omega)
  have hz : ¬ nI (Nat.gcd x.toInt.natAbs W) = 0 := by rw [fa_lit 0, eq_nI (by omega) (by omega)]; omega
  have hW : f_J9_abs_0f7a4 (nI W) = nI W := by
    have := (abs_spec (x := nI W) (by rw [nI_toInt (by omega)]; omega)).1
    rw [nI_toInt (by omega)] at this
    exact this
  have hgx : f_X2_greatestDivisor x (nI W) = some (nI (Nat.gcd x.toInt.natAbs W)) := by
    unfold f_X2_greatestDivisor
    rw [(abs_spec hx).1, hW, fa_lit 0, gcd_x W _ 0 FU (by omega) (by omega) (FU_big (by omega))]
  have hgm : f_X9_lowest x (nI W) p = if p = 0 then ck (¬ nI (Nat.gcd x.toInt.natAbs W) = 0) (some ((x / nI (Nat.gcd x.toInt.natAbs W)).toInt64)) else ck (¬ nI (Nat.gcd x.toInt.natAbs W) = 0) (some ((nI W / nI (Nat.gcd x.toInt.natAbs W)).toInt64)) := by
    have e : f_X9_lowest x (nI W) p = f_X9_lowest_L14 (fun (y0 : Int32) (y1 : Int32) (y2 : Int32) (y3 : Int32) => if y2 = 0 then ck (¬ y3 = 0) (some ((y0 / y3).toInt64)) else ck (¬ y3 = 0) (some ((y1 / y3).toInt64))) FU x (nI W) p (if 0 ≤ x then x else -x) (nI W) := by
      dsimp only [f_X9_lowest, jn1]
      split <;> rfl
    rw [e, (abs_spec hx).2, gcd_m W _ FU (by omega) (by omega) (FU_big (by omega))]
  unfold f_X2_partOf
  rw [hgx, Option.bind_some, if_neg hz, hgm, ck_pos (x := some (x / _)) hz, ck_pos (x := some (nI W / _)) hz]
  rcases hp with rfl | rfl
  · exact ⟨_, by rw [if_pos rfl], by rw [if_pos rfl, ck_pos hz]⟩
  · exact ⟨nI W / nI (Nat.gcd x.toInt.natAbs W), by rw [if_neg (by decide)], by rw [if_neg (by decide), ck_pos hz]⟩
def sd (k : Nat) : Nat := if k = 0 then 0 else if k = 2 then 0 else if k = 4 then 0 else 1
theorem x_side {σ : SS} {q k : Nat} (h : σ.1 q 0 = nI k) (hk : k ≤ 5) : f_X7_side q σ = nI (sd k) := by
  unfold f_X7_side
  rw [h]
  rcases (show k = 0 ∨ k = 1 ∨ k = 2 ∨ k = 3 ∨ k = 4 ∨ k = 5 by omega) with rfl | rfl | rfl | rfl | rfl | rfl <;> rfl
theorem m_side {k : Nat} (hk : k ≤ 5) : f_X9_sideOf (nI k) = nI (sd k) := by
  rcases (show k = 0 ∨ k = 1 ∨ k = 2 ∨ k = 3 ∨ k = 4 ∨ k = 5 by omega) with rfl | rfl | rfl | rfl | rfl | rfl <;> rfl
theorem pc_of_ok : pc_of Rel := by
  rintro σ c1 c2 ⟨A, hx, hm, hw⟩
  have hR := hw.1.2.1
  have hN := hw.1.2.2.1
  rcases ix_cases c1 (n := rN A.1) (by omega) with hb | ⟨w, hi, rfl⟩
  · refine both_ref (-1) 1 hx hm hw (fun τ h => ?_) (fun τ h => ?_)
    · unfold f_X8_of
      simp only [RD, x_wheel_bad h.1.2.1 hb, x_ref, Option.bind_some]
    · unfold f_X9_of
      simp only [m_wheel_bad h.1.2.1 hN hb, m_ref, Option.bind_some, if_true]
  · obtain ⟨a1, a2, a3, a4, a5, a6, a7, a8⟩ := hw.1.2.2.2.2.2 w hi
    have one : ¬ (1 : Int32) = 0 := by decide
    rcases ix_cases c2 (n := 8) (by omega) with hb | ⟨j, hj, rfl⟩
    · have e0 : ¬ c2 = (0 : Int32) := hb.ne (k := 0) (by omega) (by omega)
      have e1 : ¬ c2 = (1 : Int32) := hb.ne (k := 1) (by omega) (by omega)
      have e2 : ¬ c2 = (2 : Int32) := hb.ne (k := 2) (by omega) (by omega)
      have e3 : ¬ c2 = (3 : Int32) := hb.ne (k := 3) (by omega) (by omega)
      have e4 : ¬ c2 = (4 : Int32) := hb.ne (k := 4) (by omega) (by omega)
      have e5 : ¬ c2 = (5 : Int32) := hb.ne (k := 5) (by omega) (by omega)
      have e6 : ¬ c2 = (6 : Int32) := hb.ne (k := 6) (by omega) (by omega)
      have e7 : ¬ c2 = (7 : Int32) := hb.ne (k := 7) (by omega) (by omega)
      refine both_ref (-2) 2 hx hm hw (fun τ h => ?_) (fun τ h => ?_)
      · unfold f_X8_of
        simp only [RD, x_wheel h.1.2.1 hN hi, x_ref, Option.bind_some, if_neg e0, if_neg e1, if_neg e2, if_neg e3, if_neg e4, if_neg e5, if_neg e6, if_neg e7]
      · unfold f_X9_of
        simp only [m_wheel h.1.2.1 hN hi, m_ref, Option.bind_some, if_neg one, if_neg e0, if_neg e1, if_neg e2, if_neg e3, if_neg e4, if_neg e5, if_neg e6, if_neg e7]
    · have hX : ∀ τ, XH A τ → f_X8_of 0 (nI w) (nI j) τ = some (nI (if j < 6 then rK A.1 w j else if j = 6 then sd (rK A.1 w 0) else nx (rT A.1) (rW A.1) (rK A.1 w 0) (rK A.1 w 1) (rK A.1 w 2) (rK A.1 w 4)), τ) := by
        intro τ h
        have hk := h.1.2.2.2.2 w hi
        have h0 := hk 0 (by omega)
        have h1 := hk 1 (by omega)
        have h2 := hk 2 (by omega)
        have h3 := hk 3 (by omega)
        have h4 := hk 4 (by omega)
        have h5 := hk 5 (by omega)
        have hs := x_side h0 a1
        have hn := x_nextW h.1 hw.1 hi a7
        unfold f_X8_of
        simp only [RD, x_wheel h.1.2.1 hN hi, Option.bind_some, h0, h1, h2, h3, h4, h5, hs, hn]
        rcases (show j = 0 ∨ j = 1 ∨ j = 2 ∨ j = 3 ∨ j = 4 ∨ j = 5 ∨ j = 6 ∨ j = 7 by omega) with rfl | rfl | rfl | rfl | rfl | rfl | rfl | rfl
        all_goals rfl
      have hM : ∀ τ, MH A τ → f_X9_of 143 (nI w) (nI j) τ = some (nI (if j < 6 then rK A.1 w j else if j = 6 then sd (rK A.1 w 0) else nx (rT A.1) (rW A.1) (rK A.1 w 0) (rK A.1 w 1) (rK A.1 w 2) (rK A.1 w 4)), τ) := by
        intro τ h
        have hk : ∀ j, j < 6 → τ.1 (146 + j) w = nI (rK A.1 w j) := h.1.2.2.2.2 w hi
        have hn := m_nextBy h.1 hw.1 hi a7
        have hs := m_side a1
        unfold f_X9_of
        have h0 : τ.1 146 w = _ := hk 0 (by omega)
        have h1 : τ.1 147 w = _ := hk 1 (by omega)
        have h2 : τ.1 148 w = _ := hk 2 (by omega)
        have h3 : τ.1 149 w = _ := hk 3 (by omega)
        have h4 : τ.1 150 w = _ := hk 4 (by omega)
        have h5 : τ.1 151 w = _ := hk 5 (by omega)
        simp (disch := omega) only [RM, LN, m_wheel h.1.2.1 hN hi, if_neg one, ck_i, cl_nI, h0, h1, h2, h3, h4, h5, hs, hn, Option.bind_some]
        rcases (show j = 0 ∨ j = 1 ∨ j = 2 ∨ j = 3 ∨ j = 4 ∨ j = 5 ∨ j = 6 ∨ j = 7 by omega) with rfl | rfl | rfl | rfl | rfl | rfl | rfl | rfl
        all_goals rfl
      exact both_same _ hx hm hw (fun τ h => ⟨τ, hX τ h, fun _ _ _ => rfl⟩) (fun τ h => ⟨τ, hM τ h, fun _ _ _ => rfl⟩)
