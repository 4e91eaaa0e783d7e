/-! crossings of two arcs, of an arc with a drawing's -/
def crP (a b c d : Nat) : Bool := decide (¬ a = b ∧ ¬ c = d ∧ ¬ a = c ∧ ¬ a = d ∧ ¬ b = c ∧ ¬ b = d ∧ ((min a b < c ∧ c < max a b) ↔ ¬ (min a b < d ∧ d < max a b)))
theorem z1 : ¬ (0 : Int32) = 1 := by decide
theorem x_cross {a b c d : Nat} (ha : a ≤ 60) (hb : b ≤ 60) (hc : c ≤ 60) (hd : d ≤ 60) : f_X2_cross (nI a) (nI b) (nI c) (nI d) = if crP a b c d = true then 1 else 0 := by
  unfold f_X2_cross
  dsimp only [jn1]
  simp (disch := omega) only [minN, maxN, eq_nI, le_nI, crP, decide_eq_true_eq, one0, z1, if_true, if_false]
  repeat' split
  all_goals first | rfl | (exfalso; omega)
theorem m_betw {a b c : Nat} (ha : a ≤ 60) (hb : b ≤ 60) (hc : c ≤ 60) : f_X9_isBetween (nI c) (nI a) (nI b) = if min a b < c ∧ c < max a b then 1 else 0 := by
  unfold f_X9_isBetween
  simp (disch := omega) only [minN, maxN, le_nI]
  repeat' split
  all_goals first | rfl | (exfalso; omega)
theorem m_cross {a b c d : Nat} (ha : a ≤ 60) (hb : b ≤ 60) (hc : c ≤ 60) (hd : d ≤ 60) : f_X9_cross (nI c) (nI d) (nI a) (nI b) = if crP a b c d = true then 1 else 0 := by
  unfold f_X9_cross
  simp (disch := omega) only [m_betw, eq_nI, crP, decide_eq_true_eq]
  by_cases h1 : min a b < c ∧ c < max a b
  · by_cases h2 : min a b < d ∧ d < max a b
    · simp only [if_pos h1, if_pos h2, if_true]
      repeat' split
      all_goals first | rfl | (exfalso; omega)
    · simp only [if_pos h1, if_neg h2, one0, if_false]
      repeat' split
      all_goals first | rfl | (exfalso; omega)
  · by_cases h2 : min a b < d ∧ d < max a b
    · simp only [if_neg h1, if_pos h2, z1, if_false]
      repeat' split
      all_goals first | rfl | (exfalso; omega)
    · simp only [if_neg h1, if_neg h2, if_true]
      repeat' split
      all_goals first | rfl | (exfalso; omega)
theorem crP_sym (a b c d : Nat) : crP a b c d = crP c d a b := by
  unfold crP
  apply decide_eq_decide.mpr
  constructor <;> (rintro ⟨h1, h2, h3, h4, h5, h6, h7⟩; refine ⟨by omega, by omega, by omega, by omega, by omega, by omega, ?_⟩; omega)
theorem crP_self (a b : Nat) : crP a b a b = false := by
  unfold crP
  apply decide_eq_false
  omega
/-- how many of the first A arcs of bg cross the one from c to d -/
def cb (bg : Nat → Nat) (A c d : Nat) : Nat := cnt (fun k => crP (bg k) (bg (k + 1)) c d) A
theorem x_crossed {d d2 R R2 k k2 A A2 T T2 i : Nat} {bg bg2 : Nat → Nat} {σ : SS} (hd : d = 116 ∨ d = 122) (hd2 : d2 = 116 ∨ d2 = 122) (h : DrX d R k bg A T σ) (h2 : DrX d2 R2 k2 bg2 A2 T2 σ) (hA : A ≤ 60) (hA2 : A2 ≤ 60) (hb : ∀ i, bg i < 60) (hb2 : ∀ i, bg2 i < 60) (hs : sd k = sd k2) (hi : i < A2) :
    f_X0_crossedBy d d2 (nI i) σ = some (nI (cb bg A (bg2 i) (bg2 (i + 1)))) := by
  obtain ⟨r5, r6, r7, r8, l1, l2, l3, l4⟩ := rid_dd hd
  obtain ⟨R5, R6, R7, R8, L1, L2, L3, L4⟩ := rid_dd hd2
  obtain ⟨h0, h1, hA', hT, hr, -, -⟩ := h
  obtain ⟨g0, g1, gA', gT, gr, -, -⟩ := h2
  have c1 := hb2 i
  have c2 := hb2 (i + 1)
  unfold f_X0_crossedBy f_X0_hasArc
  rw [h1, g1, if_pos (by rw [hs]), if_neg (nlt_m (by omega)), gA', if_neg (show ¬ nI A2 ≤ nI i by rw [le_nI (by omega) (by omega)]; omega), if_neg one0]
  have := loop_fix (fun fu j => f_X0_crossedBy_L24 σ (fun y3 => some y3) fu d d2 (nI i) (nI (cb bg j (bg2 i) (bg2 (i + 1)))) (nI j)) (some (nI (cb bg A (bg2 i) (bg2 (i + 1))))) A
    (fun fu => by
      simp only [f_X0_crossedBy_L24]
      rw [hA', if_pos ((le_nI (by omega) (by omega)).mpr (Nat.le_refl _))])
    (fun fu j hj => by
      have b1 := hb j
      have b2 := hb (j + 1)
      simp (disch := omega) only [f_X0_crossedBy_L24, r5, r6, R5, R6, l1, l2, L1, L2, cl_nI, ck_i, (hr j hj).1, (hr j hj).2.1, (gr i hi).1, (gr i hi).2.1, x_cross, ol_add, hA']
      rw [if_neg (show ¬ nI A ≤ nI j by rw [le_nI (by omega) (by omega)]; omega)]
      by_cases e : crP (bg j) (bg (j + 1)) (bg2 i) (bg2 (i + 1)) = true
      · rw [if_pos e, if_neg one0, show cb bg (j + 1) (bg2 i) (bg2 (i + 1)) = cb bg j (bg2 i) (bg2 (i + 1)) + 1 from cnt_yes e]
      · rw [if_neg e, if_pos rfl, show cb bg (j + 1) (bg2 i) (bg2 (i + 1)) = cb bg j (bg2 i) (bg2 (i + 1)) from cnt_no e])
    (fu := FU) (i := 0) (by omega) (FU_big (by omega))
  exact this
theorem x_crossed_no {d d2 R R2 k k2 A A2 T T2 : Nat} {bg bg2 : Nat → Nat} {σ : SS} {c : Int32} (h : DrX d R k bg A T σ) (h2 : DrX d2 R2 k2 bg2 A2 T2 σ) (hs : ¬ sd k = sd k2) : f_X0_crossedBy d d2 c σ = some 0 := by
  have b : ∀ k, sd k ≤ 1 := fun k => by unfold sd; (repeat' split) <;> omega
  have b1 := b k
  have b2 := b k2
  unfold f_X0_crossedBy
  rw [h.2.1, h2.2.1, if_neg (by rw [eq_nI (by omega) (by omega)]; exact hs)]
theorem m_crossed {R A T i : Nat} {bg : Nat → Nat} {σ : SS} (h : DrM R bg A T σ) (hA : A ≤ 60) (hb : ∀ i, bg i < 60) (hi : i < A) : f_X9_crossesOf 143 (nI i) σ = some (nI (cb bg A (bg i) (bg (i + 1)))) := by
  obtain ⟨hA', hT, hr, -⟩ := h
  have c1 := hb i
  have c2 := hb (i + 1)
  unfold f_X9_crossesOf
  have := loop_fix (fun fu j => f_X9_crossesOf_L4 σ (fun y2 => some y2) fu 143 (nI i) (nI (cb bg j (bg i) (bg (i + 1)))) (nI j)) (some (nI (cb bg A (bg i) (bg (i + 1))))) A
    (fun fu => by
      simp only [f_X9_crossesOf_L4]
      rw [hA', if_pos ((le_nI (by omega) (by omega)).mpr (Nat.le_refl _))])
    (fun fu j hj => by
      have b1 := hb j
      have b2 := hb (j + 1)
      simp (disch := omega) only [f_X9_crossesOf_L4, RM, LN, cl_nI, ck_i, (hr j hj).1, (hr j hj).2, (hr i hi).1, (hr i hi).2, m_cross, ol_add, hA', eq_nI]
      rw [if_neg (show ¬ nI A ≤ nI j by rw [le_nI (by omega) (by omega)]; omega)]
      by_cases ej : j = i
      · subst ej
        rw [if_pos rfl, show cb bg (j + 1) (bg j) (bg (j + 1)) = cb bg j (bg j) (bg (j + 1)) from cnt_no (by rw [crP_self]; decide)]
      · rw [if_neg ej]
        by_cases e : crP (bg j) (bg (j + 1)) (bg i) (bg (i + 1)) = true
        · rw [if_pos e, if_neg one0, show cb bg (j + 1) (bg i) (bg (i + 1)) = cb bg j (bg i) (bg (i + 1)) + 1 from cnt_yes e]
        · rw [if_neg e, if_pos rfl, show cb bg (j + 1) (bg i) (bg (i + 1)) = cb bg j (bg i) (bg (i + 1)) from cnt_no e])
    (fu := FU) (i := 0) (by omega) (FU_big (by omega))
  exact this
