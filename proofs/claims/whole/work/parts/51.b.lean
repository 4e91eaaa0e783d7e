/-! rounds, crossings, most; behind, drawing -/
theorem sm_zero {f : Nat → Nat} : ∀ n, (∀ i, i < n → f i = 0) → sm f n = 0
  | 0, _ => rfl
  | n + 1, h => by
    simp only [sm]
    rw [sm_zero n (fun i hi => h i (by omega)), h n (by omega)]
theorem gs_lt {R k a b : Nat} (hR : 1 ≤ R) : gs R k a b < R := by
  unfold gs
  split <;> exact Nat.mod_lt _ hR
/-- how far the arcs from the T-th one on go -/
def rsF (R k T : Nat) (bg : Nat → Nat) (i : Nat) : Nat := if T ≤ i then gs R k (bg i) (bg (i + 1)) else 0
theorem rsF_le {R k T : Nat} {bg : Nat → Nat} (hR : 1 ≤ R) (hR2 : R ≤ 60) (i : Nat) : rsF R k T bg i ≤ 60 := by
  have := gs_lt (k := k) (a := bg i) (b := bg (i + 1)) hR
  unfold rsF
  split <;> omega
theorem x_rounds {d R k A T : Nat} {bg : Nat → Nat} {σ : SS} (hd : d = 116 ∨ d = 122) (h : DrX d R k bg A T σ) (hR : 1 ≤ R) (hR2 : R ≤ 60) (hA : A ≤ 60) (hT : T < A) : f_X0_rounds d σ = some (nI (sm (rsF R k T bg) A / R)) := by
  obtain ⟨r5, r6, r7, r8, l1, l2, l3, l4⟩ := rid_dd hd
  have hle := sm_le (rsF_le (k := k) (T := T) (bg := bg) hR hR2) A
  unfold f_X0_rounds
  rw [h.2.2.2.1, show f_J9_max_7cf53 (nI T) 0 = nI (max T 0) from maxN (b := 0) (by omega) (by omega), Nat.max_eq_left (Nat.zero_le T)]
  have := loop_fix (fun fu i => f_X0_rounds_L11 σ (fun (p0 : Nat) (y1 : Int32) => if 1 ≤ (σ.1 p0 0) then some (y1 / (σ.1 p0 0)) else some 0) fu d (nI (sm (rsF R k T bg) (T + i))) (nI (T + i))) (some (nI (sm (rsF R k T bg) A / R))) (A - T)
    (fun fu => by
      simp only [f_X0_rounds_L11]
      rw [show T + (A - T) = A by omega, h.2.2.1, if_pos ((le_nI (by omega) (by omega)).mpr (Nat.le_refl _)), h.1, if_pos (show (1 : Int32) ≤ nI R by rw [fa_lit 1, le_nI (by omega) (by omega)]; exact hR), div_nI (by omega) (by omega) (by omega)])
    (fun fu i hi => by
      simp (disch := omega) only [f_X0_rounds_L11, r7, l3, h.2.2.1, cl_nI, ck_i, (h.2.2.2.2.1 (T + i) (by omega)).2.2, ol_add]
      rw [if_neg (show ¬ nI A ≤ nI (T + i) by rw [le_nI (by omega) (by omega)]; omega), nI_add]
      have e : sm (rsF R k T bg) (T + i) + gs R k (bg (T + i)) (bg (T + i + 1)) = sm (rsF R k T bg) (T + (i + 1)) := by
        show _ = sm (rsF R k T bg) (T + i) + rsF R k T bg (T + i)
        unfold rsF
        rw [if_pos (show T ≤ T + i by omega)]
      rw [e, show T + i + 1 = T + (i + 1) by omega])
    (fu := FU) (i := 0) (by omega) (FU_big (by omega))
  simp only [Nat.add_zero] at this
  rw [sm_zero T (fun i hi => by unfold rsF; rw [if_neg (by omega)])] at this
  exact this
theorem sub_add3 {a b R : Nat} (hb : b ≤ R) : nI a - nI b + nI R = nI (a + (R - b)) := by
  rw [Int32.sub_eq_add_neg, Int32.add_assoc, Int32.add_comm (-nI b), ← Int32.sub_eq_add_neg, sub_nI hb, nI_add]
theorem m_rounds {R A T w k : Nat} {bg : Nat → Nat} {σ : SS} (h0 : σ.1 143 0 = nI R) (hk : σ.1 146 w = nI k) (hk5 : k ≤ 5) (hw : w < 6) (h : DrM R bg A T σ) (hR : 1 ≤ R) (hR2 : R ≤ 60) (hA : A ≤ 60) (hT : T < A) (hb : ∀ i, bg i < R) : f_X9_rounds 143 (nI w) σ = some (nI (sm (rsF R k T bg) A / R)) := by
  have hle := sm_le (rsF_le (k := k) (T := T) (bg := bg) hR hR2) A
  have hz : ¬ nI R = 0 := by rw [eq_nI0 (by omega)]; omega
  have key : ∀ v4 : Int32, (v4 = 0 ∨ v4 = 1) → (v4 = 1 ↔ (k = 3 ∨ k = 5)) → f_X9_rounds_L34 σ (fun (p0 : Nat) (y3 : Int32) => ck (¬ (σ.1 p0 0) = 0) (some (y3 / (σ.1 p0 0)))) FU 143 v4 0 (σ.1 143 24) = some (nI (sm (rsF R k T bg) A / R)) := by
    intro v4 hv hv4
    rw [h.2.1]
    have := loop_fix (fun fu i => f_X9_rounds_L34 σ (fun (p0 : Nat) (y3 : Int32) => ck (¬ (σ.1 p0 0) = 0) (some (y3 / (σ.1 p0 0)))) fu 143 v4 (nI (sm (rsF R k T bg) (T + i))) (nI (T + i))) (some (nI (sm (rsF R k T bg) A / R))) (A - T)
      (fun fu => by
        simp only [f_X9_rounds_L34]
        rw [show T + (A - T) = A by omega, h.1, if_pos ((le_nI (by omega) (by omega)).mpr (Nat.le_refl _)), h0, ck_pos hz, div_nI (by omega) (by omega) (by omega)])
      (fun fu i hi => by
        have b1 := hb (T + i)
        have b2 := hb (T + i + 1)
        have e : sm (rsF R k T bg) (T + i) + gs R k (bg (T + i)) (bg (T + i + 1)) = sm (rsF R k T bg) (T + (i + 1)) := by
          show _ = sm (rsF R k T bg) (T + i) + rsF R k T bg (T + i)
          unfold rsF
          rw [if_pos (show T ≤ T + i by omega)]
        simp (disch := omega) only [f_X9_rounds_L34, RM, LN, h.1, h0, cl_nI, ck_i, (h.2.2.1 (T + i) (by omega)).1, (h.2.2.1 (T + i) (by omega)).2, ol_add, jn1, ck_pos hz]
        rw [if_neg (show ¬ nI A ≤ nI (T + i) by rw [le_nI (by omega) (by omega)]; omega)]
        rcases hv with rfl | rfl
        · have q : ¬ (k = 3 ∨ k = 5) := fun z => absurd (hv4.mpr z) (by decide)
          rw [if_pos rfl, sub_add3 (by omega), rem_nI (by omega) (by omega) (by omega), nI_add, show (bg (T + i + 1) + (R - bg (T + i))) % R = gs R k (bg (T + i)) (bg (T + i + 1)) by unfold gs; rw [if_neg q], e, show T + i + 1 = T + (i + 1) by omega]
        · have q : k = 3 ∨ k = 5 := hv4.mp rfl
          rw [if_neg one0, sub_add3 (by omega), rem_nI (by omega) (by omega) (by omega), nI_add, show (bg (T + i) + (R - bg (T + i + 1))) % R = gs R k (bg (T + i)) (bg (T + i + 1)) by unfold gs; rw [if_pos q], e, show T + i + 1 = T + (i + 1) by omega])
      (fu := FU) (i := 0) (by omega) (FU_big (by omega))
    simp only [Nat.add_zero] at this
    rw [sm_zero T (fun i hi => by unfold rsF; rw [if_neg (by omega)])] at this
    exact this
  unfold f_X9_rounds
  simp (disch := omega) only [RM, LN, cl_nI, ck_i, hk, jn1]
  by_cases h3 : k = 3
  · subst h3
    rw [if_pos (show nI 3 = 3 by decide)]
    exact key 1 (Or.inr rfl) ⟨fun _ => Or.inl rfl, fun _ => rfl⟩
  · rw [if_neg (show ¬ nI k = 3 by rw [fa_lit 3, eq_nI (by omega) (by omega)]; exact h3)]
    by_cases h5 : k = 5
    · subst h5
      rw [if_pos (show nI 5 = 5 by decide)]
      exact key 1 (Or.inr rfl) ⟨fun _ => Or.inr rfl, fun _ => rfl⟩
    · rw [if_neg (show ¬ nI k = 5 by rw [fa_lit 5, eq_nI (by omega) (by omega)]; exact h5)]
      exact key 0 (Or.inl rfl) ⟨fun z => absurd z (by decide), fun z => by omega⟩
/-- how many arcs cross the i-th one -/
def cbi (bg : Nat → Nat) (A i : Nat) : Nat := cb bg A (bg i) (bg (i + 1))
theorem cbi_le (bg : Nat → Nat) (A i : Nat) : cbi bg A i ≤ A := cnt_le _ _
theorem x_crossings {d R k A T : Nat} {bg : Nat → Nat} {σ : SS} (hd : d = 116 ∨ d = 122) (h : DrX d R k bg A T σ) (hA : A ≤ 60) (hb : ∀ i, bg i < 60) : f_X0_crossings d σ = some (nI (sm (cbi bg A) A / 2)) := by
  have hle := sm_le (cbi_le bg A) A
  have h2 : A * A ≤ 60 * 60 := Nat.mul_le_mul hA hA
  unfold f_X0_crossings
  rw [x_crossWith hd hd h h hA hA hb hb rfl, Option.bind_some, show (2 : Int32) = nI 2 from rfl]
  exact congrArg some (div_nI (a := sm (cbi bg A) A) (by omega) (by omega) (by omega))
theorem m_crossings {R A T : Nat} {bg : Nat → Nat} {σ : SS} (h : DrM R bg A T σ) (hA : A ≤ 60) (hb : ∀ i, bg i < 60) : f_X9_crossings 143 σ = some (nI (sm (cbi bg A) A / 2)) := by
  have hle := sm_le (cbi_le bg A) A
  have h2 : A * A ≤ 60 * 60 := Nat.mul_le_mul hA hA
  unfold f_X9_crossings
  have := loop_fix (fun fu i => f_X9_crossings_L4 σ (fun y1 => some (y1 / 2)) fu 143 (nI (sm (cbi bg A) i)) (nI i)) (some (nI (sm (cbi bg A) A / 2))) A
    (fun fu => by
      simp only [f_X9_crossings_L4]
      rw [h.1, if_pos ((le_nI (by omega) (by omega)).mpr (Nat.le_refl _)), show (2 : Int32) = nI 2 from rfl, div_nI (by omega) (by omega) (by omega)])
    (fun fu i hi => by
      simp only [f_X9_crossings_L4]
      rw [h.1, if_neg (show ¬ nI A ≤ nI i by rw [le_nI (by omega) (by omega)]; omega), m_crossed h hA hb hi, Option.bind_some, nI_add, ol_add]
      rfl)
    (fu := FU) (i := 0) (by omega) (FU_big (by omega))
  exact this
theorem best1 (f : Nat → Nat) : bestF f 1 = 0 := by have := bestF_lt f 1 (by omega); omega
theorem x_most {d R k A T : Nat} {bg : Nat → Nat} {σ : SS} (hd : d = 116 ∨ d = 122) (h : DrX d R k bg A T σ) (hA1 : 1 ≤ A) (hA : A ≤ 60) (hb : ∀ i, bg i < 60) : f_X0_mostCrossing d σ = some (nI (bestF (cbi bg A) A)) := by
  unfold f_X0_mostCrossing
  have e0 := x_crossed hd hd h h hA hA hb hb rfl (show 0 < A by omega)
  rw [show (0 : Int32) = nI 0 from rfl, e0, Option.bind_some]
  have := loop_fix (fun fu i => f_X0_mostCrossing_L11 σ (fun y1 => some y1) fu d (nI (bestF (cbi bg A) i)) (nI (cbi bg A (bestF (cbi bg A) i))) (nI i)) (some (nI (bestF (cbi bg A) A))) A
    (fun fu => by
      simp only [f_X0_mostCrossing_L11]
      rw [h.2.2.1, if_pos ((le_nI (by omega) (by omega)).mpr (Nat.le_refl _))])
    (fun fu i hi => by
      have c1 := cbi_le bg A i
      have c2 := cbi_le bg A (bestF (cbi bg A) i)
      simp only [f_X0_mostCrossing_L11]
      rw [h.2.2.1, if_neg (show ¬ nI A ≤ nI i by rw [le_nI (by omega) (by omega)]; omega), x_crossed hd hd h h hA hA hb hb rfl hi, Option.bind_some, ol_add]
      show (if nI (cbi bg A i) ≤ nI (cbi bg A (bestF (cbi bg A) i)) then _ else f_X0_mostCrossing_L11 σ (fun y1 => some y1) fu d (nI i) (nI (cbi bg A i)) _) = _
      by_cases e : cbi bg A i ≤ cbi bg A (bestF (cbi bg A) i)
      · rw [if_pos ((le_nI (by omega) (by omega)).mpr e), show bestF (cbi bg A) (i + 1) = bestF (cbi bg A) i from if_neg (by omega)]
      · rw [if_neg (fun z => e ((le_nI (by omega) (by omega)).mp z)), show bestF (cbi bg A) (i + 1) = i from if_pos (by omega)])
    (fu := FU) (i := 1) (by omega) (FU_big (by omega))
  simp only [best1] at this
  exact this
theorem m_most {R A T : Nat} {bg : Nat → Nat} {σ : SS} (h : DrM R bg A T σ) (hA1 : 1 ≤ A) (hA : A ≤ 60) (hb : ∀ i, bg i < 60) : f_X9_mostCrossed 143 σ = some (nI (bestF (cbi bg A) A)) := by
  unfold f_X9_mostCrossed
  have := loop_fix (fun fu i => f_X9_mostCrossed_L4 σ (fun y1 => some y1) fu 143 (nI (bestF (cbi bg A) i)) (nI i)) (some (nI (bestF (cbi bg A) A))) A
    (fun fu => by
      simp only [f_X9_mostCrossed_L4]
      rw [h.1, if_pos ((le_nI (by omega) (by omega)).mpr (Nat.le_refl _))])
    (fun fu i hi => by
      have c1 := cbi_le bg A i
      have c2 := cbi_le bg A (bestF (cbi bg A) i)
      have hbb : bestF (cbi bg A) i < A := by
        rcases Nat.eq_zero_or_pos i with e | e
        · rw [e]; exact hA1
        · have := bestF_lt (cbi bg A) i e; omega
      simp only [f_X9_mostCrossed_L4]
      rw [h.1, if_neg (show ¬ nI A ≤ nI i by rw [le_nI (by omega) (by omega)]; omega), m_crossed h hA hb hi, m_crossed h hA hb hbb, Option.bind_some, Option.bind_some, ol_add]
      show (if nI (cbi bg A i) ≤ nI (cbi bg A (bestF (cbi bg A) i)) then _ else _) = _
      by_cases e : cbi bg A i ≤ cbi bg A (bestF (cbi bg A) i)
      · rw [if_pos ((le_nI (by omega) (by omega)).mpr e), show bestF (cbi bg A) (i + 1) = bestF (cbi bg A) i from if_neg (by omega)]
      · rw [if_neg (fun z => e ((le_nI (by omega) (by omega)).mp z)), show bestF (cbi bg A) (i + 1) = i from if_pos (by omega)])
    (fu := FU) (i := 1) (by omega) (FU_big (by omega))
  simp only [best1] at this
  exact this
theorem m_behind29 {R A T t : Nat} {bg : Nat → Nat} {σ : SS} (h0 : σ.1 143 0 = nI R) (h : DrM R bg A T σ) (hR : 1 ≤ R) (hR2 : R ≤ 60) (hA1 : 1 ≤ A) (hA : A ≤ 60) (hb : ∀ i, bg i < R) (ht : t < R) : f_X9_behind_L29 (fun (y3 : Int32) (τ : SS) => some (y3, τ)) FU 143 (nI t) σ = some (nI ((t + nc bg A R t) % R), σ) := by
  have hn := nc_lt (t := t) hA1 hb (by omega)
  have hz : ¬ nI R = 0 := by rw [eq_nI0 (by omega)]; omega
  have := until1 (fun fu i => f_X9_behind_L29 (fun (y3 : Int32) (τ : SS) => some (y3, τ)) fu 143 (nI ((t + i) % R)) σ) (fun i => cu bg A ((t + i) % R)) (fun i => some (nI ((t + i) % R), σ)) R
    (fun fu i hi => by
      have hm : (t + i) % R < R := Nat.mod_lt _ hR
      simp (disch := omega) only [f_X9_behind_L29, RM, LN, h0, cl_nI, ck_i, ck_pos hz]
      by_cases hc : cu bg A ((t + i) % R) = true
      · obtain ⟨j, hj, e⟩ := h.2.2.2.yes hc
        rw [e, if_pos (nI_pos' (by omega)), if_pos hc]
      · rw [h.2.2.2.no hm hc, if_neg mone, if_neg hc, ol_add (n := 1), rem_nI (by omega) (by omega) (by omega), Nat.mod_add_mod, show t + i + 1 = t + (i + 1) by omega])
    R 0 FU (by omega) (FU_big (by omega)) hn
  rw [Nat.add_zero, Nat.mod_eq_of_lt ht] at this
  exact this
