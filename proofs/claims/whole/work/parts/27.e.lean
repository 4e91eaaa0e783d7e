/-! counts, sums, the most; inked, count -/
theorem loop_fix {β : Type} (g : Nat → Nat → β) (r : β) (n : Nat) (he : ∀ fu, g (fu + 1) n = r) (hs : ∀ fu i, i < n → g (fu + 1) i = g fu (i + 1)) {fu i : Nat} (hi : i ≤ n) (hf : n - i < fu) : g fu i = r := by
  obtain ⟨_, _, e⟩ := loop_eq (fun fu i (_ : Unit) => g fu i) (fun _ => r) n (fun _ _ => True) (fun fu _ _ => he fu) (fun fu i _ h _ => ⟨(), trivial, hs fu i h⟩) (s := ()) hi hf trivial
  exact e
def cnt (p : Nat → Bool) : Nat → Nat
  | 0 => 0
  | n + 1 => cnt p n + if p n then 1 else 0
def sm (f : Nat → Nat) : Nat → Nat
  | 0 => 0
  | n + 1 => sm f n + f n
def bestF (f : Nat → Nat) : Nat → Nat
  | 0 => 0
  | n + 1 => if f (bestF f n) < f n then n else bestF f n
theorem cnt_le (p : Nat → Bool) : ∀ n, cnt p n ≤ n
  | 0 => Nat.le_refl _
  | n + 1 => by
    have := cnt_le p n
    unfold cnt
    split <;> omega
theorem cnt_yes {p : Nat → Bool} {n : Nat} (h : p n = true) : cnt p (n + 1) = cnt p n + 1 := by
  rw [cnt, if_pos h]
theorem cnt_no {p : Nat → Bool} {n : Nat} (h : ¬ p n = true) : cnt p (n + 1) = cnt p n := by
  rw [cnt, if_neg h, Nat.add_zero]
theorem cnt_not (p q : Nat → Bool) : ∀ n, (∀ i, i < n → (p i = true ↔ ¬ q i = true)) → cnt p n + cnt q n = n
  | 0, _ => rfl
  | n + 1, h => by
    have h1 := cnt_not p q n (fun i hi => h i (by omega))
    have h2 := h n (by omega)
    unfold cnt
    by_cases hp : p n = true
    · have hq : ¬ q n = true := h2.mp hp
      rw [if_pos hp, if_neg hq]; omega
    · have hq : q n = true := by
        by_cases hq : q n = true
        · exact hq
        · exact absurd (h2.mpr hq) hp
      rw [if_neg hp, if_pos hq]; omega
theorem cnt_congr {p q : Nat → Bool} : ∀ n, (∀ i, i < n → p i = q i) → cnt p n = cnt q n
  | 0, _ => rfl
  | n + 1, h => by
    unfold cnt
    rw [cnt_congr n (fun i hi => h i (by omega)), h n (by omega)]
theorem sm_le {f : Nat → Nat} {c : Nat} (h : ∀ i, f i ≤ c) : ∀ n, sm f n ≤ n * c
  | 0 => by simp [sm]
  | n + 1 => by
    have h1 := sm_le h n
    have h2 := h n
    unfold sm
    rw [Nat.succ_mul]
    omega
theorem sm_cnt {f : Nat → Nat} (h : ∀ i, f i ≤ 1) : ∀ n, sm f n = cnt (fun i => decide (f i = 1)) n
  | 0 => rfl
  | n + 1 => by
    have h1 := sm_cnt h n
    have h2 := h n
    unfold sm cnt
    rw [h1]
    by_cases e : f n = 1
    · rw [if_pos (by simpa using e), e]
    · rw [if_neg (by simpa using e)]; omega
theorem bestF_lt (f : Nat → Nat) : ∀ n, 0 < n → bestF f n < n
  | 1, _ => by unfold bestF; split <;> simp [bestF]
  | n + 2, _ => by
    have := bestF_lt f (n + 1) (by omega)
    unfold bestF
    split <;> omega
/-- how many of the first n of a row are v: the class's -/
theorem x_placesOf {σ : SS} {q n v : Nat} {f : Nat → Nat} (hq : ∀ i, i < n → σ.1 q i = nI (f i)) (hf : ∀ i, f i ≤ 100000) (hn : n ≤ ln q) (hl : ln q ≤ 200) (hv : v ≤ 100000) : f_X2_placesOf (nI v) q (nI n) σ = some (nI (cnt (fun i => decide (f i = v)) n)) := by
  unfold f_X2_placesOf
  have := loop_fix (fun fu i => f_X2_placesOf_L5 σ (fun y => some y) fu (nI v) q (nI n) (nI (cnt (fun i => decide (f i = v)) i)) (nI i)) (some (nI (cnt (fun i => decide (f i = v)) n))) n
    (fun fu => by
      simp only [f_X2_placesOf_L5]
      rw [if_pos ((le_nI (by omega) (by omega)).mpr (Nat.le_refl _))])
    (fun fu i hi => by
      have hfi := hf i
      simp (disch := omega) only [f_X2_placesOf_L5, cl_nI, ck_i, hq i hi, eq_nI, ol_add]
      rw [if_neg (show ¬ nI n ≤ nI i by rw [le_nI (by omega) (by omega)]; omega), if_neg (show ¬ Int32.ofNat (ln q) ≤ nI i from fun z => by have := (le_nI (a := ln q) (b := i) (by omega) (by omega)).mp z; omega)]
      by_cases e : f i = v
      · rw [if_pos e, show cnt (fun i => decide (f i = v)) (i + 1) = cnt (fun i => decide (f i = v)) i + 1 from cnt_yes (by simpa using e)]
      · rw [if_neg e, show cnt (fun i => decide (f i = v)) (i + 1) = cnt (fun i => decide (f i = v)) i from cnt_no (by simpa using e)])
    (fu := FU) (i := 0) (by omega) (FU_big (by omega))
  exact this
theorem x_placeOfMost {σ : SS} {q n : Nat} {f : Nat → Nat} (hq : ∀ i, i < n → σ.1 q i = nI (f i)) (hf : ∀ i, f i ≤ 100000) (h1 : 1 ≤ n) (hn : n ≤ ln q) (hl : ln q ≤ 200) : f_X2_placeOfMost q (nI n) σ = some (nI (bestF f n)) := by
  unfold f_X2_placeOfMost
  have := loop_fix (fun fu i => f_X2_placeOfMost_L4 σ (fun y => some y) fu q (nI n) (nI (bestF f i)) (nI i)) (some (nI (bestF f n))) n
    (fun fu => by
      simp only [f_X2_placeOfMost_L4]
      rw [if_pos ((le_nI (by omega) (by omega)).mpr (Nat.le_refl _))])
    (fun fu i hi => by
      have hfi := hf i
      have hb : bestF f i < n := by
        rcases Nat.eq_zero_or_pos i with e | e
        · rw [e]; exact h1
        · have := bestF_lt f i e; omega
      have hfb := hf (bestF f i)
      simp (disch := omega) only [f_X2_placeOfMost_L4, cl_nI, ck_i, hq i hi, hq _ hb, le_nI, ol_add]
      rw [if_neg (show ¬ n ≤ i by omega), if_neg (show ¬ Int32.ofNat (ln q) ≤ nI i from fun z => by have := (le_nI (a := ln q) (b := i) (by omega) (by omega)).mp z; omega)]
      by_cases e : f i ≤ f (bestF f i)
      · rw [if_pos e, show bestF f (i + 1) = bestF f i from if_neg (by omega)]
      · rw [if_neg e, show bestF f (i + 1) = i from if_pos (by omega)])
    (fu := FU) (i := 1) (by omega) (FU_big (by omega))
  have e1 : bestF f 1 = 0 := by have := bestF_lt f 1 (by omega); omega
  simp only [e1] at this
  exact this
theorem x_inkedTeeth {ρ : RG} {σ : SS} (h : X1 ρ σ) (hw : WR ρ) : f_X4_inkedTeeth 1 σ = some (nI (cnt (fun i => decide (0 < rI ρ i)) (rT ρ))) := by
  have hT := hw.2.1
  have hI := hw.2.2.2.1
  have hc := cnt_not (fun i => decide (0 < rI ρ i)) (fun i => decide (rI ρ i = 0)) (rT ρ) (fun i _ => by simp; omega)
  unfold f_X4_inkedTeeth
  simp only [RD, h.1]
  have := x_placesOf (σ := σ) (q := 2) (n := rT ρ) (v := 0) (f := rI ρ) (fun i hi => h.2.2.1 i (by omega)) (fun i => by have := hI i; omega) (by rw [LN.1]; omega) (by rw [LN.1]; omega) (by omega)
  rw [fa_lit 0, this, Option.bind_some, sub_nI (by omega)]
  congr 2
  omega
theorem m_inkedTeeth {ρ : RG} {σ : SS} (h : M1 ρ σ) (hw : WR ρ) : f_X9_inkedTeeth 143 σ = some (nI (cnt (fun i => decide (0 < rI ρ i)) (rT ρ))) := by
  have hT := hw.2.1
  have hI := hw.2.2.2.1
  have h0 := h.1
  have h3 := h.2.2.1
  unfold f_X9_inkedTeeth
  exact loop_fix (fun fu i => f_X9_inkedTeeth_L4 σ (fun y => some y) fu 143 (nI (cnt (fun i => decide (0 < rI ρ i)) i)) (nI i)) (some (nI (cnt (fun i => decide (0 < rI ρ i)) (rT ρ)))) (rT ρ)
    (fun fu => by
      simp only [f_X9_inkedTeeth_L4, h0]
      rw [if_pos ((le_nI (by omega) (by omega)).mpr (Nat.le_refl _))])
    (fun fu i hi => by
      have hfi := hI i
      simp (disch := omega) only [f_X9_inkedTeeth_L4, h0, RM, LN, cl_nI, ck_i, h3, le_nI, le_nI0, ol_add]
      rw [if_neg (show ¬ rT ρ ≤ i by omega)]
      by_cases e : rI ρ i ≤ 0
      · rw [if_pos e, show cnt (fun i => decide (0 < rI ρ i)) (i + 1) = cnt (fun i => decide (0 < rI ρ i)) i from cnt_no (by simp; omega)]
      · rw [if_neg e, show cnt (fun i => decide (0 < rI ρ i)) (i + 1) = cnt (fun i => decide (0 < rI ρ i)) i + 1 from cnt_yes (by simp; omega)])
    (fu := FU) (i := 0) (by omega) (FU_big (by omega))
theorem x_allInk {ρ : RG} {σ : SS} (h : X1 ρ σ) (hw : WR ρ) : f_X4_allInk 1 σ = some (nI (sm (rI ρ) (rT ρ))) := by
  have hT := hw.2.1
  have h0 := h.1
  have h3 : ∀ t, t < 60 → σ.1 2 t = nI (rI ρ t) := h.2.2.1
  unfold f_X4_allInk
  exact loop_fix (fun fu i => f_X4_allInk_L4 σ (fun y => some y) fu 1 (nI (sm (rI ρ) i)) (nI i)) (some (nI (sm (rI ρ) (rT ρ)))) (rT ρ)
    (fun fu => by
      simp only [f_X4_allInk_L4, h0]
      rw [if_pos ((le_nI (by omega) (by omega)).mpr (Nat.le_refl _))])
    (fun fu i hi => by
      simp (disch := omega) only [f_X4_allInk_L4, h0, RD, LN, cl_nI, ck_i, h3, le_nI, ol_add, nI_add]
      rw [if_neg (show ¬ rT ρ ≤ i by omega)]
      rfl)
    (fu := FU) (i := 0) (by omega) (FU_big (by omega))
theorem m_count_ink {ρ : RG} {σ : SS} (h : M1 ρ σ) (hw : WR ρ) : f_X9_count_L88 σ (fun y => some y) FU 143 0 0 = some (nI (sm (rI ρ) (rT ρ))) := by
  have hT := hw.2.1
  have h0 := h.1
  have h3 := h.2.2.1
  exact loop_fix (fun fu i => f_X9_count_L88 σ (fun y => some y) fu 143 (nI (sm (rI ρ) i)) (nI i)) (some (nI (sm (rI ρ) (rT ρ)))) (rT ρ)
    (fun fu => by
      simp only [f_X9_count_L88, h0]
      rw [if_pos ((le_nI (by omega) (by omega)).mpr (Nat.le_refl _))])
    (fun fu i hi => by
      simp (disch := omega) only [f_X9_count_L88, h0, RM, LN, cl_nI, ck_i, h3, le_nI, ol_add, nI_add]
      rw [if_neg (show ¬ rT ρ ≤ i by omega)]
      rfl)
    (fu := FU) (i := 0) (by omega) (FU_big (by omega))
theorem m_count_worn {ρ : RG} {σ : SS} (h : M1 ρ σ) (hw : WR ρ) : f_X9_count_L61 σ (fun y => some y) FU 143 0 0 = some (nI (sm (rW ρ) (rT ρ))) := by
  have hT := hw.2.1
  have h0 := h.1
  have h3 := h.2.2.2.1
  exact loop_fix (fun fu i => f_X9_count_L61 σ (fun y => some y) fu 143 (nI (sm (rW ρ) i)) (nI i)) (some (nI (sm (rW ρ) (rT ρ)))) (rT ρ)
    (fun fu => by
      simp only [f_X9_count_L61, h0]
      rw [if_pos ((le_nI (by omega) (by omega)).mpr (Nat.le_refl _))])
    (fun fu i hi => by
      simp (disch := omega) only [f_X9_count_L61, h0, RM, LN, cl_nI, ck_i, h3, le_nI, ol_add, nI_add]
      rw [if_neg (show ¬ rT ρ ≤ i by omega)]
      rfl)
    (fu := FU) (i := 0) (by omega) (FU_big (by omega))
theorem x_worn {ρ : RG} {σ : SS} (h : X1 ρ σ) (hw : WR ρ) : f_X2_placesOf 1 3 (nI (rT ρ)) σ = some (nI (sm (rW ρ) (rT ρ))) := by
  have hT := hw.2.1
  have hW := hw.2.2.2.2.1
  rw [sm_cnt hW]
  exact x_placesOf (σ := σ) (q := 3) (n := rT ρ) (v := 1) (f := rW ρ) (fun i hi => h.2.2.2.1 i (by omega)) (fun i => by have := hW i; omega) (by rw [LN.2.1]; omega) (by rw [LN.2.1]; omega) (by omega)
theorem pc_count_ok : pc_count Rel := by
  rintro σ c ⟨A, hx, hm, hw⟩
  have g1 := x_inkedTeeth hx.1 hw.1
  have g2 := m_inkedTeeth hm.1 hw.1
  have g3 := x_worn hx.1 hw.1
  have g4 := m_count_worn hm.1 hw.1
  have g5 := x_allInk hx.1 hw.1
  have g6 := m_count_ink hm.1 hw.1
  have a0 := hx.1.1
  have a1 := hx.1.2.1
  have b0 := hm.1.1
  have b1 := hm.1.2.1
  have a5 := hx.2.2.2.1.1
  have b5 := hm.2.2.2.1.1
  have a6 := hx.2.2.1.1
  have b6 := hm.2.2.1.1
  unfold f_X8_count f_X9_count
  simp only [RD, RM, LN, g1, g2, g3, g4, g5, g6, a0, a1, b0, b1, a5, b5, a6, b6, Option.bind_some]
  rcases ix_cases c (n := 17) (by omega) with hb | ⟨j, hj, rfl⟩
  · have e0 : ¬ c = (0 : Int32) := hb.ne (k := 0) (by omega) (by omega)
    have e1 : ¬ c = (1 : Int32) := hb.ne (k := 1) (by omega) (by omega)
    have e2 : ¬ c = (2 : Int32) := hb.ne (k := 2) (by omega) (by omega)
    have e3 : ¬ c = (3 : Int32) := hb.ne (k := 3) (by omega) (by omega)
    have e4 : ¬ c = (4 : Int32) := hb.ne (k := 4) (by omega) (by omega)
    have e5 : ¬ c = (5 : Int32) := hb.ne (k := 5) (by omega) (by omega)
    have e6 : ¬ c = (6 : Int32) := hb.ne (k := 6) (by omega) (by omega)
    have ew : f_X9_within c 11 16 = 0 := by
      unfold f_X9_within
      rcases hb with hb | hb
      · rw [if_pos (show c < 11 from (neg_i (k := 11) hb (by omega)).1)]
      · rw [if_neg (show ¬ c < 11 from (big_i (k := 11) hb (by omega) (by omega)).2.2.1), if_pos (show (16 : Int32) < c from (big_i (k := 16) hb (by omega) (by omega)).1)]
    refine ⟨-9, ?_, ?_⟩
    · rw [if_neg e0, if_neg e1, if_neg e2, if_neg e3, if_neg e4, if_neg e5, if_neg e6]
      rcases hb with hb | hb
      · rw [if_pos (show c ≤ 10 from (neg_i (k := 10) hb (by omega)).2.1)]
      · rw [if_neg (show ¬ c ≤ 10 from (big_i (k := 10) hb (by omega) (by omega)).2.1), if_pos (show (16 : Int32) < c from (big_i (k := 16) hb (by omega) (by omega)).1)]
    · rw [if_neg e0, if_neg e1, if_neg e2, if_neg e3, if_neg e4, if_neg e5, if_neg e6, ew, if_pos rfl]
  · have h6 := hx.2.2.2.2.2
    have k6 := hm.2.2.2.2.2
    rcases (show j = 0 ∨ j = 1 ∨ j = 2 ∨ j = 3 ∨ j = 4 ∨ j = 5 ∨ j = 6 ∨ j = 7 ∨ j = 8 ∨ j = 9 ∨ j = 10 ∨ j = 11 ∨ j = 12 ∨ j = 13 ∨ j = 14 ∨ j = 15 ∨ j = 16 by omega) with rfl | rfl | rfl | rfl | rfl | rfl | rfl | rfl | rfl | rfl | rfl | rfl | rfl | rfl | rfl | rfl | rfl
    iterate 11 exact ⟨_, rfl, rfl⟩
    · exact ⟨_, congrArg some (h6 1 (by omega)), congrArg some (k6 1 (by omega))⟩
    · exact ⟨_, congrArg some (h6 2 (by omega)), congrArg some (k6 2 (by omega))⟩
    · exact ⟨_, congrArg some (h6 3 (by omega)), congrArg some (k6 3 (by omega))⟩
    · exact ⟨_, congrArg some (h6 4 (by omega)), congrArg some (k6 4 (by omega))⟩
    · exact ⟨_, congrArg some (h6 5 (by omega)), congrArg some (k6 5 (by omega))⟩
    · exact ⟨_, congrArg some (h6 6 (by omega)), congrArg some (k6 6 (by omega))⟩
