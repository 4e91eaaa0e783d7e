/-! ring -/
/-- do the wheels below i fit a ring of r teeth: 0, 1 -/
def fitN (ρ : RG) (r : Nat) : Nat → Nat
  | 0 => 1
  | i + 1 => if rK ρ i 1 < r ∧ rK ρ i 4 < r then fitN ρ r i else 0
theorem fitN_01 (ρ : RG) (r i : Nat) : fitN ρ r i = 0 ∨ fitN ρ r i = 1 := by
  induction i with
  | zero => exact Or.inr rfl
  | succ i ih =>
    unfold fitN
    split
    · exact ih
    · exact Or.inl rfl
theorem fitN_down {ρ : RG} {r i : Nat} (h : fitN ρ r i = 1) : ∀ k, k < i → rK ρ k 1 < r ∧ rK ρ k 4 < r := by
  induction i with
  | zero => intro k hk; omega
  | succ i ih =>
    unfold fitN at h
    by_cases e : rK ρ i 1 < r ∧ rK ρ i 4 < r
    · rw [if_pos e] at h
      intro k hk
      by_cases q : k = i
      · subst q; exact e
      · exact ih h k (by omega)
    · rw [if_neg e] at h; cases h
theorem fitN_up {ρ : RG} {r i : Nat} (h : ∀ k, k < i → rK ρ k 1 < r ∧ rK ρ k 4 < r) : fitN ρ r i = 1 := by
  induction i with
  | zero => rfl
  | succ i ih =>
    unfold fitN
    rw [if_pos (h i (by omega))]
    exact ih (fun k hk => h k (by omega))
theorem fitN_no {ρ : RG} {r i n : Nat} (hi : i < n) (h : ¬ (rK ρ i 1 < r ∧ rK ρ i 4 < r)) : fitN ρ r n = 0 := by
  rcases fitN_01 ρ r n with e | e
  · exact e
  · exact absurd (fitN_down e i hi) h
theorem WR.k100 {ρ : RG} (h : WR ρ) {i : Nat} (hi : i < rN ρ) : rK ρ i 1 ≤ 100 ∧ rK ρ i 4 ≤ 100 := by
  obtain ⟨w1, w2, w3, w4, w5, w6⟩ := h
  obtain ⟨a1, a2, a3, a4, a5, a6, a7, a8⟩ := w6 i hi
  omega
theorem x_canHave {ρ : RG} {σ : SS} {r : Nat} (h : X1 ρ σ) (hw : WR ρ) (h3 : 3 ≤ r) (h60 : r ≤ 60) : f_X4_canHave 1 (nI r) σ = some (nI (fitN ρ r (rN ρ))) := by
  have h6 := hw.2.2.1
  obtain ⟨_, hn, _, _, hk⟩ := h
  unfold f_X4_canHave
  dsimp only [jn1]
  rw [if_neg (show ¬ nI r < 3 by rw [fa_lit 3, lt_nI (by omega) (by omega)]; omega), if_neg (show ¬ (60 : Int32) < nI r by rw [fa_lit 60, lt_nI (by omega) (by omega)]; omega)]
  obtain ⟨s, hs, e⟩ := loop_eq (fun fu i (s : Int32) => f_X4_canHave_L19 σ (fun (y2 : Int32) => ck (y2 = 0 ∨ y2 = 1) (some y2)) fu 1 (nI r) s (nI i)) (fun s => ck (s = 0 ∨ s = 1) (some s)) (rN ρ) (fun i s => s = nI (fitN ρ r i))
    (fun fu s _ => by
      simp only [f_X4_canHave_L19]
      rw [if_pos (show σ.1 1 1 ≤ nI (rN ρ) by rw [hn, le_nI (by omega) (by omega)]; omega)])
    (fun fu i s hi hI => by
      have k1 : σ.1 (5 + i) 1 = nI (rK ρ i 1) := hk i hi 1 (by omega)
      have k4 : σ.1 (5 + i) 4 = nI (rK ρ i 4) := hk i hi 4 (by omega)
      have hb := hw.k100 hi
      refine ⟨nI (fitN ρ r (i + 1)), rfl, ?_⟩
      simp only [f_X4_canHave_L19]
      rw [if_neg (show ¬ σ.1 1 1 ≤ nI i by rw [hn, le_nI (by omega) (by omega)]; omega)]
      rw [show (nI i + 1 : Int32) = nI (i + 1) by rw [fa_lit 1, nI_add]]
      by_cases h0 : fitN ρ r i = 0
      · rw [h0] at hI
        have e0 : fitN ρ r (i + 1) = 0 := by unfold fitN; rw [h0]; split <;> rfl
        rw [if_pos (show s = 0 from hI), e0]
        rfl
      · have h1 : fitN ρ r i = 1 := by have := fitN_01 ρ r i; omega
        rw [h1] at hI
        rw [if_neg (show ¬ s = 0 by rw [hI]; exact one0)]
        simp (disch := omega) only [RD, LN, cl_nI, ck_i, rid_wheel, k1, k4]
        by_cases e1 : rK ρ i 1 < r
        · rw [if_neg (show ¬ nI r ≤ nI (rK ρ i 1) by rw [le_nI (by omega) (by omega)]; omega)]
          by_cases e4 : rK ρ i 4 < r
          · rw [if_neg (show ¬ nI r ≤ nI (rK ρ i 4) by rw [le_nI (by omega) (by omega)]; omega)]
            have e0 : fitN ρ r (i + 1) = 1 := by unfold fitN; rw [if_pos ⟨e1, e4⟩, h1]
            rw [e0]; rfl
          · rw [if_pos (show nI r ≤ nI (rK ρ i 4) by rw [le_nI (by omega) (by omega)]; omega)]
            have e0 : fitN ρ r (i + 1) = 0 := by unfold fitN; rw [if_neg (fun z => e4 z.2)]
            rw [e0]; rfl
        · rw [if_pos (show nI r ≤ nI (rK ρ i 1) by rw [le_nI (by omega) (by omega)]; omega)]
          have e0 : fitN ρ r (i + 1) = 0 := by unfold fitN; rw [if_neg (fun z => e1 z.1)]
          rw [e0]; rfl)
    (fu := FU) (i := 0) (s := 1) (by omega) (FU_big (by omega)) rfl
  rw [show f_X4_canHave_L19 σ (fun (y2 : Int32) => ck (y2 = 0 ∨ y2 = 1) (some y2)) FU 1 (nI r) 1 0 = _ from e, hs]
  rcases fitN_01 ρ r (rN ρ) with q | q
  · rw [q]; rfl
  · rw [q]; rfl
theorem m_fitsAll {ρ : RG} {σ : SS} {r : Nat} (h : M1 ρ σ) (hw : WR ρ) (h60 : r ≤ 60) : f_X9_fitsAll 143 (nI r) σ = some (nI (fitN ρ r (rN ρ))) := by
  have h6 := hw.2.2.1
  obtain ⟨_, hn, _, _, hk⟩ := h
  unfold f_X9_fitsAll
  have := loop_ex (fun fu i (_ : Unit) => f_X9_fitsAll_L2 σ (fun (_ : Unit) => some 1) fu 143 (nI r) (nI i)) (fun _ => some 1) (rN ρ) (fun i _ => fitN ρ r i = 1) (fun b => b = some 0 ∧ fitN ρ r (rN ρ) = 0)
    (fun fu s _ => by
      simp only [f_X9_fitsAll_L2]
      rw [if_pos (show σ.1 143 3 ≤ nI (rN ρ) by rw [hn, le_nI (by omega) (by omega)]; omega)])
    (fun fu i s hi hI => by
      have k1 : σ.1 147 i = nI (rK ρ i 1) := hk i hi 1 (by omega)
      have k4 : σ.1 150 i = nI (rK ρ i 4) := hk i hi 4 (by omega)
      have hb := hw.k100 hi
      simp only [f_X9_fitsAll_L2]
      rw [if_neg (show ¬ σ.1 143 3 ≤ nI i by rw [hn, le_nI (by omega) (by omega)]; omega)]
      rw [show (nI i + 1 : Int32) = nI (i + 1) by rw [fa_lit 1, nI_add]]
      simp (disch := omega) only [RM, LN, cl_nI, ck_i, k1, k4]
      by_cases e1 : rK ρ i 1 < r
      · rw [if_neg (show ¬ nI r ≤ nI (rK ρ i 1) by rw [le_nI (by omega) (by omega)]; omega)]
        by_cases e4 : rK ρ i 4 < r
        · rw [if_pos (show nI (rK ρ i 4) < nI r by rw [lt_nI (by omega) (by omega)]; omega)]
          exact Or.inl ⟨(), by unfold fitN; rw [if_pos ⟨e1, e4⟩]; exact hI, rfl⟩
        · rw [if_neg (show ¬ nI (rK ρ i 4) < nI r by rw [lt_nI (by omega) (by omega)]; omega)]
          exact Or.inr ⟨rfl, fitN_no hi (fun z => e4 z.2)⟩
      · rw [if_pos (show nI r ≤ nI (rK ρ i 1) by rw [le_nI (by omega) (by omega)]; omega)]
        exact Or.inr ⟨rfl, fitN_no hi (fun z => e1 z.1)⟩)
    FU 0 () (by omega) (FU_big (by omega)) rfl
  rcases this with ⟨_, h1, e⟩ | ⟨e, h0⟩
  · rw [h1]; exact e
  · rw [h0]; exact e
/-- a ring of r teeth, dry and whole, with the wheels of ρ -/
def rNew (ρ : RG) (r : Nat) : RG := ((r, rN ρ), (fun _ => 0), (fun _ => 0), rK ρ)
theorem rNew_ok {ρ : RG} {r : Nat} (hw : WR ρ) (h3 : 3 ≤ r) (h60 : r ≤ 60) (hf : fitN ρ r (rN ρ) = 1) : WR (rNew ρ r) := by
  obtain ⟨w1, w2, w3, w4, w5, w6⟩ := hw
  refine ⟨h3, h60, w3, fun t => Nat.zero_le _, fun t => Nat.zero_le _, fun i hi => ?_⟩
  obtain ⟨a1, a2, a3, a4, a5, a6, a7, a8⟩ := w6 i hi
  have := fitN_down hf i hi
  exact ⟨a1, a2, this.1, a4, a5, a6, this.2, a8⟩
theorem x_renew {ρ : RG} {σ : SS} {r : Nat} (h : X1 ρ σ) (hw : WR ρ) (h3 : 3 ≤ r) (h60 : r ≤ 60) (hf : fitN ρ r (rN ρ) = 1) : ∃ σ', f_X4_renew 1 (nI r) σ = some σ' ∧ X1 (rNew ρ r) σ' ∧ ∀ q j, (q < 1 ∨ 10 < q) → σ'.1 q j = σ.1 q j := by
  have h6 := hw.2.2.1
  obtain ⟨s1, f1, f2, f3, _⟩ := x_fill (q := 2) (n := 60) (v := 0) (σ := sI σ 1 0 (nI r)) LN.1 (by omega)
  obtain ⟨s2, g1, g2, g3, _⟩ := x_fill (q := 3) (n := 60) (v := 0) (σ := s1) LN.2.1 (by omega)
  refine ⟨s2, ?_, ⟨?_, ?_, fun t ht => ?_, fun t ht => g2 t ht, fun i hi j hj => ?_⟩, fun q j hq => ?_⟩
  · unfold f_X4_renew
    rw [x_canHave h hw h3 h60, hf, Option.bind_some]
    try dsimp only
    rw [if_neg (show ¬ nI 1 = 0 by decide)]
    simp only [RD, f1, g1, Option.bind_some]
  · rw [g3 _ _ (by omega), f3 _ _ (by omega), rI_s]; rfl
  · rw [g3 _ _ (by omega), f3 _ _ (by omega), rI_j (by omega)]; exact h.2.1
  · rw [g3 _ _ (by omega)]; exact f2 t ht
  · rw [g3 _ _ (by omega), f3 _ _ (by omega), rI_q (by omega)]; exact h.2.2.2.2 i hi j hj
  · rw [g3 _ _ (by omega), f3 _ _ (by omega), rI_q (by omega)]
theorem m_becomes {ρ : RG} {σ : SS} {r : Nat} (h : M1 ρ σ) : ∃ σ', f_X9_becomes 143 (nI r) σ = some σ' ∧ M1 (rNew ρ r) σ' ∧ ∀ q j, ¬ (q = 143 ∧ j = 0) → ¬ q = 144 → ¬ q = 145 → σ'.1 q j = σ.1 q j := by
  unfold f_X9_becomes
  obtain ⟨s, ⟨h1, h2⟩, e⟩ := loop_eq (fun fu i (s : SS) => f_X9_becomes_L7 (fun (τ : SS) => some τ) fu 143 (nI i) s) (fun s => some s) 60 (fun i s => (∀ k, k < i → s.1 144 k = 0 ∧ s.1 145 k = 0) ∧ ∀ a b, ¬ a = 144 → ¬ a = 145 → s.1 a b = (sI σ 143 0 (nI r)).1 a b)
    (fun fu s _ => by
      simp only [f_X9_becomes_L7]
      rw [if_pos (show (60 : Int32) ≤ nI 60 by decide)])
    (fun fu i s hi hI => by
      obtain ⟨i1, i2⟩ := hI
      refine ⟨sI (sI s 144 i 0) 145 i 0, ⟨fun k hk => ?_, fun a b ha hb => ?_⟩, ?_⟩
      · by_cases e : k = i
        · subst e
          exact ⟨by rw [rI_q (by omega), rI_s], by rw [rI_s]⟩
        · exact ⟨by rw [rI_j (by omega), rI_j (by omega)]; exact (i1 k (by omega)).1, by rw [rI_j (by omega), rI_j (by omega)]; exact (i1 k (by omega)).2⟩
      · rw [rI_q (by omega), rI_q (by omega)]
        exact i2 a b ha hb
      · simp (disch := omega) only [f_X9_becomes_L7, RM, LN, ol_add, cl_nI, ck_i]
        rw [if_neg (show ¬ (60 : Int32) ≤ nI i by rw [fa_lit 60, le_nI (by omega) (by omega)]; omega)])
    (fu := FU) (i := 0) (s := sI σ 143 0 (nI r)) (by omega) (FU_big (by omega)) ⟨fun k hk => by omega, fun _ _ _ _ => rfl⟩
  refine ⟨s, e, ⟨?_, ?_, fun t ht => (h1 t ht).2, fun t ht => (h1 t ht).1, fun i hi j hj => ?_⟩, fun q j a b c => ?_⟩
  · rw [h2 _ _ (by omega) (by omega), rI_s]; rfl
  · rw [h2 _ _ (by omega) (by omega), rI_j (by omega)]; exact h.2.1
  · rw [h2 _ _ (by omega) (by omega), rI_q (by omega)]; exact h.2.2.2.2 i hi j hj
  · rw [h2 _ _ b c, rI_i, if_neg a]
theorem pc_ring_ok : pc_ring Rel := by
  rintro σ c ⟨A, hx, hm, hw⟩
  by_cases c3 : (3 : Int32) ≤ c
  · rcases ix_cases c (n := 61) (by omega) with hb | ⟨r, hr, rfl⟩
    · have h60 : ¬ c ≤ (60 : Int32) := le_bad (n := 60) hb (by omega) (Int32.le_trans (by decide) c3)
      refine both_ref (-6) 6 hx hm hw (fun τ h => ?_) (fun τ h => ?_)
      · unfold f_X8_ring
        rw [if_pos c3, if_neg h60]
        simp only [x_ref, Option.bind_some]
      · unfold f_X9_ring
        rw [if_pos c3, if_neg h60]
        simp only [m_ref, Option.bind_some]
    · have h60 : nI r ≤ (60 : Int32) := by rw [fa_lit 60, le_nI (by omega) (by omega)]; omega
      have h3 : 3 ≤ r := by rw [fa_lit 3, le_nI (by omega) (by omega)] at c3; exact c3
      rcases fitN_01 A.1 r (rN A.1) with hf | hf
      · refine both_ref (-3) 3 hx hm hw (fun τ h => ?_) (fun τ h => ?_)
        · unfold f_X8_ring
          simp only [RD]
          rw [if_pos c3, if_pos h60, x_canHave h.1 hw.1 h3 (by omega), hf, Option.bind_some]
          try dsimp only
          rw [if_pos (show nI 0 = 0 from rfl)]
          simp only [x_ref, Option.bind_some]
        · unfold f_X9_ring
          rw [if_pos c3, if_pos h60, m_fitsAll h.1 hw.1 (by omega), hf, Option.bind_some]
          try dsimp only
          rw [if_pos (show nI 0 = 0 from rfl)]
          simp only [m_ref, Option.bind_some]
      · have hW := rNew_ok hw.1 h3 (by omega) hf
        refine both (r := nI (rT A.1)) (A' := aBe A (rNew A.1 r) []) hx hm hw (hw.fresh hW) (fun τ h => ?_) (fun τ h => ?_)
        · obtain ⟨τ', f1, f2, f3⟩ := x_renew h.1 hw.1 h3 (by omega) hf
          have fr : ∀ q j, (q < 1 ∨ 10 < q) → ¬ (q = 31 ∧ j = 1) → (sI τ' 31 1 0).1 q j = τ.1 q j := fun q j a b => by rw [rI_i, if_neg b]; exact f3 q j a
          refine ⟨sI τ' 31 1 0, ?_, h.be hw (X1.of hW.2.2.1 f2 (fun q j _ _ => rI_q (by omega))) (X3_nil h.2.2.1 rI_s (fr _ _ (by omega) (by omega))) (fun q j hq => fr q j (by omega) (by omega)), fun q j hq => fr q j (by omega) (by omega)⟩
          unfold f_X8_ring f_X3_forget
          simp only [RD]
          rw [if_pos c3, if_pos h60, x_canHave h.1 hw.1 h3 (by omega), hf, Option.bind_some]
          try dsimp only
          rw [if_neg (show ¬ nI 1 = 0 by decide), f1, Option.bind_some]
          try dsimp only
          rw [Option.bind_some, h.1.1]
        · obtain ⟨τ', f1, f2, f3⟩ := m_becomes (r := r) h.1
          refine ⟨sI τ' 143 15 0, ?_, h.be (M1.of hW.2.2.1 f2 (rI_j (by omega)) (rI_j (by omega)) (fun q j _ _ => rI_q (by omega))) (M3_nil rI_s) (fun q j a b d _ => by rw [rI_i, if_neg (by omega)]; exact f3 q j (by omega) (by omega) (by omega)), fun q j hq => by rw [rI_i, if_neg (by omega)]; exact f3 q j (by omega) (by omega) (by omega)⟩
          unfold f_X9_ring
          rw [if_pos c3, if_pos h60, m_fitsAll h.1 hw.1 (by omega), hf, Option.bind_some]
          try dsimp only
          rw [if_neg (show ¬ nI 1 = 0 by decide), f1, Option.bind_some]
          try dsimp only
          rw [h.1.1]
  · refine both_ref (-4) 4 hx hm hw (fun τ h => ?_) (fun τ h => ?_)
    · unfold f_X8_ring
      rw [if_neg c3]
      simp only [x_ref, Option.bind_some]
    · unfold f_X9_ring
      rw [if_neg c3]
      simp only [m_ref, Option.bind_some]
