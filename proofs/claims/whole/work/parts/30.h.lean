/-! what can be undone is kept: the model; puts, wears -/
theorem m_lay63 {P : Nat} (hP : P ≤ 924) (τ : SS) {κ : Nat → Int32 → SS → Option SS} : ∃ σ', f_X9_layBy_L63 κ FU 143 (nI P) 0 τ = κ 143 (nI P) σ' ∧ (∀ k, k < 6 → σ'.1 155 (P + k) = τ.1 150 k ∧ σ'.1 155 (P + 6 + k) = τ.1 151 k) ∧ ∀ q j, ¬ (q = 155 ∧ P ≤ j ∧ j < P + 12) → σ'.1 q j = τ.1 q j := by
  obtain ⟨s, ⟨h1, h2⟩, e⟩ := loop_eq (fun fu i (s : SS) => f_X9_layBy_L63 κ fu 143 (nI P) (nI i) s) (fun s => κ 143 (nI P) s) 6 (fun i s => (∀ k, k < i → s.1 155 (P + k) = τ.1 150 k ∧ s.1 155 (P + 6 + k) = τ.1 151 k) ∧ ∀ q j, ¬ (q = 155 ∧ P ≤ j ∧ j < P + 12) → s.1 q j = τ.1 q j)
    (fun fu s _ => by
      simp only [f_X9_layBy_L63]
      rw [if_pos (show (6 : Int32) ≤ nI 6 by decide)])
    (fun fu i s hi hI => by
      refine ⟨sI (sI s 155 (P + i) (s.1 150 i)) 155 (P + 6 + i) (s.1 151 i), ⟨fun k hk => ?_, fun q j hq => ?_⟩, ?_⟩
      · by_cases e : k = i
        · subst e
          exact ⟨by rw [rI_j (by omega), rI_s]; exact hI.2 _ _ (by omega), by rw [rI_s]; exact hI.2 _ _ (by omega)⟩
        · exact ⟨by rw [rI_j (by omega), rI_j (by omega)]; exact (hI.1 k (by omega)).1, by rw [rI_j (by omega), rI_j (by omega)]; exact (hI.1 k (by omega)).2⟩
      · rw [rI_i, if_neg (by omega), rI_i, if_neg (by omega)]
        exact hI.2 q j hq
      · simp (disch := omega) only [f_X9_layBy_L63, RM, LN, ol_add, nI_add, cl_nI, ck_i, rI_q]
        rw [if_neg (show ¬ (6 : Int32) ≤ nI i by rw [fa_lit 6, le_nI (by omega) (by omega)]; omega)])
    (fu := FU) (i := 0) (s := τ) (by omega) (FU_big (by omega)) ⟨fun k hk => by omega, fun _ _ _ => rfl⟩
  exact ⟨s, e, h1, h2⟩
theorem m_lay108 {P : Nat} (hP : P ≤ 924) (τ : SS) {κ : Nat → SS → Option SS} : ∃ σ', f_X9_layBy_L108 κ FU 143 (nI P) 0 τ = κ 143 σ' ∧ (∀ k, k < 60 → σ'.1 155 (P + 12 + k) = τ.1 145 k ∧ σ'.1 155 (P + 72 + k) = τ.1 144 k) ∧ ∀ q j, ¬ (q = 155 ∧ P + 12 ≤ j ∧ j < P + 132) → σ'.1 q j = τ.1 q j := by
  obtain ⟨s, ⟨h1, h2⟩, e⟩ := loop_eq (fun fu i (s : SS) => f_X9_layBy_L108 κ fu 143 (nI P) (nI i) s) (fun s => κ 143 s) 60 (fun i s => (∀ k, k < i → s.1 155 (P + 12 + k) = τ.1 145 k ∧ s.1 155 (P + 72 + k) = τ.1 144 k) ∧ ∀ q j, ¬ (q = 155 ∧ P + 12 ≤ j ∧ j < P + 132) → s.1 q j = τ.1 q j)
    (fun fu s _ => by
      simp only [f_X9_layBy_L108]
      rw [if_pos (show (60 : Int32) ≤ nI 60 by decide)])
    (fun fu i s hi hI => by
      refine ⟨sI (sI s 155 (P + 12 + i) (s.1 145 i)) 155 (P + 72 + i) (s.1 144 i), ⟨fun k hk => ?_, fun q j hq => ?_⟩, ?_⟩
      · by_cases e : k = i
        · subst e
          exact ⟨by rw [rI_j (by omega), rI_s]; exact hI.2 _ _ (by omega), by rw [rI_s]; exact hI.2 _ _ (by omega)⟩
        · exact ⟨by rw [rI_j (by omega), rI_j (by omega)]; exact (hI.1 k (by omega)).1, by rw [rI_j (by omega), rI_j (by omega)]; exact (hI.1 k (by omega)).2⟩
      · rw [rI_i, if_neg (by omega), rI_i, if_neg (by omega)]
        exact hI.2 q j hq
      · simp (disch := omega) only [f_X9_layBy_L108, RM, LN, ol_add, nI_add, cl_nI, ck_i, rI_q]
        rw [if_neg (show ¬ (60 : Int32) ≤ nI i by rw [fa_lit 60, le_nI (by omega) (by omega)]; omega)])
    (fu := FU) (i := 0) (s := τ) (by omega) (FU_big (by omega)) ⟨fun k hk => by omega, fun _ _ _ => rfl⟩
  exact ⟨s, e, h1, h2⟩
theorem m_lay13 (τ : SS) {κ : Nat → SS → Option SS} : ∃ σ', f_X9_layBy_L13 κ FU 143 132 τ = κ 143 σ' ∧ (∀ j, j < 924 → σ'.1 155 j = τ.1 155 (j + 132)) ∧ ∀ q j, ¬ q = 155 → σ'.1 q j = τ.1 q j := by
  obtain ⟨s, ⟨-, h1, h2, h3⟩, e⟩ := loop_eq (fun fu i (s : SS) => f_X9_layBy_L13 κ fu 143 (nI i) s) (fun s => κ 143 s) 1056 (fun i s => 132 ≤ i ∧ (∀ j, j + 132 < i → s.1 155 j = τ.1 155 (j + 132)) ∧ (∀ j, i ≤ j + 132 → s.1 155 j = τ.1 155 j) ∧ ∀ q j, ¬ q = 155 → s.1 q j = τ.1 q j)
    (fun fu s _ => by
      simp only [f_X9_layBy_L13]
      rw [if_pos (show (1056 : Int32) ≤ nI 1056 by decide)])
    (fun fu i s hi hI => by
      obtain ⟨h132, i1, i2, i3⟩ := hI
      refine ⟨sI s 155 (i - 132) (s.1 155 i), ⟨by omega, fun j hj => ?_, fun j hj => ?_, fun q j hq => ?_⟩, ?_⟩
      · by_cases e : j = i - 132
        · rw [e, rI_s, show i - 132 + 132 = i by omega]
          exact i2 i (by omega)
        · rw [rI_j e]
          exact i1 j (by omega)
      · rw [rI_j (by omega)]
        exact i2 j (by omega)
      · rw [rI_q hq]
        exact i3 q j hq
      · have e132 : nI i - 132 = nI (i - 132) := by rw [fa_lit 132, sub_nI h132]
        simp (disch := omega) only [f_X9_layBy_L13, RM, LN, ol_add, e132, cl_nI, ck_i]
        rw [if_neg (show ¬ (1056 : Int32) ≤ nI i by rw [fa_lit 1056, le_nI (by omega) (by omega)]; omega)])
    (fu := FU) (i := 132) (s := τ) (by omega) (FU_big (by omega)) ⟨Nat.le_refl _, fun k hk => by omega, fun _ _ => rfl, fun _ _ _ => rfl⟩
  exact ⟨s, e, fun j hj => h1 j (by omega), h3⟩
theorem MB.of {σ σ' : SS} {k k' : Nat} {ρ : RG} (hn : rN ρ ≤ 6) (h : MB σ k ρ) (e : ∀ b, b < 132 → σ'.1 155 (132 * k' + b) = σ.1 155 (132 * k + b)) : MB σ' k' ρ := by
  obtain ⟨h1, h2, h3⟩ := h
  exact ⟨fun t ht => by rw [show 132 * k' + 12 + t = 132 * k' + (12 + t) by omega, e _ (by omega), show 132 * k + (12 + t) = 132 * k + 12 + t by omega]; exact h1 t ht,
    fun t ht => by rw [show 132 * k' + 72 + t = 132 * k' + (72 + t) by omega, e _ (by omega), show 132 * k + (72 + t) = 132 * k + 72 + t by omega]; exact h2 t ht,
    fun i hi => ⟨by rw [e _ (by omega)]; exact (h3 i hi).1, by rw [show 132 * k' + 6 + i = 132 * k' + (6 + i) by omega, e _ (by omega), show 132 * k + (6 + i) = 132 * k + 6 + i by omega]; exact (h3 i hi).2⟩⟩
/-- the second half: what is, is laid by at place u -/
theorem m_lay2 {ρ : RG} {τ : SS} {u : Nat} (hu : u ≤ 7) (h : M1 ρ τ) (hn : rN ρ ≤ 6) (hτ : τ.1 143 15 = nI u) : ∃ σ', f_X9_layBy_L63 (fun (p0 : Nat) (y1 : Int32) (τ : SS) => f_X9_layBy_L108 (fun (p0 : Nat) (τ : SS) => some (sI τ p0 15 ((τ.1 p0 15) + 1))) FU p0 y1 0 τ) FU 143 ((τ.1 143 15) * 132) 0 τ = some σ' ∧ MB σ' u ρ ∧ σ'.1 143 15 = nI (u + 1) ∧ (∀ b, (b < 132 * u ∨ 132 * u + 132 ≤ b) → σ'.1 155 b = τ.1 155 b) ∧ ∀ q j, ¬ q = 155 → ¬ (q = 143 ∧ j = 15) → σ'.1 q j = τ.1 q j := by
  have e1 : τ.1 143 15 * 132 = nI (132 * u) := by rw [hτ, fa_lit 132, pk_mul, Nat.mul_comm]
  obtain ⟨s1, f1, f2, f3⟩ := m_lay63 (P := 132 * u) (by omega) τ (κ := fun (p0 : Nat) (y1 : Int32) (τ : SS) => f_X9_layBy_L108 (fun (p0 : Nat) (τ : SS) => some (sI τ p0 15 ((τ.1 p0 15) + 1))) FU p0 y1 0 τ)
  obtain ⟨s2, g1, g2, g3⟩ := m_lay108 (P := 132 * u) (by omega) s1 (κ := fun (p0 : Nat) (τ : SS) => some (sI τ p0 15 ((τ.1 p0 15) + 1)))
  have k15 : s2.1 143 15 = nI u := by rw [g3 _ _ (by omega), f3 _ _ (by omega)]; exact hτ
  refine ⟨sI s2 143 15 (nI (u + 1)), ?_, ⟨fun t ht => ?_, fun t ht => ?_, fun i hi => ⟨?_, ?_⟩⟩, rI_s, fun b hb => ?_, fun q j h1 h2 => ?_⟩
  · rw [e1, f1]
    try dsimp only
    rw [g1]
    try dsimp only
    rw [k15, fa_lit 1, nI_add]
  · rw [rI_q (by omega), (g2 t ht).1, f3 _ _ (by omega)]
    exact h.2.2.1 t ht
  · rw [rI_q (by omega), (g2 t ht).2, f3 _ _ (by omega)]
    exact h.2.2.2.1 t ht
  · rw [rI_q (by omega), g3 _ _ (by omega), (f2 i (by omega)).1]
    exact h.2.2.2.2 i hi 4 (by omega)
  · rw [rI_q (by omega), g3 _ _ (by omega), (f2 i (by omega)).2]
    exact h.2.2.2.2 i hi 5 (by omega)
  · rw [rI_q (by omega), g3 _ _ (by omega), f3 _ _ (by omega)]
  · rw [rI_i, if_neg h2, g3 _ _ (by omega), f3 _ _ (by omega)]
theorem m_layBy {A : AB} {σ : SS} (hw : WF A) (h : MH A σ) : ∃ σ', f_X9_layBy 143 σ = some σ' ∧ M3 (pu A.1 A.2.2.1) σ' ∧ ∀ q j, ¬ q = 155 → ¬ (q = 143 ∧ j = 15) → σ'.1 q j = σ.1 q j := by
  have hlen := hw.2.2.1.1
  obtain ⟨hk, hr⟩ := h.2.2.1
  have hn1 := hw.n1
  have hn3 := hw.n3
  dsimp only [f_X9_layBy, jn2]
  generalize A.2.2.1 = l at *
  by_cases h8 : l.length = 8
  · rw [hk, h8, if_pos (show nI 8 = 8 from rfl)]
    obtain ⟨s, f1, f2, f3⟩ := m_lay13 σ (κ := fun (p0 : Nat) (τ : SS) => f_X9_layBy_L63 (fun (p0 : Nat) (y1 : Int32) (τ : SS) => f_X9_layBy_L108 (fun (p0 : Nat) (τ : SS) => some (sI τ p0 15 ((τ.1 p0 15) + 1))) FU p0 y1 0 τ) FU p0 (((sI τ p0 15 ((τ.1 p0 15) - 1)).1 p0 15) * 132) 0 (sI τ p0 15 ((τ.1 p0 15) - 1)))
    rw [f1]
    try dsimp only
    have k15 : s.1 143 15 = nI 8 := by rw [f3 _ _ (by omega), hk, h8]
    have e7 : nI 8 - 1 = nI 7 := by decide
    rw [k15, e7]
    obtain ⟨σ', g1, g2, g3, g4, g5⟩ := m_lay2 (ρ := A.1) (τ := sI s 143 15 (nI 7)) (u := 7) (by omega) (h.1.of hn1 (by rw [rI_j (by omega)]; exact f3 _ _ (by omega)) (by rw [rI_j (by omega)]; exact f3 _ _ (by omega)) (fun q j _ _ => by rw [rI_q (by omega)]; exact f3 _ _ (by omega))) hn1 rI_s
    refine ⟨σ', g1, ⟨by rw [g3, pu_len, h8]; rfl, fun k ρ hk' => ?_⟩, fun q j h1 h2 => ?_⟩
    · rw [pu_len, h8]
      obtain ⟨hk8, hx⟩ := pu_get hk'
      rcases hx with ⟨rfl, rfl⟩ | ⟨k', rfl, hx⟩
      · exact g2
      · have hk9 : k' < 8 := by rw [← h8]; exact (List.getElem?_eq_some_iff.mp hx).1
        have := hr k' ρ hx
        rw [h8] at this
        refine this.of (hn3 ρ (List.mem_of_getElem? hx)) (fun b hb => ?_)
        rw [g4 _ (by omega), rI_q (by omega), f2 _ (by omega)]
        exact congrArg (σ.1 155) (by omega)
    · rw [g5 q j h1 h2, rI_i, if_neg h2]
      exact f3 q j h1
  · have hl7 : l.length ≤ 7 := by omega
    rw [if_neg (show ¬ σ.1 143 15 = 8 by rw [hk, fa_lit 8, eq_nI (by omega) (by omega)]; exact h8)]
    obtain ⟨σ', g1, g2, g3, g4, g5⟩ := m_lay2 (ρ := A.1) (τ := σ) (u := l.length) hl7 h.1 hn1 hk
    refine ⟨σ', g1, ⟨by rw [g3, pu_len, Nat.min_eq_left (by omega)], fun k ρ hk' => ?_⟩, g5⟩
    rw [pu_len, Nat.min_eq_left (by omega)]
    obtain ⟨hk8, hx⟩ := pu_get hk'
    rcases hx with ⟨rfl, rfl⟩ | ⟨k', rfl, hx⟩
    · exact g2
    · have hk9 : k' < l.length := (List.getElem?_eq_some_iff.mp hx).1
      rw [show l.length + 1 - 1 - (k' + 1) = l.length - 1 - k' by omega]
      exact (hr k' ρ hx).of (hn3 ρ (List.mem_of_getElem? hx)) (fun b hb => g4 _ (by omega))
