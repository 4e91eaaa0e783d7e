/-! sets of wheels, ticks -/
theorem two_N : ∀ N, N ≤ 6 → (1 : Int32) <<< (nI N &&& 31) = nI (2 ^ N) := by decide +kernel
theorem pow_N {N : Nat} (h : N ≤ 6) : 1 ≤ 2 ^ N ∧ 2 ^ N ≤ 64 := by
  rcases (show N = 0 ∨ N = 1 ∨ N = 2 ∨ N = 3 ∨ N = 4 ∨ N = 5 ∨ N = 6 by omega) with rfl | rfl | rfl | rfl | rfl | rfl | rfl <;> decide
theorem set_bit : ∀ s, s < 64 → ∀ w, w < 6 → (((nI s >>> (nI w &&& 31)) &&& 1) = 1 ↔ s.testBit w = true) := by decide +kernel
theorem set_cases (c : Int32) (N : Nat) (hN : N ≤ 6) : (c < 1 ∨ nI (2 ^ N) ≤ c) ∨ ∃ s, 1 ≤ s ∧ s < 2 ^ N ∧ c = nI s := by
  have hp := pow_N hN
  rcases ix_cases c (n := 2 ^ N) (by omega) with (q | q) | ⟨j, hj, rfl⟩
  · exact Or.inl (Or.inl (neg_i q (k := 1) (by omega)).1)
  · exact Or.inl (Or.inr q)
  · cases j with
    | zero => exact Or.inl (Or.inl (by decide))
    | succ j => exact Or.inr ⟨j + 1, by omega, hj, rfl⟩
theorem x_set {σ : SS} {N s : Nat} (h : σ.1 1 1 = nI N) (hN : N ≤ 6) (h1 : 1 ≤ s) (h2 : s < 2 ^ N) : f_X4_isSet 1 (nI s) σ = 1 := by
  have hp := pow_N hN
  unfold f_X4_isSet
  rw [h, two_N N hN, if_neg (show ¬ nI s < 1 by rw [fa_lit 1, lt_nI (by omega) (by omega)]; omega), if_neg (by rw [le_nI (by omega) (by omega)]; omega)]
theorem x_set_bad {σ : SS} {N : Nat} {c : Int32} (h : σ.1 1 1 = nI N) (hN : N ≤ 6) (hb : c < 1 ∨ nI (2 ^ N) ≤ c) : f_X4_isSet 1 c σ = 0 := by
  unfold f_X4_isSet
  rw [h, two_N N hN]
  by_cases q : c < 1
  · rw [if_pos q]
  · rw [if_neg q, if_pos (hb.resolve_left q)]
theorem m_set {σ : SS} {N s : Nat} (h : σ.1 143 3 = nI N) (hN : N ≤ 6) (h1 : 1 ≤ s) (h2 : s < 2 ^ N) : f_X9_isSet 143 (nI s) σ = 1 := by
  have hp := pow_N hN
  unfold f_X9_isSet
  rw [h, two_N N hN, show nI (2 ^ N) - 1 = nI (2 ^ N - 1) from ol_sub (n := 1) (by omega)]
  exact within_ok (a := 1) h1 (by omega) (by omega)
theorem m_set_bad {σ : SS} {N : Nat} {c : Int32} (h : σ.1 143 3 = nI N) (hN : N ≤ 6) (hb : c < 1 ∨ nI (2 ^ N) ≤ c) : f_X9_isSet 143 c σ = 0 := by
  have hp := pow_N hN
  unfold f_X9_isSet f_X9_within
  rw [h, two_N N hN, show nI (2 ^ N) - 1 = nI (2 ^ N - 1) from ol_sub (n := 1) (by omega)]
  by_cases q : c < 1
  · rw [if_pos q]
  · rw [if_neg q, if_pos (big_i (hb.resolve_left q) (show 2 ^ N - 1 < 2 ^ N by omega) (by omega)).1]
/-- who touches at a tick -/
def tc (ρ : RG) (s tick w : Nat) : Bool := s.testBit w && decide (w < rN ρ) && decide (tick % rK ρ w 3 = 0)
def mv (ρ : RG) (s tick : Nat) (pos : Nat → Nat) (w : Nat) : Nat := if tc ρ s tick w = true then nxW ρ w (pos w) else pos w
theorem bit_N {s N w : Nat} (h : s < 2 ^ N) (hw : N ≤ w) : s.testBit w = false := Nat.testBit_lt_two_pow (Nat.lt_of_lt_of_le h (Nat.pow_le_pow_right (by omega) hw))
theorem tc_lt {ρ : RG} {s tick w : Nat} (h : tc ρ s tick w = true) : w < rN ρ := by
  unfold tc at h
  rw [Bool.and_eq_true, Bool.and_eq_true, decide_eq_true_eq] at h
  exact h.1.2
theorem x_pass {ρ : RG} {σ : SS} {s tick : Nat} {pos : Nat → Nat} (h : X1 ρ σ) (hw : WR ρ) (hs : s < 2 ^ rN ρ) (ht : tick ≤ 1000) (hp : ∀ w, w < rN ρ → σ.1 129 w = nI (pos w) ∧ pos w < rT ρ) :
    ∃ σ', f_X6_passTick 128 1 (nI s) (nI tick) σ = some σ' ∧ (∀ w, w < rN ρ → σ'.1 129 w = nI (mv ρ s tick pos w) ∧ mv ρ s tick pos w < rT ρ) ∧ (∀ w, w < 6 → σ'.1 130 w = if tc ρ s tick w = true then 1 else 0) ∧ ∀ q j, ¬ q = 129 → ¬ q = 130 → σ'.1 q j = σ.1 q j := by
  have hR := hw.2.1
  have hN := hw.2.2.1
  have h64 := pow_N hN
  obtain ⟨σ', ⟨h1, h2, h3, h4⟩, e⟩ := loop_eq (fun fu i (τ : SS) => f_X6_passTick_L3 (fun (τ : SS) => some τ) fu 128 1 (nI s) (nI tick) (nI i) τ) (fun τ => some τ) 6 (fun i τ => (∀ w, w < rN ρ → w < i → τ.1 129 w = nI (mv ρ s tick pos w)) ∧ (∀ w, w < rN ρ → i ≤ w → τ.1 129 w = nI (pos w)) ∧ (∀ w, w < i → τ.1 130 w = if tc ρ s tick w = true then 1 else 0) ∧ ∀ q j, ¬ q = 129 → ¬ q = 130 → τ.1 q j = σ.1 q j)
    (fun fu τ hI => by
      simp only [f_X6_passTick_L3]
      rw [if_pos (show (6 : Int32) ≤ nI 6 by decide)])
    (fun fu i τ hi hI => by
      obtain ⟨i1, i2, i3, i4⟩ := hI
      have hb := set_bit s (by omega) i hi
      have hX : X1 ρ τ := X1.of hN h (fun q j _ _ => i4 q j (by omega) (by omega))
      have no : tc ρ s tick i = false → ∃ s', ((∀ w, w < rN ρ → w < i + 1 → s'.1 129 w = nI (mv ρ s tick pos w)) ∧ (∀ w, w < rN ρ → i + 1 ≤ w → s'.1 129 w = nI (pos w)) ∧ (∀ w, w < i + 1 → s'.1 130 w = if tc ρ s tick w = true then 1 else 0) ∧ ∀ q j, ¬ q = 129 → ¬ q = 130 → s'.1 q j = σ.1 q j) ∧ s' = sI τ 130 i 0 := fun hc => by
        refine ⟨_, ⟨fun w hw hwi => ?_, fun w hw hwi => ?_, fun w hwi => ?_, fun q j hq hq2 => ?_⟩, rfl⟩
        · rw [rI_q (by omega)]
          by_cases e : w = i
          · subst e
            unfold mv
            rw [hc, if_neg (by decide)]
            exact i2 w hw (by omega)
          · exact i1 w hw (by omega)
        · rw [rI_q (by omega)]
          exact i2 w hw (by omega)
        · by_cases e : w = i
          · subst e
            rw [rI_s, hc, if_neg (by decide)]
          · rw [rI_j e]
            exact i3 w (by omega)
        · rw [rI_q hq2]
          exact i4 q j hq hq2
      simp only [f_X6_passTick_L3, RD, LN, jn1]
      rw [if_neg (show ¬ (6 : Int32) ≤ nI i by rw [fa_lit 6, le_nI (by omega) (by omega)]; omega), cl_nI (by omega), ck_i (by omega) (by omega), rid_wheel hi]
      by_cases hbit : s.testBit i = true
      · have hiN : i < rN ρ := by
          rcases Nat.lt_or_ge i (rN ρ) with q | q
          · exact q
          · rw [bit_N hs q] at hbit
            exact absurd hbit (by decide)
        obtain ⟨a1, a2, a3, a4, a5, a6, a7, a8⟩ := hw.2.2.2.2.2 i hiN
        have e3 : τ.1 (5 + i) 3 = nI (rK ρ i 3) := hX.2.2.2.2 i hiN 3 (by omega)
        rw [if_pos (hb.mpr hbit), e3, mod_nat (by omega) (by omega) (by omega)]
        have hlt := Nat.mod_lt tick (show rK ρ i 3 > 0 by omega)
        by_cases hm : tick % rK ρ i 3 = 0
        · have hc : tc ρ s tick i = true := by unfold tc; rw [hbit, decide_eq_true hiN, decide_eq_true hm]; rfl
          have p1 := i2 i hiN (Nat.le_refl i)
          have p2 := (hp i hiN).2
          have hX' : X1 ρ (sI τ 130 i 1) := X1.of hN hX (fun q j _ _ => rI_q (by omega))
          have hnx := x_nextW hX' hw hiN p2
          refine ⟨sI (sI τ 130 i 1) 129 i (nI (nxW ρ i (pos i))), ⟨fun w hw' hwi => ?_, fun w hw hwi => ?_, fun w hwi => ?_, fun q j hq hq2 => ?_⟩, ?_⟩
          · by_cases e : w = i
            · subst e
              rw [rI_s]
              unfold mv
              rw [if_pos hc]
            · rw [rI_j e, rI_q (by omega)]
              exact i1 w hw' (by omega)
          · rw [rI_j (by omega), rI_q (by omega)]
            exact i2 w hw (by omega)
          · rw [rI_q (by omega)]
            by_cases e : w = i
            · subst e
              rw [rI_s, hc, if_pos rfl]
            · rw [rI_j e]
              exact i3 w (by omega)
          · rw [rI_q hq, rI_q hq2]
            exact i4 q j hq hq2
          · rw [if_pos (show nI (tick % rK ρ i 3) = 0 by rw [hm]; rfl), ck_i (by omega) (by omega), ck_pos (Or.inr trivial), ck_i (by omega) (by omega), rI_s, if_neg one0, ck_i (by omega) (by omega), rI_q (by omega), p1, hnx, Option.bind_some, ck_i (by omega) (by omega), ol_add]
            rfl
        · have hc : tc ρ s tick i = false := by unfold tc; rw [decide_eq_false hm, Bool.and_false]
          obtain ⟨s', k1, rfl⟩ := no hc
          refine ⟨_, k1, ?_⟩
          rw [if_neg (show ¬ nI (tick % rK ρ i 3) = 0 by rw [eq_nI0 (by omega)]; exact hm), ck_i (by omega) (by omega), ck_pos (Or.inl trivial), ck_i (by omega) (by omega), rI_s, if_pos rfl, ol_add]
      · have hc : tc ρ s tick i = false := by unfold tc; rw [Bool.not_eq_true] at hbit; rw [hbit]; rfl
        obtain ⟨s', k1, rfl⟩ := no hc
        refine ⟨_, k1, ?_⟩
        rw [if_neg (fun z => hbit (hb.mp z)), ck_i (by omega) (by omega), ck_pos (Or.inl trivial), ck_i (by omega) (by omega), rI_s, if_pos rfl, ol_add])
    (fu := FU) (i := 0) (s := σ) (by omega) (FU_big (by omega)) ⟨fun w _ h => by omega, fun w hw _ => (hp w hw).1, fun w h => by omega, fun _ _ _ _ => rfl⟩
  refine ⟨σ', e, fun w hw' => ⟨h1 w hw' (by omega), ?_⟩, h3, h4⟩
  unfold mv
  split
  · exact nxW_lt hw _ _
  · exact (hp w hw').2
theorem m_ticks {ρ : RG} {σ : SS} {s tick : Nat} {pos : Nat → Nat} (h : M1 ρ σ) (hw : WR ρ) (hs : s < 2 ^ rN ρ) (ht : tick ≤ 1000) (hp : ∀ w, w < rN ρ → σ.1 170 w = nI (pos w) ∧ pos w < rT ρ) :
    ∃ σ', f_X9_ticks 143 (nI s) (nI tick) σ = some σ' ∧ (∀ w, w < rN ρ → σ'.1 170 w = nI (mv ρ s tick pos w) ∧ mv ρ s tick pos w < rT ρ) ∧ (∀ w, w < rN ρ → σ'.1 171 w = if tc ρ s tick w = true then 1 else 0) ∧ ∀ q j, ¬ q = 170 → ¬ q = 171 → σ'.1 q j = σ.1 q j := by
  have hR := hw.2.1
  have hN := hw.2.2.1
  have h64 := pow_N hN
  obtain ⟨σ', ⟨h1, h2, h3, h4⟩, e⟩ := loop_eq (fun fu i (τ : SS) => f_X9_ticks_L2 (fun (τ : SS) => some τ) fu 143 (nI s) (nI tick) (nI i) τ) (fun τ => some τ) (rN ρ) (fun i τ => (∀ w, w < rN ρ → w < i → τ.1 170 w = nI (mv ρ s tick pos w)) ∧ (∀ w, w < rN ρ → i ≤ w → τ.1 170 w = nI (pos w)) ∧ (∀ w, w < i → τ.1 171 w = if tc ρ s tick w = true then 1 else 0) ∧ ∀ q j, ¬ q = 170 → ¬ q = 171 → τ.1 q j = σ.1 q j)
    (fun fu τ hI => by
      simp only [f_X9_ticks_L2]
      rw [hI.2.2.2 _ _ (by omega) (by omega), h.2.1, if_pos ((le_nI (by omega) (by omega)).mpr (Nat.le_refl _))])
    (fun fu i τ hiN hI => by
      obtain ⟨i1, i2, i3, i4⟩ := hI
      have hb := set_bit s (by omega) i (by omega)
      have hX : M1 ρ τ := M1.of hN h (i4 _ _ (by omega) (by omega)) (i4 _ _ (by omega) (by omega)) (fun q j _ _ => i4 q j (by omega) (by omega))
      have no : tc ρ s tick i = false → ∃ s', ((∀ w, w < rN ρ → w < i + 1 → s'.1 170 w = nI (mv ρ s tick pos w)) ∧ (∀ w, w < rN ρ → i + 1 ≤ w → s'.1 170 w = nI (pos w)) ∧ (∀ w, w < i + 1 → s'.1 171 w = if tc ρ s tick w = true then 1 else 0) ∧ ∀ q j, ¬ q = 170 → ¬ q = 171 → s'.1 q j = σ.1 q j) ∧ s' = sI τ 171 i 0 := fun hc => by
        refine ⟨_, ⟨fun w hw hwi => ?_, fun w hw hwi => ?_, fun w hwi => ?_, fun q j hq hq2 => ?_⟩, rfl⟩
        · rw [rI_q (by omega)]
          by_cases e : w = i
          · subst e
            unfold mv
            rw [hc, if_neg (by decide)]
            exact i2 w hw (by omega)
          · exact i1 w hw (by omega)
        · rw [rI_q (by omega)]
          exact i2 w hw (by omega)
        · by_cases e : w = i
          · subst e
            rw [rI_s, hc, if_neg (by decide)]
          · rw [rI_j e]
            exact i3 w (by omega)
        · rw [rI_q hq2]
          exact i4 q j hq hq2
      simp only [f_X9_ticks_L2, RM, LN, jn1, f_X9_has]
      rw [hX.2.1, if_neg (show ¬ nI (rN ρ) ≤ nI i by rw [le_nI (by omega) (by omega)]; omega), cl_nI (by omega)]
      by_cases hbit : s.testBit i = true
      · obtain ⟨a1, a2, a3, a4, a5, a6, a7, a8⟩ := hw.2.2.2.2.2 i hiN
        have e3 : τ.1 149 i = nI (rK ρ i 3) := hX.2.2.2.2 i hiN 3 (by omega)
        have hz : ¬ nI (rK ρ i 3) = 0 := by rw [eq_nI0 (by omega)]; omega
        rw [if_pos (hb.mpr hbit), if_neg one0, e3, ck_i (by omega) (by omega), ck_pos hz, rem_nI (by omega) (by omega) (by omega)]
        have hlt := Nat.mod_lt tick (show rK ρ i 3 > 0 by omega)
        by_cases hm : tick % rK ρ i 3 = 0
        · have hc : tc ρ s tick i = true := by unfold tc; rw [hbit, decide_eq_true hiN, decide_eq_true hm]; rfl
          have p1 := i2 i hiN (Nat.le_refl i)
          have p2 := (hp i hiN).2
          have hX' : M1 ρ (sI τ 171 i 1) := M1.of hN hX (rI_q (by omega)) (rI_q (by omega)) (fun q j _ _ => rI_q (by omega))
          have hnx := m_nextBy hX' hw hiN p2
          refine ⟨sI (sI τ 171 i 1) 170 i (nI (nxW ρ i (pos i))), ⟨fun w hw' hwi => ?_, fun w hw hwi => ?_, fun w hwi => ?_, fun q j hq hq2 => ?_⟩, ?_⟩
          · by_cases e : w = i
            · subst e
              rw [rI_s]
              unfold mv
              rw [if_pos hc]
            · rw [rI_j e, rI_q (by omega)]
              exact i1 w hw' (by omega)
          · rw [rI_j (by omega), rI_q (by omega)]
            exact i2 w hw (by omega)
          · rw [rI_q (by omega)]
            by_cases e : w = i
            · subst e
              rw [rI_s, hc, if_pos rfl]
            · rw [rI_j e]
              exact i3 w (by omega)
          · rw [rI_q hq, rI_q hq2]
            exact i4 q j hq hq2
          · rw [if_pos (show nI (tick % rK ρ i 3) = 0 by rw [hm]; rfl), ck_i (by omega) (by omega), ck_i (by omega) (by omega), rI_s, if_pos rfl, ck_i (by omega) (by omega), rI_q (by omega), p1, hnx, Option.bind_some, ck_i (by omega) (by omega), ol_add]
            rfl
        · have hc : tc ρ s tick i = false := by unfold tc; rw [decide_eq_false hm, Bool.and_false]
          obtain ⟨s', k1, rfl⟩ := no hc
          refine ⟨_, k1, ?_⟩
          rw [if_neg (show ¬ nI (tick % rK ρ i 3) = 0 by rw [eq_nI0 (by omega)]; exact hm), ck_i (by omega) (by omega), ck_i (by omega) (by omega), rI_s, if_neg z1, ol_add]
      · have hc : tc ρ s tick i = false := by unfold tc; rw [Bool.not_eq_true] at hbit; rw [hbit]; rfl
        obtain ⟨s', k1, rfl⟩ := no hc
        refine ⟨_, k1, ?_⟩
        rw [if_neg (fun z => hbit (hb.mp z)), if_pos rfl, ck_i (by omega) (by omega), ck_i (by omega) (by omega), rI_s, if_neg z1, ol_add])
    (fu := FU) (i := 0) (s := σ) (by omega) (FU_big (by omega)) ⟨fun w _ h => by omega, fun w hw _ => (hp w hw).1, fun w h => by omega, fun _ _ _ _ => rfl⟩
  refine ⟨σ', e, fun w hw' => ⟨h1 w hw' (by omega), ?_⟩, fun w hw' => h3 w hw', h4⟩
  unfold mv
  split
  · exact nxW_lt hw _ _
  · exact (hp w hw').2
/-- where the wheels are behind so many ticks -/
def psT (ρ : RG) (s : Nat) : Nat → Nat → Nat
  | 0 => fun w => rK ρ w 4
  | i + 1 => mv ρ s (i + 1) (psT ρ s i)
