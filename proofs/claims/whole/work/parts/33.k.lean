/-! image, on -/
theorem lo_add {n i : Nat} : (no_index (OfNat.ofNat n : Int32)) + nI i = nI (n + i) := nI_add n i
theorem cl_0 : (0 : Int32).toNatClampNeg = 0 := rfl
theorem cl_1 : (1 : Int32).toNatClampNeg = 1 := rfl
theorem ck_0 {α : Type} {n : Nat} {x : Option α} {inst : Decidable (¬ ((0 : Int32) < 0 ∨ n ≤ 0))} (h : 0 < n) : @ck α _ inst x = x := if_pos (by
  rintro (q | q)
  · exact absurd q (by decide)
  · omega)
theorem ck_1 {α : Type} {n : Nat} {x : Option α} {inst : Decidable (¬ ((1 : Int32) < 0 ∨ n ≤ 1))} (h : 1 < n) : @ck α _ inst x = x := if_pos (by
  rintro (q | q)
  · exact absurd q (by decide)
  · omega)
theorem ln_z {q : Nat} (hq : q = 156 ∨ q = 157) : ln q = 158 := by rcases hq with rfl | rfl <;> decide +kernel
theorem m_keep16 {q : Nat} (hq : q = 156 ∨ q = 157) (τ : SS) {κ : Nat → Nat → SS → Option SS} : ∃ σ', f_X9_keep_L16 κ FU 143 q 0 τ = κ 143 q σ' ∧ (∀ j, j < 6 → ∀ k, k < 6 → σ'.1 q (2 + 6 * j + k) = τ.1 (146 + j) k) ∧ (∀ b, (b < 2 ∨ 38 ≤ b) → σ'.1 q b = τ.1 q b) ∧ ∀ a b, ¬ a = q → σ'.1 a b = τ.1 a b := by
  have hl := ln_z hq
  obtain ⟨s, ⟨h1, h2, h3⟩, e⟩ := loop_eq (fun fu i (s : SS) => f_X9_keep_L16 κ fu 143 q (nI i) s) (fun s => κ 143 q s) 6 (fun i s => (∀ j, j < 6 → ∀ k, k < i → s.1 q (2 + 6 * j + k) = τ.1 (146 + j) k) ∧ (∀ b, (b < 2 ∨ 38 ≤ b) → s.1 q b = τ.1 q b) ∧ ∀ a b, ¬ a = q → s.1 a b = τ.1 a b)
    (fun fu s _ => by
      simp only [f_X9_keep_L16]
      rw [if_pos (show (6 : Int32) ≤ nI 6 by decide)])
    (fun fu i s hi hI => by
      obtain ⟨i1, i2, i3⟩ := hI
      refine ⟨sI (sI (sI (sI (sI (sI s q (2 + i) (s.1 146 i)) q (8 + i) (s.1 147 i)) q (14 + i) (s.1 148 i)) q (20 + i) (s.1 149 i)) q (26 + i) (s.1 150 i)) q (32 + i) (s.1 151 i), ⟨fun j hj k hk => ?_, fun b hb => ?_, fun a b ha => ?_⟩, ?_⟩
      · by_cases e : k = i
        · subst e
          have c : ∀ a, 146 ≤ a → a ≤ 151 → s.1 a k = τ.1 a k := fun a _ _ => i3 a k (by omega)
          obtain rfl | rfl | rfl | rfl | rfl | rfl : j = 0 ∨ j = 1 ∨ j = 2 ∨ j = 3 ∨ j = 4 ∨ j = 5 := by omega
          · rw [show 2 + 6 * 0 + k = 2 + k by omega, rI_j (by omega), rI_j (by omega), rI_j (by omega), rI_j (by omega), rI_j (by omega), rI_s]; exact c _ (by omega) (by omega)
          · rw [show 2 + 6 * 1 + k = 8 + k by omega, rI_j (by omega), rI_j (by omega), rI_j (by omega), rI_j (by omega), rI_s]; exact c _ (by omega) (by omega)
          · rw [show 2 + 6 * 2 + k = 14 + k by omega, rI_j (by omega), rI_j (by omega), rI_j (by omega), rI_s]; exact c _ (by omega) (by omega)
          · rw [show 2 + 6 * 3 + k = 20 + k by omega, rI_j (by omega), rI_j (by omega), rI_s]; exact c _ (by omega) (by omega)
          · rw [show 2 + 6 * 4 + k = 26 + k by omega, rI_j (by omega), rI_s]; exact c _ (by omega) (by omega)
          · rw [show 2 + 6 * 5 + k = 32 + k by omega, rI_s]; exact c _ (by omega) (by omega)
        · rw [rI_j (by omega), rI_j (by omega), rI_j (by omega), rI_j (by omega), rI_j (by omega), rI_j (by omega)]
          exact i1 j hj k (by omega)
      · rw [rI_j (by omega), rI_j (by omega), rI_j (by omega), rI_j (by omega), rI_j (by omega), rI_j (by omega)]
        exact i2 b hb
      · rw [rI_q ha, rI_q ha, rI_q ha, rI_q ha, rI_q ha, rI_q ha]
        exact i3 a b ha
      · simp (disch := omega) only [f_X9_keep_L16, RM, LN, hl, ol_add, lo_add, cl_nI, ck_i, rI_q]
        rw [if_neg (show ¬ (6 : Int32) ≤ nI i by rw [fa_lit 6, le_nI (by omega) (by omega)]; omega)])
    (fu := FU) (i := 0) (s := τ) (by omega) (FU_big (by omega)) ⟨fun j hj k hk => by omega, fun _ _ => rfl, fun _ _ _ => rfl⟩
  exact ⟨s, e, h1, h2, h3⟩
theorem m_keep101 {q : Nat} (hq : q = 156 ∨ q = 157) (τ : SS) {κ : SS → Option SS} : ∃ σ', f_X9_keep_L101 κ FU 143 q 0 τ = κ σ' ∧ (∀ k, k < 60 → σ'.1 q (38 + k) = τ.1 145 k ∧ σ'.1 q (98 + k) = τ.1 144 k) ∧ (∀ b, b < 38 → σ'.1 q b = τ.1 q b) ∧ ∀ a b, ¬ a = q → σ'.1 a b = τ.1 a b := by
  have hl := ln_z hq
  obtain ⟨s, ⟨h1, h2, h3⟩, e⟩ := loop_eq (fun fu i (s : SS) => f_X9_keep_L101 κ fu 143 q (nI i) s) (fun s => κ s) 60 (fun i s => (∀ k, k < i → s.1 q (38 + k) = τ.1 145 k ∧ s.1 q (98 + k) = τ.1 144 k) ∧ (∀ b, b < 38 → s.1 q b = τ.1 q b) ∧ ∀ a b, ¬ a = q → s.1 a b = τ.1 a b)
    (fun fu s _ => by
      simp only [f_X9_keep_L101]
      rw [if_pos (show (60 : Int32) ≤ nI 60 by decide)])
    (fun fu i s hi hI => by
      obtain ⟨i1, i2, i3⟩ := hI
      refine ⟨sI (sI s q (38 + i) (s.1 145 i)) q (98 + i) (s.1 144 i), ⟨fun k hk => ?_, fun b hb => ?_, fun a b ha => ?_⟩, ?_⟩
      · by_cases e : k = i
        · subst e
          exact ⟨by rw [rI_j (by omega), rI_s]; exact i3 _ _ (by omega), by rw [rI_s]; exact i3 _ _ (by omega)⟩
        · exact ⟨by rw [rI_j (by omega), rI_j (by omega)]; exact (i1 k (by omega)).1, by rw [rI_j (by omega), rI_j (by omega)]; exact (i1 k (by omega)).2⟩
      · rw [rI_j (by omega), rI_j (by omega)]
        exact i2 b hb
      · rw [rI_q ha, rI_q ha]
        exact i3 a b ha
      · simp (disch := omega) only [f_X9_keep_L101, RM, LN, hl, ol_add, lo_add, cl_nI, ck_i, rI_q]
        rw [if_neg (show ¬ (60 : Int32) ≤ nI i by rw [fa_lit 60, le_nI (by omega) (by omega)]; omega)])
    (fu := FU) (i := 0) (s := τ) (by omega) (FU_big (by omega)) ⟨fun k hk => by omega, fun _ _ => rfl, fun _ _ _ => rfl⟩
  exact ⟨s, e, h1, h2, h3⟩
theorem m_keep {q : Nat} {σ : SS} {ρ : RG} (hq : q = 156 ∨ q = 157) (h : M1 ρ σ) (hn : rN ρ ≤ 6) : ∃ σ', f_X9_keep 143 q σ = some σ' ∧ MZ σ' q ρ ∧ ∀ a b, ¬ a = q → σ'.1 a b = σ.1 a b := by
  have hl := ln_z hq
  obtain ⟨m1, m2, m3, m4, m5⟩ := h
  obtain ⟨s, f1, f2, f3, f4⟩ := m_keep16 hq (sI (sI σ q 0 (σ.1 143 0)) q 1 (σ.1 143 3)) (κ := fun (p0 : Nat) (p1 : Nat) (τ : SS) => f_X9_keep_L101 (fun (τ : SS) => some τ) FU p0 p1 0 τ)
  obtain ⟨s2, g1, g2, g3, g4⟩ := m_keep101 hq s (κ := fun (τ : SS) => some τ)
  have fr : ∀ a b, ¬ a = q → s2.1 a b = σ.1 a b := fun a b ha => by rw [g4 a b ha, f4 a b ha, rI_q ha, rI_q ha]
  refine ⟨s2, ?_, ⟨?_, ?_, fun t ht => ?_, fun t ht => ?_, fun i hi j hj => ?_⟩, fr⟩
  · unfold f_X9_keep
    simp (disch := omega) only [hl, cl_0, cl_1, ck_0, ck_1, rI_q]
    rw [f1]
    try dsimp only
    rw [g1]
  · rw [g3 _ (by omega), f3 _ (by omega), rI_j (by omega), rI_s]; exact m1
  · rw [g3 _ (by omega), f3 _ (by omega), rI_s]; exact m2
  · rw [(g2 t ht).1, f4 _ _ (by omega), rI_q (by omega), rI_q (by omega)]; exact m3 t ht
  · rw [(g2 t ht).2, f4 _ _ (by omega), rI_q (by omega), rI_q (by omega)]; exact m4 t ht
  · rw [g3 _ (by omega), f2 j hj i (by omega), rI_q (by omega), rI_q (by omega)]; exact m5 i hi j hj
theorem m_again16 {q : Nat} (hq : q = 156 ∨ q = 157) (τ : SS) {κ : Nat → Nat → SS → Option SS} : ∃ σ', f_X9_again_L16 κ FU 143 q 0 τ = κ 143 q σ' ∧ (∀ j, j < 6 → ∀ k, k < 6 → σ'.1 (146 + j) k = τ.1 q (2 + 6 * j + k)) ∧ ∀ a b, (a < 146 ∨ 151 < a) → σ'.1 a b = τ.1 a b := by
  have hl := ln_z hq
  obtain ⟨s, ⟨h1, h2⟩, e⟩ := loop_eq (fun fu i (s : SS) => f_X9_again_L16 κ fu 143 q (nI i) s) (fun s => κ 143 q s) 6 (fun i s => (∀ j, j < 6 → ∀ k, k < i → s.1 (146 + j) k = τ.1 q (2 + 6 * j + k)) ∧ ∀ a b, (a < 146 ∨ 151 < a) → s.1 a b = τ.1 a b)
    (fun fu s _ => by
      simp only [f_X9_again_L16]
      rw [if_pos (show (6 : Int32) ≤ nI 6 by decide)])
    (fun fu i s hi hI => by
      obtain ⟨i1, i2⟩ := hI
      refine ⟨sI (sI (sI (sI (sI (sI s 146 i (s.1 q (2 + i))) 147 i (s.1 q (8 + i))) 148 i (s.1 q (14 + i))) 149 i (s.1 q (20 + i))) 150 i (s.1 q (26 + i))) 151 i (s.1 q (32 + i)), ⟨fun j hj k hk => ?_, fun a b ha => ?_⟩, ?_⟩
      · by_cases e : k = i
        · subst e
          have c : ∀ b, s.1 q b = τ.1 q b := fun b => i2 q b (by omega)
          obtain rfl | rfl | rfl | rfl | rfl | rfl : j = 0 ∨ j = 1 ∨ j = 2 ∨ j = 3 ∨ j = 4 ∨ j = 5 := by omega
          · rw [show 146 + 0 = 146 from rfl, show 2 + 6 * 0 + k = 2 + k by omega, rI_q (by omega), rI_q (by omega), rI_q (by omega), rI_q (by omega), rI_q (by omega), rI_s]; exact c _
          · rw [show 146 + 1 = 147 from rfl, show 2 + 6 * 1 + k = 8 + k by omega, rI_q (by omega), rI_q (by omega), rI_q (by omega), rI_q (by omega), rI_s]; exact c _
          · rw [show 146 + 2 = 148 from rfl, show 2 + 6 * 2 + k = 14 + k by omega, rI_q (by omega), rI_q (by omega), rI_q (by omega), rI_s]; exact c _
          · rw [show 146 + 3 = 149 from rfl, show 2 + 6 * 3 + k = 20 + k by omega, rI_q (by omega), rI_q (by omega), rI_s]; exact c _
          · rw [show 146 + 4 = 150 from rfl, show 2 + 6 * 4 + k = 26 + k by omega, rI_q (by omega), rI_s]; exact c _
          · rw [show 146 + 5 = 151 from rfl, show 2 + 6 * 5 + k = 32 + k by omega, rI_s]; exact c _
        · rw [rI_j e, rI_j e, rI_j e, rI_j e, rI_j e, rI_j e]
          exact i1 j hj k (by omega)
      · rw [rI_q (by omega), rI_q (by omega), rI_q (by omega), rI_q (by omega), rI_q (by omega), rI_q (by omega)]
        exact i2 a b ha
      · simp (disch := omega) only [f_X9_again_L16, RM, LN, hl, ol_add, lo_add, cl_nI, ck_i, rI_q]
        rw [if_neg (show ¬ (6 : Int32) ≤ nI i by rw [fa_lit 6, le_nI (by omega) (by omega)]; omega)])
    (fu := FU) (i := 0) (s := τ) (by omega) (FU_big (by omega)) ⟨fun j hj k hk => by omega, fun _ _ _ => rfl⟩
  exact ⟨s, e, h1, h2⟩
theorem m_again101 {q : Nat} (hq : q = 156 ∨ q = 157) (τ : SS) {κ : SS → Option SS} : ∃ σ', f_X9_again_L101 κ FU 143 q 0 τ = κ σ' ∧ (∀ k, k < 60 → σ'.1 145 k = τ.1 q (38 + k) ∧ σ'.1 144 k = τ.1 q (98 + k)) ∧ ∀ a b, ¬ a = 144 → ¬ a = 145 → σ'.1 a b = τ.1 a b := by
  have hl := ln_z hq
  obtain ⟨s, ⟨h1, h2⟩, e⟩ := loop_eq (fun fu i (s : SS) => f_X9_again_L101 κ fu 143 q (nI i) s) (fun s => κ s) 60 (fun i s => (∀ k, k < i → s.1 145 k = τ.1 q (38 + k) ∧ s.1 144 k = τ.1 q (98 + k)) ∧ ∀ a b, ¬ a = 144 → ¬ a = 145 → s.1 a b = τ.1 a b)
    (fun fu s _ => by
      simp only [f_X9_again_L101]
      rw [if_pos (show (60 : Int32) ≤ nI 60 by decide)])
    (fun fu i s hi hI => by
      obtain ⟨i1, i2⟩ := hI
      refine ⟨sI (sI s 145 i (s.1 q (38 + i))) 144 i (s.1 q (98 + i)), ⟨fun k hk => ?_, fun a b ha hb => ?_⟩, ?_⟩
      · by_cases e : k = i
        · subst e
          exact ⟨by rw [rI_q (by omega), rI_s]; exact i2 _ _ (by omega) (by omega), by rw [rI_s]; exact i2 _ _ (by omega) (by omega)⟩
        · exact ⟨by rw [rI_j (by omega), rI_j (by omega)]; exact (i1 k (by omega)).1, by rw [rI_j (by omega), rI_j (by omega)]; exact (i1 k (by omega)).2⟩
      · rw [rI_q (by omega), rI_q (by omega)]
        exact i2 a b ha hb
      · simp (disch := omega) only [f_X9_again_L101, RM, LN, hl, ol_add, lo_add, cl_nI, ck_i, rI_q]
        rw [if_neg (show ¬ (60 : Int32) ≤ nI i by rw [fa_lit 60, le_nI (by omega) (by omega)]; omega)])
    (fu := FU) (i := 0) (s := τ) (by omega) (FU_big (by omega)) ⟨fun k hk => by omega, fun _ _ _ _ => rfl⟩
  exact ⟨s, e, h1, h2⟩
theorem m_again {q : Nat} {σ : SS} {ρ : RG} (hq : q = 156 ∨ q = 157) (h : MZ σ q ρ) (hn : rN ρ ≤ 6) : ∃ σ', f_X9_again 143 q σ = some σ' ∧ M1 ρ σ' ∧ ∀ a b, (a < 144 ∨ 151 < a) → ¬ (a = 143 ∧ (b = 0 ∨ b = 3)) → σ'.1 a b = σ.1 a b := by
  have hl := ln_z hq
  obtain ⟨m1, m2, m3, m4, m5⟩ := h
  obtain ⟨s, f1, f2, f3⟩ := m_again16 hq (sI (sI σ 143 0 (σ.1 q 0)) 143 3 (σ.1 q 1)) (κ := fun (p0 : Nat) (p1 : Nat) (τ : SS) => f_X9_again_L101 (fun (τ : SS) => some τ) FU p0 p1 0 τ)
  obtain ⟨s2, g1, g2, g3⟩ := m_again101 hq s (κ := fun (τ : SS) => some τ)
  refine ⟨s2, ?_, ⟨?_, ?_, fun t ht => ?_, fun t ht => ?_, fun i hi j hj => ?_⟩, fun a b h1 h2 => ?_⟩
  · unfold f_X9_again
    simp (disch := omega) only [hl, cl_0, cl_1, ck_0, ck_1, rI_q]
    rw [f1]
    try dsimp only
    rw [g1]
  · rw [g3 _ _ (by omega) (by omega), f3 _ _ (by omega), rI_j (by omega), rI_s]; exact m1
  · rw [g3 _ _ (by omega) (by omega), f3 _ _ (by omega), rI_s]; exact m2
  · rw [(g2 t ht).1, f3 _ _ (by omega), rI_q (by omega), rI_q (by omega)]; exact m3 t ht
  · rw [(g2 t ht).2, f3 _ _ (by omega), rI_q (by omega), rI_q (by omega)]; exact m4 t ht
  · rw [g3 _ _ (by omega) (by omega), f2 j hj i (by omega), rI_q (by omega), rI_q (by omega)]; exact m5 i hi j hj
  · rw [g3 _ _ (by omega) (by omega), f3 _ _ (by omega), rI_i, if_neg (by omega), rI_i, if_neg (by omega)]
theorem pc_image_ok : pc_image Rel := by
  rintro σ ⟨A, hx, hm, hw⟩
  have hw' : WF (A.1, some A.1, A.2.2) := ⟨hw.1, fun ρ h => Option.some.inj h ▸ hw.1, hw.2.2⟩
  refine both (r := nI (rN A.1)) (A' := (A.1, some A.1, A.2.2)) hx hm hw hw' (fun τ h => ?_) (fun τ h => ?_)
  · obtain ⟨τ', f1, f2, f3⟩ := x_become_R (a := 21) (b := 1) (σ := τ) kd_1.2.2 kd_1.1 (by omega)
    have g := f2 A.1 hw.n1 h.1
    have fr : ∀ q j, (q < 21 ∨ 31 ≤ q) → ¬ (q = 0 ∧ j = 3) → (sI τ' 0 3 1).1 q j = τ.1 q j := fun q j h1 h2 => by rw [rI_i, if_neg h2]; exact f3 q j (by omega)
    obtain ⟨h1, h2, h3, h4, h5, h6⟩ := h
    refine ⟨sI τ' 0 3 1, ?_, ⟨h1.of hw.n1 (fun q j _ _ => fr q j (by omega) (by omega)), ⟨rI_s, g.of (fun q j _ _ => rI_q (by omega)) hw.n1⟩, h3.of hw.n3 (fun q j _ _ => fr q j (by omega) (by omega)), h4.of (fun q j _ _ => fr q j (by omega) (by omega)), h5.of (fun q j _ _ => fr q j (by omega) (by omega)), h6.of (fun j => fr _ j (by omega) (by omega))⟩, fun q j hq => fr q j (by omega) (by omega)⟩
    unfold f_X8_image
    simp (disch := omega) only [RD, f1, Option.bind_some]
    rw [show (sI τ' 0 3 1).1 1 1 = nI (rN A.1) from (fr 1 1 (by omega) (by omega)).trans h1.2.1]
  · obtain ⟨τ', f1, f2, f3⟩ := m_keep (q := 156) (Or.inl rfl) h.1 hw.n1
    have fr : ∀ q j, ¬ q = 156 → ¬ (q = 143 ∧ j = 18) → (sI τ' 143 18 1).1 q j = τ.1 q j := fun q j h1 h2 => by rw [rI_i, if_neg h2]; exact f3 q j h1
    obtain ⟨h1, h2, h3, h4, h5, h6⟩ := h
    refine ⟨sI τ' 143 18 1, ?_, ⟨h1.of hw.n1 (fr _ _ (by omega) (by omega)) (fr _ _ (by omega) (by omega)) (fun q j _ _ => fr q j (by omega) (by omega)), ⟨rI_s, f2.of (fun j => rI_q (by omega))⟩, h3.of (fr _ _ (by omega) (by omega)) (fun j => fr _ _ (by omega) (by omega)), h4.of (fr _ _ (by omega) (by omega)) (fun j => fr _ _ (by omega) (by omega)), h5.of (fun q j _ _ => fr q j (by omega) (by omega)), h6.of (fun j => fr _ j (by omega) (by omega))⟩, fun q j hq => fr q j (by omega) (by omega)⟩
    unfold f_X9_image
    simp (disch := omega) only [RM, f1, Option.bind_some]
    rw [show (sI τ' 143 18 1).1 143 3 = nI (rN A.1) from (fr 143 3 (by omega) (by omega)).trans h1.2.1]
