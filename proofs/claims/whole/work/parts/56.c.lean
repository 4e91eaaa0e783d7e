/-! all touches, tick by tick -/
def tl (ρ : RG) (s i : Nat) : List Nat := Lk (tc ρ s i) (psT ρ s i) (8 * rT ρ)
def al (ρ : RG) (s : Nat) : Nat → List TE
  | 0 => []
  | i + 1 => al ρ s i ++ (tl ρ s (i + 1)).map (ent (i + 1) (psT ρ s (i + 1)))
theorem psT_lt {ρ : RG} {s : Nat} (hw : WR ρ) : ∀ i w, w < rN ρ → psT ρ s i w < rT ρ
  | 0, w, h => (hw.2.2.2.2.2 w h).2.2.2.2.2.2.1
  | i + 1, w, h => by
    show mv ρ s (i + 1) (psT ρ s i) w < rT ρ
    unfold mv
    split
    · exact nxW_lt hw _ _
    · exact psT_lt hw i w h
theorem tl_mem {ρ : RG} {s i w : Nat} (hw : WR ρ) : w ∈ tl ρ s i ↔ tc ρ s i w = true := by
  unfold tl
  rw [Lk_mem]
  constructor
  · exact fun h => h.1
  · intro h
    have h1 := tc_lt h
    have h2 := psT_lt (s := s) hw i w h1
    have h3 := hw.2.2.1
    exact ⟨h, by omega, by omega⟩
theorem al_app {ρ : RG} {s i : Nat} : ∀ k, ∃ t, al ρ s (i + k) = al ρ s i ++ t
  | 0 => ⟨[], by rw [List.append_nil]; rfl⟩
  | k + 1 => by
    obtain ⟨t, h⟩ := al_app (ρ := ρ) (s := s) (i := i) k
    refine ⟨t ++ (tl ρ s (i + k + 1)).map (ent (i + k + 1) (psT ρ s (i + k + 1))), ?_⟩
    rw [← List.append_assoc, ← h]
    rfl
theorem al_get {ρ : RG} {s i j k : Nat} (h1 : k < (al ρ s i).length) (h2 : k < (al ρ s j).length) : (al ρ s i)[k]? = (al ρ s j)[k]? := by
  rcases Nat.le_total i j with q | q
  · obtain ⟨t, e⟩ := al_app (ρ := ρ) (s := s) (i := i) (j - i)
    rw [show i + (j - i) = j by omega] at e
    rw [e, List.getElem?_append_left h1]
  · obtain ⟨t, e⟩ := al_app (ρ := ρ) (s := s) (i := j) (i - j)
    rw [show j + (i - j) = i by omega] at e
    rw [e, List.getElem?_append_left h2]
theorem al_mono {ρ : RG} {s i : Nat} (k : Nat) : (al ρ s i).length ≤ (al ρ s (i + k)).length := by
  obtain ⟨t, e⟩ := al_app (ρ := ρ) (s := s) (i := i) k
  rw [e, List.length_append]
  omega
theorem some_bit : ∀ s, s < 64 → ¬ s = 0 → (s.testBit 0 = true ∨ s.testBit 1 = true ∨ s.testBit 2 = true ∨ s.testBit 3 = true ∨ s.testBit 4 = true ∨ s.testBit 5 = true) := by decide +kernel
theorem has_bit {s N : Nat} (hN : N ≤ 6) (h1 : 1 ≤ s) (h2 : s < 2 ^ N) : ∃ w, w < N ∧ s.testBit w = true := by
  have h3 := pow_N hN
  have key : ∀ w, s.testBit w = true → ∃ w, w < N ∧ s.testBit w = true := fun w h => by
    rcases Nat.lt_or_ge w N with q | q
    · exact ⟨w, q, h⟩
    · rw [bit_N h2 q] at h; exact absurd h (by decide)
  rcases some_bit s (by omega) (by omega) with h | h | h | h | h | h
  all_goals exact key _ h
theorem al_len {ρ : RG} {s : Nat} (hw : WR ρ) (h1 : 1 ≤ s) (h2 : s < 2 ^ rN ρ) : ∀ m, m ≤ (al ρ s (9 * m)).length
  | 0 => Nat.zero_le _
  | m + 1 => by
    have ih := al_len hw h1 h2 m
    obtain ⟨w, hw1, hw2⟩ := has_bit hw.2.2.1 h1 h2
    obtain ⟨a1, a2, a3, a4, a5, a6, a7, a8⟩ := hw.2.2.2.2.2 w hw1
    obtain ⟨j, hj, hj1, hj2⟩ : ∃ j, tc ρ s j w = true ∧ 9 * m < j ∧ j ≤ 9 * m + 9 := by
      have hd := Nat.div_add_mod (9 * m) (rK ρ w 3)
      have hm := Nat.mod_lt (9 * m) (show rK ρ w 3 > 0 by omega)
      refine ⟨rK ρ w 3 * (9 * m / rK ρ w 3 + 1), ?_, ?_, ?_⟩
      · unfold tc
        rw [hw2, decide_eq_true hw1, decide_eq_true (Nat.mul_mod_right _ _)]
        rfl
      · rw [Nat.mul_add, Nat.mul_one]; omega
      · rw [Nat.mul_add, Nat.mul_one]; omega
    obtain ⟨j, rfl⟩ : ∃ z, j = z + 1 := ⟨j - 1, by omega⟩
    have e1 := al_mono (ρ := ρ) (s := s) (i := 9 * m) (j - 9 * m)
    rw [show 9 * m + (j - 9 * m) = j by omega] at e1
    have e2 := al_mono (ρ := ρ) (s := s) (i := j + 1) (9 * m + 9 - (j + 1))
    rw [show j + 1 + (9 * m + 9 - (j + 1)) = 9 * (m + 1) by omega] at e2
    have e3 : (al ρ s (j + 1)).length = (al ρ s j).length + (tl ρ s (j + 1)).length := by
      show (al ρ s j ++ (tl ρ s (j + 1)).map (ent (j + 1) (psT ρ s (j + 1)))).length = _
      rw [List.length_append, List.length_map]
    have e4 := List.length_pos_of_mem ((tl_mem hw).mpr hj)
    omega
theorem x_follow {ρ : RG} {σ : SS} {s n : Nat} (h : X1 ρ σ) (hw : WR ρ) (hs1 : 1 ≤ s) (hs2 : s < 2 ^ rN ρ) (hn : n ≤ 100) :
    ∃ σ' m, f_X6_follow 128 1 (nI s) (nI n) σ = some σ' ∧ n ≤ (al ρ s m).length ∧ RW 131 132 133 ((al ρ s m).take 100) σ' ∧ σ'.1 128 6 = nI (min (al ρ s m).length 100) ∧ (∀ t, t < 60 → σ'.1 134 t = 0) ∧ FX σ σ' := by
  have hR := hw.2.1
  have hN := hw.2.2.1
  obtain ⟨t0, f1, f2, f3, f4, f5⟩ := x_begin h hN
  have hfx0 : FX σ t0 := fun q j hq => f5 q j (by unfold SX at hq; omega) (by unfold SX at hq; omega) (by unfold SX at hq; omega)
  have key := loop_ex (fun fu i (t : SS) => f_X6_follow_L8 (fun (τ : SS) => some τ) fu 128 1 (nI s) (nI n) (nI i) t) (fun t => some t) 901
    (fun i t => 1 ≤ i ∧ FX σ t ∧ (∀ w, w < rN ρ → t.1 129 w = nI (psT ρ s (i - 1) w) ∧ psT ρ s (i - 1) w < rT ρ) ∧ t.1 128 6 = nI (min (al ρ s (i - 1)).length 100) ∧ RW 131 132 133 ((al ρ s (i - 1)).take 100) t ∧ ∀ x, x < 60 → t.1 134 x = 0)
    (fun b => ∃ t m, b = some t ∧ n ≤ (al ρ s m).length ∧ RW 131 132 133 ((al ρ s m).take 100) t ∧ t.1 128 6 = nI (min (al ρ s m).length 100) ∧ (∀ x, x < 60 → t.1 134 x = 0) ∧ FX σ t)
    (fun fu t hI => by
      simp only [f_X6_follow_L8]
      rw [if_pos (show (900 : Int32) < nI 901 by decide)])
    (fun fu i t hi hI => by
      obtain ⟨i1, i2, i3, i4, i5, i6⟩ := hI
      have e0 : ¬ (900 : Int32) < nI i := by rw [fa_lit 900, lt_nI (by omega) (by omega)]; omega
      by_cases q : n ≤ (al ρ s (i - 1)).length
      · refine Or.inr ⟨t, i - 1, ?_, q, i5, i4, i6, i2⟩
        simp only [f_X6_follow_L8]
        rw [if_neg e0, i4, if_pos ((le_nI (by omega) (by omega)).mpr (by omega))]
      · obtain ⟨i, rfl⟩ : ∃ z, i = z + 1 := ⟨i - 1, by omega⟩
        simp only [Nat.add_sub_cancel] at i3 i4 i5 q
        have hX : X1 ρ t := X1.of hN h (fun q j _ _ => i2 q j (by unfold SX; omega))
        obtain ⟨t1, g1, g2, g3, g4⟩ := x_pass (tick := i + 1) hX hw hs2 (by omega) i3
        have hps : ∀ w, w < rN ρ → t1.1 129 w = nI (psT ρ s (i + 1) w) ∧ psT ρ s (i + 1) w < rT ρ := g2
        have hal : (al ρ s i).take 100 = al ρ s i := List.take_of_length_le (by omega)
        obtain ⟨t2, k1, k2, k3, k4⟩ := x_note (tick := i + 1) (pos := psT ρ s (i + 1)) (by omega) 6 0 FU (tl ρ s (i + 1)) (al ρ s i) t1 rfl (FU_big (by omega)) (cnt_le _ _)
          (fun w hw' => by
            rw [g3 w hw']
            by_cases qq : tc ρ s (i + 1) w = true
            · rw [if_pos qq, if_pos ((tl_mem hw).mpr qq)]
            · rw [if_neg qq, if_neg (fun z => qq ((tl_mem hw).mp z))])
          (fun w hw' => by
            have q1 := tc_lt ((tl_mem hw).mp hw')
            have q2 := hps w q1
            exact ⟨by omega, q2.1, by omega⟩)
          (Lk_sorted _ _ _) (by omega)
          (by rw [g4 _ _ (by omega) (by omega), i4]; congr 1; omega)
          (by rw [hal] at i5; exact i5.of (fun q j _ => g4 q j (by omega) (by omega)))
        refine Or.inl ⟨t2, ⟨by omega, fun q j hq => ?_, fun w hw' => ?_, ?_, k3, fun x hx => ?_⟩, ?_⟩
        · unfold SX at hq
          rw [k4 q j (by omega) (by omega), g4 q j (by omega) (by omega)]
          exact i2 q j (by unfold SX; omega)
        · rw [k4 _ _ (by omega) (by omega)]
          exact hps w hw'
        · rw [k2]
          congr 2
          show _ = (al ρ s i ++ (tl ρ s (i + 1)).map (ent (i + 1) (psT ρ s (i + 1)))).length
          rw [List.length_append, List.length_map]
        · rw [k4 _ _ (by omega) (by omega), g4 _ _ (by omega) (by omega)]
          exact i6 x hx
        · simp only [f_X6_follow_L8]
          rw [if_neg e0, i4, if_neg (show ¬ nI n ≤ nI (min (al ρ s i).length 100) by rw [le_nI (by omega) (by omega)]; omega), g1, Option.bind_some]
          show ((f_X6_noteTouches_L2 (fun (τ : SS) => some τ) FU 128 (nI (i + 1)) (nI 0) t1).bind fun z7 => _) = _
          rw [k1, Option.bind_some, ol_add])
    FU 1 t0 (by omega) (FU_big (by omega)) ⟨Nat.le_refl _, hfx0, fun w hw' => ⟨f2 w hw', psT_lt (s := s) hw 0 w hw'⟩, f4, fun i e he => by simp [al] at he, f3⟩
  have hf : f_X6_follow 128 1 (nI s) (nI n) σ = f_X6_follow_L8 (fun (τ : SS) => some τ) FU 128 1 (nI s) (nI n) (nI 1) t0 := by
    unfold f_X6_follow
    rw [f1, Option.bind_some]
    rfl
  rw [hf]
  rcases key with ⟨t, ⟨_, i2, i3, i4, i5, i6⟩, e⟩ | ⟨t, m, e, k⟩
  · have hl : 100 ≤ (al ρ s 900).length := al_len hw hs1 hs2 100
    exact ⟨t, 900, e, by omega, i5, i4, i6, i2⟩
  · exact ⟨t, m, e, k⟩
