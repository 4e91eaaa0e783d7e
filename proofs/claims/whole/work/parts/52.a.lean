/-! INNER wheels at tooth 0: full, drawnBy -/
noncomputable def dA (R : Nat) (bg : Nat → Nat) : Nat := Classical.epsilon (fun A => ∃ T, IsD R bg A T)
noncomputable def dT (R : Nat) (bg : Nat → Nat) : Nat := Classical.epsilon (fun T => IsD R bg (dA R bg) T)
theorem dD {R : Nat} {bg : Nat → Nat} (h : ∀ i, bg i < R) : IsD R bg (dA R bg) (dT R bg) := by
  have h1 := Classical.epsilon_spec (IsD.ex h)
  exact Classical.epsilon_spec h1
def bgI (R W : Nat) : Nat → Nat := bgF (nx R (fun _ => 0) 0 W 0) 0
theorem bgI_lt {R W : Nat} (hR : 1 ≤ R) : ∀ i, bgI R W i < R := bgF_lt (by omega) (fun t _ => nx_lt hR _ _ _ _ _)
theorem bgI_s (R W i : Nat) : bgI R W (i + 1) = (bgI R W i + W) % R := rfl
theorem bgI_e (R W : Nat) (wn : Nat → Nat) : bgF (nx R wn 0 W 0) 0 = bgI R W := rfl
theorem add_mod_if {a W R : Nat} (ha : a < R) (hW : W < R) : (a + W) % R = if a + W < R then a + W else a + W - R := by
  split
  · rename_i h
    exact Nat.mod_eq_of_lt h
  · rename_i h
    rw [Nat.mod_eq_sub_mod (by omega), Nat.mod_eq_of_lt (by omega)]
theorem crP_rot {R W a b c d : Nat} (hW : W < R) (ha : a < R) (hb : b < R) (hc : c < R) (hd : d < R) : crP ((a + W) % R) ((b + W) % R) ((c + W) % R) ((d + W) % R) = crP a b c d := by
  rw [add_mod_if ha hW, add_mod_if hb hW, add_mod_if hc hW, add_mod_if hd hW]
  unfold crP
  apply decide_eq_decide.mpr
  by_cases h1 : a + W < R <;> by_cases h2 : b + W < R <;> by_cases h3 : c + W < R <;> by_cases h4 : d + W < R <;> simp only [h1, h2, h3, h4, if_true, if_false] <;> omega
theorem cnt_succ (q : Nat → Bool) : ∀ n, cnt q (n + 1) = (if q 0 = true then 1 else 0) + cnt (fun k => q (k + 1)) n
  | 0 => by simp [cnt]
  | n + 1 => by
    have h := cnt_succ q n
    rw [show cnt q (n + 1 + 1) = cnt q (n + 1) + (if q (n + 1) = true then 1 else 0) from rfl, h, show cnt (fun k => q (k + 1)) (n + 1) = cnt (fun k => q (k + 1)) n + (if q (n + 1) = true then 1 else 0) from rfl]
    omega
theorem sm_const {f : Nat → Nat} {c : Nat} (h : ∀ i, f i = c) : ∀ n, sm f n = n * c
  | 0 => by simp [sm]
  | n + 1 => by
    simp only [sm]
    rw [sm_const h n, h n, Nat.succ_mul]
theorem inner_T {R W A T : Nat} (hW : W < R) (h : IsD R (bgI R W) A T) : T = 0 := by
  obtain ⟨hA1, hA, hT, hAT, hinj, hlt⟩ := h
  cases T with
  | zero => rfl
  | succ T =>
    obtain ⟨B, rfl⟩ : ∃ B, A = B + 1 := ⟨A - 1, by omega⟩
    rw [bgI_s, bgI_s, add_mod_if (hlt B) hW, add_mod_if (hlt T) hW] at hAT
    have h1 := hlt B
    have h2 := hlt T
    have e : bgI R W B = bgI R W T := by
      split at hAT <;> split at hAT <;> omega
    have := hinj B T (by omega) (by omega) e
    omega
theorem inner_cbi {R W A T : Nat} (hW : W < R) (h : IsD R (bgI R W) A T) : ∀ i, cbi (bgI R W) A i = cbi (bgI R W) A 0 := by
  have hT := inner_T hW h
  subst hT
  have hb := h.2.2.2.2.2
  have hA0 : bgI R W A = bgI R W 0 := h.2.2.2.1
  have hA1 : bgI R W (A + 1) = bgI R W 1 := by rw [bgI_s, hA0]; rfl
  intro i
  induction i with
  | zero => rfl
  | succ i ih =>
    rw [← ih]
    unfold cbi cb
    have h1 := cnt_succ (fun k => crP (bgI R W k) (bgI R W (k + 1)) (bgI R W (i + 1)) (bgI R W (i + 1 + 1))) A
    have h2 : cnt (fun k => crP (bgI R W k) (bgI R W (k + 1)) (bgI R W (i + 1)) (bgI R W (i + 1 + 1))) (A + 1) = cnt (fun k => crP (bgI R W k) (bgI R W (k + 1)) (bgI R W (i + 1)) (bgI R W (i + 1 + 1))) A + (if crP (bgI R W A) (bgI R W (A + 1)) (bgI R W (i + 1)) (bgI R W (i + 1 + 1)) = true then 1 else 0) := rfl
    have h3 : cnt (fun k => crP (bgI R W (k + 1)) (bgI R W (k + 1 + 1)) (bgI R W (i + 1)) (bgI R W (i + 1 + 1))) A = cnt (fun k => crP (bgI R W k) (bgI R W (k + 1)) (bgI R W i) (bgI R W (i + 1))) A :=
      cnt_congr A (fun k _ => by
        show crP ((bgI R W k + W) % R) ((bgI R W (k + 1) + W) % R) ((bgI R W i + W) % R) ((bgI R W (i + 1) + W) % R) = _
        exact crP_rot hW (hb k) (hb (k + 1)) (hb i) (hb (i + 1)))
    rw [hA0, hA1] at h2
    rw [h2, h3] at h1
    simp only [Nat.zero_add] at h1
    omega
theorem inner_sum {R W A T : Nat} (hW : W < R) (h : IsD R (bgI R W) A T) : sm (cbi (bgI R W) A) A = A * cbi (bgI R W) A 0 := sm_const (inner_cbi hW h) A
theorem x_trial {W A T : Nat} {ρ : RG} {σ : SS} (h : X1 ρ σ) (hw : WR ρ) (hW : W < rT ρ) (hD : IsD (rT ρ) (bgI (rT ρ) W) A T) : ∃ σ', f_X8_traceTrial 0 (nI W) σ = some σ' ∧ DrX 116 (rT ρ) 0 (bgI (rT ρ) W) A T σ' ∧ FX σ σ' := by
  have hN := hw.2.2.1
  obtain ⟨s, e, f1⟩ : ∃ s, f_X7_set 135 0 (nI W) 0 0 1 σ = some s ∧ s.1 135 0 = 0 ∧ s.1 135 1 = nI W ∧ s.1 135 2 = 0 ∧ s.1 135 4 = 0 ∧ ∀ q j, ¬ q = 135 → s.1 q j = σ.1 q j := by
    refine ⟨_, rfl, ?_, ?_, ?_, ?_, fun q j hq => ?_⟩
    all_goals simp (disch := omega) only [rI_s, rI_j, rI_q]
  obtain ⟨g0, g1, g2, g4, g5⟩ := f1
  have hX : X1 ρ s := X1.of hN h (fun q j _ _ => g5 q j (by omega))
  obtain ⟨s2, k1, k2, k3, k4⟩ := x_traceG (v := 135) (k := 0) (W := W) (f := 0) (p := 0) (Or.inl rfl) hX hw (by omega) g0 g1 g2 g4 (by omega) hW (by omega) hD
  refine ⟨s2, ?_, k2, fun q j hq => ?_⟩
  · unfold f_X8_traceTrial
    simp only [RD, e, k1, Option.bind_some]
  · unfold SX at hq
    rw [k3 q j (by omega), g5 q j (by omega)]
theorem pc_full_ok : pc_full Rel := by
  rintro σ ⟨A, hx, hm, hw⟩
  have hR := hw.1.2.1
  have hR3 := hw.1.1
  have hN := hw.1.2.2.1
  have hD : ∀ W, IsD (rT A.1) (bgI (rT A.1) W) (dA (rT A.1) (bgI (rT A.1) W)) (dT (rT A.1) (bgI (rT A.1) W)) := fun W => dD (bgI_lt (by omega))
  refine both_same (nI (cnt (fun W => decide (1 ≤ W ∧ dA (rT A.1) (bgI (rT A.1) W) = rT A.1)) (rT A.1))) hx hm hw (fun τ h => ?_) (fun τ h => ?_)
  · obtain ⟨s, h1, e⟩ := loop_eq (fun fu i (s : SS) => f_X8_full_L4 (fun (y1 : Int32) (τ : SS) => some (y1, τ)) fu 0 (nI (cnt (fun W => decide (1 ≤ W ∧ dA (rT A.1) (bgI (rT A.1) W) = rT A.1)) i)) (nI i) s) (fun s => some (nI (cnt (fun W => decide (1 ≤ W ∧ dA (rT A.1) (bgI (rT A.1) W) = rT A.1)) (rT A.1)), s)) (rT A.1) (fun i s => FX τ s ∧ 1 ≤ i)
      (fun fu s hI => by
        simp only [f_X8_full_L4, RD]
        rw [hI.1 1 0 (by unfold SX; omega), h.1.1, if_pos ((le_nI (by omega) (by omega)).mpr (Nat.le_refl _))])
      (fun fu i s hi hI => by
        obtain ⟨hI, hi1⟩ := hI
        have hX : X1 A.1 s := X1.of hN h.1 (fun q j _ _ => hI q j (by unfold SX; omega))
        obtain ⟨s', f1, f2, f3⟩ := x_trial hX hw.1 hi (hD i)
        have hA := (hD i).2.1
        refine ⟨s', ⟨fun q j hq => (f3 q j hq).trans (hI q j hq), by omega⟩, ?_⟩
        simp only [f_X8_full_L4, RD]
        rw [hX.1, if_neg (show ¬ nI (rT A.1) ≤ nI i by rw [le_nI (by omega) (by omega)]; omega), f1, Option.bind_some, f2.2.2.1, (f3 1 0 (by unfold SX; omega)).trans hX.1]
        by_cases e : dA (rT A.1) (bgI (rT A.1) i) = rT A.1
        · rw [if_pos (congrArg nI e), show cnt (fun W => decide (1 ≤ W ∧ dA (rT A.1) (bgI (rT A.1) W) = rT A.1)) (i + 1) = cnt (fun W => decide (1 ≤ W ∧ dA (rT A.1) (bgI (rT A.1) W) = rT A.1)) i + 1 from cnt_yes (decide_eq_true ⟨hi1, e⟩), ol_add, ol_add]
        · rw [if_neg (fun z => e ((eq_nI (by omega) (by omega)).mp z)), show cnt (fun W => decide (1 ≤ W ∧ dA (rT A.1) (bgI (rT A.1) W) = rT A.1)) (i + 1) = cnt (fun W => decide (1 ≤ W ∧ dA (rT A.1) (bgI (rT A.1) W) = rT A.1)) i from cnt_no (fun z => e (of_decide_eq_true z).2), ol_add])
      (fu := FU) (i := 1) (s := τ) (by omega) (FU_big (by omega)) ⟨fun _ _ _ => rfl, by omega⟩
    exact ⟨s, e, h1.1⟩
  · obtain ⟨s, h1, e⟩ := loop_eq (fun fu i (s : SS) => f_X9_full_L4 (fun (y1 : Int32) (τ : SS) => some (y1, τ)) fu 143 (nI (cnt (fun W => decide (1 ≤ W ∧ dA (rT A.1) (bgI (rT A.1) W) = rT A.1)) i)) (nI i) s) (fun s => some (nI (cnt (fun W => decide (1 ≤ W ∧ dA (rT A.1) (bgI (rT A.1) W) = rT A.1)) (rT A.1)), s)) (rT A.1) (fun i s => FM τ s ∧ 1 ≤ i)
      (fun fu s hI => by
        simp only [f_X9_full_L4]
        rw [hI.1 143 0 (by unfold SM; omega), h.1.1, if_pos ((le_nI (by omega) (by omega)).mpr (Nat.le_refl _))])
      (fun fu i s hi hI => by
        obtain ⟨hI, hi1⟩ := hI
        have hX : M1 A.1 s := M1.of hN h.1 (hI _ _ (by unfold SM; omega)) (hI _ _ (by unfold SM; omega)) (fun q j _ _ => hI q j (by unfold SM; omega))
        obtain ⟨s', f1, f2, f3, f4⟩ := m_drawsG (k := 0) (W := i) (f := 0) (p := 0) (hX.mn hw.1) (by omega) hi (by omega) (hD i)
        have hA := (hD i).2.1
        have f5 := fmD f3
        refine ⟨s', ⟨fun q j hq => (f5 q j hq).trans (hI q j hq), by omega⟩, ?_⟩
        simp only [f_X9_full_L4]
        rw [hX.1, if_neg (show ¬ nI (rT A.1) ≤ nI i by rw [le_nI (by omega) (by omega)]; omega), show f_X9_draws 143 0 (nI i) 0 0 s = some s' from f1, Option.bind_some, f2.1, (f3 143 0 (by omega) (by omega)).trans hX.1]
        by_cases e : dA (rT A.1) (bgI (rT A.1) i) = rT A.1
        · rw [if_pos (congrArg nI e), show cnt (fun W => decide (1 ≤ W ∧ dA (rT A.1) (bgI (rT A.1) W) = rT A.1)) (i + 1) = cnt (fun W => decide (1 ≤ W ∧ dA (rT A.1) (bgI (rT A.1) W) = rT A.1)) i + 1 from cnt_yes (decide_eq_true ⟨hi1, e⟩), ol_add, ol_add]
        · rw [if_neg (fun z => e ((eq_nI (by omega) (by omega)).mp z)), show cnt (fun W => decide (1 ≤ W ∧ dA (rT A.1) (bgI (rT A.1) W) = rT A.1)) (i + 1) = cnt (fun W => decide (1 ≤ W ∧ dA (rT A.1) (bgI (rT A.1) W) = rT A.1)) i from cnt_no (fun z => e (of_decide_eq_true z).2), ol_add])
      (fu := FU) (i := 1) (s := τ) (by omega) (FU_big (by omega)) ⟨fun _ _ _ => rfl, by omega⟩
    exact ⟨s, e, h1.1⟩
