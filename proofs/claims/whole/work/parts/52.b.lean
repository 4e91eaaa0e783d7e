/-! drawnBy -/
theorem searchS {S β : Type} (g : Nat → Nat → S → β) (p : Nat → Bool) (I : S → Prop) (n : Nat) (hit : Nat → S → β) (miss : S → β) (hm : ∀ fu s, I s → g (fu + 1) n s = miss s)
    (hs : ∀ fu i s, i < n → I s → ∃ s', I s' ∧ g (fu + 1) i s = if p i = true then hit i s' else g fu (i + 1) s') :
    ∀ k i fu s, i + k = n → k < fu → I s → ∃ s', I s' ∧ g fu i s = if fstF p i k < n then hit (fstF p i k) s' else miss s' := by
  intro k
  induction k with
  | zero =>
    intro i fu s hi hf hI
    obtain ⟨fu, rfl⟩ : ∃ z, fu = z + 1 := ⟨fu - 1, by omega⟩
    have : i = n := by omega
    subst this
    refine ⟨s, hI, ?_⟩
    rw [hm fu s hI, show fstF p i 0 = i from rfl, if_neg (Nat.lt_irrefl _)]
  | succ k ih =>
    intro i fu s hi hf hI
    obtain ⟨fu, rfl⟩ : ∃ z, fu = z + 1 := ⟨fu - 1, by omega⟩
    obtain ⟨s', h1, h2⟩ := hs fu i s (by omega) hI
    rw [h2]
    unfold fstF
    by_cases h : p i = true
    · refine ⟨s', h1, ?_⟩
      rw [if_pos h, if_pos h, if_pos (by omega)]
    · rw [if_neg h, if_neg h]
      exact ih (i + 1) fu s' (by omega) (by omega) h1
/-- whether the INNER wheel of this size has told numbers -/
noncomputable def dbP (R : Nat) (c1 c2 : Int32) (W : Nat) : Bool := decide (nI (dA R (bgI R W)) = c1 ∧ nI (dA R (bgI R W) * cbi (bgI R W) (dA R (bgI R W)) 0 / 2) = c2)
noncomputable def dbV (R : Nat) (c1 c2 : Int32) : Int32 := if fstF (dbP R c1 c2) 1 (R - 1) < R then nI (fstF (dbP R c1 c2) 1 (R - 1)) else -9
theorem pc_drawnBy_ok : pc_drawnBy Rel := by
  rintro σ c1 c2 ⟨A, hx, hm, hw⟩
  have hR := hw.1.2.1
  have hR3 := hw.1.1
  have hN := hw.1.2.2.1
  have hD : ∀ W, IsD (rT A.1) (bgI (rT A.1) W) (dA (rT A.1) (bgI (rT A.1) W)) (dT (rT A.1) (bgI (rT A.1) W)) := fun W => dD (bgI_lt (by omega))
  by_cases t1 : c1 < 0
  · refine both_ref (-4) 4 hx hm hw (fun τ h => ?_) (fun τ h => ?_)
    · unfold f_X8_drawnBy
      simp only [if_pos t1, x_ref, Option.bind_some]
    · unfold f_X9_drawnBy
      simp only [if_pos t1, m_ref, Option.bind_some]
  by_cases t2 : 0 ≤ c2
  case neg =>
    refine both_ref (-4) 4 hx hm hw (fun τ h => ?_) (fun τ h => ?_)
    · unfold f_X8_drawnBy
      simp only [if_neg t1, if_neg t2, x_ref, Option.bind_some]
    · unfold f_X9_drawnBy
      simp only [if_neg t1, if_neg t2, m_ref, Option.bind_some]
  refine both_same (dbV (rT A.1) c1 c2) hx hm hw (fun τ h => ?_) (fun τ h => ?_)
  · obtain ⟨s, h1, e⟩ := searchS (fun fu i (s : SS) => f_X8_drawnBy_L17 (fun (τ : SS) => some ((-9), τ)) fu 0 c1 c2 (nI i) s) (dbP (rT A.1) c1 c2) (FX τ) (rT A.1) (fun i s => some (nI i, s)) (fun s => some (-9, s))
      (fun fu s hI => by
        simp only [f_X8_drawnBy_L17, RD]
        rw [hI 1 0 (by unfold SX; omega), h.1.1, if_pos ((le_nI (by omega) (by omega)).mpr (Nat.le_refl _))])
      (fun fu i s hi hI => by
        have hX : X1 A.1 s := X1.of hN h.1 (fun q j _ _ => hI q j (by unfold SX; omega))
        obtain ⟨s', f1, f2, f3⟩ := x_trial hX hw.1 hi (hD i)
        have hA := (hD i).2.1
        have hA1 := (hD i).1
        have hbl : ∀ j, bgI (rT A.1) i j < 60 := fun j => by have := (hD i).2.2.2.2.2 j; omega
        have e0 := x_crossed (Or.inl rfl) (Or.inl rfl) f2 f2 (by omega) (by omega) hbl hbl rfl (show 0 < dA (rT A.1) (bgI (rT A.1) i) by omega)
        have hc := cbi_le (bgI (rT A.1) i) (dA (rT A.1) (bgI (rT A.1) i)) 0
        have hmul : dA (rT A.1) (bgI (rT A.1) i) * cbi (bgI (rT A.1) i) (dA (rT A.1) (bgI (rT A.1) i)) 0 ≤ 60 * 60 := Nat.mul_le_mul (by omega) (by omega)
        have e1 : f_X0_crossingsOfInner 116 s' = some (nI (dA (rT A.1) (bgI (rT A.1) i) * cbi (bgI (rT A.1) i) (dA (rT A.1) (bgI (rT A.1) i)) 0 / 2)) := by
          unfold f_X0_crossingsOfInner
          rw [show (0 : Int32) = nI 0 from rfl, e0, Option.bind_some, f2.2.2.1, pk_mul, show (2 : Int32) = nI 2 from rfl]
          exact congrArg some (div_nI (a := dA (rT A.1) (bgI (rT A.1) i) * cbi (bgI (rT A.1) i) (dA (rT A.1) (bgI (rT A.1) i)) 0) (by omega) (by omega) (by omega))
        refine ⟨s', fun q j hq => (f3 q j hq).trans (hI q j hq), ?_⟩
        simp only [f_X8_drawnBy_L17, RD]
        rw [hX.1, if_neg (show ¬ nI (rT A.1) ≤ nI i by rw [le_nI (by omega) (by omega)]; omega), f1, Option.bind_some, f2.2.2.1, e1, Option.bind_some]
        by_cases q1 : nI (dA (rT A.1) (bgI (rT A.1) i)) = c1
        · rw [if_pos q1]
          by_cases q2 : nI (dA (rT A.1) (bgI (rT A.1) i) * cbi (bgI (rT A.1) i) (dA (rT A.1) (bgI (rT A.1) i)) 0 / 2) = c2
          · rw [if_pos q2, if_pos (show dbP (rT A.1) c1 c2 i = true from decide_eq_true ⟨q1, q2⟩)]
          · rw [if_neg q2, if_neg (fun z => q2 (of_decide_eq_true z).2), ol_add]
        · rw [if_neg q1, if_neg (fun z => q1 (of_decide_eq_true z).1), ol_add])
      (rT A.1 - 1) 1 FU τ (by omega) (FU_big (by omega)) (fun _ _ _ => rfl)
    refine ⟨s, ?_, h1⟩
    unfold f_X8_drawnBy
    rw [if_neg t1, if_pos t2]
    refine e.trans ?_
    unfold dbV
    split <;> rfl
  · obtain ⟨s, h1, e⟩ := searchS (fun fu i (s : SS) => f_X9_drawnBy_L17 (fun (τ : SS) => some ((-9), τ)) fu 143 c1 c2 (nI i) s) (dbP (rT A.1) c1 c2) (FM τ) (rT A.1) (fun i s => some (nI i, s)) (fun s => some (-9, s))
      (fun fu s hI => by
        simp only [f_X9_drawnBy_L17]
        rw [hI 143 0 (by unfold SM; omega), h.1.1, if_pos ((le_nI (by omega) (by omega)).mpr (Nat.le_refl _))])
      (fun fu i s hi hI => by
        have hX : M1 A.1 s := M1.of hN h.1 (hI _ _ (by unfold SM; omega)) (hI _ _ (by unfold SM; omega)) (fun q j _ _ => hI q j (by unfold SM; omega))
        obtain ⟨s', f1, f2, f3, f4⟩ := m_drawsG (k := 0) (W := i) (f := 0) (p := 0) (hX.mn hw.1) (by omega) hi (by omega) (hD i)
        have f2 : DrM (rT A.1) (bgI (rT A.1) i) (dA (rT A.1) (bgI (rT A.1) i)) (dT (rT A.1) (bgI (rT A.1) i)) s' := f2
        have hA := (hD i).2.1
        have hbl : ∀ j, bgI (rT A.1) i j < 60 := fun j => by have := (hD i).2.2.2.2.2 j; omega
        have f5 := fmD f3
        have e1 := m_crossings f2 (by omega) hbl
        rw [inner_sum hi (hD i)] at e1
        refine ⟨s', fun q j hq => (f5 q j hq).trans (hI q j hq), ?_⟩
        simp only [f_X9_drawnBy_L17]
        rw [hX.1, if_neg (show ¬ nI (rT A.1) ≤ nI i by rw [le_nI (by omega) (by omega)]; omega), show f_X9_draws 143 0 (nI i) 0 0 s = some s' from f1, Option.bind_some, f2.1, e1, Option.bind_some]
        by_cases q1 : nI (dA (rT A.1) (bgI (rT A.1) i)) = c1
        · rw [if_pos q1]
          by_cases q2 : nI (dA (rT A.1) (bgI (rT A.1) i) * cbi (bgI (rT A.1) i) (dA (rT A.1) (bgI (rT A.1) i)) 0 / 2) = c2
          · rw [if_pos q2, if_pos (show dbP (rT A.1) c1 c2 i = true from decide_eq_true ⟨q1, q2⟩)]
          · rw [if_neg q2, if_neg (fun z => q2 (of_decide_eq_true z).2), ol_add]
        · rw [if_neg q1, if_neg (fun z => q1 (of_decide_eq_true z).1), ol_add])
      (rT A.1 - 1) 1 FU τ (by omega) (FU_big (by omega)) (fun _ _ _ => rfl)
    refine ⟨s, ?_, h1⟩
    unfold f_X9_drawnBy
    rw [if_neg t1, if_pos t2]
    refine e.trans ?_
    unfold dbV
    split <;> rfl
