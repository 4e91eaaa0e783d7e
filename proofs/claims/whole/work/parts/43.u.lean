/-! the class's drawing: its parts -/
theorem x_fillL {q n : Nat} {v : Int64} {σ : SS} (hn : ln q = n) (hn2 : n ≤ 200) : ∃ σ', f_J7_fill_d0a16 q v σ = some σ' ∧ (∀ j, j < n → σ'.2 q j = v) ∧ (∀ a b, ¬ a = q → σ'.2 a b = σ.2 a b) ∧ σ'.1 = σ.1 := by
  obtain ⟨s, ⟨h1, h2, h3⟩, e⟩ := loop_eq (fun fu i (s : SS) => f_J7_fill_d0a16_L6 (fun τ => some τ) fu q v (nI i) (nI n) s) (fun s => some s) n (fun i s => (∀ j, j < i → s.2 q j = v) ∧ (∀ a b, ¬ a = q → s.2 a b = σ.2 a b) ∧ s.1 = σ.1)
    (fun fu s _ => by
      simp only [f_J7_fill_d0a16_L6]
      rw [if_pos (show nI n ≤ nI n by rw [le_nI (by omega) (by omega)]; omega)])
    (fun fu i s hi hI => by
      obtain ⟨i1, i2, i3⟩ := hI
      refine ⟨sL s q i v, ⟨fun j hj => ?_, fun a b ha => ?_, i3⟩, ?_⟩
      · by_cases e : j = i
        · simp [sL, e]
        · have := i1 j (by omega)
          simp [sL, e, this]
      · have := i2 a b ha
        simp [sL, ha, this]
      · simp (disch := omega) only [f_J7_fill_d0a16_L6, hn, ol_add, cl_nI, ck_i]
        rw [if_neg (show ¬ nI n ≤ nI i by rw [le_nI (by omega) (by omega)]; omega)])
    (fu := FU) (i := 0) (s := σ) (by omega) (FU_big (by omega)) ⟨fun j hj => by omega, fun _ _ _ => rfl, rfl⟩
  refine ⟨s, ?_, h1, h2, h3⟩
  unfold f_J7_fill_d0a16
  rw [hn]
  exact e
