/-! on -/
theorem WF.fresh {A : AB} {ρ : RG} (hw : WF A) (h : WR ρ) : WF (aBe A ρ []) := ⟨h, hw.2.1, ⟨Nat.zero_le _, fun x hx => by cases hx⟩, hw.2.2.2.1, hw.2.2.2.2⟩
theorem X3_nil {σ : SS} {l : List RG} (h : X3 l σ) {σ' : SS} (e : σ'.1 31 1 = 0) (e2 : σ'.1 31 2 = σ.1 31 2) : X3 [] σ' := by
  obtain ⟨_, p, hp, hpl, _⟩ := h
  exact ⟨e, p, hp, e2.trans hpl, fun k ρ hk => by cases hk⟩
theorem M3_nil {σ' : SS} (e : σ'.1 143 15 = 0) : M3 [] σ' := ⟨e, fun k ρ hk => by cases hk⟩
theorem pc_on_ok : pc_on Rel := by
  rintro σ ⟨A, hx, hm, hw⟩
  rcases ho : A.2.1 with _ | ρ
  · refine both_ref (-3) 3 hx hm hw (fun τ h => ?_) (fun τ h => ?_)
    · have hk : τ.1 0 3 = 0 := by have := h.2.1; rw [ho] at this; exact this
      unfold f_X8_on
      rw [if_pos hk]
      simp only [x_ref, Option.bind_some]
    · have hk : τ.1 143 18 = 0 := by have := h.2.1; rw [ho] at this; exact this
      unfold f_X9_on
      rw [if_pos hk]
      simp only [m_ref, Option.bind_some]
  · have hρ := hw.2.1 ρ ho
    have hn := hρ.2.2.1
    refine both (r := nI (rN ρ)) (A' := aBe A ρ []) hx hm hw (hw.fresh hρ) (fun τ h => ?_) (fun τ h => ?_)
    · have hk : τ.1 0 3 = 1 ∧ XR τ 21 ρ := by have := h.2.1; rw [ho] at this; exact this
      obtain ⟨τ', f1, f2, f3⟩ := x_become_R (a := 1) (b := 21) (σ := τ) kd_1.1 kd_1.2.2 (by omega)
      have g := f2 ρ hn hk.2
      have fr : ∀ q j, (q < 1 ∨ 11 ≤ q) → ¬ (q = 31 ∧ j = 1) → (sI τ' 31 1 0).1 q j = τ.1 q j := fun q j h1 h2 => by rw [rI_i, if_neg h2]; exact f3 q j (by omega)
      have g1 : X1 ρ (sI τ' 31 1 0) := X1.of hn g (fun q j _ _ => rI_q (by omega))
      refine ⟨sI τ' 31 1 0, ?_, h.be hw g1 (X3_nil h.2.2.1 rI_s (fr _ _ (by omega) (by omega))) (fun q j hq => fr q j (by omega) (by omega)), fun q j hq => fr q j (by omega) (by omega)⟩
      unfold f_X8_on f_X3_forget
      rw [if_neg (show ¬ τ.1 0 3 = 0 by rw [hk.1]; exact one0)]
      simp (disch := omega) only [RD, f1, Option.bind_some]
      rw [g1.2.1]
    · have hk : τ.1 143 18 = 1 ∧ MZ τ 156 ρ := by have := h.2.1; rw [ho] at this; exact this
      obtain ⟨τ', f1, f2, f3⟩ := m_again (q := 156) (Or.inl rfl) hk.2 hn
      have fr : ∀ a b, (a < 144 ∨ 151 < a) → ¬ (a = 143 ∧ (b = 0 ∨ b = 3 ∨ b = 15)) → (sI τ' 143 15 0).1 a b = τ.1 a b := fun q j h1 h2 => by rw [rI_i, if_neg (by omega)]; exact f3 q j h1 (by omega)
      have g1 : M1 ρ (sI τ' 143 15 0) := M1.of hn f2 (rI_j (by omega)) (rI_j (by omega)) (fun q j _ _ => rI_q (by omega))
      refine ⟨sI τ' 143 15 0, ?_, h.be g1 (M3_nil rI_s) (fun q j a b c d => fr q j (by omega) (by omega)), fun q j hq => fr q j (by omega) (by omega)⟩
      unfold f_X9_on
      rw [if_neg (show ¬ τ.1 143 18 = 0 by rw [hk.1]; exact one0)]
      simp (disch := omega) only [RM, f1, Option.bind_some]
      rw [g1.2.1]
