/-! drawings of a wheel of the ring -/
def bgW (ρ : RG) (w : Nat) : Nat → Nat := bgF (nx (rT ρ) (rW ρ) (rK ρ w 0) (rK ρ w 1) (rK ρ w 2)) (rK ρ w 4)
theorem bgW_D {ρ : RG} {w : Nat} (hw : WR ρ) (hi : w < rN ρ) : ∃ A T, IsD (rT ρ) (bgW ρ w) A T :=
  IsD.ex (bgF_lt (hw.2.2.2.2.2 w hi).2.2.2.2.2.2.1 (fun t _ => nx_lt (by have := hw.1; omega) _ _ _ _ _))
theorem m_drawsBy {ρ : RG} {σ : SS} {w A T : Nat} (h : M1 ρ σ) (hw : WR ρ) (hi : w < rN ρ) (hD : IsD (rT ρ) (bgW ρ w) A T) : ∃ σ', f_X9_drawsBy 143 (nI w) σ = some σ' ∧ MDr (bgW ρ w) A T σ' ∧ FM σ σ' := by
  have h6 := hw.2.2.1
  obtain ⟨a1, a2, a3, a4, a5, a6, a7, a8⟩ := hw.2.2.2.2.2 w hi
  obtain ⟨σ', f1, f2, f3⟩ := m_draws (h.mn hw) a1 a3 a4 hD
  refine ⟨σ', ?_, f2, fun q j hq => f3 q j (by unfold SM at hq; omega) (by unfold SM at hq; omega)⟩
  have e0 : σ.1 146 w = nI (rK ρ w 0) := h.2.2.2.2 w hi 0 (by omega)
  have e1 : σ.1 147 w = nI (rK ρ w 1) := h.2.2.2.2 w hi 1 (by omega)
  have e2 : σ.1 148 w = nI (rK ρ w 2) := h.2.2.2.2 w hi 2 (by omega)
  have e4 : σ.1 150 w = nI (rK ρ w 4) := h.2.2.2.2 w hi 4 (by omega)
  unfold f_X9_drawsBy
  simp (disch := omega) only [RM, LN, cl_nI, ck_i, e0, e1, e2, e4, f1, Option.bind_some]
