/-! the class's drawing, whole -/
theorem x_trace {d w A T : Nat} {ρ : RG} {σ : SS} (hd : d = 116 ∨ d = 122) (h : X1 ρ σ) (hw : WR ρ) (hi : w < rN ρ) (hD : IsD (rT ρ) (bgW ρ w) A T) : ∃ σ', f_X0_trace d 1 (5 + w) σ = some σ' ∧ XDr d (rT ρ) (rK ρ w 0) (bgW ρ w) A T σ' ∧ ∀ q j, (q < d ∨ d + 5 < q) → σ'.1 q j = σ.1 q j := by
  have h60 := hw.2.1
  have h6 := hw.2.2.1
  obtain ⟨r5, r6, r7, r8, l1, l2, l3, l4⟩ := rid_dd hd
  obtain ⟨r9, l5⟩ := rid_d hd
  have hb := hD.2.2.2.2.2 T
  have hT := hD.2.2.1
  have hAT := hD.2.2.2.1
  obtain ⟨s1, f1, f2, f3, _⟩ := x_fill (q := d + 4) (n := 60) (v := -9) (σ := sI (sI (sI (sI σ d 0 (σ.1 1 0)) d 1 (f_X7_side (5 + w) (sI σ d 0 (σ.1 1 0)))) d 2 0) d 4 0) l4 (by omega)
  obtain ⟨s2, g1, _, _, g4⟩ := x_fillL (q := d + 5) (n := 60) (v := 0) (σ := s1) l5 (by omega)
  have fr : ∀ q j, (q < d ∨ d + 5 < q) → s2.1 q j = σ.1 q j := fun q j hq => by
    rw [g4, f3 _ _ (by omega), rI_q (by omega), rI_q (by omega), rI_q (by omega), rI_q (by omega)]
  have hX : X1 ρ s2 := X1.of h6 h (fun q j _ _ => fr q j (by omega))
  obtain ⟨s, e, k0, k2, k3, k4⟩ := x_trace51 hd hX hw hi hD (by rw [g4, f3 _ _ (by omega), rI_j (by omega), rI_j (by omega), rI_j (by omega), rI_s]; exact h.1) (by rw [g4, f3 _ _ (by omega), rI_j (by omega), rI_s]) (fun t ht => by rw [g4]; exact f2 t ht) (κ := fun (p0 : Nat) (y3 : Int32) (τ : SS) => ck (¬ (y3 < 0 ∨ ln (rid p0 8) ≤ y3.toNatClampNeg)) (some (sI τ p0 3 (τ.1 (rid p0 8) y3.toNatClampNeg))))
  have e4 : s2.1 (5 + w) 4 = nI (bgW ρ w 0) := hX.2.2.2.2 w hi 4 (by omega)
  have eT : s.1 (d + 4) (bgW ρ w T) = nI T := (k3 T hT).2.2.2
  refine ⟨sI s d 3 (nI T), ?_, ⟨by rw [rI_j (by omega)]; exact k0, by rw [rI_j (by omega)]; exact k2, rI_s, fun i hi' => ?_⟩, fun q j hq => by rw [rI_q (by omega), k4 q j hq, fr q j hq]⟩
  · unfold f_X0_trace
    rw [r8, r9, f1, Option.bind_some, g1, Option.bind_some, e4]
    refine e.trans ?_
    rw [hAT]
    simp (disch := omega) only [r8, l4, cl_nI, ck_i, eT]
  · rw [rI_q (by omega), rI_q (by omega), rI_q (by omega)]
    exact ⟨(k3 i hi').1, (k3 i hi').2.1, (k3 i hi').2.2.1⟩
