/-! the class's drawing -/
theorem rid_dd {d : Nat} (hd : d = 116 ∨ d = 122) : rid d 5 = d + 1 ∧ rid d 6 = d + 2 ∧ rid d 7 = d + 3 ∧ rid d 8 = d + 4 ∧ ln (d + 1) = 60 ∧ ln (d + 2) = 60 ∧ ln (d + 3) = 60 ∧ ln (d + 4) = 60 := by rcases hd with rfl | rfl <;> decide +kernel
/-- the class's drawing: arcs, tail, where they begin, end, how far they go -/
def XDr (d R k : Nat) (bg : Nat → Nat) (A T : Nat) (σ : SS) : Prop := σ.1 d 0 = nI R ∧ σ.1 d 2 = nI A ∧ σ.1 d 3 = nI T ∧ ∀ i, i < A → σ.1 (d + 1) i = nI (bg i) ∧ σ.1 (d + 2) i = nI (bg (i + 1)) ∧ σ.1 (d + 3) i = nI (gs R k (bg i) (bg (i + 1)))
theorem x_trace51 {d w A T : Nat} {ρ : RG} {σ : SS} (hd : d = 116 ∨ d = 122) (h : X1 ρ σ) (hw : WR ρ) (hi : w < rN ρ) (hD : IsD (rT ρ) (bgW ρ w) A T) (h0 : σ.1 d 0 = nI (rT ρ)) (h2 : σ.1 d 2 = 0) (h9 : ∀ t, t < 60 → σ.1 (d + 4) t = -9) {κ : Nat → Int32 → SS → Option SS} :
    ∃ σ', f_X0_trace_L51 κ FU d 1 (5 + w) (nI (bgW ρ w 0)) 0 σ = κ d (nI (bgW ρ w A)) σ' ∧ σ'.1 d 0 = nI (rT ρ) ∧ σ'.1 d 2 = nI A ∧ (∀ i, i < A → σ'.1 (d + 1) i = nI (bgW ρ w i) ∧ σ'.1 (d + 2) i = nI (bgW ρ w (i + 1)) ∧ σ'.1 (d + 3) i = nI (gs (rT ρ) (rK ρ w 0) (bgW ρ w i) (bgW ρ w (i + 1))) ∧ σ'.1 (d + 4) (bgW ρ w i) = nI i) ∧ ∀ q j, (q < d ∨ d + 5 < q) → σ'.1 q j = σ.1 q j := by
  have h60 := hw.2.1
  have h6 := hw.2.2.1
  obtain ⟨r5, r6, r7, r8, l1, l2, l3, l4⟩ := rid_dd hd
  obtain ⟨a1, a2, a3, a4, a5, a6, a7, a8⟩ := hw.2.2.2.2.2 w hi
  have hD' := hD
  obtain ⟨hA1, hA, hT, hAT, hinj, hlt⟩ := hD'
  have hbg : ∀ i, bgW ρ w (i + 1) = nx (rT ρ) (rW ρ) (rK ρ w 0) (rK ρ w 1) (rK ρ w 2) (bgW ρ w i) := fun _ => rfl
  generalize bgW ρ w = bg at *
  obtain ⟨s, ⟨h1, h2, h3, h4, h5⟩, e⟩ := loop_eq (fun fu i (s : SS) => f_X0_trace_L51 κ fu d 1 (5 + w) (nI (bg i)) (nI i) s) (fun s => κ d (nI (bg A)) s) A (fun i s => s.1 d 0 = nI (rT ρ) ∧ s.1 d 2 = nI i ∧ (∀ j, j < i → s.1 (d + 1) j = nI (bg j) ∧ s.1 (d + 2) j = nI (bg (j + 1)) ∧ s.1 (d + 3) j = nI (gs (rT ρ) (rK ρ w 0) (bg j) (bg (j + 1))) ∧ s.1 (d + 4) (bg j) = nI j) ∧ (∀ t, t < rT ρ → (∀ j, j < i → ¬ bg j = t) → s.1 (d + 4) t = -9) ∧ ∀ q j, (q < d ∨ d + 5 < q) → s.1 q j = σ.1 q j)
    (fun fu s hI => by
      obtain ⟨i0, i1, i2, i3, i4⟩ := hI
      have hb := hlt A
      have e : s.1 (d + 4) (bg A) = nI T := by rw [hAT]; exact (i2 T hT).2.2.2
      simp (disch := omega) only [f_X0_trace_L51, r8, l4, cl_nI, ck_i, e, i0]
      rw [if_neg (ne_m9 (show T ≤ 2000000 by omega))]
      split <;> rfl)
    (fun fu i s hi9 hI => by
      obtain ⟨i0, i1, i2, i3, i4⟩ := hI
      have hb := hlt i
      have hb1 := hlt (i + 1)
      have hfr := hD.fresh hi9
      have e1 : s.1 (d + 4) (bg i) = -9 := i3 _ hb hfr
      have hX : X1 ρ s := X1.of h6 h (fun q j _ _ => i4 q j (by omega))
      have hnx := x_nextW hX hw hi hb
      rw [← hbg] at hnx
      have k0 : ∀ {τ : SS}, (∀ q j, q < d → τ.1 q j = s.1 q j) → τ.1 (5 + w) 0 = nI (rK ρ w 0) := fun hτ => by rw [hτ _ _ (by omega)]; exact hX.2.2.2.2 w hi 0 (by omega)
      have hg := x_goes (σ := sI (sI s (d + 1) i (nI (bg i))) (d + 2) i (nI (bg (i + 1)))) (q := 5 + w) (k := rK ρ w 0) (k0 (fun q j hq => by rw [rI_q (by omega), rI_q (by omega)])) a1 hb hb1 h60
      obtain ⟨s', g1, g2⟩ := x_addLink0 (d := d) (a := bg i) (b := bg (i + 1)) (σ := sI (sI (sI (sI (sI s (d + 1) i (nI (bg i))) (d + 2) i (nI (bg (i + 1)))) (d + 3) i (nI (gs (rT ρ) (rK ρ w 0) (bg i) (bg (i + 1))))) (d + 4) (bg i) (nI i)) d 2 (nI (i + 1))) (by omega) (by omega) hd
      refine ⟨s', ⟨?_, ?_, fun j hj => ?_, fun t ht hq => ?_, fun q j hq => ?_⟩, ?_⟩
      · rw [g2 _ _ (by omega), rI_j (by omega), rI_q (by omega), rI_q (by omega), rI_q (by omega), rI_q (by omega)]; exact i0
      · rw [g2 _ _ (by omega), rI_s]
      · rw [g2 _ _ (by omega), g2 _ _ (by omega), g2 _ _ (by omega), g2 _ _ (by omega)]
        by_cases ej : j = i
        · subst ej
          simp (disch := omega) only [rI_q, rI_s, and_self]
        · have hji := i2 j (by omega)
          have hne := hfr j (by omega)
          simp (disch := omega) only [rI_q, rI_j, hji, and_self]
      · have hne := hq i (by omega)
        rw [g2 _ _ (by omega), rI_q (by omega), rI_j (by omega), rI_q (by omega), rI_q (by omega), rI_q (by omega)]
        exact i3 t ht (fun j hj => hq j (by omega))
      · rw [g2 _ _ (by omega), rI_q (by omega), rI_q (by omega), rI_q (by omega), rI_q (by omega), rI_q (by omega)]
        exact i4 q j hq
      · simp (disch := omega) only [f_X0_trace_L51, r5, r6, r7, r8, l1, l2, l3, l4, cl_nI, ck_i, e1, i0, hnx, Option.bind_some, ol_add, rI_q, hg, g1]
        rw [if_neg (show ¬ nI (rT ρ) ≤ nI i by rw [le_nI (by omega) (by omega)]; omega), if_pos trivial])
    (fu := FU) (i := 0) (s := σ) (by omega) (FU_big (by omega)) ⟨h0, h2, fun j hj => by omega, fun t ht _ => h9 t (by omega), fun _ _ _ => rfl⟩
  exact ⟨s, e, h1, h2, h3, h5⟩
