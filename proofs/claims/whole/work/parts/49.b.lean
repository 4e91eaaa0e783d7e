/-! the drawings of both sides, with all that they leave -/
def AFr (no : Int32) (bg : Nat → Nat) (A R : Nat) (f : Nat → Int32) : Prop := (∀ i, i < A → f (bg i) = nI i) ∧ ∀ t, t < R → (∀ i, i < A → ¬ bg i = t) → f t = no
def DrX (d R k : Nat) (bg : Nat → Nat) (A T : Nat) (σ : SS) : Prop := σ.1 d 0 = nI R ∧ σ.1 d 1 = nI (sd k) ∧ σ.1 d 2 = nI A ∧ σ.1 d 3 = nI T ∧ (∀ i, i < A → σ.1 (d + 1) i = nI (bg i) ∧ σ.1 (d + 2) i = nI (bg (i + 1)) ∧ σ.1 (d + 3) i = nI (gs R k (bg i) (bg (i + 1)))) ∧ AFr (-9) bg A R (σ.1 (d + 4)) ∧ LX d bg A σ
def DrM (R : Nat) (bg : Nat → Nat) (A T : Nat) (σ : SS) : Prop := σ.1 143 23 = nI A ∧ σ.1 143 24 = nI T ∧ (∀ i, i < A → σ.1 159 i = nI (bg i) ∧ σ.1 160 i = nI (bg (i + 1))) ∧ AFr (-1) bg A R (σ.1 161)
theorem DrX.of {d R k A T : Nat} {bg : Nat → Nat} {σ σ' : SS} (h : DrX d R k bg A T σ) (e : ∀ q j, d ≤ q → q ≤ d + 5 → σ'.1 q j = σ.1 q j) (e2 : ∀ j, σ'.2 (d + 5) j = σ.2 (d + 5) j) : DrX d R k bg A T σ' := by
  obtain ⟨h0, h1, h2, h3, h4, h5, h6⟩ := h
  exact ⟨(e _ _ (by omega) (by omega)).trans h0, (e _ _ (by omega) (by omega)).trans h1, (e _ _ (by omega) (by omega)).trans h2, (e _ _ (by omega) (by omega)).trans h3, fun i hi => ⟨(e _ _ (by omega) (by omega)).trans (h4 i hi).1, (e _ _ (by omega) (by omega)).trans (h4 i hi).2.1, (e _ _ (by omega) (by omega)).trans (h4 i hi).2.2⟩, ⟨fun i hi => (e _ _ (by omega) (by omega)).trans (h5.1 i hi), fun t ht hn => (e _ _ (by omega) (by omega)).trans (h5.2 t ht hn)⟩, (e _ _ (by omega) (by omega)).trans h6.1, fun x hx y => by rw [e2]; exact h6.2 x hx y⟩
theorem x_traceL {d v k W f p A T : Nat} {ρ : RG} {σ : SS} (hd : d = 116 ∨ d = 122) (h : X1 ρ σ) (hw : WR ρ) (hv : v < 116 ∨ v = 135) (c0 : σ.1 v 0 = nI k) (c1 : σ.1 v 1 = nI W) (c2 : σ.1 v 2 = nI f) (hk : k ≤ 5) (hW : W < rT ρ) (hf : f ≤ 9) (hD : IsD (rT ρ) (bgF (nx (rT ρ) (rW ρ) k W f) p) A T) (h0 : σ.1 d 0 = nI (rT ρ)) (h2 : σ.1 d 2 = 0) (h9 : ∀ t, t < 60 → σ.1 (d + 4) t = -9) (hL : LX d (bgF (nx (rT ρ) (rW ρ) k W f) p) 0 σ) {κ : Nat → Int32 → SS → Option SS} :
    ∃ σ', f_X0_trace_L51 κ FU d 1 v (nI p) 0 σ = κ d (nI (bgF (nx (rT ρ) (rW ρ) k W f) p A)) σ' ∧ σ'.1 d 0 = nI (rT ρ) ∧ σ'.1 d 1 = σ.1 d 1 ∧ σ'.1 d 2 = nI A ∧ (∀ i, i < A → σ'.1 (d + 1) i = nI (bgF (nx (rT ρ) (rW ρ) k W f) p i) ∧ σ'.1 (d + 2) i = nI (bgF (nx (rT ρ) (rW ρ) k W f) p (i + 1)) ∧ σ'.1 (d + 3) i = nI (gs (rT ρ) k (bgF (nx (rT ρ) (rW ρ) k W f) p i) (bgF (nx (rT ρ) (rW ρ) k W f) p (i + 1)))) ∧ AFr (-9) (bgF (nx (rT ρ) (rW ρ) k W f) p) A (rT ρ) (σ'.1 (d + 4)) ∧ LX d (bgF (nx (rT ρ) (rW ρ) k W f) p) A σ' ∧ (∀ q j, (q < d ∨ d + 5 < q) → σ'.1 q j = σ.1 q j) ∧ ∀ q j, ¬ q = d + 5 → σ'.2 q j = σ.2 q j := by
  have h60 := hw.2.1
  have h6 := hw.2.2.1
  obtain ⟨r5, r6, r7, r8, l1, l2, l3, l4⟩ := rid_dd hd
  have hD' := hD
  obtain ⟨hA1, hA, hT, hAT, hinj, hlt⟩ := hD'
  have hbg : ∀ i, bgF (nx (rT ρ) (rW ρ) k W f) p (i + 1) = nx (rT ρ) (rW ρ) k W f (bgF (nx (rT ρ) (rW ρ) k W f) p i) := fun _ => rfl
  have hp0 : bgF (nx (rT ρ) (rW ρ) k W f) p 0 = p := rfl
  generalize bgF (nx (rT ρ) (rW ρ) k W f) p = bg at *
  obtain ⟨s, ⟨h1, h2, h3, h4, h5, h6, h7, h8⟩, e⟩ := loop_eq (fun fu i (s : SS) => f_X0_trace_L51 κ fu d 1 v (nI (bg i)) (nI i) s) (fun s => κ d (nI (bg A)) s) A (fun i s => s.1 d 0 = nI (rT ρ) ∧ s.1 d 2 = nI i ∧ (∀ j, j < i → s.1 (d + 1) j = nI (bg j) ∧ s.1 (d + 2) j = nI (bg (j + 1)) ∧ s.1 (d + 3) j = nI (gs (rT ρ) k (bg j) (bg (j + 1)))) ∧ AFr (-9) bg i (rT ρ) (s.1 (d + 4)) ∧ LX d bg i s ∧ s.1 d 1 = σ.1 d 1 ∧ (∀ q j, (q < d ∨ d + 5 < q) → s.1 q j = σ.1 q j) ∧ ∀ q j, ¬ q = d + 5 → s.2 q j = σ.2 q j)
    (fun fu s hI => by
      obtain ⟨i0, i1, i2, i3, i4⟩ := hI
      have hb := hlt A
      have e : s.1 (d + 4) (bg A) = nI T := by rw [hAT]; exact i3.1 T hT
      simp (disch := omega) only [f_X0_trace_L51, r8, l4, cl_nI, ck_i, e, i0]
      rw [if_neg (ne_m9 (show T ≤ 2000000 by omega))]
      split <;> rfl)
    (fun fu i s hi9 hI => by
      obtain ⟨i0, i1, i2, i3, i4, i5, i6, i7⟩ := hI
      have hb := hlt i
      have hb1 := hlt (i + 1)
      have hfr := hD.fresh hi9
      have e1 : s.1 (d + 4) (bg i) = -9 := i3.2 _ hb hfr
      have hX : X1 ρ s := X1.of h6 h (fun q j _ _ => i6 q j (by omega))
      have v0 : s.1 v 0 = nI k := (i6 v 0 (by omega)).trans c0
      have hnx := x_next hX hw v0 ((i6 v 1 (by omega)).trans c1) ((i6 v 2 (by omega)).trans c2) hk hW hf hb
      rw [← hbg] at hnx
      have hg := x_goes (σ := sI (sI s (d + 1) i (nI (bg i))) (d + 2) i (nI (bg (i + 1)))) (q := v) (k := k) (by rw [rI_q (by omega), rI_q (by omega)]; exact v0) hk hb hb1 h60
      obtain ⟨s', g1, g2, g3, g4⟩ := x_addLink (d := d) (i := i) (bg := bg) (σ := sI (sI (sI (sI (sI s (d + 1) i (nI (bg i))) (d + 2) i (nI (bg (i + 1)))) (d + 3) i (nI (gs (rT ρ) k (bg i) (bg (i + 1))))) (d + 4) (bg i) (nI i)) d 2 (nI (i + 1))) hd (fun j => by have := hlt j; omega) ⟨by rw [rI_j (by omega), rI_q (by omega), rI_q (by omega), rI_q (by omega), rI_q (by omega)]; exact i4.1, i4.2⟩
      refine ⟨s', ⟨?_, ?_, fun j hj => ?_, ⟨fun j hj => ?_, fun t ht hq => ?_⟩, g2, ?_, fun q j hq => ?_, fun q j hq => (g4 q j hq).trans (i7 q j hq)⟩, ?_⟩
      · rw [g3 _ _ (by omega), rI_j (by omega), rI_q (by omega), rI_q (by omega), rI_q (by omega), rI_q (by omega)]; exact i0
      · rw [g3 _ _ (by omega), rI_s]
      · rw [g3 _ _ (by omega), g3 _ _ (by omega), g3 _ _ (by omega)]
        by_cases ej : j = i
        · subst ej
          simp (disch := omega) only [rI_q, rI_s, and_self]
        · have hji := i2 j (by omega)
          simp (disch := omega) only [rI_q, rI_j, hji, and_self]
      · rw [g3 _ _ (by omega), rI_q (by omega)]
        by_cases ej : j = i
        · subst ej
          rw [rI_s]
        · have hne := hfr j (by omega)
          rw [rI_j (by omega), rI_q (by omega), rI_q (by omega), rI_q (by omega)]
          exact i3.1 j (by omega)
      · have hne := hq i (by omega)
        rw [g3 _ _ (by omega), rI_q (by omega), rI_j (by omega), rI_q (by omega), rI_q (by omega), rI_q (by omega)]
        exact i3.2 t ht (fun j hj => hq j (by omega))
      · rw [g3 _ _ (by omega), rI_j (by omega), rI_q (by omega), rI_q (by omega), rI_q (by omega), rI_q (by omega)]; exact i5
      · rw [g3 _ _ (by omega), rI_q (by omega), rI_q (by omega), rI_q (by omega), rI_q (by omega), rI_q (by omega)]
        exact i6 q j hq
      · simp (disch := omega) only [f_X0_trace_L51, r5, r6, r7, r8, l1, l2, l3, l4, cl_nI, ck_i, e1, i0, hnx, Option.bind_some, ol_add, rI_q, hg, g1]
        rw [if_neg (show ¬ nI (rT ρ) ≤ nI i by rw [le_nI (by omega) (by omega)]; omega), if_pos trivial])
    (fu := FU) (i := 0) (s := σ) (by omega) (FU_big (by omega)) ⟨h0, h2, fun j hj => by omega, ⟨fun j hj => by omega, fun t ht _ => h9 t (by omega)⟩, hL, rfl, fun _ _ _ => rfl, fun _ _ _ => rfl⟩
  rw [hp0] at e
  exact ⟨s, e, h1, h6, h2, h3, h4, h5, h7, h8⟩
/-- the class's drawing of any wheel -/
theorem x_traceG {d v k W f p A T : Nat} {ρ : RG} {σ : SS} (hd : d = 116 ∨ d = 122) (h : X1 ρ σ) (hw : WR ρ) (hv : v < 116 ∨ v = 135) (c0 : σ.1 v 0 = nI k) (c1 : σ.1 v 1 = nI W) (c2 : σ.1 v 2 = nI f) (c4 : σ.1 v 4 = nI p) (hk : k ≤ 5) (hW : W < rT ρ) (hf : f ≤ 9) (hD : IsD (rT ρ) (bgF (nx (rT ρ) (rW ρ) k W f) p) A T) :
    ∃ σ', f_X0_trace d 1 v σ = some σ' ∧ DrX d (rT ρ) k (bgF (nx (rT ρ) (rW ρ) k W f) p) A T σ' ∧ (∀ q j, (q < d ∨ d + 5 < q) → σ'.1 q j = σ.1 q j) ∧ ∀ q j, ¬ q = d + 5 → σ'.2 q j = σ.2 q j := by
  have h60 := hw.2.1
  have h6 := hw.2.2.1
  obtain ⟨r5, r6, r7, r8, l1, l2, l3, l4⟩ := rid_dd hd
  obtain ⟨r9, l5⟩ := rid_d hd
  have hb := hD.2.2.2.2.2 T
  have hT := hD.2.2.1
  have hAT := hD.2.2.2.1
  have hs := x_side (σ := sI σ d 0 (σ.1 1 0)) (q := v) (k := k) (by rw [rI_q (by omega)]; exact c0) hk
  obtain ⟨s1, f1, f2, f3, f4⟩ := x_fill (q := d + 4) (n := 60) (v := -9) (σ := sI (sI (sI (sI σ d 0 (σ.1 1 0)) d 1 (f_X7_side v (sI σ d 0 (σ.1 1 0)))) d 2 0) d 4 0) l4 (by omega)
  obtain ⟨s2, g1, g2, g3, g4⟩ := x_fillL (q := d + 5) (n := 60) (v := 0) (σ := s1) l5 (by omega)
  have fr : ∀ q j, (q < d ∨ d + 5 < q) → s2.1 q j = σ.1 q j := fun q j hq => by
    rw [g4, f3 _ _ (by omega), rI_q (by omega), rI_q (by omega), rI_q (by omega), rI_q (by omega)]
  have hX : X1 ρ s2 := X1.of h6 h (fun q j _ _ => fr q j (by omega))
  obtain ⟨s, e, k0, k1, k2, k3, k4, k5, k6, k7⟩ := x_traceL hd hX hw hv ((fr v 0 (by omega)).trans c0) ((fr v 1 (by omega)).trans c1) ((fr v 2 (by omega)).trans c2) hk hW hf hD (by rw [g4, f3 _ _ (by omega), rI_j (by omega), rI_j (by omega), rI_j (by omega), rI_s]; exact h.1) (by rw [g4, f3 _ _ (by omega), rI_j (by omega), rI_s]) (fun t ht => by rw [g4]; exact f2 t ht) ⟨by rw [g4, f3 _ _ (by omega), rI_s]; rfl, fun x hx y => by rw [g2 x hx, lb_0]; rfl⟩ (κ := fun (p0 : Nat) (y3 : Int32) (τ : SS) => ck (¬ (y3 < 0 ∨ ln (rid p0 8) ≤ y3.toNatClampNeg)) (some (sI τ p0 3 (τ.1 (rid p0 8) y3.toNatClampNeg))))
  have e4 : s2.1 v 4 = nI p := (fr v 4 (by omega)).trans c4
  have eT : s.1 (d + 4) (bgF (nx (rT ρ) (rW ρ) k W f) p T) = nI T := k4.1 T hT
  have e1 : s2.1 d 1 = nI (sd k) := by rw [g4, f3 _ _ (by omega), rI_j (by omega), rI_j (by omega), rI_s]; exact hs
  refine ⟨sI s d 3 (nI T), ?_, ⟨by rw [rI_j (by omega)]; exact k0, by rw [rI_j (by omega), k1]; exact e1, by rw [rI_j (by omega)]; exact k2, rI_s, fun i hi' => ?_, ⟨fun i hi => by rw [rI_q (by omega)]; exact k4.1 i hi, fun t ht hn => by rw [rI_q (by omega)]; exact k4.2 t ht hn⟩, by rw [rI_j (by omega)]; exact k5.1, k5.2⟩, fun q j hq => by rw [rI_q (by omega), k6 q j hq, fr q j hq], fun q j hq => ?_⟩
  · unfold f_X0_trace
    rw [r8, r9, f1, Option.bind_some, g1, Option.bind_some, e4]
    refine e.trans ?_
    rw [hAT]
    simp (disch := omega) only [r8, l4, cl_nI, ck_i, eT]
  · rw [rI_q (by omega), rI_q (by omega), rI_q (by omega)]
    exact k3 i hi'
  · show s.2 q j = _
    rw [k7 q j hq, g3 q j hq, f4]
    rfl
/-- of a wheel of the ring -/
theorem x_traceW {d w A T : Nat} {ρ : RG} {σ : SS} (hd : d = 116 ∨ d = 122) (h : X1 ρ σ) (hw : WR ρ) (hi : w < rN ρ) (hD : IsD (rT ρ) (bgW ρ w) A T) : ∃ σ', f_X0_trace d 1 (5 + w) σ = some σ' ∧ DrX d (rT ρ) (rK ρ w 0) (bgW ρ w) A T σ' ∧ (∀ q j, (q < d ∨ d + 5 < q) → σ'.1 q j = σ.1 q j) ∧ ∀ q j, ¬ q = d + 5 → σ'.2 q j = σ.2 q j := by
  have h6 := hw.2.2.1
  obtain ⟨a1, a2, a3, a4, a5, a6, a7, a8⟩ := hw.2.2.2.2.2 w hi
  have hc := h.2.2.2.2 w hi
  exact x_traceG hd h hw (by omega) (hc 0 (by omega)) (hc 1 (by omega)) (hc 2 (by omega)) (hc 4 (by omega)) a1 a3 a4 hD
/-- the model's -/
theorem m_drawsG {σ : SS} {R k W f p A T : Nat} {wn : Nat → Nat} (h : MN R wn σ) (hk : k ≤ 5) (hW : W < R) (hf : f ≤ 9) (hD : IsD R (bgF (nx R wn k W f) p) A T) : ∃ σ', f_X9_draws 143 (nI k) (nI W) (nI f) (nI p) σ = some σ' ∧ DrM R (bgF (nx R wn k W f) p) A T σ' ∧ (∀ q j, ¬ (q = 143 ∧ (j = 23 ∨ j = 24)) → (q < 159 ∨ 161 < q) → σ'.1 q j = σ.1 q j) ∧ σ'.2 = σ.2 := by
  have h60 := h.2.2.2.2
  obtain ⟨s0, f1, f2, f3, f4⟩ : ∃ σ', f_X9_draws_L3 (fun (p0 : Nat) (y1 : Int32) (y2 : Int32) (y3 : Int32) (y4 : Int32) (τ : SS) => f_X9_draws_L35 (fun (p0 : Nat) (y5 : Int32) (τ : SS) => ck (¬ (y5 < 0 ∨ ln (rid p0 22) ≤ y5.toNatClampNeg)) (some (sI τ p0 24 (τ.1 (rid p0 22) y5.toNatClampNeg)))) FU p0 y1 y2 y3 y4 (sI τ p0 23 0)) FU 143 (nI k) (nI W) (nI f) (nI p) 0 σ = (f_X9_draws_L35 (fun (p0 : Nat) (y5 : Int32) (τ : SS) => ck (¬ (y5 < 0 ∨ ln (rid p0 22) ≤ y5.toNatClampNeg)) (some (sI τ p0 24 (τ.1 (rid p0 22) y5.toNatClampNeg)))) FU 143 (nI k) (nI W) (nI f) (nI p) (sI σ' 143 23 0)) ∧ (∀ t, t < R → σ'.1 161 t = -1) ∧ (∀ q j, ¬ q = 161 → σ'.1 q j = σ.1 q j) ∧ σ'.2 = σ.2 := by
    obtain ⟨s, ⟨h1, h2, h3⟩, e⟩ := loop_eq (fun fu i (s : SS) => f_X9_draws_L3 (fun (p0 : Nat) (y1 : Int32) (y2 : Int32) (y3 : Int32) (y4 : Int32) (τ : SS) => f_X9_draws_L35 (fun (p0 : Nat) (y5 : Int32) (τ : SS) => ck (¬ (y5 < 0 ∨ ln (rid p0 22) ≤ y5.toNatClampNeg)) (some (sI τ p0 24 (τ.1 (rid p0 22) y5.toNatClampNeg)))) FU p0 y1 y2 y3 y4 (sI τ p0 23 0)) fu 143 (nI k) (nI W) (nI f) (nI p) (nI i) s) (fun s => f_X9_draws_L35 (fun (p0 : Nat) (y5 : Int32) (τ : SS) => ck (¬ (y5 < 0 ∨ ln (rid p0 22) ≤ y5.toNatClampNeg)) (some (sI τ p0 24 (τ.1 (rid p0 22) y5.toNatClampNeg)))) FU 143 (nI k) (nI W) (nI f) (nI p) (sI s 143 23 0)) R (fun i s => (∀ t, t < i → s.1 161 t = -1) ∧ (∀ q j, ¬ q = 161 → s.1 q j = σ.1 q j) ∧ s.2 = σ.2)
      (fun fu s hI => by
        simp only [f_X9_draws_L3]
        rw [hI.2.1 143 0 (by omega), h.1, if_pos (show nI R ≤ nI R by rw [le_nI (by omega) (by omega)]; omega)])
      (fun fu i s hi hI => by
        obtain ⟨i1, i2, i3⟩ := hI
        refine ⟨sI s 161 i (-1), ⟨fun t ht => ?_, fun q j hq => (rI_q hq).trans (i2 q j hq), i3⟩, ?_⟩
        · by_cases e : t = i
          · rw [e, rI_s]
          · rw [rI_j e]; exact i1 t (by omega)
        · simp (disch := omega) only [f_X9_draws_L3, RM, LN, ol_add, cl_nI, ck_i]
          rw [i2 143 0 (by omega), h.1, if_neg (show ¬ nI R ≤ nI i by rw [le_nI (by omega) (by omega)]; omega)])
      (fu := FU) (i := 0) (s := σ) (by omega) (FU_big (by omega)) ⟨fun t ht => by omega, fun _ _ _ => rfl, rfl⟩
    exact ⟨s, e, h1, h2, h3⟩
  have hD' := hD
  obtain ⟨hA1, hA, hT, hAT, hinj, hlt⟩ := hD'
  have hbg : ∀ i, bgF (nx R wn k W f) p (i + 1) = nx R wn k W f (bgF (nx R wn k W f) p i) := fun _ => rfl
  have hp0 : bgF (nx R wn k W f) p 0 = p := rfl
  generalize bgF (nx R wn k W f) p = bg at *
  obtain ⟨s, ⟨h1, h2, h3, h4, h5⟩, e⟩ := loop_eq (fun fu i (s : SS) => f_X9_draws_L35 (fun (p0 : Nat) (y5 : Int32) (τ : SS) => ck (¬ (y5 < 0 ∨ ln (rid p0 22) ≤ y5.toNatClampNeg)) (some (sI τ p0 24 (τ.1 (rid p0 22) y5.toNatClampNeg)))) fu 143 (nI k) (nI W) (nI f) (nI (bg i)) s) (fun s => some (sI s 143 24 (nI T))) A (fun i s => s.1 143 23 = nI i ∧ (∀ j, j < i → s.1 159 j = nI (bg j) ∧ s.1 160 j = nI (bg (j + 1))) ∧ AFr (-1) bg i R (s.1 161) ∧ (∀ q j, ¬ (q = 143 ∧ (j = 23 ∨ j = 24)) → (q < 159 ∨ 161 < q) → s.1 q j = σ.1 q j) ∧ s.2 = σ.2)
    (fun fu s hI => by
      obtain ⟨i0, i1, i2, i3, i4⟩ := hI
      have hb := hlt T
      have e : s.1 161 (bg T) = nI T := i2.1 T hT
      rw [hAT]
      simp (disch := omega) only [f_X9_draws_L35, RM, LN, cl_nI, ck_i, e]
      rw [if_pos (show 0 ≤ nI T from Int32.not_lt.mp (nlt_m (by omega)))])
    (fun fu i s hi hI => by
      obtain ⟨i0, i1, i2, i3, i4⟩ := hI
      have hb := hlt i
      have hfr := hD.fresh hi
      have e1 : s.1 161 (bg i) = -1 := i2.2 _ hb hfr
      have hmn : MN R wn (sI (sI s 161 (bg i) (nI i)) 159 i (nI (bg i))) := h.of (by rw [rI_q (by omega), rI_q (by omega)]; exact i3 _ _ (by omega) (by omega)) (fun t => by rw [rI_q (by omega), rI_q (by omega)]; exact i3 _ _ (by omega) (by omega))
      have hnx := m_next hmn hk hW hf hb
      rw [← hbg] at hnx
      refine ⟨sI (sI (sI (sI s 161 (bg i) (nI i)) 159 i (nI (bg i))) 160 i (nI (bg (i + 1)))) 143 23 (nI (i + 1)), ⟨rI_s, fun j hj => ?_, ⟨fun j hj => ?_, fun t ht hq => ?_⟩, fun q j hq hq2 => ?_, i4⟩, ?_⟩
      · by_cases ej : j = i
        · subst ej
          exact ⟨by rw [rI_q (by omega), rI_q (by omega), rI_s], by rw [rI_q (by omega), rI_s]⟩
        · have hji := i1 j (by omega)
          exact ⟨by rw [rI_q (by omega), rI_q (by omega), rI_j ej, rI_q (by omega)]; exact hji.1, by rw [rI_q (by omega), rI_j ej, rI_q (by omega), rI_q (by omega)]; exact hji.2⟩
      · by_cases ej : j = i
        · subst ej
          rw [rI_q (by omega), rI_q (by omega), rI_q (by omega), rI_s]
        · rw [rI_q (by omega), rI_q (by omega), rI_q (by omega), rI_j (hfr j (by omega))]
          exact i2.1 j (by omega)
      · rw [rI_q (by omega), rI_q (by omega), rI_q (by omega), rI_j (fun z => hq i (by omega) z.symm)]
        exact i2.2 t ht (fun j hj => hq j (by omega))
      · rw [rI_i, if_neg (by omega), rI_q (by omega), rI_q (by omega), rI_q (by omega)]
        exact i3 q j hq hq2
      · simp (disch := omega) only [f_X9_draws_L35, RM, LN, cl_nI, ck_i, e1, i0, rI_q, hnx, Option.bind_some, ol_add]
        rw [if_neg (show ¬ (0 : Int32) ≤ -1 by decide)])
    (fu := FU) (i := 0) (s := sI s0 143 23 0) (by omega) (FU_big (by omega)) ⟨rI_s, fun j hj => by omega, ⟨fun j hj => by omega, fun t ht _ => by rw [rI_q (by omega)]; exact f2 t ht⟩, fun q j hq hq2 => by rw [rI_i, if_neg (by omega)]; exact f3 q j (by omega), f4⟩
  refine ⟨sI s 143 24 (nI T), ?_, ⟨by rw [rI_j (by omega)]; exact h1, rI_s, fun i hi => ⟨by rw [rI_q (by omega)]; exact (h2 i hi).1, by rw [rI_q (by omega)]; exact (h2 i hi).2⟩, ⟨fun i hi => by rw [rI_q (by omega)]; exact h3.1 i hi, fun t ht hn => by rw [rI_q (by omega)]; exact h3.2 t ht hn⟩⟩, fun q j hq hq2 => by rw [rI_i, if_neg (by omega)]; exact h4 q j hq hq2, h5⟩
  unfold f_X9_draws
  rw [f1]
  try dsimp only
  rw [← hp0]
  exact e
theorem m_drawsW {ρ : RG} {σ : SS} {w A T : Nat} (h : M1 ρ σ) (hw : WR ρ) (hi : w < rN ρ) (hD : IsD (rT ρ) (bgW ρ w) A T) : ∃ σ', f_X9_drawsBy 143 (nI w) σ = some σ' ∧ DrM (rT ρ) (bgW ρ w) A T σ' ∧ (∀ q j, ¬ (q = 143 ∧ (j = 23 ∨ j = 24)) → (q < 159 ∨ 161 < q) → σ'.1 q j = σ.1 q j) ∧ σ'.2 = σ.2 := by
  have h6 := hw.2.2.1
  obtain ⟨a1, a2, a3, a4, a5, a6, a7, a8⟩ := hw.2.2.2.2.2 w hi
  obtain ⟨σ', f1, f2, f3, f4⟩ := m_drawsG (h.mn hw) a1 a3 a4 hD
  refine ⟨σ', ?_, f2, f3, f4⟩
  have e0 : σ.1 146 w = nI (rK ρ w 0) := h.2.2.2.2 w hi 0 (by omega)
  have e1 : σ.1 147 w = nI (rK ρ w 1) := h.2.2.2.2 w hi 1 (by omega)
  have e2 : σ.1 148 w = nI (rK ρ w 2) := h.2.2.2.2 w hi 2 (by omega)
  have e4 : σ.1 150 w = nI (rK ρ w 4) := h.2.2.2.2 w hi 4 (by omega)
  unfold f_X9_drawsBy
  simp (disch := omega) only [RM, LN, cl_nI, ck_i, e0, e1, e2, e4, f1, Option.bind_some]
theorem fxD {d : Nat} (hd : d = 116 ∨ d = 122) {τ τ' : SS} (h : ∀ q j, (q < d ∨ d + 5 < q) → τ'.1 q j = τ.1 q j) : FX τ τ' := fun q j hq => h q j (by unfold SX at hq; omega)
theorem fmD {τ τ' : SS} (h : ∀ q j, ¬ (q = 143 ∧ (j = 23 ∨ j = 24)) → (q < 159 ∨ 161 < q) → τ'.1 q j = τ.1 q j) : FM τ τ' := fun q j hq => h q j (by unfold SM at hq; omega) (by unfold SM at hq; omega)
