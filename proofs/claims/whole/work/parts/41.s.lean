/-! the model's drawing -/
theorem MN.of {R : Nat} {wn : Nat → Nat} {σ σ' : SS} (h : MN R wn σ) (e0 : σ'.1 143 0 = σ.1 143 0) (e : ∀ t, σ'.1 144 t = σ.1 144 t) : MN R wn σ' := ⟨e0.trans h.1, fun t ht => (e t).trans (h.2.1 t ht), h.2.2⟩
theorem m_draws3 {R : Nat} {σ : SS} {x1 x2 x3 x4 : Int32} (h0 : σ.1 143 0 = nI R) (hR : R ≤ 60) {κ : Nat → Int32 → Int32 → Int32 → Int32 → SS → Option SS} : ∃ σ', f_X9_draws_L3 κ FU 143 x1 x2 x3 x4 0 σ = κ 143 x1 x2 x3 x4 σ' ∧ (∀ t, t < R → σ'.1 161 t = -1) ∧ ∀ q j, ¬ q = 161 → σ'.1 q j = σ.1 q j := by
  obtain ⟨s, ⟨h1, h2⟩, e⟩ := loop_eq (fun fu i (s : SS) => f_X9_draws_L3 κ fu 143 x1 x2 x3 x4 (nI i) s) (fun s => κ 143 x1 x2 x3 x4 s) R (fun i s => (∀ t, t < i → s.1 161 t = -1) ∧ ∀ q j, ¬ q = 161 → s.1 q j = σ.1 q j)
    (fun fu s hI => by
      simp only [f_X9_draws_L3]
      rw [hI.2 143 0 (by omega), h0, if_pos (show nI R ≤ nI R by rw [le_nI (by omega) (by omega)]; omega)])
    (fun fu i s hi hI => by
      obtain ⟨i1, i2⟩ := hI
      refine ⟨sI s 161 i (-1), ⟨fun t ht => ?_, fun q j hq => (rI_q hq).trans (i2 q j hq)⟩, ?_⟩
      · by_cases e : t = i
        · rw [e, rI_s]
        · rw [rI_j e]; exact i1 t (by omega)
      · simp (disch := omega) only [f_X9_draws_L3, RM, LN, ol_add, cl_nI, ck_i]
        rw [i2 143 0 (by omega), h0, if_neg (show ¬ nI R ≤ nI i by rw [le_nI (by omega) (by omega)]; omega)])
    (fu := FU) (i := 0) (s := σ) (by omega) (FU_big (by omega)) ⟨fun t ht => by omega, fun _ _ _ => rfl⟩
  exact ⟨s, e, h1, h2⟩
/-- the model's drawing: its arcs, its tail -/
def MDr (bg : Nat → Nat) (A T : Nat) (σ : SS) : Prop := σ.1 143 23 = nI A ∧ σ.1 143 24 = nI T ∧ ∀ i, i < A → σ.1 159 i = nI (bg i) ∧ σ.1 160 i = nI (bg (i + 1))
theorem m_draws {σ : SS} {R k W f p A T : Nat} {wn : Nat → Nat} (h : MN R wn σ) (hk : k ≤ 5) (hW : W < R) (hf : f ≤ 9) (hD : IsD R (bgF (nx R wn k W f) p) A T) : ∃ σ', f_X9_draws 143 (nI k) (nI W) (nI f) (nI p) σ = some σ' ∧ MDr (bgF (nx R wn k W f) p) A T σ' ∧ ∀ q j, ¬ (q = 143 ∧ (j = 23 ∨ j = 24)) → (q < 159 ∨ 161 < q) → σ'.1 q j = σ.1 q j := by
  have h60 := h.2.2.2.2
  obtain ⟨s0, f1, f2, f3⟩ := m_draws3 (x1 := nI k) (x2 := nI W) (x3 := nI f) (x4 := nI p) h.1 h60 (κ := fun (p0 : Nat) (y1 : Int32) (y2 : Int32) (y3 : Int32) (y4 : Int32) (τ : SS) => f_X9_draws_L35 (fun (p0 : Nat) (y5 : Int32) (τ : SS) => ck (¬ (y5 < 0 ∨ ln (rid p0 22) ≤ y5.toNatClampNeg)) (some (sI τ p0 24 (τ.1 (rid p0 22) y5.toNatClampNeg)))) FU p0 y1 y2 y3 y4 (sI τ p0 23 0))
  have hD' := hD
  obtain ⟨hA1, hA, hT, hAT, hinj, hlt⟩ := hD'
  have hbg : ∀ i, bgF (nx R wn k W f) p (i + 1) = nx R wn k W f (bgF (nx R wn k W f) p i) := fun _ => rfl
  have hp0 : bgF (nx R wn k W f) p 0 = p := rfl
  generalize bgF (nx R wn k W f) p = bg at *
  obtain ⟨s, ⟨h1, h2, h3, h4⟩, e⟩ := loop_eq (fun fu i (s : SS) => f_X9_draws_L35 (fun (p0 : Nat) (y5 : Int32) (τ : SS) => ck (¬ (y5 < 0 ∨ ln (rid p0 22) ≤ y5.toNatClampNeg)) (some (sI τ p0 24 (τ.1 (rid p0 22) y5.toNatClampNeg)))) fu 143 (nI k) (nI W) (nI f) (nI (bg i)) s) (fun s => some (sI s 143 24 (nI T))) A (fun i s => s.1 143 23 = nI i ∧ (∀ j, j < i → s.1 159 j = nI (bg j) ∧ s.1 160 j = nI (bg (j + 1)) ∧ s.1 161 (bg j) = nI j) ∧ (∀ t, t < R → (∀ j, j < i → ¬ bg j = t) → s.1 161 t = -1) ∧ ∀ q j, ¬ (q = 143 ∧ (j = 23 ∨ j = 24)) → (q < 159 ∨ 161 < q) → s.1 q j = σ.1 q j)
    (fun fu s hI => by
      obtain ⟨i0, i1, i2, i3⟩ := hI
      have hb := hlt T
      have e : s.1 161 (bg T) = nI T := (i1 T hT).2.2
      rw [hAT]
      simp (disch := omega) only [f_X9_draws_L35, RM, LN, cl_nI, ck_i, e]
      rw [if_pos (show 0 ≤ nI T from Int32.not_lt.mp (nlt_m (by omega)))])
    (fun fu i s hi hI => by
      obtain ⟨i0, i1, i2, i3⟩ := hI
      have hb := hlt i
      have hfr := hD.fresh hi
      have e1 : s.1 161 (bg i) = -1 := i2 _ hb hfr
      have hmn : MN R wn (sI (sI s 161 (bg i) (nI i)) 159 i (nI (bg i))) := h.of (by rw [rI_q (by omega), rI_q (by omega)]; exact i3 _ _ (by omega) (by omega)) (fun t => by rw [rI_q (by omega), rI_q (by omega)]; exact i3 _ _ (by omega) (by omega))
      have hnx := m_next hmn hk hW hf hb
      rw [← hbg] at hnx
      refine ⟨sI (sI (sI (sI s 161 (bg i) (nI i)) 159 i (nI (bg i))) 160 i (nI (bg (i + 1)))) 143 23 (nI (i + 1)), ⟨rI_s, fun j hj => ?_, fun t ht hq => ?_, fun q j hq hq2 => ?_⟩, ?_⟩
      · by_cases ej : j = i
        · subst ej
          exact ⟨by rw [rI_q (by omega), rI_q (by omega), rI_s], by rw [rI_q (by omega), rI_s], by rw [rI_q (by omega), rI_q (by omega), rI_q (by omega), rI_s]⟩
        · have hji := i1 j (by omega)
          exact ⟨by rw [rI_q (by omega), rI_q (by omega), rI_j ej, rI_q (by omega)]; exact hji.1, by rw [rI_q (by omega), rI_j ej, rI_q (by omega), rI_q (by omega)]; exact hji.2.1, by rw [rI_q (by omega), rI_q (by omega), rI_q (by omega), rI_j (hfr j (by omega))]; exact hji.2.2⟩
      · rw [rI_q (by omega), rI_q (by omega), rI_q (by omega), rI_j (fun z => hq i (by omega) z.symm)]
        exact i2 t ht (fun j hj => hq j (by omega))
      · rw [rI_i, if_neg (by omega), rI_q (by omega), rI_q (by omega), rI_q (by omega)]
        exact i3 q j hq hq2
      · simp (disch := omega) only [f_X9_draws_L35, RM, LN, cl_nI, ck_i, e1, i0, rI_q, hnx, Option.bind_some, ol_add]
        rw [if_neg (show ¬ (0 : Int32) ≤ -1 by decide)])
    (fu := FU) (i := 0) (s := sI s0 143 23 0) (by omega) (FU_big (by omega)) ⟨rI_s, fun j hj => by omega, fun t ht _ => by rw [rI_q (by omega)]; exact f2 t ht, fun q j hq hq2 => by rw [rI_i, if_neg (by omega)]; exact f3 q j (by omega)⟩
  refine ⟨sI s 143 24 (nI T), ?_, ⟨by rw [rI_j (by omega)]; exact h1, rI_s, fun i hi => ⟨by rw [rI_q (by omega)]; exact (h2 i hi).1, by rw [rI_q (by omega)]; exact (h2 i hi).2.1⟩⟩, fun q j hq hq2 => by rw [rI_i, if_neg (by omega)]; exact h4 q j hq hq2⟩
  unfold f_X9_draws
  rw [f1]
  try dsimp only
  rw [← hp0]
  exact e
