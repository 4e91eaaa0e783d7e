/-! puts, wears, roll: each keeps what was ahead of it -/
/-- the ring is another of the same shape; what was is kept -/
def aDo (A : AB) (ρ : RG) : AB := (ρ, A.2.1, pu A.1 A.2.2.1, A.2.2.2.1, A.2.2.2.2.1, A.2.2.2.2.2)
theorem Sh.refl (ρ : RG) : Sh ρ ρ := ⟨rfl, rfl, fun _ _ _ _ => rfl⟩
theorem Sh.trans2 {a b c : RG} (h1 : Sh a b) (h2 : Sh a c) : Sh b c := ⟨h2.1.trans h1.1.symm, h2.2.1.trans h1.2.1.symm, fun i hi j hj => (h2.2.2 i (by rw [← h1.2.1]; exact hi) j hj).trans (h1.2.2 i (by rw [← h1.2.1]; exact hi) j hj).symm⟩
theorem WF.do {A : AB} {ρ : RG} (hw : WF A) (h : WR ρ) (hs : Sh A.1 ρ) : WF (aDo A ρ) := by
  refine ⟨h, hw.2.1, ⟨?_, fun x hx => ?_⟩, hw.2.2.2.1, hw.2.2.2.2⟩
  · show (pu A.1 A.2.2.1).length ≤ 8
    rw [pu_len]; omega
  · have hx := List.mem_of_mem_take hx
    rcases List.mem_cons.mp hx with rfl | hx
    · exact ⟨hw.1, hs.trans2 (Sh.refl _)⟩
    · exact ⟨(hw.2.2.1.2 x hx).1, hs.trans2 (hw.2.2.1.2 x hx).2⟩
/-- a deed of the class's, behind keep: from the kept world it makes the new ring, and changes cells 1 .. 10 alone -/
theorem XC.deed {A : AB} {ρ : RG} {r : Int32} {f : SS → Option (Int32 × SS)} (hw : WF A) (hs : Sh A.1 ρ) (g : SS → Option (Int32 × SS)) (hf : ∀ σ, XH A σ → f σ = (f_X3_keep 31 1 σ).bind g)
    (hg : ∀ τ, X1 A.1 τ → ∃ τ', g τ = some (r, τ') ∧ X1 ρ τ' ∧ ∀ q j, (q < 1 ∨ 10 < q) → τ'.1 q j = τ.1 q j) : XC f A r (aDo A ρ) := by
  intro σ h
  obtain ⟨σ1, k1, k2, k3⟩ := x_keep hw h
  have h' := h
  obtain ⟨h1, h2, h3, h4, h5, h6⟩ := h'
  obtain ⟨σ2, e1, e2, e3⟩ := hg σ1 (h1.of hw.n1 (fun q j _ _ => k3 q j (by omega)))
  have hn3 : ∀ x ∈ pu A.1 A.2.2.1, rN x ≤ 6 := fun x hx => by
    rcases List.mem_cons.mp (List.mem_of_mem_take hx) with rfl | hx
    · exact hw.n1
    · exact hw.n3 x hx
  have fo : ∀ q j, (q < 1 ∨ 112 < q ∨ (10 < q ∧ q < 31)) → σ2.1 q j = σ.1 q j := fun q j hq => (e3 q j (by omega)).trans (k3 q j (by omega))
  refine ⟨σ2, by rw [hf σ h, k1, Option.bind_some]; exact e1, ⟨e2, h2.of hw.n2 (fun q j hq => fo q j (by omega)), k2.of hn3 (fun q j _ _ => e3 q j (by omega)), h4.of (fun q j _ _ => fo q j (by omega)), h5.of (fun q j _ _ => fo q j (by omega)), h6.of (fun j => fo _ j (by omega))⟩, fun q j hq => fo q j (by omega)⟩
theorem MC.deed {A : AB} {ρ : RG} {r : Int32} {f : SS → Option (Int32 × SS)} (hw : WF A) (g : SS → Option (Int32 × SS)) (hf : ∀ σ, MH A σ → f σ = (f_X9_layBy 143 σ).bind g)
    (hg : ∀ τ, M1 A.1 τ → ∃ τ', g τ = some (r, τ') ∧ M1 ρ τ' ∧ ∀ q j, (q < 144 ∨ 151 < q) → τ'.1 q j = τ.1 q j) : MC f A r (aDo A ρ) := by
  intro σ h
  obtain ⟨σ1, k1, k2, k3⟩ := m_layBy hw h
  have h' := h
  obtain ⟨h1, h2, h3, h4, h5, h6⟩ := h'
  obtain ⟨σ2, e1, e2, e3⟩ := hg σ1 (h1.of hw.n1 (k3 _ _ (by omega) (by omega)) (k3 _ _ (by omega) (by omega)) (fun q j _ _ => k3 q j (by omega) (by omega)))
  have fo : ∀ q j, (q < 144 ∨ 151 < q) → ¬ q = 155 → ¬ (q = 143 ∧ j = 15) → σ2.1 q j = σ.1 q j := fun q j hq a b => (e3 q j hq).trans (k3 q j a b)
  exact ⟨σ2, by rw [hf σ h, k1, Option.bind_some]; exact e1, ⟨e2, h2.of (fo _ _ (by omega) (by omega) (by omega)) (fun j => fo _ j (by omega) (by omega) (by omega)), k2.of (e3 _ _ (by omega)) (fun j => e3 _ j (by omega)), h4.of (fo _ _ (by omega) (by omega) (by omega)) (fun j => fo _ j (by omega) (by omega) (by omega)), h5.of (fun q j _ _ => fo q j (by omega) (by omega) (by omega)), h6.of (fun j => fo _ j (by omega) (by omega) (by omega))⟩, fun q j hq => fo q j (by omega) (by omega) (by omega)⟩
/-- the ring with v at place j of wheel w -/
def rPut (ρ : RG) (w j v : Nat) : RG := (ρ.1, ρ.2.1, ρ.2.2.1, fun a b => if a = w ∧ b = j then v else ρ.2.2.2 a b)
def rMend (ρ : RG) (t : Nat) : RG := (ρ.1, ρ.2.1, (fun a => if a = t then 1 - ρ.2.2.1 a else ρ.2.2.1 a), ρ.2.2.2)
theorem pc_puts_ok : pc_puts Rel := by
  rintro σ c1 c2 ⟨A, hx, hm, hw⟩
  have hR := hw.1.2.1
  have hN := hw.1.2.2.1
  rcases ix_cases c1 (n := rN A.1) (by omega) with hb | ⟨w, hi, rfl⟩
  · refine both_ref (-1) 1 hx hm hw (fun τ h => ?_) (fun τ h => ?_)
    · unfold f_X8_puts
      simp only [RD, x_wheel_bad h.1.2.1 hb, x_ref, Option.bind_some]
    · unfold f_X9_puts
      simp only [m_wheel_bad h.1.2.1 hN hb, m_ref, Option.bind_some, if_true]
  · rcases ix_cases c2 (n := rT A.1) (by omega) with hb | ⟨t, ht, rfl⟩
    · refine both_ref (-1) 1 hx hm hw (fun τ h => ?_) (fun τ h => ?_)
      · unfold f_X8_puts
        simp only [RD, x_wheel h.1.2.1 hN hi, x_tooth_bad h.1.1 hb, x_ref, Option.bind_some, if_true]
      · unfold f_X9_puts
        simp only [m_wheel h.1.2.1 hN hi, m_tooth_bad h.1.1 hR hb, m_ref, Option.bind_some, if_true, if_neg one0]
    · have hs : Sh A.1 (rPut A.1 w 4 t) := ⟨rfl, rfl, fun i _ j hj => by show (if i = w ∧ j = 4 then t else _) = _; rw [if_neg (by omega)]; rfl⟩
      have hW : WR (rPut A.1 w 4 t) := by
        obtain ⟨w1, w2, w3, w4, w5, w6⟩ := hw.1
        refine ⟨w1, w2, w3, w4, w5, fun i hi' => ?_⟩
        obtain ⟨a1, a2, a3, a4, a5, a6, a7, a8⟩ := w6 i hi'
        have e : ∀ j, ¬ j = 4 → rK (rPut A.1 w 4 t) i j = rK A.1 i j := fun j hj => by show (if i = w ∧ j = 4 then t else _) = _; rw [if_neg (by omega)]; rfl
        refine ⟨by rw [e _ (by omega)]; exact a1, by rw [e _ (by omega)]; exact a2, by rw [e _ (by omega)]; exact a3, by rw [e _ (by omega)]; exact a4, by rw [e _ (by omega)]; exact a5, by rw [e _ (by omega)]; exact a6, ?_, by rw [e _ (by omega)]; exact a8⟩
        show (if i = w ∧ 4 = 4 then t else rK A.1 i 4) < rT A.1
        split
        · exact ht
        · exact a7
      refine both (r := nI (rK A.1 w 4)) hx hm hw (hw.do hW hs) (XC.deed hw hs (fun z6 => some ((z6.1 (5 + w) 4), (sI z6 (5 + w) 4 (nI t)))) (fun τ h => ?_) (fun τ h => ?_)) (MC.deed hw (fun z5 => ck (¬ (nI w < 0 ∨ ln (rid 143 8) ≤ (nI w).toNatClampNeg)) (ck (¬ (nI w < 0 ∨ ln (rid 143 8) ≤ (nI w).toNatClampNeg)) (some ((z5.1 (rid 143 8) (nI w).toNatClampNeg), (sI z5 (rid 143 8) (nI w).toNatClampNeg (nI t)))))) (fun τ h => ?_) (fun τ h => ?_))
      · unfold f_X8_puts
        simp only [RD, x_wheel h.1.2.1 hN hi, x_tooth h.1.1 hR ht, Option.bind_some, if_neg one0]
      · have hk := h.2.2.2.2
        refine ⟨sI τ (5 + w) 4 (nI t), by rw [show τ.1 (5 + w) 4 = _ from hk w hi 4 (by omega)], ⟨(rI_q (by omega)).trans h.1, (rI_q (by omega)).trans h.2.1, fun a ha => (rI_q (by omega)).trans (h.2.2.1 a ha), fun a ha => (rI_q (by omega)).trans (h.2.2.2.1 a ha), fun i hi' j hj => ?_⟩, fun q j hq => rI_q (by have := hN; omega)⟩
        rw [rI_i]
        show _ = nI (if i = w ∧ j = 4 then t else rK A.1 i j)
        by_cases e : i = w ∧ j = 4
        · rw [if_pos ⟨by omega, e.2⟩, if_pos e]
        · rw [if_neg (fun z => e ⟨by omega, z.2⟩), if_neg e]
          exact hk i hi' j hj
      · unfold f_X9_puts
        simp only [m_wheel h.1.2.1 hN hi, m_tooth h.1.1 hR ht, if_neg one0]
      · have hk := h.2.2.2.2
        have h4 : τ.1 150 w = nI (rK A.1 w 4) := hk w hi 4 (by omega)
        refine ⟨sI τ 150 w (nI t), ?_, ⟨(rI_q (by omega)).trans h.1, (rI_q (by omega)).trans h.2.1, fun a ha => (rI_q (by omega)).trans (h.2.2.1 a ha), fun a ha => (rI_q (by omega)).trans (h.2.2.2.1 a ha), fun i hi' j hj => ?_⟩, fun q j hq => rI_q (by omega)⟩
        · simp (disch := omega) only [RM, LN, cl_nI, ck_i, h4]
        · rw [rI_i]
          show _ = nI (if i = w ∧ j = 4 then t else rK A.1 i j)
          by_cases e : i = w ∧ j = 4
          · rw [if_pos ⟨by omega, e.1⟩, if_pos e]
          · rw [if_neg (fun z => e ⟨z.2, by omega⟩), if_neg e]
            exact hk i hi' j hj
theorem mend_v {v : Nat} (h : v ≤ 1) : 1 - nI v = nI (1 - v) := by rw [fa_lit 1, sub_nI h]
theorem pc_wears_ok : pc_wears Rel := by
  rintro σ c ⟨A, hx, hm, hw⟩
  have hR := hw.1.2.1
  rcases ix_cases c (n := rT A.1) (by omega) with hb | ⟨t, ht, rfl⟩
  · refine both_ref (-1) 1 hx hm hw (fun τ h => ?_) (fun τ h => ?_)
    · unfold f_X8_wears
      simp only [RD, x_tooth_bad h.1.1 hb, x_ref, Option.bind_some, if_true]
    · unfold f_X9_wears
      simp only [m_tooth_bad h.1.1 hR hb, m_ref, Option.bind_some, if_true]
  · have hs : Sh A.1 (rMend A.1 t) := Sh.refl A.1
    have hv := hw.1.2.2.2.2.1
    have hW : WR (rMend A.1 t) := by
      obtain ⟨w1, w2, w3, w4, w5, w6⟩ := hw.1
      refine ⟨w1, w2, w3, w4, fun a => ?_, w6⟩
      show (if a = t then 1 - rW A.1 a else rW A.1 a) ≤ 1
      have := w5 a
      split <;> omega
    refine both (r := nI (1 - rW A.1 t)) hx hm hw (hw.do hW hs) (XC.deed hw hs (fun z2 => (f_X4_wearOrMend 1 (nI t) z2).bind fun z4 => ck (¬ (nI t < 0 ∨ ln 3 ≤ (nI t).toNatClampNeg)) (some ((z4.1 3 (nI t).toNatClampNeg), z4))) (fun τ h => ?_) (fun τ h => ?_)) (MC.deed hw (fun z2 => ck (¬ (nI t < 0 ∨ ln 144 ≤ (nI t).toNatClampNeg)) (ck (¬ (nI t < 0 ∨ ln 144 ≤ (nI t).toNatClampNeg)) (ck (¬ (nI t < 0 ∨ ln 144 ≤ (nI t).toNatClampNeg)) (some (((sI z2 144 (nI t).toNatClampNeg (1 - (z2.1 144 (nI t).toNatClampNeg))).1 144 (nI t).toNatClampNeg), (sI z2 144 (nI t).toNatClampNeg (1 - (z2.1 144 (nI t).toNatClampNeg)))))))) (fun τ h => ?_) (fun τ h => ?_))
    · unfold f_X8_wears
      simp only [RD, x_tooth h.1.1 hR ht, if_neg one0]
    · have h3 : τ.1 3 t = nI (rW A.1 t) := h.2.2.2.1 t (by omega)
      refine ⟨sI τ 3 t (nI (1 - rW A.1 t)), ?_, ⟨(rI_q (by omega)).trans h.1, (rI_q (by omega)).trans h.2.1, fun a ha => (rI_q (by omega)).trans (h.2.2.1 a ha), fun a ha => ?_, fun i hi' j hj => (rI_q (by omega)).trans (h.2.2.2.2 i hi' j hj)⟩, fun q j hq => rI_q (by omega)⟩
      · unfold f_X4_wearOrMend
        simp (disch := omega) only [RD, LN, x_tooth h.1 hR ht, if_neg one0, cl_nI, ck_i, h3, mend_v (hv t), Option.bind_some, rI_s]
      · rw [rI_i]
        show _ = nI (if a = t then 1 - rW A.1 a else rW A.1 a)
        by_cases e : a = t
        · rw [if_pos ⟨rfl, e⟩, if_pos e, e]
        · rw [if_neg (fun z => e z.2), if_neg e]
          exact h.2.2.2.1 a ha
    · unfold f_X9_wears
      simp only [RM, m_tooth h.1.1 hR ht, if_neg one0]
    · have h3 : τ.1 144 t = nI (rW A.1 t) := h.2.2.2.1 t (by omega)
      refine ⟨sI τ 144 t (nI (1 - rW A.1 t)), ?_, ⟨(rI_q (by omega)).trans h.1, (rI_q (by omega)).trans h.2.1, fun a ha => (rI_q (by omega)).trans (h.2.2.1 a ha), fun a ha => ?_, fun i hi' j hj => (rI_q (by omega)).trans (h.2.2.2.2 i hi' j hj)⟩, fun q j hq => rI_q (by omega)⟩
      · simp (disch := omega) only [LN, cl_nI, ck_i, h3, mend_v (hv t), rI_s]
      · rw [rI_i]
        show _ = nI (if a = t then 1 - rW A.1 a else rW A.1 a)
        by_cases e : a = t
        · rw [if_pos ⟨rfl, e⟩, if_pos e, e]
        · rw [if_neg (fun z => e z.2), if_neg e]
          exact h.2.2.2.1 a ha
