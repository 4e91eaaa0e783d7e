/-! wheel: its refusals -/
theorem wh_no {A : AB} {σ : SS} {a1 a2 a3 a4 a5 v : Int32} {k : Nat} (hx : XH A σ) (hm : MH A σ) (hw : WF A) (hv : ¬ v = 0) (hr : ∀ τ, f_X8_refuse 0 v τ = some (v, sI τ 136 k (τ.1 136 k + 1)))
    (hX : ∀ τ, XH A τ → f_X4_refusalOfWheel 1 a1 a2 a3 a4 a5 τ = v) (hM : ∀ τ, MH A τ → f_X9_wheel 143 a1 a2 a3 a4 a5 τ = some (v, sI τ 158 k (τ.1 158 k + 1))) :
    ∃ (r : Int32) (σ1 σ2 : SS), f_X8_wheel 0 a1 a2 a3 a4 a5 σ = some (r, σ1) ∧ f_X9_wheel 143 a1 a2 a3 a4 a5 σ1 = some (r, σ2) ∧ Rel σ2 :=
  both_ref v k hx hm hw (fun τ h => by
    unfold f_X8_wheel
    simp only [RD, hX τ h]
    rw [if_neg hv]
    simp only [hr, Option.bind_some]) hM
theorem pc_wheel_ok : pc_wheel Rel := by
  rintro σ a1 a2 a3 a4 a5 ⟨A, hx, hm, hw⟩
  have hR := hw.1.2.1
  have hR3 := hw.1.1
  have hN := hw.1.2.2.1
  have eT : nI (rT A.1) - 1 = nI (rT A.1 - 1) := by rw [fa_lit 1, sub_nI (by omega)]
  rcases ix_cases a1 (n := 6) (by omega) with hb | ⟨k, hk, rfl⟩
  · have hW : f_X9_within a1 0 5 = 0 := within_bad (n := 5) hb (by omega)
    refine wh_no (v := -2) (k := 2) hx hm hw (by decide) (fun τ => (x_ref τ).2.1) (fun τ h => ?_) (fun τ h => ?_)
    · unfold f_X4_refusalOfWheel
      rcases hb with q | q
      · rw [if_pos q]
      · by_cases h0 : a1 < 0
        · rw [if_pos h0]
        · rw [if_neg h0, if_neg (show ¬ a1 < 6 from Int32.not_lt.mpr q)]
    · unfold f_X9_wheel
      rw [hW, if_pos rfl]
      simp only [m_ref, Option.bind_some]
  have hW : f_X9_within (nI k) 0 5 = 1 := within_ok (a := 0) (b := 5) (by omega) (by omega) (by omega)
  have K0 : ¬ nI k < 0 := nlt_m (by omega)
  have K6 : nI k < 6 := by rw [fa_lit 6, lt_nI (by omega) (by omega)]; exact hk
  by_cases c2 : a2 < 1
  · refine wh_no (v := -4) (k := 4) hx hm hw (by decide) (fun τ => (x_ref τ).2.2.2.1) (fun τ h => ?_) (fun τ h => ?_)
    · unfold f_X4_refusalOfWheel
      rw [if_neg K0, if_pos K6, if_pos c2]
    · unfold f_X9_wheel
      rw [hW, if_neg one0, if_pos c2]
      simp only [m_ref, Option.bind_some]
  by_cases c3 : a3 < 0
  · refine wh_no (v := -4) (k := 4) hx hm hw (by decide) (fun τ => (x_ref τ).2.2.2.1) (fun τ h => ?_) (fun τ h => ?_)
    · unfold f_X4_refusalOfWheel
      rw [if_neg K0, if_pos K6, if_neg c2, if_pos c3]
    · unfold f_X9_wheel
      rw [hW, if_neg one0, if_neg c2, if_pos c3]
      simp only [m_ref, Option.bind_some]
  by_cases c5 : 1 ≤ a5
  case neg =>
    refine wh_no (v := -4) (k := 4) hx hm hw (by decide) (fun τ => (x_ref τ).2.2.2.1) (fun τ h => ?_) (fun τ h => ?_)
    · unfold f_X4_refusalOfWheel
      rw [if_neg K0, if_pos K6, if_neg c2, if_neg c3, if_neg c5]
    · unfold f_X9_wheel
      rw [hW, if_neg one0, if_neg c2, if_neg c3, if_neg c5]
      simp only [m_ref, Option.bind_some]
  by_cases t2 : nI (rT A.1) ≤ a2
  · have u2 := (big_i t2 (k := rT A.1 - 1) (by omega) (by omega)).1
    refine wh_no (v := -6) (k := 6) hx hm hw (by decide) (fun τ => (x_ref τ).2.2.2.2.1) (fun τ h => ?_) (fun τ h => ?_)
    · unfold f_X4_refusalOfWheel
      dsimp only [jn1]
      rw [if_neg K0, if_pos K6, if_neg c2, if_neg c3, if_pos c5, h.1.1, if_pos t2, if_neg one0]
    · unfold f_X9_wheel
      rw [hW, if_neg one0, if_neg c2, if_neg c3, if_pos c5, h.1.1, eT, if_pos u2]
      simp only [m_ref, Option.bind_some]
  obtain ⟨s, hs, rfl⟩ : ∃ s, s < rT A.1 ∧ a2 = nI s := by
    rcases ix_cases a2 (n := rT A.1) (by omega) with (q | q) | q
    · exact absurd (neg_i q (k := 1) (by omega)).1 c2
    · exact absurd q t2
    · exact q
  have hs1 : 1 ≤ s := by
    rw [fa_lit 1, lt_nI (by omega) (by omega)] at c2
    omega
  have u2 : ¬ nI (rT A.1 - 1) < nI s := by rw [lt_nI (by omega) (by omega)]; omega
  by_cases t3 : 9 < a3
  · refine wh_no (v := -6) (k := 6) hx hm hw (by decide) (fun τ => (x_ref τ).2.2.2.2.1) (fun τ h => ?_) (fun τ h => ?_)
    · unfold f_X4_refusalOfWheel
      dsimp only [jn1]
      rw [if_neg K0, if_pos K6, if_neg c2, if_neg c3, if_pos c5, h.1.1, if_neg t2, if_pos t3, if_neg one0]
    · unfold f_X9_wheel
      rw [hW, if_neg one0, if_neg c2, if_neg c3, if_pos c5, h.1.1, eT, if_neg u2, if_pos t3]
      simp only [m_ref, Option.bind_some]
  obtain ⟨g, hg, rfl⟩ : ∃ g, g < 10 ∧ a3 = nI g := by
    rcases ix_cases a3 (n := 10) (by omega) with (q | q) | q
    · exact absurd q c3
    · exact absurd (big_i q (k := 9) (by omega) (by omega)).1 t3
    · exact q
  by_cases t5 : a5 ≤ 9
  case neg =>
    refine wh_no (v := -6) (k := 6) hx hm hw (by decide) (fun τ => (x_ref τ).2.2.2.2.1) (fun τ h => ?_) (fun τ h => ?_)
    · unfold f_X4_refusalOfWheel
      dsimp only [jn1]
      rw [if_neg K0, if_pos K6, if_neg c2, if_neg c3, if_pos c5, h.1.1, if_neg t2, if_neg t3, if_neg t5, if_neg one0]
    · unfold f_X9_wheel
      rw [hW, if_neg one0, if_neg c2, if_neg c3, if_pos c5, h.1.1, eT, if_neg u2, if_neg t3, if_pos (show 9 < a5 from Int32.not_le.mp t5)]
      simp only [m_ref, Option.bind_some]
  have u5 : ¬ 9 < a5 := Int32.not_lt.mpr t5
  obtain ⟨p, hp, rfl⟩ : ∃ p, p < 10 ∧ a5 = nI p := by
    rcases ix_cases a5 (n := 10) (by omega) with (q | q) | q
    · exact absurd c5 (neg_i q (k := 1) (by omega)).2.2.1
    · exact absurd t5 (big_i q (k := 9) (by omega) (by omega)).2.1
    · exact q
  have hp1 : 1 ≤ p := by
    rw [fa_lit 1, le_nI (by omega) (by omega)] at c5
    exact c5
  by_cases t6 : rN A.1 < 6
  case neg =>
    refine wh_no (v := -6) (k := 6) hx hm hw (by decide) (fun τ => (x_ref τ).2.2.2.2.1) (fun τ h => ?_) (fun τ h => ?_)
    · unfold f_X4_refusalOfWheel
      dsimp only [jn1]
      rw [if_neg K0, if_pos K6, if_neg c2, if_neg c3, if_pos c5, h.1.1, if_neg t2, if_neg t3, if_pos t5, if_pos rfl, h.1.2.1, if_neg (show ¬ nI (rN A.1) < 6 by rw [fa_lit 6, lt_nI (by omega) (by omega)]; exact t6)]
    · unfold f_X9_wheel
      rw [hW, if_neg one0, if_neg c2, if_neg c3, if_pos c5, h.1.1, eT, if_neg u2, if_neg t3, if_neg u5, h.1.2.1, if_pos (show nI (rN A.1) = 6 by rw [fa_lit 6, eq_nI (by omega) (by omega)]; omega)]
      simp only [m_ref, Option.bind_some]
  have l6 : nI (rN A.1) < 6 := by rw [fa_lit 6, lt_nI (by omega) (by omega)]; exact t6
  have n6 : ¬ nI (rN A.1) = 6 := by rw [fa_lit 6, eq_nI (by omega) (by omega)]; omega
  rcases ix_cases a4 (n := rT A.1) (by omega) with hb | ⟨a, ha, rfl⟩
  · refine wh_no (v := -1) (k := 1) hx hm hw (by decide) (fun τ => (x_ref τ).1) (fun τ h => ?_) (fun τ h => ?_)
    · unfold f_X4_refusalOfWheel
      dsimp only [jn1]
      rw [x_tooth_bad h.1.1 hb, if_neg K0, if_pos K6, if_neg c2, if_neg c3, if_pos c5, h.1.1, if_neg t2, if_neg t3, if_pos t5, if_pos rfl, h.1.2.1, if_pos l6, if_pos rfl]
    · unfold f_X9_wheel
      rw [m_tooth_bad h.1.1 hR hb, hW, if_neg one0, if_neg c2, if_neg c3, if_pos c5, h.1.1, eT, if_neg u2, if_neg t3, if_neg u5, h.1.2.1, if_neg n6, if_pos rfl]
      simp only [m_ref, Option.bind_some]
  · have hW2 := rAdd_ok hw.1 t6 (show k ≤ 5 by omega) hs1 hs (show g ≤ 9 by omega) hp1 (show p ≤ 9 by omega) ha
    have eN : nI (rN (rAdd A.1 (wf6 k s g p a))) - 1 = nI (rN A.1) := by
      show nI (rN A.1 + 1) - 1 = _
      rw [fa_lit 1, sub_nI (by omega), Nat.add_sub_cancel]
    refine both (r := nI (rN A.1)) (A' := aBe A (rAdd A.1 (wf6 k s g p a)) []) hx hm hw (hw.fresh hW2) (fun τ h => ?_) (fun τ h => ?_)
    · obtain ⟨τ', f1, f2, f3⟩ := x_add (k := k) (s := s) (g := g) (p := p) (a := a) h.1 t6
      have fr : ∀ q j, (q < 1 ∨ 10 < q) → ¬ (q = 31 ∧ j = 1) → (sI τ' 31 1 0).1 q j = τ.1 q j := fun q j a b => by rw [rI_i, if_neg b]; exact f3 q j a
      have g1 : X1 (rAdd A.1 (wf6 k s g p a)) (sI τ' 31 1 0) := X1.of hW2.2.2.1 f2 (fun q j _ _ => rI_q (by omega))
      refine ⟨sI τ' 31 1 0, ?_, h.be hw g1 (X3_nil h.2.2.1 rI_s (fr _ _ (by omega) (by omega))) (fun q j hq => fr q j (by omega) (by omega)), fun q j hq => fr q j (by omega) (by omega)⟩
      have e0 : f_X4_refusalOfWheel 1 (nI k) (nI s) (nI g) (nI a) (nI p) τ = 0 := by
        unfold f_X4_refusalOfWheel
        dsimp only [jn1]
        rw [x_tooth h.1.1 hR ha, if_neg K0, if_pos K6, if_neg c2, if_neg c3, if_pos c5, h.1.1, if_neg t2, if_neg t3, if_pos t5, if_pos rfl, h.1.2.1, if_pos l6, if_neg one0]
      unfold f_X8_wheel f_X3_forget
      simp only [RD, e0]
      rw [if_pos trivial, f1, Option.bind_some, Option.bind_some, g1.2.1, eN]
    · obtain ⟨τ', f1, f2, f3⟩ := m_comes (k := k) (s := s) (g := g) (p := p) (a := a) h.1 t6
      have g1 : M1 (rAdd A.1 (wf6 k s g p a)) (sI τ' 143 15 0) := M1.of hW2.2.2.1 f2 (rI_j (by omega)) (rI_j (by omega)) (fun q j _ _ => rI_q (by omega))
      refine ⟨sI τ' 143 15 0, ?_, h.be g1 (M3_nil rI_s) (fun q j a b d _ => by rw [rI_i, if_neg (by omega)]; exact f3 q j (by omega) (by omega)), fun q j hq => by rw [rI_i, if_neg (by omega)]; exact f3 q j (by omega) (by omega)⟩
      unfold f_X9_wheel
      rw [m_tooth h.1.1 hR ha, hW, if_neg one0, if_neg c2, if_neg c3, if_pos c5, h.1.1, eT, if_neg u2, if_neg t3, if_neg u5, h.1.2.1, if_neg n6, if_neg one0, f1, Option.bind_some, g1.2.1, eN]
