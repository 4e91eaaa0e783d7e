/-! a statement of a sheet is done: the model -/
def FM5 (σ σ' : SS) : Prop := ∀ q j, ¬ (144 ≤ q ∧ q ≤ 151) → ¬ (q = 143 ∧ (j = 0 ∨ j = 3)) → σ'.1 q j = σ.1 q j
theorem m_deed {ρ : RG} {σ : SS} {z i : Nat} {L : Nat → Nat} (hz : z ≤ 72) (h : M1 ρ σ) (hw : WR ρ) (hL : ∀ i, i < z → σ.1 152 i = nI (L i)) (hL2 : ∀ i, L i ≤ 255) (hs : St z L i) : Dn ρ L i (f_X9_does 143 (nI i)) M1 σ FM5 := by
  have hR := hw.2.1
  have hR3 := hw.1
  have hN := hw.2.2.1
  obtain ⟨n1, n2⟩ := hs.num
  have hiz : i < z := by have := hs.2.1; omega
  have hlt := hs.2.1
  have hb := hL2 i
  have eT : nI (rT ρ) - 1 = nI (rT ρ - 1) := ol_sub (n := 1) (by omega)
  unfold Dn dd
  rcases dg_c (L i) hs.1 with ⟨c, d⟩ | ⟨c, d⟩ | ⟨c, d⟩ | ⟨c, d⟩ | ⟨c, d⟩
  · -- a
    have q1 := n1 1 (by omega) (by omega)
    have q2 := n1 2 (by omega) (by omega)
    have q3 := n1 3 (by omega) (by omega)
    have q4 := n2 2 (by omega) (by omega)
    have u1 := m_one (p := i + 1) hz hL (by omega) q1.1
    have u2 := m_two (p := i + 2) hz hL (by omega) q2.1 q3.1
    rw [if_pos c]
    have go : ∀ r, (if (σ.1 143 3) ≤ nI (one' L (i + 1)) then some (0, σ) else if nI (two' L (i + 2)) < (σ.1 143 0) then ck (¬ (nI (one' L (i + 1)) < 0 ∨ ln (rid 143 8) ≤ (nI (one' L (i + 1))).toNatClampNeg)) (some (1, (sI σ (rid 143 8) (nI (one' L (i + 1))).toNatClampNeg (nI (two' L (i + 2)))))) else some (0, σ)) = r → f_X9_does 143 (nI i) σ = r := fun r e => by
      unfold f_X9_does
      rw [show (rid 143 10) = 152 from RM.2.2.2.2.2.2.2.2.1, cl_nI (by omega), ck_i (by simp only [LN]; omega) (by simp only [LN]; omega), hL i hiz, if_pos (show nI (L i) = 97 by rw [c]; rfl), ol_add (n := 1), ol_add (n := 2), u1, u2, Option.bind_some, Option.bind_some]
      exact e
    by_cases c1 : one' L (i + 1) < rN ρ
    · have k1 : ¬ nI (rN ρ) ≤ nI (one' L (i + 1)) := by rw [le_nI (by omega) (by omega)]; omega
      by_cases c2 : two' L (i + 2) < rT ρ
      · rw [if_pos ⟨c1, c2⟩]
        refine ⟨sI σ 150 (one' L (i + 1)) (nI (two' L (i + 2))), Or.inl ⟨_, rfl, go _ ?_, h.put (w := one' L (i + 1)) (j := 4) (v := two' L (i + 2))⟩, fun q j hq hq2 => rI_q (by omega)⟩
        rw [h.2.1, h.1, if_neg k1, if_pos ((lt_nI (by omega) (by omega)).mpr c2)]
        simp (disch := omega) only [RM, LN, cl_nI, ck_i]
      · rw [if_neg (fun z => c2 z.2)]
        refine ⟨σ, Or.inr ⟨rfl, go _ ?_⟩, fun _ _ _ _ => rfl⟩
        rw [h.2.1, h.1, if_neg k1, if_neg (fun z => c2 ((lt_nI (by omega) (by omega)).mp z))]
    · rw [if_neg (fun z => c1 z.1)]
      refine ⟨σ, Or.inr ⟨rfl, go _ ?_⟩, fun _ _ _ _ => rfl⟩
      rw [h.2.1, if_pos ((le_nI (by omega) (by omega)).mpr (by omega))]
  · -- r
    have q1 := n1 1 (by omega) (by omega)
    have q2 := n1 2 (by omega) (by omega)
    have q4 := n2 1 (by omega) (by omega)
    have u1 := m_two (p := i + 1) hz hL (by omega) q1.1 q2.1
    rw [if_neg (by omega), if_pos c]
    have go : ∀ r, (if (f_X9_within (nI (two' L (i + 1))) 3 60) = 0 then some (0, σ) else (f_X9_fitsAll 143 (nI (two' L (i + 1))) σ).bind fun z14 => if z14 = 0 then some (0, σ) else (f_X9_becomes 143 (nI (two' L (i + 1))) σ).bind fun z17 => some (1, z17)) = r → f_X9_does 143 (nI i) σ = r := fun r e => by
      unfold f_X9_does
      rw [show (rid 143 10) = 152 from RM.2.2.2.2.2.2.2.2.1, cl_nI (by omega), ck_i (by simp only [LN]; omega) (by simp only [LN]; omega), hL i hiz, if_neg (show ¬ nI (L i) = 97 by rw [c]; decide), if_pos (show nI (L i) = 114 by rw [c]; rfl), ol_add (n := 1), u1, Option.bind_some]
      exact e
    by_cases c1 : 3 ≤ two' L (i + 1) ∧ two' L (i + 1) ≤ 60
    · have k1 : f_X9_within (nI (two' L (i + 1))) 3 60 = 1 := within_ok (a := 3) (b := 60) c1.1 c1.2 (by omega)
      rcases fitN_01 ρ (two' L (i + 1)) (rN ρ) with hf | hf
      · rw [if_neg (fun z => by have := z.2.2; omega)]
        refine ⟨σ, Or.inr ⟨rfl, go _ ?_⟩, fun _ _ _ _ => rfl⟩
        rw [k1, if_neg one0, m_fitsAll h hw c1.2, hf, Option.bind_some]
        exact if_pos rfl
      · rw [if_pos ⟨c1.1, c1.2, hf⟩]
        obtain ⟨σ', f1, f2, f3⟩ := m_becomes (r := two' L (i + 1)) h
        refine ⟨σ', Or.inl ⟨_, rfl, go _ ?_, f2⟩, fun q j hq hq2 => f3 q j (by omega) (by omega) (by omega)⟩
        rw [k1, if_neg one0, m_fitsAll h hw c1.2, hf, Option.bind_some, f1]
        exact if_neg one0
    · rw [if_neg (fun z => c1 ⟨z.1, z.2.1⟩)]
      have k1 : f_X9_within (nI (two' L (i + 1))) 3 60 = 0 := within_no (a := 3) (b := 60) (by omega) (by omega) (by omega) (by omega)
      refine ⟨σ, Or.inr ⟨rfl, go _ ?_⟩, fun _ _ _ _ => rfl⟩
      rw [k1, if_pos rfl]
  · -- w
    have q1 := n1 1 (by omega) (by omega)
    have q2 := n1 2 (by omega) (by omega)
    have q3 := n1 3 (by omega) (by omega)
    have q4 := n1 4 (by omega) (by omega)
    have q5 := n1 5 (by omega) (by omega)
    have q6 := n1 6 (by omega) (by omega)
    have q7 := n1 7 (by omega) (by omega)
    have t2 := n2 2 (by omega) (by omega)
    have t5 := n2 5 (by omega) (by omega)
    have u1 := m_one (p := i + 1) hz hL (by omega) q1.1
    have u2 := m_two (p := i + 2) hz hL (by omega) q2.1 q3.1
    have u4 := m_one (p := i + 4) hz hL (by omega) q4.1
    have u5 := m_two (p := i + 5) hz hL (by omega) q5.1 q6.1
    have u7 := m_one (p := i + 7) hz hL (by omega) q7.1
    rw [if_neg (by omega), if_neg (by omega), if_pos c]
    have go : ∀ r, (if 5 < nI (one' L (i + 1)) then some (0, σ) else if (f_X9_within (nI (two' L (i + 2))) 1 ((σ.1 143 0) - 1)) = 0 then some (0, σ) else if (σ.1 143 0) ≤ nI (two' L (i + 5)) then some (0, σ) else if nI (one' L (i + 7)) = 0 then some (0, σ) else if (σ.1 143 3) = 6 then some (0, σ) else (f_X9_comes 143 (nI (one' L (i + 1))) (nI (two' L (i + 2))) (nI (one' L (i + 4))) (nI (two' L (i + 5))) (nI (one' L (i + 7))) σ).bind fun z35 => some (1, z35)) = r → f_X9_does 143 (nI i) σ = r := fun r e => by
      unfold f_X9_does
      rw [show (rid 143 10) = 152 from RM.2.2.2.2.2.2.2.2.1, cl_nI (by omega), ck_i (by simp only [LN]; omega) (by simp only [LN]; omega), hL i hiz, if_neg (show ¬ nI (L i) = 97 by rw [c]; decide), if_neg (show ¬ nI (L i) = 114 by rw [c]; decide), if_pos (show nI (L i) = 119 by rw [c]; rfl), ol_add (n := 1), ol_add (n := 2), ol_add (n := 4), ol_add (n := 5), ol_add (n := 7), u1, u2, u4, u5, u7, Option.bind_some, Option.bind_some, Option.bind_some, Option.bind_some, Option.bind_some]
      exact e
    rw [h.1, h.2.1, eT] at go
    by_cases c1 : one' L (i + 1) ≤ 5
    case neg =>
      rw [if_neg (fun z => c1 z.1)]
      refine ⟨σ, Or.inr ⟨rfl, go _ ?_⟩, fun _ _ _ _ => rfl⟩
      rw [if_pos (show (5 : Int32) < nI (one' L (i + 1)) by rw [fa_lit 5, lt_nI (by omega) (by omega)]; omega)]
    have k1 : ¬ (5 : Int32) < nI (one' L (i + 1)) := by rw [fa_lit 5, lt_nI (by omega) (by omega)]; omega
    by_cases c2 : 1 ≤ two' L (i + 2) ∧ two' L (i + 2) < rT ρ
    case neg =>
      rw [if_neg (fun z => c2 ⟨z.2.1, z.2.2.1⟩)]
      refine ⟨σ, Or.inr ⟨rfl, go _ ?_⟩, fun _ _ _ _ => rfl⟩
      rw [if_neg k1, show f_X9_within (nI (two' L (i + 2))) 1 (nI (rT ρ - 1)) = 0 from within_no (a := 1) (by omega) (by omega) (by omega) (by omega), if_pos rfl]
    have k2 : f_X9_within (nI (two' L (i + 2))) 1 (nI (rT ρ - 1)) = 1 := within_ok (a := 1) c2.1 (by omega) (by omega)
    by_cases c3 : two' L (i + 5) < rT ρ
    case neg =>
      rw [if_neg (fun z => c3 z.2.2.2.1)]
      refine ⟨σ, Or.inr ⟨rfl, go _ ?_⟩, fun _ _ _ _ => rfl⟩
      rw [if_neg k1, k2, if_neg one0, if_pos ((le_nI (by omega) (by omega)).mpr (by omega))]
    have k3 : ¬ nI (rT ρ) ≤ nI (two' L (i + 5)) := by rw [le_nI (by omega) (by omega)]; omega
    by_cases c4 : 1 ≤ one' L (i + 7)
    case neg =>
      rw [if_neg (fun z => c4 z.2.2.2.2.1)]
      refine ⟨σ, Or.inr ⟨rfl, go _ ?_⟩, fun _ _ _ _ => rfl⟩
      rw [if_neg k1, k2, if_neg one0, if_neg k3, if_pos (by rw [eq_nI0 (by omega)]; omega)]
    have k4 : ¬ nI (one' L (i + 7)) = 0 := by rw [eq_nI0 (by omega)]; omega
    by_cases c5 : rN ρ < 6
    case neg =>
      rw [if_neg (fun z => c5 z.2.2.2.2.2)]
      refine ⟨σ, Or.inr ⟨rfl, go _ ?_⟩, fun _ _ _ _ => rfl⟩
      rw [if_neg k1, k2, if_neg one0, if_neg k3, if_neg k4, if_pos (show nI (rN ρ) = 6 by rw [show rN ρ = 6 by omega]; rfl)]
    have k5 : ¬ nI (rN ρ) = 6 := by rw [fa_lit 6, eq_nI (by omega) (by omega)]; omega
    rw [if_pos ⟨c1, c2.1, c2.2, c3, c4, c5⟩]
    obtain ⟨σ', f1, f2, f3⟩ := m_comes (k := one' L (i + 1)) (s := two' L (i + 2)) (g := one' L (i + 4)) (p := one' L (i + 7)) (a := two' L (i + 5)) h c5
    refine ⟨σ', Or.inl ⟨_, rfl, go _ ?_, f2⟩, fun q j hq hq2 => f3 q j (by omega) (by omega)⟩
    rw [if_neg k1, k2, if_neg one0, if_neg k3, if_neg k4, if_neg k5, f1, Option.bind_some]
  · -- x
    have q1 := n1 1 (by omega) (by omega)
    have q2 := n1 2 (by omega) (by omega)
    have q4 := n2 1 (by omega) (by omega)
    have u1 := m_two (p := i + 1) hz hL (by omega) q1.1 q2.1
    rw [if_neg (by omega), if_neg (by omega), if_neg (by omega), if_pos c]
    have go : ∀ r, (if nI (two' L (i + 1)) < (σ.1 143 0) then ck (¬ (nI (two' L (i + 1)) < 0 ∨ ln (rid 143 1) ≤ (nI (two' L (i + 1))).toNatClampNeg)) (ck (¬ (nI (two' L (i + 1)) < 0 ∨ ln (rid 143 1) ≤ (nI (two' L (i + 1))).toNatClampNeg)) (some (1, (sI σ (rid 143 1) (nI (two' L (i + 1))).toNatClampNeg (1 - (σ.1 (rid 143 1) (nI (two' L (i + 1))).toNatClampNeg)))))) else some (0, σ)) = r → f_X9_does 143 (nI i) σ = r := fun r e => by
      unfold f_X9_does
      rw [show (rid 143 10) = 152 from RM.2.2.2.2.2.2.2.2.1, cl_nI (by omega), ck_i (by simp only [LN]; omega) (by simp only [LN]; omega), hL i hiz, if_neg (show ¬ nI (L i) = 97 by rw [c]; decide), if_neg (show ¬ nI (L i) = 114 by rw [c]; decide), if_neg (show ¬ nI (L i) = 119 by rw [c]; decide), if_pos (show nI (L i) = 120 by rw [c]; rfl), ol_add (n := 1), u1, Option.bind_some]
      exact e
    by_cases c1 : two' L (i + 1) < rT ρ
    · rw [if_pos c1]
      have h3 : σ.1 144 (two' L (i + 1)) = nI (rW ρ (two' L (i + 1))) := h.2.2.2.1 _ (by omega)
      have hv := hw.2.2.2.2.1 (two' L (i + 1))
      refine ⟨sI σ 144 (two' L (i + 1)) (nI (1 - rW ρ (two' L (i + 1)))), Or.inl ⟨_, rfl, go _ ?_, h.mend⟩, fun q j hq hq2 => rI_q (by omega)⟩
      rw [h.1, if_pos ((lt_nI (by omega) (by omega)).mpr c1)]
      simp (disch := omega) only [RM, LN, cl_nI, ck_i, h3, mend_v hv]
    · rw [if_neg c1]
      refine ⟨σ, Or.inr ⟨rfl, go _ ?_⟩, fun _ _ _ _ => rfl⟩
      rw [h.1, if_neg (fun z => c1 ((lt_nI (by omega) (by omega)).mp z))]
  · -- g
    have q1 := n1 1 (by omega) (by omega)
    have q2 := n1 2 (by omega) (by omega)
    have q3 := n1 3 (by omega) (by omega)
    have q4 := n2 2 (by omega) (by omega)
    have u1 := m_one (p := i + 1) hz hL (by omega) q1.1
    have u2 := m_two (p := i + 2) hz hL (by omega) q2.1 q3.1
    rw [if_neg (by omega), if_neg (by omega), if_neg (by omega), if_neg (by omega)]
    have go : ∀ r, (if (σ.1 143 3) ≤ nI (one' L (i + 1)) then some (0, σ) else if (f_X9_within (nI (two' L (i + 2))) 1 40) = 0 then some (0, σ) else (f_X9_goesOn 143 (nI (one' L (i + 1))) (nI (two' L (i + 2))) σ).bind fun z49 => some (1, z49)) = r → f_X9_does 143 (nI i) σ = r := fun r e => by
      unfold f_X9_does
      rw [show (rid 143 10) = 152 from RM.2.2.2.2.2.2.2.2.1, cl_nI (by omega), ck_i (by simp only [LN]; omega) (by simp only [LN]; omega), hL i hiz, if_neg (show ¬ nI (L i) = 97 by rw [c]; decide), if_neg (show ¬ nI (L i) = 114 by rw [c]; decide), if_neg (show ¬ nI (L i) = 119 by rw [c]; decide), if_neg (show ¬ nI (L i) = 120 by rw [c]; decide), ol_add (n := 1), ol_add (n := 2), u1, u2, Option.bind_some, Option.bind_some]
      exact e
    by_cases c1 : one' L (i + 1) < rN ρ
    · have k1 : ¬ nI (rN ρ) ≤ nI (one' L (i + 1)) := by rw [le_nI (by omega) (by omega)]; omega
      by_cases c2 : 1 ≤ two' L (i + 2) ∧ two' L (i + 2) ≤ 40
      · rw [if_pos ⟨c1, c2.1, c2.2⟩]
        obtain ⟨σ', f1, f2, f3⟩ := m_roll h hw c1 c2.2
        refine ⟨σ', Or.inl ⟨_, rfl, go _ ?_, f2⟩, fun q j hq hq2 => f3 q j (by omega)⟩
        rw [h.2.1, if_neg k1, show f_X9_within (nI (two' L (i + 2))) 1 40 = 1 from within_ok (a := 1) (b := 40) c2.1 c2.2 (by omega), if_neg one0, f1, Option.bind_some]
      · rw [if_neg (fun z => c2 ⟨z.2.1, z.2.2⟩)]
        refine ⟨σ, Or.inr ⟨rfl, go _ ?_⟩, fun _ _ _ _ => rfl⟩
        rw [h.2.1, if_neg k1, show f_X9_within (nI (two' L (i + 2))) 1 40 = 0 from within_no (a := 1) (b := 40) (by omega) (by omega) (by omega) (by omega), if_pos rfl]
    · rw [if_neg (fun z => c1 z.1)]
      refine ⟨σ, Or.inr ⟨rfl, go _ ?_⟩, fun _ _ _ _ => rfl⟩
      rw [h.2.1, if_pos ((le_nI (by omega) (by omega)).mpr (by omega))]
