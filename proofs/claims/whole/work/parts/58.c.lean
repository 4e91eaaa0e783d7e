/-! a statement of a sheet is done: the class -/
theorem x_canHave_no {ρ : RG} {σ : SS} {r : Nat} (h : X1 ρ σ) (hw : WR ρ) (hr : r ≤ 99) (hb : r < 3 ∨ 60 < r) : f_X4_canHave 1 (nI r) σ = some 0 := by
  have h6 := hw.2.2.1
  have key : f_X4_canHave_L19 σ (fun (y2 : Int32) => ck (y2 = 0 ∨ y2 = 1) (some y2)) FU 1 (nI r) 0 0 = some 0 := by
    have := loop_fix (fun fu i => f_X4_canHave_L19 σ (fun (y2 : Int32) => ck (y2 = 0 ∨ y2 = 1) (some y2)) fu 1 (nI r) 0 (nI i)) (some 0) (rN ρ)
      (fun fu => by
        simp only [f_X4_canHave_L19]
        rw [h.2.1, if_pos ((le_nI (by omega) (by omega)).mpr (Nat.le_refl _)), ck_pos (Or.inl trivial)])
      (fun fu i hi => by
        simp only [f_X4_canHave_L19]
        rw [h.2.1, if_neg (show ¬ nI (rN ρ) ≤ nI i by rw [le_nI (by omega) (by omega)]; omega), if_pos trivial, ol_add])
      (fu := FU) (i := 0) (by omega) (FU_big (by omega))
    exact this
  unfold f_X4_canHave
  dsimp only [jn1]
  rcases hb with hb | hb
  · rw [if_pos (show nI r < 3 by rw [fa_lit 3, lt_nI (by omega) (by omega)]; exact hb)]
    exact key
  · rw [if_neg (show ¬ nI r < 3 by rw [fa_lit 3, lt_nI (by omega) (by omega)]; omega), if_pos (show (60 : Int32) < nI r by rw [fa_lit 60, lt_nI (by omega) (by omega)]; exact hb)]
    exact key
theorem bad_ge {a n : Nat} (h : n ≤ a) (ha : a ≤ 2000000) : bad (nI a) n := Or.inr ((le_nI (by omega) ha).mpr h)
theorem x_refW {ρ : RG} {σ : SS} {k s f t p : Nat} (h : X1 ρ σ) (hw : WR ρ) (hk : k ≤ 99) (hs : s ≤ 99) (hf : f ≤ 9) (ht : t ≤ 99) (hp : p ≤ 9) : f_X4_refusalOfWheel 1 (nI k) (nI s) (nI f) (nI t) (nI p) σ = 0 ↔ k ≤ 5 ∧ 1 ≤ s ∧ s < rT ρ ∧ t < rT ρ ∧ 1 ≤ p ∧ rN ρ < 6 := by
  have hR := hw.2.1
  have hN := hw.2.2.1
  unfold f_X4_refusalOfWheel
  dsimp only [jn1]
  rw [if_neg (nlt_m (by omega)), if_neg (show ¬ nI f < 0 from nlt_m (by omega)), if_neg (show ¬ (9 : Int32) < nI f by rw [fa_lit 9, lt_nI (by omega) (by omega)]; omega), if_pos (show nI p ≤ 9 by rw [fa_lit 9, le_nI (by omega) (by omega)]; omega), if_pos rfl, if_neg one0, h.1, h.2.1]
  by_cases c1 : k ≤ 5
  · rw [if_pos (show nI k < 6 by rw [fa_lit 6, lt_nI (by omega) (by omega)]; omega)]
    by_cases c2 : 1 ≤ s
    · rw [if_neg (show ¬ nI s < 1 by rw [fa_lit 1, lt_nI (by omega) (by omega)]; omega)]
      by_cases c3 : 1 ≤ p
      · rw [if_pos (show (1 : Int32) ≤ nI p by rw [fa_lit 1, le_nI (by omega) (by omega)]; omega)]
        by_cases c4 : s < rT ρ
        · rw [if_neg (show ¬ nI (rT ρ) ≤ nI s by rw [le_nI (by omega) (by omega)]; omega)]
          by_cases c5 : rN ρ < 6
          · rw [if_pos (show nI (rN ρ) < 6 by rw [fa_lit 6, lt_nI (by omega) (by omega)]; omega)]
            by_cases c6 : t < rT ρ
            · rw [x_tooth h.1 hR c6, if_neg one0]
              exact ⟨fun _ => ⟨c1, c2, c4, c6, c3, c5⟩, fun _ => rfl⟩
            · rw [x_tooth_bad h.1 (bad_ge (by omega) (by omega)), if_pos rfl]
              exact ⟨fun z => absurd z (by decide), fun z => absurd z.2.2.2.1 c6⟩
          · rw [if_neg (show ¬ nI (rN ρ) < 6 by rw [fa_lit 6, lt_nI (by omega) (by omega)]; omega)]
            exact ⟨fun z => absurd z (by decide), fun z => absurd z.2.2.2.2.2 c5⟩
        · rw [if_pos (show nI (rT ρ) ≤ nI s by rw [le_nI (by omega) (by omega)]; omega)]
          exact ⟨fun z => absurd z (by decide), fun z => absurd z.2.2.1 c4⟩
      · rw [if_neg (show ¬ (1 : Int32) ≤ nI p by rw [fa_lit 1, le_nI (by omega) (by omega)]; omega)]
        exact ⟨fun z => absurd z (by decide), fun z => absurd z.2.2.2.2.1 c3⟩
    · rw [if_pos (show nI s < 1 by rw [fa_lit 1, lt_nI (by omega) (by omega)]; omega)]
      exact ⟨fun z => absurd z (by decide), fun z => absurd z.2.1 c2⟩
  · rw [if_neg (show ¬ nI k < 6 by rw [fa_lit 6, lt_nI (by omega) (by omega)]; omega)]
    exact ⟨fun z => absurd z (by decide), fun z => absurd z.1 c1⟩
theorem dg_c (c : Nat) (h : ¬ dg c = 0) : (c = 97 ∧ dg c = 3) ∨ (c = 114 ∧ dg c = 2) ∨ (c = 119 ∧ dg c = 7) ∨ (c = 120 ∧ dg c = 2) ∨ (c = 103 ∧ dg c = 3) := by
  unfold dg at *
  (repeat' split at h) <;> simp_all
def Dn (ρ : RG) (L : Nat → Nat) (i : Nat) (f : SS → Option (Int32 × SS)) (P : RG → SS → Prop) (σ : SS) (F : SS → SS → Prop) : Prop := ∃ σ', ((∃ ρ', dd ρ L i = some ρ' ∧ f σ = some (1, σ') ∧ P ρ' σ') ∨ (dd ρ L i = none ∧ f σ = some (0, σ'))) ∧ F σ σ'
def F10 (σ σ' : SS) : Prop := ∀ q j, (q < 1 ∨ 10 < q) → σ'.1 q j = σ.1 q j
theorem x_deed {ρ : RG} {σ : SS} {z i : Nat} {L : Nat → Nat} (hz : z ≤ 72) (h : X1 ρ σ) (hw : WR ρ) (h1 : σ.1 113 1 = nI z) (hL : ∀ i, i < z → σ.1 114 i = nI (L i)) (hL2 : ∀ i, L i ≤ 255) (hs : St z L i) : Dn ρ L i (f_X1_comesTrue 113 (nI i) 1) X1 σ F10 := by
  have hR := hw.2.1
  have hN := hw.2.2.1
  obtain ⟨n1, n2⟩ := hs.num
  have hiz : i < z := by have := hs.2.1; omega
  have hlt := hs.2.1
  have hb := hL2 i
  have e0 : nI i < nI z := (lt_nI (by omega) (by omega)).mpr hiz
  have pre : ∀ r, (if nI (L i) = 97 then (f_X1_number 113 (nI i + 1) 1 σ).bind fun z5 => (f_X1_number 113 (nI i + 2) 2 σ).bind fun z7 => (f_X1_placeComes 1 z5 z7 σ).bind fun z9 => ck (z9.1 = 0 ∨ z9.1 = 1) (some (z9.1, z9.2)) else if nI (L i) = 114 then (f_X1_number 113 (nI i + 1) 2 σ).bind fun z12 => (f_X1_ringComes 1 z12 σ).bind fun z14 => ck (z14.1 = 0 ∨ z14.1 = 1) (some (z14.1, z14.2)) else if nI (L i) = 119 then (f_X1_wheelComes 113 1 (nI i) σ).bind fun z17 => ck (z17.1 = 0 ∨ z17.1 = 1) (some (z17.1, z17.2)) else if nI (L i) = 120 then (f_X1_number 113 (nI i + 1) 2 σ).bind fun z20 => (f_X1_wearComes 1 z20 σ).bind fun z22 => ck (z22.1 = 0 ∨ z22.1 = 1) (some (z22.1, z22.2)) else (f_X1_number 113 (nI i + 1) 1 σ).bind fun z24 => (f_X1_number 113 (nI i + 2) 2 σ).bind fun z26 => (f_X1_rollComes 1 z24 z26 σ).bind fun z28 => ck (z28.1 = 0 ∨ z28.1 = 1) (some (z28.1, z28.2))) = r → f_X1_comesTrue 113 (nI i) 1 σ = r := fun r e => by
    unfold f_X1_comesTrue
    rw [if_neg (nlt_m (by omega)), h1, if_pos e0]
    simp (disch := omega) only [RD, LN, cl_nI, ck_i, hL i hiz]
    exact e
  have fin1 : ∀ {v : Int32} {σ' : SS}, (v = 0 ∨ v = 1) → ck (v = 0 ∨ v = 1) (some (v, σ')) = some (v, σ') := fun hv => ck_pos hv
  unfold Dn dd
  rcases dg_c (L i) hs.1 with ⟨c, d⟩ | ⟨c, d⟩ | ⟨c, d⟩ | ⟨c, d⟩ | ⟨c, d⟩
  · -- a
    have q1 := n1 1 (by omega) (by omega)
    have q2 := n1 2 (by omega) (by omega)
    have q3 := n1 3 (by omega) (by omega)
    have q4 := n2 2 (by omega) (by omega)
    have u1 := x_num1 (p := i + 1) hz h1 hL (by omega) q1.1
    have u2 := x_num2 (p := i + 2) hz h1 hL (by omega) q2.1 q3.1
    rw [if_pos c]
    have go : ∀ r, ((f_X1_placeComes 1 (nI (one' L (i + 1))) (nI (two' L (i + 2))) σ).bind fun z9 => ck (z9.1 = 0 ∨ z9.1 = 1) (some (z9.1, z9.2))) = r → f_X1_comesTrue 113 (nI i) 1 σ = r := fun r e => pre r (by
      rw [if_pos (show nI (L i) = 97 by rw [c]; rfl), ol_add (n := 1), ol_add (n := 2), u1, u2, Option.bind_some, Option.bind_some]
      exact e)
    by_cases c1 : one' L (i + 1) < rN ρ
    · by_cases c2 : two' L (i + 2) < rT ρ
      · rw [if_pos ⟨c1, c2⟩]
        refine ⟨sI σ (5 + one' L (i + 1)) 4 (nI (two' L (i + 2))), Or.inl ⟨_, rfl, go _ ?_, h.put hN⟩, fun q j hq => rI_q (by omega)⟩
        unfold f_X1_placeComes
        simp only [x_wheel h.2.1 hN c1, x_tooth h.1 hR c2, Option.bind_some, if_neg one0]
        exact fin1 (Or.inr rfl)
      · rw [if_neg (fun z => c2 z.2)]
        refine ⟨σ, Or.inr ⟨rfl, go _ ?_⟩, fun _ _ _ => rfl⟩
        unfold f_X1_placeComes
        simp only [x_wheel h.2.1 hN c1, x_tooth_bad h.1 (bad_ge (show rT ρ ≤ two' L (i + 2) by omega) (by omega)), Option.bind_some, if_true]
        exact fin1 (Or.inl rfl)
    · rw [if_neg (fun z => c1 z.1)]
      refine ⟨σ, Or.inr ⟨rfl, go _ ?_⟩, fun _ _ _ => rfl⟩
      unfold f_X1_placeComes
      simp only [x_wheel_bad h.2.1 (bad_ge (show rN ρ ≤ one' L (i + 1) by omega) (by omega)), Option.bind_some]
      exact fin1 (Or.inl rfl)
  · -- r
    have q1 := n1 1 (by omega) (by omega)
    have q2 := n1 2 (by omega) (by omega)
    have q4 := n2 1 (by omega) (by omega)
    have u1 := x_num2 (p := i + 1) hz h1 hL (by omega) q1.1 q2.1
    rw [if_neg (by omega), if_pos c]
    have go : ∀ r, ((f_X1_ringComes 1 (nI (two' L (i + 1))) σ).bind fun z14 => ck (z14.1 = 0 ∨ z14.1 = 1) (some (z14.1, z14.2))) = r → f_X1_comesTrue 113 (nI i) 1 σ = r := fun r e => pre r (by
      rw [if_neg (show ¬ nI (L i) = 97 by rw [c]; decide), if_pos (show nI (L i) = 114 by rw [c]; rfl), ol_add (n := 1), u1, Option.bind_some]
      exact e)
    by_cases c1 : 3 ≤ two' L (i + 1) ∧ two' L (i + 1) ≤ 60
    · rcases fitN_01 ρ (two' L (i + 1)) (rN ρ) with hf | hf
      · rw [if_neg (fun z => by have := z.2.2; omega)]
        refine ⟨σ, Or.inr ⟨rfl, go _ ?_⟩, fun _ _ _ => rfl⟩
        unfold f_X1_ringComes f_X4_renew
        rw [x_canHave h hw c1.1 c1.2, hf, Option.bind_some, Option.bind_some, if_pos (show nI 0 = 0 from rfl), Option.bind_some, ck_pos (show nI 0 = 0 ∨ nI 0 = 1 from Or.inl rfl), Option.bind_some]
        exact fin1 (Or.inl rfl)
      · rw [if_pos ⟨c1.1, c1.2, hf⟩]
        obtain ⟨σ', f1, f2, f3⟩ := x_renew h hw c1.1 c1.2 hf
        refine ⟨σ', Or.inl ⟨_, rfl, go _ ?_, f2⟩, f3⟩
        unfold f_X1_ringComes
        rw [x_canHave h hw c1.1 c1.2, hf, Option.bind_some, f1, Option.bind_some, ck_pos (show nI 1 = 0 ∨ nI 1 = 1 from Or.inr rfl), Option.bind_some]
        exact fin1 (Or.inr rfl)
    · rw [if_neg (fun z => c1 ⟨z.1, z.2.1⟩)]
      have hc := x_canHave_no h hw q4 (by omega)
      refine ⟨σ, Or.inr ⟨rfl, go _ ?_⟩, fun _ _ _ => rfl⟩
      unfold f_X1_ringComes f_X4_renew
      rw [hc, Option.bind_some, Option.bind_some, if_pos rfl, Option.bind_some, ck_pos (Or.inl rfl), Option.bind_some]
      exact fin1 (Or.inl rfl)
  · -- w
    have q1 := n1 1 (by omega) (by omega)
    have q2 := n1 2 (by omega) (by omega)
    have q3 := n1 3 (by omega) (by omega)
    have q4 := n1 4 (by omega) (by omega)
    have q5 := n1 5 (by omega) (by omega)
    have q6 := n1 6 (by omega) (by omega)
    have q7 := n1 7 (by omega) (by omega)
    have t2 := n2 2 (by omega) (by omega)
    have t5 := n2 5 (by omega) (by omega)
    have u1 := x_num1 (p := i + 1) hz h1 hL (by omega) q1.1
    have u2 := x_num2 (p := i + 2) hz h1 hL (by omega) q2.1 q3.1
    have u4 := x_num1 (p := i + 4) hz h1 hL (by omega) q4.1
    have u5 := x_num2 (p := i + 5) hz h1 hL (by omega) q5.1 q6.1
    have u7 := x_num1 (p := i + 7) hz h1 hL (by omega) q7.1
    have hr := x_refW (k := one' L (i + 1)) (s := two' L (i + 2)) (f := one' L (i + 4)) (t := two' L (i + 5)) (p := one' L (i + 7)) h hw (by omega) t2 q4.2 t5 q7.2
    rw [if_neg (by omega), if_neg (by omega), if_pos c]
    have go : ∀ r, ((if (f_X4_refusalOfWheel 1 (nI (one' L (i + 1))) (nI (two' L (i + 2))) (nI (one' L (i + 4))) (nI (two' L (i + 5))) (nI (one' L (i + 7))) σ) = 0 then (f_X4_addWheel 1 (nI (one' L (i + 1))) (nI (two' L (i + 2))) (nI (one' L (i + 4))) (nI (two' L (i + 5))) (nI (one' L (i + 7))) σ).bind fun z12 => some (1, z12) else some (0, σ)).bind fun z17 => ck (z17.1 = 0 ∨ z17.1 = 1) (some (z17.1, z17.2))) = r → f_X1_comesTrue 113 (nI i) 1 σ = r := fun r e => pre r (by
      rw [if_neg (show ¬ nI (L i) = 97 by rw [c]; decide), if_neg (show ¬ nI (L i) = 114 by rw [c]; decide), if_pos (show nI (L i) = 119 by rw [c]; rfl)]
      unfold f_X1_wheelComes
      rw [ol_add (n := 1), ol_add (n := 2), ol_add (n := 4), ol_add (n := 5), ol_add (n := 7), u1, u2, u4, u5, u7, Option.bind_some, Option.bind_some, Option.bind_some, Option.bind_some, Option.bind_some]
      exact e)
    by_cases c1 : one' L (i + 1) ≤ 5 ∧ 1 ≤ two' L (i + 2) ∧ two' L (i + 2) < rT ρ ∧ two' L (i + 5) < rT ρ ∧ 1 ≤ one' L (i + 7) ∧ rN ρ < 6
    · rw [if_pos c1]
      obtain ⟨σ', f1, f2, f3⟩ := x_add (k := one' L (i + 1)) (s := two' L (i + 2)) (g := one' L (i + 4)) (p := one' L (i + 7)) (a := two' L (i + 5)) h c1.2.2.2.2.2
      refine ⟨σ', Or.inl ⟨_, rfl, go _ ?_, f2⟩, f3⟩
      rw [if_pos (hr.mpr c1), f1, Option.bind_some, Option.bind_some]
      exact fin1 (Or.inr rfl)
    · rw [if_neg c1]
      refine ⟨σ, Or.inr ⟨rfl, go _ ?_⟩, fun _ _ _ => rfl⟩
      rw [if_neg (fun z => c1 (hr.mp z)), Option.bind_some]
      exact fin1 (Or.inl rfl)
  · -- x
    have q1 := n1 1 (by omega) (by omega)
    have q2 := n1 2 (by omega) (by omega)
    have q4 := n2 1 (by omega) (by omega)
    have u1 := x_num2 (p := i + 1) hz h1 hL (by omega) q1.1 q2.1
    rw [if_neg (by omega), if_neg (by omega), if_neg (by omega), if_pos c]
    have go : ∀ r, ((f_X1_wearComes 1 (nI (two' L (i + 1))) σ).bind fun z22 => ck (z22.1 = 0 ∨ z22.1 = 1) (some (z22.1, z22.2))) = r → f_X1_comesTrue 113 (nI i) 1 σ = r := fun r e => pre r (by
      rw [if_neg (show ¬ nI (L i) = 97 by rw [c]; decide), if_neg (show ¬ nI (L i) = 114 by rw [c]; decide), if_neg (show ¬ nI (L i) = 119 by rw [c]; decide), if_pos (show nI (L i) = 120 by rw [c]; rfl), ol_add (n := 1), u1, Option.bind_some]
      exact e)
    by_cases c1 : two' L (i + 1) < rT ρ
    · rw [if_pos c1]
      have h3 : σ.1 3 (two' L (i + 1)) = nI (rW ρ (two' L (i + 1))) := h.2.2.2.1 _ (by omega)
      have hv := hw.2.2.2.2.1 (two' L (i + 1))
      have hX : X1 (rMend ρ (two' L (i + 1))) (sI σ 3 (two' L (i + 1)) (nI (1 - rW ρ (two' L (i + 1))))) := h.mend
      refine ⟨sI σ 3 (two' L (i + 1)) (nI (1 - rW ρ (two' L (i + 1)))), Or.inl ⟨_, rfl, go _ ?_, hX⟩, fun q j hq => rI_q (by omega)⟩
      have e2 : f_X4_isTooth 1 (nI (two' L (i + 1))) (sI σ 3 (two' L (i + 1)) (nI (1 - rW ρ (two' L (i + 1))))) = 1 := x_tooth (R := rT ρ) hX.1 hR c1
      unfold f_X1_wearComes f_X4_wearOrMend
      simp (disch := omega) only [RD, LN, x_tooth h.1 hR c1, if_neg one0, cl_nI, ck_i, h3, mend_v hv, Option.bind_some, e2]
      exact fin1 (Or.inr rfl)
    · rw [if_neg c1]
      refine ⟨σ, Or.inr ⟨rfl, go _ ?_⟩, fun _ _ _ => rfl⟩
      unfold f_X1_wearComes f_X4_wearOrMend
      simp only [x_tooth_bad h.1 (bad_ge (show rT ρ ≤ two' L (i + 1) by omega) (by omega)), if_true, Option.bind_some]
      exact fin1 (Or.inl rfl)
  · -- g
    have q1 := n1 1 (by omega) (by omega)
    have q2 := n1 2 (by omega) (by omega)
    have q3 := n1 3 (by omega) (by omega)
    have q4 := n2 2 (by omega) (by omega)
    have u1 := x_num1 (p := i + 1) hz h1 hL (by omega) q1.1
    have u2 := x_num2 (p := i + 2) hz h1 hL (by omega) q2.1 q3.1
    rw [if_neg (by omega), if_neg (by omega), if_neg (by omega), if_neg (by omega)]
    have go : ∀ r, ((f_X1_rollComes 1 (nI (one' L (i + 1))) (nI (two' L (i + 2))) σ).bind fun z9 => ck (z9.1 = 0 ∨ z9.1 = 1) (some (z9.1, z9.2))) = r → f_X1_comesTrue 113 (nI i) 1 σ = r := fun r e => pre r (by
      rw [if_neg (show ¬ nI (L i) = 97 by rw [c]; decide), if_neg (show ¬ nI (L i) = 114 by rw [c]; decide), if_neg (show ¬ nI (L i) = 119 by rw [c]; decide), if_neg (show ¬ nI (L i) = 120 by rw [c]; decide), ol_add (n := 1), ol_add (n := 2), u1, u2, Option.bind_some, Option.bind_some]
      exact e)
    by_cases c1 : one' L (i + 1) < rN ρ
    · by_cases c2 : 1 ≤ two' L (i + 2)
      · have k1 : ¬ nI (two' L (i + 2)) < 1 := by rw [fa_lit 1, lt_nI (by omega) (by omega)]; omega
        by_cases c3 : two' L (i + 2) ≤ 40
        · rw [if_pos ⟨c1, c2, c3⟩]
          obtain ⟨σ', f1, f2, f3⟩ := x_roll h hw c1 c3
          refine ⟨σ', Or.inl ⟨_, rfl, go _ ?_, f2⟩, f3⟩
          unfold f_X1_rollComes
          simp only [x_wheel h.2.1 hN c1, Option.bind_some, if_neg k1, f1]
          rw [if_pos (show nI (two' L (i + 2)) ≤ 40 by rw [fa_lit 40, le_nI (by omega) (by omega)]; exact c3), Option.bind_some]
          exact fin1 (Or.inr rfl)
        · rw [if_neg (fun z => c3 z.2.2)]
          refine ⟨σ, Or.inr ⟨rfl, go _ ?_⟩, fun _ _ _ => rfl⟩
          unfold f_X1_rollComes
          simp only [x_wheel h.2.1 hN c1, Option.bind_some, if_neg k1]
          rw [if_neg (show ¬ nI (two' L (i + 2)) ≤ 40 by rw [fa_lit 40, le_nI (by omega) (by omega)]; exact c3), Option.bind_some]
          exact fin1 (Or.inl rfl)
      · rw [if_neg (fun z => c2 z.2.1)]
        refine ⟨σ, Or.inr ⟨rfl, go _ ?_⟩, fun _ _ _ => rfl⟩
        unfold f_X1_rollComes
        simp only [x_wheel h.2.1 hN c1, Option.bind_some]
        rw [if_pos (show nI (two' L (i + 2)) < 1 by rw [fa_lit 1, lt_nI (by omega) (by omega)]; omega), Option.bind_some]
        exact fin1 (Or.inl rfl)
    · rw [if_neg (fun z => c1 z.1)]
      refine ⟨σ, Or.inr ⟨rfl, go _ ?_⟩, fun _ _ _ => rfl⟩
      unfold f_X1_rollComes
      simp only [x_wheel_bad h.2.1 (bad_ge (show rN ρ ≤ one' L (i + 1) by omega) (by omega)), Option.bind_some]
      exact fin1 (Or.inl rfl)
