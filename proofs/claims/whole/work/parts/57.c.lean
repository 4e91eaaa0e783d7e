/-! mirror, whole -/
theorem fstF_congr {p q : Nat → Bool} : ∀ k i, (∀ j, i ≤ j → j < i + k → p j = q j) → fstF p i k = fstF q i k
  | 0, _, _ => rfl
  | k + 1, i, h => by
    unfold fstF
    rw [h i (by omega) (by omega), fstF_congr k (i + 1) (fun j h1 h2 => h j (by omega) (by omega))]
theorem x_shiftI {σ : SS} {R c A A2 T T2 k k2 : Nat} {bg bg2 : Nat → Nat} {sg : Int32} {mi : Bool} (h : DrX 116 R k bg A T σ) (h2 : DrX 122 R k2 bg2 A2 T2 σ) (hR1 : 1 ≤ R) (hR : R ≤ 60) (hA : A ≤ 60) (hb : ∀ i, bg i < R) (hc : c < R) (hs : (sg = -1 ∧ mi = true) ∨ (sg = 1 ∧ mi = false)) :
    ∃ z, f_X0_isShiftOnto 116 122 sg (nI c) σ = some z ∧ ((pX R mi bg bg2 A A2 c ∧ z = 1) ∨ (¬ pX R mi bg bg2 A A2 c ∧ z = 0)) := by
  have ek : ∀ t, t < R → f_X2_modulo (nI c + sg * nI t) (nI R) = nI (tk R mi c t) := fun t ht => by
    rcases hs with ⟨rfl, rfl⟩ | ⟨rfl, rfl⟩
    · have e : (-1 : Int32) * nI t = -nI t := by
        rw [Int32.neg_mul, Int32.one_mul]
      rw [e, ← Int32.sub_eq_add_neg, mod_sub 1 (by omega) (by omega) (by omega) (by omega) (by omega), Nat.one_mul]
      rfl
    · rw [Int32.one_mul, nI_add, mod_nat (by omega) hR1 (by omega), Nat.add_comm]
      rfl
  have f := search (fun fu i => f_X0_isShiftOnto_L3 σ (fun (_ : Unit) => some 1) fu 116 122 sg (nI c) (nI i)) (fun i => !LKb bg2 A2 (tk R mi c (bg i)) (tk R mi c (bg (i + 1)))) (fun _ => some 0) (some 1) A
    (fun fu => by
      simp only [f_X0_isShiftOnto_L3]
      rw [h.2.2.1, if_pos ((le_nI (by omega) (by omega)).mpr (Nat.le_refl _))])
    (fun fu i hi => by
      have k1 : σ.1 117 i = nI (bg i) := (h.2.2.2.2.1 i hi).1
      have k2 : σ.1 118 i = nI (bg (i + 1)) := (h.2.2.2.2.1 i hi).2.1
      have t1 := tk_lt (R := R) (c := c) (t := bg i) (mi := mi) hR1
      have t2 := tk_lt (R := R) (c := c) (t := bg (i + 1)) (mi := mi) hR1
      have il := x_isLink (d := 122) (σ := σ) (Or.inr rfl) (show tk R mi c (bg i) < 60 by omega) (show tk R mi c (bg (i + 1)) < 60 by omega)
      rw [h2.2.2.2.2.2.2.2 _ (by omega), lk_LKb] at il
      simp (disch := omega) only [f_X0_isShiftOnto_L3, RD, LN, cl_nI, ck_i, k1, k2, h.1, h.2.2.1, ek _ (hb i), ek _ (hb (i + 1)), il, Option.bind_some, ol_add]
      rw [if_neg (show ¬ nI A ≤ nI i by rw [le_nI (by omega) (by omega)]; omega)]
      by_cases q : LKb bg2 A2 (tk R mi c (bg i)) (tk R mi c (bg (i + 1))) = true
      · rw [if_pos q, if_neg one0, if_neg (by rw [q]; decide)]
      · rw [if_neg q, if_pos rfl, if_pos (by rw [Bool.not_eq_true] at q; rw [q]; decide)])
    A 0 FU (by omega) (FU_big (by omega))
  have hsp := fstF_spec (fun i => !LKb bg2 A2 (tk R mi c (bg i)) (tk R mi c (bg (i + 1)))) A 0
  have hf : f_X0_isShiftOnto 116 122 sg (nI c) σ = if fstF (fun i => !LKb bg2 A2 (tk R mi c (bg i)) (tk R mi c (bg (i + 1)))) 0 A < A then some 0 else some 1 := f
  by_cases q : fstF (fun i => !LKb bg2 A2 (tk R mi c (bg i)) (tk R mi c (bg (i + 1)))) 0 A < A
  · rw [if_pos q] at hf
    refine ⟨0, hf, Or.inr ⟨fun hp => ?_, rfl⟩⟩
    have h1 := hsp.1 (by omega)
    rw [hp _ q] at h1
    exact absurd h1 (by decide)
  · rw [if_neg q] at hf
    refine ⟨1, hf, Or.inl ⟨fun i hi => ?_, rfl⟩⟩
    have h1 := hsp.2 i (by omega) (by omega)
    cases e : LKb bg2 A2 (tk R mi c (bg i)) (tk R mi c (bg (i + 1))) with
    | true => rfl
    | false => rw [e] at h1; exact absurd rfl h1
noncomputable def pMb (R : Nat) (mi : Bool) (bg1 bg2 : Nat → Nat) (A1 A2 c : Nat) : Bool := @decide (pM R mi bg1 bg2 A1 A2 c) (Classical.propDecidable _)
theorem pMb_iff {R c A1 A2 : Nat} {mi : Bool} {bg1 bg2 : Nat → Nat} : pMb R mi bg1 bg2 A1 A2 c = true ↔ pM R mi bg1 bg2 A1 A2 c := by
  unfold pMb
  exact @decide_eq_true_iff _ (Classical.propDecidable _)
noncomputable def mrV (R : Nat) (mi : Bool) (bg1 bg2 : Nat → Nat) (A1 A2 : Nat) : Int32 := if fstF (pMb R mi bg1 bg2 A1 A2) 0 R < R then nI (fstF (pMb R mi bg1 bg2 A1 A2) 0 R) else -9
theorem x_shift {σ : SS} {R A A2 T T2 k k2 : Nat} {bg bg2 : Nat → Nat} {sg : Int32} {mi : Bool} (h : DrX 116 R k bg A T σ) (h2 : DrX 122 R k2 bg2 A2 T2 σ) (hk : sd k = sd k2) (hR1 : 1 ≤ R) (hR : R ≤ 60) (hA : A ≤ 60) (hA2 : A2 ≤ 60) (hb : ∀ i, bg i < R) (hb2 : ∀ i, bg2 i < R) (hs : (sg = -1 ∧ mi = true) ∨ (sg = 1 ∧ mi = false)) :
    f_X0_shiftOnto 116 122 sg σ = some (mrV R mi bg bg2 A A2) := by
  have n1 := cnt_le (fo bg) A
  have n2 := cnt_le (fo bg2) A2
  rw [← nlk_cnt] at n1 n2
  unfold f_X0_shiftOnto
  rw [h.2.1, h2.2.1, if_pos (by rw [hk]), h.2.2.2.2.2.2.1, h2.2.2.2.2.2.2.1]
  by_cases e : nlk bg A = nlk bg2 A2
  · rw [if_pos (congrArg nI e)]
    have f := search (fun fu c => f_X0_shiftOnto_L24 σ (fun (_ : Unit) => some (-9)) fu 116 122 sg (nI c)) (pMb R mi bg bg2 A A2) (fun c => some (nI c)) (some (-9)) R
      (fun fu => by
        simp only [f_X0_shiftOnto_L24]
        rw [h.1, if_pos ((le_nI (by omega) (by omega)).mpr (Nat.le_refl _))])
      (fun fu c hc => by
        obtain ⟨z, f1, f2⟩ := x_shiftI h h2 hR1 hR hA hb hc hs
        obtain ⟨g1, g2⟩ := pX_pM (R := R) (c := c) (A1 := A) (A2 := A2) (mi := mi) hc hb hb2
        simp only [f_X0_shiftOnto_L24]
        rw [h.1, if_neg (show ¬ nI R ≤ nI c by rw [le_nI (by omega) (by omega)]; omega), f1, Option.bind_some]
        rcases f2 with ⟨q, rfl⟩ | ⟨q, rfl⟩
        · rw [if_neg one0, if_pos (pMb_iff.mpr (g1 e q))]
        · rw [if_pos rfl, if_neg (fun z => q (g2 (pMb_iff.mp z)).2), ol_add])
      R 0 FU (by omega) (FU_big (by omega))
    refine f.trans ?_
    unfold mrV
    split <;> rfl
  · rw [if_neg (fun z => e ((eq_nI (by omega) (by omega)).mp z))]
    unfold mrV
    rw [if_neg (fun z => ?_)]
    have hsp := (fstF_spec (pMb R mi bg bg2 A A2) R 0).1 (by omega)
    exact e ((pX_pM z hb hb2).2 (pMb_iff.mp hsp)).1
theorem pc_mirror_ok : pc_mirror Rel := by
  rintro σ c1 c2 c3 ⟨A, hx, hm, hw⟩
  have hR := hw.1.2.1
  have hR3 := hw.1.1
  have hN := hw.1.2.2.1
  have hbad : bad c1 (rN A.1) ∨ bad c2 (rN A.1) → ∃ (r : Int32) (σ1 σ2 : SS), f_X8_mirror 0 c1 c2 c3 σ = some (r, σ1) ∧ f_X9_mirror 143 c1 c2 c3 σ1 = some (r, σ2) ∧ Rel σ2 := fun hb => by
    refine both_ref (-1) 1 hx hm hw (fun τ h => ?_) (fun τ h => ?_)
    · unfold f_X8_mirror
      simp only [x_both_bad h.1 hw.1 hb, if_true, x_ref, Option.bind_some]
    · unfold f_X9_mirror
      rcases ix_cases c1 (n := rN A.1) (by omega) with hb1 | ⟨w, hi, rfl⟩
      · simp only [m_wheel_bad h.1.2.1 hN hb1, m_ref, Option.bind_some, if_true]
      · rcases hb with hb | hb
        · exact absurd rfl (hb.ne hi (by omega))
        · simp only [m_wheel h.1.2.1 hN hi, if_neg one0, m_wheel_bad h.1.2.1 hN hb, m_ref, Option.bind_some, if_true]
  rcases ix_cases c1 (n := rN A.1) (by omega) with hb | ⟨w, hi, rfl⟩
  · exact hbad (Or.inl hb)
  rcases ix_cases c2 (n := rN A.1) (by omega) with hb | ⟨v, hi2, rfl⟩
  · exact hbad (Or.inr hb)
  obtain ⟨a, T, hD⟩ := bgW_D hw.1 hi
  obtain ⟨a2, T2, hD2⟩ := bgW_D hw.1 hi2
  have ha : a ≤ 60 := by have := hD.2.1; omega
  have ha2 : a2 ≤ 60 := by have := hD2.2.1; omega
  have hbl := hD.2.2.2.2.2
  have hbl2 := hD2.2.2.2.2.2
  by_cases h2 : c3 = 0 ∨ c3 = 1
  case neg =>
    have h2 := (two_ok c3).2 h2
    have hq : XC (fun τ => f_X8_mirror 0 (nI w) (nI v) c3 τ) A (-2) (aR A 2) := fun τ h => by
      obtain ⟨τ', f1, f2, f3, f4⟩ := x_both h.1 hw.1 hi hi2 hD hD2
      have h' : XH A τ' := h.of hw (fun q j _ hq => f4 q j hq)
      obtain ⟨τ2, g1, g2, g3⟩ := XC.ref hw (-2 : Int32) 2 τ' h'
      refine ⟨τ2, ?_, g2, fun q j hq => by rw [g3 q j hq, f4 q j (by unfold SX; omega)]⟩
      unfold f_X8_mirror
      simp only [f1, Option.bind_some, if_neg one0, h2, if_true, x_ref]
      exact g1
    refine both (A' := aR A 2) hx hm hw hw hq ((MC.ref hw (-2 : Int32) 2).congr (fun τ h => ?_))
    unfold f_X9_mirror
    simp only [m_wheel h.1.2.1 hN hi, m_wheel h.1.2.1 hN hi2, if_neg one0, h2, if_true, m_ref, Option.bind_some]
  have h3 := (two_ok c3).1 h2
  have k1 := (hw.1.2.2.2.2.2 w hi).1
  have k2 := (hw.1.2.2.2.2.2 v hi2).1
  have b : ∀ k, sd k ≤ 1 := fun k => by unfold sd; (repeat' split) <;> omega
  have b1 := b (rK A.1 w 0)
  have b2 := b (rK A.1 v 0)
  by_cases hs : sd (rK A.1 w 0) = sd (rK A.1 v 0)
  case neg =>
    refine both_same (-9) hx hm hw (fun τ h => ?_) (fun τ h => ⟨τ, ?_, fun _ _ _ => rfl⟩)
    · obtain ⟨τ', f1, f2, f3, f4⟩ := x_both h.1 hw.1 hi hi2 hD hD2
      refine ⟨τ', ?_, f4⟩
      have e : ∀ sg, f_X0_shiftOnto 116 122 sg τ' = some (-9) := fun sg => by
        unfold f_X0_shiftOnto
        rw [f2.2.1, f3.2.1, if_neg (by rw [eq_nI (by omega) (by omega)]; exact hs)]
      unfold f_X8_mirror
      simp only [RD, f1, Option.bind_some, if_neg one0, h3, e]
      split <;> rfl
    · have e0 : τ.1 146 w = nI (rK A.1 w 0) := h.1.2.2.2.2 w hi 0 (by omega)
      have e1 : τ.1 146 v = nI (rK A.1 v 0) := h.1.2.2.2.2 v hi2 0 (by omega)
      unfold f_X9_mirror
      simp (disch := omega) only [m_wheel h.1.2.1 hN hi, m_wheel h.1.2.1 hN hi2, if_neg one0, h3, RM, LN, cl_nI, ck_i, e0, e1, m_side]
      rw [if_neg (by rw [eq_nI (by omega) (by omega)]; exact hs)]
  obtain ⟨mi, hmi⟩ : ∃ mi, wm c3 mi := by
    rcases h2 with rfl | rfl
    · exact ⟨true, Or.inl ⟨rfl, rfl⟩⟩
    · exact ⟨false, Or.inr ⟨rfl, rfl⟩⟩
  refine both_same (mrV (rT A.1) mi (bgW A.1 w) (bgW A.1 v) a a2) hx hm hw (fun τ h => ?_) (fun τ h => ?_)
  · obtain ⟨τ', f1, f2, f3, f4⟩ := x_both h.1 hw.1 hi hi2 hD hD2
    refine ⟨τ', ?_, f4⟩
    unfold f_X8_mirror
    rcases hmi with ⟨rfl, rfl⟩ | ⟨rfl, rfl⟩
    · have e := x_shift (sg := -1) (mi := true) f2 f3 hs (by omega) hR ha ha2 hbl hbl2 (Or.inl ⟨rfl, rfl⟩)
      simp only [RD, f1, Option.bind_some, if_neg one0, h3, e, if_true]
    · have e := x_shift (sg := 1) (mi := false) f2 f3 hs (by omega) hR ha ha2 hbl hbl2 (Or.inr ⟨rfl, rfl⟩)
      simp only [RD, f1, Option.bind_some, if_neg one0, h3, e]
  · obtain ⟨s1, f1, f2, f3, f4⟩ := m_drawsW h.1 hw.1 hi hD
    have z1' : s1.1 143 0 = nI (rT A.1) := (f3 _ _ (by omega) (by omega)).trans h.1.1
    obtain ⟨s2, g1, g2, g3, g4⟩ := m_joined (q := 164) (Or.inl rfl) z1' hR ha hbl f2
    have hM : M1 A.1 s2 := h.1.of hN (by rw [g3, f3 _ _ (by omega) (by omega)]) (by rw [g3, f3 _ _ (by omega) (by omega)]) (fun q j _ _ => by rw [g3, f3 _ _ (by omega) (by omega)])
    obtain ⟨s3, k1', k2', k3, k4⟩ := m_drawsW hM hw.1 hi2 hD2
    have z3 : s3.1 143 0 = nI (rT A.1) := (k3 _ _ (by omega) (by omega)).trans hM.1
    obtain ⟨s4, l1, l2, l3, l4⟩ := m_joined (q := 165) (Or.inr rfl) z3 hR ha2 hbl2 k2'
    have hF4 : FM τ s4 := fun q j hq => by
      unfold SM at hq
      rw [l3, k3 _ _ (by omega) (by omega), g3, f3 _ _ (by omega) (by omega)]
    obtain ⟨s5, m1, e⟩ := searchI (fun fu c (s : SS) => f_X9_mirror_L91 (fun (τ : SS) => some ((-9), τ)) fu 143 c3 (nI c) s) (pMb (rT A.1) mi (bgW A.1 w) (bgW A.1 v) a a2) (fun c s => s.1 = s4.1 ∧ ∀ x j, ¬ x = 166 → s.2 x j = s4.2 x j) (fun s => s.1 = s4.1) (rT A.1) (fun c s => some (nI c, s)) (fun s => some (-9, s))
      (fun fu s hI => ⟨hI.1, by
        simp only [f_X9_mirror_L91]
        rw [hI.1, l3, z3, if_pos ((le_nI (by omega) (by omega)).mpr (Nat.le_refl _))]⟩)
      (fun fu c s hc hI => by
        obtain ⟨i1, i2⟩ := hI
        have zs : s.1 143 0 = nI (rT A.1) := by rw [i1, l3]; exact z3
        obtain ⟨z, s', q1, q2, q3, q4⟩ := m_such (σ := s) (R := rT A.1) (c := c) (A1 := a) (A2 := a2) (bg1 := bgW A.1 w) (bg2 := bgW A.1 v) zs (by omega) hR hc hmi hbl2 (fun t ht u => by rw [i2 _ _ (by omega), l4 _ _ (by omega), k4]; exact g2 t ht u) (fun t ht u => by rw [i2 _ _ (by omega)]; exact l2 t ht u)
        refine ⟨s', q2.trans i1, fun hp => ?_, fun hp => ⟨⟨q2.trans i1, fun x j hx => (q3 x j hx).trans (i2 x j hx)⟩, ?_⟩⟩
        · have hp := pMb_iff.mp hp
          rcases q4 with ⟨_, rfl⟩ | ⟨q, _⟩
          · simp only [f_X9_mirror_L91]
            rw [zs, if_neg (show ¬ nI (rT A.1) ≤ nI c by rw [le_nI (by omega) (by omega)]; omega), q1, Option.bind_some, if_neg one0]
          · exact absurd hp q
        · rcases q4 with ⟨q, _⟩ | ⟨_, rfl⟩
          · exact absurd (pMb_iff.mpr q) hp
          · simp only [f_X9_mirror_L91]
            rw [zs, if_neg (show ¬ nI (rT A.1) ≤ nI c by rw [le_nI (by omega) (by omega)]; omega), q1, Option.bind_some, if_pos rfl, ol_add])
      (rT A.1) 0 FU s4 (by omega) (FU_big (by omega)) ⟨rfl, fun _ _ _ => rfl⟩
    refine ⟨s5, ?_, fun q j hq => by rw [m1]; exact hF4 q j hq⟩
    have e0 : τ.1 146 w = nI (rK A.1 w 0) := h.1.2.2.2.2 w hi 0 (by omega)
    have e1 : τ.1 146 v = nI (rK A.1 v 0) := h.1.2.2.2.2 v hi2 0 (by omega)
    unfold f_X9_mirror
    simp (disch := omega) only [m_wheel h.1.2.1 hN hi, m_wheel h.1.2.1 hN hi2, if_neg one0, h3, RM, LN, cl_nI, ck_i, e0, e1, m_side, f1, g1, k1', l1, Option.bind_some]
    rw [if_pos (by rw [hs])]
    refine e.trans ?_
    unfold mrV
    split <;> rfl
