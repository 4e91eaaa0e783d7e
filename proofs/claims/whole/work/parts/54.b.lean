/-! lots, whole -/
theorem LI.mono {P Q b b' : Nat} {ρ : RG} {s : LTS} {σ : SS} (h : LI P Q ρ b s σ) (hb : b ≤ b') : LI P Q ρ b' s σ := ⟨h.1, h.2.1, fun t => Nat.le_trans (h.2.2 t) hb⟩
theorem LI.of {P Q b : Nat} {ρ : RG} {s : LTS} {σ σ' : SS} (h : LI P Q ρ b s σ) (e1 : ∀ j, σ'.1 P j = σ.1 P j) (e2 : ∀ j, σ'.1 Q j = σ.1 Q j) : LI P Q ρ b s σ' := ⟨fun i hi => ⟨(e1 i).trans (h.1 i hi).1, (h.1 i hi).2⟩, fun t ht => (e2 t).trans (h.2.1 t ht), h.2.2⟩
def lt0 (ρ : RG) : LTS := (fun w => rK ρ w 4, fun _ => 0)
theorem x_lots11 {ρ : RG} {σ : SS} {n : Nat} {z : Int32} (h : X1 ρ σ) (hw : WR ρ) (hr : 1 ≤ rN ρ) (hn : n ≤ 50) (hL : LI 129 134 ρ 0 (lt0 ρ) σ) :
    ∃ σ', f_X6_castLots_L11 (fun (τ : SS) => some τ) FU 128 1 (nI n) z 0 σ = some σ' ∧ LI 129 134 ρ 200 (lotN ρ z (lt0 ρ) n).2 σ' ∧ ∀ q j, ¬ q = 129 → ¬ q = 134 → σ'.1 q j = σ.1 q j := by
  have hN := hw.2.2.1
  obtain ⟨s', ⟨h0, h1, h2⟩, e⟩ := loop_eq (fun fu i (s : Int32 × SS) => f_X6_castLots_L11 (fun (τ : SS) => some τ) fu 128 1 (nI n) s.1 (nI i) s.2) (fun s => some s.2) n (fun i s => s.1 = (lotN ρ z (lt0 ρ) i).1 ∧ LI 129 134 ρ (4 * i) (lotN ρ z (lt0 ρ) i).2 s.2 ∧ ∀ q j, ¬ q = 129 → ¬ q = 134 → s.2.1 q j = σ.1 q j)
    (fun fu s hI => by
      simp only [f_X6_castLots_L11]
      rw [if_pos ((le_nI (by omega) (by omega)).mpr (Nat.le_refl _))])
    (fun fu i s hi hI => by
      obtain ⟨hz, hL, hF⟩ := hI
      have hX : X1 ρ s.2 := X1.of hN h (fun q j _ _ => hF q j (by omega) (by omega))
      have hm1 : dq (lz s.1) % rN ρ < rN ρ := Nat.mod_lt _ hr
      have hm2 : dq (lz (lz s.1)) % 4 < 4 := Nat.mod_lt _ (by omega)
      obtain ⟨s', f1, f2, f3⟩ := x_lot55 (b := 4 * i) (w := dq (lz s.1) % rN ρ) (m := dq (lz (lz s.1)) % 4 + 1) (s := (lotN ρ z (lt0 ρ) i).2) (x2 := nI n) (x4 := lz (lz s.1)) (x5 := nI i) (κ := fun (p0 : Nat) (p1 : Nat) (y2 : Int32) (y4 : Int32) (y5 : Int32) (τ : SS) => f_X6_castLots_L11 (fun (τ : SS) => some τ) fu p0 p1 y2 y4 (y5 + 1) τ) hX hw hm1 (by omega) (by omega) hL
      refine ⟨(lz (lz s.1), s'), ⟨by rw [hz]; rfl, ?_, fun q j hq hq2 => (f3 q j hq hq2).trans (hF q j hq hq2)⟩, ?_⟩
      · have := f2.mono (b' := 4 * (i + 1)) (by omega)
        rw [hz] at this
        exact this
      · simp only [f_X6_castLots_L11]
        rw [if_neg (show ¬ nI n ≤ nI i by rw [le_nI (by omega) (by omega)]; omega), hX.2.1]
        have e1 : f_X2_drawn (lz s.1) (nI (rN ρ)) = nI (dq (lz s.1) % rN ρ) := x_drawn hr (by omega)
        have e2 : f_X2_drawn (lz (lz s.1)) 4 = nI (dq (lz (lz s.1)) % 4) := x_drawn (m := 4) (by omega) (by omega)
        show f_X6_castLots_L55 _ FU 128 1 (nI n) (lz (lz s.1)) (nI i) (f_X2_drawn (lz s.1) (nI (rN ρ))) (f_X2_drawn (lz (lz s.1)) 4 + 1) 0 s.2 = _
        rw [e1, e2, ol_add, f1, ol_add])
    (fu := FU) (i := 0) (s := (z, σ)) (by omega) (FU_big (by omega)) ⟨rfl, hL, fun _ _ _ _ => rfl⟩
  exact ⟨s'.2, e, h1.mono (by omega), h2⟩
theorem m_lots93 {ρ : RG} {σ : SS} {n : Nat} {z what : Int32} {κ : Nat → Int32 → SS → Option (Int32 × SS)} (h : M1 ρ σ) (hw : WR ρ) (hr : 1 ≤ rN ρ) (hn : n ≤ 50) (hz : σ.1 143 37 = z) (hL : LI 170 172 ρ 0 (lt0 ρ) σ) :
    ∃ σ', f_X9_lots_L93 κ FU 143 (nI n) what 0 σ = κ 143 what σ' ∧ LI 170 172 ρ 200 (lotN ρ z (lt0 ρ) n).2 σ' ∧ ∀ q j, ¬ q = 170 → ¬ q = 172 → ¬ (q = 143 ∧ j = 37) → σ'.1 q j = σ.1 q j := by
  have hN := hw.2.2.1
  obtain ⟨s', ⟨h0, h1, h2⟩, e⟩ := loop_eq (fun fu i (s : SS) => f_X9_lots_L93 κ fu 143 (nI n) what (nI i) s) (fun s => κ 143 what s) n (fun i s => s.1 143 37 = (lotN ρ z (lt0 ρ) i).1 ∧ LI 170 172 ρ (4 * i) (lotN ρ z (lt0 ρ) i).2 s ∧ ∀ q j, ¬ q = 170 → ¬ q = 172 → ¬ (q = 143 ∧ j = 37) → s.1 q j = σ.1 q j)
    (fun fu s hI => by
      simp only [f_X9_lots_L93]
      rw [if_pos ((le_nI (by omega) (by omega)).mpr (Nat.le_refl _))])
    (fun fu i s hi hI => by
      obtain ⟨hz, hL, hF⟩ := hI
      have hX : M1 ρ s := M1.of hN h (hF _ _ (by omega) (by omega) (by omega)) (hF _ _ (by omega) (by omega) (by omega)) (fun q j _ _ => hF q j (by omega) (by omega) (by omega))
      have hm1 : dq (lz (s.1 143 37)) % rN ρ < rN ρ := Nat.mod_lt _ hr
      have hm2 : dq (lz (lz (s.1 143 37))) % 4 < 4 := Nat.mod_lt _ (by omega)
      have d1 := m_draw (σ := s) hr (show rN ρ ≤ 1000000 by omega)
      have d2 := m_draw (σ := sI s 143 37 (lz (s.1 143 37))) (m := 4) (by omega) (by omega)
      rw [rI_s] at d2
      have hX2 : M1 ρ (sI (sI s 143 37 (lz (s.1 143 37))) 143 37 (lz (lz (s.1 143 37)))) := M1.of hN hX (by rw [rI_j (by omega), rI_j (by omega)]) (by rw [rI_j (by omega), rI_j (by omega)]) (fun q j _ _ => by rw [rI_q (by omega), rI_q (by omega)])
      obtain ⟨s', f1, f2, f3⟩ := m_lot121 (b := 4 * i) (w := dq (lz (s.1 143 37)) % rN ρ) (m := dq (lz (lz (s.1 143 37))) % 4 + 1) (s := (lotN ρ z (lt0 ρ) i).2) (x1 := nI n) (x3 := what) (x4 := nI i) (κ := fun (p0 : Nat) (y1 : Int32) (y3 : Int32) (y4 : Int32) (τ : SS) => f_X9_lots_L93 κ fu p0 y1 y3 (y4 + 1) τ) hX2 hw hm1 (by omega) (by omega) (hL.of (fun j => by rw [rI_q (by omega), rI_q (by omega)]) (fun j => by rw [rI_q (by omega), rI_q (by omega)]))
      refine ⟨s', ⟨?_, ?_, fun q j hq hq2 hq3 => ?_⟩, ?_⟩
      · rw [f3 _ _ (by omega) (by omega), rI_s, hz]; rfl
      · have := f2.mono (b' := 4 * (i + 1)) (by omega)
        rw [hz] at this
        exact this
      · rw [f3 q j hq hq2, rI_i, if_neg hq3, rI_i, if_neg hq3]
        exact hF q j hq hq2 hq3
      · simp only [f_X9_lots_L93]
        rw [if_neg (show ¬ nI n ≤ nI i by rw [le_nI (by omega) (by omega)]; omega), hX.2.1, d1, Option.bind_some]
        show (f_X9_draw 143 (nI 4) (sI s 143 37 (lz (s.1 143 37)))).bind _ = _
        rw [d2, Option.bind_some]
        show f_X9_lots_L121 _ FU 143 (nI n) what (nI i) (nI (dq (lz (s.1 143 37)) % rN ρ)) (nI (dq (lz (lz (s.1 143 37))) % 4) + 1) 0 _ = _
        rw [ol_add, f1, ol_add])
    (fu := FU) (i := 0) (s := σ) (by omega) (FU_big (by omega)) ⟨hz, hL, fun _ _ _ _ _ => rfl⟩
  exact ⟨s', e, h1.mono (by omega), h2⟩
theorem m_lots67 {R : Nat} {σ : SS} {x1 x3 : Int32} {κ : Nat → Int32 → Int32 → SS → Option (Int32 × SS)} (h : σ.1 143 0 = nI R) (hR : R ≤ 60) :
    ∃ σ', f_X9_lots_L67 κ FU 143 x1 x3 0 σ = κ 143 x1 x3 σ' ∧ (∀ t, t < R → σ'.1 172 t = 0) ∧ ∀ q j, ¬ q = 172 → σ'.1 q j = σ.1 q j := by
  obtain ⟨s', ⟨h1, h2⟩, e⟩ := loop_eq (fun fu i (s : SS) => f_X9_lots_L67 κ fu 143 x1 x3 (nI i) s) (fun s => κ 143 x1 x3 s) R (fun i s => (∀ t, t < i → s.1 172 t = 0) ∧ ∀ q j, ¬ q = 172 → s.1 q j = σ.1 q j)
    (fun fu s hI => by
      simp only [f_X9_lots_L67]
      rw [hI.2 _ _ (by omega), h, if_pos ((le_nI (by omega) (by omega)).mpr (Nat.le_refl _))])
    (fun fu i s hi hI => by
      refine ⟨sI s 172 i 0, ⟨fun t ht => ?_, fun q j hq => (rI_q hq).trans (hI.2 q j hq)⟩, ?_⟩
      · by_cases e : t = i
        · rw [e, rI_s]
        · rw [rI_j e]; exact hI.1 t (by omega)
      · simp (disch := omega) only [f_X9_lots_L67, RM, LN, cl_nI, ck_i, ol_add]
        rw [hI.2 _ _ (by omega), h, if_neg (show ¬ nI R ≤ nI i by rw [le_nI (by omega) (by omega)]; omega)])
    (fu := FU) (i := 0) (s := σ) (by omega) (FU_big (by omega)) ⟨fun t ht => by omega, fun _ _ _ => rfl⟩
  exact ⟨s', e, h1, h2⟩
theorem m_lots194 {R : Nat} {σ : SS} {f : Nat → Nat} (h : σ.1 143 0 = nI R) (hR : R ≤ 60) (hf : ∀ t, t < R → σ.1 172 t = nI (f t)) (hb : ∀ t, f t ≤ 100000) : f_X9_lots_L194 (fun (y4 : Int32) (τ : SS) => some (y4, τ)) FU 143 0 0 σ = some (nI (cnt (fun t => decide (0 < f t)) R), σ) := by
  have := loop_fix (fun fu i => f_X9_lots_L194 (fun (y4 : Int32) (τ : SS) => some (y4, τ)) fu 143 (nI (cnt (fun t => decide (0 < f t)) i)) (nI i) σ) (some (nI (cnt (fun t => decide (0 < f t)) R), σ)) R
    (fun fu => by
      simp only [f_X9_lots_L194]
      rw [h, if_pos ((le_nI (by omega) (by omega)).mpr (Nat.le_refl _))])
    (fun fu i hi => by
      have hbi := hb i
      simp (disch := omega) only [f_X9_lots_L194, RM, LN, cl_nI, ck_i, hf i hi, ol_add, h, le_nI0]
      rw [if_neg (show ¬ nI R ≤ nI i by rw [le_nI (by omega) (by omega)]; omega)]
      by_cases e : f i ≤ 0
      · rw [if_pos e, cnt_no (p := fun t => decide (0 < f t)) (by rw [decide_eq_true_eq]; omega)]
      · rw [if_neg e, cnt_yes (p := fun t => decide (0 < f t)) (by rw [decide_eq_true_eq]; omega)])
    (fu := FU) (i := 0) (by omega) (FU_big (by omega))
  exact this
theorem pc_lots_ok : pc_lots Rel := by
  rintro σ c1 z c3 ⟨A, hx, hm, hw⟩
  have hR := hw.1.2.1
  have hR3 := hw.1.1
  have hN := hw.1.2.2.1
  by_cases t1 : 1 ≤ c1
  case neg =>
    refine both_ref (-4) 4 hx hm hw (fun τ h => ?_) (fun τ h => ?_)
    · unfold f_X8_lots
      simp only [if_neg t1, x_ref, Option.bind_some]
    · unfold f_X9_lots
      simp only [if_neg t1, m_ref, Option.bind_some]
  by_cases t2 : c1 ≤ 50
  case neg =>
    refine both_ref (-6) 6 hx hm hw (fun τ h => ?_) (fun τ h => ?_)
    · unfold f_X8_lots
      simp only [if_pos t1, if_neg t2, x_ref, Option.bind_some]
    · unfold f_X9_lots
      simp only [if_pos t1, if_neg t2, m_ref, Option.bind_some]
  obtain ⟨n, hn, rfl⟩ : ∃ n, n ≤ 50 ∧ c1 = nI n := by
    rcases ix_cases c1 (n := 51) (by omega) with (q | q) | ⟨j, hj, rfl⟩
    · exact absurd t1 (Int32.not_le.mpr (neg_i q (k := 1) (by omega)).1)
    · exact absurd t2 (big_i q (show 50 < 51 by omega) (by omega)).2.1
    · exact ⟨j, by omega, rfl⟩
  by_cases h2 : c3 = 0 ∨ c3 = 1
  case neg =>
    have h2 := (two_ok c3).2 h2
    refine both_ref (-2) 2 hx hm hw (fun τ h => ?_) (fun τ h => ?_)
    · unfold f_X8_lots
      simp only [if_pos t1, if_pos t2, h2, if_true, x_ref, Option.bind_some]
    · unfold f_X9_lots
      simp only [if_pos t1, if_pos t2, h2, if_true, m_ref, Option.bind_some]
  have h3 := (two_ok c3).1 h2
  by_cases hr : rN A.1 = 0
  · refine both_ref (-3) 3 hx hm hw (fun τ h => ?_) (fun τ h => ?_)
    · have e : τ.1 1 1 = 0 := by rw [h.1.2.1, hr]; rfl
      unfold f_X8_lots
      simp only [RD, if_pos t1, if_pos t2, h3, if_neg one0, e, if_true, x_ref, Option.bind_some]
    · have e : τ.1 143 3 = 0 := by rw [h.1.2.1, hr]; rfl
      unfold f_X9_lots
      simp only [if_pos t1, if_pos t2, h3, if_neg one0, e, if_true, m_ref, Option.bind_some]
  have hr1 : 1 ≤ rN A.1 := by omega
  have nz : ¬ nI (rN A.1) = 0 := by rw [eq_nI0 (by omega)]; exact hr
  have hx' : ∀ τ, XH A τ → ∃ τ', f_X6_castLots 128 1 (nI n) z τ = some τ' ∧ LI 129 134 A.1 200 (lotN A.1 z (lt0 A.1) n).2 τ' ∧ FX τ τ' := fun τ h => by
    obtain ⟨s, f1, f2, f3, f4, f5⟩ := x_begin h.1 hN
    have hX : X1 A.1 s := X1.of hN h.1 (fun q j _ _ => f5 q j (by omega) (by omega) (by omega))
    obtain ⟨s', g1, g2, g3⟩ := x_lots11 (z := z) hX hw.1 hr1 hn ⟨fun i hi => ⟨f2 i hi, (hw.1.2.2.2.2.2 i hi).2.2.2.2.2.2.1⟩, fun t ht => f3 t (by omega), fun _ => Nat.le_refl _⟩
    refine ⟨s', ?_, g2, fun q j hq => ?_⟩
    · unfold f_X6_castLots
      rw [f1, Option.bind_some, g1]
    · unfold SX at hq
      rw [g3 q j (by omega) (by omega), f5 q j (by omega) (by omega) (by omega)]
  have hm' : ∀ τ, MH A τ → ∀ κ : Nat → Int32 → SS → Option (Int32 × SS), ∃ τ', (f_X9_starts 143 (sI τ 143 37 z)).bind (fun z5 => f_X9_lots_L67 (fun (p0 : Nat) (y1 : Int32) (y3 : Int32) (τ : SS) => f_X9_lots_L93 κ FU p0 y1 y3 0 τ) FU 143 (nI n) c3 0 z5) = κ 143 c3 τ' ∧ LI 170 172 A.1 200 (lotN A.1 z (lt0 A.1) n).2 τ' ∧ FM τ τ' ∧ τ'.1 143 0 = nI (rT A.1) := fun τ h κ => by
    have hM0 : M1 A.1 (sI τ 143 37 z) := M1.of hN h.1 (rI_j (by omega)) (rI_j (by omega)) (fun q j _ _ => rI_q (by omega))
    obtain ⟨s, f1, f2, f3⟩ := m_starts hM0 hN
    obtain ⟨s2, g1, g2, g3⟩ := m_lots67 (σ := s) (x1 := nI n) (x3 := c3) (κ := fun (p0 : Nat) (y1 : Int32) (y3 : Int32) (τ : SS) => f_X9_lots_L93 κ FU p0 y1 y3 0 τ) ((f3 _ _ (by omega)).trans hM0.1) hR
    have hM2 : M1 A.1 s2 := M1.of hN hM0 (by rw [g3 _ _ (by omega), f3 _ _ (by omega)]) (by rw [g3 _ _ (by omega), f3 _ _ (by omega)]) (fun q j _ _ => by rw [g3 _ _ (by omega), f3 _ _ (by omega)])
    obtain ⟨s3, k1, k2, k3⟩ := m_lots93 (σ := s2) (what := c3) (κ := κ) hM2 hw.1 hr1 hn (show s2.1 143 37 = z by rw [g3 _ _ (by omega), f3 _ _ (by omega), rI_s]) ⟨fun i hi => ⟨(g3 _ _ (by omega)).trans (f2 i hi), (hw.1.2.2.2.2.2 i hi).2.2.2.2.2.2.1⟩, fun t ht => g2 t ht, fun _ => Nat.le_refl _⟩
    refine ⟨s3, ?_, k2, fun q j hq => ?_, (k3 _ _ (by omega) (by omega) (by omega)).trans hM2.1⟩
    · rw [f1, Option.bind_some, g1, k1]
    · unfold SM at hq
      rw [k3 q j (by omega) (by omega) (by omega), g3 q j (by omega), f3 q j (by omega), rI_i, if_neg (by omega)]
  rcases h2 with rfl | rfl
  · refine both_same (nI (cnt (fun t => decide (0 < (lotN A.1 z (lt0 A.1) n).2.2 t)) (rT A.1))) hx hm hw (fun τ h => ?_) (fun τ h => ?_)
    · obtain ⟨τ', f1, f2, f3⟩ := hx' τ h
      refine ⟨τ', ?_, f3⟩
      have e0 : τ'.1 1 0 = nI (rT A.1) := (f3 1 0 (by unfold SX; omega)).trans h.1.1
      have e1 := x_placesOf (q := 134) (n := rT A.1) (v := 0) f2.2.1 (fun i => by have := f2.2.2 i; omega) (by simp only [LN]; omega) (by simp only [LN]; omega) (by omega)
      have e2 := cnt_not (fun t => decide (0 < (lotN A.1 z (lt0 A.1) n).2.2 t)) (fun i => decide ((lotN A.1 z (lt0 A.1) n).2.2 i = 0)) (rT A.1) (fun i _ => by rw [decide_eq_true_eq, decide_eq_true_eq]; omega)
      unfold f_X8_lots
      simp only [RD, if_pos t1, if_pos t2, h3, if_neg one0, h.1.2.1, if_neg nz, f1, Option.bind_some, if_true, e0]
      rw [show f_X2_placesOf 0 134 (nI (rT A.1)) τ' = _ from e1, Option.bind_some, sub_nI (by omega)]
      congr 3
      omega
    · obtain ⟨τ', f1, f2, f3, f4⟩ := hm' τ h _
      refine ⟨τ', ?_, f3⟩
      unfold f_X9_lots
      simp only [if_pos t1, if_pos t2, h3, if_neg one0, h.1.2.1, if_neg nz]
      refine f1.trans ?_
      rw [if_neg z1]
      exact m_lots194 f4 hR f2.2.1 (fun t => by have := f2.2.2 t; omega)
  · refine both_same (nI ((lotN A.1 z (lt0 A.1) n).2.2 0)) hx hm hw (fun τ h => ?_) (fun τ h => ?_)
    · obtain ⟨τ', f1, f2, f3⟩ := hx' τ h
      refine ⟨τ', ?_, f3⟩
      have e1 := f2.2.1 0 (by omega)
      unfold f_X8_lots
      simp (disch := omega) only [RD, LN, if_pos t1, if_pos t2, h3, if_neg one0, h.1.2.1, if_neg nz, f1, Option.bind_some, cl_0, ck_0, e1]
    · obtain ⟨τ', f1, f2, f3, f4⟩ := hm' τ h _
      refine ⟨τ', ?_, f3⟩
      have e1 := f2.2.1 0 (by omega)
      unfold f_X9_lots
      simp only [if_pos t1, if_pos t2, h3, if_neg one0, h.1.2.1, if_neg nz]
      refine f1.trans ?_
      simp (disch := omega) only [if_true, RM, LN, cl_0, ck_0, e1]
