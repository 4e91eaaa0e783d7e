/-! mirror: the model's rows of bits -/
theorem lb_ext {a b : Int64} (h : ∀ y, lb a y = lb b y) : a = b := by
  apply Int64.toBitVec_inj.mp
  apply BitVec.eq_of_getLsbD_eq
  intro i _
  exact h i
theorem lb_sm : ∀ j, j < 64 → (((nI j).toInt64 &&& 63).toBitVec.smod 64).toNat = j := by decide +kernel
theorem lb_s {w : Int64} {j : Nat} (hj : j < 64) : ((w >>> ((nI j).toInt64 &&& 63)) &&& 1) = 1 ↔ lb w j = true := by
  have e : (w >>> ((nI j).toInt64 &&& 63)).toBitVec = w.toBitVec.sshiftRight j := by
    rw [Int64.toBitVec_shiftRight]
    show w.toBitVec.sshiftRight (((nI j).toInt64 &&& 63).toBitVec.smod 64).toNat = _
    rw [lb_sm j hj]
  rw [← Int64.toBitVec_inj, Int64.toBitVec_and, e]
  show w.toBitVec.sshiftRight j &&& 1#64 = 1#64 ↔ w.toBitVec.getLsbD j = true
  have g0 : (w.toBitVec.sshiftRight j).getLsbD 0 = w.toBitVec.getLsbD j := by
    rw [BitVec.getLsbD_sshiftRight, Nat.add_zero, if_pos hj]
    simp
  constructor
  · intro h
    have t := congrArg (fun x => x.getLsbD 0) h
    simp only [BitVec.getLsbD_and, g0] at t
    simpa using t
  · intro h
    apply BitVec.eq_of_getLsbD_eq
    intro i hi
    rw [BitVec.getLsbD_and]
    cases i with
    | zero => rw [g0, h]; rfl
    | succ i => simp
theorem sL_g {σ : SS} {q j a b : Nat} {v : Int64} : (sL σ q j v).2 a b = if a = q ∧ b = j then v else σ.2 a b := by
  by_cases h : a = q <;> by_cases h2 : b = j <;> simp [sL, h, h2]
theorem m_joined {q R A T : Nat} {bg : Nat → Nat} {σ : SS} (hq : q = 164 ∨ q = 165) (h0 : σ.1 143 0 = nI R) (hR : R ≤ 60) (hA : A ≤ 60) (hb : ∀ i, bg i < R) (h : DrM R bg A T σ) : ∃ σ', f_X9_joined 143 q σ = some σ' ∧ (∀ t, t < R → ∀ u, lb (σ'.2 q t) u = LKb bg A t u) ∧ σ'.1 = σ.1 ∧ ∀ a j, ¬ a = q → σ'.2 a j = σ.2 a j := by
  have lq : ln q = 60 := by rcases hq with rfl | rfl <;> simp only [LN]
  obtain ⟨s1, ⟨a1, a2, a3⟩, e1⟩ := loop_eq (fun fu i (s : SS) => f_X9_joined_L2 (fun (p0 : Nat) (p1 : Nat) (τ : SS) => f_X9_joined_L22 (fun (τ : SS) => some τ) FU p0 p1 0 τ) fu 143 q (nI i) s) (fun s => f_X9_joined_L22 (fun (τ : SS) => some τ) FU 143 q 0 s) R (fun i s => (∀ t, t < i → s.2 q t = 0) ∧ s.1 = σ.1 ∧ ∀ a j, ¬ a = q → s.2 a j = σ.2 a j)
    (fun fu s hI => by
      simp only [f_X9_joined_L2]
      rw [hI.2.1, h0, if_pos ((le_nI (by omega) (by omega)).mpr (Nat.le_refl _))])
    (fun fu i s hi hI => by
      refine ⟨sL s q i 0, ⟨fun t ht => ?_, hI.2.1, fun a j ha => ?_⟩, ?_⟩
      · rw [sL_g]
        by_cases e : t = i
        · rw [if_pos ⟨rfl, e⟩]
        · rw [if_neg (fun z => e z.2)]
          exact hI.1 t (by omega)
      · rw [sL_g, if_neg (fun z => ha z.1)]
        exact hI.2.2 a j ha
      · simp (disch := omega) only [f_X9_joined_L2, lq, cl_nI, ck_i, ol_add]
        rw [hI.2.1, h0, if_neg (show ¬ nI R ≤ nI i by rw [le_nI (by omega) (by omega)]; omega)])
    (fu := FU) (i := 0) (s := σ) (by omega) (FU_big (by omega)) ⟨fun t ht => by omega, rfl, fun _ _ _ => rfl⟩
  obtain ⟨s2, ⟨b1, b2, b3⟩, e2⟩ := loop_eq (fun fu i (s : SS) => f_X9_joined_L22 (fun (τ : SS) => some τ) fu 143 q (nI i) s) (fun s => some s) A (fun i s => (∀ t, t < R → ∀ u, lb (s.2 q t) u = LKb bg i t u) ∧ s.1 = σ.1 ∧ ∀ a j, ¬ a = q → s.2 a j = σ.2 a j)
    (fun fu s hI => by
      simp only [f_X9_joined_L22]
      rw [hI.2.1, h.1, if_pos ((le_nI (by omega) (by omega)).mpr (Nat.le_refl _))])
    (fun fu i s hi hI => by
      obtain ⟨i1, i2, i3⟩ := hI
      have c1 := hb i
      have c2 := hb (i + 1)
      have k1 : s.1 159 i = nI (bg i) := by rw [i2]; exact (h.2.2.1 i hi).1
      have k2 : s.1 160 i = nI (bg (i + 1)) := by rw [i2]; exact (h.2.2.1 i hi).2
      have k3 : s.1 143 23 = nI A := by rw [i2]; exact h.1
      refine ⟨sL (sL s q (bg i) (s.2 q (bg i) ||| ((1 : Int64) <<< ((nI (bg (i + 1))).toInt64 &&& 63)))) q (bg (i + 1)) ((sL s q (bg i) (s.2 q (bg i) ||| ((1 : Int64) <<< ((nI (bg (i + 1))).toInt64 &&& 63)))).2 q (bg (i + 1)) ||| ((1 : Int64) <<< ((nI (bg i)).toInt64 &&& 63))), ⟨fun t ht u => ?_, i2, fun a j ha => ?_⟩, ?_⟩
      · rw [sL_g]
        unfold LKb
        by_cases q1 : t = bg (i + 1)
        · rw [if_pos ⟨rfl, q1⟩, lb_or (by omega), sL_g]
          by_cases q2 : bg (i + 1) = bg i
          · rw [if_pos ⟨rfl, q2⟩, lb_or (by omega), i1 _ c1, ← q2, ← q1]
            simp
          · rw [if_neg (fun z => q2 z.2), i1 _ c2, ← q1, decide_eq_false (show ¬ bg i = t by rw [q1]; exact fun z => q2 z.symm)]
            simp
        · rw [if_neg (fun z => q1 z.2), sL_g, decide_eq_false (show ¬ bg (i + 1) = t from fun z => q1 z.symm), Bool.and_false, Bool.or_false]
          by_cases q2 : t = bg i
          · rw [if_pos ⟨rfl, q2⟩, lb_or (by omega), i1 _ c1, ← q2]
            simp
          · rw [if_neg (fun z => q2 z.2), i1 t ht, decide_eq_false (show ¬ bg i = t from fun z => q2 z.symm)]
            simp
      · rw [sL_g, if_neg (fun z => ha z.1), sL_g, if_neg (fun z => ha z.1)]
        exact i3 a j ha
      · simp (disch := omega) only [f_X9_joined_L22, RM, LN, lq, rL_1, cl_nI, ck_i, k1, k2, k3, ol_add]
        rw [if_neg (show ¬ nI A ≤ nI i by rw [le_nI (by omega) (by omega)]; omega)])
    (fu := FU) (i := 0) (s := s1) (by omega) (FU_big (by omega)) ⟨fun t ht u => by rw [a1 t ht, lb_0]; rfl, a2, a3⟩
  refine ⟨s2, ?_, b1, b2, b3⟩
  unfold f_X9_joined
  exact e1.trans e2
def wm (what : Int32) (mi : Bool) : Prop := (what = 0 ∧ mi = true) ∨ (what = 1 ∧ mi = false)
theorem m_taken {σ : SS} {R c t : Nat} {what : Int32} {mi : Bool} (h0 : σ.1 143 0 = nI R) (hR1 : 1 ≤ R) (hR : R ≤ 60) (hc : c < R) (ht : t < R) (hw : wm what mi) : f_X9_taken 143 (nI t) (nI c) what σ = some (nI (tk R mi c t)) := by
  have hz : ¬ nI R = 0 := by rw [eq_nI0 (by omega)]; omega
  unfold f_X9_taken
  rcases hw with ⟨rfl, rfl⟩ | ⟨rfl, rfl⟩
  · rw [if_pos rfl, h0, ck_pos hz, sub_add3 (by omega), rem_nI (by omega) (by omega) (by omega)]
    rfl
  · rw [if_neg one0, h0, ck_pos hz, nI_add, rem_nI (by omega) (by omega) (by omega)]
    rfl
def bF (p : Nat → Bool) (f : Nat → Nat) : Nat → Nat → Bool
  | 0, _ => false
  | i + 1, y => bF p f i y || (p i && decide (f i = y))
theorem bF_iff {p : Nat → Bool} {f : Nat → Nat} {y : Nat} : ∀ n, bF p f n y = true ↔ ∃ i, i < n ∧ p i = true ∧ f i = y
  | 0 => ⟨fun h => (Bool.false_ne_true h).elim, fun ⟨i, h, _⟩ => absurd h (by omega)⟩
  | n + 1 => by
    unfold bF
    rw [Bool.or_eq_true, bF_iff n, Bool.and_eq_true, decide_eq_true_eq]
    constructor
    · rintro (⟨i, hi, h⟩ | h)
      · exact ⟨i, by omega, h⟩
      · exact ⟨n, by omega, h⟩
    · rintro ⟨i, hi, h⟩
      by_cases e : i = n
      · subst e; exact Or.inr h
      · exact Or.inl ⟨i, by omega, h⟩
theorem m_such16 {σ : SS} {R c t : Nat} {what : Int32} {mi : Bool} {p : Nat → Bool} {κ : Nat → Int32 → Int32 → Int32 → Int64 → SS → Option (Int32 × SS)} (h0 : σ.1 143 0 = nI R) (hR1 : 1 ≤ R) (hR : R ≤ 60) (hc : c < R) (ht : t < R) (hw : wm what mi) (hp : ∀ u, lb (σ.2 164 t) u = p u) :
    ∃ B, f_X9_isSuch_L16 κ FU 143 (nI c) what (nI t) 0 0 σ = κ 143 (nI c) what (nI t) B σ ∧ ∀ y, lb B y = bF p (tk R mi c) R y := by
  obtain ⟨B, h1, e⟩ := loop_eq (fun fu i (s : Int64) => f_X9_isSuch_L16 κ fu 143 (nI c) what (nI t) s (nI i) σ) (fun s => κ 143 (nI c) what (nI t) s σ) R (fun i s => ∀ y, lb s y = bF p (tk R mi c) i y)
    (fun fu s _ => by
      simp only [f_X9_isSuch_L16]
      rw [h0, if_pos ((le_nI (by omega) (by omega)).mpr (Nat.le_refl _))])
    (fun fu i s hi hI => by
      have hk := tk_lt (R := R) (c := c) (t := i) (mi := mi) hR1
      have hs := lb_s (w := σ.2 164 t) (j := i) (by omega)
      simp (disch := omega) only [f_X9_isSuch_L16, RM, LN, cl_nI, ck_i, h0, lg0, m_taken h0 hR1 hR hc hi hw, Option.bind_some, ol_add]
      rw [if_neg (show ¬ nI R ≤ nI i by rw [le_nI (by omega) (by omega)]; omega)]
      by_cases q : p i = true
      · rw [if_pos (hs.mpr (by rw [hp]; exact q))]
        refine ⟨_, fun y => ?_, rfl⟩
        rw [lb_or (by omega), hI y]
        show _ = (bF p (tk R mi c) i y || (p i && decide (tk R mi c i = y)))
        rw [q, Bool.true_and]
      · rw [if_neg (fun z => q (by rw [← hp]; exact hs.mp z))]
        refine ⟨s, fun y => ?_, rfl⟩
        rw [hI y]
        show _ = (bF p (tk R mi c) i y || (p i && decide (tk R mi c i = y)))
        rw [Bool.not_eq_true] at q
        rw [q, Bool.false_and, Bool.or_false])
    (fu := FU) (i := 0) (s := 0) (by omega) (FU_big (by omega)) (fun y => lb_0 y)
  exact ⟨B, e, h1⟩
theorem m_such {σ : SS} {R c A1 A2 : Nat} {bg1 bg2 : Nat → Nat} {what : Int32} {mi : Bool} (h0 : σ.1 143 0 = nI R) (hR1 : 1 ≤ R) (hR : R ≤ 60) (hc : c < R) (hw : wm what mi) (hb2 : ∀ i, bg2 i < R) (h1 : ∀ t, t < R → ∀ u, lb (σ.2 164 t) u = LKb bg1 A1 t u) (h2 : ∀ t, t < R → ∀ u, lb (σ.2 165 t) u = LKb bg2 A2 t u) :
    ∃ (z : Int32) (σ' : SS), f_X9_isSuch 143 (nI c) what σ = some (z, σ') ∧ σ'.1 = σ.1 ∧ (∀ a j, ¬ a = 166 → σ'.2 a j = σ.2 a j) ∧ ((pM R mi bg1 bg2 A1 A2 c ∧ z = 1) ∨ (¬ pM R mi bg1 bg2 A1 A2 c ∧ z = 0)) := by
  obtain ⟨s, ⟨a1, a2, a3⟩, e⟩ := loop_eq (fun fu t (s : SS) => f_X9_isSuch_L2 (fun (p0 : Nat) (τ : SS) => f_X9_isSuch_L84 (fun (τ : SS) => some (1, τ)) FU p0 0 τ) fu 143 (nI c) what (nI t) s) (fun s => f_X9_isSuch_L84 (fun (τ : SS) => some (1, τ)) FU 143 0 s) R (fun t s => s.1 = σ.1 ∧ (∀ a j, ¬ a = 166 → s.2 a j = σ.2 a j) ∧ ∀ t', t' < t → ∀ y, lb (s.2 166 (tk R mi c t')) y = bF (fun u => LKb bg1 A1 t' u) (tk R mi c) R y)
    (fun fu s hI => by
      simp only [f_X9_isSuch_L2]
      rw [hI.1, h0, if_pos ((le_nI (by omega) (by omega)).mpr (Nat.le_refl _))])
    (fun fu t s ht hI => by
      obtain ⟨i1, i2, i3⟩ := hI
      have h0s : s.1 143 0 = nI R := by rw [i1]; exact h0
      have hk := tk_lt (R := R) (c := c) (t := t) (mi := mi) hR1
      obtain ⟨B, k1, k2⟩ := m_such16 (σ := s) (p := fun u => LKb bg1 A1 t u) (κ := fun (p0 : Nat) (y1 : Int32) (y2 : Int32) (y3 : Int32) (y4 : Int64) (τ : SS) => (f_X9_taken p0 y3 y1 y2 τ).bind fun z7 => ck (¬ (z7 < 0 ∨ ln (rid p0 30) ≤ z7.toNatClampNeg)) (f_X9_isSuch_L2 (fun (p0 : Nat) (τ : SS) => f_X9_isSuch_L84 (fun (τ : SS) => some (1, τ)) FU p0 0 τ) fu p0 y1 y2 (y3 + 1) (sL τ (rid p0 30) z7.toNatClampNeg y4))) h0s hR1 hR hc ht hw (fun u => by rw [i2 _ _ (by omega)]; exact h1 t ht u)
      refine ⟨sL s 166 (tk R mi c t) B, ⟨i1, fun a j ha => by rw [sL_g, if_neg (fun z => ha z.1)]; exact i2 a j ha, fun t' ht' y => ?_⟩, ?_⟩
      · rw [sL_g]
        by_cases q : t' = t
        · subst q
          rw [if_pos ⟨rfl, rfl⟩]
          exact k2 y
        · rw [if_neg (fun z => q (tk_inj hc (by omega) ht z.2))]
          exact i3 t' (by omega) y
      · simp only [f_X9_isSuch_L2]
        rw [h0s, if_neg (show ¬ nI R ≤ nI t by rw [le_nI (by omega) (by omega)]; omega), k1, m_taken h0s hR1 hR hc ht hw, Option.bind_some]
        simp (disch := omega) only [RM, LN, cl_nI, ck_i, ol_add])
    (fu := FU) (i := 0) (s := σ) (by omega) (FU_big (by omega)) ⟨rfl, fun _ _ _ => rfl, fun t' ht' => by omega⟩
  have h0s : s.1 143 0 = nI R := by rw [a1]; exact h0
  have r165 : ∀ t, t < R → ∀ u, lb (s.2 165 t) u = LKb bg2 A2 t u := fun t ht u => by rw [a2 _ _ (by omega)]; exact h2 t ht u
  have f84 := search (fun fu x => f_X9_isSuch_L84 (fun (τ : SS) => some (1, τ)) fu 143 (nI x) s) (fun x => decide (¬ s.2 166 x = s.2 165 x)) (fun _ => some (0, s)) (some (1, s)) R
    (fun fu => by
      simp only [f_X9_isSuch_L84]
      rw [h0s, if_pos ((le_nI (by omega) (by omega)).mpr (Nat.le_refl _))])
    (fun fu x hx => by
      simp (disch := omega) only [f_X9_isSuch_L84, RM, LN, cl_nI, ck_i, h0s, lg0, ol_add]
      rw [if_neg (show ¬ nI R ≤ nI x by rw [le_nI (by omega) (by omega)]; omega)]
      by_cases q : s.2 166 x = s.2 165 x
      · rw [if_pos q, if_neg (show ¬ decide (¬ s.2 166 x = s.2 165 x) = true from fun z => of_decide_eq_true z q)]
      · rw [if_neg q, if_pos (show decide (¬ s.2 166 x = s.2 165 x) = true from decide_eq_true q)])
    R 0 FU (by omega) (FU_big (by omega))
  have hf : f_X9_isSuch 143 (nI c) what σ = if fstF (fun x => decide (¬ s.2 166 x = s.2 165 x)) 0 R < R then some (0, s) else some (1, s) := by
    unfold f_X9_isSuch
    exact e.trans f84
  have hsp := fstF_spec (fun x => decide (¬ s.2 166 x = s.2 165 x)) R 0
  have rows : (∀ x, x < R → s.2 166 x = s.2 165 x) ↔ pM R mi bg1 bg2 A1 A2 c := by
    constructor
    · intro h t u ht hu
      have hk := tk_lt (R := R) (c := c) (t := t) (mi := mi) hR1
      rw [← r165 _ hk, ← h _ hk, a3 t ht, Bool.eq_iff_iff, bF_iff]
      constructor
      · intro q
        exact ⟨u, hu, q, rfl⟩
      · rintro ⟨u', hu', q, e⟩
        rw [tk_inj hc hu' hu e] at q
        exact q
    · intro h x hx
      obtain ⟨t, ht, rfl⟩ := tk_onto (mi := mi) hc hx
      apply lb_ext
      intro y
      rw [a3 t ht, r165 _ hx, Bool.eq_iff_iff, bF_iff]
      constructor
      · rintro ⟨u, hu, q, rfl⟩
        rw [← h t u ht hu]
        exact q
      · intro q
        have hy : y < R := by
          obtain ⟨i, hi, hs⟩ := (LKb_iff A2).mp q
          have c1 := hb2 i
          have c2 := hb2 (i + 1)
          unfold SP at hs
          omega
        obtain ⟨u, hu, rfl⟩ := tk_onto (mi := mi) hc hy
        refine ⟨u, hu, ?_, rfl⟩
        rw [h t u ht hu]
        exact q
  by_cases q : fstF (fun x => decide (¬ s.2 166 x = s.2 165 x)) 0 R < R
  · rw [if_pos q] at hf
    refine ⟨0, s, hf, a1, a2, Or.inr ⟨fun hp => ?_, rfl⟩⟩
    exact of_decide_eq_true (hsp.1 (by omega)) (rows.mpr hp _ q)
  · rw [if_neg q] at hf
    refine ⟨1, s, hf, a1, a2, Or.inl ⟨rows.mp (fun x hx => ?_), rfl⟩⟩
    apply Classical.byContradiction
    intro hn
    exact hsp.2 x (by omega) (by omega) (decide_eq_true hn)
