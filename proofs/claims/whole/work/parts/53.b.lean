/-! fits, kinds -/
theorem tells_all {R n : Nat} {f : Nat → Int32} (hR : R ≤ 60) (h : ¬ fstF (fun i => !tth R (f i)) 0 n < n) : ∀ i, i < n → f i = nI (f i).toNatClampNeg ∧ (f i).toNatClampNeg < R := by
  intro i hi
  have h1 := (fstF_spec (fun i => !tth R (f i)) n 0).2 i (by omega) (by omega)
  refine tth_yes hR ?_
  cases q : tth R (f i) with
  | true => rfl
  | false => exact absurd (by rw [q]; decide) h1
def fbF (p : Nat → Bool) : Nat → Int64
  | 0 => 0
  | i + 1 => if p i = true then fbF p i ||| ((1 : Int64) <<< ((nI i).toInt64 &&& 63)) else fbF p i
def kbF (p : Nat → Bool) : Nat → Int32
  | 0 => 0
  | i + 1 => if p i = true then kbF p i ||| ((1 : Int32) <<< (nI i &&& 31)) else kbF p i
theorem fbF_yes {p : Nat → Bool} {i : Nat} (h : p i = true) : fbF p (i + 1) = fbF p i ||| ((1 : Int64) <<< ((nI i).toInt64 &&& 63)) := if_pos h
theorem fbF_no {p : Nat → Bool} {i : Nat} (h : ¬ p i = true) : fbF p (i + 1) = fbF p i := if_neg h
theorem kbF_yes {p : Nat → Bool} {i : Nat} (h : p i = true) : kbF p (i + 1) = kbF p i ||| ((1 : Int32) <<< (nI i &&& 31)) := if_pos h
theorem kbF_no {p : Nat → Bool} {i : Nat} (h : ¬ p i = true) : kbF p (i + 1) = kbF p i := if_neg h
theorem x_set135 (k W f : Nat) (σ : SS) : ∃ s, f_X7_set 135 (nI k) (nI W) (nI f) 0 1 σ = some s ∧ s.1 135 0 = nI k ∧ s.1 135 1 = nI W ∧ s.1 135 2 = nI f ∧ s.1 135 4 = 0 ∧ ∀ q j, ¬ q = 135 → s.1 q j = σ.1 q j := by
  refine ⟨_, rfl, ?_, ?_, ?_, ?_, fun q j hq => ?_⟩
  all_goals simp (disch := omega) only [rI_s, rI_j, rI_q]
def fsP (R : Nat) (wn : Nat → Nat) (g : Nat → Nat) (n k fg : Nat) (W : Nat) : Bool := decide (1 ≤ W) && ld R wn g n k W fg
theorem x_fits99 {τ : SS} {ρ : RG} {l n k fg : Nat} {f : Nat → Int32} {g : Nat → Nat} (hl : l < 3) (hn : n ≤ 40) (h : X1 ρ τ) (hw : WR ρ) (hk : k ≤ 5) (hfg : fg ≤ 9) (e : τ.1 (137 + 2 * l) 0 = nI n) (hf : ∀ i, i < 40 → τ.1 (138 + 2 * l) i = f i) (hg : ∀ i, i < n → f i = nI (g i) ∧ g i < rT ρ) :
    ∃ s, f_X8_fits_L99 (fun (y5 : Int64) (τ : SS) => some (y5, τ)) FU 0 (nI k) (nI fg) (137 + 2 * l) 0 1 τ = some (fbF (fsP (rT ρ) (rW ρ) g n k fg) (rT ρ), s) ∧ FX τ s := by
  have hR := hw.2.1
  have hR3 := hw.1
  have hN := hw.2.2.1
  obtain ⟨s, h1, e⟩ := loop_eq (fun fu i (s : SS) => f_X8_fits_L99 (fun (y5 : Int64) (τ : SS) => some (y5, τ)) fu 0 (nI k) (nI fg) (137 + 2 * l) (fbF (fsP (rT ρ) (rW ρ) g n k fg) i) (nI i) s) (fun s => some (fbF (fsP (rT ρ) (rW ρ) g n k fg) (rT ρ), s)) (rT ρ) (fun i s => FX τ s ∧ 1 ≤ i)
    (fun fu s hI => by
      simp only [f_X8_fits_L99, RD]
      rw [hI.1 1 0 (by unfold SX; omega), h.1, if_pos ((le_nI (by omega) (by omega)).mpr (Nat.le_refl _))])
    (fun fu i s hi hI => by
      obtain ⟨hI, hi1⟩ := hI
      obtain ⟨s', g0, g1, g2, g3, g4, g5⟩ := x_set135 k i fg s
      have hF : FX τ s' := fun q j hq => (g5 q j (by unfold SX at hq; omega)).trans (hI q j hq)
      have hX : X1 ρ s' := X1.of hN h (fun q j _ _ => hF q j (by unfold SX; omega))
      have hld := x_leads hl hn hX hw g1 g2 g3 hk hi hfg ((hF _ _ (by unfold SX; omega)).trans e) (fun i hi => (hF _ _ (by unfold SX; omega)).trans (hf i hi)) hg
      refine ⟨s', ⟨hF, by omega⟩, ?_⟩
      simp only [f_X8_fits_L99, RD]
      rw [hI 1 0 (by unfold SX; omega), h.1, if_neg (show ¬ nI (rT ρ) ≤ nI i by rw [le_nI (by omega) (by omega)]; omega), g0, Option.bind_some, hld, Option.bind_some]
      by_cases q : ld (rT ρ) (rW ρ) g n k i fg = true
      · rw [if_pos q, if_neg one0, fbF_yes (show fsP (rT ρ) (rW ρ) g n k fg i = true by unfold fsP; rw [q, decide_eq_true hi1]; rfl), ol_add]
      · rw [if_neg q, if_pos rfl, fbF_no (show ¬ fsP (rT ρ) (rW ρ) g n k fg i = true by unfold fsP; rw [Bool.not_eq_true] at q; rw [q, Bool.and_false]; decide), ol_add])
    (fu := FU) (i := 1) (s := τ) (by omega) (FU_big (by omega)) ⟨fun _ _ _ => rfl, by omega⟩
  exact ⟨s, e, h1.1⟩
theorem m_fits87 {τ : SS} {R : Nat} {wn : Nat → Nat} {l n k fg : Nat} {f : Nat → Int32} {g : Nat → Nat} (hl : l < 3) (hn : n ≤ 40) (h : MN R wn τ) (hR3 : 3 ≤ R) (hk : k ≤ 5) (hfg : fg ≤ 9) (e : τ.1 154 l = nI n) (hf : ∀ i, i < 40 → τ.1 153 (40 * l + i) = f i) (hg : ∀ i, i < n → f i = nI (g i) ∧ g i < R) :
    f_X9_fits_L87 (fun (y4 : Int64) (τ : SS) => some (y4, τ)) FU 143 (nI l) (nI k) (nI fg) 0 1 τ = some (fbF (fsP R wn g n k fg) R, τ) := by
  have hR := h.2.2.2.2
  obtain ⟨s, h1, e⟩ := loop_eq (fun fu i (s : Unit) => f_X9_fits_L87 (fun (y4 : Int64) (τ : SS) => some (y4, τ)) fu 143 (nI l) (nI k) (nI fg) (fbF (fsP R wn g n k fg) i) (nI i) τ) (fun s => some (fbF (fsP R wn g n k fg) R, τ)) R (fun i s => 1 ≤ i)
    (fun fu s hI => by
      simp only [f_X9_fits_L87]
      rw [h.1, if_pos ((le_nI (by omega) (by omega)).mpr (Nat.le_refl _))])
    (fun fu i s hi hI => by
      have hld := m_drawnP (k := k) (W := i) (fg := fg) hl hn h hk hi hfg e hf hg
      refine ⟨(), by omega, ?_⟩
      simp only [f_X9_fits_L87]
      rw [h.1, if_neg (show ¬ nI R ≤ nI i by rw [le_nI (by omega) (by omega)]; omega), hld, Option.bind_some]
      by_cases q : ld R wn g n k i fg = true
      · rw [if_pos q, if_neg one0, fbF_yes (show fsP R wn g n k fg i = true by unfold fsP; rw [q, decide_eq_true hI]; rfl), ol_add]
      · rw [if_neg q, if_pos rfl, fbF_no (show ¬ fsP R wn g n k fg i = true by unfold fsP; rw [Bool.not_eq_true] at q; rw [q, Bool.and_false]; decide), ol_add])
    (fu := FU) (i := 1) (s := ()) (by omega) (FU_big (by omega)) (by omega)
  exact e
theorem pc_fits_ok : pc_fits Rel := by
  rintro σ c1 c2 c3 ⟨A, hx, hm, hw⟩
  have hR := hw.1.2.1
  have hR3 := hw.1.1
  have hN := hw.1.2.2.1
  rcases ix_cases c1 (n := 3) (by omega) with hb | ⟨l, hl, rfl⟩
  · refine both_ref 4000000000000000001 1 hx hm hw (fun τ h => ?_) (fun τ h => ?_)
    · unfold f_X8_fits
      simp only [x_row_bad τ hb, Option.bind_some, x_refL]
    · unfold f_X9_fits
      simp only [m_list_bad hb, if_true, m_refL, Option.bind_some]
  rcases ix_cases c2 (n := 6) (by omega) with hb | ⟨k, hk, rfl⟩
  · refine both_ref 4000000000000000002 2 hx hm hw (fun τ h => ?_) (fun τ h => ?_)
    · unfold f_X8_fits
      simp only [x_row τ hl, Option.bind_some]
      by_cases q0 : c2 < 0
      · rw [if_pos q0]
        simp only [x_refL, Option.bind_some]
      · have q7 : ¬ c2 < 6 := by
          rcases hb with hb | hb
          · exact absurd hb q0
          · exact Int32.not_lt.mpr hb
        rw [if_neg q0, if_neg q7]
        simp only [x_refL, Option.bind_some]
    · unfold f_X9_fits
      rw [m_list hl, if_neg one0, show f_X9_within c2 0 5 = 0 from within_bad (n := 5) hb (by omega), if_pos rfl]
      simp only [m_refL, Option.bind_some]
  have k1 : ¬ nI k < 0 := nlt_m (by omega)
  have k2 : nI k < 6 := by rw [fa_lit 6, lt_nI (by omega) (by omega)]; exact hk
  have k3 : f_X9_within (nI k) 0 5 = 1 := within_ok (a := 0) (b := 5) (by omega) (by omega) (by omega)
  by_cases t1 : 0 ≤ c3
  case neg =>
    refine both_ref 4000000000000000004 4 hx hm hw (fun τ h => ?_) (fun τ h => ?_)
    · unfold f_X8_fits
      simp only [x_row τ hl, Option.bind_some, if_neg k1, if_pos k2, if_neg t1, x_refL]
    · unfold f_X9_fits
      simp only [m_list hl, if_neg one0, k3, if_neg t1, m_refL, Option.bind_some]
  by_cases t2 : c3 ≤ 9
  case neg =>
    refine both_ref 4000000000000000006 6 hx hm hw (fun τ h => ?_) (fun τ h => ?_)
    · unfold f_X8_fits
      simp only [x_row τ hl, Option.bind_some, if_neg k1, if_pos k2, if_pos t1, if_neg t2, x_refL]
    · unfold f_X9_fits
      simp only [m_list hl, if_neg one0, k3, if_pos t1, if_neg t2, m_refL, Option.bind_some]
  obtain ⟨fg, hfg, rfl⟩ : ∃ fg, fg ≤ 9 ∧ c3 = nI fg := by
    rcases ix_cases c3 (n := 10) (by omega) with (q | q) | ⟨j, hj, rfl⟩
    · exact absurd t1 (Int32.not_le.mpr q)
    · exact absurd t2 (big_i q (show 9 < 10 by omega) (by omega)).2.1
    · exact ⟨j, by omega, rfl⟩
  rcases hw.2.2.2.2 l hl with hs | ⟨n, hn, hs⟩
  · refine both_same 4000000000000000011 hx hm hw (fun τ h => ⟨τ, ?_, fun _ _ _ => rfl⟩) (fun τ h => ⟨τ, ?_, fun _ _ _ => rfl⟩)
    · have e := (h.2.2.2.2.1 l hl).1.trans hs
      unfold f_X8_fits f_X5_isMissing
      simp only [x_row τ hl, Option.bind_some, if_neg k1, if_pos k2, if_pos t1, if_pos t2, e, if_neg mone, if_neg one0, x_refL]
    · have e := (h.2.2.2.2.1 l hl).1.trans hs
      unfold f_X9_fits
      simp (disch := omega) only [m_list hl, if_neg one0, k3, if_pos t1, if_pos t2, RM, LN, cl_nI, ck_i, e, if_neg mone]
  have p0 : (0 : Int32) ≤ nI n := nI_pos' (by omega)
  by_cases q : fstF (fun i => !tth (rT A.1) (A.2.2.2.2.1.2 l i)) 0 n < n
  · refine both_ref 4000000000000000003 3 hx hm hw (fun τ h => ?_) (fun τ h => ?_)
    · have e := (h.2.2.2.2.1 l hl).1.trans hs
      have e1 := x_tells hl hn hR h.1.1 e (h.2.2.2.2.1 l hl).2
      rw [if_pos q] at e1
      unfold f_X8_fits f_X5_isMissing
      simp only [RD, x_row τ hl, Option.bind_some, if_neg k1, if_pos k2, if_pos t1, if_pos t2, e, if_pos p0, if_true, e1, x_refL]
    · have e := (h.2.2.2.2.1 l hl).1.trans hs
      have e1 := m_others hl hn hR h.1.1 e (h.2.2.2.2.1 l hl).2
      rw [if_pos q] at e1
      unfold f_X9_fits
      simp (disch := omega) only [m_list hl, if_neg one0, k3, if_pos t1, if_pos t2, RM, LN, cl_nI, ck_i, e, if_pos p0, e1, Option.bind_some, m_refL]
  have hg := tells_all hR q
  refine both_same (fbF (fsP (rT A.1) (rW A.1) (fun i => (A.2.2.2.2.1.2 l i).toNatClampNeg) n k fg) (rT A.1)) hx hm hw (fun τ h => ?_) (fun τ h => ?_)
  · have e := (h.2.2.2.2.1 l hl).1.trans hs
    have e1 := x_tells hl hn hR h.1.1 e (h.2.2.2.2.1 l hl).2
    rw [if_neg q] at e1
    obtain ⟨s, f1, f2⟩ := x_fits99 (k := k) (fg := fg) hl hn h.1 hw.1 (by omega) hfg e (h.2.2.2.2.1 l hl).2 hg
    refine ⟨s, ?_, f2⟩
    unfold f_X8_fits f_X5_isMissing
    simp only [RD, x_row τ hl, Option.bind_some, if_neg k1, if_pos k2, if_pos t1, if_pos t2, e, if_pos p0, if_true, e1, if_neg one0, f1]
  · have e := (h.2.2.2.2.1 l hl).1.trans hs
    have e1 := m_others hl hn hR h.1.1 e (h.2.2.2.2.1 l hl).2
    rw [if_neg q] at e1
    refine ⟨τ, ?_, fun _ _ _ => rfl⟩
    have f1 := m_fits87 (k := k) (fg := fg) hl hn (h.1.mn hw.1) hR3 (by omega) hfg e (h.2.2.2.2.1 l hl).2 hg
    unfold f_X9_fits
    simp (disch := omega) only [m_list hl, if_neg one0, k3, if_pos t1, if_pos t2, RM, LN, cl_nI, ck_i, e, if_pos p0, e1, Option.bind_some, if_true, f1]
