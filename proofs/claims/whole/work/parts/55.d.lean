def mtB (P : Nat → Bool) (pos : Nat → Nat) (N t : Nat) : Bool := decide (2 ≤ cnt (fun w => P w && decide (pos w = t)) N)
theorem mtB_iff {P : Nat → Bool} {pos : Nat → Nat} {N t : Nat} : mtB P pos N t = true ↔ ∃ a b, a < b ∧ b < N ∧ mm P pos a b ∧ pos a = t := by
  unfold mtB
  rw [decide_eq_true_eq, cnt2]
  simp only [Bool.and_eq_true, decide_eq_true_eq]
  constructor
  · rintro ⟨a, b, h1, h2, ⟨h3, h4⟩, h5, h6⟩
    exact ⟨a, b, h1, h2, ⟨h3, h5, h4.trans h6.symm⟩, h4⟩
  · rintro ⟨a, b, h1, h2, ⟨h3, h4, h5⟩, h6⟩
    exact ⟨a, b, h1, h2, ⟨h3, h6⟩, h4, h5.symm.trans h6⟩
theorem meet_val {P : Nat → Bool} {pos : Nat → Nat} {N R : Nat} {o : Option Nat} (hN : N ≤ 6) (hPN : ∀ w, P w = true → w < N) (hpos : ∀ w, w < N → pos w < R) (h : MI P pos 6 0 o) : oI o = if fstF (mtB P pos N) 0 R < R then nI (fstF (mtB P pos N) 0 R) else -9 := by
  have hs := fstF_spec (mtB P pos N) R 0
  have hle := fstF_le (mtB P pos N) R 0
  cases o with
  | none =>
    rw [if_neg (fun q => ?_)]
    · rfl
    · obtain ⟨a, b, h1, h2, h3, h4⟩ := mtB_iff.mp (hs.1 (by omega))
      obtain ⟨u, hu, _⟩ := h.2 a b h1 (by omega) h3 (by omega)
      cases hu
  | some u =>
    obtain ⟨a, b, h1, h2, h3, h4⟩ := h.1 u rfl
    have hb := hPN b h3.2.1
    have hu : mtB P pos N u = true := mtB_iff.mpr ⟨a, b, h1, hb, h3, h4⟩
    have huR := hpos a (by omega)
    have hf : fstF (mtB P pos N) 0 R ≤ u := fstF_hit (by omega) (by omega) hu
    rw [if_pos (by omega)]
    obtain ⟨a', b', k1, k2, k3, k4⟩ := mtB_iff.mp (hs.1 (by omega))
    obtain ⟨v, hv, hv2⟩ := h.2 a' b' k1 (by omega) k3 (by omega)
    cases hv
    show nI u = _
    congr 1
    omega
theorem m_meet67 {σ : SS} {P : Nat → Bool} {pos : Nat → Nat} {N t : Nat} {x1 x2 x3 : Int32} {κ : Nat → Int32 → Int32 → Int32 → Int32 → Int32 → SS → Option (Int32 × SS)} (h3 : σ.1 143 3 = nI N) (hN : N ≤ 6) (ht : t < 60) (hP : ∀ w, w < N → σ.1 171 w = if P w = true then 1 else 0) (hp : ∀ w, w < N → σ.1 170 w = nI (pos w) ∧ pos w < 60) :
    f_X9_meet_L67 κ FU 143 x1 x2 x3 (nI t) 0 0 σ = κ 143 x1 x2 x3 (nI t) (nI (cnt (fun w => P w && decide (pos w = t)) N)) σ := by
  have := loop_fix (fun fu i => f_X9_meet_L67 κ fu 143 x1 x2 x3 (nI t) (nI (cnt (fun w => P w && decide (pos w = t)) i)) (nI i) σ) (κ 143 x1 x2 x3 (nI t) (nI (cnt (fun w => P w && decide (pos w = t)) N)) σ) N
    (fun fu => by
      simp only [f_X9_meet_L67]
      rw [h3, if_pos ((le_nI (by omega) (by omega)).mpr (Nat.le_refl _))])
    (fun fu i hi => by
      obtain ⟨p1, p2⟩ := hp i hi
      simp (disch := omega) only [f_X9_meet_L67, RM, LN, cl_nI, ck_i, hP i hi, p1, h3, ol_add]
      rw [if_neg (show ¬ nI N ≤ nI i by rw [le_nI (by omega) (by omega)]; omega)]
      by_cases q : P i = true
      · rw [if_pos q, if_pos rfl]
        by_cases q2 : pos i = t
        · rw [if_pos (congrArg nI q2), cnt_yes (p := fun w => P w && decide (pos w = t)) (by rw [q, decide_eq_true q2]; rfl)]
        · rw [if_neg (fun z => q2 ((eq_nI (by omega) (by omega)).mp z)), cnt_no (p := fun w => P w && decide (pos w = t)) (by rw [decide_eq_false q2, Bool.and_false]; decide)]
      · rw [if_neg q, if_neg z1, cnt_no (p := fun w => P w && decide (pos w = t)) (by rw [Bool.not_eq_true] at q; rw [q, Bool.false_and]; decide)])
    (fu := FU) (i := 0) (by omega) (FU_big (by omega))
  exact this
theorem m_meet52 {σ : SS} {P : Nat → Bool} {pos : Nat → Nat} {N R : Nat} {x1 x2 x3 : Int32} {κ : Nat → Int32 → Int32 → Int32 → SS → Option (Int32 × SS)} (h0 : σ.1 143 0 = nI R) (h3 : σ.1 143 3 = nI N) (hN : N ≤ 6) (hR : R ≤ 60) (hP : ∀ w, w < N → σ.1 171 w = if P w = true then 1 else 0) (hp : ∀ w, w < N → σ.1 170 w = nI (pos w) ∧ pos w < R) :
    f_X9_meet_L52 κ FU 143 x1 x2 x3 0 σ = if fstF (mtB P pos N) 0 R < R then (if x2 = 0 then some (x3, σ) else some (nI (fstF (mtB P pos N) 0 R), σ)) else κ 143 x1 x2 x3 σ := by
  have := search (fun fu t => f_X9_meet_L52 κ fu 143 x1 x2 x3 (nI t) σ) (mtB P pos N) (fun t => if x2 = 0 then some (x3, σ) else some (nI t, σ)) (κ 143 x1 x2 x3 σ) R
    (fun fu => by
      simp only [f_X9_meet_L52]
      rw [h0, if_pos ((le_nI (by omega) (by omega)).mpr (Nat.le_refl _))])
    (fun fu t ht => by
      have hc := cnt_le (fun w => P w && decide (pos w = t)) N
      simp only [f_X9_meet_L52]
      rw [h0, if_neg (show ¬ nI R ≤ nI t by rw [le_nI (by omega) (by omega)]; omega), m_meet67 h3 hN (by omega) hP (fun w hw => ⟨(hp w hw).1, by have := (hp w hw).2; omega⟩)]
      by_cases q : mtB P pos N t = true
      · have q' := q
        unfold mtB at q'
        rw [decide_eq_true_eq] at q'
        rw [if_pos q, if_neg (show ¬ nI (cnt (fun w => P w && decide (pos w = t)) N) ≤ 1 by rw [fa_lit 1, le_nI (by omega) (by omega)]; omega)]
      · have q' := q
        unfold mtB at q'
        rw [decide_eq_true_eq] at q'
        rw [if_neg q, if_pos (show nI (cnt (fun w => P w && decide (pos w = t)) N) ≤ 1 by rw [fa_lit 1, le_nI (by omega) (by omega)]; omega), ol_add])
    R 0 FU (by omega) (FU_big (by omega))
  exact this
