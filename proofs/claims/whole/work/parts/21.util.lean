/-! small methods of both sides -/
theorem big_i {c : Int32} {n k : Nat} (h : nI n ≤ c) (hk : k < n) (hn : n ≤ 2000000) : nI k < c ∧ ¬ c ≤ nI k ∧ ¬ c < nI k ∧ nI k ≤ c ∧ ¬ c = nI k := by
  rw [Int32.le_iff_toInt_le, nI_toInt (by omega)] at h
  refine ⟨?_, ?_, ?_, ?_, ?_⟩
  · rw [Int32.lt_iff_toInt_lt, nI_toInt (by omega)]; omega
  · rw [Int32.le_iff_toInt_le, nI_toInt (by omega)]; omega
  · rw [Int32.lt_iff_toInt_lt, nI_toInt (by omega)]; omega
  · rw [Int32.le_iff_toInt_le, nI_toInt (by omega)]; omega
  · intro e
    rw [e, nI_toInt (by omega)] at h
    omega
theorem neg_i {c : Int32} {k : Nat} (h : c < 0) (hk : k ≤ 2000000) : c < nI k ∧ c ≤ nI k ∧ ¬ nI k ≤ c ∧ ¬ nI k < c ∧ ¬ c = nI k := by
  have h : c.toInt < 0 := by rw [Int32.lt_iff_toInt_lt] at h; exact h
  refine ⟨?_, ?_, ?_, ?_, ?_⟩
  · rw [Int32.lt_iff_toInt_lt, nI_toInt (by omega)]; omega
  · rw [Int32.le_iff_toInt_le, nI_toInt (by omega)]; omega
  · rw [Int32.le_iff_toInt_le, nI_toInt (by omega)]; omega
  · rw [Int32.lt_iff_toInt_lt, nI_toInt (by omega)]; omega
  · intro e
    rw [e, nI_toInt (by omega)] at h
    omega
/-- no number below n -/
def bad (c : Int32) (n : Nat) : Prop := c < 0 ∨ nI n ≤ c
theorem ix_cases (c : Int32) {n : Nat} (hn : n ≤ 2000000) : bad c n ∨ ∃ j, j < n ∧ c = nI j := by
  rcases pk_ix c (n := n) (by omega) with h | h | h
  · exact Or.inl (Or.inl h)
  · exact Or.inl (Or.inr h)
  · exact Or.inr h
theorem bad.ne {c : Int32} {n k : Nat} (h : bad c n) (hk : k < n) (hn : n ≤ 2000000) : ¬ c = nI k := by
  rcases h with h | h
  · exact (neg_i h (by omega)).2.2.2.2
  · exact (big_i h hk hn).2.2.2.2
theorem within_ok {c a b : Nat} (h1 : a ≤ c) (h2 : c ≤ b) (hb : b ≤ 2000000) : f_X9_within (nI c) (nI a) (nI b) = 1 := by
  unfold f_X9_within
  rw [if_neg (by rw [lt_nI (by omega) (by omega)]; omega), if_neg (by rw [lt_nI (by omega) (by omega)]; omega)]
theorem within_no {c a b : Nat} (h : c < a ∨ b < c) (ha : a ≤ 2000000) (hb : b ≤ 2000000) (hc : c ≤ 2000000) : f_X9_within (nI c) (nI a) (nI b) = 0 := by
  unfold f_X9_within
  by_cases h1 : c < a
  · rw [if_pos (by rw [lt_nI (by omega) (by omega)]; omega)]
  · rw [if_neg (by rw [lt_nI (by omega) (by omega)]; omega), if_pos (by rw [lt_nI (by omega) (by omega)]; omega)]
theorem within_bad {c : Int32} {n : Nat} (h : bad c (n + 1)) (hn : n ≤ 1000000) : f_X9_within c 0 (nI n) = 0 := by
  unfold f_X9_within
  rcases h with h | h
  · rw [if_pos h]
  · have := big_i h (Nat.lt_succ_self n) (by omega)
    by_cases h0 : c < 0
    · rw [if_pos h0]
    · rw [if_neg h0, if_pos this.1]
theorem within_pred {c : Int32} {n : Nat} (h : bad c n) (hn : n ≤ 1000000) : f_X9_within c 0 (nI n - 1) = 0 := by
  cases n with
  | zero =>
    unfold f_X9_within
    rcases h with h | h
    · rw [if_pos h]
    · by_cases h0 : c < 0
      · rw [if_pos h0]
      · rw [if_neg h0, if_pos]
        have h0 : ¬ c.toInt < 0 := fun q => h0 (by rw [Int32.lt_iff_toInt_lt]; exact q)
        rw [Int32.lt_iff_toInt_lt]
        have : (nI 0 - 1).toInt = -1 := by decide
        omega
  | succ n => rw [nI_pred]; exact within_bad h (by omega)
theorem within_in {c n : Nat} (h : c < n) (hn : n ≤ 1000000) : f_X9_within (nI c) 0 (nI n - 1) = 1 := by
  cases n with
  | zero => omega
  | succ n => rw [nI_pred]; exact within_ok (a := 0) (by omega) (by omega) (by omega)
theorem two_ok (c : Int32) : (c = 0 ∨ c = 1 → f_X8_isOneOfTwo c = 1 ∧ f_X9_within c 0 1 = 1) ∧ (¬ (c = 0 ∨ c = 1) → f_X8_isOneOfTwo c = 0 ∧ f_X9_within c 0 1 = 0) := by
  constructor
  · rintro (rfl | rfl) <;> exact ⟨rfl, rfl⟩
  · intro h
    have h0 : ¬ c = 0 := fun e => h (Or.inl e)
    have h1 : ¬ c = 1 := fun e => h (Or.inr e)
    refine ⟨by unfold f_X8_isOneOfTwo; rw [if_neg h0, if_neg h1], ?_⟩
    rcases ix_cases c (n := 2) (by omega) with hb | ⟨j, hj, rfl⟩
    · exact within_bad (n := 1) hb (by omega)
    · rcases (show j = 0 ∨ j = 1 by omega) with rfl | rfl
      · exact absurd rfl h0
      · exact absurd rfl h1
section TT
variable {σ : SS} {R n : Nat}
theorem x_tooth (h : σ.1 1 0 = nI R) (hR : R ≤ 60) {t : Nat} (ht : t < R) : f_X4_isTooth 1 (nI t) σ = 1 := by
  unfold f_X4_isTooth
  rw [if_neg (nlt_m (by omega)), h, if_neg (by rw [le_nI (by omega) (by omega)]; omega)]
theorem x_tooth_bad (h : σ.1 1 0 = nI R) {c : Int32} (hc : bad c R) : f_X4_isTooth 1 c σ = 0 := by
  unfold f_X4_isTooth
  rcases hc with hc | hc
  · rw [if_pos hc]
  · by_cases h0 : c < 0
    · rw [if_pos h0]
    · rw [if_neg h0, h, if_pos hc]
theorem m_tooth (h : σ.1 143 0 = nI R) (hR : R ≤ 60) {t : Nat} (ht : t < R) : f_X9_isTooth 143 (nI t) σ = 1 := by
  unfold f_X9_isTooth
  rw [h]
  exact within_in ht (by omega)
theorem m_tooth_bad (h : σ.1 143 0 = nI R) (hR : R ≤ 60) {c : Int32} (hc : bad c R) : f_X9_isTooth 143 c σ = 0 := by
  unfold f_X9_isTooth
  rw [h]
  exact within_pred hc (by omega)
theorem x_wheel (h : σ.1 1 1 = nI n) (hn : n ≤ 6) {w : Nat} (hw : w < n) : f_X4_wheelAt 1 (nI w) σ = some (some (5 + w)) := by
  unfold f_X4_wheelAt
  simp only [RD, LN, h]
  rw [if_neg (nlt_m (by omega)), if_neg (by rw [le_nI (by omega) (by omega)]; omega), ck_nI (by omega) (by omega), cl_nI (by omega), rid_wheel (by omega)]
theorem x_wheel_bad (h : σ.1 1 1 = nI n) {c : Int32} (hc : bad c n) : f_X4_wheelAt 1 c σ = some none := by
  unfold f_X4_wheelAt
  simp only [h]
  rcases hc with hc | hc
  · rw [if_pos hc]
  · by_cases h0 : c < 0
    · rw [if_pos h0]
    · rw [if_neg h0, if_pos hc]
theorem m_wheel (h : σ.1 143 3 = nI n) (hn : n ≤ 6) {w : Nat} (hw : w < n) : f_X9_isWheel 143 (nI w) σ = 1 := by
  unfold f_X9_isWheel
  rw [h]
  exact within_in hw (by omega)
theorem m_wheel_bad (h : σ.1 143 3 = nI n) (hn : n ≤ 6) {c : Int32} (hc : bad c n) : f_X9_isWheel 143 c σ = 0 := by
  unfold f_X9_isWheel
  rw [h]
  exact within_pred hc (by omega)
end TT
theorem pc_tooth_ok : pc_tooth Rel := by
  rintro σ c what ⟨A, hx, hm, hw⟩
  have hR := hw.1.2.1
  rcases ix_cases c (n := rT A.1) (by omega) with hb | ⟨t, ht, rfl⟩
  · refine both_ref (-1) 1 hx hm hw (fun τ h => ?_) (fun τ h => ?_)
    · unfold f_X8_tooth
      simp only [RD, x_tooth_bad h.1.1 hb, if_pos, x_ref, Option.bind_some]
    · unfold f_X9_tooth
      simp only [m_tooth_bad h.1.1 hR hb, if_pos, m_ref, Option.bind_some]
  · by_cases h2 : what = 0 ∨ what = 1
    · rcases h2 with rfl | rfl
      · refine both_same (nI (rW A.1 t)) hx hm hw (fun τ h => ⟨τ, ?_, fun _ _ _ => rfl⟩) (fun τ h => ⟨τ, ?_, fun _ _ _ => rfl⟩)
        · unfold f_X8_tooth
          simp only [RD, LN, x_tooth h.1.1 hR ht, (two_ok 0).1 (Or.inl rfl)]
          rw [if_neg (by decide), if_neg (by decide), if_pos trivial, ck_nI (by omega) (by omega), cl_nI (by omega), h.1.2.2.2.1 t (by omega)]
        · unfold f_X9_tooth
          simp only [RM, LN, m_tooth h.1.1 hR ht, (two_ok 0).1 (Or.inl rfl)]
          rw [if_neg (by decide), if_neg (by decide), if_pos trivial, ck_nI (by omega) (by omega), cl_nI (by omega), h.1.2.2.2.1 t (by omega)]
      · refine both_same (nI (rI A.1 t)) hx hm hw (fun τ h => ⟨τ, ?_, fun _ _ _ => rfl⟩) (fun τ h => ⟨τ, ?_, fun _ _ _ => rfl⟩)
        · unfold f_X8_tooth
          simp only [RD, LN, x_tooth h.1.1 hR ht, (two_ok 1).1 (Or.inr rfl)]
          rw [if_neg (by decide), if_neg (by decide), if_neg (by decide), ck_nI (by omega) (by omega), cl_nI (by omega), h.1.2.2.1 t (by omega)]
        · unfold f_X9_tooth
          simp only [RM, LN, m_tooth h.1.1 hR ht, (two_ok 1).1 (Or.inr rfl)]
          rw [if_neg (by decide), if_neg (by decide), if_neg (by decide), ck_nI (by omega) (by omega), cl_nI (by omega), h.1.2.2.1 t (by omega)]
    · have h2 := (two_ok what).2 h2
      refine both_ref (-2) 2 hx hm hw (fun τ h => ?_) (fun τ h => ?_)
      · unfold f_X8_tooth
        simp only [RD, x_tooth h.1.1 hR ht, h2, x_ref, Option.bind_some]
        rfl
      · unfold f_X9_tooth
        simp only [m_tooth h.1.1 hR ht, h2, m_ref, Option.bind_some]
        rfl
