/-! touch, crowd -/
def eAt (ρ : RG) (s i : Nat) : TE := ((al ρ s 900)[i]?).getD (0, 0, 0)
theorem eAt_some {ρ : RG} {s i : Nat} (h : i < (al ρ s 900).length) : (al ρ s 900)[i]? = some (eAt ρ s i) := by
  unfold eAt
  rw [List.getElem?_eq_getElem h]
  rfl
theorem RW.get {a b c m n i : Nat} {ρ : RG} {s : Nat} {σ : SS} (h : RW a b c ((al ρ s m).take n) σ) (hl : 100 ≤ (al ρ s 900).length) (hi : i < n) (hi2 : i < 100) (hm : i < (al ρ s m).length) : σ.1 a i = nI (eAt ρ s i).1 ∧ σ.1 b i = nI (eAt ρ s i).2.1 ∧ σ.1 c i = nI (eAt ρ s i).2.2 := by
  apply h i
  rw [List.getElem?_take, if_pos hi, al_get hm (show i < (al ρ s 900).length by omega)]
  exact eAt_some (by omega)
theorem al_lt {ρ : RG} {s : Nat} (hw : WR ρ) : ∀ m e, e ∈ al ρ s m → e.2.1 < rT ρ
  | 0, e, h => by cases h
  | m + 1, e, h => by
    rcases List.mem_append.mp h with q | q
    · exact al_lt hw m e q
    · obtain ⟨w, hw1, rfl⟩ := List.mem_map.mp q
      exact psT_lt hw _ _ (tc_lt ((tl_mem hw).mp hw1))
theorem eAt_lt {ρ : RG} {s i : Nat} (hw : WR ρ) (h : i < (al ρ s 900).length) : (eAt ρ s i).2.1 < rT ρ := al_lt hw 900 _ (List.mem_of_getElem? (eAt_some h))
theorem what3 (c : Int32) : (c = 0 ∨ c = 1 ∨ c = 2) ∨ (f_X9_within c 0 2 = 0 ∧ (c < 0 ∨ (¬ c < 0 ∧ ¬ c ≤ 2))) := by
  rcases ix_cases c (n := 3) (by omega) with hb | ⟨j, hj, rfl⟩
  · refine Or.inr ⟨within_bad (n := 2) hb (by omega), ?_⟩
    by_cases q : c < 0
    · exact Or.inl q
    · exact Or.inr ⟨q, (big_i (hb.resolve_left q) (show 2 < 3 by omega) (by omega)).2.1⟩
  · rcases (show j = 0 ∨ j = 1 ∨ j = 2 by omega) with rfl | rfl | rfl
    · exact Or.inl (Or.inl rfl)
    · exact Or.inl (Or.inr (Or.inl rfl))
    · exact Or.inl (Or.inr (Or.inr rfl))
theorem w012 : f_X9_within 0 0 2 = 1 ∧ f_X9_within 1 0 2 = 1 ∧ f_X9_within 2 0 2 = 1 ∧ ¬ (0 : Int32) < 0 ∧ ¬ (1 : Int32) < 0 ∧ ¬ (2 : Int32) < 0 ∧ (0 : Int32) ≤ 2 ∧ (1 : Int32) ≤ 2 ∧ (2 : Int32) ≤ 2 ∧ ¬ (2 : Int32) = 0 ∧ ¬ (2 : Int32) = 1 ∧ ¬ (1 : Int32) = 2 ∧ ¬ (0 : Int32) = 2 := by decide
theorem pc_touch_ok : pc_touch Rel := by
  rintro σ c1 c2 c3 ⟨A, hx, hm, hw⟩
  have hR := hw.1.2.1
  have hR3 := hw.1.1
  have hN := hw.1.2.2.1
  obtain ⟨w1, w2, w3, w4, w5, w6, w7, w8, w9, w10, w11, w12, w13⟩ := w012
  rcases set_cases c1 (rN A.1) hN with hb | ⟨s, hs1, hs2, rfl⟩
  · refine both_ref (-1) 1 hx hm hw (fun τ h => ?_) (fun τ h => ?_)
    · unfold f_X8_touch
      simp only [RD, x_set_bad h.1.2.1 hN hb, if_true, x_ref, Option.bind_some]
    · unfold f_X9_touch
      simp only [m_set_bad h.1.2.1 hN hb, if_true, m_ref, Option.bind_some]
  by_cases t1 : 0 ≤ c2
  case neg =>
    refine both_ref (-4) 4 hx hm hw (fun τ h => ?_) (fun τ h => ?_)
    · unfold f_X8_touch
      simp only [RD, x_set h.1.2.1 hN hs1 hs2, if_neg one0, if_neg t1, x_ref, Option.bind_some]
    · unfold f_X9_touch
      simp only [m_set h.1.2.1 hN hs1 hs2, if_neg one0, if_neg t1, m_ref, Option.bind_some]
  rcases ix_cases c2 (n := 100) (by omega) with (q | q) | ⟨i, hi, rfl⟩
  · exact absurd t1 (Int32.not_le.mpr q)
  · have t2 : ¬ c2 < 100 := Int32.not_lt.mpr q
    have t3 : ¬ c2 ≤ 99 := (big_i q (show 99 < 100 by omega) (by omega)).2.1
    refine both_ref (-6) 6 hx hm hw (fun τ h => ?_) (fun τ h => ?_)
    · unfold f_X8_touch
      simp only [RD, x_set h.1.2.1 hN hs1 hs2, if_neg one0, if_pos t1, if_neg t2, x_ref, Option.bind_some]
    · unfold f_X9_touch
      simp only [m_set h.1.2.1 hN hs1 hs2, if_neg one0, if_pos t1, if_neg t3, m_ref, Option.bind_some]
  have t2 : nI i < 100 := by rw [fa_lit 100, lt_nI (by omega) (by omega)]; exact hi
  have t3 : nI i ≤ 99 := by rw [fa_lit 99, le_nI (by omega) (by omega)]; omega
  rcases what3 c3 with hc | ⟨hc1, hc2⟩
  case inr =>
    refine both_ref (-2) 2 hx hm hw (fun τ h => ?_) (fun τ h => ?_)
    · unfold f_X8_touch
      simp only [RD, x_set h.1.2.1 hN hs1 hs2, if_neg one0, if_pos t1, if_pos t2]
      rcases hc2 with hc2 | ⟨hc2, hc3⟩
      · rw [if_pos hc2]
        simp only [x_ref, Option.bind_some]
      · rw [if_neg hc2, if_neg hc3]
        simp only [x_ref, Option.bind_some]
    · unfold f_X9_touch
      simp only [m_set h.1.2.1 hN hs1 hs2, if_neg one0, if_pos t1, if_pos t3, hc1, if_true, m_ref, Option.bind_some]
  have hl : 100 ≤ (al A.1 s 900).length := al_len hw.1 hs1 hs2 100
  have hx' : ∀ τ, XH A τ → ∃ τ', f_X6_follow 128 1 (nI s) (nI (i + 1)) τ = some τ' ∧ (τ'.1 131 i = nI (eAt A.1 s i).1 ∧ τ'.1 132 i = nI (eAt A.1 s i).2.1 ∧ τ'.1 133 i = nI (eAt A.1 s i).2.2) ∧ FX τ τ' := fun τ h => by
    obtain ⟨τ', m, f1, f2, f3, f4, f5, f6⟩ := x_follow (n := i + 1) h.1 hw.1 hs1 hs2 (by omega)
    exact ⟨τ', f1, f3.get hl hi hi (by omega), f6⟩
  have hm' : ∀ τ, MH A τ → ∃ τ', f_X9_touches 143 (nI s) (nI (i + 1)) τ = some τ' ∧ (τ'.1 167 i = nI (eAt A.1 s i).1 ∧ τ'.1 168 i = nI (eAt A.1 s i).2.1 ∧ τ'.1 169 i = nI (eAt A.1 s i).2.2) ∧ FM τ τ' := fun τ h => by
    obtain ⟨τ', m, f1, f2, f3, f4⟩ := m_touches (n := i + 1) h.1 hw.1 hs1 hs2 (by omega)
    exact ⟨τ', f1, f3.get hl (by omega) hi (by omega), f4⟩
  rcases hc with rfl | rfl | rfl
  · refine both_same (nI (eAt A.1 s i).1) hx hm hw (fun τ h => ?_) (fun τ h => ?_)
    · obtain ⟨τ', f1, f2, f3⟩ := hx' τ h
      refine ⟨τ', ?_, f3⟩
      unfold f_X8_touch
      simp (disch := omega) only [RD, LN, x_set h.1.2.1 hN hs1 hs2, if_neg one0, if_pos t1, if_pos t2, w4, w7, if_false, if_true, ol_add, f1, Option.bind_some, cl_nI, ck_i, f2]
    · obtain ⟨τ', f1, f2, f3⟩ := hm' τ h
      refine ⟨τ', ?_, f3⟩
      unfold f_X9_touch
      simp (disch := omega) only [RM, LN, m_set h.1.2.1 hN hs1 hs2, if_neg one0, if_pos t1, if_pos t3, w1, if_true, ol_add, f1, Option.bind_some, cl_nI, ck_i, f2]
  · refine both_same (nI (eAt A.1 s i).2.1) hx hm hw (fun τ h => ?_) (fun τ h => ?_)
    · obtain ⟨τ', f1, f2, f3⟩ := hx' τ h
      refine ⟨τ', ?_, f3⟩
      unfold f_X8_touch
      simp (disch := omega) only [RD, LN, x_set h.1.2.1 hN hs1 hs2, if_neg one0, if_pos t1, if_pos t2, w5, w8, if_false, if_true, ol_add, f1, Option.bind_some, cl_nI, ck_i, f2]
    · obtain ⟨τ', f1, f2, f3⟩ := hm' τ h
      refine ⟨τ', ?_, f3⟩
      unfold f_X9_touch
      simp (disch := omega) only [RM, LN, m_set h.1.2.1 hN hs1 hs2, if_neg one0, if_pos t1, if_pos t3, w2, if_true, ol_add, f1, Option.bind_some, cl_nI, ck_i, f2]
  · refine both_same (nI (eAt A.1 s i).2.2) hx hm hw (fun τ h => ?_) (fun τ h => ?_)
    · obtain ⟨τ', f1, f2, f3⟩ := hx' τ h
      refine ⟨τ', ?_, f3⟩
      unfold f_X8_touch
      simp (disch := omega) only [RD, LN, x_set h.1.2.1 hN hs1 hs2, if_neg one0, if_pos t1, if_pos t2, w6, w9, w10, w11, if_false, if_true, ol_add, f1, Option.bind_some, cl_nI, ck_i, f2]
    · obtain ⟨τ', f1, f2, f3⟩ := hm' τ h
      refine ⟨τ', ?_, f3⟩
      unfold f_X9_touch
      simp (disch := omega) only [RM, LN, m_set h.1.2.1 hN hs1 hs2, if_neg one0, if_pos t1, if_pos t3, w3, w10, w11, if_false, ol_add, f1, Option.bind_some, cl_nI, ck_i, f2]
