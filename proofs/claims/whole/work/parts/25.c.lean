/-! rows filled; letter, list, put, look -/
theorem x_fill {q n : Nat} {v : Int32} {σ : SS} (hn : ln q = n) (hn2 : n ≤ 200) : ∃ σ', f_J7_fill_53178 q v σ = some σ' ∧ (∀ j, j < n → σ'.1 q j = v) ∧ (∀ a b, a ≠ q → σ'.1 a b = σ.1 a b) ∧ σ'.2 = σ.2 := by
  obtain ⟨s, ⟨h1, h2, h3⟩, e⟩ := loop_eq (fun fu i (s : SS) => f_J7_fill_53178_L5 (fun τ => some τ) fu q v (nI i) (nI n) s) (fun s => some s) n (fun i s => (∀ j, j < i → s.1 q j = v) ∧ (∀ a b, a ≠ q → s.1 a b = σ.1 a b) ∧ s.2 = σ.2)
    (fun fu s _ => by
      simp only [f_J7_fill_53178_L5]
      rw [if_pos ((le_nI (by omega) (by omega)).mpr (Nat.le_refl _))])
    (fun fu i s hi hI => by
      refine ⟨sI s q i v, ⟨fun j hj => ?_, fun a b ha => (rI_q ha).trans (hI.2.1 a b ha), hI.2.2⟩, ?_⟩
      · rw [rI_i]
        by_cases e : j = i
        · rw [if_pos ⟨rfl, e⟩]
        · rw [if_neg (fun z => e z.2)]
          exact hI.1 j (by omega)
      · simp (disch := omega) only [f_J7_fill_53178_L5, le_nI, hn, cl_nI, ck_i, ol_add]
        rw [if_neg (by omega)])
    (fu := FU) (i := 0) (s := σ) (by omega) (FU_big (by omega)) ⟨fun j hj => by omega, fun _ _ _ => rfl, rfl⟩
  refine ⟨s, ?_, h1, h2, h3⟩
  unfold f_J7_fill_53178
  rw [hn]
  exact e
theorem x_row (σ : SS) {l : Nat} (hl : l < 3) : f_X8_rowAt 0 (nI l) σ = some (some (137 + 2 * l)) := by
  unfold f_X8_rowAt
  rw [if_neg (nlt_m (by omega)), if_neg (by rw [fa_lit 3, le_nI (by omega) (by omega)]; omega)]
  simp (disch := omega) only [RD, LN, cl_nI, ck_i, rid_row]
theorem x_row_bad (σ : SS) {c : Int32} (hc : bad c 3) : f_X8_rowAt 0 c σ = some none := by
  unfold f_X8_rowAt
  rcases hc with hc | hc
  · rw [if_pos hc]
  · by_cases h0 : c < 0
    · rw [if_pos h0]
    · rw [if_neg h0]
      exact if_pos hc
theorem m_list {l : Nat} (hl : l < 3) : f_X9_isList (nI l) = 1 := within_ok (a := 0) (b := 2) (by omega) (by omega) (by omega)
theorem m_list_bad {c : Int32} (hc : bad c 3) : f_X9_isList c = 0 := within_bad (n := 2) hc (by omega)
def aLet (A : AB) (w : Nat × (Nat → Nat)) : AB := (A.1, A.2.1, A.2.2.1, w, A.2.2.2.2.1, A.2.2.2.2.2)
def aLis (A : AB) (w : (Nat → Int32) × (Nat → Nat → Int32)) : AB := (A.1, A.2.1, A.2.2.1, A.2.2.2.1, w, A.2.2.2.2.2)
theorem pc_letter_ok : pc_letter Rel := by
  rintro σ c ⟨A, hx, hm, hw⟩
  obtain ⟨hz, hlt⟩ := hw.2.2.2.1
  rcases ix_cases c (n := 256) (by omega) with hb | ⟨k, hk, rfl⟩
  · rcases hb with hb | hb
    · have h0 : ¬ (0 : Int32) ≤ c := (neg_i (k := 0) hb (by omega)).2.2.1
      refine both_ref (-4) 4 hx hm hw (fun τ h => ?_) (fun τ h => ?_)
      · unfold f_X8_letter
        simp only [if_neg h0, x_ref, Option.bind_some]
      · unfold f_X9_letter
        simp only [if_neg h0, m_ref, Option.bind_some]
    · have h0 : (0 : Int32) ≤ c := (big_i (k := 0) hb (by omega) (by omega)).2.2.2.1
      have h1 : (255 : Int32) < c := (big_i (k := 255) hb (by omega) (by omega)).1
      refine both_ref (-6) 6 hx hm hw (fun τ h => ?_) (fun τ h => ?_)
      · unfold f_X8_letter
        simp only [if_pos h0, if_pos h1, x_ref, Option.bind_some]
      · unfold f_X9_letter
        simp only [if_pos h0, if_pos h1, m_ref, Option.bind_some]
  · have h0 : (0 : Int32) ≤ nI k := nI_pos' (by omega)
    have h1 : ¬ (255 : Int32) < nI k := by rw [fa_lit 255, lt_nI (by omega) (by omega)]; omega
    by_cases h2 : A.2.2.2.1.1 = 72
    · refine both_ref (-6) 6 hx hm hw (fun τ h => ?_) (fun τ h => ?_)
      · have e := h.2.2.2.1.1
        rw [h2] at e
        unfold f_X8_letter
        simp only [if_pos h0, if_neg h1, RD, e, x_ref, Option.bind_some]
        rfl
      · have e := h.2.2.2.1.1
        rw [h2] at e
        unfold f_X9_letter
        simp only [if_pos h0, if_neg h1, e, m_ref, Option.bind_some]
        rfl
    · generalize hzz : A.2.2.2.1.1 = z at *
      have hA' : WF (aLet A (z + 1, fun i => if i = z then k else A.2.2.2.1.2 i)) := ⟨hw.1, hw.2.1, hw.2.2.1, ⟨by show z + 1 ≤ 72; omega, fun i => by show (if i = z then k else _) ≤ 255; split; omega; exact hlt i⟩, hw.2.2.2.2⟩
      have hc72 : nI z < (72 : Int32) := by rw [fa_lit 72, lt_nI (by omega) (by omega)]; omega
      refine both (r := nI (z + 1)) hx hm hw hA' (fun τ h => ?_) (fun τ h => ?_)
      · obtain ⟨h1', h2', h3', h4', h5', h6'⟩ := h
        have e := h4'.1
        rw [hzz] at e
        refine ⟨sI (sI τ 114 z (nI k)) 113 1 (nI (z + 1)), ?_, ⟨h1'.of hw.n1 (fun q j _ _ => by rw [rI_q (by omega), rI_q (by omega)]), h2'.of hw.n2 (fun q j _ => by rw [rI_q (by omega), rI_q (by omega)]), h3'.of hw.n3 (fun q j _ _ => by rw [rI_q (by omega), rI_q (by omega)]), ⟨rI_s, fun i hi => ?_⟩, h5'.of (fun q j _ _ => by rw [rI_q (by omega), rI_q (by omega)]), h6'.of (fun j => by rw [rI_q (by omega), rI_q (by omega)])⟩, fun q j _ => by rw [rI_q (by omega), rI_q (by omega)]⟩
        · unfold f_X8_letter f_X1_append
          have n72 : ¬ (72 : Int32) ≤ nI z := by rw [fa_lit 72, le_nI (by omega) (by omega)]; omega
          simp (disch := omega) only [if_pos h0, if_neg h1, RD, LN, e, if_pos hc72, if_neg n72, cl_nI, ck_i, Option.bind_some, rI_s, rI_q, ol_add]
        · rw [rI_q (by omega), rI_i]
          have hi : i < z + 1 := hi
          show _ = nI (if i = z then k else A.2.2.2.1.2 i)
          by_cases e2 : i = z
          · rw [if_pos ⟨rfl, e2⟩, if_pos e2]
          · rw [if_neg (fun q => e2 q.2), if_neg e2]
            exact h4'.2 i (by rw [hzz]; omega)
      · obtain ⟨h1', h2', h3', h4', h5', h6'⟩ := h
        have e := h4'.1
        rw [hzz] at e
        refine ⟨sI (sI τ 143 11 (nI (z + 1))) 152 z (nI k), ?_, ⟨h1'.of hw.n1 (by rw [rI_q (by omega), rI_j (by omega)]) (by rw [rI_q (by omega), rI_j (by omega)]) (fun q j _ _ => by rw [rI_q (by omega), rI_q (by omega)]), h2'.of (by rw [rI_q (by omega), rI_j (by omega)]) (fun j => by rw [rI_q (by omega), rI_q (by omega)]), h3'.of (by rw [rI_q (by omega), rI_j (by omega)]) (fun j => by rw [rI_q (by omega), rI_q (by omega)]), ⟨by rw [rI_q (by omega)]; exact rI_s, fun i hi => ?_⟩, h5'.of (fun q j _ _ => by rw [rI_q (by omega), rI_q (by omega)]), h6'.of (fun j => by rw [rI_q (by omega), rI_q (by omega)])⟩, fun q j _ => by rw [rI_q (by omega), rI_q (by omega)]⟩
        · unfold f_X9_letter
          have n72 : ¬ nI z = (72 : Int32) := by rw [fa_lit 72, eq_nI (by omega) (by omega)]; omega
          simp (disch := omega) only [if_pos h0, if_neg h1, RM, LN, e, if_neg n72, cl_nI, ck_i, Option.bind_some, rI_s, rI_q, ol_add]
        · rw [rI_i]
          have hi : i < z + 1 := hi
          show _ = nI (if i = z then k else A.2.2.2.1.2 i)
          by_cases e2 : i = z
          · rw [if_pos ⟨rfl, e2⟩, if_pos e2]
          · rw [if_neg (fun q => e2 q.2), if_neg e2, rI_q (by omega)]
            exact h4'.2 i (by rw [hzz]; omega)
