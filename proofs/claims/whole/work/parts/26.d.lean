/-! list, put, look -/
theorem mone : ¬ (0 : Int32) ≤ -1 := by decide
/-- which refusal a place has: both sides -/
theorem x_place {σ : SS} {l n : Nat} (h : σ.1 (137 + 2 * l) 0 = nI n) (hn : n ≤ 40) : (∀ j, j < n → f_X8_refusalOfPlace (some (137 + 2 * l)) (nI j) σ = 0) ∧ ∀ c, bad c n → f_X8_refusalOfPlace (some (137 + 2 * l)) c σ = -13 := by
  have hm : f_X5_isMissing (137 + 2 * l) σ = 0 := by
    unfold f_X5_isMissing
    rw [h, if_pos (nI_pos' (by omega))]
  constructor
  · intro j hj
    have hp : f_X5_hasPlace (137 + 2 * l) (nI j) σ = 1 := by
      unfold f_X5_hasPlace
      rw [if_neg (nlt_m (by omega)), h, if_neg (by rw [le_nI (by omega) (by omega)]; omega)]
    unfold f_X8_refusalOfPlace
    simp only [hm, hp, if_true, if_neg one0]
  · intro c hc
    have hp : f_X5_hasPlace (137 + 2 * l) c σ = 0 := by
      unfold f_X5_hasPlace
      rcases hc with hc | hc
      · rw [if_pos hc]
      · by_cases h0 : c < 0
        · rw [if_pos h0]
        · rw [if_neg h0, h, if_pos hc]
    unfold f_X8_refusalOfPlace
    simp only [hm, hp, if_true]
theorem x_place_m {σ : SS} {l : Nat} (c : Int32) (h : σ.1 (137 + 2 * l) 0 = -1) : f_X8_refusalOfPlace (some (137 + 2 * l)) c σ = -11 := by
  unfold f_X8_refusalOfPlace f_X5_isMissing
  simp only [h, if_neg mone, if_neg one0]
theorem m11 : ¬ (-11 : Int32) = 0 := by decide
theorem m13 : ¬ (-13 : Int32) = 0 := by decide
theorem m1z : ¬ (-1 : Int32) = 0 := by decide
theorem x_place_n {σ : SS} (c : Int32) : f_X8_refusalOfPlace none c σ = -1 := rfl
theorem pc_look_ok : pc_look Rel := by
  rintro σ c1 c2 ⟨A, hx, hm, hw⟩
  rcases ix_cases c1 (n := 3) (by omega) with hb | ⟨l, hl, rfl⟩
  · refine both_ref 4000000000000000001 1 hx hm hw (fun τ h => ?_) (fun τ h => ?_)
    · unfold f_X8_look
      simp only [x_row_bad τ hb, Option.bind_some, x_place_n, if_neg m1z, x_refL]
    · unfold f_X9_look
      simp only [m_list_bad hb, if_true, m_refL, Option.bind_some]
  · rcases hw.2.2.2.2 l hl with hs | ⟨n, hn, hs⟩
    · refine both_same 4000000000000000011 hx hm hw (fun τ h => ⟨τ, ?_, fun _ _ _ => rfl⟩) (fun τ h => ⟨τ, ?_, fun _ _ _ => rfl⟩)
      · have e := (h.2.2.2.2.1 l hl).1.trans hs
        unfold f_X8_look
        simp only [x_row τ hl, Option.bind_some, x_place_m c2 e, if_neg m11, x_refL]
      · have e := (h.2.2.2.2.1 l hl).1.trans hs
        unfold f_X9_look
        simp (disch := omega) only [m_list hl, if_neg one0, RM, LN, cl_nI, ck_i, e, if_neg mone]
    · rcases ix_cases c2 (n := n) (by omega) with hb | ⟨j, hj, rfl⟩
      · refine both_same 4000000000000000013 hx hm hw (fun τ h => ⟨τ, ?_, fun _ _ _ => rfl⟩) (fun τ h => ⟨τ, ?_, fun _ _ _ => rfl⟩)
        · have e := (h.2.2.2.2.1 l hl).1.trans hs
          unfold f_X8_look
          simp only [x_row τ hl, Option.bind_some, (x_place e hn).2 c2 hb, if_neg m13, x_refL]
        · have e := (h.2.2.2.2.1 l hl).1.trans hs
          have p0 : (0 : Int32) ≤ nI n := nI_pos' (by omega)
          unfold f_X9_look
          simp (disch := omega) only [m_list hl, if_neg one0, RM, LN, cl_nI, ck_i, e, if_pos p0, within_pred hb, if_true]
      · refine both_same (A.2.2.2.2.1.2 l j).toInt64 hx hm hw (fun τ h => ⟨τ, ?_, fun _ _ _ => rfl⟩) (fun τ h => ⟨τ, ?_, fun _ _ _ => rfl⟩)
        · have e := (h.2.2.2.2.1 l hl).1.trans hs
          have v := (h.2.2.2.2.1 l hl).2 j (by omega)
          have hr := rid_row hl
          have hq := rid_nums hl
          unfold f_X8_look
          simp (disch := omega) only [x_row τ hl, Option.bind_some, (x_place e hn).1 j hj, if_true, RD, LN, cl_nI, ck_i, hr, hq, v]
        · have e := (h.2.2.2.2.1 l hl).1.trans hs
          have v := (h.2.2.2.2.1 l hl).2 j (by omega)
          have p0 : (0 : Int32) ≤ nI n := nI_pos' (by omega)
          have e40 : (40 : Int32) * nI l + nI j = nI (40 * l + j) := by rw [fa_lit 40, pk_mul, nI_add]
          unfold f_X9_look
          simp (disch := omega) only [m_list hl, if_neg one0, RM, LN, cl_nI, ck_i, e, if_pos p0, within_in hj, e40, v]
theorem pc_put_ok : pc_put Rel := by
  rintro σ c1 c2 v ⟨A, hx, hm, hw⟩
  rcases ix_cases c1 (n := 3) (by omega) with hb | ⟨l, hl, rfl⟩
  · refine both_ref (-1) 1 hx hm hw (fun τ h => ?_) (fun τ h => ?_)
    · unfold f_X8_put
      simp only [x_row_bad τ hb, Option.bind_some, x_place_n, if_neg m1z, x_ref]
    · unfold f_X9_put
      simp only [m_list_bad hb, if_true, m_ref, Option.bind_some]
  · rcases hw.2.2.2.2 l hl with hs | ⟨n, hn, hs⟩
    · refine both_same (-11) hx hm hw (fun τ h => ⟨τ, ?_, fun _ _ _ => rfl⟩) (fun τ h => ⟨τ, ?_, fun _ _ _ => rfl⟩)
      · have e := (h.2.2.2.2.1 l hl).1.trans hs
        unfold f_X8_put
        simp only [x_row τ hl, Option.bind_some, x_place_m c2 e, if_neg m11, x_ref]
      · have e := (h.2.2.2.2.1 l hl).1.trans hs
        unfold f_X9_put
        simp (disch := omega) only [m_list hl, if_neg one0, RM, LN, cl_nI, ck_i, e, if_neg mone]
    · rcases ix_cases c2 (n := n) (by omega) with hb | ⟨j, hj, rfl⟩
      · refine both_same (-13) hx hm hw (fun τ h => ⟨τ, ?_, fun _ _ _ => rfl⟩) (fun τ h => ⟨τ, ?_, fun _ _ _ => rfl⟩)
        · have e := (h.2.2.2.2.1 l hl).1.trans hs
          unfold f_X8_put
          simp only [x_row τ hl, Option.bind_some, (x_place e hn).2 c2 hb, if_neg m13, x_ref]
        · have e := (h.2.2.2.2.1 l hl).1.trans hs
          have p0 : (0 : Int32) ≤ nI n := nI_pos' (by omega)
          unfold f_X9_put
          simp (disch := omega) only [m_list hl, if_neg one0, RM, LN, cl_nI, ck_i, e, if_pos p0, within_pred hb, if_true]
      · have hA' : WF (aLis A (A.2.2.2.2.1.1, fun a b => if a = l ∧ b = j then v else A.2.2.2.2.1.2 a b)) := hw
        refine both (r := 1) hx hm hw hA' (fun τ h => ?_) (fun τ h => ?_)
        · have e := (h.2.2.2.2.1 l hl).1.trans hs
          have hr := rid_row hl
          have hq := rid_nums hl
          obtain ⟨h1', h2', h3', h4', h5', h6'⟩ := h
          refine ⟨sI τ (138 + 2 * l) j v, ?_, ⟨h1'.of hw.n1 (fun q j _ _ => rI_q (by omega)), h2'.of hw.n2 (fun q j _ => rI_q (by omega)), h3'.of hw.n3 (fun q j _ _ => rI_q (by omega)), h4'.of (fun q j _ _ => rI_q (by omega)), fun a ha => ⟨(rI_q (by omega)).trans (h5' a ha).1, fun b hb => ?_⟩, h6'.of (fun j => rI_q (by omega))⟩, fun q j _ => rI_q (by omega)⟩
          · unfold f_X8_put
            simp (disch := omega) only [x_row τ hl, Option.bind_some, (x_place e hn).1 j hj, if_true, RD, LN, cl_nI, ck_i, hr, hq]
          · rw [rI_i]
            show _ = if a = l ∧ b = j then v else A.2.2.2.2.1.2 a b
            by_cases e2 : a = l ∧ b = j
            · rw [if_pos ⟨by omega, e2.2⟩, if_pos e2]
            · rw [if_neg (fun q => e2 ⟨by omega, q.2⟩), if_neg e2]
              exact (h5' a ha).2 b hb
        · have e := (h.2.2.2.2.1 l hl).1.trans hs
          have p0 : (0 : Int32) ≤ nI n := nI_pos' (by omega)
          have e40 : (40 : Int32) * nI l + nI j = nI (40 * l + j) := by rw [fa_lit 40, pk_mul, nI_add]
          obtain ⟨h1', h2', h3', h4', h5', h6'⟩ := h
          refine ⟨sI τ 153 (40 * l + j) v, ?_, ⟨h1'.of hw.n1 (rI_q (by omega)) (rI_q (by omega)) (fun q j _ _ => rI_q (by omega)), h2'.of (rI_q (by omega)) (fun j => rI_q (by omega)), h3'.of (rI_q (by omega)) (fun j => rI_q (by omega)), h4'.of (rI_q (by omega)) (fun j => rI_q (by omega)), fun a ha => ⟨(rI_q (by omega)).trans (h5' a ha).1, fun b hb => ?_⟩, h6'.of (fun j => rI_q (by omega))⟩, fun q j _ => rI_q (by omega)⟩
          · unfold f_X9_put
            simp (disch := omega) only [m_list hl, if_neg one0, RM, LN, cl_nI, ck_i, e, if_pos p0, within_in hj, e40]
          · rw [rI_i]
            show _ = if a = l ∧ b = j then v else A.2.2.2.2.1.2 a b
            by_cases e2 : a = l ∧ b = j
            · rw [if_pos ⟨rfl, by omega⟩, if_pos e2]
            · rw [if_neg (fun q => e2 ⟨by omega, by omega⟩), if_neg e2]
              exact (h5' a ha).2 b hb
theorem m_zero {l : Nat} (hl : l < 3) (σ : SS) : ∃ σ', f_X9_list_L42 (fun (τ : SS) => some (1, τ)) FU 143 (nI l) 0 σ = some (1, σ') ∧ (∀ j, j < 40 → σ'.1 153 (40 * l + j) = 0) ∧ (∀ a b, ¬ (a = 153 ∧ 40 * l ≤ b ∧ b < 40 * l + 40) → σ'.1 a b = σ.1 a b) := by
  obtain ⟨s, ⟨h1, h2⟩, e⟩ := loop_eq (fun fu i (s : SS) => f_X9_list_L42 (fun (τ : SS) => some (1, τ)) fu 143 (nI l) (nI i) s) (fun s => some (1, s)) 40 (fun i s => (∀ j, j < i → s.1 153 (40 * l + j) = 0) ∧ (∀ a b, ¬ (a = 153 ∧ 40 * l ≤ b ∧ b < 40 * l + 40) → s.1 a b = σ.1 a b))
    (fun fu s _ => by
      simp only [f_X9_list_L42]
      rw [if_pos (show (40 : Int32) ≤ nI 40 by decide)])
    (fun fu i s hi hI => by
      refine ⟨sI s 153 (40 * l + i) 0, ⟨fun j hj => ?_, fun a b ha => ?_⟩, ?_⟩
      · rw [rI_i]
        by_cases e : j = i
        · rw [if_pos ⟨rfl, by omega⟩]
        · rw [if_neg (fun z => e (by omega))]
          exact hI.1 j (by omega)
      · rw [rI_i, if_neg (fun z => ha ⟨z.1, by omega, by omega⟩)]
        exact hI.2 a b ha
      · have e40 : (40 : Int32) * nI l + nI i = nI (40 * l + i) := by rw [fa_lit 40, pk_mul, nI_add]
        simp (disch := omega) only [f_X9_list_L42, RM, LN, e40, cl_nI, ck_i, ol_add]
        rw [if_neg (show ¬ (40 : Int32) ≤ nI i by rw [fa_lit 40, le_nI (by omega) (by omega)]; omega)])
    (fu := FU) (i := 0) (s := σ) (by omega) (FU_big (by omega)) ⟨fun j hj => by omega, fun _ _ _ => rfl⟩
  exact ⟨s, e, h1, h2⟩
theorem pc_list_ok : pc_list Rel := by
  rintro σ c1 c2 ⟨A, hx, hm, hw⟩
  rcases ix_cases c1 (n := 3) (by omega) with hb | ⟨l, hl, rfl⟩
  · refine both_ref (-1) 1 hx hm hw (fun τ h => ?_) (fun τ h => ?_)
    · unfold f_X8_list
      simp only [x_row_bad τ hb, Option.bind_some, x_ref]
    · unfold f_X9_list
      simp only [m_list_bad hb, if_true, m_ref, Option.bind_some]
  · rcases ix_cases c2 (n := 41) (by omega) with hb | ⟨n, hn, rfl⟩
    · rcases hb with hb | hb
      · have e1 : c2 ≤ (40 : Int32) := (neg_i (k := 40) hb (by omega)).2.1
        have e0 : ¬ (0 : Int32) ≤ c2 := (neg_i (k := 0) hb (by omega)).2.2.1
        refine both_same (-14) hx hm hw (fun τ h => ⟨τ, ?_, fun _ _ _ => rfl⟩) (fun τ h => ⟨τ, ?_, fun _ _ _ => rfl⟩)
        · unfold f_X8_list
          simp only [x_row τ hl, Option.bind_some, if_pos e1, if_neg e0, x_ref]
        · unfold f_X9_list
          simp only [m_list hl, if_neg one0, if_pos e1, if_neg e0]
      · have e1 : ¬ c2 ≤ (40 : Int32) := (big_i (k := 40) hb (by omega) (by omega)).2.1
        refine both_ref (-6) 6 hx hm hw (fun τ h => ?_) (fun τ h => ?_)
        · unfold f_X8_list
          simp only [x_row τ hl, Option.bind_some, if_neg e1, x_ref]
        · unfold f_X9_list
          simp only [m_list hl, if_neg one0, if_neg e1, m_ref, Option.bind_some]
    · have e1 : nI n ≤ (40 : Int32) := by rw [fa_lit 40, le_nI (by omega) (by omega)]; omega
      have e2 : ¬ (40 : Int32) < nI n := by rw [fa_lit 40, lt_nI (by omega) (by omega)]; omega
      have e0 : (0 : Int32) ≤ nI n := nI_pos' (by omega)
      have e3 : ¬ nI n < (0 : Int32) := nlt_m (by omega)
      have hA' : WF (aLis A (fun a => if a = l then nI n else A.2.2.2.2.1.1 a, fun a b => if a = l then 0 else A.2.2.2.2.1.2 a b)) := by
        refine ⟨hw.1, hw.2.1, hw.2.2.1, hw.2.2.2.1, fun a ha => ?_⟩
        show (if a = l then nI n else A.2.2.2.2.1.1 a) = -1 ∨ ∃ m : Nat, m ≤ 40 ∧ (if a = l then nI n else A.2.2.2.2.1.1 a) = nI m
        by_cases e : a = l
        · rw [if_pos e]; exact Or.inr ⟨n, by omega, rfl⟩
        · rw [if_neg e]; exact hw.2.2.2.2 a ha
      refine both (r := 1) hx hm hw hA' (fun τ h => ?_) (fun τ h => ?_)
      · obtain ⟨h1', h2', h3', h4', h5', h6'⟩ := h
        have hq := rid_nums hl
        obtain ⟨σ', f1, f2, f3, -⟩ := x_fill (v := 0) (σ := sI τ (137 + 2 * l) 0 (nI n)) hq.2 (by omega)
        have fo : ∀ a b, a ≠ 138 + 2 * l → a ≠ 137 + 2 * l → σ'.1 a b = τ.1 a b := fun a b ha hb => (f3 a b ha).trans (rI_q hb)
        refine ⟨σ', ?_, ⟨h1'.of hw.n1 (fun q j _ _ => fo q j (by omega) (by omega)), h2'.of hw.n2 (fun q j _ => fo q j (by omega) (by omega)), h3'.of hw.n3 (fun q j _ _ => fo q j (by omega) (by omega)), h4'.of (fun q j _ _ => fo q j (by omega) (by omega)), fun a ha => ⟨?_, fun b hb => ?_⟩, h6'.of (fun j => fo _ j (by omega) (by omega))⟩, fun q j _ => fo q j (by omega) (by omega)⟩
        · unfold f_X8_list f_X5_renew
          simp only [x_row τ hl, Option.bind_some, if_pos e1, if_pos e0, if_neg e3, if_neg e2, hq.1, f1]
        · show _ = if a = l then nI n else A.2.2.2.2.1.1 a
          by_cases e : a = l
          · rw [if_pos e, e, f3 _ _ (by omega)]; exact rI_s
          · rw [if_neg e, fo _ _ (by omega) (by omega)]; exact (h5' a ha).1
        · show _ = if a = l then 0 else A.2.2.2.2.1.2 a b
          by_cases e : a = l
          · rw [if_pos e, e]; exact f2 b hb
          · rw [if_neg e, fo _ _ (by omega) (by omega)]; exact (h5' a ha).2 b hb
      · obtain ⟨h1', h2', h3', h4', h5', h6'⟩ := h
        obtain ⟨σ', f1, f2, f3⟩ := m_zero hl (sI τ 154 l (nI n))
        have fo : ∀ a b, a ≠ 153 → a ≠ 154 → σ'.1 a b = τ.1 a b := fun a b ha hb => (f3 a b (fun z => ha z.1)).trans (rI_q hb)
        refine ⟨σ', ?_, ⟨h1'.of hw.n1 (fo _ _ (by omega) (by omega)) (fo _ _ (by omega) (by omega)) (fun q j _ _ => fo q j (by omega) (by omega)), h2'.of (fo _ _ (by omega) (by omega)) (fun j => fo _ j (by omega) (by omega)), h3'.of (fo _ _ (by omega) (by omega)) (fun j => fo _ j (by omega) (by omega)), h4'.of (fo _ _ (by omega) (by omega)) (fun j => fo _ j (by omega) (by omega)), fun a ha => ⟨?_, fun b hb => ?_⟩, h6'.of (fun j => fo _ j (by omega) (by omega))⟩, fun q j _ => fo q j (by omega) (by omega)⟩
        · unfold f_X9_list
          simp (disch := omega) only [m_list hl, if_neg one0, if_pos e1, if_pos e0, RM, LN, cl_nI, ck_i]
          exact f1
        · show _ = if a = l then nI n else A.2.2.2.2.1.1 a
          rw [f3 _ _ (by omega), rI_i]
          by_cases e : a = l
          · rw [if_pos ⟨rfl, e⟩, if_pos e]
          · rw [if_neg (fun z => e z.2), if_neg e]; exact (h5' a ha).1
        · show _ = if a = l then 0 else A.2.2.2.2.1.2 a b
          by_cases e : a = l
          · rw [if_pos e, e]; exact f2 b hb
          · rw [if_neg e, f3 _ _ (by omega), rI_q (by omega)]; exact (h5' a ha).2 b hb
