/-! judge, lays -/
theorem x_wheelE {σ : SS} {n : Nat} (c : Int32) (h : σ.1 1 1 = nI n) (hn : n ≤ 6) : ∃ o, f_X4_wheelAt 1 c σ = some o := by
  rcases ix_cases c (n := n) (by omega) with hb | ⟨w, hi, rfl⟩
  · exact ⟨_, x_wheel_bad h hb⟩
  · exact ⟨_, x_wheel h hn hi⟩
def jp (f : Nat → Int32) (bg : Nat → Nat) (a : Nat) (i : Nat) : Bool := decide (¬ (i < a ∧ f i = nI (bg i)))
def jv (f : Nat → Int32) (bg : Nat → Nat) (a n : Nat) : Int32 := if fstF (jp f bg a) 0 n < n then nI (fstF (jp f bg a) 0 n) else -9
theorem x_judge61 {σ : SS} {l n a T R k : Nat} {bg : Nat → Nat} {f : Nat → Int32} (hl : l < 3) (hn : n ≤ 40) (ha : a ≤ 60) (e : σ.1 (137 + 2 * l) 0 = nI n) (hf : ∀ i, i < 40 → σ.1 (138 + 2 * l) i = f i) (h : DrX 116 R k bg a T σ) : f_X8_judge_L61 (fun (τ : SS) => some ((-9), τ)) FU 0 (137 + 2 * l) 0 σ = some (jv f bg a n, σ) := by
  have hq := rid_nums hl
  have := search (fun fu i => f_X8_judge_L61 (fun (τ : SS) => some ((-9), τ)) fu 0 (137 + 2 * l) (nI i) σ) (jp f bg a) (fun i => some (nI i, σ)) (some (-9, σ)) n
    (fun fu => by
      simp only [f_X8_judge_L61]
      rw [e, if_pos ((le_nI (by omega) (by omega)).mpr (Nat.le_refl _))])
    (fun fu i hi => by
      simp (disch := omega) only [f_X8_judge_L61, f_X0_hasArc, RD, LN, hq, cl_nI, ck_i, e, h.2.2.1, hf i (by omega), ol_add]
      rw [if_neg (show ¬ nI n ≤ nI i by rw [le_nI (by omega) (by omega)]; omega), if_neg (nlt_m (by omega))]
      by_cases q : i < a
      · rw [if_neg (show ¬ nI a ≤ nI i by rw [le_nI (by omega) (by omega)]; omega), if_neg one0, (h.2.2.2.2.1 i q).1]
        by_cases q2 : f i = nI (bg i)
        · rw [if_pos q2, if_neg (by unfold jp; simp [q, q2])]
        · rw [if_neg q2, if_pos (by unfold jp; simp [q2])]
      · rw [if_pos (show nI a ≤ nI i by rw [le_nI (by omega) (by omega)]; omega), if_pos rfl, if_pos (by unfold jp; simp [q])])
    n 0 FU (by omega) (FU_big (by omega))
  refine this.trans ?_
  unfold jv
  split <;> rfl
theorem m_judge40 {σ : SS} {l n a T R : Nat} {bg : Nat → Nat} {f : Nat → Int32} (hl : l < 3) (hn : n ≤ 40) (ha : a ≤ 60) (e : σ.1 154 l = nI n) (hf : ∀ i, i < 40 → σ.1 153 (40 * l + i) = f i) (h : DrM R bg a T σ) : f_X9_judge_L40 (fun (τ : SS) => some ((-9), τ)) FU 143 (nI l) 0 σ = some (jv f bg a n, σ) := by
  have := search (fun fu i => f_X9_judge_L40 (fun (τ : SS) => some ((-9), τ)) fu 143 (nI l) (nI i) σ) (jp f bg a) (fun i => some (nI i, σ)) (some (-9, σ)) n
    (fun fu => by
      simp (disch := omega) only [f_X9_judge_L40, RM, LN, cl_nI, ck_i]
      rw [e, if_pos ((le_nI (by omega) (by omega)).mpr (Nat.le_refl _))])
    (fun fu i hi => by
      have e40 : (40 : Int32) * nI l + nI i = nI (40 * l + i) := by rw [fa_lit 40, pk_mul, nI_add]
      simp (disch := omega) only [f_X9_judge_L40, RM, LN, cl_nI, ck_i, e, h.1, e40, hf i (by omega), ol_add]
      rw [if_neg (show ¬ nI n ≤ nI i by rw [le_nI (by omega) (by omega)]; omega)]
      by_cases q : i < a
      · rw [if_neg (show ¬ nI a ≤ nI i by rw [le_nI (by omega) (by omega)]; omega), (h.2.2.1 i q).1]
        by_cases q2 : f i = nI (bg i)
        · rw [if_pos q2, if_neg (by unfold jp; simp [q, q2])]
        · rw [if_neg q2, if_pos (by unfold jp; simp [q2])]
      · rw [if_pos (show nI a ≤ nI i by rw [le_nI (by omega) (by omega)]; omega), if_pos (by unfold jp; simp [q])])
    n 0 FU (by omega) (FU_big (by omega))
  refine this.trans ?_
  unfold jv
  split <;> rfl
theorem pc_judge_ok : pc_judge Rel := by
  rintro σ c1 c2 ⟨A, hx, hm, hw⟩
  have hR := hw.1.2.1
  have hN := hw.1.2.2.1
  rcases ix_cases c1 (n := 3) (by omega) with hb | ⟨l, hl, rfl⟩
  · refine both_ref (-1) 1 hx hm hw (fun τ h => ?_) (fun τ h => ?_)
    · obtain ⟨o, ho⟩ := x_wheelE c2 h.1.2.1 hN
      unfold f_X8_judge
      simp only [RD, x_row_bad τ hb, ho, Option.bind_some, x_ref]
    · unfold f_X9_judge
      simp only [m_list_bad hb, if_true, m_ref, Option.bind_some]
  rcases ix_cases c2 (n := rN A.1) (by omega) with hb | ⟨w, hi, rfl⟩
  · refine both_ref (-1) 1 hx hm hw (fun τ h => ?_) (fun τ h => ?_)
    · unfold f_X8_judge
      simp only [RD, x_row τ hl, x_wheel_bad h.1.2.1 hb, Option.bind_some, x_ref]
    · unfold f_X9_judge
      simp only [m_list hl, if_neg one0, m_wheel_bad h.1.2.1 hN hb, if_true, m_ref, Option.bind_some]
  rcases hw.2.2.2.2 l hl with hs | ⟨n, hn, hs⟩
  · refine both_same (-11) hx hm hw (fun τ h => ⟨τ, ?_, fun _ _ _ => rfl⟩) (fun τ h => ⟨τ, ?_, fun _ _ _ => rfl⟩)
    · have e := (h.2.2.2.2.1 l hl).1.trans hs
      unfold f_X8_judge f_X5_isMissing
      simp only [RD, x_row τ hl, x_wheel h.1.2.1 hN hi, Option.bind_some, e, if_neg mone, if_neg one0, x_ref]
    · have e := (h.2.2.2.2.1 l hl).1.trans hs
      unfold f_X9_judge
      simp (disch := omega) only [m_list hl, m_wheel h.1.2.1 hN hi, if_neg one0, RM, LN, cl_nI, ck_i, e, if_neg mone]
  have p0 : (0 : Int32) ≤ nI n := nI_pos' (by omega)
  obtain ⟨a, T, hD⟩ := bgW_D hw.1 hi
  have ha := hD.2.1
  refine both_same (jv (A.2.2.2.2.1.2 l) (bgW A.1 w) a n) hx hm hw (fun τ h => ?_) (fun τ h => ?_)
  · obtain ⟨τ', f1, f2, f3, f4⟩ := x_traceW (Or.inl rfl) h.1 hw.1 hi hD
    refine ⟨τ', ?_, fxD (Or.inl rfl) f3⟩
    have e := (h.2.2.2.2.1 l hl).1.trans hs
    unfold f_X8_judge f_X5_isMissing
    simp only [RD, x_row τ hl, x_wheel h.1.2.1 hN hi, Option.bind_some, e, if_pos p0, if_true, f1]
    exact x_judge61 hl hn (by omega) ((f3 _ _ (by omega)).trans e) (fun i hi => (f3 _ _ (by omega)).trans ((h.2.2.2.2.1 l hl).2 i hi)) f2
  · obtain ⟨τ', f1, f2, f3, f4⟩ := m_drawsW h.1 hw.1 hi hD
    refine ⟨τ', ?_, fmD f3⟩
    have e := (h.2.2.2.2.1 l hl).1.trans hs
    unfold f_X9_judge
    simp (disch := omega) only [m_list hl, m_wheel h.1.2.1 hN hi, if_neg one0, RM, LN, cl_nI, ck_i, e, if_pos p0, f1, Option.bind_some]
    exact m_judge40 hl hn (by omega) ((f3 _ _ (by omega) (by omega)).trans e) (fun i hi => (f3 _ _ (by omega) (by omega)).trans ((h.2.2.2.2.1 l hl).2 i hi)) f2
/-- the first k arcs laid into list l from place j on -/
def layF (g : Nat → Nat → Int32) (l j k : Nat) (bg : Nat → Nat) : Nat → Nat → Int32 := fun a b => if a = l ∧ j ≤ b ∧ b < j + k then nI (bg (b - j)) else g a b
theorem x_lays88 {σ : SS} {l j k a T R kk : Nat} {bg : Nat → Nat} (hl : l < 3) (hk : j + k ≤ 40) (hka : k ≤ a) (ha : a ≤ 60) (h : DrX 116 R kk bg a T σ) :
    ∃ σ', f_X8_lays_L88 (fun (y7 : Int32) (τ : SS) => some (y7, τ)) FU 0 (nI j) (137 + 2 * l) (nI k) 0 σ = some (nI k, σ') ∧ ∀ q b, σ'.1 q b = if q = 138 + 2 * l ∧ j ≤ b ∧ b < j + k then nI (bg (b - j)) else σ.1 q b := by
  have hq := rid_nums hl
  obtain ⟨s, h1, e⟩ := loop_eq (fun fu i (s : SS) => f_X8_lays_L88 (fun (y7 : Int32) (τ : SS) => some (y7, τ)) fu 0 (nI j) (137 + 2 * l) (nI k) (nI i) s) (fun s => some (nI k, s)) k (fun i s => ∀ q b, s.1 q b = if q = 138 + 2 * l ∧ j ≤ b ∧ b < j + i then nI (bg (b - j)) else σ.1 q b)
    (fun fu s _ => by
      simp only [f_X8_lays_L88]
      rw [if_pos ((le_nI (by omega) (by omega)).mpr (Nat.le_refl _))])
    (fun fu i s hi hI => by
      have e1 : s.1 117 i = nI (bg i) := by
        rw [hI, if_neg (by omega)]
        exact (h.2.2.2.2.1 i (by omega)).1
      refine ⟨sI s (138 + 2 * l) (j + i) (nI (bg i)), fun q b => ?_, ?_⟩
      · rw [rI_i]
        by_cases e : q = 138 + 2 * l ∧ b = j + i
        · rw [if_pos e, if_pos ⟨e.1, by omega, by omega⟩, e.2, Nat.add_sub_cancel_left]
        · rw [if_neg e, hI]
          by_cases e2 : q = 138 + 2 * l ∧ j ≤ b ∧ b < j + i
          · rw [if_pos e2, if_pos (by omega)]
          · rw [if_neg e2, if_neg (by omega)]
      · simp (disch := omega) only [f_X8_lays_L88, RD, LN, hq, nI_add, cl_nI, ck_i, e1, ol_add]
        rw [if_neg (show ¬ nI k ≤ nI i by rw [le_nI (by omega) (by omega)]; omega)])
    (fu := FU) (i := 0) (s := σ) (by omega) (FU_big (by omega)) (fun q b => by rw [if_neg (by omega)])
  exact ⟨s, e, h1⟩
theorem m_lays77 {σ : SS} {l j k a T R : Nat} {bg : Nat → Nat} (hl : l < 3) (hk : j + k ≤ 40) (hka : k ≤ a) (ha : a ≤ 60) (h : DrM R bg a T σ) :
    ∃ σ', f_X9_lays__L77 (fun (y4 : Int32) (τ : SS) => some (y4, τ)) FU 143 (nI l) (nI j) (nI k) 0 σ = some (nI k, σ') ∧ ∀ q b, σ'.1 q b = if q = 153 ∧ 40 * l + j ≤ b ∧ b < 40 * l + j + k then nI (bg (b - (40 * l + j))) else σ.1 q b := by
  obtain ⟨s, h1, e⟩ := loop_eq (fun fu i (s : SS) => f_X9_lays__L77 (fun (y4 : Int32) (τ : SS) => some (y4, τ)) fu 143 (nI l) (nI j) (nI k) (nI i) s) (fun s => some (nI k, s)) k (fun i s => ∀ q b, s.1 q b = if q = 153 ∧ 40 * l + j ≤ b ∧ b < 40 * l + j + i then nI (bg (b - (40 * l + j))) else σ.1 q b)
    (fun fu s _ => by
      simp only [f_X9_lays__L77]
      rw [if_pos ((le_nI (by omega) (by omega)).mpr (Nat.le_refl _))])
    (fun fu i s hi hI => by
      have e1 : s.1 159 i = nI (bg i) := by
        rw [hI, if_neg (by omega)]
        exact (h.2.2.1 i (by omega)).1
      have e40 : (40 : Int32) * nI l + nI j + nI i = nI (40 * l + j + i) := by rw [fa_lit 40, pk_mul, nI_add, nI_add]
      refine ⟨sI s 153 (40 * l + j + i) (nI (bg i)), fun q b => ?_, ?_⟩
      · rw [rI_i]
        by_cases e : q = 153 ∧ b = 40 * l + j + i
        · rw [if_pos e, if_pos ⟨e.1, by omega, by omega⟩, e.2, Nat.add_sub_cancel_left]
        · rw [if_neg e, hI]
          by_cases e2 : q = 153 ∧ 40 * l + j ≤ b ∧ b < 40 * l + j + i
          · rw [if_pos e2, if_pos (by omega)]
          · rw [if_neg e2, if_neg (by omega)]
      · simp (disch := omega) only [f_X9_lays__L77, RM, LN, e40, cl_nI, ck_i, e1, ol_add]
        rw [if_neg (show ¬ nI k ≤ nI i by rw [le_nI (by omega) (by omega)]; omega)])
    (fu := FU) (i := 0) (s := σ) (by omega) (FU_big (by omega)) (fun q b => by rw [if_neg (by omega)])
  exact ⟨s, e, h1⟩
theorem pc_lays_ok : pc_lays Rel := by
  rintro σ c1 c2 c3 ⟨A, hx, hm, hw⟩
  have hR := hw.1.2.1
  have hN := hw.1.2.2.1
  rcases ix_cases c1 (n := 3) (by omega) with hb | ⟨l, hl, rfl⟩
  · refine both_ref (-1) 1 hx hm hw (fun τ h => ?_) (fun τ h => ?_)
    · obtain ⟨o, ho⟩ := x_wheelE c3 h.1.2.1 hN
      unfold f_X8_lays
      simp only [RD, x_row_bad τ hb, ho, Option.bind_some, x_ref]
    · unfold f_X9_lays_
      simp only [m_list_bad hb, if_true, m_ref, Option.bind_some]
  rcases ix_cases c3 (n := rN A.1) (by omega) with hb | ⟨w, hi, rfl⟩
  · refine both_ref (-1) 1 hx hm hw (fun τ h => ?_) (fun τ h => ?_)
    · unfold f_X8_lays
      simp only [RD, x_row τ hl, x_wheel_bad h.1.2.1 hb, Option.bind_some, x_ref]
    · unfold f_X9_lays_
      simp only [m_list hl, if_neg one0, m_wheel_bad h.1.2.1 hN hb, if_true, m_ref, Option.bind_some]
  rcases hw.2.2.2.2 l hl with hs | ⟨n, hn, hs⟩
  · refine both_same (-11) hx hm hw (fun τ h => ⟨τ, ?_, fun _ _ _ => rfl⟩) (fun τ h => ⟨τ, ?_, fun _ _ _ => rfl⟩)
    · have e := (h.2.2.2.2.1 l hl).1.trans hs
      unfold f_X8_lays
      simp only [RD, x_row τ hl, x_wheel h.1.2.1 hN hi, Option.bind_some, x_place_m c2 e, if_neg m11, x_ref]
    · have e := (h.2.2.2.2.1 l hl).1.trans hs
      unfold f_X9_lays_
      simp (disch := omega) only [m_list hl, m_wheel h.1.2.1 hN hi, if_neg one0, RM, LN, cl_nI, ck_i, e, if_neg mone]
  have p0 : (0 : Int32) ≤ nI n := nI_pos' (by omega)
  rcases ix_cases c2 (n := n) (by omega) with hb | ⟨j, hj, rfl⟩
  · refine both_same (-13) hx hm hw (fun τ h => ⟨τ, ?_, fun _ _ _ => rfl⟩) (fun τ h => ⟨τ, ?_, fun _ _ _ => rfl⟩)
    · have e := (h.2.2.2.2.1 l hl).1.trans hs
      unfold f_X8_lays
      simp only [RD, x_row τ hl, x_wheel h.1.2.1 hN hi, Option.bind_some, (x_place e hn).2 c2 hb, if_neg m13, x_ref]
    · have e := (h.2.2.2.2.1 l hl).1.trans hs
      unfold f_X9_lays_
      simp (disch := omega) only [m_list hl, m_wheel h.1.2.1 hN hi, if_neg one0, RM, LN, cl_nI, ck_i, e, if_pos p0, within_pred hb, if_true]
  obtain ⟨a, T, hD⟩ := bgW_D hw.1 hi
  have ha := hD.2.1
  have hA' : WF (aLis A (A.2.2.2.2.1.1, layF A.2.2.2.2.1.2 l j (min a (n - j)) (bgW A.1 w))) := hw
  refine both (r := nI (min a (n - j))) hx hm hw hA' (fun τ h => ?_) (fun τ h => ?_)
  · obtain ⟨τ', f1, f2, f3, f4⟩ := x_traceW (Or.inl rfl) h.1 hw.1 hi hD
    obtain ⟨τ2, g1, g2⟩ := x_lays88 (σ := τ') (l := l) (j := j) (k := min a (n - j)) hl (by omega) (by omega) (by omega) f2
    have e := (h.2.2.2.2.1 l hl).1.trans hs
    have e' : τ'.1 (137 + 2 * l) 0 = nI n := (f3 _ _ (by omega)).trans e
    have fr : ∀ q b, (q < 116 ∨ 121 < q) → ¬ (137 ≤ q ∧ q ≤ 142) → τ2.1 q b = τ.1 q b := fun q b hq hq2 => by rw [g2, if_neg (by omega)]; exact f3 q b hq
    obtain ⟨h1', h2', h3', h4', h5', h6'⟩ := h
    refine ⟨τ2, ?_, ⟨h1'.of hw.n1 (fun q j _ _ => fr q j (by omega) (by omega)), h2'.of hw.n2 (fun q j _ => fr q j (by omega) (by omega)), h3'.of hw.n3 (fun q j _ _ => fr q j (by omega) (by omega)), h4'.of (fun q j _ _ => fr q j (by omega) (by omega)), fun x hx' => ⟨?_, fun y hy => ?_⟩, h6'.of (fun j => fr _ j (by omega) (by omega))⟩, fun q j hq => fr q j (by omega) (by omega)⟩
    · unfold f_X8_lays
      simp (disch := omega) only [RD, x_row τ hl, x_wheel h1'.2.1 hN hi, Option.bind_some, (x_place e hn).1 j hj, if_true, f1, f2.2.2.1, e', sub_nI, minN]
      exact g1
    · rw [g2, if_neg (by omega), f3 _ _ (by omega)]
      exact (h5' x hx').1
    · rw [g2]
      show _ = if x = l ∧ j ≤ y ∧ y < j + min a (n - j) then nI (bgW A.1 w (y - j)) else A.2.2.2.2.1.2 x y
      by_cases e2 : x = l ∧ j ≤ y ∧ y < j + min a (n - j)
      · rw [if_pos e2, if_pos ⟨by omega, e2.2⟩]
      · rw [if_neg e2, if_neg (fun z => e2 ⟨by omega, z.2⟩), f3 _ _ (by omega)]
        exact (h5' x hx').2 y hy
  · obtain ⟨τ', f1, f2, f3, f4⟩ := m_drawsW h.1 hw.1 hi hD
    obtain ⟨τ2, g1, g2⟩ := m_lays77 (σ := τ') (l := l) (j := j) (k := min a (n - j)) hl (by omega) (by omega) (by omega) f2
    have e := (h.2.2.2.2.1 l hl).1.trans hs
    have e' : τ'.1 154 l = nI n := (f3 _ _ (by omega) (by omega)).trans e
    have fr : ∀ q b, ¬ (q = 143 ∧ (b = 23 ∨ b = 24)) → (q < 159 ∨ 161 < q) → ¬ q = 153 → τ2.1 q b = τ.1 q b := fun q b hq hq2 hq3 => by rw [g2, if_neg (by omega)]; exact f3 q b hq hq2
    obtain ⟨h1', h2', h3', h4', h5', h6'⟩ := h
    refine ⟨τ2, ?_, ⟨h1'.of hw.n1 (fr _ _ (by omega) (by omega) (by omega)) (fr _ _ (by omega) (by omega) (by omega)) (fun q j _ _ => fr _ _ (by omega) (by omega) (by omega)), h2'.of (fr _ _ (by omega) (by omega) (by omega)) (fun j => fr _ _ (by omega) (by omega) (by omega)), h3'.of (fr _ _ (by omega) (by omega) (by omega)) (fun j => fr _ _ (by omega) (by omega) (by omega)), h4'.of (fr _ _ (by omega) (by omega) (by omega)) (fun j => fr _ _ (by omega) (by omega) (by omega)), fun x hx' => ⟨?_, fun y hy => ?_⟩, h6'.of (fun j => fr _ _ (by omega) (by omega) (by omega))⟩, fun q j hq => fr q j (by omega) (by omega) (by omega)⟩
    · unfold f_X9_lays_
      simp (disch := omega) only [m_list hl, m_wheel h1'.2.1 hN hi, if_neg one0, RM, LN, cl_nI, ck_i, e, if_pos p0, within_in hj, f1, Option.bind_some, f2.1, e', sub_nI, minN]
      exact g1
    · rw [g2, if_neg (by omega), f3 _ _ (by omega) (by omega)]
      exact (h5' x hx').1
    · rw [g2]
      show _ = if x = l ∧ j ≤ y ∧ y < j + min a (n - j) then nI (bgW A.1 w (y - j)) else A.2.2.2.2.1.2 x y
      by_cases e2 : x = l ∧ j ≤ y ∧ y < j + min a (n - j)
      · rw [if_pos e2, if_pos ⟨rfl, by omega, by omega⟩]
        congr 2
        omega
      · rw [if_neg e2, if_neg (fun z => e2 ⟨by omega, by omega, by omega⟩), f3 _ _ (by omega) (by omega)]
        exact (h5' x hx').2 y hy
