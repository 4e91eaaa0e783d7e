/-! sheet: all its statements -/
def gr (z : Nat) (L : Nat → Nat) : Nat → Nat → RG → Nat → Sum (RG × Nat) Nat
  | 0, _, ρ, m => .inl (ρ, m)
  | k + 1, i, ρ, m => if z ≤ i then .inl (ρ, m) else (match dd ρ L i with | none => .inr i | some ρ' => gr z L k (i + dg (L i) + 2) ρ' (m + 1))
theorem neg2000 : ∀ b, b < 80 → (-2000 : Int32) - nI b < 0 ∧ (-1000 : Int32) - nI b < 0 ∧ (-1000 : Int32) - (1000 + nI b) = (-2000) - nI b ∧ (0 : Int32) ≤ 1000 + nI b := by decide +kernel
theorem x_skip {σ : SS} {z m : Nat} {L : Nat → Nat} {κ : Nat → Int32 → SS → Option (Int32 × SS)} (hz : z ≤ 72) (h1 : σ.1 113 1 = nI z) (hL : ∀ i, i < z → σ.1 114 i = nI (L i)) (hL2 : ∀ i, L i ≤ 255) (hm : m ≤ 1000) :
    ∀ c q fu, 1 ≤ q → q + c ≤ z → (∀ j, j < c → ¬ L (q + j - 1) = 59) → f_X8_sheet_L37 κ (fu + c) 0 (nI m) (nI q) σ = f_X8_sheet_L37 κ fu 0 (nI m) (nI (q + c)) σ := by
  intro c
  induction c with
  | zero => intro q fu _ _ _; rfl
  | succ c ih =>
    intro q fu h1q hqz h59
    have hb := hL2 (q - 1)
    have e1 : nI q - 1 = nI (q - 1) := ol_sub (n := 1) h1q
    have hne := h59 0 (by omega)
    rw [Nat.add_zero] at hne
    rw [show fu + (c + 1) = fu + c + 1 by omega]
    have ebs : f_X1_beginsStatement 113 (nI q) σ = some 0 := by
      unfold f_X1_beginsStatement
      rw [if_neg (show ¬ nI q = 0 by rw [eq_nI0 (by omega)]; omega), if_neg (show ¬ nI q ≤ 0 by rw [le_nI0 (by omega)]; omega), h1, if_neg (show ¬ nI z ≤ nI q by rw [le_nI (by omega) (by omega)]; omega), e1]
      simp (disch := omega) only [RD, LN, cl_nI, ck_i, hL (q - 1) (by omega)]
      rw [fa_lit 59, if_neg (fun y => hne ((eq_nI (by omega) (by omega)).mp y))]
    simp only [f_X8_sheet_L37, RD]
    rw [h1, if_neg (show ¬ nI z ≤ nI q by rw [le_nI (by omega) (by omega)]; omega), if_neg (nlt_m (by omega)), ebs, Option.bind_some, if_pos rfl, ol_add (n := 1), ih (q + 1) fu (by omega) (by omega) (fun j hj => by
      have := h59 (j + 1) (by omega)
      rw [show q + (j + 1) - 1 = q + 1 + j - 1 by omega] at this
      exact this), show q + 1 + c = q + (c + 1) by omega]
theorem grs_ok {z : Nat} {L : Nat → Nat} : ∀ k i ρ m, WR ρ → i ≤ z → am z L (z - i) 0 = z + 1 → (∀ ρ' m', gr z L k i ρ m = .inl (ρ', m') → WR ρ') ∧ ∀ b, gr z L k i ρ m = .inr b → b < z := by
  intro k
  induction k with
  | zero =>
    intro i ρ m hw _ _
    exact ⟨fun ρ' m' h => (by cases h; exact hw), fun b h => (by cases h)⟩
  | succ k ih =>
    intro i ρ m hw hi ha
    unfold gr
    by_cases e : z ≤ i
    · rw [if_pos e]
      exact ⟨fun ρ' m' h => (by cases h; exact hw), fun b h => (by cases h)⟩
    · rw [if_neg e]
      obtain ⟨hs, ha'⟩ := am_group (by omega) ha
      cases hd : dd ρ L i with
      | none => exact ⟨fun ρ' m' h => (by cases h), fun b h => (by cases h; omega)⟩
      | some ρ1 =>
        have := hs.2.1
        exact ih _ ρ1 _ (dd_ok hw hs hd) (by omega) ha'
theorem x_run {z : Nat} {L : Nat → Nat} {κ : Nat → Int32 → SS → Option (Int32 × SS)} (hz : z ≤ 72) (hL2 : ∀ i, L i ≤ 255) :
    ∀ k i ρ m σ fu, z - i < k → i ≤ z → am z L (z - i) 0 = z + 1 → WR ρ → (i = 0 ∨ L (i - 1) = 59) → m ≤ i → X1 ρ σ → σ.1 113 1 = nI z → (∀ i, i < z → σ.1 114 i = nI (L i)) → z - i < fu →
    ∃ σ', F10 σ σ' ∧ (match gr z L k i ρ m with | .inl (ρ', m') => f_X8_sheet_L37 κ fu 0 (nI m) (nI i) σ = κ 0 (nI m') σ' ∧ X1 ρ' σ' ∧ m' ≤ z | .inr b => f_X8_sheet_L37 κ fu 0 (nI m) (nI i) σ = κ 0 ((-2000) - nI b) σ') := by
  intro k
  induction k with
  | zero => intro i ρ m σ fu h; omega
  | succ k ih =>
    intro i ρ m σ fu hk hi ha hw h59 hm hX h1 hL hf
    obtain ⟨fu, rfl⟩ : ∃ y, fu = y + 1 := ⟨fu - 1, by omega⟩
    unfold gr
    by_cases e : z ≤ i
    · rw [if_pos e]
      refine ⟨σ, fun _ _ _ => rfl, ?_, hX, by omega⟩
      simp only [f_X8_sheet_L37, RD]
      rw [h1, if_pos ((le_nI (by omega) (by omega)).mpr e)]
    · rw [if_neg e]
      obtain ⟨hs, ha'⟩ := am_group (by omega) ha
      have hlt := hs.2.1
      have hb := hL2 (i - 1)
      obtain ⟨σ', hd, hF⟩ := x_deed hz hX hw h1 hL hL2 hs
      have ebs : f_X1_beginsStatement 113 (nI i) σ = some 1 := by
        unfold f_X1_beginsStatement
        by_cases e0 : i = 0
        · rw [if_pos (show nI i = 0 by rw [e0]; rfl)]
        · have e1 : nI i - 1 = nI (i - 1) := ol_sub (n := 1) (by omega)
          have e59 := h59.resolve_left e0
          rw [if_neg (show ¬ nI i = 0 by rw [eq_nI0 (by omega)]; exact e0), if_neg (show ¬ nI i ≤ 0 by rw [le_nI0 (by omega)]; omega), h1, if_neg (show ¬ nI z ≤ nI i by rw [le_nI (by omega) (by omega)]; omega), e1]
          simp (disch := omega) only [RD, LN, cl_nI, ck_i, hL (i - 1) (by omega)]
          rw [fa_lit 59, if_pos (congrArg nI e59)]
      have st : ∀ v, f_X1_comesTrue 113 (nI i) 1 σ = some (v, σ') → f_X8_sheet_L37 κ (fu + 1) 0 (nI m) (nI i) σ = if v = 0 then f_X8_sheet_L37 κ fu 0 ((-2000) - nI i) (nI (i + 1)) σ' else f_X8_sheet_L37 κ fu 0 (nI (m + 1)) (nI (i + 1)) σ' := fun v hv => by
        simp only [f_X8_sheet_L37, RD]
        rw [h1, if_neg (show ¬ nI z ≤ nI i by rw [le_nI (by omega) (by omega)]; omega), if_neg (nlt_m (by omega)), ebs, Option.bind_some, if_neg one0, hv, Option.bind_some, ol_add, ol_add]
      have h1' : σ'.1 113 1 = nI z := (hF _ _ (by omega)).trans h1
      have hL' : ∀ j, j < z → σ'.1 114 j = nI (L j) := fun j hj => (hF _ _ (by omega)).trans (hL j hj)
      rcases hd with ⟨ρ1, d1, d2, d3⟩ | ⟨d1, d2⟩
      · simp only [d1]
        have hs7 := dg_le (L i)
        obtain ⟨fu', rfl⟩ : ∃ y, fu = y + (dg (L i) + 1) := ⟨fu - (dg (L i) + 1), by omega⟩
        have sk := x_skip (m := m + 1) (κ := κ) hz h1' hL' hL2 (by omega) (dg (L i) + 1) (i + 1) fu' (by omega) (by omega) (fun j hj => by
          rw [show i + 1 + j - 1 = i + j by omega]
          cases j with
          | zero =>
            intro q
            rw [Nat.add_zero] at q
            exact hs.1 (by rw [q]; decide)
          | succ j =>
            have := hs.2.2.1 (j + 1) (by omega) (by omega)
            omega)
        obtain ⟨s2, g1, g2⟩ := ih (i + dg (L i) + 2) ρ1 (m + 1) σ' fu' (by omega) (by omega) ha' (dd_ok hw hs d1) (Or.inr (by rw [show i + dg (L i) + 2 - 1 = i + dg (L i) + 1 by omega]; exact hs.2.2.2)) (by omega) d3 h1' hL' (by omega)
        refine ⟨s2, fun q j hq => (g1 q j hq).trans (hF q j hq), ?_⟩
        have key : f_X8_sheet_L37 κ (fu' + (dg (L i) + 1) + 1) 0 (nI m) (nI i) σ = f_X8_sheet_L37 κ fu' 0 (nI (m + 1)) (nI (i + dg (L i) + 2)) σ' := by
          rw [st 1 d2, if_neg one0, sk, show i + 1 + (dg (L i) + 1) = i + dg (L i) + 2 by omega]
        rw [key]
        exact g2
      · simp only [d1]
        refine ⟨σ', hF, ?_⟩
        rw [st 0 d2, if_pos rfl]
        obtain ⟨fu', rfl⟩ : ∃ y, fu = y + 1 := ⟨fu - 1, by omega⟩
        simp only [f_X8_sheet_L37, RD]
        rw [h1']
        split
        · rfl
        · rw [if_pos (neg2000 i (by omega)).1]
theorem m_run {z : Nat} {L : Nat → Nat} {κ : Nat → Int32 → Int32 → SS → Option (Int32 × SS)} (hz : z ≤ 72) (hL2 : ∀ i, L i ≤ 255) :
    ∀ k i ρ m σ fu, z - i < k → i ≤ z → am z L (z - i) 0 = z + 1 → WR ρ → m ≤ i → M1 ρ σ → σ.1 143 11 = nI z → (∀ i, i < z → σ.1 152 i = nI (L i)) → z - i < fu →
    ∃ σ', FM5 σ σ' ∧ (match gr z L k i ρ m with | .inl (ρ', m') => f_X9_sheet_L21 κ fu 143 (-1) (nI m) (nI i) σ = κ 143 (-1) (nI m') σ' ∧ M1 ρ' σ' | .inr b => ∃ m', f_X9_sheet_L21 κ fu 143 (-1) (nI m) (nI i) σ = κ 143 (1000 + nI b) m' σ') := by
  intro k
  induction k with
  | zero => intro i ρ m σ fu h; omega
  | succ k ih =>
    intro i ρ m σ fu hk hi ha hw hm hX h1 hL hf
    obtain ⟨fu, rfl⟩ : ∃ y, fu = y + 1 := ⟨fu - 1, by omega⟩
    unfold gr
    by_cases e : z ≤ i
    · rw [if_pos e]
      refine ⟨σ, fun _ _ _ _ => rfl, ?_, hX⟩
      simp only [f_X9_sheet_L21]
      rw [h1, if_pos ((le_nI (by omega) (by omega)).mpr e)]
    · rw [if_neg e]
      obtain ⟨hs, ha'⟩ := am_group (by omega) ha
      have hlt := hs.2.1
      have hb := hL2 i
      have hs7 := dg_le (L i)
      obtain ⟨σ', hd, hF⟩ := m_deed hz hX hw hL hL2 hs
      have h1' : σ'.1 143 11 = nI z := (hF _ _ (by omega) (by omega)).trans h1
      have hL' : ∀ j, j < z → σ'.1 152 j = nI (L j) := fun j hj => (hF _ _ (by omega) (by omega)).trans (hL j hj)
      have edg : f_X9_digitsOf (nI (L i)) = nI (dg (L i)) := by rw [m_dg hb, if_neg hs.1]
      have st : ∀ v, f_X9_does 143 (nI i) σ = some (v, σ') → f_X9_sheet_L21 κ (fu + 1) 143 (-1) (nI m) (nI i) σ = if v = 0 then f_X9_sheet_L21 κ fu 143 (1000 + nI i) (nI m) (nI (i + dg (L i) + 2)) σ' else f_X9_sheet_L21 κ fu 143 (-1) (nI (m + 1)) (nI (i + dg (L i) + 2)) σ' := fun v hv => by
        simp only [f_X9_sheet_L21, RM, LN, jn2]
        rw [h1, if_neg (show ¬ nI z ≤ nI i by rw [le_nI (by omega) (by omega)]; omega), if_neg mone, hv, Option.bind_some]
        simp (disch := omega) only [cl_nI, ck_i, hL' i (by omega), edg, ol_add, nI_add, ← Nat.add_assoc]
      rcases hd with ⟨ρ1, d1, d2, d3⟩ | ⟨d1, d2⟩
      · simp only [d1]
        obtain ⟨s2, g1, g2⟩ := ih (i + dg (L i) + 2) ρ1 (m + 1) σ' fu (by omega) (by omega) ha' (dd_ok hw hs d1) (by omega) d3 h1' hL' (by omega)
        refine ⟨s2, fun q j hq hq2 => (g1 q j hq hq2).trans (hF q j hq hq2), ?_⟩
        rw [st 1 d2, if_neg one0]
        exact g2
      · simp only [d1]
        refine ⟨σ', hF, nI m, ?_⟩
        rw [st 0 d2, if_pos rfl]
        obtain ⟨fu', rfl⟩ : ∃ y, fu = y + 1 := ⟨fu - 1, by omega⟩
        simp only [f_X9_sheet_L21]
        rw [h1']
        split
        · rfl
        · rw [if_pos (neg2000 i (by omega)).2.2.2]
