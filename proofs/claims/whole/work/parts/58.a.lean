/-! sheet: its form -/
def dg (c : Nat) : Nat := if c = 97 then 3 else if c = 103 then 3 else if c = 114 then 2 else if c = 119 then 7 else if c = 120 then 2 else 0
/-- the first letter with which no sheet goes on, k letters from the end, st: outside (0), or within with so many digits less one; z + 1 if there is none -/
def am (z : Nat) (L : Nat → Nat) : Nat → Nat → Nat
  | 0, st => if st = 0 then z + 1 else z
  | k + 1, 0 => if dg (L (z - (k + 1))) = 0 then z - (k + 1) else am z L k (dg (L (z - (k + 1))) + 1)
  | k + 1, 1 => if L (z - (k + 1)) = 59 then am z L k 0 else z - (k + 1)
  | k + 1, d + 2 => if 48 ≤ L (z - (k + 1)) ∧ L (z - (k + 1)) ≤ 57 then am z L k (d + 1) else z - (k + 1)
theorem dg_le (c : Nat) : dg c ≤ 7 := by unfold dg; (repeat' split) <;> omega
theorem x_dg {c : Nat} (hc : c ≤ 255) : f_X1_digitsBehind (nI c) = if dg c = 0 then -9 else nI (dg c) := by
  unfold f_X1_digitsBehind dg
  rw [fa_lit 97, fa_lit 103, fa_lit 114, fa_lit 119, fa_lit 120]
  simp (disch := omega) only [eq_nI]
  repeat' split
  all_goals first | rfl | (exfalso; omega)
theorem m_dg {c : Nat} (hc : c ≤ 255) : f_X9_digitsOf (nI c) = if dg c = 0 then -1 else nI (dg c) := by
  unfold f_X9_digitsOf dg
  rw [fa_lit 97, fa_lit 103, fa_lit 114, fa_lit 119, fa_lit 120]
  simp (disch := omega) only [eq_nI]
  repeat' split
  all_goals first | rfl | (exfalso; omega)
theorem am_le (z : Nat) (L : Nat → Nat) : ∀ k st, k ≤ z → am z L k st ≤ z + 1 := by
  intro k
  induction k with
  | zero => intro st _; unfold am; split <;> omega
  | succ k ih =>
    intro st hk
    cases st with
    | zero => unfold am; split; omega; exact ih _ (by omega)
    | succ st =>
      cases st with
      | zero => unfold am; split; exact ih _ (by omega); omega
      | succ d => unfold am; split; exact ih _ (by omega); omega
theorem dec1 : ∀ d, d < 20 → nI (d + 1) + (-1) = nI d := by decide +kernel
theorem x_mis6 {σ : SS} {z : Nat} {L : Nat → Nat} (hz : z ≤ 72) (h1 : σ.1 113 1 = nI z) (hL : ∀ i, i < z → σ.1 114 i = nI (L i)) (hL2 : ∀ i, L i ≤ 255) :
    ∀ k st fu (x2 : Int32), k ≤ z → k < fu → st ≤ 9 → (∀ d, st = d + 1 → x2 = nI d) → f_X1_firstMisplaced_L6 σ (fun (p0 : Nat) (y1 : Int32) => if y1 = 0 then if (σ.1 p0 1) = 0 then some (σ.1 p0 1) else some (-9) else some (σ.1 p0 1)) fu 113 (if st = 0 then 0 else 1) x2 (nI (z - k)) = some (if am z L k st ≤ z then nI (am z L k st) else if z = 0 then 0 else -9) := by
  intro k
  induction k with
  | zero =>
    intro st fu x2 hk hf hst hd
    obtain ⟨fu, rfl⟩ : ∃ y, fu = y + 1 := ⟨fu - 1, by omega⟩
    simp only [f_X1_firstMisplaced_L6, Nat.sub_zero]
    rw [h1, if_pos ((le_nI (by omega) (by omega)).mpr (Nat.le_refl _))]
    cases st with
    | zero =>
      rw [show am z L 0 0 = z + 1 from rfl, if_neg (show ¬ z + 1 ≤ z by omega), if_pos rfl, if_pos rfl]
      by_cases e : z = 0
      · rw [if_pos e, if_pos (by rw [e]; rfl), e]; rfl
      · rw [if_neg e, if_neg (by rw [eq_nI0 (by omega)]; exact e)]
    | succ st =>
      rw [show am z L 0 (st + 1) = z from rfl, if_pos (Nat.le_refl z), if_neg (Nat.succ_ne_zero st), if_neg one0]
  | succ k ih =>
    intro st fu x2 hk hf hst hd
    obtain ⟨fu, rfl⟩ : ∃ y, fu = y + 1 := ⟨fu - 1, by omega⟩
    have hp : z - (k + 1) < z := by omega
    have hb := hL2 (z - (k + 1))
    have en : z - (k + 1) + 1 = z - k := by omega
    have hdg := dg_le (L (z - (k + 1)))
    simp (disch := omega) only [f_X1_firstMisplaced_L6, RD, LN, cl_nI, ck_i, hL _ hp]
    rw [h1, if_neg (show ¬ nI z ≤ nI (z - (k + 1)) by rw [le_nI (by omega) (by omega)]; omega)]
    cases st with
    | zero =>
      rw [if_pos rfl, if_pos rfl, x_dg hb]
      by_cases e : dg (L (z - (k + 1))) = 0
      · rw [if_pos e, if_pos rfl, show am z L (k + 1) 0 = z - (k + 1) from if_pos e, if_pos (by omega)]
      · rw [if_neg e, if_neg (ne_m9 (by omega)), show am z L (k + 1) 0 = am z L k (dg (L (z - (k + 1))) + 1) from if_neg e, ol_add (n := 1), en]
        have := ih (dg (L (z - (k + 1))) + 1) fu (nI (dg (L (z - (k + 1))))) (by omega) (by omega) (by omega) (fun d hd => by rw [show dg (L (z - (k + 1))) = d by omega])
        rw [if_neg (Nat.succ_ne_zero _)] at this
        exact this
    | succ st =>
      rw [if_neg (Nat.succ_ne_zero st), if_neg one0]
      cases st with
      | zero =>
        rw [hd 0 rfl, if_pos (show nI 0 ≤ 0 by decide), fa_lit 59]
        by_cases e : L (z - (k + 1)) = 59
        · rw [if_pos (congrArg nI e), show am z L (k + 1) (0 + 1) = am z L k 0 from if_pos e, ol_add (n := 1), en]
          have := ih 0 fu (nI 0) (by omega) (by omega) (by omega) (fun d hd => by omega)
          rw [if_pos rfl] at this
          exact this
        · rw [if_neg (fun q => e ((eq_nI (by omega) (by omega)).mp q)), show am z L (k + 1) (0 + 1) = z - (k + 1) from if_neg e, if_pos (by omega)]
      | succ d =>
        rw [hd (d + 1) rfl, if_neg (show ¬ nI (d + 1) ≤ 0 by rw [le_nI0 (by omega)]; omega), fa_lit 48, fa_lit 57]
        by_cases e1 : L (z - (k + 1)) < 48
        · rw [if_pos ((lt_nI (by omega) (by omega)).mpr e1), show am z L (k + 1) (d + 1 + 1) = z - (k + 1) from if_neg (by omega), if_pos (by omega)]
        · rw [if_neg (fun q => e1 ((lt_nI (by omega) (by omega)).mp q))]
          by_cases e2 : L (z - (k + 1)) ≤ 57
          · rw [if_pos ((le_nI (by omega) (by omega)).mpr e2), show am z L (k + 1) (d + 1 + 1) = am z L k (d + 1) from if_pos ⟨by omega, e2⟩, ol_add (n := 1), en, dec1 d (by omega)]
            have := ih (d + 1) fu (nI d) (by omega) (by omega) (by omega) (fun d' hd => by rw [show d = d' by omega])
            rw [if_neg (Nat.succ_ne_zero _)] at this
            exact this
          · rw [if_neg (fun q => e2 ((le_nI (by omega) (by omega)).mp q)), show am z L (k + 1) (d + 1 + 1) = z - (k + 1) from if_neg (by omega), if_pos (by omega)]
theorem x_mis {σ : SS} {z : Nat} {L : Nat → Nat} (hz : z ≤ 72) (h1 : σ.1 113 1 = nI z) (hL : ∀ i, i < z → σ.1 114 i = nI (L i)) (hL2 : ∀ i, L i ≤ 255) : f_X1_firstMisplaced 113 σ = some (if am z L z 0 ≤ z then nI (am z L z 0) else if z = 0 then 0 else -9) := by
  have := x_mis6 hz h1 hL hL2 z 0 FU 0 (Nat.le_refl z) (FU_big (by omega)) (by omega) (fun d hd => by omega)
  rw [if_pos rfl, Nat.sub_self] at this
  exact this
theorem m_bad11 {σ : SS} {z : Nat} {L : Nat → Nat} (hz : z ≤ 72) (h1 : σ.1 143 11 = nI z) (hL : ∀ i, i < z → σ.1 152 i = nI (L i)) (hL2 : ∀ i, L i ≤ 255) :
    ∀ r, r ≤ z → (∀ fu, r < fu → f_X9_badLetter_L11 σ (fun (_ : Unit) => some (-1)) fu 143 (nI (z - r)) = some (if am z L r 0 ≤ z then nI (am z L r 0) else -1)) ∧ (∀ fu fi i n k, r < fu → n + 1 - k < fi → 1 ≤ k → k ≤ n + 1 → n ≤ 7 → i + k = z - r → f_X9_badLetter_L37 σ (fun (p0 : Nat) (y1 : Int32) (y2 : Int32) => if (σ.1 p0 11) ≤ (y1 + (y2 + 1)) then some (y1 + (y2 + 1)) else ck (¬ ((y1 + (y2 + 1)) < 0 ∨ ln (rid p0 10) ≤ (y1 + (y2 + 1)).toNatClampNeg)) (if (σ.1 (rid p0 10) (y1 + (y2 + 1)).toNatClampNeg) = 59 then f_X9_badLetter_L11 σ (fun (_ : Unit) => some (-1)) fu p0 ((y1 + (y2 + 1)) + 1) else some (y1 + (y2 + 1)))) fi 143 (nI i) (nI n) (nI k) = some (if am z L r (n + 2 - k) ≤ z then nI (am z L r (n + 2 - k)) else -1)) := by
  intro r
  induction r with
  | zero =>
    intro _
    refine ⟨fun fu hf => ?_, fun fu fi i n k hf hfi hk hk2 hn hi => ?_⟩
    · obtain ⟨fu, rfl⟩ : ∃ y, fu = y + 1 := ⟨fu - 1, by omega⟩
      simp only [f_X9_badLetter_L11, Nat.sub_zero]
      rw [h1, if_pos ((le_nI (by omega) (by omega)).mpr (Nat.le_refl _)), show am z L 0 0 = z + 1 from rfl, if_neg (by omega)]
    · obtain ⟨fi, rfl⟩ : ∃ y, fi = y + 1 := ⟨fi - 1, by omega⟩
      have ea : am z L 0 (n + 2 - k) = z := if_neg (by omega)
      rw [ea, if_pos (Nat.le_refl z)]
      simp only [f_X9_badLetter_L37]
      by_cases e : k = n + 1
      · rw [if_pos (show nI n < nI k by rw [lt_nI (by omega) (by omega)]; omega), ol_add (n := 1), nI_add, h1, if_pos ((le_nI (by omega) (by omega)).mpr (by omega)), show i + (n + 1) = z by omega]
      · rw [if_neg (show ¬ nI n < nI k by rw [lt_nI (by omega) (by omega)]; omega), nI_add, h1, if_pos ((le_nI (by omega) (by omega)).mpr (by omega)), show i + k = z by omega]
  | succ r ih =>
    intro hr
    obtain ⟨ih1, ih2⟩ := ih (by omega)
    have hp : z - (r + 1) < z := by omega
    have hb := hL2 (z - (r + 1))
    have en : z - (r + 1) + 1 = z - r := by omega
    have hdg := dg_le (L (z - (r + 1)))
    have hl := hL _ hp
    refine ⟨fun fu hf => ?_, fun fu fi i n k hf hfi hk hk2 hn hi => ?_⟩
    · obtain ⟨fu, rfl⟩ : ∃ y, fu = y + 1 := ⟨fu - 1, by omega⟩
      simp (disch := omega) only [f_X9_badLetter_L11, RM, LN, cl_nI, ck_i, hl]
      rw [h1, if_neg (show ¬ nI z ≤ nI (z - (r + 1)) by rw [le_nI (by omega) (by omega)]; omega), m_dg hb]
      by_cases e : dg (L (z - (r + 1))) = 0
      · rw [if_pos e, if_neg (show ¬ (0 : Int32) ≤ -1 by decide), show am z L (r + 1) 0 = z - (r + 1) from if_pos e, if_pos (by omega)]
      · rw [if_neg e, if_pos (nI_pos' (by omega)), show am z L (r + 1) 0 = am z L r (dg (L (z - (r + 1))) + 1) from if_neg e]
        have := ih2 fu FU (z - (r + 1)) (dg (L (z - (r + 1)))) 1 (by omega) (FU_big (by omega)) (by omega) (by omega) hdg en
        exact this
    · obtain ⟨fi, rfl⟩ : ∃ y, fi = y + 1 := ⟨fi - 1, by omega⟩
      simp only [f_X9_badLetter_L37]
      by_cases e : k = n + 1
      · rw [if_pos (show nI n < nI k by rw [lt_nI (by omega) (by omega)]; omega), ol_add (n := 1), nI_add, h1, if_neg (show ¬ nI z ≤ nI (i + (n + 1)) by rw [le_nI (by omega) (by omega)]; omega), show i + (n + 1) = z - (r + 1) by omega, show n + 2 - k = 1 by omega]
        simp (disch := omega) only [RM, LN, cl_nI, ck_i, hl]
        rw [fa_lit 59]
        by_cases q : L (z - (r + 1)) = 59
        · rw [if_pos (congrArg nI q), show am z L (r + 1) 1 = am z L r 0 from if_pos q, ol_add (n := 1), en]
          exact ih1 fu (by omega)
        · rw [if_neg (fun y => q ((eq_nI (by omega) (by omega)).mp y)), show am z L (r + 1) 1 = z - (r + 1) from if_neg q, if_pos (by omega)]
      · rw [if_neg (show ¬ nI n < nI k by rw [lt_nI (by omega) (by omega)]; omega), nI_add, h1, if_neg (show ¬ nI z ≤ nI (i + k) by rw [le_nI (by omega) (by omega)]; omega), show i + k = z - (r + 1) by omega]
        obtain ⟨d, hd⟩ : ∃ d, n + 2 - k = d + 2 := ⟨n - k, by omega⟩
        rw [hd]
        have hw : f_X9_within (nI (L (z - (r + 1)))) 48 57 = if 48 ≤ L (z - (r + 1)) ∧ L (z - (r + 1)) ≤ 57 then 1 else 0 := by
          by_cases q : 48 ≤ L (z - (r + 1)) ∧ L (z - (r + 1)) ≤ 57
          · rw [if_pos q]; exact within_ok (a := 48) (b := 57) q.1 q.2 (by omega)
          · rw [if_neg q]; exact within_no (a := 48) (b := 57) (by omega) (by omega) (by omega) (by omega)
        simp (disch := omega) only [RM, LN, cl_nI, ck_i, hl, hw]
        by_cases q : 48 ≤ L (z - (r + 1)) ∧ L (z - (r + 1)) ≤ 57
        · rw [if_pos q, if_neg one0, show am z L (r + 1) (d + 2) = am z L r (d + 1) from if_pos q, ol_add (n := 1)]
          have := ih2 fu fi i n (k + 1) (by omega) (by omega) (by omega) (by omega) hn (by omega)
          rw [show n + 2 - (k + 1) = d + 1 by omega] at this
          exact this
        · rw [if_neg q, if_pos rfl, show am z L (r + 1) (d + 2) = z - (r + 1) from if_neg q, if_pos (by omega)]
theorem m_bad {σ : SS} {z : Nat} {L : Nat → Nat} (hz : z ≤ 72) (h1 : σ.1 143 11 = nI z) (hL : ∀ i, i < z → σ.1 152 i = nI (L i)) (hL2 : ∀ i, L i ≤ 255) : f_X9_badLetter 143 σ = some (if z = 0 then 0 else if am z L z 0 ≤ z then nI (am z L z 0) else -1) := by
  unfold f_X9_badLetter
  rw [h1]
  by_cases e : z = 0
  · rw [if_pos e, if_pos (by rw [e]; rfl)]
  · rw [if_neg e, if_neg (by rw [eq_nI0 (by omega)]; exact e)]
    have := (m_bad11 hz h1 hL hL2 z (Nat.le_refl z)).1 FU (FU_big (by omega))
    rw [Nat.sub_self] at this
    exact this
