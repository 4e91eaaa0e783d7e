/-! sheet: its groups, its numbers -/
theorem am_digits {z : Nat} {L : Nat → Nat} : ∀ d k, k ≤ z → am z L k (d + 1) = z + 1 → d < k ∧ (∀ j, j < d → 48 ≤ L (z - k + j) ∧ L (z - k + j) ≤ 57) ∧ L (z - k + d) = 59 ∧ am z L (k - d - 1) 0 = z + 1 := by
  intro d
  induction d with
  | zero =>
    intro k hk h
    cases k with
    | zero => exact absurd (show z = z + 1 from h) (by omega)
    | succ k =>
      by_cases e : L (z - (k + 1)) = 59
      · rw [show am z L (k + 1) (0 + 1) = am z L k 0 from if_pos e] at h
        exact ⟨by omega, fun j hj => by omega, e, h⟩
      · rw [show am z L (k + 1) (0 + 1) = z - (k + 1) from if_neg e] at h
        omega
  | succ d ih =>
    intro k hk h
    cases k with
    | zero => exact absurd (show z = z + 1 from h) (by omega)
    | succ k =>
      by_cases e : 48 ≤ L (z - (k + 1)) ∧ L (z - (k + 1)) ≤ 57
      · rw [show am z L (k + 1) (d + 1 + 1) = am z L k (d + 1) from if_pos e] at h
        obtain ⟨h1, h2, h3, h4⟩ := ih k (by omega) h
        refine ⟨by omega, fun j hj => ?_, ?_, ?_⟩
        · cases j with
          | zero => exact e
          | succ j =>
            have := h2 j (by omega)
            rw [show z - (k + 1) + (j + 1) = z - k + j by omega]
            exact this
        · rw [show z - (k + 1) + (d + 1) = z - k + d by omega]; exact h3
        · rw [show k + 1 - (d + 1) - 1 = k - d - 1 by omega]; exact h4
      · rw [show am z L (k + 1) (d + 1 + 1) = z - (k + 1) from if_neg e] at h
        omega
/-- a statement begins at i, and is whole -/
def St (z : Nat) (L : Nat → Nat) (i : Nat) : Prop := ¬ dg (L i) = 0 ∧ i + dg (L i) + 1 < z ∧ (∀ j, 1 ≤ j → j ≤ dg (L i) → 48 ≤ L (i + j) ∧ L (i + j) ≤ 57) ∧ L (i + dg (L i) + 1) = 59
theorem am_group {z i : Nat} {L : Nat → Nat} (hi : i < z) (h : am z L (z - i) 0 = z + 1) : St z L i ∧ am z L (z - (i + dg (L i) + 2)) 0 = z + 1 := by
  obtain ⟨k, hk⟩ : ∃ k, z - i = k + 1 := ⟨z - i - 1, by omega⟩
  rw [hk] at h
  have ei : z - (k + 1) = i := by omega
  by_cases e : dg (L i) = 0
  · rw [show am z L (k + 1) 0 = z - (k + 1) from if_pos (by rw [ei]; exact e)] at h
    omega
  · rw [show am z L (k + 1) 0 = am z L k (dg (L (z - (k + 1))) + 1) from if_neg (by rw [ei]; exact e), ei] at h
    obtain ⟨h1, h2, h3, h4⟩ := am_digits _ _ (by omega) h
    refine ⟨⟨e, by omega, fun j hj1 hj2 => ?_, ?_⟩, ?_⟩
    · have := h2 (j - 1) (by omega)
      rw [show z - k + (j - 1) = i + j by omega] at this
      exact this
    · rw [show z - k + dg (L i) = i + dg (L i) + 1 by omega] at h3
      exact h3
    · rw [show k - dg (L i) - 1 = z - (i + dg (L i) + 2) by omega] at h4
      exact h4
def nmF (L : Nat → Nat) (p : Nat) : Nat → Nat
  | 0 => 0
  | j + 1 => nmF L p j * 10 + (L (p + j) - 48)
def one' (L : Nat → Nat) (p : Nat) : Nat := L p - 48
def two' (L : Nat → Nat) (p : Nat) : Nat := 10 * (L p - 48) + (L (p + 1) - 48)
theorem x_num {σ : SS} {z p m : Nat} {L : Nat → Nat} (hz : z ≤ 72) (h1 : σ.1 113 1 = nI z) (hL : ∀ i, i < z → σ.1 114 i = nI (L i)) (hp : p + m ≤ z) (hd : ∀ j, j < m → 48 ≤ L (p + j)) : f_X1_number 113 (nI p) (nI m) σ = some (nI (nmF L p m)) := by
  unfold f_X1_number
  have := loop_fix (fun fu j => f_X1_number_L5 σ (fun y3 => some y3) fu 113 (nI p) (nI m) (nI (nmF L p j)) (nI (p + j))) (some (nI (nmF L p m))) m
    (fun fu => by
      simp only [f_X1_number_L5]
      rw [nI_add, if_pos ((le_nI (by omega) (by omega)).mpr (Nat.le_refl _))])
    (fun fu j hj => by
      have h48 := hd j hj
      simp (disch := omega) only [f_X1_number_L5, jn1, RD, LN, cl_nI, ck_i, hL (p + j) (by omega), nI_add]
      rw [if_neg (show ¬ nI (p + m) ≤ nI (p + j) by rw [le_nI (by omega) (by omega)]; omega), if_neg (nlt_m (by omega)), h1, if_neg (show ¬ nI z ≤ nI (p + j) by rw [le_nI (by omega) (by omega)]; omega), fa_lit 48, sub_nI h48, fa_lit 10, pk_mul, nI_add, ol_add]
      rfl)
    (fu := FU) (i := 0) (by omega) (FU_big (by omega))
  exact this
theorem x_num1 {σ : SS} {z p : Nat} {L : Nat → Nat} (hz : z ≤ 72) (h1 : σ.1 113 1 = nI z) (hL : ∀ i, i < z → σ.1 114 i = nI (L i)) (hp : p < z) (hd : 48 ≤ L p) : f_X1_number 113 (nI p) 1 σ = some (nI (one' L p)) := by
  have := x_num (m := 1) (p := p) hz h1 hL (by omega) (fun j hj => by rw [show p + j = p by omega]; exact hd)
  rw [show nmF L p 1 = one' L p by simp [nmF, one']] at this
  exact this
theorem x_num2 {σ : SS} {z p : Nat} {L : Nat → Nat} (hz : z ≤ 72) (h1 : σ.1 113 1 = nI z) (hL : ∀ i, i < z → σ.1 114 i = nI (L i)) (hp : p + 1 < z) (hd : 48 ≤ L p) (hd2 : 48 ≤ L (p + 1)) : f_X1_number 113 (nI p) 2 σ = some (nI (two' L p)) := by
  have := x_num (m := 2) (p := p) hz h1 hL (by omega) (fun j hj => by
    rcases (show j = 0 ∨ j = 1 by omega) with rfl | rfl
    · exact hd
    · exact hd2)
  rw [show nmF L p 2 = two' L p by simp [nmF, two']; omega] at this
  exact this
theorem m_one {σ : SS} {z p : Nat} {L : Nat → Nat} (hz : z ≤ 72) (hL : ∀ i, i < z → σ.1 152 i = nI (L i)) (hp : p < z) (hd : 48 ≤ L p) : f_X9_one 143 (nI p) σ = some (nI (one' L p)) := by
  unfold f_X9_one
  simp (disch := omega) only [RM, LN, cl_nI, ck_i, hL p hp]
  rw [fa_lit 48, sub_nI hd]
  rfl
theorem m_two {σ : SS} {z p : Nat} {L : Nat → Nat} (hz : z ≤ 72) (hL : ∀ i, i < z → σ.1 152 i = nI (L i)) (hp : p + 1 < z) (hd : 48 ≤ L p) (hd2 : 48 ≤ L (p + 1)) : f_X9_two 143 (nI p) σ = some (nI (two' L p)) := by
  unfold f_X9_two
  rw [m_one hz hL (by omega) hd, Option.bind_some, ol_add (n := 1), m_one hz hL hp hd2, Option.bind_some, fa_lit 10, pk_mul, nI_add]
  rfl
/-- what a statement does to a ring; none: it can't -/
def dd (ρ : RG) (L : Nat → Nat) (i : Nat) : Option RG :=
  if L i = 97 then (if one' L (i + 1) < rN ρ ∧ two' L (i + 2) < rT ρ then some (rPut ρ (one' L (i + 1)) 4 (two' L (i + 2))) else none)
  else if L i = 114 then (if 3 ≤ two' L (i + 1) ∧ two' L (i + 1) ≤ 60 ∧ fitN ρ (two' L (i + 1)) (rN ρ) = 1 then some (rNew ρ (two' L (i + 1))) else none)
  else if L i = 119 then (if one' L (i + 1) ≤ 5 ∧ 1 ≤ two' L (i + 2) ∧ two' L (i + 2) < rT ρ ∧ two' L (i + 5) < rT ρ ∧ 1 ≤ one' L (i + 7) ∧ rN ρ < 6 then some (rAdd ρ (wf6 (one' L (i + 1)) (two' L (i + 2)) (one' L (i + 4)) (one' L (i + 7)) (two' L (i + 5)))) else none)
  else if L i = 120 then (if two' L (i + 1) < rT ρ then some (rMend ρ (two' L (i + 1))) else none)
  else (if one' L (i + 1) < rN ρ ∧ 1 ≤ two' L (i + 2) ∧ two' L (i + 2) ≤ 40 then some (rRo ρ (one' L (i + 1)) (two' L (i + 2))) else none)
theorem WR.mend {ρ : RG} {t : Nat} (hw : WR ρ) : WR (rMend ρ t) := by
  obtain ⟨w1, w2, w3, w4, w5, w6⟩ := hw
  refine ⟨w1, w2, w3, w4, fun a => ?_, w6⟩
  show (if a = t then 1 - rW ρ a else rW ρ a) ≤ 1
  have := w5 a
  split <;> omega
theorem X1.mend {ρ : RG} {σ : SS} {t : Nat} (h : X1 ρ σ) : X1 (rMend ρ t) (sI σ 3 t (nI (1 - rW ρ t))) := by
  refine ⟨(rI_q (by omega)).trans h.1, (rI_q (by omega)).trans h.2.1, fun a ha => (rI_q (by omega)).trans (h.2.2.1 a ha), fun a ha => ?_, fun i hi' j hj => (rI_q (by omega)).trans (h.2.2.2.2 i hi' j hj)⟩
  rw [rI_i]
  show _ = nI (if a = t then 1 - rW ρ a else rW ρ a)
  by_cases e : a = t
  · rw [if_pos ⟨rfl, e⟩, if_pos e, e]
  · rw [if_neg (fun z => e z.2), if_neg e]
    exact h.2.2.2.1 a ha
theorem M1.mend {ρ : RG} {σ : SS} {t : Nat} (h : M1 ρ σ) : M1 (rMend ρ t) (sI σ 144 t (nI (1 - rW ρ t))) := by
  refine ⟨(rI_q (by omega)).trans h.1, (rI_q (by omega)).trans h.2.1, fun a ha => (rI_q (by omega)).trans (h.2.2.1 a ha), fun a ha => ?_, fun i hi' j hj => (rI_q (by omega)).trans (h.2.2.2.2 i hi' j hj)⟩
  rw [rI_i]
  show _ = nI (if a = t then 1 - rW ρ a else rW ρ a)
  by_cases e : a = t
  · rw [if_pos ⟨rfl, e⟩, if_pos e, e]
  · rw [if_neg (fun z => e z.2), if_neg e]
    exact h.2.2.2.1 a ha
theorem St.num {z i : Nat} {L : Nat → Nat} (h : St z L i) : (∀ j, 1 ≤ j → j ≤ dg (L i) → 48 ≤ L (i + j) ∧ one' L (i + j) ≤ 9) ∧ ∀ j, 1 ≤ j → j + 1 ≤ dg (L i) → two' L (i + j) ≤ 99 := by
  constructor
  · intro j h1 h2
    have := h.2.2.1 j h1 h2
    unfold one'
    omega
  · intro j h1 h2
    have a := h.2.2.1 j h1 (by omega)
    have b := h.2.2.1 (j + 1) (by omega) h2
    rw [show i + (j + 1) = i + j + 1 by omega] at b
    unfold two'
    omega
theorem dd_ok {ρ ρ' : RG} {z i : Nat} {L : Nat → Nat} (hw : WR ρ) (hs : St z L i) (h : dd ρ L i = some ρ') : WR ρ' := by
  obtain ⟨n1, n2⟩ := hs.num
  unfold dd at h
  by_cases e1 : L i = 97
  · rw [if_pos e1] at h
    split at h
    · rename_i c
      cases h
      exact hw.put4 c.2
    · cases h
  rw [if_neg e1] at h
  by_cases e2 : L i = 114
  · rw [if_pos e2] at h
    split at h
    · rename_i c
      cases h
      exact rNew_ok hw c.1 c.2.1 c.2.2
    · cases h
  rw [if_neg e2] at h
  by_cases e3 : L i = 119
  · rw [if_pos e3] at h
    have hd : dg (L i) = 7 := by rw [e3]; decide
    have q1 := (n1 4 (by omega) (by omega)).2
    have q2 := (n1 7 (by omega) (by omega)).2
    split at h
    · rename_i c
      cases h
      exact rAdd_ok hw c.2.2.2.2.2 c.1 c.2.1 c.2.2.1 q1 c.2.2.2.2.1 q2 c.2.2.2.1
    · cases h
  rw [if_neg e3] at h
  by_cases e4 : L i = 120
  · rw [if_pos e4] at h
    split at h
    · cases h
      exact hw.mend
    · cases h
  rw [if_neg e4] at h
  split at h
  · cases h
    exact (rRo_ok hw _ _).1
  · cases h
