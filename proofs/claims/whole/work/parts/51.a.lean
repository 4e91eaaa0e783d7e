/-! cusps, gaps, rounds, the arc that crosses most -/
def cu (bg : Nat → Nat) : Nat → Nat → Bool
  | 0, _ => false
  | A + 1, t => decide (bg A = t) || cu bg A t
theorem cu_iff {bg : Nat → Nat} {t : Nat} : ∀ A, cu bg A t = true ↔ ∃ i, i < A ∧ bg i = t
  | 0 => ⟨fun h => (Bool.false_ne_true h).elim, fun ⟨i, hi, _⟩ => absurd hi (Nat.not_lt_zero _)⟩
  | A + 1 => by
    unfold cu
    rw [Bool.or_eq_true, decide_eq_true_eq, cu_iff A]
    constructor
    · rintro (h | ⟨i, hi, h⟩)
      · exact ⟨A, by omega, h⟩
      · exact ⟨i, by omega, h⟩
    · rintro ⟨i, hi, h⟩
      by_cases e : i = A
      · subst e; exact Or.inl h
      · exact Or.inr ⟨i, by omega, h⟩
theorem AFr.yes {no : Int32} {bg : Nat → Nat} {A R t : Nat} {f : Nat → Int32} (h : AFr no bg A R f) (hc : cu bg A t = true) : ∃ i, i < A ∧ f t = nI i := by
  obtain ⟨i, hi, e⟩ := (cu_iff A).mp hc
  exact ⟨i, hi, by rw [← e]; exact h.1 i hi⟩
theorem AFr.no {no : Int32} {bg : Nat → Nat} {A R t : Nat} {f : Nat → Int32} (h : AFr no bg A R f) (ht : t < R) (hc : ¬ cu bg A t = true) : f t = no := h.2 t ht (fun i hi e => hc ((cu_iff A).mpr ⟨i, hi, e⟩))
theorem until1 {β : Type} (g : Nat → Nat → β) (p : Nat → Bool) (hit : Nat → β) (n : Nat) (hs : ∀ fu i, i < n → g (fu + 1) i = if p i = true then hit i else g fu (i + 1)) :
    ∀ k i fu, i + k = n → k < fu → fstF p i k < n → g fu i = hit (fstF p i k) := by
  intro k
  induction k with
  | zero =>
    intro i fu hi hf h
    have : fstF p i 0 = i := rfl
    omega
  | succ k ih =>
    intro i fu hi hf h
    obtain ⟨fu, rfl⟩ : ∃ z, fu = z + 1 := ⟨fu - 1, by omega⟩
    rw [hs fu i (by omega)]
    unfold fstF at h ⊢
    by_cases hp : p i = true
    · rw [if_pos hp, if_pos hp]
    · rw [if_neg hp] at h
      rw [if_neg hp, if_neg hp]
      exact ih (i + 1) fu (by omega) (by omega) h
theorem fstF_shift (p : Nat → Bool) : ∀ k i, fstF p (i + 1) k = fstF (fun j => p (j + 1)) i k + 1
  | 0, _ => rfl
  | k + 1, i => by
    unfold fstF
    split
    · rfl
    · exact fstF_shift p k (i + 1)
theorem fstF_hit {p : Nat → Bool} {k i j : Nat} (h1 : i ≤ j) (h2 : j < i + k) (h : p j = true) : fstF p i k ≤ j := by
  rcases Nat.lt_or_ge j (fstF p i k) with q | q
  · exact absurd h ((fstF_spec p k i).2 j h1 q)
  · exact q
theorem round_to {R t c : Nat} (ht : t ≤ R) (hc : c < R) : ∃ i, i < R ∧ (t + i) % R = c := by
  rcases Nat.lt_or_ge c t with h | h
  · refine ⟨c + R - t, by omega, ?_⟩
    rw [show t + (c + R - t) = c + R by omega, Nat.add_mod_right, Nat.mod_eq_of_lt hc]
  · refine ⟨c - t, by omega, ?_⟩
    rw [show t + (c - t) = c by omega, Nat.mod_eq_of_lt hc]
/-- how far the first cusp is from a tooth on; how far the next one is above it -/
def nc (bg : Nat → Nat) (A R t : Nat) : Nat := fstF (fun i => cu bg A ((t + i) % R)) 0 R
def gp (bg : Nat → Nat) (A R t : Nat) : Nat := nc bg A R (t + 1) + 1
theorem nc_lt {bg : Nat → Nat} {A R t : Nat} (hA : 1 ≤ A) (hb : ∀ i, bg i < R) (ht : t ≤ R) : nc bg A R t < R := by
  obtain ⟨i, hi, e⟩ := round_to ht (hb 0)
  have h1 : cu bg A ((t + i) % R) = true := (cu_iff A).mpr ⟨0, by omega, e.symm⟩
  have := fstF_hit (p := fun i => cu bg A ((t + i) % R)) (k := R) (i := 0) (j := i) (by omega) (by omega) h1
  unfold nc
  omega
theorem x_cuspFrom {d R k A T t : Nat} {bg : Nat → Nat} {σ : SS} (hd : d = 116 ∨ d = 122) (h : DrX d R k bg A T σ) (hR : 1 ≤ R) (hR2 : R ≤ 60) (hA1 : 1 ≤ A) (hA : A ≤ 60) (hb : ∀ i, bg i < R) (ht : t ≤ R) : f_X0_cuspFrom d (nI t) σ = some (nI ((t + nc bg A R t) % R)) := by
  obtain ⟨r5, r6, r7, r8, l1, l2, l3, l4⟩ := rid_dd hd
  have hn := nc_lt hA1 hb ht
  unfold f_X0_cuspFrom
  have := search (fun fu i => f_X0_cuspFrom_L2 σ (fun y1 => some y1) fu d (nI t) (nI i)) (fun i => cu bg A ((t + i) % R)) (fun i => some (nI ((t + i) % R))) (some (nI t)) R
    (fun fu => by
      simp only [f_X0_cuspFrom_L2]
      rw [h.1, if_pos ((le_nI (by omega) (by omega)).mpr (Nat.le_refl _))])
    (fun fu i hi => by
      have hm : (t + i) % R < R := Nat.mod_lt _ hR
      simp (disch := omega) only [f_X0_cuspFrom_L2, r8, l4, h.1, nI_add, mod_nat, cl_nI, ck_i, ol_add]
      rw [if_neg (show ¬ nI R ≤ nI i by rw [le_nI (by omega) (by omega)]; omega)]
      by_cases hc : cu bg A ((t + i) % R) = true
      · obtain ⟨j, hj, e⟩ := h.2.2.2.2.2.1.yes hc
        rw [e, if_neg (ne_m9 (by omega)), if_pos hc]
      · rw [h.2.2.2.2.2.1.no hm hc, if_pos rfl, if_neg hc])
    R 0 FU (by omega) (FU_big (by omega))
  exact this.trans (if_pos hn)
theorem gp_bd {bg : Nat → Nat} {A R t : Nat} (hA : 1 ≤ A) (hb : ∀ i, bg i < R) (ht : t < R) : 1 ≤ gp bg A R t ∧ gp bg A R t ≤ R := by
  have := nc_lt (t := t + 1) hA hb (by omega)
  unfold gp
  omega
theorem x_gapAbove {d R k A T t : Nat} {bg : Nat → Nat} {σ : SS} (hd : d = 116 ∨ d = 122) (h : DrX d R k bg A T σ) (hR : 1 ≤ R) (hR2 : R ≤ 60) (hA1 : 1 ≤ A) (hA : A ≤ 60) (hb : ∀ i, bg i < R) (ht : t < R) : f_X0_gapAbove d (nI t) σ = some (nI (gp bg A R t)) := by
  have hn := nc_lt (t := t + 1) hA1 hb (by omega)
  have hm : (t + 1 + nc bg A R (t + 1)) % R < R := Nat.mod_lt _ hR
  have e : (((t + 1 + nc bg A R (t + 1)) % R) + (1 * R - t)) % R = gp bg A R t % R := by
    rw [Nat.mod_add_mod, show t + 1 + nc bg A R (t + 1) + (1 * R - t) = gp bg A R t + R by unfold gp; omega, Nat.add_mod_right]
  unfold f_X0_gapAbove
  rw [ol_add (n := 1), x_cuspFrom hd h hR hR2 hA1 hA hb (by omega), Option.bind_some, h.1, mod_sub 1 (by omega) (by omega) (by omega) (by omega) (by omega), e]
  have hg := gp_bd (t := t) hA1 hb ht
  by_cases q : gp bg A R t = R
  · rw [q, Nat.mod_self]
    exact if_pos rfl
  · rw [Nat.mod_eq_of_lt (by omega), if_neg (by rw [eq_nI0 (by omega)]; omega)]
theorem m_gapFrom {R A T t : Nat} {bg : Nat → Nat} {σ : SS} (h0 : σ.1 143 0 = nI R) (h : DrM R bg A T σ) (hR : 1 ≤ R) (hR2 : R ≤ 60) (hA1 : 1 ≤ A) (hA : A ≤ 60) (hb : ∀ i, bg i < R) (ht : t < R) : f_X9_gapFrom 143 (nI t) σ = some (nI (gp bg A R t)) := by
  have hn := nc_lt (t := t + 1) hA1 hb (by omega)
  have hz : ¬ nI R = 0 := by rw [eq_nI0 (by omega)]; omega
  have e : fstF (fun i => cu bg A ((t + i) % R)) 1 R = gp bg A R t := by
    rw [fstF_shift]
    unfold gp nc
    congr 2
    funext j
    rw [show t + (j + 1) = t + 1 + j by omega]
  unfold f_X9_gapFrom
  have := until1 (fun fu i => f_X9_gapFrom_L2 σ (fun y2 => some y2) fu 143 (nI t) (nI i)) (fun i => cu bg A ((t + i) % R)) (fun i => some (nI i)) (R + 1)
    (fun fu i hi => by
      have hm : (t + i) % R < R := Nat.mod_lt _ hR
      simp only [f_X9_gapFrom_L2, RM, LN, h0]
      rw [ck_pos hz, nI_add, rem_nI (by omega) (by omega) (by omega), ck_nI (by omega) (by omega), cl_nI (by omega)]
      by_cases hc : cu bg A ((t + i) % R) = true
      · obtain ⟨j, hj, e⟩ := h.2.2.2.yes hc
        rw [e, if_pos (nI_pos' (by omega)), if_pos hc]
      · rw [h.2.2.2.no hm hc, if_neg mone, if_neg hc, ol_add])
    R 1 FU (by omega) (FU_big (by omega)) (by rw [e]; unfold gp; omega)
  rw [e] at this
  exact this
/-- of the first n cusps the one with the widest gap above it -/
def wd (p : Nat → Bool) (g : Nat → Nat) : Nat → Option Nat
  | 0 => none
  | n + 1 => if p n = true then (match wd p g n with | none => some n | some b => if g b < g n then some n else some b) else wd p g n
theorem wd_lt (p : Nat → Bool) (g : Nat → Nat) : ∀ n b, wd p g n = some b → b < n := by
  intro n
  induction n with
  | zero => intro b h; cases h
  | succ n ih =>
    intro b h
    unfold wd at h
    cases e : wd p g n with
    | none =>
      rw [e] at h
      by_cases hp : p n = true
      · rw [if_pos hp] at h; cases h; omega
      · rw [if_neg hp] at h; cases h
    | some c =>
      rw [e] at h
      have := ih c e
      by_cases hp : p n = true
      · rw [if_pos hp] at h
        by_cases hg : g c < g n
        · simp only [if_pos hg] at h; cases h; omega
        · simp only [if_neg hg] at h; cases h; omega
      · rw [if_neg hp] at h; cases h; omega
theorem wd_none (p : Nat → Bool) (g : Nat → Nat) : ∀ n, (∀ i, i < n → ¬ p i = true) → wd p g n = none
  | 0, _ => rfl
  | n + 1, h => by
    unfold wd
    rw [if_neg (h n (by omega))]
    exact wd_none p g n (fun i hi => h i (by omega))
theorem wd_no {p : Nat → Bool} {g : Nat → Nat} {n : Nat} (h : ¬ p n = true) : wd p g (n + 1) = wd p g n := if_neg h
theorem wd_new {p : Nat → Bool} {g : Nat → Nat} {n : Nat} (h : p n = true) (h2 : wd p g n = none) : wd p g (n + 1) = some n := by
  unfold wd
  rw [if_pos h]
  simp only [h2]
theorem wd_keep {p : Nat → Bool} {g : Nat → Nat} {n b : Nat} (h2 : wd p g n = some b) (hg : ¬ g b < g n) : wd p g (n + 1) = some b := by
  unfold wd
  simp only [h2, if_neg hg]
  split <;> rfl
theorem wd_more {p : Nat → Bool} {g : Nat → Nat} {n b : Nat} (h : p n = true) (h2 : wd p g n = some b) (hg : g b < g n) : wd p g (n + 1) = some n := by
  unfold wd
  rw [if_pos h]
  simp only [h2, if_pos hg]
theorem wd_first {p : Nat → Bool} {g : Nat → Nat} {c : Nat} (hc : p c = true) (hn : ∀ i, i < c → ¬ p i = true) : wd p g (c + 1) = some c := wd_new hc (wd_none p g c hn)
theorem x_cuspOfGap {d R k A T : Nat} {bg : Nat → Nat} {σ : SS} (hd : d = 116 ∨ d = 122) (h : DrX d R k bg A T σ) (hR : 1 ≤ R) (hR2 : R ≤ 60) (hA1 : 1 ≤ A) (hA : A ≤ 60) (hb : ∀ i, bg i < R) : ∃ b, b < R ∧ wd (cu bg A) (gp bg A R) R = some b ∧ f_X0_cuspOfGap d σ = some (nI b) := by
  obtain ⟨r5, r6, r7, r8, l1, l2, l3, l4⟩ := rid_dd hd
  have hn := nc_lt (t := 0) hA1 hb (by omega)
  have hc := x_cuspFrom (t := 0) hd h hR hR2 hA1 hA hb (by omega)
  rw [Nat.zero_add, Nat.mod_eq_of_lt hn] at hc
  have hs := fstF_spec (fun i => cu bg A ((0 + i) % R)) R 0
  have hc1 : cu bg A (nc bg A R 0) = true := by
    have := hs.1 (by unfold nc at hn; omega)
    have e : (0 + fstF (fun i => cu bg A ((0 + i) % R)) 0 R) % R = nc bg A R 0 := by
      rw [Nat.zero_add]
      exact Nat.mod_eq_of_lt hn
    rw [e] at this
    exact this
  have hc2 : ∀ i, i < nc bg A R 0 → ¬ cu bg A i = true := fun i hi => by
    have := hs.2 i (by omega) hi
    rw [Nat.zero_add, Nat.mod_eq_of_lt (by omega)] at this
    exact this
  unfold f_X0_cuspOfGap
  rw [show (0 : Int32) = nI 0 from rfl, hc, Option.bind_some, ol_add (n := 1)]
  obtain ⟨b, h1, e⟩ := loop_eq (fun fu i (s : Nat) => f_X0_cuspOfGap_L10 σ (fun y1 => some y1) fu d (nI s) (nI i)) (fun s => some (nI s)) R (fun i s => wd (cu bg A) (gp bg A R) i = some s)
    (fun fu s _ => by
      simp only [f_X0_cuspOfGap_L10]
      rw [h.1, if_pos ((le_nI (by omega) (by omega)).mpr (Nat.le_refl _))])
    (fun fu i s hi hI => by
      have hs := wd_lt _ _ _ _ hI
      simp (disch := omega) only [f_X0_cuspOfGap_L10, r8, l4, h.1, cl_nI, ck_i, ol_add]
      rw [if_neg (show ¬ nI R ≤ nI i by rw [le_nI (by omega) (by omega)]; omega)]
      by_cases hc : cu bg A i = true
      · obtain ⟨j, hj, e⟩ := h.2.2.2.2.2.1.yes hc
        have g1 := gp_bd (t := i) hA1 hb hi
        have g2 := gp_bd (t := s) hA1 hb (by omega)
        rw [e, if_neg (ne_m9 (by omega)), x_gapAbove hd h hR hR2 hA1 hA hb hi, x_gapAbove hd h hR hR2 hA1 hA hb (by omega), Option.bind_some, Option.bind_some]
        by_cases hg : gp bg A R s < gp bg A R i
        · rw [if_neg (by rw [le_nI (by omega) (by omega)]; omega)]
          exact ⟨i, wd_more hc hI hg, rfl⟩
        · rw [if_pos (by rw [le_nI (by omega) (by omega)]; omega)]
          exact ⟨s, wd_keep hI hg, rfl⟩
      · rw [h.2.2.2.2.2.1.no hi hc, if_pos rfl]
        exact ⟨s, (wd_no hc).trans hI, rfl⟩)
    (fu := FU) (i := nc bg A R 0 + 1) (s := nc bg A R 0) (by omega) (FU_big (by omega)) (wd_first hc1 hc2)
  exact ⟨b, wd_lt _ _ _ _ h1, h1, e⟩
theorem m_widest {R A T b : Nat} {bg : Nat → Nat} {σ : SS} (h0 : σ.1 143 0 = nI R) (h : DrM R bg A T σ) (hR : 1 ≤ R) (hR2 : R ≤ 60) (hA1 : 1 ≤ A) (hA : A ≤ 60) (hb : ∀ i, bg i < R) (hw : wd (cu bg A) (gp bg A R) R = some b) : f_X9_widest 143 σ = some (nI b) := by
  unfold f_X9_widest
  obtain ⟨o, h1, e⟩ := loop_eq (fun fu i (s : Option Nat) => f_X9_widest_L5 σ (fun y1 => some y1) fu 143 (oI s) (nI i)) (fun s => some (oI s)) R (fun i s => wd (cu bg A) (gp bg A R) i = s)
    (fun fu s _ => by
      simp only [f_X9_widest_L5]
      rw [h0, if_pos ((le_nI (by omega) (by omega)).mpr (Nat.le_refl _))])
    (fun fu i s hi hI => by
      simp (disch := omega) only [f_X9_widest_L5, RM, LN, h0, cl_nI, ck_i, ol_add]
      rw [if_neg (show ¬ nI R ≤ nI i by rw [le_nI (by omega) (by omega)]; omega)]
      by_cases hc : cu bg A i = true
      · obtain ⟨j, hj, e⟩ := h.2.2.2.yes hc
        rw [e, if_neg (nlt_m (by omega))]
        cases s with
        | none =>
          refine ⟨some i, wd_new hc hI, ?_⟩
          show (if (-9 : Int32) < 0 then _ else _) = _
          rw [if_pos m9_neg]
          rfl
        | some s =>
          have hs := wd_lt _ _ _ _ hI
          have g1 := gp_bd (t := i) hA1 hb hi
          have g2 := gp_bd (t := s) hA1 hb (by omega)
          show ∃ s', _ ∧ (if nI s < 0 then _ else (f_X9_gapFrom 143 (nI i) σ).bind fun z5 => (f_X9_gapFrom 143 (nI s) σ).bind fun z7 => _) = _
          rw [if_neg (nlt_m (by omega)), m_gapFrom h0 h hR hR2 hA1 hA hb hi, m_gapFrom h0 h hR hR2 hA1 hA hb (show s < R by omega), Option.bind_some, Option.bind_some]
          by_cases hg : gp bg A R s < gp bg A R i
          · rw [if_neg (by rw [le_nI (by omega) (by omega)]; omega)]
            exact ⟨some i, wd_more hc hI hg, rfl⟩
          · rw [if_pos (by rw [le_nI (by omega) (by omega)]; omega)]
            exact ⟨some s, wd_keep hI hg, rfl⟩
      · rw [h.2.2.2.no hi hc, if_pos (show (-1 : Int32) < 0 by decide)]
        exact ⟨s, (wd_no hc).trans hI, rfl⟩)
    (fu := FU) (i := 0) (s := none) (by omega) (FU_big (by omega)) rfl
  rw [← h1, hw] at e
  exact e
