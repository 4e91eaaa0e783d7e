/-! the arcs of a drawing: the orbit's first repetition -/
theorem pig : ∀ (R : Nat) (f : Nat → Nat), (∀ i, i ≤ R → f i < R) → ∃ j, j ≤ R ∧ ∃ i, i < j ∧ f i = f j := by
  intro R
  induction R with
  | zero => intro f hf; exact absurd (hf 0 (Nat.le_refl 0)) (by omega)
  | succ R ih =>
    intro f hf
    by_cases h : ∃ i, i < R + 1 ∧ f i = f (R + 1)
    · exact ⟨R + 1, Nat.le_refl _, h⟩
    · have hn : ∀ i, i < R + 1 → ¬ f i = f (R + 1) := fun i hi e => h ⟨i, hi, e⟩
      have hv := hf (R + 1) (Nat.le_refl _)
      obtain ⟨j, hj, i, hi, e⟩ := ih (fun i => if f i = R then f (R + 1) else f i) (fun i hi => by
        have h1 := hf i (by omega)
        have h2 := hn i (by omega)
        show (if f i = R then f (R + 1) else f i) < R
        split <;> omega)
      refine ⟨j, by omega, i, hi, ?_⟩
      have h2 := hn i (by omega)
      have h3 := hn j (by omega)
      have e : (if f i = R then f (R + 1) else f i) = (if f j = R then f (R + 1) else f j) := e
      split at e <;> split at e <;> omega
theorem leastN (P : Nat → Prop) : ∀ n, (∃ j, j ≤ n ∧ P j) → ∃ j, j ≤ n ∧ P j ∧ ∀ k, k < j → ¬ P k := by
  intro n
  induction n with
  | zero => rintro ⟨j, hj, h⟩; exact ⟨j, hj, h, fun k hk => by omega⟩
  | succ n ih =>
    intro ⟨j, hj, h⟩
    by_cases q : ∃ j, j ≤ n ∧ P j
    · obtain ⟨a, b, c, d⟩ := ih q
      exact ⟨a, by omega, c, d⟩
    · exact ⟨j, hj, h, fun k hk z => q ⟨k, by omega, z⟩⟩
def bgF (F : Nat → Nat) (p : Nat) : Nat → Nat
  | 0 => p
  | i + 1 => F (bgF F p i)
/-- A arcs, the first T of them leading in -/
def IsD (R : Nat) (bg : Nat → Nat) (A T : Nat) : Prop := 1 ≤ A ∧ A ≤ R ∧ T < A ∧ bg A = bg T ∧ (∀ i j, i < A → j < A → bg i = bg j → i = j) ∧ ∀ i, bg i < R
theorem bgF_lt {F : Nat → Nat} {p R : Nat} (hp : p < R) (hF : ∀ t, t < R → F t < R) : ∀ i, bgF F p i < R := by
  intro i
  induction i with
  | zero => exact hp
  | succ i ih => exact hF _ ih
theorem IsD.ex {bg : Nat → Nat} {R : Nat} (h : ∀ i, bg i < R) : ∃ A T, IsD R bg A T := by
  obtain ⟨A, hA, ⟨T, hT, e⟩, hmin⟩ := leastN (fun j => ∃ i, i < j ∧ bg i = bg j) R (by
    obtain ⟨j, hj, i, hi, e⟩ := pig R bg (fun i _ => h i)
    exact ⟨j, hj, i, hi, e⟩)
  refine ⟨A, T, by omega, hA, hT, e.symm, fun i j hi hj he => ?_, h⟩
  rcases Nat.lt_trichotomy i j with q | q | q
  · exact absurd ⟨i, q, he⟩ (hmin j hj)
  · exact q
  · exact absurd ⟨j, q, he.symm⟩ (hmin i hi)
theorem IsD.fresh {bg : Nat → Nat} {R A T i : Nat} (h : IsD R bg A T) (hi : i < A) : ∀ k, k < i → ¬ bg k = bg i := fun k hk e => by
  have := h.2.2.2.2.1 k i (by omega) hi e
  omega
