/-! meet -/
theorem cnt1 (p : Nat → Bool) : ∀ n, 1 ≤ cnt p n ↔ ∃ a, a < n ∧ p a = true
  | 0 => ⟨fun h => absurd h (by simp [cnt]), fun ⟨a, h, _⟩ => absurd h (by omega)⟩
  | n + 1 => by
    have ih := cnt1 p n
    by_cases h : p n = true
    · rw [cnt_yes h]
      exact ⟨fun _ => ⟨n, by omega, h⟩, fun _ => by omega⟩
    · rw [cnt_no h, ih]
      constructor
      · rintro ⟨a, h1, h2⟩
        exact ⟨a, by omega, h2⟩
      · rintro ⟨a, h1, h2⟩
        by_cases e : a = n
        · subst e; exact absurd h2 h
        · exact ⟨a, by omega, h2⟩
theorem cnt2 (p : Nat → Bool) : ∀ n, 2 ≤ cnt p n ↔ ∃ a b, a < b ∧ b < n ∧ p a = true ∧ p b = true
  | 0 => ⟨fun h => absurd h (by simp [cnt]), fun ⟨a, b, _, h, _⟩ => absurd h (by omega)⟩
  | n + 1 => by
    have ih := cnt2 p n
    by_cases h : p n = true
    · rw [cnt_yes h]
      constructor
      · intro q
        obtain ⟨a, h1, h2⟩ := (cnt1 p n).mp (by omega)
        exact ⟨a, n, h1, by omega, h2, h⟩
      · rintro ⟨a, b, h1, h2, h3, h4⟩
        have := (cnt1 p n).mpr ⟨a, by omega, h3⟩
        omega
    · rw [cnt_no h, ih]
      constructor
      · rintro ⟨a, b, h1, h2, h3, h4⟩
        exact ⟨a, b, h1, by omega, h3, h4⟩
      · rintro ⟨a, b, h1, h2, h3, h4⟩
        by_cases e : b = n
        · subst e; exact absurd h4 h
        · exact ⟨a, b, h1, by omega, h3, h4⟩
def mm (P : Nat → Bool) (pos : Nat → Nat) (a b : Nat) : Prop := P a = true ∧ P b = true ∧ pos a = pos b
/-- the least of the meeting teeth, of the pairs ahead of (i, k) -/
def MI (P : Nat → Bool) (pos : Nat → Nat) (i k : Nat) (o : Option Nat) : Prop := (∀ u, o = some u → ∃ a b, a < b ∧ b < 6 ∧ mm P pos a b ∧ pos a = u) ∧ ∀ a b, a < b → b < 6 → mm P pos a b → (a < i ∨ (a = i ∧ b < k)) → ∃ u, o = some u ∧ u ≤ pos a
theorem MI.no {P : Nat → Bool} {pos : Nat → Nat} {i k : Nat} {o : Option Nat} (h : MI P pos i k o) (hn : ¬ mm P pos i k) : MI P pos i (k + 1) o := ⟨h.1, fun a b h1 h2 h3 h4 => by
  by_cases e : a = i ∧ b = k
  · obtain ⟨rfl, rfl⟩ := e
    exact absurd h3 hn
  · exact h.2 a b h1 h2 h3 (by omega)⟩
def mst (o : Option Nat) (t : Nat) : Option Nat := match o with | none => some t | some u => if u ≤ t then some u else some t
theorem MI.yes {P : Nat → Bool} {pos : Nat → Nat} {i k : Nat} {o : Option Nat} (h : MI P pos i k o) (hik : i < k) (hk : k < 6) (hm : mm P pos i k) : MI P pos i (k + 1) (mst o (pos i)) := by
  refine ⟨fun u hu => ?_, fun a b h1 h2 h3 h4 => ?_⟩
  · cases o with
    | none =>
      cases hu
      exact ⟨i, k, hik, hk, hm, rfl⟩
    | some v =>
      unfold mst at hu
      by_cases q : v ≤ pos i
      · simp only [if_pos q] at hu
        cases hu
        exact h.1 _ rfl
      · simp only [if_neg q] at hu
        cases hu
        exact ⟨i, k, hik, hk, hm, rfl⟩
  · have key : ∃ u, mst o (pos i) = some u ∧ u ≤ pos i ∧ ∀ v, o = some v → u ≤ v := by
      cases o with
      | none => exact ⟨pos i, rfl, Nat.le_refl _, fun v hv => by cases hv⟩
      | some v =>
        unfold mst
        by_cases q : v ≤ pos i
        · exact ⟨v, by simp only [if_pos q], q, fun w hw => by cases hw; exact Nat.le_refl _⟩
        · exact ⟨pos i, by simp only [if_neg q], Nat.le_refl _, fun w hw => by cases hw; omega⟩
    obtain ⟨u, k1, k2, k3⟩ := key
    refine ⟨u, k1, ?_⟩
    by_cases e : a = i ∧ b = k
    · obtain ⟨rfl, rfl⟩ := e
      exact k2
    · obtain ⟨v, q1, q2⟩ := h.2 a b h1 h2 h3 (by omega)
      have := k3 v q1
      omega
theorem oI_some {u : Nat} (h : u ≤ 2000000) : ¬ oI (some u) = -9 := ne_m9 h
-- X15
