/-! mirror: counting unlike arcs -/
def LKb (bg : Nat → Nat) : Nat → Nat → Nat → Bool
  | 0, _, _ => false
  | i + 1, x, y => LKb bg i x y || (decide (bg i = x) && decide (bg (i + 1) = y)) || (decide (bg i = y) && decide (bg (i + 1) = x))
def SP (a b x y : Nat) : Prop := (a = x ∧ b = y) ∨ (a = y ∧ b = x)
theorem LKb_iff {bg : Nat → Nat} {x y : Nat} : ∀ A, LKb bg A x y = true ↔ ∃ i, i < A ∧ SP (bg i) (bg (i + 1)) x y
  | 0 => ⟨fun h => (Bool.false_ne_true h).elim, fun ⟨i, h, _⟩ => absurd h (by omega)⟩
  | A + 1 => by
    unfold LKb
    rw [Bool.or_eq_true, Bool.or_eq_true, LKb_iff A, Bool.and_eq_true, Bool.and_eq_true, decide_eq_true_eq, decide_eq_true_eq, decide_eq_true_eq, decide_eq_true_eq]
    constructor
    · rintro ((⟨i, hi, h⟩ | h) | h)
      · exact ⟨i, by omega, h⟩
      · exact ⟨A, by omega, Or.inl h⟩
      · exact ⟨A, by omega, Or.inr h⟩
    · rintro ⟨i, hi, h⟩
      by_cases e : i = A
      · subst e
        rcases h with h | h
        · exact Or.inl (Or.inr h)
        · exact Or.inr h
      · exact Or.inl (Or.inl ⟨i, by omega, h⟩)
theorem lk_iff {bg : Nat → Nat} {x y : Nat} : ∀ A, lk bg A (min x y) (max x y) = true ↔ ∃ i, i < A ∧ SP (bg i) (bg (i + 1)) x y
  | 0 => ⟨fun h => (Bool.false_ne_true h).elim, fun ⟨i, h, _⟩ => absurd h (by omega)⟩
  | A + 1 => by
    unfold lk lkP
    rw [Bool.or_eq_true, lk_iff A, Bool.and_eq_true, decide_eq_true_eq, decide_eq_true_eq]
    constructor
    · rintro (⟨i, hi, h⟩ | h)
      · exact ⟨i, by omega, h⟩
      · refine ⟨A, by omega, ?_⟩
        unfold SP
        omega
    · rintro ⟨i, hi, h⟩
      by_cases e : i = A
      · subst e
        refine Or.inr ?_
        unfold SP at h
        omega
      · exact Or.inl ⟨i, by omega, h⟩
theorem lk_LKb {bg : Nat → Nat} {A x y : Nat} : lk bg A (min x y) (max x y) = LKb bg A x y := by
  rw [Bool.eq_iff_iff, lk_iff, LKb_iff]
/-- the first arc of those told alike -/
def fo (bg : Nat → Nat) (i : Nat) : Bool := !lk bg i (min (bg i) (bg (i + 1))) (max (bg i) (bg (i + 1)))
theorem nlk_cnt (bg : Nat → Nat) : ∀ A, nlk bg A = cnt (fo bg) A
  | 0 => rfl
  | A + 1 => by
    unfold nlk
    rw [nlk_cnt bg A]
    by_cases h : lk bg A (min (bg A) (bg (A + 1))) (max (bg A) (bg (A + 1))) = true
    · rw [if_pos h, cnt_no (by unfold fo; rw [h]; decide)]
    · rw [if_neg h, cnt_yes (by unfold fo; rw [Bool.not_eq_true] at h; rw [h]; decide)]
theorem fo_one {bg : Nat → Nat} {i j : Nat} (hi : fo bg i = true) (hj : fo bg j = true) (h : SP (bg i) (bg (i + 1)) (bg j) (bg (j + 1))) : i = j := by
  have key : ∀ a b, a < b → fo bg b = true → SP (bg a) (bg (a + 1)) (bg b) (bg (b + 1)) → False := fun a b hab hb h => by
    have h1 := (lk_iff (bg := bg) (x := bg b) (y := bg (b + 1)) b).mpr ⟨a, hab, h⟩
    unfold fo at hb
    rw [h1] at hb
    exact absurd hb (by decide)
  rcases Nat.lt_trichotomy i j with q | q | q
  · exact (key i j q hj h).elim
  · exact q
  · exact (key j i q hi (by unfold SP at h ⊢; omega)).elim
theorem fo_ex {bg : Nat → Nat} {x y : Nat} : ∀ A, LKb bg A x y = true → ∃ i, i < A ∧ fo bg i = true ∧ SP (bg i) (bg (i + 1)) x y
  | 0, h => (Bool.false_ne_true h).elim
  | A + 1, h => by
    obtain ⟨i, hi, hs⟩ := (LKb_iff (A + 1)).mp h
    by_cases e : i = A
    · subst e
      by_cases f : fo bg i = true
      · exact ⟨i, by omega, f, hs⟩
      · have h1 : lk bg i (min (bg i) (bg (i + 1))) (max (bg i) (bg (i + 1))) = true := by
          unfold fo at f
          rw [Bool.not_eq_true, Bool.not_eq_false'] at f
          exact f
        have h2 : LKb bg i x y = true := by
          obtain ⟨k, hk, hk2⟩ := (lk_iff i).mp h1
          exact (LKb_iff i).mpr ⟨k, hk, by unfold SP at hs hk2 ⊢; omega⟩
        obtain ⟨k, hk, hk2⟩ := fo_ex i h2
        exact ⟨k, by omega, hk2⟩
    · obtain ⟨k, hk, hk2⟩ := fo_ex A ((LKb_iff A).mpr ⟨i, by omega, hs⟩)
      exact ⟨k, by omega, hk2⟩
theorem cnt_less {q : Nat → Bool} {k : Nat} : ∀ m, k < m → q k = true → cnt (fun i => q i && !decide (i = k)) m + 1 = cnt q m
  | 0, h, _ => absurd h (by omega)
  | m + 1, h, hq => by
    by_cases e : k = m
    · subst e
      rw [cnt_yes hq, cnt_no (p := fun i => q i && !decide (i = k)) (by simp)]
      rw [cnt_congr k (fun i hi => by
        show (q i && !decide (i = k)) = q i
        rw [decide_eq_false (by omega)]; simp)]
    · have ih := cnt_less m (by omega) hq
      by_cases e2 : q m = true
      · rw [cnt_yes e2, cnt_yes (p := fun i => q i && !decide (i = k)) (by rw [e2, decide_eq_false (fun z => e z.symm)]; rfl)]
        omega
      · rw [cnt_no e2, cnt_no (p := fun i => q i && !decide (i = k)) (by rw [Bool.not_eq_true] at e2; rw [e2, Bool.false_and]; decide)]
        exact ih
theorem inj_le {p : Nat → Bool} {r : Nat → Nat → Prop} {m : Nat} : ∀ n (q : Nat → Bool), (∀ i, i < n → p i = true → ∃ k, k < m ∧ q k = true ∧ r i k) → (∀ i j k, i < n → j < n → p i = true → p j = true → r i k → r j k → i = j) → cnt p n ≤ cnt q m
  | 0, _, _, _ => Nat.zero_le _
  | n + 1, q, h1, h2 => by
    by_cases e : p n = true
    · obtain ⟨k, hk, hq, hr⟩ := h1 n (by omega) e
      have ih := inj_le (p := p) (r := r) (m := m) n (fun i => q i && !decide (i = k)) (fun i hi hp => by
        obtain ⟨k', a, b, c⟩ := h1 i (by omega) hp
        refine ⟨k', a, ?_, c⟩
        have : ¬ k' = k := fun z => by
          subst z
          have := h2 i n k' (by omega) (by omega) hp e c hr
          omega
        rw [b, decide_eq_false this]
        rfl) (fun i j k' hi hj => h2 i j k' (by omega) (by omega))
      have := cnt_less m hk hq
      rw [cnt_yes e]
      omega
    · rw [cnt_no e]
      exact inj_le n q (fun i hi => h1 i (by omega)) (fun i j k hi hj => h2 i j k (by omega) (by omega))
theorem inj_onto {p q : Nat → Bool} {r : Nat → Nat → Prop} {n m : Nat} (h1 : ∀ i, i < n → p i = true → ∃ k, k < m ∧ q k = true ∧ r i k) (h2 : ∀ i j k, i < n → j < n → p i = true → p j = true → r i k → r j k → i = j) (h : cnt p n = cnt q m) : ∀ k, k < m → q k = true → ∃ i, i < n ∧ p i = true ∧ r i k := by
  intro k hk hq
  apply Classical.byContradiction
  intro hn
  have h3 := inj_le (p := p) (r := r) (m := m) n (fun i => q i && !decide (i = k)) (fun i hi hp => by
    obtain ⟨k', a, b, c⟩ := h1 i hi hp
    refine ⟨k', a, ?_, c⟩
    have : ¬ k' = k := fun z => by
      subst z
      exact hn ⟨i, hi, hp, c⟩
    rw [b, decide_eq_false this]
    rfl) h2
  have := cnt_less m hk hq
  omega
/-- a tooth taken for c less it, for it plus c -/
def tk (R : Nat) (mi : Bool) (c t : Nat) : Nat := if mi = true then (c + (R - t)) % R else (t + c) % R
theorem tk_t {R c t : Nat} (hc : c < R) (ht : t < R) : tk R true c t = if t ≤ c then c - t else c + R - t := by
  show (c + (R - t)) % R = _
  by_cases h : t ≤ c
  · rw [if_pos h, show c + (R - t) = c - t + R by omega, Nat.add_mod_right, Nat.mod_eq_of_lt (by omega)]
  · rw [if_neg h, Nat.mod_eq_of_lt (by omega)]
    omega
theorem tk_f {R c t : Nat} (hc : c < R) (ht : t < R) : tk R false c t = if t + c < R then t + c else t + c - R := add_mod_if ht hc
theorem tk_lt {R c t : Nat} {mi : Bool} (hR : 1 ≤ R) : tk R mi c t < R := by
  unfold tk
  split <;> exact Nat.mod_lt _ hR
theorem tk_inj {R c t u : Nat} {mi : Bool} (hc : c < R) (ht : t < R) (hu : u < R) (h : tk R mi c t = tk R mi c u) : t = u := by
  cases mi with
  | true =>
    rw [tk_t hc ht, tk_t hc hu] at h
    split at h <;> split at h <;> omega
  | false =>
    rw [tk_f hc ht, tk_f hc hu] at h
    split at h <;> split at h <;> omega
theorem tk_onto {R c x : Nat} {mi : Bool} (hc : c < R) (hx : x < R) : ∃ t, t < R ∧ tk R mi c t = x := by
  cases mi with
  | true =>
    by_cases h : x ≤ c
    · refine ⟨c - x, by omega, ?_⟩
      rw [tk_t hc (by omega), if_pos (by omega)]
      omega
    · refine ⟨c + R - x, by omega, ?_⟩
      rw [tk_t hc (by omega), if_neg (by omega)]
      omega
  | false =>
    by_cases h : c ≤ x
    · refine ⟨x - c, by omega, ?_⟩
      rw [tk_f hc (by omega), if_pos (by omega)]
      omega
    · refine ⟨x + R - c, by omega, ?_⟩
      rw [tk_f hc (by omega), if_neg (by omega)]
      omega
/-- the class's test, the model's -/
def pX (R : Nat) (mi : Bool) (bg1 bg2 : Nat → Nat) (A1 A2 c : Nat) : Prop := ∀ i, i < A1 → LKb bg2 A2 (tk R mi c (bg1 i)) (tk R mi c (bg1 (i + 1))) = true
def pM (R : Nat) (mi : Bool) (bg1 bg2 : Nat → Nat) (A1 A2 c : Nat) : Prop := ∀ t u, t < R → u < R → LKb bg1 A1 t u = LKb bg2 A2 (tk R mi c t) (tk R mi c u)
theorem SP_tk {R c a b x y : Nat} {mi : Bool} (hc : c < R) (ha : a < R) (hb : b < R) (hx : x < R) (hy : y < R) (h : SP (tk R mi c a) (tk R mi c b) (tk R mi c x) (tk R mi c y)) : SP a b x y := by
  rcases h with ⟨h1, h2⟩ | ⟨h1, h2⟩
  · exact Or.inl ⟨tk_inj hc ha hx h1, tk_inj hc hb hy h2⟩
  · exact Or.inr ⟨tk_inj hc ha hy h1, tk_inj hc hb hx h2⟩
theorem LKb_sym {bg : Nat → Nat} {A x y a b : Nat} (h : LKb bg A x y = true) (hs : SP a b x y) : LKb bg A a b = true := by
  obtain ⟨i, hi, h2⟩ := (LKb_iff A).mp h
  exact (LKb_iff A).mpr ⟨i, hi, by unfold SP at *; omega⟩
theorem pX_pM {R c A1 A2 : Nat} {mi : Bool} {bg1 bg2 : Nat → Nat} (hc : c < R) (hb1 : ∀ i, bg1 i < R) (hb2 : ∀ i, bg2 i < R) : (nlk bg1 A1 = nlk bg2 A2 → pX R mi bg1 bg2 A1 A2 c → pM R mi bg1 bg2 A1 A2 c) ∧ (pM R mi bg1 bg2 A1 A2 c → nlk bg1 A1 = nlk bg2 A2 ∧ pX R mi bg1 bg2 A1 A2 c) := by
  have toX : pM R mi bg1 bg2 A1 A2 c → pX R mi bg1 bg2 A1 A2 c := fun h i hi => by
    rw [← h _ _ (hb1 i) (hb1 (i + 1))]
    exact (LKb_iff A1).mpr ⟨i, hi, Or.inl ⟨rfl, rfl⟩⟩
  have H1 : pX R mi bg1 bg2 A1 A2 c → ∀ i, i < A1 → fo bg1 i = true → ∃ k, k < A2 ∧ fo bg2 k = true ∧ SP (tk R mi c (bg1 i)) (tk R mi c (bg1 (i + 1))) (bg2 k) (bg2 (k + 1)) := fun h i hi _ => by
    obtain ⟨k, a, b, d⟩ := fo_ex A2 (h i hi)
    exact ⟨k, a, b, by unfold SP at d ⊢; omega⟩
  have H2 : ∀ i j k, i < A1 → j < A1 → fo bg1 i = true → fo bg1 j = true → SP (tk R mi c (bg1 i)) (tk R mi c (bg1 (i + 1))) (bg2 k) (bg2 (k + 1)) → SP (tk R mi c (bg1 j)) (tk R mi c (bg1 (j + 1))) (bg2 k) (bg2 (k + 1)) → i = j := fun i j k _ _ f1 f2 s1 s2 => by
    refine fo_one f1 f2 (SP_tk (mi := mi) hc (hb1 _) (hb1 _) (hb1 _) (hb1 _) ?_)
    unfold SP at s1 s2 ⊢
    omega
  constructor
  · intro hn hX
    rw [nlk_cnt, nlk_cnt] at hn
    have H3 := inj_onto (H1 hX) H2 hn
    intro t u ht hu
    rw [Bool.eq_iff_iff]
    constructor
    · intro h
      obtain ⟨i, hi, hs⟩ := (LKb_iff A1).mp h
      refine LKb_sym (hX i hi) ?_
      unfold SP at hs ⊢
      rcases hs with ⟨rfl, rfl⟩ | ⟨rfl, rfl⟩
      · exact Or.inl ⟨rfl, rfl⟩
      · exact Or.inr ⟨rfl, rfl⟩
    · intro h
      obtain ⟨k, hk, hf, hs⟩ := fo_ex A2 h
      obtain ⟨i, hi, hfi, hr⟩ := H3 k hk hf
      refine (LKb_iff A1).mpr ⟨i, hi, SP_tk (mi := mi) hc (hb1 _) (hb1 _) ht hu ?_⟩
      unfold SP at hs hr ⊢
      omega
  · intro hM
    refine ⟨?_, toX hM⟩
    rw [nlk_cnt, nlk_cnt]
    apply Nat.le_antisymm
    · exact inj_le A1 _ (H1 (toX hM)) H2
    · refine inj_le (r := fun k i => SP (tk R mi c (bg1 i)) (tk R mi c (bg1 (i + 1))) (bg2 k) (bg2 (k + 1))) A2 _ (fun k hk hf => ?_) (fun k k' i _ _ f1 f2 s1 s2 => ?_)
      · obtain ⟨t, ht, et⟩ := tk_onto (mi := mi) hc (hb2 k)
        obtain ⟨u, hu, eu⟩ := tk_onto (mi := mi) hc (hb2 (k + 1))
        have h1 : LKb bg1 A1 t u = true := by
          rw [hM t u ht hu, et, eu]
          exact (LKb_iff A2).mpr ⟨k, hk, Or.inl ⟨rfl, rfl⟩⟩
        obtain ⟨i, hi, hfi, hs⟩ := fo_ex A1 h1
        refine ⟨i, hi, hfi, ?_⟩
        rw [← et, ← eu]
        rcases hs with ⟨h1, h2⟩ | ⟨h1, h2⟩
        · rw [h1, h2]; exact Or.inl ⟨rfl, rfl⟩
        · rw [h1, h2]; exact Or.inr ⟨rfl, rfl⟩
      · refine fo_one f1 f2 ?_
        unfold SP at s1 s2 ⊢
        omega
