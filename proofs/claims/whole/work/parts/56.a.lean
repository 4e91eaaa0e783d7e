/-! touches in order -/
theorem cnt_lt {p q : Nat → Bool} : ∀ n, (∀ i, i < n → p i = true → q i = true) → (∃ a, a < n ∧ q a = true ∧ ¬ p a = true) → cnt p n < cnt q n
  | 0, _, ⟨a, h, _⟩ => absurd h (by omega)
  | n + 1, h, ⟨a, h1, h2, h3⟩ => by
    have hle : ∀ m, m ≤ n + 1 → cnt p m ≤ cnt q m := fun m => by
      induction m with
      | zero => intro _; exact Nat.le_refl _
      | succ m ih =>
        intro hm
        have := ih (by omega)
        by_cases e : p m = true
        · rw [cnt_yes e, cnt_yes (h m (by omega) e)]; omega
        · rw [cnt_no e]
          by_cases e2 : q m = true
          · rw [cnt_yes e2]; omega
          · rw [cnt_no e2]; omega
    by_cases e : a = n
    · subst e
      have := hle a (by omega)
      rw [cnt_no h3, cnt_yes h2]
      omega
    · have ih := cnt_lt n (fun i hi => h i (by omega)) ⟨a, by omega, h2, h3⟩
      by_cases e1 : p n = true
      · rw [cnt_yes e1, cnt_yes (h n (by omega) e1)]; omega
      · rw [cnt_no e1]
        by_cases e2 : q n = true
        · rw [cnt_yes e2]; omega
        · rw [cnt_no e2]; exact ih
/-- the touching wheels whose tooth and number come ahead of c, in order -/
def Lk (P : Nat → Bool) (pos : Nat → Nat) : Nat → List Nat
  | 0 => []
  | c + 1 => Lk P pos c ++ (if P (c % 8) = true ∧ pos (c % 8) = c / 8 then [c % 8] else [])
theorem Lk_mem {P : Nat → Bool} {pos : Nat → Nat} {w : Nat} : ∀ c, w ∈ Lk P pos c ↔ P w = true ∧ w < 8 ∧ 8 * pos w + w < c
  | 0 => by simp [Lk]
  | c + 1 => by
    unfold Lk
    rw [List.mem_append, Lk_mem c]
    by_cases h : P (c % 8) = true ∧ pos (c % 8) = c / 8
    · rw [if_pos h, List.mem_singleton]
      constructor
      · rintro (h1 | h1)
        · exact ⟨h1.1, h1.2.1, by omega⟩
        · subst h1
          exact ⟨h.1, by omega, by omega⟩
      · rintro ⟨h1, h2, h3⟩
        by_cases e : 8 * pos w + w = c
        · refine Or.inr ?_
          omega
        · exact Or.inl ⟨h1, h2, by omega⟩
    · rw [if_neg h]
      constructor
      · rintro (h1 | h1)
        · exact ⟨h1.1, h1.2.1, by omega⟩
        · cases h1
      · rintro ⟨h1, h2, h3⟩
        refine Or.inl ⟨h1, h2, ?_⟩
        by_cases e : 8 * pos w + w = c
        · have e1 : c % 8 = w := by omega
          have e2 : c / 8 = pos w := by omega
          rw [e1, e2] at h
          exact absurd ⟨h1, rfl⟩ h
        · omega
theorem Lk_sorted (P : Nat → Bool) (pos : Nat → Nat) : ∀ c, (Lk P pos c).Pairwise (fun a b => 8 * pos a + a < 8 * pos b + b)
  | 0 => List.Pairwise.nil
  | c + 1 => by
    unfold Lk
    rw [List.pairwise_append]
    refine ⟨Lk_sorted P pos c, ?_, fun a ha b hb => ?_⟩
    · split
      · exact List.pairwise_singleton _ _
      · exact List.Pairwise.nil
    · have h1 := ((Lk_mem c).mp ha).2.2
      by_cases h : P (c % 8) = true ∧ pos (c % 8) = c / 8
      · rw [if_pos h, List.mem_singleton] at hb
        subst hb
        omega
      · rw [if_neg h] at hb
        cases hb
theorem Lk_skip {P : Nat → Bool} {pos : Nat → Nat} {N t : Nat} (h : ∀ w, N ≤ w → ¬ P w = true) : ∀ k, N + k ≤ 8 → Lk P pos (8 * t + (N + k)) = Lk P pos (8 * t + N)
  | 0, _ => rfl
  | k + 1, hk => by
    rw [show 8 * t + (N + (k + 1)) = 8 * t + (N + k) + 1 by omega]
    unfold Lk
    rw [if_neg (fun z => h _ (by omega) z.1), List.append_nil]
    rw [Lk_skip h k (by omega)]
    cases 8 * t + N <;> rfl
theorem Lk_step {P : Nat → Bool} {pos : Nat → Nat} {t w : Nat} (hw : w < 8) : Lk P pos (8 * t + w + 1) = Lk P pos (8 * t + w) ++ (if P w = true ∧ pos w = t then [w] else []) := by
  have e1 : (8 * t + w) % 8 = w := by omega
  have e2 : (8 * t + w) / 8 = t := by omega
  rw [show Lk P pos (8 * t + w + 1) = Lk P pos (8 * t + w) ++ (if P ((8 * t + w) % 8) = true ∧ pos ((8 * t + w) % 8) = (8 * t + w) / 8 then [(8 * t + w) % 8] else []) from rfl, e1, e2]
/-- the class: the first of the touching wheels that are left -/
theorem x_least {σ : SS} {rest : List Nat} {pos : Nat → Nat} (hP : ∀ w, w < 6 → σ.1 130 w = if w ∈ rest then 1 else 0) (hp : ∀ w, w ∈ rest → w < 6 ∧ σ.1 129 w = nI (pos w) ∧ pos w < 60) (hs : rest.Pairwise (fun a b => 8 * pos a + a < 8 * pos b + b)) :
    f_X6_leastToucher 128 σ = some (match rest with | [] => -9 | w :: _ => nI w) := by
  unfold f_X6_leastToucher
  obtain ⟨o, h1, e⟩ := loop_eq (fun fu i (o : Option Nat) => f_X6_leastToucher_L5 σ (fun y1 => some y1) fu 128 (oI o) (nI i)) (fun o => some (oI o)) 6 (fun i o => (∀ u, o = some u → u ∈ rest ∧ u < i) ∧ ∀ w, w ∈ rest → w < i → ∃ u, o = some u ∧ 8 * pos u + u ≤ 8 * pos w + w)
    (fun fu o _ => by
      simp only [f_X6_leastToucher_L5]
      rw [if_pos (show (6 : Int32) ≤ nI 6 by decide)])
    (fun fu i o hi hI => by
      obtain ⟨i1, i2⟩ := hI
      simp (disch := omega) only [f_X6_leastToucher_L5, RD, LN, cl_nI, ck_i, hP, ol_add]
      rw [if_neg (show ¬ (6 : Int32) ≤ nI i by rw [fa_lit 6, le_nI (by omega) (by omega)]; omega)]
      by_cases q : i ∈ rest
      · obtain ⟨p1, p2, p3⟩ := hp i q
        rw [if_pos q, if_neg one0]
        cases ho : o with
        | none =>
          refine ⟨some i, ⟨fun u hu => ?_, fun w hw hwi => ?_⟩, ?_⟩
          · cases hu; exact ⟨q, by omega⟩
          · by_cases ew : w = i
            · subst ew; exact ⟨w, rfl, Nat.le_refl _⟩
            · obtain ⟨u, hu, _⟩ := i2 w hw (by omega)
              rw [ho] at hu
              cases hu
          · rw [show oI none = -9 from rfl, if_pos rfl]
            rfl
        | some u =>
          obtain ⟨k1, k2⟩ := i1 u ho
          obtain ⟨p4, p5, p6⟩ := hp u k1
          rw [if_neg (oI_some (show u ≤ 2000000 by omega))]
          show ∃ s', _ ∧ (ck (¬ (nI u < 0 ∨ 6 ≤ (nI u).toNatClampNeg)) (if σ.1 129 (nI u).toNatClampNeg ≤ σ.1 129 i then f_X6_leastToucher_L5 σ (fun y1 => some y1) fu 128 (nI u) (nI (i + 1)) else f_X6_leastToucher_L5 σ (fun y1 => some y1) fu 128 (nI i) (nI (i + 1)))) = _
          rw [cl_nI (by omega), ck_i (by omega) (by omega), p5, p2]
          by_cases qq : pos u ≤ pos i
          · rw [if_pos ((le_nI (by omega) (by omega)).mpr qq)]
            refine ⟨some u, ⟨fun v hv => ?_, fun w hw hwi => ?_⟩, rfl⟩
            · cases hv; exact ⟨k1, by omega⟩
            · by_cases ew : w = i
              · subst ew; exact ⟨u, rfl, by omega⟩
              · obtain ⟨v, hv, hv2⟩ := i2 w hw (by omega)
                rw [ho] at hv
                cases hv
                exact ⟨u, rfl, hv2⟩
          · rw [if_neg (fun z => qq ((le_nI (by omega) (by omega)).mp z))]
            refine ⟨some i, ⟨fun v hv => ?_, fun w hw hwi => ?_⟩, rfl⟩
            · cases hv; exact ⟨q, by omega⟩
            · by_cases ew : w = i
              · subst ew; exact ⟨w, rfl, Nat.le_refl _⟩
              · obtain ⟨v, hv, hv2⟩ := i2 w hw (by omega)
                rw [ho] at hv
                cases hv
                exact ⟨i, rfl, by omega⟩
      · rw [if_neg q, if_pos rfl]
        refine ⟨o, ⟨fun u hu => ?_, fun w hw hwi => ?_⟩, rfl⟩
        · have := i1 u hu
          exact ⟨this.1, by omega⟩
        · by_cases ew : w = i
          · subst ew; exact absurd hw q
          · exact i2 w hw (by omega))
    (fu := FU) (i := 0) (s := none) (by omega) (FU_big (by omega)) ⟨fun u hu => (by cases hu), fun w _ h => by omega⟩
  refine e.trans ?_
  cases rest with
  | nil =>
    cases o with
    | none => rfl
    | some u => exact absurd (h1.1 u rfl).1 (by simp)
  | cons w rs =>
    have hw6 := (hp w (by simp)).1
    obtain ⟨u, hu, hk⟩ := h1.2 w (by simp) hw6
    subst hu
    have hur := (h1.1 u rfl).1
    show some (nI u) = some (nI w)
    rcases List.mem_cons.mp hur with q | q
    · rw [q]
    · have := (List.pairwise_cons.mp hs).1 u q
      omega
