/-! the touches of a tick are noted: the class -/
abbrev TE : Type := Nat × Nat × Nat
def ent (tick : Nat) (pos : Nat → Nat) (w : Nat) : TE := (tick, pos w, w)
def RW (a b c : Nat) (acc : List TE) (σ : SS) : Prop := ∀ i e, acc[i]? = some e → σ.1 a i = nI e.1 ∧ σ.1 b i = nI e.2.1 ∧ σ.1 c i = nI e.2.2
theorem RW.of {a b c : Nat} {acc : List TE} {σ σ' : SS} (h : RW a b c acc σ) (e : ∀ q j, q = a ∨ q = b ∨ q = c → σ'.1 q j = σ.1 q j) : RW a b c acc σ' := fun i x hx => ⟨(e _ _ (Or.inl rfl)).trans (h i x hx).1, (e _ _ (Or.inr (Or.inl rfl))).trans (h i x hx).2.1, (e _ _ (Or.inr (Or.inr rfl))).trans (h i x hx).2.2⟩
theorem RW.app {a b c : Nat} {acc : List TE} {σ σ' : SS} {x : TE} (h : RW a b c acc σ) (e : ∀ q j, (q = a ∨ q = b ∨ q = c) → ¬ j = acc.length → σ'.1 q j = σ.1 q j) (h1 : σ'.1 a acc.length = nI x.1) (h2 : σ'.1 b acc.length = nI x.2.1) (h3 : σ'.1 c acc.length = nI x.2.2) : RW a b c (acc ++ [x]) σ' := by
  intro i y hy
  rw [List.getElem?_append] at hy
  by_cases q : i < acc.length
  · rw [if_pos q] at hy
    have := h i y hy
    exact ⟨(e _ _ (Or.inl rfl) (by omega)).trans this.1, (e _ _ (Or.inr (Or.inl rfl)) (by omega)).trans this.2.1, (e _ _ (Or.inr (Or.inr rfl)) (by omega)).trans this.2.2⟩
  · rw [if_neg q] at hy
    by_cases q2 : i = acc.length
    · subst q2
      rw [Nat.sub_self] at hy
      cases hy
      exact ⟨h1, h2, h3⟩
    · obtain ⟨m, hm⟩ : ∃ m, i - acc.length = m + 1 := ⟨i - acc.length - 1, by omega⟩
      rw [hm] at hy
      cases hy
theorem x_note {tick : Nat} {pos : Nat → Nat} (ht : tick ≤ 1000) : ∀ (n k fu : Nat) (rest : List Nat) (acc : List TE) (σ : SS), n + k = 6 → n < fu → cnt (fun w => decide (w ∈ rest)) 6 ≤ n → (∀ w, w < 6 → σ.1 130 w = if w ∈ rest then 1 else 0) → (∀ w, w ∈ rest → w < 6 ∧ σ.1 129 w = nI (pos w) ∧ pos w < 60) → rest.Pairwise (fun a b => 8 * pos a + a < 8 * pos b + b) → acc.length ≤ 100 → σ.1 128 6 = nI acc.length → RW 131 132 133 acc σ →
    ∃ σ', f_X6_noteTouches_L2 (fun (τ : SS) => some τ) fu 128 (nI tick) (nI k) σ = some σ' ∧ σ'.1 128 6 = nI (min (acc.length + rest.length) 100) ∧ RW 131 132 133 ((acc ++ rest.map (ent tick pos)).take 100) σ' ∧ ∀ q j, ¬ (q = 128 ∧ j = 6) → ¬ (130 ≤ q ∧ q ≤ 133) → σ'.1 q j = σ.1 q j := by
  intro n
  induction n with
  | zero =>
    intro k fu rest acc σ hk hf hc hP hp hs hl h6 hr
    obtain ⟨fu, rfl⟩ : ∃ z, fu = z + 1 := ⟨fu - 1, by omega⟩
    have e : rest = [] := by
      cases rest with
      | nil => rfl
      | cons w rs =>
        have := (cnt1 (fun v => decide (v ∈ w :: rs)) 6).mpr ⟨w, (hp w (by simp)).1, by simp⟩
        omega
    subst e
    obtain rfl : k = 6 := by omega
    refine ⟨σ, ?_, ?_, ?_, fun _ _ _ _ => rfl⟩
    · simp only [f_X6_noteTouches_L2]
      rw [if_pos (show (6 : Int32) ≤ nI 6 by decide)]
    · rw [List.length_nil, Nat.add_zero, Nat.min_eq_left hl]; exact h6
    · rw [List.map_nil, List.append_nil, List.take_of_length_le hl]; exact hr
  | succ n ih =>
    intro k fu rest acc σ hk hf hc hP hp hs hl h6 hr
    obtain ⟨fu, rfl⟩ : ∃ z, fu = z + 1 := ⟨fu - 1, by omega⟩
    have e1 : ¬ (6 : Int32) ≤ nI k := by rw [fa_lit 6, le_nI (by omega) (by omega)]; omega
    by_cases hfull : 100 ≤ acc.length
    · refine ⟨σ, ?_, ?_, ?_, fun _ _ _ _ => rfl⟩
      · simp only [f_X6_noteTouches_L2]
        rw [if_neg e1, h6, if_pos (show (100 : Int32) ≤ nI acc.length by rw [fa_lit 100, le_nI (by omega) (by omega)]; exact hfull)]
      · rw [h6]; congr 1; omega
      · rw [List.take_append_of_le_length hfull, List.take_of_length_le hl]; exact hr
    · have e2 : ¬ (100 : Int32) ≤ nI acc.length := by rw [fa_lit 100, le_nI (by omega) (by omega)]; exact hfull
      have hlt := x_least hP hp hs
      cases rest with
      | nil =>
        obtain ⟨σ', f1, f2, f3, f4⟩ := ih (k + 1) fu [] acc σ (by omega) (by omega) (by
          have : cnt (fun w => decide (w ∈ ([] : List Nat))) 6 = 0 := by decide
          omega) hP hp hs hl h6 hr
        refine ⟨σ', ?_, f2, f3, f4⟩
        simp only [f_X6_noteTouches_L2]
        rw [if_neg e1, h6, if_neg e2, hlt, Option.bind_some, if_pos rfl, ol_add]
        exact f1
      | cons w rs =>
        obtain ⟨p1, p2, p3⟩ := hp w (by simp)
        have hs' := List.pairwise_cons.mp hs
        have hwr : ¬ w ∈ rs := fun q => by have := hs'.1 w q; omega
        have hcn : cnt (fun v => decide (v ∈ rs)) 6 < cnt (fun v => decide (v ∈ w :: rs)) 6 := cnt_lt 6 (fun i _ q => by
          rw [decide_eq_true_eq] at q ⊢
          exact List.mem_cons_of_mem w q) ⟨w, p1, by simp, by simpa using hwr⟩
        obtain ⟨σ', f1, f2, f3, f4⟩ := ih (k + 1) fu rs (acc ++ [ent tick pos w]) (sI (sI (sI (sI (sI σ 131 acc.length (nI tick)) 132 acc.length (nI (pos w))) 133 acc.length (nI w)) 130 w 0) 128 6 (nI (acc.length + 1))) (by omega) (by omega) (by omega)
          (fun v hv => by
            rw [rI_q (by omega)]
            by_cases e : v = w
            · subst e
              rw [rI_s, if_neg hwr]
            · rw [rI_j e, rI_q (by omega), rI_q (by omega), rI_q (by omega), hP v hv]
              by_cases q : v ∈ rs
              · rw [if_pos q, if_pos (List.mem_cons_of_mem w q)]
              · rw [if_neg q, if_neg (fun z => (List.mem_cons.mp z).elim e q)])
          (fun v hv => by
            obtain ⟨q1, q2, q3⟩ := hp v (List.mem_cons_of_mem w hv)
            refine ⟨q1, ?_, q3⟩
            rw [rI_q (by omega), rI_q (by omega), rI_q (by omega), rI_q (by omega), rI_q (by omega)]
            exact q2)
          hs'.2 (by rw [List.length_append, List.length_singleton]; omega) (by rw [rI_s, List.length_append, List.length_singleton])
          (hr.app (fun q j hq hj => by
              rw [rI_q (by omega), rI_q (by omega), rI_j hj, rI_j hj, rI_j hj])
            (by simp (disch := omega) only [rI_q, rI_s]; rfl) (by simp (disch := omega) only [rI_q, rI_s]; rfl) (by simp (disch := omega) only [rI_q, rI_s]; rfl))
        refine ⟨σ', ?_, ?_, ?_, fun q j hq hq2 => ?_⟩
        · simp only [f_X6_noteTouches_L2, RD, LN]
          rw [if_neg e1, h6, if_neg e2, hlt, Option.bind_some]
          show (if nI w = -9 then _ else _) = _
          rw [if_neg (ne_m9 (by omega))]
          simp (disch := omega) only [cl_nI, ck_i, rI_q, h6, p2, ol_add]
          exact f1
        · rw [f2, List.length_append, List.length_singleton, List.length_cons]
          congr 2
          omega
        · rw [List.append_assoc] at f3
          exact f3
        · rw [f4 q j hq hq2, rI_i, if_neg hq, rI_q (by omega), rI_q (by omega), rI_q (by omega), rI_q (by omega)]
