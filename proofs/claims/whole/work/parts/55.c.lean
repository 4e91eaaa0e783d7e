theorem x_meet15 {σ : SS} {P : Nat → Bool} {pos : Nat → Nat} {i : Nat} {κ : Nat → Int32 → Int32 → Option Int32} (hP : ∀ w, w < 6 → σ.1 130 w = if P w = true then 1 else 0) (hp : ∀ w, P w = true → σ.1 129 w = nI (pos w) ∧ pos w < 60) (hi : i < 6) {o : Option Nat} (h0 : MI P pos i 0 o) :
    ∃ o', f_X6_meetingTooth_L15 σ κ FU 128 (oI o) (nI i) (nI (i + 1)) = κ 128 (oI o') (nI i) ∧ MI P pos (i + 1) 0 o' := by
  obtain ⟨o', h1, e⟩ := loop_eq (fun fu k (o : Option Nat) => f_X6_meetingTooth_L15 σ κ fu 128 (oI o) (nI i) (nI k)) (fun o => κ 128 (oI o) (nI i)) 6 (fun k o => MI P pos i k o ∧ i < k)
    (fun fu o _ => by
      simp only [f_X6_meetingTooth_L15]
      rw [if_pos (show (6 : Int32) ≤ nI 6 by decide)])
    (fun fu k o hk hI => by
      obtain ⟨hI, hik⟩ := hI
      simp (disch := omega) only [f_X6_meetingTooth_L15, RD, LN, jn1, cl_nI, ck_i, hP, ol_add, one0, if_true, if_false]
      rw [if_neg (show ¬ (6 : Int32) ≤ nI k by rw [fa_lit 6, le_nI (by omega) (by omega)]; omega)]
      by_cases q1 : P i = true
      · obtain ⟨p1, p2⟩ := hp i q1
        rw [if_pos q1, if_neg one0]
        by_cases q2 : P k = true
        · obtain ⟨p3, p4⟩ := hp k q2
          rw [if_pos q2, if_neg one0, p1, p3]
          by_cases q3 : pos i = pos k
          · rw [if_pos (congrArg nI q3)]
            refine ⟨mst o (pos i), ⟨hI.yes hik hk ⟨q1, q2, q3⟩, by omega⟩, ?_⟩
            cases ho : o with
            | none =>
              rw [show oI none = -9 from rfl, if_pos rfl]
              rfl
            | some u =>
              obtain ⟨a, b, _, _, hm, hu⟩ := hI.1 u ho
              have hu2 := (hp a hm.1).2
              rw [if_neg (oI_some (show u ≤ 2000000 by omega))]
              show (if nI u ≤ nI (pos i) then _ else _) = _
              by_cases q : u ≤ pos i
              · rw [if_pos ((le_nI (by omega) (by omega)).mpr q), show mst (some u) (pos i) = some u from if_pos q]
              · rw [if_neg (fun z => q ((le_nI (by omega) (by omega)).mp z)), show mst (some u) (pos i) = some (pos i) from if_neg q]
                rfl
          · rw [if_neg (fun z => q3 ((eq_nI (by omega) (by omega)).mp z))]
            exact ⟨o, ⟨hI.no (fun z => q3 z.2.2), by omega⟩, rfl⟩
        · rw [if_neg q2, if_pos rfl]
          exact ⟨o, ⟨hI.no (fun z => q2 z.2.1), by omega⟩, rfl⟩
      · rw [if_neg q1, if_pos rfl]
        exact ⟨o, ⟨hI.no (fun z => q1 z.1), by omega⟩, rfl⟩)
    (fu := FU) (i := i + 1) (s := o) (by omega) (FU_big (by omega)) ⟨⟨h0.1, fun a b h1 h2 h3 h4 => h0.2 a b h1 h2 h3 (by omega)⟩, by omega⟩
  exact ⟨o', e, h1.1.1, fun a b h1' h2 h3 h4 => h1.1.2 a b h1' h2 h3 (by omega)⟩
theorem x_meetT {σ : SS} {P : Nat → Bool} {pos : Nat → Nat} (hP : ∀ w, w < 6 → σ.1 130 w = if P w = true then 1 else 0) (hp : ∀ w, P w = true → σ.1 129 w = nI (pos w) ∧ pos w < 60) :
    ∃ o, f_X6_meetingTooth 128 σ = some (oI o) ∧ MI P pos 6 0 o := by
  unfold f_X6_meetingTooth
  obtain ⟨o, h1, e⟩ := loop_eq (fun fu i (o : Option Nat) => f_X6_meetingTooth_L5 σ (fun y1 => some y1) fu 128 (oI o) (nI i)) (fun o => some (oI o)) 6 (fun i o => MI P pos i 0 o)
    (fun fu o _ => by
      simp only [f_X6_meetingTooth_L5]
      rw [if_pos (show (6 : Int32) ≤ nI 6 by decide)])
    (fun fu i o hi hI => by
      obtain ⟨o', k1, k2⟩ := x_meet15 (κ := fun (p0 : Nat) (y1 : Int32) (y2 : Int32) => f_X6_meetingTooth_L5 σ (fun y1 => some y1) fu p0 y1 (y2 + 1)) hP hp hi hI
      refine ⟨o', k2, ?_⟩
      simp only [f_X6_meetingTooth_L5]
      rw [if_neg (show ¬ (6 : Int32) ≤ nI i by rw [fa_lit 6, le_nI (by omega) (by omega)]; omega), ol_add, k1, ol_add])
    (fu := FU) (i := 0) (s := none) (by omega) (FU_big (by omega)) ⟨fun u hu => (by cases hu), fun a b h1 h2 h3 h4 => by omega⟩
  exact ⟨o, e, h1⟩
