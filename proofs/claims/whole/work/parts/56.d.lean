/-! the touches: the model -/
theorem m_t36 {σ : SS} {P : Nat → Bool} {pos : Nat → Nat} {N t n tick : Nat} {L : List TE} {x1 : Int32} {κ : Nat → Int32 → Int32 → Int32 → Int32 → Int32 → SS → Option SS} (h3 : σ.1 143 3 = nI N) (hN : N ≤ 6) (ht : t < 60) (hn : n ≤ 100) (hti : tick ≤ 1000) (hP : ∀ w, w < N → σ.1 171 w = if P w = true then 1 else 0) (hp : ∀ w, w < N → σ.1 170 w = nI (pos w) ∧ pos w < 60) (hr : RW 167 168 169 ((L ++ (Lk P pos (8 * t)).map (ent tick pos)).take n) σ) :
    ∃ σ', f_X9_touches_L36 κ FU 143 x1 (nI n) (nI (min (L ++ (Lk P pos (8 * t)).map (ent tick pos)).length n)) (nI tick) (nI t) 0 σ = κ 143 x1 (nI n) (nI (min (L ++ (Lk P pos (8 * t + N)).map (ent tick pos)).length n)) (nI tick) (nI t) σ' ∧ RW 167 168 169 ((L ++ (Lk P pos (8 * t + N)).map (ent tick pos)).take n) σ' ∧ ∀ q j, ¬ (167 ≤ q ∧ q ≤ 169) → σ'.1 q j = σ.1 q j := by
  obtain ⟨σ', ⟨h1, h2⟩, e⟩ := loop_eq (fun fu w (τ : SS) => f_X9_touches_L36 κ fu 143 x1 (nI n) (nI (min (L ++ (Lk P pos (8 * t + w)).map (ent tick pos)).length n)) (nI tick) (nI t) (nI w) τ) (fun τ => κ 143 x1 (nI n) (nI (min (L ++ (Lk P pos (8 * t + N)).map (ent tick pos)).length n)) (nI tick) (nI t) τ) N (fun w τ => RW 167 168 169 ((L ++ (Lk P pos (8 * t + w)).map (ent tick pos)).take n) τ ∧ ∀ q j, ¬ (167 ≤ q ∧ q ≤ 169) → τ.1 q j = σ.1 q j)
    (fun fu τ hI => by
      simp only [f_X9_touches_L36]
      rw [hI.2 _ _ (by omega), h3, if_pos ((le_nI (by omega) (by omega)).mpr (Nat.le_refl _))])
    (fun fu w τ hi hI => by
      obtain ⟨i1, i2⟩ := hI
      obtain ⟨p1, p2⟩ := hp w hi
      have e1 : τ.1 171 w = if P w = true then 1 else 0 := (i2 _ _ (by omega)).trans (hP w hi)
      have e2 : τ.1 170 w = nI (pos w) := (i2 _ _ (by omega)).trans p1
      have e3 : τ.1 143 3 = nI N := (i2 _ _ (by omega)).trans h3
      have st := Lk_step (P := P) (pos := pos) (t := t) (w := w) (by omega)
      have skip : ¬ (P w = true ∧ pos w = t) → Lk P pos (8 * t + (w + 1)) = Lk P pos (8 * t + w) := fun hn => by
        rw [show 8 * t + (w + 1) = 8 * t + w + 1 by omega, st, if_neg hn, List.append_nil]
      simp (disch := omega) only [f_X9_touches_L36, RM, LN, cl_nI, ck_i, e1, e2, e3, ol_add]
      rw [if_neg (show ¬ nI N ≤ nI w by rw [le_nI (by omega) (by omega)]; omega)]
      by_cases q1 : P w = true
      · rw [if_pos q1, if_neg one0]
        by_cases q2 : pos w = t
        · rw [if_pos (congrArg nI q2)]
          have yes : L ++ (Lk P pos (8 * t + (w + 1))).map (ent tick pos) = (L ++ (Lk P pos (8 * t + w)).map (ent tick pos)) ++ [ent tick pos w] := by
            rw [show 8 * t + (w + 1) = 8 * t + w + 1 by omega, st, if_pos ⟨q1, q2⟩, List.map_append, List.append_assoc]
            rfl
          rw [yes]
          generalize L ++ (Lk P pos (8 * t + w)).map (ent tick pos) = LL at *
          by_cases q3 : n ≤ LL.length
          · rw [if_pos (show nI (min LL.length n) = nI n by rw [Nat.min_eq_right q3])]
            refine ⟨τ, ⟨?_, i2⟩, ?_⟩
            · rw [List.take_append_of_le_length q3]; exact i1
            · rw [List.length_append, List.length_singleton, Nat.min_eq_right q3, Nat.min_eq_right (show n ≤ LL.length + 1 by omega)]
          · rw [List.take_of_length_le (by omega)] at i1
            rw [if_neg (show ¬ nI (min LL.length n) = nI n by rw [eq_nI (by omega) (by omega)]; omega), Nat.min_eq_left (by omega)]
            refine ⟨sI (sI (sI τ 167 LL.length (nI tick)) 168 LL.length (nI t)) 169 LL.length (nI w), ⟨?_, fun q j hq => ?_⟩, ?_⟩
            · rw [List.take_of_length_le (by rw [List.length_append, List.length_singleton]; omega)]
              exact i1.app (fun q j hq hj => by rw [rI_j hj, rI_j hj, rI_j hj]) (by rw [rI_q (by omega), rI_q (by omega), rI_s]; rfl) (by rw [rI_q (by omega), rI_s, ← q2]; rfl) rI_s
            · rw [rI_q (by omega), rI_q (by omega), rI_q (by omega)]
              exact i2 q j hq
            · rw [List.length_append, List.length_singleton, Nat.min_eq_left (show LL.length + 1 ≤ n by omega)]
              simp (disch := omega) only [cl_nI, ck_i, ol_add]
        · rw [if_neg (fun z => q2 ((eq_nI (by omega) (by omega)).mp z)), skip (fun z => q2 z.2)]
          exact ⟨τ, ⟨i1, i2⟩, rfl⟩
      · rw [if_neg q1, if_pos rfl, skip (fun z => q1 z.1)]
        exact ⟨τ, ⟨i1, i2⟩, rfl⟩)
    (fu := FU) (i := 0) (s := σ) (by omega) (FU_big (by omega)) ⟨hr, fun _ _ _ => rfl⟩
  exact ⟨σ', e, h1, h2⟩
theorem m_t24 {σ : SS} {P : Nat → Bool} {pos : Nat → Nat} {N R n tick : Nat} {L : List TE} {x1 : Int32} {κ : Nat → Int32 → Int32 → Int32 → Int32 → SS → Option SS} (h0 : σ.1 143 0 = nI R) (h3 : σ.1 143 3 = nI N) (hN : N ≤ 6) (hR : R ≤ 60) (hn : n ≤ 100) (hti : tick ≤ 1000) (hPN : ∀ w, P w = true → w < N) (hP : ∀ w, w < N → σ.1 171 w = if P w = true then 1 else 0) (hp : ∀ w, w < N → σ.1 170 w = nI (pos w) ∧ pos w < R) (hr : RW 167 168 169 (L.take n) σ) :
    ∃ σ', f_X9_touches_L24 κ FU 143 x1 (nI n) (nI (min L.length n)) (nI tick) 0 σ = κ 143 x1 (nI n) (nI (min (L ++ (Lk P pos (8 * R)).map (ent tick pos)).length n)) (nI tick) σ' ∧ RW 167 168 169 ((L ++ (Lk P pos (8 * R)).map (ent tick pos)).take n) σ' ∧ ∀ q j, ¬ (167 ≤ q ∧ q ≤ 169) → σ'.1 q j = σ.1 q j := by
  have eL : L ++ (Lk P pos (8 * 0)).map (ent tick pos) = L := List.append_nil L
  obtain ⟨σ', ⟨h1, h2⟩, e⟩ := loop_eq (fun fu t (τ : SS) => f_X9_touches_L24 κ fu 143 x1 (nI n) (nI (min (L ++ (Lk P pos (8 * t)).map (ent tick pos)).length n)) (nI tick) (nI t) τ) (fun τ => κ 143 x1 (nI n) (nI (min (L ++ (Lk P pos (8 * R)).map (ent tick pos)).length n)) (nI tick) τ) R (fun t τ => RW 167 168 169 ((L ++ (Lk P pos (8 * t)).map (ent tick pos)).take n) τ ∧ ∀ q j, ¬ (167 ≤ q ∧ q ≤ 169) → τ.1 q j = σ.1 q j)
    (fun fu τ hI => by
      simp only [f_X9_touches_L24]
      rw [hI.2 _ _ (by omega), h0, if_pos ((le_nI (by omega) (by omega)).mpr (Nat.le_refl _))])
    (fun fu t τ hi hI => by
      obtain ⟨i1, i2⟩ := hI
      obtain ⟨τ', k1, k2, k3⟩ := m_t36 (σ := τ) (P := P) (pos := pos) (N := N) (t := t) (n := n) (tick := tick) (L := L) (x1 := x1) (κ := fun (p0 : Nat) (y1 : Int32) (y2 : Int32) (y3 : Int32) (y4 : Int32) (y5 : Int32) (τ : SS) => f_X9_touches_L24 κ fu p0 y1 y2 y3 y4 (y5 + 1) τ) ((i2 _ _ (by omega)).trans h3) hN (by omega) hn hti (fun w hw => (i2 _ _ (by omega)).trans (hP w hw)) (fun w hw => ⟨(i2 _ _ (by omega)).trans (hp w hw).1, by have := (hp w hw).2; omega⟩) i1
      have e8 : Lk P pos (8 * t + N) = Lk P pos (8 * (t + 1)) := by
        have := Lk_skip (P := P) (pos := pos) (N := N) (t := t) (fun w hw hq => by have := hPN w hq; omega) (8 - N) (by omega)
        rw [← this]
        congr 1
        omega
      rw [e8] at k1 k2
      refine ⟨τ', ⟨k2, fun q j hq => (k3 q j hq).trans (i2 q j hq)⟩, ?_⟩
      simp only [f_X9_touches_L24]
      rw [i2 _ _ (by omega), h0, if_neg (show ¬ nI R ≤ nI t by rw [le_nI (by omega) (by omega)]; omega), k1, ol_add])
    (fu := FU) (i := 0) (s := σ) (by omega) (FU_big (by omega)) ⟨by rw [eL]; exact hr, fun _ _ _ => rfl⟩
  rw [eL] at e
  exact ⟨σ', e, h1, h2⟩
theorem m_touches {ρ : RG} {σ : SS} {s n : Nat} (h : M1 ρ σ) (hw : WR ρ) (hs1 : 1 ≤ s) (hs2 : s < 2 ^ rN ρ) (hn : n ≤ 100) :
    ∃ σ' m, f_X9_touches 143 (nI s) (nI n) σ = some σ' ∧ n ≤ (al ρ s m).length ∧ RW 167 168 169 ((al ρ s m).take n) σ' ∧ FM σ σ' := by
  have hR := hw.2.1
  have hN := hw.2.2.1
  obtain ⟨t0, f1, f2, f3⟩ := m_starts h hN
  have key := loop_ex (fun fu i (t : SS) => f_X9_touches_L9 (fun (τ : SS) => some τ) fu 143 (nI s) (nI n) (nI (min (al ρ s (i - 1)).length n)) (nI i) t) (fun t => some t) 901
    (fun i t => 1 ≤ i ∧ FM σ t ∧ (∀ w, w < rN ρ → t.1 170 w = nI (psT ρ s (i - 1) w) ∧ psT ρ s (i - 1) w < rT ρ) ∧ RW 167 168 169 ((al ρ s (i - 1)).take n) t)
    (fun b => ∃ t m, b = some t ∧ n ≤ (al ρ s m).length ∧ RW 167 168 169 ((al ρ s m).take n) t ∧ FM σ t)
    (fun fu t hI => by
      have hl : 100 ≤ (al ρ s 900).length := al_len hw hs1 hs2 100
      simp only [f_X9_touches_L9]
      rw [if_pos (show nI n ≤ nI (min (al ρ s 900).length n) by rw [le_nI (by omega) (by omega)]; omega)])
    (fun fu i t hi hI => by
      obtain ⟨i1, i2, i3, i5⟩ := hI
      by_cases q : n ≤ (al ρ s (i - 1)).length
      · refine Or.inr ⟨t, i - 1, ?_, q, i5, i2⟩
        simp only [f_X9_touches_L9]
        rw [if_pos ((le_nI (by omega) (by omega)).mpr (by omega))]
      · obtain ⟨i, rfl⟩ : ∃ z, i = z + 1 := ⟨i - 1, by omega⟩
        simp only [Nat.add_sub_cancel] at i3 i5 q
        have hX : M1 ρ t := M1.of hN h (i2 _ _ (by unfold SM; omega)) (i2 _ _ (by unfold SM; omega)) (fun q j _ _ => i2 q j (by unfold SM; omega))
        obtain ⟨t1, g1, g2, g3, g4⟩ := m_ticks (tick := i + 1) hX hw hs2 (by omega) i3
        have hps : ∀ w, w < rN ρ → t1.1 170 w = nI (psT ρ s (i + 1) w) ∧ psT ρ s (i + 1) w < rT ρ := g2
        obtain ⟨t2, k1, k2, k3⟩ := m_t24 (σ := t1) (P := tc ρ s (i + 1)) (pos := psT ρ s (i + 1)) (N := rN ρ) (R := rT ρ) (n := n) (tick := i + 1) (L := al ρ s i) (x1 := nI s) (κ := fun (p0 : Nat) (y1 : Int32) (y2 : Int32) (y3 : Int32) (y4 : Int32) (τ : SS) => f_X9_touches_L9 (fun (τ : SS) => some τ) fu p0 y1 y2 y3 (y4 + 1) τ) ((g4 _ _ (by omega) (by omega)).trans hX.1) ((g4 _ _ (by omega) (by omega)).trans hX.2.1) hN hR hn (by omega) (fun w hw' => tc_lt hw') g3 hps (i5.of (fun q j _ => g4 q j (by omega) (by omega)))
        refine Or.inl ⟨t2, ⟨by omega, fun q j hq => ?_, fun w hw' => ?_, k2⟩, ?_⟩
        · unfold SM at hq
          rw [k3 q j (by omega), g4 q j (by omega) (by omega)]
          exact i2 q j (by unfold SM; omega)
        · rw [k3 _ _ (by omega)]
          exact hps w hw'
        · simp only [f_X9_touches_L9, Nat.add_sub_cancel]
          rw [if_neg (show ¬ nI n ≤ nI (min (al ρ s i).length n) by rw [le_nI (by omega) (by omega)]; omega), g1, Option.bind_some, k1, ol_add]
          rfl)
    FU 1 t0 (by omega) (FU_big (by omega)) ⟨Nat.le_refl _, fun q j hq => f3 q j (by unfold SM at hq; omega), fun w hw' => ⟨f2 w hw', psT_lt (s := s) hw 0 w hw'⟩, fun i e he => by simp [al] at he⟩
  have hf : f_X9_touches 143 (nI s) (nI n) σ = f_X9_touches_L9 (fun (τ : SS) => some τ) FU 143 (nI s) (nI n) (nI (min (al ρ s (1 - 1)).length n)) (nI 1) t0 := by
    unfold f_X9_touches
    rw [f1, Option.bind_some, show min (al ρ s (1 - 1)).length n = 0 from Nat.zero_min n]
    rfl
  rw [hf]
  rcases key with ⟨t, ⟨_, i2, i3, i5⟩, e⟩ | ⟨t, m, e, k⟩
  · have hl : 100 ≤ (al ρ s 900).length := al_len hw hs1 hs2 100
    exact ⟨t, 900, e, by omega, i5, i2⟩
  · exact ⟨t, m, e, k⟩
