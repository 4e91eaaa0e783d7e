/-! roll -/
theorem minA {a : Nat} (h : a ≤ 2000000) : f_J9_min_7cf53 (nI a) 9999 = nI (min a 9999) := by
  unfold f_J9_min_7cf53
  rw [fa_lit 9999]
  by_cases e : 9999 < a
  · rw [if_pos (by rw [lt_nI (by omega) (by omega)]; omega), Nat.min_eq_right (by omega)]
  · rw [if_neg (by rw [lt_nI (by omega) (by omega)]; omega), Nat.min_eq_left (by omega)]
theorem minB {a : Nat} (h : a ≤ 2000000) : f_J9_min_7cf53 9999 (nI a) = nI (min a 9999) := by
  unfold f_J9_min_7cf53
  rw [fa_lit 9999]
  by_cases e : a < 9999
  · rw [if_pos (by rw [lt_nI (by omega) (by omega)]; omega), Nat.min_eq_left (by omega)]
  · rw [if_neg (by rw [lt_nI (by omega) (by omega)]; omega), Nat.min_eq_right (by omega)]
/-- the ring with a drop more on tooth v -/
def rInk (ρ : RG) (v : Nat) : RG := (ρ.1, (fun t => if t = v then min (rI ρ t + 1) 9999 else rI ρ t), ρ.2.2.1, ρ.2.2.2)
theorem X1.put {ρ : RG} {σ : SS} {w j v : Nat} (h : X1 ρ σ) (hn : rN ρ ≤ 6) : X1 (rPut ρ w j v) (sI σ (5 + w) j (nI v)) := by
  refine ⟨(rI_q (by omega)).trans h.1, (rI_q (by omega)).trans h.2.1, fun a ha => (rI_q (by omega)).trans (h.2.2.1 a ha), fun a ha => (rI_q (by omega)).trans (h.2.2.2.1 a ha), fun i hi k hk => ?_⟩
  rw [rI_i]
  show _ = nI (if i = w ∧ k = j then v else rK ρ i k)
  by_cases e : i = w ∧ k = j
  · rw [if_pos ⟨by omega, e.2⟩, if_pos e]
  · rw [if_neg (fun z => e ⟨by omega, z.2⟩), if_neg e]
    exact h.2.2.2.2 i hi k hk
theorem M1.put {ρ : RG} {σ : SS} {w j v : Nat} (h : M1 ρ σ) : M1 (rPut ρ w j v) (sI σ (146 + j) w (nI v)) := by
  refine ⟨(rI_q (by omega)).trans h.1, (rI_q (by omega)).trans h.2.1, fun a ha => (rI_q (by omega)).trans (h.2.2.1 a ha), fun a ha => (rI_q (by omega)).trans (h.2.2.2.1 a ha), fun i hi k hk => ?_⟩
  rw [rI_i]
  show _ = nI (if i = w ∧ k = j then v else rK ρ i k)
  by_cases e : i = w ∧ k = j
  · rw [if_pos ⟨by omega, e.1⟩, if_pos e]
  · rw [if_neg (fun z => e ⟨z.2, by omega⟩), if_neg e]
    exact h.2.2.2.2 i hi k hk
theorem X1.ink {ρ : RG} {σ : SS} {v : Nat} (h : X1 ρ σ) : X1 (rInk ρ v) (sI σ 2 v (nI (min (rI ρ v + 1) 9999))) := by
  refine ⟨(rI_q (by omega)).trans h.1, (rI_q (by omega)).trans h.2.1, fun a ha => ?_, fun a ha => (rI_q (by omega)).trans (h.2.2.2.1 a ha), fun i hi k hk => (rI_q (by omega)).trans (h.2.2.2.2 i hi k hk)⟩
  rw [rI_i]
  show _ = nI (if a = v then min (rI ρ a + 1) 9999 else rI ρ a)
  by_cases e : a = v
  · rw [if_pos ⟨rfl, e⟩, if_pos e, e]
  · rw [if_neg (fun z => e z.2), if_neg e]
    exact h.2.2.1 a ha
theorem M1.ink {ρ : RG} {σ : SS} {v : Nat} (h : M1 ρ σ) : M1 (rInk ρ v) (sI σ 145 v (nI (min (rI ρ v + 1) 9999))) := by
  refine ⟨(rI_q (by omega)).trans h.1, (rI_q (by omega)).trans h.2.1, fun a ha => ?_, fun a ha => (rI_q (by omega)).trans (h.2.2.2.1 a ha), fun i hi k hk => (rI_q (by omega)).trans (h.2.2.2.2 i hi k hk)⟩
  rw [rI_i]
  show _ = nI (if a = v then min (rI ρ a + 1) 9999 else rI ρ a)
  by_cases e : a = v
  · rw [if_pos ⟨rfl, e⟩, if_pos e, e]
  · rw [if_neg (fun z => e z.2), if_neg e]
    exact h.2.2.1 a ha
theorem rK_put {ρ : RG} {w j v i k : Nat} : rK (rPut ρ w j v) i k = if i = w ∧ k = j then v else rK ρ i k := rfl
theorem rK_ne {ρ : RG} {w j v i k : Nat} (h : ¬ k = j) : rK (rPut ρ w j v) i k = rK ρ i k := if_neg (fun z => h z.2)
theorem WR.ink {ρ : RG} {v : Nat} (h : WR ρ) : WR (rInk ρ v) := by
  obtain ⟨w1, w2, w3, w4, w5, w6⟩ := h
  refine ⟨w1, w2, w3, fun t => ?_, w5, w6⟩
  show (if t = v then min (rI ρ t + 1) 9999 else rI ρ t) ≤ 9999
  have := w4 t
  split <;> omega
theorem WR.put4 {ρ : RG} {w v : Nat} (h : WR ρ) (hv : v < rT ρ) : WR (rPut ρ w 4 v) := by
  obtain ⟨w1, w2, w3, w4, w5, w6⟩ := h
  refine ⟨w1, w2, w3, w4, w5, fun i hi => ?_⟩
  obtain ⟨a1, a2, a3, a4, a5, a6, a7, a8⟩ := w6 i hi
  rw [rK_ne (k := 0) (by omega), rK_ne (k := 1) (by omega), rK_ne (k := 2) (by omega), rK_ne (k := 3) (by omega), rK_ne (k := 5) (by omega), rK_put]
  refine ⟨a1, a2, a3, a4, a5, a6, ?_, a8⟩
  show _ < rT ρ
  split
  · exact hv
  · exact a7
theorem WR.put5 {ρ : RG} {w v : Nat} (h : WR ρ) (hv : v ≤ 9999) : WR (rPut ρ w 5 v) := by
  obtain ⟨w1, w2, w3, w4, w5, w6⟩ := h
  refine ⟨w1, w2, w3, w4, w5, fun i hi => ?_⟩
  obtain ⟨a1, a2, a3, a4, a5, a6, a7, a8⟩ := w6 i hi
  rw [rK_ne (by omega), rK_ne (by omega), rK_ne (by omega), rK_ne (by omega), rK_ne (by omega), rK_put]
  refine ⟨a1, a2, a3, a4, a5, a6, a7, ?_⟩
  split
  · exact hv
  · exact a8
theorem Sh.put {ρ ρ' : RG} {w j v : Nat} (h : Sh ρ ρ') (hj : 4 ≤ j) : Sh ρ (rPut ρ' w j v) := ⟨h.1, h.2.1, fun i hi k hk => (rK_ne (by omega)).trans (h.2.2 i hi k hk)⟩
theorem Sh.ink {ρ ρ' : RG} {v : Nat} (h : Sh ρ ρ') : Sh ρ (rInk ρ' v) := h
def nxw (ρ : RG) (w : Nat) : Nat := nx (rT ρ) (rW ρ) (rK ρ w 0) (rK ρ w 1) (rK ρ w 2) (rK ρ w 4)
def rS (ρ : RG) (w : Nat) : RG := rPut (rInk ρ (nxw ρ w)) w 4 (nxw ρ w)
def rSs (ρ : RG) (w : Nat) : Nat → RG
  | 0 => ρ
  | n + 1 => rS (rSs ρ w n) w
def rRo (ρ : RG) (w n : Nat) : RG := rPut (rSs ρ w n) w 5 (min (rK (rSs ρ w n) w 5 + n) 9999)
theorem rSs_ok {ρ : RG} (h : WR ρ) (w : Nat) : ∀ n, WR (rSs ρ w n) ∧ Sh ρ (rSs ρ w n) := by
  intro n
  induction n with
  | zero => exact ⟨h, Sh.refl ρ⟩
  | succ n ih => exact ⟨ih.1.ink.put4 (nx_lt (by have := ih.1.1; omega) _ _ _ _ _), (ih.2.ink).put (by omega)⟩
theorem rRo_ok {ρ : RG} (h : WR ρ) (w n : Nat) : WR (rRo ρ w n) ∧ Sh ρ (rRo ρ w n) := ⟨(rSs_ok h w n).1.put5 (by omega), (rSs_ok h w n).2.put (by omega)⟩
theorem x_roll {ρ : RG} {σ : SS} {w n : Nat} (h : X1 ρ σ) (hw : WR ρ) (hi : w < rN ρ) (hn : n ≤ 40) : ∃ σ', f_X4_rollTruly 1 (5 + w) (nI n) σ = some σ' ∧ X1 (rRo ρ w n) σ' ∧ ∀ q j, (q < 1 ∨ 10 < q) → σ'.1 q j = σ.1 q j := by
  have h6 := hw.2.2.1
  obtain ⟨s, ⟨h1, h2⟩, e⟩ := loop_eq (fun fu i (s : SS) => f_X4_rollTruly_L2 (fun (p1 : Nat) (y2 : Int32) (τ : SS) => some (sI τ p1 5 (f_J9_min_7cf53 ((τ.1 p1 5) + y2) 9999))) fu 1 (5 + w) (nI n) (nI i) s) (fun s => some (sI s (5 + w) 5 (f_J9_min_7cf53 ((s.1 (5 + w) 5) + nI n) 9999))) n (fun i s => X1 (rSs ρ w i) s ∧ ∀ q j, (q < 1 ∨ 10 < q) → s.1 q j = σ.1 q j)
    (fun fu s _ => by
      simp only [f_X4_rollTruly_L2]
      rw [if_pos (show nI n ≤ nI n by rw [le_nI (by omega) (by omega)]; omega)])
    (fun fu i s hin hI => by
      obtain ⟨i1, i2⟩ := hI
      obtain ⟨g1, g2⟩ := rSs_ok hw w i
      have hi' : w < rN (rSs ρ w i) := by rw [g2.2.1]; exact hi
      have h60 := g1.2.1
      have at4 : s.1 (5 + w) 4 = nI (rK (rSs ρ w i) w 4) := i1.2.2.2.2 w hi' 4 (by omega)
      have hx := x_nextW i1 g1 hi' (g1.2.2.2.2.2 w hi').2.2.2.2.2.2.1
      have hv : nxw (rSs ρ w i) w < rT (rSs ρ w i) := nx_lt (by have := g1.1; omega) _ _ _ _ _
      have hk : s.1 2 (nxw (rSs ρ w i) w) = nI (rI (rSs ρ w i) (nxw (rSs ρ w i) w)) := i1.2.2.1 _ (by omega)
      have h99 := g1.2.2.2.1 (nxw (rSs ρ w i) w)
      have hx' : f_X4_nextBy 1 (5 + w) (s.1 (5 + w) 4) s = some (nI (nxw (rSs ρ w i) w)) := by rw [at4]; exact hx
      refine ⟨sI (sI s 2 (nxw (rSs ρ w i) w) (nI (min (rI (rSs ρ w i) (nxw (rSs ρ w i) w) + 1) 9999))) (5 + w) 4 (nI (nxw (rSs ρ w i) w)), ⟨(i1.ink).put (by show rN (rSs ρ w i) ≤ 6; exact g1.2.2.1), fun q j hq => ?_⟩, ?_⟩
      · rw [rI_q (by omega), rI_q (by omega)]
        exact i2 q j hq
      · generalize nxw (rSs ρ w i) w = v at *
        simp (disch := omega) only [f_X4_rollTruly_L2, hx', Option.bind_some, RD, LN, cl_nI, ck_i, hk, ol_add, minA]
        rw [if_neg (show ¬ nI n ≤ nI i by rw [le_nI (by omega) (by omega)]; omega)])
    (fu := FU) (i := 0) (s := σ) (by omega) (FU_big (by omega)) ⟨h, fun _ _ _ => rfl⟩
  obtain ⟨g1, g2⟩ := rSs_ok hw w n
  have hi' : w < rN (rSs ρ w n) := by rw [g2.2.1]; exact hi
  have at5 : s.1 (5 + w) 5 = nI (rK (rSs ρ w n) w 5) := h1.2.2.2.2 w hi' 5 (by omega)
  have h99 := (g1.2.2.2.2.2 w hi').2.2.2.2.2.2.2
  refine ⟨_, e, ?_, fun q j hq => (rI_q (by omega)).trans (h2 q j hq)⟩
  rw [at5, nI_add, minA (by omega)]
  exact h1.put g1.2.2.1
theorem m_roll {ρ : RG} {σ : SS} {w n : Nat} (h : M1 ρ σ) (hw : WR ρ) (hi : w < rN ρ) (hn : n ≤ 40) : ∃ σ', f_X9_goesOn 143 (nI w) (nI n) σ = some σ' ∧ M1 (rRo ρ w n) σ' ∧ ∀ q j, (q < 144 ∨ 151 < q) → σ'.1 q j = σ.1 q j := by
  have h6 := hw.2.2.1
  obtain ⟨s, ⟨h1, h2⟩, e⟩ := loop_eq (fun fu i (s : SS) => f_X9_goesOn_L2 (fun (p0 : Nat) (y1 : Int32) (y2 : Int32) (τ : SS) => ck (¬ (y1 < 0 ∨ ln (rid p0 9) ≤ y1.toNatClampNeg)) (ck (¬ (y1 < 0 ∨ ln (rid p0 9) ≤ y1.toNatClampNeg)) (some (sI τ (rid p0 9) y1.toNatClampNeg (f_J9_min_7cf53 9999 ((τ.1 (rid p0 9) y1.toNatClampNeg) + y2)))))) fu 143 (nI w) (nI n) (nI i) s) (fun s => some (sI s 151 w (f_J9_min_7cf53 9999 ((s.1 151 w) + nI n)))) n (fun i s => M1 (rSs ρ w i) s ∧ ∀ q j, (q < 144 ∨ 151 < q) → s.1 q j = σ.1 q j)
    (fun fu s _ => by
      simp (disch := omega) only [f_X9_goesOn_L2, RM, LN, cl_nI, ck_i]
      rw [if_pos (show nI n ≤ nI n by rw [le_nI (by omega) (by omega)]; omega)])
    (fun fu i s hin hI => by
      obtain ⟨i1, i2⟩ := hI
      obtain ⟨g1, g2⟩ := rSs_ok hw w i
      have hi' : w < rN (rSs ρ w i) := by rw [g2.2.1]; exact hi
      have h60 := g1.2.1
      have at4 : s.1 150 w = nI (rK (rSs ρ w i) w 4) := i1.2.2.2.2 w hi' 4 (by omega)
      have hx := m_nextBy i1 g1 hi' (g1.2.2.2.2.2 w hi').2.2.2.2.2.2.1
      have hv : nxw (rSs ρ w i) w < rT (rSs ρ w i) := nx_lt (by have := g1.1; omega) _ _ _ _ _
      have hk : s.1 145 (nxw (rSs ρ w i) w) = nI (rI (rSs ρ w i) (nxw (rSs ρ w i) w)) := i1.2.2.1 _ (by omega)
      have h99 := g1.2.2.2.1 (nxw (rSs ρ w i) w)
      have hx' : f_X9_nextBy 143 (nI w) (s.1 150 w) s = some (nI (nxw (rSs ρ w i) w)) := by rw [at4]; exact hx
      refine ⟨sI (sI s 145 (nxw (rSs ρ w i) w) (nI (min (rI (rSs ρ w i) (nxw (rSs ρ w i) w) + 1) 9999))) 150 w (nI (nxw (rSs ρ w i) w)), ⟨M1.put (j := 4) i1.ink, fun q j hq => ?_⟩, ?_⟩
      · rw [rI_q (by omega), rI_q (by omega)]
        exact i2 q j hq
      · generalize nxw (rSs ρ w i) w = v at *
        simp (disch := omega) only [f_X9_goesOn_L2, RM, LN, cl_nI, ck_i, hx', Option.bind_some, hk, ol_add, minB]
        rw [if_neg (show ¬ nI n ≤ nI i by rw [le_nI (by omega) (by omega)]; omega)])
    (fu := FU) (i := 0) (s := σ) (by omega) (FU_big (by omega)) ⟨h, fun _ _ _ => rfl⟩
  obtain ⟨g1, g2⟩ := rSs_ok hw w n
  have hi' : w < rN (rSs ρ w n) := by rw [g2.2.1]; exact hi
  have at5 : s.1 151 w = nI (rK (rSs ρ w n) w 5) := h1.2.2.2.2 w hi' 5 (by omega)
  have h99 := (g1.2.2.2.2.2 w hi').2.2.2.2.2.2.2
  refine ⟨_, e, ?_, fun q j hq => (rI_q (by omega)).trans (h2 q j hq)⟩
  rw [at5, nI_add, minB (by omega)]
  exact M1.put (j := 5) h1
theorem le_bad {c : Int32} {n : Nat} (h : bad c (n + 1)) (hn : n ≤ 1000000) (h1 : nI 1 ≤ c) : ¬ c ≤ nI n := by
  rcases h with h | h
  · exact absurd h1 (neg_i h (k := 1) (by omega)).2.2.1
  · exact (big_i h (Nat.lt_succ_self n) (by omega)).2.1
theorem pc_roll_ok : pc_roll Rel := by
  rintro σ c1 c2 ⟨A, hx, hm, hw⟩
  have hR := hw.1.2.1
  have hN := hw.1.2.2.1
  rcases ix_cases c1 (n := rN A.1) (by omega) with hb | ⟨w, hi, rfl⟩
  · refine both_ref (-1) 1 hx hm hw (fun τ h => ?_) (fun τ h => ?_)
    · unfold f_X8_roll
      simp only [RD, x_wheel_bad h.1.2.1 hb, x_ref, Option.bind_some]
    · unfold f_X9_roll
      simp only [m_wheel_bad h.1.2.1 hN hb, m_ref, Option.bind_some, if_true]
  · by_cases c1 : (1 : Int32) ≤ c2
    · rcases ix_cases c2 (n := 41) (by omega) with hb | ⟨n, hn, rfl⟩
      · have h40 : ¬ c2 ≤ (40 : Int32) := le_bad (n := 40) hb (by omega) c1
        refine both_ref (-6) 6 hx hm hw (fun τ h => ?_) (fun τ h => ?_)
        · unfold f_X8_roll
          simp only [RD, x_wheel h.1.2.1 hN hi, Option.bind_some, if_pos c1, if_neg h40, x_ref]
        · unfold f_X9_roll
          simp only [m_wheel h.1.2.1 hN hi, if_neg one0, if_pos c1, if_neg h40, m_ref, Option.bind_some]
      · have h40 : nI n ≤ (40 : Int32) := by rw [fa_lit 40, le_nI (by omega) (by omega)]; omega
        obtain ⟨r1, r2⟩ := rRo_ok hw.1 w n
        refine both (r := nI (rK (rRo A.1 w n) w 4)) hx hm hw (hw.do r1 r2) (XC.deed hw r2 (fun z7 => (f_X4_rollTruly 1 (5 + w) (nI n) z7).bind fun z9 => some ((z9.1 (5 + w) 4), z9)) (fun τ h => ?_) (fun τ h => ?_)) (MC.deed hw (fun z4 => (f_X9_goesOn 143 (nI w) (nI n) z4).bind fun z6 => ck (¬ (nI w < 0 ∨ ln (rid 143 8) ≤ (nI w).toNatClampNeg)) (some ((z6.1 (rid 143 8) (nI w).toNatClampNeg), z6))) (fun τ h => ?_) (fun τ h => ?_))
        · unfold f_X8_roll
          simp only [RD, x_wheel h.1.2.1 hN hi, Option.bind_some, if_pos c1, if_pos h40]
        · obtain ⟨τ', f1, f2, f3⟩ := x_roll h hw.1 hi (n := n) (by omega)
          refine ⟨τ', ?_, f2, f3⟩
          rw [f1, Option.bind_some, f2.2.2.2.2 w (by rw [r2.2.1]; exact hi) 4 (by omega)]
        · unfold f_X9_roll
          simp only [m_wheel h.1.2.1 hN hi, if_neg one0, if_pos c1, if_pos h40]
        · obtain ⟨τ', f1, f2, f3⟩ := m_roll h hw.1 hi (n := n) (by omega)
          refine ⟨τ', ?_, f2, f3⟩
          have e : τ'.1 150 w = nI (rK (rRo A.1 w n) w 4) := f2.2.2.2.2 w (by rw [r2.2.1]; exact hi) 4 (by omega)
          simp (disch := omega) only [RM, LN, cl_nI, ck_i, f1, Option.bind_some, e]
    · refine both_ref (-4) 4 hx hm hw (fun τ h => ?_) (fun τ h => ?_)
      · unfold f_X8_roll
        simp only [RD, x_wheel h.1.2.1 hN hi, Option.bind_some, if_neg c1, x_ref]
      · unfold f_X9_roll
        simp only [m_wheel h.1.2.1 hN hi, if_neg one0, if_neg c1, m_ref, Option.bind_some]
