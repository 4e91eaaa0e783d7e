/-! rings copied; what can be undone is kept: the class -/
theorem x_wbecome {w v : Nat} {σ : SS} (h : ¬ w = v) : ∃ σ', f_X7_become w v σ = some σ' ∧ (∀ j, j < 6 → σ'.1 w j = σ.1 v j) ∧ ∀ q j, q ≠ w → σ'.1 q j = σ.1 q j := by
  unfold f_X7_become f_X7_set
  refine ⟨_, by rw [Option.bind_some], fun j hj => ?_, fun q j hq => ?_⟩
  · have h' : ¬ v = w := fun e => h e.symm
    rcases (show j = 0 ∨ j = 1 ∨ j = 2 ∨ j = 3 ∨ j = 4 ∨ j = 5 by omega) with rfl | rfl | rfl | rfl | rfl | rfl <;> simp [rI_i, h']
  · simp [rI_i, hq]
theorem x_become {a b : Nat} {σ : SS} (ha : kd a = 3) (hb : kd b = 3) (hd : a + 10 ≤ b ∨ b + 10 ≤ a) : ∃ σ', f_X4_become a b σ = some σ' ∧ (∀ j, j < 2 → σ'.1 a j = σ.1 b j) ∧ (∀ t, t < 60 → σ'.1 (a + 1) t = σ.1 (b + 1) t) ∧ (∀ t, t < 60 → σ'.1 (a + 2) t = σ.1 (b + 2) t) ∧ (∀ k, k < 6 → ∀ j, j < 6 → σ'.1 (a + 4 + k) j = σ.1 (b + 4 + k) j) ∧ ∀ q j, (q < a ∨ a + 10 ≤ q) → σ'.1 q j = σ.1 q j := by
  obtain ⟨a1, a2, a3, a4, a5, a6, a7⟩ := rid_ring ha
  obtain ⟨b1, b2, b3, b4, b5, b6, b7⟩ := rid_ring hb
  unfold f_X4_become
  simp only [a1, a2, b1, b2]
  generalize hs1 : (sC _ (a + 2) _ : SS) = σ1
  have e1 : ∀ j, j < 2 → σ1.1 a j = σ.1 b j := by
    intro j hj
    subst hs1
    rw [rC_q (by omega), rC_q (by omega)]
    rcases (show j = 0 ∨ j = 1 by omega) with rfl | rfl
    · rw [rI_j (by omega), rI_s]
    · rw [rI_s, rI_q (by omega)]
  have e2 : ∀ t, t < 60 → σ1.1 (a + 1) t = σ.1 (b + 1) t := by
    intro t ht
    subst hs1
    rw [rC_q (by omega), rC_s]
    unfold va_cpy
    rw [if_pos ⟨Nat.zero_le _, ht⟩, rI_q (by omega), rI_q (by omega)]
    exact congrArg (σ.1 (b + 1)) (by show 0 + (t - 0) = t; omega)
  have e3 : ∀ t, t < 60 → σ1.1 (a + 2) t = σ.1 (b + 2) t := by
    intro t ht
    subst hs1
    rw [rC_s]
    unfold va_cpy
    rw [if_pos ⟨Nat.zero_le _, ht⟩, rC_q (by omega), rI_q (by omega), rI_q (by omega)]
    exact congrArg (σ.1 (b + 2)) (by show 0 + (t - 0) = t; omega)
  have e4 : ∀ q j, (q < a ∨ a + 3 ≤ q) → σ1.1 q j = σ.1 q j := by
    intro q j hq
    subst hs1
    rw [rC_q (by omega), rC_q (by omega), rI_q (by omega), rI_q (by omega)]
  clear hs1
  rw [ck_pos (by rw [b4, a4]; decide), ck_pos (by rw [b5, a5]; decide)]
  obtain ⟨s, ⟨h1, h2⟩, e⟩ := loop_eq (fun fu i (s : SS) => f_X4_become_L48 (fun τ => some τ) fu a b (nI i) s) (fun s => some s) 6 (fun i s => (∀ k, k < i → ∀ j, j < 6 → s.1 (a + 4 + k) j = σ.1 (b + 4 + k) j) ∧ ∀ q j, (q < a + 4 ∨ a + 10 ≤ q) → s.1 q j = σ1.1 q j)
    (fun fu s _ => by
      simp only [f_X4_become_L48]
      rw [if_pos (show (6 : Int32) ≤ nI 6 by decide)])
    (fun fu i s hi hI => by
      obtain ⟨s', f1, f2, f3⟩ := x_wbecome (w := a + 4 + i) (v := b + 4 + i) (σ := s) (by omega)
      refine ⟨s', ⟨fun k hk j hj => ?_, fun q j hq => ?_⟩, ?_⟩
      · by_cases e : k = i
        · subst e
          rw [f2 j hj, hI.2 _ _ (by omega), e4 _ _ (by omega)]
        · rw [f3 _ _ (by omega)]
          exact hI.1 k (by omega) j hj
      · rw [f3 _ _ (by omega)]
        exact hI.2 q j hq
      · simp (disch := omega) only [f_X4_become_L48, a3, b3, a6, b6, cl_nI, ck_i, a7 i hi, b7 i hi, f1, Option.bind_some, ol_add]
        rw [if_neg (show ¬ (6 : Int32) ≤ nI i by rw [fa_lit 6, le_nI (by omega) (by omega)]; omega)])
    (fu := FU) (i := 0) (s := σ1) (by omega) (FU_big (by omega)) ⟨fun k hk => by omega, fun _ _ _ => rfl⟩
  exact ⟨s, e, fun j hj => (h2 _ _ (by omega)).trans (e1 j hj), fun t ht => (h2 _ _ (by omega)).trans (e2 t ht), fun t ht => (h2 _ _ (by omega)).trans (e3 t ht), h1, fun q j hq => (h2 _ _ (by omega)).trans (e4 q j (by omega))⟩
/-- so it holds what the other held -/
theorem x_become_R {a b : Nat} {σ : SS} (ha : kd a = 3) (hb : kd b = 3) (hd : a + 10 ≤ b ∨ b + 10 ≤ a) : ∃ σ', f_X4_become a b σ = some σ' ∧ (∀ ρ, rN ρ ≤ 6 → XR σ b ρ → XR σ' a ρ) ∧ ∀ q j, (q < a ∨ a + 10 ≤ q) → σ'.1 q j = σ.1 q j := by
  obtain ⟨σ', f0, f1, f2, f3, f4, f5⟩ := x_become (σ := σ) ha hb hd
  exact ⟨σ', f0, fun ρ hn ⟨h1, h2, h3, h4, h5⟩ => ⟨(f1 0 (by omega)).trans h1, (f1 1 (by omega)).trans h2, fun t ht => (f2 t ht).trans (h3 t ht), fun t ht => (f3 t ht).trans (h4 t ht), fun i hi j hj => (f4 i (by omega) j hj).trans (h5 i hi j hj)⟩, f5⟩
theorem kd_past {p : Nat} (h : p < 8) : kd (33 + 10 * p) = 3 := (by decide +kernel : ∀ p, p < 8 → kd (33 + 10 * p) = 3) p h
theorem kd_1 : kd 1 = 3 ∧ kd 11 = 3 ∧ kd 21 = 3 := by decide +kernel
theorem min8 {k : Nat} (hk : k ≤ 8) : f_J9_min_7cf53 (nI k + 1) 8 = nI (min (k + 1) 8) := by
  unfold f_J9_min_7cf53
  rw [fa_lit 1, nI_add, fa_lit 8]
  by_cases h : k = 8
  · subst h; rw [if_pos (by decide)]; rfl
  · rw [if_neg (by rw [lt_nI (by omega) (by omega)]; omega), Nat.min_eq_left (by omega)]
/-- what can be undone, with one more -/
def pu (ρ : RG) (l : List RG) : List RG := (ρ :: l).take 8
theorem pu_len (ρ : RG) (l : List RG) : (pu ρ l).length = min (l.length + 1) 8 := by
  unfold pu
  rw [List.length_take, List.length_cons, Nat.min_comm]
theorem pu_get {ρ x : RG} {l : List RG} {k : Nat} (h : (pu ρ l)[k]? = some x) : k < 8 ∧ ((k = 0 ∧ x = ρ) ∨ ∃ k', k = k' + 1 ∧ l[k']? = some x) := by
  unfold pu at h
  rw [List.getElem?_take] at h
  by_cases hk : k < 8
  · rw [if_pos hk] at h
    refine ⟨hk, ?_⟩
    cases k with
    | zero => exact Or.inl ⟨rfl, (Option.some.inj h).symm⟩
    | succ k => exact Or.inr ⟨k, rfl, h⟩
  · rw [if_neg hk] at h; cases h
theorem x_keep {A : AB} {σ : SS} (hw : WF A) (h : XH A σ) : ∃ σ', f_X3_keep 31 1 σ = some σ' ∧ X3 (pu A.1 A.2.2.1) σ' ∧ ∀ q j, (q < 31 ∨ 112 < q) → σ'.1 q j = σ.1 q j := by
  have hlen := hw.2.2.1.1
  obtain ⟨hk, p, hp, hpl, hr⟩ := h.2.2.1
  obtain ⟨σ', f1, f2, f3⟩ := x_become_R (a := 33 + 10 * p) (b := 1) (σ := σ) (kd_past hp) kd_1.1 (by omega)
  have g1 : σ'.1 31 1 = nI A.2.2.1.length := (f3 _ _ (by omega)).trans hk
  have g2 : σ'.1 31 2 = nI p := (f3 _ _ (by omega)).trans hpl
  have hm : f_X2_modulo (nI p + 1) 8 = nI ((p + 1) % 8) := by rw [fa_lit 1, nI_add, fa_lit 8, mod_nat (by omega) (by omega) (by omega)]
  refine ⟨sI (sI σ' 31 2 (nI ((p + 1) % 8))) 31 1 (nI (min (A.2.2.1.length + 1) 8)), ?_, ⟨?_, (p + 1) % 8, by omega, ?_, fun k ρ hk' => ?_⟩, fun q j hq => ?_⟩
  · unfold f_X3_keep
    simp (disch := omega) only [RD, LN, hpl, cl_nI, ck_i, rid_past hp, f1, Option.bind_some, g2, hm, rI_j, g1, min8 hlen]
  · rw [rI_s, pu_len]
  · rw [rI_j (by omega), rI_s]
  · obtain ⟨hk8, hx⟩ := pu_get hk'
    rcases hx with ⟨rfl, rfl⟩ | ⟨k', rfl, hx⟩
    · rw [show 33 + 10 * (((p + 1) % 8 + 7 - 0) % 8) = 33 + 10 * p by omega]
      exact (f2 A.1 hw.n1 h.1).of (fun q j _ _ => by rw [rI_q (by omega), rI_q (by omega)]) hw.n1
    · have := hr k' ρ hx
      rw [show 33 + 10 * (((p + 1) % 8 + 7 - (k' + 1)) % 8) = 33 + 10 * ((p + 7 - k') % 8) by omega]
      exact this.of (fun q j _ _ => by rw [rI_q (by omega), rI_q (by omega)]; exact f3 _ _ (by omega)) (hw.n3 ρ (List.mem_of_getElem? hx))
  · rw [rI_q (by omega), rI_q (by omega)]
    exact f3 _ _ (by omega)
