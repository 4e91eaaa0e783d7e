/-! wheel -/
def rAdd (ρ : RG) (f : Nat → Nat) : RG := ((rT ρ, rN ρ + 1), rI ρ, rW ρ, fun i j => if i = rN ρ then f j else rK ρ i j)
def wf6 (k s g p a : Nat) : Nat → Nat := fun j => if j = 0 then k else if j = 1 then s else if j = 2 then g else if j = 3 then p else if j = 4 then a else 0
theorem six {P : Nat → Prop} (h0 : P 0) (h1 : P 1) (h2 : P 2) (h3 : P 3) (h4 : P 4) (h5 : P 5) : ∀ j, j < 6 → P j := by
  intro j hj
  obtain rfl | rfl | rfl | rfl | rfl | rfl : j = 0 ∨ j = 1 ∨ j = 2 ∨ j = 3 ∨ j = 4 ∨ j = 5 := by omega
  · exact h0
  · exact h1
  · exact h2
  · exact h3
  · exact h4
  · exact h5
theorem rAdd_old {ρ : RG} {f : Nat → Nat} {i j : Nat} (h : i < rN ρ) : rK (rAdd ρ f) i j = rK ρ i j := if_neg (by omega)
theorem rAdd_new {ρ : RG} {f : Nat → Nat} {j : Nat} : rK (rAdd ρ f) (rN ρ) j = f j := if_pos rfl
theorem rAdd_ok {ρ : RG} {k s g p a : Nat} (hw : WR ρ) (hn : rN ρ < 6) (hk : k ≤ 5) (hs : 1 ≤ s) (hs2 : s < rT ρ) (hg : g ≤ 9) (hp : 1 ≤ p) (hp2 : p ≤ 9) (ha : a < rT ρ) : WR (rAdd ρ (wf6 k s g p a)) := by
  obtain ⟨w1, w2, w3, w4, w5, w6⟩ := hw
  refine ⟨w1, w2, ?_, w4, w5, fun i hi => ?_⟩
  · show rN ρ + 1 ≤ 6
    omega
  · have hi : i < rN ρ + 1 := hi
    by_cases e : i < rN ρ
    · rw [rAdd_old e, rAdd_old e, rAdd_old e, rAdd_old e, rAdd_old e, rAdd_old e]
      exact w6 i e
    · have e : i = rN ρ := by omega
      subst e
      rw [rAdd_new, rAdd_new, rAdd_new, rAdd_new, rAdd_new, rAdd_new]
      exact ⟨hk, hs, hs2, hg, hp, hp2, ha, Nat.zero_le 9999⟩
theorem x_add {ρ : RG} {σ : SS} {k s g p a : Nat} (h : X1 ρ σ) (hn : rN ρ < 6) : ∃ σ', f_X4_addWheel 1 (nI k) (nI s) (nI g) (nI a) (nI p) σ = some σ' ∧ X1 (rAdd ρ (wf6 k s g p a)) σ' ∧ ∀ q j, (q < 1 ∨ 10 < q) → σ'.1 q j = σ.1 q j := by
  obtain ⟨h1, h2, h3, h4, h5⟩ := h
  refine ⟨sI (sI (sI (sI (sI (sI (sI σ (5 + rN ρ) 0 (nI k)) (5 + rN ρ) 1 (nI s)) (5 + rN ρ) 2 (nI g)) (5 + rN ρ) 3 (nI p)) (5 + rN ρ) 4 (nI a)) (5 + rN ρ) 5 0) 1 1 (nI (rN ρ + 1)), ?_, ⟨?_, ?_, fun t ht => ?_, fun t ht => ?_, fun i hi j hj => ?_⟩, fun q j hq => ?_⟩
  · unfold f_X4_addWheel f_X7_set
    rw [if_neg (show ¬ (6 : Int32) ≤ σ.1 1 1 by rw [h2, fa_lit 6, le_nI (by omega) (by omega)]; omega)]
    simp (disch := omega) only [RD, LN, h2, cl_nI, ck_i, rid_wheel, Option.bind_some, rI_q, ol_add]
  · simp (disch := omega) only [rI_q, rI_j]; exact h1
  · rw [rI_s]; rfl
  · simp (disch := omega) only [rI_q]; exact h3 t ht
  · simp (disch := omega) only [rI_q]; exact h4 t ht
  · have hi : i < rN ρ + 1 := hi
    show (sI _ 1 1 _).1 (5 + i) j = _
    rw [rI_q (by omega)]
    by_cases e : i < rN ρ
    · rw [rAdd_old e, rI_q (by omega), rI_q (by omega), rI_q (by omega), rI_q (by omega), rI_q (by omega), rI_q (by omega)]
      exact h5 i e j hj
    · have e : i = rN ρ := by omega
      subst e
      rw [rAdd_new]
      refine six (P := fun j => (sI (sI (sI (sI (sI (sI σ (5 + rN ρ) 0 (nI k)) (5 + rN ρ) 1 (nI s)) (5 + rN ρ) 2 (nI g)) (5 + rN ρ) 3 (nI p)) (5 + rN ρ) 4 (nI a)) (5 + rN ρ) 5 0).1 (5 + rN ρ) j = nI (wf6 k s g p a j)) ?_ ?_ ?_ ?_ ?_ ?_ j hj <;> simp (disch := omega) only [rI_j, rI_s] <;> rfl
  · rw [rI_q (by omega), rI_q (by omega), rI_q (by omega), rI_q (by omega), rI_q (by omega), rI_q (by omega), rI_q (by omega)]
theorem m_comes {ρ : RG} {σ : SS} {k s g p a : Nat} (h : M1 ρ σ) (hn : rN ρ < 6) : ∃ σ', f_X9_comes 143 (nI k) (nI s) (nI g) (nI a) (nI p) σ = some σ' ∧ M1 (rAdd ρ (wf6 k s g p a)) σ' ∧ ∀ q j, ¬ (146 ≤ q ∧ q ≤ 151) → ¬ (q = 143 ∧ j = 3) → σ'.1 q j = σ.1 q j := by
  obtain ⟨h1, h2, h3, h4, h5⟩ := h
  refine ⟨sI (sI (sI (sI (sI (sI (sI σ 146 (rN ρ) (nI k)) 147 (rN ρ) (nI s)) 148 (rN ρ) (nI g)) 149 (rN ρ) (nI p)) 150 (rN ρ) (nI a)) 151 (rN ρ) 0) 143 3 (nI (rN ρ + 1)), ?_, ⟨?_, ?_, fun t ht => ?_, fun t ht => ?_, fun i hi j hj => ?_⟩, fun q j hq hq2 => ?_⟩
  · unfold f_X9_comes
    simp (disch := omega) only [RM, LN, rI_q, h2, cl_nI, ck_i, ol_add]
  · simp (disch := omega) only [rI_q, rI_j]; exact h1
  · rw [rI_s]; rfl
  · simp (disch := omega) only [rI_q]; exact h3 t ht
  · simp (disch := omega) only [rI_q]; exact h4 t ht
  · have hi : i < rN ρ + 1 := hi
    show (sI _ 143 3 _).1 (146 + j) i = _
    rw [rI_q (by omega)]
    by_cases e : i < rN ρ
    · rw [rAdd_old e, rI_j (by omega), rI_j (by omega), rI_j (by omega), rI_j (by omega), rI_j (by omega), rI_j (by omega)]
      exact h5 i e j hj
    · have e : i = rN ρ := by omega
      subst e
      rw [rAdd_new]
      refine six (P := fun j => (sI (sI (sI (sI (sI (sI σ 146 (rN ρ) (nI k)) 147 (rN ρ) (nI s)) 148 (rN ρ) (nI g)) 149 (rN ρ) (nI p)) 150 (rN ρ) (nI a)) 151 (rN ρ) 0).1 (146 + j) (rN ρ) = nI (wf6 k s g p a j)) ?_ ?_ ?_ ?_ ?_ ?_ j hj <;> dsimp only [Nat.reduceAdd] <;> simp (disch := omega) only [rI_q, rI_s] <;> rfl
  · rw [rI_i, if_neg hq2, rI_q (by omega), rI_q (by omega), rI_q (by omega), rI_q (by omega), rI_q (by omega), rI_q (by omega)]
