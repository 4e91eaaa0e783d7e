/-! links: they are there, and change nothing else -/
theorem minN {a b : Nat} (ha : a ≤ 2000000) (hb : b ≤ 2000000) : f_J9_min_7cf53 (nI a) (nI b) = nI (min a b) := by
  unfold f_J9_min_7cf53
  by_cases e : b < a
  · rw [if_pos (by rw [lt_nI (by omega) (by omega)]; omega), Nat.min_eq_right (by omega)]
  · rw [if_neg (by rw [lt_nI (by omega) (by omega)]; omega), Nat.min_eq_left (by omega)]
theorem rid_d {d : Nat} (hd : d = 116 ∨ d = 122) : rid d 9 = d + 5 ∧ ln (d + 5) = 60 := by rcases hd with rfl | rfl <;> decide +kernel
theorem x_addLink0 {d a b : Nat} {σ : SS} (ha : a < 60) (hb : b < 60) (hd : d = 116 ∨ d = 122) : ∃ σ', f_X0_addLink d (nI a) (nI b) σ = some σ' ∧ ∀ q j, ¬ (q = d ∧ j = 4) → σ'.1 q j = σ.1 q j := by
  obtain ⟨r1, r2⟩ := rid_d hd
  have hm : min a b < 60 := by omega
  unfold f_X0_addLink f_X0_isLink
  simp (disch := omega) only [r1, r2, minN, cl_nI, ck_i]
  generalize f_J9_max_7cf53 (nI a) (nI b) = M
  split
  · rw [Option.bind_some]
    exact ⟨σ, rfl, fun _ _ _ => rfl⟩
  · rw [Option.bind_some]
    exact ⟨_, rfl, fun q j h => by rw [rI_i, if_neg h]; rfl⟩
