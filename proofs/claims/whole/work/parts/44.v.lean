/-! how far an arc goes: the class -/
def gs (R k a b : Nat) : Nat := if k = 3 ∨ k = 5 then (a + (R - b)) % R else (b + (R - a)) % R
theorem x_goes {σ : SS} {q k a b R : Nat} (h0 : σ.1 q 0 = nI k) (hk : k ≤ 5) (ha : a < R) (hb : b < R) (hR : R ≤ 60) : f_X7_goes q (nI a) (nI b) (nI R) σ = nI (gs R k a b) := by
  unfold f_X7_goes gs
  dsimp only [jn1]
  rw [h0]
  by_cases h3 : k = 3
  · subst h3
    rw [if_pos (show nI 3 = 3 by decide), if_neg one0, if_pos (Or.inl rfl), mod_sub 1 (by omega) (by omega) (by omega) (by omega) (by omega), Nat.one_mul]
  · by_cases h5 : k = 5
    · subst h5
      rw [if_neg (show ¬ nI 5 = 3 by decide), if_pos (show nI 5 = 5 by decide), if_neg one0, if_pos (Or.inr rfl), mod_sub 1 (by omega) (by omega) (by omega) (by omega) (by omega), Nat.one_mul]
    · rw [if_neg (show ¬ nI k = 3 by rw [fa_lit 3, eq_nI (by omega) (by omega)]; exact h3), if_neg (show ¬ nI k = 5 by rw [fa_lit 5, eq_nI (by omega) (by omega)]; exact h5), if_pos rfl, if_neg (by omega), mod_sub 1 (by omega) (by omega) (by omega) (by omega) (by omega), Nat.one_mul]
