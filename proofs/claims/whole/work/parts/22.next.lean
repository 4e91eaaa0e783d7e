/-! NEXT of a tooth, both sides -/
/-- the first place from i on, of k, that has p; i + k if none -/
def fstF (p : Nat → Bool) : Nat → Nat → Nat
  | i, 0 => i
  | i, k + 1 => if p i then i else fstF p (i + 1) k
theorem fstF_le (p : Nat → Bool) : ∀ k i, i ≤ fstF p i k ∧ fstF p i k ≤ i + k := by
  intro k
  induction k with
  | zero => intro i; exact ⟨Nat.le_refl _, Nat.le_refl _⟩
  | succ k ih =>
    intro i
    unfold fstF
    split
    · omega
    · have := ih (i + 1); omega
def unw (R : Nat) (wn : Nat → Nat) (fr : Nat) : Nat := if fstF (fun i => decide (wn ((fr + i) % R) = 0)) 0 R < R then (fr + fstF (fun i => decide (wn ((fr + i) % R) = 0)) 0 R) % R else fr
def slp (R W f t : Nat) : Nat := (t + W + (if t % (f + 2) = 0 then f else 0)) % R
def nx (R : Nat) (wn : Nat → Nat) (k W f t : Nat) : Nat :=
  if k ≤ 1 then (t + W) % R else if k = 2 then slp R W f t else if k = 3 then (t + (R - W)) % R else if k = 4 then unw R wn (slp R W f t) else (t + 2 * (R - W)) % R
theorem unw_lt {R : Nat} (hR : 1 ≤ R) (wn : Nat → Nat) {fr : Nat} (h : fr < R) : unw R wn fr < R := by
  unfold unw
  split
  · exact Nat.mod_lt _ hR
  · exact h
theorem nx_lt {R : Nat} (hR : 1 ≤ R) (wn : Nat → Nat) (k W f t : Nat) : nx R wn k W f t < R := by
  unfold nx
  repeat' split
  all_goals first | exact Nat.mod_lt _ hR | exact unw_lt hR wn (Nat.mod_lt _ hR)
theorem nx_0 (R : Nat) (wn : Nat → Nat) (W f t : Nat) : nx R wn 0 W f t = (t + W) % R := rfl
theorem nx_1 (R : Nat) (wn : Nat → Nat) (W f t : Nat) : nx R wn 1 W f t = (t + W) % R := rfl
theorem nx_2 (R : Nat) (wn : Nat → Nat) (W f t : Nat) : nx R wn 2 W f t = slp R W f t := rfl
theorem nx_3 (R : Nat) (wn : Nat → Nat) (W f t : Nat) : nx R wn 3 W f t = (t + (R - W)) % R := rfl
theorem nx_4 (R : Nat) (wn : Nat → Nat) (W f t : Nat) : nx R wn 4 W f t = unw R wn (slp R W f t) := rfl
theorem nx_5 (R : Nat) (wn : Nat → Nat) (W f t : Nat) : nx R wn 5 W f t = (t + 2 * (R - W)) % R := rfl
theorem i5 : ((0 : Int32) = 0) ∧ ¬ (1 : Int32) = 0 ∧ ¬ (2 : Int32) = 0 ∧ ¬ (2 : Int32) = 1 ∧ ¬ (3 : Int32) = 0 ∧ ¬ (3 : Int32) = 1 ∧ ¬ (3 : Int32) = 2 ∧ ¬ (4 : Int32) = 0 ∧ ¬ (4 : Int32) = 1 ∧ ¬ (4 : Int32) = 2 ∧ ¬ (4 : Int32) = 3 ∧ ¬ (5 : Int32) = 0 ∧ ¬ (5 : Int32) = 1 ∧ ¬ (5 : Int32) = 2 ∧ ¬ (5 : Int32) = 3 ∧ ¬ (5 : Int32) = 4 := by decide
theorem mod_spec {x : Int32} {R : Nat} (hR : 1 ≤ R) (hR2 : R ≤ 1000000) : f_X2_modulo x (nI R) = nI (x.toInt % (R : Int)).toNat := by
  have hRt : (nI R).toInt = (R : Int) := nI_toInt (by omega)
  have hm := rem_toInt x (nI R)
  rw [hRt] at hm
  have hb := tmod_bounds (a := x.toInt) (M := (R : Int)) (by omega)
  have he : x.toInt % (R : Int) = (x.toInt.tmod R) % (R : Int) := by
    have h1 := Int.mul_tdiv_add_tmod x.toInt R
    conv => lhs; rw [← h1]
    rw [Int.add_comm, Int.add_mul_emod_self_left]
  dsimp only [f_X2_modulo, jn1]
  rw [if_pos (show (1 : Int32) ≤ nI R by rw [fa_lit 1, le_nI (by omega) (by omega)]; exact hR)]
  generalize hv : x - x / nI R * nI R = v at hm ⊢
  rw [he]
  by_cases h0 : 0 ≤ v
  · rw [if_pos h0]
    rw [Int32.le_iff_toInt_le] at h0
    have h0 : 0 ≤ v.toInt := h0
    rw [hm] at h0
    rw [Int.emod_eq_of_lt h0 hb.2]
    apply Int32.toInt_inj.mp
    rw [hm, nI_toInt (by omega)]
    omega
  · rw [if_neg h0]
    rw [Int32.le_iff_toInt_le] at h0
    have h0 : ¬ 0 ≤ v.toInt := h0
    rw [hm] at h0
    have e1 : x.toInt.tmod R % (R : Int) = x.toInt.tmod R + R := by
      rw [← Int.add_emod_right]
      exact Int.emod_eq_of_lt (by omega) (by omega)
    rw [e1]
    apply Int32.toInt_inj.mp
    rw [Int32.toInt_add, hm, hRt, nI_toInt (by omega), Int.bmod_eq_of_le (by omega) (by omega)]
    omega
theorem mod_nat {a R : Nat} (ha : a ≤ 1000000) (hR : 1 ≤ R) (hR2 : R ≤ 1000000) : f_X2_modulo (nI a) (nI R) = nI (a % R) := by
  rw [mod_spec hR hR2, nI_toInt (by omega)]
  congr 1
/-- a less b, b at most m times R -/
theorem mod_sub {a b R : Nat} (m : Nat) (ha : a ≤ 1000000) (hb : b ≤ m * R) (hb2 : b ≤ 1000000) (hR : 1 ≤ R) (hR2 : R ≤ 1000000) : f_X2_modulo (nI a - nI b) (nI R) = nI ((a + (m * R - b)) % R) := by
  rw [mod_spec hR hR2, pk_sub_toInt (by omega) (by omega)]
  congr 1
  have e : ((a : Int) - b) % (R : Int) = ((a + (m * R - b) : Nat) : Int) % (R : Int) := by
    have h1 : ((a + (m * R - b) : Nat) : Int) = (a : Int) - b + (R : Int) * (m : Int) := by
      rw [Int.mul_comm]
      omega
    rw [h1, Int.add_mul_emod_self_left]
  rw [e]
  have h2 : ((a + (m * R - b) : Nat) : Int) % (R : Int) = (((a + (m * R - b)) % R : Nat) : Int) := (Int.natCast_emod _ _).symm
  rw [h2, Int.toNat_natCast]
theorem x_slipped {σ : SS} {R W f t q : Nat} (hT : σ.1 1 0 = nI R) (h1 : σ.1 q 1 = nI W) (h2 : σ.1 q 2 = nI f) (hR : 1 ≤ R) (hR2 : R ≤ 60) (hW : W ≤ 60) (hf : f ≤ 9) (ht : t ≤ 60) : f_X4_slipped 1 q (nI t) σ = nI (slp R W f t) := by
  dsimp only [f_X4_slipped, jn1, slp]
  have hmt := Nat.mod_lt t (show f + 2 > 0 by omega)
  rw [hT, h1, h2, fa_lit 2, nI_add, mod_nat (by omega) (by omega) (by omega), fa_lit 0]
  by_cases h : t % (f + 2) = 0
  · rw [if_pos h, if_pos (show nI (t % (f + 2)) = nI 0 by rw [h]), nI_add, nI_add, mod_nat (by omega) hR (by omega)]
  · rw [if_neg h, if_neg (show ¬ nI (t % (f + 2)) = nI 0 by rw [eq_nI (by omega) (by omega)]; exact h), nI_add, nI_add, mod_nat (by omega) hR (by omega)]
theorem x_unworn {σ : SS} {R fr : Nat} {wn : Nat → Nat} (hT : σ.1 1 0 = nI R) (hw : ∀ t, t < 60 → σ.1 3 t = nI (wn t)) (hw1 : ∀ t, wn t ≤ 1) (hR : 1 ≤ R) (hR2 : R ≤ 60) (hfr : fr < R) : f_X4_unwornFrom 1 (nI fr) σ = some (nI (unw R wn fr)) := by
  unfold f_X4_unwornFrom
  have key : ∀ k i fu, i + k = R → k < fu → f_X4_unwornFrom_L2 σ (fun y1 => some y1) fu 1 (nI fr) (nI i) = some (nI (if fstF (fun i => decide (wn ((fr + i) % R) = 0)) i k < R then (fr + fstF (fun i => decide (wn ((fr + i) % R) = 0)) i k) % R else fr)) := by
    intro k
    induction k with
    | zero =>
      intro i fu hi hf
      obtain ⟨fu, rfl⟩ : ∃ z, fu = z + 1 := ⟨fu - 1, by omega⟩
      rw [show fstF (fun i => decide (wn ((fr + i) % R) = 0)) i 0 = i from rfl, if_neg (show ¬ i < R by omega)]
      simp only [f_X4_unwornFrom_L2, hT]
      rw [if_pos (show nI R ≤ nI i by rw [le_nI (by omega) (by omega)]; omega)]
    | succ k ih =>
      intro i fu hi hf
      obtain ⟨fu, rfl⟩ : ∃ z, fu = z + 1 := ⟨fu - 1, by omega⟩
      have hm : (fr + i) % R < R := Nat.mod_lt _ hR
      have hb := hw1 ((fr + i) % R)
      simp only [f_X4_unwornFrom_L2, hT, RD, LN]
      rw [if_neg (show ¬ nI R ≤ nI i by rw [le_nI (by omega) (by omega)]; omega), nI_add, mod_nat (by omega) hR (by omega), ck_nI (by omega) (by omega), cl_nI (by omega), hw _ (by omega), fa_lit 0, fa_lit 1, nI_add]
      by_cases h : wn ((fr + i) % R) = 0
      · have e : fstF (fun i => decide (wn ((fr + i) % R) = 0)) i (k + 1) = i := by unfold fstF; rw [if_pos (by simpa using h)]
        rw [e, if_pos (show nI (wn ((fr + i) % R)) = nI 0 by rw [h]), if_pos (show i < R by omega)]
      · have e : fstF (fun i => decide (wn ((fr + i) % R) = 0)) i (k + 1) = fstF (fun i => decide (wn ((fr + i) % R) = 0)) (i + 1) k := by rw [fstF]; rw [if_neg (by simpa using h)]
        rw [e, if_neg (show ¬ nI (wn ((fr + i) % R)) = nI 0 by rw [eq_nI (by omega) (by omega)]; exact h)]
        exact ih (i + 1) fu (by omega) (by omega)
  have := key R 0 FU (by omega) (FU_big (by omega))
  rw [fa_lit 0]
  exact this
theorem x_next {σ : SS} {ρ : RG} {q k W f t : Nat} (h : X1 ρ σ) (hw : WR ρ) (h0 : σ.1 q 0 = nI k) (h1 : σ.1 q 1 = nI W) (h2 : σ.1 q 2 = nI f) (hk : k ≤ 5) (hW : W < rT ρ) (hf : f ≤ 9) (ht : t < rT ρ) : f_X4_nextBy 1 q (nI t) σ = some (nI (nx (rT ρ) (rW ρ) k W f t)) := by
  obtain ⟨hT, -, -, hwn, -⟩ := h
  obtain ⟨w1, w2, -, -, w5, -⟩ := hw
  have hs := x_slipped (t := t) hT h1 h2 (by omega) w2 (by omega) hf (by omega)
  have hu := x_unworn (fr := slp (rT ρ) W f t) hT hwn w5 (by omega) w2 (Nat.mod_lt _ (by omega))
  unfold f_X4_nextBy
  rw [h0, h1, hT, hs, hu]
  rcases (show k = 0 ∨ k = 1 ∨ k = 2 ∨ k = 3 ∨ k = 4 ∨ k = 5 by omega) with rfl | rfl | rfl | rfl | rfl | rfl
  · rw [if_pos (show nI 0 = 0 by decide), nI_add, mod_nat (by omega) (by omega) (by omega), nx_0]
  · rw [if_neg (show ¬ nI 1 = 0 by decide), if_pos (show nI 1 = 1 by decide), nI_add, mod_nat (by omega) (by omega) (by omega), nx_1]
  · rw [if_neg (show ¬ nI 2 = 0 by decide), if_neg (show ¬ nI 2 = 1 by decide), if_pos (show nI 2 = 2 by decide), nx_2]
  · rw [if_neg (show ¬ nI 3 = 0 by decide), if_neg (show ¬ nI 3 = 1 by decide), if_neg (show ¬ nI 3 = 2 by decide), if_pos (show nI 3 = 3 by decide), mod_sub 1 (by omega) (by omega) (by omega) (by omega) (by omega), nx_3, Nat.one_mul]
  · rw [if_neg (show ¬ nI 4 = 0 by decide), if_neg (show ¬ nI 4 = 1 by decide), if_neg (show ¬ nI 4 = 2 by decide), if_neg (show ¬ nI 4 = 3 by decide), if_pos (show nI 4 = 4 by decide), Option.bind_some, nx_4]
  · rw [if_neg (show ¬ nI 5 = 0 by decide), if_neg (show ¬ nI 5 = 1 by decide), if_neg (show ¬ nI 5 = 2 by decide), if_neg (show ¬ nI 5 = 3 by decide), if_neg (show ¬ nI 5 = 4 by decide), fa_lit 2, pk_mul, mod_sub 2 (by omega) (by omega) (by omega) (by omega) (by omega), nx_5, Nat.mul_sub]
/-- the model's: with what stands of its ring -/
def MN (R : Nat) (wn : Nat → Nat) (σ : SS) : Prop := σ.1 143 0 = nI R ∧ (∀ t, t < 60 → σ.1 144 t = nI (wn t)) ∧ (∀ t, wn t ≤ 1) ∧ 1 ≤ R ∧ R ≤ 60
theorem M1.mn {ρ : RG} {σ : SS} (h : M1 ρ σ) (hw : WR ρ) : MN (rT ρ) (rW ρ) σ := ⟨h.1, h.2.2.2.1, hw.2.2.2.2.1, by have := hw.1; omega, hw.2.1⟩
theorem m_next_0 {σ : SS} {R W f t : Nat} {wn : Nat → Nat} (h : MN R wn σ) (hW : W < R) (hf : f ≤ 9) (ht : t < R) : f_X9_nextOf_0 143 2 (nI W) (nI f) (nI t) σ = some (nI (slp R W f t)) := by
  obtain ⟨hT, hwn, hw1, hR, hR2⟩ := h
  have hmt := Nat.mod_lt t (show f + 2 > 0 by omega)
  have hz : ¬ nI R = nI 0 := by rw [eq_nI (by omega) (by omega)]; omega
  have hz2 : ¬ nI (f + 2) = nI 0 := by rw [eq_nI (by omega) (by omega)]; omega
  have e : ∀ x : Option Int32, f_X9_nextOf_0 143 2 (nI W) (nI f) (nI t) σ = x ↔ ck (¬ nI f + nI 2 = nI 0) (if nI t - nI t / (nI f + nI 2) * (nI f + nI 2) = nI 0 then ck (¬ σ.1 143 0 = nI 0) (some (nI t + nI W + nI f - (nI t + nI W + nI f) / σ.1 143 0 * σ.1 143 0)) else ck (¬ σ.1 143 0 = nI 0) (some (nI t + nI W + nI 0 - (nI t + nI W + nI 0) / σ.1 143 0 * σ.1 143 0))) = x := fun x => Iff.rfl
  rw [e, hT, nI_add, ck_pos hz2, rem_nI (by omega) (by omega) (by omega), ck_pos hz, ck_pos hz]
  unfold slp
  by_cases h : t % (f + 2) = 0
  · rw [if_pos h, if_pos (show nI (t % (f + 2)) = nI 0 by rw [h]), nI_add, nI_add, rem_nI (by omega) (by omega) (by omega)]
  · rw [if_neg h, if_neg (show ¬ nI (t % (f + 2)) = nI 0 by rw [eq_nI (by omega) (by omega)]; exact h), nI_add, nI_add, rem_nI (by omega) (by omega) (by omega)]
theorem m_unworn {σ : SS} {R fr : Nat} {wn : Nat → Nat} (h : MN R wn σ) (hfr : fr < R) : f_X9_nextOf_L100 σ (fun y5 => some y5) FU 143 (nI fr) (nI 0) = some (nI (unw R wn fr)) := by
  obtain ⟨hT, hwn, hw1, hR, hR2⟩ := h
  have key : ∀ k i fu, i + k = R → k < fu → f_X9_nextOf_L100 σ (fun y1 => some y1) fu 143 (nI fr) (nI i) = some (nI (if fstF (fun i => decide (wn ((fr + i) % R) = 0)) i k < R then (fr + fstF (fun i => decide (wn ((fr + i) % R) = 0)) i k) % R else fr)) := by
    intro k
    induction k with
    | zero =>
      intro i fu hi hf
      obtain ⟨fu, rfl⟩ : ∃ z, fu = z + 1 := ⟨fu - 1, by omega⟩
      rw [show fstF (fun i => decide (wn ((fr + i) % R) = 0)) i 0 = i from rfl, if_neg (show ¬ i < R by omega)]
      simp only [f_X9_nextOf_L100, hT]
      rw [if_pos (show nI R ≤ nI i by rw [le_nI (by omega) (by omega)]; omega)]
    | succ k ih =>
      intro i fu hi hf
      obtain ⟨fu, rfl⟩ : ∃ z, fu = z + 1 := ⟨fu - 1, by omega⟩
      have hm : (fr + i) % R < R := Nat.mod_lt _ (by omega)
      have hb := hw1 ((fr + i) % R)
      have hz : ¬ nI R = 0 := by rw [fa_lit 0, eq_nI (by omega) (by omega)]; omega
      simp only [f_X9_nextOf_L100, hT, RM, LN]
      rw [if_neg (show ¬ nI R ≤ nI i by rw [le_nI (by omega) (by omega)]; omega), ck_pos hz, ck_pos hz, nI_add, rem_nI (by omega) (by omega) (by omega), ck_nI (by omega) (by omega), cl_nI (by omega), hwn _ (by omega), fa_lit 0, fa_lit 1, nI_add]
      by_cases h : wn ((fr + i) % R) = 0
      · have e : fstF (fun i => decide (wn ((fr + i) % R) = 0)) i (k + 1) = i := by unfold fstF; rw [if_pos (by simpa using h)]
        rw [e, if_pos (show nI (wn ((fr + i) % R)) = nI 0 by rw [h]), if_pos (show i < R by omega)]
      · have e : fstF (fun i => decide (wn ((fr + i) % R) = 0)) i (k + 1) = fstF (fun i => decide (wn ((fr + i) % R) = 0)) (i + 1) k := by rw [fstF]; rw [if_neg (by simpa using h)]
        rw [e, if_neg (show ¬ nI (wn ((fr + i) % R)) = nI 0 by rw [eq_nI (by omega) (by omega)]; exact h)]
        exact ih (i + 1) fu (by omega) (by omega)
  exact key R 0 FU (by omega) (FU_big (by omega))
theorem m_next {σ : SS} {R k W f t : Nat} {wn : Nat → Nat} (h : MN R wn σ) (hk : k ≤ 5) (hW : W < R) (hf : f ≤ 9) (ht : t < R) : f_X9_nextOf 143 (nI k) (nI W) (nI f) (nI t) σ = some (nI (nx R wn k W f t)) := by
  have h0 := m_next_0 (t := t) h hW hf ht
  have hu := m_unworn (fr := slp R W f t) h (Nat.mod_lt _ h.2.2.2.1)
  obtain ⟨hT, hwn, hw1, hR, hR2⟩ := h
  have hz : ¬ nI R = 0 := by rw [fa_lit 0, eq_nI (by omega) (by omega)]; omega
  unfold f_X9_nextOf
  rw [hT]
  rcases (show k = 0 ∨ k = 1 ∨ k = 2 ∨ k = 3 ∨ k = 4 ∨ k = 5 by omega) with rfl | rfl | rfl | rfl | rfl | rfl
  · rw [if_pos (show nI 0 = 0 by decide), ck_pos hz, nI_add, rem_nI (by omega) (by omega) (by omega), nx_0]
  · rw [if_neg (show ¬ nI 1 = 0 by decide), if_pos (show nI 1 = 1 by decide), ck_pos hz, nI_add, rem_nI (by omega) (by omega) (by omega), nx_1]
  · rw [if_neg (show ¬ nI 2 = 0 by decide), if_neg (show ¬ nI 2 = 1 by decide), if_pos (show nI 2 = 2 by decide), nx_2, ← h0]
    unfold f_X9_nextOf_0
    rw [hT, if_neg (show ¬ (2 : Int32) = 0 by decide), if_neg (show ¬ (2 : Int32) = 1 by decide), if_pos (show (2 : Int32) = 2 from rfl)]
  · rw [if_neg (show ¬ nI 3 = 0 by decide), if_neg (show ¬ nI 3 = 1 by decide), if_neg (show ¬ nI 3 = 2 by decide), if_pos (show nI 3 = 3 by decide), ck_pos hz, nI_add, sub_nI (by omega), rem_nI (by omega) (by omega) (by omega), nx_3, show t + (R - W) = t + R - W by omega]
  · rw [if_neg (show ¬ nI 4 = 0 by decide), if_neg (show ¬ nI 4 = 1 by decide), if_neg (show ¬ nI 4 = 2 by decide), if_neg (show ¬ nI 4 = 3 by decide), if_pos (show nI 4 = 4 by decide), h0, nx_4, Option.bind_some]
    exact hu
  · rw [if_neg (show ¬ nI 5 = 0 by decide), if_neg (show ¬ nI 5 = 1 by decide), if_neg (show ¬ nI 5 = 2 by decide), if_neg (show ¬ nI 5 = 3 by decide), if_neg (show ¬ nI 5 = 4 by decide), ck_pos hz, sub_nI (by omega), fa_lit 2, pk_mul, nI_add, rem_nI (by omega) (by omega) (by omega), nx_5]
theorem m_nextBy {σ : SS} {ρ : RG} {w t : Nat} (h : M1 ρ σ) (hw : WR ρ) (hi : w < rN ρ) (ht : t < rT ρ) : f_X9_nextBy 143 (nI w) (nI t) σ = some (nI (nx (rT ρ) (rW ρ) (rK ρ w 0) (rK ρ w 1) (rK ρ w 2) t)) := by
  have hn := hw.2.2.1
  obtain ⟨a1, a2, a3, a4, -⟩ := hw.2.2.2.2.2 w hi
  have hk := h.2.2.2.2 w hi
  unfold f_X9_nextBy
  simp only [RM, LN]
  rw [ck_nI (by omega) (by omega), ck_nI (by omega) (by omega), ck_nI (by omega) (by omega), cl_nI (by omega), hk 0 (by omega), hk 1 (by omega), hk 2 (by omega), m_next (h.mn hw) a1 a3 a4 ht]
  rfl
theorem x_nextW {σ : SS} {ρ : RG} {w t : Nat} (h : X1 ρ σ) (hw : WR ρ) (hi : w < rN ρ) (ht : t < rT ρ) : f_X4_nextBy 1 (5 + w) (nI t) σ = some (nI (nx (rT ρ) (rW ρ) (rK ρ w 0) (rK ρ w 1) (rK ρ w 2) t)) := by
  obtain ⟨a1, a2, a3, a4, -⟩ := hw.2.2.2.2.2 w hi
  have hk := h.2.2.2.2 w hi
  exact x_next h hw (hk 0 (by omega)) (hk 1 (by omega)) (hk 2 (by omega)) a1 a3 a4 ht
theorem pc_next_ok : pc_next Rel := by
  rintro σ c1 c2 ⟨A, hx, hm, hw⟩
  have hR := hw.1.2.1
  have hN := hw.1.2.2.1
  rcases ix_cases c1 (n := rN A.1) (by omega) with hb | ⟨w, hi, rfl⟩
  · refine both_ref (-1) 1 hx hm hw (fun τ h => ?_) (fun τ h => ?_)
    · unfold f_X8_next
      simp only [RD, x_wheel_bad h.1.2.1 hb, x_ref, Option.bind_some]
    · unfold f_X9_next
      simp only [m_wheel_bad h.1.2.1 hN hb, m_ref, Option.bind_some, if_true]
  · rcases ix_cases c2 (n := rT A.1) (by omega) with hb | ⟨t, ht, rfl⟩
    · refine both_ref (-1) 1 hx hm hw (fun τ h => ?_) (fun τ h => ?_)
      · unfold f_X8_next
        simp only [RD, x_wheel h.1.2.1 hN hi, x_tooth_bad h.1.1 hb, x_ref, Option.bind_some, if_true]
      · unfold f_X9_next
        simp only [m_wheel h.1.2.1 hN hi, m_tooth_bad h.1.1 hR hb, m_ref, Option.bind_some, if_true]
        rfl
    · refine both_same (nI (nx (rT A.1) (rW A.1) (rK A.1 w 0) (rK A.1 w 1) (rK A.1 w 2) t)) hx hm hw (fun τ h => ⟨τ, ?_, fun _ _ _ => rfl⟩) (fun τ h => ⟨τ, ?_, fun _ _ _ => rfl⟩)
      · unfold f_X8_next
        simp only [RD, x_wheel h.1.2.1 hN hi, x_tooth h.1.1 hR ht, x_nextW h.1 hw.1 hi ht, Option.bind_some]
        rfl
      · unfold f_X9_next
        simp only [m_wheel h.1.2.1 hN hi, m_tooth h.1.1 hR ht, m_nextBy h.1 hw.1 hi ht, Option.bind_some]
        rfl
