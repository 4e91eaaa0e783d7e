/-! inked -/
def fd (f : Nat → Nat) (what : Nat) : Nat → Option Nat
  | 0 => none
  | n + 1 => if f n = 0 then fd f what n else match fd f what n with
    | none => some n
    | some m => if what = 2 then some n else if what = 3 then (if f n ≤ f m then some m else some n) else some m
def oI (o : Option Nat) : Int32 := match o with | none => -9 | some m => nI m
theorem fd_lt (f : Nat → Nat) (what : Nat) : ∀ n m, fd f what n = some m → m < n := by
  intro n
  induction n with
  | zero => intro m h; cases h
  | succ n ih =>
    intro m h
    unfold fd at h
    split at h
    · have := ih m h; omega
    · split at h
      · cases h; omega
      · rename_i k hk
        have := ih k hk
        split at h
        · cases h; omega
        · split at h
          · split at h <;> cases h <;> omega
          · cases h; omega
theorem m9_neg : (-9 : Int32) < 0 := by decide
theorem m_fd {ρ : RG} {σ : SS} {what : Nat} (h : M1 ρ σ) (hw : WR ρ) (hwh : 1 ≤ what ∧ what ≤ 3) : f_X9_inked_L30 (fun (y2 : Int32) (τ : SS) => some (y2, τ)) FU 143 (nI what) (-9) 0 σ = some (oI (fd (rI ρ) what (rT ρ)), σ) := by
  have hT := hw.2.1
  have hI := hw.2.2.2.1
  have h0 := h.1
  have h3 := h.2.2.1
  exact loop_fix (fun fu i => f_X9_inked_L30 (fun (y2 : Int32) (τ : SS) => some (y2, τ)) fu 143 (nI what) (oI (fd (rI ρ) what i)) (nI i) σ) (some (oI (fd (rI ρ) what (rT ρ)), σ)) (rT ρ)
    (fun fu => by
      simp only [f_X9_inked_L30, h0]
      rw [if_pos ((le_nI (by omega) (by omega)).mpr (Nat.le_refl _))])
    (fun fu i hi => by
      have hfi := hI i
      have hlt := fd_lt (rI ρ) what i
      have en : fd (rI ρ) what (i + 1) = if rI ρ i = 0 then fd (rI ρ) what i else match fd (rI ρ) what i with
        | none => some i
        | some m => if what = 2 then some i else if what = 3 then (if rI ρ i ≤ rI ρ m then some m else some i) else some m := rfl
      rw [en]
      simp (disch := omega) only [f_X9_inked_L30, h0, RM, LN, cl_nI, ck_i, h3, le_nI, eq_nI0, ol_add]
      rw [if_neg (show ¬ rT ρ ≤ i by omega)]
      by_cases e : rI ρ i = 0
      · rw [if_pos e, if_pos e]
      · rw [if_neg e, if_neg e]
        cases hm : fd (rI ρ) what i with
        | none =>
          rw [show oI none = -9 from rfl, if_pos m9_neg]
          rfl
        | some m =>
          have hm' := hlt m hm
          have hfm := hI m
          dsimp only
          rw [show oI (some m) = nI m from rfl, if_neg (nlt_m (by omega))]
          rcases (show what = 1 ∨ what = 2 ∨ what = 3 by omega) with rfl | rfl | rfl
          · rw [if_neg (show ¬ nI 1 = 2 by decide), if_neg (show ¬ nI 1 = 3 by decide), if_neg (show ¬ 1 = 2 by decide), if_neg (show ¬ 1 = 3 by decide)]
            rfl
          · rw [if_pos (show nI 2 = 2 from rfl), if_pos (show 2 = 2 from rfl)]
            rfl
          · rw [if_neg (show ¬ nI 3 = 2 by decide), if_pos (show nI 3 = 3 from rfl), if_neg (show ¬ 3 = 2 by decide), if_pos (show 3 = 3 from rfl)]
            simp (disch := omega) only [cl_nI, ck_i, h3, le_nI]
            by_cases e2 : rI ρ i ≤ rI ρ m
            · rw [if_pos e2, if_pos e2]; rfl
            · rw [if_neg e2, if_neg e2]; rfl)
    (fu := FU) (i := 0) (by omega) (FU_big (by omega))
/-- the first of them -/
theorem fstF_spec (p : Nat → Bool) : ∀ k i, (fstF p i k < i + k → p (fstF p i k) = true) ∧ ∀ j, i ≤ j → j < fstF p i k → ¬ p j = true := by
  intro k
  induction k with
  | zero => intro i; exact ⟨fun h => absurd h (Nat.lt_irrefl _), fun j h1 h2 => absurd h2 (by unfold fstF; omega)⟩
  | succ k ih =>
    intro i
    unfold fstF
    by_cases h : p i = true
    · rw [if_pos h]
      exact ⟨fun _ => h, fun j h1 h2 => by omega⟩
    · rw [if_neg h]
      obtain ⟨h1, h2⟩ := ih (i + 1)
      refine ⟨fun q => h1 (by omega), fun j a b => ?_⟩
      rcases Nat.eq_or_lt_of_le a with e | e
      · subst e; exact h
      · exact h2 j e b
theorem fd_1 (f : Nat → Nat) : ∀ n, (fd f 1 n = none ∧ ∀ i, i < n → f i = 0) ∨ ∃ j, j < n ∧ fd f 1 n = some j ∧ 0 < f j ∧ ∀ i, i < j → f i = 0 := by
  intro n
  induction n with
  | zero => exact Or.inl ⟨rfl, fun i h => by omega⟩
  | succ n ih =>
    rcases ih with ⟨h1, h2⟩ | ⟨j, h1, h2, h3, h4⟩
    · by_cases e : f n = 0
      · refine Or.inl ⟨by unfold fd; rw [if_pos e]; exact h1, fun i hi => ?_⟩
        rcases Nat.eq_or_lt_of_le (Nat.lt_succ_iff.mp hi) with q | q
        · rw [q]; exact e
        · exact h2 i q
      · refine Or.inr ⟨n, by omega, by unfold fd; rw [if_neg e, h1], by omega, h2⟩
    · refine Or.inr ⟨j, by omega, ?_, h3, h4⟩
      unfold fd
      rw [h2]
      by_cases e : f n = 0
      · rw [if_pos e]
      · rw [if_neg e]; rfl
theorem fd_fin (ρ : RG) : oI (fd (rI ρ) 1 (rT ρ)) = fin ρ 0 := by
  obtain ⟨s1, s2⟩ := fstF_spec (fun t => decide (0 < rI ρ t)) (rT ρ - 0) 0
  have sl := fstF_le (fun t => decide (0 < rI ρ t)) (rT ρ - 0) 0
  unfold fin
  rcases fd_1 (rI ρ) (rT ρ) with ⟨h1, h2⟩ | ⟨j, h1, h2, h3, h4⟩
  · rw [h1]
    by_cases e : fstF (fun t => decide (0 < rI ρ t)) 0 (rT ρ - 0) < rT ρ
    · have := s1 (by omega)
      have := h2 _ e
      simp_all
    · rw [if_neg e]; rfl
  · rw [h2]
    have e : fstF (fun t => decide (0 < rI ρ t)) 0 (rT ρ - 0) = j := by
      rcases Nat.lt_trichotomy (fstF (fun t => decide (0 < rI ρ t)) 0 (rT ρ - 0)) j with q | q | q
      · have a := s1 (by omega)
        have b := h4 _ q
        have a := of_decide_eq_true a
        omega
      · exact q
      · have a := s2 j (by omega) q
        simp at a
        omega
    rw [e, if_pos h1]
    rfl
def lastF (f : Nat → Nat) : Nat → Option Nat
  | 0 => none
  | n + 1 => if f n = 0 then lastF f n else some n
theorem fd_2 (f : Nat → Nat) : ∀ n, fd f 2 n = lastF f n
  | 0 => rfl
  | n + 1 => by
    unfold fd lastF
    rw [fd_2 f n]
    by_cases e : f n = 0
    · rw [if_pos e, if_pos e]
    · rw [if_neg e, if_neg e]
      cases lastF f n <;> rfl
theorem x_last {ρ : RG} {σ : SS} (h : X1 ρ σ) (hw : WR ρ) : f_X4_lastInked 1 σ = some (oI (lastF (rI ρ) (rT ρ))) := by
  have hT := hw.2.1
  have h1 := hw.1
  have hI := hw.2.2.2.1
  have h3 : ∀ t, t < 60 → σ.1 2 t = nI (rI ρ t) := h.2.2.1
  have key : ∀ n fu, n ≤ 60 → n < fu → f_X4_lastInked_L7 σ (fun _ => some (-9)) fu 1 (nI n - 1) = some (oI (lastF (rI ρ) n)) := by
    intro n
    induction n with
    | zero =>
      intro fu _ hf
      obtain ⟨fu, rfl⟩ : ∃ z, fu = z + 1 := ⟨fu - 1, by omega⟩
      simp only [f_X4_lastInked_L7]
      rw [if_pos (show nI 0 - 1 < 0 by decide)]
      rfl
    | succ n ih =>
      intro fu hn hf
      obtain ⟨fu, rfl⟩ : ∃ z, fu = z + 1 := ⟨fu - 1, by omega⟩
      have hfi := hI n
      rw [nI_pred]
      simp (disch := omega) only [f_X4_lastInked_L7, RD, LN, cl_nI, ck_i, h3, le_nI0]
      rw [if_neg (nlt_m (by omega))]
      unfold lastF
      by_cases e : rI ρ n = 0
      · rw [if_pos e, if_pos (show rI ρ n ≤ 0 by omega)]
        have := ih fu (by omega) (by omega)
        have e2 : nI n + -1 = nI n - 1 := by rw [Int32.sub_eq_add_neg]
        rw [e2]
        exact this
      · rw [if_neg e, if_neg (show ¬ rI ρ n ≤ 0 by omega)]
        rfl
  unfold f_X4_lastInked
  rw [h.1]
  exact key (rT ρ) FU hT (FU_big (by omega))
theorem fd_3 (f : Nat → Nat) : ∀ n, (fd f 3 n = none ∧ (∀ i, i < n → f i = 0) ∧ bestF f n = 0) ∨ (0 < n ∧ fd f 3 n = some (bestF f n) ∧ 0 < f (bestF f n)) := by
  intro n
  induction n with
  | zero => exact Or.inl ⟨rfl, fun i h => by omega, rfl⟩
  | succ n ih =>
    rcases ih with ⟨h1, h2, h3⟩ | ⟨h1, h2, h3⟩
    · have hb : bestF f (n + 1) = if f 0 < f n then n else 0 := by rw [bestF, h3]
      by_cases e : f n = 0
      · refine Or.inl ⟨by unfold fd; rw [if_pos e]; exact h1, fun i hi => ?_, by rw [hb, if_neg (by omega)]⟩
        rcases Nat.eq_or_lt_of_le (Nat.lt_succ_iff.mp hi) with q | q
        · rw [q]; exact e
        · exact h2 i q
      · have hn : bestF f (n + 1) = n := by
          rw [hb]
          rcases Nat.eq_zero_or_pos n with q | q
          · subst q; rw [if_neg (Nat.lt_irrefl _)]
          · rw [if_pos (by have := h2 0 q; omega)]
        refine Or.inr ⟨by omega, ?_, by rw [hn]; omega⟩
        rw [hn]
        unfold fd
        rw [if_neg e, h1]
    · refine Or.inr ⟨by omega, ?_, ?_⟩
      · unfold fd bestF
        rw [h2]
        by_cases e : f n = 0
        · rw [if_pos e, if_neg (by omega)]
        · rw [if_neg e]
          by_cases e2 : f n ≤ f (bestF f n)
          · rw [if_neg (show ¬ f (bestF f n) < f n by omega)]
            show (if 3 = 2 then some n else if 3 = 3 then (if f n ≤ f (bestF f n) then some (bestF f n) else some n) else some (bestF f n)) = _
            rw [if_neg (by decide), if_pos rfl, if_pos e2]
          · rw [if_pos (show f (bestF f n) < f n by omega)]
            show (if 3 = 2 then some n else if 3 = 3 then (if f n ≤ f (bestF f n) then some (bestF f n) else some n) else some (bestF f n)) = _
            rw [if_neg (by decide), if_pos rfl, if_neg e2]
      · unfold bestF
        split <;> omega
theorem x_blot {ρ : RG} {σ : SS} (h : X1 ρ σ) (hw : WR ρ) : f_X4_blot 1 σ = some (oI (fd (rI ρ) 3 (rT ρ))) := by
  have hT := hw.2.1
  have h1 := hw.1
  have hI := hw.2.2.2.1
  have h3 : ∀ t, t < 60 → σ.1 2 t = nI (rI ρ t) := h.2.2.1
  have hb := bestF_lt (rI ρ) (rT ρ) (by omega)
  have hfb := hI (bestF (rI ρ) (rT ρ))
  have hp := x_placeOfMost (σ := σ) (q := 2) (n := rT ρ) (f := rI ρ) (fun i hi => h3 i (by omega)) (fun i => by have := hI i; omega) (by omega) (by rw [LN.1]; omega) (by rw [LN.1]; omega)
  unfold f_X4_blot
  simp only [RD, h.1, hp, Option.bind_some]
  simp (disch := omega) only [LN, cl_nI, ck_i, h3, le_nI0]
  rcases fd_3 (rI ρ) (rT ρ) with ⟨a, b, c⟩ | ⟨a, b, c⟩
  · have := b _ hb
    rw [a, if_pos (by omega)]
    rfl
  · rw [b, if_neg (by omega)]
    rfl
theorem pc_inked_ok : pc_inked Rel := by
  rintro σ c ⟨A, hx, hm, hw⟩
  rcases ix_cases c (n := 4) (by omega) with hb | ⟨j, hj, rfl⟩
  · have e0 : ¬ c = (0 : Int32) := hb.ne (k := 0) (by omega) (by omega)
    have e1 : ¬ c = (1 : Int32) := hb.ne (k := 1) (by omega) (by omega)
    have e2 : ¬ c = (2 : Int32) := hb.ne (k := 2) (by omega) (by omega)
    have e3 : ¬ c = (3 : Int32) := hb.ne (k := 3) (by omega) (by omega)
    have ew : f_X9_within c 0 3 = 0 := within_bad (n := 3) hb (by omega)
    refine both_ref (-2) 2 hx hm hw (fun τ h => ?_) (fun τ h => ?_)
    · unfold f_X8_inked
      simp only [if_neg e0, if_neg e1, if_neg e2, if_neg e3, x_ref, Option.bind_some]
    · unfold f_X9_inked
      simp only [ew, if_true, m_ref, Option.bind_some]
  · have hT := hw.1.1
    have ew : f_X9_within (nI j) 0 3 = 1 := within_ok (a := 0) (b := 3) (by omega) (by omega) (by omega)
    have hin : ∀ τ, XH A τ → f_X4_inkedFrom 1 0 τ = some (fin A.1 0) := fun τ h => x_inkedFrom (a := 0) h.1 hw.1 (by omega)
    rcases (show j = 0 ∨ j = 1 ∨ j = 2 ∨ j = 3 by omega) with rfl | rfl | rfl | rfl
    · refine both_same (nI (cnt (fun i => decide (0 < rI A.1 i)) (rT A.1))) hx hm hw (fun τ h => ⟨τ, ?_, fun _ _ _ => rfl⟩) (fun τ h => ⟨τ, ?_, fun _ _ _ => rfl⟩)
      · unfold f_X8_inked
        simp only [RD, x_inkedTeeth h.1 hw.1, Option.bind_some]
        rfl
      · unfold f_X9_inked
        simp only [ew, if_neg one0, m_inkedTeeth h.1 hw.1, Option.bind_some]
        rfl
    · refine both_same (fin A.1 0) hx hm hw (fun τ h => ⟨τ, ?_, fun _ _ _ => rfl⟩) (fun τ h => ⟨τ, ?_, fun _ _ _ => rfl⟩)
      · unfold f_X8_inked
        simp only [RD, hin τ h, Option.bind_some]
        rfl
      · unfold f_X9_inked
        simp only [ew, if_neg one0, m_fd (what := 1) h.1 hw.1 ⟨by omega, by omega⟩, fd_fin]
        rfl
    · refine both_same (oI (lastF (rI A.1) (rT A.1))) hx hm hw (fun τ h => ⟨τ, ?_, fun _ _ _ => rfl⟩) (fun τ h => ⟨τ, ?_, fun _ _ _ => rfl⟩)
      · unfold f_X8_inked
        simp only [RD, x_last h.1 hw.1, Option.bind_some]
        rfl
      · unfold f_X9_inked
        simp only [ew, if_neg one0, m_fd (what := 2) h.1 hw.1 ⟨by omega, by omega⟩, fd_2]
        rfl
    · refine both_same (oI (fd (rI A.1) 3 (rT A.1))) hx hm hw (fun τ h => ⟨τ, ?_, fun _ _ _ => rfl⟩) (fun τ h => ⟨τ, ?_, fun _ _ _ => rfl⟩)
      · unfold f_X8_inked
        simp only [RD, x_blot h.1 hw.1, Option.bind_some]
        rfl
      · unfold f_X9_inked
        simp only [ew, if_neg one0, m_fd (what := 3) h.1 hw.1 ⟨by omega, by omega⟩]
        rfl
