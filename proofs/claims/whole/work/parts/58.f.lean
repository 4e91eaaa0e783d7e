/-! sheet, whole -/
def aSh (A : AB) (ρ : RG) (l : List RG) : AB := aLet (aBe A ρ l) (0, A.2.2.2.1.2)
theorem WF.sh {A : AB} {ρ : RG} {l : List RG} (h : WF (aBe A ρ l)) : WF (aSh A ρ l) := ⟨h.1, h.2.1, h.2.2.1, ⟨by show 0 ≤ 72; omega, h.2.2.2.1.2⟩, h.2.2.2.2⟩
theorem aBe_self (A : AB) : aBe A A.1 A.2.2.1 = A := rfl
/-- the class: what a sheet leaves -/
theorem XH.sh {A : AB} {σ σ' : SS} {ρ : RG} {l : List RG} (hw : WF A) (h : XH A σ) (h1 : X1 ρ σ') (h3 : X3 l σ') (h4 : σ'.1 113 1 = 0) (e : ∀ q j, (q < 1 ∨ (10 < q ∧ ¬ (31 ≤ q ∧ q ≤ 112) ∧ ¬ SX q ∧ ¬ q = 113)) → σ'.1 q j = σ.1 q j) : XH (aSh A ρ l) σ' := by
  obtain ⟨_, h2, _, _, h5, h6⟩ := h
  exact ⟨h1, h2.of hw.n2 (fun q j hq => e q j (by unfold SX; omega)), h3, ⟨h4, fun i hi => absurd hi (Nat.not_lt_zero i)⟩, h5.of (fun q j _ _ => e q j (by unfold SX; omega)), h6.of (fun j => e _ j (by unfold SX; omega))⟩
theorem MH.sh {A : AB} {σ σ' : SS} {ρ : RG} {l : List RG} (h : MH A σ) (h1 : M1 ρ σ') (h3 : M3 l σ') (h4 : σ'.1 143 11 = 0) (e : ∀ q j, ¬ (144 ≤ q ∧ q ≤ 151) → ¬ q = 155 → ¬ (q = 143 ∧ (j = 0 ∨ j = 3 ∨ j = 15 ∨ j = 11)) → ¬ SM q j → σ'.1 q j = σ.1 q j) : MH (aSh A ρ l) σ' := by
  obtain ⟨_, h2, _, _, h5, h6⟩ := h
  have e' : ∀ q j, (153 ≤ q ∧ q ≤ 158) → ¬ q = 157 → ¬ q = 155 → σ'.1 q j = σ.1 q j := fun q j a b c => e q j (by omega) c (by omega) (by unfold SM; omega)
  exact ⟨h1, h2.of (e _ _ (by omega) (by omega) (by omega) (by unfold SM; omega)) (fun j => e' _ _ (by omega) (by omega) (by omega)), h3, ⟨h4, fun i hi => absurd hi (Nat.not_lt_zero i)⟩, h5.of (fun q j _ _ => e' _ _ (by omega) (by omega) (by omega)), h6.of (fun j => e' _ _ (by omega) (by omega) (by omega))⟩
theorem pc_sheet_ok : pc_sheet Rel := by
  rintro σ ⟨A, hx, hm, hw⟩
  have hN := hw.1.2.2.1
  obtain ⟨hz, hL2⟩ := hw.2.2.2.1
  have hfail : WF (aSh A A.1 A.2.2.1) := WF.sh (l := A.2.2.1) hw
  have xback : ∀ τ τ1 τ2 : SS, XH A τ → XR τ1 11 A.1 → (∀ q j, (q < 11 ∨ 20 < q) → τ1.1 q j = τ.1 q j) → F10 τ1 τ2 → ∃ τ3, f_X4_become 1 11 (sI τ2 113 1 0) = some τ3 ∧ XH (aSh A A.1 A.2.2.1) τ3 ∧ ∀ q j, 143 ≤ q → τ3.1 q j = τ.1 q j := fun τ τ1 τ2 h hs e1 e2 => by
    obtain ⟨τ3, f1, f2, f3⟩ := x_become_R (a := 1) (b := 11) (σ := sI τ2 113 1 0) kd_1.1 kd_1.2.1 (by omega)
    have hX : X1 A.1 τ3 := f2 A.1 hN (hs.of (fun q j _ _ => by rw [rI_q (by omega)]; exact e2 q j (by omega)) hN)
    have fr : ∀ q j, (q < 1 ∨ 20 < q) → ¬ q = 113 → τ3.1 q j = τ.1 q j := fun q j hq hq2 => by rw [f3 q j (by omega), rI_q hq2, e2 q j (by omega), e1 q j (by omega)]
    refine ⟨τ3, f1, h.sh hw hX (X3.of hw.n3 h.2.2.1 (fun q j _ _ => fr q j (by omega) (by omega))) ?_ (fun q j hq => fr q j (by unfold SX at hq; omega) (by omega)), fun q j hq => fr q j (by omega) (by omega)⟩
    rw [f3 _ _ (by omega), rI_s]
  by_cases hb : A.2.2.2.1.1 = 0 ∨ am A.2.2.2.1.1 A.2.2.2.1.2 A.2.2.2.1.1 0 ≤ A.2.2.2.1.1
  · -- its form is at fault
    obtain ⟨b, hb80, ex, em⟩ : ∃ b, b < 80 ∧ (if am A.2.2.2.1.1 A.2.2.2.1.2 A.2.2.2.1.1 0 ≤ A.2.2.2.1.1 then nI (am A.2.2.2.1.1 A.2.2.2.1.2 A.2.2.2.1.1 0) else if A.2.2.2.1.1 = 0 then 0 else -9) = nI b ∧ (if A.2.2.2.1.1 = 0 then 0 else if am A.2.2.2.1.1 A.2.2.2.1.2 A.2.2.2.1.1 0 ≤ A.2.2.2.1.1 then nI (am A.2.2.2.1.1 A.2.2.2.1.2 A.2.2.2.1.1 0) else -1) = nI b := by
      by_cases e : A.2.2.2.1.1 = 0
      · refine ⟨0, by omega, ?_, by rw [if_pos e]; rfl⟩
        rw [e, show am 0 A.2.2.2.1.2 0 0 = 1 from rfl, if_neg (by omega), if_pos rfl]
        rfl
      · have h1 := hb.resolve_left e
        exact ⟨am A.2.2.2.1.1 A.2.2.2.1.2 A.2.2.2.1.1 0, by omega, by rw [if_pos h1], by rw [if_neg e, if_pos h1]⟩
    obtain ⟨g1, g2, g3, g4⟩ := neg2000 b hb80
    have hneg : ¬ (0 : Int32) ≤ -1000 - nI b := Int32.not_le.mpr g2
    refine both (r := -1000 - nI b) (A' := aSh A A.1 A.2.2.1) hx hm hw hfail (fun τ h => ?_) (fun τ h => ?_)
    · have e1 := x_mis hz h.2.2.2.1.1 h.2.2.2.1.2 hL2
      rw [ex] at e1
      obtain ⟨τ1, f1, f2, f3⟩ := x_become_R (a := 11) (b := 1) (σ := τ) kd_1.2.1 kd_1.1 (by omega)
      have hs : XR τ1 11 A.1 := f2 A.1 hN h.1
      obtain ⟨τ3, k1, k2, k3⟩ := xback τ τ1 τ1 h hs (fun q j hq => f3 q j (by omega)) (fun _ _ _ => rfl)
      refine ⟨τ3, ?_, k2, k3⟩
      unfold f_X8_sheet
      simp only [RD, e1, Option.bind_some, jn1, f1]
      rw [if_neg (ne_m9 (by omega))]
      have ez : τ1.1 113 1 = nI A.2.2.2.1.1 := (f3 _ _ (by omega)).trans h.2.2.2.1.1
      have el : ∀ κ : Nat → Int32 → SS → Option (Int32 × SS), f_X8_sheet_L37 κ FU 0 (-1000 - nI b) 0 τ1 = κ 0 (-1000 - nI b) τ1 := fun κ => by
        obtain ⟨fu, hfu⟩ : ∃ fu, FU = fu + 1 := ⟨999999, rfl⟩
        rw [hfu]
        simp only [f_X8_sheet_L37]
        split <;> first | rfl | rw [if_pos g2]
      rw [el, if_neg hneg]
      simp only [RD]
      rw [k1]
      rfl
    · have e1 := m_bad hz h.2.2.2.1.1 h.2.2.2.1.2 hL2
      rw [em] at e1
      refine ⟨sI τ 143 11 0, ?_, h.sh (h.1.of hN (rI_j (by omega)) (rI_j (by omega)) (fun q j _ _ => rI_q (by omega))) (h.2.2.1.of (rI_j (by omega)) (fun j => rI_q (by omega))) rI_s (fun q j _ _ h3 _ => by rw [rI_i, if_neg (by omega)]), fun q j hq => rI_q (by omega)⟩
      unfold f_X9_sheet
      rw [e1, Option.bind_some]
      simp only [jn4]
      rw [if_pos (nI_pos' (by omega)), if_pos (nI_pos' (by omega))]
  · -- its form is right
    have hz0 : ¬ A.2.2.2.1.1 = 0 := fun e => hb (Or.inl e)
    have ha : am A.2.2.2.1.1 A.2.2.2.1.2 A.2.2.2.1.1 0 = A.2.2.2.1.1 + 1 := by
      have h1 := am_le A.2.2.2.1.1 A.2.2.2.1.2 A.2.2.2.1.1 0 (Nat.le_refl _)
      have h2 : ¬ am A.2.2.2.1.1 A.2.2.2.1.2 A.2.2.2.1.1 0 ≤ A.2.2.2.1.1 := fun e => hb (Or.inr e)
      omega
    have ex : ∀ τ, XH A τ → f_X1_firstMisplaced 113 τ = some (-9) := fun τ h => by
      have e1 := x_mis hz h.2.2.2.1.1 h.2.2.2.1.2 hL2
      rw [if_neg (by omega), if_neg hz0] at e1
      exact e1
    have em : ∀ τ, MH A τ → f_X9_badLetter 143 τ = some (-1) := fun τ h => by
      have e1 := m_bad hz h.2.2.2.1.1 h.2.2.2.1.2 hL2
      rw [if_neg hz0, if_neg (by omega)] at e1
      exact e1
    have hgr := grs_ok (z := A.2.2.2.1.1) (L := A.2.2.2.1.2) (A.2.2.2.1.1 + 1) 0 A.1 0 hw.1 (by omega) ha
    have xrun : ∀ τ, XH A τ → ∀ κ : Nat → Int32 → SS → Option (Int32 × SS), ∃ τ1 τ2, f_X4_become 11 1 τ = some τ1 ∧ XR τ1 11 A.1 ∧ (∀ q j, (q < 11 ∨ 20 < q) → τ1.1 q j = τ.1 q j) ∧ F10 τ1 τ2 ∧ (match gr A.2.2.2.1.1 A.2.2.2.1.2 (A.2.2.2.1.1 + 1) 0 A.1 0 with | .inl (ρ', m') => f_X8_sheet_L37 κ FU 0 0 0 τ1 = κ 0 (nI m') τ2 ∧ X1 ρ' τ2 ∧ m' ≤ A.2.2.2.1.1 | .inr b => f_X8_sheet_L37 κ FU 0 0 0 τ1 = κ 0 ((-2000) - nI b) τ2) := fun τ h κ => by
      obtain ⟨τ1, f1, f2, f3⟩ := x_become_R (a := 11) (b := 1) (σ := τ) kd_1.2.1 kd_1.1 (by omega)
      obtain ⟨τ2, k1, k2⟩ := x_run (z := A.2.2.2.1.1) (L := A.2.2.2.1.2) (κ := κ) hz hL2 (A.2.2.2.1.1 + 1) 0 A.1 0 τ1 FU (by omega) (by omega) ha hw.1 (Or.inl rfl) (Nat.le_refl 0) (X1.of hN h.1 (fun q j _ _ => f3 q j (by omega))) ((f3 _ _ (by omega)).trans h.2.2.2.1.1) (fun i hi => (f3 _ _ (by omega)).trans (h.2.2.2.1.2 i hi)) (FU_big (by omega))
      exact ⟨τ1, τ2, f1, f2 A.1 hN h.1, fun q j hq => f3 q j (by omega), k1, k2⟩
    have mrun : ∀ τ, MH A τ → ∀ κ : Nat → Int32 → Int32 → SS → Option (Int32 × SS), ∃ τ1 τ2, f_X9_keep 143 157 τ = some τ1 ∧ MZ τ1 157 A.1 ∧ (∀ q j, ¬ q = 157 → τ1.1 q j = τ.1 q j) ∧ FM5 τ1 τ2 ∧ (match gr A.2.2.2.1.1 A.2.2.2.1.2 (A.2.2.2.1.1 + 1) 0 A.1 0 with | .inl (ρ', m') => f_X9_sheet_L21 κ FU 143 (-1) 0 0 τ1 = κ 143 (-1) (nI m') τ2 ∧ M1 ρ' τ2 | .inr b => ∃ m', f_X9_sheet_L21 κ FU 143 (-1) 0 0 τ1 = κ 143 (1000 + nI b) m' τ2) := fun τ h κ => by
      obtain ⟨τ1, f1, f2, f3⟩ := m_keep (q := 157) (Or.inr rfl) h.1 hN
      obtain ⟨τ2, k1, k2⟩ := m_run (z := A.2.2.2.1.1) (L := A.2.2.2.1.2) (κ := κ) hz hL2 (A.2.2.2.1.1 + 1) 0 A.1 0 τ1 FU (by omega) (by omega) ha hw.1 (Nat.le_refl 0) (h.1.of hN (f3 _ _ (by omega)) (f3 _ _ (by omega)) (fun q j _ _ => f3 _ _ (by omega))) ((f3 _ _ (by omega)).trans h.2.2.2.1.1) (fun i hi => (f3 _ _ (by omega)).trans (h.2.2.2.1.2 i hi)) (FU_big (by omega))
      exact ⟨τ1, τ2, f1, f2, f3, k1, k2⟩
    cases hg : gr A.2.2.2.1.1 A.2.2.2.1.2 (A.2.2.2.1.1 + 1) 0 A.1 0 with
    | inl rm =>
      obtain ⟨ρ', m'⟩ := rm
      have hρ := hgr.1 ρ' m' hg
      have hN' := hρ.2.2.1
      refine both (r := nI m') (A' := aSh A ρ' []) hx hm hw (WF.sh (hw.fresh hρ)) (fun τ h => ?_) (fun τ h => ?_)
      · obtain ⟨τ1, τ2, f1, f2, f3, f4, f5⟩ := xrun τ h (fun (p0 : Nat) (y2 : Int32) (τ : SS) => if 0 ≤ y2 then (f_X3_forget (rid p0 4) (sI τ (rid p0 5) 1 0)).bind fun z17 => some (y2, z17) else (f_X4_become (rid p0 0) (rid p0 1) (sI τ (rid p0 5) 1 0)).bind fun z19 => some (y2, z19))
        rw [hg] at f5
        obtain ⟨f5, f6, f7⟩ := f5
        have fr : ∀ q j, (q < 1 ∨ 20 < q) → ¬ (q = 31 ∧ j = 1) → ¬ (q = 113 ∧ j = 1) → (sI (sI τ2 113 1 0) 31 1 0).1 q j = τ.1 q j := fun q j hq h31 h113 => by rw [rI_i, if_neg h31, rI_i, if_neg h113, f4 q j (by omega), f3 q j (by omega)]
        refine ⟨sI (sI τ2 113 1 0) 31 1 0, ?_, h.sh hw (X1.of hN' f6 (fun q j _ _ => by rw [rI_q (by omega), rI_q (by omega)])) (X3_nil h.2.2.1 rI_s (fr _ _ (by omega) (by omega) (by omega))) (by rw [rI_q (by omega), rI_s]) (fun q j hq => fr q j (by unfold SX at hq; omega) (by omega) (by omega)), fun q j hq => fr q j (by omega) (by omega) (by omega)⟩
        unfold f_X8_sheet
        simp only [RD, ex τ h, Option.bind_some, jn1, f1, if_true]
        refine f5.trans ?_
        rw [if_pos (nI_pos' (by omega))]
        simp only [RD]
        rfl
      · obtain ⟨τ1, τ2, f1, f2, f3, f4, f5⟩ := mrun τ h (fun (p0 : Nat) (y1 : Int32) (y2 : Int32) (τ : SS) => if y1 < 0 then (fun (v5 : Nat) (v6 : Int32) (v7 : Int32) (σ8 : SS) => if 0 ≤ v6 then some (((-1000) - v6), (sI σ8 v5 11 0)) else some (v7, (sI σ8 v5 11 0))) p0 y1 y2 (sI τ p0 15 0) else (f_X9_again p0 (rid p0 17) τ).bind fun z24 => (fun (v5 : Nat) (v6 : Int32) (v7 : Int32) (σ8 : SS) => if 0 ≤ v6 then some (((-1000) - v6), (sI σ8 v5 11 0)) else some (v7, (sI σ8 v5 11 0))) p0 y1 y2 z24)
        rw [hg] at f5
        obtain ⟨f5, f6⟩ := f5
        have fr : ∀ q j, ¬ (144 ≤ q ∧ q ≤ 151) → ¬ (q = 143 ∧ (j = 0 ∨ j = 3 ∨ j = 15 ∨ j = 11)) → ¬ q = 157 → (sI (sI τ2 143 15 0) 143 11 0).1 q j = τ.1 q j := fun q j h1 h2 h3 => by rw [rI_i, if_neg (by omega), rI_i, if_neg (by omega), f4 q j h1 (by omega), f3 q j h3]
        refine ⟨sI (sI τ2 143 15 0) 143 11 0, ?_, h.sh (f6.of hN' (by rw [rI_j (by omega), rI_j (by omega)]) (by rw [rI_j (by omega), rI_j (by omega)]) (fun q j _ _ => by rw [rI_q (by omega), rI_q (by omega)])) (M3_nil (by rw [rI_j (by omega), rI_s])) rI_s (fun q j a b c d => fr q j a c (by unfold SM at d; omega)), fun q j hq => fr q j (by omega) (by omega) (by omega)⟩
        unfold f_X9_sheet
        rw [em τ h, Option.bind_some]
        simp only [jn4, RM]
        rw [if_neg mone, f1, Option.bind_some]
        simp only [RM] at f5
        refine f5.trans ?_
        rw [if_pos (show (-1 : Int32) < 0 by decide), if_neg mone]
    | inr b =>
      have hb80 : b < 80 := by have := hgr.2 b hg; omega
      obtain ⟨g1, g2, g3, g4⟩ := neg2000 b hb80
      have hneg : ¬ (0 : Int32) ≤ -2000 - nI b := Int32.not_le.mpr g1
      refine both (r := -2000 - nI b) (A' := aSh A A.1 A.2.2.1) hx hm hw hfail (fun τ h => ?_) (fun τ h => ?_)
      · obtain ⟨τ1, τ2, f1, f2, f3, f4, f5⟩ := xrun τ h (fun (p0 : Nat) (y2 : Int32) (τ : SS) => if 0 ≤ y2 then (f_X3_forget (rid p0 4) (sI τ (rid p0 5) 1 0)).bind fun z17 => some (y2, z17) else (f_X4_become (rid p0 0) (rid p0 1) (sI τ (rid p0 5) 1 0)).bind fun z19 => some (y2, z19))
        rw [hg] at f5
        obtain ⟨τ3, k1, k2, k3⟩ := xback τ τ1 τ2 h f2 f3 f4
        refine ⟨τ3, ?_, k2, k3⟩
        unfold f_X8_sheet
        simp only [RD, ex τ h, Option.bind_some, jn1, f1, if_true]
        refine f5.trans ?_
        rw [if_neg hneg]
        simp only [RD]
        rw [k1]
        rfl
      · obtain ⟨τ1, τ2, f1, f2, f3, f4, f5⟩ := mrun τ h (fun (p0 : Nat) (y1 : Int32) (y2 : Int32) (τ : SS) => if y1 < 0 then (fun (v5 : Nat) (v6 : Int32) (v7 : Int32) (σ8 : SS) => if 0 ≤ v6 then some (((-1000) - v6), (sI σ8 v5 11 0)) else some (v7, (sI σ8 v5 11 0))) p0 y1 y2 (sI τ p0 15 0) else (f_X9_again p0 (rid p0 17) τ).bind fun z24 => (fun (v5 : Nat) (v6 : Int32) (v7 : Int32) (σ8 : SS) => if 0 ≤ v6 then some (((-1000) - v6), (sI σ8 v5 11 0)) else some (v7, (sI σ8 v5 11 0))) p0 y1 y2 z24)
        rw [hg] at f5
        obtain ⟨m', f5⟩ := f5
        obtain ⟨τ3, k1, k2, k3⟩ := m_again (q := 157) (Or.inr rfl) (f2.of (fun j => f4 157 j (by omega) (by omega))) hN
        have fr : ∀ q j, ¬ (144 ≤ q ∧ q ≤ 151) → ¬ (q = 143 ∧ (j = 0 ∨ j = 3 ∨ j = 11)) → ¬ q = 157 → (sI τ3 143 11 0).1 q j = τ.1 q j := fun q j h1 h2 h3 => by rw [rI_i, if_neg (by omega), k3 q j (by omega) (by omega), f4 q j h1 (by omega), f3 q j h3]
        refine ⟨sI τ3 143 11 0, ?_, h.sh (k2.of hN (rI_j (by omega)) (rI_j (by omega)) (fun q j _ _ => rI_q (by omega))) (h.2.2.1.of (fr _ _ (by omega) (by omega) (by omega)) (fun j => fr _ _ (by omega) (by omega) (by omega))) rI_s (fun q j a _ c d => fr q j a (by omega) (by unfold SM at d; omega)), fun q j hq => fr q j (by omega) (by omega) (by omega)⟩
        unfold f_X9_sheet
        rw [em τ h, Option.bind_some]
        simp only [jn4, RM]
        rw [if_neg mone, f1, Option.bind_some]
        simp only [RM] at f5
        refine f5.trans ?_
        rw [if_neg (Int32.not_lt.mpr g4), k1, Option.bind_some, if_pos g4, g3]
