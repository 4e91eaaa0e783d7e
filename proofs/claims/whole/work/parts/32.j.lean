/-! undo, image, on -/
theorem x_giveBack {A : AB} {σ : SS} {ρ : RG} {l : List RG} (hw : WF A) (h : XH A σ) (he : A.2.2.1 = ρ :: l) : ∃ σ', f_X3_giveBack 31 1 σ = some σ' ∧ X1 ρ σ' ∧ X3 l σ' ∧ ∀ q j, (q < 1 ∨ (10 < q ∧ ¬ q = 31)) → σ'.1 q j = σ.1 q j := by
  have hlen := hw.2.2.1.1
  have hn3 := hw.n3
  obtain ⟨hk, p, hp, hpl, hr⟩ := h.2.2.1
  rw [he] at hlen hn3 hk hr
  have hlen2 : l.length ≤ 7 := by rw [List.length_cons] at hlen; omega
  rw [List.length_cons] at hk
  have hp' : (p + 7) % 8 < 8 := by omega
  have hm : f_X2_modulo (nI p - 1) 8 = nI ((p + 7) % 8) := by
    rw [fa_lit 1, fa_lit 8, mod_sub 1 (by omega) (by omega) (by omega) (by omega) (by omega)]
  have e1 : nI (l.length + 1) - 1 = nI l.length := by rw [fa_lit 1, sub_nI (by omega), Nat.add_sub_cancel]
  have hρ := hn3 ρ (List.mem_cons_self ..)
  obtain ⟨σ', f1, f2, f3⟩ := x_become_R (a := 1) (b := 33 + 10 * ((p + 7) % 8)) (σ := sI (sI σ 31 2 (nI ((p + 7) % 8))) 31 1 (nI l.length)) kd_1.1 (kd_past hp') (by omega)
  have g0 : XR (sI (sI σ 31 2 (nI ((p + 7) % 8))) 31 1 (nI l.length)) (33 + 10 * ((p + 7) % 8)) ρ := (hr 0 ρ rfl).of (fun q j _ _ => by rw [rI_q (by omega), rI_q (by omega)]) hρ
  refine ⟨σ', ?_, f2 ρ hρ g0, ⟨(f3 _ _ (by omega)).trans rI_s, (p + 7) % 8, hp', (f3 _ _ (by omega)).trans ((rI_j (by omega)).trans rI_s), fun k x hx => ?_⟩, fun q j hq => ?_⟩
  · unfold f_X3_giveBack
    rw [if_neg (show ¬ σ.1 31 1 ≤ 0 by rw [hk, le_nI0 (by omega)]; omega)]
    simp (disch := omega) only [RD, LN, hpl, hm, rI_j, rI_s, hk, e1, cl_nI, ck_i, rid_past hp', f1, Option.bind_some]
  · have hk9 : k < l.length := (List.getElem?_eq_some_iff.mp hx).1
    have := hr (k + 1) x (by rw [List.getElem?_cons_succ]; exact hx)
    rw [show (p + 7 - (k + 1)) % 8 = ((p + 7) % 8 + 7 - k) % 8 by omega] at this
    exact this.of (fun q j _ _ => by rw [f3 _ _ (by omega), rI_q (by omega), rI_q (by omega)]) (hn3 x (List.mem_cons_of_mem _ (List.mem_of_getElem? hx)))
  · rw [f3 q j (by omega), rI_q (by omega), rI_q (by omega)]
theorem m_und35 {P : Nat} (hP : P ≤ 924) (τ : SS) {κ : Nat → Int32 → SS → Option (Int32 × SS)} : ∃ σ', f_X9_undo_L35 κ FU 143 (nI P) 0 τ = κ 143 (nI P) σ' ∧ (∀ k, k < 6 → σ'.1 150 k = τ.1 155 (P + k) ∧ σ'.1 151 k = τ.1 155 (P + 6 + k)) ∧ ∀ q j, ¬ q = 150 → ¬ q = 151 → σ'.1 q j = τ.1 q j := by
  obtain ⟨s, ⟨h1, h2⟩, e⟩ := loop_eq (fun fu i (s : SS) => f_X9_undo_L35 κ fu 143 (nI P) (nI i) s) (fun s => κ 143 (nI P) s) 6 (fun i s => (∀ k, k < i → s.1 150 k = τ.1 155 (P + k) ∧ s.1 151 k = τ.1 155 (P + 6 + k)) ∧ ∀ q j, ¬ q = 150 → ¬ q = 151 → s.1 q j = τ.1 q j)
    (fun fu s _ => by
      simp only [f_X9_undo_L35]
      rw [if_pos (show (6 : Int32) ≤ nI 6 by decide)])
    (fun fu i s hi hI => by
      refine ⟨sI (sI s 150 i (s.1 155 (P + i))) 151 i (s.1 155 (P + 6 + i)), ⟨fun k hk => ?_, fun q j hq hq2 => ?_⟩, ?_⟩
      · by_cases e : k = i
        · subst e
          exact ⟨by rw [rI_q (by omega), rI_s]; exact hI.2 _ _ (by omega) (by omega), by rw [rI_s]; exact hI.2 _ _ (by omega) (by omega)⟩
        · exact ⟨by rw [rI_j (by omega), rI_j (by omega)]; exact (hI.1 k (by omega)).1, by rw [rI_j (by omega), rI_j (by omega)]; exact (hI.1 k (by omega)).2⟩
      · rw [rI_q (by omega), rI_q (by omega)]
        exact hI.2 q j hq hq2
      · simp (disch := omega) only [f_X9_undo_L35, RM, LN, ol_add, nI_add, cl_nI, ck_i, rI_q]
        rw [if_neg (show ¬ (6 : Int32) ≤ nI i by rw [fa_lit 6, le_nI (by omega) (by omega)]; omega)])
    (fu := FU) (i := 0) (s := τ) (by omega) (FU_big (by omega)) ⟨fun k hk => by omega, fun _ _ _ _ => rfl⟩
  exact ⟨s, e, h1, h2⟩
theorem m_und80 {P : Nat} (hP : P ≤ 924) (τ : SS) {κ : Nat → SS → Option (Int32 × SS)} : ∃ σ', f_X9_undo_L80 κ FU 143 (nI P) 0 τ = κ 143 σ' ∧ (∀ k, k < 60 → σ'.1 145 k = τ.1 155 (P + 12 + k) ∧ σ'.1 144 k = τ.1 155 (P + 72 + k)) ∧ ∀ q j, ¬ q = 144 → ¬ q = 145 → σ'.1 q j = τ.1 q j := by
  obtain ⟨s, ⟨h1, h2⟩, e⟩ := loop_eq (fun fu i (s : SS) => f_X9_undo_L80 κ fu 143 (nI P) (nI i) s) (fun s => κ 143 s) 60 (fun i s => (∀ k, k < i → s.1 145 k = τ.1 155 (P + 12 + k) ∧ s.1 144 k = τ.1 155 (P + 72 + k)) ∧ ∀ q j, ¬ q = 144 → ¬ q = 145 → s.1 q j = τ.1 q j)
    (fun fu s _ => by
      simp only [f_X9_undo_L80]
      rw [if_pos (show (60 : Int32) ≤ nI 60 by decide)])
    (fun fu i s hi hI => by
      refine ⟨sI (sI s 145 i (s.1 155 (P + 12 + i))) 144 i (s.1 155 (P + 72 + i)), ⟨fun k hk => ?_, fun q j hq hq2 => ?_⟩, ?_⟩
      · by_cases e : k = i
        · subst e
          exact ⟨by rw [rI_q (by omega), rI_s]; exact hI.2 _ _ (by omega) (by omega), by rw [rI_s]; exact hI.2 _ _ (by omega) (by omega)⟩
        · exact ⟨by rw [rI_j (by omega), rI_j (by omega)]; exact (hI.1 k (by omega)).1, by rw [rI_j (by omega), rI_j (by omega)]; exact (hI.1 k (by omega)).2⟩
      · rw [rI_q (by omega), rI_q (by omega)]
        exact hI.2 q j hq hq2
      · simp (disch := omega) only [f_X9_undo_L80, RM, LN, ol_add, nI_add, cl_nI, ck_i, rI_q]
        rw [if_neg (show ¬ (60 : Int32) ≤ nI i by rw [fa_lit 60, le_nI (by omega) (by omega)]; omega)])
    (fu := FU) (i := 0) (s := τ) (by omega) (FU_big (by omega)) ⟨fun k hk => by omega, fun _ _ _ _ => rfl⟩
  exact ⟨s, e, h1, h2⟩
theorem MB.of' {σ σ' : SS} {k : Nat} {ρ : RG} (h : MB σ k ρ) (e : ∀ b, σ'.1 155 b = σ.1 155 b) : MB σ' k ρ := by
  obtain ⟨b1, b2, b3⟩ := h
  exact ⟨fun t ht => (e _).trans (b1 t ht), fun t ht => (e _).trans (b2 t ht), fun i hi => ⟨(e _).trans (b3 i hi).1, (e _).trans (b3 i hi).2⟩⟩
theorem m_undo {A : AB} {σ : SS} {ρ : RG} {l : List RG} (hw : WF A) (h : MH A σ) (he : A.2.2.1 = ρ :: l) : ∃ σ', f_X9_undo 143 σ = some (nI l.length, σ') ∧ M1 ρ σ' ∧ M3 l σ' ∧ ∀ q j, (¬ (144 ≤ q ∧ q ≤ 151)) → ¬ (q = 143 ∧ j = 15) → σ'.1 q j = σ.1 q j := by
  have hlen := hw.2.2.1.1
  have hS := (hw.2.2.1.2 ρ (by rw [he]; exact List.mem_cons_self ..)).2
  obtain ⟨hk, hr⟩ := h.2.2.1
  obtain ⟨m1, m2, m3, m4, m5⟩ := h.1
  rw [he] at hlen hk hr
  have hlen2 : l.length ≤ 7 := by rw [List.length_cons] at hlen; omega
  rw [List.length_cons] at hk
  have e1 : nI (l.length + 1) - 1 = nI l.length := by rw [fa_lit 1, sub_nI (by omega), Nat.add_sub_cancel]
  have e2 : nI l.length * 132 = nI (132 * l.length) := by rw [fa_lit 132, pk_mul, Nat.mul_comm]
  have hn1 := hw.n1
  have hnr : rN ρ = rN A.1 := hS.2.1
  obtain ⟨s, f1, f2, f3⟩ := m_und35 (P := 132 * l.length) (by omega) (sI σ 143 15 (nI l.length)) (κ := fun (p0 : Nat) (y1 : Int32) (τ : SS) => f_X9_undo_L80 (fun (p0 : Nat) (τ : SS) => some ((τ.1 p0 15), τ)) FU p0 y1 0 τ)
  obtain ⟨s2, g1, g2, g3⟩ := m_und80 (P := 132 * l.length) (by omega) s (κ := fun (p0 : Nat) (τ : SS) => some ((τ.1 p0 15), τ))
  have fr : ∀ q j, (¬ (144 ≤ q ∧ q ≤ 151)) → ¬ (q = 143 ∧ j = 15) → s2.1 q j = σ.1 q j := fun q j h1 h2 => by
    rw [g3 q j (by omega) (by omega), f3 q j (by omega) (by omega), rI_i, if_neg h2]
  have k15 : s2.1 143 15 = nI l.length := by rw [g3 _ _ (by omega) (by omega), f3 _ _ (by omega) (by omega), rI_s]
  have e155 : ∀ b, s.1 155 b = σ.1 155 b := fun b => by rw [f3 _ _ (by omega) (by omega), rI_q (by omega)]
  obtain ⟨b1, b2, b3⟩ := hr 0 ρ rfl
  have eL : (ρ :: l).length - 1 - 0 = l.length := by rw [List.length_cons]; omega
  rw [eL] at b1 b2 b3
  refine ⟨s2, ?_, ⟨?_, ?_, fun t ht => ?_, fun t ht => ?_, fun i hi j hj => ?_⟩, ⟨k15, fun k x hx => ?_⟩, fr⟩
  · unfold f_X9_undo
    rw [if_neg (show ¬ σ.1 143 15 = 0 by rw [hk, eq_nI0 (by omega)]; omega), hk, e1, rI_s, e2, f1]
    try dsimp only
    rw [g1]
    try dsimp only
    rw [k15]
  · rw [fr _ _ (by omega) (by omega), m1, hS.1]
  · rw [fr _ _ (by omega) (by omega), m2, hS.2.1]
  · rw [(g2 t ht).1, e155]; exact b1 t ht
  · rw [(g2 t ht).2, e155]; exact b2 t ht
  · by_cases h4 : j < 4
    · rw [hS.2.2 i (by omega) j h4, g3 _ _ (by omega) (by omega), f3 _ _ (by omega) (by omega), rI_q (by omega)]
      exact m5 i (by omega) j hj
    · by_cases h5 : j = 4
      · subst h5
        have e : s2.1 150 i = σ.1 155 (132 * l.length + i) := by rw [g3 _ _ (by omega) (by omega), (f2 i (by omega)).1, rI_q (by omega)]
        exact e.trans (b3 i hi).1
      · have h6 : j = 5 := by omega
        subst h6
        have e : s2.1 151 i = σ.1 155 (132 * l.length + 6 + i) := by rw [g3 _ _ (by omega) (by omega), (f2 i (by omega)).2, rI_q (by omega)]
        exact e.trans (b3 i hi).2
  · have hk9 : k < l.length := (List.getElem?_eq_some_iff.mp hx).1
    have := hr (k + 1) x (by rw [List.getElem?_cons_succ]; exact hx)
    rw [show (ρ :: l).length - 1 - (k + 1) = l.length - 1 - k by rw [List.length_cons]; omega] at this
    exact this.of' (fun b => fr _ _ (by omega) (by omega))
/-- the ring is another, and what can be undone too -/
def aBe (A : AB) (ρ : RG) (l : List RG) : AB := (ρ, A.2.1, l, A.2.2.2.1, A.2.2.2.2.1, A.2.2.2.2.2)
theorem XH.be {A : AB} {σ σ' : SS} {ρ : RG} {l : List RG} (hw : WF A) (h : XH A σ) (h1 : X1 ρ σ') (h3 : X3 l σ') (e : ∀ q j, (q < 1 ∨ (10 < q ∧ ¬ (31 ≤ q ∧ q ≤ 112) ∧ ¬ SX q)) → σ'.1 q j = σ.1 q j) : XH (aBe A ρ l) σ' := by
  obtain ⟨_, h2, _, h4, h5, h6⟩ := h
  exact ⟨h1, h2.of hw.n2 (fun q j hq => e q j (by unfold SX; omega)), h3, h4.of (fun q j _ _ => e q j (by unfold SX; omega)), h5.of (fun q j _ _ => e q j (by unfold SX; omega)), h6.of (fun j => e _ j (by unfold SX; omega))⟩
theorem MH.be {A : AB} {σ σ' : SS} {ρ : RG} {l : List RG} (h : MH A σ) (h1 : M1 ρ σ') (h3 : M3 l σ') (e : ∀ q j, ¬ (144 ≤ q ∧ q ≤ 151) → ¬ q = 155 → ¬ (q = 143 ∧ (j = 0 ∨ j = 3 ∨ j = 15)) → ¬ SM q j → σ'.1 q j = σ.1 q j) : MH (aBe A ρ l) σ' := by
  obtain ⟨_, h2, _, h4, h5, h6⟩ := h
  have e' : ∀ q j, (143 ≤ q ∧ q ≤ 158) → ¬ q = 157 → ¬ (144 ≤ q ∧ q ≤ 151) → ¬ q = 155 → ¬ q = 143 → σ'.1 q j = σ.1 q j := fun q j a b c d f => e q j c d (by omega) (by unfold SM; omega)
  exact ⟨h1, h2.of (e _ _ (by omega) (by omega) (by omega) (by unfold SM; omega)) (fun j => e' _ _ (by omega) (by omega) (by omega) (by omega) (by omega)), h3, h4.of (e _ _ (by omega) (by omega) (by omega) (by unfold SM; omega)) (fun j => e' _ _ (by omega) (by omega) (by omega) (by omega) (by omega)), h5.of (fun q j _ _ => e' _ _ (by omega) (by omega) (by omega) (by omega) (by omega)), h6.of (fun j => e' _ _ (by omega) (by omega) (by omega) (by omega) (by omega))⟩
theorem pc_undo_ok : pc_undo Rel := by
  rintro σ ⟨A, hx, hm, hw⟩
  rcases hl : A.2.2.1 with _ | ⟨ρ, l⟩
  · refine both_ref (-3) 3 hx hm hw (fun τ h => ?_) (fun τ h => ?_)
    · have hk : τ.1 31 1 = nI 0 := by have := h.2.2.1.1; rw [hl] at this; exact this
      unfold f_X8_undo
      simp only [RD]
      rw [if_pos (show τ.1 31 1 = 0 from hk)]
      simp only [x_ref, Option.bind_some]
    · have hk : τ.1 143 15 = nI 0 := by have := h.2.2.1.1; rw [hl] at this; exact this
      unfold f_X9_undo
      rw [if_pos (show τ.1 143 15 = 0 from hk)]
      simp only [m_ref, Option.bind_some]
  · have hρ := hw.2.2.1.2 ρ (by rw [hl]; exact List.mem_cons_self ..)
    have hlen := hw.2.2.1.1
    rw [hl, List.length_cons] at hlen
    have hw' : WF (aBe A ρ l) := ⟨hρ.1, hw.2.1, ⟨by show l.length ≤ 8; omega, fun x hx => by
      have := hw.2.2.1.2 x (by rw [hl]; exact List.mem_cons_of_mem _ hx)
      exact ⟨this.1, hρ.2.trans2 this.2⟩⟩, hw.2.2.2.1, hw.2.2.2.2⟩
    refine both (r := nI l.length) hx hm hw hw' (fun τ h => ?_) (fun τ h => ?_)
    · obtain ⟨τ', f1, f2, f3, f4⟩ := x_giveBack hw h hl
      refine ⟨τ', ?_, h.be hw f2 f3 (fun q j hq => f4 q j (by omega)), fun q j hq => f4 q j (by omega)⟩
      have hk : τ.1 31 1 = nI (l.length + 1) := by have := h.2.2.1.1; rw [hl] at this; exact this
      unfold f_X8_undo
      simp only [RD]
      rw [if_neg (show ¬ τ.1 31 1 = 0 by rw [hk, eq_nI0 (by omega)]; omega), f1, Option.bind_some, f3.1]
    · obtain ⟨τ', f1, f2, f3, f4⟩ := m_undo hw h hl
      exact ⟨τ', f1, h.be f2 f3 (fun q j a b c d => f4 q j a (by omega)), fun q j hq => f4 q j (by omega) (by omega)⟩
