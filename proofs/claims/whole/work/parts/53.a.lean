/-! what a list tells: teeth, each NEXT of the one ahead -/
def tth (R : Nat) (c : Int32) : Bool := decide (¬ (c < 0 ∨ nI R ≤ c))
theorem tth_no {R : Nat} {c : Int32} (h : ¬ tth R c = true) : bad c R := by
  unfold tth at h
  rw [decide_eq_true_eq] at h
  exact Classical.not_not.mp h
theorem tth_yes {R : Nat} {c : Int32} (hR : R ≤ 60) (h : tth R c = true) : c = nI c.toNatClampNeg ∧ c.toNatClampNeg < R := by
  unfold tth at h
  rw [decide_eq_true_eq] at h
  rcases ix_cases c (n := R) (by omega) with hb | ⟨j, hj, rfl⟩
  · exact absurd hb h
  · rw [cl_nI (by omega)]
    exact ⟨rfl, hj⟩
theorem x_tells {σ : SS} {l n R : Nat} {f : Nat → Int32} (hl : l < 3) (hn : n ≤ 40) (hR : R ≤ 60) (h0 : σ.1 1 0 = nI R) (e : σ.1 (137 + 2 * l) 0 = nI n) (hf : ∀ i, i < 40 → σ.1 (138 + 2 * l) i = f i) :
    f_X4_tellsTeeth 1 (137 + 2 * l) σ = some (if fstF (fun i => !tth R (f i)) 0 n < n then 0 else 1) := by
  have hq := rid_nums hl
  unfold f_X4_tellsTeeth
  have := search (fun fu i => f_X4_tellsTeeth_L2 σ (fun (_ : Unit) => some 1) fu 1 (137 + 2 * l) (nI i)) (fun i => !tth R (f i)) (fun _ => some 0) (some 1) n
    (fun fu => by
      simp only [f_X4_tellsTeeth_L2]
      rw [e, if_pos ((le_nI (by omega) (by omega)).mpr (Nat.le_refl _))])
    (fun fu i hi => by
      simp (disch := omega) only [f_X4_tellsTeeth_L2, hq, cl_nI, ck_i, e, hf i (by omega), ol_add]
      rw [if_neg (show ¬ nI n ≤ nI i by rw [le_nI (by omega) (by omega)]; omega)]
      by_cases q : tth R (f i) = true
      · obtain ⟨q1, q2⟩ := tth_yes hR q
        have e1 : f_X4_isTooth 1 (f i) σ = 1 := by rw [q1]; exact x_tooth h0 hR q2
        rw [e1, if_neg one0, if_neg (by rw [q]; decide)]
      · rw [x_tooth_bad h0 (tth_no q), if_pos rfl, if_pos (by rw [Bool.not_eq_true] at q; rw [q]; decide)])
    n 0 FU (by omega) (FU_big (by omega))
  refine this.trans ?_
  split <;> rfl
theorem m_others {σ : SS} {l n R : Nat} {f : Nat → Int32} (hl : l < 3) (hn : n ≤ 40) (hR : R ≤ 60) (h0 : σ.1 143 0 = nI R) (e : σ.1 154 l = nI n) (hf : ∀ i, i < 40 → σ.1 153 (40 * l + i) = f i) :
    f_X9_hasOthers 143 (nI l) σ = some (if fstF (fun i => !tth R (f i)) 0 n < n then 1 else 0) := by
  unfold f_X9_hasOthers
  have := search (fun fu i => f_X9_hasOthers_L2 σ (fun (_ : Unit) => some 0) fu 143 (nI l) (nI i)) (fun i => !tth R (f i)) (fun _ => some 1) (some 0) n
    (fun fu => by
      simp (disch := omega) only [f_X9_hasOthers_L2, RM, LN, cl_nI, ck_i]
      rw [e, if_pos ((le_nI (by omega) (by omega)).mpr (Nat.le_refl _))])
    (fun fu i hi => by
      have e40 : (40 : Int32) * nI l + nI i = nI (40 * l + i) := by rw [fa_lit 40, pk_mul, nI_add]
      simp (disch := omega) only [f_X9_hasOthers_L2, RM, LN, cl_nI, ck_i, e, e40, hf i (by omega), ol_add]
      rw [if_neg (show ¬ nI n ≤ nI i by rw [le_nI (by omega) (by omega)]; omega)]
      by_cases q : tth R (f i) = true
      · obtain ⟨q1, q2⟩ := tth_yes hR q
        have e1 : f_X9_isTooth 143 (f i) σ = 1 := by rw [q1]; exact m_tooth h0 hR q2
        rw [e1, if_neg one0, if_neg (by rw [q]; decide)]
      · rw [m_tooth_bad h0 hR (tth_no q), if_pos rfl, if_pos (by rw [Bool.not_eq_true] at q; rw [q]; decide)])
    n 0 FU (by omega) (FU_big (by omega))
  refine this.trans ?_
  split <;> rfl
/-- whether each tooth told is NEXT of the one ahead -/
def ldP (R : Nat) (wn : Nat → Nat) (k W fg : Nat) (g : Nat → Nat) (i : Nat) : Bool := decide (¬ nx R wn k W fg (g (i - 1)) = g i)
def ld (R : Nat) (wn : Nat → Nat) (g : Nat → Nat) (n k W fg : Nat) : Bool := decide (¬ fstF (ldP R wn k W fg g) 1 (max n 1 - 1) < max n 1)
theorem x_leads {σ : SS} {ρ : RG} {l n k W fg : Nat} {f : Nat → Int32} {g : Nat → Nat} (hl : l < 3) (hn : n ≤ 40) (h : X1 ρ σ) (hw : WR ρ) (c0 : σ.1 135 0 = nI k) (c1 : σ.1 135 1 = nI W) (c2 : σ.1 135 2 = nI fg) (hk : k ≤ 5) (hW : W < rT ρ) (hfg : fg ≤ 9) (e : σ.1 (137 + 2 * l) 0 = nI n) (hf : ∀ i, i < 40 → σ.1 (138 + 2 * l) i = f i) (hg : ∀ i, i < n → f i = nI (g i) ∧ g i < rT ρ) :
    f_X4_leads 1 (137 + 2 * l) 135 σ = some (if ld (rT ρ) (rW ρ) g n k W fg = true then 1 else 0) := by
  have hq := rid_nums hl
  have h60 := hw.2.1
  unfold f_X4_leads
  have := search (fun fu i => f_X4_leads_L2 σ (fun (_ : Unit) => some 1) fu 1 (137 + 2 * l) 135 (nI (i + 1))) (fun i => ldP (rT ρ) (rW ρ) k W fg g (i + 1)) (fun _ => some 0) (some 1) (max n 1 - 1)
    (fun fu => by
      simp only [f_X4_leads_L2]
      rw [e, if_pos ((le_nI (by omega) (by omega)).mpr (by omega))])
    (fun fu i hi => by
      obtain ⟨g1, g2⟩ := hg i (by omega)
      obtain ⟨g3, g4⟩ := hg (i + 1) (by omega)
      have e1 : nI (i + 1) - 1 = nI i := ol_sub (n := 1) (by omega)
      simp (disch := omega) only [f_X4_leads_L2, hq, e1, cl_nI, ck_i, e, hf i (by omega), hf (i + 1) (by omega), g1, g3, x_next h hw c0 c1 c2 hk hW hfg g2, Option.bind_some, ol_add]
      have hx := nx_lt (R := rT ρ) (by omega) (rW ρ) k W fg (g i)
      rw [if_neg (show ¬ nI n ≤ nI (i + 1) by rw [le_nI (by omega) (by omega)]; omega)]
      by_cases q : nx (rT ρ) (rW ρ) k W fg (g i) = g (i + 1)
      · rw [if_pos (congrArg nI q), if_neg (show ¬ ldP (rT ρ) (rW ρ) k W fg g (i + 1) = true from fun z => absurd q (of_decide_eq_true z))]
      · rw [if_neg (fun z => q ((eq_nI (by omega) (by omega)).mp z)), if_pos (show ldP (rT ρ) (rW ρ) k W fg g (i + 1) = true from decide_eq_true q)])
    (max n 1 - 1) 0 FU (by omega) (FU_big (by omega))
  refine this.trans ?_
  unfold ld
  rw [fstF_shift]
  by_cases q : fstF (fun j => ldP (rT ρ) (rW ρ) k W fg g (j + 1)) 0 (max n 1 - 1) < max n 1 - 1
  · rw [if_pos q, if_neg (fun z => absurd (of_decide_eq_true z) (by omega))]
  · rw [if_neg q, if_pos (decide_eq_true (by omega))]
theorem m_drawnP {σ : SS} {R : Nat} {wn : Nat → Nat} {l n k W fg : Nat} {f : Nat → Int32} {g : Nat → Nat} (hl : l < 3) (hn : n ≤ 40) (h : MN R wn σ) (hk : k ≤ 5) (hW : W < R) (hfg : fg ≤ 9) (e : σ.1 154 l = nI n) (hf : ∀ i, i < 40 → σ.1 153 (40 * l + i) = f i) (hg : ∀ i, i < n → f i = nI (g i) ∧ g i < R) :
    f_X9_isDrawn 143 (nI l) (nI k) (nI W) (nI fg) σ = some (if ld R wn g n k W fg = true then 1 else 0) := by
  have h60 := h.2.2.2.2
  have h1 := h.2.2.2.1
  unfold f_X9_isDrawn
  have := search (fun fu i => f_X9_isDrawn_L3 σ (fun (_ : Unit) => some 1) fu 143 (nI l) (nI k) (nI W) (nI fg) (nI (i + 1))) (fun i => ldP R wn k W fg g (i + 1)) (fun _ => some 0) (some 1) (max n 1 - 1)
    (fun fu => by
      simp (disch := omega) only [f_X9_isDrawn_L3, RM, LN, cl_nI, ck_i]
      rw [e, if_pos ((le_nI (by omega) (by omega)).mpr (by omega))])
    (fun fu i hi => by
      obtain ⟨g1, g2⟩ := hg i (by omega)
      obtain ⟨g3, g4⟩ := hg (i + 1) (by omega)
      have e40 : (40 : Int32) * nI l + nI (i + 1) = nI (40 * l + (i + 1)) := by rw [fa_lit 40, pk_mul, nI_add]
      have e1 : nI (40 * l + (i + 1)) - 1 = nI (40 * l + i) := ol_sub (n := 1) (i := 40 * l + (i + 1)) (by omega)
      simp (disch := omega) only [f_X9_isDrawn_L3, RM, LN, e40, e1, cl_nI, ck_i, e, hf i (by omega), hf (i + 1) (by omega), g1, g3, m_next h hk hW hfg g2, Option.bind_some, ol_add]
      have hx := nx_lt (R := R) (by omega) wn k W fg (g i)
      rw [if_neg (show ¬ nI n ≤ nI (i + 1) by rw [le_nI (by omega) (by omega)]; omega)]
      by_cases q : nx R wn k W fg (g i) = g (i + 1)
      · rw [if_pos (congrArg nI q), if_neg (show ¬ ldP R wn k W fg g (i + 1) = true from fun z => absurd q (of_decide_eq_true z))]
      · rw [if_neg (fun z => q ((eq_nI (by omega) (by omega)).mp z)), if_pos (show ldP R wn k W fg g (i + 1) = true from decide_eq_true q)])
    (max n 1 - 1) 0 FU (by omega) (FU_big (by omega))
  refine this.trans ?_
  unfold ld
  rw [fstF_shift]
  by_cases q : fstF (fun j => ldP R wn k W fg g (j + 1)) 0 (max n 1 - 1) < max n 1 - 1
  · rw [if_pos q, if_neg (fun z => absurd (of_decide_eq_true z) (by omega))]
  · rw [if_neg q, if_pos (decide_eq_true (by omega))]
