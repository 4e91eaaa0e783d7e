/-! lots -/
def nxW (ρ : RG) (w t : Nat) : Nat := nx (rT ρ) (rW ρ) (rK ρ w 0) (rK ρ w 1) (rK ρ w 2) t
theorem nxW_lt {ρ : RG} (hw : WR ρ) (w t : Nat) : nxW ρ w t < rT ρ := nx_lt (by have := hw.1; omega) _ _ _ _ _
theorem x_begin {ρ : RG} {σ : SS} (h : X1 ρ σ) (hn : rN ρ ≤ 6) : ∃ σ', f_X6_begin 128 1 σ = some σ' ∧ (∀ w, w < rN ρ → σ'.1 129 w = nI (rK ρ w 4)) ∧ (∀ t, t < 60 → σ'.1 134 t = 0) ∧ σ'.1 128 6 = 0 ∧ ∀ q j, ¬ q = 129 → ¬ q = 134 → ¬ q = 128 → σ'.1 q j = σ.1 q j := by
  obtain ⟨s, ⟨h1, h2⟩, e⟩ := loop_eq (fun fu i (s : SS) => f_X6_begin_L2 (fun (p0 : Nat) (τ : SS) => (f_J7_fill_53178 (rid p0 5) 0 τ).bind fun z4 => some (sI z4 p0 6 0)) fu 128 1 (nI i) s) (fun s => (f_J7_fill_53178 134 0 s).bind fun z4 => some (sI z4 128 6 0)) 6 (fun i s => (∀ w, w < i → s.1 129 w = σ.1 (5 + w) 4) ∧ ∀ q j, ¬ q = 129 → s.1 q j = σ.1 q j)
    (fun fu s hI => by
      simp only [f_X6_begin_L2, RD]
      rw [if_pos (show (6 : Int32) ≤ nI 6 by decide)])
    (fun fu i s hi hI => by
      have e1 : s.1 (5 + i) 4 = σ.1 (5 + i) 4 := hI.2 _ _ (by omega)
      refine ⟨sI s 129 i (σ.1 (5 + i) 4), ⟨fun w hw => ?_, fun q j hq => (rI_q hq).trans (hI.2 q j hq)⟩, ?_⟩
      · by_cases e : w = i
        · rw [e, rI_s]
        · rw [rI_j e]; exact hI.1 w (by omega)
      · simp (disch := omega) only [f_X6_begin_L2, RD, LN, cl_nI, ck_i, rid_wheel hi, e1, ol_add]
        rw [if_neg (show ¬ (6 : Int32) ≤ nI i by rw [fa_lit 6, le_nI (by omega) (by omega)]; omega)])
    (fu := FU) (i := 0) (s := σ) (by omega) (FU_big (by omega)) ⟨fun w hw => by omega, fun _ _ _ => rfl⟩
  obtain ⟨s1, f1, f2, f3, f4⟩ := x_fill (q := 134) (n := 60) (v := 0) (σ := s) (by decide +kernel) (by omega)
  refine ⟨sI s1 128 6 0, ?_, fun w hw => ?_, fun t ht => by rw [rI_q (by omega)]; exact f2 t ht, rI_s, fun q j h1' h2' h3' => by rw [rI_q h3', f3 q j h2', h2 q j h1']⟩
  · unfold f_X6_begin
    refine e.trans ?_
    rw [f1, Option.bind_some]
  · rw [rI_q (by omega), f3 _ _ (by omega), h1 w (by omega)]
    exact h.2.2.2.2 w hw 4 (by omega)
theorem m_starts {ρ : RG} {σ : SS} (h : M1 ρ σ) (hn : rN ρ ≤ 6) : ∃ σ', f_X9_starts 143 σ = some σ' ∧ (∀ w, w < rN ρ → σ'.1 170 w = nI (rK ρ w 4)) ∧ ∀ q j, ¬ q = 170 → σ'.1 q j = σ.1 q j := by
  obtain ⟨s, ⟨h1, h2⟩, e⟩ := loop_eq (fun fu i (s : SS) => f_X9_starts_L2 (fun (τ : SS) => some τ) fu 143 (nI i) s) (fun s => some s) (rN ρ) (fun i s => (∀ w, w < i → s.1 170 w = nI (rK ρ w 4)) ∧ ∀ q j, ¬ q = 170 → s.1 q j = σ.1 q j)
    (fun fu s hI => by
      simp only [f_X9_starts_L2]
      rw [hI.2 _ _ (by omega), h.2.1, if_pos ((le_nI (by omega) (by omega)).mpr (Nat.le_refl _))])
    (fun fu i s hi hI => by
      have e1 : s.1 150 i = nI (rK ρ i 4) := (hI.2 _ _ (by omega)).trans (h.2.2.2.2 i hi 4 (by omega))
      refine ⟨sI s 170 i (nI (rK ρ i 4)), ⟨fun w hw => ?_, fun q j hq => (rI_q hq).trans (hI.2 q j hq)⟩, ?_⟩
      · by_cases e : w = i
        · rw [e, rI_s]
        · rw [rI_j e]; exact hI.1 w (by omega)
      · simp (disch := omega) only [f_X9_starts_L2, RM, LN, cl_nI, ck_i, e1, ol_add]
        rw [hI.2 _ _ (by omega), h.2.1, if_neg (show ¬ nI (rN ρ) ≤ nI i by rw [le_nI (by omega) (by omega)]; omega)])
    (fu := FU) (i := 0) (s := σ) (by omega) (FU_big (by omega)) ⟨fun w hw => by omega, fun _ _ _ => rfl⟩
  exact ⟨s, e, h1, h2⟩
def upN (f : Nat → Nat) (k v : Nat) : Nat → Nat := fun i => if i = k then v else f i
abbrev LTS : Type := (Nat → Nat) × (Nat → Nat)
/-- one arc of a wheel in thought; m of them; a lot; n lots -/
def lst (ρ : RG) (w : Nat) (s : LTS) : LTS := (upN s.1 w (nxW ρ w (s.1 w)), upN s.2 (nxW ρ w (s.1 w)) (s.2 (nxW ρ w (s.1 w)) + 1))
def lstN (ρ : RG) (w : Nat) (s : LTS) : Nat → LTS
  | 0 => s
  | m + 1 => lst ρ w (lstN ρ w s m)
def lz (z : Int32) : Int32 := z * 1664525 + 1013904223
def dq (z : Int32) : Nat := z.toBitVec.toNat % 2 ^ 31 / 256
def lotN (ρ : RG) (z : Int32) (s : LTS) : Nat → Int32 × LTS
  | 0 => (z, s)
  | i + 1 => (lz (lz (lotN ρ z s i).1), lstN ρ (dq (lz (lotN ρ z s i).1) % rN ρ) (lotN ρ z s i).2 (dq (lz (lz (lotN ρ z s i).1)) % 4 + 1))
/-- what the rows P (where the wheels are), Q (how often each tooth) hold -/
def LI (P Q : Nat) (ρ : RG) (b : Nat) (s : LTS) (σ : SS) : Prop := (∀ i, i < rN ρ → σ.1 P i = nI (s.1 i) ∧ s.1 i < rT ρ) ∧ (∀ t, t < rT ρ → σ.1 Q t = nI (s.2 t)) ∧ ∀ t, s.2 t ≤ b
theorem LI.step {P Q b w : Nat} {ρ : RG} {s : LTS} {σ : SS} (hPQ : ¬ P = Q) (hw : WR ρ) (hi : w < rN ρ) (h : LI P Q ρ b s σ) : LI P Q ρ (b + 1) (lst ρ w s) (sI (sI σ P w (nI (nxW ρ w (s.1 w)))) Q (nxW ρ w (s.1 w)) (nI (s.2 (nxW ρ w (s.1 w)) + 1))) := by
  have hl := nxW_lt hw w (s.1 w)
  refine ⟨fun i hi => ?_, fun t ht => ?_, fun t => ?_⟩
  · show _ = nI (if i = w then _ else s.1 i) ∧ (if i = w then _ else s.1 i) < _
    rw [rI_q hPQ]
    by_cases e : i = w
    · rw [if_pos e, e, rI_s]
      exact ⟨rfl, hl⟩
    · rw [if_neg e, rI_j e]
      exact h.1 i hi
  · show _ = nI (if t = _ then _ else s.2 t)
    by_cases e : t = nxW ρ w (s.1 w)
    · rw [if_pos e, e, rI_s]
    · rw [if_neg e, rI_j e, rI_q (fun z => hPQ z.symm)]
      exact h.2.1 t ht
  · show (if t = _ then _ else s.2 t) ≤ _
    have h1 := h.2.2 t
    have h2 := h.2.2 (nxW ρ w (s.1 w))
    split <;> omega
theorem x_lot55 {ρ : RG} {σ : SS} {b w m : Nat} {s : LTS} {x2 x4 x5 : Int32} {κ : Nat → Nat → Int32 → Int32 → Int32 → SS → Option SS} (h : X1 ρ σ) (hw : WR ρ) (hi : w < rN ρ) (hm : m ≤ 4) (hb : b ≤ 1000) (hL : LI 129 134 ρ b s σ) :
    ∃ σ', f_X6_castLots_L55 κ FU 128 1 x2 x4 x5 (nI w) (nI m) 0 σ = κ 128 1 x2 x4 x5 σ' ∧ LI 129 134 ρ (b + m) (lstN ρ w s m) σ' ∧ ∀ q j, ¬ q = 129 → ¬ q = 134 → σ'.1 q j = σ.1 q j := by
  have hR := hw.2.1
  have hN := hw.2.2.1
  obtain ⟨s', ⟨h1, h2⟩, e⟩ := loop_eq (fun fu i (τ : SS) => f_X6_castLots_L55 κ fu 128 1 x2 x4 x5 (nI w) (nI m) (nI i) τ) (fun τ => κ 128 1 x2 x4 x5 τ) m (fun i τ => LI 129 134 ρ (b + i) (lstN ρ w s i) τ ∧ ∀ q j, ¬ q = 129 → ¬ q = 134 → τ.1 q j = σ.1 q j)
    (fun fu τ hI => by
      simp only [f_X6_castLots_L55]
      rw [if_pos ((le_nI (by omega) (by omega)).mpr (Nat.le_refl _))])
    (fun fu i τ hi' hI => by
      obtain ⟨hL, hF⟩ := hI
      have hX : X1 ρ τ := X1.of hN h (fun q j _ _ => hF q j (by omega) (by omega))
      obtain ⟨p1, p2⟩ := hL.1 w hi
      have hnx := x_nextW hX hw hi p2
      have hl := nxW_lt hw w ((lstN ρ w s i).1 w)
      have q1 := hL.2.1 _ hl
      have q2 := hL.2.2 (nxW ρ w ((lstN ρ w s i).1 w))
      refine ⟨_, ⟨hL.step (by omega) hw hi, fun q j hq hq2 => by rw [rI_q hq2, rI_q hq]; exact hF q j hq hq2⟩, ?_⟩
      simp only [f_X6_castLots_L55, RD, LN]
      rw [if_neg (show ¬ nI m ≤ nI i by rw [le_nI (by omega) (by omega)]; omega), cl_nI (by omega), ck_i (by omega) (by omega), ck_i (by omega) (by omega), rid_wheel (by omega), p1, hnx, Option.bind_some]
      show ck _ (ck _ (ck (¬ ((sI τ 129 w (nI (nxW ρ w ((lstN ρ w s i).1 w)))).1 129 w < 0 ∨ 60 ≤ ((sI τ 129 w (nI (nxW ρ w ((lstN ρ w s i).1 w)))).1 129 w).toNatClampNeg)) (ck (¬ ((sI τ 129 w (nI (nxW ρ w ((lstN ρ w s i).1 w)))).1 129 w < 0 ∨ 60 ≤ ((sI τ 129 w (nI (nxW ρ w ((lstN ρ w s i).1 w)))).1 129 w).toNatClampNeg)) (f_X6_castLots_L55 κ fu 128 1 x2 x4 x5 (nI w) (nI m) (nI i + 1) (sI (sI τ 129 w (nI (nxW ρ w ((lstN ρ w s i).1 w)))) 134 ((sI τ 129 w (nI (nxW ρ w ((lstN ρ w s i).1 w)))).1 129 w).toNatClampNeg ((sI τ 129 w (nI (nxW ρ w ((lstN ρ w s i).1 w)))).1 134 ((sI τ 129 w (nI (nxW ρ w ((lstN ρ w s i).1 w)))).1 129 w).toNatClampNeg + 1)))))) = _
      rw [rI_s, cl_nI (by omega), ck_i (by omega) (by omega), ck_i (by omega) (by omega), ck_i (by omega) (by omega), ck_i (by omega) (by omega), rI_q (by omega), q1, ol_add, ol_add])
    (fu := FU) (i := 0) (s := σ) (by omega) (FU_big (by omega)) ⟨hL, fun _ _ _ _ => rfl⟩
  exact ⟨s', e, h1, h2⟩
theorem m_lot121 {ρ : RG} {σ : SS} {b w m : Nat} {s : LTS} {x1 x3 x4 : Int32} {κ : Nat → Int32 → Int32 → Int32 → SS → Option (Int32 × SS)} (h : M1 ρ σ) (hw : WR ρ) (hi : w < rN ρ) (hm : m ≤ 4) (hb : b ≤ 1000) (hL : LI 170 172 ρ b s σ) :
    ∃ σ', f_X9_lots_L121 κ FU 143 x1 x3 x4 (nI w) (nI m) 0 σ = κ 143 x1 x3 x4 σ' ∧ LI 170 172 ρ (b + m) (lstN ρ w s m) σ' ∧ ∀ q j, ¬ q = 170 → ¬ q = 172 → σ'.1 q j = σ.1 q j := by
  have hR := hw.2.1
  have hN := hw.2.2.1
  obtain ⟨s', ⟨h1, h2⟩, e⟩ := loop_eq (fun fu i (τ : SS) => f_X9_lots_L121 κ fu 143 x1 x3 x4 (nI w) (nI m) (nI i) τ) (fun τ => κ 143 x1 x3 x4 τ) m (fun i τ => LI 170 172 ρ (b + i) (lstN ρ w s i) τ ∧ ∀ q j, ¬ q = 170 → ¬ q = 172 → τ.1 q j = σ.1 q j)
    (fun fu τ hI => by
      simp only [f_X9_lots_L121]
      rw [if_pos ((le_nI (by omega) (by omega)).mpr (Nat.le_refl _))])
    (fun fu i τ hi' hI => by
      obtain ⟨hL, hF⟩ := hI
      have hX : M1 ρ τ := M1.of hN h (hF _ _ (by omega) (by omega)) (hF _ _ (by omega) (by omega)) (fun q j _ _ => hF q j (by omega) (by omega))
      obtain ⟨p1, p2⟩ := hL.1 w hi
      have hnx := m_nextBy hX hw hi p2
      have hl := nxW_lt hw w ((lstN ρ w s i).1 w)
      have q1 := hL.2.1 _ hl
      have q2 := hL.2.2 (nxW ρ w ((lstN ρ w s i).1 w))
      refine ⟨_, ⟨hL.step (by omega) hw hi, fun q j hq hq2 => by rw [rI_q hq2, rI_q hq]; exact hF q j hq hq2⟩, ?_⟩
      simp only [f_X9_lots_L121, RM, LN]
      rw [if_neg (show ¬ nI m ≤ nI i by rw [le_nI (by omega) (by omega)]; omega), cl_nI (by omega), ck_i (by omega) (by omega), p1, hnx, Option.bind_some]
      show ck _ (ck _ (ck (¬ ((sI τ 170 w (nI (nxW ρ w ((lstN ρ w s i).1 w)))).1 170 w < 0 ∨ 60 ≤ ((sI τ 170 w (nI (nxW ρ w ((lstN ρ w s i).1 w)))).1 170 w).toNatClampNeg)) (ck (¬ ((sI τ 170 w (nI (nxW ρ w ((lstN ρ w s i).1 w)))).1 170 w < 0 ∨ 60 ≤ ((sI τ 170 w (nI (nxW ρ w ((lstN ρ w s i).1 w)))).1 170 w).toNatClampNeg)) (f_X9_lots_L121 κ fu 143 x1 x3 x4 (nI w) (nI m) (nI i + 1) (sI (sI τ 170 w (nI (nxW ρ w ((lstN ρ w s i).1 w)))) 172 ((sI τ 170 w (nI (nxW ρ w ((lstN ρ w s i).1 w)))).1 170 w).toNatClampNeg ((sI τ 170 w (nI (nxW ρ w ((lstN ρ w s i).1 w)))).1 172 ((sI τ 170 w (nI (nxW ρ w ((lstN ρ w s i).1 w)))).1 170 w).toNatClampNeg + 1)))))) = _
      rw [rI_s, cl_nI (by omega), ck_i (by omega) (by omega), ck_i (by omega) (by omega), ck_i (by omega) (by omega), ck_i (by omega) (by omega), rI_q (by omega), q1, ol_add, ol_add])
    (fu := FU) (i := 0) (s := σ) (by omega) (FU_big (by omega)) ⟨hL, fun _ _ _ _ => rfl⟩
  exact ⟨s', e, h1, h2⟩
theorem dq_lt (z : Int32) : dq z < 8388608 := by
  unfold dq
  have : z.toBitVec.toNat % 2 ^ 31 < 2 ^ 31 := Nat.mod_lt _ (by omega)
  omega
theorem dq_and (z : Int32) : (z &&& 2147483647) / 256 = nI (dq z) := by
  have h1 : z &&& (2147483647 : Int32) = nI (z.toBitVec.toNat % 2 ^ 31) := pk_and z 31 (by decide)
  have h2 : z.toBitVec.toNat % 2 ^ 31 < 2 ^ 31 := Nat.mod_lt _ (by omega)
  rw [h1]
  exact pk_div (a := z.toBitVec.toNat % 2 ^ 31) (d := 256) h2 (by omega) (by omega)
theorem x_drawn {z : Int32} {m : Nat} (h1 : 1 ≤ m) (h2 : m ≤ 1000000) : f_X2_drawn z (nI m) = nI (dq z % m) := by
  have := dq_lt z
  unfold f_X2_drawn
  rw [dq_and, mod_spec h1 h2, nI_toInt (by omega)]
  congr 1
theorem m_draw {σ : SS} {m : Nat} (h1 : 1 ≤ m) (h2 : m ≤ 1000000) : f_X9_draw 143 (nI m) σ = some (nI (dq (lz (σ.1 143 37)) % m), sI σ 143 37 (lz (σ.1 143 37))) := by
  have := dq_lt (lz (σ.1 143 37))
  have hz : ¬ nI m = 0 := by rw [eq_nI0 (by omega)]; omega
  unfold f_X9_draw
  rw [ck_pos hz, rI_s]
  show some (((lz (σ.1 143 37)) &&& 2147483647) / 256 - ((lz (σ.1 143 37)) &&& 2147483647) / 256 / nI m * nI m, _) = _
  rw [dq_and, pk_rem (by omega) (by omega) (by omega)]
  rfl
