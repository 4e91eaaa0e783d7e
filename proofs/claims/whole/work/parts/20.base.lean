/-! The pure part: numbers, the abstract state, what either side holds of it -/
theorem fa_lit (n : Nat) : (OfNat.ofNat n : Int32) = nI n := rfl
theorem ix_nI {i n : Nat} (h : i < n) (hn : n ≤ 2000000) : ¬ (nI i < 0 ∨ n ≤ (nI i).toNatClampNeg) := nI_in h (by omega)
theorem ck_nI {α : Type} {i n : Nat} {x : Option α} (h : i < n) (hn : n ≤ 2000000) : ck (¬ (nI i < 0 ∨ n ≤ (nI i).toNatClampNeg)) x = x := ck_pos (ix_nI h hn)
theorem ck_i {α : Type} {i n : Nat} {x : Option α} {inst : Decidable (¬ (nI i < 0 ∨ n ≤ i))} (h : i < n) (hn : n ≤ 2000000) : @ck α _ inst x = x := if_pos (by
  rintro (q | q)
  · exact nI_pos (by omega) q
  · omega)
theorem cl_nI {n : Nat} (h : n ≤ 2000000) : (nI n).toNatClampNeg = n := nI_clamp (by omega)
theorem le_nI {a b : Nat} (ha : a ≤ 2000000) (hb : b ≤ 2000000) : nI a ≤ nI b ↔ a ≤ b := nI_leI (by omega) (by omega)
theorem lt_nI {a b : Nat} (ha : a ≤ 2000000) (hb : b ≤ 2000000) : nI a < nI b ↔ a < b := nI_ltI (by omega) (by omega)
theorem eq_nI {a b : Nat} (ha : a ≤ 2000000) (hb : b ≤ 2000000) : nI a = nI b ↔ a = b := nI_eq (by omega) (by omega)
theorem ol_le {n i : Nat} (hn : n ≤ 2000000) (hi : i ≤ 2000000) : (no_index (OfNat.ofNat n : Int32)) ≤ nI i ↔ n ≤ i := le_nI hn hi
theorem ol_ge {n i : Nat} (hn : n ≤ 2000000) (hi : i ≤ 2000000) : nI i ≤ (no_index (OfNat.ofNat n : Int32)) ↔ i ≤ n := le_nI hi hn
theorem ol_lt {n i : Nat} (hn : n ≤ 2000000) (hi : i ≤ 2000000) : (no_index (OfNat.ofNat n : Int32)) < nI i ↔ n < i := lt_nI hn hi
theorem ol_gt {n i : Nat} (hn : n ≤ 2000000) (hi : i ≤ 2000000) : nI i < (no_index (OfNat.ofNat n : Int32)) ↔ i < n := lt_nI hi hn
theorem ol_eq {n i : Nat} (hn : n ≤ 2000000) (hi : i ≤ 2000000) : nI i = (no_index (OfNat.ofNat n : Int32)) ↔ i = n := eq_nI hi hn
theorem le_nI0 {a : Nat} (ha : a ≤ 2000000) : nI a ≤ 0 ↔ a ≤ 0 := le_nI (b := 0) ha (by omega)
theorem eq_nI0 {a : Nat} (ha : a ≤ 2000000) : nI a = 0 ↔ a = 0 := eq_nI (b := 0) ha (by omega)
theorem eq_nI1 {a : Nat} (ha : a ≤ 2000000) : nI a = 1 ↔ a = 1 := eq_nI (b := 1) ha (by omega)
theorem lt_0nI {a : Nat} (ha : a ≤ 2000000) : 0 < nI a ↔ 0 < a := lt_nI (a := 0) (by omega) ha
theorem ol_add {n i : Nat} : nI i + (no_index (OfNat.ofNat n : Int32)) = nI (i + n) := nI_add i n
theorem ol_sub {n i : Nat} (h : n ≤ i) : nI i - (no_index (OfNat.ofNat n : Int32)) = nI (i - n) := pk_sub h
theorem sub_nI {a b : Nat} (h : b ≤ a) : nI a - nI b = nI (a - b) := pk_sub h
theorem rem_nI {a d : Nat} (ha : a ≤ 2000000) (h0 : 0 < d) (hd : d ≤ 2000000) : nI a - nI a / nI d * nI d = nI (a % d) := pk_rem (by omega) h0 (by omega)
theorem div_nI {a d : Nat} (ha : a ≤ 2000000) (h0 : 0 < d) (hd : d ≤ 2000000) : nI a / nI d = nI (a / d) := pk_div (by omega) h0 (by omega)
theorem ne_m9 {a : Nat} (h : a ≤ 2000000) : ¬ nI a = -9 := by
  intro e
  have := congrArg Int32.toInt e
  rw [nI_toInt (by omega)] at this
  have h2 : (-9 : Int32).toInt = -9 := by decide
  omega
theorem nlt_m {a : Nat} (h : a ≤ 2000000) : ¬ nI a < 0 := nI_pos (by omega)
/-- loops that count upward: either the end is reached, with the invariant, or E holds on the way -/
theorem loop_ex {S β : Type} (g : Nat → Nat → S → β) (fin : S → β) (n : Nat) (I : Nat → S → Prop) (E : β → Prop) (he : ∀ fu s, I n s → g (fu + 1) n s = fin s)
    (hs : ∀ fu i s, i < n → I i s → (∃ s', I (i + 1) s' ∧ g (fu + 1) i s = g fu (i + 1) s') ∨ E (g (fu + 1) i s)) :
    ∀ fu i s, i ≤ n → n - i < fu → I i s → (∃ s', I n s' ∧ g fu i s = fin s') ∨ E (g fu i s) := by
  intro fu
  induction fu with
  | zero => intro i s _ h; omega
  | succ fu ih =>
    intro i s hi hf hI
    rcases Nat.lt_or_ge i n with h | h
    · rcases hs fu i s h hI with ⟨s', h1, h2⟩ | h1
      · rw [h2]
        exact ih (i + 1) s' h (by omega) h1
      · exact Or.inr h1
    · have e : i = n := by omega
      subst e
      exact Or.inl ⟨s, hI, he fu s hI⟩
theorem loop_eq {S β : Type} (g : Nat → Nat → S → β) (fin : S → β) (n : Nat) (I : Nat → S → Prop) (he : ∀ fu s, I n s → g (fu + 1) n s = fin s)
    (hs : ∀ fu i s, i < n → I i s → ∃ s', I (i + 1) s' ∧ g (fu + 1) i s = g fu (i + 1) s') {fu i : Nat} {s : S} (hi : i ≤ n) (hf : n - i < fu) (h0 : I i s) : ∃ s', I n s' ∧ g fu i s = fin s' := by
  rcases loop_ex g fin n I (fun _ => False) he (fun fu i s h1 h2 => Or.inl (hs fu i s h1 h2)) fu i s hi hf h0 with h | h
  · exact h
  · exact h.elim
theorem FU_big {n : Nat} (h : n < 1000000) : n < FU := h
/-! memory -/
theorem rI_s {σ : SS} {q j : Nat} {v : Int32} : (sI σ q j v).1 q j = v := by simp [sI]
theorem rI_q {σ : SS} {q j a b : Nat} {v : Int32} (h : ¬ a = q) : (sI σ q j v).1 a b = σ.1 a b := by simp [sI, h]
theorem rI_j {σ : SS} {q j a b : Nat} {v : Int32} (h : ¬ b = j) : (sI σ q j v).1 a b = σ.1 a b := by simp [sI, h]
theorem rI_i {σ : SS} {q j a b : Nat} {v : Int32} : (sI σ q j v).1 a b = if a = q ∧ b = j then v else σ.1 a b := by
  by_cases h : a = q <;> by_cases h2 : b = j <;> simp [sI, h, h2]
theorem rI_2 {σ : SS} {q j : Nat} {v : Int32} : (sI σ q j v).2 = σ.2 := rfl
theorem rL_1 {σ : SS} {q j : Nat} {v : Int64} : (sL σ q j v).1 = σ.1 := rfl
theorem rC_s {σ : SS} {q b : Nat} {f : Nat → Int32} : (sC σ q f).1 q b = f b := by simp [sC]
theorem rC_q {σ : SS} {q a b : Nat} {f : Nat → Int32} (h : ¬ a = q) : (sC σ q f).1 a b = σ.1 a b := by simp [sC, h]
theorem rC_2 {σ : SS} {q : Nat} {f : Nat → Int32} : (sC σ q f).2 = σ.2 := rfl
/-- where the cells are -/
theorem RD : rid 0 0 = 1 ∧ rid 0 1 = 11 ∧ rid 0 2 = 21 ∧ rid 0 4 = 31 ∧ rid 0 5 = 113 ∧ rid 0 6 = 115 ∧ rid 0 7 = 116 ∧ rid 0 8 = 122 ∧ rid 0 9 = 128 ∧ rid 0 10 = 135 ∧ rid 0 11 = 136 ∧
  rid 1 2 = 2 ∧ rid 1 3 = 3 ∧ rid 1 4 = 4 ∧ rid 11 2 = 12 ∧ rid 11 3 = 13 ∧ rid 11 4 = 14 ∧ rid 21 2 = 22 ∧ rid 21 3 = 23 ∧ rid 21 4 = 24 ∧ rid 31 0 = 32 ∧ rid 113 0 = 114 ∧
  rid 116 5 = 117 ∧ rid 116 6 = 118 ∧ rid 116 7 = 119 ∧ rid 116 8 = 120 ∧ rid 116 9 = 121 ∧ rid 122 5 = 123 ∧ rid 122 6 = 124 ∧ rid 122 7 = 125 ∧ rid 122 8 = 126 ∧ rid 122 9 = 127 ∧
  rid 128 0 = 129 ∧ rid 128 1 = 130 ∧ rid 128 2 = 131 ∧ rid 128 3 = 132 ∧ rid 128 4 = 133 ∧ rid 128 5 = 134 := by decide +kernel
theorem RM : rid 143 1 = 144 ∧ rid 143 2 = 145 ∧ rid 143 4 = 146 ∧ rid 143 5 = 147 ∧ rid 143 6 = 148 ∧ rid 143 7 = 149 ∧ rid 143 8 = 150 ∧ rid 143 9 = 151 ∧ rid 143 10 = 152 ∧ rid 143 12 = 153 ∧ rid 143 13 = 154 ∧ rid 143 14 = 155 ∧ rid 143 16 = 156 ∧ rid 143 17 = 157 ∧ rid 143 19 = 158 ∧
  rid 143 20 = 159 ∧ rid 143 21 = 160 ∧ rid 143 22 = 161 ∧ rid 143 25 = 162 ∧ rid 143 26 = 163 ∧ rid 143 28 = 164 ∧ rid 143 29 = 165 ∧ rid 143 30 = 166 ∧ rid 143 31 = 167 ∧ rid 143 32 = 168 ∧ rid 143 33 = 169 ∧ rid 143 34 = 170 ∧ rid 143 35 = 171 ∧ rid 143 36 = 172 := by decide +kernel
theorem LN : ln 2 = 60 ∧ ln 3 = 60 ∧ ln 4 = 6 ∧ ln 12 = 60 ∧ ln 13 = 60 ∧ ln 14 = 6 ∧ ln 22 = 60 ∧ ln 23 = 60 ∧ ln 24 = 6 ∧ ln 32 = 8 ∧ ln 114 = 72 ∧ ln 115 = 3 ∧ ln 117 = 60 ∧ ln 118 = 60 ∧ ln 119 = 60 ∧ ln 120 = 60 ∧ ln 121 = 60 ∧ ln 123 = 60 ∧ ln 124 = 60 ∧ ln 125 = 60 ∧ ln 126 = 60 ∧ ln 127 = 60 ∧
  ln 129 = 6 ∧ ln 130 = 6 ∧ ln 131 = 100 ∧ ln 132 = 100 ∧ ln 133 = 100 ∧ ln 134 = 60 ∧ ln 136 = 7 ∧ ln 144 = 60 ∧ ln 145 = 60 ∧ ln 146 = 6 ∧ ln 147 = 6 ∧ ln 148 = 6 ∧ ln 149 = 6 ∧ ln 150 = 6 ∧ ln 151 = 6 ∧ ln 152 = 72 ∧ ln 153 = 120 ∧ ln 154 = 3 ∧ ln 155 = 1056 ∧ ln 156 = 158 ∧ ln 157 = 158 ∧ ln 158 = 7 ∧
  ln 159 = 60 ∧ ln 160 = 60 ∧ ln 161 = 60 ∧ ln 162 = 60 ∧ ln 163 = 60 ∧ ln 164 = 60 ∧ ln 165 = 60 ∧ ln 166 = 60 ∧ ln 167 = 100 ∧ ln 168 = 100 ∧ ln 169 = 100 ∧ ln 170 = 6 ∧ ln 171 = 6 ∧ ln 172 = 60 := by decide +kernel
theorem rid_wheel {i : Nat} (h : i < 6) : rid 4 i = 5 + i := (by decide +kernel : ∀ i, i < 6 → rid 4 i = 5 + i) i h
theorem rid_row {i : Nat} (h : i < 3) : rid 115 i = 137 + 2 * i := (by decide +kernel : ∀ i, i < 3 → rid 115 i = 137 + 2 * i) i h
theorem rid_nums {i : Nat} (h : i < 3) : rid (137 + 2 * i) 1 = 138 + 2 * i ∧ ln (138 + 2 * i) = 40 := (by decide +kernel : ∀ i, i < 3 → rid (137 + 2 * i) 1 = 138 + 2 * i ∧ ln (138 + 2 * i) = 40) i h
theorem rid_past {i : Nat} (h : i < 8) : rid 32 i = 33 + 10 * i := (by decide +kernel : ∀ i, i < 8 → rid 32 i = 33 + 10 * i) i h
theorem rid_ring {r : Nat} (h : kd r = 3) : rid r 2 = r + 1 ∧ rid r 3 = r + 2 ∧ rid r 4 = r + 3 ∧ ln (r + 1) = 60 ∧ ln (r + 2) = 60 ∧ ln (r + 3) = 6 ∧ ∀ i, i < 6 → rid (r + 3) i = r + 4 + i :=
  (by decide +kernel : ∀ r, r < NC → kd r = 3 → rid r 2 = r + 1 ∧ rid r 3 = r + 2 ∧ rid r 4 = r + 3 ∧ ln (r + 1) = 60 ∧ ln (r + 2) = 60 ∧ ln (r + 3) = 6 ∧ ∀ i, i < 6 → rid (r + 3) i = r + 4 + i) r (kd_lt h (by decide)) h
/-! the abstract state: a ring ((teeth, wheels), ink, worn, what wheel i has: 0 kind, 1 size, 2 figure, 3 pace, 4 at, 5 rolled); all of it -/
abbrev RG : Type := (Nat × Nat) × (Nat → Nat) × (Nat → Nat) × (Nat → Nat → Nat)
/-- now, the image, what can be undone (latest first), letters, lists (sizes, numbers), refusals -/
abbrev AB : Type := RG × Option RG × List RG × (Nat × (Nat → Nat)) × ((Nat → Int32) × (Nat → Nat → Int32)) × (Nat → Int32)
def rT (ρ : RG) : Nat := ρ.1.1
def rN (ρ : RG) : Nat := ρ.1.2
def rI (ρ : RG) : Nat → Nat := ρ.2.1
def rW (ρ : RG) : Nat → Nat := ρ.2.2.1
def rK (ρ : RG) : Nat → Nat → Nat := ρ.2.2.2
def XR (σ : SS) (r : Nat) (ρ : RG) : Prop := σ.1 r 0 = nI (rT ρ) ∧ σ.1 r 1 = nI (rN ρ) ∧ (∀ t, t < 60 → σ.1 (r + 1) t = nI (rI ρ t)) ∧ (∀ t, t < 60 → σ.1 (r + 2) t = nI (rW ρ t)) ∧ ∀ i, i < rN ρ → ∀ j, j < 6 → σ.1 (r + 4 + i) j = nI (rK ρ i j)
def MR (σ : SS) (ρ : RG) : Prop := σ.1 143 0 = nI (rT ρ) ∧ σ.1 143 3 = nI (rN ρ) ∧ (∀ t, t < 60 → σ.1 145 t = nI (rI ρ t)) ∧ (∀ t, t < 60 → σ.1 144 t = nI (rW ρ t)) ∧ ∀ i, i < rN ρ → ∀ j, j < 6 → σ.1 (146 + j) i = nI (rK ρ i j)
/-- a snapshot of the model's: in the row q -/
def MZ (σ : SS) (q : Nat) (ρ : RG) : Prop := σ.1 q 0 = nI (rT ρ) ∧ σ.1 q 1 = nI (rN ρ) ∧ (∀ t, t < 60 → σ.1 q (38 + t) = nI (rI ρ t)) ∧ (∀ t, t < 60 → σ.1 q (98 + t) = nI (rW ρ t)) ∧ ∀ i, i < rN ρ → ∀ j, j < 6 → σ.1 q (2 + 6 * j + i) = nI (rK ρ i j)
/-- the k-th of the model's that can be undone -/
def MB (σ : SS) (k : Nat) (ρ : RG) : Prop := (∀ t, t < 60 → σ.1 155 (132 * k + 12 + t) = nI (rI ρ t)) ∧ (∀ t, t < 60 → σ.1 155 (132 * k + 72 + t) = nI (rW ρ t)) ∧ ∀ i, i < rN ρ → σ.1 155 (132 * k + i) = nI (rK ρ i 4) ∧ σ.1 155 (132 * k + 6 + i) = nI (rK ρ i 5)
def WR (ρ : RG) : Prop := 3 ≤ rT ρ ∧ rT ρ ≤ 60 ∧ rN ρ ≤ 6 ∧ (∀ t, rI ρ t ≤ 9999) ∧ (∀ t, rW ρ t ≤ 1) ∧ ∀ i, i < rN ρ → rK ρ i 0 ≤ 5 ∧ 1 ≤ rK ρ i 1 ∧ rK ρ i 1 < rT ρ ∧ rK ρ i 2 ≤ 9 ∧ 1 ≤ rK ρ i 3 ∧ rK ρ i 3 ≤ 9 ∧ rK ρ i 4 < rT ρ ∧ rK ρ i 5 ≤ 9999
def X1 (ρ : RG) (σ : SS) : Prop := XR σ 1 ρ
def X2 (o : Option RG) (σ : SS) : Prop := match o with | none => σ.1 0 3 = 0 | some ρ => σ.1 0 3 = 1 ∧ XR σ 21 ρ
def X3 (l : List RG) (σ : SS) : Prop := σ.1 31 1 = nI l.length ∧ ∃ p, p < 8 ∧ σ.1 31 2 = nI p ∧ ∀ k ρ, l[k]? = some ρ → XR σ (33 + 10 * ((p + 7 - k) % 8)) ρ
def X4 (w : Nat × (Nat → Nat)) (σ : SS) : Prop := σ.1 113 1 = nI w.1 ∧ ∀ i, i < w.1 → σ.1 114 i = nI (w.2 i)
def X5 (w : (Nat → Int32) × (Nat → Nat → Int32)) (σ : SS) : Prop := ∀ l, l < 3 → σ.1 (137 + 2 * l) 0 = w.1 l ∧ ∀ i, i < 40 → σ.1 (138 + 2 * l) i = w.2 l i
def X6 (f : Nat → Int32) (σ : SS) : Prop := ∀ k, k < 7 → σ.1 136 k = f k
def XH (A : AB) (σ : SS) : Prop := X1 A.1 σ ∧ X2 A.2.1 σ ∧ X3 A.2.2.1 σ ∧ X4 A.2.2.2.1 σ ∧ X5 A.2.2.2.2.1 σ ∧ X6 A.2.2.2.2.2 σ
def M1 (ρ : RG) (σ : SS) : Prop := MR σ ρ
def M2 (o : Option RG) (σ : SS) : Prop := match o with | none => σ.1 143 18 = 0 | some ρ => σ.1 143 18 = 1 ∧ MZ σ 156 ρ
def M3 (l : List RG) (σ : SS) : Prop := σ.1 143 15 = nI l.length ∧ ∀ k ρ, l[k]? = some ρ → MB σ (l.length - 1 - k) ρ
def M4 (w : Nat × (Nat → Nat)) (σ : SS) : Prop := σ.1 143 11 = nI w.1 ∧ ∀ i, i < w.1 → σ.1 152 i = nI (w.2 i)
def M5 (w : (Nat → Int32) × (Nat → Nat → Int32)) (σ : SS) : Prop := ∀ l, l < 3 → σ.1 154 l = w.1 l ∧ ∀ i, i < 40 → σ.1 153 (40 * l + i) = w.2 l i
def M6 (f : Nat → Int32) (σ : SS) : Prop := ∀ k, k < 7 → σ.1 158 k = f k
def MH (A : AB) (σ : SS) : Prop := M1 A.1 σ ∧ M2 A.2.1 σ ∧ M3 A.2.2.1 σ ∧ M4 A.2.2.2.1 σ ∧ M5 A.2.2.2.2.1 σ ∧ M6 A.2.2.2.2.2 σ
/-- rings of one shape: teeth, wheels, and all of them but where they are and how far they were rolled -/
def Sh (ρ ρ' : RG) : Prop := rT ρ' = rT ρ ∧ rN ρ' = rN ρ ∧ ∀ i, i < rN ρ → ∀ j, j < 4 → rK ρ' i j = rK ρ i j
def WF (A : AB) : Prop := WR A.1 ∧ (∀ ρ, A.2.1 = some ρ → WR ρ) ∧ (A.2.2.1.length ≤ 8 ∧ ∀ ρ ∈ A.2.2.1, WR ρ ∧ Sh A.1 ρ) ∧ (A.2.2.2.1.1 ≤ 72 ∧ ∀ i, A.2.2.2.1.2 i ≤ 255) ∧
  ∀ l, l < 3 → A.2.2.2.2.1.1 l = -1 ∨ ∃ n : Nat, n ≤ 40 ∧ A.2.2.2.2.1.1 l = nI n
def Rel (σ : SS) : Prop := ∃ A : AB, XH A σ ∧ MH A σ ∧ WF A
/-- the class's scratch cells; the model's -/
def SX (q : Nat) : Prop := (11 ≤ q ∧ q ≤ 20) ∨ (116 ≤ q ∧ q ≤ 135)
def SM (q j : Nat) : Prop := (q = 143 ∧ (j = 23 ∨ j = 24 ∨ j = 27 ∨ j = 37)) ∨ q = 157 ∨ 159 ≤ q
def FX (σ σ' : SS) : Prop := ∀ q j, ¬ SX q → σ'.1 q j = σ.1 q j
def FM (σ σ' : SS) : Prop := ∀ q j, ¬ SM q j → σ'.1 q j = σ.1 q j
/-- a call of the class's, of the model's: from A it answers r and leaves A' -/
def XC {β : Type} (f : SS → Option (β × SS)) (A : AB) (r : β) (A' : AB) : Prop := ∀ σ, XH A σ → ∃ σ', f σ = some (r, σ') ∧ XH A' σ' ∧ ∀ q j, 143 ≤ q → σ'.1 q j = σ.1 q j
def MC {β : Type} (f : SS → Option (β × SS)) (A : AB) (r : β) (A' : AB) : Prop := ∀ σ, MH A σ → ∃ σ', f σ = some (r, σ') ∧ MH A' σ' ∧ ∀ q j, q < 143 → σ'.1 q j = σ.1 q j
theorem XR.of {σ σ' : SS} {r : Nat} {ρ : RG} (h : XR σ r ρ) (e : ∀ q j, r ≤ q → q < r + 10 → σ'.1 q j = σ.1 q j) (hn : rN ρ ≤ 6) : XR σ' r ρ := by
  obtain ⟨h1, h2, h3, h4, h5⟩ := h
  exact ⟨by rw [e r 0 (by omega) (by omega)]; exact h1, by rw [e r 1 (by omega) (by omega)]; exact h2, fun t ht => by rw [e _ t (by omega) (by omega)]; exact h3 t ht, fun t ht => by rw [e _ t (by omega) (by omega)]; exact h4 t ht, fun i hi j hj => by rw [e _ j (by omega) (by omega)]; exact h5 i hi j hj⟩
theorem X1.of {ρ : RG} {σ σ' : SS} (hn : rN ρ ≤ 6) (h : X1 ρ σ) (e : ∀ q j, 1 ≤ q → q ≤ 10 → σ'.1 q j = σ.1 q j) : X1 ρ σ' := XR.of h (fun q j h1 h2 => e q j h1 (by omega)) hn
theorem X2.of {o : Option RG} {σ σ' : SS} (hn : ∀ ρ, o = some ρ → rN ρ ≤ 6) (h : X2 o σ) (e : ∀ q j, (q = 0 ∧ j = 3) ∨ (21 ≤ q ∧ q ≤ 30) → σ'.1 q j = σ.1 q j) : X2 o σ' := by
  cases o with
  | none => exact (e 0 3 (Or.inl ⟨rfl, rfl⟩)).trans h
  | some ρ => exact ⟨(e 0 3 (Or.inl ⟨rfl, rfl⟩)).trans h.1, h.2.of (fun q j h1 h2 => e q j (Or.inr ⟨h1, by omega⟩)) (hn ρ rfl)⟩
theorem X3.of {l : List RG} {σ σ' : SS} (hn : ∀ ρ ∈ l, rN ρ ≤ 6) (h : X3 l σ) (e : ∀ q j, 31 ≤ q → q ≤ 112 → σ'.1 q j = σ.1 q j) : X3 l σ' := by
  obtain ⟨h1, p, hp, h2, h3⟩ := h
  exact ⟨by rw [e _ _ (by omega) (by omega)]; exact h1, p, hp, by rw [e _ _ (by omega) (by omega)]; exact h2, fun k ρ hk => (h3 k ρ hk).of (fun q j _ _ => e q j (by omega) (by omega)) (hn ρ (List.mem_of_getElem? hk))⟩
theorem X4.of {w : Nat × (Nat → Nat)} {σ σ' : SS} (h : X4 w σ) (e : ∀ q j, 113 ≤ q → q ≤ 114 → σ'.1 q j = σ.1 q j) : X4 w σ' := ⟨(e _ _ (by omega) (by omega)).trans h.1, fun i hi => (e _ _ (by omega) (by omega)).trans (h.2 i hi)⟩
theorem X5.of {w : (Nat → Int32) × (Nat → Nat → Int32)} {σ σ' : SS} (h : X5 w σ) (e : ∀ q j, 137 ≤ q → q ≤ 142 → σ'.1 q j = σ.1 q j) : X5 w σ' := fun l hl => ⟨(e _ _ (by omega) (by omega)).trans (h l hl).1, fun i hi => (e _ _ (by omega) (by omega)).trans ((h l hl).2 i hi)⟩
theorem X6.of {f : Nat → Int32} {σ σ' : SS} (h : X6 f σ) (e : ∀ j, σ'.1 136 j = σ.1 136 j) : X6 f σ' := fun k hk => (e k).trans (h k hk)
theorem M1.of {ρ : RG} {σ σ' : SS} (hn : rN ρ ≤ 6) (h : M1 ρ σ) (e0 : σ'.1 143 0 = σ.1 143 0) (e3 : σ'.1 143 3 = σ.1 143 3) (e : ∀ q j, 144 ≤ q → q ≤ 151 → σ'.1 q j = σ.1 q j) : M1 ρ σ' := by
  obtain ⟨h1, h2, h3, h4, h5⟩ := h
  exact ⟨e0.trans h1, e3.trans h2, fun t ht => (e _ _ (by omega) (by omega)).trans (h3 t ht), fun t ht => (e _ _ (by omega) (by omega)).trans (h4 t ht), fun i hi j hj => (e _ _ (by omega) (by omega)).trans (h5 i hi j hj)⟩
theorem MZ.of {ρ : RG} {σ σ' : SS} {q : Nat} (h : MZ σ q ρ) (e : ∀ j, σ'.1 q j = σ.1 q j) : MZ σ' q ρ := by
  obtain ⟨b1, b2, b3, b4, b5⟩ := h
  exact ⟨(e _).trans b1, (e _).trans b2, fun t ht => (e _).trans (b3 t ht), fun t ht => (e _).trans (b4 t ht), fun i hi j hj => (e _).trans (b5 i hi j hj)⟩
theorem M2.of {o : Option RG} {σ σ' : SS} (h : M2 o σ) (e0 : σ'.1 143 18 = σ.1 143 18) (e : ∀ j, σ'.1 156 j = σ.1 156 j) : M2 o σ' := by
  cases o with
  | none => exact e0.trans h
  | some ρ => exact ⟨e0.trans h.1, h.2.of e⟩
theorem M3.of {l : List RG} {σ σ' : SS} (h : M3 l σ) (e0 : σ'.1 143 15 = σ.1 143 15) (e : ∀ j, σ'.1 155 j = σ.1 155 j) : M3 l σ' := by
  refine ⟨e0.trans h.1, fun k ρ hk => ?_⟩
  obtain ⟨b1, b2, b3⟩ := h.2 k ρ hk
  exact ⟨fun t ht => (e _).trans (b1 t ht), fun t ht => (e _).trans (b2 t ht), fun i hi => ⟨(e _).trans (b3 i hi).1, (e _).trans (b3 i hi).2⟩⟩
theorem M4.of {w : Nat × (Nat → Nat)} {σ σ' : SS} (h : M4 w σ) (e0 : σ'.1 143 11 = σ.1 143 11) (e : ∀ j, σ'.1 152 j = σ.1 152 j) : M4 w σ' := ⟨e0.trans h.1, fun i hi => (e _).trans (h.2 i hi)⟩
theorem M5.of {w : (Nat → Int32) × (Nat → Nat → Int32)} {σ σ' : SS} (h : M5 w σ) (e : ∀ q j, 153 ≤ q → q ≤ 154 → σ'.1 q j = σ.1 q j) : M5 w σ' := fun l hl => ⟨(e _ _ (by omega) (by omega)).trans (h l hl).1, fun i hi => (e _ _ (by omega) (by omega)).trans ((h l hl).2 i hi)⟩
theorem M6.of {f : Nat → Int32} {σ σ' : SS} (h : M6 f σ) (e : ∀ j, σ'.1 158 j = σ.1 158 j) : M6 f σ' := fun k hk => (e k).trans (h k hk)
theorem WF.n1 {A : AB} (hw : WF A) : rN A.1 ≤ 6 := hw.1.2.2.1
theorem WF.n2 {A : AB} (hw : WF A) : ∀ ρ, A.2.1 = some ρ → rN ρ ≤ 6 := fun ρ h => (hw.2.1 ρ h).2.2.1
theorem WF.n3 {A : AB} (hw : WF A) : ∀ ρ ∈ A.2.2.1, rN ρ ≤ 6 := fun ρ h => (hw.2.2.1.2 ρ h).1.2.2.1
theorem XH.of {A : AB} {σ σ' : SS} (hw : WF A) (h : XH A σ) (e : ∀ q j, q < 143 → ¬ SX q → σ'.1 q j = σ.1 q j) : XH A σ' := by
  obtain ⟨h1, h2, h3, h4, h5, h6⟩ := h
  exact ⟨h1.of hw.n1 (fun q j _ _ => e q j (by omega) (by unfold SX; omega)), h2.of hw.n2 (fun q j _ => e q j (by omega) (by unfold SX; omega)), h3.of hw.n3 (fun q j _ _ => e q j (by omega) (by unfold SX; omega)), h4.of (fun q j _ _ => e q j (by omega) (by unfold SX; omega)), h5.of (fun q j _ _ => e q j (by omega) (by unfold SX; omega)), h6.of (fun j => e _ j (by omega) (by unfold SX; omega))⟩
theorem MH.of {A : AB} {σ σ' : SS} (hw : WF A) (h : MH A σ) (e : ∀ q j, 143 ≤ q → ¬ SM q j → σ'.1 q j = σ.1 q j) : MH A σ' := by
  obtain ⟨h1, h2, h3, h4, h5, h6⟩ := h
  exact ⟨h1.of hw.n1 (e _ _ (by omega) (by unfold SM; omega)) (e _ _ (by omega) (by unfold SM; omega)) (fun q j _ _ => e q j (by omega) (by unfold SM; omega)), h2.of (e _ _ (by omega) (by unfold SM; omega)) (fun j => e _ j (by omega) (by unfold SM; omega)), h3.of (e _ _ (by omega) (by unfold SM; omega)) (fun j => e _ j (by omega) (by unfold SM; omega)), h4.of (e _ _ (by omega) (by unfold SM; omega)) (fun j => e _ j (by omega) (by unfold SM; omega)), h5.of (fun q j _ _ => e q j (by omega) (by unfold SM; omega)), h6.of (fun j => e _ j (by omega) (by unfold SM; omega))⟩
theorem XC.congr {β : Type} {f g : SS → Option (β × SS)} {A A' : AB} {r : β} (h : XC g A r A') (e : ∀ σ, XH A σ → f σ = g σ) : XC f A r A' := fun σ hσ => by rw [e σ hσ]; exact h σ hσ
theorem MC.congr {β : Type} {f g : SS → Option (β × SS)} {A A' : AB} {r : β} (h : MC g A r A') (e : ∀ σ, MH A σ → f σ = g σ) : MC f A r A' := fun σ hσ => by rw [e σ hσ]; exact h σ hσ
/-- a query: only scratch cells change -/
theorem XC.query {β : Type} {f : SS → Option (β × SS)} {A : AB} {r : β} (hw : WF A) (h : ∀ σ, XH A σ → ∃ σ', f σ = some (r, σ') ∧ FX σ σ') : XC f A r A := fun σ hσ => by
  obtain ⟨σ', h1, h2⟩ := h σ hσ
  exact ⟨σ', h1, hσ.of hw (fun q j _ h => h2 q j h), fun q j h => h2 q j (by unfold SX; omega)⟩
theorem MC.query {β : Type} {f : SS → Option (β × SS)} {A : AB} {r : β} (hw : WF A) (h : ∀ σ, MH A σ → ∃ σ', f σ = some (r, σ') ∧ FM σ σ') : MC f A r A := fun σ hσ => by
  obtain ⟨σ', h1, h2⟩ := h σ hσ
  exact ⟨σ', h1, hσ.of hw (fun q j _ h => h2 q j h), fun q j h => h2 q j (by unfold SM; omega)⟩
/-- both sides' calls put together -/
theorem both {β : Type} {f g : SS → Option (β × SS)} {A A' : AB} {r : β} {σ : SS} (hx : XH A σ) (hm : MH A σ) (hw : WF A) (hw' : WF A') (h1 : XC f A r A') (h2 : MC g A r A') : ∃ (r : β) (σ1 σ2 : SS), f σ = some (r, σ1) ∧ g σ1 = some (r, σ2) ∧ Rel σ2 := by
  obtain ⟨σ1, e1, x1, k1⟩ := h1 σ hx
  have hm1 : MH A σ1 := hm.of hw (fun q j h _ => k1 q j h)
  obtain ⟨σ2, e2, m2, k2⟩ := h2 σ1 hm1
  exact ⟨r, σ1, σ2, e1, e2, A', x1.of hw' (fun q j h _ => k2 q j h), m2, hw'⟩

/-! refusals -/
def aR (A : AB) (k : Nat) : AB := (A.1, A.2.1, A.2.2.1, A.2.2.2.1, A.2.2.2.2.1, fun j => if j = k then A.2.2.2.2.2 j + 1 else A.2.2.2.2.2 j)
theorem XC.ref {β : Type} {A : AB} (hw : WF A) (r : β) (k : Nat) : XC (fun σ => some (r, sI σ 136 k (σ.1 136 k + 1))) A r (aR A k) := fun σ h => by
  obtain ⟨h1, h2, h3, h4, h5, h6⟩ := h
  refine ⟨_, rfl, ⟨h1.of hw.n1 (fun q j _ _ => rI_q (by omega)), h2.of hw.n2 (fun q j _ => rI_q (by omega)), h3.of hw.n3 (fun q j _ _ => rI_q (by omega)), h4.of (fun q j _ _ => rI_q (by omega)), h5.of (fun q j _ _ => rI_q (by omega)), fun j hj => ?_⟩, fun q j _ => rI_q (by omega)⟩
  rw [rI_i]
  show _ = if j = k then A.2.2.2.2.2 j + 1 else A.2.2.2.2.2 j
  by_cases e : j = k
  · subst e; rw [if_pos ⟨rfl, rfl⟩, if_pos rfl, h6 j hj]
  · rw [if_neg (fun z => e z.2), if_neg e, h6 j hj]
theorem MC.ref {β : Type} {A : AB} (hw : WF A) (r : β) (k : Nat) : MC (fun σ => some (r, sI σ 158 k (σ.1 158 k + 1))) A r (aR A k) := fun σ h => by
  obtain ⟨h1, h2, h3, h4, h5, h6⟩ := h
  refine ⟨_, rfl, ⟨h1.of hw.n1 (rI_q (by omega)) (rI_q (by omega)) (fun q j _ _ => rI_q (by omega)), h2.of (rI_q (by omega)) (fun j => rI_q (by omega)), h3.of (rI_q (by omega)) (fun j => rI_q (by omega)), h4.of (rI_q (by omega)) (fun j => rI_q (by omega)), h5.of (fun q j _ _ => rI_q (by omega)), fun j hj => ?_⟩, fun q j _ => rI_q (by omega)⟩
  rw [rI_i]
  show _ = if j = k then A.2.2.2.2.2 j + 1 else A.2.2.2.2.2 j
  by_cases e : j = k
  · subst e; rw [if_pos ⟨rfl, rfl⟩, if_pos rfl, h6 j hj]
  · rw [if_neg (fun z => e z.2), if_neg e, h6 j hj]
theorem x_ref (σ : SS) : f_X8_refuse 0 (-1) σ = some (-1, sI σ 136 1 (σ.1 136 1 + 1)) ∧ f_X8_refuse 0 (-2) σ = some (-2, sI σ 136 2 (σ.1 136 2 + 1)) ∧ f_X8_refuse 0 (-3) σ = some (-3, sI σ 136 3 (σ.1 136 3 + 1)) ∧ f_X8_refuse 0 (-4) σ = some (-4, sI σ 136 4 (σ.1 136 4 + 1)) ∧ f_X8_refuse 0 (-6) σ = some (-6, sI σ 136 6 (σ.1 136 6 + 1)) ∧ f_X8_refuse 0 (-11) σ = some (-11, σ) ∧ f_X8_refuse 0 (-13) σ = some (-13, σ) ∧ f_X8_refuse 0 (-14) σ = some (-14, σ) := ⟨rfl, rfl, rfl, rfl, rfl, rfl, rfl, rfl⟩
theorem m_ref (σ : SS) : f_X9_no 143 (-1) σ = some (-1, sI σ 158 1 (σ.1 158 1 + 1)) ∧ f_X9_no 143 (-2) σ = some (-2, sI σ 158 2 (σ.1 158 2 + 1)) ∧ f_X9_no 143 (-3) σ = some (-3, sI σ 158 3 (σ.1 158 3 + 1)) ∧ f_X9_no 143 (-4) σ = some (-4, sI σ 158 4 (σ.1 158 4 + 1)) ∧ f_X9_no 143 (-6) σ = some (-6, sI σ 158 6 (σ.1 158 6 + 1)) := ⟨rfl, rfl, rfl, rfl, rfl⟩
theorem both_ref {β : Type} {f g : SS → Option (β × SS)} {A : AB} {σ : SS} (r : β) (k : Nat) (hx : XH A σ) (hm : MH A σ) (hw : WF A) (h1 : ∀ τ, XH A τ → f τ = some (r, sI τ 136 k (τ.1 136 k + 1))) (h2 : ∀ τ, MH A τ → g τ = some (r, sI τ 158 k (τ.1 158 k + 1))) : ∃ (r : β) (σ1 σ2 : SS), f σ = some (r, σ1) ∧ g σ1 = some (r, σ2) ∧ Rel σ2 :=
  both (A' := aR A k) hx hm hw hw ((XC.ref hw r k).congr h1) ((MC.ref hw r k).congr h2)
theorem both_same {β : Type} {f g : SS → Option (β × SS)} {A : AB} {σ : SS} (r : β) (hx : XH A σ) (hm : MH A σ) (hw : WF A) (h1 : ∀ τ, XH A τ → ∃ τ', f τ = some (r, τ') ∧ FX τ τ') (h2 : ∀ τ, MH A τ → ∃ τ', g τ = some (r, τ') ∧ FM τ τ') : ∃ (r : β) (σ1 σ2 : SS), f σ = some (r, σ1) ∧ g σ1 = some (r, σ2) ∧ Rel σ2 :=
  both hx hm hw hw (XC.query hw h1) (MC.query hw h2)
