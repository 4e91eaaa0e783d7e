/-! bits of a long, links -/
def lb (x : Int64) (b : Nat) : Bool := x.toBitVec.getLsbD b
theorem lb_0 (b : Nat) : lb 0 b = false := by
  show (0#64).getLsbD b = false
  simp
theorem lb_sh : ∀ m, m < 64 → ((1 : Int64) <<< ((nI m).toInt64 &&& 63)).toBitVec = BitVec.twoPow 64 m := by decide +kernel
theorem lb_sc : ∀ m, m < 64 → ((nI m).toInt64.toUInt64 &&& Int64.toUInt64 63).toNat = m := by decide +kernel
theorem lb_or {x : Int64} {m b : Nat} (hm : m < 64) : lb (x ||| ((1 : Int64) <<< ((nI m).toInt64 &&& 63))) b = (lb x b || decide (m = b)) := by
  unfold lb
  rw [Int64.toBitVec_or, BitVec.getLsbD_or, lb_sh m hm, BitVec.getLsbD_twoPow]
  simp [hm]
theorem lb_u {w : Int64} {s : UInt64} {j : Nat} (hj : j < 64) (hs : s.toNat = j) : ((w.toUInt64 >>> s).toInt64 &&& 1) = 1 ↔ lb w j = true := by
  have e : (w.toUInt64 >>> s).toInt64.toBitVec = w.toBitVec >>> j := by
    apply BitVec.eq_of_toNat_eq
    show (w.toUInt64 >>> s).toNat = _
    rw [UInt64.toNat_shiftRight, hs, Nat.mod_eq_of_lt hj, BitVec.toNat_ushiftRight]
    rfl
  rw [← Int64.toBitVec_inj, Int64.toBitVec_and, e]
  show w.toBitVec >>> j &&& 1#64 = 1#64 ↔ w.toBitVec.getLsbD j = true
  constructor
  · intro h
    have t := congrArg (fun x => x.getLsbD 0) h
    simpa using t
  · intro h
    apply BitVec.eq_of_getLsbD_eq
    intro i hi
    cases i with
    | zero => simp [h]
    | succ i => simp
theorem lg0 {x y : Int64} : lg_cmp x y = 0 ↔ x = y := by
  unfold lg_cmp
  constructor
  · intro h
    by_cases h1 : x > y
    · rw [if_pos h1] at h; exact absurd h (by decide)
    · rw [if_neg h1] at h
      by_cases h2 : x = y
      · exact h2
      · rw [if_neg h2] at h; exact absurd h (by decide)
  · rintro rfl
    rw [if_neg (Int64.lt_irrefl), if_pos rfl]
theorem maxN {a b : Nat} (ha : a ≤ 2000000) (hb : b ≤ 2000000) : f_J9_max_7cf53 (nI a) (nI b) = nI (max a b) := by
  unfold f_J9_max_7cf53
  by_cases e : a < b
  · rw [if_pos (by rw [lt_nI (by omega) (by omega)]; omega), Nat.max_eq_right (by omega)]
  · rw [if_neg (by rw [lt_nI (by omega) (by omega)]; omega), Nat.max_eq_left (by omega)]
theorem x_isLink {d a b : Nat} {σ : SS} (hd : d = 116 ∨ d = 122) (ha : a < 60) (hb : b < 60) : f_X0_isLink d (nI a) (nI b) σ = some (if lb (σ.2 (d + 5) (min a b)) (max a b) = true then 1 else 0) := by
  obtain ⟨r1, r2⟩ := rid_d hd
  have hm : min a b < 60 := by omega
  have hM : max a b < 64 := by omega
  unfold f_X0_isLink
  simp (disch := omega) only [r1, r2, minN, maxN, cl_nI, ck_i, lg0, lb_u hM (lb_sc _ hM)]
  split <;> rfl
/-- an arc's two teeth, the lesser first; whether one of the first i arcs has them; how many unlike ones these are -/
def lkP (a b x y : Nat) : Bool := decide (min a b = x) && decide (max a b = y)
def lk (bg : Nat → Nat) : Nat → Nat → Nat → Bool
  | 0, _, _ => false
  | i + 1, x, y => lk bg i x y || lkP (bg i) (bg (i + 1)) x y
def nlk (bg : Nat → Nat) : Nat → Nat
  | 0 => 0
  | i + 1 => if lk bg i (min (bg i) (bg (i + 1))) (max (bg i) (bg (i + 1))) = true then nlk bg i else nlk bg i + 1
def LX (d : Nat) (bg : Nat → Nat) (i : Nat) (σ : SS) : Prop := σ.1 d 4 = nI (nlk bg i) ∧ ∀ x, x < 60 → ∀ y, lb (σ.2 (d + 5) x) y = lk bg i x y
theorem x_addLink {d i : Nat} {bg : Nat → Nat} {σ : SS} (hd : d = 116 ∨ d = 122) (hb : ∀ i, bg i < 60) (h : LX d bg i σ) : ∃ σ', f_X0_addLink d (nI (bg i)) (nI (bg (i + 1))) σ = some σ' ∧ LX d bg (i + 1) σ' ∧ (∀ q j, ¬ (q = d ∧ j = 4) → σ'.1 q j = σ.1 q j) ∧ ∀ q j, ¬ q = d + 5 → σ'.2 q j = σ.2 q j := by
  obtain ⟨r1, r2⟩ := rid_d hd
  have h1 := hb i
  have h2 := hb (i + 1)
  have hm : min (bg i) (bg (i + 1)) < 60 := by omega
  have hM : max (bg i) (bg (i + 1)) < 64 := by omega
  have key := h.2 _ hm (max (bg i) (bg (i + 1)))
  unfold f_X0_addLink
  rw [x_isLink hd h1 h2, Option.bind_some, key]
  by_cases e : lk bg i (min (bg i) (bg (i + 1))) (max (bg i) (bg (i + 1))) = true
  · rw [if_pos e, if_neg one0]
    refine ⟨σ, rfl, ⟨?_, fun x hx y => ?_⟩, fun _ _ _ => rfl, fun _ _ _ => rfl⟩
    · unfold nlk
      rw [if_pos e]
      exact h.1
    · unfold lk lkP
      rw [h.2 x hx y]
      by_cases ex : min (bg i) (bg (i + 1)) = x
      · by_cases ey : max (bg i) (bg (i + 1)) = y
        · rw [← ex, ← ey, e]; rfl
        · simp [ey]
      · simp [ex]
  · rw [if_neg e, if_pos rfl]
    simp (disch := omega) only [r1, r2, minN, maxN, cl_nI, ck_i]
    refine ⟨_, rfl, ⟨?_, fun x hx y => ?_⟩, fun q j hq => ?_, fun q j hq => ?_⟩
    · rw [rI_s]
      unfold nlk
      rw [if_neg e]
      show σ.1 d 4 + 1 = _
      rw [h.1, ol_add]
    · unfold lk lkP
      by_cases ex : x = min (bg i) (bg (i + 1))
      · have e0 : (sI (sL σ (d + 5) (min (bg i) (bg (i + 1))) (σ.2 (d + 5) (min (bg i) (bg (i + 1))) ||| ((1 : Int64) <<< ((nI (max (bg i) (bg (i + 1)))).toInt64 &&& 63)))) d 4 ((sL σ (d + 5) (min (bg i) (bg (i + 1))) (σ.2 (d + 5) (min (bg i) (bg (i + 1))) ||| ((1 : Int64) <<< ((nI (max (bg i) (bg (i + 1)))).toInt64 &&& 63)))).1 d 4 + 1)).2 (d + 5) x = (σ.2 (d + 5) (min (bg i) (bg (i + 1))) ||| ((1 : Int64) <<< ((nI (max (bg i) (bg (i + 1)))).toInt64 &&& 63))) := by
          simp [sI, sL, ex]
        rw [e0, lb_or hM, h.2 _ hm y, ← ex]
        simp
      · have e0 : (sI (sL σ (d + 5) (min (bg i) (bg (i + 1))) (σ.2 (d + 5) (min (bg i) (bg (i + 1))) ||| ((1 : Int64) <<< ((nI (max (bg i) (bg (i + 1)))).toInt64 &&& 63)))) d 4 ((sL σ (d + 5) (min (bg i) (bg (i + 1))) (σ.2 (d + 5) (min (bg i) (bg (i + 1))) ||| ((1 : Int64) <<< ((nI (max (bg i) (bg (i + 1)))).toInt64 &&& 63)))).1 d 4 + 1)).2 (d + 5) x = σ.2 (d + 5) x := by
          simp [sI, sL, ex]
        rw [e0, h.2 x hx y]
        have ex2 : ¬ min (bg i) (bg (i + 1)) = x := fun z => ex z.symm
        rw [decide_eq_false ex2]
        simp
    · rw [rI_i, if_neg hq]; rfl
    · simp [sI, sL, hq]
