/-! The start: the first world (by wip/whole/gen_start.py) -/
def sg0I (q : Nat) : Nat → Int32 := if kd q = 3 then (fun j => if j = 0 then 24 else 0) else if kd q = 6 then (fun j => if j = 1 then 1 else if j = 3 then 1 else 0) else if kd q = 4 then (fun j => if j = 0 then -1 else 0) else if q = 143 then (fun j => if j = 0 then 24 else 0) else if q = 154 then upd (upd (upd (fun _ => 0) 0 (-1)) 1 (-1)) 2 (-1) else fun _ => 0
def sg0 : SS := (sg0I, fun _ _ => 0)
theorem rf_out {q j : Nat} (h : kd q = 12 ∨ kd q = 13 ∨ kd q = 14) (hj : ln q ≤ j) : rf q j = none := by
  have hq : q < NC := by rcases h with h | h | h <;> exact kd_lt h (by decide)
  have hlen : ∀ q, q < NC → (kd q = 12 ∨ kd q = 13 ∨ kd q = 14) → (match tabL[q]? with | some t => t.2.2.length | none => 0) = ln q := by decide +kernel
  have h1 := hlen q hq h
  unfold rf
  unfold ln at hj h1
  split at h1
  · rename_i t ht
    simp only [ht] at hj h1 ⊢
    rw [List.getD_eq_getElem?_getD, List.getElem?_eq_none (by omega)]
    rfl
  · rename_i ht
    simp only [ht]
theorem lt_8 {j : Nat} {p : Nat → Prop} (h0 : p 0) (h1 : p 1) (h2 : p 2) (h3 : p 3) (h4 : p 4) (h5 : p 5) (h6 : p 6) (h7 : p 7) (hj : j < 8) : p j := by
  rcases (show j = 0 ∨ j = 1 ∨ j = 2 ∨ j = 3 ∨ j = 4 ∨ j = 5 ∨ j = 6 ∨ j = 7 by omega) with rfl | rfl | rfl | rfl | rfl | rfl | rfl | rfl <;> assumption
theorem ce_0 (ad : Nat → Nat) (D : va_G × (Nat → ClassId)) : cellE (ad, D) sg0 0 = .inr (7, [.ref (ad 1), .ref (ad 11), .ref (ad 21), .int 0, .ref (ad 31), .ref (ad 113), .ref (ad 115), .ref (ad 116), .ref (ad 122), .ref (ad 128), .ref (ad 135), .ref (ad 136)]) := rfl
theorem ce_1 (ad : Nat → Nat) (D : va_G × (Nat → ClassId)) : cellE (ad, D) sg0 1 = .inr (3, [.int 24, .int 0, .ref (ad 2), .ref (ad 3), .ref (ad 4)]) := rfl
theorem ce_2 (ad : Nat → Nat) (D : va_G × (Nat → ClassId)) : cellE (ad, D) sg0 2 = .inl (D.2 9, 60, .inl (fun _ => 0)) := rfl
theorem ce_3 (ad : Nat → Nat) (D : va_G × (Nat → ClassId)) : cellE (ad, D) sg0 3 = .inl (D.2 9, 60, .inl (fun _ => 0)) := rfl
theorem ce_4 (ad : Nat → Nat) (D : va_G × (Nat → ClassId)) : cellE (ad, D) sg0 4 = .inl (D.2 13, 6, .inr (.inr (.inr (.inr (va_up (va_up (va_up (va_up (va_up (va_up (fun _ => none) 0 (some (ad 5))) 1 (some (ad 6))) 2 (some (ad 7))) 3 (some (ad 8))) 4 (some (ad 9))) 5 (some (ad 10))))))) := by
  rw [ce_ref (c := 13) (by decide +kernel) (by decide)]
  congr 7
  funext j
  rcases Nat.lt_or_ge j 6 with hj | hj
  · rcases (show j = 0 ∨ j = 1 ∨ j = 2 ∨ j = 3 ∨ j = 4 ∨ j = 5 by omega) with rfl | rfl | rfl | rfl | rfl | rfl <;> rfl
  · rw [rf_out (by decide +kernel) (show ln 4 ≤ j from hj)]
    have hne : ∀ i, i < 6 → ¬ j = i := fun i hi => by omega
    simp [va_up, hne 0 (by decide), hne 1 (by decide), hne 2 (by decide), hne 3 (by decide), hne 4 (by decide), hne 5 (by decide)]
theorem ce_5 (ad : Nat → Nat) (D : va_G × (Nat → ClassId)) : cellE (ad, D) sg0 5 = .inr (6, [.int 0, .int 1, .int 0, .int 1, .int 0, .int 0]) := rfl
theorem ce_6 (ad : Nat → Nat) (D : va_G × (Nat → ClassId)) : cellE (ad, D) sg0 6 = .inr (6, [.int 0, .int 1, .int 0, .int 1, .int 0, .int 0]) := rfl
theorem ce_7 (ad : Nat → Nat) (D : va_G × (Nat → ClassId)) : cellE (ad, D) sg0 7 = .inr (6, [.int 0, .int 1, .int 0, .int 1, .int 0, .int 0]) := rfl
theorem ce_8 (ad : Nat → Nat) (D : va_G × (Nat → ClassId)) : cellE (ad, D) sg0 8 = .inr (6, [.int 0, .int 1, .int 0, .int 1, .int 0, .int 0]) := rfl
theorem ce_9 (ad : Nat → Nat) (D : va_G × (Nat → ClassId)) : cellE (ad, D) sg0 9 = .inr (6, [.int 0, .int 1, .int 0, .int 1, .int 0, .int 0]) := rfl
theorem ce_10 (ad : Nat → Nat) (D : va_G × (Nat → ClassId)) : cellE (ad, D) sg0 10 = .inr (6, [.int 0, .int 1, .int 0, .int 1, .int 0, .int 0]) := rfl
theorem ce_11 (ad : Nat → Nat) (D : va_G × (Nat → ClassId)) : cellE (ad, D) sg0 11 = .inr (3, [.int 24, .int 0, .ref (ad 12), .ref (ad 13), .ref (ad 14)]) := rfl
theorem ce_12 (ad : Nat → Nat) (D : va_G × (Nat → ClassId)) : cellE (ad, D) sg0 12 = .inl (D.2 9, 60, .inl (fun _ => 0)) := rfl
theorem ce_13 (ad : Nat → Nat) (D : va_G × (Nat → ClassId)) : cellE (ad, D) sg0 13 = .inl (D.2 9, 60, .inl (fun _ => 0)) := rfl
theorem ce_14 (ad : Nat → Nat) (D : va_G × (Nat → ClassId)) : cellE (ad, D) sg0 14 = .inl (D.2 13, 6, .inr (.inr (.inr (.inr (va_up (va_up (va_up (va_up (va_up (va_up (fun _ => none) 0 (some (ad 15))) 1 (some (ad 16))) 2 (some (ad 17))) 3 (some (ad 18))) 4 (some (ad 19))) 5 (some (ad 20))))))) := by
  rw [ce_ref (c := 13) (by decide +kernel) (by decide)]
  congr 7
  funext j
  rcases Nat.lt_or_ge j 6 with hj | hj
  · rcases (show j = 0 ∨ j = 1 ∨ j = 2 ∨ j = 3 ∨ j = 4 ∨ j = 5 by omega) with rfl | rfl | rfl | rfl | rfl | rfl <;> rfl
  · rw [rf_out (by decide +kernel) (show ln 14 ≤ j from hj)]
    have hne : ∀ i, i < 6 → ¬ j = i := fun i hi => by omega
    simp [va_up, hne 0 (by decide), hne 1 (by decide), hne 2 (by decide), hne 3 (by decide), hne 4 (by decide), hne 5 (by decide)]
theorem ce_15 (ad : Nat → Nat) (D : va_G × (Nat → ClassId)) : cellE (ad, D) sg0 15 = .inr (6, [.int 0, .int 1, .int 0, .int 1, .int 0, .int 0]) := rfl
theorem ce_16 (ad : Nat → Nat) (D : va_G × (Nat → ClassId)) : cellE (ad, D) sg0 16 = .inr (6, [.int 0, .int 1, .int 0, .int 1, .int 0, .int 0]) := rfl
theorem ce_17 (ad : Nat → Nat) (D : va_G × (Nat → ClassId)) : cellE (ad, D) sg0 17 = .inr (6, [.int 0, .int 1, .int 0, .int 1, .int 0, .int 0]) := rfl
theorem ce_18 (ad : Nat → Nat) (D : va_G × (Nat → ClassId)) : cellE (ad, D) sg0 18 = .inr (6, [.int 0, .int 1, .int 0, .int 1, .int 0, .int 0]) := rfl
theorem ce_19 (ad : Nat → Nat) (D : va_G × (Nat → ClassId)) : cellE (ad, D) sg0 19 = .inr (6, [.int 0, .int 1, .int 0, .int 1, .int 0, .int 0]) := rfl
theorem ce_20 (ad : Nat → Nat) (D : va_G × (Nat → ClassId)) : cellE (ad, D) sg0 20 = .inr (6, [.int 0, .int 1, .int 0, .int 1, .int 0, .int 0]) := rfl
theorem ce_21 (ad : Nat → Nat) (D : va_G × (Nat → ClassId)) : cellE (ad, D) sg0 21 = .inr (3, [.int 24, .int 0, .ref (ad 22), .ref (ad 23), .ref (ad 24)]) := rfl
theorem ce_22 (ad : Nat → Nat) (D : va_G × (Nat → ClassId)) : cellE (ad, D) sg0 22 = .inl (D.2 9, 60, .inl (fun _ => 0)) := rfl
theorem ce_23 (ad : Nat → Nat) (D : va_G × (Nat → ClassId)) : cellE (ad, D) sg0 23 = .inl (D.2 9, 60, .inl (fun _ => 0)) := rfl
theorem ce_24 (ad : Nat → Nat) (D : va_G × (Nat → ClassId)) : cellE (ad, D) sg0 24 = .inl (D.2 13, 6, .inr (.inr (.inr (.inr (va_up (va_up (va_up (va_up (va_up (va_up (fun _ => none) 0 (some (ad 25))) 1 (some (ad 26))) 2 (some (ad 27))) 3 (some (ad 28))) 4 (some (ad 29))) 5 (some (ad 30))))))) := by
  rw [ce_ref (c := 13) (by decide +kernel) (by decide)]
  congr 7
  funext j
  rcases Nat.lt_or_ge j 6 with hj | hj
  · rcases (show j = 0 ∨ j = 1 ∨ j = 2 ∨ j = 3 ∨ j = 4 ∨ j = 5 by omega) with rfl | rfl | rfl | rfl | rfl | rfl <;> rfl
  · rw [rf_out (by decide +kernel) (show ln 24 ≤ j from hj)]
    have hne : ∀ i, i < 6 → ¬ j = i := fun i hi => by omega
    simp [va_up, hne 0 (by decide), hne 1 (by decide), hne 2 (by decide), hne 3 (by decide), hne 4 (by decide), hne 5 (by decide)]
theorem ce_25 (ad : Nat → Nat) (D : va_G × (Nat → ClassId)) : cellE (ad, D) sg0 25 = .inr (6, [.int 0, .int 1, .int 0, .int 1, .int 0, .int 0]) := rfl
theorem ce_26 (ad : Nat → Nat) (D : va_G × (Nat → ClassId)) : cellE (ad, D) sg0 26 = .inr (6, [.int 0, .int 1, .int 0, .int 1, .int 0, .int 0]) := rfl
theorem ce_27 (ad : Nat → Nat) (D : va_G × (Nat → ClassId)) : cellE (ad, D) sg0 27 = .inr (6, [.int 0, .int 1, .int 0, .int 1, .int 0, .int 0]) := rfl
theorem ce_28 (ad : Nat → Nat) (D : va_G × (Nat → ClassId)) : cellE (ad, D) sg0 28 = .inr (6, [.int 0, .int 1, .int 0, .int 1, .int 0, .int 0]) := rfl
theorem ce_29 (ad : Nat → Nat) (D : va_G × (Nat → ClassId)) : cellE (ad, D) sg0 29 = .inr (6, [.int 0, .int 1, .int 0, .int 1, .int 0, .int 0]) := rfl
theorem ce_30 (ad : Nat → Nat) (D : va_G × (Nat → ClassId)) : cellE (ad, D) sg0 30 = .inr (6, [.int 0, .int 1, .int 0, .int 1, .int 0, .int 0]) := rfl
theorem ce_31 (ad : Nat → Nat) (D : va_G × (Nat → ClassId)) : cellE (ad, D) sg0 31 = .inr (2, [.ref (ad 32), .int 0, .int 0]) := rfl
theorem ce_32 (ad : Nat → Nat) (D : va_G × (Nat → ClassId)) : cellE (ad, D) sg0 32 = .inl (D.2 12, 8, .inr (.inr (.inr (.inr (va_up (va_up (va_up (va_up (va_up (va_up (va_up (va_up (fun _ => none) 0 (some (ad 33))) 1 (some (ad 43))) 2 (some (ad 53))) 3 (some (ad 63))) 4 (some (ad 73))) 5 (some (ad 83))) 6 (some (ad 93))) 7 (some (ad 103))))))) := by
  rw [ce_ref (c := 12) (by decide +kernel) (by decide)]
  congr 7
  funext j
  rcases Nat.lt_or_ge j 8 with hj | hj
  · rcases (show j = 0 ∨ j = 1 ∨ j = 2 ∨ j = 3 ∨ j = 4 ∨ j = 5 ∨ j = 6 ∨ j = 7 by omega) with rfl | rfl | rfl | rfl | rfl | rfl | rfl | rfl <;> rfl
  · rw [rf_out (by decide +kernel) (show ln 32 ≤ j from hj)]
    have hne : ∀ i, i < 8 → ¬ j = i := fun i hi => by omega
    simp [va_up, hne 0 (by decide), hne 1 (by decide), hne 2 (by decide), hne 3 (by decide), hne 4 (by decide), hne 5 (by decide), hne 6 (by decide), hne 7 (by decide)]
theorem ce_33 (ad : Nat → Nat) (D : va_G × (Nat → ClassId)) : cellE (ad, D) sg0 33 = .inr (3, [.int 24, .int 0, .ref (ad 34), .ref (ad 35), .ref (ad 36)]) := rfl
theorem ce_34 (ad : Nat → Nat) (D : va_G × (Nat → ClassId)) : cellE (ad, D) sg0 34 = .inl (D.2 9, 60, .inl (fun _ => 0)) := rfl
theorem ce_35 (ad : Nat → Nat) (D : va_G × (Nat → ClassId)) : cellE (ad, D) sg0 35 = .inl (D.2 9, 60, .inl (fun _ => 0)) := rfl
theorem ce_36 (ad : Nat → Nat) (D : va_G × (Nat → ClassId)) : cellE (ad, D) sg0 36 = .inl (D.2 13, 6, .inr (.inr (.inr (.inr (va_up (va_up (va_up (va_up (va_up (va_up (fun _ => none) 0 (some (ad 37))) 1 (some (ad 38))) 2 (some (ad 39))) 3 (some (ad 40))) 4 (some (ad 41))) 5 (some (ad 42))))))) := by
  rw [ce_ref (c := 13) (by decide +kernel) (by decide)]
  congr 7
  funext j
  rcases Nat.lt_or_ge j 6 with hj | hj
  · rcases (show j = 0 ∨ j = 1 ∨ j = 2 ∨ j = 3 ∨ j = 4 ∨ j = 5 by omega) with rfl | rfl | rfl | rfl | rfl | rfl <;> rfl
  · rw [rf_out (by decide +kernel) (show ln 36 ≤ j from hj)]
    have hne : ∀ i, i < 6 → ¬ j = i := fun i hi => by omega
    simp [va_up, hne 0 (by decide), hne 1 (by decide), hne 2 (by decide), hne 3 (by decide), hne 4 (by decide), hne 5 (by decide)]
theorem ce_37 (ad : Nat → Nat) (D : va_G × (Nat → ClassId)) : cellE (ad, D) sg0 37 = .inr (6, [.int 0, .int 1, .int 0, .int 1, .int 0, .int 0]) := rfl
theorem ce_38 (ad : Nat → Nat) (D : va_G × (Nat → ClassId)) : cellE (ad, D) sg0 38 = .inr (6, [.int 0, .int 1, .int 0, .int 1, .int 0, .int 0]) := rfl
theorem ce_39 (ad : Nat → Nat) (D : va_G × (Nat → ClassId)) : cellE (ad, D) sg0 39 = .inr (6, [.int 0, .int 1, .int 0, .int 1, .int 0, .int 0]) := rfl
theorem ce_40 (ad : Nat → Nat) (D : va_G × (Nat → ClassId)) : cellE (ad, D) sg0 40 = .inr (6, [.int 0, .int 1, .int 0, .int 1, .int 0, .int 0]) := rfl
theorem ce_41 (ad : Nat → Nat) (D : va_G × (Nat → ClassId)) : cellE (ad, D) sg0 41 = .inr (6, [.int 0, .int 1, .int 0, .int 1, .int 0, .int 0]) := rfl
theorem ce_42 (ad : Nat → Nat) (D : va_G × (Nat → ClassId)) : cellE (ad, D) sg0 42 = .inr (6, [.int 0, .int 1, .int 0, .int 1, .int 0, .int 0]) := rfl
theorem ce_43 (ad : Nat → Nat) (D : va_G × (Nat → ClassId)) : cellE (ad, D) sg0 43 = .inr (3, [.int 24, .int 0, .ref (ad 44), .ref (ad 45), .ref (ad 46)]) := rfl
theorem ce_44 (ad : Nat → Nat) (D : va_G × (Nat → ClassId)) : cellE (ad, D) sg0 44 = .inl (D.2 9, 60, .inl (fun _ => 0)) := rfl
theorem ce_45 (ad : Nat → Nat) (D : va_G × (Nat → ClassId)) : cellE (ad, D) sg0 45 = .inl (D.2 9, 60, .inl (fun _ => 0)) := rfl
theorem ce_46 (ad : Nat → Nat) (D : va_G × (Nat → ClassId)) : cellE (ad, D) sg0 46 = .inl (D.2 13, 6, .inr (.inr (.inr (.inr (va_up (va_up (va_up (va_up (va_up (va_up (fun _ => none) 0 (some (ad 47))) 1 (some (ad 48))) 2 (some (ad 49))) 3 (some (ad 50))) 4 (some (ad 51))) 5 (some (ad 52))))))) := by
  rw [ce_ref (c := 13) (by decide +kernel) (by decide)]
  congr 7
  funext j
  rcases Nat.lt_or_ge j 6 with hj | hj
  · rcases (show j = 0 ∨ j = 1 ∨ j = 2 ∨ j = 3 ∨ j = 4 ∨ j = 5 by omega) with rfl | rfl | rfl | rfl | rfl | rfl <;> rfl
  · rw [rf_out (by decide +kernel) (show ln 46 ≤ j from hj)]
    have hne : ∀ i, i < 6 → ¬ j = i := fun i hi => by omega
    simp [va_up, hne 0 (by decide), hne 1 (by decide), hne 2 (by decide), hne 3 (by decide), hne 4 (by decide), hne 5 (by decide)]
theorem ce_47 (ad : Nat → Nat) (D : va_G × (Nat → ClassId)) : cellE (ad, D) sg0 47 = .inr (6, [.int 0, .int 1, .int 0, .int 1, .int 0, .int 0]) := rfl
theorem ce_48 (ad : Nat → Nat) (D : va_G × (Nat → ClassId)) : cellE (ad, D) sg0 48 = .inr (6, [.int 0, .int 1, .int 0, .int 1, .int 0, .int 0]) := rfl
theorem ce_49 (ad : Nat → Nat) (D : va_G × (Nat → ClassId)) : cellE (ad, D) sg0 49 = .inr (6, [.int 0, .int 1, .int 0, .int 1, .int 0, .int 0]) := rfl
theorem ce_50 (ad : Nat → Nat) (D : va_G × (Nat → ClassId)) : cellE (ad, D) sg0 50 = .inr (6, [.int 0, .int 1, .int 0, .int 1, .int 0, .int 0]) := rfl
theorem ce_51 (ad : Nat → Nat) (D : va_G × (Nat → ClassId)) : cellE (ad, D) sg0 51 = .inr (6, [.int 0, .int 1, .int 0, .int 1, .int 0, .int 0]) := rfl
theorem ce_52 (ad : Nat → Nat) (D : va_G × (Nat → ClassId)) : cellE (ad, D) sg0 52 = .inr (6, [.int 0, .int 1, .int 0, .int 1, .int 0, .int 0]) := rfl
theorem ce_53 (ad : Nat → Nat) (D : va_G × (Nat → ClassId)) : cellE (ad, D) sg0 53 = .inr (3, [.int 24, .int 0, .ref (ad 54), .ref (ad 55), .ref (ad 56)]) := rfl
theorem ce_54 (ad : Nat → Nat) (D : va_G × (Nat → ClassId)) : cellE (ad, D) sg0 54 = .inl (D.2 9, 60, .inl (fun _ => 0)) := rfl
theorem ce_55 (ad : Nat → Nat) (D : va_G × (Nat → ClassId)) : cellE (ad, D) sg0 55 = .inl (D.2 9, 60, .inl (fun _ => 0)) := rfl
theorem ce_56 (ad : Nat → Nat) (D : va_G × (Nat → ClassId)) : cellE (ad, D) sg0 56 = .inl (D.2 13, 6, .inr (.inr (.inr (.inr (va_up (va_up (va_up (va_up (va_up (va_up (fun _ => none) 0 (some (ad 57))) 1 (some (ad 58))) 2 (some (ad 59))) 3 (some (ad 60))) 4 (some (ad 61))) 5 (some (ad 62))))))) := by
  rw [ce_ref (c := 13) (by decide +kernel) (by decide)]
  congr 7
  funext j
  rcases Nat.lt_or_ge j 6 with hj | hj
  · rcases (show j = 0 ∨ j = 1 ∨ j = 2 ∨ j = 3 ∨ j = 4 ∨ j = 5 by omega) with rfl | rfl | rfl | rfl | rfl | rfl <;> rfl
  · rw [rf_out (by decide +kernel) (show ln 56 ≤ j from hj)]
    have hne : ∀ i, i < 6 → ¬ j = i := fun i hi => by omega
    simp [va_up, hne 0 (by decide), hne 1 (by decide), hne 2 (by decide), hne 3 (by decide), hne 4 (by decide), hne 5 (by decide)]
theorem ce_57 (ad : Nat → Nat) (D : va_G × (Nat → ClassId)) : cellE (ad, D) sg0 57 = .inr (6, [.int 0, .int 1, .int 0, .int 1, .int 0, .int 0]) := rfl
theorem ce_58 (ad : Nat → Nat) (D : va_G × (Nat → ClassId)) : cellE (ad, D) sg0 58 = .inr (6, [.int 0, .int 1, .int 0, .int 1, .int 0, .int 0]) := rfl
theorem ce_59 (ad : Nat → Nat) (D : va_G × (Nat → ClassId)) : cellE (ad, D) sg0 59 = .inr (6, [.int 0, .int 1, .int 0, .int 1, .int 0, .int 0]) := rfl
theorem ce_60 (ad : Nat → Nat) (D : va_G × (Nat → ClassId)) : cellE (ad, D) sg0 60 = .inr (6, [.int 0, .int 1, .int 0, .int 1, .int 0, .int 0]) := rfl
theorem ce_61 (ad : Nat → Nat) (D : va_G × (Nat → ClassId)) : cellE (ad, D) sg0 61 = .inr (6, [.int 0, .int 1, .int 0, .int 1, .int 0, .int 0]) := rfl
theorem ce_62 (ad : Nat → Nat) (D : va_G × (Nat → ClassId)) : cellE (ad, D) sg0 62 = .inr (6, [.int 0, .int 1, .int 0, .int 1, .int 0, .int 0]) := rfl
theorem ce_63 (ad : Nat → Nat) (D : va_G × (Nat → ClassId)) : cellE (ad, D) sg0 63 = .inr (3, [.int 24, .int 0, .ref (ad 64), .ref (ad 65), .ref (ad 66)]) := rfl
theorem ce_64 (ad : Nat → Nat) (D : va_G × (Nat → ClassId)) : cellE (ad, D) sg0 64 = .inl (D.2 9, 60, .inl (fun _ => 0)) := rfl
theorem ce_65 (ad : Nat → Nat) (D : va_G × (Nat → ClassId)) : cellE (ad, D) sg0 65 = .inl (D.2 9, 60, .inl (fun _ => 0)) := rfl
theorem ce_66 (ad : Nat → Nat) (D : va_G × (Nat → ClassId)) : cellE (ad, D) sg0 66 = .inl (D.2 13, 6, .inr (.inr (.inr (.inr (va_up (va_up (va_up (va_up (va_up (va_up (fun _ => none) 0 (some (ad 67))) 1 (some (ad 68))) 2 (some (ad 69))) 3 (some (ad 70))) 4 (some (ad 71))) 5 (some (ad 72))))))) := by
  rw [ce_ref (c := 13) (by decide +kernel) (by decide)]
  congr 7
  funext j
  rcases Nat.lt_or_ge j 6 with hj | hj
  · rcases (show j = 0 ∨ j = 1 ∨ j = 2 ∨ j = 3 ∨ j = 4 ∨ j = 5 by omega) with rfl | rfl | rfl | rfl | rfl | rfl <;> rfl
  · rw [rf_out (by decide +kernel) (show ln 66 ≤ j from hj)]
    have hne : ∀ i, i < 6 → ¬ j = i := fun i hi => by omega
    simp [va_up, hne 0 (by decide), hne 1 (by decide), hne 2 (by decide), hne 3 (by decide), hne 4 (by decide), hne 5 (by decide)]
theorem ce_67 (ad : Nat → Nat) (D : va_G × (Nat → ClassId)) : cellE (ad, D) sg0 67 = .inr (6, [.int 0, .int 1, .int 0, .int 1, .int 0, .int 0]) := rfl
theorem ce_68 (ad : Nat → Nat) (D : va_G × (Nat → ClassId)) : cellE (ad, D) sg0 68 = .inr (6, [.int 0, .int 1, .int 0, .int 1, .int 0, .int 0]) := rfl
theorem ce_69 (ad : Nat → Nat) (D : va_G × (Nat → ClassId)) : cellE (ad, D) sg0 69 = .inr (6, [.int 0, .int 1, .int 0, .int 1, .int 0, .int 0]) := rfl
theorem ce_70 (ad : Nat → Nat) (D : va_G × (Nat → ClassId)) : cellE (ad, D) sg0 70 = .inr (6, [.int 0, .int 1, .int 0, .int 1, .int 0, .int 0]) := rfl
theorem ce_71 (ad : Nat → Nat) (D : va_G × (Nat → ClassId)) : cellE (ad, D) sg0 71 = .inr (6, [.int 0, .int 1, .int 0, .int 1, .int 0, .int 0]) := rfl
theorem ce_72 (ad : Nat → Nat) (D : va_G × (Nat → ClassId)) : cellE (ad, D) sg0 72 = .inr (6, [.int 0, .int 1, .int 0, .int 1, .int 0, .int 0]) := rfl
theorem ce_73 (ad : Nat → Nat) (D : va_G × (Nat → ClassId)) : cellE (ad, D) sg0 73 = .inr (3, [.int 24, .int 0, .ref (ad 74), .ref (ad 75), .ref (ad 76)]) := rfl
theorem ce_74 (ad : Nat → Nat) (D : va_G × (Nat → ClassId)) : cellE (ad, D) sg0 74 = .inl (D.2 9, 60, .inl (fun _ => 0)) := rfl
theorem ce_75 (ad : Nat → Nat) (D : va_G × (Nat → ClassId)) : cellE (ad, D) sg0 75 = .inl (D.2 9, 60, .inl (fun _ => 0)) := rfl
theorem ce_76 (ad : Nat → Nat) (D : va_G × (Nat → ClassId)) : cellE (ad, D) sg0 76 = .inl (D.2 13, 6, .inr (.inr (.inr (.inr (va_up (va_up (va_up (va_up (va_up (va_up (fun _ => none) 0 (some (ad 77))) 1 (some (ad 78))) 2 (some (ad 79))) 3 (some (ad 80))) 4 (some (ad 81))) 5 (some (ad 82))))))) := by
  rw [ce_ref (c := 13) (by decide +kernel) (by decide)]
  congr 7
  funext j
  rcases Nat.lt_or_ge j 6 with hj | hj
  · rcases (show j = 0 ∨ j = 1 ∨ j = 2 ∨ j = 3 ∨ j = 4 ∨ j = 5 by omega) with rfl | rfl | rfl | rfl | rfl | rfl <;> rfl
  · rw [rf_out (by decide +kernel) (show ln 76 ≤ j from hj)]
    have hne : ∀ i, i < 6 → ¬ j = i := fun i hi => by omega
    simp [va_up, hne 0 (by decide), hne 1 (by decide), hne 2 (by decide), hne 3 (by decide), hne 4 (by decide), hne 5 (by decide)]
theorem ce_77 (ad : Nat → Nat) (D : va_G × (Nat → ClassId)) : cellE (ad, D) sg0 77 = .inr (6, [.int 0, .int 1, .int 0, .int 1, .int 0, .int 0]) := rfl
theorem ce_78 (ad : Nat → Nat) (D : va_G × (Nat → ClassId)) : cellE (ad, D) sg0 78 = .inr (6, [.int 0, .int 1, .int 0, .int 1, .int 0, .int 0]) := rfl
theorem ce_79 (ad : Nat → Nat) (D : va_G × (Nat → ClassId)) : cellE (ad, D) sg0 79 = .inr (6, [.int 0, .int 1, .int 0, .int 1, .int 0, .int 0]) := rfl
theorem ce_80 (ad : Nat → Nat) (D : va_G × (Nat → ClassId)) : cellE (ad, D) sg0 80 = .inr (6, [.int 0, .int 1, .int 0, .int 1, .int 0, .int 0]) := rfl
theorem ce_81 (ad : Nat → Nat) (D : va_G × (Nat → ClassId)) : cellE (ad, D) sg0 81 = .inr (6, [.int 0, .int 1, .int 0, .int 1, .int 0, .int 0]) := rfl
theorem ce_82 (ad : Nat → Nat) (D : va_G × (Nat → ClassId)) : cellE (ad, D) sg0 82 = .inr (6, [.int 0, .int 1, .int 0, .int 1, .int 0, .int 0]) := rfl
theorem ce_83 (ad : Nat → Nat) (D : va_G × (Nat → ClassId)) : cellE (ad, D) sg0 83 = .inr (3, [.int 24, .int 0, .ref (ad 84), .ref (ad 85), .ref (ad 86)]) := rfl
theorem ce_84 (ad : Nat → Nat) (D : va_G × (Nat → ClassId)) : cellE (ad, D) sg0 84 = .inl (D.2 9, 60, .inl (fun _ => 0)) := rfl
theorem ce_85 (ad : Nat → Nat) (D : va_G × (Nat → ClassId)) : cellE (ad, D) sg0 85 = .inl (D.2 9, 60, .inl (fun _ => 0)) := rfl
theorem ce_86 (ad : Nat → Nat) (D : va_G × (Nat → ClassId)) : cellE (ad, D) sg0 86 = .inl (D.2 13, 6, .inr (.inr (.inr (.inr (va_up (va_up (va_up (va_up (va_up (va_up (fun _ => none) 0 (some (ad 87))) 1 (some (ad 88))) 2 (some (ad 89))) 3 (some (ad 90))) 4 (some (ad 91))) 5 (some (ad 92))))))) := by
  rw [ce_ref (c := 13) (by decide +kernel) (by decide)]
  congr 7
  funext j
  rcases Nat.lt_or_ge j 6 with hj | hj
  · rcases (show j = 0 ∨ j = 1 ∨ j = 2 ∨ j = 3 ∨ j = 4 ∨ j = 5 by omega) with rfl | rfl | rfl | rfl | rfl | rfl <;> rfl
  · rw [rf_out (by decide +kernel) (show ln 86 ≤ j from hj)]
    have hne : ∀ i, i < 6 → ¬ j = i := fun i hi => by omega
    simp [va_up, hne 0 (by decide), hne 1 (by decide), hne 2 (by decide), hne 3 (by decide), hne 4 (by decide), hne 5 (by decide)]
theorem ce_87 (ad : Nat → Nat) (D : va_G × (Nat → ClassId)) : cellE (ad, D) sg0 87 = .inr (6, [.int 0, .int 1, .int 0, .int 1, .int 0, .int 0]) := rfl
theorem ce_88 (ad : Nat → Nat) (D : va_G × (Nat → ClassId)) : cellE (ad, D) sg0 88 = .inr (6, [.int 0, .int 1, .int 0, .int 1, .int 0, .int 0]) := rfl
theorem ce_89 (ad : Nat → Nat) (D : va_G × (Nat → ClassId)) : cellE (ad, D) sg0 89 = .inr (6, [.int 0, .int 1, .int 0, .int 1, .int 0, .int 0]) := rfl
theorem ce_90 (ad : Nat → Nat) (D : va_G × (Nat → ClassId)) : cellE (ad, D) sg0 90 = .inr (6, [.int 0, .int 1, .int 0, .int 1, .int 0, .int 0]) := rfl
theorem ce_91 (ad : Nat → Nat) (D : va_G × (Nat → ClassId)) : cellE (ad, D) sg0 91 = .inr (6, [.int 0, .int 1, .int 0, .int 1, .int 0, .int 0]) := rfl
theorem ce_92 (ad : Nat → Nat) (D : va_G × (Nat → ClassId)) : cellE (ad, D) sg0 92 = .inr (6, [.int 0, .int 1, .int 0, .int 1, .int 0, .int 0]) := rfl
theorem ce_93 (ad : Nat → Nat) (D : va_G × (Nat → ClassId)) : cellE (ad, D) sg0 93 = .inr (3, [.int 24, .int 0, .ref (ad 94), .ref (ad 95), .ref (ad 96)]) := rfl
theorem ce_94 (ad : Nat → Nat) (D : va_G × (Nat → ClassId)) : cellE (ad, D) sg0 94 = .inl (D.2 9, 60, .inl (fun _ => 0)) := rfl
theorem ce_95 (ad : Nat → Nat) (D : va_G × (Nat → ClassId)) : cellE (ad, D) sg0 95 = .inl (D.2 9, 60, .inl (fun _ => 0)) := rfl
theorem ce_96 (ad : Nat → Nat) (D : va_G × (Nat → ClassId)) : cellE (ad, D) sg0 96 = .inl (D.2 13, 6, .inr (.inr (.inr (.inr (va_up (va_up (va_up (va_up (va_up (va_up (fun _ => none) 0 (some (ad 97))) 1 (some (ad 98))) 2 (some (ad 99))) 3 (some (ad 100))) 4 (some (ad 101))) 5 (some (ad 102))))))) := by
  rw [ce_ref (c := 13) (by decide +kernel) (by decide)]
  congr 7
  funext j
  rcases Nat.lt_or_ge j 6 with hj | hj
  · rcases (show j = 0 ∨ j = 1 ∨ j = 2 ∨ j = 3 ∨ j = 4 ∨ j = 5 by omega) with rfl | rfl | rfl | rfl | rfl | rfl <;> rfl
  · rw [rf_out (by decide +kernel) (show ln 96 ≤ j from hj)]
    have hne : ∀ i, i < 6 → ¬ j = i := fun i hi => by omega
    simp [va_up, hne 0 (by decide), hne 1 (by decide), hne 2 (by decide), hne 3 (by decide), hne 4 (by decide), hne 5 (by decide)]
theorem ce_97 (ad : Nat → Nat) (D : va_G × (Nat → ClassId)) : cellE (ad, D) sg0 97 = .inr (6, [.int 0, .int 1, .int 0, .int 1, .int 0, .int 0]) := rfl
theorem ce_98 (ad : Nat → Nat) (D : va_G × (Nat → ClassId)) : cellE (ad, D) sg0 98 = .inr (6, [.int 0, .int 1, .int 0, .int 1, .int 0, .int 0]) := rfl
theorem ce_99 (ad : Nat → Nat) (D : va_G × (Nat → ClassId)) : cellE (ad, D) sg0 99 = .inr (6, [.int 0, .int 1, .int 0, .int 1, .int 0, .int 0]) := rfl
theorem ce_100 (ad : Nat → Nat) (D : va_G × (Nat → ClassId)) : cellE (ad, D) sg0 100 = .inr (6, [.int 0, .int 1, .int 0, .int 1, .int 0, .int 0]) := rfl
theorem ce_101 (ad : Nat → Nat) (D : va_G × (Nat → ClassId)) : cellE (ad, D) sg0 101 = .inr (6, [.int 0, .int 1, .int 0, .int 1, .int 0, .int 0]) := rfl
theorem ce_102 (ad : Nat → Nat) (D : va_G × (Nat → ClassId)) : cellE (ad, D) sg0 102 = .inr (6, [.int 0, .int 1, .int 0, .int 1, .int 0, .int 0]) := rfl
theorem ce_103 (ad : Nat → Nat) (D : va_G × (Nat → ClassId)) : cellE (ad, D) sg0 103 = .inr (3, [.int 24, .int 0, .ref (ad 104), .ref (ad 105), .ref (ad 106)]) := rfl
theorem ce_104 (ad : Nat → Nat) (D : va_G × (Nat → ClassId)) : cellE (ad, D) sg0 104 = .inl (D.2 9, 60, .inl (fun _ => 0)) := rfl
theorem ce_105 (ad : Nat → Nat) (D : va_G × (Nat → ClassId)) : cellE (ad, D) sg0 105 = .inl (D.2 9, 60, .inl (fun _ => 0)) := rfl
theorem ce_106 (ad : Nat → Nat) (D : va_G × (Nat → ClassId)) : cellE (ad, D) sg0 106 = .inl (D.2 13, 6, .inr (.inr (.inr (.inr (va_up (va_up (va_up (va_up (va_up (va_up (fun _ => none) 0 (some (ad 107))) 1 (some (ad 108))) 2 (some (ad 109))) 3 (some (ad 110))) 4 (some (ad 111))) 5 (some (ad 112))))))) := by
  rw [ce_ref (c := 13) (by decide +kernel) (by decide)]
  congr 7
  funext j
  rcases Nat.lt_or_ge j 6 with hj | hj
  · rcases (show j = 0 ∨ j = 1 ∨ j = 2 ∨ j = 3 ∨ j = 4 ∨ j = 5 by omega) with rfl | rfl | rfl | rfl | rfl | rfl <;> rfl
  · rw [rf_out (by decide +kernel) (show ln 106 ≤ j from hj)]
    have hne : ∀ i, i < 6 → ¬ j = i := fun i hi => by omega
    simp [va_up, hne 0 (by decide), hne 1 (by decide), hne 2 (by decide), hne 3 (by decide), hne 4 (by decide), hne 5 (by decide)]
theorem ce_107 (ad : Nat → Nat) (D : va_G × (Nat → ClassId)) : cellE (ad, D) sg0 107 = .inr (6, [.int 0, .int 1, .int 0, .int 1, .int 0, .int 0]) := rfl
theorem ce_108 (ad : Nat → Nat) (D : va_G × (Nat → ClassId)) : cellE (ad, D) sg0 108 = .inr (6, [.int 0, .int 1, .int 0, .int 1, .int 0, .int 0]) := rfl
theorem ce_109 (ad : Nat → Nat) (D : va_G × (Nat → ClassId)) : cellE (ad, D) sg0 109 = .inr (6, [.int 0, .int 1, .int 0, .int 1, .int 0, .int 0]) := rfl
theorem ce_110 (ad : Nat → Nat) (D : va_G × (Nat → ClassId)) : cellE (ad, D) sg0 110 = .inr (6, [.int 0, .int 1, .int 0, .int 1, .int 0, .int 0]) := rfl
theorem ce_111 (ad : Nat → Nat) (D : va_G × (Nat → ClassId)) : cellE (ad, D) sg0 111 = .inr (6, [.int 0, .int 1, .int 0, .int 1, .int 0, .int 0]) := rfl
theorem ce_112 (ad : Nat → Nat) (D : va_G × (Nat → ClassId)) : cellE (ad, D) sg0 112 = .inr (6, [.int 0, .int 1, .int 0, .int 1, .int 0, .int 0]) := rfl
theorem ce_113 (ad : Nat → Nat) (D : va_G × (Nat → ClassId)) : cellE (ad, D) sg0 113 = .inr (1, [.ref (ad 114), .int 0]) := rfl
theorem ce_114 (ad : Nat → Nat) (D : va_G × (Nat → ClassId)) : cellE (ad, D) sg0 114 = .inl (D.2 9, 72, .inl (fun _ => 0)) := rfl
theorem ce_115 (ad : Nat → Nat) (D : va_G × (Nat → ClassId)) : cellE (ad, D) sg0 115 = .inl (D.2 14, 3, .inr (.inr (.inr (.inr (va_up (va_up (va_up (fun _ => none) 0 (some (ad 137))) 1 (some (ad 139))) 2 (some (ad 141))))))) := by
  rw [ce_ref (c := 14) (by decide +kernel) (by decide)]
  congr 7
  funext j
  rcases Nat.lt_or_ge j 3 with hj | hj
  · rcases (show j = 0 ∨ j = 1 ∨ j = 2 by omega) with rfl | rfl | rfl <;> rfl
  · rw [rf_out (by decide +kernel) (show ln 115 ≤ j from hj)]
    have hne : ∀ i, i < 3 → ¬ j = i := fun i hi => by omega
    simp [va_up, hne 0 (by decide), hne 1 (by decide), hne 2 (by decide)]
theorem ce_116 (ad : Nat → Nat) (D : va_G × (Nat → ClassId)) : cellE (ad, D) sg0 116 = .inr (0, [.int 0, .int 0, .int 0, .int 0, .int 0, .ref (ad 117), .ref (ad 118), .ref (ad 119), .ref (ad 120), .ref (ad 121)]) := rfl
theorem ce_117 (ad : Nat → Nat) (D : va_G × (Nat → ClassId)) : cellE (ad, D) sg0 117 = .inl (D.2 9, 60, .inl (fun _ => 0)) := rfl
theorem ce_118 (ad : Nat → Nat) (D : va_G × (Nat → ClassId)) : cellE (ad, D) sg0 118 = .inl (D.2 9, 60, .inl (fun _ => 0)) := rfl
theorem ce_119 (ad : Nat → Nat) (D : va_G × (Nat → ClassId)) : cellE (ad, D) sg0 119 = .inl (D.2 9, 60, .inl (fun _ => 0)) := rfl
theorem ce_120 (ad : Nat → Nat) (D : va_G × (Nat → ClassId)) : cellE (ad, D) sg0 120 = .inl (D.2 9, 60, .inl (fun _ => 0)) := rfl
theorem ce_121 (ad : Nat → Nat) (D : va_G × (Nat → ClassId)) : cellE (ad, D) sg0 121 = .inl (D.2 11, 60, .inr (.inl (fun _ => 0))) := rfl
theorem ce_122 (ad : Nat → Nat) (D : va_G × (Nat → ClassId)) : cellE (ad, D) sg0 122 = .inr (0, [.int 0, .int 0, .int 0, .int 0, .int 0, .ref (ad 123), .ref (ad 124), .ref (ad 125), .ref (ad 126), .ref (ad 127)]) := rfl
theorem ce_123 (ad : Nat → Nat) (D : va_G × (Nat → ClassId)) : cellE (ad, D) sg0 123 = .inl (D.2 9, 60, .inl (fun _ => 0)) := rfl
theorem ce_124 (ad : Nat → Nat) (D : va_G × (Nat → ClassId)) : cellE (ad, D) sg0 124 = .inl (D.2 9, 60, .inl (fun _ => 0)) := rfl
theorem ce_125 (ad : Nat → Nat) (D : va_G × (Nat → ClassId)) : cellE (ad, D) sg0 125 = .inl (D.2 9, 60, .inl (fun _ => 0)) := rfl
theorem ce_126 (ad : Nat → Nat) (D : va_G × (Nat → ClassId)) : cellE (ad, D) sg0 126 = .inl (D.2 9, 60, .inl (fun _ => 0)) := rfl
theorem ce_127 (ad : Nat → Nat) (D : va_G × (Nat → ClassId)) : cellE (ad, D) sg0 127 = .inl (D.2 11, 60, .inr (.inl (fun _ => 0))) := rfl
theorem ce_128 (ad : Nat → Nat) (D : va_G × (Nat → ClassId)) : cellE (ad, D) sg0 128 = .inr (5, [.ref (ad 129), .ref (ad 130), .ref (ad 131), .ref (ad 132), .ref (ad 133), .ref (ad 134), .int 0]) := rfl
theorem ce_129 (ad : Nat → Nat) (D : va_G × (Nat → ClassId)) : cellE (ad, D) sg0 129 = .inl (D.2 9, 6, .inl (fun _ => 0)) := rfl
theorem ce_130 (ad : Nat → Nat) (D : va_G × (Nat → ClassId)) : cellE (ad, D) sg0 130 = .inl (D.2 10, 6, .inl (fun _ => 0)) := rfl
theorem ce_131 (ad : Nat → Nat) (D : va_G × (Nat → ClassId)) : cellE (ad, D) sg0 131 = .inl (D.2 9, 100, .inl (fun _ => 0)) := rfl
theorem ce_132 (ad : Nat → Nat) (D : va_G × (Nat → ClassId)) : cellE (ad, D) sg0 132 = .inl (D.2 9, 100, .inl (fun _ => 0)) := rfl
theorem ce_133 (ad : Nat → Nat) (D : va_G × (Nat → ClassId)) : cellE (ad, D) sg0 133 = .inl (D.2 9, 100, .inl (fun _ => 0)) := rfl
theorem ce_134 (ad : Nat → Nat) (D : va_G × (Nat → ClassId)) : cellE (ad, D) sg0 134 = .inl (D.2 9, 60, .inl (fun _ => 0)) := rfl
theorem ce_135 (ad : Nat → Nat) (D : va_G × (Nat → ClassId)) : cellE (ad, D) sg0 135 = .inr (6, [.int 0, .int 1, .int 0, .int 1, .int 0, .int 0]) := rfl
theorem ce_136 (ad : Nat → Nat) (D : va_G × (Nat → ClassId)) : cellE (ad, D) sg0 136 = .inl (D.2 9, 7, .inl (fun _ => 0)) := rfl
theorem ce_137 (ad : Nat → Nat) (D : va_G × (Nat → ClassId)) : cellE (ad, D) sg0 137 = .inr (4, [.int (-1), .ref (ad 138)]) := rfl
theorem ce_138 (ad : Nat → Nat) (D : va_G × (Nat → ClassId)) : cellE (ad, D) sg0 138 = .inl (D.2 9, 40, .inl (fun _ => 0)) := rfl
theorem ce_139 (ad : Nat → Nat) (D : va_G × (Nat → ClassId)) : cellE (ad, D) sg0 139 = .inr (4, [.int (-1), .ref (ad 140)]) := rfl
theorem ce_140 (ad : Nat → Nat) (D : va_G × (Nat → ClassId)) : cellE (ad, D) sg0 140 = .inl (D.2 9, 40, .inl (fun _ => 0)) := rfl
theorem ce_141 (ad : Nat → Nat) (D : va_G × (Nat → ClassId)) : cellE (ad, D) sg0 141 = .inr (4, [.int (-1), .ref (ad 142)]) := rfl
theorem ce_142 (ad : Nat → Nat) (D : va_G × (Nat → ClassId)) : cellE (ad, D) sg0 142 = .inl (D.2 9, 40, .inl (fun _ => 0)) := rfl
theorem ce_143 (ad : Nat → Nat) (D : va_G × (Nat → ClassId)) : cellE (ad, D) sg0 143 = .inr (8, [.int 24, .ref (ad 144), .ref (ad 145), .int 0, .ref (ad 146), .ref (ad 147), .ref (ad 148), .ref (ad 149), .ref (ad 150), .ref (ad 151), .ref (ad 152), .int 0, .ref (ad 153), .ref (ad 154), .ref (ad 155), .int 0, .ref (ad 156), .ref (ad 157), .int 0, .ref (ad 158), .ref (ad 159), .ref (ad 160), .ref (ad 161), .int 0, .int 0, .ref (ad 162), .ref (ad 163), .int 0, .ref (ad 164), .ref (ad 165), .ref (ad 166), .ref (ad 167), .ref (ad 168), .ref (ad 169), .ref (ad 170), .ref (ad 171), .ref (ad 172), .int 0]) := rfl
theorem ce_144 (ad : Nat → Nat) (D : va_G × (Nat → ClassId)) : cellE (ad, D) sg0 144 = .inl (D.2 9, 60, .inl (fun _ => 0)) := rfl
theorem ce_145 (ad : Nat → Nat) (D : va_G × (Nat → ClassId)) : cellE (ad, D) sg0 145 = .inl (D.2 9, 60, .inl (fun _ => 0)) := rfl
theorem ce_146 (ad : Nat → Nat) (D : va_G × (Nat → ClassId)) : cellE (ad, D) sg0 146 = .inl (D.2 9, 6, .inl (fun _ => 0)) := rfl
theorem ce_147 (ad : Nat → Nat) (D : va_G × (Nat → ClassId)) : cellE (ad, D) sg0 147 = .inl (D.2 9, 6, .inl (fun _ => 0)) := rfl
theorem ce_148 (ad : Nat → Nat) (D : va_G × (Nat → ClassId)) : cellE (ad, D) sg0 148 = .inl (D.2 9, 6, .inl (fun _ => 0)) := rfl
theorem ce_149 (ad : Nat → Nat) (D : va_G × (Nat → ClassId)) : cellE (ad, D) sg0 149 = .inl (D.2 9, 6, .inl (fun _ => 0)) := rfl
theorem ce_150 (ad : Nat → Nat) (D : va_G × (Nat → ClassId)) : cellE (ad, D) sg0 150 = .inl (D.2 9, 6, .inl (fun _ => 0)) := rfl
theorem ce_151 (ad : Nat → Nat) (D : va_G × (Nat → ClassId)) : cellE (ad, D) sg0 151 = .inl (D.2 9, 6, .inl (fun _ => 0)) := rfl
theorem ce_152 (ad : Nat → Nat) (D : va_G × (Nat → ClassId)) : cellE (ad, D) sg0 152 = .inl (D.2 9, 72, .inl (fun _ => 0)) := rfl
theorem ce_153 (ad : Nat → Nat) (D : va_G × (Nat → ClassId)) : cellE (ad, D) sg0 153 = .inl (D.2 9, 120, .inl (fun _ => 0)) := rfl
theorem ce_154 (ad : Nat → Nat) (D : va_G × (Nat → ClassId)) : cellE (ad, D) sg0 154 = .inl (D.2 9, 3, .inl (upd (upd (upd (fun _ => 0) 0 (-1)) 1 (-1)) 2 (-1))) := rfl
theorem ce_155 (ad : Nat → Nat) (D : va_G × (Nat → ClassId)) : cellE (ad, D) sg0 155 = .inl (D.2 9, 1056, .inl (fun _ => 0)) := rfl
theorem ce_156 (ad : Nat → Nat) (D : va_G × (Nat → ClassId)) : cellE (ad, D) sg0 156 = .inl (D.2 9, 158, .inl (fun _ => 0)) := rfl
theorem ce_157 (ad : Nat → Nat) (D : va_G × (Nat → ClassId)) : cellE (ad, D) sg0 157 = .inl (D.2 9, 158, .inl (fun _ => 0)) := rfl
theorem ce_158 (ad : Nat → Nat) (D : va_G × (Nat → ClassId)) : cellE (ad, D) sg0 158 = .inl (D.2 9, 7, .inl (fun _ => 0)) := rfl
theorem ce_159 (ad : Nat → Nat) (D : va_G × (Nat → ClassId)) : cellE (ad, D) sg0 159 = .inl (D.2 9, 60, .inl (fun _ => 0)) := rfl
theorem ce_160 (ad : Nat → Nat) (D : va_G × (Nat → ClassId)) : cellE (ad, D) sg0 160 = .inl (D.2 9, 60, .inl (fun _ => 0)) := rfl
theorem ce_161 (ad : Nat → Nat) (D : va_G × (Nat → ClassId)) : cellE (ad, D) sg0 161 = .inl (D.2 9, 60, .inl (fun _ => 0)) := rfl
theorem ce_162 (ad : Nat → Nat) (D : va_G × (Nat → ClassId)) : cellE (ad, D) sg0 162 = .inl (D.2 9, 60, .inl (fun _ => 0)) := rfl
theorem ce_163 (ad : Nat → Nat) (D : va_G × (Nat → ClassId)) : cellE (ad, D) sg0 163 = .inl (D.2 9, 60, .inl (fun _ => 0)) := rfl
theorem ce_164 (ad : Nat → Nat) (D : va_G × (Nat → ClassId)) : cellE (ad, D) sg0 164 = .inl (D.2 11, 60, .inr (.inl (fun _ => 0))) := rfl
theorem ce_165 (ad : Nat → Nat) (D : va_G × (Nat → ClassId)) : cellE (ad, D) sg0 165 = .inl (D.2 11, 60, .inr (.inl (fun _ => 0))) := rfl
theorem ce_166 (ad : Nat → Nat) (D : va_G × (Nat → ClassId)) : cellE (ad, D) sg0 166 = .inl (D.2 11, 60, .inr (.inl (fun _ => 0))) := rfl
theorem ce_167 (ad : Nat → Nat) (D : va_G × (Nat → ClassId)) : cellE (ad, D) sg0 167 = .inl (D.2 9, 100, .inl (fun _ => 0)) := rfl
theorem ce_168 (ad : Nat → Nat) (D : va_G × (Nat → ClassId)) : cellE (ad, D) sg0 168 = .inl (D.2 9, 100, .inl (fun _ => 0)) := rfl
theorem ce_169 (ad : Nat → Nat) (D : va_G × (Nat → ClassId)) : cellE (ad, D) sg0 169 = .inl (D.2 9, 100, .inl (fun _ => 0)) := rfl
theorem ce_170 (ad : Nat → Nat) (D : va_G × (Nat → ClassId)) : cellE (ad, D) sg0 170 = .inl (D.2 9, 6, .inl (fun _ => 0)) := rfl
theorem ce_171 (ad : Nat → Nat) (D : va_G × (Nat → ClassId)) : cellE (ad, D) sg0 171 = .inl (D.2 9, 6, .inl (fun _ => 0)) := rfl
theorem ce_172 (ad : Nat → Nat) (D : va_G × (Nat → ClassId)) : cellE (ad, D) sg0 172 = .inl (D.2 9, 60, .inl (fun _ => 0)) := rfl
theorem rng_NC : List.range NC = [0, 1, 2, 3, 4, 5, 6, 7, 8, 9, 10, 11, 12, 13, 14, 15, 16, 17, 18, 19, 20, 21, 22, 23, 24, 25, 26, 27, 28, 29, 30, 31, 32, 33, 34, 35, 36, 37, 38, 39, 40, 41, 42, 43, 44, 45, 46, 47, 48, 49, 50, 51, 52, 53, 54, 55, 56, 57, 58, 59, 60, 61, 62, 63, 64, 65, 66, 67, 68, 69, 70, 71, 72, 73, 74, 75, 76, 77, 78, 79, 80, 81, 82, 83, 84, 85, 86, 87, 88, 89, 90, 91, 92, 93, 94, 95, 96, 97, 98, 99, 100, 101, 102, 103, 104, 105, 106, 107, 108, 109, 110, 111, 112, 113, 114, 115, 116, 117, 118, 119, 120, 121, 122, 123, 124, 125, 126, 127, 128, 129, 130, 131, 132, 133, 134, 135, 136, 137, 138, 139, 140, 141, 142, 143, 144, 145, 146, 147, 148, 149, 150, 151, 152, 153, 154, 155, 156, 157, 158, 159, 160, 161, 162, 163, 164, 165, 166, 167, 168, 169, 170, 171, 172] := by decide +kernel
def ws_E (ad : Nat → Nat) (D : va_G × (Nat → ClassId)) : va_W := [(ad 0, .inr (7, [.ref (ad 1), .ref (ad 11), .ref (ad 21), .int 0, .ref (ad 31), .ref (ad 113), .ref (ad 115), .ref (ad 116), .ref (ad 122), .ref (ad 128), .ref (ad 135), .ref (ad 136)])), (ad 1, .inr (3, [.int 24, .int 0, .ref (ad 2), .ref (ad 3), .ref (ad 4)])), (ad 2, .inl (D.2 9, 60, .inl (fun _ => 0))), (ad 3, .inl (D.2 9, 60, .inl (fun _ => 0))), (ad 4, .inl (D.2 13, 6, .inr (.inr (.inr (.inr (va_up (va_up (va_up (va_up (va_up (va_up (fun _ => none) 0 (some (ad 5))) 1 (some (ad 6))) 2 (some (ad 7))) 3 (some (ad 8))) 4 (some (ad 9))) 5 (some (ad 10)))))))), (ad 5, .inr (6, [.int 0, .int 1, .int 0, .int 1, .int 0, .int 0])), (ad 6, .inr (6, [.int 0, .int 1, .int 0, .int 1, .int 0, .int 0])), (ad 7, .inr (6, [.int 0, .int 1, .int 0, .int 1, .int 0, .int 0])), (ad 8, .inr (6, [.int 0, .int 1, .int 0, .int 1, .int 0, .int 0])), (ad 9, .inr (6, [.int 0, .int 1, .int 0, .int 1, .int 0, .int 0])), (ad 10, .inr (6, [.int 0, .int 1, .int 0, .int 1, .int 0, .int 0])), (ad 11, .inr (3, [.int 24, .int 0, .ref (ad 12), .ref (ad 13), .ref (ad 14)])), (ad 12, .inl (D.2 9, 60, .inl (fun _ => 0))), (ad 13, .inl (D.2 9, 60, .inl (fun _ => 0))), (ad 14, .inl (D.2 13, 6, .inr (.inr (.inr (.inr (va_up (va_up (va_up (va_up (va_up (va_up (fun _ => none) 0 (some (ad 15))) 1 (some (ad 16))) 2 (some (ad 17))) 3 (some (ad 18))) 4 (some (ad 19))) 5 (some (ad 20)))))))), (ad 15, .inr (6, [.int 0, .int 1, .int 0, .int 1, .int 0, .int 0])), (ad 16, .inr (6, [.int 0, .int 1, .int 0, .int 1, .int 0, .int 0])), (ad 17, .inr (6, [.int 0, .int 1, .int 0, .int 1, .int 0, .int 0])), (ad 18, .inr (6, [.int 0, .int 1, .int 0, .int 1, .int 0, .int 0])), (ad 19, .inr (6, [.int 0, .int 1, .int 0, .int 1, .int 0, .int 0])), (ad 20, .inr (6, [.int 0, .int 1, .int 0, .int 1, .int 0, .int 0])), (ad 21, .inr (3, [.int 24, .int 0, .ref (ad 22), .ref (ad 23), .ref (ad 24)])), (ad 22, .inl (D.2 9, 60, .inl (fun _ => 0))), (ad 23, .inl (D.2 9, 60, .inl (fun _ => 0))), (ad 24, .inl (D.2 13, 6, .inr (.inr (.inr (.inr (va_up (va_up (va_up (va_up (va_up (va_up (fun _ => none) 0 (some (ad 25))) 1 (some (ad 26))) 2 (some (ad 27))) 3 (some (ad 28))) 4 (some (ad 29))) 5 (some (ad 30)))))))), (ad 25, .inr (6, [.int 0, .int 1, .int 0, .int 1, .int 0, .int 0])), (ad 26, .inr (6, [.int 0, .int 1, .int 0, .int 1, .int 0, .int 0])), (ad 27, .inr (6, [.int 0, .int 1, .int 0, .int 1, .int 0, .int 0])), (ad 28, .inr (6, [.int 0, .int 1, .int 0, .int 1, .int 0, .int 0])), (ad 29, .inr (6, [.int 0, .int 1, .int 0, .int 1, .int 0, .int 0])), (ad 30, .inr (6, [.int 0, .int 1, .int 0, .int 1, .int 0, .int 0])), (ad 31, .inr (2, [.ref (ad 32), .int 0, .int 0])), (ad 32, .inl (D.2 12, 8, .inr (.inr (.inr (.inr (va_up (va_up (va_up (va_up (va_up (va_up (va_up (va_up (fun _ => none) 0 (some (ad 33))) 1 (some (ad 43))) 2 (some (ad 53))) 3 (some (ad 63))) 4 (some (ad 73))) 5 (some (ad 83))) 6 (some (ad 93))) 7 (some (ad 103)))))))), (ad 33, .inr (3, [.int 24, .int 0, .ref (ad 34), .ref (ad 35), .ref (ad 36)])), (ad 34, .inl (D.2 9, 60, .inl (fun _ => 0))), (ad 35, .inl (D.2 9, 60, .inl (fun _ => 0))), (ad 36, .inl (D.2 13, 6, .inr (.inr (.inr (.inr (va_up (va_up (va_up (va_up (va_up (va_up (fun _ => none) 0 (some (ad 37))) 1 (some (ad 38))) 2 (some (ad 39))) 3 (some (ad 40))) 4 (some (ad 41))) 5 (some (ad 42)))))))), (ad 37, .inr (6, [.int 0, .int 1, .int 0, .int 1, .int 0, .int 0])), (ad 38, .inr (6, [.int 0, .int 1, .int 0, .int 1, .int 0, .int 0])), (ad 39, .inr (6, [.int 0, .int 1, .int 0, .int 1, .int 0, .int 0])), (ad 40, .inr (6, [.int 0, .int 1, .int 0, .int 1, .int 0, .int 0])), (ad 41, .inr (6, [.int 0, .int 1, .int 0, .int 1, .int 0, .int 0])), (ad 42, .inr (6, [.int 0, .int 1, .int 0, .int 1, .int 0, .int 0])), (ad 43, .inr (3, [.int 24, .int 0, .ref (ad 44), .ref (ad 45), .ref (ad 46)])), (ad 44, .inl (D.2 9, 60, .inl (fun _ => 0))), (ad 45, .inl (D.2 9, 60, .inl (fun _ => 0))), (ad 46, .inl (D.2 13, 6, .inr (.inr (.inr (.inr (va_up (va_up (va_up (va_up (va_up (va_up (fun _ => none) 0 (some (ad 47))) 1 (some (ad 48))) 2 (some (ad 49))) 3 (some (ad 50))) 4 (some (ad 51))) 5 (some (ad 52)))))))), (ad 47, .inr (6, [.int 0, .int 1, .int 0, .int 1, .int 0, .int 0])), (ad 48, .inr (6, [.int 0, .int 1, .int 0, .int 1, .int 0, .int 0])), (ad 49, .inr (6, [.int 0, .int 1, .int 0, .int 1, .int 0, .int 0])), (ad 50, .inr (6, [.int 0, .int 1, .int 0, .int 1, .int 0, .int 0])), (ad 51, .inr (6, [.int 0, .int 1, .int 0, .int 1, .int 0, .int 0])), (ad 52, .inr (6, [.int 0, .int 1, .int 0, .int 1, .int 0, .int 0])), (ad 53, .inr (3, [.int 24, .int 0, .ref (ad 54), .ref (ad 55), .ref (ad 56)])), (ad 54, .inl (D.2 9, 60, .inl (fun _ => 0))), (ad 55, .inl (D.2 9, 60, .inl (fun _ => 0))), (ad 56, .inl (D.2 13, 6, .inr (.inr (.inr (.inr (va_up (va_up (va_up (va_up (va_up (va_up (fun _ => none) 0 (some (ad 57))) 1 (some (ad 58))) 2 (some (ad 59))) 3 (some (ad 60))) 4 (some (ad 61))) 5 (some (ad 62)))))))), (ad 57, .inr (6, [.int 0, .int 1, .int 0, .int 1, .int 0, .int 0])), (ad 58, .inr (6, [.int 0, .int 1, .int 0, .int 1, .int 0, .int 0])), (ad 59, .inr (6, [.int 0, .int 1, .int 0, .int 1, .int 0, .int 0])), (ad 60, .inr (6, [.int 0, .int 1, .int 0, .int 1, .int 0, .int 0])), (ad 61, .inr (6, [.int 0, .int 1, .int 0, .int 1, .int 0, .int 0])), (ad 62, .inr (6, [.int 0, .int 1, .int 0, .int 1, .int 0, .int 0])), (ad 63, .inr (3, [.int 24, .int 0, .ref (ad 64), .ref (ad 65), .ref (ad 66)])), (ad 64, .inl (D.2 9, 60, .inl (fun _ => 0))), (ad 65, .inl (D.2 9, 60, .inl (fun _ => 0))), (ad 66, .inl (D.2 13, 6, .inr (.inr (.inr (.inr (va_up (va_up (va_up (va_up (va_up (va_up (fun _ => none) 0 (some (ad 67))) 1 (some (ad 68))) 2 (some (ad 69))) 3 (some (ad 70))) 4 (some (ad 71))) 5 (some (ad 72)))))))), (ad 67, .inr (6, [.int 0, .int 1, .int 0, .int 1, .int 0, .int 0])), (ad 68, .inr (6, [.int 0, .int 1, .int 0, .int 1, .int 0, .int 0])), (ad 69, .inr (6, [.int 0, .int 1, .int 0, .int 1, .int 0, .int 0])), (ad 70, .inr (6, [.int 0, .int 1, .int 0, .int 1, .int 0, .int 0])), (ad 71, .inr (6, [.int 0, .int 1, .int 0, .int 1, .int 0, .int 0])), (ad 72, .inr (6, [.int 0, .int 1, .int 0, .int 1, .int 0, .int 0])), (ad 73, .inr (3, [.int 24, .int 0, .ref (ad 74), .ref (ad 75), .ref (ad 76)])), (ad 74, .inl (D.2 9, 60, .inl (fun _ => 0))), (ad 75, .inl (D.2 9, 60, .inl (fun _ => 0))), (ad 76, .inl (D.2 13, 6, .inr (.inr (.inr (.inr (va_up (va_up (va_up (va_up (va_up (va_up (fun _ => none) 0 (some (ad 77))) 1 (some (ad 78))) 2 (some (ad 79))) 3 (some (ad 80))) 4 (some (ad 81))) 5 (some (ad 82)))))))), (ad 77, .inr (6, [.int 0, .int 1, .int 0, .int 1, .int 0, .int 0])), (ad 78, .inr (6, [.int 0, .int 1, .int 0, .int 1, .int 0, .int 0])), (ad 79, .inr (6, [.int 0, .int 1, .int 0, .int 1, .int 0, .int 0])), (ad 80, .inr (6, [.int 0, .int 1, .int 0, .int 1, .int 0, .int 0])), (ad 81, .inr (6, [.int 0, .int 1, .int 0, .int 1, .int 0, .int 0])), (ad 82, .inr (6, [.int 0, .int 1, .int 0, .int 1, .int 0, .int 0])), (ad 83, .inr (3, [.int 24, .int 0, .ref (ad 84), .ref (ad 85), .ref (ad 86)])), (ad 84, .inl (D.2 9, 60, .inl (fun _ => 0))), (ad 85, .inl (D.2 9, 60, .inl (fun _ => 0))), (ad 86, .inl (D.2 13, 6, .inr (.inr (.inr (.inr (va_up (va_up (va_up (va_up (va_up (va_up (fun _ => none) 0 (some (ad 87))) 1 (some (ad 88))) 2 (some (ad 89))) 3 (some (ad 90))) 4 (some (ad 91))) 5 (some (ad 92)))))))), (ad 87, .inr (6, [.int 0, .int 1, .int 0, .int 1, .int 0, .int 0])), (ad 88, .inr (6, [.int 0, .int 1, .int 0, .int 1, .int 0, .int 0])), (ad 89, .inr (6, [.int 0, .int 1, .int 0, .int 1, .int 0, .int 0])), (ad 90, .inr (6, [.int 0, .int 1, .int 0, .int 1, .int 0, .int 0])), (ad 91, .inr (6, [.int 0, .int 1, .int 0, .int 1, .int 0, .int 0])), (ad 92, .inr (6, [.int 0, .int 1, .int 0, .int 1, .int 0, .int 0])), (ad 93, .inr (3, [.int 24, .int 0, .ref (ad 94), .ref (ad 95), .ref (ad 96)])), (ad 94, .inl (D.2 9, 60, .inl (fun _ => 0))), (ad 95, .inl (D.2 9, 60, .inl (fun _ => 0))), (ad 96, .inl (D.2 13, 6, .inr (.inr (.inr (.inr (va_up (va_up (va_up (va_up (va_up (va_up (fun _ => none) 0 (some (ad 97))) 1 (some (ad 98))) 2 (some (ad 99))) 3 (some (ad 100))) 4 (some (ad 101))) 5 (some (ad 102)))))))), (ad 97, .inr (6, [.int 0, .int 1, .int 0, .int 1, .int 0, .int 0])), (ad 98, .inr (6, [.int 0, .int 1, .int 0, .int 1, .int 0, .int 0])), (ad 99, .inr (6, [.int 0, .int 1, .int 0, .int 1, .int 0, .int 0])), (ad 100, .inr (6, [.int 0, .int 1, .int 0, .int 1, .int 0, .int 0])), (ad 101, .inr (6, [.int 0, .int 1, .int 0, .int 1, .int 0, .int 0])), (ad 102, .inr (6, [.int 0, .int 1, .int 0, .int 1, .int 0, .int 0])), (ad 103, .inr (3, [.int 24, .int 0, .ref (ad 104), .ref (ad 105), .ref (ad 106)])), (ad 104, .inl (D.2 9, 60, .inl (fun _ => 0))), (ad 105, .inl (D.2 9, 60, .inl (fun _ => 0))), (ad 106, .inl (D.2 13, 6, .inr (.inr (.inr (.inr (va_up (va_up (va_up (va_up (va_up (va_up (fun _ => none) 0 (some (ad 107))) 1 (some (ad 108))) 2 (some (ad 109))) 3 (some (ad 110))) 4 (some (ad 111))) 5 (some (ad 112)))))))), (ad 107, .inr (6, [.int 0, .int 1, .int 0, .int 1, .int 0, .int 0])), (ad 108, .inr (6, [.int 0, .int 1, .int 0, .int 1, .int 0, .int 0])), (ad 109, .inr (6, [.int 0, .int 1, .int 0, .int 1, .int 0, .int 0])), (ad 110, .inr (6, [.int 0, .int 1, .int 0, .int 1, .int 0, .int 0])), (ad 111, .inr (6, [.int 0, .int 1, .int 0, .int 1, .int 0, .int 0])), (ad 112, .inr (6, [.int 0, .int 1, .int 0, .int 1, .int 0, .int 0])), (ad 113, .inr (1, [.ref (ad 114), .int 0])), (ad 114, .inl (D.2 9, 72, .inl (fun _ => 0))), (ad 115, .inl (D.2 14, 3, .inr (.inr (.inr (.inr (va_up (va_up (va_up (fun _ => none) 0 (some (ad 137))) 1 (some (ad 139))) 2 (some (ad 141)))))))), (ad 116, .inr (0, [.int 0, .int 0, .int 0, .int 0, .int 0, .ref (ad 117), .ref (ad 118), .ref (ad 119), .ref (ad 120), .ref (ad 121)])), (ad 117, .inl (D.2 9, 60, .inl (fun _ => 0))), (ad 118, .inl (D.2 9, 60, .inl (fun _ => 0))), (ad 119, .inl (D.2 9, 60, .inl (fun _ => 0))), (ad 120, .inl (D.2 9, 60, .inl (fun _ => 0))), (ad 121, .inl (D.2 11, 60, .inr (.inl (fun _ => 0)))), (ad 122, .inr (0, [.int 0, .int 0, .int 0, .int 0, .int 0, .ref (ad 123), .ref (ad 124), .ref (ad 125), .ref (ad 126), .ref (ad 127)])), (ad 123, .inl (D.2 9, 60, .inl (fun _ => 0))), (ad 124, .inl (D.2 9, 60, .inl (fun _ => 0))), (ad 125, .inl (D.2 9, 60, .inl (fun _ => 0))), (ad 126, .inl (D.2 9, 60, .inl (fun _ => 0))), (ad 127, .inl (D.2 11, 60, .inr (.inl (fun _ => 0)))), (ad 128, .inr (5, [.ref (ad 129), .ref (ad 130), .ref (ad 131), .ref (ad 132), .ref (ad 133), .ref (ad 134), .int 0])), (ad 129, .inl (D.2 9, 6, .inl (fun _ => 0))), (ad 130, .inl (D.2 10, 6, .inl (fun _ => 0))), (ad 131, .inl (D.2 9, 100, .inl (fun _ => 0))), (ad 132, .inl (D.2 9, 100, .inl (fun _ => 0))), (ad 133, .inl (D.2 9, 100, .inl (fun _ => 0))), (ad 134, .inl (D.2 9, 60, .inl (fun _ => 0))), (ad 135, .inr (6, [.int 0, .int 1, .int 0, .int 1, .int 0, .int 0])), (ad 136, .inl (D.2 9, 7, .inl (fun _ => 0))), (ad 137, .inr (4, [.int (-1), .ref (ad 138)])), (ad 138, .inl (D.2 9, 40, .inl (fun _ => 0))), (ad 139, .inr (4, [.int (-1), .ref (ad 140)])), (ad 140, .inl (D.2 9, 40, .inl (fun _ => 0))), (ad 141, .inr (4, [.int (-1), .ref (ad 142)])), (ad 142, .inl (D.2 9, 40, .inl (fun _ => 0))), (ad 143, .inr (8, [.int 24, .ref (ad 144), .ref (ad 145), .int 0, .ref (ad 146), .ref (ad 147), .ref (ad 148), .ref (ad 149), .ref (ad 150), .ref (ad 151), .ref (ad 152), .int 0, .ref (ad 153), .ref (ad 154), .ref (ad 155), .int 0, .ref (ad 156), .ref (ad 157), .int 0, .ref (ad 158), .ref (ad 159), .ref (ad 160), .ref (ad 161), .int 0, .int 0, .ref (ad 162), .ref (ad 163), .int 0, .ref (ad 164), .ref (ad 165), .ref (ad 166), .ref (ad 167), .ref (ad 168), .ref (ad 169), .ref (ad 170), .ref (ad 171), .ref (ad 172), .int 0])), (ad 144, .inl (D.2 9, 60, .inl (fun _ => 0))), (ad 145, .inl (D.2 9, 60, .inl (fun _ => 0))), (ad 146, .inl (D.2 9, 6, .inl (fun _ => 0))), (ad 147, .inl (D.2 9, 6, .inl (fun _ => 0))), (ad 148, .inl (D.2 9, 6, .inl (fun _ => 0))), (ad 149, .inl (D.2 9, 6, .inl (fun _ => 0))), (ad 150, .inl (D.2 9, 6, .inl (fun _ => 0))), (ad 151, .inl (D.2 9, 6, .inl (fun _ => 0))), (ad 152, .inl (D.2 9, 72, .inl (fun _ => 0))), (ad 153, .inl (D.2 9, 120, .inl (fun _ => 0))), (ad 154, .inl (D.2 9, 3, .inl (upd (upd (upd (fun _ => 0) 0 (-1)) 1 (-1)) 2 (-1)))), (ad 155, .inl (D.2 9, 1056, .inl (fun _ => 0))), (ad 156, .inl (D.2 9, 158, .inl (fun _ => 0))), (ad 157, .inl (D.2 9, 158, .inl (fun _ => 0))), (ad 158, .inl (D.2 9, 7, .inl (fun _ => 0))), (ad 159, .inl (D.2 9, 60, .inl (fun _ => 0))), (ad 160, .inl (D.2 9, 60, .inl (fun _ => 0))), (ad 161, .inl (D.2 9, 60, .inl (fun _ => 0))), (ad 162, .inl (D.2 9, 60, .inl (fun _ => 0))), (ad 163, .inl (D.2 9, 60, .inl (fun _ => 0))), (ad 164, .inl (D.2 11, 60, .inr (.inl (fun _ => 0)))), (ad 165, .inl (D.2 11, 60, .inr (.inl (fun _ => 0)))), (ad 166, .inl (D.2 11, 60, .inr (.inl (fun _ => 0)))), (ad 167, .inl (D.2 9, 100, .inl (fun _ => 0))), (ad 168, .inl (D.2 9, 100, .inl (fun _ => 0))), (ad 169, .inl (D.2 9, 100, .inl (fun _ => 0))), (ad 170, .inl (D.2 9, 6, .inl (fun _ => 0))), (ad 171, .inl (D.2 9, 6, .inl (fun _ => 0))), (ad 172, .inl (D.2 9, 60, .inl (fun _ => 0)))]
set_option maxRecDepth 100000 in
set_option maxHeartbeats 4000000 in
theorem ws_E_ok (ad : Nat → Nat) (D : va_G × (Nat → ClassId)) : wsG (ad, D) sg0 = ws_E ad D := by
  unfold wsG ws_E
  rw [rng_NC]
  simp only [List.map_cons, List.map_nil, ce_0, ce_1, ce_2, ce_3, ce_4, ce_5, ce_6, ce_7, ce_8, ce_9, ce_10, ce_11, ce_12, ce_13, ce_14, ce_15, ce_16, ce_17, ce_18, ce_19, ce_20, ce_21, ce_22, ce_23, ce_24, ce_25, ce_26, ce_27, ce_28, ce_29, ce_30, ce_31, ce_32, ce_33, ce_34, ce_35, ce_36, ce_37, ce_38, ce_39, ce_40, ce_41, ce_42, ce_43, ce_44, ce_45, ce_46, ce_47, ce_48, ce_49, ce_50, ce_51, ce_52, ce_53, ce_54, ce_55, ce_56, ce_57, ce_58, ce_59, ce_60, ce_61, ce_62, ce_63, ce_64, ce_65, ce_66, ce_67, ce_68, ce_69, ce_70, ce_71, ce_72, ce_73, ce_74, ce_75, ce_76, ce_77, ce_78, ce_79, ce_80, ce_81, ce_82, ce_83, ce_84, ce_85, ce_86, ce_87, ce_88, ce_89, ce_90, ce_91, ce_92, ce_93, ce_94, ce_95, ce_96, ce_97, ce_98, ce_99, ce_100, ce_101, ce_102, ce_103, ce_104, ce_105, ce_106, ce_107, ce_108, ce_109, ce_110, ce_111, ce_112, ce_113, ce_114, ce_115, ce_116, ce_117, ce_118, ce_119, ce_120, ce_121, ce_122, ce_123, ce_124, ce_125, ce_126, ce_127, ce_128, ce_129, ce_130, ce_131, ce_132, ce_133, ce_134, ce_135, ce_136, ce_137, ce_138, ce_139, ce_140, ce_141, ce_142, ce_143, ce_144, ce_145, ce_146, ce_147, ce_148, ce_149, ce_150, ce_151, ce_152, ce_153, ce_154, ce_155, ce_156, ce_157, ce_158, ce_159, ce_160, ce_161, ce_162, ce_163, ce_164, ce_165, ce_166, ce_167, ce_168, ce_169, ce_170, ce_171, ce_172]

def CxS (g : GG) (b L : Nat) (xs : Nat → Int32) (ws : va_W) : State → Array Value → Heap → List Loc → Prop := fun s args H locs =>
  (args = #[Value.ref b] ∧ NA s) ∧ va_K g.2.1 vwCl (tysG g) s ∧ va_P g.2.1 vwCl ws H ∧ va_D (fun q => s.heap.size ≤ q) ws ∧ va_S (fun q => s.heap.size ≤ q) s.heap H locs ∧ va_X b L xs s s.heap ∧ b < s.heap.size
def VS (l : Launch) (g : GG) (b L : Nat) (xs : Nat → Int32) (k sl pc : Nat) (lv : List (Nat × Value)) (st : List Value) (ws : va_W) : Prop :=
  VX l room_1 R_law code 4 MtL (CxS g b L xs ws) (fun below args s => lw_Z below args s) k sl pc lv st
section VS
variable {l : Launch} {g : GG} {b L : Nat} {xs : Nat → Int32} {k sl pc : Nat} {lv : List (Nat × Value)} {st : List Value} {ws : va_W}
theorem ws_new {idx ci N : Nat} {C : String} {T : u_T} {ty : Nat → FieldType} (fs : List Value) (hd : decode code pc = .ok (.new idx, 3)) (hk : KI ci C T N ty) (hl0 : Cond.classLink R_law idx C ∈ lw_g) (hi : Cond.instantiable C N ∈ lw_g) (hini : Cond.initialized C ∈ lw_g) (hfs : ∀ j, j < N → defaultValue (ty j) = vp_V fs j) (hkc : k + 1 ≤ 600000) (hks : sl + N ≤ 7302250)
    (kk : ∀ q : Nat, VS l g b L xs (k + 1) (sl + N) (pc + 3) lv (.ref q :: st) (ws ++ [(q, .inr (ci, fs))])) : VS l g b L xs k sl pc lv st ws := by
  intro p e s m args below meth c H locs ls hx hb hml hM hown hts hC hl
  obtain ⟨hNA, hK, hP, hD, hS, hX⟩ := hC
  refine va_new (D := g.2.1) (cl := vwCl) hx hb hts hk.2.1 ty hk.2.2.1 hown (hts _ hl0) (hts _ hi) (hts _ hini) hK hP hD hS (fun q h => h) hk.1 hfs hkc hks hd (fun q H1 hP1 hD1 hS1 => ?_)
  exact kk q p e s m args below meth c H1 locs ls hx hb hml hM hown hts ⟨hNA, hK, hP1, hD1, hS1, hX⟩ hl
theorem ws_callI {y : MethodName} {cy : ByteArray} {ny idx d' mc' ms' q : Nat} {x : Nat × va_E} {post1 : va_W → Prop} {wp : va_W} (hd : decode code pc = .ok (.invokespecial idx, 3)) (hM : ∀ z, CB l g d' y cy ny q [x] z post1 mc' ms')
    (hw : Cond.code y cy ny none ∈ lw_g ∧ Cond.initialized y.cls ∈ lw_g ∧ Cond.instanceMethod y ∈ lw_g ∧ y.name = "<init>" ∧ (y.cls ≠ "java/lang/invoke/MethodHandle" ∧ y.cls ≠ "java/lang/invoke/VarHandle" ∧ (parseMethodDescriptor y.desc).map (fun d => d.parameters.length) = some 0) ∧ ny ≤ 20)
    (hl0 : Cond.methodLink R_law idx y ∈ lw_g) (hdd : d' ≤ 20) (hst : (st.map fun v => v.category).sum ≤ 8) (hkc : k + mc' ≤ 600000) (hks : sl + ms' ≤ 7302250) (hws : ws = wp ++ [x])
    (kk : ∀ w, post1 w → VS l g b L xs (k + mc') (sl + ms') (pc + 3) lv st (wp ++ w)) : VS l g b L xs k sl pc lv (.ref q :: st) ws := by
  intro p e s m args below meth c H locs ls hx hb hml hM0 hown hts hC hl
  subst hws
  obtain ⟨⟨hag, hNA⟩, hK, hP, hD, hS, hX⟩ := hC
  obtain ⟨h1, h2, h3, h4, h5, h6⟩ := hw
  have hGi : GoodIn lw_g (Cond.code y cy ny none :: lw_g) := by
    refine goodIn_sub (fun w hw => ?_) ?_
    · rcases List.mem_cons.mp hw with rfl | h
      · exact h1
      · exact h
    · rw [List.all_cons, lw_good, Bool.and_true]
      exact List.all_eq_true.mp lw_good _ h1
  have hR : (rmC d' mc' ms').frames + 1 ≤ room_1.frames ∧ 8 + (ny + 11) + (rmC d' mc' ms').locals ≤ room_1.locals := ⟨by show d' + 1 ≤ 2048; omega, by show 8 + (ny + 11) + 48 * d' ≤ 84000; omega⟩
  have hxi : (wp ++ [x])[wp.length]? = some x := by simp
  have hPx : va_P g.2.1 vwCl [x] H := fun i z hz => by
    have hi : i < 1 := (List.getElem?_eq_some_iff.mp hz).1
    rw [show i = 0 by omega] at hz
    cases hz
    exact hP wp.length x hxi
  have hDx : va_D (fun _ => True) [x] := ⟨fun i j a b ha hb _ => by
    have hi : i < 1 := (List.getElem?_eq_some_iff.mp ha).1
    have hj : j < 1 := (List.getElem?_eq_some_iff.mp hb).1
    omega, fun _ _ _ => trivial⟩
  have hF : ∀ z, va_A [x] H.size z → s.heap.size ≤ z := by
    intro z hz
    rcases hz with ⟨i, e, hz⟩ | hz
    · have hi : i < 1 := (List.getElem?_eq_some_iff.mp hz).1
      rw [show i = 0 by omega] at hz
      cases hz
      exact hD.2 wp.length _ hxi
    · exact Nat.le_trans hS.1 hz
  have hpre : PreS s H (PcB g q [x] H.size) (.ref q :: []) := ⟨CB.blind, fun U hU hW => ⟨rfl, NA.warm hW hNA, by rw [hU], by rw [hU]; exact hPx, va_K.moved hW.alike hK, hDx⟩⟩
  have hr := va_runI (l := l) (e := e) (R := room_1) (below := below) (meth := meth) (locs := locs) (cells := k) (slots := sl) (As := []) (rest := st) (g := F0 m pc ls (.ref q :: st)) (nL := 4) ⟨hx, hb, hml, hown, hts⟩ (hM H.size) ⟨callB_of 0 hts hGi rfl rfl rfl (hts _ h2) (hts _ hl0) h5 hR, h4, hts _ h3⟩ hpre rfl rfl hl.1 rfl (lv_room hst) hd ⟨hkc, hks⟩
  intro T hT X
  obtain ⟨v, st₀, t, T', L0, e0, X', hL, e1, e2, ⟨⟨hv, w, hpw, hPw, hKw, hDw⟩, hz, hf⟩, stp⟩ := hr T hT X
  cases hv
  rw [e0] at hz hf
  rw [← e1] at hPw hz hf
  obtain ⟨hP2, hD2⟩ := join_last hP hD hf hF hPw hDw
  obtain ⟨t2, a1, b1⟩ := kk w hpw p e s m args below meth c T'.heap (locs ++ L0) ls hx hb hml hM0 hown hts ⟨⟨hag, hNA⟩, hK, hP2, hD2,
    ⟨Nat.le_trans hS.1 hz, fun z q1 q2 => by rw [hf z (Nat.lt_of_lt_of_le q1 hS.1) (fun q3 => q2 (hF z q3))]; exact hS.2.1 z q1 q2, fun z hz => by
      rcases List.mem_append.mp hz with h | h
      · exact hS.2.2 z h
      · exact hF _ (hL z h)⟩, hX⟩ hl T' rfl X'
  exact ⟨t2, stp t2 a1, b1⟩
theorem ws_widen (h1 : k ≤ 600000) (h2 : sl ≤ 7302250) (kk : VS l g b L xs 600000 7302250 pc lv st ws) : VS l g b L xs k sl pc lv st ws := by
  intro p e s m args below meth c H locs ls hx hb hml hM hown hts hC hl
  exact W.widen (k := 600000) (n := 7302250) h1 h2 (kk p e s m args below meth c H locs ls hx hb hml hM hown hts hC hl)
theorem ws_to (ad : Nat → Nat) (h : ws = ws_E ad g.2) (kk : VL l (ad, g.2) b L xs pc lv st sg0) : VS l g b L xs 600000 7302250 pc lv st ws := by
  intro p e s m args below meth c H locs ls hx hb hml hM hown hts hC hl
  obtain ⟨⟨hag, hNA⟩, hK, hP, hD, hS, hX⟩ := hC
  rw [h, ← ws_E_ok] at hP hD
  refine kk p e s m args below meth c H locs ls hx hb hml hM hown hts ⟨hag, hK, fun i j hi hj he => ?_, fun q hq => ?_, hP, hS, hX⟩ hl
  · exact hD.1 i j _ _ (ws_at (ad, g.2) sg0 hi) (ws_at (ad, g.2) sg0 hj) he
  · exact hD.2 q _ (ws_at (ad, g.2) sg0 hq)
end VS
theorem arr_prim {s : State} {args : Array Value} {ty : FieldType} (hty : ty = .int ∨ ty = .boolean ∨ ty = .long) (h : (Cond.arrayClass ty).before args s = true) : ∃ cA : ClassId, ArrOfT s cA ty ∧ va_RA s cA ty := by
  obtain ⟨cA, kA, comp, h1, h2, h3⟩ := Cond.arrayClass_spec h
  rcases hty with rfl | rfl | rfl <;> exact ⟨cA, fun N z => ⟨(fun k h => by cases h), kA, h2, comp, h3⟩, h1⟩
theorem arr_obj {s : State} {args : Array Value} {C : String} (h : (Cond.arrayOver (.object C)).before args s = true) : ∃ cA : ClassId, ArrOfT s cA (.object C) ∧ va_RA s cA (.object C) := by
  obtain ⟨comp, cA, kA, h1, h2, h3, h4, h5⟩ := Cond.arrayOver_spec h
  exact ⟨cA, fun N z => ⟨(fun k h => by cases h), kA, h3, comp, h4⟩, kA, comp, h3, h4, h1, h5⟩

theorem cwi_X8 : Cond.code yX8_init cX8_init 2 none ∈ lw_g ∧ Cond.initialized yX8_init.cls ∈ lw_g ∧ Cond.instanceMethod yX8_init ∈ lw_g ∧ yX8_init.name = "<init>" ∧ (yX8_init.cls ≠ "java/lang/invoke/MethodHandle" ∧ yX8_init.cls ≠ "java/lang/invoke/VarHandle" ∧ (parseMethodDescriptor yX8_init.desc).map (fun d => d.parameters.length) = some 0) ∧ 2 ≤ 20 := ⟨lw_in 71 (by decide +kernel) rfl, lw_in 54 (by decide +kernel) rfl, lw_in 70 (by decide +kernel) rfl, rfl, by decide +kernel, by decide⟩
theorem cwi_X9 : Cond.code yX9_init cX9_init 1 none ∈ lw_g ∧ Cond.initialized yX9_init.cls ∈ lw_g ∧ Cond.instanceMethod yX9_init ∈ lw_g ∧ yX9_init.name = "<init>" ∧ (yX9_init.cls ≠ "java/lang/invoke/MethodHandle" ∧ yX9_init.cls ≠ "java/lang/invoke/VarHandle" ∧ (parseMethodDescriptor yX9_init.desc).map (fun d => d.parameters.length) = some 0) ∧ 1 ≤ 20 := ⟨lw_in 846 (by decide +kernel) rfl, lw_in 62 (by decide +kernel) rfl, lw_in 845 (by decide +kernel) rfl, rfl, by decide +kernel, by decide⟩
set_option maxRecDepth 100000 in
set_option maxHeartbeats 8000000 in
theorem start_of {p : Program} {e : Env} {s : State} {m : MethodId} {below : List Frame} {meth : Method} {c : Code} (l : Launch) {b L : Nat} {xs : Nat → Int32} (hL : L ≤ 3072) {Rel : SS → Prop} (hp : PureOK Rel) (h0 : Rel sg0) (C0 : lw_At p s m meth c b L xs) : W p l e room_1 s m #[Value.ref b] below meth c s.heap [] 0 0 (lw_Z below #[Value.ref b] s) (entryFrame m ([Value.ref b] : List Value).toArray 4) := by
  obtain ⟨hx, hb, hr, hml, hown, hts, hX, hbl, hlocks, hgv⟩ := C0
  obtain ⟨c0, iS0, hKn0⟩ := u_known (C := RX0) (T := TX0) (N := 10) (n := 10) hts inX0 (hts (.instantiable RX0 10) (List.mem_of_getElem? (i := 183) (by decide +kernel)))
  obtain ⟨c1, iS1, hKn1⟩ := u_known (C := RX1) (T := TX1) (N := 2) (n := 2) hts inX1 (hts (.instantiable RX1 2) (List.mem_of_getElem? (i := 167) (by decide +kernel)))
  obtain ⟨c2, iS2, hKn2⟩ := u_known (C := RX3) (T := TX3) (N := 3) (n := 3) hts inX3 (hts (.instantiable RX3 3) (List.mem_of_getElem? (i := 147) (by decide +kernel)))
  obtain ⟨c3, iS3, hKn3⟩ := u_known (C := RX4) (T := TX4) (N := 5) (n := 5) hts inX4 (hts (.instantiable RX4 5) (List.mem_of_getElem? (i := 76) (by decide +kernel)))
  obtain ⟨c4, iS4, hKn4⟩ := u_known (C := RX5) (T := TX5) (N := 2) (n := 2) hts inX5 (hts (.instantiable RX5 2) (List.mem_of_getElem? (i := 258) (by decide +kernel)))
  obtain ⟨c5, iS5, hKn5⟩ := u_known (C := RX6) (T := TX6) (N := 7) (n := 7) hts inX6 (hts (.instantiable RX6 7) (List.mem_of_getElem? (i := 224) (by decide +kernel)))
  obtain ⟨c6, iS6, hKn6⟩ := u_known (C := RX7) (T := TX7) (N := 6) (n := 6) hts inX7 (hts (.instantiable RX7 6) (List.mem_of_getElem? (i := 83) (by decide +kernel)))
  obtain ⟨c7, iS7, hKn7⟩ := u_known (C := RX8) (T := TX8) (N := 12) (n := 12) hts inX8 (hts (.instantiable RX8 12) (List.mem_of_getElem? (i := 68) (by decide +kernel)))
  obtain ⟨c8, iS8, hKn8⟩ := u_known (C := RX9) (T := TX9) (N := 38) (n := 38) hts inX9 (hts (.instantiable RX9 38) (List.mem_of_getElem? (i := 843) (by decide +kernel)))
  obtain ⟨z9, hz9⟩ := arr_prim (ty := .int) (Or.inl rfl) (hts _ (List.mem_of_getElem? (i := 122) (by decide +kernel)))
  obtain ⟨z10, hz10⟩ := arr_prim (ty := .boolean) (Or.inr (Or.inl rfl)) (hts _ (List.mem_of_getElem? (i := 255) (by decide +kernel)))
  obtain ⟨z11, hz11⟩ := arr_prim (ty := .long) (Or.inr (Or.inr rfl)) (hts _ (List.mem_of_getElem? (i := 222) (by decide +kernel)))
  obtain ⟨z12, hz12⟩ := arr_obj (C := "WheelOnWheel$Ring") (hts _ (List.mem_of_getElem? (i := 153) (by decide +kernel)))
  obtain ⟨z13, hz13⟩ := arr_obj (C := "WheelOnWheel$Wheel") (hts _ (List.mem_of_getElem? (i := 82) (by decide +kernel)))
  obtain ⟨z14, hz14⟩ := arr_obj (C := "WheelOnWheel$Row") (hts _ (List.mem_of_getElem? (i := 181) (by decide +kernel)))
  obtain ⟨dC, dI, hKc⟩ : ∃ (dC : Nat → ClassId) (dI : Nat → Nat → Nat), ∀ (k : Nat) (q : vw_C), vwCl[k]? = some q → u_Kn s q.1 q.2.1 q.2.2 (dC k) (dI k) := by
    refine ⟨fun k => if k = 0 then c0 else if k = 1 then c1 else if k = 2 then c2 else if k = 3 then c3 else if k = 4 then c4 else if k = 5 then c5 else if k = 6 then c6 else if k = 7 then c7 else c8, fun k => if k = 0 then iS0 else if k = 1 then iS1 else if k = 2 then iS2 else if k = 3 then iS3 else if k = 4 then iS4 else if k = 5 then iS5 else if k = 6 then iS6 else if k = 7 then iS7 else iS8, ?_⟩
    intro k q hq
    match k, hq with
    | 0, hq => cases hq; exact hKn0
    | 1, hq => cases hq; exact hKn1
    | 2, hq => cases hq; exact hKn2
    | 3, hq => cases hq; exact hKn3
    | 4, hq => cases hq; exact hKn4
    | 5, hq => cases hq; exact hKn5
    | 6, hq => cases hq; exact hKn6
    | 7, hq => cases hq; exact hKn7
    | 8, hq => cases hq; exact hKn8
    | k + 9, hq => simp [vwCl] at hq
  obtain ⟨g, hg⟩ : ∃ g : GG, g = (fun _ => 0, (dC, dI), fun k => if k = 9 then z9 else if k = 10 then z10 else if k = 11 then z11 else if k = 12 then z12 else if k = 13 then z13 else z14) := ⟨_, rfl⟩
  have hK : va_K g.2.1 vwCl (tysG g) s := by
    subst hg
    refine ⟨hKc, fun k q hq => ?_⟩
    match k, hq with
    | 0, hq => cases hq; exact hz9
    | 1, hq => cases hq; exact hz10
    | 2, hq => cases hq; exact hz11
    | 3, hq => cases hq; exact hz12
    | 4, hq => cases hq; exact hz13
    | 5, hq => cases hq; exact hz14
    | k + 6, hq => simp [tysG] at hq
  have hS : va_S (fun q : Nat => s.heap.size ≤ q) s.heap s.heap [] := va_S.rf
  have hP : va_P g.2.1 vwCl [] s.heap := fun k q h => by simp at h
  have hD : va_D (fun q : Nat => s.heap.size ≤ q) [] := ⟨fun i j p q h => by simp at h, fun k q h => by simp at h⟩
  have V : VS l g b L xs 0 0 0 [(0, .ref b)] [] [] := by
    refine ws_new (pc := 0) [.null, .null, .null, .int 0, .null, .null, .null, .null, .null, .null, .null, .null] dL_law_0 ki_X8 (lw_in 67 (by decide +kernel) rfl) (lw_in 68 (by decide +kernel) rfl) (lw_in 54 (by decide +kernel) rfl) (by decide +kernel) (by decide) (by decide) (fun a0 => ?_)
    refine vx_dup (pc := 3) dL_law_3 rfl ?_
    refine ws_callI (pc := 4) (k := 1) (sl := 12) (q := a0) dL_law_4 (fun z => k_X8 l g a0 z) cwi_X8 (lw_in 69 (by decide +kernel) rfl) (by decide) (Nat.le_of_ble_eq_true rfl) (Nat.le_of_ble_eq_true rfl) (Nat.le_of_ble_eq_true rfl) rfl (fun w0 hw0 => ?_)
    refine vx_astore_n (pc := 7) [(1, .ref a0), (0, .ref b)] dL_law_7 rfl (by decide) rfl ?_
    refine ws_new (pc := 8) (k := 143) (sl := 3075) [.int 0, .null, .null, .int 0, .null, .null, .null, .null, .null, .null, .null, .int 0, .null, .null, .null, .int 0, .null, .null, .int 0, .null, .null, .null, .null, .int 0, .int 0, .null, .null, .int 0, .null, .null, .null, .null, .null, .null, .null, .null, .null, .int 0] dL_law_8 ki_X9 (lw_in 842 (by decide +kernel) rfl) (lw_in 843 (by decide +kernel) rfl) (lw_in 62 (by decide +kernel) rfl) (by decide +kernel) (by decide) (by decide) (fun a143 => ?_)
    refine vx_dup (pc := 11) dL_law_11 rfl ?_
    refine ws_callI (pc := 12) (k := 144) (sl := 3113) (q := a143) dL_law_12 (fun z => k_X9 l g a143 z) cwi_X9 (lw_in 844 (by decide +kernel) rfl) (by decide) (Nat.le_of_ble_eq_true rfl) (Nat.le_of_ble_eq_true rfl) (Nat.le_of_ble_eq_true rfl) rfl (fun w143 hw143 => ?_)
    refine vx_astore_n (pc := 15) [(2, .ref a143), (1, .ref a0), (0, .ref b)] dL_law_15 rfl (by decide) rfl ?_
    refine vx_iconst (pc := 16) 0 dL_law_16 (by decide) ?_
    refine vx_istore_n (pc := 17) [(3, .int 0), (2, .ref a143), (1, .ref a0), (0, .ref b)] dL_law_17 rfl (by decide) rfl ?_
    refine ws_widen (pc := 18) (k := 173) (sl := 5695) (Nat.le_of_ble_eq_true rfl) (Nat.le_of_ble_eq_true rfl) ?_
    obtain ⟨a113, a114, a115, a135, a136, a137, a138, a139, a140, a141, a142, w1, w11, w21, w31, w116, w122, w128, a1, a11, a21, a31, a116, a122, a128, ⟨a2, a3, a4, a5, a6, a7, a8, a9, a10, rfl⟩, ⟨a12, a13, a14, a15, a16, a17, a18, a19, a20, rfl⟩, ⟨a22, a23, a24, a25, a26, a27, a28, a29, a30, rfl⟩, ⟨a32, w33, w43, w53, w63, w73, w83, w93, w103, a33, a43, a53, a63, a73, a83, a93, a103, ⟨a34, a35, a36, a37, a38, a39, a40, a41, a42, rfl⟩, ⟨a44, a45, a46, a47, a48, a49, a50, a51, a52, rfl⟩, ⟨a54, a55, a56, a57, a58, a59, a60, a61, a62, rfl⟩, ⟨a64, a65, a66, a67, a68, a69, a70, a71, a72, rfl⟩, ⟨a74, a75, a76, a77, a78, a79, a80, a81, a82, rfl⟩, ⟨a84, a85, a86, a87, a88, a89, a90, a91, a92, rfl⟩, ⟨a94, a95, a96, a97, a98, a99, a100, a101, a102, rfl⟩, ⟨a104, a105, a106, a107, a108, a109, a110, a111, a112, rfl⟩, rfl⟩, ⟨a117, a118, a119, a120, a121, rfl⟩, ⟨a123, a124, a125, a126, a127, rfl⟩, ⟨a129, a130, a131, a132, a133, a134, rfl⟩, rfl⟩ := hw0
    obtain ⟨a144, a145, a146, a147, a148, a149, a150, a151, a152, a153, a154, a155, a156, a157, a158, a159, a160, a161, a162, a163, a164, a165, a166, a167, a168, a169, a170, a171, a172, rfl⟩ := hw143
    refine ws_to (pc := 18) (fun q => [a0, a1, a2, a3, a4, a5, a6, a7, a8, a9, a10, a11, a12, a13, a14, a15, a16, a17, a18, a19, a20, a21, a22, a23, a24, a25, a26, a27, a28, a29, a30, a31, a32, a33, a34, a35, a36, a37, a38, a39, a40, a41, a42, a43, a44, a45, a46, a47, a48, a49, a50, a51, a52, a53, a54, a55, a56, a57, a58, a59, a60, a61, a62, a63, a64, a65, a66, a67, a68, a69, a70, a71, a72, a73, a74, a75, a76, a77, a78, a79, a80, a81, a82, a83, a84, a85, a86, a87, a88, a89, a90, a91, a92, a93, a94, a95, a96, a97, a98, a99, a100, a101, a102, a103, a104, a105, a106, a107, a108, a109, a110, a111, a112, a113, a114, a115, a116, a117, a118, a119, a120, a121, a122, a123, a124, a125, a126, a127, a128, a129, a130, a131, a132, a133, a134, a135, a136, a137, a138, a139, a140, a141, a142, a143, a144, a145, a146, a147, a148, a149, a150, a151, a152, a153, a154, a155, a156, a157, a158, a159, a160, a161, a162, a163, a164, a165, a166, a167, a168, a169, a170, a171, a172].getD q 0) rfl ?_
    refine vx_sub (pc := 18) [3, 2, 1, 0] [(0, .ref b), (1, .ref a0), (2, .ref a143), (3, .int 0)] rfl ?_
    exact law_loop l _ hp hL (L + 7) 0 sg0 (by omega) (by omega) h0
  rw [lg_entry_eq]
  exact V p e s m _ below meth c s.heap [] _ hx hb hml ⟨hr, hlocks⟩ hown (fun w h => hts w (List.mem_filter.mp h).1) ⟨⟨rfl, NA.of hts⟩, hK, hP, hD, hS, hX, hbl⟩ (lv_entry [.ref b] (Nat.le_of_ble_eq_true rfl))
