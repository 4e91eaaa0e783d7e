/-! THE FRAME: one flat world of cells with fixed shapes, contracts over it (by wip/whole/gen_frame.py) -/
abbrev SS : Type := (Nat → Nat → Int32) × (Nat → Nat → Int64)
abbrev GG : Type := (Nat → Nat) × va_G × (Nat → ClassId)
def tabL : List (Nat × Nat × List (Option Nat)) := [
  (7, 12, [some 1, some 11, some 21, none, some 31, some 113, some 115, some 116, some 122, some 128, some 135, some 136]),
  (3, 5, [none, none, some 2, some 3, some 4]),
  (9, 60, []),
  (9, 60, []),
  (13, 6, [some 5, some 6, some 7, some 8, some 9, some 10]),
  (6, 6, [none, none, none, none, none, none]),
  (6, 6, [none, none, none, none, none, none]),
  (6, 6, [none, none, none, none, none, none]),
  (6, 6, [none, none, none, none, none, none]),
  (6, 6, [none, none, none, none, none, none]),
  (6, 6, [none, none, none, none, none, none]),
  (3, 5, [none, none, some 12, some 13, some 14]),
  (9, 60, []),
  (9, 60, []),
  (13, 6, [some 15, some 16, some 17, some 18, some 19, some 20]),
  (6, 6, [none, none, none, none, none, none]),
  (6, 6, [none, none, none, none, none, none]),
  (6, 6, [none, none, none, none, none, none]),
  (6, 6, [none, none, none, none, none, none]),
  (6, 6, [none, none, none, none, none, none]),
  (6, 6, [none, none, none, none, none, none]),
  (3, 5, [none, none, some 22, some 23, some 24]),
  (9, 60, []),
  (9, 60, []),
  (13, 6, [some 25, some 26, some 27, some 28, some 29, some 30]),
  (6, 6, [none, none, none, none, none, none]),
  (6, 6, [none, none, none, none, none, none]),
  (6, 6, [none, none, none, none, none, none]),
  (6, 6, [none, none, none, none, none, none]),
  (6, 6, [none, none, none, none, none, none]),
  (6, 6, [none, none, none, none, none, none]),
  (2, 3, [some 32, none, none]),
  (12, 8, [some 33, some 43, some 53, some 63, some 73, some 83, some 93, some 103]),
  (3, 5, [none, none, some 34, some 35, some 36]),
  (9, 60, []),
  (9, 60, []),
  (13, 6, [some 37, some 38, some 39, some 40, some 41, some 42]),
  (6, 6, [none, none, none, none, none, none]),
  (6, 6, [none, none, none, none, none, none]),
  (6, 6, [none, none, none, none, none, none]),
  (6, 6, [none, none, none, none, none, none]),
  (6, 6, [none, none, none, none, none, none]),
  (6, 6, [none, none, none, none, none, none]),
  (3, 5, [none, none, some 44, some 45, some 46]),
  (9, 60, []),
  (9, 60, []),
  (13, 6, [some 47, some 48, some 49, some 50, some 51, some 52]),
  (6, 6, [none, none, none, none, none, none]),
  (6, 6, [none, none, none, none, none, none]),
  (6, 6, [none, none, none, none, none, none]),
  (6, 6, [none, none, none, none, none, none]),
  (6, 6, [none, none, none, none, none, none]),
  (6, 6, [none, none, none, none, none, none]),
  (3, 5, [none, none, some 54, some 55, some 56]),
  (9, 60, []),
  (9, 60, []),
  (13, 6, [some 57, some 58, some 59, some 60, some 61, some 62]),
  (6, 6, [none, none, none, none, none, none]),
  (6, 6, [none, none, none, none, none, none]),
  (6, 6, [none, none, none, none, none, none]),
  (6, 6, [none, none, none, none, none, none]),
  (6, 6, [none, none, none, none, none, none]),
  (6, 6, [none, none, none, none, none, none]),
  (3, 5, [none, none, some 64, some 65, some 66]),
  (9, 60, []),
  (9, 60, []),
  (13, 6, [some 67, some 68, some 69, some 70, some 71, some 72]),
  (6, 6, [none, none, none, none, none, none]),
  (6, 6, [none, none, none, none, none, none]),
  (6, 6, [none, none, none, none, none, none]),
  (6, 6, [none, none, none, none, none, none]),
  (6, 6, [none, none, none, none, none, none]),
  (6, 6, [none, none, none, none, none, none]),
  (3, 5, [none, none, some 74, some 75, some 76]),
  (9, 60, []),
  (9, 60, []),
  (13, 6, [some 77, some 78, some 79, some 80, some 81, some 82]),
  (6, 6, [none, none, none, none, none, none]),
  (6, 6, [none, none, none, none, none, none]),
  (6, 6, [none, none, none, none, none, none]),
  (6, 6, [none, none, none, none, none, none]),
  (6, 6, [none, none, none, none, none, none]),
  (6, 6, [none, none, none, none, none, none]),
  (3, 5, [none, none, some 84, some 85, some 86]),
  (9, 60, []),
  (9, 60, []),
  (13, 6, [some 87, some 88, some 89, some 90, some 91, some 92]),
  (6, 6, [none, none, none, none, none, none]),
  (6, 6, [none, none, none, none, none, none]),
  (6, 6, [none, none, none, none, none, none]),
  (6, 6, [none, none, none, none, none, none]),
  (6, 6, [none, none, none, none, none, none]),
  (6, 6, [none, none, none, none, none, none]),
  (3, 5, [none, none, some 94, some 95, some 96]),
  (9, 60, []),
  (9, 60, []),
  (13, 6, [some 97, some 98, some 99, some 100, some 101, some 102]),
  (6, 6, [none, none, none, none, none, none]),
  (6, 6, [none, none, none, none, none, none]),
  (6, 6, [none, none, none, none, none, none]),
  (6, 6, [none, none, none, none, none, none]),
  (6, 6, [none, none, none, none, none, none]),
  (6, 6, [none, none, none, none, none, none]),
  (3, 5, [none, none, some 104, some 105, some 106]),
  (9, 60, []),
  (9, 60, []),
  (13, 6, [some 107, some 108, some 109, some 110, some 111, some 112]),
  (6, 6, [none, none, none, none, none, none]),
  (6, 6, [none, none, none, none, none, none]),
  (6, 6, [none, none, none, none, none, none]),
  (6, 6, [none, none, none, none, none, none]),
  (6, 6, [none, none, none, none, none, none]),
  (6, 6, [none, none, none, none, none, none]),
  (1, 2, [some 114, none]),
  (9, 72, []),
  (14, 3, [some 137, some 139, some 141]),
  (0, 10, [none, none, none, none, none, some 117, some 118, some 119, some 120, some 121]),
  (9, 60, []),
  (9, 60, []),
  (9, 60, []),
  (9, 60, []),
  (11, 60, []),
  (0, 10, [none, none, none, none, none, some 123, some 124, some 125, some 126, some 127]),
  (9, 60, []),
  (9, 60, []),
  (9, 60, []),
  (9, 60, []),
  (11, 60, []),
  (5, 7, [some 129, some 130, some 131, some 132, some 133, some 134, none]),
  (9, 6, []),
  (10, 6, []),
  (9, 100, []),
  (9, 100, []),
  (9, 100, []),
  (9, 60, []),
  (6, 6, [none, none, none, none, none, none]),
  (9, 7, []),
  (4, 2, [none, some 138]),
  (9, 40, []),
  (4, 2, [none, some 140]),
  (9, 40, []),
  (4, 2, [none, some 142]),
  (9, 40, []),
  (8, 38, [none, some 144, some 145, none, some 146, some 147, some 148, some 149, some 150, some 151, some 152, none, some 153, some 154, some 155, none, some 156, some 157, none, some 158, some 159, some 160, some 161, none, none, some 162, some 163, none, some 164, some 165, some 166, some 167, some 168, some 169, some 170, some 171, some 172, none]),
  (9, 60, []),
  (9, 60, []),
  (9, 6, []),
  (9, 6, []),
  (9, 6, []),
  (9, 6, []),
  (9, 6, []),
  (9, 6, []),
  (9, 72, []),
  (9, 120, []),
  (9, 3, []),
  (9, 1056, []),
  (9, 158, []),
  (9, 158, []),
  (9, 7, []),
  (9, 60, []),
  (9, 60, []),
  (9, 60, []),
  (9, 60, []),
  (9, 60, []),
  (11, 60, []),
  (11, 60, []),
  (11, 60, []),
  (9, 100, []),
  (9, 100, []),
  (9, 100, []),
  (9, 6, []),
  (9, 6, []),
  (9, 60, [])]
def NC : Nat := 173
def kd (q : Nat) : Nat := match tabL[q]? with | some t => t.1 | none => 99
def ln (q : Nat) : Nat := match tabL[q]? with | some t => t.2.1 | none => 0
def rf (q j : Nat) : Option Nat := match tabL[q]? with | some t => t.2.2.getD j none | none => none
def rid (q j : Nat) : Nat := (rf q j).getD 0
theorem kd_lt {q k : Nat} (h : kd q = k) (hk : k < 99) : q < NC := by
  rcases Nat.lt_or_ge q NC with h1 | h1
  · exact h1
  · have e : tabL[q]? = none := List.getElem?_eq_none (by rw [show tabL.length = NC from by decide +kernel]; exact h1)
    rw [kd, e] at h
    dsimp only at h
    omega
def cellV (g : GG) (σ : SS) (q j : Nat) : Value := match rf q j with | some i => .ref (g.1 i) | none => .int (σ.1 q j)
def cellE (g : GG) (σ : SS) (q : Nat) : va_E := if kd q < 9 then .inr (kd q, (List.range (ln q)).map (cellV g σ q))
  else .inl (g.2.2 (kd q), ln q, if kd q = 11 then .inr (.inl (σ.2 q)) else if kd q < 11 then .inl (σ.1 q) else .inr (.inr (.inr (.inr (fun j => (rf q j).map g.1)))))
def wsG (g : GG) (σ : SS) : va_W := (List.range NC).map (fun q => (g.1 q, cellE g σ q))
def tysG (g : GG) : List (ClassId × FieldType) := [(g.2.2 9, .int), (g.2.2 10, .boolean), (g.2.2 11, .long), (g.2.2 12, .object "WheelOnWheel$Ring"), (g.2.2 13, .object "WheelOnWheel$Wheel"), (g.2.2 14, .object "WheelOnWheel$Row")]
def Gok (g : GG) : Prop := ∀ i j, i < NC → j < NC → g.1 i = g.1 j → i = j
def Aw (g : GG) : Nat → Prop := fun a => ∃ q, q < NC ∧ a = g.1 q
theorem ws_at (g : GG) (σ : SS) {q : Nat} (h : q < NC) : (wsG g σ)[q]? = some (g.1 q, cellE g σ q) := by
  unfold wsG
  rw [List.getElem?_map, List.getElem?_range h]
  rfl
theorem ws_lt {g : GG} {σ : SS} {q : Nat} {x : Nat × va_E} (h : (wsG g σ)[q]? = some x) : q < NC ∧ x = (g.1 q, cellE g σ q) := by
  rcases Nat.lt_or_ge q NC with h1 | h1
  · rw [ws_at g σ h1] at h
    exact ⟨h1, (Option.some.inj h).symm⟩
  · rw [List.getElem?_eq_none (by simp [wsG]; exact h1)] at h
    cases h
theorem ws_D {g : GG} (σ : SS) (hG : Gok g) : va_D (Aw g) (wsG g σ) := by
  refine ⟨fun i j p q hi hj e => ?_, fun k q hk => ?_⟩
  · obtain ⟨h1, rfl⟩ := ws_lt hi
    obtain ⟨h2, rfl⟩ := ws_lt hj
    exact hG i j h1 h2 e
  · obtain ⟨h1, rfl⟩ := ws_lt hk
    exact ⟨k, h1, rfl⟩
def sI (σ : SS) (q j : Nat) (v : Int32) : SS := (fun a b => if a = q then (if b = j then v else σ.1 a b) else σ.1 a b, σ.2)
def sL (σ : SS) (q j : Nat) (v : Int64) : SS := (σ.1, fun a b => if a = q then (if b = j then v else σ.2 a b) else σ.2 a b)
def sC (σ : SS) (q : Nat) (f : Nat → Int32) : SS := (fun a b => if a = q then f b else σ.1 a b, σ.2)
theorem sI_eq (σ : SS) (q j : Nat) (v : Int32) : sI σ q j v = sC σ q (upd (σ.1 q) j v) := by
  refine Prod.ext ?_ rfl
  funext a b
  simp only [sI, sC, upd]
  by_cases h : a = q
  · subst h; simp
  · simp [h]
theorem cellE_other {g : GG} {σ σ' : SS} {q : Nat} (h1 : σ'.1 q = σ.1 q) (h2 : σ'.2 q = σ.2 q) : cellE g σ' q = cellE g σ q := by
  unfold cellE
  have e : cellV g σ' q = cellV g σ q := by funext j; unfold cellV; rw [h1]
  rw [e, h1, h2]
theorem ws_set {g : GG} {σ σ' : SS} {q : Nat} {e : va_E} (hq : q < NC) (he : cellE g σ' q = e) (h1 : ∀ a, a ≠ q → σ'.1 a = σ.1 a) (h2 : ∀ a, a ≠ q → σ'.2 a = σ.2 a) : (wsG g σ).set q (g.1 q, e) = wsG g σ' := by
  apply List.ext_getElem?
  intro k
  rw [List.getElem?_set]
  by_cases h : q = k
  · subst h
    rw [if_pos rfl, if_pos (by simp [wsG]; exact hq), ws_at g σ' hq, he]
  · rw [if_neg h]
    rcases Nat.lt_or_ge k NC with hk | hk
    · rw [ws_at g σ hk, ws_at g σ' hk, cellE_other (h1 k (Ne.symm h)) (h2 k (Ne.symm h))]
    · rw [List.getElem?_eq_none (by simp [wsG]; exact hk), List.getElem?_eq_none (by simp [wsG]; exact hk)]
theorem ce_obj {g : GG} {σ : SS} {q ci : Nat} (hk : kd q = ci) (hc : ci < 9) : cellE g σ q = .inr (ci, (List.range (ln q)).map (cellV g σ q)) := by
  unfold cellE
  rw [if_pos (by omega), hk]
theorem ce_int {g : GG} {σ : SS} {q c : Nat} (hk : kd q = c) (hc : c = 9 ∨ c = 10) : cellE g σ q = .inl (g.2.2 c, ln q, .inl (σ.1 q)) := by
  unfold cellE
  rw [if_neg (by omega), if_neg (by omega), if_pos (by omega), hk]
theorem ce_long {g : GG} {σ : SS} {q : Nat} (hk : kd q = 11) : cellE g σ q = .inl (g.2.2 11, ln q, .inr (.inl (σ.2 q))) := by
  unfold cellE
  rw [if_neg (by omega), if_pos (by omega), hk]
theorem ce_ref {g : GG} {σ : SS} {q c : Nat} (hk : kd q = c) (hc : 11 < c) : cellE g σ q = .inl (g.2.2 c, ln q, .inr (.inr (.inr (.inr (fun j => (rf q j).map g.1))))) := by
  unfold cellE
  rw [if_neg (by omega), if_neg (by omega), if_neg (by omega), hk]
theorem set_sI {g : GG} {σ : SS} {q j ci : Nat} {v : Int32} (hk : kd q = ci) (hc : ci < 9) (hj : j < ln q) (hr : rf q j = none) : (wsG g σ).set q (g.1 q, .inr (ci, ((List.range (ln q)).map (cellV g σ q)).set j (.int v))) = wsG g (sI σ q j v) := by
  refine ws_set (kd_lt hk (by omega)) ?_ (fun a h => ?_) (fun a h => rfl)
  · rw [ce_obj hk hc]
    congr 2
    apply List.ext_getElem?
    intro k
    rw [List.getElem?_set]
    by_cases h : j = k
    · subst h
      rw [if_pos rfl, if_pos (by simp; exact hj), List.getElem?_map, List.getElem?_range hj]
      simp [cellV, hr, sI]
    · rw [if_neg h]
      rcases Nat.lt_or_ge k (ln q) with hk | hk
      · rw [List.getElem?_map, List.getElem?_map, List.getElem?_range hk]
        simp [cellV, sI, Ne.symm h]
      · rw [List.getElem?_eq_none (by simp; exact hk), List.getElem?_eq_none (by simp; exact hk)]
  · funext b; simp [sI, h]
theorem set_sC {g : GG} {σ : SS} {q c : Nat} {f : Nat → Int32} (hk : kd q = c) (hc : c = 9 ∨ c = 10) : (wsG g σ).set q (g.1 q, .inl (g.2.2 c, ln q, .inl f)) = wsG g (sC σ q f) := by
  refine ws_set (kd_lt hk (by omega)) ?_ (fun a h => ?_) (fun a h => rfl)
  · rw [ce_int hk hc]
    congr 4
    funext b; simp [sC]
  · funext b; simp [sC, h]
theorem set_sL {g : GG} {σ : SS} {q j : Nat} {v : Int64} (hk : kd q = 11) : (wsG g σ).set q (g.1 q, .inl (g.2.2 11, ln q, .inr (.inl (vp_updL (σ.2 q) j v)))) = wsG g (sL σ q j v) := by
  refine ws_set (kd_lt hk (by omega)) ?_ (fun a h => rfl) (fun a h => ?_)
  · rw [ce_long hk]
    congr 5
    funext b; simp [sL, vp_updL]
  · funext b; simp [sL, h]
/-- the tables' words that a callee keeps -/
def lw_g : List Cond := lw_tbl.filter goodWord
theorem lw_good : lw_g.all goodWord = true := List.all_eq_true.mpr fun _ h => (List.mem_filter.mp h).2
theorem lw_in {w : Cond} (i : Nat) (h : lw_tbl[i]? = some w) (hg : goodWord w = true) : w ∈ lw_g := List.mem_filter.mpr ⟨List.mem_of_getElem? h, hg⟩
theorem lw_ins {ws : List Cond} (h : ∀ w ∈ ws, w ∈ lw_tbl) (hg : ws.all goodWord = true) : ∀ w ∈ ws, w ∈ lw_g := fun w hw => List.mem_filter.mpr ⟨h w hw, List.all_eq_true.mp hg w hw⟩
def rmD (d : Nat) : Room := { frames := d, cells := 0, slots := 0, locals := 48 * d }
def QcG (g : GG) (ρ : Option Value × SS) : Array Value → State → Outcome → State → Prop := fun _ st oc t => (oc = .returned ρ.1 ∧ va_P g.2.1 vwCl (wsG g ρ.2) t.heap ∧ va_K g.2.1 vwCl (tysG g) t) ∧ va_F (Aw g) st t
def PcG (g : GG) (As : List Value) (σ : SS) : Array Value → State → Prop := va_Pc As (fun U => Gok g ∧ va_P g.2.1 vwCl (wsG g σ) U.heap ∧ va_K g.2.1 vwCl (tysG g) U)
/-- a method's contract: with arguments As in the world σ it returns ρ.1, and leaves the world ρ.2 -/
def CT (l : Launch) (g : GG) (d : Nat) (y : MethodName) (cc : ByteArray) (nL : Nat) (ret : Option FieldType) (As : List Value) (σ : SS) (ρ : Option Value × SS) : Prop :=
  Met l y (Cond.code y cc nL ret :: lw_g) (rmD d) (PcG g As σ) (QcG g ρ) 0 0 (Aw g)
def VV (l : Launch) (g : GG) (d : Nat) (own : String) (cc : ByteArray) (nL : Nat) (ret : Option FieldType) (ρ : Option Value × SS) (pc : Nat) (lv : List (Nat × Value)) (st : List Value) (σ : SS) : Prop :=
  ∀ (p : Program) (e : Env) (s : State) (m : MethodId) (args : Array Value) (below : List Frame) (meth : Method) (c : Code) (H : Heap) (locs : List Loc) (ls : Array Slot),
    p.tables.exec = Jvm.exec → c.code = cc → c.maxLocals = nL → meth.sig.returnType = ret → meth.locks = false → s.vm.findClass own = some m.cls → (∀ w ∈ lw_g, w.before args s = true) →
    va_K g.2.1 vwCl (tysG g) s → Gok g → va_P g.2.1 vwCl (wsG g σ) H → va_S (Aw g) s.heap H locs → lv_has ls nL lv →
    W p l e (rmD d) s m args below meth c H locs 0 0 (MQ below (QcG g ρ) args s 0 0 (Aw g)) (F0 m pc ls st)
theorem CT.of {l : Launch} {g : GG} {d : Nat} {y : MethodName} {cc : ByteArray} {nL : Nat} {ret : Option FieldType} {As : List Value} {σ : SS} {ρ : Option Value × SS} {lv : List (Nat × Value)} (own : String) (hy : plainName y.cls = true) (hown : y.cls = own) (hn : (lg_sl As).length ≤ nL) (hl : lv_args 0 As = lv)
    (h : VV l g d own cc nL ret ρ 0 lv [] σ) : CT l g d y cc nL ret As σ ρ := by
  refine Met.ofW (cc := cc) (maxL := nL) (ret := ret) hy rfl ?_
  intro p e s m args below meth c s₁ B hml hv
  obtain ⟨rfl, hG, hP, hK⟩ := hv
  have hts0 := atoms_spec (ws := Cond.code y cc nL ret :: lw_g) B.pre
  rw [lg_entry_eq]
  subst hown
  exact h p e s m _ below meth c s.heap [] _ B.exec B.bytes hml B.returns B.notSynchronized (findClass_of_methodNamed B.named) (fun w hw => hts0 w (List.mem_cons_of_mem _ hw)) hK hG hP va_S.rf (hl ▸ lv_entry As hn)
theorem CT.blind {g : GG} {As : List Value} {σ : SS} : FrameBlind (PcG g As σ) := by
  intro a U f mk q
  obtain ⟨q0, q1, q2, q3⟩ := q
  exact ⟨q0, q1, q2, va_K.moved (u := U) (U := U.calling f mk a) (Vm.Alike.refl U.vm) q3⟩
def ck {α : Type} (c : Prop) [Decidable c] (x : Option α) : Option α := if c then x else none
theorem ck_some {α : Type} {c : Prop} [Decidable c] {x : Option α} {r : α} (h : ck c x = some r) : c ∧ x = some r := by
  unfold ck at h
  by_cases hc : c
  · rw [if_pos hc] at h; exact ⟨hc, h⟩
  · rw [if_neg hc] at h; cases h
theorem ck_pos {α : Type} {c : Prop} [Decidable c] {x : Option α} (h : c) : ck c x = x := if_pos h
def rvO (g : GG) (o : Option Nat) : Value := match o with | none => .null | some q => .ref (g.1 q)
section RULES
variable {l : Launch} {g : GG} {d : Nat} {own : String} {cc : ByteArray} {nL : Nat} {ret : Option FieldType} {ρ : Option Value × SS} {pc : Nat} {lv : List (Nat × Value)} {st : List Value} {σ : SS}

theorem vr_iadd {x y : Int32} (hd : decode cc pc = .ok (.iadd, 1)) (k : VV l g d own cc nL ret ρ (pc + 1) lv (.int (x + y) :: st) σ) : VV l g d own cc nL ret ρ pc lv (.int y :: .int x :: st) σ := by
  intro p e s m args below meth c H locs ls hx hb hml hr hlocks hown hts hK hG hP hS hl
  exact lv_iadd hx hb hd (k p e s m args below meth c H locs ls hx hb hml hr hlocks hown hts hK hG hP hS hl)
theorem vr_isub {x y : Int32} (hd : decode cc pc = .ok (.isub, 1)) (k : VV l g d own cc nL ret ρ (pc + 1) lv (.int (x - y) :: st) σ) : VV l g d own cc nL ret ρ pc lv (.int y :: .int x :: st) σ := by
  intro p e s m args below meth c H locs ls hx hb hml hr hlocks hown hts hK hG hP hS hl
  exact lv_isub hx hb hd (k p e s m args below meth c H locs ls hx hb hml hr hlocks hown hts hK hG hP hS hl)
theorem vr_imul {x y : Int32} (hd : decode cc pc = .ok (.imul, 1)) (k : VV l g d own cc nL ret ρ (pc + 1) lv (.int (x * y) :: st) σ) : VV l g d own cc nL ret ρ pc lv (.int y :: .int x :: st) σ := by
  intro p e s m args below meth c H locs ls hx hb hml hr hlocks hown hts hK hG hP hS hl
  exact lv_imul hx hb hd (k p e s m args below meth c H locs ls hx hb hml hr hlocks hown hts hK hG hP hS hl)
theorem vr_iand {x y : Int32} (hd : decode cc pc = .ok (.iand, 1)) (k : VV l g d own cc nL ret ρ (pc + 1) lv (.int (x &&& y) :: st) σ) : VV l g d own cc nL ret ρ pc lv (.int y :: .int x :: st) σ := by
  intro p e s m args below meth c H locs ls hx hb hml hr hlocks hown hts hK hG hP hS hl
  exact lv_iand hx hb hd (k p e s m args below meth c H locs ls hx hb hml hr hlocks hown hts hK hG hP hS hl)
theorem vr_ior {x y : Int32} (hd : decode cc pc = .ok (.ior, 1)) (k : VV l g d own cc nL ret ρ (pc + 1) lv (.int (x ||| y) :: st) σ) : VV l g d own cc nL ret ρ pc lv (.int y :: .int x :: st) σ := by
  intro p e s m args below meth c H locs ls hx hb hml hr hlocks hown hts hK hG hP hS hl
  exact lv_ior hx hb hd (k p e s m args below meth c H locs ls hx hb hml hr hlocks hown hts hK hG hP hS hl)
theorem vr_ishl {x y : Int32} (hd : decode cc pc = .ok (.ishl, 1)) (k : VV l g d own cc nL ret ρ (pc + 1) lv (.int (x <<< (y &&& 31)) :: st) σ) : VV l g d own cc nL ret ρ pc lv (.int y :: .int x :: st) σ := by
  intro p e s m args below meth c H locs ls hx hb hml hr hlocks hown hts hK hG hP hS hl
  exact lv_ishl hx hb hd (k p e s m args below meth c H locs ls hx hb hml hr hlocks hown hts hK hG hP hS hl)
theorem vr_ishr {x y : Int32} (hd : decode cc pc = .ok (.ishr, 1)) (k : VV l g d own cc nL ret ρ (pc + 1) lv (.int (x >>> (y &&& 31)) :: st) σ) : VV l g d own cc nL ret ρ pc lv (.int y :: .int x :: st) σ := by
  intro p e s m args below meth c H locs ls hx hb hml hr hlocks hown hts hK hG hP hS hl
  exact lv_ishr hx hb hd (k p e s m args below meth c H locs ls hx hb hml hr hlocks hown hts hK hG hP hS hl)
theorem vr_ladd {x y : Int64} (hd : decode cc pc = .ok (.ladd, 1)) (k : VV l g d own cc nL ret ρ (pc + 1) lv (.long (x + y) :: st) σ) : VV l g d own cc nL ret ρ pc lv (.long y :: .long x :: st) σ := by
  intro p e s m args below meth c H locs ls hx hb hml hr hlocks hown hts hK hG hP hS hl
  exact lv_ladd hx hb hd (k p e s m args below meth c H locs ls hx hb hml hr hlocks hown hts hK hG hP hS hl)
theorem vr_lsub {x y : Int64} (hd : decode cc pc = .ok (.lsub, 1)) (k : VV l g d own cc nL ret ρ (pc + 1) lv (.long (x - y) :: st) σ) : VV l g d own cc nL ret ρ pc lv (.long y :: .long x :: st) σ := by
  intro p e s m args below meth c H locs ls hx hb hml hr hlocks hown hts hK hG hP hS hl
  exact lv_lsub hx hb hd (k p e s m args below meth c H locs ls hx hb hml hr hlocks hown hts hK hG hP hS hl)
theorem vr_land {x y : Int64} (hd : decode cc pc = .ok (.land, 1)) (k : VV l g d own cc nL ret ρ (pc + 1) lv (.long (x &&& y) :: st) σ) : VV l g d own cc nL ret ρ pc lv (.long y :: .long x :: st) σ := by
  intro p e s m args below meth c H locs ls hx hb hml hr hlocks hown hts hK hG hP hS hl
  exact lv_land hx hb hd (k p e s m args below meth c H locs ls hx hb hml hr hlocks hown hts hK hG hP hS hl)
theorem vr_lor {x y : Int64} (hd : decode cc pc = .ok (.lor, 1)) (k : VV l g d own cc nL ret ρ (pc + 1) lv (.long (x ||| y) :: st) σ) : VV l g d own cc nL ret ρ pc lv (.long y :: .long x :: st) σ := by
  intro p e s m args below meth c H locs ls hx hb hml hr hlocks hown hts hK hG hP hS hl
  exact lv_lor hx hb hd (k p e s m args below meth c H locs ls hx hb hml hr hlocks hown hts hK hG hP hS hl)
theorem vr_ineg {x : Int32} (hd : decode cc pc = .ok (.ineg, 1)) (k : VV l g d own cc nL ret ρ (pc + 1) lv (.int (-x) :: st) σ) : VV l g d own cc nL ret ρ pc lv (.int x :: st) σ := by
  intro p e s m args below meth c H locs ls hx hb hml hr hlocks hown hts hK hG hP hS hl
  exact lv_ineg hx hb hd (k p e s m args below meth c H locs ls hx hb hml hr hlocks hown hts hK hG hP hS hl)
theorem vr_i2l {x : Int32} (hd : decode cc pc = .ok (.i2l, 1)) (k : VV l g d own cc nL ret ρ (pc + 1) lv (.long x.toInt64 :: st) σ) : VV l g d own cc nL ret ρ pc lv (.int x :: st) σ := by
  intro p e s m args below meth c H locs ls hx hb hml hr hlocks hown hts hK hG hP hS hl
  exact lv_i2l hx hb hd rfl (k p e s m args below meth c H locs ls hx hb hml hr hlocks hown hts hK hG hP hS hl)
theorem vr_lshl {x : Int64} {y : Int32} (hd : decode cc pc = .ok (.lshl, 1)) (k : VV l g d own cc nL ret ρ (pc + 1) lv (.long (x <<< (y.toInt64 &&& 63)) :: st) σ) : VV l g d own cc nL ret ρ pc lv (.int y :: .long x :: st) σ := by
  intro p e s m args below meth c H locs ls hx hb hml hr hlocks hown hts hK hG hP hS hl
  exact lv_lshl hx hb hd rfl (k p e s m args below meth c H locs ls hx hb hml hr hlocks hown hts hK hG hP hS hl)
theorem vr_lshr {x : Int64} {y : Int32} (hd : decode cc pc = .ok (.lshr, 1)) (k : VV l g d own cc nL ret ρ (pc + 1) lv (.long (x >>> (y.toInt64 &&& 63)) :: st) σ) : VV l g d own cc nL ret ρ pc lv (.int y :: .long x :: st) σ := by
  intro p e s m args below meth c H locs ls hx hb hml hr hlocks hown hts hK hG hP hS hl
  exact lv_lshr hx hb hd rfl (k p e s m args below meth c H locs ls hx hb hml hr hlocks hown hts hK hG hP hS hl)
theorem vr_lushr {x : Int64} {y : Int32} (hd : decode cc pc = .ok (.lushr, 1)) (k : VV l g d own cc nL ret ρ (pc + 1) lv (.long ((x.toUInt64 >>> (y.toInt64.toUInt64 &&& Int64.toUInt64 63)).toInt64) :: st) σ) : VV l g d own cc nL ret ρ pc lv (.int y :: .long x :: st) σ := by
  intro p e s m args below meth c H locs ls hx hb hml hr hlocks hown hts hK hG hP hS hl
  exact lv_lushr hx hb hd rfl (k p e s m args below meth c H locs ls hx hb hml hr hlocks hown hts hK hG hP hS hl)
theorem vr_lcmp {x y : Int64} (hd : decode cc pc = .ok (.lcmp, 1)) (k : VV l g d own cc nL ret ρ (pc + 1) lv (.int (lg_cmp x y) :: st) σ) : VV l g d own cc nL ret ρ pc lv (.long y :: .long x :: st) σ := by
  intro p e s m args below meth c H locs ls hx hb hml hr hlocks hown hts hK hG hP hS hl
  exact W.lcmp hx hb hd (k p e s m args below meth c H locs ls hx hb hml hr hlocks hown hts hK hG hP hS hl)
theorem vr_null  (hd : decode cc pc = .ok (.aconst_null, 1)) (k : VV l g d own cc nL ret ρ (pc + 1) lv (.null :: st) σ) : VV l g d own cc nL ret ρ pc lv (st) σ := by
  intro p e s m args below meth c H locs ls hx hb hml hr hlocks hown hts hK hG hP hS hl
  exact lv_null hx hb hd (k p e s m args below meth c H locs ls hx hb hml hr hlocks hown hts hK hG hP hS hl)
theorem vr_idiv {x y : Int32} (hd : decode cc pc = .ok (.idiv, 1)) (hne : ¬ y = 0) (k : VV l g d own cc nL ret ρ (pc + 1) lv (.int (x / y) :: st) σ) : VV l g d own cc nL ret ρ pc lv (.int y :: .int x :: st) σ := by
  intro p e s m args below meth c H locs ls hx hb hml hr hlocks hown hts hK hG hP hS hl
  exact lv_idiv hx hb hd hne (k p e s m args below meth c H locs ls hx hb hml hr hlocks hown hts hK hG hP hS hl)
theorem vr_irem {x y : Int32} (hd : decode cc pc = .ok (.irem, 1)) (hne : ¬ y = 0) (k : VV l g d own cc nL ret ρ (pc + 1) lv (.int (x - x / y * y) :: st) σ) : VV l g d own cc nL ret ρ pc lv (.int y :: .int x :: st) σ := by
  intro p e s m args below meth c H locs ls hx hb hml hr hlocks hown hts hK hG hP hS hl
  exact lv_irem hx hb hd hne (k p e s m args below meth c H locs ls hx hb hml hr hlocks hown hts hK hG hP hS hl)
theorem vr_iconst {n : Int} (v : Int32) (hd : decode cc pc = .ok (.iconst n, 1)) (hv : Int32.ofInt n = v) (k : VV l g d own cc nL ret ρ (pc + 1) lv (.int v :: st) σ) : VV l g d own cc nL ret ρ pc lv st σ := by
  intro p e s m args below meth c H locs ls hx hb hml hr hlocks hown hts hK hG hP hS hl
  exact lv_iconst hx hb hd hv (k p e s m args below meth c H locs ls hx hb hml hr hlocks hown hts hK hG hP hS hl)
theorem vr_bipush {n : Int} (v : Int32) (hd : decode cc pc = .ok (.bipush n, 2)) (hv : (Int8.ofInt n).toInt32 = v) (k : VV l g d own cc nL ret ρ (pc + 2) lv (.int v :: st) σ) : VV l g d own cc nL ret ρ pc lv st σ := by
  intro p e s m args below meth c H locs ls hx hb hml hr hlocks hown hts hK hG hP hS hl
  exact lv_bipush hx hb hd hv (k p e s m args below meth c H locs ls hx hb hml hr hlocks hown hts hK hG hP hS hl)
theorem vr_sipush {n : Int} (v : Int32) (hd : decode cc pc = .ok (.sipush n, 3)) (hv : (Int16.ofInt n).toInt32 = v) (k : VV l g d own cc nL ret ρ (pc + 3) lv (.int v :: st) σ) : VV l g d own cc nL ret ρ pc lv st σ := by
  intro p e s m args below meth c H locs ls hx hb hml hr hlocks hown hts hK hG hP hS hl
  exact lv_sipush hx hb hd hv (k p e s m args below meth c H locs ls hx hb hml hr hlocks hown hts hK hG hP hS hl)
theorem vr_lconst {n : Fin 2} (v : Int64) (hd : decode cc pc = .ok (.lconst n, 1)) (hv : Int64.ofNat (n : Nat) = v) (k : VV l g d own cc nL ret ρ (pc + 1) lv (.long v :: st) σ) : VV l g d own cc nL ret ρ pc lv st σ := by
  intro p e s m args below meth c H locs ls hx hb hml hr hlocks hown hts hK hG hP hS hl
  exact lv_lconst hx hb hd hv (k p e s m args below meth c H locs ls hx hb hml hr hlocks hown hts hK hG hP hS hl)
theorem vr_ldc {index : Nat} (v : Int32) (hd : decode cc pc = .ok (.ldc index, 2)) (hc : Cond.constant own index v ∈ lw_g) (k : VV l g d own cc nL ret ρ (pc + 2) lv (.int v :: st) σ) : VV l g d own cc nL ret ρ pc lv st σ := by
  intro p e s m args below meth c H locs ls hx hb hml hr hlocks hown hts hK hG hP hS hl
  exact lv_ldc hx hb hown (hts _ hc) hd (k p e s m args below meth c H locs ls hx hb hml hr hlocks hown hts hK hG hP hS hl)
theorem vr_ldcw {index : Nat} (v : Int32) (hd : decode cc pc = .ok (.ldc_w index, 3)) (hc : Cond.constant own index v ∈ lw_g) (k : VV l g d own cc nL ret ρ (pc + 3) lv (.int v :: st) σ) : VV l g d own cc nL ret ρ pc lv st σ := by
  intro p e s m args below meth c H locs ls hx hb hml hr hlocks hown hts hK hG hP hS hl
  exact lv_ldcw hx hb hown (hts _ hc) hd (k p e s m args below meth c H locs ls hx hb hml hr hlocks hown hts hK hG hP hS hl)
theorem vr_ldc2 {index : Nat} (v : Int64) (hd : decode cc pc = .ok (.ldc2_w index, 3)) (hc : Cond.constantLong own index v ∈ lw_g) (k : VV l g d own cc nL ret ρ (pc + 3) lv (.long v :: st) σ) : VV l g d own cc nL ret ρ pc lv st σ := by
  intro p e s m args below meth c H locs ls hx hb hml hr hlocks hown hts hK hG hP hS hl
  exact lv_ldc2 hx hb hown (hts _ hc) hd (k p e s m args below meth c H locs ls hx hb hml hr hlocks hown hts hK hG hP hS hl)
theorem vr_iload_n {n : Fin 4} {i : Nat} {x : Int32} (j : Nat) (hd : decode cc pc = .ok (.iload_n n, 1)) (hi : (n : Nat) = i) (hj : lv[j]? = some (i, .int x)) (k : VV l g d own cc nL ret ρ (pc + 1) lv (.int x :: st) σ) : VV l g d own cc nL ret ρ pc lv st σ := by
  intro p e s m args below meth c H locs ls hx hb hml hr hlocks hown hts hK hG hP hS hl
  exact lv_iload_n hx hb hd hi (lv_at hl j hj) (k p e s m args below meth c H locs ls hx hb hml hr hlocks hown hts hK hG hP hS hl)
theorem vr_iload {i : Nat} {x : Int32} (j : Nat) (hd : decode cc pc = .ok (.iload i, 2)) (hj : lv[j]? = some (i, .int x)) (k : VV l g d own cc nL ret ρ (pc + 2) lv (.int x :: st) σ) : VV l g d own cc nL ret ρ pc lv st σ := by
  intro p e s m args below meth c H locs ls hx hb hml hr hlocks hown hts hK hG hP hS hl
  exact lv_iload hx hb hd (lv_at hl j hj) (k p e s m args below meth c H locs ls hx hb hml hr hlocks hown hts hK hG hP hS hl)
theorem vr_lload_n {n : Fin 4} {i : Nat} {x : Int64} (j : Nat) (hd : decode cc pc = .ok (.lload_n n, 1)) (hi : (n : Nat) = i) (hj : lv[j]? = some (i, .long x)) (k : VV l g d own cc nL ret ρ (pc + 1) lv (.long x :: st) σ) : VV l g d own cc nL ret ρ pc lv st σ := by
  intro p e s m args below meth c H locs ls hx hb hml hr hlocks hown hts hK hG hP hS hl
  exact lv_lload_n hx hb hd hi (lv_at hl j hj) (k p e s m args below meth c H locs ls hx hb hml hr hlocks hown hts hK hG hP hS hl)
theorem vr_lload {i : Nat} {x : Int64} (j : Nat) (hd : decode cc pc = .ok (.lload i, 2)) (hj : lv[j]? = some (i, .long x)) (k : VV l g d own cc nL ret ρ (pc + 2) lv (.long x :: st) σ) : VV l g d own cc nL ret ρ pc lv st σ := by
  intro p e s m args below meth c H locs ls hx hb hml hr hlocks hown hts hK hG hP hS hl
  exact lv_lload hx hb hd (lv_at hl j hj) (k p e s m args below meth c H locs ls hx hb hml hr hlocks hown hts hK hG hP hS hl)
theorem vr_aload_n {n : Fin 4} {i : Nat} {x : Nat} (j : Nat) (hd : decode cc pc = .ok (.aload_n n, 1)) (hi : (n : Nat) = i) (hj : lv[j]? = some (i, .ref x)) (k : VV l g d own cc nL ret ρ (pc + 1) lv (.ref x :: st) σ) : VV l g d own cc nL ret ρ pc lv st σ := by
  intro p e s m args below meth c H locs ls hx hb hml hr hlocks hown hts hK hG hP hS hl
  exact lv_aload_n hx hb hd hi (lv_at hl j hj) (k p e s m args below meth c H locs ls hx hb hml hr hlocks hown hts hK hG hP hS hl)
theorem vr_aload {i : Nat} {x : Nat} (j : Nat) (hd : decode cc pc = .ok (.aload i, 2)) (hj : lv[j]? = some (i, .ref x)) (k : VV l g d own cc nL ret ρ (pc + 2) lv (.ref x :: st) σ) : VV l g d own cc nL ret ρ pc lv st σ := by
  intro p e s m args below meth c H locs ls hx hb hml hr hlocks hown hts hK hG hP hS hl
  exact lv_aload hx hb hd (lv_at hl j hj) (k p e s m args below meth c H locs ls hx hb hml hr hlocks hown hts hK hG hP hS hl)
theorem vr_aload_nO {n : Fin 4} {i : Nat} {o : Option Nat} (j : Nat) (hd : decode cc pc = .ok (.aload_n n, 1)) (hi : (n : Nat) = i) (hj : lv[j]? = some (i, rvO g o)) (k : VV l g d own cc nL ret ρ (pc + 1) lv (rvO g o :: st) σ) : VV l g d own cc nL ret ρ pc lv st σ := by
  intro p e s m args below meth c H locs ls hx hb hml hr hlocks hown hts hK hG hP hS hl
  cases o with
  | none => exact lv_aload_nN hx hb hd hi (lv_at hl j hj) (k p e s m args below meth c H locs ls hx hb hml hr hlocks hown hts hK hG hP hS hl)
  | some q => exact lv_aload_n hx hb hd hi (lv_at hl j hj) (k p e s m args below meth c H locs ls hx hb hml hr hlocks hown hts hK hG hP hS hl)
theorem vr_aloadO {i : Nat} {o : Option Nat} (j : Nat) (hd : decode cc pc = .ok (.aload i, 2)) (hj : lv[j]? = some (i, rvO g o)) (k : VV l g d own cc nL ret ρ (pc + 2) lv (rvO g o :: st) σ) : VV l g d own cc nL ret ρ pc lv st σ := by
  intro p e s m args below meth c H locs ls hx hb hml hr hlocks hown hts hK hG hP hS hl
  cases o with
  | none => exact lv_aloadN hx hb hd (lv_at hl j hj) (k p e s m args below meth c H locs ls hx hb hml hr hlocks hown hts hK hG hP hS hl)
  | some q => exact lv_aload hx hb hd (lv_at hl j hj) (k p e s m args below meth c H locs ls hx hb hml hr hlocks hown hts hK hG hP hS hl)
theorem vr_istore_n {n : Fin 4} {i : Nat} {x : Int32} (lv' : List (Nat × Value)) (hd : decode cc pc = .ok (.istore_n n, 1)) (hi : (n : Nat) = i) (hn : i < nL) (hv : (i, Value.int x) :: lv.filter (fun q => !(q.1 == i) && !(q.1 + 1 == i && q.2.category == 2)) = lv') (k : VV l g d own cc nL ret ρ (pc + 1) lv' st σ) : VV l g d own cc nL ret ρ pc lv (.int x :: st) σ := by
  intro p e s m args below meth c H locs ls hx hb hml hr hlocks hown hts hK hG hP hS hl
  exact lv_istore_n hx hb hd hi hl hn hv (fun ls hl => k p e s m args below meth c H locs ls hx hb hml hr hlocks hown hts hK hG hP hS hl)
theorem vr_istore {i : Nat} {x : Int32} (lv' : List (Nat × Value)) (hd : decode cc pc = .ok (.istore i, 2)) (hn : i < nL) (hv : (i, Value.int x) :: lv.filter (fun q => !(q.1 == i) && !(q.1 + 1 == i && q.2.category == 2)) = lv') (k : VV l g d own cc nL ret ρ (pc + 2) lv' st σ) : VV l g d own cc nL ret ρ pc lv (.int x :: st) σ := by
  intro p e s m args below meth c H locs ls hx hb hml hr hlocks hown hts hK hG hP hS hl
  exact lv_istore hx hb hd hl hn hv (fun ls hl => k p e s m args below meth c H locs ls hx hb hml hr hlocks hown hts hK hG hP hS hl)
theorem vr_lstore_n {n : Fin 4} {i : Nat} {x : Int64} (lv' : List (Nat × Value)) (hd : decode cc pc = .ok (.lstore_n n, 1)) (hi : (n : Nat) = i) (hn : i + 1 < nL) (hv : (i, Value.long x) :: lv.filter (fun q => !(q.1 == i) && (!(q.1 == i + 1) && !(q.1 + 1 == i && q.2.category == 2))) = lv') (k : VV l g d own cc nL ret ρ (pc + 1) lv' st σ) : VV l g d own cc nL ret ρ pc lv (.long x :: st) σ := by
  intro p e s m args below meth c H locs ls hx hb hml hr hlocks hown hts hK hG hP hS hl
  exact lv_lstore_n hx hb hd hi hl hn hv (fun ls hl => k p e s m args below meth c H locs ls hx hb hml hr hlocks hown hts hK hG hP hS hl)
theorem vr_lstore {i : Nat} {x : Int64} (lv' : List (Nat × Value)) (hd : decode cc pc = .ok (.lstore i, 2)) (hn : i + 1 < nL) (hv : (i, Value.long x) :: lv.filter (fun q => !(q.1 == i) && (!(q.1 == i + 1) && !(q.1 + 1 == i && q.2.category == 2))) = lv') (k : VV l g d own cc nL ret ρ (pc + 2) lv' st σ) : VV l g d own cc nL ret ρ pc lv (.long x :: st) σ := by
  intro p e s m args below meth c H locs ls hx hb hml hr hlocks hown hts hK hG hP hS hl
  exact lv_lstore hx hb hd hl hn hv (fun ls hl => k p e s m args below meth c H locs ls hx hb hml hr hlocks hown hts hK hG hP hS hl)
theorem vr_astore_n {n : Fin 4} {i : Nat} {x : Nat} (lv' : List (Nat × Value)) (hd : decode cc pc = .ok (.astore_n n, 1)) (hi : (n : Nat) = i) (hn : i < nL) (hv : (i, Value.ref x) :: lv.filter (fun q => !(q.1 == i) && !(q.1 + 1 == i && q.2.category == 2)) = lv') (k : VV l g d own cc nL ret ρ (pc + 1) lv' st σ) : VV l g d own cc nL ret ρ pc lv (.ref x :: st) σ := by
  intro p e s m args below meth c H locs ls hx hb hml hr hlocks hown hts hK hG hP hS hl
  exact lv_astore_n hx hb hd hi hl hn hv (fun ls hl => k p e s m args below meth c H locs ls hx hb hml hr hlocks hown hts hK hG hP hS hl)
theorem vr_astore {i : Nat} {x : Nat} (lv' : List (Nat × Value)) (hd : decode cc pc = .ok (.astore i, 2)) (hn : i < nL) (hv : (i, Value.ref x) :: lv.filter (fun q => !(q.1 == i) && !(q.1 + 1 == i && q.2.category == 2)) = lv') (k : VV l g d own cc nL ret ρ (pc + 2) lv' st σ) : VV l g d own cc nL ret ρ pc lv (.ref x :: st) σ := by
  intro p e s m args below meth c H locs ls hx hb hml hr hlocks hown hts hK hG hP hS hl
  exact lv_astore hx hb hd hl hn hv (fun ls hl => k p e s m args below meth c H locs ls hx hb hml hr hlocks hown hts hK hG hP hS hl)
theorem vr_astore_nO {n : Fin 4} {i : Nat} {o : Option Nat} (lv' : List (Nat × Value)) (hd : decode cc pc = .ok (.astore_n n, 1)) (hi : (n : Nat) = i) (hn : i < nL) (hv : (i, rvO g o) :: lv.filter (fun q => !(q.1 == i) && !(q.1 + 1 == i && q.2.category == 2)) = lv') (k : VV l g d own cc nL ret ρ (pc + 1) lv' st σ) : VV l g d own cc nL ret ρ pc lv (rvO g o :: st) σ := by
  intro p e s m args below meth c H locs ls hx hb hml hr hlocks hown hts hK hG hP hS hl
  cases o with
  | none => exact lv_astore_nN hx hb hd hi hl hn hv (fun ls hl => k p e s m args below meth c H locs ls hx hb hml hr hlocks hown hts hK hG hP hS hl)
  | some q => exact lv_astore_n hx hb hd hi hl hn hv (fun ls hl => k p e s m args below meth c H locs ls hx hb hml hr hlocks hown hts hK hG hP hS hl)
theorem vr_astoreO {i : Nat} {o : Option Nat} (lv' : List (Nat × Value)) (hd : decode cc pc = .ok (.astore i, 2)) (hn : i < nL) (hv : (i, rvO g o) :: lv.filter (fun q => !(q.1 == i) && !(q.1 + 1 == i && q.2.category == 2)) = lv') (k : VV l g d own cc nL ret ρ (pc + 2) lv' st σ) : VV l g d own cc nL ret ρ pc lv (rvO g o :: st) σ := by
  intro p e s m args below meth c H locs ls hx hb hml hr hlocks hown hts hK hG hP hS hl
  cases o with
  | none => exact lv_astoreN hx hb hd hl hn hv (fun ls hl => k p e s m args below meth c H locs ls hx hb hml hr hlocks hown hts hK hG hP hS hl)
  | some q => exact lv_astore hx hb hd hl hn hv (fun ls hl => k p e s m args below meth c H locs ls hx hb hml hr hlocks hown hts hK hG hP hS hl)
theorem vr_iinc {i : Nat} {n : Int} {x v : Int32} (lv' : List (Nat × Value)) (j : Nat) (hd : decode cc pc = .ok (.iinc i n, 3)) (hj : lv[j]? = some (i, .int x)) (he : x + Int32.ofInt n = v) (hn : i < nL) (hv : (i, Value.int v) :: lv.filter (fun q => !(q.1 == i) && !(q.1 + 1 == i && q.2.category == 2)) = lv') (k : VV l g d own cc nL ret ρ (pc + 3) lv' st σ) : VV l g d own cc nL ret ρ pc lv st σ := by
  intro p e s m args below meth c H locs ls hx hb hml hr hlocks hown hts hK hG hP hS hl
  exact lv_iinc hx hb hd hl hj he hn hv (fun ls hl => k p e s m args below meth c H locs ls hx hb hml hr hlocks hown hts hK hG hP hS hl)
theorem vr_sub (is : List Nat) (lv' : List (Nat × Value)) (h : lv_pick lv is = lv') (k : VV l g d own cc nL ret ρ pc lv' st σ) : VV l g d own cc nL ret ρ pc lv st σ := by
  intro p e s m args below meth c H locs ls hx hb hml hr hlocks hown hts hK hG hP hS hl0
  have hl := lv_sub hl0 is h
  exact k p e s m args below meth c H locs ls hx hb hml hr hlocks hown hts hK hG hP hS hl
theorem vr_goto {off : Int} (tgt : Nat) (hd : decode cc pc = .ok (.goto off, 3)) (ht : (pc : Int) + off = (tgt : Int)) (k : VV l g d own cc nL ret ρ tgt lv st σ) : VV l g d own cc nL ret ρ pc lv st σ := by
  intro p e s m args below meth c H locs ls hx hb hml hr hlocks hown hts hK hG hP hS hl
  exact lv_goto hx hb hd ht (k p e s m args below meth c H locs ls hx hb hml hr hlocks hown hts hK hG hP hS hl)
theorem vr_dup {v : Value} (hd : decode cc pc = .ok (.dup, 1)) (hc : v.category = 1) (k : VV l g d own cc nL ret ρ (pc + 1) lv (v :: v :: st) σ) : VV l g d own cc nL ret ρ pc lv (v :: st) σ := by
  intro p e s m args below meth c H locs ls hx hb hml hr hlocks hown hts hK hG hP hS hl
  exact lv_dup hx hb hd hc (k p e s m args below meth c H locs ls hx hb hml hr hlocks hown hts hK hG hP hS hl)
theorem vr_pop {v : Value} (hd : decode cc pc = .ok (.pop, 1)) (hc : v.category = 1) (k : VV l g d own cc nL ret ρ (pc + 1) lv st σ) : VV l g d own cc nL ret ρ pc lv (v :: st) σ := by
  intro p e s m args below meth c H locs ls hx hb hml hr hlocks hown hts hK hG hP hS hl
  exact lv_pop hx hb hd hc (k p e s m args below meth c H locs ls hx hb hml hr hlocks hown hts hK hG hP hS hl)
theorem vr_dup_x1 {v w : Value} (hd : decode cc pc = .ok (.dup_x1, 1)) (hc : v.category = 1) (hc2 : w.category = 1) (k : VV l g d own cc nL ret ρ (pc + 1) lv (v :: w :: v :: st) σ) : VV l g d own cc nL ret ρ pc lv (v :: w :: st) σ := by
  intro p e s m args below meth c H locs ls hx hb hml hr hlocks hown hts hK hG hP hS hl
  exact lv_dup_x1 hx hb hd hc hc2 (k p e s m args below meth c H locs ls hx hb hml hr hlocks hown hts hK hG hP hS hl)
theorem vr_dup2 {v w : Value} (hd : decode cc pc = .ok (.dup2, 1)) (hc : v.category = 1) (hc2 : w.category = 1) (k : VV l g d own cc nL ret ρ (pc + 1) lv (v :: w :: v :: w :: st) σ) : VV l g d own cc nL ret ρ pc lv (v :: w :: st) σ := by
  intro p e s m args below meth c H locs ls hx hb hml hr hlocks hown hts hK hG hP hS hl
  exact lv_dup2_11 hx hb hd hc hc2 (k p e s m args below meth c H locs ls hx hb hml hr hlocks hown hts hK hG hP hS hl)
theorem vr_if_eq {x : Int32} {off : Int} (tgt : Nat) (hd : decode cc pc = .ok (.ifCond .eq off, 3)) (ht : (pc : Int) + off = (tgt : Int)) (kt : x = 0 → VV l g d own cc nL ret ρ tgt lv st σ) (kf : ¬ x = 0 → VV l g d own cc nL ret ρ (pc + 3) lv st σ) : VV l g d own cc nL ret ρ pc lv (.int x :: st) σ := by
  intro p e s m args below meth c H locs ls hx hb hml hr hlocks hown hts hK hG hP hS hl
  exact lv_if_eq hx hb hd ht (fun q => kt q p e s m args below meth c H locs ls hx hb hml hr hlocks hown hts hK hG hP hS hl) (fun q => kf q p e s m args below meth c H locs ls hx hb hml hr hlocks hown hts hK hG hP hS hl)
theorem vr_icmp_eq {x y : Int32} {off : Int} (tgt : Nat) (hd : decode cc pc = .ok (.if_icmp .eq off, 3)) (ht : (pc : Int) + off = (tgt : Int)) (kt : x = y → VV l g d own cc nL ret ρ tgt lv st σ) (kf : ¬ x = y → VV l g d own cc nL ret ρ (pc + 3) lv st σ) : VV l g d own cc nL ret ρ pc lv (.int y :: .int x :: st) σ := by
  intro p e s m args below meth c H locs ls hx hb hml hr hlocks hown hts hK hG hP hS hl
  exact lv_icmp_eq hx hb hd ht (fun q => kt q p e s m args below meth c H locs ls hx hb hml hr hlocks hown hts hK hG hP hS hl) (fun q => kf q p e s m args below meth c H locs ls hx hb hml hr hlocks hown hts hK hG hP hS hl)
theorem vr_if_ne {x : Int32} {off : Int} (tgt : Nat) (hd : decode cc pc = .ok (.ifCond .ne off, 3)) (ht : (pc : Int) + off = (tgt : Int)) (kt : ¬ x = 0 → VV l g d own cc nL ret ρ tgt lv st σ) (kf : x = 0 → VV l g d own cc nL ret ρ (pc + 3) lv st σ) : VV l g d own cc nL ret ρ pc lv (.int x :: st) σ := by
  intro p e s m args below meth c H locs ls hx hb hml hr hlocks hown hts hK hG hP hS hl
  exact lv_if_ne hx hb hd ht (fun q => kt q p e s m args below meth c H locs ls hx hb hml hr hlocks hown hts hK hG hP hS hl) (fun q => kf q p e s m args below meth c H locs ls hx hb hml hr hlocks hown hts hK hG hP hS hl)
theorem vr_icmp_ne {x y : Int32} {off : Int} (tgt : Nat) (hd : decode cc pc = .ok (.if_icmp .ne off, 3)) (ht : (pc : Int) + off = (tgt : Int)) (kt : ¬ x = y → VV l g d own cc nL ret ρ tgt lv st σ) (kf : x = y → VV l g d own cc nL ret ρ (pc + 3) lv st σ) : VV l g d own cc nL ret ρ pc lv (.int y :: .int x :: st) σ := by
  intro p e s m args below meth c H locs ls hx hb hml hr hlocks hown hts hK hG hP hS hl
  exact lv_icmp_ne hx hb hd ht (fun q => kt q p e s m args below meth c H locs ls hx hb hml hr hlocks hown hts hK hG hP hS hl) (fun q => kf q p e s m args below meth c H locs ls hx hb hml hr hlocks hown hts hK hG hP hS hl)
theorem vr_if_lt {x : Int32} {off : Int} (tgt : Nat) (hd : decode cc pc = .ok (.ifCond .lt off, 3)) (ht : (pc : Int) + off = (tgt : Int)) (kt : x < 0 → VV l g d own cc nL ret ρ tgt lv st σ) (kf : ¬ x < 0 → VV l g d own cc nL ret ρ (pc + 3) lv st σ) : VV l g d own cc nL ret ρ pc lv (.int x :: st) σ := by
  intro p e s m args below meth c H locs ls hx hb hml hr hlocks hown hts hK hG hP hS hl
  exact lv_if_lt hx hb hd ht (fun q => kt q p e s m args below meth c H locs ls hx hb hml hr hlocks hown hts hK hG hP hS hl) (fun q => kf q p e s m args below meth c H locs ls hx hb hml hr hlocks hown hts hK hG hP hS hl)
theorem vr_icmp_lt {x y : Int32} {off : Int} (tgt : Nat) (hd : decode cc pc = .ok (.if_icmp .lt off, 3)) (ht : (pc : Int) + off = (tgt : Int)) (kt : x < y → VV l g d own cc nL ret ρ tgt lv st σ) (kf : ¬ x < y → VV l g d own cc nL ret ρ (pc + 3) lv st σ) : VV l g d own cc nL ret ρ pc lv (.int y :: .int x :: st) σ := by
  intro p e s m args below meth c H locs ls hx hb hml hr hlocks hown hts hK hG hP hS hl
  exact lv_icmp_lt hx hb hd ht (fun q => kt q p e s m args below meth c H locs ls hx hb hml hr hlocks hown hts hK hG hP hS hl) (fun q => kf q p e s m args below meth c H locs ls hx hb hml hr hlocks hown hts hK hG hP hS hl)
theorem vr_if_ge {x : Int32} {off : Int} (tgt : Nat) (hd : decode cc pc = .ok (.ifCond .ge off, 3)) (ht : (pc : Int) + off = (tgt : Int)) (kt : 0 ≤ x → VV l g d own cc nL ret ρ tgt lv st σ) (kf : ¬ 0 ≤ x → VV l g d own cc nL ret ρ (pc + 3) lv st σ) : VV l g d own cc nL ret ρ pc lv (.int x :: st) σ := by
  intro p e s m args below meth c H locs ls hx hb hml hr hlocks hown hts hK hG hP hS hl
  exact lv_if_ge hx hb hd ht (fun q => kt q p e s m args below meth c H locs ls hx hb hml hr hlocks hown hts hK hG hP hS hl) (fun q => kf q p e s m args below meth c H locs ls hx hb hml hr hlocks hown hts hK hG hP hS hl)
theorem vr_icmp_ge {x y : Int32} {off : Int} (tgt : Nat) (hd : decode cc pc = .ok (.if_icmp .ge off, 3)) (ht : (pc : Int) + off = (tgt : Int)) (kt : y ≤ x → VV l g d own cc nL ret ρ tgt lv st σ) (kf : ¬ y ≤ x → VV l g d own cc nL ret ρ (pc + 3) lv st σ) : VV l g d own cc nL ret ρ pc lv (.int y :: .int x :: st) σ := by
  intro p e s m args below meth c H locs ls hx hb hml hr hlocks hown hts hK hG hP hS hl
  exact lv_icmp_ge hx hb hd ht (fun q => kt q p e s m args below meth c H locs ls hx hb hml hr hlocks hown hts hK hG hP hS hl) (fun q => kf q p e s m args below meth c H locs ls hx hb hml hr hlocks hown hts hK hG hP hS hl)
theorem vr_if_gt {x : Int32} {off : Int} (tgt : Nat) (hd : decode cc pc = .ok (.ifCond .gt off, 3)) (ht : (pc : Int) + off = (tgt : Int)) (kt : 0 < x → VV l g d own cc nL ret ρ tgt lv st σ) (kf : ¬ 0 < x → VV l g d own cc nL ret ρ (pc + 3) lv st σ) : VV l g d own cc nL ret ρ pc lv (.int x :: st) σ := by
  intro p e s m args below meth c H locs ls hx hb hml hr hlocks hown hts hK hG hP hS hl
  exact lv_if_gt hx hb hd ht (fun q => kt q p e s m args below meth c H locs ls hx hb hml hr hlocks hown hts hK hG hP hS hl) (fun q => kf q p e s m args below meth c H locs ls hx hb hml hr hlocks hown hts hK hG hP hS hl)
theorem vr_icmp_gt {x y : Int32} {off : Int} (tgt : Nat) (hd : decode cc pc = .ok (.if_icmp .gt off, 3)) (ht : (pc : Int) + off = (tgt : Int)) (kt : y < x → VV l g d own cc nL ret ρ tgt lv st σ) (kf : ¬ y < x → VV l g d own cc nL ret ρ (pc + 3) lv st σ) : VV l g d own cc nL ret ρ pc lv (.int y :: .int x :: st) σ := by
  intro p e s m args below meth c H locs ls hx hb hml hr hlocks hown hts hK hG hP hS hl
  exact lv_icmp_gt hx hb hd ht (fun q => kt q p e s m args below meth c H locs ls hx hb hml hr hlocks hown hts hK hG hP hS hl) (fun q => kf q p e s m args below meth c H locs ls hx hb hml hr hlocks hown hts hK hG hP hS hl)
theorem vr_if_le {x : Int32} {off : Int} (tgt : Nat) (hd : decode cc pc = .ok (.ifCond .le off, 3)) (ht : (pc : Int) + off = (tgt : Int)) (kt : x ≤ 0 → VV l g d own cc nL ret ρ tgt lv st σ) (kf : ¬ x ≤ 0 → VV l g d own cc nL ret ρ (pc + 3) lv st σ) : VV l g d own cc nL ret ρ pc lv (.int x :: st) σ := by
  intro p e s m args below meth c H locs ls hx hb hml hr hlocks hown hts hK hG hP hS hl
  exact lv_if_le hx hb hd ht (fun q => kt q p e s m args below meth c H locs ls hx hb hml hr hlocks hown hts hK hG hP hS hl) (fun q => kf q p e s m args below meth c H locs ls hx hb hml hr hlocks hown hts hK hG hP hS hl)
theorem vr_icmp_le {x y : Int32} {off : Int} (tgt : Nat) (hd : decode cc pc = .ok (.if_icmp .le off, 3)) (ht : (pc : Int) + off = (tgt : Int)) (kt : x ≤ y → VV l g d own cc nL ret ρ tgt lv st σ) (kf : ¬ x ≤ y → VV l g d own cc nL ret ρ (pc + 3) lv st σ) : VV l g d own cc nL ret ρ pc lv (.int y :: .int x :: st) σ := by
  intro p e s m args below meth c H locs ls hx hb hml hr hlocks hown hts hK hG hP hS hl
  exact lv_icmp_le hx hb hd ht (fun q => kt q p e s m args below meth c H locs ls hx hb hml hr hlocks hown hts hK hG hP hS hl) (fun q => kf q p e s m args below meth c H locs ls hx hb hml hr hlocks hown hts hK hG hP hS hl)
theorem vr_ifnull {o : Option Nat} {off : Int} (tgt : Nat) (hd : decode cc pc = .ok (.ifnull off, 3)) (ht : (pc : Int) + off = (tgt : Int)) (kt : o = none → VV l g d own cc nL ret ρ tgt lv st σ) (kf : ∀ q, o = some q → VV l g d own cc nL ret ρ (pc + 3) lv st σ) : VV l g d own cc nL ret ρ pc lv (rvO g o :: st) σ := by
  intro p e s m args below meth c H locs ls hx hb hml hr hlocks hown hts hK hG hP hS hl
  cases o with
  | none => exact lv_ifnullN hx hb hd ht (kt rfl p e s m args below meth c H locs ls hx hb hml hr hlocks hown hts hK hG hP hS hl)
  | some q => exact lv_ifnull hx hb hd (kf q rfl p e s m args below meth c H locs ls hx hb hml hr hlocks hown hts hK hG hP hS hl)
theorem vr_ifnonnull {o : Option Nat} {off : Int} (tgt : Nat) (hd : decode cc pc = .ok (.ifnonnull off, 3)) (ht : (pc : Int) + off = (tgt : Int)) (kt : ∀ q, o = some q → VV l g d own cc nL ret ρ tgt lv st σ) (kf : o = none → VV l g d own cc nL ret ρ (pc + 3) lv st σ) : VV l g d own cc nL ret ρ pc lv (rvO g o :: st) σ := by
  intro p e s m args below meth c H locs ls hx hb hml hr hlocks hown hts hK hG hP hS hl
  cases o with
  | none => exact lv_ifnonnullN hx hb hd (kf rfl p e s m args below meth c H locs ls hx hb hml hr hlocks hown hts hK hG hP hS hl)
  | some q => exact lv_ifnonnull hx hb hd ht (kt q rfl p e s m args below meth c H locs ls hx hb hml hr hlocks hown hts hK hG hP hS hl)
theorem vr_tableIn {dflt lo hi : Int} {offs : Array Int} {len : Nat} {x : Int32} (off : Int) (tgt : Nat) (hd : decode cc pc = .ok (.tableswitch dflt lo hi offs, len)) (h1 : ¬ x.toInt < lo) (h2 : ¬ hi < x.toInt) (ho : offs[(x.toInt - lo).toNat]? = some off) (ht : (pc : Int) + off = (tgt : Int)) (k : VV l g d own cc nL ret ρ tgt lv st σ) : VV l g d own cc nL ret ρ pc lv (.int x :: st) σ := by
  intro p e s m args below meth c H locs ls hx hb hml hr hlocks hown hts hK hG hP hS hl
  exact lv_tableIn hx hb hd h1 h2 ho ht (k p e s m args below meth c H locs ls hx hb hml hr hlocks hown hts hK hG hP hS hl)
theorem vr_tableOut {dflt lo hi : Int} {offs : Array Int} {len : Nat} {x : Int32} (tgt : Nat) (hd : decode cc pc = .ok (.tableswitch dflt lo hi offs, len)) (h : x.toInt < lo ∨ hi < x.toInt) (ht : (pc : Int) + dflt = (tgt : Int)) (k : VV l g d own cc nL ret ρ tgt lv st σ) : VV l g d own cc nL ret ρ pc lv (.int x :: st) σ := by
  intro p e s m args below meth c H locs ls hx hb hml hr hlocks hown hts hK hG hP hS hl
  exact lv_tableOut hx hb hd h ht (k p e s m args below meth c H locs ls hx hb hml hr hlocks hown hts hK hG hP hS hl)
theorem vr_lookup {dflt : Int} {ps : Array (Int × Int)} {len : Nat} {x : Int32} (off : Int) (tgt : Nat) (hd : decode cc pc = .ok (.lookupswitch dflt ps, len)) (hp : (ps.toList.zip (ps.toList.drop 1)).all (fun (a, next) => a.1 < next.1) = true) (ho : Op.lookupswitch.offset ps.toList dflt x.toInt = off) (ht : (pc : Int) + off = (tgt : Int)) (k : VV l g d own cc nL ret ρ tgt lv st σ) : VV l g d own cc nL ret ρ pc lv (.int x :: st) σ := by
  intro p e s m args below meth c H locs ls hx hb hml hr hlocks hown hts hK hG hP hS hl
  exact lv_lookup hx hb hd hp ho ht (k p e s m args below meth c H locs ls hx hb hml hr hlocks hown hts hK hG hP hS hl)
/-- the link of a field of class number ci, slot j, by an entry of own's pool -/
def FI (own : String) (idx ci j : Nat) : Prop := ∃ (C : String) (T : u_T) (N : Nat) (ty : Nat → FieldType), vwCl[ci]? = some (C, T, N) ∧ (∀ w ∈ u_ws C T N, w ∈ lw_g) ∧ j < N ∧ Cond.fieldLink own idx (T j).1 (T j).2.1 (T j).2.2.1 ∈ lw_g ∧
  (∀ k, k < N → parseFieldDescriptor (T k).2.2.1 = some (ty k)) ∧ (∀ a, a < N → ∀ b, b < N → a ≠ b → (T a).2.1 ≠ (T b).2.1)
/-- and it can be written: not final, of a type that takes v -/
def FW (ci j : Nat) (v : Int32) : Prop := ∃ (C : String) (T : u_T) (N : Nat) (ty : FieldType), vwCl[ci]? = some (C, T, N) ∧ (T j).2.2.2 = false ∧ parseFieldDescriptor (T j).2.2.1 = some ty ∧ narrow ty (.int v) = .int v ∧ fits ty (.int v) = true
theorem vr_getV {idx ci q : Nat} (j : Nat) (v : Value) (hd : decode cc pc = .ok (.getfield idx, 3)) (hf : FI own idx ci j) (hk : kd q = ci) (hj : j < ln q) (hc : ci < 9) (hv : cellV g σ q j = v) (k : VV l g d own cc nL ret ρ (pc + 3) lv (v :: st) σ) : VV l g d own cc nL ret ρ pc lv (.ref (g.1 q) :: st) σ := by
  obtain ⟨C, T, N, ty, h1, h2, h3, h4, h5, h6⟩ := hf
  intro p e s m args below meth c H locs ls hx hb hml hr hlocks hown hts hK hG hP hS hl
  refine va_get (D := g.2.1) (ci := ci) (v := v) (C := C) (T := T) (N := N) hx hb hts h2 hown hK hP q (by rw [ws_at g σ (kd_lt hk (by omega)), ce_obj hk hc]) h1 j h3 (hts _ h4) (fun _ h => h) ?_ hd (k p e s m args below meth c H locs ls hx hb hml hr hlocks hown hts hK hG hP hS hl)
  rw [List.getElem?_map, List.getElem?_range hj]
  exact congrArg some hv
theorem vr_getI {idx ci q : Nat} (j : Nat) (hd : decode cc pc = .ok (.getfield idx, 3)) (hf : FI own idx ci j) (hk : kd q = ci) (hs : rf q j = none ∧ j < ln q ∧ ci < 9) (k : VV l g d own cc nL ret ρ (pc + 3) lv (.int (σ.1 q j) :: st) σ) : VV l g d own cc nL ret ρ pc lv (.ref (g.1 q) :: st) σ :=
  vr_getV j _ hd hf hk hs.2.1 hs.2.2 (by rw [cellV, hs.1]) k
theorem vr_getR {idx ci q : Nat} (j : Nat) (hd : decode cc pc = .ok (.getfield idx, 3)) (hf : FI own idx ci j) (hk : kd q = ci) (hs : rf q j = some (rid q j) ∧ j < ln q ∧ ci < 9) (k : VV l g d own cc nL ret ρ (pc + 3) lv (.ref (g.1 (rid q j)) :: st) σ) : VV l g d own cc nL ret ρ pc lv (.ref (g.1 q) :: st) σ :=
  vr_getV j _ hd hf hk hs.2.1 hs.2.2 (by rw [cellV, hs.1]) k
theorem vr_putI {idx ci q : Nat} {v : Int32} (j : Nat) (hd : decode cc pc = .ok (.putfield idx, 3)) (hf : FI own idx ci j) (hw : FW ci j v) (hk : kd q = ci) (hs : rf q j = none ∧ j < ln q ∧ ci < 9) (k : VV l g d own cc nL ret ρ (pc + 3) lv st (sI σ q j v)) : VV l g d own cc nL ret ρ pc lv (.int v :: .ref (g.1 q) :: st) σ := by
  obtain ⟨C, T, N, ty, h1, h2, h3, h4, h5, h6⟩ := hf
  obtain ⟨C', T', N', t, g1, g2, g3, g4, g5⟩ := hw
  rw [h1] at g1
  cases g1
  intro p e s m args below meth c H locs ls hx hb hml hr hlocks hown hts hK hG hP hS hl
  refine va_put (D := g.2.1) (ci := ci) (v := .int v) (ty := t) (C := C) (T := T) (N := N) hx hb hts h2 ty h5 h6 hown hK hP (ws_D σ hG) hS q (by rw [ws_at g σ (kd_lt hk (by omega)), ce_obj hk hs.2.2]) h1 j h3 (hts _ h4) (fun _ h => h) g2 g3 g4 g5 (by simp; exact hs.2.1) hd (fun H locs hP hD hS => ?_)
  rw [set_sI hk hs.2.2 hs.2.1 hs.1] at hP
  exact k p e s m args below meth c H locs ls hx hb hml hr hlocks hown hts hK hG hP hS hl
theorem vr_iald {q : Nat} {i : Int32} (hd : decode cc pc = .ok (.iaload, 1)) (hk : kd q = 9) (hi : ¬ (i < 0 ∨ ln q ≤ i.toNatClampNeg)) (k : VV l g d own cc nL ret ρ (pc + 1) lv (.int (σ.1 q i.toNatClampNeg) :: st) σ) : VV l g d own cc nL ret ρ pc lv (.int i :: .ref (g.1 q) :: st) σ := by
  intro p e s m args below meth c H locs ls hx hb hml hr hlocks hown hts hK hG hP hS hl
  exact va_iald hx hb hK hP q 0 (by rw [ws_at g σ (kd_lt hk (by omega)), ce_int hk (Or.inl rfl)]) rfl hi hd (k p e s m args below meth c H locs ls hx hb hml hr hlocks hown hts hK hG hP hS hl)
theorem vr_zald {q : Nat} {i : Int32} (hd : decode cc pc = .ok (.baload, 1)) (hk : kd q = 10) (hi : ¬ (i < 0 ∨ ln q ≤ i.toNatClampNeg)) (k : VV l g d own cc nL ret ρ (pc + 1) lv (.int (σ.1 q i.toNatClampNeg) :: st) σ) : VV l g d own cc nL ret ρ pc lv (.int i :: .ref (g.1 q) :: st) σ := by
  intro p e s m args below meth c H locs ls hx hb hml hr hlocks hown hts hK hG hP hS hl
  exact va_zald hx hb hK hP q 1 (by rw [ws_at g σ (kd_lt hk (by omega)), ce_int hk (Or.inr rfl)]) rfl hi hd (k p e s m args below meth c H locs ls hx hb hml hr hlocks hown hts hK hG hP hS hl)
theorem vr_lald {q : Nat} {i : Int32} (hd : decode cc pc = .ok (.laload, 1)) (hk : kd q = 11) (hi : ¬ (i < 0 ∨ ln q ≤ i.toNatClampNeg)) (k : VV l g d own cc nL ret ρ (pc + 1) lv (.long (σ.2 q i.toNatClampNeg) :: st) σ) : VV l g d own cc nL ret ρ pc lv (.int i :: .ref (g.1 q) :: st) σ := by
  intro p e s m args below meth c H locs ls hx hb hml hr hlocks hown hts hK hG hP hS hl
  exact va_lald hx hb hK hP q 2 (by rw [ws_at g σ (kd_lt hk (by omega)), ce_long hk]) rfl hi hd (k p e s m args below meth c H locs ls hx hb hml hr hlocks hown hts hK hG hP hS hl)
theorem vr_iast {q : Nat} {i x : Int32} (hd : decode cc pc = .ok (.iastore, 1)) (hk : kd q = 9) (hi : ¬ (i < 0 ∨ ln q ≤ i.toNatClampNeg)) (k : VV l g d own cc nL ret ρ (pc + 1) lv st (sI σ q i.toNatClampNeg x)) : VV l g d own cc nL ret ρ pc lv (.int x :: .int i :: .ref (g.1 q) :: st) σ := by
  intro p e s m args below meth c H locs ls hx hb hml hr hlocks hown hts hK hG hP hS hl
  refine va_iast hx hb hK hP (ws_D σ hG) hS q 0 (by rw [ws_at g σ (kd_lt hk (by omega)), ce_int hk (Or.inl rfl)]) rfl hi hd (fun H locs hP hD hS => ?_)
  rw [set_sC hk (Or.inl rfl), ← sI_eq] at hP
  exact k p e s m args below meth c H locs ls hx hb hml hr hlocks hown hts hK hG hP hS hl
theorem vr_zast {q : Nat} {i x : Int32} (hd : decode cc pc = .ok (.bastore, 1)) (hk : kd q = 10) (hi : ¬ (i < 0 ∨ ln q ≤ i.toNatClampNeg)) (k : VV l g d own cc nL ret ρ (pc + 1) lv st (sI σ q i.toNatClampNeg (vp_nar .boolean x))) : VV l g d own cc nL ret ρ pc lv (.int x :: .int i :: .ref (g.1 q) :: st) σ := by
  intro p e s m args below meth c H locs ls hx hb hml hr hlocks hown hts hK hG hP hS hl
  refine va_zast hx hb hK hP (ws_D σ hG) hS q 1 (by rw [ws_at g σ (kd_lt hk (by omega)), ce_int hk (Or.inr rfl)]) rfl hi hd (fun H locs hP hD hS => ?_)
  rw [set_sC hk (Or.inr rfl), ← sI_eq] at hP
  exact k p e s m args below meth c H locs ls hx hb hml hr hlocks hown hts hK hG hP hS hl
theorem vr_last {q : Nat} {i : Int32} {x : Int64} (hd : decode cc pc = .ok (.lastore, 1)) (hk : kd q = 11) (hi : ¬ (i < 0 ∨ ln q ≤ i.toNatClampNeg)) (k : VV l g d own cc nL ret ρ (pc + 1) lv st (sL σ q i.toNatClampNeg x)) : VV l g d own cc nL ret ρ pc lv (.long x :: .int i :: .ref (g.1 q) :: st) σ := by
  intro p e s m args below meth c H locs ls hx hb hml hr hlocks hown hts hK hG hP hS hl
  refine va_last hx hb hK hP (ws_D σ hG) hS q 2 (by rw [ws_at g σ (kd_lt hk (by omega)), ce_long hk]) rfl hi hd (fun H locs hP hD hS => ?_)
  rw [set_sL hk] at hP
  exact k p e s m args below meth c H locs ls hx hb hml hr hlocks hown hts hK hG hP hS hl
theorem vr_alen {q c : Nat} (hd : decode cc pc = .ok (.arraylength, 1)) (hk : kd q = c) (hc : c = 9 ∨ c = 10 ∨ c = 11) (k : VV l g d own cc nL ret ρ (pc + 1) lv (.int (Int32.ofNat (ln q)) :: st) σ) : VV l g d own cc nL ret ρ pc lv (.ref (g.1 q) :: st) σ := by
  intro p e s m args below meth c H locs ls hx hb hml hr hlocks hown hts hK hG hP hS hl
  rcases hc with rfl | rfl | rfl
  · exact va_alen hx hb hK hP q 0 (by rw [ws_at g σ (kd_lt hk (by omega)), ce_int hk (Or.inl rfl)]) (ty := .int) rfl rfl hd (k p e s m args below meth c H locs ls hx hb hml hr hlocks hown hts hK hG hP hS hl)
  · exact va_alen hx hb hK hP q 1 (by rw [ws_at g σ (kd_lt hk (by omega)), ce_int hk (Or.inr rfl)]) (ty := .boolean) rfl rfl hd (k p e s m args below meth c H locs ls hx hb hml hr hlocks hown hts hK hG hP hS hl)
  · exact va_alen hx hb hK hP q 2 (by rw [ws_at g σ (kd_lt hk (by omega)), ce_long hk]) (ty := .long) rfl rfl hd (k p e s m args below meth c H locs ls hx hb hml hr hlocks hown hts hK hG hP hS hl)
theorem vr_aald {q c : Nat} {i : Int32} (hd : decode cc pc = .ok (.aaload, 1)) (hk : kd q = c) (hc : c = 12 ∨ c = 13 ∨ c = 14) (hi : ¬ (i < 0 ∨ ln q ≤ i.toNatClampNeg)) (hrr : rf q i.toNatClampNeg = some (rid q i.toNatClampNeg)) (k : VV l g d own cc nL ret ρ (pc + 1) lv (.ref (g.1 (rid q i.toNatClampNeg)) :: st) σ) : VV l g d own cc nL ret ρ pc lv (.int i :: .ref (g.1 q) :: st) σ := by
  intro p e s m args below meth c H locs ls hx hb hml hr hlocks hown hts hK hG hP hS hl
  have k1 := k p e s m args below meth c H locs ls hx hb hml hr hlocks hown hts hK hG hP hS hl
  have e : va_rf ((rf q i.toNatClampNeg).map g.1) = .ref (g.1 (rid q i.toNatClampNeg)) := by rw [hrr]; rfl
  rw [← e] at k1
  rcases hc with rfl | rfl | rfl
  · exact va_aldq hx hb hK hP q 3 (by rw [ws_at g σ (kd_lt hk (by omega)), ce_ref hk (by omega)]) rfl hi hd k1
  · exact va_aldq hx hb hK hP q 4 (by rw [ws_at g σ (kd_lt hk (by omega)), ce_ref hk (by omega)]) rfl hi hd k1
  · exact va_aldq hx hb hK hP q 5 (by rw [ws_at g σ (kd_lt hk (by omega)), ce_ref hk (by omega)]) rfl hi hd k1
theorem vr_copy {q0 q1 : Nat} {sp dp n : Int32} {idx : Nat} (hd : decode cc pc = .ok (.invokestatic idx, 3)) (hl0 : Cond.methodLink own idx arraycopyName ∈ lw_g) (hw : Cond.native arraycopyName ∈ lw_g ∧ Cond.static arraycopyName ∈ lw_g ∧ Cond.initialized "java/lang/System" ∈ lw_g) (hk0 : kd q0 = 9) (hk1 : kd q1 = 9)
    (hn : ¬ sp < 0 ∧ ¬ dp < 0 ∧ ¬ n < 0 ∧ sp.toNatClampNeg + n.toNatClampNeg ≤ ln q0 ∧ dp.toNatClampNeg + n.toNatClampNeg ≤ ln q1) (hdp : 1 ≤ d) (hst : (st.map fun v => v.category).sum ≤ 8)
    (k : VV l g d own cc nL ret ρ (pc + 3) lv st (sC σ q1 (va_cpy (σ.1 q0) (σ.1 q1) sp.toNatClampNeg dp.toNatClampNeg n.toNatClampNeg))) : VV l g d own cc nL ret ρ pc lv (.int n :: .int dp :: .ref (g.1 q1) :: .int sp :: .ref (g.1 q0) :: st) σ := by
  intro p e s m args below meth c H locs ls hx hb hml hr hlocks hown hts hK hG hP hS hl
  obtain ⟨h1, h2, h3, h4, h5⟩ := hn
  refine va_copyi hx hb (hml.trans hl.1.symm) hown (hts _ hl0) (hts _ hw.1) (hts _ hw.2.1) (hts _ hw.2.2) hK hP (ws_D σ hG) hS q0 q1 0 0 (ty := .int) (by rw [ws_at g σ (kd_lt hk0 (by omega)), ce_int hk0 (Or.inl rfl)]) (by rw [ws_at g σ (kd_lt hk1 (by omega)), ce_int hk1 (Or.inl rfl)]) rfl rfl rfl h1 h2 h3 h4 h5 (fun i hi => rfl) hdp ?_ hd (fun H locs hP hD hS => ?_)
  · have : nativeFrameWords "java/lang/System" "arraycopy" 5 + 11 ≤ 40 := by decide +kernel
    show _ ≤ 48 * d
    omega
  · rw [set_sC hk1 (Or.inl rfl)] at hP
    exact k p e s m args below meth c H locs ls hx hb hml hr hlocks hown hts hK hG hP hS hl
theorem vr_iret {x : Int32} (ty : FieldType) (hd : decode cc pc = .ok (.ireturn, 1)) (hrt : ret = some ty) (hn : narrow ty (.int x) = .int x) (hρ : ρ = (some (.int x), σ)) : VV l g d own cc nL ret ρ pc lv [.int x] σ := by
  intro p e s m args below meth c H locs ls hx hb hml hr hlocks hown hts hK hG hP hS hl
  subst hρ; subst hrt
  exact W.zret hx hb hr hn (fun t ht hW => ⟨⟨rfl, by rw [ht]; exact hP, va_K.moved hW.alike hK⟩, hS.F ht⟩) hS.2.2 hd hlocks
theorem vr_lret {x : Int64} (hd : decode cc pc = .ok (.lreturn, 1)) (hrt : ret = some .long) (hρ : ρ = (some (.long x), σ)) : VV l g d own cc nL ret ρ pc lv [.long x] σ := by
  intro p e s m args below meth c H locs ls hx hb hml hr hlocks hown hts hK hG hP hS hl
  subst hρ; subst hrt
  exact W.lret hx hb hr (fun t ht hW => ⟨⟨rfl, by rw [ht]; exact hP, va_K.moved hW.alike hK⟩, hS.F ht⟩) hS.2.2 hd hlocks
theorem vr_vret (hd : decode cc pc = .ok (.return_, 1)) (hrt : ret = none) (hρ : ρ = (none, σ)) : VV l g d own cc nL ret ρ pc lv [] σ := by
  intro p e s m args below meth c H locs ls hx hb hml hr hlocks hown hts hK hG hP hS hl
  subst hρ; subst hrt
  exact W.vret hx hb hr (fun t ht hW => ⟨⟨rfl, by rw [ht]; exact hP, va_K.moved hW.alike hK⟩, hS.F ht⟩) hS.2.2 hd hlocks
theorem vr_aret {o : Option Nat} {C : String} (hd : decode cc pc = .ok (.areturn, 1)) (hrt : ret = some (.object C)) (hρ : ρ = (some (rvO g o), σ)) : VV l g d own cc nL ret ρ pc lv [rvO g o] σ := by
  intro p e s m args below meth c H locs ls hx hb hml hr hlocks hown hts hK hG hP hS hl
  subst hρ; subst hrt
  exact W.aret hx hb hr (Or.inl ⟨_, rfl⟩) (by cases o with | none => exact Or.inl rfl | some q => exact Or.inr ⟨_, rfl⟩) (fun t ht hW => ⟨⟨rfl, by rw [ht]; exact hP, va_K.moved hW.alike hK⟩, hS.F ht⟩) hS.2.2 hd hlocks
/-- what a callee needs of the tables -/
def CW (y : MethodName) (cc : ByteArray) (nL : Nat) (ret : Option FieldType) (n : Nat) : Prop := Cond.code y cc nL ret ∈ lw_g ∧ Cond.initialized y.cls ∈ lw_g ∧ (y.cls ≠ "java/lang/invoke/MethodHandle" ∧ y.cls ≠ "java/lang/invoke/VarHandle" ∧ (parseMethodDescriptor y.desc).map (fun d => d.parameters.length) = some n) ∧ nL ≤ 20
def CWv (y : MethodName) (cc : ByteArray) (nL : Nat) (ret : Option FieldType) (n : Nat) : Prop := CW y cc nL ret n ∧ Cond.instanceMethod y ∈ lw_g ∧ Cond.selects y.cls y y ∈ lw_g
def CWs (y : MethodName) (cc : ByteArray) (nL : Nat) (ret : Option FieldType) (n : Nat) : Prop := CW y cc nL ret n ∧ Cond.static y ∈ lw_g
theorem cwB {y : MethodName} {cy : ByteArray} {ny n index d' : Nat} {ry : Option FieldType} {s : State} {args : Array Value} (hts : ∀ w ∈ lw_g, w.before args s = true) (hw : CW y cy ny ry n) (hl : Cond.methodLink own index y ∈ lw_g) (hdd : d' + 1 ≤ d) : CallB (rmD d) s args own index y cy ny ry (Cond.code y cy ny ry :: lw_g) (rmD d') 0 0 n := by
  obtain ⟨h1, h2, h3, h4⟩ := hw
  refine callB_of n hts (goodIn_sub (fun w hw => ?_) ?_) rfl rfl rfl (hts _ h2) (hts _ hl) h3 ⟨hdd, ?_⟩
  · rcases List.mem_cons.mp hw with rfl | h
    · exact h1
    · exact h
  · rw [List.all_cons, lw_good, Bool.and_true]
    exact List.all_eq_true.mp lw_good _ h1
  · show 8 + (ny + 11) + 48 * d' ≤ 48 * d
    omega
theorem vr_back {ρ1 : Option Value × SS} {rest st0 : List Value} {p : Program} {e : Env} {s : State} {m : MethodId} {args : Array Value} {below : List Frame} {meth : Method} {c : Code} {H : Heap} {locs : List Loc} {ls : Array Slot} {a : Array Value} {Q : State → Prop}
    (hr : va_Run p l e (rmD d) s m args below meth c H locs 0 0 0 0 (F0 m pc ls st0) rest (QcG g ρ1 a) (Aw g)) (hS : va_S (Aw g) s.heap H locs)
    (k : ∀ (H1 : Heap) (locs1 : List Loc), va_K g.2.1 vwCl (tysG g) s → va_P g.2.1 vwCl (wsG g ρ1.2) H1 → va_S (Aw g) s.heap H1 locs1 → W p l e (rmD d) s m args below meth c H1 locs1 0 0 Q (F0 m (pc + 3) ls (ρ1.1.toList ++ rest))) : W p l e (rmD d) s m args below meth c H locs 0 0 Q (F0 m pc ls st0) := by
  intro T hT X
  obtain ⟨v, st₀, t, T', L, h0, X', hL, e1, e2, ⟨⟨hv, hp, hkk⟩, hz, hf⟩, stp⟩ := hr T hT X
  cases hv
  rw [h0] at hz hf
  have hA : s.vm.Alike t.vm := by rw [← e2]; exact X'.warmed.alike
  obtain ⟨t2, a1, b1⟩ := k T'.heap (locs ++ L) (va_K.moved hA.symm hkk) (by rw [e1]; exact hp)
    ⟨Nat.le_trans hS.1 (by rw [e1]; exact hz), fun q h1 h2 => by rw [e1, hf q (Nat.lt_of_lt_of_le h1 hS.1) h2]; exact hS.2.1 q h1 h2, fun q hq => by
      rcases List.mem_append.mp hq with h | h
      · exact hS.2.2 q h
      · exact hL q h⟩ T' rfl X'
  exact ⟨t2, stp t2 a1, b1⟩
theorem vr_callV {y : MethodName} {cy : ByteArray} {ny n index d' ci q : Nat} {ry : Option FieldType} {ρ1 : Option Value × SS} {st0 : List Value} (As : List Value) (hd : decode cc pc = .ok (.invokevirtual index, 3)) (hM : CT l g d' y cy ny ry (.ref (g.1 q) :: As) σ ρ1) (hw : CWv y cy ny ry n) (hl : Cond.methodLink own index y ∈ lw_g) (hk : kd q = ci) (hcl : (vwCl[ci]?).map (fun x => x.1) = some y.cls) (hc : ci < 9) (hdd : d' + 1 ≤ d) (hn : As.length = n)
    (hst0 : st0 = As.reverse ++ .ref (g.1 q) :: st) (hst : (st.map fun v => v.category).sum ≤ 8)
    (k : VV l g d own cc nL ret ρ (pc + 3) lv (ρ1.1.toList ++ st) ρ1.2) : VV l g d own cc nL ret ρ pc lv st0 σ := by
  intro p e s m args below meth c H locs ls hx hb hml hr hlocks hown hts hK hG hP hS hls
  subst hst0
  have hB := cwB (own := own) (index := index) hts hw.1 hl hdd
  obtain ⟨C, hC, hCy⟩ := Option.map_eq_some_iff.mp hcl
  have hrec := va_recv (a := g.1 q) hK hP hC (by rw [ws_at g σ (kd_lt hk (by omega)), ce_obj hk hc])
  rw [hCy] at hrec
  refine vr_back (va_runV (C := y.cls) (As := As) (rest := st) ⟨hx, hb, hml, hown, hts⟩ hM ⟨hB, hts _ hw.2.1, hts _ hw.2.2⟩ ⟨CT.blind, hrec, fun U hU hW => ⟨rfl, hG, by rw [hU]; exact hP, va_K.moved hW.alike hK⟩⟩ rfl hn hls.1 rfl (lv_room hst) hd ⟨Nat.le_refl _, Nat.le_refl _⟩) hS (fun H locs hK hP hS => ?_)
  have hl := hls
  exact k p e s m args below meth c H locs ls hx hb hml hr hlocks hown hts hK hG hP hS hl
theorem vr_callS {y : MethodName} {cy : ByteArray} {ny n index d' : Nat} {ry : Option FieldType} {ρ1 : Option Value × SS} {st0 : List Value} (As : List Value) (hd : decode cc pc = .ok (.invokestatic index, 3)) (hM : CT l g d' y cy ny ry As σ ρ1) (hw : CWs y cy ny ry n) (hl : Cond.methodLink own index y ∈ lw_g) (hdd : d' + 1 ≤ d) (hn : As.length = n)
    (hst0 : st0 = As.reverse ++ st) (hst : (st.map fun v => v.category).sum ≤ 8)
    (k : VV l g d own cc nL ret ρ (pc + 3) lv (ρ1.1.toList ++ st) ρ1.2) : VV l g d own cc nL ret ρ pc lv st0 σ := by
  intro p e s m args below meth c H locs ls hx hb hml hr hlocks hown hts hK hG hP hS hls
  subst hst0
  have hB := cwB (own := own) (index := index) hts hw.1 hl hdd
  refine vr_back (va_runS (As := As) (rest := st) ⟨hx, hb, hml, hown, hts⟩ hM ⟨hB, hts _ hw.2⟩ ⟨CT.blind, fun U hU hW => ⟨rfl, hG, by rw [hU]; exact hP, va_K.moved hW.alike hK⟩⟩ rfl hn hls.1 rfl (lv_room hst) hd ⟨Nat.le_refl _, Nat.le_refl _⟩) hS (fun H locs hK hP hS => ?_)
  have hl := hls
  exact k p e s m args below meth c H locs ls hx hb hml hr hlocks hown hts hK hG hP hS hl
end RULES
