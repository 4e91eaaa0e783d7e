/-! Walks whatever the world (VX), and the constructors' judgement (CB: contract, VB: walk), by wip/whole/gen_ctor.py -/
def VX (l : Launch) (R : Room) (own : String) (cc : ByteArray) (nL : Nat) (Mt : Method → Prop) (Cx : State → Array Value → Heap → List Loc → Prop) (Qf : List Frame → Array Value → State → State → Prop) (k sl : Nat) (pc : Nat) (lv : List (Nat × Value)) (st : List Value) : Prop :=
  ∀ (p : Program) (e : Env) (s : State) (m : MethodId) (args : Array Value) (below : List Frame) (meth : Method) (c : Code) (H : Heap) (locs : List Loc) (ls : Array Slot),
    p.tables.exec = Jvm.exec → c.code = cc → c.maxLocals = nL → Mt meth → s.vm.findClass own = some m.cls → (∀ w ∈ lw_g, w.before args s = true) → Cx s args H locs → lv_has ls nL lv →
    W p l e R s m args below meth c H locs k sl (Qf below args s) (F0 m pc ls st)
section VX
variable {l : Launch} {R : Room} {own : String} {cc : ByteArray} {nL : Nat} {Mt : Method → Prop} {Cx : State → Array Value → Heap → List Loc → Prop} {Qf : List Frame → Array Value → State → State → Prop} {k sl pc : Nat} {lv : List (Nat × Value)} {st : List Value}
theorem vx_iadd {x y : Int32} (hd : decode cc pc = .ok (.iadd, 1)) (kk : VX l R own cc nL Mt Cx Qf k sl (pc + 1) lv (.int (x + y) :: st)) : VX l R own cc nL Mt Cx Qf k sl pc lv (.int y :: .int x :: st) := by
  intro p e s m args below meth c H locs ls hx hb hml hM hown hts hC hl
  exact lv_iadd hx hb hd (kk p e s m args below meth c H locs ls hx hb hml hM hown hts hC hl)
theorem vx_iand {x y : Int32} (hd : decode cc pc = .ok (.iand, 1)) (kk : VX l R own cc nL Mt Cx Qf k sl (pc + 1) lv (.int (x &&& y) :: st)) : VX l R own cc nL Mt Cx Qf k sl pc lv (.int y :: .int x :: st) := by
  intro p e s m args below meth c H locs ls hx hb hml hM hown hts hC hl
  exact lv_iand hx hb hd (kk p e s m args below meth c H locs ls hx hb hml hM hown hts hC hl)
theorem vx_isub {x y : Int32} (hd : decode cc pc = .ok (.isub, 1)) (kk : VX l R own cc nL Mt Cx Qf k sl (pc + 1) lv (.int (x - y) :: st)) : VX l R own cc nL Mt Cx Qf k sl pc lv (.int y :: .int x :: st) := by
  intro p e s m args below meth c H locs ls hx hb hml hM hown hts hC hl
  exact lv_isub hx hb hd (kk p e s m args below meth c H locs ls hx hb hml hM hown hts hC hl)
theorem vx_lcmp {x y : Int64} (hd : decode cc pc = .ok (.lcmp, 1)) (kk : VX l R own cc nL Mt Cx Qf k sl (pc + 1) lv (.int (lg_cmp x y) :: st)) : VX l R own cc nL Mt Cx Qf k sl pc lv (.long y :: .long x :: st) := by
  intro p e s m args below meth c H locs ls hx hb hml hM hown hts hC hl
  exact W.lcmp hx hb hd (kk p e s m args below meth c H locs ls hx hb hml hM hown hts hC hl)
theorem vx_iconst {n : Int} (v : Int32) (hd : decode cc pc = .ok (.iconst n, 1)) (hv : Int32.ofInt n = v) (kk : VX l R own cc nL Mt Cx Qf k sl (pc + 1) lv (.int v :: st)) : VX l R own cc nL Mt Cx Qf k sl pc lv st := by
  intro p e s m args below meth c H locs ls hx hb hml hM hown hts hC hl
  exact lv_iconst hx hb hd hv (kk p e s m args below meth c H locs ls hx hb hml hM hown hts hC hl)
theorem vx_bipush {n : Int} (v : Int32) (hd : decode cc pc = .ok (.bipush n, 2)) (hv : (Int8.ofInt n).toInt32 = v) (kk : VX l R own cc nL Mt Cx Qf k sl (pc + 2) lv (.int v :: st)) : VX l R own cc nL Mt Cx Qf k sl pc lv st := by
  intro p e s m args below meth c H locs ls hx hb hml hM hown hts hC hl
  exact lv_bipush hx hb hd hv (kk p e s m args below meth c H locs ls hx hb hml hM hown hts hC hl)
theorem vx_sipush {n : Int} (v : Int32) (hd : decode cc pc = .ok (.sipush n, 3)) (hv : (Int16.ofInt n).toInt32 = v) (kk : VX l R own cc nL Mt Cx Qf k sl (pc + 3) lv (.int v :: st)) : VX l R own cc nL Mt Cx Qf k sl pc lv st := by
  intro p e s m args below meth c H locs ls hx hb hml hM hown hts hC hl
  exact lv_sipush hx hb hd hv (kk p e s m args below meth c H locs ls hx hb hml hM hown hts hC hl)
theorem vx_iload_n {n : Fin 4} {i : Nat} {x : Int32} (j : Nat) (hd : decode cc pc = .ok (.iload_n n, 1)) (hi : (n : Nat) = i) (hj : lv[j]? = some (i, .int x)) (kk : VX l R own cc nL Mt Cx Qf k sl (pc + 1) lv (.int x :: st)) : VX l R own cc nL Mt Cx Qf k sl pc lv st := by
  intro p e s m args below meth c H locs ls hx hb hml hM hown hts hC hl
  exact lv_iload_n hx hb hd hi (lv_at hl j hj) (kk p e s m args below meth c H locs ls hx hb hml hM hown hts hC hl)
theorem vx_aload_n {n : Fin 4} {i : Nat} {x : Nat} (j : Nat) (hd : decode cc pc = .ok (.aload_n n, 1)) (hi : (n : Nat) = i) (hj : lv[j]? = some (i, .ref x)) (kk : VX l R own cc nL Mt Cx Qf k sl (pc + 1) lv (.ref x :: st)) : VX l R own cc nL Mt Cx Qf k sl pc lv st := by
  intro p e s m args below meth c H locs ls hx hb hml hM hown hts hC hl
  exact lv_aload_n hx hb hd hi (lv_at hl j hj) (kk p e s m args below meth c H locs ls hx hb hml hM hown hts hC hl)
theorem vx_istore_n {n : Fin 4} {i : Nat} {x : Int32} (lv' : List (Nat × Value)) (hd : decode cc pc = .ok (.istore_n n, 1)) (hi : (n : Nat) = i) (hn : i < nL) (hv : (i, Value.int x) :: lv.filter (fun q => !(q.1 == i) && !(q.1 + 1 == i && q.2.category == 2)) = lv') (kk : VX l R own cc nL Mt Cx Qf k sl (pc + 1) lv' st) : VX l R own cc nL Mt Cx Qf k sl pc lv (.int x :: st) := by
  intro p e s m args below meth c H locs ls hx hb hml hM hown hts hC hl
  exact lv_istore_n hx hb hd hi hl hn hv (fun ls hl => kk p e s m args below meth c H locs ls hx hb hml hM hown hts hC hl)
theorem vx_astore_n {n : Fin 4} {i : Nat} {x : Nat} (lv' : List (Nat × Value)) (hd : decode cc pc = .ok (.astore_n n, 1)) (hi : (n : Nat) = i) (hn : i < nL) (hv : (i, Value.ref x) :: lv.filter (fun q => !(q.1 == i) && !(q.1 + 1 == i && q.2.category == 2)) = lv') (kk : VX l R own cc nL Mt Cx Qf k sl (pc + 1) lv' st) : VX l R own cc nL Mt Cx Qf k sl pc lv (.ref x :: st) := by
  intro p e s m args below meth c H locs ls hx hb hml hM hown hts hC hl
  exact lv_astore_n hx hb hd hi hl hn hv (fun ls hl => kk p e s m args below meth c H locs ls hx hb hml hM hown hts hC hl)
theorem vx_iinc {i : Nat} {n : Int} {x v : Int32} (lv' : List (Nat × Value)) (j : Nat) (hd : decode cc pc = .ok (.iinc i n, 3)) (hj : lv[j]? = some (i, .int x)) (he : x + Int32.ofInt n = v) (hn : i < nL) (hv : (i, Value.int v) :: lv.filter (fun q => !(q.1 == i) && !(q.1 + 1 == i && q.2.category == 2)) = lv') (kk : VX l R own cc nL Mt Cx Qf k sl (pc + 3) lv' st) : VX l R own cc nL Mt Cx Qf k sl pc lv st := by
  intro p e s m args below meth c H locs ls hx hb hml hM hown hts hC hl
  exact lv_iinc hx hb hd hl hj he hn hv (fun ls hl => kk p e s m args below meth c H locs ls hx hb hml hM hown hts hC hl)
theorem vx_sub (is : List Nat) (lv' : List (Nat × Value)) (h : lv_pick lv is = lv') (kk : VX l R own cc nL Mt Cx Qf k sl pc lv' st) : VX l R own cc nL Mt Cx Qf k sl pc lv st := by
  intro p e s m args below meth c H locs ls hx hb hml hM hown hts hC hl0
  have hl := lv_sub hl0 is h
  exact kk p e s m args below meth c H locs ls hx hb hml hM hown hts hC hl
theorem vx_goto {off : Int} (tgt : Nat) (hd : decode cc pc = .ok (.goto off, 3)) (ht : (pc : Int) + off = (tgt : Int)) (kk : VX l R own cc nL Mt Cx Qf k sl tgt lv st) : VX l R own cc nL Mt Cx Qf k sl pc lv st := by
  intro p e s m args below meth c H locs ls hx hb hml hM hown hts hC hl
  exact lv_goto hx hb hd ht (kk p e s m args below meth c H locs ls hx hb hml hM hown hts hC hl)
theorem vx_dup {v : Value} (hd : decode cc pc = .ok (.dup, 1)) (hc : v.category = 1) (kk : VX l R own cc nL Mt Cx Qf k sl (pc + 1) lv (v :: v :: st)) : VX l R own cc nL Mt Cx Qf k sl pc lv (v :: st) := by
  intro p e s m args below meth c H locs ls hx hb hml hM hown hts hC hl
  exact lv_dup hx hb hd hc (kk p e s m args below meth c H locs ls hx hb hml hM hown hts hC hl)
theorem vx_tableIn {dflt lo hi : Int} {offs : Array Int} {len : Nat} {x : Int32} (off : Int) (tgt : Nat) (hd : decode cc pc = .ok (.tableswitch dflt lo hi offs, len)) (h1 : ¬ x.toInt < lo) (h2 : ¬ hi < x.toInt) (ho : offs[(x.toInt - lo).toNat]? = some off) (ht : (pc : Int) + off = (tgt : Int)) (kk : VX l R own cc nL Mt Cx Qf k sl tgt lv st) : VX l R own cc nL Mt Cx Qf k sl pc lv (.int x :: st) := by
  intro p e s m args below meth c H locs ls hx hb hml hM hown hts hC hl
  exact lv_tableIn hx hb hd h1 h2 ho ht (kk p e s m args below meth c H locs ls hx hb hml hM hown hts hC hl)
theorem vx_tableOut {dflt lo hi : Int} {offs : Array Int} {len : Nat} {x : Int32} (tgt : Nat) (hd : decode cc pc = .ok (.tableswitch dflt lo hi offs, len)) (h : x.toInt < lo ∨ hi < x.toInt) (ht : (pc : Int) + dflt = (tgt : Int)) (kk : VX l R own cc nL Mt Cx Qf k sl tgt lv st) : VX l R own cc nL Mt Cx Qf k sl pc lv (.int x :: st) := by
  intro p e s m args below meth c H locs ls hx hb hml hM hown hts hC hl
  exact lv_tableOut hx hb hd h ht (kk p e s m args below meth c H locs ls hx hb hml hM hown hts hC hl)
theorem vx_if_eq {x : Int32} {off : Int} (tgt : Nat) (hd : decode cc pc = .ok (.ifCond .eq off, 3)) (ht : (pc : Int) + off = (tgt : Int)) (kt : x = 0 → VX l R own cc nL Mt Cx Qf k sl tgt lv st) (kf : ¬ x = 0 → VX l R own cc nL Mt Cx Qf k sl (pc + 3) lv st) : VX l R own cc nL Mt Cx Qf k sl pc lv (.int x :: st) := by
  intro p e s m args below meth c H locs ls hx hb hml hM hown hts hC hl
  exact lv_if_eq hx hb hd ht (fun q => kt q p e s m args below meth c H locs ls hx hb hml hM hown hts hC hl) (fun q => kf q p e s m args below meth c H locs ls hx hb hml hM hown hts hC hl)
theorem vx_icmp_eq {x y : Int32} {off : Int} (tgt : Nat) (hd : decode cc pc = .ok (.if_icmp .eq off, 3)) (ht : (pc : Int) + off = (tgt : Int)) (kt : x = y → VX l R own cc nL Mt Cx Qf k sl tgt lv st) (kf : ¬ x = y → VX l R own cc nL Mt Cx Qf k sl (pc + 3) lv st) : VX l R own cc nL Mt Cx Qf k sl pc lv (.int y :: .int x :: st) := by
  intro p e s m args below meth c H locs ls hx hb hml hM hown hts hC hl
  exact lv_icmp_eq hx hb hd ht (fun q => kt q p e s m args below meth c H locs ls hx hb hml hM hown hts hC hl) (fun q => kf q p e s m args below meth c H locs ls hx hb hml hM hown hts hC hl)
theorem vx_if_ne {x : Int32} {off : Int} (tgt : Nat) (hd : decode cc pc = .ok (.ifCond .ne off, 3)) (ht : (pc : Int) + off = (tgt : Int)) (kt : ¬ x = 0 → VX l R own cc nL Mt Cx Qf k sl tgt lv st) (kf : x = 0 → VX l R own cc nL Mt Cx Qf k sl (pc + 3) lv st) : VX l R own cc nL Mt Cx Qf k sl pc lv (.int x :: st) := by
  intro p e s m args below meth c H locs ls hx hb hml hM hown hts hC hl
  exact lv_if_ne hx hb hd ht (fun q => kt q p e s m args below meth c H locs ls hx hb hml hM hown hts hC hl) (fun q => kf q p e s m args below meth c H locs ls hx hb hml hM hown hts hC hl)
theorem vx_icmp_ne {x y : Int32} {off : Int} (tgt : Nat) (hd : decode cc pc = .ok (.if_icmp .ne off, 3)) (ht : (pc : Int) + off = (tgt : Int)) (kt : ¬ x = y → VX l R own cc nL Mt Cx Qf k sl tgt lv st) (kf : x = y → VX l R own cc nL Mt Cx Qf k sl (pc + 3) lv st) : VX l R own cc nL Mt Cx Qf k sl pc lv (.int y :: .int x :: st) := by
  intro p e s m args below meth c H locs ls hx hb hml hM hown hts hC hl
  exact lv_icmp_ne hx hb hd ht (fun q => kt q p e s m args below meth c H locs ls hx hb hml hM hown hts hC hl) (fun q => kf q p e s m args below meth c H locs ls hx hb hml hM hown hts hC hl)
theorem vx_if_lt {x : Int32} {off : Int} (tgt : Nat) (hd : decode cc pc = .ok (.ifCond .lt off, 3)) (ht : (pc : Int) + off = (tgt : Int)) (kt : x < 0 → VX l R own cc nL Mt Cx Qf k sl tgt lv st) (kf : ¬ x < 0 → VX l R own cc nL Mt Cx Qf k sl (pc + 3) lv st) : VX l R own cc nL Mt Cx Qf k sl pc lv (.int x :: st) := by
  intro p e s m args below meth c H locs ls hx hb hml hM hown hts hC hl
  exact lv_if_lt hx hb hd ht (fun q => kt q p e s m args below meth c H locs ls hx hb hml hM hown hts hC hl) (fun q => kf q p e s m args below meth c H locs ls hx hb hml hM hown hts hC hl)
theorem vx_icmp_lt {x y : Int32} {off : Int} (tgt : Nat) (hd : decode cc pc = .ok (.if_icmp .lt off, 3)) (ht : (pc : Int) + off = (tgt : Int)) (kt : x < y → VX l R own cc nL Mt Cx Qf k sl tgt lv st) (kf : ¬ x < y → VX l R own cc nL Mt Cx Qf k sl (pc + 3) lv st) : VX l R own cc nL Mt Cx Qf k sl pc lv (.int y :: .int x :: st) := by
  intro p e s m args below meth c H locs ls hx hb hml hM hown hts hC hl
  exact lv_icmp_lt hx hb hd ht (fun q => kt q p e s m args below meth c H locs ls hx hb hml hM hown hts hC hl) (fun q => kf q p e s m args below meth c H locs ls hx hb hml hM hown hts hC hl)
theorem vx_if_ge {x : Int32} {off : Int} (tgt : Nat) (hd : decode cc pc = .ok (.ifCond .ge off, 3)) (ht : (pc : Int) + off = (tgt : Int)) (kt : 0 ≤ x → VX l R own cc nL Mt Cx Qf k sl tgt lv st) (kf : ¬ 0 ≤ x → VX l R own cc nL Mt Cx Qf k sl (pc + 3) lv st) : VX l R own cc nL Mt Cx Qf k sl pc lv (.int x :: st) := by
  intro p e s m args below meth c H locs ls hx hb hml hM hown hts hC hl
  exact lv_if_ge hx hb hd ht (fun q => kt q p e s m args below meth c H locs ls hx hb hml hM hown hts hC hl) (fun q => kf q p e s m args below meth c H locs ls hx hb hml hM hown hts hC hl)
theorem vx_icmp_ge {x y : Int32} {off : Int} (tgt : Nat) (hd : decode cc pc = .ok (.if_icmp .ge off, 3)) (ht : (pc : Int) + off = (tgt : Int)) (kt : y ≤ x → VX l R own cc nL Mt Cx Qf k sl tgt lv st) (kf : ¬ y ≤ x → VX l R own cc nL Mt Cx Qf k sl (pc + 3) lv st) : VX l R own cc nL Mt Cx Qf k sl pc lv (.int y :: .int x :: st) := by
  intro p e s m args below meth c H locs ls hx hb hml hM hown hts hC hl
  exact lv_icmp_ge hx hb hd ht (fun q => kt q p e s m args below meth c H locs ls hx hb hml hM hown hts hC hl) (fun q => kf q p e s m args below meth c H locs ls hx hb hml hM hown hts hC hl)
theorem vx_if_gt {x : Int32} {off : Int} (tgt : Nat) (hd : decode cc pc = .ok (.ifCond .gt off, 3)) (ht : (pc : Int) + off = (tgt : Int)) (kt : 0 < x → VX l R own cc nL Mt Cx Qf k sl tgt lv st) (kf : ¬ 0 < x → VX l R own cc nL Mt Cx Qf k sl (pc + 3) lv st) : VX l R own cc nL Mt Cx Qf k sl pc lv (.int x :: st) := by
  intro p e s m args below meth c H locs ls hx hb hml hM hown hts hC hl
  exact lv_if_gt hx hb hd ht (fun q => kt q p e s m args below meth c H locs ls hx hb hml hM hown hts hC hl) (fun q => kf q p e s m args below meth c H locs ls hx hb hml hM hown hts hC hl)
theorem vx_icmp_gt {x y : Int32} {off : Int} (tgt : Nat) (hd : decode cc pc = .ok (.if_icmp .gt off, 3)) (ht : (pc : Int) + off = (tgt : Int)) (kt : y < x → VX l R own cc nL Mt Cx Qf k sl tgt lv st) (kf : ¬ y < x → VX l R own cc nL Mt Cx Qf k sl (pc + 3) lv st) : VX l R own cc nL Mt Cx Qf k sl pc lv (.int y :: .int x :: st) := by
  intro p e s m args below meth c H locs ls hx hb hml hM hown hts hC hl
  exact lv_icmp_gt hx hb hd ht (fun q => kt q p e s m args below meth c H locs ls hx hb hml hM hown hts hC hl) (fun q => kf q p e s m args below meth c H locs ls hx hb hml hM hown hts hC hl)
theorem vx_if_le {x : Int32} {off : Int} (tgt : Nat) (hd : decode cc pc = .ok (.ifCond .le off, 3)) (ht : (pc : Int) + off = (tgt : Int)) (kt : x ≤ 0 → VX l R own cc nL Mt Cx Qf k sl tgt lv st) (kf : ¬ x ≤ 0 → VX l R own cc nL Mt Cx Qf k sl (pc + 3) lv st) : VX l R own cc nL Mt Cx Qf k sl pc lv (.int x :: st) := by
  intro p e s m args below meth c H locs ls hx hb hml hM hown hts hC hl
  exact lv_if_le hx hb hd ht (fun q => kt q p e s m args below meth c H locs ls hx hb hml hM hown hts hC hl) (fun q => kf q p e s m args below meth c H locs ls hx hb hml hM hown hts hC hl)
theorem vx_icmp_le {x y : Int32} {off : Int} (tgt : Nat) (hd : decode cc pc = .ok (.if_icmp .le off, 3)) (ht : (pc : Int) + off = (tgt : Int)) (kt : x ≤ y → VX l R own cc nL Mt Cx Qf k sl tgt lv st) (kf : ¬ x ≤ y → VX l R own cc nL Mt Cx Qf k sl (pc + 3) lv st) : VX l R own cc nL Mt Cx Qf k sl pc lv (.int y :: .int x :: st) := by
  intro p e s m args below meth c H locs ls hx hb hml hM hown hts hC hl
  exact lv_icmp_le hx hb hd ht (fun q => kt q p e s m args below meth c H locs ls hx hb hml hM hown hts hC hl) (fun q => kf q p e s m args below meth c H locs ls hx hb hml hM hown hts hC hl)
end VX
/-- the words that a callee doesn't keep of itself: nest mates' links, arrays of own classes -/
def NA (s : State) : Prop := (∀ a i x h, Cond.methodLinkNest a i x h ∈ lw_tbl → va_Nw (.methodLinkNest a i x h) s) ∧ ∀ C, Cond.arrayOver (.object C) ∈ lw_tbl → va_AO C s
theorem NA.warm {s U : State} (hW : s.WarmedH U.vm) (h : NA s) : NA U := ⟨fun a i x w hw => va_Nw.warmM hW (h.1 a i x w hw), fun C hC => va_AO.moved hW.alike (h.2 C hC)⟩
theorem NA.same {s U : State} (hvm : s.vm = U.vm) (h : NA s) : NA U := ⟨fun a i x w hw => va_Nw.same rfl hvm (h.1 a i x w hw), fun C hC => va_AO.moved (hvm ▸ Vm.Alike.refl s.vm) (h.2 C hC)⟩
theorem NA.of {s : State} {args : Array Value} (h : ∀ w ∈ lw_tbl, w.before args s = true) : NA s := ⟨fun a i x w hw => va_Nw.of rfl (h _ hw), fun C hC => va_AO.of (h _ hC)⟩
def rmC (d mc ms : Nat) : Room := { frames := d, cells := mc, slots := ms, locals := 48 * d }
def QcB (g : GG) (ws0 : va_W) (sz : Nat) (post : va_W → Prop) : Array Value → State → Outcome → State → Prop := fun _ st oc t => (oc = .returned none ∧ ∃ w, post w ∧ va_P g.2.1 vwCl w t.heap ∧ va_K g.2.1 vwCl (tysG g) t ∧ va_D (va_A ws0 sz) w) ∧ va_F (va_A ws0 sz) st t
def PcB (g : GG) (h0 : Nat) (ws0 : va_W) (sz : Nat) : Array Value → State → Prop := va_Pc [.ref h0] (fun U => NA U ∧ U.heap.size = sz ∧ va_P g.2.1 vwCl ws0 U.heap ∧ va_K g.2.1 vwCl (tysG g) U ∧ va_D (fun _ => True) ws0)
/-- a constructor's contract: from the cells ws0 (the new object, at h0) it makes cells w with post w -/
def CB (l : Launch) (g : GG) (d : Nat) (y : MethodName) (cc : ByteArray) (nL : Nat) (h0 : Nat) (ws0 : va_W) (sz : Nat) (post : va_W → Prop) (mc ms : Nat) : Prop :=
  Met l y (Cond.code y cc nL none :: lw_g) (rmC d mc ms) (PcB g h0 ws0 sz) (QcB g ws0 sz post) mc ms (va_A ws0 sz)
theorem CB.blind {g : GG} {h0 : Nat} {ws0 : va_W} {sz : Nat} : FrameBlind (PcB g h0 ws0 sz) := by
  intro a U f mk q
  obtain ⟨q0, qn, q1, q2, q3, q4⟩ := q
  exact ⟨q0, NA.same (s := U) (U := U.calling f mk a) rfl qn, q1, q2, va_K.moved (u := U) (U := U.calling f mk a) (Vm.Alike.refl U.vm) q3, q4⟩
def CxB (g : GG) (ws0 : va_W) (sz : Nat) (ws : va_W) : State → Array Value → Heap → List Loc → Prop := fun s _ H locs => (NA s ∧ s.heap.size = sz) ∧ va_K g.2.1 vwCl (tysG g) s ∧ va_P g.2.1 vwCl ws H ∧ va_D (va_A ws0 sz) ws ∧ va_S (va_A ws0 sz) s.heap H locs
def MtB (meth : Method) : Prop := meth.name = "<init>" ∧ meth.sig.returnType = none ∧ meth.locks = false
def VB (l : Launch) (g : GG) (d : Nat) (own : String) (cc : ByteArray) (nL : Nat) (ws0 : va_W) (sz : Nat) (post : va_W → Prop) (mc ms : Nat) (k sl pc : Nat) (lv : List (Nat × Value)) (st : List Value) (ws : va_W) : Prop :=
  VX l (rmC d mc ms) own cc nL MtB (CxB g ws0 sz ws) (fun below args s => MQ below (QcB g ws0 sz post) args s mc ms (va_A ws0 sz)) k sl pc lv st
theorem CB.of {l : Launch} {g : GG} {d : Nat} {y : MethodName} {cc : ByteArray} {nL h0 : Nat} {ws0 : va_W} {sz : Nat} {post : va_W → Prop} {mc ms : Nat} (own : String) (hy : plainName y.cls = true) (hyi : y.name = "<init>") (hown : y.cls = own) (hn : 1 ≤ nL)
    (h : VB l g d own cc nL ws0 sz post mc ms 0 0 0 [(0, .ref h0)] [] ws0) : CB l g d y cc nL h0 ws0 sz post mc ms := by
  refine Met.ofW (cc := cc) (maxL := nL) (ret := none) hy rfl ?_
  intro p e s m args below meth c s₁ B hml hv
  obtain ⟨rfl, hNA, hsz, hP, hK, hD⟩ := hv
  have hts0 := atoms_spec (ws := Cond.code y cc nL none :: lw_g) B.pre
  rw [lg_entry_eq]
  subst hown
  have hname : meth.name = "<init>" := (name_of_methodNamed B.named B.method).1.trans hyi
  exact h p e s m _ below meth c s.heap [] _ B.exec B.bytes hml ⟨hname, B.returns, B.notSynchronized⟩ (findClass_of_methodNamed B.named) (fun w hw => hts0 w (List.mem_cons_of_mem _ hw)) ⟨⟨hNA, hsz⟩, hK, hP, hD.self, va_S.rf⟩ (lv_entry [.ref h0] hn)
theorem fits_ref {ty : FieldType} {q : Nat} (h : (∃ C, ty = .object C) ∨ ∃ t, ty = .array t) : narrow ty (.ref q) = .ref q ∧ fits ty (.ref q) = true := by
  rcases h with ⟨C, rfl⟩ | ⟨t, rfl⟩ <;> exact ⟨rfl, rfl⟩
section VB
variable {l : Launch} {g : GG} {d : Nat} {own : String} {cc : ByteArray} {nL : Nat} {ws0 : va_W} {sz : Nat} {post : va_W → Prop} {mc ms k sl pc : Nat} {lv : List (Nat × Value)} {st : List Value} {ws : va_W}
theorem wb_objInit {idx a : Nat} (hd : decode cc pc = .ok (.invokespecial idx, 3)) (hl0 : Cond.methodLink own idx objectInit ∈ lw_g) (hw : Cond.instanceMethod objectInit ∈ lw_g ∧ Cond.code objectInit ⟨#[0xb1]⟩ 1 none ∈ lw_g) (hdp : 1 ≤ d) (hst : (st.map fun v => v.category).sum ≤ 8)
    (kk : VB l g d own cc nL ws0 sz post mc ms k sl (pc + 3) lv st ws) : VB l g d own cc nL ws0 sz post mc ms k sl pc lv (.ref a :: st) ws := by
  intro p e s m args below meth c H locs ls hx hb hml hM hown hts hC hl
  refine W.objInit hx hb hown (hts _ hl0) (hts _ hw.1) (hts _ hw.2) rfl (by rw [hml]; exact hl.1) rfl hd hdp ?_ (kk p e s m args below meth c H locs ls hx hb hml hM hown hts hC hl)
  have := lv_room (m := m) (pc := pc) (ls := ls) (rest := .ref a :: st) hst
  show _ ≤ 48 * d
  omega
/-- a class of objects: its place, name, fields, number of fields -/
def KI (ci : Nat) (C : String) (T : u_T) (N : Nat) (ty : Nat → FieldType) : Prop := vwCl[ci]? = some (C, T, N) ∧ (∀ w ∈ u_ws C T N, w ∈ lw_g) ∧ (∀ k, k < N → parseFieldDescriptor (T k).2.2.1 = some (ty k)) ∧ (∀ a, a < N → ∀ b, b < N → a ≠ b → (T a).2.1 ≠ (T b).2.1)
theorem wb_new {idx ci N : Nat} {C : String} {T : u_T} {ty : Nat → FieldType} (fs : List Value) (hd : decode cc pc = .ok (.new idx, 3)) (hk : KI ci C T N ty) (hl0 : Cond.classLink own idx C ∈ lw_g) (hi : Cond.instantiable C N ∈ lw_g) (hini : Cond.initialized C ∈ lw_g) (hfs : ∀ j, j < N → defaultValue (ty j) = vp_V fs j) (hkc : k + 1 ≤ mc) (hks : sl + N ≤ ms)
    (kk : ∀ q : Nat, VB l g d own cc nL ws0 sz post mc ms (k + 1) (sl + N) (pc + 3) lv (.ref q :: st) (ws ++ [(q, .inr (ci, fs))])) : VB l g d own cc nL ws0 sz post mc ms k sl pc lv st ws := by
  intro p e s m args below meth c H locs ls hx hb hml hM hown hts hC hl
  obtain ⟨⟨hNA, hsz⟩, hK, hP, hD, hS⟩ := hC
  refine va_new (D := g.2.1) (cl := vwCl) hx hb hts hk.2.1 ty hk.2.2.1 hown (hts _ hl0) (hts _ hi) (hts _ hini) hK hP hD hS (fun q h => Or.inr (by rw [← hsz]; exact h)) hk.1 hfs hkc hks hd (fun q H1 hP1 hD1 hS1 => ?_)
  exact kk q p e s m args below meth c H1 locs ls hx hb hml hM hown hts ⟨⟨hNA, hsz⟩, hK, hP1, hD1, hS1⟩ hl
theorem ra_find {U : State} {cA : ClassId} {ty : FieldType} (h : va_RA U cA ty) : U.vm.findClass ("[" ++ ty.toString) = some cA := by
  cases ty with
  | object C =>
    obtain ⟨_, _, _, _, _, h2⟩ := h
    exact h2
  | _ => exact h
theorem tys_at {g : GG} {s : State} (hK : va_K g.2.1 vwCl (tysG g) s) {i : Nat} {cA : ClassId} {ty : FieldType} (h : (tysG g)[i]? = some (cA, ty)) : s.vm.findClass ("[" ++ ty.toString) = some cA := ra_find (hK.2 i _ h).2
theorem wb_newa {atype : ArrayType} {n : Int32} (N' : Nat) (ty : FieldType) (i c : Nat) (a0 : vp_A) (hd : decode cc pc = .ok (.newarray atype, 2)) (hw : Cond.arrayClass (newarray.typeOf atype) ∈ lw_g) (hty : newarray.typeOf atype = ty) (hi : ∀ g : GG, (tysG g)[i]? = some (g.2.2 c, ty)) (ha : ∀ cA : ClassId, vp_cell cA a0 = arrV cA N' (fun _ => defaultValue ty)) (hn : ¬ n < 0) (hN : n.toNatClampNeg = N') (hbytes : N' * componentBytes ty ≤ 536870912) (hkc : k + 1 ≤ mc) (hks : sl + N' ≤ ms)
    (kk : ∀ q : Nat, VB l g d own cc nL ws0 sz post mc ms (k + 1) (sl + N') (pc + 2) lv (.ref q :: st) (ws ++ [(q, .inl (g.2.2 c, a0))])) : VB l g d own cc nL ws0 sz post mc ms k sl pc lv (.int n :: st) ws := by
  intro p e s m args below meth c1 H locs ls hx hb hml hM hown hts hC hl
  obtain ⟨⟨hNA, hsz⟩, hK, hP, hD, hS⟩ := hC
  refine va_newa (a0 := a0) (N' := N') (D := g.2.1) (cl := vwCl) (tys := tysG g) hx hb (hts _ hw) hty hK hP hD hS (fun q h => Or.inr (by rw [← hsz]; exact h)) ha hn hN hbytes hkc hks hd (fun q cA H1 hK1 hP1 hD1 hS1 => ?_)
  have e1 := tys_at hK (hi g)
  have h6 : (tysG g ++ [(cA, ty)])[6]? = some (cA, ty) := rfl
  have e2 : s.vm.findClass ("[" ++ ty.toString) = some cA := ra_find (hK1.2 6 _ h6).2
  have e3 : cA = g.2.2 c := Option.some.inj (e2.symm.trans e1)
  subst e3
  exact kk q p e s m args below meth c1 H1 locs ls hx hb hml hM hown hts ⟨⟨hNA, hsz⟩, hK, hP1, hD1, hS1⟩ hl
theorem wb_newq {idx : Nat} {C : String} {n : Int32} (N' : Nat) (i c : Nat) (hd : decode cc pc = .ok (.anewarray idx, 3)) (hl0 : Cond.classLink own idx C ∈ lw_g) (hw : Cond.arrayOver (.object C) ∈ lw_tbl) (hi : ∀ g : GG, (tysG g)[i]? = some (g.2.2 c, .object C)) (hn : ¬ n < 0) (hN : n.toNatClampNeg = N') (hbytes : N' * 4 ≤ 536870912) (hkc : k + 1 ≤ mc) (hks : sl + N' ≤ ms)
    (kk : ∀ q : Nat, VB l g d own cc nL ws0 sz post mc ms (k + 1) (sl + N') (pc + 3) lv (.ref q :: st) (ws ++ [(q, .inl (g.2.2 c, N', .inr (.inr (.inr (.inr (fun _ => none))))))])) : VB l g d own cc nL ws0 sz post mc ms k sl pc lv (.int n :: st) ws := by
  intro p e s m args below meth c1 H locs ls hx hb hml hM hown hts hC hl
  obtain ⟨⟨hNA, hsz⟩, hK, hP, hD, hS⟩ := hC
  have hAO : va_AO C s := hNA.2 C hw
  refine va_newq (N' := N') (D := g.2.1) (cl := vwCl) (tys := tysG g) hx hb hown (hts _ hl0) hAO hK hP hD hS (fun q h => Or.inr (by rw [← hsz]; exact h)) hn hN hbytes hkc hks hd (fun q cA H1 hK1 hP1 hD1 hS1 => ?_)
  have e1 := tys_at hK (hi g)
  have h6 : (tysG g ++ [(cA, .object C)])[6]? = some (cA, .object C) := rfl
  have e2 : s.vm.findClass ("[" ++ (FieldType.object C).toString) = some cA := by
    have h1 := (hK1.2 6 _ h6).2
    obtain ⟨_, _, _, _, _, h2⟩ := h1
    exact h2
  have e3 : cA = g.2.2 c := Option.some.inj (e2.symm.trans e1)
  subst e3
  exact kk q p e s m args below meth c1 H1 locs ls hx hb hml hM hown hts ⟨⟨hNA, hsz⟩, hK, hP1, hD1, hS1⟩ hl
theorem wb_put {idx ci N a : Nat} {C : String} {T : u_T} {ty : Nat → FieldType} {fs : List Value} {v : Value} {pre pst : va_W} (j : Nat) (fs' : List Value) (hd : decode cc pc = .ok (.putfield idx, 3)) (hk : KI ci C T N ty) (hl0 : Cond.fieldLink own idx C (T j).2.1 (T j).2.2.1 ∈ lw_g) (hj : j < N) (hT : (T j).1 = C) (hC : C = own) (hf : narrow (ty j) v = v ∧ fits (ty j) v = true) (hlen : j < fs.length) (hfs : fs.set j v = fs') (hws : ws = pre ++ (a, .inr (ci, fs)) :: pst)
    (kk : VB l g d own cc nL ws0 sz post mc ms k sl (pc + 3) lv st (pre ++ (a, .inr (ci, fs')) :: pst)) : VB l g d own cc nL ws0 sz post mc ms k sl pc lv (v :: .ref a :: st) ws := by
  intro p e s m args below meth c H locs ls hx hb hml hM hown hts hC1 hl
  obtain ⟨⟨hNA, hsz⟩, hK, hP, hD, hS⟩ := hC1
  have he : ws[pre.length]? = some (a, .inr (ci, fs)) := by rw [hws]; simp
  have hset : ws.set pre.length (a, .inr (ci, fs.set j v)) = pre ++ (a, .inr (ci, fs')) :: pst := by rw [hws, hfs]; simp
  cases hfin : (T j).2.2.2 with
  | false =>
    refine va_put (D := g.2.1) (ci := ci) (v := v) (ty := ty j) (C := C) (T := T) (N := N) hx hb hts hk.2.1 ty hk.2.2.1 hk.2.2.2 hown hK hP hD hS pre.length he hk.1 j hj (hts _ hl0) (fun x h => by rw [← hT]; exact h) hfin (hk.2.2.1 j hj) hf.1 hf.2 hlen hd (fun H1 locs1 hP1 hD1 hS1 => ?_)
    rw [hset] at hP1 hD1
    exact kk p e s m args below meth c H1 locs1 ls hx hb hml hM hown hts ⟨⟨hNA, hsz⟩, hK, hP1, hD1, hS1⟩ hl
  | true =>
    refine va_putF (D := g.2.1) (ci := ci) (v := v) (ty := ty j) (C := C) (T := T) (N := N) hx hb hts hk.2.1 ty hk.2.2.1 hk.2.2.2 hown hK hP hD hS pre.length he hk.1 j hj (hts _ hl0) (fun x h => by rw [← hT]; exact h) hfin hM.1 (hT.trans hC) (hk.2.2.1 j hj) hf.1 hf.2 hlen hd (fun H1 locs1 hP1 hD1 hS1 => ?_)
    rw [hset] at hP1 hD1
    exact kk p e s m args below meth c H1 locs1 ls hx hb hml hM hown hts ⟨⟨hNA, hsz⟩, hK, hP1, hD1, hS1⟩ hl
theorem wb_get {idx ci N a : Nat} {C : String} {T : u_T} {ty : Nat → FieldType} {fs : List Value} {pre pst : va_W} (j : Nat) (v : Value) (hd : decode cc pc = .ok (.getfield idx, 3)) (hk : KI ci C T N ty) (hl0 : Cond.fieldLink own idx C (T j).2.1 (T j).2.2.1 ∈ lw_g) (hj : j < N) (hT : (T j).1 = C) (hv : fs[j]? = some v) (hws : ws = pre ++ (a, .inr (ci, fs)) :: pst)
    (kk : VB l g d own cc nL ws0 sz post mc ms k sl (pc + 3) lv (v :: st) ws) : VB l g d own cc nL ws0 sz post mc ms k sl pc lv (.ref a :: st) ws := by
  intro p e s m args below meth c H locs ls hx hb hml hM hown hts hC1 hl
  obtain ⟨⟨hNA, hsz⟩, hK, hP, hD, hS⟩ := id hC1
  have he : ws[pre.length]? = some (a, .inr (ci, fs)) := by rw [hws]; simp
  exact va_get (D := g.2.1) (ci := ci) (v := v) (C := C) (T := T) (N := N) hx hb hts hk.2.1 hown hK hP pre.length he hk.1 j hj (hts _ hl0) (fun x h => by rw [← hT]; exact h) hv hd (kk p e s m args below meth c H locs ls hx hb hml hM hown hts hC1 hl)
theorem wb_iast {a n : Nat} {f : Nat → Int32} {i x : Int32} {pre pst : va_W} (f' : Nat → Int32) (hd : decode cc pc = .ok (.iastore, 1)) (hin : vp_in i n) (hf : upd f i.toNatClampNeg x = f') (hws : ws = pre ++ (a, .inl (g.2.2 9, n, .inl f)) :: pst)
    (kk : VB l g d own cc nL ws0 sz post mc ms k sl (pc + 1) lv st (pre ++ (a, .inl (g.2.2 9, n, .inl f')) :: pst)) : VB l g d own cc nL ws0 sz post mc ms k sl pc lv (.int x :: .int i :: .ref a :: st) ws := by
  intro p e s m args below meth c H locs ls hx hb hml hM hown hts hC1 hl
  obtain ⟨⟨hNA, hsz⟩, hK, hP, hD, hS⟩ := hC1
  have he : ws[pre.length]? = some (a, .inl (g.2.2 9, n, .inl f)) := by rw [hws]; simp
  have hset : ws.set pre.length (a, .inl (g.2.2 9, n, .inl (upd f i.toNatClampNeg x))) = pre ++ (a, .inl (g.2.2 9, n, .inl f')) :: pst := by rw [hws, hf]; simp
  refine va_iast hx hb hK hP hD hS pre.length 0 he rfl hin hd (fun H1 locs1 hP1 hD1 hS1 => ?_)
  rw [hset] at hP1 hD1
  exact kk p e s m args below meth c H1 locs1 ls hx hb hml hM hown hts ⟨⟨hNA, hsz⟩, hK, hP1, hD1, hS1⟩ hl
theorem wb_astq {a n v ci : Nat} {vs : List Value} {r : vw_C} {f : Nat → Option Nat} {i : Int32} {pre pst : va_W} (t0 c : Nat) (f' : Nat → Option Nat) (hd : decode cc pc = .ok (.aastore, 1)) (hin : vp_in i n) (ht : ∀ g : GG, (tysG g)[t0]? = some (g.2.2 c, .object r.1)) (hc : vwCl[ci]? = some r) (hf : va_up f i.toNatClampNeg (some v) = f') (hws : ws = pre ++ (a, .inl (g.2.2 c, n, .inr (.inr (.inr (.inr f))))) :: pst) (hv : (v, .inr (ci, vs)) ∈ ws)
    (kk : VB l g d own cc nL ws0 sz post mc ms k sl (pc + 1) lv st (pre ++ (a, .inl (g.2.2 c, n, .inr (.inr (.inr (.inr f'))))) :: pst)) : VB l g d own cc nL ws0 sz post mc ms k sl pc lv (.ref v :: .int i :: .ref a :: st) ws := by
  intro p e s m args below meth c1 H locs ls hx hb hml hM hown hts hC1 hl
  obtain ⟨⟨hNA, hsz⟩, hK, hP, hD, hS⟩ := hC1
  have he : ws[pre.length]? = some (a, .inl (g.2.2 c, n, .inr (.inr (.inr (.inr f))))) := by rw [hws]; simp
  have hset : ws.set pre.length (a, .inl (g.2.2 c, n, .inr (.inr (.inr (.inr (va_up f i.toNatClampNeg (some v))))))) = pre ++ (a, .inl (g.2.2 c, n, .inr (.inr (.inr (.inr f'))))) :: pst := by rw [hws, hf]; simp
  obtain ⟨qk, hqk⟩ := List.getElem?_of_mem hv
  refine va_astq hx hb hK hP hD hS pre.length t0 qk ci he (ht g) hqk hc hin hd (fun H1 locs1 hP1 hD1 hS1 => ?_)
  rw [hset] at hP1 hD1
  exact kk p e s m args below meth c1 H1 locs1 ls hx hb hml hM hown hts ⟨⟨hNA, hsz⟩, hK, hP1, hD1, hS1⟩ hl
theorem nd_of : ∀ l : List Nat, l.Nodup → va_nd l = true
  | [], _ => rfl
  | a :: l, h => by
    have h1 := List.nodup_cons.mp h
    simp only [va_nd, Bool.and_eq_true, decide_eq_true_eq]
    exact ⟨h1.1, nd_of l h1.2⟩
/-- the rest of a list of cells, and what a callee made of its last one -/
theorem join_last {A0 : Nat → Prop} {D : va_G} {cl : List vw_C} {ws w1 : va_W} {x : Nat × va_E} {H H1 : Heap} (hP : va_P D cl (ws ++ [x]) H) (hD : va_D A0 (ws ++ [x])) (hk : ∀ q : Nat, q < H.size → ¬ va_A [x] H.size q → H1[q]? = H[q]?) (hF : ∀ q, va_A [x] H.size q → A0 q) (hP1 : va_P D cl w1 H1) (hD1 : va_D (va_A [x] H.size) w1) : va_P D cl (ws ++ w1) H1 ∧ va_D A0 (ws ++ w1) := by
  refine va_join (ws := ws ++ [x]) (wc := [x]) (wr := ws) (w1 := w1) hP hD [ws.length] (List.range ws.length) ?_ ?_ ?_ ?_ hk hF hP1 hD1
  · simp
  · apply List.ext_getElem?
    intro i
    rw [List.getElem?_map, List.getElem?_map]
    rcases Nat.lt_or_ge i ws.length with h | h
    · rw [List.getElem?_range h]
      simp [List.getElem?_append_left h, h]
    · rw [List.getElem?_eq_none (by simpa using h), List.getElem?_eq_none h]
      rfl
  · exact nd_of _ List.nodup_range
  · intro i hi
    have := List.mem_range.mp hi
    simp
    omega
theorem wb_callI {y : MethodName} {cy : ByteArray} {ny idx d' mc' ms' q : Nat} {x : Nat × va_E} {post1 : va_W → Prop} {wp : va_W} (hd : decode cc pc = .ok (.invokespecial idx, 3)) (hM : ∀ z, CB l g d' y cy ny q [x] z post1 mc' ms')
    (hw : Cond.code y cy ny none ∈ lw_g ∧ Cond.initialized y.cls ∈ lw_g ∧ Cond.instanceMethod y ∈ lw_g ∧ y.name = "<init>" ∧ (y.cls ≠ "java/lang/invoke/MethodHandle" ∧ y.cls ≠ "java/lang/invoke/VarHandle" ∧ (parseMethodDescriptor y.desc).map (fun d => d.parameters.length) = some 0) ∧ ny ≤ 20)
    (hl0 : Cond.methodLink own idx y ∈ lw_g ∨ ∃ host, Cond.methodLinkNest own idx y host ∈ lw_tbl) (hdd : d' + 1 ≤ d) (hst : (st.map fun v => v.category).sum ≤ 8) (hkc : k + mc' ≤ mc) (hks : sl + ms' ≤ ms) (hws : ws = wp ++ [x])
    (kk : ∀ w, post1 w → VB l g d own cc nL ws0 sz post mc ms (k + mc') (sl + ms') (pc + 3) lv st (wp ++ w)) : VB l g d own cc nL ws0 sz post mc ms k sl pc lv (.ref q :: st) ws := by
  intro p e s m args below meth c H locs ls hx hb hml hM0 hown hts hC hl
  subst hws
  obtain ⟨⟨hNA, hsz⟩, hK, hP, hD, hS⟩ := hC
  obtain ⟨h1, h2, h3, h4, h5, h6⟩ := hw
  have hGi : GoodIn lw_g (Cond.code y cy ny none :: lw_g) := by
    refine goodIn_sub (fun w hw => ?_) ?_
    · rcases List.mem_cons.mp hw with rfl | h
      · exact h1
      · exact h
    · rw [List.all_cons, lw_good, Bool.and_true]
      exact List.all_eq_true.mp lw_good _ h1
  have hR : (rmC d' mc' ms').frames + 1 ≤ (rmC d mc ms).frames ∧ 8 + (ny + 11) + (rmC d' mc' ms').locals ≤ (rmC d mc ms).locals := ⟨hdd, by show 8 + (ny + 11) + 48 * d' ≤ 48 * d; omega⟩
  have hxi : (wp ++ [x])[wp.length]? = some x := by simp
  have hPx : va_P g.2.1 vwCl [x] H := fun i z hz => by
    have hi : i < 1 := (List.getElem?_eq_some_iff.mp hz).1
    rw [show i = 0 by omega] at hz
    cases hz
    exact hP wp.length x hxi
  have hDx : va_D (fun _ => True) [x] := ⟨fun i j a b ha hb _ => by
    have hi : i < 1 := (List.getElem?_eq_some_iff.mp ha).1
    have hj : j < 1 := (List.getElem?_eq_some_iff.mp hb).1
    omega, fun _ _ _ => trivial⟩
  have hF : ∀ z, va_A [x] H.size z → va_A ws0 sz z := by
    intro z hz
    rcases hz with ⟨i, e, hz⟩ | hz
    · have hi : i < 1 := (List.getElem?_eq_some_iff.mp hz).1
      rw [show i = 0 by omega] at hz
      cases hz
      exact hD.2 wp.length _ hxi
    · exact Or.inr (by have := hS.1; omega)
  have hpre : PreS s H (PcB g q [x] H.size) (.ref q :: []) := ⟨CB.blind, fun U hU hW => ⟨rfl, NA.warm hW hNA, by rw [hU], by rw [hU]; exact hPx, va_K.moved hW.alike hK, hDx⟩⟩
  have hr : va_Run p l e (rmC d mc ms) s m args below meth c H locs k sl mc' ms' (F0 m pc ls (.ref q :: st)) st (QcB g [x] H.size post1 (Value.ref q :: []).toArray) (va_A [x] H.size) := by
    rcases hl0 with h | ⟨host, h⟩
    · exact va_runI (As := []) (rest := st) ⟨hx, hb, hml, hown, hts⟩ (hM H.size) ⟨callB_of 0 hts hGi rfl rfl rfl (hts _ h2) (hts _ h) h5 hR, h4, hts _ h3⟩ hpre rfl rfl hl.1 rfl (lv_room hst) hd ⟨hkc, hks⟩
    · have hN : va_Nw (.methodLinkNest own idx y host) s := hNA.1 _ _ _ _ h
      exact va_runIN (As := []) (rest := st) ⟨hx, hb, hml, hown, hts⟩ (hM H.size) ⟨va_cnB 0 hts hGi rfl rfl rfl hN (hts _ h2) h5 hR, h4, hts _ h3⟩ hpre rfl rfl hl.1 rfl (lv_room hst) hd ⟨hkc, hks⟩
  intro T hT X
  obtain ⟨v, st₀, t, T', L, e0, X', hL, e1, e2, ⟨⟨hv, w, hpw, hPw, hKw, hDw⟩, hz, hf⟩, stp⟩ := hr T hT X
  cases hv
  rw [e0] at hz hf
  have hA : s.vm.Alike t.vm := by rw [← e2]; exact X'.warmed.alike
  rw [← e1] at hPw hz hf
  obtain ⟨hP2, hD2⟩ := join_last hP hD hf hF hPw hDw
  obtain ⟨t2, a1, b1⟩ := kk w hpw p e s m args below meth c T'.heap (locs ++ L) ls hx hb hml hM0 hown hts ⟨⟨hNA, hsz⟩, hK, hP2, hD2,
    ⟨Nat.le_trans hS.1 hz, fun z q1 q2 => by rw [hf z (Nat.lt_of_lt_of_le q1 hS.1) (fun q3 => q2 (hF z q3))]; exact hS.2.1 z q1 q2, fun z hz => by
      rcases List.mem_append.mp hz with h | h
      · exact hS.2.2 z h
      · exact hF _ (hL z h)⟩⟩ hl T' rfl X'
  exact ⟨t2, stp t2 a1, b1⟩
theorem wb_ret (hd : decode cc pc = .ok (.return_, 1)) (hkc : k = mc) (hks : sl = ms) (hp : post ws) : VB l g d own cc nL ws0 sz post mc ms k sl pc lv [] ws := by
  intro p e s m args below meth c H locs ls hx hb hml hM hown hts hC hl
  subst hkc; subst hks
  obtain ⟨⟨hNA, hsz⟩, hK, hP, hD, hS⟩ := hC
  exact W.vret hx hb hM.2.1 (fun t ht hW => ⟨⟨rfl, ws, hp, by rw [ht]; exact hP, va_K.moved hW.alike hK, hD⟩, hS.F ht⟩) hS.2.2 hd hM.2.2
end VB
