-- BASE: words of the tables in one list for all methods; a contract's start; calls in place
def gdW : List Cond := lw_tbl.filter goodWord
def isNest : Cond → Bool
  | .fieldLinkNest .. => true
  | .methodLinkNest .. => true
  | _ => false
def nestL : List Cond := lw_tbl.filter isNest
def nestOK (U : State) : Prop := ∀ w ∈ nestL, va_Nw w U
theorem mem_gd (i : Nat) {w : Cond} (h : lw_tbl[i]? = some w) (g : goodWord w = true) : w ∈ gdW := List.mem_filter.mpr ⟨List.mem_of_getElem? h, g⟩
theorem mem_ne (i : Nat) {w : Cond} (h : lw_tbl[i]? = some w) (g : isNest w = true) : w ∈ nestL := List.mem_filter.mpr ⟨List.mem_of_getElem? h, g⟩
theorem nestOK.warm {s U : State} (hW : s.WarmedH U.vm) (h : nestOK s) : nestOK U := by
  intro w hw
  have h1 := h w hw
  have h2 : isNest w = true := (List.mem_filter.mp hw).2
  cases w <;> first | exact va_Nw.warmF hW h1 | exact va_Nw.warmM hW h1 | (exact absurd h2 (by simp [isNest]))
theorem nestOK.same {u U : State} (hvm : u.vm = U.vm) (h : nestOK u) : nestOK U := by
  intro w hw
  have h1 := h w hw
  have h2 : isNest w = true := (List.mem_filter.mp hw).2
  refine va_Nw.same ?_ hvm h1
  cases w <;> first | rfl | (exact absurd h2 (by simp [isNest]))
def tysW (cI cO : ClassId) : List (ClassId × FieldType) := [(cI, .int), (cO, .object RX5)]
def wsM (y : MethodName) (cc : ByteArray) (n : Nat) (ret : Option FieldType) : List Cond := .code y cc n ret :: gdW
theorem gdW_good {w : Cond} (h : w ∈ gdW) : (w.onTables && w.keeps) = true ∨ ∃ ty, w = .arrayClass ty := good_of_word (List.mem_filter.mp h).2
theorem goodM {y : MethodName} {cc : ByteArray} {n : Nat} {ret : Option FieldType} (h : Cond.code y cc n ret ∈ gdW) : GoodIn gdW (wsM y cc n ret) := by
  intro w hw
  rcases List.mem_cons.mp hw with rfl | hw
  · exact ⟨h, gdW_good h⟩
  · exact ⟨hw, gdW_good hw⟩
def rgt (j : Nat) : Int32 := if j = 0 then 2 else if j = 1 then 0 else if j = 2 then 3 else 1
/-- the one static row: Grid.RIGHT_OF, no cell of the world -/
def statOK (A : Nat → Prop) (U : State) (H : Heap) : Prop := ∃ t : Nat, va_Z "PloughMaze$Grid" "RIGHT_OF" "[I" (.ref t) A U H ∧ va_T .int t 4 (fun j => .int (rgt j)) A U H
theorem statOK.call {A B : Nat → Prop} {s U : State} {H : Heap} {locs : List Loc} (h : statOK A s s.heap) (hS : va_S A s.heap H locs) (hB : ∀ q, B q → A q) (hU : U.heap = H) (hvm : s.vm.Alike U.vm) : statOK B U U.heap := by
  obtain ⟨t, h1, h2⟩ := h
  rw [hU]
  exact ⟨t, ((h1.kept hS.2.1).narrow hB).moved hvm, ((h2.kept hS.2.1).narrow hB).moved hvm⟩
def preW (G : va_G) (cI cO : ClassId) (sz : Nat) (ws : va_W) (U : State) : Prop := U.heap.size = sz ∧ va_P G vwCl ws U.heap ∧ va_K G vwCl (tysW cI cO) U ∧ va_D (fun _ => True) ws ∧ nestOK U ∧ statOK (va_A ws sz) U U.heap
theorem preW.blind {av : List Value} {G : va_G} {cI cO : ClassId} {sz : Nat} {ws : va_W} : FrameBlind (va_Pc av (preW G cI cO sz ws)) := fun a U g mk q => by
  obtain ⟨q0, q1, qP, qK, qD, qN, qt, qZ, qT⟩ := q
  exact ⟨q0, q1, qP, va_K.moved (u := U) (U := U.calling g mk a) (Vm.Alike.refl U.vm) qK, qD, nestOK.same (u := U) rfl qN, qt, va_Z.moved (u := U) (U := U.calling g mk a) (Vm.Alike.refl U.vm) qZ, va_T.moved (u := U) (U := U.calling g mk a) (Vm.Alike.refl U.vm) qT⟩
def BX (p : Program) (R : Room) (s : State) (m : MethodId) (args : Array Value) (meth : Method) (c : Code) (cc : ByteArray) (nL : Nat) (ret : Option FieldType) (own : String) (G : va_G) (cI cO : ClassId) (A : Nat → Prop) : Prop :=
  p.tables.exec = Jvm.exec ∧ c.code = cc ∧ c.maxLocals = nL ∧ meth.sig.returnType = ret ∧ s.vm.findClass own = some m.cls ∧ (∀ w ∈ gdW, w.before args s = true) ∧ meth.locks = false ∧ va_K G vwCl (tysW cI cO) s ∧ nestOK s ∧ (∀ q, s.heap.size ≤ q → A q) ∧ statOK A s s.heap
section Base
variable {p : Program} {l : Launch} {e : Env} {R : Room} {s : State} {m : MethodId} {args : Array Value} {below : List Frame} {meth : Method} {c : Code} {H : Heap} {locs : List Loc} {cells slots : Nat} {Q : State → Prop}
  {cc bytes : ByteArray} {nL maxL pc index : Nat} {ret0 ret : Option FieldType} {own C : String} {G : va_G} {cI cO : ClassId} {A free : Nat → Prop} {y : MethodName} {rm : Room} {Qc : Array Value → State → Outcome → State → Prop} {b : Nat} {As rest st0 : List Value} {ls : Array Slot} {ws wc w1 wn : va_W} {a : Array Value}
/-- a method's contract out of its walk from the entry -/
theorem mkMet {av : List Value} {mc ms sz : Nat} (hy : plainName y.cls = true) (hyc : y.cls = own) (hlen : (lg_sl av).length ≤ nL)
    (body : ∀ (p : Program) (e : Env) (s : State) (m : MethodId) (args : Array Value) (below : List Frame) (meth : Method) (c : Code), args = av.toArray → s.heap.size = sz → meth.name = y.name → BX p rm s m args meth c cc nL ret own G cI cO (va_A ws sz) → va_P G vwCl ws s.heap → va_D (va_A ws sz) ws → ∀ ls : Array Slot, lv_has ls nL (lv_args 0 av) →
      W p l e rm s m args below meth c s.heap [] 0 0 (MQ below Qc args s mc ms (va_A ws sz)) (F0 m 0 ls [])) :
    Met l y (wsM y cc nL ret) rm (va_Pc av (preW G cI cO sz ws)) Qc mc ms (va_A ws sz) := by
  refine Met.ofW (cc := cc) (maxL := nL) (ret := ret) hy rfl ?_
  intro p e s m args below meth c s₁ B hml hv
  obtain ⟨rfl, hsz, hP, hK, hD0, hN, hst⟩ := hv
  have hts := atoms_spec (ws := wsM y cc nL ret) B.pre
  have hl := lv_entry av (n := nL) hlen
  have hnm : meth.name = y.name := (name_of_methodNamed B.named B.method).1
  have hown : s.vm.findClass own = some m.cls := hyc ▸ findClass_of_methodNamed B.named
  rw [lg_entry_eq]
  refine body p e s m _ below meth c rfl hsz hnm ⟨B.exec, B.bytes, hml, B.returns, hown, fun w hw => hts w (List.mem_cons_of_mem _ hw), B.notSynchronized, hK, hN, fun q h => Or.inr (by rw [← hsz]; exact h), hst⟩ hP hD0.self _ hl
def QcI (G : va_G) (A : Nat → Prop) (r : Int32) (w1 : va_W) : Array Value → State → Outcome → State → Prop := va_Qi (fun (r2 : Int32) (_ : Unit) => r2 = r) (fun _ t => va_P G vwCl w1 t.heap) A
def QcL (G : va_G) (A : Nat → Prop) (r : Int64) (w1 : va_W) : Array Value → State → Outcome → State → Prop := va_Ql (fun (r2 : Int64) (_ : Unit) => r2 = r) (fun _ t => va_P G vwCl w1 t.heap) A
def QcV (G : va_G) (A : Nat → Prop) (w1 : va_W) : Array Value → State → Outcome → State → Prop := va_Qv (fun _ : Unit => True) (fun _ t => va_P G vwCl w1 t.heap) A
/-- the ends -/
theorem ret_i {r : Int32} (X : BX p R s m args meth c cc nL (some .int) own G cI cO A) (hP : va_P G vwCl ws H) (hS : va_S A s.heap H locs) (hdg : decode cc pc = .ok (.ireturn, 1)) :
    W p l e R s m args below meth c H locs cells slots (MQ below (QcI G A r ws) args s cells slots A) (F0 m pc ls [.int r]) := by
  obtain ⟨hx, hb, hml, hr, hown, hts, hlocks, hK, hN, hA, hZ⟩ := X
  exact W.iret (v := r) hx hb hr (fun t ht hW => ⟨⟨r, (), rfl, rfl, by show va_P G vwCl ws t.heap; rw [ht]; exact hP⟩, hS.F ht⟩) hS.2.2 hdg hlocks
theorem ret_z {r : Int32} (X : BX p R s m args meth c cc nL (some .boolean) own G cI cO A) (hP : va_P G vwCl ws H) (hS : va_S A s.heap H locs) (hn : narrow .boolean (.int r) = .int r) (hdg : decode cc pc = .ok (.ireturn, 1)) :
    W p l e R s m args below meth c H locs cells slots (MQ below (QcI G A r ws) args s cells slots A) (F0 m pc ls [.int r]) := by
  obtain ⟨hx, hb, hml, hr, hown, hts, hlocks, hK, hN, hA, hZ⟩ := X
  exact W.zret (v := r) hx hb hr hn (fun t ht hW => ⟨⟨r, (), rfl, rfl, by show va_P G vwCl ws t.heap; rw [ht]; exact hP⟩, hS.F ht⟩) hS.2.2 hdg hlocks
theorem ret_l {r : Int64} (X : BX p R s m args meth c cc nL (some .long) own G cI cO A) (hP : va_P G vwCl ws H) (hS : va_S A s.heap H locs) (hdg : decode cc pc = .ok (.lreturn, 1)) :
    W p l e R s m args below meth c H locs cells slots (MQ below (QcL G A r ws) args s cells slots A) (F0 m pc ls [.long r]) := by
  obtain ⟨hx, hb, hml, hr, hown, hts, hlocks, hK, hN, hA, hZ⟩ := X
  exact W.lret (v := r) hx hb hr (fun t ht hW => ⟨⟨r, (), rfl, rfl, by show va_P G vwCl ws t.heap; rw [ht]; exact hP⟩, hS.F ht⟩) hS.2.2 hdg hlocks
theorem ret_v (X : BX p R s m args meth c cc nL none own G cI cO A) (hP : va_P G vwCl ws H) (hS : va_S A s.heap H locs) (hdg : decode cc pc = .ok (.return_, 1)) :
    W p l e R s m args below meth c H locs cells slots (MQ below (QcV G A ws) args s cells slots A) (F0 m pc ls []) := by
  obtain ⟨hx, hb, hml, hr, hown, hts, hlocks, hK, hN, hA, hZ⟩ := X
  exact W.vret hx hb hr (fun t ht hW => ⟨⟨(), rfl, trivial, by show va_P G vwCl ws t.heap; rw [ht]; exact hP⟩, hS.F ht⟩) hS.2.2 hdg hlocks
/-- what the tables say of a method that is called on an object; of a static one -/
def MV (y : MethodName) (C : String) (bytes : ByteArray) (maxL : Nat) (ret : Option FieldType) (n : Nat) : Prop := Cond.instanceMethod y ∈ gdW ∧ Cond.selects C y y ∈ gdW ∧ Cond.initialized C ∈ gdW ∧ Cond.code y bytes maxL ret ∈ gdW ∧ (y.cls = C ∧ y.cls ≠ "java/lang/invoke/MethodHandle" ∧ y.cls ≠ "java/lang/invoke/VarHandle" ∧ (parseMethodDescriptor y.desc).map (fun d => d.parameters.length) = some n)
def MS (y : MethodName) (bytes : ByteArray) (maxL : Nat) (ret : Option FieldType) (n : Nat) : Prop := Cond.static y ∈ gdW ∧ Cond.initialized y.cls ∈ gdW ∧ Cond.code y bytes maxL ret ∈ gdW ∧ (y.cls ≠ "java/lang/invoke/MethodHandle" ∧ y.cls ≠ "java/lang/invoke/VarHandle" ∧ (parseMethodDescriptor y.desc).map (fun d => d.parameters.length) = some n)
theorem preW.mk {U : State} (hZ : statOK A s s.heap) (hS : va_S A s.heap H locs) (hF : ∀ q, va_A wc H.size q → A q) (hK : va_K G vwCl (tysW cI cO) s) (hN : nestOK s) (hP : va_P G vwCl wc H) (hD : va_D A wc) (hU : U.heap = H) (hW : s.WarmedH U.vm) : preW G cI cO H.size wc U := ⟨by rw [hU], by rw [hU]; exact hP, va_K.moved hW.alike hK, hD.weaken (fun _ _ _ _ => trivial), nestOK.warm hW hN, statOK.call hZ hS hF hU hW.alike⟩
theorem run_V {n : Nat} (X : BX p R s m args meth c cc nL ret0 own G cI cO A) (hP : va_P G vwCl ws H) (hD : va_D A ws) (hS : va_S A s.heap H locs) (isC : List Nat) (hC : isC.map (fun i => ws[i]?) = wc.map some) (hnd : va_nd isC = true)
    (hM : Met l y (wsM y bytes maxL ret) rm (va_Pc (.ref b :: As) (preW G cI cO H.size wc)) Qc 0 0 free) (mv : MV y C bytes maxL ret n) (hln : Cond.methodLink own index y ∈ gdW) (hR : rm.frames + 1 ≤ R.frames ∧ 8 + (maxL + 11) + rm.locals ≤ R.locals) (hrc : rm.cells = 0) (hrs : rm.slots = 0)
    (q0 ci : Nat) {fs : List Value} {q : vw_C} (he : ws[q0]? = some (b, .inr (ci, fs))) (hc : vwCl[ci]? = some q) (hqC : q.1 = C) (hn : As.length = n) (hsz : ls.size = nL) (hst : st0 = As.reverse ++ .ref b :: rest) (hroom : (rest.map fun v => v.category).sum ≤ 8) (hcell : cells ≤ R.cells ∧ slots ≤ R.slots) (hdg : decode cc pc = .ok (.invokevirtual index, 3)) :
    va_Run p l e R s m args below meth c H locs cells slots 0 0 (F0 m pc ls st0) rest (Qc (Value.ref b :: As).toArray) free := by
  obtain ⟨hx, hb, hml, hr, hown, hts, hlocks, hK, hN, hA, hZ⟩ := X
  obtain ⟨m1, m2, m3, m4, m5⟩ := mv
  have hg : GoodIn gdW (wsV own index C y (wsM y bytes maxL ret)) := by
    intro w hw
    rcases List.mem_append.mp hw with h | h
    · simp only [List.mem_cons, List.not_mem_nil, or_false] at h
      rcases h with rfl | rfl | rfl | rfl
      · exact ⟨hln, gdW_good hln⟩
      · exact ⟨m1, gdW_good m1⟩
      · exact ⟨m2, gdW_good m2⟩
      · exact ⟨m3, gdW_good m3⟩
    · exact goodM m4 w h
  have hPc : va_P G vwCl wc H := hP.sub isC (by
    have := congrArg (List.filterMap id) hC
    simpa [List.filterMap_map, Function.comp_def] using this)
  have hDc : va_D A wc := hD.sub isC hnd hC
  subst hqC
  exact va_runV (As := As) (rest := rest) ⟨hx, hb, hml, hown, hts⟩ hM (cwV n hts hg rfl hrc hrs m5 hR) ⟨preW.blind, va_recv hK hP hc he, fun U hU hW => ⟨rfl, preW.mk hZ hS (va_free hD hS hA isC hC) hK hN hPc hDc hU hW⟩⟩ rfl hn hsz hst (lv_room hroom) hdg hcell
theorem run_VN {n : Nat} {host : String} (X : BX p R s m args meth c cc nL ret0 own G cI cO A) (hP : va_P G vwCl ws H) (hD : va_D A ws) (hS : va_S A s.heap H locs) (isC : List Nat) (hC : isC.map (fun i => ws[i]?) = wc.map some) (hnd : va_nd isC = true)
    (hM : Met l y (wsM y bytes maxL ret) rm (va_Pc (.ref b :: As) (preW G cI cO H.size wc)) Qc 0 0 free) (mv : MV y C bytes maxL ret n) (hln : Cond.methodLinkNest own index y host ∈ nestL) (hR : rm.frames + 1 ≤ R.frames ∧ 8 + (maxL + 11) + rm.locals ≤ R.locals) (hrc : rm.cells = 0) (hrs : rm.slots = 0)
    (q0 ci : Nat) {fs : List Value} {q : vw_C} (he : ws[q0]? = some (b, .inr (ci, fs))) (hc : vwCl[ci]? = some q) (hqC : q.1 = C) (hn : As.length = n) (hsz : ls.size = nL) (hst : st0 = As.reverse ++ .ref b :: rest) (hroom : (rest.map fun v => v.category).sum ≤ 8) (hcell : cells ≤ R.cells ∧ slots ≤ R.slots) (hdg : decode cc pc = .ok (.invokevirtual index, 3)) :
    va_Run p l e R s m args below meth c H locs cells slots 0 0 (F0 m pc ls st0) rest (Qc (Value.ref b :: As).toArray) free := by
  obtain ⟨hx, hb, hml, hr, hown, hts, hlocks, hK, hN, hA, hZ⟩ := X
  obtain ⟨m1, m2, m3, m4, m5⟩ := mv
  have hPc : va_P G vwCl wc H := hP.sub isC (by
    have := congrArg (List.filterMap id) hC
    simpa [List.filterMap_map, Function.comp_def] using this)
  have hDc : va_D A wc := hD.sub isC hnd hC
  subst hqC
  exact va_runVN (As := As) (rest := rest) ⟨hx, hb, hml, hown, hts⟩ hM ⟨va_cnB n hts (goodM m4) rfl hrc hrs (hN _ hln) (by rw [m5.1]; exact hts _ m3) m5.2 hR, hts _ m1, hts _ m2⟩ ⟨preW.blind, va_recv hK hP hc he, fun U hU hW => ⟨rfl, preW.mk hZ hS (va_free hD hS hA isC hC) hK hN hPc hDc hU hW⟩⟩ rfl hn hsz hst (lv_room hroom) hdg hcell
theorem run_S {n : Nat} (X : BX p R s m args meth c cc nL ret0 own G cI cO A) (hP : va_P G vwCl ws H) (hD : va_D A ws) (hS : va_S A s.heap H locs) (isC : List Nat) (hC : isC.map (fun i => ws[i]?) = wc.map some) (hnd : va_nd isC = true)
    (hM : Met l y (wsM y bytes maxL ret) rm (va_Pc As (preW G cI cO H.size wc)) Qc 0 0 free) (mv : MS y bytes maxL ret n) (hln : Cond.methodLink own index y ∈ gdW) (hR : rm.frames + 1 ≤ R.frames ∧ 8 + (maxL + 11) + rm.locals ≤ R.locals) (hrc : rm.cells = 0) (hrs : rm.slots = 0)
    (hn : As.length = n) (hsz : ls.size = nL) (hst : st0 = As.reverse ++ rest) (hroom : (rest.map fun v => v.category).sum ≤ 8) (hcell : cells ≤ R.cells ∧ slots ≤ R.slots) (hdg : decode cc pc = .ok (.invokestatic index, 3)) :
    va_Run p l e R s m args below meth c H locs cells slots 0 0 (F0 m pc ls st0) rest (Qc As.toArray) free := by
  obtain ⟨hx, hb, hml, hr, hown, hts, hlocks, hK, hN, hA, hZ⟩ := X
  obtain ⟨m1, m3, m4, m5⟩ := mv
  have hPc : va_P G vwCl wc H := hP.sub isC (by
    have := congrArg (List.filterMap id) hC
    simpa [List.filterMap_map, Function.comp_def] using this)
  have hDc : va_D A wc := hD.sub isC hnd hC
  exact va_runS (As := As) (rest := rest) ⟨hx, hb, hml, hown, hts⟩ hM ⟨callB_of n hts (goodM m4) rfl hrc hrs (hts _ m3) (hts _ hln) m5 hR, hts _ m1⟩ ⟨preW.blind, fun U hU hW => ⟨rfl, preW.mk hZ hS (va_free hD hS hA isC hC) hK hN hPc hDc hU hW⟩⟩ rfl hn hsz hst (lv_room hroom) hdg hcell
theorem run_SN {n : Nat} {host : String} (X : BX p R s m args meth c cc nL ret0 own G cI cO A) (hP : va_P G vwCl ws H) (hD : va_D A ws) (hS : va_S A s.heap H locs) (isC : List Nat) (hC : isC.map (fun i => ws[i]?) = wc.map some) (hnd : va_nd isC = true)
    (hM : Met l y (wsM y bytes maxL ret) rm (va_Pc As (preW G cI cO H.size wc)) Qc 0 0 free) (mv : MS y bytes maxL ret n) (hln : Cond.methodLinkNest own index y host ∈ nestL) (hR : rm.frames + 1 ≤ R.frames ∧ 8 + (maxL + 11) + rm.locals ≤ R.locals) (hrc : rm.cells = 0) (hrs : rm.slots = 0)
    (hn : As.length = n) (hsz : ls.size = nL) (hst : st0 = As.reverse ++ rest) (hroom : (rest.map fun v => v.category).sum ≤ 8) (hcell : cells ≤ R.cells ∧ slots ≤ R.slots) (hdg : decode cc pc = .ok (.invokestatic index, 3)) :
    va_Run p l e R s m args below meth c H locs cells slots 0 0 (F0 m pc ls st0) rest (Qc As.toArray) free := by
  obtain ⟨hx, hb, hml, hr, hown, hts, hlocks, hK, hN, hA, hZ⟩ := X
  obtain ⟨m1, m3, m4, m5⟩ := mv
  have hPc : va_P G vwCl wc H := hP.sub isC (by
    have := congrArg (List.filterMap id) hC
    simpa [List.filterMap_map, Function.comp_def] using this)
  have hDc : va_D A wc := hD.sub isC hnd hC
  exact va_runSN (As := As) (rest := rest) ⟨hx, hb, hml, hown, hts⟩ hM ⟨va_cnB n hts (goodM m4) rfl hrc hrs (hN _ hln) (hts _ m3) m5 hR, hts _ m1, trivial⟩ ⟨preW.blind, fun U hU hW => ⟨rfl, preW.mk hZ hS (va_free hD hS hA isC hC) hK hN hPc hDc hU hW⟩⟩ rfl hn hsz hst (lv_room hroom) hdg hcell
end Base
/-- cells put back at their places -/
def pls (ws : va_W) : List Nat → va_W → va_W
  | i :: is, w :: wr => pls (ws.set i w) is wr
  | _, _ => ws
theorem va_D.adr {A : Nat → Prop} {ws ws' : va_W} (h : va_D A ws) (e : ws'.map (·.1) = ws.map (·.1)) : va_D A ws' := by
  have key : ∀ (k : Nat) (q : Nat × va_E), ws'[k]? = some q → ∃ q2, ws[k]? = some q2 ∧ q2.1 = q.1 := by
    intro k q hq
    have h1 : (ws'.map (·.1))[k]? = some q.1 := by rw [List.getElem?_map, hq]; rfl
    rw [e, List.getElem?_map] at h1
    cases h2 : ws[k]? with
    | none => rw [h2] at h1; cases h1
    | some q2 => rw [h2] at h1; exact ⟨q2, rfl, Option.some.inj h1⟩
  refine ⟨fun i j x y hx hy hxy => ?_, fun k q hq => ?_⟩
  · obtain ⟨x2, h1, h2⟩ := key i x hx
    obtain ⟨y2, h3, h4⟩ := key j y hy
    exact h.1 i j x2 y2 h1 h3 (by rw [h2, h4, hxy])
  · obtain ⟨q2, h1, h2⟩ := key k q hq
    rw [← h2]
    exact h.2 k q2 h1
theorem pls_get : ∀ (is : List Nat) (ws w1 : va_W) (k : Nat) (q : Nat × va_E), (pls ws is w1)[k]? = some q → (∃ j : Nat, is[j]? = some k ∧ w1[j]? = some q) ∨ ws[k]? = some q ∧ (k ∈ is → w1.length < is.length)
  | [], ws, w1, k, q, h => Or.inr ⟨by cases w1 <;> exact h, fun h => absurd h List.not_mem_nil⟩
  | i :: is, ws, [], k, q, h => Or.inr ⟨h, fun _ => by simp⟩
  | i :: is, ws, w :: wr, k, q, h => by
    rcases pls_get is (ws.set i w) wr k q h with ⟨j, h1, h2⟩ | ⟨h1, h2⟩
    · exact Or.inl ⟨j + 1, by simpa using h1, by simpa using h2⟩
    · by_cases hk : i = k
      · subst hk
        rw [List.getElem?_set] at h1
        simp only [if_true] at h1
        split at h1
        · exact Or.inl ⟨0, by simp, by simpa using h1⟩
        · cases h1
      · rw [List.getElem?_set_ne hk] at h1
        refine Or.inr ⟨h1, fun hm => ?_⟩
        rcases List.mem_cons.mp hm with e | e
        · exact absurd e.symm hk
        · have := h2 e
          simp only [List.length_cons]
          omega
theorem pls_adr : ∀ (is : List Nat) (ws wc w1 : va_W), is.map (fun i => ws[i]?) = wc.map some → w1.map (·.1) = wc.map (·.1) → va_nd is = true → (pls ws is w1).map (·.1) = ws.map (·.1) := by
  intro is
  induction is with
  | nil => intro ws wc w1 _ _ _; cases w1 <;> rfl
  | cons i is ih =>
    intro ws wc w1 h1 h2 hnd
    cases wc with
    | nil => simp at h1
    | cons x wc =>
      cases w1 with
      | nil => simp at h2
      | cons w w1 =>
        simp only [List.map_cons, List.cons.injEq] at h1 h2
        have hi : i ∉ is ∧ va_nd is = true := by simpa [va_nd] using hnd
        have hset : (ws.set i w).map (·.1) = ws.map (·.1) := by
          rw [List.map_set, h2.1]
          refine List.ext_getElem? fun k => ?_
          by_cases hk : i = k
          · subst hk
            rw [List.getElem?_set]
            simp only [if_true, List.length_map, List.getElem?_map, h1.1]
            split
            · rfl
            · rename_i hlt
              have := (List.getElem?_eq_some_iff.mp h1.1).1
              omega
          · rw [List.getElem?_set_ne hk]
        show (pls (ws.set i w) is w1).map (·.1) = _
        rw [ih (ws.set i w) wc w1 ?_ h2.2 hi.2, hset]
        rw [← h1.2]
        refine List.map_congr_left fun j hj => ?_
        rw [List.getElem?_set_ne (fun (q : i = j) => hi.1 (by rw [q]; exact hj))]
theorem pls_P {A0 : Nat → Prop} {D : va_G} {cl : List vw_C} {ws wc w1 : va_W} {H H1 : Heap} (hP : va_P D cl ws H) (hD : va_D A0 ws) (isC : List Nat) (hC : isC.map (fun i => ws[i]?) = wc.map some) (h1 : w1.map (·.1) = wc.map (·.1))
    (hk : ∀ q : Nat, q < H.size → ¬ va_A wc H.size q → H1[q]? = H[q]?) (hP1 : va_P D cl w1 H1) : va_P D cl (pls ws isC w1) H1 := by
  have hlen : w1.length = isC.length := by
    have e1 := congrArg List.length hC
    have e2 := congrArg List.length h1
    simp only [List.length_map] at e1 e2
    omega
  intro k q hq
  rcases pls_get isC ws w1 k q hq with ⟨j, -, h3⟩ | ⟨h2, h3⟩
  · exact hP1 j q h3
  · have hn : k ∉ isC := fun hm => by have := h3 hm; omega
    have ha := hP k q h2
    refine ha.kept (hk q.1 ha.lt ?_)
    rintro (⟨j, e, h⟩ | h)
    · have h4 : (isC.map (fun i => ws[i]?))[j]? = some (some (q.1, e)) := by rw [hC, List.getElem?_map, h]; rfl
      rw [List.getElem?_map] at h4
      cases hi : isC[j]? with
      | none => rw [hi] at h4; cases h4
      | some i =>
        rw [hi] at h4
        have h5 : ws[i]? = some (q.1, e) := Option.some.inj h4
        have h6 := hD.1 i k _ _ h5 h2 rfl
        subst h6
        exact hn (List.mem_of_getElem? hi)
    · exact absurd ha.lt (Nat.not_lt.mpr h)
section Base2
variable {p : Program} {l : Launch} {e : Env} {R : Room} {s : State} {m : MethodId} {args : Array Value} {below : List Frame} {meth : Method} {c : Code} {H : Heap} {locs : List Loc} {cells slots : Nat} {Q : State → Prop}
  {cc : ByteArray} {nL pc : Nat} {ret0 : Option FieldType} {own : String} {G : va_G} {cI cO : ClassId} {A : Nat → Prop} {rest st0 : List Value} {ls : Array Slot} {ws wc w1 wn : va_W} {a : Array Value}
theorem cal_i {r : Int32} (X : BX p R s m args meth c cc nL ret0 own G cI cO A) (hP : va_P G vwCl ws H) (hD : va_D A ws) (hS : va_S A s.heap H locs) (isC : List Nat) (hC : isC.map (fun i => ws[i]?) = wc.map some) (hnd : va_nd isC = true) (h1 : w1.map (·.1) = wc.map (·.1)) (hw : pls ws isC w1 = wn)
    (hr : va_Run p l e R s m args below meth c H locs cells slots 0 0 (F0 m pc ls st0) rest (QcI G (va_A wc H.size) r w1 a) (va_A wc H.size))
    (kk : ∀ (H : Heap) (locs : List Loc), va_P G vwCl wn H → va_D A wn → va_S A s.heap H locs → W p l e R s m args below meth c H locs cells slots Q (F0 m (pc + 3) ls (.int r :: rest))) : W p l e R s m args below meth c H locs cells slots Q (F0 m pc ls st0) := by
  have hF := va_free hD hS X.2.2.2.2.2.2.2.2.2.1 isC hC
  refine va_calli hr hS (fun q _ h => hF q h) hF (fun r2 u t H1 locs1 ht hvm hw2 hB hz hk hS1 => ?_)
  subst hw2
  subst hw
  have hB : va_P G vwCl w1 t.heap := hB
  rw [ht] at hB
  exact kk H1 locs1 (pls_P hP hD isC hC h1 hk hB) (hD.adr (pls_adr isC ws wc w1 hC h1 hnd)) hS1
theorem cal_l {r : Int64} (X : BX p R s m args meth c cc nL ret0 own G cI cO A) (hP : va_P G vwCl ws H) (hD : va_D A ws) (hS : va_S A s.heap H locs) (isC : List Nat) (hC : isC.map (fun i => ws[i]?) = wc.map some) (hnd : va_nd isC = true) (h1 : w1.map (·.1) = wc.map (·.1)) (hw : pls ws isC w1 = wn)
    (hr : va_Run p l e R s m args below meth c H locs cells slots 0 0 (F0 m pc ls st0) rest (QcL G (va_A wc H.size) r w1 a) (va_A wc H.size))
    (kk : ∀ (H : Heap) (locs : List Loc), va_P G vwCl wn H → va_D A wn → va_S A s.heap H locs → W p l e R s m args below meth c H locs cells slots Q (F0 m (pc + 3) ls (.long r :: rest))) : W p l e R s m args below meth c H locs cells slots Q (F0 m pc ls st0) := by
  have hF := va_free hD hS X.2.2.2.2.2.2.2.2.2.1 isC hC
  refine va_calll hr hS (fun q _ h => hF q h) hF (fun r2 u t H1 locs1 ht hvm hw2 hB hz hk hS1 => ?_)
  subst hw2
  subst hw
  have hB : va_P G vwCl w1 t.heap := hB
  rw [ht] at hB
  exact kk H1 locs1 (pls_P hP hD isC hC h1 hk hB) (hD.adr (pls_adr isC ws wc w1 hC h1 hnd)) hS1
theorem cal_v (X : BX p R s m args meth c cc nL ret0 own G cI cO A) (hP : va_P G vwCl ws H) (hD : va_D A ws) (hS : va_S A s.heap H locs) (isC : List Nat) (hC : isC.map (fun i => ws[i]?) = wc.map some) (hnd : va_nd isC = true) (h1 : w1.map (·.1) = wc.map (·.1)) (hw : pls ws isC w1 = wn)
    (hr : va_Run p l e R s m args below meth c H locs cells slots 0 0 (F0 m pc ls st0) rest (QcV G (va_A wc H.size) w1 a) (va_A wc H.size))
    (kk : ∀ (H : Heap) (locs : List Loc), va_P G vwCl wn H → va_D A wn → va_S A s.heap H locs → W p l e R s m args below meth c H locs cells slots Q (F0 m (pc + 3) ls rest)) : W p l e R s m args below meth c H locs cells slots Q (F0 m pc ls st0) := by
  have hF := va_free hD hS X.2.2.2.2.2.2.2.2.2.1 isC hC
  refine va_callv hr hS (fun q _ h => hF q h) hF (fun u t H1 locs1 ht hvm hw2 hB hz hk hS1 => ?_)
  subst hw
  have hB : va_P G vwCl w1 t.heap := hB
  rw [ht] at hB
  exact kk H1 locs1 (pls_P hP hD isC hC h1 hk hB) (hD.adr (pls_adr isC ws wc w1 hC h1 hnd)) hS1
end Base2
/-- the pure side: what may fail ends in none -/
def inb (i : Int32) (n : Nat) : Bool := !(decide (i < 0) || decide (n ≤ i.toNatClampNeg))
theorem inb_ok {i : Int32} {n : Nat} (h : inb i n = true) : vp_in i n := by
  intro q
  simp only [inb, Bool.not_eq_true', Bool.or_eq_false_iff, decide_eq_false_iff_not] at h
  exact q.elim h.1 h.2
theorem g_in {α : Type} {b : Bool} {t : Option α} {o : α} (h : (if b = true then t else none) = some o) : b = true ∧ t = some o := by
  cases b with
  | true => exact ⟨rfl, by simpa using h⟩
  | false => simp at h
theorem t_pos {α : Type} {q : Prop} [Decidable q] {x y : Option α} {o : α} (h : (if q then x else y) = some o) (hq : q) : x = some o := by rw [if_pos hq] at h; exact h
theorem t_neg {α : Type} {q : Prop} [Decidable q] {x y : Option α} {o : α} (h : (if q then x else y) = some o) (hq : ¬ q) : y = some o := by rw [if_neg hq] at h; exact h
