-- CONSTRUCTORS: they make cells; their worlds grow
def preC (G : va_G) (cI cO : ClassId) (sz : Nat) (ws : va_W) (U : State) : Prop := preW G cI cO sz ws U ∧ va_AO RX5 U
theorem preC.blind {av : List Value} {G : va_G} {cI cO : ClassId} {sz : Nat} {ws : va_W} : FrameBlind (va_Pc av (preC G cI cO sz ws)) := fun a U g mk q => by
  obtain ⟨q0, q1, q2⟩ := q
  have h := preW.blind (av := av) (G := G) (cI := cI) (cO := cO) (sz := sz) (ws := ws) a U g mk ⟨q0, q1⟩
  exact ⟨h.1, h.2, va_AO.moved (u := U) (U := U.calling g mk a) (Vm.Alike.refl U.vm) q2⟩
def QcN (G : va_G) (A : Nat → Prop) (Wn : (Nat → Nat) → va_W) : Array Value → State → Outcome → State → Prop := va_Qv (S := Nat → Nat) (fun _ => True) (fun q t => va_P G vwCl (Wn q) t.heap ∧ va_D A (Wn q)) A
section Ctor
variable {p : Program} {l : Launch} {e : Env} {R : Room} {s : State} {m : MethodId} {args : Array Value} {below : List Frame} {meth : Method} {c : Code} {H : Heap} {locs : List Loc} {cells slots : Nat} {Q : State → Prop}
  {cc bytes : ByteArray} {nL maxL pc index : Nat} {ret0 ret : Option FieldType} {own C : String} {G : va_G} {cI cO : ClassId} {A free : Nat → Prop} {y : MethodName} {rm : Room} {Qc : Array Value → State → Outcome → State → Prop} {b : Nat} {As rest st0 : List Value} {ls : Array Slot} {ws wc wr w1 wn : va_W} {a : Array Value}
theorem mkMetC {av : List Value} {mc ms sz : Nat} (hy : plainName y.cls = true) (hyc : y.cls = own) (hlen : (lg_sl av).length ≤ nL)
    (body : ∀ (p : Program) (e : Env) (s : State) (m : MethodId) (args : Array Value) (below : List Frame) (meth : Method) (c : Code), args = av.toArray → s.heap.size = sz → meth.name = y.name → BX p rm s m args meth c cc nL ret own G cI cO (va_A ws sz) → va_AO RX5 s → va_P G vwCl ws s.heap → va_D (va_A ws sz) ws → ∀ ls : Array Slot, lv_has ls nL (lv_args 0 av) →
      W p l e rm s m args below meth c s.heap [] 0 0 (MQ below Qc args s mc ms (va_A ws sz)) (F0 m 0 ls [])) :
    Met l y (wsM y cc nL ret) rm (va_Pc av (preC G cI cO sz ws)) Qc mc ms (va_A ws sz) := by
  refine Met.ofW (cc := cc) (maxL := nL) (ret := ret) hy rfl ?_
  intro p e s m args below meth c s₁ B hml hv
  obtain ⟨rfl, ⟨hsz, hP, hK, hD0, hN, hst⟩, hAO⟩ := hv
  have hts := atoms_spec (ws := wsM y cc nL ret) B.pre
  have hl := lv_entry av (n := nL) hlen
  have hnm : meth.name = y.name := (name_of_methodNamed B.named B.method).1
  have hown : s.vm.findClass own = some m.cls := hyc ▸ findClass_of_methodNamed B.named
  rw [lg_entry_eq]
  refine body p e s m _ below meth c rfl hsz hnm ⟨B.exec, B.bytes, hml, B.returns, hown, fun w hw => hts w (List.mem_cons_of_mem _ hw), B.notSynchronized, hK, hN, fun q h => Or.inr (by rw [← hsz]; exact h), hst⟩ hAO hP hD0.self _ hl
theorem ret_c {Wn : (Nat → Nat) → va_W} (u : Nat → Nat) (X : BX p R s m args meth c cc nL none own G cI cO A) (hP : va_P G vwCl (Wn u) H) (hD : va_D A (Wn u)) (hS : va_S A s.heap H locs) (hdg : decode cc pc = .ok (.return_, 1)) :
    W p l e R s m args below meth c H locs cells slots (MQ below (QcN G A Wn) args s cells slots A) (F0 m pc ls []) := by
  obtain ⟨hx, hb, hml, hr, hown, hts, hlocks, hK, hN, hA, -⟩ := X
  exact W.vret hx hb hr (fun t ht hW => ⟨⟨u, rfl, trivial, by show va_P G vwCl (Wn u) t.heap; rw [ht]; exact hP, hD⟩, hS.F ht⟩) hS.2.2 hdg hlocks
/-- a constructor's call: what a nest mate may, and what all may -/
theorem cal_N {mc ms : Nat} {Wn : (Nat → Nat) → va_W} (X : BX p R s m args meth c cc nL ret0 own G cI cO A) (hAO : va_AO RX5 s) (hP : va_P G vwCl ws H) (hD : va_D A ws) (hS : va_S A s.heap H locs)
    (isC isR : List Nat) (hC : isC.map (fun i => ws[i]?) = wc.map some) (hnd : va_nd isC = true) (hR0 : isR.map (fun i => ws[i]?) = wr.map some) (hnr : va_nd isR = true) (hdis : ∀ i ∈ isR, i ∉ isC)
    (hM : Met l y (wsM y bytes maxL none) rm (va_Pc [.ref b] (preC G cI cO H.size wc)) (QcN G (va_A wc H.size) Wn) mc ms (va_A wc H.size)) (h1 : Cond.instanceMethod y ∈ gdW) (h2 : Cond.initialized y.cls ∈ gdW) (h3 : Cond.code y bytes maxL none ∈ gdW) (h4 : y.name = "<init>")
    (h5 : y.cls ≠ "java/lang/invoke/MethodHandle" ∧ y.cls ≠ "java/lang/invoke/VarHandle" ∧ (parseMethodDescriptor y.desc).map (fun d => d.parameters.length) = some 0)
    (hln : (∃ host : String, Cond.methodLinkNest own index y host ∈ nestL) ∨ Cond.methodLink own index y ∈ gdW) (hR : rm.frames + 1 ≤ R.frames ∧ 8 + (maxL + 11) + rm.locals ≤ R.locals) (hrc : rm.cells = mc) (hrs : rm.slots = ms)
    (hsz : ls.size = nL) (hroom : (rest.map fun v => v.category).sum ≤ 8) (hcell : cells + mc ≤ R.cells ∧ slots + ms ≤ R.slots) (hdg : decode cc pc = .ok (.invokespecial index, 3))
    (kk : ∀ (q : Nat → Nat) (H : Heap) (locs : List Loc), va_P G vwCl (wr ++ Wn q) H → va_D A (wr ++ Wn q) → va_S A s.heap H locs → W p l e R s m args below meth c H locs (cells + mc) (slots + ms) Q (F0 m (pc + 3) ls rest)) :
    W p l e R s m args below meth c H locs cells slots Q (F0 m pc ls (.ref b :: rest)) := by
  have hF := va_free hD hS X.2.2.2.2.2.2.2.2.2.1 isC hC
  obtain ⟨hx, hb, hml, hr, hown, hts, hlocks, hK, hN, hA, hZ⟩ := X
  have hPc : va_P G vwCl wc H := hP.sub isC (by
    have := congrArg (List.filterMap id) hC
    simpa [List.filterMap_map, Function.comp_def] using this)
  have hDc : va_D A wc := hD.sub isC hnd hC
  have hp : PreS s H (va_Pc [.ref b] (preC G cI cO H.size wc)) (.ref b :: []) := ⟨preC.blind, fun U hU hW => ⟨rfl, preW.mk hZ hS hF hK hN hPc hDc hU hW, va_AO.moved hW.alike hAO⟩⟩
  have hrun : va_Run p l e R s m args below meth c H locs cells slots mc ms (F0 m pc ls (.ref b :: rest)) rest (QcN G (va_A wc H.size) Wn (Value.ref b :: []).toArray) (va_A wc H.size) := by
    rcases hln with ⟨host, hln⟩ | hln
    · exact va_runIN (As := []) (rest := rest) (n := 0) ⟨hx, hb, hml, hown, hts⟩ hM ⟨va_cnB 0 hts (goodM h3) rfl hrc hrs (hN _ hln) (hts _ h2) h5 hR, h4, hts _ h1⟩ hp rfl rfl hsz rfl (lv_room hroom) hdg hcell
    · exact va_runI (As := []) (rest := rest) (n := 0) ⟨hx, hb, hml, hown, hts⟩ hM (cwI 0 hts (goodM h3) rfl hrc hrs (hts _ h2) (hts _ hln) (hts _ h1) h4 h5 hR) hp rfl rfl hsz rfl (lv_room hroom) hdg hcell
  refine va_callv hrun hS (fun q _ h => hF q h) hF (fun u t H1 locs1 ht hvm hw2 hB hz hk hS1 => ?_)
  have hB1 : va_P G vwCl (Wn u) t.heap := hB.1
  rw [ht] at hB1
  obtain ⟨a1, a2⟩ := va_join hP hD isC isR hC hR0 hnr hdis hk hF hB1 hB.2
  exact kk u H1 locs1 a1 a2 hS1
/-- a new row of ints; of Sheets -/
theorem mk_ints {n : Int32} {N : Nat} (X : BX p R s m args meth c cc nL ret0 own G cI cO A) (hP : va_P G vwCl ws H) (hD : va_D A ws) (hS : va_S A s.heap H locs) (hn : ¬ n < 0) (hN : n.toNatClampNeg = N) (hbytes : N * componentBytes .int ≤ 536870912) (hcells : cells + 1 ≤ R.cells) (hslots : slots + N ≤ R.slots) (hac : Cond.arrayClass .int ∈ gdW) (hdg : decode cc pc = .ok (.newarray .int, 2))
    (kk : ∀ (q : Nat) (H : Heap), va_P G vwCl (ws ++ [(q, .inl (cI, N, .inl (fun _ => 0)))]) H → va_D A (ws ++ [(q, .inl (cI, N, .inl (fun _ => 0)))]) → va_S A s.heap H locs → W p l e R s m args below meth c H locs (cells + 1) (slots + N) Q (F0 m (pc + 2) ls (.ref q :: rest))) :
    W p l e R s m args below meth c H locs cells slots Q (F0 m pc ls (.int n :: rest)) := by
  obtain ⟨hx, hb, hml, hr, hown, hts, hlocks, hK, hN2, hA, hZ⟩ := X
  refine va_newa (atype := .int) (a0 := (N, .inl (fun _ => 0))) hx hb (hts _ hac) rfl hK hP hD hS hA (fun cA => rfl) hn hN hbytes hcells hslots hdg (fun q cA H1 hK1 hP1 hD1 hS1 => ?_)
  have e1 : s.vm.findClass ("[" ++ (FieldType.int).toString) = some cA := (hK1.2 2 _ rfl).2
  have e2 : s.vm.findClass ("[" ++ (FieldType.int).toString) = some cI := (hK.2 0 _ rfl).2
  have e3 : cA = cI := Option.some.inj (e1.symm.trans e2)
  subst e3
  exact kk q H1 hP1 hD1 hS1
theorem mk_sheets {n : Int32} {N : Nat} (X : BX p R s m args meth c cc nL ret0 own G cI cO A) (hAO : va_AO RX5 s) (hP : va_P G vwCl ws H) (hD : va_D A ws) (hS : va_S A s.heap H locs) (hn : ¬ n < 0) (hN : n.toNatClampNeg = N) (hbytes : N * 4 ≤ 536870912) (hcells : cells + 1 ≤ R.cells) (hslots : slots + N ≤ R.slots) (hcl : Cond.classLink own index RX5 ∈ gdW) (hdg : decode cc pc = .ok (.anewarray index, 3))
    (kk : ∀ (q : Nat) (H : Heap), va_P G vwCl (ws ++ [(q, .inl (cO, N, .inr (.inr (.inr (.inr (fun _ => none))))))]) H → va_D A (ws ++ [(q, .inl (cO, N, .inr (.inr (.inr (.inr (fun _ => none))))))]) → va_S A s.heap H locs → W p l e R s m args below meth c H locs (cells + 1) (slots + N) Q (F0 m (pc + 3) ls (.ref q :: rest))) :
    W p l e R s m args below meth c H locs cells slots Q (F0 m pc ls (.int n :: rest)) := by
  obtain ⟨hx, hb, hml, hr, hown, hts, hlocks, hK, hN2, hA, hZ⟩ := X
  refine va_newq hx hb hown (hts _ hcl) hAO hK hP hD hS hA hn hN hbytes hcells hslots hdg (fun q cA H1 hK1 hP1 hD1 hS1 => ?_)
  obtain ⟨k1, c1, -, -, -, e1⟩ := (hK1.2 2 _ rfl).2
  obtain ⟨k2, c2, -, -, -, e2⟩ := (hK.2 1 _ rfl).2
  have e3 : cA = cO := Option.some.inj (e1.symm.trans e2)
  subst e3
  exact kk q H1 hP1 hD1 hS1
end Ctor
theorem shF_eq (a b c d : Nat) : va_up (va_up (va_up (va_up (fun _ => none) (0 : Int32).toNatClampNeg (some a)) (1 : Int32).toNatClampNeg (some b)) (2 : Int32).toNatClampNeg (some c)) (3 : Int32).toNatClampNeg (some d) = shF a b c d := by
  funext j
  have h0 : (0 : Int32).toNatClampNeg = 0 := by decide
  have h1 : (1 : Int32).toNatClampNeg = 1 := by decide
  have h2 : (2 : Int32).toNatClampNeg = 2 := by decide
  have h3 : (3 : Int32).toNatClampNeg = 3 := by decide
  rw [h0, h1, h2, h3]
  unfold va_up shF
  by_cases e0 : j = 0
  · subst e0; rfl
  by_cases e1 : j = 1
  · subst e1; rfl
  by_cases e2 : j = 2
  · subst e2; rfl
  by_cases e3 : j = 3
  · subst e3; rfl
  simp only [if_neg e0, if_neg e1, if_neg e2, if_neg e3]
