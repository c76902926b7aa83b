/-! PloughMaze$Tape.byteAt -/
abbrev rmX6_byteAt : Room := { frames := 0, cells := 0, slots := 0, locals := 0 }
set_option maxHeartbeats 4000000 in
set_option maxRecDepth 100000 in
theorem mX6_byteAt (l : Launch) (G : va_G) (cI cO : ClassId) (sz : Nat)  (x0 : Int64) (x2 : Int32) {ret : Int32} (h : fX6_byteAt x0 x2 = some ret) : Met l yX6_byteAt (wsM yX6_byteAt cX6_byteAt 3 (some .int)) rmX6_byteAt (va_Pc [.long x0, .int x2] (preW G cI cO sz [])) (QcI G (va_A [] sz) ret []) 0 0 (va_A [] sz) := by
  refine mkMet (own := RX6) (by decide) rfl (Nat.le_of_ble_eq_true rfl) ?_
  intro p e s m args below meth c _ hsz _ X hP0 hD0 ls0 hl0
  have hS0 : va_S (va_A [] sz) s.heap s.heap [] := va_S.rf
  replace hl0 : lv_has ls0 3 [(0, .long x0), (2, .int x2)] := hl0
  generalize va_A [] sz = A at X hD0 hS0 ⊢
  unfold fX6_byteAt at h
  obtain ⟨hx, hb, hml, hr, hown, hts, hlocks, hK, hN, hA, hZ⟩ := id X
  refine lv_lload_n hx hb dX6_byteAt_0 rfl (lv_at hl0 0 rfl) ?_
  refine lv_bipush (v := (8 : Int32)) hx hb dX6_byteAt_1 (by decide) ?_
  refine lv_iload_n hx hb dX6_byteAt_3 rfl (lv_at hl0 1 rfl) ?_
  refine lv_imul hx hb dX6_byteAt_4 ?_
  refine lv_lshr (v := (x0 >>> (((8 : Int32) * x2).toInt64 &&& 63))) hx hb dX6_byteAt_5 rfl ?_
  refine lv_ldc2 (v := (255 : Int64)) hx hb hown (hts _ kL_X6_36) dX6_byteAt_6 ?_
  refine lv_land hx hb dX6_byteAt_9 ?_
  refine lv_l2i (v := ((((x0 >>> (((8 : Int32) * x2).toInt64 &&& 63)) &&& (255 : Int64))).toInt32)) hx hb dX6_byteAt_10 rfl ?_
  obtain ez0 := r_eq1 h
  subst ez0
  exact ret_i X hP0 hS0 dX6_byteAt_11
/-! PloughMaze$Tape.isTypeable -/
abbrev rmX6_isTypeable : Room := { frames := 1, cells := 0, slots := 0, locals := 22 }
def SX6_isTypeable_2 (p : Program) (l : Launch) (e : Env) (s : State) (m : MethodId) (args : Array Value) (below : List Frame) (meth : Method) (c : Code) (G : va_G) (cI cO : ClassId) (A : Nat → Prop) (ret : Int32) (k : Int64 → Int32 → Int32 → Option (Int32)) : Prop := ∀ (x0 : Int64) (x2 : Int32) (x3 : Int32) (H : Heap) (locs : List Loc), va_P G vwCl [] H → va_D A [] → va_S A s.heap H locs → ∀ (ls : Array Slot), lv_has ls 5 [(0, .long x0), (2, .int x2), (3, .int x3)] → k x0 x2 x3 = some ret → W p l e rmX6_isTypeable s m args below meth c H locs 0 0 (MQ below (QcI G A ret []) args s 0 0 A) (F0 m 2 ls [])
set_option maxHeartbeats 4000000 in
set_option maxRecDepth 100000 in
theorem bX6_isTypeable_2 {p : Program} {l : Launch} {e : Env} {s : State} {m : MethodId} {args : Array Value} {below : List Frame} {meth : Method} {c : Code} {G : va_G} {cI cO : ClassId} {A : Nat → Prop} {ret : Int32} (X : BX p rmX6_isTypeable s m args meth c cX6_isTypeable 5 (some .boolean) RX6 G cI cO A) : ∀ n : Nat, SX6_isTypeable_2 p l e s m args below meth c G cI cO A ret (fX6_isTypeable_2 n) := by
  intro n
  induction n with
  | zero => intro x0 x2 x3 H0 locs0 hP0 hD0 hS0 ls0 hl0 h; exact absurd h (by simp [fX6_isTypeable_2])
  | succ n ih =>
    intro x0 x2 x3 H0 locs0 hP0 hD0 hS0 ls0 hl0 h
    rw [fX6_isTypeable_2] at h
    obtain ⟨hx, hb, hml, hr, hown, hts, hlocks, hK, hN, hA, hZ⟩ := id X
    refine lv_iload_n hx hb dX6_isTypeable_2 rfl (lv_at hl0 2 rfl) ?_
    refine lv_iload_n hx hb dX6_isTypeable_3 rfl (lv_at hl0 1 rfl) ?_
    refine lv_icmp_ge (tgt := 36) hx hb dX6_isTypeable_4 (by decide) (fun hc => ?_) (fun hc => ?_)
    · replace h := t_pos h hc
      clear hc
      refine lv_iconst (v := (1 : Int32)) hx hb dX6_isTypeable_36 (by decide) ?_
      obtain ez0 := r_eq1 h
      subst ez0
      exact ret_z X hP0 hS0 rfl dX6_isTypeable_37
    · replace h := t_neg h hc
      clear hc
      refine lv_lload_n hx hb dX6_isTypeable_7 rfl (lv_at hl0 0 rfl) ?_
      refine lv_iload_n hx hb dX6_isTypeable_8 rfl (lv_at hl0 2 rfl) ?_
      replace h := g_ob1 h
      obtain ⟨r1, hf1, h⟩ := h
      refine cal_i (wc := []) (w1 := []) (wn := []) X hP0 hD0 hS0 [] rfl rfl rfl rfl (run_S (As := [.long x0, .int x3]) (rest := []) X hP0 hD0 hS0 [] rfl rfl (mX6_byteAt l G cI cO   H0.size  x0 x3 hf1) ms_X6_byteAt ml_X6_32 ⟨Nat.le_of_ble_eq_true rfl, Nat.le_of_ble_eq_true rfl⟩ rfl rfl rfl hl0.1 rfl (Nat.le_of_ble_eq_true rfl) ⟨Nat.zero_le _, Nat.zero_le _⟩ dX6_isTypeable_9) (fun H2 locs2 hP2 hD2 hS2 => ?_)
      clear hf1
      refine lv_istore (lv' := [(4, .int r1), (0, .long x0), (2, .int x2), (3, .int x3)]) hx hb dX6_isTypeable_12 hl0 (by decide) rfl (fun ls3 hl3 => ?_)
      refine lv_iload hx hb dX6_isTypeable_14 (lv_at hl3 0 rfl) ?_
      refine lv_bipush (v := (32 : Int32)) hx hb dX6_isTypeable_16 (by decide) ?_
      refine lv_icmp_lt (tgt := 28) hx hb dX6_isTypeable_18 (by decide) (fun hc => ?_) (fun hc => ?_)
      · replace h := t_pos h hc
        clear hc
        refine lv_iconst (v := (0 : Int32)) hx hb dX6_isTypeable_28 (by decide) ?_
        obtain ez0 := r_eq1 h
        subst ez0
        exact ret_z X hP2 hS2 rfl dX6_isTypeable_29
      · replace h := t_neg h hc
        clear hc
        refine lv_iload hx hb dX6_isTypeable_21 (lv_at hl3 0 rfl) ?_
        refine lv_bipush (v := (126 : Int32)) hx hb dX6_isTypeable_23 (by decide) ?_
        refine lv_icmp_le (tgt := 30) hx hb dX6_isTypeable_25 (by decide) (fun hc => ?_) (fun hc => ?_)
        · replace h := t_pos h hc
          clear hc
          refine lv_iinc (v := (x3 + (1 : Int32))) (lv' := [(3, .int (x3 + (1 : Int32))), (4, .int r1), (0, .long x0), (2, .int x2)]) hx hb dX6_isTypeable_30 hl3 (k := 3) rfl (congrArg (fun z => x3 + z) (by decide : Int32.ofInt (1) = (1 : Int32))) (by decide) rfl (fun ls4 hl4 => ?_)
          refine lv_goto (tgt := 2) hx hb dX6_isTypeable_33 (by decide) ?_
          exact ih x0 x2 ((x3 + (1 : Int32))) H2 locs2 hP2 hD2 hS2 ls4 (lv_sub hl4 [2, 3, 0] rfl) h
        · replace h := t_neg h hc
          clear hc
          refine lv_iconst (v := (0 : Int32)) hx hb dX6_isTypeable_28 (by decide) ?_
          obtain ez0 := r_eq1 h
          subst ez0
          exact ret_z X hP2 hS2 rfl dX6_isTypeable_29
set_option maxHeartbeats 4000000 in
set_option maxRecDepth 100000 in
theorem mX6_isTypeable (l : Launch) (G : va_G) (cI cO : ClassId) (sz : Nat)  (x0 : Int64) (x2 : Int32) {ret : Int32} (h : fX6_isTypeable x0 x2 = some ret) : Met l yX6_isTypeable (wsM yX6_isTypeable cX6_isTypeable 5 (some .boolean)) rmX6_isTypeable (va_Pc [.long x0, .int x2] (preW G cI cO sz [])) (QcI G (va_A [] sz) ret []) 0 0 (va_A [] sz) := by
  refine mkMet (own := RX6) (by decide) rfl (Nat.le_of_ble_eq_true rfl) ?_
  intro p e s m args below meth c _ hsz _ X hP0 hD0 ls0 hl0
  have hS0 : va_S (va_A [] sz) s.heap s.heap [] := va_S.rf
  replace hl0 : lv_has ls0 5 [(0, .long x0), (2, .int x2)] := hl0
  generalize va_A [] sz = A at X hD0 hS0 ⊢
  unfold fX6_isTypeable at h
  obtain ⟨hx, hb, hml, hr, hown, hts, hlocks, hK, hN, hA, hZ⟩ := id X
  refine lv_iconst (v := (0 : Int32)) hx hb dX6_isTypeable_0 (by decide) ?_
  refine lv_istore_n (lv' := [(3, .int (0 : Int32)), (0, .long x0), (2, .int x2)]) hx hb dX6_isTypeable_1 rfl hl0 (by decide) rfl (fun ls1 hl1 => ?_)
  exact bX6_isTypeable_2 X 4000 x0 x2 (0 : Int32) s.heap [] hP0 hD0 hS0 ls1 (lv_sub hl1 [1, 2, 0] rfl) h
/-! PloughMaze$Tape.append -/
abbrev rmX6_append : Room := { frames := 1, cells := 0, slots := 0, locals := 22 }
def SX6_append_18 (p : Program) (l : Launch) (e : Env) (s : State) (m : MethodId) (args : Array Value) (below : List Frame) (meth : Method) (c : Code) (G : va_G) (cI cO : ClassId) (A : Nat → Prop) (a_ a_typed : Nat) (v_length : Int32) (v_place : Int32) (v_readGaps : Int64) (v_readCorn : Int64) (ret : Int32) (o_typed : Nat → Int32) (o_size : Int32) (k : (Nat → Int32) → Int32 → Int64 → Int32 → Option (Int32 × (Nat → Int32) × Int32)) : Prop := ∀ (v_typed : Nat → Int32) (v_size : Int32) (x1 : Int64) (x4 : Int32) (H : Heap) (locs : List Loc), va_P G vwCl [(a_, .inr (5, [.ref a_typed, .int v_size, .int v_length, .int v_place, .long v_readGaps, .long v_readCorn])), (a_typed, .inl (cI, 80, .inl v_typed))] H → va_D A [(a_, .inr (5, [.ref a_typed, .int v_size, .int v_length, .int v_place, .long v_readGaps, .long v_readCorn])), (a_typed, .inl (cI, 80, .inl v_typed))] → va_S A s.heap H locs → ∀ (ls : Array Slot), lv_has ls 5 [(0, .ref a_), (1, .long x1), (4, .int x4)] → k v_typed v_size x1 x4 = some (ret, o_typed, o_size) → W p l e rmX6_append s m args below meth c H locs 0 0 (MQ below (QcI G A ret [(a_, .inr (5, [.ref a_typed, .int o_size, .int v_length, .int v_place, .long v_readGaps, .long v_readCorn])), (a_typed, .inl (cI, 80, .inl o_typed))]) args s 0 0 A) (F0 m 18 ls [])
set_option maxHeartbeats 4000000 in
set_option maxRecDepth 100000 in
theorem bX6_append_18 {p : Program} {l : Launch} {e : Env} {s : State} {m : MethodId} {args : Array Value} {below : List Frame} {meth : Method} {c : Code} {G : va_G} {cI cO : ClassId} {A : Nat → Prop} {a_ a_typed : Nat} {v_length : Int32} {v_place : Int32} {v_readGaps : Int64} {v_readCorn : Int64} {ret : Int32} {o_typed : Nat → Int32} {o_size : Int32} (X : BX p rmX6_append s m args meth c cX6_append 5 (some .boolean) RX6 G cI cO A) : ∀ n : Nat, SX6_append_18 p l e s m args below meth c G cI cO A a_ a_typed v_length v_place v_readGaps v_readCorn ret o_typed o_size (fX6_append_18 n) := by
  intro n
  induction n with
  | zero => intro v_typed v_size x1 x4 H0 locs0 hP0 hD0 hS0 ls0 hl0 h; exact absurd h (by simp [fX6_append_18])
  | succ n ih =>
    intro v_typed v_size x1 x4 H0 locs0 hP0 hD0 hS0 ls0 hl0 h
    rw [fX6_append_18] at h
    obtain ⟨hx, hb, hml, hr, hown, hts, hlocks, hK, hN, hA, hZ⟩ := id X
    refine lv_iload hx hb dX6_append_18 (lv_at hl0 2 rfl) ?_
    refine lv_if_lt (tgt := 54) hx hb dX6_append_20 (by decide) (fun hc => ?_) (fun hc => ?_)
    · replace h := t_pos h hc
      clear hc
      refine lv_iconst (v := (1 : Int32)) hx hb dX6_append_54 (by decide) ?_
      obtain ⟨ez0, ez1, ez2⟩ := r_eq3 h
      subst ez0; subst ez1; subst ez2
      exact ret_z X hP0 hS0 rfl dX6_append_55
    · replace h := t_neg h hc
      clear hc
      refine lv_aload_n hx hb dX6_append_23 rfl (lv_at hl0 0 rfl) ?_
      refine va_get (D := G) (ci := 5) (v := .ref a_typed) (C := RX6) (T := TX6) (N := 6) hx hb hts gwX6 hown hK hP0 0 rfl rfl 0 (by decide) (hts _ fl_X6_9) (fun _ h9 => h9) rfl dX6_append_24 ?_
      refine lv_aload_n hx hb dX6_append_27 rfl (lv_at hl0 0 rfl) ?_
      refine va_get (D := G) (ci := 5) (v := .int v_size) (C := RX6) (T := TX6) (N := 6) hx hb hts gwX6 hown hK hP0 0 rfl rfl 1 (by decide) (hts _ fl_X6_15) (fun _ h9 => h9) rfl dX6_append_28 ?_
      refine lv_lload_n hx hb dX6_append_31 rfl (lv_at hl0 1 rfl) ?_
      refine lv_iload hx hb dX6_append_32 (lv_at hl0 2 rfl) ?_
      replace h := g_ob1 h
      obtain ⟨r1, hf1, h⟩ := h
      refine cal_i (wc := []) (w1 := []) (wn := [(a_, .inr (5, [.ref a_typed, .int v_size, .int v_length, .int v_place, .long v_readGaps, .long v_readCorn])), (a_typed, .inl (cI, 80, .inl v_typed))]) X hP0 hD0 hS0 [] rfl rfl rfl rfl (run_S (As := [.long x1, .int x4]) (rest := [.int v_size, .ref a_typed]) X hP0 hD0 hS0 [] rfl rfl (mX6_byteAt l G cI cO   H0.size  x1 x4 hf1) ms_X6_byteAt ml_X6_32 ⟨Nat.le_of_ble_eq_true rfl, Nat.le_of_ble_eq_true rfl⟩ rfl rfl rfl hl0.1 rfl (Nat.le_of_ble_eq_true rfl) ⟨Nat.zero_le _, Nat.zero_le _⟩ dX6_append_34) (fun H2 locs2 hP2 hD2 hS2 => ?_)
      clear hf1
      replace h := g_in h; obtain ⟨hg, h⟩ := h
      refine va_iast hx hb hK hP2 hD2 hS2 1 0 rfl rfl (inb_ok hg) dX6_append_37 (fun H3 locs3 hP3 hD3 hS3 => ?_)
      replace hP3 : va_P G vwCl [(a_, .inr (5, [.ref a_typed, .int v_size, .int v_length, .int v_place, .long v_readGaps, .long v_readCorn])), (a_typed, .inl (cI, 80, .inl ((upd v_typed v_size.toNatClampNeg r1))))] H3 := hP3
      replace hD3 : va_D A [(a_, .inr (5, [.ref a_typed, .int v_size, .int v_length, .int v_place, .long v_readGaps, .long v_readCorn])), (a_typed, .inl (cI, 80, .inl ((upd v_typed v_size.toNatClampNeg r1))))] := hD3
      clear hP2 hD2 hS2
      clear hg
      refine lv_aload_n hx hb dX6_append_38 rfl (lv_at hl0 0 rfl) ?_
      refine lv_dup hx hb dX6_append_39 rfl ?_
      refine va_get (D := G) (ci := 5) (v := .int v_size) (C := RX6) (T := TX6) (N := 6) hx hb hts gwX6 hown hK hP3 0 rfl rfl 1 (by decide) (hts _ fl_X6_15) (fun _ h9 => h9) rfl dX6_append_40 ?_
      refine lv_iconst (v := (1 : Int32)) hx hb dX6_append_43 (by decide) ?_
      refine lv_iadd hx hb dX6_append_44 ?_
      refine lv_topi (fun y4 ey4 => ?_)
      replace h := g_let h ey4
      clear ey4
      refine va_put (D := G) (ci := 5) (v := .int y4) (ty := .int) (C := RX6) (T := TX6) (N := 6) hx hb hts gwX6 tyX6 tyX6_ok nmX6 hown hK hP3 hD3 hS3 0 rfl rfl 1 (by decide) (hts _ fl_X6_15) (fun _ h9 => h9) rfl (by decide +kernel) rfl rfl (Nat.le_of_ble_eq_true rfl) dX6_append_45 (fun H5 locs5 hP5 hD5 hS5 => ?_)
      replace hP5 : va_P G vwCl [(a_, .inr (5, [.ref a_typed, .int y4, .int v_length, .int v_place, .long v_readGaps, .long v_readCorn])), (a_typed, .inl (cI, 80, .inl ((upd v_typed v_size.toNatClampNeg r1))))] H5 := hP5
      replace hD5 : va_D A [(a_, .inr (5, [.ref a_typed, .int y4, .int v_length, .int v_place, .long v_readGaps, .long v_readCorn])), (a_typed, .inl (cI, 80, .inl ((upd v_typed v_size.toNatClampNeg r1))))] := hD5
      clear hP3 hD3 hS3
      refine lv_iinc (v := (x4 + (-1 : Int32))) (lv' := [(4, .int (x4 + (-1 : Int32))), (0, .ref a_), (1, .long x1)]) hx hb dX6_append_48 hl0 (k := 2) rfl (congrArg (fun z => x4 + z) (by decide : Int32.ofInt (-1) = (-1 : Int32))) (by decide) rfl (fun ls6 hl6 => ?_)
      refine lv_goto (tgt := 18) hx hb dX6_append_51 (by decide) ?_
      exact ih ((upd v_typed v_size.toNatClampNeg r1)) y4 x1 ((x4 + (-1 : Int32))) H5 locs5 hP5 hD5 hS5 ls6 (lv_sub hl6 [1, 2, 0] rfl) h
set_option maxHeartbeats 4000000 in
set_option maxRecDepth 100000 in
theorem mX6_append (l : Launch) (G : va_G) (cI cO : ClassId) (a_ a_typed : Nat) (sz : Nat) (v_size : Int32) (v_length : Int32) (v_place : Int32) (v_readGaps : Int64) (v_readCorn : Int64) (v_typed : Nat → Int32) (x1 : Int64) (x3 : Int32) {ret : Int32} {o_typed : Nat → Int32} {o_size : Int32} (h : fX6_append v_typed v_size x1 x3 = some (ret, o_typed, o_size)) : Met l yX6_append (wsM yX6_append cX6_append 5 (some .boolean)) rmX6_append (va_Pc [.ref a_, .long x1, .int x3] (preW G cI cO sz [(a_, .inr (5, [.ref a_typed, .int v_size, .int v_length, .int v_place, .long v_readGaps, .long v_readCorn])), (a_typed, .inl (cI, 80, .inl v_typed))])) (QcI G (va_A [(a_, .inr (5, [.ref a_typed, .int v_size, .int v_length, .int v_place, .long v_readGaps, .long v_readCorn])), (a_typed, .inl (cI, 80, .inl v_typed))] sz) ret [(a_, .inr (5, [.ref a_typed, .int o_size, .int v_length, .int v_place, .long v_readGaps, .long v_readCorn])), (a_typed, .inl (cI, 80, .inl o_typed))]) 0 0 (va_A [(a_, .inr (5, [.ref a_typed, .int v_size, .int v_length, .int v_place, .long v_readGaps, .long v_readCorn])), (a_typed, .inl (cI, 80, .inl v_typed))] sz) := by
  refine mkMet (own := RX6) (by decide) rfl (Nat.le_of_ble_eq_true rfl) ?_
  intro p e s m args below meth c _ hsz _ X hP0 hD0 ls0 hl0
  have hS0 : va_S (va_A [(a_, .inr (5, [.ref a_typed, .int v_size, .int v_length, .int v_place, .long v_readGaps, .long v_readCorn])), (a_typed, .inl (cI, 80, .inl v_typed))] sz) s.heap s.heap [] := va_S.rf
  replace hl0 : lv_has ls0 5 [(0, .ref a_), (1, .long x1), (3, .int x3)] := hl0
  generalize va_A [(a_, .inr (5, [.ref a_typed, .int v_size, .int v_length, .int v_place, .long v_readGaps, .long v_readCorn])), (a_typed, .inl (cI, 80, .inl v_typed))] sz = A at X hD0 hS0 ⊢
  unfold fX6_append at h
  obtain ⟨hx, hb, hml, hr, hown, hts, hlocks, hK, hN, hA, hZ⟩ := id X
  refine lv_aload_n hx hb dX6_append_0 rfl (lv_at hl0 0 rfl) ?_
  refine va_get (D := G) (ci := 5) (v := .int v_size) (C := RX6) (T := TX6) (N := 6) hx hb hts gwX6 hown hK hP0 0 rfl rfl 1 (by decide) (hts _ fl_X6_15) (fun _ h9 => h9) rfl dX6_append_1 ?_
  refine lv_iload_n hx hb dX6_append_4 rfl (lv_at hl0 2 rfl) ?_
  refine lv_iadd hx hb dX6_append_5 ?_
  refine lv_bipush (v := (80 : Int32)) hx hb dX6_append_6 (by decide) ?_
  refine lv_icmp_le (tgt := 13) hx hb dX6_append_8 (by decide) (fun hc => ?_) (fun hc => ?_)
  · replace h := t_pos h hc
    clear hc
    refine lv_iload_n hx hb dX6_append_13 rfl (lv_at hl0 2 rfl) ?_
    refine lv_iconst (v := (1 : Int32)) hx hb dX6_append_14 (by decide) ?_
    refine lv_isub hx hb dX6_append_15 ?_
    refine lv_topi (fun y1 ey1 => ?_)
    replace h := g_let h ey1
    clear ey1
    refine lv_istore (lv' := [(4, .int y1), (0, .ref a_), (1, .long x1), (3, .int x3)]) hx hb dX6_append_16 hl0 (by decide) rfl (fun ls2 hl2 => ?_)
    exact bX6_append_18 X 4000 v_typed v_size x1 y1 s.heap [] hP0 hD0 hS0 ls2 (lv_sub hl2 [1, 2, 0] rfl) h
  · replace h := t_neg h hc
    clear hc
    refine lv_iconst (v := (0 : Int32)) hx hb dX6_append_11 (by decide) ?_
    obtain ⟨ez0, ez1, ez2⟩ := r_eq3 h
    subst ez0; subst ez1; subst ez2
    exact ret_z X hP0 hS0 rfl dX6_append_12
/-! PloughMaze$Tape.advance -/
abbrev rmX6_advance : Room := { frames := 0, cells := 0, slots := 0, locals := 0 }
def SX6_advance_0 (p : Program) (l : Launch) (e : Env) (s : State) (m : MethodId) (args : Array Value) (below : List Frame) (meth : Method) (c : Code) (G : va_G) (cI cO : ClassId) (A : Nat → Prop) (a_ a_typed : Nat) (v_size : Int32) (v_length : Int32) (v_readGaps : Int64) (v_readCorn : Int64) (v_typed : Nat → Int32) (o_place : Int32) (k : Int32 → Option (Int32)) : Prop := ∀ (v_place : Int32) (H : Heap) (locs : List Loc), va_P G vwCl [(a_, .inr (5, [.ref a_typed, .int v_size, .int v_length, .int v_place, .long v_readGaps, .long v_readCorn])), (a_typed, .inl (cI, 80, .inl v_typed))] H → va_D A [(a_, .inr (5, [.ref a_typed, .int v_size, .int v_length, .int v_place, .long v_readGaps, .long v_readCorn])), (a_typed, .inl (cI, 80, .inl v_typed))] → va_S A s.heap H locs → ∀ (ls : Array Slot), lv_has ls 1 [(0, .ref a_)] → k v_place = some o_place → W p l e rmX6_advance s m args below meth c H locs 0 0 (MQ below (QcV G A [(a_, .inr (5, [.ref a_typed, .int v_size, .int v_length, .int o_place, .long v_readGaps, .long v_readCorn])), (a_typed, .inl (cI, 80, .inl v_typed))]) args s 0 0 A) (F0 m 0 ls [])
set_option maxHeartbeats 4000000 in
set_option maxRecDepth 100000 in
theorem bX6_advance_0 {p : Program} {l : Launch} {e : Env} {s : State} {m : MethodId} {args : Array Value} {below : List Frame} {meth : Method} {c : Code} {G : va_G} {cI cO : ClassId} {A : Nat → Prop} {a_ a_typed : Nat} {v_size : Int32} {v_length : Int32} {v_readGaps : Int64} {v_readCorn : Int64} {v_typed : Nat → Int32} {o_place : Int32} (X : BX p rmX6_advance s m args meth c cX6_advance 1 none RX6 G cI cO A) : ∀ n : Nat, SX6_advance_0 p l e s m args below meth c G cI cO A a_ a_typed v_size v_length v_readGaps v_readCorn v_typed o_place (fX6_advance_0 v_typed v_length n) := by
  intro n
  induction n with
  | zero => intro v_place H0 locs0 hP0 hD0 hS0 ls0 hl0 h; exact absurd h (by simp [fX6_advance_0])
  | succ n ih =>
    intro v_place H0 locs0 hP0 hD0 hS0 ls0 hl0 h
    rw [fX6_advance_0] at h
    obtain ⟨hx, hb, hml, hr, hown, hts, hlocks, hK, hN, hA, hZ⟩ := id X
    refine lv_aload_n hx hb dX6_advance_0 rfl (lv_at hl0 0 rfl) ?_
    refine lv_dup hx hb dX6_advance_1 rfl ?_
    refine va_get (D := G) (ci := 5) (v := .int v_place) (C := RX6) (T := TX6) (N := 6) hx hb hts gwX6 hown hK hP0 0 rfl rfl 3 (by decide) (hts _ fl_X6_22) (fun _ h9 => h9) rfl dX6_advance_2 ?_
    refine lv_iconst (v := (1 : Int32)) hx hb dX6_advance_5 (by decide) ?_
    refine lv_iadd hx hb dX6_advance_6 ?_
    refine lv_topi (fun y1 ey1 => ?_)
    replace h := g_let h ey1
    clear ey1
    refine va_put (D := G) (ci := 5) (v := .int y1) (ty := .int) (C := RX6) (T := TX6) (N := 6) hx hb hts gwX6 tyX6 tyX6_ok nmX6 hown hK hP0 hD0 hS0 0 rfl rfl 3 (by decide) (hts _ fl_X6_22) (fun _ h9 => h9) rfl (by decide +kernel) rfl rfl (Nat.le_of_ble_eq_true rfl) dX6_advance_7 (fun H2 locs2 hP2 hD2 hS2 => ?_)
    replace hP2 : va_P G vwCl [(a_, .inr (5, [.ref a_typed, .int v_size, .int v_length, .int y1, .long v_readGaps, .long v_readCorn])), (a_typed, .inl (cI, 80, .inl v_typed))] H2 := hP2
    replace hD2 : va_D A [(a_, .inr (5, [.ref a_typed, .int v_size, .int v_length, .int y1, .long v_readGaps, .long v_readCorn])), (a_typed, .inl (cI, 80, .inl v_typed))] := hD2
    refine lv_aload_n hx hb dX6_advance_10 rfl (lv_at hl0 0 rfl) ?_
    refine va_get (D := G) (ci := 5) (v := .int y1) (C := RX6) (T := TX6) (N := 6) hx hb hts gwX6 hown hK hP2 0 rfl rfl 3 (by decide) (hts _ fl_X6_22) (fun _ h9 => h9) rfl dX6_advance_11 ?_
    refine lv_aload_n hx hb dX6_advance_14 rfl (lv_at hl0 0 rfl) ?_
    refine va_get (D := G) (ci := 5) (v := .int v_length) (C := RX6) (T := TX6) (N := 6) hx hb hts gwX6 hown hK hP2 0 rfl rfl 2 (by decide) (hts _ fl_X6_19) (fun _ h9 => h9) rfl dX6_advance_15 ?_
    refine lv_icmp_ge (tgt := 35) hx hb dX6_advance_18 (by decide) (fun hc => ?_) (fun hc => ?_)
    · replace h := t_pos h hc
      clear hc
      obtain ez0 := r_eq1 h
      subst ez0
      exact ret_v X hP2 hS2 dX6_advance_35
    · replace h := t_neg h hc
      clear hc
      refine lv_aload_n hx hb dX6_advance_21 rfl (lv_at hl0 0 rfl) ?_
      refine va_get (D := G) (ci := 5) (v := .ref a_typed) (C := RX6) (T := TX6) (N := 6) hx hb hts gwX6 hown hK hP2 0 rfl rfl 0 (by decide) (hts _ fl_X6_9) (fun _ h9 => h9) rfl dX6_advance_22 ?_
      refine lv_aload_n hx hb dX6_advance_25 rfl (lv_at hl0 0 rfl) ?_
      refine va_get (D := G) (ci := 5) (v := .int y1) (C := RX6) (T := TX6) (N := 6) hx hb hts gwX6 hown hK hP2 0 rfl rfl 3 (by decide) (hts _ fl_X6_22) (fun _ h9 => h9) rfl dX6_advance_26 ?_
      replace h := g_in h; obtain ⟨hg, h⟩ := h
      refine va_iald hx hb hK hP2 1 0 rfl rfl (inb_ok hg) dX6_advance_29 ?_
      clear hg
      refine lv_bipush (v := (32 : Int32)) hx hb dX6_advance_30 (by decide) ?_
      refine lv_icmp_eq (tgt := 0) hx hb dX6_advance_32 (by decide) (fun hc => ?_) (fun hc => ?_)
      · replace h := t_pos h hc
        clear hc
        exact ih y1 H2 locs2 hP2 hD2 hS2 ls0 (lv_sub hl0 [0] rfl) h
      · replace h := t_neg h hc
        clear hc
        obtain ez0 := r_eq1 h
        subst ez0
        exact ret_v X hP2 hS2 dX6_advance_35
set_option maxHeartbeats 4000000 in
set_option maxRecDepth 100000 in
theorem mX6_advance (l : Launch) (G : va_G) (cI cO : ClassId) (a_ a_typed : Nat) (sz : Nat) (v_size : Int32) (v_length : Int32) (v_place : Int32) (v_readGaps : Int64) (v_readCorn : Int64) (v_typed : Nat → Int32)  {o_place : Int32} (h : fX6_advance v_typed v_length v_place = some o_place) : Met l yX6_advance (wsM yX6_advance cX6_advance 1 none) rmX6_advance (va_Pc [.ref a_] (preW G cI cO sz [(a_, .inr (5, [.ref a_typed, .int v_size, .int v_length, .int v_place, .long v_readGaps, .long v_readCorn])), (a_typed, .inl (cI, 80, .inl v_typed))])) (QcV G (va_A [(a_, .inr (5, [.ref a_typed, .int v_size, .int v_length, .int v_place, .long v_readGaps, .long v_readCorn])), (a_typed, .inl (cI, 80, .inl v_typed))] sz) [(a_, .inr (5, [.ref a_typed, .int v_size, .int v_length, .int o_place, .long v_readGaps, .long v_readCorn])), (a_typed, .inl (cI, 80, .inl v_typed))]) 0 0 (va_A [(a_, .inr (5, [.ref a_typed, .int v_size, .int v_length, .int v_place, .long v_readGaps, .long v_readCorn])), (a_typed, .inl (cI, 80, .inl v_typed))] sz) := by
  refine mkMet (own := RX6) (by decide) rfl (Nat.le_of_ble_eq_true rfl) ?_
  intro p e s m args below meth c _ hsz _ X hP0 hD0 ls0 hl0
  have hS0 : va_S (va_A [(a_, .inr (5, [.ref a_typed, .int v_size, .int v_length, .int v_place, .long v_readGaps, .long v_readCorn])), (a_typed, .inl (cI, 80, .inl v_typed))] sz) s.heap s.heap [] := va_S.rf
  replace hl0 : lv_has ls0 1 [(0, .ref a_)] := hl0
  generalize va_A [(a_, .inr (5, [.ref a_typed, .int v_size, .int v_length, .int v_place, .long v_readGaps, .long v_readCorn])), (a_typed, .inl (cI, 80, .inl v_typed))] sz = A at X hD0 hS0 ⊢
  unfold fX6_advance at h
  obtain ⟨hx, hb, hml, hr, hown, hts, hlocks, hK, hN, hA, hZ⟩ := id X
  exact bX6_advance_0 X 4000 v_place s.heap [] hP0 hD0 hS0 ls0 (lv_sub hl0 [0] rfl) h
/-! PloughMaze$Tape.takeText -/
abbrev rmX6_takeText : Room := { frames := 1, cells := 0, slots := 0, locals := 20 }
set_option maxHeartbeats 4000000 in
set_option maxRecDepth 100000 in
theorem mX6_takeText (l : Launch) (G : va_G) (cI cO : ClassId) (a_ a_typed : Nat) (sz : Nat) (v_size : Int32) (v_length : Int32) (v_place : Int32) (v_readGaps : Int64) (v_readCorn : Int64) (v_typed : Nat → Int32)  {o_size : Int32} {o_length : Int32} {o_place : Int32} (h : fX6_takeText v_typed v_size v_length v_place = some (o_size, o_length, o_place)) : Met l yX6_takeText (wsM yX6_takeText cX6_takeText 1 none) rmX6_takeText (va_Pc [.ref a_] (preW G cI cO sz [(a_, .inr (5, [.ref a_typed, .int v_size, .int v_length, .int v_place, .long v_readGaps, .long v_readCorn])), (a_typed, .inl (cI, 80, .inl v_typed))])) (QcV G (va_A [(a_, .inr (5, [.ref a_typed, .int v_size, .int v_length, .int v_place, .long v_readGaps, .long v_readCorn])), (a_typed, .inl (cI, 80, .inl v_typed))] sz) [(a_, .inr (5, [.ref a_typed, .int o_size, .int o_length, .int o_place, .long v_readGaps, .long v_readCorn])), (a_typed, .inl (cI, 80, .inl v_typed))]) 0 0 (va_A [(a_, .inr (5, [.ref a_typed, .int v_size, .int v_length, .int v_place, .long v_readGaps, .long v_readCorn])), (a_typed, .inl (cI, 80, .inl v_typed))] sz) := by
  refine mkMet (own := RX6) (by decide) rfl (Nat.le_of_ble_eq_true rfl) ?_
  intro p e s m args below meth c _ hsz _ X hP0 hD0 ls0 hl0
  have hS0 : va_S (va_A [(a_, .inr (5, [.ref a_typed, .int v_size, .int v_length, .int v_place, .long v_readGaps, .long v_readCorn])), (a_typed, .inl (cI, 80, .inl v_typed))] sz) s.heap s.heap [] := va_S.rf
  replace hl0 : lv_has ls0 1 [(0, .ref a_)] := hl0
  generalize va_A [(a_, .inr (5, [.ref a_typed, .int v_size, .int v_length, .int v_place, .long v_readGaps, .long v_readCorn])), (a_typed, .inl (cI, 80, .inl v_typed))] sz = A at X hD0 hS0 ⊢
  unfold fX6_takeText at h
  obtain ⟨hx, hb, hml, hr, hown, hts, hlocks, hK, hN, hA, hZ⟩ := id X
  refine lv_aload_n hx hb dX6_takeText_0 rfl (lv_at hl0 0 rfl) ?_
  refine lv_aload_n hx hb dX6_takeText_1 rfl (lv_at hl0 0 rfl) ?_
  refine va_get (D := G) (ci := 5) (v := .int v_size) (C := RX6) (T := TX6) (N := 6) hx hb hts gwX6 hown hK hP0 0 rfl rfl 1 (by decide) (hts _ fl_X6_15) (fun _ h9 => h9) rfl dX6_takeText_2 ?_
  refine va_put (D := G) (ci := 5) (v := .int v_size) (ty := .int) (C := RX6) (T := TX6) (N := 6) hx hb hts gwX6 tyX6 tyX6_ok nmX6 hown hK hP0 hD0 hS0 0 rfl rfl 2 (by decide) (hts _ fl_X6_19) (fun _ h9 => h9) rfl (by decide +kernel) rfl rfl (Nat.le_of_ble_eq_true rfl) dX6_takeText_5 (fun H1 locs1 hP1 hD1 hS1 => ?_)
  replace hP1 : va_P G vwCl [(a_, .inr (5, [.ref a_typed, .int v_size, .int v_size, .int v_place, .long v_readGaps, .long v_readCorn])), (a_typed, .inl (cI, 80, .inl v_typed))] H1 := hP1
  replace hD1 : va_D A [(a_, .inr (5, [.ref a_typed, .int v_size, .int v_size, .int v_place, .long v_readGaps, .long v_readCorn])), (a_typed, .inl (cI, 80, .inl v_typed))] := hD1
  refine lv_aload_n hx hb dX6_takeText_8 rfl (lv_at hl0 0 rfl) ?_
  refine lv_iconst (v := (0 : Int32)) hx hb dX6_takeText_9 (by decide) ?_
  refine va_put (D := G) (ci := 5) (v := .int (0 : Int32)) (ty := .int) (C := RX6) (T := TX6) (N := 6) hx hb hts gwX6 tyX6 tyX6_ok nmX6 hown hK hP1 hD1 hS1 0 rfl rfl 1 (by decide) (hts _ fl_X6_15) (fun _ h9 => h9) rfl (by decide +kernel) rfl rfl (Nat.le_of_ble_eq_true rfl) dX6_takeText_10 (fun H2 locs2 hP2 hD2 hS2 => ?_)
  replace hP2 : va_P G vwCl [(a_, .inr (5, [.ref a_typed, .int (0 : Int32), .int v_size, .int v_place, .long v_readGaps, .long v_readCorn])), (a_typed, .inl (cI, 80, .inl v_typed))] H2 := hP2
  replace hD2 : va_D A [(a_, .inr (5, [.ref a_typed, .int (0 : Int32), .int v_size, .int v_place, .long v_readGaps, .long v_readCorn])), (a_typed, .inl (cI, 80, .inl v_typed))] := hD2
  clear hP1 hD1 hS1
  refine lv_aload_n hx hb dX6_takeText_13 rfl (lv_at hl0 0 rfl) ?_
  refine lv_iconst (v := (-1 : Int32)) hx hb dX6_takeText_14 (by decide) ?_
  refine va_put (D := G) (ci := 5) (v := .int (-1 : Int32)) (ty := .int) (C := RX6) (T := TX6) (N := 6) hx hb hts gwX6 tyX6 tyX6_ok nmX6 hown hK hP2 hD2 hS2 0 rfl rfl 3 (by decide) (hts _ fl_X6_22) (fun _ h9 => h9) rfl (by decide +kernel) rfl rfl (Nat.le_of_ble_eq_true rfl) dX6_takeText_15 (fun H3 locs3 hP3 hD3 hS3 => ?_)
  replace hP3 : va_P G vwCl [(a_, .inr (5, [.ref a_typed, .int (0 : Int32), .int v_size, .int (-1 : Int32), .long v_readGaps, .long v_readCorn])), (a_typed, .inl (cI, 80, .inl v_typed))] H3 := hP3
  replace hD3 : va_D A [(a_, .inr (5, [.ref a_typed, .int (0 : Int32), .int v_size, .int (-1 : Int32), .long v_readGaps, .long v_readCorn])), (a_typed, .inl (cI, 80, .inl v_typed))] := hD3
  clear hP2 hD2 hS2
  refine lv_aload_n hx hb dX6_takeText_18 rfl (lv_at hl0 0 rfl) ?_
  replace h := g_ob1 h
  obtain ⟨v_place_4, hf4, h⟩ := h
  refine cal_v (wc := [(a_, .inr (5, [.ref a_typed, .int (0 : Int32), .int v_size, .int (-1 : Int32), .long v_readGaps, .long v_readCorn])), (a_typed, .inl (cI, 80, .inl v_typed))]) (w1 := [(a_, .inr (5, [.ref a_typed, .int (0 : Int32), .int v_size, .int v_place_4, .long v_readGaps, .long v_readCorn])), (a_typed, .inl (cI, 80, .inl v_typed))]) (wn := [(a_, .inr (5, [.ref a_typed, .int (0 : Int32), .int v_size, .int v_place_4, .long v_readGaps, .long v_readCorn])), (a_typed, .inl (cI, 80, .inl v_typed))]) X hP3 hD3 hS3 [0, 1] rfl rfl rfl rfl (run_V (As := []) (rest := []) X hP3 hD3 hS3 [0, 1] rfl rfl (mX6_advance l G cI cO a_ a_typed  H3.size (0 : Int32) v_size (-1 : Int32) v_readGaps v_readCorn v_typed  hf4) mv_X6_advance ml_X6_38 ⟨Nat.le_of_ble_eq_true rfl, Nat.le_of_ble_eq_true rfl⟩ rfl rfl 0 5 rfl rfl rfl rfl hl0.1 rfl (Nat.le_of_ble_eq_true rfl) ⟨Nat.zero_le _, Nat.zero_le _⟩ dX6_takeText_19) (fun H5 locs5 hP5 hD5 hS5 => ?_)
  clear hf4 hP3 hD3 hS3
  obtain ⟨ez0, ez1, ez2⟩ := r_eq3 h
  subst ez0; subst ez1; subst ez2
  exact ret_v X hP5 hS5 dX6_takeText_22
/-! PloughMaze$Tape.letter -/
abbrev rmX6_letter : Room := { frames := 0, cells := 0, slots := 0, locals := 0 }
set_option maxHeartbeats 4000000 in
set_option maxRecDepth 100000 in
theorem mX6_letter (l : Launch) (G : va_G) (cI cO : ClassId) (a_ a_typed : Nat) (sz : Nat) (v_size : Int32) (v_length : Int32) (v_place : Int32) (v_readGaps : Int64) (v_readCorn : Int64) (v_typed : Nat → Int32)  {ret : Int32} (h : fX6_letter v_typed v_length v_place = some ret) : Met l yX6_letter (wsM yX6_letter cX6_letter 1 (some .int)) rmX6_letter (va_Pc [.ref a_] (preW G cI cO sz [(a_, .inr (5, [.ref a_typed, .int v_size, .int v_length, .int v_place, .long v_readGaps, .long v_readCorn])), (a_typed, .inl (cI, 80, .inl v_typed))])) (QcI G (va_A [(a_, .inr (5, [.ref a_typed, .int v_size, .int v_length, .int v_place, .long v_readGaps, .long v_readCorn])), (a_typed, .inl (cI, 80, .inl v_typed))] sz) ret [(a_, .inr (5, [.ref a_typed, .int v_size, .int v_length, .int v_place, .long v_readGaps, .long v_readCorn])), (a_typed, .inl (cI, 80, .inl v_typed))]) 0 0 (va_A [(a_, .inr (5, [.ref a_typed, .int v_size, .int v_length, .int v_place, .long v_readGaps, .long v_readCorn])), (a_typed, .inl (cI, 80, .inl v_typed))] sz) := by
  refine mkMet (own := RX6) (by decide) rfl (Nat.le_of_ble_eq_true rfl) ?_
  intro p e s m args below meth c _ hsz _ X hP0 hD0 ls0 hl0
  have hS0 : va_S (va_A [(a_, .inr (5, [.ref a_typed, .int v_size, .int v_length, .int v_place, .long v_readGaps, .long v_readCorn])), (a_typed, .inl (cI, 80, .inl v_typed))] sz) s.heap s.heap [] := va_S.rf
  replace hl0 : lv_has ls0 1 [(0, .ref a_)] := hl0
  generalize va_A [(a_, .inr (5, [.ref a_typed, .int v_size, .int v_length, .int v_place, .long v_readGaps, .long v_readCorn])), (a_typed, .inl (cI, 80, .inl v_typed))] sz = A at X hD0 hS0 ⊢
  unfold fX6_letter at h
  obtain ⟨hx, hb, hml, hr, hown, hts, hlocks, hK, hN, hA, hZ⟩ := id X
  refine lv_aload_n hx hb dX6_letter_0 rfl (lv_at hl0 0 rfl) ?_
  refine va_get (D := G) (ci := 5) (v := .int v_place) (C := RX6) (T := TX6) (N := 6) hx hb hts gwX6 hown hK hP0 0 rfl rfl 3 (by decide) (hts _ fl_X6_22) (fun _ h9 => h9) rfl dX6_letter_1 ?_
  refine lv_aload_n hx hb dX6_letter_4 rfl (lv_at hl0 0 rfl) ?_
  refine va_get (D := G) (ci := 5) (v := .int v_length) (C := RX6) (T := TX6) (N := 6) hx hb hts gwX6 hown hK hP0 0 rfl rfl 2 (by decide) (hts _ fl_X6_19) (fun _ h9 => h9) rfl dX6_letter_5 ?_
  refine lv_icmp_ge (tgt := 23) hx hb dX6_letter_8 (by decide) (fun hc => ?_) (fun hc => ?_)
  · replace h := t_pos h hc
    clear hc
    refine lv_bipush (v := (32 : Int32)) hx hb dX6_letter_23 (by decide) ?_
    obtain ez0 := r_eq1 h
    subst ez0
    exact ret_i X hP0 hS0 dX6_letter_25
  · replace h := t_neg h hc
    clear hc
    refine lv_aload_n hx hb dX6_letter_11 rfl (lv_at hl0 0 rfl) ?_
    refine va_get (D := G) (ci := 5) (v := .ref a_typed) (C := RX6) (T := TX6) (N := 6) hx hb hts gwX6 hown hK hP0 0 rfl rfl 0 (by decide) (hts _ fl_X6_9) (fun _ h9 => h9) rfl dX6_letter_12 ?_
    refine lv_aload_n hx hb dX6_letter_15 rfl (lv_at hl0 0 rfl) ?_
    refine va_get (D := G) (ci := 5) (v := .int v_place) (C := RX6) (T := TX6) (N := 6) hx hb hts gwX6 hown hK hP0 0 rfl rfl 3 (by decide) (hts _ fl_X6_22) (fun _ h9 => h9) rfl dX6_letter_16 ?_
    replace h := g_in h; obtain ⟨hg, h⟩ := h
    refine va_iald hx hb hK hP0 1 0 rfl rfl (inb_ok hg) dX6_letter_19 ?_
    clear hg
    refine lv_goto (tgt := 25) hx hb dX6_letter_20 (by decide) ?_
    obtain ez0 := r_eq1 h
    subst ez0
    exact ret_i X hP0 hS0 dX6_letter_25
/-! PloughMaze$Tape.fault -/
abbrev rmX6_fault : Room := { frames := 0, cells := 0, slots := 0, locals := 0 }
set_option maxHeartbeats 4000000 in
set_option maxRecDepth 100000 in
theorem mX6_fault (l : Launch) (G : va_G) (cI cO : ClassId) (a_ a_typed : Nat) (sz : Nat) (v_size : Int32) (v_length : Int32) (v_place : Int32) (v_readGaps : Int64) (v_readCorn : Int64)  {ret : Int32} (h : fX6_fault v_place = some ret) : Met l yX6_fault (wsM yX6_fault cX6_fault 1 (some .int)) rmX6_fault (va_Pc [.ref a_] (preW G cI cO sz [(a_, .inr (5, [.ref a_typed, .int v_size, .int v_length, .int v_place, .long v_readGaps, .long v_readCorn]))])) (QcI G (va_A [(a_, .inr (5, [.ref a_typed, .int v_size, .int v_length, .int v_place, .long v_readGaps, .long v_readCorn]))] sz) ret [(a_, .inr (5, [.ref a_typed, .int v_size, .int v_length, .int v_place, .long v_readGaps, .long v_readCorn]))]) 0 0 (va_A [(a_, .inr (5, [.ref a_typed, .int v_size, .int v_length, .int v_place, .long v_readGaps, .long v_readCorn]))] sz) := by
  refine mkMet (own := RX6) (by decide) rfl (Nat.le_of_ble_eq_true rfl) ?_
  intro p e s m args below meth c _ hsz _ X hP0 hD0 ls0 hl0
  have hS0 : va_S (va_A [(a_, .inr (5, [.ref a_typed, .int v_size, .int v_length, .int v_place, .long v_readGaps, .long v_readCorn]))] sz) s.heap s.heap [] := va_S.rf
  replace hl0 : lv_has ls0 1 [(0, .ref a_)] := hl0
  generalize va_A [(a_, .inr (5, [.ref a_typed, .int v_size, .int v_length, .int v_place, .long v_readGaps, .long v_readCorn]))] sz = A at X hD0 hS0 ⊢
  unfold fX6_fault at h
  obtain ⟨hx, hb, hml, hr, hown, hts, hlocks, hK, hN, hA, hZ⟩ := id X
  refine lv_bipush (v := (-20 : Int32)) hx hb dX6_fault_0 (by decide) ?_
  refine lv_aload_n hx hb dX6_fault_2 rfl (lv_at hl0 0 rfl) ?_
  refine va_get (D := G) (ci := 5) (v := .int v_place) (C := RX6) (T := TX6) (N := 6) hx hb hts gwX6 hown hK hP0 0 rfl rfl 3 (by decide) (hts _ fl_X6_22) (fun _ h9 => h9) rfl dX6_fault_3 ?_
  refine lv_isub hx hb dX6_fault_6 ?_
  obtain ez0 := r_eq1 h
  subst ez0
  exact ret_i X hP0 hS0 dX6_fault_7
/-! PloughMaze$Tape.readDigit -/
abbrev rmX6_readDigit : Room := { frames := 1, cells := 0, slots := 0, locals := 20 }
set_option maxHeartbeats 4000000 in
set_option maxRecDepth 100000 in
theorem mX6_readDigit (l : Launch) (G : va_G) (cI cO : ClassId) (a_ a_typed : Nat) (sz : Nat) (v_size : Int32) (v_length : Int32) (v_place : Int32) (v_readGaps : Int64) (v_readCorn : Int64) (v_typed : Nat → Int32)  {ret : Int32} {o_place : Int32} (h : fX6_readDigit v_typed v_length v_place = some (ret, o_place)) : Met l yX6_readDigit (wsM yX6_readDigit cX6_readDigit 2 (some .int)) rmX6_readDigit (va_Pc [.ref a_] (preW G cI cO sz [(a_, .inr (5, [.ref a_typed, .int v_size, .int v_length, .int v_place, .long v_readGaps, .long v_readCorn])), (a_typed, .inl (cI, 80, .inl v_typed))])) (QcI G (va_A [(a_, .inr (5, [.ref a_typed, .int v_size, .int v_length, .int v_place, .long v_readGaps, .long v_readCorn])), (a_typed, .inl (cI, 80, .inl v_typed))] sz) ret [(a_, .inr (5, [.ref a_typed, .int v_size, .int v_length, .int o_place, .long v_readGaps, .long v_readCorn])), (a_typed, .inl (cI, 80, .inl v_typed))]) 0 0 (va_A [(a_, .inr (5, [.ref a_typed, .int v_size, .int v_length, .int v_place, .long v_readGaps, .long v_readCorn])), (a_typed, .inl (cI, 80, .inl v_typed))] sz) := by
  refine mkMet (own := RX6) (by decide) rfl (Nat.le_of_ble_eq_true rfl) ?_
  intro p e s m args below meth c _ hsz _ X hP0 hD0 ls0 hl0
  have hS0 : va_S (va_A [(a_, .inr (5, [.ref a_typed, .int v_size, .int v_length, .int v_place, .long v_readGaps, .long v_readCorn])), (a_typed, .inl (cI, 80, .inl v_typed))] sz) s.heap s.heap [] := va_S.rf
  replace hl0 : lv_has ls0 2 [(0, .ref a_)] := hl0
  generalize va_A [(a_, .inr (5, [.ref a_typed, .int v_size, .int v_length, .int v_place, .long v_readGaps, .long v_readCorn])), (a_typed, .inl (cI, 80, .inl v_typed))] sz = A at X hD0 hS0 ⊢
  unfold fX6_readDigit at h
  obtain ⟨hx, hb, hml, hr, hown, hts, hlocks, hK, hN, hA, hZ⟩ := id X
  refine lv_aload_n hx hb dX6_readDigit_0 rfl (lv_at hl0 0 rfl) ?_
  replace h := g_ob1 h
  obtain ⟨r1, hf1, h⟩ := h
  refine cal_i (wc := [(a_, .inr (5, [.ref a_typed, .int v_size, .int v_length, .int v_place, .long v_readGaps, .long v_readCorn])), (a_typed, .inl (cI, 80, .inl v_typed))]) (w1 := [(a_, .inr (5, [.ref a_typed, .int v_size, .int v_length, .int v_place, .long v_readGaps, .long v_readCorn])), (a_typed, .inl (cI, 80, .inl v_typed))]) (wn := [(a_, .inr (5, [.ref a_typed, .int v_size, .int v_length, .int v_place, .long v_readGaps, .long v_readCorn])), (a_typed, .inl (cI, 80, .inl v_typed))]) X hP0 hD0 hS0 [0, 1] rfl rfl rfl rfl (run_V (As := []) (rest := []) X hP0 hD0 hS0 [0, 1] rfl rfl (mX6_letter l G cI cO a_ a_typed  s.heap.size v_size v_length v_place v_readGaps v_readCorn v_typed  hf1) mv_X6_letter ml_X6_57 ⟨Nat.le_of_ble_eq_true rfl, Nat.le_of_ble_eq_true rfl⟩ rfl rfl 0 5 rfl rfl rfl rfl hl0.1 rfl (Nat.le_of_ble_eq_true rfl) ⟨Nat.zero_le _, Nat.zero_le _⟩ dX6_readDigit_1) (fun H2 locs2 hP2 hD2 hS2 => ?_)
  clear hf1
  refine lv_bipush (v := (48 : Int32)) hx hb dX6_readDigit_4 (by decide) ?_
  refine lv_isub hx hb dX6_readDigit_6 ?_
  refine lv_topi (fun y3 ey3 => ?_)
  replace h := g_let h ey3
  clear ey3
  refine lv_istore_n (lv' := [(1, .int y3), (0, .ref a_)]) hx hb dX6_readDigit_7 rfl hl0 (by decide) rfl (fun ls4 hl4 => ?_)
  refine lv_iload_n hx hb dX6_readDigit_8 rfl (lv_at hl4 0 rfl) ?_
  refine lv_if_lt (tgt := 18) hx hb dX6_readDigit_9 (by decide) (fun hc => ?_) (fun hc => ?_)
  · replace h := t_pos h hc
    clear hc
    refine lv_bipush (v := (-4 : Int32)) hx hb dX6_readDigit_18 (by decide) ?_
    obtain ⟨ez0, ez1⟩ := r_eq2 h
    subst ez0; subst ez1
    exact ret_i X hP2 hS2 dX6_readDigit_20
  · replace h := t_neg h hc
    clear hc
    refine lv_iload_n hx hb dX6_readDigit_12 rfl (lv_at hl4 0 rfl) ?_
    refine lv_bipush (v := (6 : Int32)) hx hb dX6_readDigit_13 (by decide) ?_
    refine lv_icmp_lt (tgt := 21) hx hb dX6_readDigit_15 (by decide) (fun hc => ?_) (fun hc => ?_)
    · replace h := t_pos h hc
      clear hc
      refine lv_aload_n hx hb dX6_readDigit_21 rfl (lv_at hl4 1 rfl) ?_
      replace h := g_ob1 h
      obtain ⟨v_place_5, hf5, h⟩ := h
      refine cal_v (wc := [(a_, .inr (5, [.ref a_typed, .int v_size, .int v_length, .int v_place, .long v_readGaps, .long v_readCorn])), (a_typed, .inl (cI, 80, .inl v_typed))]) (w1 := [(a_, .inr (5, [.ref a_typed, .int v_size, .int v_length, .int v_place_5, .long v_readGaps, .long v_readCorn])), (a_typed, .inl (cI, 80, .inl v_typed))]) (wn := [(a_, .inr (5, [.ref a_typed, .int v_size, .int v_length, .int v_place_5, .long v_readGaps, .long v_readCorn])), (a_typed, .inl (cI, 80, .inl v_typed))]) X hP2 hD2 hS2 [0, 1] rfl rfl rfl rfl (run_V (As := []) (rest := []) X hP2 hD2 hS2 [0, 1] rfl rfl (mX6_advance l G cI cO a_ a_typed  H2.size v_size v_length v_place v_readGaps v_readCorn v_typed  hf5) mv_X6_advance ml_X6_38 ⟨Nat.le_of_ble_eq_true rfl, Nat.le_of_ble_eq_true rfl⟩ rfl rfl 0 5 rfl rfl rfl rfl hl4.1 rfl (Nat.le_of_ble_eq_true rfl) ⟨Nat.zero_le _, Nat.zero_le _⟩ dX6_readDigit_22) (fun H6 locs6 hP6 hD6 hS6 => ?_)
      clear hf5 hP2 hD2 hS2
      refine lv_iload_n hx hb dX6_readDigit_25 rfl (lv_at hl4 0 rfl) ?_
      obtain ⟨ez0, ez1⟩ := r_eq2 h
      subst ez0; subst ez1
      exact ret_i X hP6 hS6 dX6_readDigit_26
    · replace h := t_neg h hc
      clear hc
      refine lv_bipush (v := (-4 : Int32)) hx hb dX6_readDigit_18 (by decide) ?_
      obtain ⟨ez0, ez1⟩ := r_eq2 h
      subst ez0; subst ez1
      exact ret_i X hP2 hS2 dX6_readDigit_20
/-! PloughMaze$Tape.readSquare -/
abbrev rmX6_readSquare : Room := { frames := 2, cells := 0, slots := 0, locals := 41 }
set_option maxHeartbeats 4000000 in
set_option maxRecDepth 100000 in
theorem mX6_readSquare (l : Launch) (G : va_G) (cI cO : ClassId) (a_ a_typed : Nat) (sz : Nat) (v_size : Int32) (v_length : Int32) (v_place : Int32) (v_readGaps : Int64) (v_readCorn : Int64) (v_typed : Nat → Int32)  {ret : Int32} {o_place : Int32} (h : fX6_readSquare v_typed v_length v_place = some (ret, o_place)) : Met l yX6_readSquare (wsM yX6_readSquare cX6_readSquare 3 (some .int)) rmX6_readSquare (va_Pc [.ref a_] (preW G cI cO sz [(a_, .inr (5, [.ref a_typed, .int v_size, .int v_length, .int v_place, .long v_readGaps, .long v_readCorn])), (a_typed, .inl (cI, 80, .inl v_typed))])) (QcI G (va_A [(a_, .inr (5, [.ref a_typed, .int v_size, .int v_length, .int v_place, .long v_readGaps, .long v_readCorn])), (a_typed, .inl (cI, 80, .inl v_typed))] sz) ret [(a_, .inr (5, [.ref a_typed, .int v_size, .int v_length, .int o_place, .long v_readGaps, .long v_readCorn])), (a_typed, .inl (cI, 80, .inl v_typed))]) 0 0 (va_A [(a_, .inr (5, [.ref a_typed, .int v_size, .int v_length, .int v_place, .long v_readGaps, .long v_readCorn])), (a_typed, .inl (cI, 80, .inl v_typed))] sz) := by
  refine mkMet (own := RX6) (by decide) rfl (Nat.le_of_ble_eq_true rfl) ?_
  intro p e s m args below meth c _ hsz _ X hP0 hD0 ls0 hl0
  have hS0 : va_S (va_A [(a_, .inr (5, [.ref a_typed, .int v_size, .int v_length, .int v_place, .long v_readGaps, .long v_readCorn])), (a_typed, .inl (cI, 80, .inl v_typed))] sz) s.heap s.heap [] := va_S.rf
  replace hl0 : lv_has ls0 3 [(0, .ref a_)] := hl0
  generalize va_A [(a_, .inr (5, [.ref a_typed, .int v_size, .int v_length, .int v_place, .long v_readGaps, .long v_readCorn])), (a_typed, .inl (cI, 80, .inl v_typed))] sz = A at X hD0 hS0 ⊢
  unfold fX6_readSquare at h
  obtain ⟨hx, hb, hml, hr, hown, hts, hlocks, hK, hN, hA, hZ⟩ := id X
  refine lv_aload_n hx hb dX6_readSquare_0 rfl (lv_at hl0 0 rfl) ?_
  replace h := g_ob2 h
  obtain ⟨r1, v_place_1, hf1, h⟩ := h
  refine cal_i (wc := [(a_, .inr (5, [.ref a_typed, .int v_size, .int v_length, .int v_place, .long v_readGaps, .long v_readCorn])), (a_typed, .inl (cI, 80, .inl v_typed))]) (w1 := [(a_, .inr (5, [.ref a_typed, .int v_size, .int v_length, .int v_place_1, .long v_readGaps, .long v_readCorn])), (a_typed, .inl (cI, 80, .inl v_typed))]) (wn := [(a_, .inr (5, [.ref a_typed, .int v_size, .int v_length, .int v_place_1, .long v_readGaps, .long v_readCorn])), (a_typed, .inl (cI, 80, .inl v_typed))]) X hP0 hD0 hS0 [0, 1] rfl rfl rfl rfl (run_V (As := []) (rest := []) X hP0 hD0 hS0 [0, 1] rfl rfl (mX6_readDigit l G cI cO a_ a_typed  s.heap.size v_size v_length v_place v_readGaps v_readCorn v_typed  hf1) mv_X6_readDigit ml_X6_82 ⟨Nat.le_of_ble_eq_true rfl, Nat.le_of_ble_eq_true rfl⟩ rfl rfl 0 5 rfl rfl rfl rfl hl0.1 rfl (Nat.le_of_ble_eq_true rfl) ⟨Nat.zero_le _, Nat.zero_le _⟩ dX6_readSquare_1) (fun H2 locs2 hP2 hD2 hS2 => ?_)
  clear hf1
  refine lv_istore_n (lv' := [(1, .int r1), (0, .ref a_)]) hx hb dX6_readSquare_4 rfl hl0 (by decide) rfl (fun ls3 hl3 => ?_)
  refine lv_iload_n hx hb dX6_readSquare_5 rfl (lv_at hl3 0 rfl) ?_
  refine lv_if_ge (tgt := 12) hx hb dX6_readSquare_6 (by decide) (fun hc => ?_) (fun hc => ?_)
  · replace h := t_pos h hc
    clear hc
    refine lv_aload_n hx hb dX6_readSquare_12 rfl (lv_at hl3 1 rfl) ?_
    replace h := g_ob2 h
    obtain ⟨r4, v_place_4, hf4, h⟩ := h
    refine cal_i (wc := [(a_, .inr (5, [.ref a_typed, .int v_size, .int v_length, .int v_place_1, .long v_readGaps, .long v_readCorn])), (a_typed, .inl (cI, 80, .inl v_typed))]) (w1 := [(a_, .inr (5, [.ref a_typed, .int v_size, .int v_length, .int v_place_4, .long v_readGaps, .long v_readCorn])), (a_typed, .inl (cI, 80, .inl v_typed))]) (wn := [(a_, .inr (5, [.ref a_typed, .int v_size, .int v_length, .int v_place_4, .long v_readGaps, .long v_readCorn])), (a_typed, .inl (cI, 80, .inl v_typed))]) X hP2 hD2 hS2 [0, 1] rfl rfl rfl rfl (run_V (As := []) (rest := []) X hP2 hD2 hS2 [0, 1] rfl rfl (mX6_readDigit l G cI cO a_ a_typed  H2.size v_size v_length v_place_1 v_readGaps v_readCorn v_typed  hf4) mv_X6_readDigit ml_X6_82 ⟨Nat.le_of_ble_eq_true rfl, Nat.le_of_ble_eq_true rfl⟩ rfl rfl 0 5 rfl rfl rfl rfl hl3.1 rfl (Nat.le_of_ble_eq_true rfl) ⟨Nat.zero_le _, Nat.zero_le _⟩ dX6_readSquare_13) (fun H5 locs5 hP5 hD5 hS5 => ?_)
    clear hf4 hP2 hD2 hS2
    refine lv_istore_n (lv' := [(2, .int r4), (1, .int r1), (0, .ref a_)]) hx hb dX6_readSquare_16 rfl hl3 (by decide) rfl (fun ls6 hl6 => ?_)
    clear hl3
    refine lv_iload_n hx hb dX6_readSquare_17 rfl (lv_at hl6 0 rfl) ?_
    refine lv_if_ge (tgt := 26) hx hb dX6_readSquare_18 (by decide) (fun hc => ?_) (fun hc => ?_)
    · replace h := t_pos h hc
      clear hc
      refine lv_iload_n hx hb dX6_readSquare_26 rfl (lv_at hl6 1 rfl) ?_
      refine lv_bipush (v := (6 : Int32)) hx hb dX6_readSquare_27 (by decide) ?_
      refine lv_imul hx hb dX6_readSquare_29 ?_
      refine lv_iload_n hx hb dX6_readSquare_30 rfl (lv_at hl6 0 rfl) ?_
      refine lv_iadd hx hb dX6_readSquare_31 ?_
      obtain ⟨ez0, ez1⟩ := r_eq2 h
      subst ez0; subst ez1
      exact ret_i X hP5 hS5 dX6_readSquare_32
    · replace h := t_neg h hc
      clear hc
      refine lv_bipush (v := (-4 : Int32)) hx hb dX6_readSquare_21 (by decide) ?_
      refine lv_goto (tgt := 32) hx hb dX6_readSquare_23 (by decide) ?_
      obtain ⟨ez0, ez1⟩ := r_eq2 h
      subst ez0; subst ez1
      exact ret_i X hP5 hS5 dX6_readSquare_32
  · replace h := t_neg h hc
    clear hc
    refine lv_bipush (v := (-4 : Int32)) hx hb dX6_readSquare_9 (by decide) ?_
    obtain ⟨ez0, ez1⟩ := r_eq2 h
    subst ez0; subst ez1
    exact ret_i X hP2 hS2 dX6_readSquare_11
/-! PloughMaze$Tape.readFurrow -/
abbrev rmX6_readFurrow : Room := { frames := 3, cells := 0, slots := 0, locals := 63 }
def SX6_readFurrow_77 (p : Program) (l : Launch) (e : Env) (s : State) (m : MethodId) (args : Array Value) (below : List Frame) (meth : Method) (c : Code) (G : va_G) (cI cO : ClassId) (A : Nat → Prop) (a_ a_typed a_p0 a_p0_row : Nat) (v_size : Int32) (v_length : Int32) (v_readGaps : Int64) (v_readCorn : Int64) (v_typed : Nat → Int32) (ret : Int32) (o_place : Int32) (o_p0_row : Nat → Int32) (o_p0_size : Int32) (o_p0_ploughed : Int64) (o_p0_steps : Int64) (k : Int32 → (Nat → Int32) → Int32 → Int64 → Int64 → Option (Int32 × Int32 × (Nat → Int32) × Int32 × Int64 × Int64)) : Prop := ∀ (v_place : Int32) (v_p0_row : Nat → Int32) (v_p0_size : Int32) (v_p0_ploughed : Int64) (v_p0_steps : Int64) (H : Heap) (locs : List Loc), va_P G vwCl [(a_, .inr (5, [.ref a_typed, .int v_size, .int v_length, .int v_place, .long v_readGaps, .long v_readCorn])), (a_typed, .inl (cI, 80, .inl v_typed)), (a_p0, .inr (2, [.ref a_p0_row, .int v_p0_size, .long v_p0_ploughed, .long v_p0_steps])), (a_p0_row, .inl (cI, 36, .inl v_p0_row))] H → va_D A [(a_, .inr (5, [.ref a_typed, .int v_size, .int v_length, .int v_place, .long v_readGaps, .long v_readCorn])), (a_typed, .inl (cI, 80, .inl v_typed)), (a_p0, .inr (2, [.ref a_p0_row, .int v_p0_size, .long v_p0_ploughed, .long v_p0_steps])), (a_p0_row, .inl (cI, 36, .inl v_p0_row))] → va_S A s.heap H locs → ∀ (ls : Array Slot), lv_has ls 4 [(1, .ref a_p0)] → k v_place v_p0_row v_p0_size v_p0_ploughed v_p0_steps = some (ret, o_place, o_p0_row, o_p0_size, o_p0_ploughed, o_p0_steps) → W p l e rmX6_readFurrow s m args below meth c H locs 0 0 (MQ below (QcI G A ret [(a_, .inr (5, [.ref a_typed, .int v_size, .int v_length, .int o_place, .long v_readGaps, .long v_readCorn])), (a_typed, .inl (cI, 80, .inl v_typed)), (a_p0, .inr (2, [.ref a_p0_row, .int o_p0_size, .long o_p0_ploughed, .long o_p0_steps])), (a_p0_row, .inl (cI, 36, .inl o_p0_row))]) args s 0 0 A) (F0 m 77 ls [])
def SX6_readFurrow_22 (p : Program) (l : Launch) (e : Env) (s : State) (m : MethodId) (args : Array Value) (below : List Frame) (meth : Method) (c : Code) (G : va_G) (cI cO : ClassId) (A : Nat → Prop) (a_ a_typed a_p0 a_p0_row : Nat) (v_size : Int32) (v_length : Int32) (v_readGaps : Int64) (v_readCorn : Int64) (v_typed : Nat → Int32) (ret : Int32) (o_place : Int32) (o_p0_row : Nat → Int32) (o_p0_size : Int32) (o_p0_ploughed : Int64) (o_p0_steps : Int64) (k : Int32 → (Nat → Int32) → Int32 → Int64 → Int64 → Int32 → Option (Int32 × Int32 × (Nat → Int32) × Int32 × Int64 × Int64)) : Prop := ∀ (v_place : Int32) (v_p0_row : Nat → Int32) (v_p0_size : Int32) (v_p0_ploughed : Int64) (v_p0_steps : Int64) (x2 : Int32) (H : Heap) (locs : List Loc), va_P G vwCl [(a_, .inr (5, [.ref a_typed, .int v_size, .int v_length, .int v_place, .long v_readGaps, .long v_readCorn])), (a_typed, .inl (cI, 80, .inl v_typed)), (a_p0, .inr (2, [.ref a_p0_row, .int v_p0_size, .long v_p0_ploughed, .long v_p0_steps])), (a_p0_row, .inl (cI, 36, .inl v_p0_row))] H → va_D A [(a_, .inr (5, [.ref a_typed, .int v_size, .int v_length, .int v_place, .long v_readGaps, .long v_readCorn])), (a_typed, .inl (cI, 80, .inl v_typed)), (a_p0, .inr (2, [.ref a_p0_row, .int v_p0_size, .long v_p0_ploughed, .long v_p0_steps])), (a_p0_row, .inl (cI, 36, .inl v_p0_row))] → va_S A s.heap H locs → ∀ (ls : Array Slot), lv_has ls 4 [(0, .ref a_), (1, .ref a_p0), (2, .int x2)] → k v_place v_p0_row v_p0_size v_p0_ploughed v_p0_steps x2 = some (ret, o_place, o_p0_row, o_p0_size, o_p0_ploughed, o_p0_steps) → W p l e rmX6_readFurrow s m args below meth c H locs 0 0 (MQ below (QcI G A ret [(a_, .inr (5, [.ref a_typed, .int v_size, .int v_length, .int o_place, .long v_readGaps, .long v_readCorn])), (a_typed, .inl (cI, 80, .inl v_typed)), (a_p0, .inr (2, [.ref a_p0_row, .int o_p0_size, .long o_p0_ploughed, .long o_p0_steps])), (a_p0_row, .inl (cI, 36, .inl o_p0_row))]) args s 0 0 A) (F0 m 22 ls [])
set_option maxHeartbeats 4000000 in
set_option maxRecDepth 100000 in
theorem bX6_readFurrow_77 {p : Program} {l : Launch} {e : Env} {s : State} {m : MethodId} {args : Array Value} {below : List Frame} {meth : Method} {c : Code} {G : va_G} {cI cO : ClassId} {A : Nat → Prop} {a_ a_typed a_p0 a_p0_row : Nat} {v_size : Int32} {v_length : Int32} {v_readGaps : Int64} {v_readCorn : Int64} {v_typed : Nat → Int32} {ret : Int32} {o_place : Int32} {o_p0_row : Nat → Int32} {o_p0_size : Int32} {o_p0_ploughed : Int64} {o_p0_steps : Int64} (X : BX p rmX6_readFurrow s m args meth c cX6_readFurrow 4 (some .int) RX6 G cI cO A) : SX6_readFurrow_77 p l e s m args below meth c G cI cO A a_ a_typed a_p0 a_p0_row v_size v_length v_readGaps v_readCorn v_typed ret o_place o_p0_row o_p0_size o_p0_ploughed o_p0_steps fX6_readFurrow_77 := by
  intro v_place v_p0_row v_p0_size v_p0_ploughed v_p0_steps H0 locs0 hP0 hD0 hS0 ls0 hl0 h
  unfold fX6_readFurrow_77 at h
  obtain ⟨hx, hb, hml, hr, hown, hts, hlocks, hK, hN, hA, hZ⟩ := id X
  refine lv_aload_n hx hb dX6_readFurrow_77 rfl (lv_at hl0 0 rfl) ?_
  refine va_getN (D := G) (ci := 2) (v := .int v_p0_size) (C := RX2) (T := TX2) (N := 4) hx hb hts gwX2 hown hK hP0 2 rfl rfl 1 (by decide) (va_Nw.use rfl (hN _ fn_X6_73)) (fun _ h9 => h9) rfl dX6_readFurrow_78 ?_
  obtain ⟨ez0, ez1, ez2, ez3, ez4, ez5⟩ := r_eq6 h
  subst ez0; subst ez1; subst ez2; subst ez3; subst ez4; subst ez5
  exact ret_i X hP0 hS0 dX6_readFurrow_81
set_option maxHeartbeats 4000000 in
set_option maxRecDepth 100000 in
theorem bX6_readFurrow_22 {p : Program} {l : Launch} {e : Env} {s : State} {m : MethodId} {args : Array Value} {below : List Frame} {meth : Method} {c : Code} {G : va_G} {cI cO : ClassId} {A : Nat → Prop} {a_ a_typed a_p0 a_p0_row : Nat} {v_size : Int32} {v_length : Int32} {v_readGaps : Int64} {v_readCorn : Int64} {v_typed : Nat → Int32} {ret : Int32} {o_place : Int32} {o_p0_row : Nat → Int32} {o_p0_size : Int32} {o_p0_ploughed : Int64} {o_p0_steps : Int64} (X : BX p rmX6_readFurrow s m args meth c cX6_readFurrow 4 (some .int) RX6 G cI cO A) : ∀ n : Nat, SX6_readFurrow_22 p l e s m args below meth c G cI cO A a_ a_typed a_p0 a_p0_row v_size v_length v_readGaps v_readCorn v_typed ret o_place o_p0_row o_p0_size o_p0_ploughed o_p0_steps (fX6_readFurrow_22 v_typed v_length n) := by
  intro n
  induction n with
  | zero => intro v_place v_p0_row v_p0_size v_p0_ploughed v_p0_steps x2 H0 locs0 hP0 hD0 hS0 ls0 hl0 h; exact absurd h (by simp [fX6_readFurrow_22])
  | succ n ih =>
    intro v_place v_p0_row v_p0_size v_p0_ploughed v_p0_steps x2 H0 locs0 hP0 hD0 hS0 ls0 hl0 h
    rw [fX6_readFurrow_22] at h
    obtain ⟨hx, hb, hml, hr, hown, hts, hlocks, hK, hN, hA, hZ⟩ := id X
    refine lv_iload_n hx hb dX6_readFurrow_22 rfl (lv_at hl0 2 rfl) ?_
    refine lv_bipush (v := (36 : Int32)) hx hb dX6_readFurrow_23 (by decide) ?_
    refine lv_icmp_ge (tgt := 77) hx hb dX6_readFurrow_25 (by decide) (fun hc => ?_) (fun hc => ?_)
    · replace h := t_pos h hc
      clear hc
      exact bX6_readFurrow_77 X v_place v_p0_row v_p0_size v_p0_ploughed v_p0_steps H0 locs0 hP0 hD0 hS0 ls0 (lv_sub hl0 [1] rfl) h
    · replace h := t_neg h hc
      clear hc
      refine lv_aload_n hx hb dX6_readFurrow_28 rfl (lv_at hl0 0 rfl) ?_
      refine va_get (D := G) (ci := 5) (v := .int v_place) (C := RX6) (T := TX6) (N := 6) hx hb hts gwX6 hown hK hP0 0 rfl rfl 3 (by decide) (hts _ fl_X6_22) (fun _ h9 => h9) rfl dX6_readFurrow_29 ?_
      refine lv_aload_n hx hb dX6_readFurrow_32 rfl (lv_at hl0 0 rfl) ?_
      refine va_get (D := G) (ci := 5) (v := .int v_length) (C := RX6) (T := TX6) (N := 6) hx hb hts gwX6 hown hK hP0 0 rfl rfl 2 (by decide) (hts _ fl_X6_19) (fun _ h9 => h9) rfl dX6_readFurrow_33 ?_
      refine lv_icmp_ge (tgt := 77) hx hb dX6_readFurrow_36 (by decide) (fun hc => ?_) (fun hc => ?_)
      · replace h := t_pos h hc
        clear hc
        exact bX6_readFurrow_77 X v_place v_p0_row v_p0_size v_p0_ploughed v_p0_steps H0 locs0 hP0 hD0 hS0 ls0 (lv_sub hl0 [1] rfl) h
      · replace h := t_neg h hc
        clear hc
        refine lv_aload_n hx hb dX6_readFurrow_39 rfl (lv_at hl0 0 rfl) ?_
        replace h := g_ob1 h
        obtain ⟨r1, hf1, h⟩ := h
        refine cal_i (wc := [(a_, .inr (5, [.ref a_typed, .int v_size, .int v_length, .int v_place, .long v_readGaps, .long v_readCorn])), (a_typed, .inl (cI, 80, .inl v_typed))]) (w1 := [(a_, .inr (5, [.ref a_typed, .int v_size, .int v_length, .int v_place, .long v_readGaps, .long v_readCorn])), (a_typed, .inl (cI, 80, .inl v_typed))]) (wn := [(a_, .inr (5, [.ref a_typed, .int v_size, .int v_length, .int v_place, .long v_readGaps, .long v_readCorn])), (a_typed, .inl (cI, 80, .inl v_typed)), (a_p0, .inr (2, [.ref a_p0_row, .int v_p0_size, .long v_p0_ploughed, .long v_p0_steps])), (a_p0_row, .inl (cI, 36, .inl v_p0_row))]) X hP0 hD0 hS0 [0, 1] rfl rfl rfl rfl (run_V (As := []) (rest := []) X hP0 hD0 hS0 [0, 1] rfl rfl (mX6_letter l G cI cO a_ a_typed  H0.size v_size v_length v_place v_readGaps v_readCorn v_typed  hf1) mv_X6_letter ml_X6_57 ⟨Nat.le_of_ble_eq_true rfl, Nat.le_of_ble_eq_true rfl⟩ rfl rfl 0 5 rfl rfl rfl rfl hl0.1 rfl (Nat.le_of_ble_eq_true rfl) ⟨Nat.zero_le _, Nat.zero_le _⟩ dX6_readFurrow_40) (fun H2 locs2 hP2 hD2 hS2 => ?_)
        clear hf1
        replace h := g_ob1 h
        obtain ⟨r3, hf3, h⟩ := h
        refine cal_i (wc := []) (w1 := []) (wn := [(a_, .inr (5, [.ref a_typed, .int v_size, .int v_length, .int v_place, .long v_readGaps, .long v_readCorn])), (a_typed, .inl (cI, 80, .inl v_typed)), (a_p0, .inr (2, [.ref a_p0_row, .int v_p0_size, .long v_p0_ploughed, .long v_p0_steps])), (a_p0_row, .inl (cI, 36, .inl v_p0_row))]) X hP2 hD2 hS2 [] rfl rfl rfl rfl (run_S (As := [.int r1]) (rest := []) X hP2 hD2 hS2 [] rfl rfl (mX3_sideOfLetter l G cI cO   H2.size  r1 hf3) ms_X3_sideOfLetter ml_X6_60 ⟨Nat.le_of_ble_eq_true rfl, Nat.le_of_ble_eq_true rfl⟩ rfl rfl rfl hl0.1 rfl (Nat.le_of_ble_eq_true rfl) ⟨Nat.zero_le _, Nat.zero_le _⟩ dX6_readFurrow_43) (fun H4 locs4 hP4 hD4 hS4 => ?_)
        clear hf3 hP2 hD2 hS2
        refine lv_istore_n (lv' := [(3, .int r3), (0, .ref a_), (1, .ref a_p0), (2, .int x2)]) hx hb dX6_readFurrow_46 rfl hl0 (by decide) rfl (fun ls5 hl5 => ?_)
        refine lv_aload_n hx hb dX6_readFurrow_47 rfl (lv_at hl5 2 rfl) ?_
        refine lv_aload_n hx hb dX6_readFurrow_48 rfl (lv_at hl5 2 rfl) ?_
        replace h := g_ob1 h
        obtain ⟨r6, hf6, h⟩ := h
        refine cal_i (wc := [(a_p0, .inr (2, [.ref a_p0_row, .int v_p0_size, .long v_p0_ploughed, .long v_p0_steps])), (a_p0_row, .inl (cI, 36, .inl v_p0_row))]) (w1 := [(a_p0, .inr (2, [.ref a_p0_row, .int v_p0_size, .long v_p0_ploughed, .long v_p0_steps])), (a_p0_row, .inl (cI, 36, .inl v_p0_row))]) (wn := [(a_, .inr (5, [.ref a_typed, .int v_size, .int v_length, .int v_place, .long v_readGaps, .long v_readCorn])), (a_typed, .inl (cI, 80, .inl v_typed)), (a_p0, .inr (2, [.ref a_p0_row, .int v_p0_size, .long v_p0_ploughed, .long v_p0_steps])), (a_p0_row, .inl (cI, 36, .inl v_p0_row))]) X hP4 hD4 hS4 [2, 3] rfl rfl rfl rfl (run_V (As := []) (rest := [.ref a_p0]) X hP4 hD4 hS4 [2, 3] rfl rfl (mX2_lastSquare l G cI cO a_p0 a_p0_row  H4.size v_p0_size v_p0_ploughed v_p0_steps v_p0_row  hf6) mv_X2_lastSquare ml_X6_66 ⟨Nat.le_of_ble_eq_true rfl, Nat.le_of_ble_eq_true rfl⟩ rfl rfl 2 2 rfl rfl rfl rfl hl5.1 rfl (Nat.le_of_ble_eq_true rfl) ⟨Nat.zero_le _, Nat.zero_le _⟩ dX6_readFurrow_49) (fun H7 locs7 hP7 hD7 hS7 => ?_)
        clear hf6 hP4 hD4 hS4
        refine lv_iload_n hx hb dX6_readFurrow_52 rfl (lv_at hl5 0 rfl) ?_
        replace h := g_ob1 h
        obtain ⟨r8, hf8, h⟩ := h
        refine cal_i (wc := []) (w1 := []) (wn := [(a_, .inr (5, [.ref a_typed, .int v_size, .int v_length, .int v_place, .long v_readGaps, .long v_readCorn])), (a_typed, .inl (cI, 80, .inl v_typed)), (a_p0, .inr (2, [.ref a_p0_row, .int v_p0_size, .long v_p0_ploughed, .long v_p0_steps])), (a_p0_row, .inl (cI, 36, .inl v_p0_row))]) X hP7 hD7 hS7 [] rfl rfl rfl rfl (run_S (As := [.int r6, .int r3]) (rest := [.ref a_p0]) X hP7 hD7 hS7 [] rfl rfl (mX3_next l G cI cO   H7.size  r6 r3 hf8) ms_X3_next ml_X6_69 ⟨Nat.le_of_ble_eq_true rfl, Nat.le_of_ble_eq_true rfl⟩ rfl rfl rfl hl5.1 rfl (Nat.le_of_ble_eq_true rfl) ⟨Nat.zero_le _, Nat.zero_le _⟩ dX6_readFurrow_53) (fun H9 locs9 hP9 hD9 hS9 => ?_)
        clear hf8 hP7 hD7 hS7
        replace h := g_ob5 h
        obtain ⟨r10, v_p0_row_10, v_p0_size_10, v_p0_ploughed_10, v_p0_steps_10, hf10, h⟩ := h
        refine cal_i (wc := [(a_p0, .inr (2, [.ref a_p0_row, .int v_p0_size, .long v_p0_ploughed, .long v_p0_steps])), (a_p0_row, .inl (cI, 36, .inl v_p0_row))]) (w1 := [(a_p0, .inr (2, [.ref a_p0_row, .int v_p0_size_10, .long v_p0_ploughed_10, .long v_p0_steps_10])), (a_p0_row, .inl (cI, 36, .inl v_p0_row_10))]) (wn := [(a_, .inr (5, [.ref a_typed, .int v_size, .int v_length, .int v_place, .long v_readGaps, .long v_readCorn])), (a_typed, .inl (cI, 80, .inl v_typed)), (a_p0, .inr (2, [.ref a_p0_row, .int v_p0_size_10, .long v_p0_ploughed_10, .long v_p0_steps_10])), (a_p0_row, .inl (cI, 36, .inl v_p0_row_10))]) X hP9 hD9 hS9 [2, 3] rfl rfl rfl rfl (run_V (As := [.int r8]) (rest := []) X hP9 hD9 hS9 [2, 3] rfl rfl (mX2_add l G cI cO a_p0 a_p0_row  H9.size v_p0_size v_p0_ploughed v_p0_steps v_p0_row r8 hf10) mv_X2_add ml_X6_50 ⟨Nat.le_of_ble_eq_true rfl, Nat.le_of_ble_eq_true rfl⟩ rfl rfl 2 2 rfl rfl rfl rfl hl5.1 rfl (Nat.le_of_ble_eq_true rfl) ⟨Nat.zero_le _, Nat.zero_le _⟩ dX6_readFurrow_56) (fun H11 locs11 hP11 hD11 hS11 => ?_)
        clear hf10 hP9 hD9 hS9
        refine lv_if_ne (tgt := 67) hx hb dX6_readFurrow_59 (by decide) (fun hc => ?_) (fun hc => ?_)
        · replace h := t_neg h hc
          clear hc
          refine lv_aload_n hx hb dX6_readFurrow_67 rfl (lv_at hl5 1 rfl) ?_
          replace h := g_ob1 h
          obtain ⟨v_place_12, hf12, h⟩ := h
          refine cal_v (wc := [(a_, .inr (5, [.ref a_typed, .int v_size, .int v_length, .int v_place, .long v_readGaps, .long v_readCorn])), (a_typed, .inl (cI, 80, .inl v_typed))]) (w1 := [(a_, .inr (5, [.ref a_typed, .int v_size, .int v_length, .int v_place_12, .long v_readGaps, .long v_readCorn])), (a_typed, .inl (cI, 80, .inl v_typed))]) (wn := [(a_, .inr (5, [.ref a_typed, .int v_size, .int v_length, .int v_place_12, .long v_readGaps, .long v_readCorn])), (a_typed, .inl (cI, 80, .inl v_typed)), (a_p0, .inr (2, [.ref a_p0_row, .int v_p0_size_10, .long v_p0_ploughed_10, .long v_p0_steps_10])), (a_p0_row, .inl (cI, 36, .inl v_p0_row_10))]) X hP11 hD11 hS11 [0, 1] rfl rfl rfl rfl (run_V (As := []) (rest := []) X hP11 hD11 hS11 [0, 1] rfl rfl (mX6_advance l G cI cO a_ a_typed  H11.size v_size v_length v_place v_readGaps v_readCorn v_typed  hf12) mv_X6_advance ml_X6_38 ⟨Nat.le_of_ble_eq_true rfl, Nat.le_of_ble_eq_true rfl⟩ rfl rfl 0 5 rfl rfl rfl rfl hl5.1 rfl (Nat.le_of_ble_eq_true rfl) ⟨Nat.zero_le _, Nat.zero_le _⟩ dX6_readFurrow_68) (fun H13 locs13 hP13 hD13 hS13 => ?_)
          clear hf12 hP11 hD11 hS11
          refine lv_iinc (v := (x2 + (1 : Int32))) (lv' := [(2, .int (x2 + (1 : Int32))), (3, .int r3), (0, .ref a_), (1, .ref a_p0)]) hx hb dX6_readFurrow_71 hl5 (k := 3) rfl (congrArg (fun z => x2 + z) (by decide : Int32.ofInt (1) = (1 : Int32))) (by decide) rfl (fun ls14 hl14 => ?_)
          refine lv_goto (tgt := 22) hx hb dX6_readFurrow_74 (by decide) ?_
          exact ih v_place_12 v_p0_row_10 v_p0_size_10 v_p0_ploughed_10 v_p0_steps_10 ((x2 + (1 : Int32))) H13 locs13 hP13 hD13 hS13 ls14 (lv_sub hl14 [2, 3, 0] rfl) h
        · replace h := t_pos h hc
          clear hc
          refine lv_aload_n hx hb dX6_readFurrow_62 rfl (lv_at hl5 1 rfl) ?_
          replace h := g_ob1 h
          obtain ⟨r15, hf15, h⟩ := h
          refine cal_i (wc := [(a_, .inr (5, [.ref a_typed, .int v_size, .int v_length, .int v_place, .long v_readGaps, .long v_readCorn]))]) (w1 := [(a_, .inr (5, [.ref a_typed, .int v_size, .int v_length, .int v_place, .long v_readGaps, .long v_readCorn]))]) (wn := [(a_, .inr (5, [.ref a_typed, .int v_size, .int v_length, .int v_place, .long v_readGaps, .long v_readCorn])), (a_typed, .inl (cI, 80, .inl v_typed)), (a_p0, .inr (2, [.ref a_p0_row, .int v_p0_size_10, .long v_p0_ploughed_10, .long v_p0_steps_10])), (a_p0_row, .inl (cI, 36, .inl v_p0_row_10))]) X hP11 hD11 hS11 [0] rfl rfl rfl rfl (run_V (As := []) (rest := []) X hP11 hD11 hS11 [0] rfl rfl (mX6_fault l G cI cO a_ a_typed  H11.size v_size v_length v_place v_readGaps v_readCorn  hf15) mv_X6_fault ml_X6_54 ⟨Nat.le_of_ble_eq_true rfl, Nat.le_of_ble_eq_true rfl⟩ rfl rfl 0 5 rfl rfl rfl rfl hl5.1 rfl (Nat.le_of_ble_eq_true rfl) ⟨Nat.zero_le _, Nat.zero_le _⟩ dX6_readFurrow_63) (fun H16 locs16 hP16 hD16 hS16 => ?_)
          clear hf15 hP11 hD11 hS11
          obtain ⟨ez0, ez1, ez2, ez3, ez4, ez5⟩ := r_eq6 h
          subst ez0; subst ez1; subst ez2; subst ez3; subst ez4; subst ez5
          exact ret_i X hP16 hS16 dX6_readFurrow_66
set_option maxHeartbeats 4000000 in
set_option maxRecDepth 100000 in
theorem mX6_readFurrow (l : Launch) (G : va_G) (cI cO : ClassId) (a_ a_typed a_p0 a_p0_row : Nat) (sz : Nat) (v_size : Int32) (v_length : Int32) (v_place : Int32) (v_readGaps : Int64) (v_readCorn : Int64) (v_typed : Nat → Int32) (v_p0_size : Int32) (v_p0_ploughed : Int64) (v_p0_steps : Int64) (v_p0_row : Nat → Int32)  {ret : Int32} {o_place : Int32} {o_p0_row : Nat → Int32} {o_p0_size : Int32} {o_p0_ploughed : Int64} {o_p0_steps : Int64} (h : fX6_readFurrow v_typed v_length v_place v_p0_row v_p0_size v_p0_ploughed v_p0_steps = some (ret, o_place, o_p0_row, o_p0_size, o_p0_ploughed, o_p0_steps)) : Met l yX6_readFurrow (wsM yX6_readFurrow cX6_readFurrow 4 (some .int)) rmX6_readFurrow (va_Pc [.ref a_, .ref a_p0] (preW G cI cO sz [(a_, .inr (5, [.ref a_typed, .int v_size, .int v_length, .int v_place, .long v_readGaps, .long v_readCorn])), (a_typed, .inl (cI, 80, .inl v_typed)), (a_p0, .inr (2, [.ref a_p0_row, .int v_p0_size, .long v_p0_ploughed, .long v_p0_steps])), (a_p0_row, .inl (cI, 36, .inl v_p0_row))])) (QcI G (va_A [(a_, .inr (5, [.ref a_typed, .int v_size, .int v_length, .int v_place, .long v_readGaps, .long v_readCorn])), (a_typed, .inl (cI, 80, .inl v_typed)), (a_p0, .inr (2, [.ref a_p0_row, .int v_p0_size, .long v_p0_ploughed, .long v_p0_steps])), (a_p0_row, .inl (cI, 36, .inl v_p0_row))] sz) ret [(a_, .inr (5, [.ref a_typed, .int v_size, .int v_length, .int o_place, .long v_readGaps, .long v_readCorn])), (a_typed, .inl (cI, 80, .inl v_typed)), (a_p0, .inr (2, [.ref a_p0_row, .int o_p0_size, .long o_p0_ploughed, .long o_p0_steps])), (a_p0_row, .inl (cI, 36, .inl o_p0_row))]) 0 0 (va_A [(a_, .inr (5, [.ref a_typed, .int v_size, .int v_length, .int v_place, .long v_readGaps, .long v_readCorn])), (a_typed, .inl (cI, 80, .inl v_typed)), (a_p0, .inr (2, [.ref a_p0_row, .int v_p0_size, .long v_p0_ploughed, .long v_p0_steps])), (a_p0_row, .inl (cI, 36, .inl v_p0_row))] sz) := by
  refine mkMet (own := RX6) (by decide) rfl (Nat.le_of_ble_eq_true rfl) ?_
  intro p e s m args below meth c _ hsz _ X hP0 hD0 ls0 hl0
  have hS0 : va_S (va_A [(a_, .inr (5, [.ref a_typed, .int v_size, .int v_length, .int v_place, .long v_readGaps, .long v_readCorn])), (a_typed, .inl (cI, 80, .inl v_typed)), (a_p0, .inr (2, [.ref a_p0_row, .int v_p0_size, .long v_p0_ploughed, .long v_p0_steps])), (a_p0_row, .inl (cI, 36, .inl v_p0_row))] sz) s.heap s.heap [] := va_S.rf
  replace hl0 : lv_has ls0 4 [(0, .ref a_), (1, .ref a_p0)] := hl0
  generalize va_A [(a_, .inr (5, [.ref a_typed, .int v_size, .int v_length, .int v_place, .long v_readGaps, .long v_readCorn])), (a_typed, .inl (cI, 80, .inl v_typed)), (a_p0, .inr (2, [.ref a_p0_row, .int v_p0_size, .long v_p0_ploughed, .long v_p0_steps])), (a_p0_row, .inl (cI, 36, .inl v_p0_row))] sz = A at X hD0 hS0 ⊢
  unfold fX6_readFurrow at h
  obtain ⟨hx, hb, hml, hr, hown, hts, hlocks, hK, hN, hA, hZ⟩ := id X
  refine lv_aload_n hx hb dX6_readFurrow_0 rfl (lv_at hl0 1 rfl) ?_
  replace h := g_ob3 h
  obtain ⟨v_p0_size_1, v_p0_ploughed_1, v_p0_steps_1, hf1, h⟩ := h
  refine cal_v (wc := [(a_p0, .inr (2, [.ref a_p0_row, .int v_p0_size, .long v_p0_ploughed, .long v_p0_steps]))]) (w1 := [(a_p0, .inr (2, [.ref a_p0_row, .int v_p0_size_1, .long v_p0_ploughed_1, .long v_p0_steps_1]))]) (wn := [(a_, .inr (5, [.ref a_typed, .int v_size, .int v_length, .int v_place, .long v_readGaps, .long v_readCorn])), (a_typed, .inl (cI, 80, .inl v_typed)), (a_p0, .inr (2, [.ref a_p0_row, .int v_p0_size_1, .long v_p0_ploughed_1, .long v_p0_steps_1])), (a_p0_row, .inl (cI, 36, .inl v_p0_row))]) X hP0 hD0 hS0 [2] rfl rfl rfl rfl (run_V (As := []) (rest := []) X hP0 hD0 hS0 [2] rfl rfl (mX2_clear l G cI cO a_p0 a_p0_row  s.heap.size v_p0_size v_p0_ploughed v_p0_steps  hf1) mv_X2_clear ml_X6_41 ⟨Nat.le_of_ble_eq_true rfl, Nat.le_of_ble_eq_true rfl⟩ rfl rfl 2 2 rfl rfl rfl rfl hl0.1 rfl (Nat.le_of_ble_eq_true rfl) ⟨Nat.zero_le _, Nat.zero_le _⟩ dX6_readFurrow_1) (fun H2 locs2 hP2 hD2 hS2 => ?_)
  clear hf1
  refine lv_aload_n hx hb dX6_readFurrow_4 rfl (lv_at hl0 1 rfl) ?_
  refine lv_aload_n hx hb dX6_readFurrow_5 rfl (lv_at hl0 0 rfl) ?_
  replace h := g_ob2 h
  obtain ⟨r3, v_place_3, hf3, h⟩ := h
  refine cal_i (wc := [(a_, .inr (5, [.ref a_typed, .int v_size, .int v_length, .int v_place, .long v_readGaps, .long v_readCorn])), (a_typed, .inl (cI, 80, .inl v_typed))]) (w1 := [(a_, .inr (5, [.ref a_typed, .int v_size, .int v_length, .int v_place_3, .long v_readGaps, .long v_readCorn])), (a_typed, .inl (cI, 80, .inl v_typed))]) (wn := [(a_, .inr (5, [.ref a_typed, .int v_size, .int v_length, .int v_place_3, .long v_readGaps, .long v_readCorn])), (a_typed, .inl (cI, 80, .inl v_typed)), (a_p0, .inr (2, [.ref a_p0_row, .int v_p0_size_1, .long v_p0_ploughed_1, .long v_p0_steps_1])), (a_p0_row, .inl (cI, 36, .inl v_p0_row))]) X hP2 hD2 hS2 [0, 1] rfl rfl rfl rfl (run_V (As := []) (rest := [.ref a_p0]) X hP2 hD2 hS2 [0, 1] rfl rfl (mX6_readSquare l G cI cO a_ a_typed  H2.size v_size v_length v_place v_readGaps v_readCorn v_typed  hf3) mv_X6_readSquare ml_X6_46 ⟨Nat.le_of_ble_eq_true rfl, Nat.le_of_ble_eq_true rfl⟩ rfl rfl 0 5 rfl rfl rfl rfl hl0.1 rfl (Nat.le_of_ble_eq_true rfl) ⟨Nat.zero_le _, Nat.zero_le _⟩ dX6_readFurrow_6) (fun H4 locs4 hP4 hD4 hS4 => ?_)
  clear hf3 hP2 hD2 hS2
  replace h := g_ob5 h
  obtain ⟨r5, v_p0_row_5, v_p0_size_5, v_p0_ploughed_5, v_p0_steps_5, hf5, h⟩ := h
  refine cal_i (wc := [(a_p0, .inr (2, [.ref a_p0_row, .int v_p0_size_1, .long v_p0_ploughed_1, .long v_p0_steps_1])), (a_p0_row, .inl (cI, 36, .inl v_p0_row))]) (w1 := [(a_p0, .inr (2, [.ref a_p0_row, .int v_p0_size_5, .long v_p0_ploughed_5, .long v_p0_steps_5])), (a_p0_row, .inl (cI, 36, .inl v_p0_row_5))]) (wn := [(a_, .inr (5, [.ref a_typed, .int v_size, .int v_length, .int v_place_3, .long v_readGaps, .long v_readCorn])), (a_typed, .inl (cI, 80, .inl v_typed)), (a_p0, .inr (2, [.ref a_p0_row, .int v_p0_size_5, .long v_p0_ploughed_5, .long v_p0_steps_5])), (a_p0_row, .inl (cI, 36, .inl v_p0_row_5))]) X hP4 hD4 hS4 [2, 3] rfl rfl rfl rfl (run_V (As := [.int r3]) (rest := []) X hP4 hD4 hS4 [2, 3] rfl rfl (mX2_add l G cI cO a_p0 a_p0_row  H4.size v_p0_size_1 v_p0_ploughed_1 v_p0_steps_1 v_p0_row r3 hf5) mv_X2_add ml_X6_50 ⟨Nat.le_of_ble_eq_true rfl, Nat.le_of_ble_eq_true rfl⟩ rfl rfl 2 2 rfl rfl rfl rfl hl0.1 rfl (Nat.le_of_ble_eq_true rfl) ⟨Nat.zero_le _, Nat.zero_le _⟩ dX6_readFurrow_9) (fun H6 locs6 hP6 hD6 hS6 => ?_)
  clear hf5 hP4 hD4 hS4
  refine lv_if_ne (tgt := 20) hx hb dX6_readFurrow_12 (by decide) (fun hc => ?_) (fun hc => ?_)
  · replace h := t_neg h hc
    clear hc
    refine lv_iconst (v := (0 : Int32)) hx hb dX6_readFurrow_20 (by decide) ?_
    refine lv_istore_n (lv' := [(2, .int (0 : Int32)), (0, .ref a_), (1, .ref a_p0)]) hx hb dX6_readFurrow_21 rfl hl0 (by decide) rfl (fun ls7 hl7 => ?_)
    exact bX6_readFurrow_22 X 4000 v_place_3 v_p0_row_5 v_p0_size_5 v_p0_ploughed_5 v_p0_steps_5 (0 : Int32) H6 locs6 hP6 hD6 hS6 ls7 (lv_sub hl7 [1, 2, 0] rfl) h
  · replace h := t_pos h hc
    clear hc
    refine lv_aload_n hx hb dX6_readFurrow_15 rfl (lv_at hl0 0 rfl) ?_
    replace h := g_ob1 h
    obtain ⟨r8, hf8, h⟩ := h
    refine cal_i (wc := [(a_, .inr (5, [.ref a_typed, .int v_size, .int v_length, .int v_place_3, .long v_readGaps, .long v_readCorn]))]) (w1 := [(a_, .inr (5, [.ref a_typed, .int v_size, .int v_length, .int v_place_3, .long v_readGaps, .long v_readCorn]))]) (wn := [(a_, .inr (5, [.ref a_typed, .int v_size, .int v_length, .int v_place_3, .long v_readGaps, .long v_readCorn])), (a_typed, .inl (cI, 80, .inl v_typed)), (a_p0, .inr (2, [.ref a_p0_row, .int v_p0_size_5, .long v_p0_ploughed_5, .long v_p0_steps_5])), (a_p0_row, .inl (cI, 36, .inl v_p0_row_5))]) X hP6 hD6 hS6 [0] rfl rfl rfl rfl (run_V (As := []) (rest := []) X hP6 hD6 hS6 [0] rfl rfl (mX6_fault l G cI cO a_ a_typed  H6.size v_size v_length v_place_3 v_readGaps v_readCorn  hf8) mv_X6_fault ml_X6_54 ⟨Nat.le_of_ble_eq_true rfl, Nat.le_of_ble_eq_true rfl⟩ rfl rfl 0 5 rfl rfl rfl rfl hl0.1 rfl (Nat.le_of_ble_eq_true rfl) ⟨Nat.zero_le _, Nat.zero_le _⟩ dX6_readFurrow_16) (fun H9 locs9 hP9 hD9 hS9 => ?_)
    clear hf8 hP6 hD6 hS6
    obtain ⟨ez0, ez1, ez2, ez3, ez4, ez5⟩ := r_eq6 h
    subst ez0; subst ez1; subst ez2; subst ez3; subst ez4; subst ez5
    exact ret_i X hP9 hS9 dX6_readFurrow_19
/-! PloughMaze$Tape.readPart -/
abbrev rmX6_readPart : Room := { frames := 3, cells := 0, slots := 0, locals := 63 }
def SX6_readPart_103 (p : Program) (l : Launch) (e : Env) (s : State) (m : MethodId) (args : Array Value) (below : List Frame) (meth : Method) (c : Code) (G : va_G) (cI cO : ClassId) (A : Nat → Prop) (a_ a_typed : Nat) (v_size : Int32) (v_length : Int32) (v_typed : Nat → Int32) (ret : Int32) (o_place : Int32) (o_readGaps : Int64) (o_readCorn : Int64) (k : Int32 → Int64 → Int64 → Option (Int32 × Int32 × Int64 × Int64)) : Prop := ∀ (v_place : Int32) (v_readGaps : Int64) (v_readCorn : Int64) (H : Heap) (locs : List Loc), va_P G vwCl [(a_, .inr (5, [.ref a_typed, .int v_size, .int v_length, .int v_place, .long v_readGaps, .long v_readCorn])), (a_typed, .inl (cI, 80, .inl v_typed))] H → va_D A [(a_, .inr (5, [.ref a_typed, .int v_size, .int v_length, .int v_place, .long v_readGaps, .long v_readCorn])), (a_typed, .inl (cI, 80, .inl v_typed))] → va_S A s.heap H locs → ∀ (ls : Array Slot), lv_has ls 4 [(0, .ref a_)] → k v_place v_readGaps v_readCorn = some (ret, o_place, o_readGaps, o_readCorn) → W p l e rmX6_readPart s m args below meth c H locs 0 0 (MQ below (QcI G A ret [(a_, .inr (5, [.ref a_typed, .int v_size, .int v_length, .int o_place, .long o_readGaps, .long o_readCorn])), (a_typed, .inl (cI, 80, .inl v_typed))]) args s 0 0 A) (F0 m 103 ls [])
def SX6_readPart_68 (p : Program) (l : Launch) (e : Env) (s : State) (m : MethodId) (args : Array Value) (below : List Frame) (meth : Method) (c : Code) (G : va_G) (cI cO : ClassId) (A : Nat → Prop) (a_ a_typed : Nat) (v_size : Int32) (v_length : Int32) (v_typed : Nat → Int32) (ret : Int32) (o_place : Int32) (o_readGaps : Int64) (o_readCorn : Int64) (k : Int32 → Int64 → Int64 → Int64 → Option (Int32 × Int32 × Int64 × Int64)) : Prop := ∀ (v_place : Int32) (v_readGaps : Int64) (v_readCorn : Int64) (x2 : Int64) (H : Heap) (locs : List Loc), va_P G vwCl [(a_, .inr (5, [.ref a_typed, .int v_size, .int v_length, .int v_place, .long v_readGaps, .long v_readCorn])), (a_typed, .inl (cI, 80, .inl v_typed))] H → va_D A [(a_, .inr (5, [.ref a_typed, .int v_size, .int v_length, .int v_place, .long v_readGaps, .long v_readCorn])), (a_typed, .inl (cI, 80, .inl v_typed))] → va_S A s.heap H locs → ∀ (ls : Array Slot), lv_has ls 4 [(0, .ref a_), (2, .long x2)] → k v_place v_readGaps v_readCorn x2 = some (ret, o_place, o_readGaps, o_readCorn) → W p l e rmX6_readPart s m args below meth c H locs 0 0 (MQ below (QcI G A ret [(a_, .inr (5, [.ref a_typed, .int v_size, .int v_length, .int o_place, .long o_readGaps, .long o_readCorn])), (a_typed, .inl (cI, 80, .inl v_typed))]) args s 0 0 A) (F0 m 68 ls [])
set_option maxHeartbeats 4000000 in
set_option maxRecDepth 100000 in
theorem bX6_readPart_103 {p : Program} {l : Launch} {e : Env} {s : State} {m : MethodId} {args : Array Value} {below : List Frame} {meth : Method} {c : Code} {G : va_G} {cI cO : ClassId} {A : Nat → Prop} {a_ a_typed : Nat} {v_size : Int32} {v_length : Int32} {v_typed : Nat → Int32} {ret : Int32} {o_place : Int32} {o_readGaps : Int64} {o_readCorn : Int64} (X : BX p rmX6_readPart s m args meth c cX6_readPart 4 (some .boolean) RX6 G cI cO A) : SX6_readPart_103 p l e s m args below meth c G cI cO A a_ a_typed v_size v_length v_typed ret o_place o_readGaps o_readCorn (fX6_readPart_103 v_typed v_length) := by
  intro v_place v_readGaps v_readCorn H0 locs0 hP0 hD0 hS0 ls0 hl0 h
  unfold fX6_readPart_103 at h
  obtain ⟨hx, hb, hml, hr, hown, hts, hlocks, hK, hN, hA, hZ⟩ := id X
  refine lv_aload_n hx hb dX6_readPart_103 rfl (lv_at hl0 0 rfl) ?_
  replace h := g_ob1 h
  obtain ⟨v_place_1, hf1, h⟩ := h
  refine cal_v (wc := [(a_, .inr (5, [.ref a_typed, .int v_size, .int v_length, .int v_place, .long v_readGaps, .long v_readCorn])), (a_typed, .inl (cI, 80, .inl v_typed))]) (w1 := [(a_, .inr (5, [.ref a_typed, .int v_size, .int v_length, .int v_place_1, .long v_readGaps, .long v_readCorn])), (a_typed, .inl (cI, 80, .inl v_typed))]) (wn := [(a_, .inr (5, [.ref a_typed, .int v_size, .int v_length, .int v_place_1, .long v_readGaps, .long v_readCorn])), (a_typed, .inl (cI, 80, .inl v_typed))]) X hP0 hD0 hS0 [0, 1] rfl rfl rfl rfl (run_V (As := []) (rest := []) X hP0 hD0 hS0 [0, 1] rfl rfl (mX6_advance l G cI cO a_ a_typed  H0.size v_size v_length v_place v_readGaps v_readCorn v_typed  hf1) mv_X6_advance ml_X6_38 ⟨Nat.le_of_ble_eq_true rfl, Nat.le_of_ble_eq_true rfl⟩ rfl rfl 0 5 rfl rfl rfl rfl hl0.1 rfl (Nat.le_of_ble_eq_true rfl) ⟨Nat.zero_le _, Nat.zero_le _⟩ dX6_readPart_104) (fun H2 locs2 hP2 hD2 hS2 => ?_)
  clear hf1
  refine lv_iconst (v := (1 : Int32)) hx hb dX6_readPart_107 (by decide) ?_
  obtain ⟨ez0, ez1, ez2, ez3⟩ := r_eq4 h
  subst ez0; subst ez1; subst ez2; subst ez3
  exact ret_z X hP2 hS2 rfl dX6_readPart_108
set_option maxHeartbeats 4000000 in
set_option maxRecDepth 100000 in
theorem bX6_readPart_68 {p : Program} {l : Launch} {e : Env} {s : State} {m : MethodId} {args : Array Value} {below : List Frame} {meth : Method} {c : Code} {G : va_G} {cI cO : ClassId} {A : Nat → Prop} {a_ a_typed : Nat} {v_size : Int32} {v_length : Int32} {v_typed : Nat → Int32} {ret : Int32} {o_place : Int32} {o_readGaps : Int64} {o_readCorn : Int64} (X : BX p rmX6_readPart s m args meth c cX6_readPart 4 (some .boolean) RX6 G cI cO A) : SX6_readPart_68 p l e s m args below meth c G cI cO A a_ a_typed v_size v_length v_typed ret o_place o_readGaps o_readCorn (fX6_readPart_68 v_typed v_length) := by
  intro v_place v_readGaps v_readCorn x2 H0 locs0 hP0 hD0 hS0 ls0 hl0 h
  unfold fX6_readPart_68 at h
  obtain ⟨hx, hb, hml, hr, hown, hts, hlocks, hK, hN, hA, hZ⟩ := id X
  refine lv_aload_n hx hb dX6_readPart_68 rfl (lv_at hl0 0 rfl) ?_
  replace h := g_ob1 h
  obtain ⟨r1, hf1, h⟩ := h
  refine cal_i (wc := [(a_, .inr (5, [.ref a_typed, .int v_size, .int v_length, .int v_place, .long v_readGaps, .long v_readCorn])), (a_typed, .inl (cI, 80, .inl v_typed))]) (w1 := [(a_, .inr (5, [.ref a_typed, .int v_size, .int v_length, .int v_place, .long v_readGaps, .long v_readCorn])), (a_typed, .inl (cI, 80, .inl v_typed))]) (wn := [(a_, .inr (5, [.ref a_typed, .int v_size, .int v_length, .int v_place, .long v_readGaps, .long v_readCorn])), (a_typed, .inl (cI, 80, .inl v_typed))]) X hP0 hD0 hS0 [0, 1] rfl rfl rfl rfl (run_V (As := []) (rest := []) X hP0 hD0 hS0 [0, 1] rfl rfl (mX6_letter l G cI cO a_ a_typed  H0.size v_size v_length v_place v_readGaps v_readCorn v_typed  hf1) mv_X6_letter ml_X6_57 ⟨Nat.le_of_ble_eq_true rfl, Nat.le_of_ble_eq_true rfl⟩ rfl rfl 0 5 rfl rfl rfl rfl hl0.1 rfl (Nat.le_of_ble_eq_true rfl) ⟨Nat.zero_le _, Nat.zero_le _⟩ dX6_readPart_69) (fun H2 locs2 hP2 hD2 hS2 => ?_)
  clear hf1
  refine lv_bipush (v := (45 : Int32)) hx hb dX6_readPart_72 (by decide) ?_
  refine lv_icmp_ne (tgt := 101) hx hb dX6_readPart_74 (by decide) (fun hc => ?_) (fun hc => ?_)
  · replace h := t_neg h hc
    clear hc
    refine lv_iconst (v := (0 : Int32)) hx hb dX6_readPart_101 (by decide) ?_
    obtain ⟨ez0, ez1, ez2, ez3⟩ := r_eq4 h
    subst ez0; subst ez1; subst ez2; subst ez3
    exact ret_z X hP2 hS2 rfl dX6_readPart_102
  · replace h := t_pos h hc
    clear hc
    refine lv_aload_n hx hb dX6_readPart_77 rfl (lv_at hl0 0 rfl) ?_
    refine va_get (D := G) (ci := 5) (v := .long v_readGaps) (C := RX6) (T := TX6) (N := 6) hx hb hts gwX6 hown hK hP2 0 rfl rfl 4 (by decide) (hts _ fl_X6_25) (fun _ h9 => h9) rfl dX6_readPart_78 ?_
    refine lv_lload_n hx hb dX6_readPart_81 rfl (lv_at hl0 1 rfl) ?_
    refine lv_land hx hb dX6_readPart_82 ?_
    refine lv_lconst (v := (0 : Int64)) hx hb dX6_readPart_83 (by decide) ?_
    refine W.lcmp hx hb dX6_readPart_84 ?_
    refine lv_if_ne (tgt := 101) hx hb dX6_readPart_85 (by decide) (fun hc => ?_) (fun hc => ?_)
    · replace h := t_neg h hc
      clear hc
      refine lv_iconst (v := (0 : Int32)) hx hb dX6_readPart_101 (by decide) ?_
      obtain ⟨ez0, ez1, ez2, ez3⟩ := r_eq4 h
      subst ez0; subst ez1; subst ez2; subst ez3
      exact ret_z X hP2 hS2 rfl dX6_readPart_102
    · replace h := t_pos h hc
      clear hc
      refine lv_aload_n hx hb dX6_readPart_88 rfl (lv_at hl0 0 rfl) ?_
      refine lv_dup hx hb dX6_readPart_89 rfl ?_
      refine va_get (D := G) (ci := 5) (v := .long v_readCorn) (C := RX6) (T := TX6) (N := 6) hx hb hts gwX6 hown hK hP2 0 rfl rfl 5 (by decide) (hts _ fl_X6_29) (fun _ h9 => h9) rfl dX6_readPart_90 ?_
      refine lv_lload_n hx hb dX6_readPart_93 rfl (lv_at hl0 1 rfl) ?_
      refine lv_lor hx hb dX6_readPart_94 ?_
      refine lv_topl (fun y3 ey3 => ?_)
      replace h := g_let h ey3
      clear ey3
      refine va_put (D := G) (ci := 5) (v := .long y3) (ty := .long) (C := RX6) (T := TX6) (N := 6) hx hb hts gwX6 tyX6 tyX6_ok nmX6 hown hK hP2 hD2 hS2 0 rfl rfl 5 (by decide) (hts _ fl_X6_29) (fun _ h9 => h9) rfl (by decide +kernel) rfl rfl (Nat.le_of_ble_eq_true rfl) dX6_readPart_95 (fun H4 locs4 hP4 hD4 hS4 => ?_)
      replace hP4 : va_P G vwCl [(a_, .inr (5, [.ref a_typed, .int v_size, .int v_length, .int v_place, .long v_readGaps, .long y3])), (a_typed, .inl (cI, 80, .inl v_typed))] H4 := hP4
      replace hD4 : va_D A [(a_, .inr (5, [.ref a_typed, .int v_size, .int v_length, .int v_place, .long v_readGaps, .long y3])), (a_typed, .inl (cI, 80, .inl v_typed))] := hD4
      clear hP2 hD2 hS2
      refine lv_goto (tgt := 103) hx hb dX6_readPart_98 (by decide) ?_
      exact bX6_readPart_103 X v_place v_readGaps y3 H4 locs4 hP4 hD4 hS4 ls0 (lv_sub hl0 [0] rfl) h
set_option maxHeartbeats 4000000 in
set_option maxRecDepth 100000 in
theorem mX6_readPart (l : Launch) (G : va_G) (cI cO : ClassId) (a_ a_typed : Nat) (sz : Nat) (v_size : Int32) (v_length : Int32) (v_place : Int32) (v_readGaps : Int64) (v_readCorn : Int64) (v_typed : Nat → Int32)  {ret : Int32} {o_place : Int32} {o_readGaps : Int64} {o_readCorn : Int64} (h : fX6_readPart v_typed v_length v_place v_readGaps v_readCorn = some (ret, o_place, o_readGaps, o_readCorn)) : Met l yX6_readPart (wsM yX6_readPart cX6_readPart 4 (some .boolean)) rmX6_readPart (va_Pc [.ref a_] (preW G cI cO sz [(a_, .inr (5, [.ref a_typed, .int v_size, .int v_length, .int v_place, .long v_readGaps, .long v_readCorn])), (a_typed, .inl (cI, 80, .inl v_typed))])) (QcI G (va_A [(a_, .inr (5, [.ref a_typed, .int v_size, .int v_length, .int v_place, .long v_readGaps, .long v_readCorn])), (a_typed, .inl (cI, 80, .inl v_typed))] sz) ret [(a_, .inr (5, [.ref a_typed, .int v_size, .int v_length, .int o_place, .long o_readGaps, .long o_readCorn])), (a_typed, .inl (cI, 80, .inl v_typed))]) 0 0 (va_A [(a_, .inr (5, [.ref a_typed, .int v_size, .int v_length, .int v_place, .long v_readGaps, .long v_readCorn])), (a_typed, .inl (cI, 80, .inl v_typed))] sz) := by
  refine mkMet (own := RX6) (by decide) rfl (Nat.le_of_ble_eq_true rfl) ?_
  intro p e s m args below meth c _ hsz _ X hP0 hD0 ls0 hl0
  have hS0 : va_S (va_A [(a_, .inr (5, [.ref a_typed, .int v_size, .int v_length, .int v_place, .long v_readGaps, .long v_readCorn])), (a_typed, .inl (cI, 80, .inl v_typed))] sz) s.heap s.heap [] := va_S.rf
  replace hl0 : lv_has ls0 4 [(0, .ref a_)] := hl0
  generalize va_A [(a_, .inr (5, [.ref a_typed, .int v_size, .int v_length, .int v_place, .long v_readGaps, .long v_readCorn])), (a_typed, .inl (cI, 80, .inl v_typed))] sz = A at X hD0 hS0 ⊢
  unfold fX6_readPart at h
  obtain ⟨hx, hb, hml, hr, hown, hts, hlocks, hK, hN, hA, hZ⟩ := id X
  refine lv_aload_n hx hb dX6_readPart_0 rfl (lv_at hl0 0 rfl) ?_
  replace h := g_ob2 h
  obtain ⟨r1, v_place_1, hf1, h⟩ := h
  refine cal_i (wc := [(a_, .inr (5, [.ref a_typed, .int v_size, .int v_length, .int v_place, .long v_readGaps, .long v_readCorn])), (a_typed, .inl (cI, 80, .inl v_typed))]) (w1 := [(a_, .inr (5, [.ref a_typed, .int v_size, .int v_length, .int v_place_1, .long v_readGaps, .long v_readCorn])), (a_typed, .inl (cI, 80, .inl v_typed))]) (wn := [(a_, .inr (5, [.ref a_typed, .int v_size, .int v_length, .int v_place_1, .long v_readGaps, .long v_readCorn])), (a_typed, .inl (cI, 80, .inl v_typed))]) X hP0 hD0 hS0 [0, 1] rfl rfl rfl rfl (run_V (As := []) (rest := []) X hP0 hD0 hS0 [0, 1] rfl rfl (mX6_readSquare l G cI cO a_ a_typed  s.heap.size v_size v_length v_place v_readGaps v_readCorn v_typed  hf1) mv_X6_readSquare ml_X6_46 ⟨Nat.le_of_ble_eq_true rfl, Nat.le_of_ble_eq_true rfl⟩ rfl rfl 0 5 rfl rfl rfl rfl hl0.1 rfl (Nat.le_of_ble_eq_true rfl) ⟨Nat.zero_le _, Nat.zero_le _⟩ dX6_readPart_1) (fun H2 locs2 hP2 hD2 hS2 => ?_)
  clear hf1
  refine lv_istore_n (lv' := [(1, .int r1), (0, .ref a_)]) hx hb dX6_readPart_4 rfl hl0 (by decide) rfl (fun ls3 hl3 => ?_)
  refine lv_iload_n hx hb dX6_readPart_5 rfl (lv_at hl3 0 rfl) ?_
  refine lv_if_ge (tgt := 11) hx hb dX6_readPart_6 (by decide) (fun hc => ?_) (fun hc => ?_)
  · replace h := t_pos h hc
    clear hc
    refine lv_iload_n hx hb dX6_readPart_11 rfl (lv_at hl3 0 rfl) ?_
    refine lv_aload_n hx hb dX6_readPart_12 rfl (lv_at hl3 1 rfl) ?_
    replace h := g_ob1 h
    obtain ⟨r4, hf4, h⟩ := h
    refine cal_i (wc := [(a_, .inr (5, [.ref a_typed, .int v_size, .int v_length, .int v_place_1, .long v_readGaps, .long v_readCorn])), (a_typed, .inl (cI, 80, .inl v_typed))]) (w1 := [(a_, .inr (5, [.ref a_typed, .int v_size, .int v_length, .int v_place_1, .long v_readGaps, .long v_readCorn])), (a_typed, .inl (cI, 80, .inl v_typed))]) (wn := [(a_, .inr (5, [.ref a_typed, .int v_size, .int v_length, .int v_place_1, .long v_readGaps, .long v_readCorn])), (a_typed, .inl (cI, 80, .inl v_typed))]) X hP2 hD2 hS2 [0, 1] rfl rfl rfl rfl (run_V (As := []) (rest := [.int r1]) X hP2 hD2 hS2 [0, 1] rfl rfl (mX6_letter l G cI cO a_ a_typed  H2.size v_size v_length v_place_1 v_readGaps v_readCorn v_typed  hf4) mv_X6_letter ml_X6_57 ⟨Nat.le_of_ble_eq_true rfl, Nat.le_of_ble_eq_true rfl⟩ rfl rfl 0 5 rfl rfl rfl rfl hl3.1 rfl (Nat.le_of_ble_eq_true rfl) ⟨Nat.zero_le _, Nat.zero_le _⟩ dX6_readPart_13) (fun H5 locs5 hP5 hD5 hS5 => ?_)
    clear hf4 hP2 hD2 hS2
    replace h := g_ob1 h
    obtain ⟨r6, hf6, h⟩ := h
    refine cal_i (wc := []) (w1 := []) (wn := [(a_, .inr (5, [.ref a_typed, .int v_size, .int v_length, .int v_place_1, .long v_readGaps, .long v_readCorn])), (a_typed, .inl (cI, 80, .inl v_typed))]) X hP5 hD5 hS5 [] rfl rfl rfl rfl (run_S (As := [.int r4]) (rest := [.int r1]) X hP5 hD5 hS5 [] rfl rfl (mX3_sideOfLetter l G cI cO   H5.size  r4 hf6) ms_X3_sideOfLetter ml_X6_60 ⟨Nat.le_of_ble_eq_true rfl, Nat.le_of_ble_eq_true rfl⟩ rfl rfl rfl hl3.1 rfl (Nat.le_of_ble_eq_true rfl) ⟨Nat.zero_le _, Nat.zero_le _⟩ dX6_readPart_16) (fun H7 locs7 hP7 hD7 hS7 => ?_)
    clear hf6 hP5 hD5 hS5
    replace h := g_ob1 h
    obtain ⟨r8, hf8, h⟩ := h
    refine cal_l (wc := []) (w1 := []) (wn := [(a_, .inr (5, [.ref a_typed, .int v_size, .int v_length, .int v_place_1, .long v_readGaps, .long v_readCorn])), (a_typed, .inl (cI, 80, .inl v_typed))]) X hP7 hD7 hS7 [] rfl rfl rfl rfl (run_S (As := [.int r1, .int r6]) (rest := []) X hP7 hD7 hS7 [] rfl rfl (mX3_edge l G cI cO   H7.size  r1 r6 hf8) ms_X3_edge ml_X6_78 ⟨Nat.le_of_ble_eq_true rfl, Nat.le_of_ble_eq_true rfl⟩ rfl rfl rfl hl3.1 rfl (Nat.le_of_ble_eq_true rfl) ⟨Nat.zero_le _, Nat.zero_le _⟩ dX6_readPart_19) (fun H9 locs9 hP9 hD9 hS9 => ?_)
    clear hf8 hP7 hD7 hS7
    refine lv_lstore_n (lv' := [(2, .long r8), (1, .int r1), (0, .ref a_)]) hx hb dX6_readPart_22 rfl hl3 (by decide) rfl (fun ls10 hl10 => ?_)
    clear hl3
    refine lv_lload_n hx hb dX6_readPart_23 rfl (lv_at hl10 0 rfl) ?_
    refine lv_lconst (v := (0 : Int64)) hx hb dX6_readPart_24 (by decide) ?_
    refine W.lcmp hx hb dX6_readPart_25 ?_
    refine lv_if_ne (tgt := 31) hx hb dX6_readPart_26 (by decide) (fun hc => ?_) (fun hc => ?_)
    · replace h := t_neg h hc
      clear hc
      refine lv_aload_n hx hb dX6_readPart_31 rfl (lv_at hl10 2 rfl) ?_
      replace h := g_ob1 h
      obtain ⟨v_place_11, hf11, h⟩ := h
      refine cal_v (wc := [(a_, .inr (5, [.ref a_typed, .int v_size, .int v_length, .int v_place_1, .long v_readGaps, .long v_readCorn])), (a_typed, .inl (cI, 80, .inl v_typed))]) (w1 := [(a_, .inr (5, [.ref a_typed, .int v_size, .int v_length, .int v_place_11, .long v_readGaps, .long v_readCorn])), (a_typed, .inl (cI, 80, .inl v_typed))]) (wn := [(a_, .inr (5, [.ref a_typed, .int v_size, .int v_length, .int v_place_11, .long v_readGaps, .long v_readCorn])), (a_typed, .inl (cI, 80, .inl v_typed))]) X hP9 hD9 hS9 [0, 1] rfl rfl rfl rfl (run_V (As := []) (rest := []) X hP9 hD9 hS9 [0, 1] rfl rfl (mX6_advance l G cI cO a_ a_typed  H9.size v_size v_length v_place_1 v_readGaps v_readCorn v_typed  hf11) mv_X6_advance ml_X6_38 ⟨Nat.le_of_ble_eq_true rfl, Nat.le_of_ble_eq_true rfl⟩ rfl rfl 0 5 rfl rfl rfl rfl hl10.1 rfl (Nat.le_of_ble_eq_true rfl) ⟨Nat.zero_le _, Nat.zero_le _⟩ dX6_readPart_32) (fun H12 locs12 hP12 hD12 hS12 => ?_)
      clear hf11 hP9 hD9 hS9
      refine lv_aload_n hx hb dX6_readPart_35 rfl (lv_at hl10 2 rfl) ?_
      replace h := g_ob1 h
      obtain ⟨r13, hf13, h⟩ := h
      refine cal_i (wc := [(a_, .inr (5, [.ref a_typed, .int v_size, .int v_length, .int v_place_11, .long v_readGaps, .long v_readCorn])), (a_typed, .inl (cI, 80, .inl v_typed))]) (w1 := [(a_, .inr (5, [.ref a_typed, .int v_size, .int v_length, .int v_place_11, .long v_readGaps, .long v_readCorn])), (a_typed, .inl (cI, 80, .inl v_typed))]) (wn := [(a_, .inr (5, [.ref a_typed, .int v_size, .int v_length, .int v_place_11, .long v_readGaps, .long v_readCorn])), (a_typed, .inl (cI, 80, .inl v_typed))]) X hP12 hD12 hS12 [0, 1] rfl rfl rfl rfl (run_V (As := []) (rest := []) X hP12 hD12 hS12 [0, 1] rfl rfl (mX6_letter l G cI cO a_ a_typed  H12.size v_size v_length v_place_11 v_readGaps v_readCorn v_typed  hf13) mv_X6_letter ml_X6_57 ⟨Nat.le_of_ble_eq_true rfl, Nat.le_of_ble_eq_true rfl⟩ rfl rfl 0 5 rfl rfl rfl rfl hl10.1 rfl (Nat.le_of_ble_eq_true rfl) ⟨Nat.zero_le _, Nat.zero_le _⟩ dX6_readPart_36) (fun H14 locs14 hP14 hD14 hS14 => ?_)
      clear hf13 hP12 hD12 hS12
      refine lv_bipush (v := (43 : Int32)) hx hb dX6_readPart_39 (by decide) ?_
      refine lv_icmp_ne (tgt := 68) hx hb dX6_readPart_41 (by decide) (fun hc => ?_) (fun hc => ?_)
      · replace h := t_neg h hc
        clear hc
        exact bX6_readPart_68 X v_place_11 v_readGaps v_readCorn r8 H14 locs14 hP14 hD14 hS14 ls10 (lv_sub hl10 [2, 0] rfl) h
      · replace h := t_pos h hc
        clear hc
        refine lv_aload_n hx hb dX6_readPart_44 rfl (lv_at hl10 2 rfl) ?_
        refine va_get (D := G) (ci := 5) (v := .long v_readCorn) (C := RX6) (T := TX6) (N := 6) hx hb hts gwX6 hown hK hP14 0 rfl rfl 5 (by decide) (hts _ fl_X6_29) (fun _ h9 => h9) rfl dX6_readPart_45 ?_
        refine lv_lload_n hx hb dX6_readPart_48 rfl (lv_at hl10 0 rfl) ?_
        refine lv_land hx hb dX6_readPart_49 ?_
        refine lv_lconst (v := (0 : Int64)) hx hb dX6_readPart_50 (by decide) ?_
        refine W.lcmp hx hb dX6_readPart_51 ?_
        refine lv_if_ne (tgt := 68) hx hb dX6_readPart_52 (by decide) (fun hc => ?_) (fun hc => ?_)
        · replace h := t_neg h hc
          clear hc
          exact bX6_readPart_68 X v_place_11 v_readGaps v_readCorn r8 H14 locs14 hP14 hD14 hS14 ls10 (lv_sub hl10 [2, 0] rfl) h
        · replace h := t_pos h hc
          clear hc
          refine lv_aload_n hx hb dX6_readPart_55 rfl (lv_at hl10 2 rfl) ?_
          refine lv_dup hx hb dX6_readPart_56 rfl ?_
          refine va_get (D := G) (ci := 5) (v := .long v_readGaps) (C := RX6) (T := TX6) (N := 6) hx hb hts gwX6 hown hK hP14 0 rfl rfl 4 (by decide) (hts _ fl_X6_25) (fun _ h9 => h9) rfl dX6_readPart_57 ?_
          refine lv_lload_n hx hb dX6_readPart_60 rfl (lv_at hl10 0 rfl) ?_
          refine lv_lor hx hb dX6_readPart_61 ?_
          refine lv_topl (fun y15 ey15 => ?_)
          replace h := g_let h ey15
          clear ey15
          refine va_put (D := G) (ci := 5) (v := .long y15) (ty := .long) (C := RX6) (T := TX6) (N := 6) hx hb hts gwX6 tyX6 tyX6_ok nmX6 hown hK hP14 hD14 hS14 0 rfl rfl 4 (by decide) (hts _ fl_X6_25) (fun _ h9 => h9) rfl (by decide +kernel) rfl rfl (Nat.le_of_ble_eq_true rfl) dX6_readPart_62 (fun H16 locs16 hP16 hD16 hS16 => ?_)
          replace hP16 : va_P G vwCl [(a_, .inr (5, [.ref a_typed, .int v_size, .int v_length, .int v_place_11, .long y15, .long v_readCorn])), (a_typed, .inl (cI, 80, .inl v_typed))] H16 := hP16
          replace hD16 : va_D A [(a_, .inr (5, [.ref a_typed, .int v_size, .int v_length, .int v_place_11, .long y15, .long v_readCorn])), (a_typed, .inl (cI, 80, .inl v_typed))] := hD16
          clear hP14 hD14 hS14
          refine lv_goto (tgt := 103) hx hb dX6_readPart_65 (by decide) ?_
          exact bX6_readPart_103 X v_place_11 y15 v_readCorn H16 locs16 hP16 hD16 hS16 ls10 (lv_sub hl10 [2] rfl) h
    · replace h := t_pos h hc
      clear hc
      refine lv_iconst (v := (0 : Int32)) hx hb dX6_readPart_29 (by decide) ?_
      obtain ⟨ez0, ez1, ez2, ez3⟩ := r_eq4 h
      subst ez0; subst ez1; subst ez2; subst ez3
      exact ret_z X hP9 hS9 rfl dX6_readPart_30
  · replace h := t_neg h hc
    clear hc
    refine lv_iconst (v := (0 : Int32)) hx hb dX6_readPart_9 (by decide) ?_
    obtain ⟨ez0, ez1, ez2, ez3⟩ := r_eq4 h
    subst ez0; subst ez1; subst ez2; subst ez3
    exact ret_z X hP2 hS2 rfl dX6_readPart_10
/-! PloughMaze$Tape.readSeen -/
abbrev rmX6_readSeen : Room := { frames := 4, cells := 0, slots := 0, locals := 86 }
def SX6_readSeen_58 (p : Program) (l : Launch) (e : Env) (s : State) (m : MethodId) (args : Array Value) (below : List Frame) (meth : Method) (c : Code) (G : va_G) (cI cO : ClassId) (A : Nat → Prop) (a_ a_typed : Nat) (v_size : Int32) (v_length : Int32) (v_typed : Nat → Int32) (ret : Int32) (o_place : Int32) (o_readGaps : Int64) (o_readCorn : Int64) (k : Int32 → Int64 → Int64 → Option (Int32 × Int32 × Int64 × Int64)) : Prop := ∀ (v_place : Int32) (v_readGaps : Int64) (v_readCorn : Int64) (H : Heap) (locs : List Loc), va_P G vwCl [(a_, .inr (5, [.ref a_typed, .int v_size, .int v_length, .int v_place, .long v_readGaps, .long v_readCorn])), (a_typed, .inl (cI, 80, .inl v_typed))] H → va_D A [(a_, .inr (5, [.ref a_typed, .int v_size, .int v_length, .int v_place, .long v_readGaps, .long v_readCorn])), (a_typed, .inl (cI, 80, .inl v_typed))] → va_S A s.heap H locs → ∀ (ls : Array Slot), lv_has ls 2 [(0, .ref a_)] → k v_place v_readGaps v_readCorn = some (ret, o_place, o_readGaps, o_readCorn) → W p l e rmX6_readSeen s m args below meth c H locs 0 0 (MQ below (QcI G A ret [(a_, .inr (5, [.ref a_typed, .int v_size, .int v_length, .int o_place, .long o_readGaps, .long o_readCorn])), (a_typed, .inl (cI, 80, .inl v_typed))]) args s 0 0 A) (F0 m 58 ls [])
def SX6_readSeen_12 (p : Program) (l : Launch) (e : Env) (s : State) (m : MethodId) (args : Array Value) (below : List Frame) (meth : Method) (c : Code) (G : va_G) (cI cO : ClassId) (A : Nat → Prop) (a_ a_typed : Nat) (v_size : Int32) (v_length : Int32) (v_typed : Nat → Int32) (ret : Int32) (o_place : Int32) (o_readGaps : Int64) (o_readCorn : Int64) (k : Int32 → Int64 → Int64 → Int32 → Option (Int32 × Int32 × Int64 × Int64)) : Prop := ∀ (v_place : Int32) (v_readGaps : Int64) (v_readCorn : Int64) (x1 : Int32) (H : Heap) (locs : List Loc), va_P G vwCl [(a_, .inr (5, [.ref a_typed, .int v_size, .int v_length, .int v_place, .long v_readGaps, .long v_readCorn])), (a_typed, .inl (cI, 80, .inl v_typed))] H → va_D A [(a_, .inr (5, [.ref a_typed, .int v_size, .int v_length, .int v_place, .long v_readGaps, .long v_readCorn])), (a_typed, .inl (cI, 80, .inl v_typed))] → va_S A s.heap H locs → ∀ (ls : Array Slot), lv_has ls 2 [(0, .ref a_), (1, .int x1)] → k v_place v_readGaps v_readCorn x1 = some (ret, o_place, o_readGaps, o_readCorn) → W p l e rmX6_readSeen s m args below meth c H locs 0 0 (MQ below (QcI G A ret [(a_, .inr (5, [.ref a_typed, .int v_size, .int v_length, .int o_place, .long o_readGaps, .long o_readCorn])), (a_typed, .inl (cI, 80, .inl v_typed))]) args s 0 0 A) (F0 m 12 ls [])
set_option maxHeartbeats 4000000 in
set_option maxRecDepth 100000 in
theorem bX6_readSeen_58 {p : Program} {l : Launch} {e : Env} {s : State} {m : MethodId} {args : Array Value} {below : List Frame} {meth : Method} {c : Code} {G : va_G} {cI cO : ClassId} {A : Nat → Prop} {a_ a_typed : Nat} {v_size : Int32} {v_length : Int32} {v_typed : Nat → Int32} {ret : Int32} {o_place : Int32} {o_readGaps : Int64} {o_readCorn : Int64} (X : BX p rmX6_readSeen s m args meth c cX6_readSeen 2 (some .int) RX6 G cI cO A) : SX6_readSeen_58 p l e s m args below meth c G cI cO A a_ a_typed v_size v_length v_typed ret o_place o_readGaps o_readCorn fX6_readSeen_58 := by
  intro v_place v_readGaps v_readCorn H0 locs0 hP0 hD0 hS0 ls0 hl0 h
  unfold fX6_readSeen_58 at h
  obtain ⟨hx, hb, hml, hr, hown, hts, hlocks, hK, hN, hA, hZ⟩ := id X
  refine lv_aload_n hx hb dX6_readSeen_58 rfl (lv_at hl0 0 rfl) ?_
  replace h := g_ob1 h
  obtain ⟨r1, hf1, h⟩ := h
  refine cal_i (wc := [(a_, .inr (5, [.ref a_typed, .int v_size, .int v_length, .int v_place, .long v_readGaps, .long v_readCorn]))]) (w1 := [(a_, .inr (5, [.ref a_typed, .int v_size, .int v_length, .int v_place, .long v_readGaps, .long v_readCorn]))]) (wn := [(a_, .inr (5, [.ref a_typed, .int v_size, .int v_length, .int v_place, .long v_readGaps, .long v_readCorn])), (a_typed, .inl (cI, 80, .inl v_typed))]) X hP0 hD0 hS0 [0] rfl rfl rfl rfl (run_V (As := []) (rest := []) X hP0 hD0 hS0 [0] rfl rfl (mX6_fault l G cI cO a_ a_typed  H0.size v_size v_length v_place v_readGaps v_readCorn  hf1) mv_X6_fault ml_X6_54 ⟨Nat.le_of_ble_eq_true rfl, Nat.le_of_ble_eq_true rfl⟩ rfl rfl 0 5 rfl rfl rfl rfl hl0.1 rfl (Nat.le_of_ble_eq_true rfl) ⟨Nat.zero_le _, Nat.zero_le _⟩ dX6_readSeen_59) (fun H2 locs2 hP2 hD2 hS2 => ?_)
  clear hf1
  obtain ⟨ez0, ez1, ez2, ez3⟩ := r_eq4 h
  subst ez0; subst ez1; subst ez2; subst ez3
  exact ret_i X hP2 hS2 dX6_readSeen_62
set_option maxHeartbeats 4000000 in
set_option maxRecDepth 100000 in
theorem bX6_readSeen_12 {p : Program} {l : Launch} {e : Env} {s : State} {m : MethodId} {args : Array Value} {below : List Frame} {meth : Method} {c : Code} {G : va_G} {cI cO : ClassId} {A : Nat → Prop} {a_ a_typed : Nat} {v_size : Int32} {v_length : Int32} {v_typed : Nat → Int32} {ret : Int32} {o_place : Int32} {o_readGaps : Int64} {o_readCorn : Int64} (X : BX p rmX6_readSeen s m args meth c cX6_readSeen 2 (some .int) RX6 G cI cO A) : ∀ n : Nat, SX6_readSeen_12 p l e s m args below meth c G cI cO A a_ a_typed v_size v_length v_typed ret o_place o_readGaps o_readCorn (fX6_readSeen_12 v_typed v_length n) := by
  intro n
  induction n with
  | zero => intro v_place v_readGaps v_readCorn x1 H0 locs0 hP0 hD0 hS0 ls0 hl0 h; exact absurd h (by simp [fX6_readSeen_12])
  | succ n ih =>
    intro v_place v_readGaps v_readCorn x1 H0 locs0 hP0 hD0 hS0 ls0 hl0 h
    rw [fX6_readSeen_12] at h
    obtain ⟨hx, hb, hml, hr, hown, hts, hlocks, hK, hN, hA, hZ⟩ := id X
    refine lv_iload_n hx hb dX6_readSeen_12 rfl (lv_at hl0 1 rfl) ?_
    refine lv_bipush (v := (12 : Int32)) hx hb dX6_readSeen_13 (by decide) ?_
    refine lv_icmp_gt (tgt := 73) hx hb dX6_readSeen_15 (by decide) (fun hc => ?_) (fun hc => ?_)
    · replace h := t_pos h hc
      clear hc
      refine lv_aload_n hx hb dX6_readSeen_73 rfl (lv_at hl0 0 rfl) ?_
      replace h := g_ob1 h
      obtain ⟨r1, hf1, h⟩ := h
      refine cal_i (wc := [(a_, .inr (5, [.ref a_typed, .int v_size, .int v_length, .int v_place, .long v_readGaps, .long v_readCorn]))]) (w1 := [(a_, .inr (5, [.ref a_typed, .int v_size, .int v_length, .int v_place, .long v_readGaps, .long v_readCorn]))]) (wn := [(a_, .inr (5, [.ref a_typed, .int v_size, .int v_length, .int v_place, .long v_readGaps, .long v_readCorn])), (a_typed, .inl (cI, 80, .inl v_typed))]) X hP0 hD0 hS0 [0] rfl rfl rfl rfl (run_V (As := []) (rest := []) X hP0 hD0 hS0 [0] rfl rfl (mX6_fault l G cI cO a_ a_typed  H0.size v_size v_length v_place v_readGaps v_readCorn  hf1) mv_X6_fault ml_X6_54 ⟨Nat.le_of_ble_eq_true rfl, Nat.le_of_ble_eq_true rfl⟩ rfl rfl 0 5 rfl rfl rfl rfl hl0.1 rfl (Nat.le_of_ble_eq_true rfl) ⟨Nat.zero_le _, Nat.zero_le _⟩ dX6_readSeen_74) (fun H2 locs2 hP2 hD2 hS2 => ?_)
      clear hf1
      obtain ⟨ez0, ez1, ez2, ez3⟩ := r_eq4 h
      subst ez0; subst ez1; subst ez2; subst ez3
      exact ret_i X hP2 hS2 dX6_readSeen_77
    · replace h := t_neg h hc
      clear hc
      refine lv_aload_n hx hb dX6_readSeen_18 rfl (lv_at hl0 0 rfl) ?_
      replace h := g_ob4 h
      obtain ⟨r3, v_place_3, v_readGaps_3, v_readCorn_3, hf3, h⟩ := h
      refine cal_i (wc := [(a_, .inr (5, [.ref a_typed, .int v_size, .int v_length, .int v_place, .long v_readGaps, .long v_readCorn])), (a_typed, .inl (cI, 80, .inl v_typed))]) (w1 := [(a_, .inr (5, [.ref a_typed, .int v_size, .int v_length, .int v_place_3, .long v_readGaps_3, .long v_readCorn_3])), (a_typed, .inl (cI, 80, .inl v_typed))]) (wn := [(a_, .inr (5, [.ref a_typed, .int v_size, .int v_length, .int v_place_3, .long v_readGaps_3, .long v_readCorn_3])), (a_typed, .inl (cI, 80, .inl v_typed))]) X hP0 hD0 hS0 [0, 1] rfl rfl rfl rfl (run_V (As := []) (rest := []) X hP0 hD0 hS0 [0, 1] rfl rfl (mX6_readPart l G cI cO a_ a_typed  H0.size v_size v_length v_place v_readGaps v_readCorn v_typed  hf3) mv_X6_readPart ml_X6_74 ⟨Nat.le_of_ble_eq_true rfl, Nat.le_of_ble_eq_true rfl⟩ rfl rfl 0 5 rfl rfl rfl rfl hl0.1 rfl (Nat.le_of_ble_eq_true rfl) ⟨Nat.zero_le _, Nat.zero_le _⟩ dX6_readSeen_19) (fun H4 locs4 hP4 hD4 hS4 => ?_)
      clear hf3
      refine lv_if_ne (tgt := 30) hx hb dX6_readSeen_22 (by decide) (fun hc => ?_) (fun hc => ?_)
      · replace h := t_neg h hc
        clear hc
        refine lv_aload_n hx hb dX6_readSeen_30 rfl (lv_at hl0 0 rfl) ?_
        refine va_get (D := G) (ci := 5) (v := .int v_place_3) (C := RX6) (T := TX6) (N := 6) hx hb hts gwX6 hown hK hP4 0 rfl rfl 3 (by decide) (hts _ fl_X6_22) (fun _ h9 => h9) rfl dX6_readSeen_31 ?_
        refine lv_aload_n hx hb dX6_readSeen_34 rfl (lv_at hl0 0 rfl) ?_
        refine va_get (D := G) (ci := 5) (v := .int v_length) (C := RX6) (T := TX6) (N := 6) hx hb hts gwX6 hown hK hP4 0 rfl rfl 2 (by decide) (hts _ fl_X6_19) (fun _ h9 => h9) rfl dX6_readSeen_35 ?_
        refine lv_icmp_lt (tgt := 43) hx hb dX6_readSeen_38 (by decide) (fun hc => ?_) (fun hc => ?_)
        · replace h := t_pos h hc
          clear hc
          refine lv_aload_n hx hb dX6_readSeen_43 rfl (lv_at hl0 0 rfl) ?_
          replace h := g_ob1 h
          obtain ⟨r5, hf5, h⟩ := h
          refine cal_i (wc := [(a_, .inr (5, [.ref a_typed, .int v_size, .int v_length, .int v_place_3, .long v_readGaps_3, .long v_readCorn_3])), (a_typed, .inl (cI, 80, .inl v_typed))]) (w1 := [(a_, .inr (5, [.ref a_typed, .int v_size, .int v_length, .int v_place_3, .long v_readGaps_3, .long v_readCorn_3])), (a_typed, .inl (cI, 80, .inl v_typed))]) (wn := [(a_, .inr (5, [.ref a_typed, .int v_size, .int v_length, .int v_place_3, .long v_readGaps_3, .long v_readCorn_3])), (a_typed, .inl (cI, 80, .inl v_typed))]) X hP4 hD4 hS4 [0, 1] rfl rfl rfl rfl (run_V (As := []) (rest := []) X hP4 hD4 hS4 [0, 1] rfl rfl (mX6_letter l G cI cO a_ a_typed  H4.size v_size v_length v_place_3 v_readGaps_3 v_readCorn_3 v_typed  hf5) mv_X6_letter ml_X6_57 ⟨Nat.le_of_ble_eq_true rfl, Nat.le_of_ble_eq_true rfl⟩ rfl rfl 0 5 rfl rfl rfl rfl hl0.1 rfl (Nat.le_of_ble_eq_true rfl) ⟨Nat.zero_le _, Nat.zero_le _⟩ dX6_readSeen_44) (fun H6 locs6 hP6 hD6 hS6 => ?_)
          clear hf5 hP4 hD4 hS4
          refine lv_bipush (v := (44 : Int32)) hx hb dX6_readSeen_47 (by decide) ?_
          refine lv_icmp_ne (tgt := 58) hx hb dX6_readSeen_49 (by decide) (fun hc => ?_) (fun hc => ?_)
          · replace h := t_neg h hc
            clear hc
            exact bX6_readSeen_58 X v_place_3 v_readGaps_3 v_readCorn_3 H6 locs6 hP6 hD6 hS6 ls0 (lv_sub hl0 [0] rfl) h
          · replace h := t_pos h hc
            clear hc
            refine lv_iload_n hx hb dX6_readSeen_52 rfl (lv_at hl0 1 rfl) ?_
            refine lv_bipush (v := (12 : Int32)) hx hb dX6_readSeen_53 (by decide) ?_
            refine lv_icmp_ne (tgt := 63) hx hb dX6_readSeen_55 (by decide) (fun hc => ?_) (fun hc => ?_)
            · replace h := t_neg h hc
              clear hc
              refine lv_aload_n hx hb dX6_readSeen_63 rfl (lv_at hl0 0 rfl) ?_
              replace h := g_ob1 h
              obtain ⟨v_place_7, hf7, h⟩ := h
              refine cal_v (wc := [(a_, .inr (5, [.ref a_typed, .int v_size, .int v_length, .int v_place_3, .long v_readGaps_3, .long v_readCorn_3])), (a_typed, .inl (cI, 80, .inl v_typed))]) (w1 := [(a_, .inr (5, [.ref a_typed, .int v_size, .int v_length, .int v_place_7, .long v_readGaps_3, .long v_readCorn_3])), (a_typed, .inl (cI, 80, .inl v_typed))]) (wn := [(a_, .inr (5, [.ref a_typed, .int v_size, .int v_length, .int v_place_7, .long v_readGaps_3, .long v_readCorn_3])), (a_typed, .inl (cI, 80, .inl v_typed))]) X hP6 hD6 hS6 [0, 1] rfl rfl rfl rfl (run_V (As := []) (rest := []) X hP6 hD6 hS6 [0, 1] rfl rfl (mX6_advance l G cI cO a_ a_typed  H6.size v_size v_length v_place_3 v_readGaps_3 v_readCorn_3 v_typed  hf7) mv_X6_advance ml_X6_38 ⟨Nat.le_of_ble_eq_true rfl, Nat.le_of_ble_eq_true rfl⟩ rfl rfl 0 5 rfl rfl rfl rfl hl0.1 rfl (Nat.le_of_ble_eq_true rfl) ⟨Nat.zero_le _, Nat.zero_le _⟩ dX6_readSeen_64) (fun H8 locs8 hP8 hD8 hS8 => ?_)
              clear hf7 hP6 hD6 hS6
              refine lv_iinc (v := (x1 + (1 : Int32))) (lv' := [(1, .int (x1 + (1 : Int32))), (0, .ref a_)]) hx hb dX6_readSeen_67 hl0 (k := 1) rfl (congrArg (fun z => x1 + z) (by decide : Int32.ofInt (1) = (1 : Int32))) (by decide) rfl (fun ls9 hl9 => ?_)
              refine lv_goto (tgt := 12) hx hb dX6_readSeen_70 (by decide) ?_
              exact ih v_place_7 v_readGaps_3 v_readCorn_3 ((x1 + (1 : Int32))) H8 locs8 hP8 hD8 hS8 ls9 (lv_sub hl9 [1, 0] rfl) h
            · replace h := t_pos h hc
              clear hc
              exact bX6_readSeen_58 X v_place_3 v_readGaps_3 v_readCorn_3 H6 locs6 hP6 hD6 hS6 ls0 (lv_sub hl0 [0] rfl) h
        · replace h := t_neg h hc
          clear hc
          refine lv_iload_n hx hb dX6_readSeen_41 rfl (lv_at hl0 1 rfl) ?_
          obtain ⟨ez0, ez1, ez2, ez3⟩ := r_eq4 h
          subst ez0; subst ez1; subst ez2; subst ez3
          exact ret_i X hP4 hS4 dX6_readSeen_42
      · replace h := t_pos h hc
        clear hc
        refine lv_aload_n hx hb dX6_readSeen_25 rfl (lv_at hl0 0 rfl) ?_
        replace h := g_ob1 h
        obtain ⟨r10, hf10, h⟩ := h
        refine cal_i (wc := [(a_, .inr (5, [.ref a_typed, .int v_size, .int v_length, .int v_place_3, .long v_readGaps_3, .long v_readCorn_3]))]) (w1 := [(a_, .inr (5, [.ref a_typed, .int v_size, .int v_length, .int v_place_3, .long v_readGaps_3, .long v_readCorn_3]))]) (wn := [(a_, .inr (5, [.ref a_typed, .int v_size, .int v_length, .int v_place_3, .long v_readGaps_3, .long v_readCorn_3])), (a_typed, .inl (cI, 80, .inl v_typed))]) X hP4 hD4 hS4 [0] rfl rfl rfl rfl (run_V (As := []) (rest := []) X hP4 hD4 hS4 [0] rfl rfl (mX6_fault l G cI cO a_ a_typed  H4.size v_size v_length v_place_3 v_readGaps_3 v_readCorn_3  hf10) mv_X6_fault ml_X6_54 ⟨Nat.le_of_ble_eq_true rfl, Nat.le_of_ble_eq_true rfl⟩ rfl rfl 0 5 rfl rfl rfl rfl hl0.1 rfl (Nat.le_of_ble_eq_true rfl) ⟨Nat.zero_le _, Nat.zero_le _⟩ dX6_readSeen_26) (fun H11 locs11 hP11 hD11 hS11 => ?_)
        clear hf10 hP4 hD4 hS4
        obtain ⟨ez0, ez1, ez2, ez3⟩ := r_eq4 h
        subst ez0; subst ez1; subst ez2; subst ez3
        exact ret_i X hP11 hS11 dX6_readSeen_29
set_option maxHeartbeats 4000000 in
set_option maxRecDepth 100000 in
theorem mX6_readSeen (l : Launch) (G : va_G) (cI cO : ClassId) (a_ a_typed : Nat) (sz : Nat) (v_size : Int32) (v_length : Int32) (v_place : Int32) (v_readGaps : Int64) (v_readCorn : Int64) (v_typed : Nat → Int32)  {ret : Int32} {o_place : Int32} {o_readGaps : Int64} {o_readCorn : Int64} (h : fX6_readSeen v_typed v_length v_place v_readGaps v_readCorn = some (ret, o_place, o_readGaps, o_readCorn)) : Met l yX6_readSeen (wsM yX6_readSeen cX6_readSeen 2 (some .int)) rmX6_readSeen (va_Pc [.ref a_] (preW G cI cO sz [(a_, .inr (5, [.ref a_typed, .int v_size, .int v_length, .int v_place, .long v_readGaps, .long v_readCorn])), (a_typed, .inl (cI, 80, .inl v_typed))])) (QcI G (va_A [(a_, .inr (5, [.ref a_typed, .int v_size, .int v_length, .int v_place, .long v_readGaps, .long v_readCorn])), (a_typed, .inl (cI, 80, .inl v_typed))] sz) ret [(a_, .inr (5, [.ref a_typed, .int v_size, .int v_length, .int o_place, .long o_readGaps, .long o_readCorn])), (a_typed, .inl (cI, 80, .inl v_typed))]) 0 0 (va_A [(a_, .inr (5, [.ref a_typed, .int v_size, .int v_length, .int v_place, .long v_readGaps, .long v_readCorn])), (a_typed, .inl (cI, 80, .inl v_typed))] sz) := by
  refine mkMet (own := RX6) (by decide) rfl (Nat.le_of_ble_eq_true rfl) ?_
  intro p e s m args below meth c _ hsz _ X hP0 hD0 ls0 hl0
  have hS0 : va_S (va_A [(a_, .inr (5, [.ref a_typed, .int v_size, .int v_length, .int v_place, .long v_readGaps, .long v_readCorn])), (a_typed, .inl (cI, 80, .inl v_typed))] sz) s.heap s.heap [] := va_S.rf
  replace hl0 : lv_has ls0 2 [(0, .ref a_)] := hl0
  generalize va_A [(a_, .inr (5, [.ref a_typed, .int v_size, .int v_length, .int v_place, .long v_readGaps, .long v_readCorn])), (a_typed, .inl (cI, 80, .inl v_typed))] sz = A at X hD0 hS0 ⊢
  unfold fX6_readSeen at h
  obtain ⟨hx, hb, hml, hr, hown, hts, hlocks, hK, hN, hA, hZ⟩ := id X
  refine lv_aload_n hx hb dX6_readSeen_0 rfl (lv_at hl0 0 rfl) ?_
  refine lv_lconst (v := (0 : Int64)) hx hb dX6_readSeen_1 (by decide) ?_
  refine va_put (D := G) (ci := 5) (v := .long (0 : Int64)) (ty := .long) (C := RX6) (T := TX6) (N := 6) hx hb hts gwX6 tyX6 tyX6_ok nmX6 hown hK hP0 hD0 hS0 0 rfl rfl 4 (by decide) (hts _ fl_X6_25) (fun _ h9 => h9) rfl (by decide +kernel) rfl rfl (Nat.le_of_ble_eq_true rfl) dX6_readSeen_2 (fun H1 locs1 hP1 hD1 hS1 => ?_)
  replace hP1 : va_P G vwCl [(a_, .inr (5, [.ref a_typed, .int v_size, .int v_length, .int v_place, .long (0 : Int64), .long v_readCorn])), (a_typed, .inl (cI, 80, .inl v_typed))] H1 := hP1
  replace hD1 : va_D A [(a_, .inr (5, [.ref a_typed, .int v_size, .int v_length, .int v_place, .long (0 : Int64), .long v_readCorn])), (a_typed, .inl (cI, 80, .inl v_typed))] := hD1
  refine lv_aload_n hx hb dX6_readSeen_5 rfl (lv_at hl0 0 rfl) ?_
  refine lv_lconst (v := (0 : Int64)) hx hb dX6_readSeen_6 (by decide) ?_
  refine va_put (D := G) (ci := 5) (v := .long (0 : Int64)) (ty := .long) (C := RX6) (T := TX6) (N := 6) hx hb hts gwX6 tyX6 tyX6_ok nmX6 hown hK hP1 hD1 hS1 0 rfl rfl 5 (by decide) (hts _ fl_X6_29) (fun _ h9 => h9) rfl (by decide +kernel) rfl rfl (Nat.le_of_ble_eq_true rfl) dX6_readSeen_7 (fun H2 locs2 hP2 hD2 hS2 => ?_)
  replace hP2 : va_P G vwCl [(a_, .inr (5, [.ref a_typed, .int v_size, .int v_length, .int v_place, .long (0 : Int64), .long (0 : Int64)])), (a_typed, .inl (cI, 80, .inl v_typed))] H2 := hP2
  replace hD2 : va_D A [(a_, .inr (5, [.ref a_typed, .int v_size, .int v_length, .int v_place, .long (0 : Int64), .long (0 : Int64)])), (a_typed, .inl (cI, 80, .inl v_typed))] := hD2
  clear hP1 hD1 hS1
  refine lv_iconst (v := (1 : Int32)) hx hb dX6_readSeen_10 (by decide) ?_
  refine lv_istore_n (lv' := [(1, .int (1 : Int32)), (0, .ref a_)]) hx hb dX6_readSeen_11 rfl hl0 (by decide) rfl (fun ls3 hl3 => ?_)
  exact bX6_readSeen_12 X 4000 v_place (0 : Int64) (0 : Int64) (1 : Int32) H2 locs2 hP2 hD2 hS2 ls3 (lv_sub hl3 [1, 0] rfl) h
/-! PloughMaze$Sheet.isThere -/
abbrev rmX5_isThere : Room := { frames := 0, cells := 0, slots := 0, locals := 0 }
set_option maxHeartbeats 4000000 in
set_option maxRecDepth 100000 in
theorem mX5_isThere (l : Launch) (G : va_G) (cI cO : ClassId) (a_ a_items : Nat) (sz : Nat) (v_laneHeld : Int32) (v_size : Int32)  {ret : Int32} (h : fX5_isThere v_laneHeld = some ret) : Met l yX5_isThere (wsM yX5_isThere cX5_isThere 1 (some .boolean)) rmX5_isThere (va_Pc [.ref a_] (preW G cI cO sz [(a_, .inr (4, [.ref a_items, .int v_laneHeld, .int v_size]))])) (QcI G (va_A [(a_, .inr (4, [.ref a_items, .int v_laneHeld, .int v_size]))] sz) ret [(a_, .inr (4, [.ref a_items, .int v_laneHeld, .int v_size]))]) 0 0 (va_A [(a_, .inr (4, [.ref a_items, .int v_laneHeld, .int v_size]))] sz) := by
  refine mkMet (own := RX5) (by decide) rfl (Nat.le_of_ble_eq_true rfl) ?_
  intro p e s m args below meth c _ hsz _ X hP0 hD0 ls0 hl0
  have hS0 : va_S (va_A [(a_, .inr (4, [.ref a_items, .int v_laneHeld, .int v_size]))] sz) s.heap s.heap [] := va_S.rf
  replace hl0 : lv_has ls0 1 [(0, .ref a_)] := hl0
  generalize va_A [(a_, .inr (4, [.ref a_items, .int v_laneHeld, .int v_size]))] sz = A at X hD0 hS0 ⊢
  unfold fX5_isThere at h
  obtain ⟨hx, hb, hml, hr, hown, hts, hlocks, hK, hN, hA, hZ⟩ := id X
  refine lv_aload_n hx hb dX5_isThere_0 rfl (lv_at hl0 0 rfl) ?_
  refine va_get (D := G) (ci := 4) (v := .int v_laneHeld) (C := RX5) (T := TX5) (N := 3) hx hb hts gwX5 hown hK hP0 0 rfl rfl 1 (by decide) (hts _ fl_X5_15) (fun _ h9 => h9) rfl dX5_isThere_1 ?_
  refine lv_iconst (v := (-1 : Int32)) hx hb dX5_isThere_4 (by decide) ?_
  refine lv_icmp_eq (tgt := 12) hx hb dX5_isThere_5 (by decide) (fun hc => ?_) (fun hc => ?_)
  · replace h := t_pos h hc
    clear hc
    refine lv_iconst (v := (0 : Int32)) hx hb dX5_isThere_12 (by decide) ?_
    obtain ez0 := r_eq1 h
    subst ez0
    exact ret_z X hP0 hS0 rfl dX5_isThere_13
  · replace h := t_neg h hc
    clear hc
    refine lv_iconst (v := (1 : Int32)) hx hb dX5_isThere_8 (by decide) ?_
    refine lv_goto (tgt := 13) hx hb dX5_isThere_9 (by decide) ?_
    obtain ez0 := r_eq1 h
    subst ez0
    exact ret_z X hP0 hS0 rfl dX5_isThere_13
/-! PloughMaze$Sheet.renew -/
abbrev rmX5_renew : Room := { frames := 0, cells := 0, slots := 0, locals := 0 }
def SX5_renew_12 (p : Program) (l : Launch) (e : Env) (s : State) (m : MethodId) (args : Array Value) (below : List Frame) (meth : Method) (c : Code) (G : va_G) (cI cO : ClassId) (A : Nat → Prop) (a_ a_items : Nat) (o_items : Nat → Int32) (o_laneHeld : Int32) (o_size : Int32) (k : (Nat → Int32) → Int32 → Int32 → Int32 → Option ((Nat → Int32) × Int32 × Int32)) : Prop := ∀ (v_items : Nat → Int32) (v_laneHeld : Int32) (v_size : Int32) (x3 : Int32) (H : Heap) (locs : List Loc), va_P G vwCl [(a_, .inr (4, [.ref a_items, .int v_laneHeld, .int v_size])), (a_items, .inl (cI, 36, .inl v_items))] H → va_D A [(a_, .inr (4, [.ref a_items, .int v_laneHeld, .int v_size])), (a_items, .inl (cI, 36, .inl v_items))] → va_S A s.heap H locs → ∀ (ls : Array Slot), lv_has ls 4 [(0, .ref a_), (3, .int x3)] → k v_items v_laneHeld v_size x3 = some (o_items, o_laneHeld, o_size) → W p l e rmX5_renew s m args below meth c H locs 0 0 (MQ below (QcV G A [(a_, .inr (4, [.ref a_items, .int o_laneHeld, .int o_size])), (a_items, .inl (cI, 36, .inl o_items))]) args s 0 0 A) (F0 m 12 ls [])
set_option maxHeartbeats 4000000 in
set_option maxRecDepth 100000 in
theorem bX5_renew_12 {p : Program} {l : Launch} {e : Env} {s : State} {m : MethodId} {args : Array Value} {below : List Frame} {meth : Method} {c : Code} {G : va_G} {cI cO : ClassId} {A : Nat → Prop} {a_ a_items : Nat} {o_items : Nat → Int32} {o_laneHeld : Int32} {o_size : Int32} (X : BX p rmX5_renew s m args meth c cX5_renew 4 none RX5 G cI cO A) : ∀ n : Nat, SX5_renew_12 p l e s m args below meth c G cI cO A a_ a_items o_items o_laneHeld o_size (fX5_renew_12 n) := by
  intro n
  induction n with
  | zero => intro v_items v_laneHeld v_size x3 H0 locs0 hP0 hD0 hS0 ls0 hl0 h; exact absurd h (by simp [fX5_renew_12])
  | succ n ih =>
    intro v_items v_laneHeld v_size x3 H0 locs0 hP0 hD0 hS0 ls0 hl0 h
    rw [fX5_renew_12] at h
    obtain ⟨hx, hb, hml, hr, hown, hts, hlocks, hK, hN, hA, hZ⟩ := id X
    refine lv_iload_n hx hb dX5_renew_12 rfl (lv_at hl0 1 rfl) ?_
    refine lv_bipush (v := (36 : Int32)) hx hb dX5_renew_13 (by decide) ?_
    refine lv_icmp_ge (tgt := 31) hx hb dX5_renew_15 (by decide) (fun hc => ?_) (fun hc => ?_)
    · replace h := t_pos h hc
      clear hc
      obtain ⟨ez0, ez1, ez2⟩ := r_eq3 h
      subst ez0; subst ez1; subst ez2
      exact ret_v X hP0 hS0 dX5_renew_31
    · replace h := t_neg h hc
      clear hc
      refine lv_aload_n hx hb dX5_renew_18 rfl (lv_at hl0 0 rfl) ?_
      refine va_get (D := G) (ci := 4) (v := .ref a_items) (C := RX5) (T := TX5) (N := 3) hx hb hts gwX5 hown hK hP0 0 rfl rfl 0 (by decide) (hts _ fl_X5_9) (fun _ h9 => h9) rfl dX5_renew_19 ?_
      refine lv_iload_n hx hb dX5_renew_22 rfl (lv_at hl0 1 rfl) ?_
      refine lv_iconst (v := (0 : Int32)) hx hb dX5_renew_23 (by decide) ?_
      replace h := g_in h; obtain ⟨hg, h⟩ := h
      refine va_iast hx hb hK hP0 hD0 hS0 1 0 rfl rfl (inb_ok hg) dX5_renew_24 (fun H1 locs1 hP1 hD1 hS1 => ?_)
      replace hP1 : va_P G vwCl [(a_, .inr (4, [.ref a_items, .int v_laneHeld, .int v_size])), (a_items, .inl (cI, 36, .inl ((upd v_items x3.toNatClampNeg (0 : Int32)))))] H1 := hP1
      replace hD1 : va_D A [(a_, .inr (4, [.ref a_items, .int v_laneHeld, .int v_size])), (a_items, .inl (cI, 36, .inl ((upd v_items x3.toNatClampNeg (0 : Int32)))))] := hD1
      clear hg
      refine lv_iinc (v := (x3 + (1 : Int32))) (lv' := [(3, .int (x3 + (1 : Int32))), (0, .ref a_)]) hx hb dX5_renew_25 hl0 (k := 1) rfl (congrArg (fun z => x3 + z) (by decide : Int32.ofInt (1) = (1 : Int32))) (by decide) rfl (fun ls2 hl2 => ?_)
      refine lv_goto (tgt := 12) hx hb dX5_renew_28 (by decide) ?_
      exact ih ((upd v_items x3.toNatClampNeg (0 : Int32))) v_laneHeld v_size ((x3 + (1 : Int32))) H1 locs1 hP1 hD1 hS1 ls2 (lv_sub hl2 [1, 0] rfl) h
set_option maxHeartbeats 4000000 in
set_option maxRecDepth 100000 in
theorem mX5_renew (l : Launch) (G : va_G) (cI cO : ClassId) (a_ a_items : Nat) (sz : Nat) (v_laneHeld : Int32) (v_size : Int32) (v_items : Nat → Int32) (x1 : Int32) (x2 : Int32) {o_items : Nat → Int32} {o_laneHeld : Int32} {o_size : Int32} (h : fX5_renew v_items v_laneHeld v_size x1 x2 = some (o_items, o_laneHeld, o_size)) : Met l yX5_renew (wsM yX5_renew cX5_renew 4 none) rmX5_renew (va_Pc [.ref a_, .int x1, .int x2] (preW G cI cO sz [(a_, .inr (4, [.ref a_items, .int v_laneHeld, .int v_size])), (a_items, .inl (cI, 36, .inl v_items))])) (QcV G (va_A [(a_, .inr (4, [.ref a_items, .int v_laneHeld, .int v_size])), (a_items, .inl (cI, 36, .inl v_items))] sz) [(a_, .inr (4, [.ref a_items, .int o_laneHeld, .int o_size])), (a_items, .inl (cI, 36, .inl o_items))]) 0 0 (va_A [(a_, .inr (4, [.ref a_items, .int v_laneHeld, .int v_size])), (a_items, .inl (cI, 36, .inl v_items))] sz) := by
  refine mkMet (own := RX5) (by decide) rfl (Nat.le_of_ble_eq_true rfl) ?_
  intro p e s m args below meth c _ hsz _ X hP0 hD0 ls0 hl0
  have hS0 : va_S (va_A [(a_, .inr (4, [.ref a_items, .int v_laneHeld, .int v_size])), (a_items, .inl (cI, 36, .inl v_items))] sz) s.heap s.heap [] := va_S.rf
  replace hl0 : lv_has ls0 4 [(0, .ref a_), (1, .int x1), (2, .int x2)] := hl0
  generalize va_A [(a_, .inr (4, [.ref a_items, .int v_laneHeld, .int v_size])), (a_items, .inl (cI, 36, .inl v_items))] sz = A at X hD0 hS0 ⊢
  unfold fX5_renew at h
  obtain ⟨hx, hb, hml, hr, hown, hts, hlocks, hK, hN, hA, hZ⟩ := id X
  refine lv_aload_n hx hb dX5_renew_0 rfl (lv_at hl0 0 rfl) ?_
  refine lv_iload_n hx hb dX5_renew_1 rfl (lv_at hl0 1 rfl) ?_
  refine va_put (D := G) (ci := 4) (v := .int x1) (ty := .int) (C := RX5) (T := TX5) (N := 3) hx hb hts gwX5 tyX5 tyX5_ok nmX5 hown hK hP0 hD0 hS0 0 rfl rfl 1 (by decide) (hts _ fl_X5_15) (fun _ h9 => h9) rfl (by decide +kernel) rfl rfl (Nat.le_of_ble_eq_true rfl) dX5_renew_2 (fun H1 locs1 hP1 hD1 hS1 => ?_)
  replace hP1 : va_P G vwCl [(a_, .inr (4, [.ref a_items, .int x1, .int v_size])), (a_items, .inl (cI, 36, .inl v_items))] H1 := hP1
  replace hD1 : va_D A [(a_, .inr (4, [.ref a_items, .int x1, .int v_size])), (a_items, .inl (cI, 36, .inl v_items))] := hD1
  refine lv_aload_n hx hb dX5_renew_5 rfl (lv_at hl0 0 rfl) ?_
  refine lv_iload_n hx hb dX5_renew_6 rfl (lv_at hl0 2 rfl) ?_
  refine va_put (D := G) (ci := 4) (v := .int x2) (ty := .int) (C := RX5) (T := TX5) (N := 3) hx hb hts gwX5 tyX5 tyX5_ok nmX5 hown hK hP1 hD1 hS1 0 rfl rfl 2 (by decide) (hts _ fl_X5_19) (fun _ h9 => h9) rfl (by decide +kernel) rfl rfl (Nat.le_of_ble_eq_true rfl) dX5_renew_7 (fun H2 locs2 hP2 hD2 hS2 => ?_)
  replace hP2 : va_P G vwCl [(a_, .inr (4, [.ref a_items, .int x1, .int x2])), (a_items, .inl (cI, 36, .inl v_items))] H2 := hP2
  replace hD2 : va_D A [(a_, .inr (4, [.ref a_items, .int x1, .int x2])), (a_items, .inl (cI, 36, .inl v_items))] := hD2
  clear hP1 hD1 hS1
  refine lv_iconst (v := (0 : Int32)) hx hb dX5_renew_10 (by decide) ?_
  refine lv_istore_n (lv' := [(3, .int (0 : Int32)), (0, .ref a_), (1, .int x1), (2, .int x2)]) hx hb dX5_renew_11 rfl hl0 (by decide) rfl (fun ls3 hl3 => ?_)
  exact bX5_renew_12 X 4000 v_items x1 x2 (0 : Int32) H2 locs2 hP2 hD2 hS2 ls3 (lv_sub hl3 [1, 0] rfl) h
/-! PloughMaze$Sheet.empty -/
abbrev rmX5_empty : Room := { frames := 0, cells := 0, slots := 0, locals := 0 }
set_option maxHeartbeats 4000000 in
set_option maxRecDepth 100000 in
theorem mX5_empty (l : Launch) (G : va_G) (cI cO : ClassId) (a_ a_items : Nat) (sz : Nat) (v_laneHeld : Int32) (v_size : Int32)  {o_laneHeld : Int32} {o_size : Int32} (h : fX5_empty v_laneHeld v_size = some (o_laneHeld, o_size)) : Met l yX5_empty (wsM yX5_empty cX5_empty 1 none) rmX5_empty (va_Pc [.ref a_] (preW G cI cO sz [(a_, .inr (4, [.ref a_items, .int v_laneHeld, .int v_size]))])) (QcV G (va_A [(a_, .inr (4, [.ref a_items, .int v_laneHeld, .int v_size]))] sz) [(a_, .inr (4, [.ref a_items, .int o_laneHeld, .int o_size]))]) 0 0 (va_A [(a_, .inr (4, [.ref a_items, .int v_laneHeld, .int v_size]))] sz) := by
  refine mkMet (own := RX5) (by decide) rfl (Nat.le_of_ble_eq_true rfl) ?_
  intro p e s m args below meth c _ hsz _ X hP0 hD0 ls0 hl0
  have hS0 : va_S (va_A [(a_, .inr (4, [.ref a_items, .int v_laneHeld, .int v_size]))] sz) s.heap s.heap [] := va_S.rf
  replace hl0 : lv_has ls0 1 [(0, .ref a_)] := hl0
  generalize va_A [(a_, .inr (4, [.ref a_items, .int v_laneHeld, .int v_size]))] sz = A at X hD0 hS0 ⊢
  unfold fX5_empty at h
  obtain ⟨hx, hb, hml, hr, hown, hts, hlocks, hK, hN, hA, hZ⟩ := id X
  refine lv_aload_n hx hb dX5_empty_0 rfl (lv_at hl0 0 rfl) ?_
  refine lv_iconst (v := (-1 : Int32)) hx hb dX5_empty_1 (by decide) ?_
  refine va_put (D := G) (ci := 4) (v := .int (-1 : Int32)) (ty := .int) (C := RX5) (T := TX5) (N := 3) hx hb hts gwX5 tyX5 tyX5_ok nmX5 hown hK hP0 hD0 hS0 0 rfl rfl 1 (by decide) (hts _ fl_X5_15) (fun _ h9 => h9) rfl (by decide +kernel) rfl rfl (Nat.le_of_ble_eq_true rfl) dX5_empty_2 (fun H1 locs1 hP1 hD1 hS1 => ?_)
  replace hP1 : va_P G vwCl [(a_, .inr (4, [.ref a_items, .int (-1 : Int32), .int v_size]))] H1 := hP1
  replace hD1 : va_D A [(a_, .inr (4, [.ref a_items, .int (-1 : Int32), .int v_size]))] := hD1
  refine lv_aload_n hx hb dX5_empty_5 rfl (lv_at hl0 0 rfl) ?_
  refine lv_iconst (v := (0 : Int32)) hx hb dX5_empty_6 (by decide) ?_
  refine va_put (D := G) (ci := 4) (v := .int (0 : Int32)) (ty := .int) (C := RX5) (T := TX5) (N := 3) hx hb hts gwX5 tyX5 tyX5_ok nmX5 hown hK hP1 hD1 hS1 0 rfl rfl 2 (by decide) (hts _ fl_X5_19) (fun _ h9 => h9) rfl (by decide +kernel) rfl rfl (Nat.le_of_ble_eq_true rfl) dX5_empty_7 (fun H2 locs2 hP2 hD2 hS2 => ?_)
  replace hP2 : va_P G vwCl [(a_, .inr (4, [.ref a_items, .int (-1 : Int32), .int (0 : Int32)]))] H2 := hP2
  replace hD2 : va_D A [(a_, .inr (4, [.ref a_items, .int (-1 : Int32), .int (0 : Int32)]))] := hD2
  clear hP1 hD1 hS1
  obtain ⟨ez0, ez1⟩ := r_eq2 h
  subst ez0; subst ez1
  exact ret_v X hP2 hS2 dX5_empty_10
/-! PloughMaze$Sheet.trouble -/
abbrev rmX5_trouble : Room := { frames := 1, cells := 0, slots := 0, locals := 20 }
set_option maxHeartbeats 4000000 in
set_option maxRecDepth 100000 in
theorem mX5_trouble (l : Launch) (G : va_G) (cI cO : ClassId) (a_ a_items : Nat) (sz : Nat) (v_laneHeld : Int32) (v_size : Int32) (x1 : Int32) (x2 : Int32) (x3 : Int32) {ret : Int32} (h : fX5_trouble v_laneHeld v_size x1 x2 x3 = some ret) : Met l yX5_trouble (wsM yX5_trouble cX5_trouble 4 (some .int)) rmX5_trouble (va_Pc [.ref a_, .int x1, .int x2, .int x3] (preW G cI cO sz [(a_, .inr (4, [.ref a_items, .int v_laneHeld, .int v_size]))])) (QcI G (va_A [(a_, .inr (4, [.ref a_items, .int v_laneHeld, .int v_size]))] sz) ret [(a_, .inr (4, [.ref a_items, .int v_laneHeld, .int v_size]))]) 0 0 (va_A [(a_, .inr (4, [.ref a_items, .int v_laneHeld, .int v_size]))] sz) := by
  refine mkMet (own := RX5) (by decide) rfl (Nat.le_of_ble_eq_true rfl) ?_
  intro p e s m args below meth c _ hsz _ X hP0 hD0 ls0 hl0
  have hS0 : va_S (va_A [(a_, .inr (4, [.ref a_items, .int v_laneHeld, .int v_size]))] sz) s.heap s.heap [] := va_S.rf
  replace hl0 : lv_has ls0 4 [(0, .ref a_), (1, .int x1), (2, .int x2), (3, .int x3)] := hl0
  generalize va_A [(a_, .inr (4, [.ref a_items, .int v_laneHeld, .int v_size]))] sz = A at X hD0 hS0 ⊢
  unfold fX5_trouble at h
  obtain ⟨hx, hb, hml, hr, hown, hts, hlocks, hK, hN, hA, hZ⟩ := id X
  refine lv_aload_n hx hb dX5_trouble_0 rfl (lv_at hl0 0 rfl) ?_
  replace h := g_ob1 h
  obtain ⟨r1, hf1, h⟩ := h
  refine cal_i (wc := [(a_, .inr (4, [.ref a_items, .int v_laneHeld, .int v_size]))]) (w1 := [(a_, .inr (4, [.ref a_items, .int v_laneHeld, .int v_size]))]) (wn := [(a_, .inr (4, [.ref a_items, .int v_laneHeld, .int v_size]))]) X hP0 hD0 hS0 [0] rfl rfl rfl rfl (run_V (As := []) (rest := []) X hP0 hD0 hS0 [0] rfl rfl (mX5_isThere l G cI cO a_ a_items  s.heap.size v_laneHeld v_size  hf1) mv_X5_isThere ml_X5_22 ⟨Nat.le_of_ble_eq_true rfl, Nat.le_of_ble_eq_true rfl⟩ rfl rfl 0 4 rfl rfl rfl rfl hl0.1 rfl (Nat.le_of_ble_eq_true rfl) ⟨Nat.zero_le _, Nat.zero_le _⟩ dX5_trouble_1) (fun H2 locs2 hP2 hD2 hS2 => ?_)
  clear hf1
  refine lv_if_ne (tgt := 10) hx hb dX5_trouble_4 (by decide) (fun hc => ?_) (fun hc => ?_)
  · replace h := t_neg h hc
    clear hc
    refine lv_iload_n hx hb dX5_trouble_10 rfl (lv_at hl0 1 rfl) ?_
    refine lv_aload_n hx hb dX5_trouble_11 rfl (lv_at hl0 0 rfl) ?_
    refine va_get (D := G) (ci := 4) (v := .int v_laneHeld) (C := RX5) (T := TX5) (N := 3) hx hb hts gwX5 hown hK hP2 0 rfl rfl 1 (by decide) (hts _ fl_X5_15) (fun _ h9 => h9) rfl dX5_trouble_12 ?_
    refine lv_icmp_eq (tgt := 21) hx hb dX5_trouble_15 (by decide) (fun hc => ?_) (fun hc => ?_)
    · replace h := t_pos h hc
      clear hc
      refine lv_iload_n hx hb dX5_trouble_21 rfl (lv_at hl0 2 rfl) ?_
      refine lv_if_lt (tgt := 35) hx hb dX5_trouble_22 (by decide) (fun hc => ?_) (fun hc => ?_)
      · replace h := t_pos h hc
        clear hc
        refine lv_bipush (v := (-13 : Int32)) hx hb dX5_trouble_35 (by decide) ?_
        refine lv_goto (tgt := 41) hx hb dX5_trouble_37 (by decide) ?_
        obtain ez0 := r_eq1 h
        subst ez0
        exact ret_i X hP2 hS2 dX5_trouble_41
      · replace h := t_neg h hc
        clear hc
        refine lv_iload_n hx hb dX5_trouble_25 rfl (lv_at hl0 2 rfl) ?_
        refine lv_aload_n hx hb dX5_trouble_26 rfl (lv_at hl0 0 rfl) ?_
        refine va_get (D := G) (ci := 4) (v := .int v_size) (C := RX5) (T := TX5) (N := 3) hx hb hts gwX5 hown hK hP2 0 rfl rfl 2 (by decide) (hts _ fl_X5_19) (fun _ h9 => h9) rfl dX5_trouble_27 ?_
        refine lv_iload_n hx hb dX5_trouble_30 rfl (lv_at hl0 3 rfl) ?_
        refine lv_isub hx hb dX5_trouble_31 ?_
        refine lv_icmp_le (tgt := 40) hx hb dX5_trouble_32 (by decide) (fun hc => ?_) (fun hc => ?_)
        · replace h := t_pos h hc
          clear hc
          refine lv_iconst (v := (0 : Int32)) hx hb dX5_trouble_40 (by decide) ?_
          obtain ez0 := r_eq1 h
          subst ez0
          exact ret_i X hP2 hS2 dX5_trouble_41
        · replace h := t_neg h hc
          clear hc
          refine lv_bipush (v := (-13 : Int32)) hx hb dX5_trouble_35 (by decide) ?_
          refine lv_goto (tgt := 41) hx hb dX5_trouble_37 (by decide) ?_
          obtain ez0 := r_eq1 h
          subst ez0
          exact ret_i X hP2 hS2 dX5_trouble_41
    · replace h := t_neg h hc
      clear hc
      refine lv_bipush (v := (-12 : Int32)) hx hb dX5_trouble_18 (by decide) ?_
      obtain ez0 := r_eq1 h
      subst ez0
      exact ret_i X hP2 hS2 dX5_trouble_20
  · replace h := t_pos h hc
    clear hc
    refine lv_bipush (v := (-11 : Int32)) hx hb dX5_trouble_7 (by decide) ?_
    obtain ez0 := r_eq1 h
    subst ez0
    exact ret_i X hP2 hS2 dX5_trouble_9
/-! PloughMaze$Sheet.put -/
abbrev rmX5_put : Room := { frames := 0, cells := 0, slots := 0, locals := 0 }
def SX5_put_44 (p : Program) (l : Launch) (e : Env) (s : State) (m : MethodId) (args : Array Value) (below : List Frame) (meth : Method) (c : Code) (G : va_G) (cI cO : ClassId) (A : Nat → Prop) (a_ a_items : Nat) (v_laneHeld : Int32) (v_size : Int32) (o_items : Nat → Int32) (k : (Nat → Int32) → Int32 → Int32 → Option ((Nat → Int32))) : Prop := ∀ (v_items : Nat → Int32) (s1 : Int32) (s2 : Int32) (H : Heap) (locs : List Loc), va_P G vwCl [(a_, .inr (4, [.ref a_items, .int v_laneHeld, .int v_size])), (a_items, .inl (cI, 36, .inl v_items))] H → va_D A [(a_, .inr (4, [.ref a_items, .int v_laneHeld, .int v_size])), (a_items, .inl (cI, 36, .inl v_items))] → va_S A s.heap H locs → ∀ (ls : Array Slot), lv_has ls 3 [] → k v_items s1 s2 = some o_items → W p l e rmX5_put s m args below meth c H locs 0 0 (MQ below (QcV G A [(a_, .inr (4, [.ref a_items, .int v_laneHeld, .int v_size])), (a_items, .inl (cI, 36, .inl o_items))]) args s 0 0 A) (F0 m 44 ls [.int s2, .int s1, .ref a_items])
set_option maxHeartbeats 4000000 in
set_option maxRecDepth 100000 in
theorem bX5_put_44 {p : Program} {l : Launch} {e : Env} {s : State} {m : MethodId} {args : Array Value} {below : List Frame} {meth : Method} {c : Code} {G : va_G} {cI cO : ClassId} {A : Nat → Prop} {a_ a_items : Nat} {v_laneHeld : Int32} {v_size : Int32} {o_items : Nat → Int32} (X : BX p rmX5_put s m args meth c cX5_put 3 none RX5 G cI cO A) : SX5_put_44 p l e s m args below meth c G cI cO A a_ a_items v_laneHeld v_size o_items fX5_put_44 := by
  intro v_items s1 s2 H0 locs0 hP0 hD0 hS0 ls0 hl0 h
  unfold fX5_put_44 at h
  obtain ⟨hx, hb, hml, hr, hown, hts, hlocks, hK, hN, hA, hZ⟩ := id X
  replace h := g_in h; obtain ⟨hg, h⟩ := h
  refine va_iast hx hb hK hP0 hD0 hS0 1 0 rfl rfl (inb_ok hg) dX5_put_44 (fun H1 locs1 hP1 hD1 hS1 => ?_)
  replace hP1 : va_P G vwCl [(a_, .inr (4, [.ref a_items, .int v_laneHeld, .int v_size])), (a_items, .inl (cI, 36, .inl ((upd v_items s1.toNatClampNeg s2))))] H1 := hP1
  replace hD1 : va_D A [(a_, .inr (4, [.ref a_items, .int v_laneHeld, .int v_size])), (a_items, .inl (cI, 36, .inl ((upd v_items s1.toNatClampNeg s2))))] := hD1
  clear hg
  obtain ez0 := r_eq1 h
  subst ez0
  exact ret_v X hP1 hS1 dX5_put_45
set_option maxHeartbeats 4000000 in
set_option maxRecDepth 100000 in
theorem mX5_put (l : Launch) (G : va_G) (cI cO : ClassId) (a_ a_items : Nat) (sz : Nat) (v_laneHeld : Int32) (v_size : Int32) (v_items : Nat → Int32) (x1 : Int32) (x2 : Int32) {o_items : Nat → Int32} (h : fX5_put v_items v_laneHeld v_size x1 x2 = some o_items) : Met l yX5_put (wsM yX5_put cX5_put 3 none) rmX5_put (va_Pc [.ref a_, .int x1, .int x2] (preW G cI cO sz [(a_, .inr (4, [.ref a_items, .int v_laneHeld, .int v_size])), (a_items, .inl (cI, 36, .inl v_items))])) (QcV G (va_A [(a_, .inr (4, [.ref a_items, .int v_laneHeld, .int v_size])), (a_items, .inl (cI, 36, .inl v_items))] sz) [(a_, .inr (4, [.ref a_items, .int v_laneHeld, .int v_size])), (a_items, .inl (cI, 36, .inl o_items))]) 0 0 (va_A [(a_, .inr (4, [.ref a_items, .int v_laneHeld, .int v_size])), (a_items, .inl (cI, 36, .inl v_items))] sz) := by
  refine mkMet (own := RX5) (by decide) rfl (Nat.le_of_ble_eq_true rfl) ?_
  intro p e s m args below meth c _ hsz _ X hP0 hD0 ls0 hl0
  have hS0 : va_S (va_A [(a_, .inr (4, [.ref a_items, .int v_laneHeld, .int v_size])), (a_items, .inl (cI, 36, .inl v_items))] sz) s.heap s.heap [] := va_S.rf
  replace hl0 : lv_has ls0 3 [(0, .ref a_), (1, .int x1), (2, .int x2)] := hl0
  generalize va_A [(a_, .inr (4, [.ref a_items, .int v_laneHeld, .int v_size])), (a_items, .inl (cI, 36, .inl v_items))] sz = A at X hD0 hS0 ⊢
  unfold fX5_put at h
  obtain ⟨hx, hb, hml, hr, hown, hts, hlocks, hK, hN, hA, hZ⟩ := id X
  refine lv_iload_n hx hb dX5_put_0 rfl (lv_at hl0 1 rfl) ?_
  refine lv_if_lt (tgt := 12) hx hb dX5_put_1 (by decide) (fun hc => ?_) (fun hc => ?_)
  · replace h := t_pos h hc
    clear hc
    obtain ez0 := r_eq1 h
    subst ez0
    exact ret_v X hP0 hS0 dX5_put_12
  · replace h := t_neg h hc
    clear hc
    refine lv_iload_n hx hb dX5_put_4 rfl (lv_at hl0 1 rfl) ?_
    refine lv_aload_n hx hb dX5_put_5 rfl (lv_at hl0 0 rfl) ?_
    refine va_get (D := G) (ci := 4) (v := .int v_size) (C := RX5) (T := TX5) (N := 3) hx hb hts gwX5 hown hK hP0 0 rfl rfl 2 (by decide) (hts _ fl_X5_19) (fun _ h9 => h9) rfl dX5_put_6 ?_
    refine lv_icmp_lt (tgt := 13) hx hb dX5_put_9 (by decide) (fun hc => ?_) (fun hc => ?_)
    · replace h := t_pos h hc
      clear hc
      refine lv_aload_n hx hb dX5_put_13 rfl (lv_at hl0 0 rfl) ?_
      refine va_get (D := G) (ci := 4) (v := .ref a_items) (C := RX5) (T := TX5) (N := 3) hx hb hts gwX5 hown hK hP0 0 rfl rfl 0 (by decide) (hts _ fl_X5_9) (fun _ h9 => h9) rfl dX5_put_14 ?_
      refine lv_iload_n hx hb dX5_put_17 rfl (lv_at hl0 1 rfl) ?_
      refine lv_aload_n hx hb dX5_put_18 rfl (lv_at hl0 0 rfl) ?_
      refine va_get (D := G) (ci := 4) (v := .int v_laneHeld) (C := RX5) (T := TX5) (N := 3) hx hb hts gwX5 hown hK hP0 0 rfl rfl 1 (by decide) (hts _ fl_X5_15) (fun _ h9 => h9) rfl dX5_put_19 ?_
      refine lv_if_ne (tgt := 30) hx hb dX5_put_22 (by decide) (fun hc => ?_) (fun hc => ?_)
      · replace h := t_neg h hc
        clear hc
        refine lv_aload_n hx hb dX5_put_30 rfl (lv_at hl0 0 rfl) ?_
        refine va_get (D := G) (ci := 4) (v := .int v_laneHeld) (C := RX5) (T := TX5) (N := 3) hx hb hts gwX5 hown hK hP0 0 rfl rfl 1 (by decide) (hts _ fl_X5_15) (fun _ h9 => h9) rfl dX5_put_31 ?_
        refine lv_iconst (v := (1 : Int32)) hx hb dX5_put_34 (by decide) ?_
        refine lv_icmp_ne (tgt := 43) hx hb dX5_put_35 (by decide) (fun hc => ?_) (fun hc => ?_)
        · replace h := t_neg h hc
          clear hc
          refine lv_iload_n hx hb dX5_put_43 rfl (lv_at hl0 2 rfl) ?_
          exact bX5_put_44 X v_items x1 x2 s.heap [] hP0 hD0 hS0 ls0 (lv_sub hl0 [] rfl) h
        · replace h := t_pos h hc
          clear hc
          refine lv_iload_n hx hb dX5_put_38 rfl (lv_at hl0 2 rfl) ?_
          refine lv_i2s (v := ((x2).toInt16.toInt32)) hx hb dX5_put_39 rfl ?_
          refine lv_goto (tgt := 44) hx hb dX5_put_40 (by decide) ?_
          exact bX5_put_44 X v_items x1 (((x2).toInt16.toInt32)) s.heap [] hP0 hD0 hS0 ls0 (lv_sub hl0 [] rfl) h
      · replace h := t_pos h hc
        clear hc
        refine lv_iload_n hx hb dX5_put_25 rfl (lv_at hl0 2 rfl) ?_
        refine lv_i2b (v := ((x2).toInt8.toInt32)) hx hb dX5_put_26 rfl ?_
        refine lv_goto (tgt := 44) hx hb dX5_put_27 (by decide) ?_
        exact bX5_put_44 X v_items x1 (((x2).toInt8.toInt32)) s.heap [] hP0 hD0 hS0 ls0 (lv_sub hl0 [] rfl) h
    · replace h := t_neg h hc
      clear hc
      obtain ez0 := r_eq1 h
      subst ez0
      exact ret_v X hP0 hS0 dX5_put_12
