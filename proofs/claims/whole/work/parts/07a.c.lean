/-! PloughMaze$Grid.isSquare -/
abbrev rmX3_isSquare : Room := { frames := 0, cells := 0, slots := 0, locals := 0 }
set_option maxHeartbeats 4000000 in
set_option maxRecDepth 100000 in
theorem mX3_isSquare (l : Launch) (G : va_G) (cI cO : ClassId) (sz : Nat)  (x0 : Int32) {ret : Int32} (h : fX3_isSquare x0 = some ret) : Met l yX3_isSquare (wsM yX3_isSquare cX3_isSquare 1 (some .boolean)) rmX3_isSquare (va_Pc [.int x0] (preW G cI cO sz [])) (QcI G (va_A [] sz) ret []) 0 0 (va_A [] sz) := by
  refine mkMet (own := RX3) (by decide) rfl (Nat.le_of_ble_eq_true rfl) ?_
  intro p e s m args below meth c _ hsz _ X hP0 hD0 ls0 hl0
  have hS0 : va_S (va_A [] sz) s.heap s.heap [] := va_S.rf
  replace hl0 : lv_has ls0 1 [(0, .int x0)] := hl0
  generalize va_A [] sz = A at X hD0 hS0 ⊢
  unfold fX3_isSquare at h
  obtain ⟨hx, hb, hml, hr, hown, hts, hlocks, hK, hN, hA, hZ⟩ := id X
  refine lv_iload_n hx hb dX3_isSquare_0 rfl (lv_at hl0 0 rfl) ?_
  refine lv_if_lt (tgt := 14) hx hb dX3_isSquare_1 (by decide) (fun hc => ?_) (fun hc => ?_)
  · replace h := t_pos h hc
    clear hc
    refine lv_iconst (v := (0 : Int32)) hx hb dX3_isSquare_14 (by decide) ?_
    obtain ez0 := r_eq1 h
    subst ez0
    exact ret_z X hP0 hS0 rfl dX3_isSquare_15
  · replace h := t_neg h hc
    clear hc
    refine lv_iload_n hx hb dX3_isSquare_4 rfl (lv_at hl0 0 rfl) ?_
    refine lv_bipush (v := (36 : Int32)) hx hb dX3_isSquare_5 (by decide) ?_
    refine lv_icmp_ge (tgt := 14) hx hb dX3_isSquare_7 (by decide) (fun hc => ?_) (fun hc => ?_)
    · replace h := t_pos h hc
      clear hc
      refine lv_iconst (v := (0 : Int32)) hx hb dX3_isSquare_14 (by decide) ?_
      obtain ez0 := r_eq1 h
      subst ez0
      exact ret_z X hP0 hS0 rfl dX3_isSquare_15
    · replace h := t_neg h hc
      clear hc
      refine lv_iconst (v := (1 : Int32)) hx hb dX3_isSquare_10 (by decide) ?_
      refine lv_goto (tgt := 15) hx hb dX3_isSquare_11 (by decide) ?_
      obtain ez0 := r_eq1 h
      subst ez0
      exact ret_z X hP0 hS0 rfl dX3_isSquare_15
/-! PloughMaze$Grid.isSide -/
abbrev rmX3_isSide : Room := { frames := 0, cells := 0, slots := 0, locals := 0 }
set_option maxHeartbeats 4000000 in
set_option maxRecDepth 100000 in
theorem mX3_isSide (l : Launch) (G : va_G) (cI cO : ClassId) (sz : Nat)  (x0 : Int32) {ret : Int32} (h : fX3_isSide x0 = some ret) : Met l yX3_isSide (wsM yX3_isSide cX3_isSide 1 (some .boolean)) rmX3_isSide (va_Pc [.int x0] (preW G cI cO sz [])) (QcI G (va_A [] sz) ret []) 0 0 (va_A [] sz) := by
  refine mkMet (own := RX3) (by decide) rfl (Nat.le_of_ble_eq_true rfl) ?_
  intro p e s m args below meth c _ hsz _ X hP0 hD0 ls0 hl0
  have hS0 : va_S (va_A [] sz) s.heap s.heap [] := va_S.rf
  replace hl0 : lv_has ls0 1 [(0, .int x0)] := hl0
  generalize va_A [] sz = A at X hD0 hS0 ⊢
  unfold fX3_isSide at h
  obtain ⟨hx, hb, hml, hr, hown, hts, hlocks, hK, hN, hA, hZ⟩ := id X
  refine lv_iload_n hx hb dX3_isSide_0 rfl (lv_at hl0 0 rfl) ?_
  refine lv_if_lt (tgt := 13) hx hb dX3_isSide_1 (by decide) (fun hc => ?_) (fun hc => ?_)
  · replace h := t_pos h hc
    clear hc
    refine lv_iconst (v := (0 : Int32)) hx hb dX3_isSide_13 (by decide) ?_
    obtain ez0 := r_eq1 h
    subst ez0
    exact ret_z X hP0 hS0 rfl dX3_isSide_14
  · replace h := t_neg h hc
    clear hc
    refine lv_iload_n hx hb dX3_isSide_4 rfl (lv_at hl0 0 rfl) ?_
    refine lv_iconst (v := (4 : Int32)) hx hb dX3_isSide_5 (by decide) ?_
    refine lv_icmp_ge (tgt := 13) hx hb dX3_isSide_6 (by decide) (fun hc => ?_) (fun hc => ?_)
    · replace h := t_pos h hc
      clear hc
      refine lv_iconst (v := (0 : Int32)) hx hb dX3_isSide_13 (by decide) ?_
      obtain ez0 := r_eq1 h
      subst ez0
      exact ret_z X hP0 hS0 rfl dX3_isSide_14
    · replace h := t_neg h hc
      clear hc
      refine lv_iconst (v := (1 : Int32)) hx hb dX3_isSide_9 (by decide) ?_
      refine lv_goto (tgt := 14) hx hb dX3_isSide_10 (by decide) ?_
      obtain ez0 := r_eq1 h
      subst ez0
      exact ret_z X hP0 hS0 rfl dX3_isSide_14
/-! PloughMaze$Grid.next -/
abbrev rmX3_next : Room := { frames := 0, cells := 0, slots := 0, locals := 0 }
set_option maxHeartbeats 4000000 in
set_option maxRecDepth 100000 in
theorem mX3_next (l : Launch) (G : va_G) (cI cO : ClassId) (sz : Nat)  (x0 : Int32) (x1 : Int32) {ret : Int32} (h : fX3_next x0 x1 = some ret) : Met l yX3_next (wsM yX3_next cX3_next 2 (some .int)) rmX3_next (va_Pc [.int x0, .int x1] (preW G cI cO sz [])) (QcI G (va_A [] sz) ret []) 0 0 (va_A [] sz) := by
  refine mkMet (own := RX3) (by decide) rfl (Nat.le_of_ble_eq_true rfl) ?_
  intro p e s m args below meth c _ hsz _ X hP0 hD0 ls0 hl0
  have hS0 : va_S (va_A [] sz) s.heap s.heap [] := va_S.rf
  replace hl0 : lv_has ls0 2 [(0, .int x0), (1, .int x1)] := hl0
  generalize va_A [] sz = A at X hD0 hS0 ⊢
  unfold fX3_next at h
  obtain ⟨hx, hb, hml, hr, hown, hts, hlocks, hK, hN, hA, hZ⟩ := id X
  refine lv_iload_n hx hb dX3_next_0 rfl (lv_at hl0 0 rfl) ?_
  refine lv_if_lt (tgt := 10) hx hb dX3_next_1 (by decide) (fun hc => ?_) (fun hc => ?_)
  · replace h := t_pos h hc
    clear hc
    refine lv_bipush (v := (-4 : Int32)) hx hb dX3_next_10 (by decide) ?_
    obtain ez0 := r_eq1 h
    subst ez0
    exact ret_i X hP0 hS0 dX3_next_12
  · replace h := t_neg h hc
    clear hc
    refine lv_iload_n hx hb dX3_next_4 rfl (lv_at hl0 0 rfl) ?_
    refine lv_bipush (v := (36 : Int32)) hx hb dX3_next_5 (by decide) ?_
    refine lv_icmp_lt (tgt := 13) hx hb dX3_next_7 (by decide) (fun hc => ?_) (fun hc => ?_)
    · replace h := t_pos h hc
      clear hc
      refine lv_iload_n hx hb dX3_next_13 rfl (lv_at hl0 1 rfl) ?_
      by_cases hc0 : x1 = (0 : Int32)
      · replace h := t_pos h hc0
        refine lv_tableIn (off := 30) (tgt := 44) hx hb dX3_next_14 (by rw [hc0]; decide) (by rw [hc0]; decide) (by rw [hc0]; rfl) (by decide) ?_
        clear hc0
        refine lv_iload_n hx hb dX3_next_44 rfl (lv_at hl0 0 rfl) ?_
        refine lv_bipush (v := (6 : Int32)) hx hb dX3_next_45 (by decide) ?_
        refine lv_icmp_lt (tgt := 57) hx hb dX3_next_47 (by decide) (fun hc => ?_) (fun hc => ?_)
        · replace h := t_pos h hc
          clear hc
          refine lv_bipush (v := (-4 : Int32)) hx hb dX3_next_57 (by decide) ?_
          obtain ez0 := r_eq1 h
          subst ez0
          exact ret_i X hP0 hS0 dX3_next_59
        · replace h := t_neg h hc
          clear hc
          refine lv_iload_n hx hb dX3_next_50 rfl (lv_at hl0 0 rfl) ?_
          refine lv_bipush (v := (6 : Int32)) hx hb dX3_next_51 (by decide) ?_
          refine lv_isub hx hb dX3_next_53 ?_
          refine lv_goto (tgt := 59) hx hb dX3_next_54 (by decide) ?_
          obtain ez0 := r_eq1 h
          subst ez0
          exact ret_i X hP0 hS0 dX3_next_59
      replace h := t_neg h hc0
      by_cases hc1 : x1 = (1 : Int32)
      · replace h := t_pos h hc1
        refine lv_tableIn (off := 46) (tgt := 60) hx hb dX3_next_14 (by rw [hc1]; decide) (by rw [hc1]; decide) (by rw [hc1]; rfl) (by decide) ?_
        clear hc1
        refine lv_iload_n hx hb dX3_next_60 rfl (lv_at hl0 0 rfl) ?_
        refine lv_bipush (v := (6 : Int32)) hx hb dX3_next_61 (by decide) ?_
        refine lv_irem hx hb dX3_next_63 (by decide) ?_
        refine lv_if_le (tgt := 73) hx hb dX3_next_64 (by decide) (fun hc => ?_) (fun hc => ?_)
        · replace h := t_pos h hc
          clear hc
          refine lv_bipush (v := (-4 : Int32)) hx hb dX3_next_73 (by decide) ?_
          obtain ez0 := r_eq1 h
          subst ez0
          exact ret_i X hP0 hS0 dX3_next_75
        · replace h := t_neg h hc
          clear hc
          refine lv_iload_n hx hb dX3_next_67 rfl (lv_at hl0 0 rfl) ?_
          refine lv_iconst (v := (1 : Int32)) hx hb dX3_next_68 (by decide) ?_
          refine lv_isub hx hb dX3_next_69 ?_
          refine lv_goto (tgt := 75) hx hb dX3_next_70 (by decide) ?_
          obtain ez0 := r_eq1 h
          subst ez0
          exact ret_i X hP0 hS0 dX3_next_75
      replace h := t_neg h hc1
      by_cases hc2 : x1 = (2 : Int32)
      · replace h := t_pos h hc2
        refine lv_tableIn (off := 62) (tgt := 76) hx hb dX3_next_14 (by rw [hc2]; decide) (by rw [hc2]; decide) (by rw [hc2]; rfl) (by decide) ?_
        clear hc2
        refine lv_iload_n hx hb dX3_next_76 rfl (lv_at hl0 0 rfl) ?_
        refine lv_bipush (v := (6 : Int32)) hx hb dX3_next_77 (by decide) ?_
        refine lv_irem hx hb dX3_next_79 (by decide) ?_
        refine lv_iconst (v := (5 : Int32)) hx hb dX3_next_80 (by decide) ?_
        refine lv_icmp_ge (tgt := 90) hx hb dX3_next_81 (by decide) (fun hc => ?_) (fun hc => ?_)
        · replace h := t_pos h hc
          clear hc
          refine lv_bipush (v := (-4 : Int32)) hx hb dX3_next_90 (by decide) ?_
          obtain ez0 := r_eq1 h
          subst ez0
          exact ret_i X hP0 hS0 dX3_next_92
        · replace h := t_neg h hc
          clear hc
          refine lv_iload_n hx hb dX3_next_84 rfl (lv_at hl0 0 rfl) ?_
          refine lv_iconst (v := (1 : Int32)) hx hb dX3_next_85 (by decide) ?_
          refine lv_iadd hx hb dX3_next_86 ?_
          refine lv_goto (tgt := 92) hx hb dX3_next_87 (by decide) ?_
          obtain ez0 := r_eq1 h
          subst ez0
          exact ret_i X hP0 hS0 dX3_next_92
      replace h := t_neg h hc2
      by_cases hc3 : x1 = (3 : Int32)
      · replace h := t_pos h hc3
        refine lv_tableIn (off := 79) (tgt := 93) hx hb dX3_next_14 (by rw [hc3]; decide) (by rw [hc3]; decide) (by rw [hc3]; rfl) (by decide) ?_
        clear hc3
        refine lv_iload_n hx hb dX3_next_93 rfl (lv_at hl0 0 rfl) ?_
        refine lv_bipush (v := (30 : Int32)) hx hb dX3_next_94 (by decide) ?_
        refine lv_icmp_ge (tgt := 106) hx hb dX3_next_96 (by decide) (fun hc => ?_) (fun hc => ?_)
        · replace h := t_pos h hc
          clear hc
          refine lv_bipush (v := (-4 : Int32)) hx hb dX3_next_106 (by decide) ?_
          obtain ez0 := r_eq1 h
          subst ez0
          exact ret_i X hP0 hS0 dX3_next_108
        · replace h := t_neg h hc
          clear hc
          refine lv_iload_n hx hb dX3_next_99 rfl (lv_at hl0 0 rfl) ?_
          refine lv_bipush (v := (6 : Int32)) hx hb dX3_next_100 (by decide) ?_
          refine lv_iadd hx hb dX3_next_102 ?_
          refine lv_goto (tgt := 108) hx hb dX3_next_103 (by decide) ?_
          obtain ez0 := r_eq1 h
          subst ez0
          exact ret_i X hP0 hS0 dX3_next_108
      replace h := t_neg h hc3
      refine lv_tableOut (tgt := 109) hx hb dX3_next_14 (tab_out 4 (by decide) (List.forall_mem_cons.mpr ⟨hc0, (List.forall_mem_cons.mpr ⟨hc1, (List.forall_mem_cons.mpr ⟨hc2, (List.forall_mem_cons.mpr ⟨hc3, fun _ h9 => absurd h9 List.not_mem_nil⟩)⟩)⟩)⟩)) (by decide) ?_
      refine lv_bipush (v := (-4 : Int32)) hx hb dX3_next_109 (by decide) ?_
      obtain ez0 := r_eq1 h
      subst ez0
      exact ret_i X hP0 hS0 dX3_next_111
    · replace h := t_neg h hc
      clear hc
      refine lv_bipush (v := (-4 : Int32)) hx hb dX3_next_10 (by decide) ?_
      obtain ez0 := r_eq1 h
      subst ez0
      exact ret_i X hP0 hS0 dX3_next_12
/-! PloughMaze$Grid.between -/
abbrev rmX3_between : Room := { frames := 0, cells := 0, slots := 0, locals := 0 }
def SX3_between_21 (p : Program) (l : Launch) (e : Env) (s : State) (m : MethodId) (args : Array Value) (below : List Frame) (meth : Method) (c : Code) (G : va_G) (cI cO : ClassId) (A : Nat → Prop) (ret : Int64) (k : Int32 → Int32 → Option (Int64)) : Prop := ∀ (x2 : Int32) (s0 : Int32) (H : Heap) (locs : List Loc), va_P G vwCl [] H → va_D A [] → va_S A s.heap H locs → ∀ (ls : Array Slot), lv_has ls 4 [(2, .int x2)] → k x2 s0 = some ret → W p l e rmX3_between s m args below meth c H locs 0 0 (MQ below (QcL G A ret []) args s 0 0 A) (F0 m 21 ls [.int s0])
def SX3_between_10 (p : Program) (l : Launch) (e : Env) (s : State) (m : MethodId) (args : Array Value) (below : List Frame) (meth : Method) (c : Code) (G : va_G) (cI cO : ClassId) (A : Nat → Prop) (ret : Int64) (k : Int32 → Int32 → Int32 → Option (Int64)) : Prop := ∀ (x0 : Int32) (x1 : Int32) (s0 : Int32) (H : Heap) (locs : List Loc), va_P G vwCl [] H → va_D A [] → va_S A s.heap H locs → ∀ (ls : Array Slot), lv_has ls 4 [(0, .int x0), (1, .int x1)] → k x0 x1 s0 = some ret → W p l e rmX3_between s m args below meth c H locs 0 0 (MQ below (QcL G A ret []) args s 0 0 A) (F0 m 10 ls [.int s0])
set_option maxHeartbeats 4000000 in
set_option maxRecDepth 100000 in
theorem bX3_between_21 {p : Program} {l : Launch} {e : Env} {s : State} {m : MethodId} {args : Array Value} {below : List Frame} {meth : Method} {c : Code} {G : va_G} {cI cO : ClassId} {A : Nat → Prop} {ret : Int64} (X : BX p rmX3_between s m args meth c cX3_between 4 (some .long) RX3 G cI cO A) : SX3_between_21 p l e s m args below meth c G cI cO A ret fX3_between_21 := by
  intro x2 s0 H0 locs0 hP0 hD0 hS0 ls0 hl0 h
  unfold fX3_between_21 at h
  obtain ⟨hx, hb, hml, hr, hown, hts, hlocks, hK, hN, hA, hZ⟩ := id X
  refine lv_istore_n (lv' := [(3, .int s0), (2, .int x2)]) hx hb dX3_between_21 rfl hl0 (by decide) rfl (fun ls1 hl1 => ?_)
  refine lv_iload_n hx hb dX3_between_22 rfl (lv_at hl1 1 rfl) ?_
  refine lv_if_lt (tgt := 32) hx hb dX3_between_23 (by decide) (fun hc => ?_) (fun hc => ?_)
  · replace h := t_pos h hc
    clear hc
    refine lv_lconst (v := (0 : Int64)) hx hb dX3_between_32 (by decide) ?_
    obtain ez0 := r_eq1 h
    subst ez0
    exact ret_l X hP0 hS0 dX3_between_33
  · replace h := t_neg h hc
    clear hc
    refine lv_iload_n hx hb dX3_between_26 rfl (lv_at hl1 0 rfl) ?_
    refine lv_bipush (v := (36 : Int32)) hx hb dX3_between_27 (by decide) ?_
    refine lv_icmp_lt (tgt := 34) hx hb dX3_between_29 (by decide) (fun hc => ?_) (fun hc => ?_)
    · replace h := t_pos h hc
      clear hc
      refine lv_iload_n hx hb dX3_between_34 rfl (lv_at hl1 0 rfl) ?_
      refine lv_iload_n hx hb dX3_between_35 rfl (lv_at hl1 1 rfl) ?_
      refine lv_isub hx hb dX3_between_36 ?_
      refine lv_bipush (v := (6 : Int32)) hx hb dX3_between_37 (by decide) ?_
      refine lv_icmp_ne (tgt := 46) hx hb dX3_between_39 (by decide) (fun hc => ?_) (fun hc => ?_)
      · replace h := t_neg h hc
        clear hc
        refine lv_iload_n hx hb dX3_between_46 rfl (lv_at hl1 0 rfl) ?_
        refine lv_iload_n hx hb dX3_between_47 rfl (lv_at hl1 1 rfl) ?_
        refine lv_isub hx hb dX3_between_48 ?_
        refine lv_iconst (v := (1 : Int32)) hx hb dX3_between_49 (by decide) ?_
        refine lv_icmp_ne (tgt := 74) hx hb dX3_between_50 (by decide) (fun hc => ?_) (fun hc => ?_)
        · replace h := t_neg h hc
          clear hc
          refine lv_lconst (v := (0 : Int64)) hx hb dX3_between_74 (by decide) ?_
          obtain ez0 := r_eq1 h
          subst ez0
          exact ret_l X hP0 hS0 dX3_between_75
        · replace h := t_pos h hc
          clear hc
          refine lv_iload_n hx hb dX3_between_53 rfl (lv_at hl1 0 rfl) ?_
          refine lv_bipush (v := (6 : Int32)) hx hb dX3_between_54 (by decide) ?_
          refine lv_irem hx hb dX3_between_56 (by decide) ?_
          refine lv_if_eq (tgt := 74) hx hb dX3_between_57 (by decide) (fun hc => ?_) (fun hc => ?_)
          · replace h := t_pos h hc
            clear hc
            refine lv_lconst (v := (0 : Int64)) hx hb dX3_between_74 (by decide) ?_
            obtain ez0 := r_eq1 h
            subst ez0
            exact ret_l X hP0 hS0 dX3_between_75
          · replace h := t_neg h hc
            clear hc
            refine lv_lconst (v := (1 : Int64)) hx hb dX3_between_60 (by decide) ?_
            refine lv_bipush (v := (30 : Int32)) hx hb dX3_between_61 (by decide) ?_
            refine lv_iload_n hx hb dX3_between_63 rfl (lv_at hl1 1 rfl) ?_
            refine lv_iadd hx hb dX3_between_64 ?_
            refine lv_iload_n hx hb dX3_between_65 rfl (lv_at hl1 1 rfl) ?_
            refine lv_bipush (v := (6 : Int32)) hx hb dX3_between_66 (by decide) ?_
            refine lv_idiv hx hb dX3_between_68 (by decide) ?_
            refine lv_isub hx hb dX3_between_69 ?_
            refine lv_lshl (v := ((1 : Int64) <<< ((((30 : Int32) + x2) - (x2 / (6 : Int32))).toInt64 &&& 63))) hx hb dX3_between_70 rfl ?_
            refine lv_goto (tgt := 75) hx hb dX3_between_71 (by decide) ?_
            obtain ez0 := r_eq1 h
            subst ez0
            exact ret_l X hP0 hS0 dX3_between_75
      · replace h := t_pos h hc
        clear hc
        refine lv_lconst (v := (1 : Int64)) hx hb dX3_between_42 (by decide) ?_
        refine lv_iload_n hx hb dX3_between_43 rfl (lv_at hl1 1 rfl) ?_
        refine lv_lshl (v := ((1 : Int64) <<< (x2.toInt64 &&& 63))) hx hb dX3_between_44 rfl ?_
        obtain ez0 := r_eq1 h
        subst ez0
        exact ret_l X hP0 hS0 dX3_between_45
    · replace h := t_neg h hc
      clear hc
      refine lv_lconst (v := (0 : Int64)) hx hb dX3_between_32 (by decide) ?_
      obtain ez0 := r_eq1 h
      subst ez0
      exact ret_l X hP0 hS0 dX3_between_33
set_option maxHeartbeats 4000000 in
set_option maxRecDepth 100000 in
theorem bX3_between_10 {p : Program} {l : Launch} {e : Env} {s : State} {m : MethodId} {args : Array Value} {below : List Frame} {meth : Method} {c : Code} {G : va_G} {cI cO : ClassId} {A : Nat → Prop} {ret : Int64} (X : BX p rmX3_between s m args meth c cX3_between 4 (some .long) RX3 G cI cO A) : SX3_between_10 p l e s m args below meth c G cI cO A ret fX3_between_10 := by
  intro x0 x1 s0 H0 locs0 hP0 hD0 hS0 ls0 hl0 h
  unfold fX3_between_10 at h
  obtain ⟨hx, hb, hml, hr, hown, hts, hlocks, hK, hN, hA, hZ⟩ := id X
  refine lv_istore_n (lv' := [(2, .int s0), (0, .int x0), (1, .int x1)]) hx hb dX3_between_10 rfl hl0 (by decide) rfl (fun ls1 hl1 => ?_)
  refine lv_iload_n hx hb dX3_between_11 rfl (lv_at hl1 1 rfl) ?_
  refine lv_iload_n hx hb dX3_between_12 rfl (lv_at hl1 2 rfl) ?_
  refine lv_icmp_ge (tgt := 20) hx hb dX3_between_13 (by decide) (fun hc => ?_) (fun hc => ?_)
  · replace h := t_pos h hc
    clear hc
    refine lv_iload_n hx hb dX3_between_20 rfl (lv_at hl1 1 rfl) ?_
    exact bX3_between_21 X s0 x0 H0 locs0 hP0 hD0 hS0 ls1 (lv_sub hl1 [0] rfl) h
  · replace h := t_neg h hc
    clear hc
    refine lv_iload_n hx hb dX3_between_16 rfl (lv_at hl1 2 rfl) ?_
    refine lv_goto (tgt := 21) hx hb dX3_between_17 (by decide) ?_
    exact bX3_between_21 X s0 x1 H0 locs0 hP0 hD0 hS0 ls1 (lv_sub hl1 [0] rfl) h
set_option maxHeartbeats 4000000 in
set_option maxRecDepth 100000 in
theorem mX3_between (l : Launch) (G : va_G) (cI cO : ClassId) (sz : Nat)  (x0 : Int32) (x1 : Int32) {ret : Int64} (h : fX3_between x0 x1 = some ret) : Met l yX3_between (wsM yX3_between cX3_between 4 (some .long)) rmX3_between (va_Pc [.int x0, .int x1] (preW G cI cO sz [])) (QcL G (va_A [] sz) ret []) 0 0 (va_A [] sz) := by
  refine mkMet (own := RX3) (by decide) rfl (Nat.le_of_ble_eq_true rfl) ?_
  intro p e s m args below meth c _ hsz _ X hP0 hD0 ls0 hl0
  have hS0 : va_S (va_A [] sz) s.heap s.heap [] := va_S.rf
  replace hl0 : lv_has ls0 4 [(0, .int x0), (1, .int x1)] := hl0
  generalize va_A [] sz = A at X hD0 hS0 ⊢
  unfold fX3_between at h
  obtain ⟨hx, hb, hml, hr, hown, hts, hlocks, hK, hN, hA, hZ⟩ := id X
  refine lv_iload_n hx hb dX3_between_0 rfl (lv_at hl0 0 rfl) ?_
  refine lv_iload_n hx hb dX3_between_1 rfl (lv_at hl0 1 rfl) ?_
  refine lv_icmp_ge (tgt := 9) hx hb dX3_between_2 (by decide) (fun hc => ?_) (fun hc => ?_)
  · replace h := t_pos h hc
    clear hc
    refine lv_iload_n hx hb dX3_between_9 rfl (lv_at hl0 1 rfl) ?_
    exact bX3_between_10 X x0 x1 x1 s.heap [] hP0 hD0 hS0 ls0 (lv_sub hl0 [0, 1] rfl) h
  · replace h := t_neg h hc
    clear hc
    refine lv_iload_n hx hb dX3_between_5 rfl (lv_at hl0 0 rfl) ?_
    refine lv_goto (tgt := 10) hx hb dX3_between_6 (by decide) ?_
    exact bX3_between_10 X x0 x1 x0 s.heap [] hP0 hD0 hS0 ls0 (lv_sub hl0 [0, 1] rfl) h
/-! PloughMaze$Grid.edge -/
abbrev rmX3_edge : Room := { frames := 1, cells := 0, slots := 0, locals := 23 }
set_option maxHeartbeats 4000000 in
set_option maxRecDepth 100000 in
theorem mX3_edge (l : Launch) (G : va_G) (cI cO : ClassId) (sz : Nat)  (x0 : Int32) (x1 : Int32) {ret : Int64} (h : fX3_edge x0 x1 = some ret) : Met l yX3_edge (wsM yX3_edge cX3_edge 2 (some .long)) rmX3_edge (va_Pc [.int x0, .int x1] (preW G cI cO sz [])) (QcL G (va_A [] sz) ret []) 0 0 (va_A [] sz) := by
  refine mkMet (own := RX3) (by decide) rfl (Nat.le_of_ble_eq_true rfl) ?_
  intro p e s m args below meth c _ hsz _ X hP0 hD0 ls0 hl0
  have hS0 : va_S (va_A [] sz) s.heap s.heap [] := va_S.rf
  replace hl0 : lv_has ls0 2 [(0, .int x0), (1, .int x1)] := hl0
  generalize va_A [] sz = A at X hD0 hS0 ⊢
  unfold fX3_edge at h
  obtain ⟨hx, hb, hml, hr, hown, hts, hlocks, hK, hN, hA, hZ⟩ := id X
  refine lv_iload_n hx hb dX3_edge_0 rfl (lv_at hl0 0 rfl) ?_
  refine lv_iload_n hx hb dX3_edge_1 rfl (lv_at hl0 0 rfl) ?_
  refine lv_iload_n hx hb dX3_edge_2 rfl (lv_at hl0 1 rfl) ?_
  replace h := g_ob1 h
  obtain ⟨r1, hf1, h⟩ := h
  refine cal_i (wc := []) (w1 := []) (wn := []) X hP0 hD0 hS0 [] rfl rfl rfl rfl (run_S (As := [.int x0, .int x1]) (rest := [.int x0]) X hP0 hD0 hS0 [] rfl rfl (mX3_next l G cI cO   s.heap.size  x0 x1 hf1) ms_X3_next ml_X3_9 ⟨Nat.le_of_ble_eq_true rfl, Nat.le_of_ble_eq_true rfl⟩ rfl rfl rfl hl0.1 rfl (Nat.le_of_ble_eq_true rfl) ⟨Nat.zero_le _, Nat.zero_le _⟩ dX3_edge_3) (fun H2 locs2 hP2 hD2 hS2 => ?_)
  clear hf1
  replace h := g_ob1 h
  obtain ⟨r3, hf3, h⟩ := h
  refine cal_l (wc := []) (w1 := []) (wn := []) X hP2 hD2 hS2 [] rfl rfl rfl rfl (run_S (As := [.int x0, .int r1]) (rest := []) X hP2 hD2 hS2 [] rfl rfl (mX3_between l G cI cO   H2.size  x0 r1 hf3) ms_X3_between ml_X3_15 ⟨Nat.le_of_ble_eq_true rfl, Nat.le_of_ble_eq_true rfl⟩ rfl rfl rfl hl0.1 rfl (Nat.le_of_ble_eq_true rfl) ⟨Nat.zero_le _, Nat.zero_le _⟩ dX3_edge_6) (fun H4 locs4 hP4 hD4 hS4 => ?_)
  clear hf3 hP2 hD2 hS2
  obtain ez0 := r_eq1 h
  subst ez0
  exact ret_l X hP4 hS4 dX3_edge_9
/-! PloughMaze$Grid.rightOf -/
abbrev rmX3_rightOf : Room := { frames := 1, cells := 0, slots := 0, locals := 20 }
set_option maxHeartbeats 4000000 in
set_option maxRecDepth 100000 in
theorem mX3_rightOf (l : Launch) (G : va_G) (cI cO : ClassId) (sz : Nat)  (x0 : Int32) {ret : Int32} (h : fX3_rightOf x0 = some ret) : Met l yX3_rightOf (wsM yX3_rightOf cX3_rightOf 1 (some .int)) rmX3_rightOf (va_Pc [.int x0] (preW G cI cO sz [])) (QcI G (va_A [] sz) ret []) 0 0 (va_A [] sz) := by
  refine mkMet (own := RX3) (by decide) rfl (Nat.le_of_ble_eq_true rfl) ?_
  intro p e s m args below meth c _ hsz _ X hP0 hD0 ls0 hl0
  have hS0 : va_S (va_A [] sz) s.heap s.heap [] := va_S.rf
  replace hl0 : lv_has ls0 1 [(0, .int x0)] := hl0
  generalize va_A [] sz = A at X hD0 hS0 ⊢
  unfold fX3_rightOf at h
  obtain ⟨hx, hb, hml, hr, hown, hts, hlocks, hK, hN, hA, hZ⟩ := id X
  refine lv_iload_n hx hb dX3_rightOf_0 rfl (lv_at hl0 0 rfl) ?_
  replace h := g_ob1 h
  obtain ⟨r1, hf1, h⟩ := h
  refine cal_i (wc := []) (w1 := []) (wn := []) X hP0 hD0 hS0 [] rfl rfl rfl rfl (run_S (As := [.int x0]) (rest := []) X hP0 hD0 hS0 [] rfl rfl (mX3_isSide l G cI cO   s.heap.size  x0 hf1) ms_X3_isSide ml_X3_19 ⟨Nat.le_of_ble_eq_true rfl, Nat.le_of_ble_eq_true rfl⟩ rfl rfl rfl hl0.1 rfl (Nat.le_of_ble_eq_true rfl) ⟨Nat.zero_le _, Nat.zero_le _⟩ dX3_rightOf_1) (fun H2 locs2 hP2 hD2 hS2 => ?_)
  clear hf1
  refine lv_if_eq (tgt := 15) hx hb dX3_rightOf_4 (by decide) (fun hc => ?_) (fun hc => ?_)
  · replace h := t_pos h hc
    clear hc
    refine lv_iload_n hx hb dX3_rightOf_15 rfl (lv_at hl0 0 rfl) ?_
    obtain ez0 := r_eq1 h
    subst ez0
    exact ret_i X hP2 hS2 dX3_rightOf_16
  · replace h := t_neg h hc
    clear hc
    obtain ⟨tS, hZ1, hZ2⟩ := hZ
    refine va_gets hx hb hZ1 hS2 hown (hts _ fl_X3_23) (fun _ h9 => h9) dX3_rightOf_7 ?_
    refine lv_iload_n hx hb dX3_rightOf_10 rfl (lv_at hl0 0 rfl) ?_
    replace h := g_in h; obtain ⟨hg, h⟩ := h
    refine va_ti (v := .int (rgt x0.toNatClampNeg)) hx hb hZ2 hS2 (inb_ok hg) rfl dX3_rightOf_11 ?_
    refine lv_goto (tgt := 16) hx hb dX3_rightOf_12 (by decide) ?_
    obtain ez0 := r_eq1 h
    subst ez0
    exact ret_i X hP2 hS2 dX3_rightOf_16
/-! PloughMaze$Grid.backOf -/
abbrev rmX3_backOf : Room := { frames := 0, cells := 0, slots := 0, locals := 0 }
set_option maxHeartbeats 4000000 in
set_option maxRecDepth 100000 in
theorem mX3_backOf (l : Launch) (G : va_G) (cI cO : ClassId) (sz : Nat)  (x0 : Int32) {ret : Int32} (h : fX3_backOf x0 = some ret) : Met l yX3_backOf (wsM yX3_backOf cX3_backOf 1 (some .int)) rmX3_backOf (va_Pc [.int x0] (preW G cI cO sz [])) (QcI G (va_A [] sz) ret []) 0 0 (va_A [] sz) := by
  refine mkMet (own := RX3) (by decide) rfl (Nat.le_of_ble_eq_true rfl) ?_
  intro p e s m args below meth c _ hsz _ X hP0 hD0 ls0 hl0
  have hS0 : va_S (va_A [] sz) s.heap s.heap [] := va_S.rf
  replace hl0 : lv_has ls0 1 [(0, .int x0)] := hl0
  generalize va_A [] sz = A at X hD0 hS0 ⊢
  unfold fX3_backOf at h
  obtain ⟨hx, hb, hml, hr, hown, hts, hlocks, hK, hN, hA, hZ⟩ := id X
  refine lv_iconst (v := (3 : Int32)) hx hb dX3_backOf_0 (by decide) ?_
  refine lv_iload_n hx hb dX3_backOf_1 rfl (lv_at hl0 0 rfl) ?_
  refine lv_isub hx hb dX3_backOf_2 ?_
  obtain ez0 := r_eq1 h
  subst ez0
  exact ret_i X hP0 hS0 dX3_backOf_3
/-! PloughMaze$Grid.leftOf -/
abbrev rmX3_leftOf : Room := { frames := 2, cells := 0, slots := 0, locals := 40 }
set_option maxHeartbeats 4000000 in
set_option maxRecDepth 100000 in
theorem mX3_leftOf (l : Launch) (G : va_G) (cI cO : ClassId) (sz : Nat)  (x0 : Int32) {ret : Int32} (h : fX3_leftOf x0 = some ret) : Met l yX3_leftOf (wsM yX3_leftOf cX3_leftOf 1 (some .int)) rmX3_leftOf (va_Pc [.int x0] (preW G cI cO sz [])) (QcI G (va_A [] sz) ret []) 0 0 (va_A [] sz) := by
  refine mkMet (own := RX3) (by decide) rfl (Nat.le_of_ble_eq_true rfl) ?_
  intro p e s m args below meth c _ hsz _ X hP0 hD0 ls0 hl0
  have hS0 : va_S (va_A [] sz) s.heap s.heap [] := va_S.rf
  replace hl0 : lv_has ls0 1 [(0, .int x0)] := hl0
  generalize va_A [] sz = A at X hD0 hS0 ⊢
  unfold fX3_leftOf at h
  obtain ⟨hx, hb, hml, hr, hown, hts, hlocks, hK, hN, hA, hZ⟩ := id X
  refine lv_iload_n hx hb dX3_leftOf_0 rfl (lv_at hl0 0 rfl) ?_
  replace h := g_ob1 h
  obtain ⟨r1, hf1, h⟩ := h
  refine cal_i (wc := []) (w1 := []) (wn := []) X hP0 hD0 hS0 [] rfl rfl rfl rfl (run_S (As := [.int x0]) (rest := []) X hP0 hD0 hS0 [] rfl rfl (mX3_rightOf l G cI cO   s.heap.size  x0 hf1) ms_X3_rightOf ml_X3_27 ⟨Nat.le_of_ble_eq_true rfl, Nat.le_of_ble_eq_true rfl⟩ rfl rfl rfl hl0.1 rfl (Nat.le_of_ble_eq_true rfl) ⟨Nat.zero_le _, Nat.zero_le _⟩ dX3_leftOf_1) (fun H2 locs2 hP2 hD2 hS2 => ?_)
  clear hf1
  replace h := g_ob1 h
  obtain ⟨r3, hf3, h⟩ := h
  refine cal_i (wc := []) (w1 := []) (wn := []) X hP2 hD2 hS2 [] rfl rfl rfl rfl (run_S (As := [.int r1]) (rest := []) X hP2 hD2 hS2 [] rfl rfl (mX3_backOf l G cI cO   H2.size  r1 hf3) ms_X3_backOf ml_X3_31 ⟨Nat.le_of_ble_eq_true rfl, Nat.le_of_ble_eq_true rfl⟩ rfl rfl rfl hl0.1 rfl (Nat.le_of_ble_eq_true rfl) ⟨Nat.zero_le _, Nat.zero_le _⟩ dX3_leftOf_4) (fun H4 locs4 hP4 hD4 hS4 => ?_)
  clear hf3 hP2 hD2 hS2
  obtain ez0 := r_eq1 h
  subst ez0
  exact ret_i X hP4 hS4 dX3_leftOf_7
/-! PloughMaze$Grid.sideOfLetter -/
abbrev rmX3_sideOfLetter : Room := { frames := 0, cells := 0, slots := 0, locals := 0 }
set_option maxHeartbeats 4000000 in
set_option maxRecDepth 100000 in
theorem mX3_sideOfLetter (l : Launch) (G : va_G) (cI cO : ClassId) (sz : Nat)  (x0 : Int32) {ret : Int32} (h : fX3_sideOfLetter x0 = some ret) : Met l yX3_sideOfLetter (wsM yX3_sideOfLetter cX3_sideOfLetter 1 (some .int)) rmX3_sideOfLetter (va_Pc [.int x0] (preW G cI cO sz [])) (QcI G (va_A [] sz) ret []) 0 0 (va_A [] sz) := by
  refine mkMet (own := RX3) (by decide) rfl (Nat.le_of_ble_eq_true rfl) ?_
  intro p e s m args below meth c _ hsz _ X hP0 hD0 ls0 hl0
  have hS0 : va_S (va_A [] sz) s.heap s.heap [] := va_S.rf
  replace hl0 : lv_has ls0 1 [(0, .int x0)] := hl0
  generalize va_A [] sz = A at X hD0 hS0 ⊢
  unfold fX3_sideOfLetter at h
  obtain ⟨hx, hb, hml, hr, hown, hts, hlocks, hK, hN, hA, hZ⟩ := id X
  refine lv_iload_n hx hb dX3_sideOfLetter_0 rfl (lv_at hl0 0 rfl) ?_
  by_cases hc100 : x0 = (100 : Int32)
  · replace h := t_pos h hc100
    refine lv_lookup (off := 49) (tgt := 50) hx hb dX3_sideOfLetter_1 (by decide) (by rw [hc100]; decide) (by decide) ?_
    clear hc100
    refine lv_iconst (v := (3 : Int32)) hx hb dX3_sideOfLetter_50 (by decide) ?_
    obtain ez0 := r_eq1 h
    subst ez0
    exact ret_i X hP0 hS0 dX3_sideOfLetter_51
  replace h := t_neg h hc100
  by_cases hc108 : x0 = (108 : Int32)
  · replace h := t_pos h hc108
    refine lv_lookup (off := 45) (tgt := 46) hx hb dX3_sideOfLetter_1 (by decide) (by rw [hc108]; decide) (by decide) ?_
    clear hc108
    refine lv_iconst (v := (1 : Int32)) hx hb dX3_sideOfLetter_46 (by decide) ?_
    obtain ez0 := r_eq1 h
    subst ez0
    exact ret_i X hP0 hS0 dX3_sideOfLetter_47
  replace h := t_neg h hc108
  by_cases hc114 : x0 = (114 : Int32)
  · replace h := t_pos h hc114
    refine lv_lookup (off := 47) (tgt := 48) hx hb dX3_sideOfLetter_1 (by decide) (by rw [hc114]; decide) (by decide) ?_
    clear hc114
    refine lv_iconst (v := (2 : Int32)) hx hb dX3_sideOfLetter_48 (by decide) ?_
    obtain ez0 := r_eq1 h
    subst ez0
    exact ret_i X hP0 hS0 dX3_sideOfLetter_49
  replace h := t_neg h hc114
  by_cases hc117 : x0 = (117 : Int32)
  · replace h := t_pos h hc117
    refine lv_lookup (off := 43) (tgt := 44) hx hb dX3_sideOfLetter_1 (by decide) (by rw [hc117]; decide) (by decide) ?_
    clear hc117
    refine lv_iconst (v := (0 : Int32)) hx hb dX3_sideOfLetter_44 (by decide) ?_
    obtain ez0 := r_eq1 h
    subst ez0
    exact ret_i X hP0 hS0 dX3_sideOfLetter_45
  replace h := t_neg h hc117
  refine lv_lookup (off := 51) (tgt := 52) hx hb dX3_sideOfLetter_1 (by decide) ((if_neg (lk_ne hc100 rfl)).trans ((if_neg (lk_ne hc108 rfl)).trans ((if_neg (lk_ne hc114 rfl)).trans ((if_neg (lk_ne hc117 rfl)).trans (rfl))))) (by decide) ?_
  refine lv_bipush (v := (-4 : Int32)) hx hb dX3_sideOfLetter_52 (by decide) ?_
  obtain ez0 := r_eq1 h
  subst ez0
  exact ret_i X hP0 hS0 dX3_sideOfLetter_54
/-! PloughMaze$Furrow.add -/
abbrev rmX2_add : Room := { frames := 1, cells := 0, slots := 0, locals := 23 }
def SX2_add_72 (p : Program) (l : Launch) (e : Env) (s : State) (m : MethodId) (args : Array Value) (below : List Frame) (meth : Method) (c : Code) (G : va_G) (cI cO : ClassId) (A : Nat → Prop) (a_ a_row : Nat) (ret : Int32) (o_row : Nat → Int32) (o_size : Int32) (o_ploughed : Int64) (o_steps : Int64) (k : (Nat → Int32) → Int32 → Int64 → Int64 → Int32 → Option (Int32 × (Nat → Int32) × Int32 × Int64 × Int64)) : Prop := ∀ (v_row : Nat → Int32) (v_size : Int32) (v_ploughed : Int64) (v_steps : Int64) (x1 : Int32) (H : Heap) (locs : List Loc), va_P G vwCl [(a_, .inr (2, [.ref a_row, .int v_size, .long v_ploughed, .long v_steps])), (a_row, .inl (cI, 36, .inl v_row))] H → va_D A [(a_, .inr (2, [.ref a_row, .int v_size, .long v_ploughed, .long v_steps])), (a_row, .inl (cI, 36, .inl v_row))] → va_S A s.heap H locs → ∀ (ls : Array Slot), lv_has ls 4 [(0, .ref a_), (1, .int x1)] → k v_row v_size v_ploughed v_steps x1 = some (ret, o_row, o_size, o_ploughed, o_steps) → W p l e rmX2_add s m args below meth c H locs 0 0 (MQ below (QcI G A ret [(a_, .inr (2, [.ref a_row, .int o_size, .long o_ploughed, .long o_steps])), (a_row, .inl (cI, 36, .inl o_row))]) args s 0 0 A) (F0 m 72 ls [])
set_option maxHeartbeats 4000000 in
set_option maxRecDepth 100000 in
theorem bX2_add_72 {p : Program} {l : Launch} {e : Env} {s : State} {m : MethodId} {args : Array Value} {below : List Frame} {meth : Method} {c : Code} {G : va_G} {cI cO : ClassId} {A : Nat → Prop} {a_ a_row : Nat} {ret : Int32} {o_row : Nat → Int32} {o_size : Int32} {o_ploughed : Int64} {o_steps : Int64} (X : BX p rmX2_add s m args meth c cX2_add 4 (some .boolean) RX2 G cI cO A) : SX2_add_72 p l e s m args below meth c G cI cO A a_ a_row ret o_row o_size o_ploughed o_steps fX2_add_72 := by
  intro v_row v_size v_ploughed v_steps x1 H0 locs0 hP0 hD0 hS0 ls0 hl0 h
  unfold fX2_add_72 at h
  obtain ⟨hx, hb, hml, hr, hown, hts, hlocks, hK, hN, hA, hZ⟩ := id X
  refine lv_aload_n hx hb dX2_add_72 rfl (lv_at hl0 0 rfl) ?_
  refine va_get (D := G) (ci := 2) (v := .ref a_row) (C := RX2) (T := TX2) (N := 4) hx hb hts gwX2 hown hK hP0 0 rfl rfl 0 (by decide) (hts _ fl_X2_9) (fun _ h9 => h9) rfl dX2_add_73 ?_
  refine lv_aload_n hx hb dX2_add_76 rfl (lv_at hl0 0 rfl) ?_
  refine va_get (D := G) (ci := 2) (v := .int v_size) (C := RX2) (T := TX2) (N := 4) hx hb hts gwX2 hown hK hP0 0 rfl rfl 1 (by decide) (hts _ fl_X2_15) (fun _ h9 => h9) rfl dX2_add_77 ?_
  refine lv_iload_n hx hb dX2_add_80 rfl (lv_at hl0 1 rfl) ?_
  replace h := g_in h; obtain ⟨hg, h⟩ := h
  refine va_iast hx hb hK hP0 hD0 hS0 1 0 rfl rfl (inb_ok hg) dX2_add_81 (fun H1 locs1 hP1 hD1 hS1 => ?_)
  replace hP1 : va_P G vwCl [(a_, .inr (2, [.ref a_row, .int v_size, .long v_ploughed, .long v_steps])), (a_row, .inl (cI, 36, .inl ((upd v_row v_size.toNatClampNeg x1))))] H1 := hP1
  replace hD1 : va_D A [(a_, .inr (2, [.ref a_row, .int v_size, .long v_ploughed, .long v_steps])), (a_row, .inl (cI, 36, .inl ((upd v_row v_size.toNatClampNeg x1))))] := hD1
  clear hg
  refine lv_aload_n hx hb dX2_add_82 rfl (lv_at hl0 0 rfl) ?_
  refine lv_dup hx hb dX2_add_83 rfl ?_
  refine va_get (D := G) (ci := 2) (v := .int v_size) (C := RX2) (T := TX2) (N := 4) hx hb hts gwX2 hown hK hP1 0 rfl rfl 1 (by decide) (hts _ fl_X2_15) (fun _ h9 => h9) rfl dX2_add_84 ?_
  refine lv_iconst (v := (1 : Int32)) hx hb dX2_add_87 (by decide) ?_
  refine lv_iadd hx hb dX2_add_88 ?_
  refine lv_topi (fun y2 ey2 => ?_)
  replace h := g_let h ey2
  clear ey2
  refine va_put (D := G) (ci := 2) (v := .int y2) (ty := .int) (C := RX2) (T := TX2) (N := 4) hx hb hts gwX2 tyX2 tyX2_ok nmX2 hown hK hP1 hD1 hS1 0 rfl rfl 1 (by decide) (hts _ fl_X2_15) (fun _ h9 => h9) rfl (by decide +kernel) rfl rfl (Nat.le_of_ble_eq_true rfl) dX2_add_89 (fun H3 locs3 hP3 hD3 hS3 => ?_)
  replace hP3 : va_P G vwCl [(a_, .inr (2, [.ref a_row, .int y2, .long v_ploughed, .long v_steps])), (a_row, .inl (cI, 36, .inl ((upd v_row v_size.toNatClampNeg x1))))] H3 := hP3
  replace hD3 : va_D A [(a_, .inr (2, [.ref a_row, .int y2, .long v_ploughed, .long v_steps])), (a_row, .inl (cI, 36, .inl ((upd v_row v_size.toNatClampNeg x1))))] := hD3
  clear hP1 hD1 hS1
  refine lv_aload_n hx hb dX2_add_92 rfl (lv_at hl0 0 rfl) ?_
  refine lv_dup hx hb dX2_add_93 rfl ?_
  refine va_get (D := G) (ci := 2) (v := .long v_ploughed) (C := RX2) (T := TX2) (N := 4) hx hb hts gwX2 hown hK hP3 0 rfl rfl 2 (by decide) (hts _ fl_X2_19) (fun _ h9 => h9) rfl dX2_add_94 ?_
  refine lv_lconst (v := (1 : Int64)) hx hb dX2_add_97 (by decide) ?_
  refine lv_iload_n hx hb dX2_add_98 rfl (lv_at hl0 1 rfl) ?_
  refine lv_lshl (v := ((1 : Int64) <<< (x1.toInt64 &&& 63))) hx hb dX2_add_99 rfl ?_
  refine lv_lor hx hb dX2_add_100 ?_
  refine lv_topl (fun y4 ey4 => ?_)
  replace h := g_let h ey4
  clear ey4
  refine va_put (D := G) (ci := 2) (v := .long y4) (ty := .long) (C := RX2) (T := TX2) (N := 4) hx hb hts gwX2 tyX2 tyX2_ok nmX2 hown hK hP3 hD3 hS3 0 rfl rfl 2 (by decide) (hts _ fl_X2_19) (fun _ h9 => h9) rfl (by decide +kernel) rfl rfl (Nat.le_of_ble_eq_true rfl) dX2_add_101 (fun H5 locs5 hP5 hD5 hS5 => ?_)
  replace hP5 : va_P G vwCl [(a_, .inr (2, [.ref a_row, .int y2, .long y4, .long v_steps])), (a_row, .inl (cI, 36, .inl ((upd v_row v_size.toNatClampNeg x1))))] H5 := hP5
  replace hD5 : va_D A [(a_, .inr (2, [.ref a_row, .int y2, .long y4, .long v_steps])), (a_row, .inl (cI, 36, .inl ((upd v_row v_size.toNatClampNeg x1))))] := hD5
  clear hP3 hD3 hS3
  refine lv_iconst (v := (1 : Int32)) hx hb dX2_add_104 (by decide) ?_
  obtain ⟨ez0, ez1, ez2, ez3, ez4⟩ := r_eq5 h
  subst ez0; subst ez1; subst ez2; subst ez3; subst ez4
  exact ret_z X hP5 hS5 rfl dX2_add_105
set_option maxHeartbeats 4000000 in
set_option maxRecDepth 100000 in
theorem mX2_add (l : Launch) (G : va_G) (cI cO : ClassId) (a_ a_row : Nat) (sz : Nat) (v_size : Int32) (v_ploughed : Int64) (v_steps : Int64) (v_row : Nat → Int32) (x1 : Int32) {ret : Int32} {o_row : Nat → Int32} {o_size : Int32} {o_ploughed : Int64} {o_steps : Int64} (h : fX2_add v_row v_size v_ploughed v_steps x1 = some (ret, o_row, o_size, o_ploughed, o_steps)) : Met l yX2_add (wsM yX2_add cX2_add 4 (some .boolean)) rmX2_add (va_Pc [.ref a_, .int x1] (preW G cI cO sz [(a_, .inr (2, [.ref a_row, .int v_size, .long v_ploughed, .long v_steps])), (a_row, .inl (cI, 36, .inl v_row))])) (QcI G (va_A [(a_, .inr (2, [.ref a_row, .int v_size, .long v_ploughed, .long v_steps])), (a_row, .inl (cI, 36, .inl v_row))] sz) ret [(a_, .inr (2, [.ref a_row, .int o_size, .long o_ploughed, .long o_steps])), (a_row, .inl (cI, 36, .inl o_row))]) 0 0 (va_A [(a_, .inr (2, [.ref a_row, .int v_size, .long v_ploughed, .long v_steps])), (a_row, .inl (cI, 36, .inl v_row))] sz) := by
  refine mkMet (own := RX2) (by decide) rfl (Nat.le_of_ble_eq_true rfl) ?_
  intro p e s m args below meth c _ hsz _ X hP0 hD0 ls0 hl0
  have hS0 : va_S (va_A [(a_, .inr (2, [.ref a_row, .int v_size, .long v_ploughed, .long v_steps])), (a_row, .inl (cI, 36, .inl v_row))] sz) s.heap s.heap [] := va_S.rf
  replace hl0 : lv_has ls0 4 [(0, .ref a_), (1, .int x1)] := hl0
  generalize va_A [(a_, .inr (2, [.ref a_row, .int v_size, .long v_ploughed, .long v_steps])), (a_row, .inl (cI, 36, .inl v_row))] sz = A at X hD0 hS0 ⊢
  unfold fX2_add at h
  obtain ⟨hx, hb, hml, hr, hown, hts, hlocks, hK, hN, hA, hZ⟩ := id X
  refine lv_iload_n hx hb dX2_add_0 rfl (lv_at hl0 1 rfl) ?_
  replace h := g_ob1 h
  obtain ⟨r1, hf1, h⟩ := h
  refine cal_i (wc := []) (w1 := []) (wn := [(a_, .inr (2, [.ref a_row, .int v_size, .long v_ploughed, .long v_steps])), (a_row, .inl (cI, 36, .inl v_row))]) X hP0 hD0 hS0 [] rfl rfl rfl rfl (run_S (As := [.int x1]) (rest := []) X hP0 hD0 hS0 [] rfl rfl (mX3_isSquare l G cI cO   s.heap.size  x1 hf1) ms_X3_isSquare ml_X2_26 ⟨Nat.le_of_ble_eq_true rfl, Nat.le_of_ble_eq_true rfl⟩ rfl rfl rfl hl0.1 rfl (Nat.le_of_ble_eq_true rfl) ⟨Nat.zero_le _, Nat.zero_le _⟩ dX2_add_1) (fun H2 locs2 hP2 hD2 hS2 => ?_)
  clear hf1
  refine lv_if_eq (tgt := 29) hx hb dX2_add_4 (by decide) (fun hc => ?_) (fun hc => ?_)
  · replace h := t_pos h hc
    clear hc
    refine lv_iconst (v := (0 : Int32)) hx hb dX2_add_29 (by decide) ?_
    obtain ⟨ez0, ez1, ez2, ez3, ez4⟩ := r_eq5 h
    subst ez0; subst ez1; subst ez2; subst ez3; subst ez4
    exact ret_z X hP2 hS2 rfl dX2_add_30
  · replace h := t_neg h hc
    clear hc
    refine lv_aload_n hx hb dX2_add_7 rfl (lv_at hl0 0 rfl) ?_
    refine va_get (D := G) (ci := 2) (v := .int v_size) (C := RX2) (T := TX2) (N := 4) hx hb hts gwX2 hown hK hP2 0 rfl rfl 1 (by decide) (hts _ fl_X2_15) (fun _ h9 => h9) rfl dX2_add_8 ?_
    refine lv_bipush (v := (36 : Int32)) hx hb dX2_add_11 (by decide) ?_
    refine lv_icmp_ge (tgt := 29) hx hb dX2_add_13 (by decide) (fun hc => ?_) (fun hc => ?_)
    · replace h := t_pos h hc
      clear hc
      refine lv_iconst (v := (0 : Int32)) hx hb dX2_add_29 (by decide) ?_
      obtain ⟨ez0, ez1, ez2, ez3, ez4⟩ := r_eq5 h
      subst ez0; subst ez1; subst ez2; subst ez3; subst ez4
      exact ret_z X hP2 hS2 rfl dX2_add_30
    · replace h := t_neg h hc
      clear hc
      refine lv_aload_n hx hb dX2_add_16 rfl (lv_at hl0 0 rfl) ?_
      refine va_get (D := G) (ci := 2) (v := .long v_ploughed) (C := RX2) (T := TX2) (N := 4) hx hb hts gwX2 hown hK hP2 0 rfl rfl 2 (by decide) (hts _ fl_X2_19) (fun _ h9 => h9) rfl dX2_add_17 ?_
      refine lv_iload_n hx hb dX2_add_20 rfl (lv_at hl0 1 rfl) ?_
      refine lv_lshr (v := (v_ploughed >>> (x1.toInt64 &&& 63))) hx hb dX2_add_21 rfl ?_
      refine lv_lconst (v := (1 : Int64)) hx hb dX2_add_22 (by decide) ?_
      refine lv_land hx hb dX2_add_23 ?_
      refine lv_lconst (v := (0 : Int64)) hx hb dX2_add_24 (by decide) ?_
      refine W.lcmp hx hb dX2_add_25 ?_
      refine lv_if_eq (tgt := 31) hx hb dX2_add_26 (by decide) (fun hc => ?_) (fun hc => ?_)
      · replace h := t_pos h hc
        clear hc
        refine lv_aload_n hx hb dX2_add_31 rfl (lv_at hl0 0 rfl) ?_
        refine va_get (D := G) (ci := 2) (v := .int v_size) (C := RX2) (T := TX2) (N := 4) hx hb hts gwX2 hown hK hP2 0 rfl rfl 1 (by decide) (hts _ fl_X2_15) (fun _ h9 => h9) rfl dX2_add_32 ?_
        refine lv_if_le (tgt := 72) hx hb dX2_add_35 (by decide) (fun hc => ?_) (fun hc => ?_)
        · replace h := t_pos h hc
          clear hc
          exact bX2_add_72 X v_row v_size v_ploughed v_steps x1 H2 locs2 hP2 hD2 hS2 ls0 (lv_sub hl0 [0, 1] rfl) h
        · replace h := t_neg h hc
          clear hc
          refine lv_aload_n hx hb dX2_add_38 rfl (lv_at hl0 0 rfl) ?_
          refine va_get (D := G) (ci := 2) (v := .ref a_row) (C := RX2) (T := TX2) (N := 4) hx hb hts gwX2 hown hK hP2 0 rfl rfl 0 (by decide) (hts _ fl_X2_9) (fun _ h9 => h9) rfl dX2_add_39 ?_
          refine lv_aload_n hx hb dX2_add_42 rfl (lv_at hl0 0 rfl) ?_
          refine va_get (D := G) (ci := 2) (v := .int v_size) (C := RX2) (T := TX2) (N := 4) hx hb hts gwX2 hown hK hP2 0 rfl rfl 1 (by decide) (hts _ fl_X2_15) (fun _ h9 => h9) rfl dX2_add_43 ?_
          refine lv_iconst (v := (1 : Int32)) hx hb dX2_add_46 (by decide) ?_
          refine lv_isub hx hb dX2_add_47 ?_
          replace h := g_in h; obtain ⟨hg, h⟩ := h
          refine va_iald hx hb hK hP2 1 0 rfl rfl (inb_ok hg) dX2_add_48 ?_
          clear hg
          refine lv_iload_n hx hb dX2_add_49 rfl (lv_at hl0 1 rfl) ?_
          replace h := g_ob1 h
          obtain ⟨r3, hf3, h⟩ := h
          refine cal_l (wc := []) (w1 := []) (wn := [(a_, .inr (2, [.ref a_row, .int v_size, .long v_ploughed, .long v_steps])), (a_row, .inl (cI, 36, .inl v_row))]) X hP2 hD2 hS2 [] rfl rfl rfl rfl (run_S (As := [.int (v_row (v_size - (1 : Int32)).toNatClampNeg), .int x1]) (rest := []) X hP2 hD2 hS2 [] rfl rfl (mX3_between l G cI cO   H2.size  ((v_row (v_size - (1 : Int32)).toNatClampNeg)) x1 hf3) ms_X3_between ml_X2_32 ⟨Nat.le_of_ble_eq_true rfl, Nat.le_of_ble_eq_true rfl⟩ rfl rfl rfl hl0.1 rfl (Nat.le_of_ble_eq_true rfl) ⟨Nat.zero_le _, Nat.zero_le _⟩ dX2_add_50) (fun H4 locs4 hP4 hD4 hS4 => ?_)
          clear hf3 hP2 hD2 hS2
          refine lv_lstore_n (lv' := [(2, .long r3), (0, .ref a_), (1, .int x1)]) hx hb dX2_add_53 rfl hl0 (by decide) rfl (fun ls5 hl5 => ?_)
          refine lv_lload_n hx hb dX2_add_54 rfl (lv_at hl5 0 rfl) ?_
          refine lv_lconst (v := (0 : Int64)) hx hb dX2_add_55 (by decide) ?_
          refine W.lcmp hx hb dX2_add_56 ?_
          refine lv_if_ne (tgt := 62) hx hb dX2_add_57 (by decide) (fun hc => ?_) (fun hc => ?_)
          · replace h := t_neg h hc
            clear hc
            refine lv_aload_n hx hb dX2_add_62 rfl (lv_at hl5 1 rfl) ?_
            refine lv_dup hx hb dX2_add_63 rfl ?_
            refine va_get (D := G) (ci := 2) (v := .long v_steps) (C := RX2) (T := TX2) (N := 4) hx hb hts gwX2 hown hK hP4 0 rfl rfl 3 (by decide) (hts _ fl_X2_23) (fun _ h9 => h9) rfl dX2_add_64 ?_
            refine lv_lload_n hx hb dX2_add_67 rfl (lv_at hl5 0 rfl) ?_
            refine lv_lor hx hb dX2_add_68 ?_
            refine lv_topl (fun y6 ey6 => ?_)
            replace h := g_let h ey6
            clear ey6
            refine va_put (D := G) (ci := 2) (v := .long y6) (ty := .long) (C := RX2) (T := TX2) (N := 4) hx hb hts gwX2 tyX2 tyX2_ok nmX2 hown hK hP4 hD4 hS4 0 rfl rfl 3 (by decide) (hts _ fl_X2_23) (fun _ h9 => h9) rfl (by decide +kernel) rfl rfl (Nat.le_of_ble_eq_true rfl) dX2_add_69 (fun H7 locs7 hP7 hD7 hS7 => ?_)
            replace hP7 : va_P G vwCl [(a_, .inr (2, [.ref a_row, .int v_size, .long v_ploughed, .long y6])), (a_row, .inl (cI, 36, .inl v_row))] H7 := hP7
            replace hD7 : va_D A [(a_, .inr (2, [.ref a_row, .int v_size, .long v_ploughed, .long y6])), (a_row, .inl (cI, 36, .inl v_row))] := hD7
            clear hP4 hD4 hS4
            exact bX2_add_72 X v_row v_size v_ploughed y6 x1 H7 locs7 hP7 hD7 hS7 ls5 (lv_sub hl5 [1, 2] rfl) h
          · replace h := t_pos h hc
            clear hc
            refine lv_iconst (v := (0 : Int32)) hx hb dX2_add_60 (by decide) ?_
            obtain ⟨ez0, ez1, ez2, ez3, ez4⟩ := r_eq5 h
            subst ez0; subst ez1; subst ez2; subst ez3; subst ez4
            exact ret_z X hP4 hS4 rfl dX2_add_61
      · replace h := t_neg h hc
        clear hc
        refine lv_iconst (v := (0 : Int32)) hx hb dX2_add_29 (by decide) ?_
        obtain ⟨ez0, ez1, ez2, ez3, ez4⟩ := r_eq5 h
        subst ez0; subst ez1; subst ez2; subst ez3; subst ez4
        exact ret_z X hP2 hS2 rfl dX2_add_30
/-! PloughMaze$Furrow.removeLast -/
abbrev rmX2_removeLast : Room := { frames := 1, cells := 0, slots := 0, locals := 23 }
set_option maxHeartbeats 4000000 in
set_option maxRecDepth 100000 in
theorem mX2_removeLast (l : Launch) (G : va_G) (cI cO : ClassId) (a_ a_row : Nat) (sz : Nat) (v_size : Int32) (v_ploughed : Int64) (v_steps : Int64) (v_row : Nat → Int32)  {o_size : Int32} {o_ploughed : Int64} {o_steps : Int64} (h : fX2_removeLast v_row v_size v_ploughed v_steps = some (o_size, o_ploughed, o_steps)) : Met l yX2_removeLast (wsM yX2_removeLast cX2_removeLast 1 none) rmX2_removeLast (va_Pc [.ref a_] (preW G cI cO sz [(a_, .inr (2, [.ref a_row, .int v_size, .long v_ploughed, .long v_steps])), (a_row, .inl (cI, 36, .inl v_row))])) (QcV G (va_A [(a_, .inr (2, [.ref a_row, .int v_size, .long v_ploughed, .long v_steps])), (a_row, .inl (cI, 36, .inl v_row))] sz) [(a_, .inr (2, [.ref a_row, .int o_size, .long o_ploughed, .long o_steps])), (a_row, .inl (cI, 36, .inl v_row))]) 0 0 (va_A [(a_, .inr (2, [.ref a_row, .int v_size, .long v_ploughed, .long v_steps])), (a_row, .inl (cI, 36, .inl v_row))] sz) := by
  refine mkMet (own := RX2) (by decide) rfl (Nat.le_of_ble_eq_true rfl) ?_
  intro p e s m args below meth c _ hsz _ X hP0 hD0 ls0 hl0
  have hS0 : va_S (va_A [(a_, .inr (2, [.ref a_row, .int v_size, .long v_ploughed, .long v_steps])), (a_row, .inl (cI, 36, .inl v_row))] sz) s.heap s.heap [] := va_S.rf
  replace hl0 : lv_has ls0 1 [(0, .ref a_)] := hl0
  generalize va_A [(a_, .inr (2, [.ref a_row, .int v_size, .long v_ploughed, .long v_steps])), (a_row, .inl (cI, 36, .inl v_row))] sz = A at X hD0 hS0 ⊢
  unfold fX2_removeLast at h
  obtain ⟨hx, hb, hml, hr, hown, hts, hlocks, hK, hN, hA, hZ⟩ := id X
  refine lv_aload_n hx hb dX2_removeLast_0 rfl (lv_at hl0 0 rfl) ?_
  refine va_get (D := G) (ci := 2) (v := .int v_size) (C := RX2) (T := TX2) (N := 4) hx hb hts gwX2 hown hK hP0 0 rfl rfl 1 (by decide) (hts _ fl_X2_15) (fun _ h9 => h9) rfl dX2_removeLast_1 ?_
  refine lv_if_ne (tgt := 8) hx hb dX2_removeLast_4 (by decide) (fun hc => ?_) (fun hc => ?_)
  · replace h := t_neg h hc
    clear hc
    refine lv_aload_n hx hb dX2_removeLast_8 rfl (lv_at hl0 0 rfl) ?_
    refine lv_dup hx hb dX2_removeLast_9 rfl ?_
    refine va_get (D := G) (ci := 2) (v := .int v_size) (C := RX2) (T := TX2) (N := 4) hx hb hts gwX2 hown hK hP0 0 rfl rfl 1 (by decide) (hts _ fl_X2_15) (fun _ h9 => h9) rfl dX2_removeLast_10 ?_
    refine lv_iconst (v := (1 : Int32)) hx hb dX2_removeLast_13 (by decide) ?_
    refine lv_isub hx hb dX2_removeLast_14 ?_
    refine lv_topi (fun y1 ey1 => ?_)
    replace h := g_let h ey1
    clear ey1
    refine va_put (D := G) (ci := 2) (v := .int y1) (ty := .int) (C := RX2) (T := TX2) (N := 4) hx hb hts gwX2 tyX2 tyX2_ok nmX2 hown hK hP0 hD0 hS0 0 rfl rfl 1 (by decide) (hts _ fl_X2_15) (fun _ h9 => h9) rfl (by decide +kernel) rfl rfl (Nat.le_of_ble_eq_true rfl) dX2_removeLast_15 (fun H2 locs2 hP2 hD2 hS2 => ?_)
    replace hP2 : va_P G vwCl [(a_, .inr (2, [.ref a_row, .int y1, .long v_ploughed, .long v_steps])), (a_row, .inl (cI, 36, .inl v_row))] H2 := hP2
    replace hD2 : va_D A [(a_, .inr (2, [.ref a_row, .int y1, .long v_ploughed, .long v_steps])), (a_row, .inl (cI, 36, .inl v_row))] := hD2
    refine lv_aload_n hx hb dX2_removeLast_18 rfl (lv_at hl0 0 rfl) ?_
    refine lv_dup hx hb dX2_removeLast_19 rfl ?_
    refine va_get (D := G) (ci := 2) (v := .long v_ploughed) (C := RX2) (T := TX2) (N := 4) hx hb hts gwX2 hown hK hP2 0 rfl rfl 2 (by decide) (hts _ fl_X2_19) (fun _ h9 => h9) rfl dX2_removeLast_20 ?_
    refine lv_lconst (v := (1 : Int64)) hx hb dX2_removeLast_23 (by decide) ?_
    refine lv_aload_n hx hb dX2_removeLast_24 rfl (lv_at hl0 0 rfl) ?_
    refine va_get (D := G) (ci := 2) (v := .ref a_row) (C := RX2) (T := TX2) (N := 4) hx hb hts gwX2 hown hK hP2 0 rfl rfl 0 (by decide) (hts _ fl_X2_9) (fun _ h9 => h9) rfl dX2_removeLast_25 ?_
    refine lv_aload_n hx hb dX2_removeLast_28 rfl (lv_at hl0 0 rfl) ?_
    refine va_get (D := G) (ci := 2) (v := .int y1) (C := RX2) (T := TX2) (N := 4) hx hb hts gwX2 hown hK hP2 0 rfl rfl 1 (by decide) (hts _ fl_X2_15) (fun _ h9 => h9) rfl dX2_removeLast_29 ?_
    replace h := g_in h; obtain ⟨hg, h⟩ := h
    refine va_iald hx hb hK hP2 1 0 rfl rfl (inb_ok hg) dX2_removeLast_32 ?_
    clear hg
    refine lv_lshl (v := ((1 : Int64) <<< ((v_row y1.toNatClampNeg).toInt64 &&& 63))) hx hb dX2_removeLast_33 rfl ?_
    refine lv_ldc2 (v := (-1 : Int64)) hx hb hown (hts _ kL_X2_36) dX2_removeLast_34 ?_
    refine lv_lxor hx hb dX2_removeLast_37 ?_
    refine lv_land hx hb dX2_removeLast_38 ?_
    refine lv_topl (fun y3 ey3 => ?_)
    replace h := g_let h ey3
    clear ey3
    refine va_put (D := G) (ci := 2) (v := .long y3) (ty := .long) (C := RX2) (T := TX2) (N := 4) hx hb hts gwX2 tyX2 tyX2_ok nmX2 hown hK hP2 hD2 hS2 0 rfl rfl 2 (by decide) (hts _ fl_X2_19) (fun _ h9 => h9) rfl (by decide +kernel) rfl rfl (Nat.le_of_ble_eq_true rfl) dX2_removeLast_39 (fun H4 locs4 hP4 hD4 hS4 => ?_)
    replace hP4 : va_P G vwCl [(a_, .inr (2, [.ref a_row, .int y1, .long y3, .long v_steps])), (a_row, .inl (cI, 36, .inl v_row))] H4 := hP4
    replace hD4 : va_D A [(a_, .inr (2, [.ref a_row, .int y1, .long y3, .long v_steps])), (a_row, .inl (cI, 36, .inl v_row))] := hD4
    clear hP2 hD2 hS2
    refine lv_aload_n hx hb dX2_removeLast_42 rfl (lv_at hl0 0 rfl) ?_
    refine va_get (D := G) (ci := 2) (v := .int y1) (C := RX2) (T := TX2) (N := 4) hx hb hts gwX2 hown hK hP4 0 rfl rfl 1 (by decide) (hts _ fl_X2_15) (fun _ h9 => h9) rfl dX2_removeLast_43 ?_
    refine lv_if_le (tgt := 85) hx hb dX2_removeLast_46 (by decide) (fun hc => ?_) (fun hc => ?_)
    · replace h := t_pos h hc
      clear hc
      obtain ⟨ez0, ez1, ez2⟩ := r_eq3 h
      subst ez0; subst ez1; subst ez2
      exact ret_v X hP4 hS4 dX2_removeLast_85
    · replace h := t_neg h hc
      clear hc
      refine lv_aload_n hx hb dX2_removeLast_49 rfl (lv_at hl0 0 rfl) ?_
      refine lv_dup hx hb dX2_removeLast_50 rfl ?_
      refine va_get (D := G) (ci := 2) (v := .long v_steps) (C := RX2) (T := TX2) (N := 4) hx hb hts gwX2 hown hK hP4 0 rfl rfl 3 (by decide) (hts _ fl_X2_23) (fun _ h9 => h9) rfl dX2_removeLast_51 ?_
      refine lv_aload_n hx hb dX2_removeLast_54 rfl (lv_at hl0 0 rfl) ?_
      refine va_get (D := G) (ci := 2) (v := .ref a_row) (C := RX2) (T := TX2) (N := 4) hx hb hts gwX2 hown hK hP4 0 rfl rfl 0 (by decide) (hts _ fl_X2_9) (fun _ h9 => h9) rfl dX2_removeLast_55 ?_
      refine lv_aload_n hx hb dX2_removeLast_58 rfl (lv_at hl0 0 rfl) ?_
      refine va_get (D := G) (ci := 2) (v := .int y1) (C := RX2) (T := TX2) (N := 4) hx hb hts gwX2 hown hK hP4 0 rfl rfl 1 (by decide) (hts _ fl_X2_15) (fun _ h9 => h9) rfl dX2_removeLast_59 ?_
      refine lv_iconst (v := (1 : Int32)) hx hb dX2_removeLast_62 (by decide) ?_
      refine lv_isub hx hb dX2_removeLast_63 ?_
      replace h := g_in h; obtain ⟨hg, h⟩ := h
      refine va_iald hx hb hK hP4 1 0 rfl rfl (inb_ok hg) dX2_removeLast_64 ?_
      clear hg
      refine lv_aload_n hx hb dX2_removeLast_65 rfl (lv_at hl0 0 rfl) ?_
      refine va_get (D := G) (ci := 2) (v := .ref a_row) (C := RX2) (T := TX2) (N := 4) hx hb hts gwX2 hown hK hP4 0 rfl rfl 0 (by decide) (hts _ fl_X2_9) (fun _ h9 => h9) rfl dX2_removeLast_66 ?_
      refine lv_aload_n hx hb dX2_removeLast_69 rfl (lv_at hl0 0 rfl) ?_
      refine va_get (D := G) (ci := 2) (v := .int y1) (C := RX2) (T := TX2) (N := 4) hx hb hts gwX2 hown hK hP4 0 rfl rfl 1 (by decide) (hts _ fl_X2_15) (fun _ h9 => h9) rfl dX2_removeLast_70 ?_
      replace h := g_in h; obtain ⟨hg, h⟩ := h
      refine va_iald hx hb hK hP4 1 0 rfl rfl (inb_ok hg) dX2_removeLast_73 ?_
      clear hg
      replace h := g_ob1 h
      obtain ⟨r5, hf5, h⟩ := h
      refine cal_l (wc := []) (w1 := []) (wn := [(a_, .inr (2, [.ref a_row, .int y1, .long y3, .long v_steps])), (a_row, .inl (cI, 36, .inl v_row))]) X hP4 hD4 hS4 [] rfl rfl rfl rfl (run_S (As := [.int (v_row (y1 - (1 : Int32)).toNatClampNeg), .int (v_row y1.toNatClampNeg)]) (rest := [.long v_steps, .ref a_]) X hP4 hD4 hS4 [] rfl rfl (mX3_between l G cI cO   H4.size  ((v_row (y1 - (1 : Int32)).toNatClampNeg)) ((v_row y1.toNatClampNeg)) hf5) ms_X3_between ml_X2_32 ⟨Nat.le_of_ble_eq_true rfl, Nat.le_of_ble_eq_true rfl⟩ rfl rfl rfl hl0.1 rfl (Nat.le_of_ble_eq_true rfl) ⟨Nat.zero_le _, Nat.zero_le _⟩ dX2_removeLast_74) (fun H6 locs6 hP6 hD6 hS6 => ?_)
      clear hf5 hP4 hD4 hS4
      refine lv_ldc2 (v := (-1 : Int64)) hx hb hown (hts _ kL_X2_36) dX2_removeLast_77 ?_
      refine lv_lxor hx hb dX2_removeLast_80 ?_
      refine lv_land hx hb dX2_removeLast_81 ?_
      refine lv_topl (fun y7 ey7 => ?_)
      replace h := g_let h ey7
      clear ey7
      refine va_put (D := G) (ci := 2) (v := .long y7) (ty := .long) (C := RX2) (T := TX2) (N := 4) hx hb hts gwX2 tyX2 tyX2_ok nmX2 hown hK hP6 hD6 hS6 0 rfl rfl 3 (by decide) (hts _ fl_X2_23) (fun _ h9 => h9) rfl (by decide +kernel) rfl rfl (Nat.le_of_ble_eq_true rfl) dX2_removeLast_82 (fun H8 locs8 hP8 hD8 hS8 => ?_)
      replace hP8 : va_P G vwCl [(a_, .inr (2, [.ref a_row, .int y1, .long y3, .long y7])), (a_row, .inl (cI, 36, .inl v_row))] H8 := hP8
      replace hD8 : va_D A [(a_, .inr (2, [.ref a_row, .int y1, .long y3, .long y7])), (a_row, .inl (cI, 36, .inl v_row))] := hD8
      clear hP6 hD6 hS6
      obtain ⟨ez0, ez1, ez2⟩ := r_eq3 h
      subst ez0; subst ez1; subst ez2
      exact ret_v X hP8 hS8 dX2_removeLast_85
  · replace h := t_pos h hc
    clear hc
    obtain ⟨ez0, ez1, ez2⟩ := r_eq3 h
    subst ez0; subst ez1; subst ez2
    exact ret_v X hP0 hS0 dX2_removeLast_7
/-! PloughMaze$Furrow.clear -/
abbrev rmX2_clear : Room := { frames := 0, cells := 0, slots := 0, locals := 0 }
set_option maxHeartbeats 4000000 in
set_option maxRecDepth 100000 in
theorem mX2_clear (l : Launch) (G : va_G) (cI cO : ClassId) (a_ a_row : Nat) (sz : Nat) (v_size : Int32) (v_ploughed : Int64) (v_steps : Int64)  {o_size : Int32} {o_ploughed : Int64} {o_steps : Int64} (h : fX2_clear v_size v_ploughed v_steps = some (o_size, o_ploughed, o_steps)) : Met l yX2_clear (wsM yX2_clear cX2_clear 1 none) rmX2_clear (va_Pc [.ref a_] (preW G cI cO sz [(a_, .inr (2, [.ref a_row, .int v_size, .long v_ploughed, .long v_steps]))])) (QcV G (va_A [(a_, .inr (2, [.ref a_row, .int v_size, .long v_ploughed, .long v_steps]))] sz) [(a_, .inr (2, [.ref a_row, .int o_size, .long o_ploughed, .long o_steps]))]) 0 0 (va_A [(a_, .inr (2, [.ref a_row, .int v_size, .long v_ploughed, .long v_steps]))] sz) := by
  refine mkMet (own := RX2) (by decide) rfl (Nat.le_of_ble_eq_true rfl) ?_
  intro p e s m args below meth c _ hsz _ X hP0 hD0 ls0 hl0
  have hS0 : va_S (va_A [(a_, .inr (2, [.ref a_row, .int v_size, .long v_ploughed, .long v_steps]))] sz) s.heap s.heap [] := va_S.rf
  replace hl0 : lv_has ls0 1 [(0, .ref a_)] := hl0
  generalize va_A [(a_, .inr (2, [.ref a_row, .int v_size, .long v_ploughed, .long v_steps]))] sz = A at X hD0 hS0 ⊢
  unfold fX2_clear at h
  obtain ⟨hx, hb, hml, hr, hown, hts, hlocks, hK, hN, hA, hZ⟩ := id X
  refine lv_aload_n hx hb dX2_clear_0 rfl (lv_at hl0 0 rfl) ?_
  refine lv_iconst (v := (0 : Int32)) hx hb dX2_clear_1 (by decide) ?_
  refine va_put (D := G) (ci := 2) (v := .int (0 : Int32)) (ty := .int) (C := RX2) (T := TX2) (N := 4) hx hb hts gwX2 tyX2 tyX2_ok nmX2 hown hK hP0 hD0 hS0 0 rfl rfl 1 (by decide) (hts _ fl_X2_15) (fun _ h9 => h9) rfl (by decide +kernel) rfl rfl (Nat.le_of_ble_eq_true rfl) dX2_clear_2 (fun H1 locs1 hP1 hD1 hS1 => ?_)
  replace hP1 : va_P G vwCl [(a_, .inr (2, [.ref a_row, .int (0 : Int32), .long v_ploughed, .long v_steps]))] H1 := hP1
  replace hD1 : va_D A [(a_, .inr (2, [.ref a_row, .int (0 : Int32), .long v_ploughed, .long v_steps]))] := hD1
  refine lv_aload_n hx hb dX2_clear_5 rfl (lv_at hl0 0 rfl) ?_
  refine lv_lconst (v := (0 : Int64)) hx hb dX2_clear_6 (by decide) ?_
  refine va_put (D := G) (ci := 2) (v := .long (0 : Int64)) (ty := .long) (C := RX2) (T := TX2) (N := 4) hx hb hts gwX2 tyX2 tyX2_ok nmX2 hown hK hP1 hD1 hS1 0 rfl rfl 2 (by decide) (hts _ fl_X2_19) (fun _ h9 => h9) rfl (by decide +kernel) rfl rfl (Nat.le_of_ble_eq_true rfl) dX2_clear_7 (fun H2 locs2 hP2 hD2 hS2 => ?_)
  replace hP2 : va_P G vwCl [(a_, .inr (2, [.ref a_row, .int (0 : Int32), .long (0 : Int64), .long v_steps]))] H2 := hP2
  replace hD2 : va_D A [(a_, .inr (2, [.ref a_row, .int (0 : Int32), .long (0 : Int64), .long v_steps]))] := hD2
  clear hP1 hD1 hS1
  refine lv_aload_n hx hb dX2_clear_10 rfl (lv_at hl0 0 rfl) ?_
  refine lv_lconst (v := (0 : Int64)) hx hb dX2_clear_11 (by decide) ?_
  refine va_put (D := G) (ci := 2) (v := .long (0 : Int64)) (ty := .long) (C := RX2) (T := TX2) (N := 4) hx hb hts gwX2 tyX2 tyX2_ok nmX2 hown hK hP2 hD2 hS2 0 rfl rfl 3 (by decide) (hts _ fl_X2_23) (fun _ h9 => h9) rfl (by decide +kernel) rfl rfl (Nat.le_of_ble_eq_true rfl) dX2_clear_12 (fun H3 locs3 hP3 hD3 hS3 => ?_)
  replace hP3 : va_P G vwCl [(a_, .inr (2, [.ref a_row, .int (0 : Int32), .long (0 : Int64), .long (0 : Int64)]))] H3 := hP3
  replace hD3 : va_D A [(a_, .inr (2, [.ref a_row, .int (0 : Int32), .long (0 : Int64), .long (0 : Int64)]))] := hD3
  clear hP2 hD2 hS2
  obtain ⟨ez0, ez1, ez2⟩ := r_eq3 h
  subst ez0; subst ez1; subst ez2
  exact ret_v X hP3 hS3 dX2_clear_15
/-! PloughMaze$Furrow.copy -/
abbrev rmX2_copy : Room := { frames := 1, cells := 0, slots := 0, locals := 60 }
set_option maxHeartbeats 4000000 in
set_option maxRecDepth 100000 in
theorem mX2_copy (l : Launch) (G : va_G) (cI cO : ClassId) (a_ a_row a_p0 a_p0_row : Nat) (sz : Nat) (v_size : Int32) (v_ploughed : Int64) (v_steps : Int64) (v_row : Nat → Int32) (v_p0_size : Int32) (v_p0_ploughed : Int64) (v_p0_steps : Int64) (v_p0_row : Nat → Int32)  {o_row : Nat → Int32} {o_size : Int32} {o_ploughed : Int64} {o_steps : Int64} (h : fX2_copy v_row v_size v_ploughed v_steps v_p0_row v_p0_size v_p0_ploughed v_p0_steps = some (o_row, o_size, o_ploughed, o_steps)) : Met l yX2_copy (wsM yX2_copy cX2_copy 2 none) rmX2_copy (va_Pc [.ref a_, .ref a_p0] (preW G cI cO sz [(a_, .inr (2, [.ref a_row, .int v_size, .long v_ploughed, .long v_steps])), (a_row, .inl (cI, 36, .inl v_row)), (a_p0, .inr (2, [.ref a_p0_row, .int v_p0_size, .long v_p0_ploughed, .long v_p0_steps])), (a_p0_row, .inl (cI, 36, .inl v_p0_row))])) (QcV G (va_A [(a_, .inr (2, [.ref a_row, .int v_size, .long v_ploughed, .long v_steps])), (a_row, .inl (cI, 36, .inl v_row)), (a_p0, .inr (2, [.ref a_p0_row, .int v_p0_size, .long v_p0_ploughed, .long v_p0_steps])), (a_p0_row, .inl (cI, 36, .inl v_p0_row))] sz) [(a_, .inr (2, [.ref a_row, .int o_size, .long o_ploughed, .long o_steps])), (a_row, .inl (cI, 36, .inl o_row)), (a_p0, .inr (2, [.ref a_p0_row, .int v_p0_size, .long v_p0_ploughed, .long v_p0_steps])), (a_p0_row, .inl (cI, 36, .inl v_p0_row))]) 0 0 (va_A [(a_, .inr (2, [.ref a_row, .int v_size, .long v_ploughed, .long v_steps])), (a_row, .inl (cI, 36, .inl v_row)), (a_p0, .inr (2, [.ref a_p0_row, .int v_p0_size, .long v_p0_ploughed, .long v_p0_steps])), (a_p0_row, .inl (cI, 36, .inl v_p0_row))] sz) := by
  refine mkMet (own := RX2) (by decide) rfl (Nat.le_of_ble_eq_true rfl) ?_
  intro p e s m args below meth c _ hsz _ X hP0 hD0 ls0 hl0
  have hS0 : va_S (va_A [(a_, .inr (2, [.ref a_row, .int v_size, .long v_ploughed, .long v_steps])), (a_row, .inl (cI, 36, .inl v_row)), (a_p0, .inr (2, [.ref a_p0_row, .int v_p0_size, .long v_p0_ploughed, .long v_p0_steps])), (a_p0_row, .inl (cI, 36, .inl v_p0_row))] sz) s.heap s.heap [] := va_S.rf
  replace hl0 : lv_has ls0 2 [(0, .ref a_), (1, .ref a_p0)] := hl0
  generalize va_A [(a_, .inr (2, [.ref a_row, .int v_size, .long v_ploughed, .long v_steps])), (a_row, .inl (cI, 36, .inl v_row)), (a_p0, .inr (2, [.ref a_p0_row, .int v_p0_size, .long v_p0_ploughed, .long v_p0_steps])), (a_p0_row, .inl (cI, 36, .inl v_p0_row))] sz = A at X hD0 hS0 ⊢
  unfold fX2_copy at h
  obtain ⟨hx, hb, hml, hr, hown, hts, hlocks, hK, hN, hA, hZ⟩ := id X
  refine lv_aload_n hx hb dX2_copy_0 rfl (lv_at hl0 1 rfl) ?_
  refine va_get (D := G) (ci := 2) (v := .ref a_p0_row) (C := RX2) (T := TX2) (N := 4) hx hb hts gwX2 hown hK hP0 2 rfl rfl 0 (by decide) (hts _ fl_X2_9) (fun _ h9 => h9) rfl dX2_copy_1 ?_
  refine lv_iconst (v := (0 : Int32)) hx hb dX2_copy_4 (by decide) ?_
  refine lv_aload_n hx hb dX2_copy_5 rfl (lv_at hl0 0 rfl) ?_
  refine va_get (D := G) (ci := 2) (v := .ref a_row) (C := RX2) (T := TX2) (N := 4) hx hb hts gwX2 hown hK hP0 0 rfl rfl 0 (by decide) (hts _ fl_X2_9) (fun _ h9 => h9) rfl dX2_copy_6 ?_
  refine lv_iconst (v := (0 : Int32)) hx hb dX2_copy_9 (by decide) ?_
  refine lv_bipush (v := (36 : Int32)) hx hb dX2_copy_10 (by decide) ?_
  refine va_copyi hx hb (hml.trans hl0.1.symm) hown (hts _ ml_X2_38) (hts _ nat_arraycopy) (hts _ st_arraycopy) (hts _ ini_System) hK hP0 hD0 hS0 3 1 0 0 rfl rfl rfl rfl rfl (by decide) (by decide) (by decide) (by decide) (by decide) (fun _ _ => rfl) (Nat.le_of_ble_eq_true rfl) (by decide +kernel) dX2_copy_12 (fun H1 locs1 hP1 hD1 hS1 => ?_)
  replace hP1 : va_P G vwCl [(a_, .inr (2, [.ref a_row, .int v_size, .long v_ploughed, .long v_steps])), (a_row, .inl (cI, 36, .inl ((va_cpy v_p0_row v_row (0 : Int32).toNatClampNeg (0 : Int32).toNatClampNeg (36 : Int32).toNatClampNeg)))), (a_p0, .inr (2, [.ref a_p0_row, .int v_p0_size, .long v_p0_ploughed, .long v_p0_steps])), (a_p0_row, .inl (cI, 36, .inl v_p0_row))] H1 := hP1
  replace hD1 : va_D A [(a_, .inr (2, [.ref a_row, .int v_size, .long v_ploughed, .long v_steps])), (a_row, .inl (cI, 36, .inl ((va_cpy v_p0_row v_row (0 : Int32).toNatClampNeg (0 : Int32).toNatClampNeg (36 : Int32).toNatClampNeg)))), (a_p0, .inr (2, [.ref a_p0_row, .int v_p0_size, .long v_p0_ploughed, .long v_p0_steps])), (a_p0_row, .inl (cI, 36, .inl v_p0_row))] := hD1
  refine lv_aload_n hx hb dX2_copy_15 rfl (lv_at hl0 0 rfl) ?_
  refine lv_aload_n hx hb dX2_copy_16 rfl (lv_at hl0 1 rfl) ?_
  refine va_get (D := G) (ci := 2) (v := .int v_p0_size) (C := RX2) (T := TX2) (N := 4) hx hb hts gwX2 hown hK hP1 2 rfl rfl 1 (by decide) (hts _ fl_X2_15) (fun _ h9 => h9) rfl dX2_copy_17 ?_
  refine va_put (D := G) (ci := 2) (v := .int v_p0_size) (ty := .int) (C := RX2) (T := TX2) (N := 4) hx hb hts gwX2 tyX2 tyX2_ok nmX2 hown hK hP1 hD1 hS1 0 rfl rfl 1 (by decide) (hts _ fl_X2_15) (fun _ h9 => h9) rfl (by decide +kernel) rfl rfl (Nat.le_of_ble_eq_true rfl) dX2_copy_20 (fun H2 locs2 hP2 hD2 hS2 => ?_)
  replace hP2 : va_P G vwCl [(a_, .inr (2, [.ref a_row, .int v_p0_size, .long v_ploughed, .long v_steps])), (a_row, .inl (cI, 36, .inl ((va_cpy v_p0_row v_row (0 : Int32).toNatClampNeg (0 : Int32).toNatClampNeg (36 : Int32).toNatClampNeg)))), (a_p0, .inr (2, [.ref a_p0_row, .int v_p0_size, .long v_p0_ploughed, .long v_p0_steps])), (a_p0_row, .inl (cI, 36, .inl v_p0_row))] H2 := hP2
  replace hD2 : va_D A [(a_, .inr (2, [.ref a_row, .int v_p0_size, .long v_ploughed, .long v_steps])), (a_row, .inl (cI, 36, .inl ((va_cpy v_p0_row v_row (0 : Int32).toNatClampNeg (0 : Int32).toNatClampNeg (36 : Int32).toNatClampNeg)))), (a_p0, .inr (2, [.ref a_p0_row, .int v_p0_size, .long v_p0_ploughed, .long v_p0_steps])), (a_p0_row, .inl (cI, 36, .inl v_p0_row))] := hD2
  clear hP1 hD1 hS1
  refine lv_aload_n hx hb dX2_copy_23 rfl (lv_at hl0 0 rfl) ?_
  refine lv_aload_n hx hb dX2_copy_24 rfl (lv_at hl0 1 rfl) ?_
  refine va_get (D := G) (ci := 2) (v := .long v_p0_ploughed) (C := RX2) (T := TX2) (N := 4) hx hb hts gwX2 hown hK hP2 2 rfl rfl 2 (by decide) (hts _ fl_X2_19) (fun _ h9 => h9) rfl dX2_copy_25 ?_
  refine va_put (D := G) (ci := 2) (v := .long v_p0_ploughed) (ty := .long) (C := RX2) (T := TX2) (N := 4) hx hb hts gwX2 tyX2 tyX2_ok nmX2 hown hK hP2 hD2 hS2 0 rfl rfl 2 (by decide) (hts _ fl_X2_19) (fun _ h9 => h9) rfl (by decide +kernel) rfl rfl (Nat.le_of_ble_eq_true rfl) dX2_copy_28 (fun H3 locs3 hP3 hD3 hS3 => ?_)
  replace hP3 : va_P G vwCl [(a_, .inr (2, [.ref a_row, .int v_p0_size, .long v_p0_ploughed, .long v_steps])), (a_row, .inl (cI, 36, .inl ((va_cpy v_p0_row v_row (0 : Int32).toNatClampNeg (0 : Int32).toNatClampNeg (36 : Int32).toNatClampNeg)))), (a_p0, .inr (2, [.ref a_p0_row, .int v_p0_size, .long v_p0_ploughed, .long v_p0_steps])), (a_p0_row, .inl (cI, 36, .inl v_p0_row))] H3 := hP3
  replace hD3 : va_D A [(a_, .inr (2, [.ref a_row, .int v_p0_size, .long v_p0_ploughed, .long v_steps])), (a_row, .inl (cI, 36, .inl ((va_cpy v_p0_row v_row (0 : Int32).toNatClampNeg (0 : Int32).toNatClampNeg (36 : Int32).toNatClampNeg)))), (a_p0, .inr (2, [.ref a_p0_row, .int v_p0_size, .long v_p0_ploughed, .long v_p0_steps])), (a_p0_row, .inl (cI, 36, .inl v_p0_row))] := hD3
  clear hP2 hD2 hS2
  refine lv_aload_n hx hb dX2_copy_31 rfl (lv_at hl0 0 rfl) ?_
  refine lv_aload_n hx hb dX2_copy_32 rfl (lv_at hl0 1 rfl) ?_
  refine va_get (D := G) (ci := 2) (v := .long v_p0_steps) (C := RX2) (T := TX2) (N := 4) hx hb hts gwX2 hown hK hP3 2 rfl rfl 3 (by decide) (hts _ fl_X2_23) (fun _ h9 => h9) rfl dX2_copy_33 ?_
  refine va_put (D := G) (ci := 2) (v := .long v_p0_steps) (ty := .long) (C := RX2) (T := TX2) (N := 4) hx hb hts gwX2 tyX2 tyX2_ok nmX2 hown hK hP3 hD3 hS3 0 rfl rfl 3 (by decide) (hts _ fl_X2_23) (fun _ h9 => h9) rfl (by decide +kernel) rfl rfl (Nat.le_of_ble_eq_true rfl) dX2_copy_36 (fun H4 locs4 hP4 hD4 hS4 => ?_)
  replace hP4 : va_P G vwCl [(a_, .inr (2, [.ref a_row, .int v_p0_size, .long v_p0_ploughed, .long v_p0_steps])), (a_row, .inl (cI, 36, .inl ((va_cpy v_p0_row v_row (0 : Int32).toNatClampNeg (0 : Int32).toNatClampNeg (36 : Int32).toNatClampNeg)))), (a_p0, .inr (2, [.ref a_p0_row, .int v_p0_size, .long v_p0_ploughed, .long v_p0_steps])), (a_p0_row, .inl (cI, 36, .inl v_p0_row))] H4 := hP4
  replace hD4 : va_D A [(a_, .inr (2, [.ref a_row, .int v_p0_size, .long v_p0_ploughed, .long v_p0_steps])), (a_row, .inl (cI, 36, .inl ((va_cpy v_p0_row v_row (0 : Int32).toNatClampNeg (0 : Int32).toNatClampNeg (36 : Int32).toNatClampNeg)))), (a_p0, .inr (2, [.ref a_p0_row, .int v_p0_size, .long v_p0_ploughed, .long v_p0_steps])), (a_p0_row, .inl (cI, 36, .inl v_p0_row))] := hD4
  clear hP3 hD3 hS3
  obtain ⟨ez0, ez1, ez2, ez3⟩ := r_eq4 h
  subst ez0; subst ez1; subst ez2; subst ez3
  exact ret_v X hP4 hS4 dX2_copy_39
/-! PloughMaze$Furrow.squareAt -/
abbrev rmX2_squareAt : Room := { frames := 0, cells := 0, slots := 0, locals := 0 }
set_option maxHeartbeats 4000000 in
set_option maxRecDepth 100000 in
theorem mX2_squareAt (l : Launch) (G : va_G) (cI cO : ClassId) (a_ a_row : Nat) (sz : Nat) (v_size : Int32) (v_ploughed : Int64) (v_steps : Int64) (v_row : Nat → Int32) (x1 : Int32) {ret : Int32} (h : fX2_squareAt v_row v_size x1 = some ret) : Met l yX2_squareAt (wsM yX2_squareAt cX2_squareAt 2 (some .int)) rmX2_squareAt (va_Pc [.ref a_, .int x1] (preW G cI cO sz [(a_, .inr (2, [.ref a_row, .int v_size, .long v_ploughed, .long v_steps])), (a_row, .inl (cI, 36, .inl v_row))])) (QcI G (va_A [(a_, .inr (2, [.ref a_row, .int v_size, .long v_ploughed, .long v_steps])), (a_row, .inl (cI, 36, .inl v_row))] sz) ret [(a_, .inr (2, [.ref a_row, .int v_size, .long v_ploughed, .long v_steps])), (a_row, .inl (cI, 36, .inl v_row))]) 0 0 (va_A [(a_, .inr (2, [.ref a_row, .int v_size, .long v_ploughed, .long v_steps])), (a_row, .inl (cI, 36, .inl v_row))] sz) := by
  refine mkMet (own := RX2) (by decide) rfl (Nat.le_of_ble_eq_true rfl) ?_
  intro p e s m args below meth c _ hsz _ X hP0 hD0 ls0 hl0
  have hS0 : va_S (va_A [(a_, .inr (2, [.ref a_row, .int v_size, .long v_ploughed, .long v_steps])), (a_row, .inl (cI, 36, .inl v_row))] sz) s.heap s.heap [] := va_S.rf
  replace hl0 : lv_has ls0 2 [(0, .ref a_), (1, .int x1)] := hl0
  generalize va_A [(a_, .inr (2, [.ref a_row, .int v_size, .long v_ploughed, .long v_steps])), (a_row, .inl (cI, 36, .inl v_row))] sz = A at X hD0 hS0 ⊢
  unfold fX2_squareAt at h
  obtain ⟨hx, hb, hml, hr, hown, hts, hlocks, hK, hN, hA, hZ⟩ := id X
  refine lv_iload_n hx hb dX2_squareAt_0 rfl (lv_at hl0 1 rfl) ?_
  refine lv_if_lt (tgt := 21) hx hb dX2_squareAt_1 (by decide) (fun hc => ?_) (fun hc => ?_)
  · replace h := t_pos h hc
    clear hc
    refine lv_bipush (v := (-4 : Int32)) hx hb dX2_squareAt_21 (by decide) ?_
    obtain ez0 := r_eq1 h
    subst ez0
    exact ret_i X hP0 hS0 dX2_squareAt_23
  · replace h := t_neg h hc
    clear hc
    refine lv_iload_n hx hb dX2_squareAt_4 rfl (lv_at hl0 1 rfl) ?_
    refine lv_aload_n hx hb dX2_squareAt_5 rfl (lv_at hl0 0 rfl) ?_
    refine va_get (D := G) (ci := 2) (v := .int v_size) (C := RX2) (T := TX2) (N := 4) hx hb hts gwX2 hown hK hP0 0 rfl rfl 1 (by decide) (hts _ fl_X2_15) (fun _ h9 => h9) rfl dX2_squareAt_6 ?_
    refine lv_icmp_ge (tgt := 21) hx hb dX2_squareAt_9 (by decide) (fun hc => ?_) (fun hc => ?_)
    · replace h := t_pos h hc
      clear hc
      refine lv_bipush (v := (-4 : Int32)) hx hb dX2_squareAt_21 (by decide) ?_
      obtain ez0 := r_eq1 h
      subst ez0
      exact ret_i X hP0 hS0 dX2_squareAt_23
    · replace h := t_neg h hc
      clear hc
      refine lv_aload_n hx hb dX2_squareAt_12 rfl (lv_at hl0 0 rfl) ?_
      refine va_get (D := G) (ci := 2) (v := .ref a_row) (C := RX2) (T := TX2) (N := 4) hx hb hts gwX2 hown hK hP0 0 rfl rfl 0 (by decide) (hts _ fl_X2_9) (fun _ h9 => h9) rfl dX2_squareAt_13 ?_
      refine lv_iload_n hx hb dX2_squareAt_16 rfl (lv_at hl0 1 rfl) ?_
      replace h := g_in h; obtain ⟨hg, h⟩ := h
      refine va_iald hx hb hK hP0 1 0 rfl rfl (inb_ok hg) dX2_squareAt_17 ?_
      clear hg
      refine lv_goto (tgt := 23) hx hb dX2_squareAt_18 (by decide) ?_
      obtain ez0 := r_eq1 h
      subst ez0
      exact ret_i X hP0 hS0 dX2_squareAt_23
/-! PloughMaze$Furrow.lastSquare -/
abbrev rmX2_lastSquare : Room := { frames := 1, cells := 0, slots := 0, locals := 21 }
set_option maxHeartbeats 4000000 in
set_option maxRecDepth 100000 in
theorem mX2_lastSquare (l : Launch) (G : va_G) (cI cO : ClassId) (a_ a_row : Nat) (sz : Nat) (v_size : Int32) (v_ploughed : Int64) (v_steps : Int64) (v_row : Nat → Int32)  {ret : Int32} (h : fX2_lastSquare v_row v_size = some ret) : Met l yX2_lastSquare (wsM yX2_lastSquare cX2_lastSquare 1 (some .int)) rmX2_lastSquare (va_Pc [.ref a_] (preW G cI cO sz [(a_, .inr (2, [.ref a_row, .int v_size, .long v_ploughed, .long v_steps])), (a_row, .inl (cI, 36, .inl v_row))])) (QcI G (va_A [(a_, .inr (2, [.ref a_row, .int v_size, .long v_ploughed, .long v_steps])), (a_row, .inl (cI, 36, .inl v_row))] sz) ret [(a_, .inr (2, [.ref a_row, .int v_size, .long v_ploughed, .long v_steps])), (a_row, .inl (cI, 36, .inl v_row))]) 0 0 (va_A [(a_, .inr (2, [.ref a_row, .int v_size, .long v_ploughed, .long v_steps])), (a_row, .inl (cI, 36, .inl v_row))] sz) := by
  refine mkMet (own := RX2) (by decide) rfl (Nat.le_of_ble_eq_true rfl) ?_
  intro p e s m args below meth c _ hsz _ X hP0 hD0 ls0 hl0
  have hS0 : va_S (va_A [(a_, .inr (2, [.ref a_row, .int v_size, .long v_ploughed, .long v_steps])), (a_row, .inl (cI, 36, .inl v_row))] sz) s.heap s.heap [] := va_S.rf
  replace hl0 : lv_has ls0 1 [(0, .ref a_)] := hl0
  generalize va_A [(a_, .inr (2, [.ref a_row, .int v_size, .long v_ploughed, .long v_steps])), (a_row, .inl (cI, 36, .inl v_row))] sz = A at X hD0 hS0 ⊢
  unfold fX2_lastSquare at h
  obtain ⟨hx, hb, hml, hr, hown, hts, hlocks, hK, hN, hA, hZ⟩ := id X
  refine lv_aload_n hx hb dX2_lastSquare_0 rfl (lv_at hl0 0 rfl) ?_
  refine lv_aload_n hx hb dX2_lastSquare_1 rfl (lv_at hl0 0 rfl) ?_
  refine va_get (D := G) (ci := 2) (v := .int v_size) (C := RX2) (T := TX2) (N := 4) hx hb hts gwX2 hown hK hP0 0 rfl rfl 1 (by decide) (hts _ fl_X2_15) (fun _ h9 => h9) rfl dX2_lastSquare_2 ?_
  refine lv_iconst (v := (1 : Int32)) hx hb dX2_lastSquare_5 (by decide) ?_
  refine lv_isub hx hb dX2_lastSquare_6 ?_
  replace h := g_ob1 h
  obtain ⟨r1, hf1, h⟩ := h
  refine cal_i (wc := [(a_, .inr (2, [.ref a_row, .int v_size, .long v_ploughed, .long v_steps])), (a_row, .inl (cI, 36, .inl v_row))]) (w1 := [(a_, .inr (2, [.ref a_row, .int v_size, .long v_ploughed, .long v_steps])), (a_row, .inl (cI, 36, .inl v_row))]) (wn := [(a_, .inr (2, [.ref a_row, .int v_size, .long v_ploughed, .long v_steps])), (a_row, .inl (cI, 36, .inl v_row))]) X hP0 hD0 hS0 [0, 1] rfl rfl rfl rfl (run_V (As := [.int (v_size - (1 : Int32))]) (rest := []) X hP0 hD0 hS0 [0, 1] rfl rfl (mX2_squareAt l G cI cO a_ a_row  s.heap.size v_size v_ploughed v_steps v_row ((v_size - (1 : Int32))) hf1) mv_X2_squareAt ml_X2_44 ⟨Nat.le_of_ble_eq_true rfl, Nat.le_of_ble_eq_true rfl⟩ rfl rfl 0 2 rfl rfl rfl rfl hl0.1 rfl (Nat.le_of_ble_eq_true rfl) ⟨Nat.zero_le _, Nat.zero_le _⟩ dX2_lastSquare_7) (fun H2 locs2 hP2 hD2 hS2 => ?_)
  clear hf1
  obtain ez0 := r_eq1 h
  subst ez0
  exact ret_i X hP2 hS2 dX2_lastSquare_10
/-! PloughMaze$Furrow.placeOf -/
abbrev rmX2_placeOf : Room := { frames := 0, cells := 0, slots := 0, locals := 0 }
def SX2_placeOf_2 (p : Program) (l : Launch) (e : Env) (s : State) (m : MethodId) (args : Array Value) (below : List Frame) (meth : Method) (c : Code) (G : va_G) (cI cO : ClassId) (A : Nat → Prop) (a_ a_row : Nat) (v_size : Int32) (v_ploughed : Int64) (v_steps : Int64) (v_row : Nat → Int32) (ret : Int32) (k : Int32 → Int32 → Option (Int32)) : Prop := ∀ (x1 : Int32) (x2 : Int32) (H : Heap) (locs : List Loc), va_P G vwCl [(a_, .inr (2, [.ref a_row, .int v_size, .long v_ploughed, .long v_steps])), (a_row, .inl (cI, 36, .inl v_row))] H → va_D A [(a_, .inr (2, [.ref a_row, .int v_size, .long v_ploughed, .long v_steps])), (a_row, .inl (cI, 36, .inl v_row))] → va_S A s.heap H locs → ∀ (ls : Array Slot), lv_has ls 3 [(0, .ref a_), (1, .int x1), (2, .int x2)] → k x1 x2 = some ret → W p l e rmX2_placeOf s m args below meth c H locs 0 0 (MQ below (QcI G A ret [(a_, .inr (2, [.ref a_row, .int v_size, .long v_ploughed, .long v_steps])), (a_row, .inl (cI, 36, .inl v_row))]) args s 0 0 A) (F0 m 2 ls [])
set_option maxHeartbeats 4000000 in
set_option maxRecDepth 100000 in
theorem bX2_placeOf_2 {p : Program} {l : Launch} {e : Env} {s : State} {m : MethodId} {args : Array Value} {below : List Frame} {meth : Method} {c : Code} {G : va_G} {cI cO : ClassId} {A : Nat → Prop} {a_ a_row : Nat} {v_size : Int32} {v_ploughed : Int64} {v_steps : Int64} {v_row : Nat → Int32} {ret : Int32} (X : BX p rmX2_placeOf s m args meth c cX2_placeOf 3 (some .int) RX2 G cI cO A) : ∀ n : Nat, SX2_placeOf_2 p l e s m args below meth c G cI cO A a_ a_row v_size v_ploughed v_steps v_row ret (fX2_placeOf_2 v_row v_size n) := by
  intro n
  induction n with
  | zero => intro x1 x2 H0 locs0 hP0 hD0 hS0 ls0 hl0 h; exact absurd h (by simp [fX2_placeOf_2])
  | succ n ih =>
    intro x1 x2 H0 locs0 hP0 hD0 hS0 ls0 hl0 h
    rw [fX2_placeOf_2] at h
    obtain ⟨hx, hb, hml, hr, hown, hts, hlocks, hK, hN, hA, hZ⟩ := id X
    refine lv_iload_n hx hb dX2_placeOf_2 rfl (lv_at hl0 2 rfl) ?_
    refine lv_aload_n hx hb dX2_placeOf_3 rfl (lv_at hl0 0 rfl) ?_
    refine va_get (D := G) (ci := 2) (v := .int v_size) (C := RX2) (T := TX2) (N := 4) hx hb hts gwX2 hown hK hP0 0 rfl rfl 1 (by decide) (hts _ fl_X2_15) (fun _ h9 => h9) rfl dX2_placeOf_4 ?_
    refine lv_icmp_ge (tgt := 28) hx hb dX2_placeOf_7 (by decide) (fun hc => ?_) (fun hc => ?_)
    · replace h := t_pos h hc
      clear hc
      refine lv_bipush (v := (-4 : Int32)) hx hb dX2_placeOf_28 (by decide) ?_
      obtain ez0 := r_eq1 h
      subst ez0
      exact ret_i X hP0 hS0 dX2_placeOf_30
    · replace h := t_neg h hc
      clear hc
      refine lv_aload_n hx hb dX2_placeOf_10 rfl (lv_at hl0 0 rfl) ?_
      refine va_get (D := G) (ci := 2) (v := .ref a_row) (C := RX2) (T := TX2) (N := 4) hx hb hts gwX2 hown hK hP0 0 rfl rfl 0 (by decide) (hts _ fl_X2_9) (fun _ h9 => h9) rfl dX2_placeOf_11 ?_
      refine lv_iload_n hx hb dX2_placeOf_14 rfl (lv_at hl0 2 rfl) ?_
      replace h := g_in h; obtain ⟨hg, h⟩ := h
      refine va_iald hx hb hK hP0 1 0 rfl rfl (inb_ok hg) dX2_placeOf_15 ?_
      clear hg
      refine lv_iload_n hx hb dX2_placeOf_16 rfl (lv_at hl0 1 rfl) ?_
      refine lv_icmp_ne (tgt := 22) hx hb dX2_placeOf_17 (by decide) (fun hc => ?_) (fun hc => ?_)
      · replace h := t_neg h hc
        clear hc
        refine lv_iinc (v := (x2 + (1 : Int32))) (lv' := [(2, .int (x2 + (1 : Int32))), (0, .ref a_), (1, .int x1)]) hx hb dX2_placeOf_22 hl0 (k := 2) rfl (congrArg (fun z => x2 + z) (by decide : Int32.ofInt (1) = (1 : Int32))) (by decide) rfl (fun ls1 hl1 => ?_)
        refine lv_goto (tgt := 2) hx hb dX2_placeOf_25 (by decide) ?_
        exact ih x1 ((x2 + (1 : Int32))) H0 locs0 hP0 hD0 hS0 ls1 (lv_sub hl1 [1, 2, 0] rfl) h
      · replace h := t_pos h hc
        clear hc
        refine lv_iload_n hx hb dX2_placeOf_20 rfl (lv_at hl0 2 rfl) ?_
        obtain ez0 := r_eq1 h
        subst ez0
        exact ret_i X hP0 hS0 dX2_placeOf_21
set_option maxHeartbeats 4000000 in
set_option maxRecDepth 100000 in
theorem mX2_placeOf (l : Launch) (G : va_G) (cI cO : ClassId) (a_ a_row : Nat) (sz : Nat) (v_size : Int32) (v_ploughed : Int64) (v_steps : Int64) (v_row : Nat → Int32) (x1 : Int32) {ret : Int32} (h : fX2_placeOf v_row v_size x1 = some ret) : Met l yX2_placeOf (wsM yX2_placeOf cX2_placeOf 3 (some .int)) rmX2_placeOf (va_Pc [.ref a_, .int x1] (preW G cI cO sz [(a_, .inr (2, [.ref a_row, .int v_size, .long v_ploughed, .long v_steps])), (a_row, .inl (cI, 36, .inl v_row))])) (QcI G (va_A [(a_, .inr (2, [.ref a_row, .int v_size, .long v_ploughed, .long v_steps])), (a_row, .inl (cI, 36, .inl v_row))] sz) ret [(a_, .inr (2, [.ref a_row, .int v_size, .long v_ploughed, .long v_steps])), (a_row, .inl (cI, 36, .inl v_row))]) 0 0 (va_A [(a_, .inr (2, [.ref a_row, .int v_size, .long v_ploughed, .long v_steps])), (a_row, .inl (cI, 36, .inl v_row))] sz) := by
  refine mkMet (own := RX2) (by decide) rfl (Nat.le_of_ble_eq_true rfl) ?_
  intro p e s m args below meth c _ hsz _ X hP0 hD0 ls0 hl0
  have hS0 : va_S (va_A [(a_, .inr (2, [.ref a_row, .int v_size, .long v_ploughed, .long v_steps])), (a_row, .inl (cI, 36, .inl v_row))] sz) s.heap s.heap [] := va_S.rf
  replace hl0 : lv_has ls0 3 [(0, .ref a_), (1, .int x1)] := hl0
  generalize va_A [(a_, .inr (2, [.ref a_row, .int v_size, .long v_ploughed, .long v_steps])), (a_row, .inl (cI, 36, .inl v_row))] sz = A at X hD0 hS0 ⊢
  unfold fX2_placeOf at h
  obtain ⟨hx, hb, hml, hr, hown, hts, hlocks, hK, hN, hA, hZ⟩ := id X
  refine lv_iconst (v := (0 : Int32)) hx hb dX2_placeOf_0 (by decide) ?_
  refine lv_istore_n (lv' := [(2, .int (0 : Int32)), (0, .ref a_), (1, .int x1)]) hx hb dX2_placeOf_1 rfl hl0 (by decide) rfl (fun ls1 hl1 => ?_)
  exact bX2_placeOf_2 X 4000 x1 (0 : Int32) s.heap [] hP0 hD0 hS0 ls1 (lv_sub hl1 [1, 2, 0] rfl) h
/-! PloughMaze$Furrow.ring -/
abbrev rmX2_ring : Room := { frames := 1, cells := 0, slots := 0, locals := 23 }
set_option maxHeartbeats 4000000 in
set_option maxRecDepth 100000 in
theorem mX2_ring (l : Launch) (G : va_G) (cI cO : ClassId) (a_ a_row : Nat) (sz : Nat) (v_size : Int32) (v_ploughed : Int64) (v_steps : Int64) (v_row : Nat → Int32)  {ret : Int64} (h : fX2_ring v_row v_size = some ret) : Met l yX2_ring (wsM yX2_ring cX2_ring 1 (some .long)) rmX2_ring (va_Pc [.ref a_] (preW G cI cO sz [(a_, .inr (2, [.ref a_row, .int v_size, .long v_ploughed, .long v_steps])), (a_row, .inl (cI, 36, .inl v_row))])) (QcL G (va_A [(a_, .inr (2, [.ref a_row, .int v_size, .long v_ploughed, .long v_steps])), (a_row, .inl (cI, 36, .inl v_row))] sz) ret [(a_, .inr (2, [.ref a_row, .int v_size, .long v_ploughed, .long v_steps])), (a_row, .inl (cI, 36, .inl v_row))]) 0 0 (va_A [(a_, .inr (2, [.ref a_row, .int v_size, .long v_ploughed, .long v_steps])), (a_row, .inl (cI, 36, .inl v_row))] sz) := by
  refine mkMet (own := RX2) (by decide) rfl (Nat.le_of_ble_eq_true rfl) ?_
  intro p e s m args below meth c _ hsz _ X hP0 hD0 ls0 hl0
  have hS0 : va_S (va_A [(a_, .inr (2, [.ref a_row, .int v_size, .long v_ploughed, .long v_steps])), (a_row, .inl (cI, 36, .inl v_row))] sz) s.heap s.heap [] := va_S.rf
  replace hl0 : lv_has ls0 1 [(0, .ref a_)] := hl0
  generalize va_A [(a_, .inr (2, [.ref a_row, .int v_size, .long v_ploughed, .long v_steps])), (a_row, .inl (cI, 36, .inl v_row))] sz = A at X hD0 hS0 ⊢
  unfold fX2_ring at h
  obtain ⟨hx, hb, hml, hr, hown, hts, hlocks, hK, hN, hA, hZ⟩ := id X
  refine lv_aload_n hx hb dX2_ring_0 rfl (lv_at hl0 0 rfl) ?_
  refine va_get (D := G) (ci := 2) (v := .int v_size) (C := RX2) (T := TX2) (N := 4) hx hb hts gwX2 hown hK hP0 0 rfl rfl 1 (by decide) (hts _ fl_X2_15) (fun _ h9 => h9) rfl dX2_ring_1 ?_
  refine lv_iconst (v := (4 : Int32)) hx hb dX2_ring_4 (by decide) ?_
  refine lv_icmp_lt (tgt := 31) hx hb dX2_ring_5 (by decide) (fun hc => ?_) (fun hc => ?_)
  · replace h := t_pos h hc
    clear hc
    refine lv_lconst (v := (0 : Int64)) hx hb dX2_ring_31 (by decide) ?_
    obtain ez0 := r_eq1 h
    subst ez0
    exact ret_l X hP0 hS0 dX2_ring_32
  · replace h := t_neg h hc
    clear hc
    refine lv_aload_n hx hb dX2_ring_8 rfl (lv_at hl0 0 rfl) ?_
    refine va_get (D := G) (ci := 2) (v := .ref a_row) (C := RX2) (T := TX2) (N := 4) hx hb hts gwX2 hown hK hP0 0 rfl rfl 0 (by decide) (hts _ fl_X2_9) (fun _ h9 => h9) rfl dX2_ring_9 ?_
    refine lv_aload_n hx hb dX2_ring_12 rfl (lv_at hl0 0 rfl) ?_
    refine va_get (D := G) (ci := 2) (v := .int v_size) (C := RX2) (T := TX2) (N := 4) hx hb hts gwX2 hown hK hP0 0 rfl rfl 1 (by decide) (hts _ fl_X2_15) (fun _ h9 => h9) rfl dX2_ring_13 ?_
    refine lv_iconst (v := (1 : Int32)) hx hb dX2_ring_16 (by decide) ?_
    refine lv_isub hx hb dX2_ring_17 ?_
    replace h := g_in h; obtain ⟨hg, h⟩ := h
    refine va_iald hx hb hK hP0 1 0 rfl rfl (inb_ok hg) dX2_ring_18 ?_
    clear hg
    refine lv_aload_n hx hb dX2_ring_19 rfl (lv_at hl0 0 rfl) ?_
    refine va_get (D := G) (ci := 2) (v := .ref a_row) (C := RX2) (T := TX2) (N := 4) hx hb hts gwX2 hown hK hP0 0 rfl rfl 0 (by decide) (hts _ fl_X2_9) (fun _ h9 => h9) rfl dX2_ring_20 ?_
    refine lv_iconst (v := (0 : Int32)) hx hb dX2_ring_23 (by decide) ?_
    refine va_iald hx hb hK hP0 1 0 rfl rfl (inb_ok (by decide)) dX2_ring_24 ?_
    replace h := g_ob1 h
    obtain ⟨r1, hf1, h⟩ := h
    refine cal_l (wc := []) (w1 := []) (wn := [(a_, .inr (2, [.ref a_row, .int v_size, .long v_ploughed, .long v_steps])), (a_row, .inl (cI, 36, .inl v_row))]) X hP0 hD0 hS0 [] rfl rfl rfl rfl (run_S (As := [.int (v_row (v_size - (1 : Int32)).toNatClampNeg), .int (v_row (0 : Int32).toNatClampNeg)]) (rest := []) X hP0 hD0 hS0 [] rfl rfl (mX3_between l G cI cO   s.heap.size  ((v_row (v_size - (1 : Int32)).toNatClampNeg)) ((v_row (0 : Int32).toNatClampNeg)) hf1) ms_X3_between ml_X2_32 ⟨Nat.le_of_ble_eq_true rfl, Nat.le_of_ble_eq_true rfl⟩ rfl rfl rfl hl0.1 rfl (Nat.le_of_ble_eq_true rfl) ⟨Nat.zero_le _, Nat.zero_le _⟩ dX2_ring_25) (fun H2 locs2 hP2 hD2 hS2 => ?_)
    clear hf1
    refine lv_goto (tgt := 32) hx hb dX2_ring_28 (by decide) ?_
    obtain ez0 := r_eq1 h
    subst ez0
    exact ret_l X hP2 hS2 dX2_ring_32
