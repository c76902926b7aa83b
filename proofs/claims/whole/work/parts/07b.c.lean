/-! PloughMaze$Field.refresh -/
abbrev rmX1_refresh : Room := { frames := 2, cells := 0, slots := 0, locals := 43 }
set_option maxHeartbeats 4000000 in
set_option maxRecDepth 100000 in
theorem mX1_refresh (l : Launch) (G : va_G) (cI cO : ClassId) (a_ a_furrow a_furrow_row : Nat) (sz : Nat) (v_eaten : Int64) (v_closed : Int64) (v_gaps : Int64) (v_strawMen : Int64) (v_months : Int32) (v_middle : Int32) (v_door : Int32) (v_seenGaps : Int64) (v_seenCorn : Int64) (v_seenCount : Int32) (v_furrow_size : Int32) (v_furrow_ploughed : Int64) (v_furrow_steps : Int64) (v_furrow_row : Nat → Int32)  {o_gaps : Int64} (h : fX1_refresh v_furrow_row v_furrow_size v_furrow_steps v_eaten v_closed v_gaps = some o_gaps) : Met l yX1_refresh (wsM yX1_refresh cX1_refresh 1 none) rmX1_refresh (va_Pc [.ref a_] (preW G cI cO sz [(a_, .inr (1, [.ref a_furrow, .long v_eaten, .long v_closed, .long v_gaps, .long v_strawMen, .int v_months, .int v_middle, .int v_door, .long v_seenGaps, .long v_seenCorn, .int v_seenCount])), (a_furrow, .inr (2, [.ref a_furrow_row, .int v_furrow_size, .long v_furrow_ploughed, .long v_furrow_steps])), (a_furrow_row, .inl (cI, 36, .inl v_furrow_row))])) (QcV G (va_A [(a_, .inr (1, [.ref a_furrow, .long v_eaten, .long v_closed, .long v_gaps, .long v_strawMen, .int v_months, .int v_middle, .int v_door, .long v_seenGaps, .long v_seenCorn, .int v_seenCount])), (a_furrow, .inr (2, [.ref a_furrow_row, .int v_furrow_size, .long v_furrow_ploughed, .long v_furrow_steps])), (a_furrow_row, .inl (cI, 36, .inl v_furrow_row))] sz) [(a_, .inr (1, [.ref a_furrow, .long v_eaten, .long v_closed, .long o_gaps, .long v_strawMen, .int v_months, .int v_middle, .int v_door, .long v_seenGaps, .long v_seenCorn, .int v_seenCount])), (a_furrow, .inr (2, [.ref a_furrow_row, .int v_furrow_size, .long v_furrow_ploughed, .long v_furrow_steps])), (a_furrow_row, .inl (cI, 36, .inl v_furrow_row))]) 0 0 (va_A [(a_, .inr (1, [.ref a_furrow, .long v_eaten, .long v_closed, .long v_gaps, .long v_strawMen, .int v_months, .int v_middle, .int v_door, .long v_seenGaps, .long v_seenCorn, .int v_seenCount])), (a_furrow, .inr (2, [.ref a_furrow_row, .int v_furrow_size, .long v_furrow_ploughed, .long v_furrow_steps])), (a_furrow_row, .inl (cI, 36, .inl v_furrow_row))] sz) := by
  refine mkMet (own := RX1) (by decide) rfl (Nat.le_of_ble_eq_true rfl) ?_
  intro p e s m args below meth c _ hsz _ X hP0 hD0 ls0 hl0
  have hS0 : va_S (va_A [(a_, .inr (1, [.ref a_furrow, .long v_eaten, .long v_closed, .long v_gaps, .long v_strawMen, .int v_months, .int v_middle, .int v_door, .long v_seenGaps, .long v_seenCorn, .int v_seenCount])), (a_furrow, .inr (2, [.ref a_furrow_row, .int v_furrow_size, .long v_furrow_ploughed, .long v_furrow_steps])), (a_furrow_row, .inl (cI, 36, .inl v_furrow_row))] sz) s.heap s.heap [] := va_S.rf
  replace hl0 : lv_has ls0 1 [(0, .ref a_)] := hl0
  generalize va_A [(a_, .inr (1, [.ref a_furrow, .long v_eaten, .long v_closed, .long v_gaps, .long v_strawMen, .int v_months, .int v_middle, .int v_door, .long v_seenGaps, .long v_seenCorn, .int v_seenCount])), (a_furrow, .inr (2, [.ref a_furrow_row, .int v_furrow_size, .long v_furrow_ploughed, .long v_furrow_steps])), (a_furrow_row, .inl (cI, 36, .inl v_furrow_row))] sz = A at X hD0 hS0 ⊢
  unfold fX1_refresh at h
  obtain ⟨hx, hb, hml, hr, hown, hts, hlocks, hK, hN, hA, hZ⟩ := id X
  refine lv_aload_n hx hb dX1_refresh_0 rfl (lv_at hl0 0 rfl) ?_
  refine lv_aload_n hx hb dX1_refresh_1 rfl (lv_at hl0 0 rfl) ?_
  refine va_get (D := G) (ci := 1) (v := .ref a_furrow) (C := RX1) (T := TX1) (N := 11) hx hb hts gwX1 hown hK hP0 0 rfl rfl 0 (by decide) (hts _ fl_X1_12) (fun _ h9 => h9) rfl dX1_refresh_2 ?_
  refine va_getN (D := G) (ci := 2) (v := .long v_furrow_steps) (C := RX2) (T := TX2) (N := 4) hx hb hts gwX2 hown hK hP0 1 rfl rfl 3 (by decide) (va_Nw.use rfl (hN _ fn_X1_50)) (fun _ h9 => h9) rfl dX1_refresh_5 ?_
  refine lv_aload_n hx hb dX1_refresh_8 rfl (lv_at hl0 0 rfl) ?_
  refine va_get (D := G) (ci := 1) (v := .ref a_furrow) (C := RX1) (T := TX1) (N := 11) hx hb hts gwX1 hown hK hP0 0 rfl rfl 0 (by decide) (hts _ fl_X1_12) (fun _ h9 => h9) rfl dX1_refresh_9 ?_
  replace h := g_ob1 h
  obtain ⟨r1, hf1, h⟩ := h
  refine cal_l (wc := [(a_furrow, .inr (2, [.ref a_furrow_row, .int v_furrow_size, .long v_furrow_ploughed, .long v_furrow_steps])), (a_furrow_row, .inl (cI, 36, .inl v_furrow_row))]) (w1 := [(a_furrow, .inr (2, [.ref a_furrow_row, .int v_furrow_size, .long v_furrow_ploughed, .long v_furrow_steps])), (a_furrow_row, .inl (cI, 36, .inl v_furrow_row))]) (wn := [(a_, .inr (1, [.ref a_furrow, .long v_eaten, .long v_closed, .long v_gaps, .long v_strawMen, .int v_months, .int v_middle, .int v_door, .long v_seenGaps, .long v_seenCorn, .int v_seenCount])), (a_furrow, .inr (2, [.ref a_furrow_row, .int v_furrow_size, .long v_furrow_ploughed, .long v_furrow_steps])), (a_furrow_row, .inl (cI, 36, .inl v_furrow_row))]) X hP0 hD0 hS0 [1, 2] rfl rfl rfl rfl (run_V (As := []) (rest := [.long v_furrow_steps, .ref a_]) X hP0 hD0 hS0 [1, 2] rfl rfl (mX2_ring l G cI cO a_furrow a_furrow_row  s.heap.size v_furrow_size v_furrow_ploughed v_furrow_steps v_furrow_row  hf1) mv_X2_ring ml_X1_53 ⟨Nat.le_of_ble_eq_true rfl, Nat.le_of_ble_eq_true rfl⟩ rfl rfl 1 2 rfl rfl rfl rfl hl0.1 rfl (Nat.le_of_ble_eq_true rfl) ⟨Nat.zero_le _, Nat.zero_le _⟩ dX1_refresh_12) (fun H2 locs2 hP2 hD2 hS2 => ?_)
  clear hf1
  refine lv_lor hx hb dX1_refresh_15 ?_
  refine lv_aload_n hx hb dX1_refresh_16 rfl (lv_at hl0 0 rfl) ?_
  refine va_get (D := G) (ci := 1) (v := .long v_eaten) (C := RX1) (T := TX1) (N := 11) hx hb hts gwX1 hown hK hP2 0 rfl rfl 1 (by decide) (hts _ fl_X1_18) (fun _ h9 => h9) rfl dX1_refresh_17 ?_
  refine lv_lor hx hb dX1_refresh_20 ?_
  refine lv_aload_n hx hb dX1_refresh_21 rfl (lv_at hl0 0 rfl) ?_
  refine va_get (D := G) (ci := 1) (v := .long v_closed) (C := RX1) (T := TX1) (N := 11) hx hb hts gwX1 hown hK hP2 0 rfl rfl 2 (by decide) (hts _ fl_X1_22) (fun _ h9 => h9) rfl dX1_refresh_22 ?_
  refine lv_ldc2 (v := (-1 : Int64)) hx hb hown (hts _ kL_X1_57) dX1_refresh_25 ?_
  refine lv_lxor hx hb dX1_refresh_28 ?_
  refine lv_land hx hb dX1_refresh_29 ?_
  refine lv_topl (fun y3 ey3 => ?_)
  replace h := g_let h ey3
  clear ey3
  refine va_put (D := G) (ci := 1) (v := .long y3) (ty := .long) (C := RX1) (T := TX1) (N := 11) hx hb hts gwX1 tyX1 tyX1_ok nmX1 hown hK hP2 hD2 hS2 0 rfl rfl 3 (by decide) (hts _ fl_X1_25) (fun _ h9 => h9) rfl (by decide +kernel) rfl rfl (Nat.le_of_ble_eq_true rfl) dX1_refresh_30 (fun H4 locs4 hP4 hD4 hS4 => ?_)
  replace hP4 : va_P G vwCl [(a_, .inr (1, [.ref a_furrow, .long v_eaten, .long v_closed, .long y3, .long v_strawMen, .int v_months, .int v_middle, .int v_door, .long v_seenGaps, .long v_seenCorn, .int v_seenCount])), (a_furrow, .inr (2, [.ref a_furrow_row, .int v_furrow_size, .long v_furrow_ploughed, .long v_furrow_steps])), (a_furrow_row, .inl (cI, 36, .inl v_furrow_row))] H4 := hP4
  replace hD4 : va_D A [(a_, .inr (1, [.ref a_furrow, .long v_eaten, .long v_closed, .long y3, .long v_strawMen, .int v_months, .int v_middle, .int v_door, .long v_seenGaps, .long v_seenCorn, .int v_seenCount])), (a_furrow, .inr (2, [.ref a_furrow_row, .int v_furrow_size, .long v_furrow_ploughed, .long v_furrow_steps])), (a_furrow_row, .inl (cI, 36, .inl v_furrow_row))] := hD4
  clear hP2 hD2 hS2
  obtain ez0 := r_eq1 h
  subst ez0
  exact ret_v X hP4 hS4 dX1_refresh_33
/-! PloughMaze$Field.copy -/
abbrev rmX1_copy : Room := { frames := 2, cells := 0, slots := 0, locals := 81 }
set_option maxHeartbeats 4000000 in
set_option maxRecDepth 100000 in
theorem mX1_copy (l : Launch) (G : va_G) (cI cO : ClassId) (a_ a_furrow a_furrow_row a_p0 a_p0_furrow a_p0_furrow_row : Nat) (sz : Nat) (v_eaten : Int64) (v_closed : Int64) (v_gaps : Int64) (v_strawMen : Int64) (v_months : Int32) (v_middle : Int32) (v_door : Int32) (v_seenGaps : Int64) (v_seenCorn : Int64) (v_seenCount : Int32) (v_furrow_size : Int32) (v_furrow_ploughed : Int64) (v_furrow_steps : Int64) (v_furrow_row : Nat → Int32) (v_p0_eaten : Int64) (v_p0_closed : Int64) (v_p0_gaps : Int64) (v_p0_strawMen : Int64) (v_p0_months : Int32) (v_p0_middle : Int32) (v_p0_door : Int32) (v_p0_seenGaps : Int64) (v_p0_seenCorn : Int64) (v_p0_seenCount : Int32) (v_p0_furrow_size : Int32) (v_p0_furrow_ploughed : Int64) (v_p0_furrow_steps : Int64) (v_p0_furrow_row : Nat → Int32)  {o_furrow_row : Nat → Int32} {o_furrow_size : Int32} {o_furrow_ploughed : Int64} {o_furrow_steps : Int64} {o_eaten : Int64} {o_closed : Int64} {o_gaps : Int64} {o_strawMen : Int64} {o_months : Int32} {o_middle : Int32} {o_door : Int32} {o_seenGaps : Int64} {o_seenCorn : Int64} {o_seenCount : Int32} (h : fX1_copy v_furrow_row v_furrow_size v_furrow_ploughed v_furrow_steps v_eaten v_closed v_gaps v_strawMen v_months v_middle v_door v_seenGaps v_seenCorn v_seenCount v_p0_furrow_row v_p0_furrow_size v_p0_furrow_ploughed v_p0_furrow_steps v_p0_eaten v_p0_closed v_p0_gaps v_p0_strawMen v_p0_months v_p0_middle v_p0_door v_p0_seenGaps v_p0_seenCorn v_p0_seenCount = some (o_furrow_row, o_furrow_size, o_furrow_ploughed, o_furrow_steps, o_eaten, o_closed, o_gaps, o_strawMen, o_months, o_middle, o_door, o_seenGaps, o_seenCorn, o_seenCount)) : Met l yX1_copy (wsM yX1_copy cX1_copy 2 none) rmX1_copy (va_Pc [.ref a_, .ref a_p0] (preW G cI cO sz [(a_, .inr (1, [.ref a_furrow, .long v_eaten, .long v_closed, .long v_gaps, .long v_strawMen, .int v_months, .int v_middle, .int v_door, .long v_seenGaps, .long v_seenCorn, .int v_seenCount])), (a_furrow, .inr (2, [.ref a_furrow_row, .int v_furrow_size, .long v_furrow_ploughed, .long v_furrow_steps])), (a_furrow_row, .inl (cI, 36, .inl v_furrow_row)), (a_p0, .inr (1, [.ref a_p0_furrow, .long v_p0_eaten, .long v_p0_closed, .long v_p0_gaps, .long v_p0_strawMen, .int v_p0_months, .int v_p0_middle, .int v_p0_door, .long v_p0_seenGaps, .long v_p0_seenCorn, .int v_p0_seenCount])), (a_p0_furrow, .inr (2, [.ref a_p0_furrow_row, .int v_p0_furrow_size, .long v_p0_furrow_ploughed, .long v_p0_furrow_steps])), (a_p0_furrow_row, .inl (cI, 36, .inl v_p0_furrow_row))])) (QcV G (va_A [(a_, .inr (1, [.ref a_furrow, .long v_eaten, .long v_closed, .long v_gaps, .long v_strawMen, .int v_months, .int v_middle, .int v_door, .long v_seenGaps, .long v_seenCorn, .int v_seenCount])), (a_furrow, .inr (2, [.ref a_furrow_row, .int v_furrow_size, .long v_furrow_ploughed, .long v_furrow_steps])), (a_furrow_row, .inl (cI, 36, .inl v_furrow_row)), (a_p0, .inr (1, [.ref a_p0_furrow, .long v_p0_eaten, .long v_p0_closed, .long v_p0_gaps, .long v_p0_strawMen, .int v_p0_months, .int v_p0_middle, .int v_p0_door, .long v_p0_seenGaps, .long v_p0_seenCorn, .int v_p0_seenCount])), (a_p0_furrow, .inr (2, [.ref a_p0_furrow_row, .int v_p0_furrow_size, .long v_p0_furrow_ploughed, .long v_p0_furrow_steps])), (a_p0_furrow_row, .inl (cI, 36, .inl v_p0_furrow_row))] sz) [(a_, .inr (1, [.ref a_furrow, .long o_eaten, .long o_closed, .long o_gaps, .long o_strawMen, .int o_months, .int o_middle, .int o_door, .long o_seenGaps, .long o_seenCorn, .int o_seenCount])), (a_furrow, .inr (2, [.ref a_furrow_row, .int o_furrow_size, .long o_furrow_ploughed, .long o_furrow_steps])), (a_furrow_row, .inl (cI, 36, .inl o_furrow_row)), (a_p0, .inr (1, [.ref a_p0_furrow, .long v_p0_eaten, .long v_p0_closed, .long v_p0_gaps, .long v_p0_strawMen, .int v_p0_months, .int v_p0_middle, .int v_p0_door, .long v_p0_seenGaps, .long v_p0_seenCorn, .int v_p0_seenCount])), (a_p0_furrow, .inr (2, [.ref a_p0_furrow_row, .int v_p0_furrow_size, .long v_p0_furrow_ploughed, .long v_p0_furrow_steps])), (a_p0_furrow_row, .inl (cI, 36, .inl v_p0_furrow_row))]) 0 0 (va_A [(a_, .inr (1, [.ref a_furrow, .long v_eaten, .long v_closed, .long v_gaps, .long v_strawMen, .int v_months, .int v_middle, .int v_door, .long v_seenGaps, .long v_seenCorn, .int v_seenCount])), (a_furrow, .inr (2, [.ref a_furrow_row, .int v_furrow_size, .long v_furrow_ploughed, .long v_furrow_steps])), (a_furrow_row, .inl (cI, 36, .inl v_furrow_row)), (a_p0, .inr (1, [.ref a_p0_furrow, .long v_p0_eaten, .long v_p0_closed, .long v_p0_gaps, .long v_p0_strawMen, .int v_p0_months, .int v_p0_middle, .int v_p0_door, .long v_p0_seenGaps, .long v_p0_seenCorn, .int v_p0_seenCount])), (a_p0_furrow, .inr (2, [.ref a_p0_furrow_row, .int v_p0_furrow_size, .long v_p0_furrow_ploughed, .long v_p0_furrow_steps])), (a_p0_furrow_row, .inl (cI, 36, .inl v_p0_furrow_row))] sz) := by
  refine mkMet (own := RX1) (by decide) rfl (Nat.le_of_ble_eq_true rfl) ?_
  intro p e s m args below meth c _ hsz _ X hP0 hD0 ls0 hl0
  have hS0 : va_S (va_A [(a_, .inr (1, [.ref a_furrow, .long v_eaten, .long v_closed, .long v_gaps, .long v_strawMen, .int v_months, .int v_middle, .int v_door, .long v_seenGaps, .long v_seenCorn, .int v_seenCount])), (a_furrow, .inr (2, [.ref a_furrow_row, .int v_furrow_size, .long v_furrow_ploughed, .long v_furrow_steps])), (a_furrow_row, .inl (cI, 36, .inl v_furrow_row)), (a_p0, .inr (1, [.ref a_p0_furrow, .long v_p0_eaten, .long v_p0_closed, .long v_p0_gaps, .long v_p0_strawMen, .int v_p0_months, .int v_p0_middle, .int v_p0_door, .long v_p0_seenGaps, .long v_p0_seenCorn, .int v_p0_seenCount])), (a_p0_furrow, .inr (2, [.ref a_p0_furrow_row, .int v_p0_furrow_size, .long v_p0_furrow_ploughed, .long v_p0_furrow_steps])), (a_p0_furrow_row, .inl (cI, 36, .inl v_p0_furrow_row))] sz) s.heap s.heap [] := va_S.rf
  replace hl0 : lv_has ls0 2 [(0, .ref a_), (1, .ref a_p0)] := hl0
  generalize va_A [(a_, .inr (1, [.ref a_furrow, .long v_eaten, .long v_closed, .long v_gaps, .long v_strawMen, .int v_months, .int v_middle, .int v_door, .long v_seenGaps, .long v_seenCorn, .int v_seenCount])), (a_furrow, .inr (2, [.ref a_furrow_row, .int v_furrow_size, .long v_furrow_ploughed, .long v_furrow_steps])), (a_furrow_row, .inl (cI, 36, .inl v_furrow_row)), (a_p0, .inr (1, [.ref a_p0_furrow, .long v_p0_eaten, .long v_p0_closed, .long v_p0_gaps, .long v_p0_strawMen, .int v_p0_months, .int v_p0_middle, .int v_p0_door, .long v_p0_seenGaps, .long v_p0_seenCorn, .int v_p0_seenCount])), (a_p0_furrow, .inr (2, [.ref a_p0_furrow_row, .int v_p0_furrow_size, .long v_p0_furrow_ploughed, .long v_p0_furrow_steps])), (a_p0_furrow_row, .inl (cI, 36, .inl v_p0_furrow_row))] sz = A at X hD0 hS0 ⊢
  unfold fX1_copy at h
  obtain ⟨hx, hb, hml, hr, hown, hts, hlocks, hK, hN, hA, hZ⟩ := id X
  refine lv_aload_n hx hb dX1_copy_0 rfl (lv_at hl0 0 rfl) ?_
  refine va_get (D := G) (ci := 1) (v := .ref a_furrow) (C := RX1) (T := TX1) (N := 11) hx hb hts gwX1 hown hK hP0 0 rfl rfl 0 (by decide) (hts _ fl_X1_12) (fun _ h9 => h9) rfl dX1_copy_1 ?_
  refine lv_aload_n hx hb dX1_copy_4 rfl (lv_at hl0 1 rfl) ?_
  refine va_get (D := G) (ci := 1) (v := .ref a_p0_furrow) (C := RX1) (T := TX1) (N := 11) hx hb hts gwX1 hown hK hP0 3 rfl rfl 0 (by decide) (hts _ fl_X1_12) (fun _ h9 => h9) rfl dX1_copy_5 ?_
  replace h := g_ob4 h
  obtain ⟨v_furrow_row_1, v_furrow_size_1, v_furrow_ploughed_1, v_furrow_steps_1, hf1, h⟩ := h
  refine cal_v (wc := [(a_furrow, .inr (2, [.ref a_furrow_row, .int v_furrow_size, .long v_furrow_ploughed, .long v_furrow_steps])), (a_furrow_row, .inl (cI, 36, .inl v_furrow_row)), (a_p0_furrow, .inr (2, [.ref a_p0_furrow_row, .int v_p0_furrow_size, .long v_p0_furrow_ploughed, .long v_p0_furrow_steps])), (a_p0_furrow_row, .inl (cI, 36, .inl v_p0_furrow_row))]) (w1 := [(a_furrow, .inr (2, [.ref a_furrow_row, .int v_furrow_size_1, .long v_furrow_ploughed_1, .long v_furrow_steps_1])), (a_furrow_row, .inl (cI, 36, .inl v_furrow_row_1)), (a_p0_furrow, .inr (2, [.ref a_p0_furrow_row, .int v_p0_furrow_size, .long v_p0_furrow_ploughed, .long v_p0_furrow_steps])), (a_p0_furrow_row, .inl (cI, 36, .inl v_p0_furrow_row))]) (wn := [(a_, .inr (1, [.ref a_furrow, .long v_eaten, .long v_closed, .long v_gaps, .long v_strawMen, .int v_months, .int v_middle, .int v_door, .long v_seenGaps, .long v_seenCorn, .int v_seenCount])), (a_furrow, .inr (2, [.ref a_furrow_row, .int v_furrow_size_1, .long v_furrow_ploughed_1, .long v_furrow_steps_1])), (a_furrow_row, .inl (cI, 36, .inl v_furrow_row_1)), (a_p0, .inr (1, [.ref a_p0_furrow, .long v_p0_eaten, .long v_p0_closed, .long v_p0_gaps, .long v_p0_strawMen, .int v_p0_months, .int v_p0_middle, .int v_p0_door, .long v_p0_seenGaps, .long v_p0_seenCorn, .int v_p0_seenCount])), (a_p0_furrow, .inr (2, [.ref a_p0_furrow_row, .int v_p0_furrow_size, .long v_p0_furrow_ploughed, .long v_p0_furrow_steps])), (a_p0_furrow_row, .inl (cI, 36, .inl v_p0_furrow_row))]) X hP0 hD0 hS0 [1, 2, 4, 5] rfl rfl rfl rfl (run_V (As := [.ref a_p0_furrow]) (rest := []) X hP0 hD0 hS0 [1, 2, 4, 5] rfl rfl (mX2_copy l G cI cO a_furrow a_furrow_row a_p0_furrow a_p0_furrow_row  s.heap.size v_furrow_size v_furrow_ploughed v_furrow_steps v_furrow_row v_p0_furrow_size v_p0_furrow_ploughed v_p0_furrow_steps v_p0_furrow_row  hf1) mv_X2_copy ml_X1_59 ⟨Nat.le_of_ble_eq_true rfl, Nat.le_of_ble_eq_true rfl⟩ rfl rfl 1 2 rfl rfl rfl rfl hl0.1 rfl (Nat.le_of_ble_eq_true rfl) ⟨Nat.zero_le _, Nat.zero_le _⟩ dX1_copy_8) (fun H2 locs2 hP2 hD2 hS2 => ?_)
  clear hf1
  refine lv_aload_n hx hb dX1_copy_11 rfl (lv_at hl0 0 rfl) ?_
  refine lv_aload_n hx hb dX1_copy_12 rfl (lv_at hl0 1 rfl) ?_
  refine va_get (D := G) (ci := 1) (v := .long v_p0_eaten) (C := RX1) (T := TX1) (N := 11) hx hb hts gwX1 hown hK hP2 3 rfl rfl 1 (by decide) (hts _ fl_X1_18) (fun _ h9 => h9) rfl dX1_copy_13 ?_
  refine va_put (D := G) (ci := 1) (v := .long v_p0_eaten) (ty := .long) (C := RX1) (T := TX1) (N := 11) hx hb hts gwX1 tyX1 tyX1_ok nmX1 hown hK hP2 hD2 hS2 0 rfl rfl 1 (by decide) (hts _ fl_X1_18) (fun _ h9 => h9) rfl (by decide +kernel) rfl rfl (Nat.le_of_ble_eq_true rfl) dX1_copy_16 (fun H3 locs3 hP3 hD3 hS3 => ?_)
  replace hP3 : va_P G vwCl [(a_, .inr (1, [.ref a_furrow, .long v_p0_eaten, .long v_closed, .long v_gaps, .long v_strawMen, .int v_months, .int v_middle, .int v_door, .long v_seenGaps, .long v_seenCorn, .int v_seenCount])), (a_furrow, .inr (2, [.ref a_furrow_row, .int v_furrow_size_1, .long v_furrow_ploughed_1, .long v_furrow_steps_1])), (a_furrow_row, .inl (cI, 36, .inl v_furrow_row_1)), (a_p0, .inr (1, [.ref a_p0_furrow, .long v_p0_eaten, .long v_p0_closed, .long v_p0_gaps, .long v_p0_strawMen, .int v_p0_months, .int v_p0_middle, .int v_p0_door, .long v_p0_seenGaps, .long v_p0_seenCorn, .int v_p0_seenCount])), (a_p0_furrow, .inr (2, [.ref a_p0_furrow_row, .int v_p0_furrow_size, .long v_p0_furrow_ploughed, .long v_p0_furrow_steps])), (a_p0_furrow_row, .inl (cI, 36, .inl v_p0_furrow_row))] H3 := hP3
  replace hD3 : va_D A [(a_, .inr (1, [.ref a_furrow, .long v_p0_eaten, .long v_closed, .long v_gaps, .long v_strawMen, .int v_months, .int v_middle, .int v_door, .long v_seenGaps, .long v_seenCorn, .int v_seenCount])), (a_furrow, .inr (2, [.ref a_furrow_row, .int v_furrow_size_1, .long v_furrow_ploughed_1, .long v_furrow_steps_1])), (a_furrow_row, .inl (cI, 36, .inl v_furrow_row_1)), (a_p0, .inr (1, [.ref a_p0_furrow, .long v_p0_eaten, .long v_p0_closed, .long v_p0_gaps, .long v_p0_strawMen, .int v_p0_months, .int v_p0_middle, .int v_p0_door, .long v_p0_seenGaps, .long v_p0_seenCorn, .int v_p0_seenCount])), (a_p0_furrow, .inr (2, [.ref a_p0_furrow_row, .int v_p0_furrow_size, .long v_p0_furrow_ploughed, .long v_p0_furrow_steps])), (a_p0_furrow_row, .inl (cI, 36, .inl v_p0_furrow_row))] := hD3
  clear hP2 hD2 hS2
  refine lv_aload_n hx hb dX1_copy_19 rfl (lv_at hl0 0 rfl) ?_
  refine lv_aload_n hx hb dX1_copy_20 rfl (lv_at hl0 1 rfl) ?_
  refine va_get (D := G) (ci := 1) (v := .long v_p0_closed) (C := RX1) (T := TX1) (N := 11) hx hb hts gwX1 hown hK hP3 3 rfl rfl 2 (by decide) (hts _ fl_X1_22) (fun _ h9 => h9) rfl dX1_copy_21 ?_
  refine va_put (D := G) (ci := 1) (v := .long v_p0_closed) (ty := .long) (C := RX1) (T := TX1) (N := 11) hx hb hts gwX1 tyX1 tyX1_ok nmX1 hown hK hP3 hD3 hS3 0 rfl rfl 2 (by decide) (hts _ fl_X1_22) (fun _ h9 => h9) rfl (by decide +kernel) rfl rfl (Nat.le_of_ble_eq_true rfl) dX1_copy_24 (fun H4 locs4 hP4 hD4 hS4 => ?_)
  replace hP4 : va_P G vwCl [(a_, .inr (1, [.ref a_furrow, .long v_p0_eaten, .long v_p0_closed, .long v_gaps, .long v_strawMen, .int v_months, .int v_middle, .int v_door, .long v_seenGaps, .long v_seenCorn, .int v_seenCount])), (a_furrow, .inr (2, [.ref a_furrow_row, .int v_furrow_size_1, .long v_furrow_ploughed_1, .long v_furrow_steps_1])), (a_furrow_row, .inl (cI, 36, .inl v_furrow_row_1)), (a_p0, .inr (1, [.ref a_p0_furrow, .long v_p0_eaten, .long v_p0_closed, .long v_p0_gaps, .long v_p0_strawMen, .int v_p0_months, .int v_p0_middle, .int v_p0_door, .long v_p0_seenGaps, .long v_p0_seenCorn, .int v_p0_seenCount])), (a_p0_furrow, .inr (2, [.ref a_p0_furrow_row, .int v_p0_furrow_size, .long v_p0_furrow_ploughed, .long v_p0_furrow_steps])), (a_p0_furrow_row, .inl (cI, 36, .inl v_p0_furrow_row))] H4 := hP4
  replace hD4 : va_D A [(a_, .inr (1, [.ref a_furrow, .long v_p0_eaten, .long v_p0_closed, .long v_gaps, .long v_strawMen, .int v_months, .int v_middle, .int v_door, .long v_seenGaps, .long v_seenCorn, .int v_seenCount])), (a_furrow, .inr (2, [.ref a_furrow_row, .int v_furrow_size_1, .long v_furrow_ploughed_1, .long v_furrow_steps_1])), (a_furrow_row, .inl (cI, 36, .inl v_furrow_row_1)), (a_p0, .inr (1, [.ref a_p0_furrow, .long v_p0_eaten, .long v_p0_closed, .long v_p0_gaps, .long v_p0_strawMen, .int v_p0_months, .int v_p0_middle, .int v_p0_door, .long v_p0_seenGaps, .long v_p0_seenCorn, .int v_p0_seenCount])), (a_p0_furrow, .inr (2, [.ref a_p0_furrow_row, .int v_p0_furrow_size, .long v_p0_furrow_ploughed, .long v_p0_furrow_steps])), (a_p0_furrow_row, .inl (cI, 36, .inl v_p0_furrow_row))] := hD4
  clear hP3 hD3 hS3
  refine lv_aload_n hx hb dX1_copy_27 rfl (lv_at hl0 0 rfl) ?_
  refine lv_aload_n hx hb dX1_copy_28 rfl (lv_at hl0 1 rfl) ?_
  refine va_get (D := G) (ci := 1) (v := .long v_p0_gaps) (C := RX1) (T := TX1) (N := 11) hx hb hts gwX1 hown hK hP4 3 rfl rfl 3 (by decide) (hts _ fl_X1_25) (fun _ h9 => h9) rfl dX1_copy_29 ?_
  refine va_put (D := G) (ci := 1) (v := .long v_p0_gaps) (ty := .long) (C := RX1) (T := TX1) (N := 11) hx hb hts gwX1 tyX1 tyX1_ok nmX1 hown hK hP4 hD4 hS4 0 rfl rfl 3 (by decide) (hts _ fl_X1_25) (fun _ h9 => h9) rfl (by decide +kernel) rfl rfl (Nat.le_of_ble_eq_true rfl) dX1_copy_32 (fun H5 locs5 hP5 hD5 hS5 => ?_)
  replace hP5 : va_P G vwCl [(a_, .inr (1, [.ref a_furrow, .long v_p0_eaten, .long v_p0_closed, .long v_p0_gaps, .long v_strawMen, .int v_months, .int v_middle, .int v_door, .long v_seenGaps, .long v_seenCorn, .int v_seenCount])), (a_furrow, .inr (2, [.ref a_furrow_row, .int v_furrow_size_1, .long v_furrow_ploughed_1, .long v_furrow_steps_1])), (a_furrow_row, .inl (cI, 36, .inl v_furrow_row_1)), (a_p0, .inr (1, [.ref a_p0_furrow, .long v_p0_eaten, .long v_p0_closed, .long v_p0_gaps, .long v_p0_strawMen, .int v_p0_months, .int v_p0_middle, .int v_p0_door, .long v_p0_seenGaps, .long v_p0_seenCorn, .int v_p0_seenCount])), (a_p0_furrow, .inr (2, [.ref a_p0_furrow_row, .int v_p0_furrow_size, .long v_p0_furrow_ploughed, .long v_p0_furrow_steps])), (a_p0_furrow_row, .inl (cI, 36, .inl v_p0_furrow_row))] H5 := hP5
  replace hD5 : va_D A [(a_, .inr (1, [.ref a_furrow, .long v_p0_eaten, .long v_p0_closed, .long v_p0_gaps, .long v_strawMen, .int v_months, .int v_middle, .int v_door, .long v_seenGaps, .long v_seenCorn, .int v_seenCount])), (a_furrow, .inr (2, [.ref a_furrow_row, .int v_furrow_size_1, .long v_furrow_ploughed_1, .long v_furrow_steps_1])), (a_furrow_row, .inl (cI, 36, .inl v_furrow_row_1)), (a_p0, .inr (1, [.ref a_p0_furrow, .long v_p0_eaten, .long v_p0_closed, .long v_p0_gaps, .long v_p0_strawMen, .int v_p0_months, .int v_p0_middle, .int v_p0_door, .long v_p0_seenGaps, .long v_p0_seenCorn, .int v_p0_seenCount])), (a_p0_furrow, .inr (2, [.ref a_p0_furrow_row, .int v_p0_furrow_size, .long v_p0_furrow_ploughed, .long v_p0_furrow_steps])), (a_p0_furrow_row, .inl (cI, 36, .inl v_p0_furrow_row))] := hD5
  clear hP4 hD4 hS4
  refine lv_aload_n hx hb dX1_copy_35 rfl (lv_at hl0 0 rfl) ?_
  refine lv_aload_n hx hb dX1_copy_36 rfl (lv_at hl0 1 rfl) ?_
  refine va_get (D := G) (ci := 1) (v := .long v_p0_strawMen) (C := RX1) (T := TX1) (N := 11) hx hb hts gwX1 hown hK hP5 3 rfl rfl 4 (by decide) (hts _ fl_X1_28) (fun _ h9 => h9) rfl dX1_copy_37 ?_
  refine va_put (D := G) (ci := 1) (v := .long v_p0_strawMen) (ty := .long) (C := RX1) (T := TX1) (N := 11) hx hb hts gwX1 tyX1 tyX1_ok nmX1 hown hK hP5 hD5 hS5 0 rfl rfl 4 (by decide) (hts _ fl_X1_28) (fun _ h9 => h9) rfl (by decide +kernel) rfl rfl (Nat.le_of_ble_eq_true rfl) dX1_copy_40 (fun H6 locs6 hP6 hD6 hS6 => ?_)
  replace hP6 : va_P G vwCl [(a_, .inr (1, [.ref a_furrow, .long v_p0_eaten, .long v_p0_closed, .long v_p0_gaps, .long v_p0_strawMen, .int v_months, .int v_middle, .int v_door, .long v_seenGaps, .long v_seenCorn, .int v_seenCount])), (a_furrow, .inr (2, [.ref a_furrow_row, .int v_furrow_size_1, .long v_furrow_ploughed_1, .long v_furrow_steps_1])), (a_furrow_row, .inl (cI, 36, .inl v_furrow_row_1)), (a_p0, .inr (1, [.ref a_p0_furrow, .long v_p0_eaten, .long v_p0_closed, .long v_p0_gaps, .long v_p0_strawMen, .int v_p0_months, .int v_p0_middle, .int v_p0_door, .long v_p0_seenGaps, .long v_p0_seenCorn, .int v_p0_seenCount])), (a_p0_furrow, .inr (2, [.ref a_p0_furrow_row, .int v_p0_furrow_size, .long v_p0_furrow_ploughed, .long v_p0_furrow_steps])), (a_p0_furrow_row, .inl (cI, 36, .inl v_p0_furrow_row))] H6 := hP6
  replace hD6 : va_D A [(a_, .inr (1, [.ref a_furrow, .long v_p0_eaten, .long v_p0_closed, .long v_p0_gaps, .long v_p0_strawMen, .int v_months, .int v_middle, .int v_door, .long v_seenGaps, .long v_seenCorn, .int v_seenCount])), (a_furrow, .inr (2, [.ref a_furrow_row, .int v_furrow_size_1, .long v_furrow_ploughed_1, .long v_furrow_steps_1])), (a_furrow_row, .inl (cI, 36, .inl v_furrow_row_1)), (a_p0, .inr (1, [.ref a_p0_furrow, .long v_p0_eaten, .long v_p0_closed, .long v_p0_gaps, .long v_p0_strawMen, .int v_p0_months, .int v_p0_middle, .int v_p0_door, .long v_p0_seenGaps, .long v_p0_seenCorn, .int v_p0_seenCount])), (a_p0_furrow, .inr (2, [.ref a_p0_furrow_row, .int v_p0_furrow_size, .long v_p0_furrow_ploughed, .long v_p0_furrow_steps])), (a_p0_furrow_row, .inl (cI, 36, .inl v_p0_furrow_row))] := hD6
  clear hP5 hD5 hS5
  refine lv_aload_n hx hb dX1_copy_43 rfl (lv_at hl0 0 rfl) ?_
  refine lv_aload_n hx hb dX1_copy_44 rfl (lv_at hl0 1 rfl) ?_
  refine va_get (D := G) (ci := 1) (v := .int v_p0_months) (C := RX1) (T := TX1) (N := 11) hx hb hts gwX1 hown hK hP6 3 rfl rfl 5 (by decide) (hts _ fl_X1_31) (fun _ h9 => h9) rfl dX1_copy_45 ?_
  refine va_put (D := G) (ci := 1) (v := .int v_p0_months) (ty := .int) (C := RX1) (T := TX1) (N := 11) hx hb hts gwX1 tyX1 tyX1_ok nmX1 hown hK hP6 hD6 hS6 0 rfl rfl 5 (by decide) (hts _ fl_X1_31) (fun _ h9 => h9) rfl (by decide +kernel) rfl rfl (Nat.le_of_ble_eq_true rfl) dX1_copy_48 (fun H7 locs7 hP7 hD7 hS7 => ?_)
  replace hP7 : va_P G vwCl [(a_, .inr (1, [.ref a_furrow, .long v_p0_eaten, .long v_p0_closed, .long v_p0_gaps, .long v_p0_strawMen, .int v_p0_months, .int v_middle, .int v_door, .long v_seenGaps, .long v_seenCorn, .int v_seenCount])), (a_furrow, .inr (2, [.ref a_furrow_row, .int v_furrow_size_1, .long v_furrow_ploughed_1, .long v_furrow_steps_1])), (a_furrow_row, .inl (cI, 36, .inl v_furrow_row_1)), (a_p0, .inr (1, [.ref a_p0_furrow, .long v_p0_eaten, .long v_p0_closed, .long v_p0_gaps, .long v_p0_strawMen, .int v_p0_months, .int v_p0_middle, .int v_p0_door, .long v_p0_seenGaps, .long v_p0_seenCorn, .int v_p0_seenCount])), (a_p0_furrow, .inr (2, [.ref a_p0_furrow_row, .int v_p0_furrow_size, .long v_p0_furrow_ploughed, .long v_p0_furrow_steps])), (a_p0_furrow_row, .inl (cI, 36, .inl v_p0_furrow_row))] H7 := hP7
  replace hD7 : va_D A [(a_, .inr (1, [.ref a_furrow, .long v_p0_eaten, .long v_p0_closed, .long v_p0_gaps, .long v_p0_strawMen, .int v_p0_months, .int v_middle, .int v_door, .long v_seenGaps, .long v_seenCorn, .int v_seenCount])), (a_furrow, .inr (2, [.ref a_furrow_row, .int v_furrow_size_1, .long v_furrow_ploughed_1, .long v_furrow_steps_1])), (a_furrow_row, .inl (cI, 36, .inl v_furrow_row_1)), (a_p0, .inr (1, [.ref a_p0_furrow, .long v_p0_eaten, .long v_p0_closed, .long v_p0_gaps, .long v_p0_strawMen, .int v_p0_months, .int v_p0_middle, .int v_p0_door, .long v_p0_seenGaps, .long v_p0_seenCorn, .int v_p0_seenCount])), (a_p0_furrow, .inr (2, [.ref a_p0_furrow_row, .int v_p0_furrow_size, .long v_p0_furrow_ploughed, .long v_p0_furrow_steps])), (a_p0_furrow_row, .inl (cI, 36, .inl v_p0_furrow_row))] := hD7
  clear hP6 hD6 hS6
  refine lv_aload_n hx hb dX1_copy_51 rfl (lv_at hl0 0 rfl) ?_
  refine lv_aload_n hx hb dX1_copy_52 rfl (lv_at hl0 1 rfl) ?_
  refine va_get (D := G) (ci := 1) (v := .int v_p0_middle) (C := RX1) (T := TX1) (N := 11) hx hb hts gwX1 hown hK hP7 3 rfl rfl 6 (by decide) (hts _ fl_X1_35) (fun _ h9 => h9) rfl dX1_copy_53 ?_
  refine va_put (D := G) (ci := 1) (v := .int v_p0_middle) (ty := .int) (C := RX1) (T := TX1) (N := 11) hx hb hts gwX1 tyX1 tyX1_ok nmX1 hown hK hP7 hD7 hS7 0 rfl rfl 6 (by decide) (hts _ fl_X1_35) (fun _ h9 => h9) rfl (by decide +kernel) rfl rfl (Nat.le_of_ble_eq_true rfl) dX1_copy_56 (fun H8 locs8 hP8 hD8 hS8 => ?_)
  replace hP8 : va_P G vwCl [(a_, .inr (1, [.ref a_furrow, .long v_p0_eaten, .long v_p0_closed, .long v_p0_gaps, .long v_p0_strawMen, .int v_p0_months, .int v_p0_middle, .int v_door, .long v_seenGaps, .long v_seenCorn, .int v_seenCount])), (a_furrow, .inr (2, [.ref a_furrow_row, .int v_furrow_size_1, .long v_furrow_ploughed_1, .long v_furrow_steps_1])), (a_furrow_row, .inl (cI, 36, .inl v_furrow_row_1)), (a_p0, .inr (1, [.ref a_p0_furrow, .long v_p0_eaten, .long v_p0_closed, .long v_p0_gaps, .long v_p0_strawMen, .int v_p0_months, .int v_p0_middle, .int v_p0_door, .long v_p0_seenGaps, .long v_p0_seenCorn, .int v_p0_seenCount])), (a_p0_furrow, .inr (2, [.ref a_p0_furrow_row, .int v_p0_furrow_size, .long v_p0_furrow_ploughed, .long v_p0_furrow_steps])), (a_p0_furrow_row, .inl (cI, 36, .inl v_p0_furrow_row))] H8 := hP8
  replace hD8 : va_D A [(a_, .inr (1, [.ref a_furrow, .long v_p0_eaten, .long v_p0_closed, .long v_p0_gaps, .long v_p0_strawMen, .int v_p0_months, .int v_p0_middle, .int v_door, .long v_seenGaps, .long v_seenCorn, .int v_seenCount])), (a_furrow, .inr (2, [.ref a_furrow_row, .int v_furrow_size_1, .long v_furrow_ploughed_1, .long v_furrow_steps_1])), (a_furrow_row, .inl (cI, 36, .inl v_furrow_row_1)), (a_p0, .inr (1, [.ref a_p0_furrow, .long v_p0_eaten, .long v_p0_closed, .long v_p0_gaps, .long v_p0_strawMen, .int v_p0_months, .int v_p0_middle, .int v_p0_door, .long v_p0_seenGaps, .long v_p0_seenCorn, .int v_p0_seenCount])), (a_p0_furrow, .inr (2, [.ref a_p0_furrow_row, .int v_p0_furrow_size, .long v_p0_furrow_ploughed, .long v_p0_furrow_steps])), (a_p0_furrow_row, .inl (cI, 36, .inl v_p0_furrow_row))] := hD8
  clear hP7 hD7 hS7
  refine lv_aload_n hx hb dX1_copy_59 rfl (lv_at hl0 0 rfl) ?_
  refine lv_aload_n hx hb dX1_copy_60 rfl (lv_at hl0 1 rfl) ?_
  refine va_get (D := G) (ci := 1) (v := .int v_p0_door) (C := RX1) (T := TX1) (N := 11) hx hb hts gwX1 hown hK hP8 3 rfl rfl 7 (by decide) (hts _ fl_X1_38) (fun _ h9 => h9) rfl dX1_copy_61 ?_
  refine va_put (D := G) (ci := 1) (v := .int v_p0_door) (ty := .int) (C := RX1) (T := TX1) (N := 11) hx hb hts gwX1 tyX1 tyX1_ok nmX1 hown hK hP8 hD8 hS8 0 rfl rfl 7 (by decide) (hts _ fl_X1_38) (fun _ h9 => h9) rfl (by decide +kernel) rfl rfl (Nat.le_of_ble_eq_true rfl) dX1_copy_64 (fun H9 locs9 hP9 hD9 hS9 => ?_)
  replace hP9 : va_P G vwCl [(a_, .inr (1, [.ref a_furrow, .long v_p0_eaten, .long v_p0_closed, .long v_p0_gaps, .long v_p0_strawMen, .int v_p0_months, .int v_p0_middle, .int v_p0_door, .long v_seenGaps, .long v_seenCorn, .int v_seenCount])), (a_furrow, .inr (2, [.ref a_furrow_row, .int v_furrow_size_1, .long v_furrow_ploughed_1, .long v_furrow_steps_1])), (a_furrow_row, .inl (cI, 36, .inl v_furrow_row_1)), (a_p0, .inr (1, [.ref a_p0_furrow, .long v_p0_eaten, .long v_p0_closed, .long v_p0_gaps, .long v_p0_strawMen, .int v_p0_months, .int v_p0_middle, .int v_p0_door, .long v_p0_seenGaps, .long v_p0_seenCorn, .int v_p0_seenCount])), (a_p0_furrow, .inr (2, [.ref a_p0_furrow_row, .int v_p0_furrow_size, .long v_p0_furrow_ploughed, .long v_p0_furrow_steps])), (a_p0_furrow_row, .inl (cI, 36, .inl v_p0_furrow_row))] H9 := hP9
  replace hD9 : va_D A [(a_, .inr (1, [.ref a_furrow, .long v_p0_eaten, .long v_p0_closed, .long v_p0_gaps, .long v_p0_strawMen, .int v_p0_months, .int v_p0_middle, .int v_p0_door, .long v_seenGaps, .long v_seenCorn, .int v_seenCount])), (a_furrow, .inr (2, [.ref a_furrow_row, .int v_furrow_size_1, .long v_furrow_ploughed_1, .long v_furrow_steps_1])), (a_furrow_row, .inl (cI, 36, .inl v_furrow_row_1)), (a_p0, .inr (1, [.ref a_p0_furrow, .long v_p0_eaten, .long v_p0_closed, .long v_p0_gaps, .long v_p0_strawMen, .int v_p0_months, .int v_p0_middle, .int v_p0_door, .long v_p0_seenGaps, .long v_p0_seenCorn, .int v_p0_seenCount])), (a_p0_furrow, .inr (2, [.ref a_p0_furrow_row, .int v_p0_furrow_size, .long v_p0_furrow_ploughed, .long v_p0_furrow_steps])), (a_p0_furrow_row, .inl (cI, 36, .inl v_p0_furrow_row))] := hD9
  clear hP8 hD8 hS8
  refine lv_aload_n hx hb dX1_copy_67 rfl (lv_at hl0 0 rfl) ?_
  refine lv_aload_n hx hb dX1_copy_68 rfl (lv_at hl0 1 rfl) ?_
  refine va_get (D := G) (ci := 1) (v := .long v_p0_seenGaps) (C := RX1) (T := TX1) (N := 11) hx hb hts gwX1 hown hK hP9 3 rfl rfl 8 (by decide) (hts _ fl_X1_41) (fun _ h9 => h9) rfl dX1_copy_69 ?_
  refine va_put (D := G) (ci := 1) (v := .long v_p0_seenGaps) (ty := .long) (C := RX1) (T := TX1) (N := 11) hx hb hts gwX1 tyX1 tyX1_ok nmX1 hown hK hP9 hD9 hS9 0 rfl rfl 8 (by decide) (hts _ fl_X1_41) (fun _ h9 => h9) rfl (by decide +kernel) rfl rfl (Nat.le_of_ble_eq_true rfl) dX1_copy_72 (fun H10 locs10 hP10 hD10 hS10 => ?_)
  replace hP10 : va_P G vwCl [(a_, .inr (1, [.ref a_furrow, .long v_p0_eaten, .long v_p0_closed, .long v_p0_gaps, .long v_p0_strawMen, .int v_p0_months, .int v_p0_middle, .int v_p0_door, .long v_p0_seenGaps, .long v_seenCorn, .int v_seenCount])), (a_furrow, .inr (2, [.ref a_furrow_row, .int v_furrow_size_1, .long v_furrow_ploughed_1, .long v_furrow_steps_1])), (a_furrow_row, .inl (cI, 36, .inl v_furrow_row_1)), (a_p0, .inr (1, [.ref a_p0_furrow, .long v_p0_eaten, .long v_p0_closed, .long v_p0_gaps, .long v_p0_strawMen, .int v_p0_months, .int v_p0_middle, .int v_p0_door, .long v_p0_seenGaps, .long v_p0_seenCorn, .int v_p0_seenCount])), (a_p0_furrow, .inr (2, [.ref a_p0_furrow_row, .int v_p0_furrow_size, .long v_p0_furrow_ploughed, .long v_p0_furrow_steps])), (a_p0_furrow_row, .inl (cI, 36, .inl v_p0_furrow_row))] H10 := hP10
  replace hD10 : va_D A [(a_, .inr (1, [.ref a_furrow, .long v_p0_eaten, .long v_p0_closed, .long v_p0_gaps, .long v_p0_strawMen, .int v_p0_months, .int v_p0_middle, .int v_p0_door, .long v_p0_seenGaps, .long v_seenCorn, .int v_seenCount])), (a_furrow, .inr (2, [.ref a_furrow_row, .int v_furrow_size_1, .long v_furrow_ploughed_1, .long v_furrow_steps_1])), (a_furrow_row, .inl (cI, 36, .inl v_furrow_row_1)), (a_p0, .inr (1, [.ref a_p0_furrow, .long v_p0_eaten, .long v_p0_closed, .long v_p0_gaps, .long v_p0_strawMen, .int v_p0_months, .int v_p0_middle, .int v_p0_door, .long v_p0_seenGaps, .long v_p0_seenCorn, .int v_p0_seenCount])), (a_p0_furrow, .inr (2, [.ref a_p0_furrow_row, .int v_p0_furrow_size, .long v_p0_furrow_ploughed, .long v_p0_furrow_steps])), (a_p0_furrow_row, .inl (cI, 36, .inl v_p0_furrow_row))] := hD10
  clear hP9 hD9 hS9
  refine lv_aload_n hx hb dX1_copy_75 rfl (lv_at hl0 0 rfl) ?_
  refine lv_aload_n hx hb dX1_copy_76 rfl (lv_at hl0 1 rfl) ?_
  refine va_get (D := G) (ci := 1) (v := .long v_p0_seenCorn) (C := RX1) (T := TX1) (N := 11) hx hb hts gwX1 hown hK hP10 3 rfl rfl 9 (by decide) (hts _ fl_X1_44) (fun _ h9 => h9) rfl dX1_copy_77 ?_
  refine va_put (D := G) (ci := 1) (v := .long v_p0_seenCorn) (ty := .long) (C := RX1) (T := TX1) (N := 11) hx hb hts gwX1 tyX1 tyX1_ok nmX1 hown hK hP10 hD10 hS10 0 rfl rfl 9 (by decide) (hts _ fl_X1_44) (fun _ h9 => h9) rfl (by decide +kernel) rfl rfl (Nat.le_of_ble_eq_true rfl) dX1_copy_80 (fun H11 locs11 hP11 hD11 hS11 => ?_)
  replace hP11 : va_P G vwCl [(a_, .inr (1, [.ref a_furrow, .long v_p0_eaten, .long v_p0_closed, .long v_p0_gaps, .long v_p0_strawMen, .int v_p0_months, .int v_p0_middle, .int v_p0_door, .long v_p0_seenGaps, .long v_p0_seenCorn, .int v_seenCount])), (a_furrow, .inr (2, [.ref a_furrow_row, .int v_furrow_size_1, .long v_furrow_ploughed_1, .long v_furrow_steps_1])), (a_furrow_row, .inl (cI, 36, .inl v_furrow_row_1)), (a_p0, .inr (1, [.ref a_p0_furrow, .long v_p0_eaten, .long v_p0_closed, .long v_p0_gaps, .long v_p0_strawMen, .int v_p0_months, .int v_p0_middle, .int v_p0_door, .long v_p0_seenGaps, .long v_p0_seenCorn, .int v_p0_seenCount])), (a_p0_furrow, .inr (2, [.ref a_p0_furrow_row, .int v_p0_furrow_size, .long v_p0_furrow_ploughed, .long v_p0_furrow_steps])), (a_p0_furrow_row, .inl (cI, 36, .inl v_p0_furrow_row))] H11 := hP11
  replace hD11 : va_D A [(a_, .inr (1, [.ref a_furrow, .long v_p0_eaten, .long v_p0_closed, .long v_p0_gaps, .long v_p0_strawMen, .int v_p0_months, .int v_p0_middle, .int v_p0_door, .long v_p0_seenGaps, .long v_p0_seenCorn, .int v_seenCount])), (a_furrow, .inr (2, [.ref a_furrow_row, .int v_furrow_size_1, .long v_furrow_ploughed_1, .long v_furrow_steps_1])), (a_furrow_row, .inl (cI, 36, .inl v_furrow_row_1)), (a_p0, .inr (1, [.ref a_p0_furrow, .long v_p0_eaten, .long v_p0_closed, .long v_p0_gaps, .long v_p0_strawMen, .int v_p0_months, .int v_p0_middle, .int v_p0_door, .long v_p0_seenGaps, .long v_p0_seenCorn, .int v_p0_seenCount])), (a_p0_furrow, .inr (2, [.ref a_p0_furrow_row, .int v_p0_furrow_size, .long v_p0_furrow_ploughed, .long v_p0_furrow_steps])), (a_p0_furrow_row, .inl (cI, 36, .inl v_p0_furrow_row))] := hD11
  clear hP10 hD10 hS10
  refine lv_aload_n hx hb dX1_copy_83 rfl (lv_at hl0 0 rfl) ?_
  refine lv_aload_n hx hb dX1_copy_84 rfl (lv_at hl0 1 rfl) ?_
  refine va_get (D := G) (ci := 1) (v := .int v_p0_seenCount) (C := RX1) (T := TX1) (N := 11) hx hb hts gwX1 hown hK hP11 3 rfl rfl 10 (by decide) (hts _ fl_X1_47) (fun _ h9 => h9) rfl dX1_copy_85 ?_
  refine va_put (D := G) (ci := 1) (v := .int v_p0_seenCount) (ty := .int) (C := RX1) (T := TX1) (N := 11) hx hb hts gwX1 tyX1 tyX1_ok nmX1 hown hK hP11 hD11 hS11 0 rfl rfl 10 (by decide) (hts _ fl_X1_47) (fun _ h9 => h9) rfl (by decide +kernel) rfl rfl (Nat.le_of_ble_eq_true rfl) dX1_copy_88 (fun H12 locs12 hP12 hD12 hS12 => ?_)
  replace hP12 : va_P G vwCl [(a_, .inr (1, [.ref a_furrow, .long v_p0_eaten, .long v_p0_closed, .long v_p0_gaps, .long v_p0_strawMen, .int v_p0_months, .int v_p0_middle, .int v_p0_door, .long v_p0_seenGaps, .long v_p0_seenCorn, .int v_p0_seenCount])), (a_furrow, .inr (2, [.ref a_furrow_row, .int v_furrow_size_1, .long v_furrow_ploughed_1, .long v_furrow_steps_1])), (a_furrow_row, .inl (cI, 36, .inl v_furrow_row_1)), (a_p0, .inr (1, [.ref a_p0_furrow, .long v_p0_eaten, .long v_p0_closed, .long v_p0_gaps, .long v_p0_strawMen, .int v_p0_months, .int v_p0_middle, .int v_p0_door, .long v_p0_seenGaps, .long v_p0_seenCorn, .int v_p0_seenCount])), (a_p0_furrow, .inr (2, [.ref a_p0_furrow_row, .int v_p0_furrow_size, .long v_p0_furrow_ploughed, .long v_p0_furrow_steps])), (a_p0_furrow_row, .inl (cI, 36, .inl v_p0_furrow_row))] H12 := hP12
  replace hD12 : va_D A [(a_, .inr (1, [.ref a_furrow, .long v_p0_eaten, .long v_p0_closed, .long v_p0_gaps, .long v_p0_strawMen, .int v_p0_months, .int v_p0_middle, .int v_p0_door, .long v_p0_seenGaps, .long v_p0_seenCorn, .int v_p0_seenCount])), (a_furrow, .inr (2, [.ref a_furrow_row, .int v_furrow_size_1, .long v_furrow_ploughed_1, .long v_furrow_steps_1])), (a_furrow_row, .inl (cI, 36, .inl v_furrow_row_1)), (a_p0, .inr (1, [.ref a_p0_furrow, .long v_p0_eaten, .long v_p0_closed, .long v_p0_gaps, .long v_p0_strawMen, .int v_p0_months, .int v_p0_middle, .int v_p0_door, .long v_p0_seenGaps, .long v_p0_seenCorn, .int v_p0_seenCount])), (a_p0_furrow, .inr (2, [.ref a_p0_furrow_row, .int v_p0_furrow_size, .long v_p0_furrow_ploughed, .long v_p0_furrow_steps])), (a_p0_furrow_row, .inl (cI, 36, .inl v_p0_furrow_row))] := hD12
  clear hP11 hD11 hS11
  obtain ⟨ez0, ez1, ez2, ez3, ez4, ez5, ez6, ez7, ez8, ez9, ez10, ez11, ez12, ez13⟩ := r_eq14 h
  subst ez0; subst ez1; subst ez2; subst ez3; subst ez4; subst ez5; subst ez6; subst ez7; subst ez8; subst ez9; subst ez10; subst ez11; subst ez12; subst ez13
  exact ret_v X hP12 hS12 dX1_copy_91
/-! PloughMaze$Field.hasStrawMan -/
abbrev rmX1_hasStrawMan : Room := { frames := 0, cells := 0, slots := 0, locals := 0 }
set_option maxHeartbeats 4000000 in
set_option maxRecDepth 100000 in
theorem mX1_hasStrawMan (l : Launch) (G : va_G) (cI cO : ClassId) (a_ a_furrow : Nat) (sz : Nat) (v_eaten : Int64) (v_closed : Int64) (v_gaps : Int64) (v_strawMen : Int64) (v_months : Int32) (v_middle : Int32) (v_door : Int32) (v_seenGaps : Int64) (v_seenCorn : Int64) (v_seenCount : Int32) (x1 : Int32) {ret : Int32} (h : fX1_hasStrawMan v_strawMen x1 = some ret) : Met l yX1_hasStrawMan (wsM yX1_hasStrawMan cX1_hasStrawMan 2 (some .boolean)) rmX1_hasStrawMan (va_Pc [.ref a_, .int x1] (preW G cI cO sz [(a_, .inr (1, [.ref a_furrow, .long v_eaten, .long v_closed, .long v_gaps, .long v_strawMen, .int v_months, .int v_middle, .int v_door, .long v_seenGaps, .long v_seenCorn, .int v_seenCount]))])) (QcI G (va_A [(a_, .inr (1, [.ref a_furrow, .long v_eaten, .long v_closed, .long v_gaps, .long v_strawMen, .int v_months, .int v_middle, .int v_door, .long v_seenGaps, .long v_seenCorn, .int v_seenCount]))] sz) ret [(a_, .inr (1, [.ref a_furrow, .long v_eaten, .long v_closed, .long v_gaps, .long v_strawMen, .int v_months, .int v_middle, .int v_door, .long v_seenGaps, .long v_seenCorn, .int v_seenCount]))]) 0 0 (va_A [(a_, .inr (1, [.ref a_furrow, .long v_eaten, .long v_closed, .long v_gaps, .long v_strawMen, .int v_months, .int v_middle, .int v_door, .long v_seenGaps, .long v_seenCorn, .int v_seenCount]))] sz) := by
  refine mkMet (own := RX1) (by decide) rfl (Nat.le_of_ble_eq_true rfl) ?_
  intro p e s m args below meth c _ hsz _ X hP0 hD0 ls0 hl0
  have hS0 : va_S (va_A [(a_, .inr (1, [.ref a_furrow, .long v_eaten, .long v_closed, .long v_gaps, .long v_strawMen, .int v_months, .int v_middle, .int v_door, .long v_seenGaps, .long v_seenCorn, .int v_seenCount]))] sz) s.heap s.heap [] := va_S.rf
  replace hl0 : lv_has ls0 2 [(0, .ref a_), (1, .int x1)] := hl0
  generalize va_A [(a_, .inr (1, [.ref a_furrow, .long v_eaten, .long v_closed, .long v_gaps, .long v_strawMen, .int v_months, .int v_middle, .int v_door, .long v_seenGaps, .long v_seenCorn, .int v_seenCount]))] sz = A at X hD0 hS0 ⊢
  unfold fX1_hasStrawMan at h
  obtain ⟨hx, hb, hml, hr, hown, hts, hlocks, hK, hN, hA, hZ⟩ := id X
  refine lv_aload_n hx hb dX1_hasStrawMan_0 rfl (lv_at hl0 0 rfl) ?_
  refine va_get (D := G) (ci := 1) (v := .long v_strawMen) (C := RX1) (T := TX1) (N := 11) hx hb hts gwX1 hown hK hP0 0 rfl rfl 4 (by decide) (hts _ fl_X1_28) (fun _ h9 => h9) rfl dX1_hasStrawMan_1 ?_
  refine lv_iload_n hx hb dX1_hasStrawMan_4 rfl (lv_at hl0 1 rfl) ?_
  refine lv_lshr (v := (v_strawMen >>> (x1.toInt64 &&& 63))) hx hb dX1_hasStrawMan_5 rfl ?_
  refine lv_lconst (v := (1 : Int64)) hx hb dX1_hasStrawMan_6 (by decide) ?_
  refine lv_land hx hb dX1_hasStrawMan_7 ?_
  refine lv_lconst (v := (0 : Int64)) hx hb dX1_hasStrawMan_8 (by decide) ?_
  refine W.lcmp hx hb dX1_hasStrawMan_9 ?_
  refine lv_if_eq (tgt := 17) hx hb dX1_hasStrawMan_10 (by decide) (fun hc => ?_) (fun hc => ?_)
  · replace h := t_pos h hc
    clear hc
    refine lv_iconst (v := (0 : Int32)) hx hb dX1_hasStrawMan_17 (by decide) ?_
    obtain ez0 := r_eq1 h
    subst ez0
    exact ret_z X hP0 hS0 rfl dX1_hasStrawMan_18
  · replace h := t_neg h hc
    clear hc
    refine lv_iconst (v := (1 : Int32)) hx hb dX1_hasStrawMan_13 (by decide) ?_
    refine lv_goto (tgt := 18) hx hb dX1_hasStrawMan_14 (by decide) ?_
    obtain ez0 := r_eq1 h
    subst ez0
    exact ret_z X hP0 hS0 rfl dX1_hasStrawMan_18
/-! PloughMaze$Field.gapSides -/
abbrev rmX1_gapSides : Room := { frames := 2, cells := 0, slots := 0, locals := 44 }
def SX1_gapSides_30 (p : Program) (l : Launch) (e : Env) (s : State) (m : MethodId) (args : Array Value) (below : List Frame) (meth : Method) (c : Code) (G : va_G) (cI cO : ClassId) (A : Nat → Prop) (a_ a_furrow : Nat) (v_eaten : Int64) (v_closed : Int64) (v_gaps : Int64) (v_strawMen : Int64) (v_months : Int32) (v_middle : Int32) (v_door : Int32) (v_seenGaps : Int64) (v_seenCorn : Int64) (v_seenCount : Int32) (ret : Int32) (k : Int32 → Int32 → Int32 → Option (Int32)) : Prop := ∀ (x1 : Int32) (x2 : Int32) (x3 : Int32) (H : Heap) (locs : List Loc), va_P G vwCl [(a_, .inr (1, [.ref a_furrow, .long v_eaten, .long v_closed, .long v_gaps, .long v_strawMen, .int v_months, .int v_middle, .int v_door, .long v_seenGaps, .long v_seenCorn, .int v_seenCount]))] H → va_D A [(a_, .inr (1, [.ref a_furrow, .long v_eaten, .long v_closed, .long v_gaps, .long v_strawMen, .int v_months, .int v_middle, .int v_door, .long v_seenGaps, .long v_seenCorn, .int v_seenCount]))] → va_S A s.heap H locs → ∀ (ls : Array Slot), lv_has ls 4 [(0, .ref a_), (1, .int x1), (2, .int x2), (3, .int x3)] → k x1 x2 x3 = some ret → W p l e rmX1_gapSides s m args below meth c H locs 0 0 (MQ below (QcI G A ret [(a_, .inr (1, [.ref a_furrow, .long v_eaten, .long v_closed, .long v_gaps, .long v_strawMen, .int v_months, .int v_middle, .int v_door, .long v_seenGaps, .long v_seenCorn, .int v_seenCount]))]) args s 0 0 A) (F0 m 30 ls [])
def SX1_gapSides_4 (p : Program) (l : Launch) (e : Env) (s : State) (m : MethodId) (args : Array Value) (below : List Frame) (meth : Method) (c : Code) (G : va_G) (cI cO : ClassId) (A : Nat → Prop) (a_ a_furrow : Nat) (v_eaten : Int64) (v_closed : Int64) (v_gaps : Int64) (v_strawMen : Int64) (v_months : Int32) (v_middle : Int32) (v_door : Int32) (v_seenGaps : Int64) (v_seenCorn : Int64) (v_seenCount : Int32) (ret : Int32) (k : Int32 → Int32 → Int32 → Option (Int32)) : Prop := ∀ (x1 : Int32) (x2 : Int32) (x3 : Int32) (H : Heap) (locs : List Loc), va_P G vwCl [(a_, .inr (1, [.ref a_furrow, .long v_eaten, .long v_closed, .long v_gaps, .long v_strawMen, .int v_months, .int v_middle, .int v_door, .long v_seenGaps, .long v_seenCorn, .int v_seenCount]))] H → va_D A [(a_, .inr (1, [.ref a_furrow, .long v_eaten, .long v_closed, .long v_gaps, .long v_strawMen, .int v_months, .int v_middle, .int v_door, .long v_seenGaps, .long v_seenCorn, .int v_seenCount]))] → va_S A s.heap H locs → ∀ (ls : Array Slot), lv_has ls 4 [(0, .ref a_), (1, .int x1), (2, .int x2), (3, .int x3)] → k x1 x2 x3 = some ret → W p l e rmX1_gapSides s m args below meth c H locs 0 0 (MQ below (QcI G A ret [(a_, .inr (1, [.ref a_furrow, .long v_eaten, .long v_closed, .long v_gaps, .long v_strawMen, .int v_months, .int v_middle, .int v_door, .long v_seenGaps, .long v_seenCorn, .int v_seenCount]))]) args s 0 0 A) (F0 m 4 ls [])
set_option maxHeartbeats 4000000 in
set_option maxRecDepth 100000 in
theorem bX1_gapSides_30 {p : Program} {l : Launch} {e : Env} {s : State} {m : MethodId} {args : Array Value} {below : List Frame} {meth : Method} {c : Code} {G : va_G} {cI cO : ClassId} {A : Nat → Prop} {a_ a_furrow : Nat} {v_eaten : Int64} {v_closed : Int64} {v_gaps : Int64} {v_strawMen : Int64} {v_months : Int32} {v_middle : Int32} {v_door : Int32} {v_seenGaps : Int64} {v_seenCorn : Int64} {v_seenCount : Int32} {ret : Int32} (X : BX p rmX1_gapSides s m args meth c cX1_gapSides 4 (some .int) RX1 G cI cO A) {k_4 : Int32 → Int32 → Int32 → Option (Int32)} (hk_4 : SX1_gapSides_4 p l e s m args below meth c G cI cO A a_ a_furrow v_eaten v_closed v_gaps v_strawMen v_months v_middle v_door v_seenGaps v_seenCorn v_seenCount ret k_4) : SX1_gapSides_30 p l e s m args below meth c G cI cO A a_ a_furrow v_eaten v_closed v_gaps v_strawMen v_months v_middle v_door v_seenGaps v_seenCorn v_seenCount ret (fX1_gapSides_30 k_4) := by
  intro x1 x2 x3 H0 locs0 hP0 hD0 hS0 ls0 hl0 h
  unfold fX1_gapSides_30 at h
  obtain ⟨hx, hb, hml, hr, hown, hts, hlocks, hK, hN, hA, hZ⟩ := id X
  refine lv_iinc (v := (x3 + (1 : Int32))) (lv' := [(3, .int (x3 + (1 : Int32))), (0, .ref a_), (1, .int x1), (2, .int x2)]) hx hb dX1_gapSides_30 hl0 (k := 3) rfl (congrArg (fun z => x3 + z) (by decide : Int32.ofInt (1) = (1 : Int32))) (by decide) rfl (fun ls1 hl1 => ?_)
  refine lv_goto (tgt := 4) hx hb dX1_gapSides_33 (by decide) ?_
  exact hk_4 x1 x2 ((x3 + (1 : Int32))) H0 locs0 hP0 hD0 hS0 ls1 (lv_sub hl1 [1, 2, 3, 0] rfl) h
set_option maxHeartbeats 4000000 in
set_option maxRecDepth 100000 in
theorem bX1_gapSides_4 {p : Program} {l : Launch} {e : Env} {s : State} {m : MethodId} {args : Array Value} {below : List Frame} {meth : Method} {c : Code} {G : va_G} {cI cO : ClassId} {A : Nat → Prop} {a_ a_furrow : Nat} {v_eaten : Int64} {v_closed : Int64} {v_gaps : Int64} {v_strawMen : Int64} {v_months : Int32} {v_middle : Int32} {v_door : Int32} {v_seenGaps : Int64} {v_seenCorn : Int64} {v_seenCount : Int32} {ret : Int32} (X : BX p rmX1_gapSides s m args meth c cX1_gapSides 4 (some .int) RX1 G cI cO A) : ∀ n : Nat, SX1_gapSides_4 p l e s m args below meth c G cI cO A a_ a_furrow v_eaten v_closed v_gaps v_strawMen v_months v_middle v_door v_seenGaps v_seenCorn v_seenCount ret (fX1_gapSides_4 v_gaps n) := by
  intro n
  induction n with
  | zero => intro x1 x2 x3 H0 locs0 hP0 hD0 hS0 ls0 hl0 h; exact absurd h (by simp [fX1_gapSides_4])
  | succ n ih =>
    intro x1 x2 x3 H0 locs0 hP0 hD0 hS0 ls0 hl0 h
    rw [fX1_gapSides_4] at h
    obtain ⟨hx, hb, hml, hr, hown, hts, hlocks, hK, hN, hA, hZ⟩ := id X
    refine lv_iload_n hx hb dX1_gapSides_4 rfl (lv_at hl0 3 rfl) ?_
    refine lv_iconst (v := (4 : Int32)) hx hb dX1_gapSides_5 (by decide) ?_
    refine lv_icmp_ge (tgt := 36) hx hb dX1_gapSides_6 (by decide) (fun hc => ?_) (fun hc => ?_)
    · replace h := t_pos h hc
      clear hc
      refine lv_iload_n hx hb dX1_gapSides_36 rfl (lv_at hl0 2 rfl) ?_
      obtain ez0 := r_eq1 h
      subst ez0
      exact ret_i X hP0 hS0 dX1_gapSides_37
    · replace h := t_neg h hc
      clear hc
      refine lv_aload_n hx hb dX1_gapSides_9 rfl (lv_at hl0 0 rfl) ?_
      refine va_get (D := G) (ci := 1) (v := .long v_gaps) (C := RX1) (T := TX1) (N := 11) hx hb hts gwX1 hown hK hP0 0 rfl rfl 3 (by decide) (hts _ fl_X1_25) (fun _ h9 => h9) rfl dX1_gapSides_10 ?_
      refine lv_iload_n hx hb dX1_gapSides_13 rfl (lv_at hl0 1 rfl) ?_
      refine lv_iload_n hx hb dX1_gapSides_14 rfl (lv_at hl0 3 rfl) ?_
      replace h := g_ob1 h
      obtain ⟨r1, hf1, h⟩ := h
      refine cal_l (wc := []) (w1 := []) (wn := [(a_, .inr (1, [.ref a_furrow, .long v_eaten, .long v_closed, .long v_gaps, .long v_strawMen, .int v_months, .int v_middle, .int v_door, .long v_seenGaps, .long v_seenCorn, .int v_seenCount]))]) X hP0 hD0 hS0 [] rfl rfl rfl rfl (run_S (As := [.int x1, .int x3]) (rest := [.long v_gaps]) X hP0 hD0 hS0 [] rfl rfl (mX3_edge l G cI cO   H0.size  x1 x3 hf1) ms_X3_edge ml_X1_63 ⟨Nat.le_of_ble_eq_true rfl, Nat.le_of_ble_eq_true rfl⟩ rfl rfl rfl hl0.1 rfl (Nat.le_of_ble_eq_true rfl) ⟨Nat.zero_le _, Nat.zero_le _⟩ dX1_gapSides_15) (fun H2 locs2 hP2 hD2 hS2 => ?_)
      clear hf1
      refine lv_land hx hb dX1_gapSides_18 ?_
      refine lv_lconst (v := (0 : Int64)) hx hb dX1_gapSides_19 (by decide) ?_
      refine W.lcmp hx hb dX1_gapSides_20 ?_
      refine lv_if_eq (tgt := 30) hx hb dX1_gapSides_21 (by decide) (fun hc => ?_) (fun hc => ?_)
      · replace h := t_pos h hc
        clear hc
        exact bX1_gapSides_30 X ih x1 x2 x3 H2 locs2 hP2 hD2 hS2 ls0 (lv_sub hl0 [0, 1, 2, 3] rfl) h
      · replace h := t_neg h hc
        clear hc
        refine lv_iload_n hx hb dX1_gapSides_24 rfl (lv_at hl0 2 rfl) ?_
        refine lv_iconst (v := (1 : Int32)) hx hb dX1_gapSides_25 (by decide) ?_
        refine lv_iload_n hx hb dX1_gapSides_26 rfl (lv_at hl0 3 rfl) ?_
        refine lv_ishl hx hb dX1_gapSides_27 ?_
        refine lv_ior hx hb dX1_gapSides_28 ?_
        refine lv_topi (fun y3 ey3 => ?_)
        replace h := g_let h ey3
        clear ey3
        refine lv_istore_n (lv' := [(2, .int y3), (0, .ref a_), (1, .int x1), (3, .int x3)]) hx hb dX1_gapSides_29 rfl hl0 (by decide) rfl (fun ls4 hl4 => ?_)
        exact bX1_gapSides_30 X ih x1 y3 x3 H2 locs2 hP2 hD2 hS2 ls4 (lv_sub hl4 [1, 2, 0, 3] rfl) h
set_option maxHeartbeats 4000000 in
set_option maxRecDepth 100000 in
theorem mX1_gapSides (l : Launch) (G : va_G) (cI cO : ClassId) (a_ a_furrow : Nat) (sz : Nat) (v_eaten : Int64) (v_closed : Int64) (v_gaps : Int64) (v_strawMen : Int64) (v_months : Int32) (v_middle : Int32) (v_door : Int32) (v_seenGaps : Int64) (v_seenCorn : Int64) (v_seenCount : Int32) (x1 : Int32) {ret : Int32} (h : fX1_gapSides v_gaps x1 = some ret) : Met l yX1_gapSides (wsM yX1_gapSides cX1_gapSides 4 (some .int)) rmX1_gapSides (va_Pc [.ref a_, .int x1] (preW G cI cO sz [(a_, .inr (1, [.ref a_furrow, .long v_eaten, .long v_closed, .long v_gaps, .long v_strawMen, .int v_months, .int v_middle, .int v_door, .long v_seenGaps, .long v_seenCorn, .int v_seenCount]))])) (QcI G (va_A [(a_, .inr (1, [.ref a_furrow, .long v_eaten, .long v_closed, .long v_gaps, .long v_strawMen, .int v_months, .int v_middle, .int v_door, .long v_seenGaps, .long v_seenCorn, .int v_seenCount]))] sz) ret [(a_, .inr (1, [.ref a_furrow, .long v_eaten, .long v_closed, .long v_gaps, .long v_strawMen, .int v_months, .int v_middle, .int v_door, .long v_seenGaps, .long v_seenCorn, .int v_seenCount]))]) 0 0 (va_A [(a_, .inr (1, [.ref a_furrow, .long v_eaten, .long v_closed, .long v_gaps, .long v_strawMen, .int v_months, .int v_middle, .int v_door, .long v_seenGaps, .long v_seenCorn, .int v_seenCount]))] sz) := by
  refine mkMet (own := RX1) (by decide) rfl (Nat.le_of_ble_eq_true rfl) ?_
  intro p e s m args below meth c _ hsz _ X hP0 hD0 ls0 hl0
  have hS0 : va_S (va_A [(a_, .inr (1, [.ref a_furrow, .long v_eaten, .long v_closed, .long v_gaps, .long v_strawMen, .int v_months, .int v_middle, .int v_door, .long v_seenGaps, .long v_seenCorn, .int v_seenCount]))] sz) s.heap s.heap [] := va_S.rf
  replace hl0 : lv_has ls0 4 [(0, .ref a_), (1, .int x1)] := hl0
  generalize va_A [(a_, .inr (1, [.ref a_furrow, .long v_eaten, .long v_closed, .long v_gaps, .long v_strawMen, .int v_months, .int v_middle, .int v_door, .long v_seenGaps, .long v_seenCorn, .int v_seenCount]))] sz = A at X hD0 hS0 ⊢
  unfold fX1_gapSides at h
  obtain ⟨hx, hb, hml, hr, hown, hts, hlocks, hK, hN, hA, hZ⟩ := id X
  refine lv_iconst (v := (0 : Int32)) hx hb dX1_gapSides_0 (by decide) ?_
  refine lv_istore_n (lv' := [(2, .int (0 : Int32)), (0, .ref a_), (1, .int x1)]) hx hb dX1_gapSides_1 rfl hl0 (by decide) rfl (fun ls1 hl1 => ?_)
  refine lv_iconst (v := (0 : Int32)) hx hb dX1_gapSides_2 (by decide) ?_
  refine lv_istore_n (lv' := [(3, .int (0 : Int32)), (2, .int (0 : Int32)), (0, .ref a_), (1, .int x1)]) hx hb dX1_gapSides_3 rfl hl1 (by decide) rfl (fun ls2 hl2 => ?_)
  clear hl1
  exact bX1_gapSides_4 X 4000 x1 (0 : Int32) (0 : Int32) s.heap [] hP0 hD0 hS0 ls2 (lv_sub hl2 [2, 3, 1, 0] rfl) h
/-! PloughMaze$Field.cornStops -/
abbrev rmX1_cornStops : Room := { frames := 0, cells := 0, slots := 0, locals := 0 }
def SX1_cornStops_14 (p : Program) (l : Launch) (e : Env) (s : State) (m : MethodId) (args : Array Value) (below : List Frame) (meth : Method) (c : Code) (G : va_G) (cI cO : ClassId) (A : Nat → Prop) (a_ a_furrow : Nat) (v_eaten : Int64) (v_closed : Int64) (v_gaps : Int64) (v_strawMen : Int64) (v_months : Int32) (v_middle : Int32) (v_door : Int32) (v_seenGaps : Int64) (v_seenCorn : Int64) (v_seenCount : Int32) (ret : Int32) (k : Int32 → Int32 → Option (Int32)) : Prop := ∀ (s0 : Int32) (s1 : Int32) (H : Heap) (locs : List Loc), va_P G vwCl [(a_, .inr (1, [.ref a_furrow, .long v_eaten, .long v_closed, .long v_gaps, .long v_strawMen, .int v_months, .int v_middle, .int v_door, .long v_seenGaps, .long v_seenCorn, .int v_seenCount]))] H → va_D A [(a_, .inr (1, [.ref a_furrow, .long v_eaten, .long v_closed, .long v_gaps, .long v_strawMen, .int v_months, .int v_middle, .int v_door, .long v_seenGaps, .long v_seenCorn, .int v_seenCount]))] → va_S A s.heap H locs → ∀ (ls : Array Slot), lv_has ls 2 [] → k s0 s1 = some ret → W p l e rmX1_cornStops s m args below meth c H locs 0 0 (MQ below (QcI G A ret [(a_, .inr (1, [.ref a_furrow, .long v_eaten, .long v_closed, .long v_gaps, .long v_strawMen, .int v_months, .int v_middle, .int v_door, .long v_seenGaps, .long v_seenCorn, .int v_seenCount]))]) args s 0 0 A) (F0 m 14 ls [.int s1, .int s0])
set_option maxHeartbeats 4000000 in
set_option maxRecDepth 100000 in
theorem bX1_cornStops_14 {p : Program} {l : Launch} {e : Env} {s : State} {m : MethodId} {args : Array Value} {below : List Frame} {meth : Method} {c : Code} {G : va_G} {cI cO : ClassId} {A : Nat → Prop} {a_ a_furrow : Nat} {v_eaten : Int64} {v_closed : Int64} {v_gaps : Int64} {v_strawMen : Int64} {v_months : Int32} {v_middle : Int32} {v_door : Int32} {v_seenGaps : Int64} {v_seenCorn : Int64} {v_seenCount : Int32} {ret : Int32} (X : BX p rmX1_cornStops s m args meth c cX1_cornStops 2 (some .boolean) RX1 G cI cO A) : SX1_cornStops_14 p l e s m args below meth c G cI cO A a_ a_furrow v_eaten v_closed v_gaps v_strawMen v_months v_middle v_door v_seenGaps v_seenCorn v_seenCount ret fX1_cornStops_14 := by
  intro s0 s1 H0 locs0 hP0 hD0 hS0 ls0 hl0 h
  unfold fX1_cornStops_14 at h
  obtain ⟨hx, hb, hml, hr, hown, hts, hlocks, hK, hN, hA, hZ⟩ := id X
  refine lv_icmp_lt (tgt := 21) hx hb dX1_cornStops_14 (by decide) (fun hc => ?_) (fun hc => ?_)
  · replace h := t_pos h hc
    clear hc
    refine lv_iconst (v := (0 : Int32)) hx hb dX1_cornStops_21 (by decide) ?_
    obtain ez0 := r_eq1 h
    subst ez0
    exact ret_z X hP0 hS0 rfl dX1_cornStops_22
  · replace h := t_neg h hc
    clear hc
    refine lv_iconst (v := (1 : Int32)) hx hb dX1_cornStops_17 (by decide) ?_
    refine lv_goto (tgt := 22) hx hb dX1_cornStops_18 (by decide) ?_
    obtain ez0 := r_eq1 h
    subst ez0
    exact ret_z X hP0 hS0 rfl dX1_cornStops_22
set_option maxHeartbeats 4000000 in
set_option maxRecDepth 100000 in
theorem mX1_cornStops (l : Launch) (G : va_G) (cI cO : ClassId) (a_ a_furrow : Nat) (sz : Nat) (v_eaten : Int64) (v_closed : Int64) (v_gaps : Int64) (v_strawMen : Int64) (v_months : Int32) (v_middle : Int32) (v_door : Int32) (v_seenGaps : Int64) (v_seenCorn : Int64) (v_seenCount : Int32) (x1 : Int32) {ret : Int32} (h : fX1_cornStops v_months x1 = some ret) : Met l yX1_cornStops (wsM yX1_cornStops cX1_cornStops 2 (some .boolean)) rmX1_cornStops (va_Pc [.ref a_, .int x1] (preW G cI cO sz [(a_, .inr (1, [.ref a_furrow, .long v_eaten, .long v_closed, .long v_gaps, .long v_strawMen, .int v_months, .int v_middle, .int v_door, .long v_seenGaps, .long v_seenCorn, .int v_seenCount]))])) (QcI G (va_A [(a_, .inr (1, [.ref a_furrow, .long v_eaten, .long v_closed, .long v_gaps, .long v_strawMen, .int v_months, .int v_middle, .int v_door, .long v_seenGaps, .long v_seenCorn, .int v_seenCount]))] sz) ret [(a_, .inr (1, [.ref a_furrow, .long v_eaten, .long v_closed, .long v_gaps, .long v_strawMen, .int v_months, .int v_middle, .int v_door, .long v_seenGaps, .long v_seenCorn, .int v_seenCount]))]) 0 0 (va_A [(a_, .inr (1, [.ref a_furrow, .long v_eaten, .long v_closed, .long v_gaps, .long v_strawMen, .int v_months, .int v_middle, .int v_door, .long v_seenGaps, .long v_seenCorn, .int v_seenCount]))] sz) := by
  refine mkMet (own := RX1) (by decide) rfl (Nat.le_of_ble_eq_true rfl) ?_
  intro p e s m args below meth c _ hsz _ X hP0 hD0 ls0 hl0
  have hS0 : va_S (va_A [(a_, .inr (1, [.ref a_furrow, .long v_eaten, .long v_closed, .long v_gaps, .long v_strawMen, .int v_months, .int v_middle, .int v_door, .long v_seenGaps, .long v_seenCorn, .int v_seenCount]))] sz) s.heap s.heap [] := va_S.rf
  replace hl0 : lv_has ls0 2 [(0, .ref a_), (1, .int x1)] := hl0
  generalize va_A [(a_, .inr (1, [.ref a_furrow, .long v_eaten, .long v_closed, .long v_gaps, .long v_strawMen, .int v_months, .int v_middle, .int v_door, .long v_seenGaps, .long v_seenCorn, .int v_seenCount]))] sz = A at X hD0 hS0 ⊢
  unfold fX1_cornStops at h
  obtain ⟨hx, hb, hml, hr, hown, hts, hlocks, hK, hN, hA, hZ⟩ := id X
  refine lv_aload_n hx hb dX1_cornStops_0 rfl (lv_at hl0 0 rfl) ?_
  refine va_get (D := G) (ci := 1) (v := .int v_months) (C := RX1) (T := TX1) (N := 11) hx hb hts gwX1 hown hK hP0 0 rfl rfl 5 (by decide) (hts _ fl_X1_31) (fun _ h9 => h9) rfl dX1_cornStops_1 ?_
  refine lv_iload_n hx hb dX1_cornStops_4 rfl (lv_at hl0 1 rfl) ?_
  refine lv_if_eq (tgt := 13) hx hb dX1_cornStops_5 (by decide) (fun hc => ?_) (fun hc => ?_)
  · replace h := t_pos h hc
    clear hc
    refine lv_iconst (v := (3 : Int32)) hx hb dX1_cornStops_13 (by decide) ?_
    exact bX1_cornStops_14 X v_months (3 : Int32) s.heap [] hP0 hD0 hS0 ls0 (lv_sub hl0 [] rfl) h
  · replace h := t_neg h hc
    clear hc
    refine lv_bipush (v := (7 : Int32)) hx hb dX1_cornStops_8 (by decide) ?_
    refine lv_goto (tgt := 14) hx hb dX1_cornStops_10 (by decide) ?_
    exact bX1_cornStops_14 X v_months (7 : Int32) s.heap [] hP0 hD0 hS0 ls0 (lv_sub hl0 [] rfl) h
/-! PloughMaze$Field.isPassable -/
abbrev rmX1_isPassable : Room := { frames := 2, cells := 0, slots := 0, locals := 44 }
def SX1_isPassable_27 (p : Program) (l : Launch) (e : Env) (s : State) (m : MethodId) (args : Array Value) (below : List Frame) (meth : Method) (c : Code) (G : va_G) (cI cO : ClassId) (A : Nat → Prop) (a_ a_furrow : Nat) (v_eaten : Int64) (v_closed : Int64) (v_gaps : Int64) (v_strawMen : Int64) (v_months : Int32) (v_middle : Int32) (v_door : Int32) (v_seenGaps : Int64) (v_seenCorn : Int64) (v_seenCount : Int32) (ret : Int32) (k : Int32 → Int32 → Int32 → Option (Int32)) : Prop := ∀ (x1 : Int32) (x2 : Int32) (x3 : Int32) (H : Heap) (locs : List Loc), va_P G vwCl [(a_, .inr (1, [.ref a_furrow, .long v_eaten, .long v_closed, .long v_gaps, .long v_strawMen, .int v_months, .int v_middle, .int v_door, .long v_seenGaps, .long v_seenCorn, .int v_seenCount]))] H → va_D A [(a_, .inr (1, [.ref a_furrow, .long v_eaten, .long v_closed, .long v_gaps, .long v_strawMen, .int v_months, .int v_middle, .int v_door, .long v_seenGaps, .long v_seenCorn, .int v_seenCount]))] → va_S A s.heap H locs → ∀ (ls : Array Slot), lv_has ls 5 [(0, .ref a_), (1, .int x1), (2, .int x2), (3, .int x3)] → k x1 x2 x3 = some ret → W p l e rmX1_isPassable s m args below meth c H locs 0 0 (MQ below (QcI G A ret [(a_, .inr (1, [.ref a_furrow, .long v_eaten, .long v_closed, .long v_gaps, .long v_strawMen, .int v_months, .int v_middle, .int v_door, .long v_seenGaps, .long v_seenCorn, .int v_seenCount]))]) args s 0 0 A) (F0 m 27 ls [])
set_option maxHeartbeats 4000000 in
set_option maxRecDepth 100000 in
theorem bX1_isPassable_27 {p : Program} {l : Launch} {e : Env} {s : State} {m : MethodId} {args : Array Value} {below : List Frame} {meth : Method} {c : Code} {G : va_G} {cI cO : ClassId} {A : Nat → Prop} {a_ a_furrow : Nat} {v_eaten : Int64} {v_closed : Int64} {v_gaps : Int64} {v_strawMen : Int64} {v_months : Int32} {v_middle : Int32} {v_door : Int32} {v_seenGaps : Int64} {v_seenCorn : Int64} {v_seenCount : Int32} {ret : Int32} (X : BX p rmX1_isPassable s m args meth c cX1_isPassable 5 (some .boolean) RX1 G cI cO A) : SX1_isPassable_27 p l e s m args below meth c G cI cO A a_ a_furrow v_eaten v_closed v_gaps v_strawMen v_months v_middle v_door v_seenGaps v_seenCorn v_seenCount ret (fX1_isPassable_27 v_gaps v_months) := by
  intro x1 x2 x3 H0 locs0 hP0 hD0 hS0 ls0 hl0 h
  unfold fX1_isPassable_27 at h
  obtain ⟨hx, hb, hml, hr, hown, hts, hlocks, hK, hN, hA, hZ⟩ := id X
  refine lv_aload_n hx hb dX1_isPassable_27 rfl (lv_at hl0 0 rfl) ?_
  refine va_get (D := G) (ci := 1) (v := .long v_gaps) (C := RX1) (T := TX1) (N := 11) hx hb hts gwX1 hown hK hP0 0 rfl rfl 3 (by decide) (hts _ fl_X1_25) (fun _ h9 => h9) rfl dX1_isPassable_28 ?_
  refine lv_iload_n hx hb dX1_isPassable_31 rfl (lv_at hl0 2 rfl) ?_
  refine lv_iload_n hx hb dX1_isPassable_32 rfl (lv_at hl0 3 rfl) ?_
  replace h := g_ob1 h
  obtain ⟨r1, hf1, h⟩ := h
  refine cal_l (wc := []) (w1 := []) (wn := [(a_, .inr (1, [.ref a_furrow, .long v_eaten, .long v_closed, .long v_gaps, .long v_strawMen, .int v_months, .int v_middle, .int v_door, .long v_seenGaps, .long v_seenCorn, .int v_seenCount]))]) X hP0 hD0 hS0 [] rfl rfl rfl rfl (run_S (As := [.int x2, .int x3]) (rest := [.long v_gaps]) X hP0 hD0 hS0 [] rfl rfl (mX3_edge l G cI cO   H0.size  x2 x3 hf1) ms_X3_edge ml_X1_63 ⟨Nat.le_of_ble_eq_true rfl, Nat.le_of_ble_eq_true rfl⟩ rfl rfl rfl hl0.1 rfl (Nat.le_of_ble_eq_true rfl) ⟨Nat.zero_le _, Nat.zero_le _⟩ dX1_isPassable_33) (fun H2 locs2 hP2 hD2 hS2 => ?_)
  clear hf1
  refine lv_land hx hb dX1_isPassable_36 ?_
  refine lv_lconst (v := (0 : Int64)) hx hb dX1_isPassable_37 (by decide) ?_
  refine W.lcmp hx hb dX1_isPassable_38 ?_
  refine lv_if_ne (tgt := 50) hx hb dX1_isPassable_39 (by decide) (fun hc => ?_) (fun hc => ?_)
  · replace h := t_neg h hc
    clear hc
    refine lv_iconst (v := (1 : Int32)) hx hb dX1_isPassable_50 (by decide) ?_
    refine lv_goto (tgt := 55) hx hb dX1_isPassable_51 (by decide) ?_
    obtain ez0 := r_eq1 h
    subst ez0
    exact ret_z X hP2 hS2 rfl dX1_isPassable_55
  · replace h := t_pos h hc
    clear hc
    refine lv_aload_n hx hb dX1_isPassable_42 rfl (lv_at hl0 0 rfl) ?_
    refine lv_iload_n hx hb dX1_isPassable_43 rfl (lv_at hl0 1 rfl) ?_
    replace h := g_ob1 h
    obtain ⟨r3, hf3, h⟩ := h
    refine cal_i (wc := [(a_, .inr (1, [.ref a_furrow, .long v_eaten, .long v_closed, .long v_gaps, .long v_strawMen, .int v_months, .int v_middle, .int v_door, .long v_seenGaps, .long v_seenCorn, .int v_seenCount]))]) (w1 := [(a_, .inr (1, [.ref a_furrow, .long v_eaten, .long v_closed, .long v_gaps, .long v_strawMen, .int v_months, .int v_middle, .int v_door, .long v_seenGaps, .long v_seenCorn, .int v_seenCount]))]) (wn := [(a_, .inr (1, [.ref a_furrow, .long v_eaten, .long v_closed, .long v_gaps, .long v_strawMen, .int v_months, .int v_middle, .int v_door, .long v_seenGaps, .long v_seenCorn, .int v_seenCount]))]) X hP2 hD2 hS2 [0] rfl rfl rfl rfl (run_V (As := [.int x1]) (rest := []) X hP2 hD2 hS2 [0] rfl rfl (mX1_cornStops l G cI cO a_ a_furrow  H2.size v_eaten v_closed v_gaps v_strawMen v_months v_middle v_door v_seenGaps v_seenCorn v_seenCount x1 hf3) mv_X1_cornStops ml_X1_77 ⟨Nat.le_of_ble_eq_true rfl, Nat.le_of_ble_eq_true rfl⟩ rfl rfl 0 1 rfl rfl rfl rfl hl0.1 rfl (Nat.le_of_ble_eq_true rfl) ⟨Nat.zero_le _, Nat.zero_le _⟩ dX1_isPassable_44) (fun H4 locs4 hP4 hD4 hS4 => ?_)
    clear hf3 hP2 hD2 hS2
    refine lv_if_ne (tgt := 54) hx hb dX1_isPassable_47 (by decide) (fun hc => ?_) (fun hc => ?_)
    · replace h := t_neg h hc
      clear hc
      refine lv_iconst (v := (0 : Int32)) hx hb dX1_isPassable_54 (by decide) ?_
      obtain ez0 := r_eq1 h
      subst ez0
      exact ret_z X hP4 hS4 rfl dX1_isPassable_55
    · replace h := t_pos h hc
      clear hc
      refine lv_iconst (v := (1 : Int32)) hx hb dX1_isPassable_50 (by decide) ?_
      refine lv_goto (tgt := 55) hx hb dX1_isPassable_51 (by decide) ?_
      obtain ez0 := r_eq1 h
      subst ez0
      exact ret_z X hP4 hS4 rfl dX1_isPassable_55
set_option maxHeartbeats 4000000 in
set_option maxRecDepth 100000 in
theorem mX1_isPassable (l : Launch) (G : va_G) (cI cO : ClassId) (a_ a_furrow : Nat) (sz : Nat) (v_eaten : Int64) (v_closed : Int64) (v_gaps : Int64) (v_strawMen : Int64) (v_months : Int32) (v_middle : Int32) (v_door : Int32) (v_seenGaps : Int64) (v_seenCorn : Int64) (v_seenCount : Int32) (x1 : Int32) (x2 : Int32) (x3 : Int32) {ret : Int32} (h : fX1_isPassable v_gaps v_strawMen v_months x1 x2 x3 = some ret) : Met l yX1_isPassable (wsM yX1_isPassable cX1_isPassable 5 (some .boolean)) rmX1_isPassable (va_Pc [.ref a_, .int x1, .int x2, .int x3] (preW G cI cO sz [(a_, .inr (1, [.ref a_furrow, .long v_eaten, .long v_closed, .long v_gaps, .long v_strawMen, .int v_months, .int v_middle, .int v_door, .long v_seenGaps, .long v_seenCorn, .int v_seenCount]))])) (QcI G (va_A [(a_, .inr (1, [.ref a_furrow, .long v_eaten, .long v_closed, .long v_gaps, .long v_strawMen, .int v_months, .int v_middle, .int v_door, .long v_seenGaps, .long v_seenCorn, .int v_seenCount]))] sz) ret [(a_, .inr (1, [.ref a_furrow, .long v_eaten, .long v_closed, .long v_gaps, .long v_strawMen, .int v_months, .int v_middle, .int v_door, .long v_seenGaps, .long v_seenCorn, .int v_seenCount]))]) 0 0 (va_A [(a_, .inr (1, [.ref a_furrow, .long v_eaten, .long v_closed, .long v_gaps, .long v_strawMen, .int v_months, .int v_middle, .int v_door, .long v_seenGaps, .long v_seenCorn, .int v_seenCount]))] sz) := by
  refine mkMet (own := RX1) (by decide) rfl (Nat.le_of_ble_eq_true rfl) ?_
  intro p e s m args below meth c _ hsz _ X hP0 hD0 ls0 hl0
  have hS0 : va_S (va_A [(a_, .inr (1, [.ref a_furrow, .long v_eaten, .long v_closed, .long v_gaps, .long v_strawMen, .int v_months, .int v_middle, .int v_door, .long v_seenGaps, .long v_seenCorn, .int v_seenCount]))] sz) s.heap s.heap [] := va_S.rf
  replace hl0 : lv_has ls0 5 [(0, .ref a_), (1, .int x1), (2, .int x2), (3, .int x3)] := hl0
  generalize va_A [(a_, .inr (1, [.ref a_furrow, .long v_eaten, .long v_closed, .long v_gaps, .long v_strawMen, .int v_months, .int v_middle, .int v_door, .long v_seenGaps, .long v_seenCorn, .int v_seenCount]))] sz = A at X hD0 hS0 ⊢
  unfold fX1_isPassable at h
  obtain ⟨hx, hb, hml, hr, hown, hts, hlocks, hK, hN, hA, hZ⟩ := id X
  refine lv_iload_n hx hb dX1_isPassable_0 rfl (lv_at hl0 2 rfl) ?_
  refine lv_iload_n hx hb dX1_isPassable_1 rfl (lv_at hl0 3 rfl) ?_
  replace h := g_ob1 h
  obtain ⟨r1, hf1, h⟩ := h
  refine cal_i (wc := []) (w1 := []) (wn := [(a_, .inr (1, [.ref a_furrow, .long v_eaten, .long v_closed, .long v_gaps, .long v_strawMen, .int v_months, .int v_middle, .int v_door, .long v_seenGaps, .long v_seenCorn, .int v_seenCount]))]) X hP0 hD0 hS0 [] rfl rfl rfl rfl (run_S (As := [.int x2, .int x3]) (rest := []) X hP0 hD0 hS0 [] rfl rfl (mX3_next l G cI cO   s.heap.size  x2 x3 hf1) ms_X3_next ml_X1_69 ⟨Nat.le_of_ble_eq_true rfl, Nat.le_of_ble_eq_true rfl⟩ rfl rfl rfl hl0.1 rfl (Nat.le_of_ble_eq_true rfl) ⟨Nat.zero_le _, Nat.zero_le _⟩ dX1_isPassable_2) (fun H2 locs2 hP2 hD2 hS2 => ?_)
  clear hf1
  refine lv_istore (lv' := [(4, .int r1), (0, .ref a_), (1, .int x1), (2, .int x2), (3, .int x3)]) hx hb dX1_isPassable_5 hl0 (by decide) rfl (fun ls3 hl3 => ?_)
  refine lv_iload hx hb dX1_isPassable_7 (lv_at hl3 0 rfl) ?_
  refine lv_if_lt (tgt := 25) hx hb dX1_isPassable_9 (by decide) (fun hc => ?_) (fun hc => ?_)
  · replace h := t_pos h hc
    clear hc
    refine lv_iconst (v := (0 : Int32)) hx hb dX1_isPassable_25 (by decide) ?_
    obtain ez0 := r_eq1 h
    subst ez0
    exact ret_z X hP2 hS2 rfl dX1_isPassable_26
  · replace h := t_neg h hc
    clear hc
    refine lv_iload_n hx hb dX1_isPassable_12 rfl (lv_at hl3 2 rfl) ?_
    refine lv_if_ne (tgt := 27) hx hb dX1_isPassable_13 (by decide) (fun hc => ?_) (fun hc => ?_)
    · replace h := t_neg h hc
      clear hc
      exact bX1_isPassable_27 X x1 x2 x3 H2 locs2 hP2 hD2 hS2 ls3 (lv_sub hl3 [1, 2, 3, 4] rfl) h
    · replace h := t_pos h hc
      clear hc
      refine lv_aload_n hx hb dX1_isPassable_16 rfl (lv_at hl3 1 rfl) ?_
      refine lv_iload hx hb dX1_isPassable_17 (lv_at hl3 0 rfl) ?_
      replace h := g_ob1 h
      obtain ⟨r4, hf4, h⟩ := h
      refine cal_i (wc := [(a_, .inr (1, [.ref a_furrow, .long v_eaten, .long v_closed, .long v_gaps, .long v_strawMen, .int v_months, .int v_middle, .int v_door, .long v_seenGaps, .long v_seenCorn, .int v_seenCount]))]) (w1 := [(a_, .inr (1, [.ref a_furrow, .long v_eaten, .long v_closed, .long v_gaps, .long v_strawMen, .int v_months, .int v_middle, .int v_door, .long v_seenGaps, .long v_seenCorn, .int v_seenCount]))]) (wn := [(a_, .inr (1, [.ref a_furrow, .long v_eaten, .long v_closed, .long v_gaps, .long v_strawMen, .int v_months, .int v_middle, .int v_door, .long v_seenGaps, .long v_seenCorn, .int v_seenCount]))]) X hP2 hD2 hS2 [0] rfl rfl rfl rfl (run_V (As := [.int r1]) (rest := []) X hP2 hD2 hS2 [0] rfl rfl (mX1_hasStrawMan l G cI cO a_ a_furrow  H2.size v_eaten v_closed v_gaps v_strawMen v_months v_middle v_door v_seenGaps v_seenCorn v_seenCount r1 hf4) mv_X1_hasStrawMan ml_X1_73 ⟨Nat.le_of_ble_eq_true rfl, Nat.le_of_ble_eq_true rfl⟩ rfl rfl 0 1 rfl rfl rfl rfl hl3.1 rfl (Nat.le_of_ble_eq_true rfl) ⟨Nat.zero_le _, Nat.zero_le _⟩ dX1_isPassable_19) (fun H5 locs5 hP5 hD5 hS5 => ?_)
      clear hf4 hP2 hD2 hS2
      refine lv_if_eq (tgt := 27) hx hb dX1_isPassable_22 (by decide) (fun hc => ?_) (fun hc => ?_)
      · replace h := t_pos h hc
        clear hc
        exact bX1_isPassable_27 X x1 x2 x3 H5 locs5 hP5 hD5 hS5 ls3 (lv_sub hl3 [1, 2, 3, 4] rfl) h
      · replace h := t_neg h hc
        clear hc
        refine lv_iconst (v := (0 : Int32)) hx hb dX1_isPassable_25 (by decide) ?_
        obtain ez0 := r_eq1 h
        subst ez0
        exact ret_z X hP5 hS5 rfl dX1_isPassable_26
/-! PloughMaze$Walker.begin -/
abbrev rmX7_begin : Room := { frames := 0, cells := 0, slots := 0, locals := 0 }
def SX7_begin_18 (p : Program) (l : Launch) (e : Env) (s : State) (m : MethodId) (args : Array Value) (below : List Frame) (meth : Method) (c : Code) (G : va_G) (cI cO : ClassId) (A : Nat → Prop) (a_ a_marks : Nat) (o_marks : Nat → Int32) (o_kind : Int32) (o_square : Int32) (o_side : Int32) (k : (Nat → Int32) → Int32 → Int32 → Int32 → Int32 → Option ((Nat → Int32) × Int32 × Int32 × Int32)) : Prop := ∀ (v_marks : Nat → Int32) (v_kind : Int32) (v_square : Int32) (v_side : Int32) (x4 : Int32) (H : Heap) (locs : List Loc), va_P G vwCl [(a_, .inr (6, [.ref a_marks, .int v_kind, .int v_square, .int v_side])), (a_marks, .inl (cI, 36, .inl v_marks))] H → va_D A [(a_, .inr (6, [.ref a_marks, .int v_kind, .int v_square, .int v_side])), (a_marks, .inl (cI, 36, .inl v_marks))] → va_S A s.heap H locs → ∀ (ls : Array Slot), lv_has ls 5 [(0, .ref a_), (4, .int x4)] → k v_marks v_kind v_square v_side x4 = some (o_marks, o_kind, o_square, o_side) → W p l e rmX7_begin s m args below meth c H locs 0 0 (MQ below (QcV G A [(a_, .inr (6, [.ref a_marks, .int o_kind, .int o_square, .int o_side])), (a_marks, .inl (cI, 36, .inl o_marks))]) args s 0 0 A) (F0 m 18 ls [])
set_option maxHeartbeats 4000000 in
set_option maxRecDepth 100000 in
theorem bX7_begin_18 {p : Program} {l : Launch} {e : Env} {s : State} {m : MethodId} {args : Array Value} {below : List Frame} {meth : Method} {c : Code} {G : va_G} {cI cO : ClassId} {A : Nat → Prop} {a_ a_marks : Nat} {o_marks : Nat → Int32} {o_kind : Int32} {o_square : Int32} {o_side : Int32} (X : BX p rmX7_begin s m args meth c cX7_begin 5 none RX7 G cI cO A) : ∀ n : Nat, SX7_begin_18 p l e s m args below meth c G cI cO A a_ a_marks o_marks o_kind o_square o_side (fX7_begin_18 n) := by
  intro n
  induction n with
  | zero => intro v_marks v_kind v_square v_side x4 H0 locs0 hP0 hD0 hS0 ls0 hl0 h; exact absurd h (by simp [fX7_begin_18])
  | succ n ih =>
    intro v_marks v_kind v_square v_side x4 H0 locs0 hP0 hD0 hS0 ls0 hl0 h
    rw [fX7_begin_18] at h
    obtain ⟨hx, hb, hml, hr, hown, hts, hlocks, hK, hN, hA, hZ⟩ := id X
    refine lv_iload hx hb dX7_begin_18 (lv_at hl0 1 rfl) ?_
    refine lv_bipush (v := (36 : Int32)) hx hb dX7_begin_20 (by decide) ?_
    refine lv_icmp_ge (tgt := 39) hx hb dX7_begin_22 (by decide) (fun hc => ?_) (fun hc => ?_)
    · replace h := t_pos h hc
      clear hc
      obtain ⟨ez0, ez1, ez2, ez3⟩ := r_eq4 h
      subst ez0; subst ez1; subst ez2; subst ez3
      exact ret_v X hP0 hS0 dX7_begin_39
    · replace h := t_neg h hc
      clear hc
      refine lv_aload_n hx hb dX7_begin_25 rfl (lv_at hl0 0 rfl) ?_
      refine va_get (D := G) (ci := 6) (v := .ref a_marks) (C := RX7) (T := TX7) (N := 4) hx hb hts gwX7 hown hK hP0 0 rfl rfl 0 (by decide) (hts _ fl_X7_9) (fun _ h9 => h9) rfl dX7_begin_26 ?_
      refine lv_iload hx hb dX7_begin_29 (lv_at hl0 1 rfl) ?_
      refine lv_iconst (v := (0 : Int32)) hx hb dX7_begin_31 (by decide) ?_
      replace h := g_in h; obtain ⟨hg, h⟩ := h
      refine va_iast hx hb hK hP0 hD0 hS0 1 0 rfl rfl (inb_ok hg) dX7_begin_32 (fun H1 locs1 hP1 hD1 hS1 => ?_)
      replace hP1 : va_P G vwCl [(a_, .inr (6, [.ref a_marks, .int v_kind, .int v_square, .int v_side])), (a_marks, .inl (cI, 36, .inl ((upd v_marks x4.toNatClampNeg (0 : Int32)))))] H1 := hP1
      replace hD1 : va_D A [(a_, .inr (6, [.ref a_marks, .int v_kind, .int v_square, .int v_side])), (a_marks, .inl (cI, 36, .inl ((upd v_marks x4.toNatClampNeg (0 : Int32)))))] := hD1
      clear hg
      refine lv_iinc (v := (x4 + (1 : Int32))) (lv' := [(4, .int (x4 + (1 : Int32))), (0, .ref a_)]) hx hb dX7_begin_33 hl0 (k := 1) rfl (congrArg (fun z => x4 + z) (by decide : Int32.ofInt (1) = (1 : Int32))) (by decide) rfl (fun ls2 hl2 => ?_)
      refine lv_goto (tgt := 18) hx hb dX7_begin_36 (by decide) ?_
      exact ih ((upd v_marks x4.toNatClampNeg (0 : Int32))) v_kind v_square v_side ((x4 + (1 : Int32))) H1 locs1 hP1 hD1 hS1 ls2 (lv_sub hl2 [1, 0] rfl) h
set_option maxHeartbeats 4000000 in
set_option maxRecDepth 100000 in
theorem mX7_begin (l : Launch) (G : va_G) (cI cO : ClassId) (a_ a_marks : Nat) (sz : Nat) (v_kind : Int32) (v_square : Int32) (v_side : Int32) (v_marks : Nat → Int32) (x1 : Int32) (x2 : Int32) (x3 : Int32) {o_marks : Nat → Int32} {o_kind : Int32} {o_square : Int32} {o_side : Int32} (h : fX7_begin v_marks v_kind v_square v_side x1 x2 x3 = some (o_marks, o_kind, o_square, o_side)) : Met l yX7_begin (wsM yX7_begin cX7_begin 5 none) rmX7_begin (va_Pc [.ref a_, .int x1, .int x2, .int x3] (preW G cI cO sz [(a_, .inr (6, [.ref a_marks, .int v_kind, .int v_square, .int v_side])), (a_marks, .inl (cI, 36, .inl v_marks))])) (QcV G (va_A [(a_, .inr (6, [.ref a_marks, .int v_kind, .int v_square, .int v_side])), (a_marks, .inl (cI, 36, .inl v_marks))] sz) [(a_, .inr (6, [.ref a_marks, .int o_kind, .int o_square, .int o_side])), (a_marks, .inl (cI, 36, .inl o_marks))]) 0 0 (va_A [(a_, .inr (6, [.ref a_marks, .int v_kind, .int v_square, .int v_side])), (a_marks, .inl (cI, 36, .inl v_marks))] sz) := by
  refine mkMet (own := RX7) (by decide) rfl (Nat.le_of_ble_eq_true rfl) ?_
  intro p e s m args below meth c _ hsz _ X hP0 hD0 ls0 hl0
  have hS0 : va_S (va_A [(a_, .inr (6, [.ref a_marks, .int v_kind, .int v_square, .int v_side])), (a_marks, .inl (cI, 36, .inl v_marks))] sz) s.heap s.heap [] := va_S.rf
  replace hl0 : lv_has ls0 5 [(0, .ref a_), (1, .int x1), (2, .int x2), (3, .int x3)] := hl0
  generalize va_A [(a_, .inr (6, [.ref a_marks, .int v_kind, .int v_square, .int v_side])), (a_marks, .inl (cI, 36, .inl v_marks))] sz = A at X hD0 hS0 ⊢
  unfold fX7_begin at h
  obtain ⟨hx, hb, hml, hr, hown, hts, hlocks, hK, hN, hA, hZ⟩ := id X
  refine lv_aload_n hx hb dX7_begin_0 rfl (lv_at hl0 0 rfl) ?_
  refine lv_iload_n hx hb dX7_begin_1 rfl (lv_at hl0 1 rfl) ?_
  refine va_put (D := G) (ci := 6) (v := .int x1) (ty := .int) (C := RX7) (T := TX7) (N := 4) hx hb hts gwX7 tyX7 tyX7_ok nmX7 hown hK hP0 hD0 hS0 0 rfl rfl 1 (by decide) (hts _ fl_X7_15) (fun _ h9 => h9) rfl (by decide +kernel) rfl rfl (Nat.le_of_ble_eq_true rfl) dX7_begin_2 (fun H1 locs1 hP1 hD1 hS1 => ?_)
  replace hP1 : va_P G vwCl [(a_, .inr (6, [.ref a_marks, .int x1, .int v_square, .int v_side])), (a_marks, .inl (cI, 36, .inl v_marks))] H1 := hP1
  replace hD1 : va_D A [(a_, .inr (6, [.ref a_marks, .int x1, .int v_square, .int v_side])), (a_marks, .inl (cI, 36, .inl v_marks))] := hD1
  refine lv_aload_n hx hb dX7_begin_5 rfl (lv_at hl0 0 rfl) ?_
  refine lv_iload_n hx hb dX7_begin_6 rfl (lv_at hl0 2 rfl) ?_
  refine va_put (D := G) (ci := 6) (v := .int x2) (ty := .int) (C := RX7) (T := TX7) (N := 4) hx hb hts gwX7 tyX7 tyX7_ok nmX7 hown hK hP1 hD1 hS1 0 rfl rfl 2 (by decide) (hts _ fl_X7_19) (fun _ h9 => h9) rfl (by decide +kernel) rfl rfl (Nat.le_of_ble_eq_true rfl) dX7_begin_7 (fun H2 locs2 hP2 hD2 hS2 => ?_)
  replace hP2 : va_P G vwCl [(a_, .inr (6, [.ref a_marks, .int x1, .int x2, .int v_side])), (a_marks, .inl (cI, 36, .inl v_marks))] H2 := hP2
  replace hD2 : va_D A [(a_, .inr (6, [.ref a_marks, .int x1, .int x2, .int v_side])), (a_marks, .inl (cI, 36, .inl v_marks))] := hD2
  clear hP1 hD1 hS1
  refine lv_aload_n hx hb dX7_begin_10 rfl (lv_at hl0 0 rfl) ?_
  refine lv_iload_n hx hb dX7_begin_11 rfl (lv_at hl0 3 rfl) ?_
  refine va_put (D := G) (ci := 6) (v := .int x3) (ty := .int) (C := RX7) (T := TX7) (N := 4) hx hb hts gwX7 tyX7 tyX7_ok nmX7 hown hK hP2 hD2 hS2 0 rfl rfl 3 (by decide) (hts _ fl_X7_22) (fun _ h9 => h9) rfl (by decide +kernel) rfl rfl (Nat.le_of_ble_eq_true rfl) dX7_begin_12 (fun H3 locs3 hP3 hD3 hS3 => ?_)
  replace hP3 : va_P G vwCl [(a_, .inr (6, [.ref a_marks, .int x1, .int x2, .int x3])), (a_marks, .inl (cI, 36, .inl v_marks))] H3 := hP3
  replace hD3 : va_D A [(a_, .inr (6, [.ref a_marks, .int x1, .int x2, .int x3])), (a_marks, .inl (cI, 36, .inl v_marks))] := hD3
  clear hP2 hD2 hS2
  refine lv_iconst (v := (0 : Int32)) hx hb dX7_begin_15 (by decide) ?_
  refine lv_istore (lv' := [(4, .int (0 : Int32)), (0, .ref a_), (1, .int x1), (2, .int x2), (3, .int x3)]) hx hb dX7_begin_16 hl0 (by decide) rfl (fun ls4 hl4 => ?_)
  exact bX7_begin_18 X 4000 v_marks x1 x2 x3 (0 : Int32) H3 locs3 hP3 hD3 hS3 ls4 (lv_sub hl4 [1, 0] rfl) h
/-! PloughMaze$Walker.marksAt -/
abbrev rmX7_marksAt : Room := { frames := 1, cells := 0, slots := 0, locals := 21 }
set_option maxHeartbeats 4000000 in
set_option maxRecDepth 100000 in
theorem mX7_marksAt (l : Launch) (G : va_G) (cI cO : ClassId) (a_ a_marks : Nat) (sz : Nat) (v_kind : Int32) (v_square : Int32) (v_side : Int32) (v_marks : Nat → Int32) (x1 : Int32) {ret : Int32} (h : fX7_marksAt v_marks v_square x1 = some ret) : Met l yX7_marksAt (wsM yX7_marksAt cX7_marksAt 3 (some .int)) rmX7_marksAt (va_Pc [.ref a_, .int x1] (preW G cI cO sz [(a_, .inr (6, [.ref a_marks, .int v_kind, .int v_square, .int v_side])), (a_marks, .inl (cI, 36, .inl v_marks))])) (QcI G (va_A [(a_, .inr (6, [.ref a_marks, .int v_kind, .int v_square, .int v_side])), (a_marks, .inl (cI, 36, .inl v_marks))] sz) ret [(a_, .inr (6, [.ref a_marks, .int v_kind, .int v_square, .int v_side])), (a_marks, .inl (cI, 36, .inl v_marks))]) 0 0 (va_A [(a_, .inr (6, [.ref a_marks, .int v_kind, .int v_square, .int v_side])), (a_marks, .inl (cI, 36, .inl v_marks))] sz) := by
  refine mkMet (own := RX7) (by decide) rfl (Nat.le_of_ble_eq_true rfl) ?_
  intro p e s m args below meth c _ hsz _ X hP0 hD0 ls0 hl0
  have hS0 : va_S (va_A [(a_, .inr (6, [.ref a_marks, .int v_kind, .int v_square, .int v_side])), (a_marks, .inl (cI, 36, .inl v_marks))] sz) s.heap s.heap [] := va_S.rf
  replace hl0 : lv_has ls0 3 [(0, .ref a_), (1, .int x1)] := hl0
  generalize va_A [(a_, .inr (6, [.ref a_marks, .int v_kind, .int v_square, .int v_side])), (a_marks, .inl (cI, 36, .inl v_marks))] sz = A at X hD0 hS0 ⊢
  unfold fX7_marksAt at h
  obtain ⟨hx, hb, hml, hr, hown, hts, hlocks, hK, hN, hA, hZ⟩ := id X
  refine lv_aload_n hx hb dX7_marksAt_0 rfl (lv_at hl0 0 rfl) ?_
  refine va_get (D := G) (ci := 6) (v := .int v_square) (C := RX7) (T := TX7) (N := 4) hx hb hts gwX7 hown hK hP0 0 rfl rfl 2 (by decide) (hts _ fl_X7_19) (fun _ h9 => h9) rfl dX7_marksAt_1 ?_
  refine lv_iload_n hx hb dX7_marksAt_4 rfl (lv_at hl0 1 rfl) ?_
  replace h := g_ob1 h
  obtain ⟨r1, hf1, h⟩ := h
  refine cal_i (wc := []) (w1 := []) (wn := [(a_, .inr (6, [.ref a_marks, .int v_kind, .int v_square, .int v_side])), (a_marks, .inl (cI, 36, .inl v_marks))]) X hP0 hD0 hS0 [] rfl rfl rfl rfl (run_S (As := [.int v_square, .int x1]) (rest := []) X hP0 hD0 hS0 [] rfl rfl (mX3_next l G cI cO   s.heap.size  v_square x1 hf1) ms_X3_next ml_X7_29 ⟨Nat.le_of_ble_eq_true rfl, Nat.le_of_ble_eq_true rfl⟩ rfl rfl rfl hl0.1 rfl (Nat.le_of_ble_eq_true rfl) ⟨Nat.zero_le _, Nat.zero_le _⟩ dX7_marksAt_5) (fun H2 locs2 hP2 hD2 hS2 => ?_)
  clear hf1
  refine lv_istore_n (lv' := [(2, .int r1), (0, .ref a_), (1, .int x1)]) hx hb dX7_marksAt_8 rfl hl0 (by decide) rfl (fun ls3 hl3 => ?_)
  refine lv_iload_n hx hb dX7_marksAt_9 rfl (lv_at hl3 0 rfl) ?_
  refine lv_if_ge (tgt := 17) hx hb dX7_marksAt_10 (by decide) (fun hc => ?_) (fun hc => ?_)
  · replace h := t_pos h hc
    clear hc
    refine lv_aload_n hx hb dX7_marksAt_17 rfl (lv_at hl3 1 rfl) ?_
    refine va_get (D := G) (ci := 6) (v := .ref a_marks) (C := RX7) (T := TX7) (N := 4) hx hb hts gwX7 hown hK hP2 0 rfl rfl 0 (by decide) (hts _ fl_X7_9) (fun _ h9 => h9) rfl dX7_marksAt_18 ?_
    refine lv_iload_n hx hb dX7_marksAt_21 rfl (lv_at hl3 0 rfl) ?_
    replace h := g_in h; obtain ⟨hg, h⟩ := h
    refine va_iald hx hb hK hP2 1 0 rfl rfl (inb_ok hg) dX7_marksAt_22 ?_
    clear hg
    obtain ez0 := r_eq1 h
    subst ez0
    exact ret_i X hP2 hS2 dX7_marksAt_23
  · replace h := t_neg h hc
    clear hc
    refine lv_iconst (v := (0 : Int32)) hx hb dX7_marksAt_13 (by decide) ?_
    refine lv_goto (tgt := 23) hx hb dX7_marksAt_14 (by decide) ?_
    obtain ez0 := r_eq1 h
    subst ez0
    exact ret_i X hP2 hS2 dX7_marksAt_23
/-! PloughMaze$Walker.isBetter -/
abbrev rmX7_isBetter : Room := { frames := 2, cells := 0, slots := 0, locals := 43 }
set_option maxHeartbeats 4000000 in
set_option maxRecDepth 100000 in
theorem mX7_isBetter (l : Launch) (G : va_G) (cI cO : ClassId) (a_ a_marks : Nat) (sz : Nat) (v_kind : Int32) (v_square : Int32) (v_side : Int32) (v_marks : Nat → Int32) (x1 : Int32) (x2 : Int32) {ret : Int32} (h : fX7_isBetter v_marks v_kind v_square x1 x2 = some ret) : Met l yX7_isBetter (wsM yX7_isBetter cX7_isBetter 3 (some .boolean)) rmX7_isBetter (va_Pc [.ref a_, .int x1, .int x2] (preW G cI cO sz [(a_, .inr (6, [.ref a_marks, .int v_kind, .int v_square, .int v_side])), (a_marks, .inl (cI, 36, .inl v_marks))])) (QcI G (va_A [(a_, .inr (6, [.ref a_marks, .int v_kind, .int v_square, .int v_side])), (a_marks, .inl (cI, 36, .inl v_marks))] sz) ret [(a_, .inr (6, [.ref a_marks, .int v_kind, .int v_square, .int v_side])), (a_marks, .inl (cI, 36, .inl v_marks))]) 0 0 (va_A [(a_, .inr (6, [.ref a_marks, .int v_kind, .int v_square, .int v_side])), (a_marks, .inl (cI, 36, .inl v_marks))] sz) := by
  refine mkMet (own := RX7) (by decide) rfl (Nat.le_of_ble_eq_true rfl) ?_
  intro p e s m args below meth c _ hsz _ X hP0 hD0 ls0 hl0
  have hS0 : va_S (va_A [(a_, .inr (6, [.ref a_marks, .int v_kind, .int v_square, .int v_side])), (a_marks, .inl (cI, 36, .inl v_marks))] sz) s.heap s.heap [] := va_S.rf
  replace hl0 : lv_has ls0 3 [(0, .ref a_), (1, .int x1), (2, .int x2)] := hl0
  generalize va_A [(a_, .inr (6, [.ref a_marks, .int v_kind, .int v_square, .int v_side])), (a_marks, .inl (cI, 36, .inl v_marks))] sz = A at X hD0 hS0 ⊢
  unfold fX7_isBetter at h
  obtain ⟨hx, hb, hml, hr, hown, hts, hlocks, hK, hN, hA, hZ⟩ := id X
  refine lv_aload_n hx hb dX7_isBetter_0 rfl (lv_at hl0 0 rfl) ?_
  refine va_get (D := G) (ci := 6) (v := .int v_kind) (C := RX7) (T := TX7) (N := 4) hx hb hts gwX7 hown hK hP0 0 rfl rfl 1 (by decide) (hts _ fl_X7_15) (fun _ h9 => h9) rfl dX7_isBetter_1 ?_
  refine lv_iconst (v := (2 : Int32)) hx hb dX7_isBetter_4 (by decide) ?_
  refine lv_icmp_lt (tgt := 25) hx hb dX7_isBetter_5 (by decide) (fun hc => ?_) (fun hc => ?_)
  · replace h := t_pos h hc
    clear hc
    refine lv_iconst (v := (0 : Int32)) hx hb dX7_isBetter_25 (by decide) ?_
    obtain ez0 := r_eq1 h
    subst ez0
    exact ret_z X hP0 hS0 rfl dX7_isBetter_26
  · replace h := t_neg h hc
    clear hc
    refine lv_aload_n hx hb dX7_isBetter_8 rfl (lv_at hl0 0 rfl) ?_
    refine lv_iload_n hx hb dX7_isBetter_9 rfl (lv_at hl0 1 rfl) ?_
    replace h := g_ob1 h
    obtain ⟨r1, hf1, h⟩ := h
    refine cal_i (wc := [(a_, .inr (6, [.ref a_marks, .int v_kind, .int v_square, .int v_side])), (a_marks, .inl (cI, 36, .inl v_marks))]) (w1 := [(a_, .inr (6, [.ref a_marks, .int v_kind, .int v_square, .int v_side])), (a_marks, .inl (cI, 36, .inl v_marks))]) (wn := [(a_, .inr (6, [.ref a_marks, .int v_kind, .int v_square, .int v_side])), (a_marks, .inl (cI, 36, .inl v_marks))]) X hP0 hD0 hS0 [0, 1] rfl rfl rfl rfl (run_V (As := [.int x1]) (rest := []) X hP0 hD0 hS0 [0, 1] rfl rfl (mX7_marksAt l G cI cO a_ a_marks  s.heap.size v_kind v_square v_side v_marks x1 hf1) mv_X7_marksAt ml_X7_52 ⟨Nat.le_of_ble_eq_true rfl, Nat.le_of_ble_eq_true rfl⟩ rfl rfl 0 6 rfl rfl rfl rfl hl0.1 rfl (Nat.le_of_ble_eq_true rfl) ⟨Nat.zero_le _, Nat.zero_le _⟩ dX7_isBetter_10) (fun H2 locs2 hP2 hD2 hS2 => ?_)
    clear hf1
    refine lv_aload_n hx hb dX7_isBetter_13 rfl (lv_at hl0 0 rfl) ?_
    refine lv_iload_n hx hb dX7_isBetter_14 rfl (lv_at hl0 2 rfl) ?_
    replace h := g_ob1 h
    obtain ⟨r3, hf3, h⟩ := h
    refine cal_i (wc := [(a_, .inr (6, [.ref a_marks, .int v_kind, .int v_square, .int v_side])), (a_marks, .inl (cI, 36, .inl v_marks))]) (w1 := [(a_, .inr (6, [.ref a_marks, .int v_kind, .int v_square, .int v_side])), (a_marks, .inl (cI, 36, .inl v_marks))]) (wn := [(a_, .inr (6, [.ref a_marks, .int v_kind, .int v_square, .int v_side])), (a_marks, .inl (cI, 36, .inl v_marks))]) X hP2 hD2 hS2 [0, 1] rfl rfl rfl rfl (run_V (As := [.int x2]) (rest := [.int r1]) X hP2 hD2 hS2 [0, 1] rfl rfl (mX7_marksAt l G cI cO a_ a_marks  H2.size v_kind v_square v_side v_marks x2 hf3) mv_X7_marksAt ml_X7_52 ⟨Nat.le_of_ble_eq_true rfl, Nat.le_of_ble_eq_true rfl⟩ rfl rfl 0 6 rfl rfl rfl rfl hl0.1 rfl (Nat.le_of_ble_eq_true rfl) ⟨Nat.zero_le _, Nat.zero_le _⟩ dX7_isBetter_15) (fun H4 locs4 hP4 hD4 hS4 => ?_)
    clear hf3 hP2 hD2 hS2
    refine lv_icmp_ge (tgt := 25) hx hb dX7_isBetter_18 (by decide) (fun hc => ?_) (fun hc => ?_)
    · replace h := t_pos h hc
      clear hc
      refine lv_iconst (v := (0 : Int32)) hx hb dX7_isBetter_25 (by decide) ?_
      obtain ez0 := r_eq1 h
      subst ez0
      exact ret_z X hP4 hS4 rfl dX7_isBetter_26
    · replace h := t_neg h hc
      clear hc
      refine lv_iconst (v := (1 : Int32)) hx hb dX7_isBetter_21 (by decide) ?_
      refine lv_goto (tgt := 26) hx hb dX7_isBetter_22 (by decide) ?_
      obtain ez0 := r_eq1 h
      subst ez0
      exact ret_z X hP4 hS4 rfl dX7_isBetter_26
/-! PloughMaze$Walker.chosenSide -/
abbrev rmX7_chosenSide : Room := { frames := 3, cells := 0, slots := 0, locals := 68 }
def SX7_chosenSide_74 (p : Program) (l : Launch) (e : Env) (s : State) (m : MethodId) (args : Array Value) (below : List Frame) (meth : Method) (c : Code) (G : va_G) (cI cO : ClassId) (A : Nat → Prop) (a_ a_marks a_p0 a_p0_furrow : Nat) (v_kind : Int32) (v_square : Int32) (v_side : Int32) (v_marks : Nat → Int32) (v_p0_eaten : Int64) (v_p0_closed : Int64) (v_p0_gaps : Int64) (v_p0_strawMen : Int64) (v_p0_months : Int32) (v_p0_middle : Int32) (v_p0_door : Int32) (v_p0_seenGaps : Int64) (v_p0_seenCorn : Int64) (v_p0_seenCount : Int32) (ret : Int32) (k : Int32 → Int32 → Int32 → Option (Int32)) : Prop := ∀ (x2 : Int32) (x3 : Int32) (x4 : Int32) (H : Heap) (locs : List Loc), va_P G vwCl [(a_, .inr (6, [.ref a_marks, .int v_kind, .int v_square, .int v_side])), (a_marks, .inl (cI, 36, .inl v_marks)), (a_p0, .inr (1, [.ref a_p0_furrow, .long v_p0_eaten, .long v_p0_closed, .long v_p0_gaps, .long v_p0_strawMen, .int v_p0_months, .int v_p0_middle, .int v_p0_door, .long v_p0_seenGaps, .long v_p0_seenCorn, .int v_p0_seenCount]))] H → va_D A [(a_, .inr (6, [.ref a_marks, .int v_kind, .int v_square, .int v_side])), (a_marks, .inl (cI, 36, .inl v_marks)), (a_p0, .inr (1, [.ref a_p0_furrow, .long v_p0_eaten, .long v_p0_closed, .long v_p0_gaps, .long v_p0_strawMen, .int v_p0_months, .int v_p0_middle, .int v_p0_door, .long v_p0_seenGaps, .long v_p0_seenCorn, .int v_p0_seenCount]))] → va_S A s.heap H locs → ∀ (ls : Array Slot), lv_has ls 5 [(0, .ref a_), (1, .ref a_p0), (2, .int x2), (3, .int x3), (4, .int x4)] → k x2 x3 x4 = some ret → W p l e rmX7_chosenSide s m args below meth c H locs 0 0 (MQ below (QcI G A ret [(a_, .inr (6, [.ref a_marks, .int v_kind, .int v_square, .int v_side])), (a_marks, .inl (cI, 36, .inl v_marks)), (a_p0, .inr (1, [.ref a_p0_furrow, .long v_p0_eaten, .long v_p0_closed, .long v_p0_gaps, .long v_p0_strawMen, .int v_p0_months, .int v_p0_middle, .int v_p0_door, .long v_p0_seenGaps, .long v_p0_seenCorn, .int v_p0_seenCount]))]) args s 0 0 A) (F0 m 74 ls [])
def SX7_chosenSide_72 (p : Program) (l : Launch) (e : Env) (s : State) (m : MethodId) (args : Array Value) (below : List Frame) (meth : Method) (c : Code) (G : va_G) (cI cO : ClassId) (A : Nat → Prop) (a_ a_marks a_p0 a_p0_furrow : Nat) (v_kind : Int32) (v_square : Int32) (v_side : Int32) (v_marks : Nat → Int32) (v_p0_eaten : Int64) (v_p0_closed : Int64) (v_p0_gaps : Int64) (v_p0_strawMen : Int64) (v_p0_months : Int32) (v_p0_middle : Int32) (v_p0_door : Int32) (v_p0_seenGaps : Int64) (v_p0_seenCorn : Int64) (v_p0_seenCount : Int32) (ret : Int32) (k : Int32 → Int32 → Option (Int32)) : Prop := ∀ (x2 : Int32) (x4 : Int32) (H : Heap) (locs : List Loc), va_P G vwCl [(a_, .inr (6, [.ref a_marks, .int v_kind, .int v_square, .int v_side])), (a_marks, .inl (cI, 36, .inl v_marks)), (a_p0, .inr (1, [.ref a_p0_furrow, .long v_p0_eaten, .long v_p0_closed, .long v_p0_gaps, .long v_p0_strawMen, .int v_p0_months, .int v_p0_middle, .int v_p0_door, .long v_p0_seenGaps, .long v_p0_seenCorn, .int v_p0_seenCount]))] H → va_D A [(a_, .inr (6, [.ref a_marks, .int v_kind, .int v_square, .int v_side])), (a_marks, .inl (cI, 36, .inl v_marks)), (a_p0, .inr (1, [.ref a_p0_furrow, .long v_p0_eaten, .long v_p0_closed, .long v_p0_gaps, .long v_p0_strawMen, .int v_p0_months, .int v_p0_middle, .int v_p0_door, .long v_p0_seenGaps, .long v_p0_seenCorn, .int v_p0_seenCount]))] → va_S A s.heap H locs → ∀ (ls : Array Slot), lv_has ls 5 [(0, .ref a_), (1, .ref a_p0), (2, .int x2), (4, .int x4)] → k x2 x4 = some ret → W p l e rmX7_chosenSide s m args below meth c H locs 0 0 (MQ below (QcI G A ret [(a_, .inr (6, [.ref a_marks, .int v_kind, .int v_square, .int v_side])), (a_marks, .inl (cI, 36, .inl v_marks)), (a_p0, .inr (1, [.ref a_p0_furrow, .long v_p0_eaten, .long v_p0_closed, .long v_p0_gaps, .long v_p0_strawMen, .int v_p0_months, .int v_p0_middle, .int v_p0_door, .long v_p0_seenGaps, .long v_p0_seenCorn, .int v_p0_seenCount]))]) args s 0 0 A) (F0 m 72 ls [])
def SX7_chosenSide_48 (p : Program) (l : Launch) (e : Env) (s : State) (m : MethodId) (args : Array Value) (below : List Frame) (meth : Method) (c : Code) (G : va_G) (cI cO : ClassId) (A : Nat → Prop) (a_ a_marks a_p0 a_p0_furrow : Nat) (v_kind : Int32) (v_square : Int32) (v_side : Int32) (v_marks : Nat → Int32) (v_p0_eaten : Int64) (v_p0_closed : Int64) (v_p0_gaps : Int64) (v_p0_strawMen : Int64) (v_p0_months : Int32) (v_p0_middle : Int32) (v_p0_door : Int32) (v_p0_seenGaps : Int64) (v_p0_seenCorn : Int64) (v_p0_seenCount : Int32) (ret : Int32) (k : Int32 → Int32 → Int32 → Int32 → Option (Int32)) : Prop := ∀ (x2 : Int32) (x3 : Int32) (x4 : Int32) (s1 : Int32) (H : Heap) (locs : List Loc), va_P G vwCl [(a_, .inr (6, [.ref a_marks, .int v_kind, .int v_square, .int v_side])), (a_marks, .inl (cI, 36, .inl v_marks)), (a_p0, .inr (1, [.ref a_p0_furrow, .long v_p0_eaten, .long v_p0_closed, .long v_p0_gaps, .long v_p0_strawMen, .int v_p0_months, .int v_p0_middle, .int v_p0_door, .long v_p0_seenGaps, .long v_p0_seenCorn, .int v_p0_seenCount]))] H → va_D A [(a_, .inr (6, [.ref a_marks, .int v_kind, .int v_square, .int v_side])), (a_marks, .inl (cI, 36, .inl v_marks)), (a_p0, .inr (1, [.ref a_p0_furrow, .long v_p0_eaten, .long v_p0_closed, .long v_p0_gaps, .long v_p0_strawMen, .int v_p0_months, .int v_p0_middle, .int v_p0_door, .long v_p0_seenGaps, .long v_p0_seenCorn, .int v_p0_seenCount]))] → va_S A s.heap H locs → ∀ (ls : Array Slot), lv_has ls 5 [(0, .ref a_), (1, .ref a_p0), (2, .int x2), (3, .int x3), (4, .int x4)] → k x2 x3 x4 s1 = some ret → W p l e rmX7_chosenSide s m args below meth c H locs 0 0 (MQ below (QcI G A ret [(a_, .inr (6, [.ref a_marks, .int v_kind, .int v_square, .int v_side])), (a_marks, .inl (cI, 36, .inl v_marks)), (a_p0, .inr (1, [.ref a_p0_furrow, .long v_p0_eaten, .long v_p0_closed, .long v_p0_gaps, .long v_p0_strawMen, .int v_p0_months, .int v_p0_middle, .int v_p0_door, .long v_p0_seenGaps, .long v_p0_seenCorn, .int v_p0_seenCount]))]) args s 0 0 A) (F0 m 48 ls [.int s1, .ref a_p0])
def SX7_chosenSide_28 (p : Program) (l : Launch) (e : Env) (s : State) (m : MethodId) (args : Array Value) (below : List Frame) (meth : Method) (c : Code) (G : va_G) (cI cO : ClassId) (A : Nat → Prop) (a_ a_marks a_p0 a_p0_furrow : Nat) (v_kind : Int32) (v_square : Int32) (v_side : Int32) (v_marks : Nat → Int32) (v_p0_eaten : Int64) (v_p0_closed : Int64) (v_p0_gaps : Int64) (v_p0_strawMen : Int64) (v_p0_months : Int32) (v_p0_middle : Int32) (v_p0_door : Int32) (v_p0_seenGaps : Int64) (v_p0_seenCorn : Int64) (v_p0_seenCount : Int32) (ret : Int32) (k : Int32 → Int32 → Int32 → Option (Int32)) : Prop := ∀ (x2 : Int32) (x3 : Int32) (x4 : Int32) (H : Heap) (locs : List Loc), va_P G vwCl [(a_, .inr (6, [.ref a_marks, .int v_kind, .int v_square, .int v_side])), (a_marks, .inl (cI, 36, .inl v_marks)), (a_p0, .inr (1, [.ref a_p0_furrow, .long v_p0_eaten, .long v_p0_closed, .long v_p0_gaps, .long v_p0_strawMen, .int v_p0_months, .int v_p0_middle, .int v_p0_door, .long v_p0_seenGaps, .long v_p0_seenCorn, .int v_p0_seenCount]))] H → va_D A [(a_, .inr (6, [.ref a_marks, .int v_kind, .int v_square, .int v_side])), (a_marks, .inl (cI, 36, .inl v_marks)), (a_p0, .inr (1, [.ref a_p0_furrow, .long v_p0_eaten, .long v_p0_closed, .long v_p0_gaps, .long v_p0_strawMen, .int v_p0_months, .int v_p0_middle, .int v_p0_door, .long v_p0_seenGaps, .long v_p0_seenCorn, .int v_p0_seenCount]))] → va_S A s.heap H locs → ∀ (ls : Array Slot), lv_has ls 5 [(0, .ref a_), (1, .ref a_p0), (2, .int x2), (3, .int x3), (4, .int x4)] → k x2 x3 x4 = some ret → W p l e rmX7_chosenSide s m args below meth c H locs 0 0 (MQ below (QcI G A ret [(a_, .inr (6, [.ref a_marks, .int v_kind, .int v_square, .int v_side])), (a_marks, .inl (cI, 36, .inl v_marks)), (a_p0, .inr (1, [.ref a_p0_furrow, .long v_p0_eaten, .long v_p0_closed, .long v_p0_gaps, .long v_p0_strawMen, .int v_p0_months, .int v_p0_middle, .int v_p0_door, .long v_p0_seenGaps, .long v_p0_seenCorn, .int v_p0_seenCount]))]) args s 0 0 A) (F0 m 28 ls [])
def SX7_chosenSide_21 (p : Program) (l : Launch) (e : Env) (s : State) (m : MethodId) (args : Array Value) (below : List Frame) (meth : Method) (c : Code) (G : va_G) (cI cO : ClassId) (A : Nat → Prop) (a_ a_marks a_p0 a_p0_furrow : Nat) (v_kind : Int32) (v_square : Int32) (v_side : Int32) (v_marks : Nat → Int32) (v_p0_eaten : Int64) (v_p0_closed : Int64) (v_p0_gaps : Int64) (v_p0_strawMen : Int64) (v_p0_months : Int32) (v_p0_middle : Int32) (v_p0_door : Int32) (v_p0_seenGaps : Int64) (v_p0_seenCorn : Int64) (v_p0_seenCount : Int32) (ret : Int32) (k : Int32 → Option (Int32)) : Prop := ∀ (s0 : Int32) (H : Heap) (locs : List Loc), va_P G vwCl [(a_, .inr (6, [.ref a_marks, .int v_kind, .int v_square, .int v_side])), (a_marks, .inl (cI, 36, .inl v_marks)), (a_p0, .inr (1, [.ref a_p0_furrow, .long v_p0_eaten, .long v_p0_closed, .long v_p0_gaps, .long v_p0_strawMen, .int v_p0_months, .int v_p0_middle, .int v_p0_door, .long v_p0_seenGaps, .long v_p0_seenCorn, .int v_p0_seenCount]))] H → va_D A [(a_, .inr (6, [.ref a_marks, .int v_kind, .int v_square, .int v_side])), (a_marks, .inl (cI, 36, .inl v_marks)), (a_p0, .inr (1, [.ref a_p0_furrow, .long v_p0_eaten, .long v_p0_closed, .long v_p0_gaps, .long v_p0_strawMen, .int v_p0_months, .int v_p0_middle, .int v_p0_door, .long v_p0_seenGaps, .long v_p0_seenCorn, .int v_p0_seenCount]))] → va_S A s.heap H locs → ∀ (ls : Array Slot), lv_has ls 5 [(0, .ref a_), (1, .ref a_p0)] → k s0 = some ret → W p l e rmX7_chosenSide s m args below meth c H locs 0 0 (MQ below (QcI G A ret [(a_, .inr (6, [.ref a_marks, .int v_kind, .int v_square, .int v_side])), (a_marks, .inl (cI, 36, .inl v_marks)), (a_p0, .inr (1, [.ref a_p0_furrow, .long v_p0_eaten, .long v_p0_closed, .long v_p0_gaps, .long v_p0_strawMen, .int v_p0_months, .int v_p0_middle, .int v_p0_door, .long v_p0_seenGaps, .long v_p0_seenCorn, .int v_p0_seenCount]))]) args s 0 0 A) (F0 m 21 ls [.int s0])
set_option maxHeartbeats 4000000 in
set_option maxRecDepth 100000 in
theorem bX7_chosenSide_74 {p : Program} {l : Launch} {e : Env} {s : State} {m : MethodId} {args : Array Value} {below : List Frame} {meth : Method} {c : Code} {G : va_G} {cI cO : ClassId} {A : Nat → Prop} {a_ a_marks a_p0 a_p0_furrow : Nat} {v_kind : Int32} {v_square : Int32} {v_side : Int32} {v_marks : Nat → Int32} {v_p0_eaten : Int64} {v_p0_closed : Int64} {v_p0_gaps : Int64} {v_p0_strawMen : Int64} {v_p0_months : Int32} {v_p0_middle : Int32} {v_p0_door : Int32} {v_p0_seenGaps : Int64} {v_p0_seenCorn : Int64} {v_p0_seenCount : Int32} {ret : Int32} (X : BX p rmX7_chosenSide s m args meth c cX7_chosenSide 5 (some .int) RX7 G cI cO A) {k_28 : Int32 → Int32 → Int32 → Option (Int32)} (hk_28 : SX7_chosenSide_28 p l e s m args below meth c G cI cO A a_ a_marks a_p0 a_p0_furrow v_kind v_square v_side v_marks v_p0_eaten v_p0_closed v_p0_gaps v_p0_strawMen v_p0_months v_p0_middle v_p0_door v_p0_seenGaps v_p0_seenCorn v_p0_seenCount ret k_28) : SX7_chosenSide_74 p l e s m args below meth c G cI cO A a_ a_marks a_p0 a_p0_furrow v_kind v_square v_side v_marks v_p0_eaten v_p0_closed v_p0_gaps v_p0_strawMen v_p0_months v_p0_middle v_p0_door v_p0_seenGaps v_p0_seenCorn v_p0_seenCount ret (fX7_chosenSide_74 k_28) := by
  intro x2 x3 x4 H0 locs0 hP0 hD0 hS0 ls0 hl0 h
  unfold fX7_chosenSide_74 at h
  obtain ⟨hx, hb, hml, hr, hown, hts, hlocks, hK, hN, hA, hZ⟩ := id X
  refine lv_iload_n hx hb dX7_chosenSide_74 rfl (lv_at hl0 2 rfl) ?_
  replace h := g_ob1 h
  obtain ⟨r1, hf1, h⟩ := h
  refine cal_i (wc := []) (w1 := []) (wn := [(a_, .inr (6, [.ref a_marks, .int v_kind, .int v_square, .int v_side])), (a_marks, .inl (cI, 36, .inl v_marks)), (a_p0, .inr (1, [.ref a_p0_furrow, .long v_p0_eaten, .long v_p0_closed, .long v_p0_gaps, .long v_p0_strawMen, .int v_p0_months, .int v_p0_middle, .int v_p0_door, .long v_p0_seenGaps, .long v_p0_seenCorn, .int v_p0_seenCount]))]) X hP0 hD0 hS0 [] rfl rfl rfl rfl (run_S (As := [.int x2]) (rest := []) X hP0 hD0 hS0 [] rfl rfl (mX3_rightOf l G cI cO   H0.size  x2 hf1) ms_X3_rightOf ml_X7_49 ⟨Nat.le_of_ble_eq_true rfl, Nat.le_of_ble_eq_true rfl⟩ rfl rfl rfl hl0.1 rfl (Nat.le_of_ble_eq_true rfl) ⟨Nat.zero_le _, Nat.zero_le _⟩ dX7_chosenSide_75) (fun H2 locs2 hP2 hD2 hS2 => ?_)
  clear hf1
  refine lv_istore_n (lv' := [(2, .int r1), (0, .ref a_), (1, .ref a_p0), (3, .int x3), (4, .int x4)]) hx hb dX7_chosenSide_78 rfl hl0 (by decide) rfl (fun ls3 hl3 => ?_)
  refine lv_iinc (v := (x4 + (1 : Int32))) (lv' := [(4, .int (x4 + (1 : Int32))), (2, .int r1), (0, .ref a_), (1, .ref a_p0), (3, .int x3)]) hx hb dX7_chosenSide_79 hl3 (k := 4) rfl (congrArg (fun z => x4 + z) (by decide : Int32.ofInt (1) = (1 : Int32))) (by decide) rfl (fun ls4 hl4 => ?_)
  refine lv_goto (tgt := 28) hx hb dX7_chosenSide_82 (by decide) ?_
  exact hk_28 r1 x3 ((x4 + (1 : Int32))) H2 locs2 hP2 hD2 hS2 ls4 (lv_sub hl4 [2, 3, 1, 4, 0] rfl) h
set_option maxHeartbeats 4000000 in
set_option maxRecDepth 100000 in
theorem bX7_chosenSide_72 {p : Program} {l : Launch} {e : Env} {s : State} {m : MethodId} {args : Array Value} {below : List Frame} {meth : Method} {c : Code} {G : va_G} {cI cO : ClassId} {A : Nat → Prop} {a_ a_marks a_p0 a_p0_furrow : Nat} {v_kind : Int32} {v_square : Int32} {v_side : Int32} {v_marks : Nat → Int32} {v_p0_eaten : Int64} {v_p0_closed : Int64} {v_p0_gaps : Int64} {v_p0_strawMen : Int64} {v_p0_months : Int32} {v_p0_middle : Int32} {v_p0_door : Int32} {v_p0_seenGaps : Int64} {v_p0_seenCorn : Int64} {v_p0_seenCount : Int32} {ret : Int32} (X : BX p rmX7_chosenSide s m args meth c cX7_chosenSide 5 (some .int) RX7 G cI cO A) {k_28 : Int32 → Int32 → Int32 → Option (Int32)} (hk_28 : SX7_chosenSide_28 p l e s m args below meth c G cI cO A a_ a_marks a_p0 a_p0_furrow v_kind v_square v_side v_marks v_p0_eaten v_p0_closed v_p0_gaps v_p0_strawMen v_p0_months v_p0_middle v_p0_door v_p0_seenGaps v_p0_seenCorn v_p0_seenCount ret k_28) : SX7_chosenSide_72 p l e s m args below meth c G cI cO A a_ a_marks a_p0 a_p0_furrow v_kind v_square v_side v_marks v_p0_eaten v_p0_closed v_p0_gaps v_p0_strawMen v_p0_months v_p0_middle v_p0_door v_p0_seenGaps v_p0_seenCorn v_p0_seenCount ret (fX7_chosenSide_72 k_28) := by
  intro x2 x4 H0 locs0 hP0 hD0 hS0 ls0 hl0 h
  unfold fX7_chosenSide_72 at h
  obtain ⟨hx, hb, hml, hr, hown, hts, hlocks, hK, hN, hA, hZ⟩ := id X
  refine lv_iload_n hx hb dX7_chosenSide_72 rfl (lv_at hl0 2 rfl) ?_
  refine lv_istore_n (lv' := [(3, .int x2), (0, .ref a_), (1, .ref a_p0), (2, .int x2), (4, .int x4)]) hx hb dX7_chosenSide_73 rfl hl0 (by decide) rfl (fun ls1 hl1 => ?_)
  exact bX7_chosenSide_74 X hk_28 x2 x2 x4 H0 locs0 hP0 hD0 hS0 ls1 (lv_sub hl1 [1, 2, 3, 0, 4] rfl) h
set_option maxHeartbeats 4000000 in
set_option maxRecDepth 100000 in
theorem bX7_chosenSide_48 {p : Program} {l : Launch} {e : Env} {s : State} {m : MethodId} {args : Array Value} {below : List Frame} {meth : Method} {c : Code} {G : va_G} {cI cO : ClassId} {A : Nat → Prop} {a_ a_marks a_p0 a_p0_furrow : Nat} {v_kind : Int32} {v_square : Int32} {v_side : Int32} {v_marks : Nat → Int32} {v_p0_eaten : Int64} {v_p0_closed : Int64} {v_p0_gaps : Int64} {v_p0_strawMen : Int64} {v_p0_months : Int32} {v_p0_middle : Int32} {v_p0_door : Int32} {v_p0_seenGaps : Int64} {v_p0_seenCorn : Int64} {v_p0_seenCount : Int32} {ret : Int32} (X : BX p rmX7_chosenSide s m args meth c cX7_chosenSide 5 (some .int) RX7 G cI cO A) {k_28 : Int32 → Int32 → Int32 → Option (Int32)} (hk_28 : SX7_chosenSide_28 p l e s m args below meth c G cI cO A a_ a_marks a_p0 a_p0_furrow v_kind v_square v_side v_marks v_p0_eaten v_p0_closed v_p0_gaps v_p0_strawMen v_p0_months v_p0_middle v_p0_door v_p0_seenGaps v_p0_seenCorn v_p0_seenCount ret k_28) : SX7_chosenSide_48 p l e s m args below meth c G cI cO A a_ a_marks a_p0 a_p0_furrow v_kind v_square v_side v_marks v_p0_eaten v_p0_closed v_p0_gaps v_p0_strawMen v_p0_months v_p0_middle v_p0_door v_p0_seenGaps v_p0_seenCorn v_p0_seenCount ret (fX7_chosenSide_48 k_28 v_marks v_kind v_square v_p0_gaps v_p0_strawMen v_p0_months) := by
  intro x2 x3 x4 s1 H0 locs0 hP0 hD0 hS0 ls0 hl0 h
  unfold fX7_chosenSide_48 at h
  obtain ⟨hx, hb, hml, hr, hown, hts, hlocks, hK, hN, hA, hZ⟩ := id X
  refine lv_aload_n hx hb dX7_chosenSide_48 rfl (lv_at hl0 0 rfl) ?_
  refine va_get (D := G) (ci := 6) (v := .int v_square) (C := RX7) (T := TX7) (N := 4) hx hb hts gwX7 hown hK hP0 0 rfl rfl 2 (by decide) (hts _ fl_X7_19) (fun _ h9 => h9) rfl dX7_chosenSide_49 ?_
  refine lv_iload_n hx hb dX7_chosenSide_52 rfl (lv_at hl0 2 rfl) ?_
  replace h := g_ob1 h
  obtain ⟨r1, hf1, h⟩ := h
  refine cal_i (wc := [(a_p0, .inr (1, [.ref a_p0_furrow, .long v_p0_eaten, .long v_p0_closed, .long v_p0_gaps, .long v_p0_strawMen, .int v_p0_months, .int v_p0_middle, .int v_p0_door, .long v_p0_seenGaps, .long v_p0_seenCorn, .int v_p0_seenCount]))]) (w1 := [(a_p0, .inr (1, [.ref a_p0_furrow, .long v_p0_eaten, .long v_p0_closed, .long v_p0_gaps, .long v_p0_strawMen, .int v_p0_months, .int v_p0_middle, .int v_p0_door, .long v_p0_seenGaps, .long v_p0_seenCorn, .int v_p0_seenCount]))]) (wn := [(a_, .inr (6, [.ref a_marks, .int v_kind, .int v_square, .int v_side])), (a_marks, .inl (cI, 36, .inl v_marks)), (a_p0, .inr (1, [.ref a_p0_furrow, .long v_p0_eaten, .long v_p0_closed, .long v_p0_gaps, .long v_p0_strawMen, .int v_p0_months, .int v_p0_middle, .int v_p0_door, .long v_p0_seenGaps, .long v_p0_seenCorn, .int v_p0_seenCount]))]) X hP0 hD0 hS0 [2] rfl rfl rfl rfl (run_V (As := [.int s1, .int v_square, .int x2]) (rest := []) X hP0 hD0 hS0 [2] rfl rfl (mX1_isPassable l G cI cO a_p0 a_p0_furrow  H0.size v_p0_eaten v_p0_closed v_p0_gaps v_p0_strawMen v_p0_months v_p0_middle v_p0_door v_p0_seenGaps v_p0_seenCorn v_p0_seenCount s1 v_square x2 hf1) mv_X1_isPassable ml_X7_39 ⟨Nat.le_of_ble_eq_true rfl, Nat.le_of_ble_eq_true rfl⟩ rfl rfl 2 1 rfl rfl rfl rfl hl0.1 rfl (Nat.le_of_ble_eq_true rfl) ⟨Nat.zero_le _, Nat.zero_le _⟩ dX7_chosenSide_53) (fun H2 locs2 hP2 hD2 hS2 => ?_)
  clear hf1
  refine lv_if_eq (tgt := 74) hx hb dX7_chosenSide_56 (by decide) (fun hc => ?_) (fun hc => ?_)
  · replace h := t_pos h hc
    clear hc
    exact bX7_chosenSide_74 X hk_28 x2 x3 x4 H2 locs2 hP2 hD2 hS2 ls0 (lv_sub hl0 [0, 1, 2, 3, 4] rfl) h
  · replace h := t_neg h hc
    clear hc
    refine lv_iload_n hx hb dX7_chosenSide_59 rfl (lv_at hl0 3 rfl) ?_
    refine lv_if_lt (tgt := 72) hx hb dX7_chosenSide_60 (by decide) (fun hc => ?_) (fun hc => ?_)
    · replace h := t_pos h hc
      clear hc
      exact bX7_chosenSide_72 X hk_28 x2 x4 H2 locs2 hP2 hD2 hS2 ls0 (lv_sub hl0 [0, 1, 2, 4] rfl) h
    · replace h := t_neg h hc
      clear hc
      refine lv_aload_n hx hb dX7_chosenSide_63 rfl (lv_at hl0 0 rfl) ?_
      refine lv_iload_n hx hb dX7_chosenSide_64 rfl (lv_at hl0 2 rfl) ?_
      refine lv_iload_n hx hb dX7_chosenSide_65 rfl (lv_at hl0 3 rfl) ?_
      replace h := g_ob1 h
      obtain ⟨r3, hf3, h⟩ := h
      refine cal_i (wc := [(a_, .inr (6, [.ref a_marks, .int v_kind, .int v_square, .int v_side])), (a_marks, .inl (cI, 36, .inl v_marks))]) (w1 := [(a_, .inr (6, [.ref a_marks, .int v_kind, .int v_square, .int v_side])), (a_marks, .inl (cI, 36, .inl v_marks))]) (wn := [(a_, .inr (6, [.ref a_marks, .int v_kind, .int v_square, .int v_side])), (a_marks, .inl (cI, 36, .inl v_marks)), (a_p0, .inr (1, [.ref a_p0_furrow, .long v_p0_eaten, .long v_p0_closed, .long v_p0_gaps, .long v_p0_strawMen, .int v_p0_months, .int v_p0_middle, .int v_p0_door, .long v_p0_seenGaps, .long v_p0_seenCorn, .int v_p0_seenCount]))]) X hP2 hD2 hS2 [0, 1] rfl rfl rfl rfl (run_V (As := [.int x2, .int x3]) (rest := []) X hP2 hD2 hS2 [0, 1] rfl rfl (mX7_isBetter l G cI cO a_ a_marks  H2.size v_kind v_square v_side v_marks x2 x3 hf3) mv_X7_isBetter ml_X7_45 ⟨Nat.le_of_ble_eq_true rfl, Nat.le_of_ble_eq_true rfl⟩ rfl rfl 0 6 rfl rfl rfl rfl hl0.1 rfl (Nat.le_of_ble_eq_true rfl) ⟨Nat.zero_le _, Nat.zero_le _⟩ dX7_chosenSide_66) (fun H4 locs4 hP4 hD4 hS4 => ?_)
      clear hf3 hP2 hD2 hS2
      refine lv_if_eq (tgt := 74) hx hb dX7_chosenSide_69 (by decide) (fun hc => ?_) (fun hc => ?_)
      · replace h := t_pos h hc
        clear hc
        exact bX7_chosenSide_74 X hk_28 x2 x3 x4 H4 locs4 hP4 hD4 hS4 ls0 (lv_sub hl0 [0, 1, 2, 3, 4] rfl) h
      · replace h := t_neg h hc
        clear hc
        exact bX7_chosenSide_72 X hk_28 x2 x4 H4 locs4 hP4 hD4 hS4 ls0 (lv_sub hl0 [0, 1, 2, 4] rfl) h
set_option maxHeartbeats 4000000 in
set_option maxRecDepth 100000 in
theorem bX7_chosenSide_28 {p : Program} {l : Launch} {e : Env} {s : State} {m : MethodId} {args : Array Value} {below : List Frame} {meth : Method} {c : Code} {G : va_G} {cI cO : ClassId} {A : Nat → Prop} {a_ a_marks a_p0 a_p0_furrow : Nat} {v_kind : Int32} {v_square : Int32} {v_side : Int32} {v_marks : Nat → Int32} {v_p0_eaten : Int64} {v_p0_closed : Int64} {v_p0_gaps : Int64} {v_p0_strawMen : Int64} {v_p0_months : Int32} {v_p0_middle : Int32} {v_p0_door : Int32} {v_p0_seenGaps : Int64} {v_p0_seenCorn : Int64} {v_p0_seenCount : Int32} {ret : Int32} (X : BX p rmX7_chosenSide s m args meth c cX7_chosenSide 5 (some .int) RX7 G cI cO A) : ∀ n : Nat, SX7_chosenSide_28 p l e s m args below meth c G cI cO A a_ a_marks a_p0 a_p0_furrow v_kind v_square v_side v_marks v_p0_eaten v_p0_closed v_p0_gaps v_p0_strawMen v_p0_months v_p0_middle v_p0_door v_p0_seenGaps v_p0_seenCorn v_p0_seenCount ret (fX7_chosenSide_28 v_marks v_kind v_square v_p0_gaps v_p0_strawMen v_p0_months n) := by
  intro n
  induction n with
  | zero => intro x2 x3 x4 H0 locs0 hP0 hD0 hS0 ls0 hl0 h; exact absurd h (by simp [fX7_chosenSide_28])
  | succ n ih =>
    intro x2 x3 x4 H0 locs0 hP0 hD0 hS0 ls0 hl0 h
    rw [fX7_chosenSide_28] at h
    obtain ⟨hx, hb, hml, hr, hown, hts, hlocks, hK, hN, hA, hZ⟩ := id X
    refine lv_iload hx hb dX7_chosenSide_28 (lv_at hl0 4 rfl) ?_
    refine lv_iconst (v := (4 : Int32)) hx hb dX7_chosenSide_30 (by decide) ?_
    refine lv_icmp_ge (tgt := 85) hx hb dX7_chosenSide_31 (by decide) (fun hc => ?_) (fun hc => ?_)
    · replace h := t_pos h hc
      clear hc
      refine lv_iload_n hx hb dX7_chosenSide_85 rfl (lv_at hl0 3 rfl) ?_
      obtain ez0 := r_eq1 h
      subst ez0
      exact ret_i X hP0 hS0 dX7_chosenSide_86
    · replace h := t_neg h hc
      clear hc
      refine lv_aload_n hx hb dX7_chosenSide_34 rfl (lv_at hl0 1 rfl) ?_
      refine lv_aload_n hx hb dX7_chosenSide_35 rfl (lv_at hl0 0 rfl) ?_
      refine va_get (D := G) (ci := 6) (v := .int v_kind) (C := RX7) (T := TX7) (N := 4) hx hb hts gwX7 hown hK hP0 0 rfl rfl 1 (by decide) (hts _ fl_X7_15) (fun _ h9 => h9) rfl dX7_chosenSide_36 ?_
      refine lv_iconst (v := (3 : Int32)) hx hb dX7_chosenSide_39 (by decide) ?_
      refine lv_icmp_ne (tgt := 47) hx hb dX7_chosenSide_40 (by decide) (fun hc => ?_) (fun hc => ?_)
      · replace h := t_neg h hc
        clear hc
        refine lv_iconst (v := (0 : Int32)) hx hb dX7_chosenSide_47 (by decide) ?_
        exact bX7_chosenSide_48 X ih x2 x3 x4 (0 : Int32) H0 locs0 hP0 hD0 hS0 ls0 (lv_sub hl0 [0, 1, 2, 3, 4] rfl) h
      · replace h := t_pos h hc
        clear hc
        refine lv_iconst (v := (1 : Int32)) hx hb dX7_chosenSide_43 (by decide) ?_
        refine lv_goto (tgt := 48) hx hb dX7_chosenSide_44 (by decide) ?_
        exact bX7_chosenSide_48 X ih x2 x3 x4 (1 : Int32) H0 locs0 hP0 hD0 hS0 ls0 (lv_sub hl0 [0, 1, 2, 3, 4] rfl) h
set_option maxHeartbeats 4000000 in
set_option maxRecDepth 100000 in
theorem bX7_chosenSide_21 {p : Program} {l : Launch} {e : Env} {s : State} {m : MethodId} {args : Array Value} {below : List Frame} {meth : Method} {c : Code} {G : va_G} {cI cO : ClassId} {A : Nat → Prop} {a_ a_marks a_p0 a_p0_furrow : Nat} {v_kind : Int32} {v_square : Int32} {v_side : Int32} {v_marks : Nat → Int32} {v_p0_eaten : Int64} {v_p0_closed : Int64} {v_p0_gaps : Int64} {v_p0_strawMen : Int64} {v_p0_months : Int32} {v_p0_middle : Int32} {v_p0_door : Int32} {v_p0_seenGaps : Int64} {v_p0_seenCorn : Int64} {v_p0_seenCount : Int32} {ret : Int32} (X : BX p rmX7_chosenSide s m args meth c cX7_chosenSide 5 (some .int) RX7 G cI cO A) : SX7_chosenSide_21 p l e s m args below meth c G cI cO A a_ a_marks a_p0 a_p0_furrow v_kind v_square v_side v_marks v_p0_eaten v_p0_closed v_p0_gaps v_p0_strawMen v_p0_months v_p0_middle v_p0_door v_p0_seenGaps v_p0_seenCorn v_p0_seenCount ret (fX7_chosenSide_21 v_marks v_kind v_square v_p0_gaps v_p0_strawMen v_p0_months) := by
  intro s0 H0 locs0 hP0 hD0 hS0 ls0 hl0 h
  unfold fX7_chosenSide_21 at h
  obtain ⟨hx, hb, hml, hr, hown, hts, hlocks, hK, hN, hA, hZ⟩ := id X
  refine lv_istore_n (lv' := [(2, .int s0), (0, .ref a_), (1, .ref a_p0)]) hx hb dX7_chosenSide_21 rfl hl0 (by decide) rfl (fun ls1 hl1 => ?_)
  refine lv_bipush (v := (-4 : Int32)) hx hb dX7_chosenSide_22 (by decide) ?_
  refine lv_istore_n (lv' := [(3, .int (-4 : Int32)), (2, .int s0), (0, .ref a_), (1, .ref a_p0)]) hx hb dX7_chosenSide_24 rfl hl1 (by decide) rfl (fun ls2 hl2 => ?_)
  clear hl1
  refine lv_iconst (v := (0 : Int32)) hx hb dX7_chosenSide_25 (by decide) ?_
  refine lv_istore (lv' := [(4, .int (0 : Int32)), (3, .int (-4 : Int32)), (2, .int s0), (0, .ref a_), (1, .ref a_p0)]) hx hb dX7_chosenSide_26 hl2 (by decide) rfl (fun ls3 hl3 => ?_)
  clear hl2
  exact bX7_chosenSide_28 X 4000 s0 (-4 : Int32) (0 : Int32) H0 locs0 hP0 hD0 hS0 ls3 (lv_sub hl3 [3, 4, 2, 1, 0] rfl) h
set_option maxHeartbeats 4000000 in
set_option maxRecDepth 100000 in
theorem mX7_chosenSide (l : Launch) (G : va_G) (cI cO : ClassId) (a_ a_marks a_p0 a_p0_furrow : Nat) (sz : Nat) (v_kind : Int32) (v_square : Int32) (v_side : Int32) (v_marks : Nat → Int32) (v_p0_eaten : Int64) (v_p0_closed : Int64) (v_p0_gaps : Int64) (v_p0_strawMen : Int64) (v_p0_months : Int32) (v_p0_middle : Int32) (v_p0_door : Int32) (v_p0_seenGaps : Int64) (v_p0_seenCorn : Int64) (v_p0_seenCount : Int32)  {ret : Int32} (h : fX7_chosenSide v_marks v_kind v_square v_side v_p0_gaps v_p0_strawMen v_p0_months = some ret) : Met l yX7_chosenSide (wsM yX7_chosenSide cX7_chosenSide 5 (some .int)) rmX7_chosenSide (va_Pc [.ref a_, .ref a_p0] (preW G cI cO sz [(a_, .inr (6, [.ref a_marks, .int v_kind, .int v_square, .int v_side])), (a_marks, .inl (cI, 36, .inl v_marks)), (a_p0, .inr (1, [.ref a_p0_furrow, .long v_p0_eaten, .long v_p0_closed, .long v_p0_gaps, .long v_p0_strawMen, .int v_p0_months, .int v_p0_middle, .int v_p0_door, .long v_p0_seenGaps, .long v_p0_seenCorn, .int v_p0_seenCount]))])) (QcI G (va_A [(a_, .inr (6, [.ref a_marks, .int v_kind, .int v_square, .int v_side])), (a_marks, .inl (cI, 36, .inl v_marks)), (a_p0, .inr (1, [.ref a_p0_furrow, .long v_p0_eaten, .long v_p0_closed, .long v_p0_gaps, .long v_p0_strawMen, .int v_p0_months, .int v_p0_middle, .int v_p0_door, .long v_p0_seenGaps, .long v_p0_seenCorn, .int v_p0_seenCount]))] sz) ret [(a_, .inr (6, [.ref a_marks, .int v_kind, .int v_square, .int v_side])), (a_marks, .inl (cI, 36, .inl v_marks)), (a_p0, .inr (1, [.ref a_p0_furrow, .long v_p0_eaten, .long v_p0_closed, .long v_p0_gaps, .long v_p0_strawMen, .int v_p0_months, .int v_p0_middle, .int v_p0_door, .long v_p0_seenGaps, .long v_p0_seenCorn, .int v_p0_seenCount]))]) 0 0 (va_A [(a_, .inr (6, [.ref a_marks, .int v_kind, .int v_square, .int v_side])), (a_marks, .inl (cI, 36, .inl v_marks)), (a_p0, .inr (1, [.ref a_p0_furrow, .long v_p0_eaten, .long v_p0_closed, .long v_p0_gaps, .long v_p0_strawMen, .int v_p0_months, .int v_p0_middle, .int v_p0_door, .long v_p0_seenGaps, .long v_p0_seenCorn, .int v_p0_seenCount]))] sz) := by
  refine mkMet (own := RX7) (by decide) rfl (Nat.le_of_ble_eq_true rfl) ?_
  intro p e s m args below meth c _ hsz _ X hP0 hD0 ls0 hl0
  have hS0 : va_S (va_A [(a_, .inr (6, [.ref a_marks, .int v_kind, .int v_square, .int v_side])), (a_marks, .inl (cI, 36, .inl v_marks)), (a_p0, .inr (1, [.ref a_p0_furrow, .long v_p0_eaten, .long v_p0_closed, .long v_p0_gaps, .long v_p0_strawMen, .int v_p0_months, .int v_p0_middle, .int v_p0_door, .long v_p0_seenGaps, .long v_p0_seenCorn, .int v_p0_seenCount]))] sz) s.heap s.heap [] := va_S.rf
  replace hl0 : lv_has ls0 5 [(0, .ref a_), (1, .ref a_p0)] := hl0
  generalize va_A [(a_, .inr (6, [.ref a_marks, .int v_kind, .int v_square, .int v_side])), (a_marks, .inl (cI, 36, .inl v_marks)), (a_p0, .inr (1, [.ref a_p0_furrow, .long v_p0_eaten, .long v_p0_closed, .long v_p0_gaps, .long v_p0_strawMen, .int v_p0_months, .int v_p0_middle, .int v_p0_door, .long v_p0_seenGaps, .long v_p0_seenCorn, .int v_p0_seenCount]))] sz = A at X hD0 hS0 ⊢
  unfold fX7_chosenSide at h
  obtain ⟨hx, hb, hml, hr, hown, hts, hlocks, hK, hN, hA, hZ⟩ := id X
  refine lv_aload_n hx hb dX7_chosenSide_0 rfl (lv_at hl0 0 rfl) ?_
  refine va_get (D := G) (ci := 6) (v := .int v_kind) (C := RX7) (T := TX7) (N := 4) hx hb hts gwX7 hown hK hP0 0 rfl rfl 1 (by decide) (hts _ fl_X7_15) (fun _ h9 => h9) rfl dX7_chosenSide_1 ?_
  refine lv_if_ne (tgt := 14) hx hb dX7_chosenSide_4 (by decide) (fun hc => ?_) (fun hc => ?_)
  · replace h := t_neg h hc
    clear hc
    refine lv_aload_n hx hb dX7_chosenSide_14 rfl (lv_at hl0 0 rfl) ?_
    refine va_get (D := G) (ci := 6) (v := .int v_side) (C := RX7) (T := TX7) (N := 4) hx hb hts gwX7 hown hK hP0 0 rfl rfl 3 (by decide) (hts _ fl_X7_22) (fun _ h9 => h9) rfl dX7_chosenSide_15 ?_
    replace h := g_ob1 h
    obtain ⟨r1, hf1, h⟩ := h
    refine cal_i (wc := []) (w1 := []) (wn := [(a_, .inr (6, [.ref a_marks, .int v_kind, .int v_square, .int v_side])), (a_marks, .inl (cI, 36, .inl v_marks)), (a_p0, .inr (1, [.ref a_p0_furrow, .long v_p0_eaten, .long v_p0_closed, .long v_p0_gaps, .long v_p0_strawMen, .int v_p0_months, .int v_p0_middle, .int v_p0_door, .long v_p0_seenGaps, .long v_p0_seenCorn, .int v_p0_seenCount]))]) X hP0 hD0 hS0 [] rfl rfl rfl rfl (run_S (As := [.int v_side]) (rest := []) X hP0 hD0 hS0 [] rfl rfl (mX3_leftOf l G cI cO   s.heap.size  v_side hf1) ms_X3_leftOf ml_X7_35 ⟨Nat.le_of_ble_eq_true rfl, Nat.le_of_ble_eq_true rfl⟩ rfl rfl rfl hl0.1 rfl (Nat.le_of_ble_eq_true rfl) ⟨Nat.zero_le _, Nat.zero_le _⟩ dX7_chosenSide_18) (fun H2 locs2 hP2 hD2 hS2 => ?_)
    clear hf1
    exact bX7_chosenSide_21 X r1 H2 locs2 hP2 hD2 hS2 ls0 (lv_sub hl0 [0, 1] rfl) h
  · replace h := t_pos h hc
    clear hc
    refine lv_aload_n hx hb dX7_chosenSide_7 rfl (lv_at hl0 0 rfl) ?_
    refine va_get (D := G) (ci := 6) (v := .int v_side) (C := RX7) (T := TX7) (N := 4) hx hb hts gwX7 hown hK hP0 0 rfl rfl 3 (by decide) (hts _ fl_X7_22) (fun _ h9 => h9) rfl dX7_chosenSide_8 ?_
    refine lv_goto (tgt := 21) hx hb dX7_chosenSide_11 (by decide) ?_
    exact bX7_chosenSide_21 X v_side s.heap [] hP0 hD0 hS0 ls0 (lv_sub hl0 [0, 1] rfl) h
/-! PloughMaze$Walker.step -/
abbrev rmX7_step : Room := { frames := 4, cells := 0, slots := 0, locals := 92 }
set_option maxHeartbeats 4000000 in
set_option maxRecDepth 100000 in
theorem mX7_step (l : Launch) (G : va_G) (cI cO : ClassId) (a_ a_marks a_p0 a_p0_furrow : Nat) (sz : Nat) (v_kind : Int32) (v_square : Int32) (v_side : Int32) (v_marks : Nat → Int32) (v_p0_eaten : Int64) (v_p0_closed : Int64) (v_p0_gaps : Int64) (v_p0_strawMen : Int64) (v_p0_months : Int32) (v_p0_middle : Int32) (v_p0_door : Int32) (v_p0_seenGaps : Int64) (v_p0_seenCorn : Int64) (v_p0_seenCount : Int32)  {o_marks : Nat → Int32} {o_square : Int32} {o_side : Int32} (h : fX7_step v_marks v_kind v_square v_side v_p0_gaps v_p0_strawMen v_p0_months = some (o_marks, o_square, o_side)) : Met l yX7_step (wsM yX7_step cX7_step 4 none) rmX7_step (va_Pc [.ref a_, .ref a_p0] (preW G cI cO sz [(a_, .inr (6, [.ref a_marks, .int v_kind, .int v_square, .int v_side])), (a_marks, .inl (cI, 36, .inl v_marks)), (a_p0, .inr (1, [.ref a_p0_furrow, .long v_p0_eaten, .long v_p0_closed, .long v_p0_gaps, .long v_p0_strawMen, .int v_p0_months, .int v_p0_middle, .int v_p0_door, .long v_p0_seenGaps, .long v_p0_seenCorn, .int v_p0_seenCount]))])) (QcV G (va_A [(a_, .inr (6, [.ref a_marks, .int v_kind, .int v_square, .int v_side])), (a_marks, .inl (cI, 36, .inl v_marks)), (a_p0, .inr (1, [.ref a_p0_furrow, .long v_p0_eaten, .long v_p0_closed, .long v_p0_gaps, .long v_p0_strawMen, .int v_p0_months, .int v_p0_middle, .int v_p0_door, .long v_p0_seenGaps, .long v_p0_seenCorn, .int v_p0_seenCount]))] sz) [(a_, .inr (6, [.ref a_marks, .int v_kind, .int o_square, .int o_side])), (a_marks, .inl (cI, 36, .inl o_marks)), (a_p0, .inr (1, [.ref a_p0_furrow, .long v_p0_eaten, .long v_p0_closed, .long v_p0_gaps, .long v_p0_strawMen, .int v_p0_months, .int v_p0_middle, .int v_p0_door, .long v_p0_seenGaps, .long v_p0_seenCorn, .int v_p0_seenCount]))]) 0 0 (va_A [(a_, .inr (6, [.ref a_marks, .int v_kind, .int v_square, .int v_side])), (a_marks, .inl (cI, 36, .inl v_marks)), (a_p0, .inr (1, [.ref a_p0_furrow, .long v_p0_eaten, .long v_p0_closed, .long v_p0_gaps, .long v_p0_strawMen, .int v_p0_months, .int v_p0_middle, .int v_p0_door, .long v_p0_seenGaps, .long v_p0_seenCorn, .int v_p0_seenCount]))] sz) := by
  refine mkMet (own := RX7) (by decide) rfl (Nat.le_of_ble_eq_true rfl) ?_
  intro p e s m args below meth c _ hsz _ X hP0 hD0 ls0 hl0
  have hS0 : va_S (va_A [(a_, .inr (6, [.ref a_marks, .int v_kind, .int v_square, .int v_side])), (a_marks, .inl (cI, 36, .inl v_marks)), (a_p0, .inr (1, [.ref a_p0_furrow, .long v_p0_eaten, .long v_p0_closed, .long v_p0_gaps, .long v_p0_strawMen, .int v_p0_months, .int v_p0_middle, .int v_p0_door, .long v_p0_seenGaps, .long v_p0_seenCorn, .int v_p0_seenCount]))] sz) s.heap s.heap [] := va_S.rf
  replace hl0 : lv_has ls0 4 [(0, .ref a_), (1, .ref a_p0)] := hl0
  generalize va_A [(a_, .inr (6, [.ref a_marks, .int v_kind, .int v_square, .int v_side])), (a_marks, .inl (cI, 36, .inl v_marks)), (a_p0, .inr (1, [.ref a_p0_furrow, .long v_p0_eaten, .long v_p0_closed, .long v_p0_gaps, .long v_p0_strawMen, .int v_p0_months, .int v_p0_middle, .int v_p0_door, .long v_p0_seenGaps, .long v_p0_seenCorn, .int v_p0_seenCount]))] sz = A at X hD0 hS0 ⊢
  unfold fX7_step at h
  obtain ⟨hx, hb, hml, hr, hown, hts, hlocks, hK, hN, hA, hZ⟩ := id X
  refine lv_aload_n hx hb dX7_step_0 rfl (lv_at hl0 0 rfl) ?_
  refine lv_aload_n hx hb dX7_step_1 rfl (lv_at hl0 1 rfl) ?_
  replace h := g_ob1 h
  obtain ⟨r1, hf1, h⟩ := h
  refine cal_i (wc := [(a_, .inr (6, [.ref a_marks, .int v_kind, .int v_square, .int v_side])), (a_marks, .inl (cI, 36, .inl v_marks)), (a_p0, .inr (1, [.ref a_p0_furrow, .long v_p0_eaten, .long v_p0_closed, .long v_p0_gaps, .long v_p0_strawMen, .int v_p0_months, .int v_p0_middle, .int v_p0_door, .long v_p0_seenGaps, .long v_p0_seenCorn, .int v_p0_seenCount]))]) (w1 := [(a_, .inr (6, [.ref a_marks, .int v_kind, .int v_square, .int v_side])), (a_marks, .inl (cI, 36, .inl v_marks)), (a_p0, .inr (1, [.ref a_p0_furrow, .long v_p0_eaten, .long v_p0_closed, .long v_p0_gaps, .long v_p0_strawMen, .int v_p0_months, .int v_p0_middle, .int v_p0_door, .long v_p0_seenGaps, .long v_p0_seenCorn, .int v_p0_seenCount]))]) (wn := [(a_, .inr (6, [.ref a_marks, .int v_kind, .int v_square, .int v_side])), (a_marks, .inl (cI, 36, .inl v_marks)), (a_p0, .inr (1, [.ref a_p0_furrow, .long v_p0_eaten, .long v_p0_closed, .long v_p0_gaps, .long v_p0_strawMen, .int v_p0_months, .int v_p0_middle, .int v_p0_door, .long v_p0_seenGaps, .long v_p0_seenCorn, .int v_p0_seenCount]))]) X hP0 hD0 hS0 [0, 1, 2] rfl rfl rfl rfl (run_V (As := [.ref a_p0]) (rest := []) X hP0 hD0 hS0 [0, 1, 2] rfl rfl (mX7_chosenSide l G cI cO a_ a_marks a_p0 a_p0_furrow  s.heap.size v_kind v_square v_side v_marks v_p0_eaten v_p0_closed v_p0_gaps v_p0_strawMen v_p0_months v_p0_middle v_p0_door v_p0_seenGaps v_p0_seenCorn v_p0_seenCount  hf1) mv_X7_chosenSide ml_X7_25 ⟨Nat.le_of_ble_eq_true rfl, Nat.le_of_ble_eq_true rfl⟩ rfl rfl 0 6 rfl rfl rfl rfl hl0.1 rfl (Nat.le_of_ble_eq_true rfl) ⟨Nat.zero_le _, Nat.zero_le _⟩ dX7_step_2) (fun H2 locs2 hP2 hD2 hS2 => ?_)
  clear hf1
  refine lv_istore_n (lv' := [(2, .int r1), (0, .ref a_), (1, .ref a_p0)]) hx hb dX7_step_5 rfl hl0 (by decide) rfl (fun ls3 hl3 => ?_)
  refine lv_aload_n hx hb dX7_step_6 rfl (lv_at hl3 1 rfl) ?_
  refine va_get (D := G) (ci := 6) (v := .int v_square) (C := RX7) (T := TX7) (N := 4) hx hb hts gwX7 hown hK hP2 0 rfl rfl 2 (by decide) (hts _ fl_X7_19) (fun _ h9 => h9) rfl dX7_step_7 ?_
  refine lv_iload_n hx hb dX7_step_10 rfl (lv_at hl3 0 rfl) ?_
  replace h := g_ob1 h
  obtain ⟨r4, hf4, h⟩ := h
  refine cal_i (wc := []) (w1 := []) (wn := [(a_, .inr (6, [.ref a_marks, .int v_kind, .int v_square, .int v_side])), (a_marks, .inl (cI, 36, .inl v_marks)), (a_p0, .inr (1, [.ref a_p0_furrow, .long v_p0_eaten, .long v_p0_closed, .long v_p0_gaps, .long v_p0_strawMen, .int v_p0_months, .int v_p0_middle, .int v_p0_door, .long v_p0_seenGaps, .long v_p0_seenCorn, .int v_p0_seenCount]))]) X hP2 hD2 hS2 [] rfl rfl rfl rfl (run_S (As := [.int v_square, .int r1]) (rest := []) X hP2 hD2 hS2 [] rfl rfl (mX3_next l G cI cO   H2.size  v_square r1 hf4) ms_X3_next ml_X7_29 ⟨Nat.le_of_ble_eq_true rfl, Nat.le_of_ble_eq_true rfl⟩ rfl rfl rfl hl3.1 rfl (Nat.le_of_ble_eq_true rfl) ⟨Nat.zero_le _, Nat.zero_le _⟩ dX7_step_11) (fun H5 locs5 hP5 hD5 hS5 => ?_)
  clear hf4 hP2 hD2 hS2
  refine lv_istore_n (lv' := [(3, .int r4), (2, .int r1), (0, .ref a_), (1, .ref a_p0)]) hx hb dX7_step_14 rfl hl3 (by decide) rfl (fun ls6 hl6 => ?_)
  clear hl3
  refine lv_iload_n hx hb dX7_step_15 rfl (lv_at hl6 0 rfl) ?_
  refine lv_if_ge (tgt := 20) hx hb dX7_step_16 (by decide) (fun hc => ?_) (fun hc => ?_)
  · replace h := t_pos h hc
    clear hc
    refine lv_aload_n hx hb dX7_step_20 rfl (lv_at hl6 2 rfl) ?_
    refine va_get (D := G) (ci := 6) (v := .ref a_marks) (C := RX7) (T := TX7) (N := 4) hx hb hts gwX7 hown hK hP5 0 rfl rfl 0 (by decide) (hts _ fl_X7_9) (fun _ h9 => h9) rfl dX7_step_21 ?_
    refine lv_aload_n hx hb dX7_step_24 rfl (lv_at hl6 2 rfl) ?_
    refine va_get (D := G) (ci := 6) (v := .int v_square) (C := RX7) (T := TX7) (N := 4) hx hb hts gwX7 hown hK hP5 0 rfl rfl 2 (by decide) (hts _ fl_X7_19) (fun _ h9 => h9) rfl dX7_step_25 ?_
    refine lv_dup2_11 hx hb dX7_step_28 rfl rfl ?_
    replace h := g_in h; obtain ⟨hg, h⟩ := h
    refine va_iald hx hb hK hP5 1 0 rfl rfl (inb_ok hg) dX7_step_29 ?_
    clear hg
    refine lv_iconst (v := (1 : Int32)) hx hb dX7_step_30 (by decide) ?_
    refine lv_iadd hx hb dX7_step_31 ?_
    refine lv_topi (fun y7 ey7 => ?_)
    replace h := g_let h ey7
    clear ey7
    replace h := g_in h; obtain ⟨hg, h⟩ := h
    refine va_iast hx hb hK hP5 hD5 hS5 1 0 rfl rfl (inb_ok hg) dX7_step_32 (fun H8 locs8 hP8 hD8 hS8 => ?_)
    replace hP8 : va_P G vwCl [(a_, .inr (6, [.ref a_marks, .int v_kind, .int v_square, .int v_side])), (a_marks, .inl (cI, 36, .inl ((upd v_marks v_square.toNatClampNeg y7)))), (a_p0, .inr (1, [.ref a_p0_furrow, .long v_p0_eaten, .long v_p0_closed, .long v_p0_gaps, .long v_p0_strawMen, .int v_p0_months, .int v_p0_middle, .int v_p0_door, .long v_p0_seenGaps, .long v_p0_seenCorn, .int v_p0_seenCount]))] H8 := hP8
    replace hD8 : va_D A [(a_, .inr (6, [.ref a_marks, .int v_kind, .int v_square, .int v_side])), (a_marks, .inl (cI, 36, .inl ((upd v_marks v_square.toNatClampNeg y7)))), (a_p0, .inr (1, [.ref a_p0_furrow, .long v_p0_eaten, .long v_p0_closed, .long v_p0_gaps, .long v_p0_strawMen, .int v_p0_months, .int v_p0_middle, .int v_p0_door, .long v_p0_seenGaps, .long v_p0_seenCorn, .int v_p0_seenCount]))] := hD8
    clear hP5 hD5 hS5
    clear hg
    refine lv_aload_n hx hb dX7_step_33 rfl (lv_at hl6 2 rfl) ?_
    refine lv_iload_n hx hb dX7_step_34 rfl (lv_at hl6 0 rfl) ?_
    refine va_put (D := G) (ci := 6) (v := .int r4) (ty := .int) (C := RX7) (T := TX7) (N := 4) hx hb hts gwX7 tyX7 tyX7_ok nmX7 hown hK hP8 hD8 hS8 0 rfl rfl 2 (by decide) (hts _ fl_X7_19) (fun _ h9 => h9) rfl (by decide +kernel) rfl rfl (Nat.le_of_ble_eq_true rfl) dX7_step_35 (fun H9 locs9 hP9 hD9 hS9 => ?_)
    replace hP9 : va_P G vwCl [(a_, .inr (6, [.ref a_marks, .int v_kind, .int r4, .int v_side])), (a_marks, .inl (cI, 36, .inl ((upd v_marks v_square.toNatClampNeg y7)))), (a_p0, .inr (1, [.ref a_p0_furrow, .long v_p0_eaten, .long v_p0_closed, .long v_p0_gaps, .long v_p0_strawMen, .int v_p0_months, .int v_p0_middle, .int v_p0_door, .long v_p0_seenGaps, .long v_p0_seenCorn, .int v_p0_seenCount]))] H9 := hP9
    replace hD9 : va_D A [(a_, .inr (6, [.ref a_marks, .int v_kind, .int r4, .int v_side])), (a_marks, .inl (cI, 36, .inl ((upd v_marks v_square.toNatClampNeg y7)))), (a_p0, .inr (1, [.ref a_p0_furrow, .long v_p0_eaten, .long v_p0_closed, .long v_p0_gaps, .long v_p0_strawMen, .int v_p0_months, .int v_p0_middle, .int v_p0_door, .long v_p0_seenGaps, .long v_p0_seenCorn, .int v_p0_seenCount]))] := hD9
    clear hP8 hD8 hS8
    refine lv_aload_n hx hb dX7_step_38 rfl (lv_at hl6 2 rfl) ?_
    refine lv_iload_n hx hb dX7_step_39 rfl (lv_at hl6 1 rfl) ?_
    refine va_put (D := G) (ci := 6) (v := .int r1) (ty := .int) (C := RX7) (T := TX7) (N := 4) hx hb hts gwX7 tyX7 tyX7_ok nmX7 hown hK hP9 hD9 hS9 0 rfl rfl 3 (by decide) (hts _ fl_X7_22) (fun _ h9 => h9) rfl (by decide +kernel) rfl rfl (Nat.le_of_ble_eq_true rfl) dX7_step_40 (fun H10 locs10 hP10 hD10 hS10 => ?_)
    replace hP10 : va_P G vwCl [(a_, .inr (6, [.ref a_marks, .int v_kind, .int r4, .int r1])), (a_marks, .inl (cI, 36, .inl ((upd v_marks v_square.toNatClampNeg y7)))), (a_p0, .inr (1, [.ref a_p0_furrow, .long v_p0_eaten, .long v_p0_closed, .long v_p0_gaps, .long v_p0_strawMen, .int v_p0_months, .int v_p0_middle, .int v_p0_door, .long v_p0_seenGaps, .long v_p0_seenCorn, .int v_p0_seenCount]))] H10 := hP10
    replace hD10 : va_D A [(a_, .inr (6, [.ref a_marks, .int v_kind, .int r4, .int r1])), (a_marks, .inl (cI, 36, .inl ((upd v_marks v_square.toNatClampNeg y7)))), (a_p0, .inr (1, [.ref a_p0_furrow, .long v_p0_eaten, .long v_p0_closed, .long v_p0_gaps, .long v_p0_strawMen, .int v_p0_months, .int v_p0_middle, .int v_p0_door, .long v_p0_seenGaps, .long v_p0_seenCorn, .int v_p0_seenCount]))] := hD10
    clear hP9 hD9 hS9
    obtain ⟨ez0, ez1, ez2⟩ := r_eq3 h
    subst ez0; subst ez1; subst ez2
    exact ret_v X hP10 hS10 dX7_step_43
  · replace h := t_neg h hc
    clear hc
    obtain ⟨ez0, ez1, ez2⟩ := r_eq3 h
    subst ez0; subst ez1; subst ez2
    exact ret_v X hP5 hS5 dX7_step_19
/-! PloughMaze$Ways.forget -/
abbrev rmX8_forget : Room := { frames := 0, cells := 0, slots := 0, locals := 0 }
def SX8_forget_7 (p : Program) (l : Launch) (e : Env) (s : State) (m : MethodId) (args : Array Value) (below : List Frame) (meth : Method) (c : Code) (G : va_G) (cI cO : ClassId) (A : Nat → Prop) (a_ a_fewest a_queue : Nat) (o_fewest : Nat → Int32) (o_queued : Int32) (k : (Nat → Int32) → Int32 → Int32 → Option ((Nat → Int32) × Int32)) : Prop := ∀ (v_fewest : Nat → Int32) (v_queued : Int32) (x1 : Int32) (H : Heap) (locs : List Loc), va_P G vwCl [(a_, .inr (7, [.ref a_fewest, .ref a_queue, .int v_queued])), (a_fewest, .inl (cI, 72, .inl v_fewest))] H → va_D A [(a_, .inr (7, [.ref a_fewest, .ref a_queue, .int v_queued])), (a_fewest, .inl (cI, 72, .inl v_fewest))] → va_S A s.heap H locs → ∀ (ls : Array Slot), lv_has ls 2 [(0, .ref a_), (1, .int x1)] → k v_fewest v_queued x1 = some (o_fewest, o_queued) → W p l e rmX8_forget s m args below meth c H locs 0 0 (MQ below (QcV G A [(a_, .inr (7, [.ref a_fewest, .ref a_queue, .int o_queued])), (a_fewest, .inl (cI, 72, .inl o_fewest))]) args s 0 0 A) (F0 m 7 ls [])
set_option maxHeartbeats 4000000 in
set_option maxRecDepth 100000 in
theorem bX8_forget_7 {p : Program} {l : Launch} {e : Env} {s : State} {m : MethodId} {args : Array Value} {below : List Frame} {meth : Method} {c : Code} {G : va_G} {cI cO : ClassId} {A : Nat → Prop} {a_ a_fewest a_queue : Nat} {o_fewest : Nat → Int32} {o_queued : Int32} (X : BX p rmX8_forget s m args meth c cX8_forget 2 none RX8 G cI cO A) : ∀ n : Nat, SX8_forget_7 p l e s m args below meth c G cI cO A a_ a_fewest a_queue o_fewest o_queued (fX8_forget_7 n) := by
  intro n
  induction n with
  | zero => intro v_fewest v_queued x1 H0 locs0 hP0 hD0 hS0 ls0 hl0 h; exact absurd h (by simp [fX8_forget_7])
  | succ n ih =>
    intro v_fewest v_queued x1 H0 locs0 hP0 hD0 hS0 ls0 hl0 h
    rw [fX8_forget_7] at h
    obtain ⟨hx, hb, hml, hr, hown, hts, hlocks, hK, hN, hA, hZ⟩ := id X
    refine lv_iload_n hx hb dX8_forget_7 rfl (lv_at hl0 1 rfl) ?_
    refine lv_aload_n hx hb dX8_forget_8 rfl (lv_at hl0 0 rfl) ?_
    refine va_get (D := G) (ci := 7) (v := .ref a_fewest) (C := RX8) (T := TX8) (N := 3) hx hb hts gwX8 hown hK hP0 0 rfl rfl 0 (by decide) (hts _ fl_X8_9) (fun _ h9 => h9) rfl dX8_forget_9 ?_
    refine va_alen (v := (72 : Int32)) hx hb hK hP0 1 0 rfl rfl (show Int32.ofNat 72 = 72 by decide) dX8_forget_12 ?_
    refine lv_icmp_ge (tgt := 30) hx hb dX8_forget_13 (by decide) (fun hc => ?_) (fun hc => ?_)
    · replace h := t_pos h hc
      clear hc
      obtain ⟨ez0, ez1⟩ := r_eq2 h
      subst ez0; subst ez1
      exact ret_v X hP0 hS0 dX8_forget_30
    · replace h := t_neg h hc
      clear hc
      refine lv_aload_n hx hb dX8_forget_16 rfl (lv_at hl0 0 rfl) ?_
      refine va_get (D := G) (ci := 7) (v := .ref a_fewest) (C := RX8) (T := TX8) (N := 3) hx hb hts gwX8 hown hK hP0 0 rfl rfl 0 (by decide) (hts _ fl_X8_9) (fun _ h9 => h9) rfl dX8_forget_17 ?_
      refine lv_iload_n hx hb dX8_forget_20 rfl (lv_at hl0 1 rfl) ?_
      refine lv_bipush (v := (-4 : Int32)) hx hb dX8_forget_21 (by decide) ?_
      replace h := g_in h; obtain ⟨hg, h⟩ := h
      refine va_iast hx hb hK hP0 hD0 hS0 1 0 rfl rfl (inb_ok hg) dX8_forget_23 (fun H1 locs1 hP1 hD1 hS1 => ?_)
      replace hP1 : va_P G vwCl [(a_, .inr (7, [.ref a_fewest, .ref a_queue, .int v_queued])), (a_fewest, .inl (cI, 72, .inl ((upd v_fewest x1.toNatClampNeg (-4 : Int32)))))] H1 := hP1
      replace hD1 : va_D A [(a_, .inr (7, [.ref a_fewest, .ref a_queue, .int v_queued])), (a_fewest, .inl (cI, 72, .inl ((upd v_fewest x1.toNatClampNeg (-4 : Int32)))))] := hD1
      clear hg
      refine lv_iinc (v := (x1 + (1 : Int32))) (lv' := [(1, .int (x1 + (1 : Int32))), (0, .ref a_)]) hx hb dX8_forget_24 hl0 (k := 1) rfl (congrArg (fun z => x1 + z) (by decide : Int32.ofInt (1) = (1 : Int32))) (by decide) rfl (fun ls2 hl2 => ?_)
      refine lv_goto (tgt := 7) hx hb dX8_forget_27 (by decide) ?_
      exact ih ((upd v_fewest x1.toNatClampNeg (-4 : Int32))) v_queued ((x1 + (1 : Int32))) H1 locs1 hP1 hD1 hS1 ls2 (lv_sub hl2 [1, 0] rfl) h
set_option maxHeartbeats 4000000 in
set_option maxRecDepth 100000 in
theorem mX8_forget (l : Launch) (G : va_G) (cI cO : ClassId) (a_ a_fewest a_queue : Nat) (sz : Nat) (v_queued : Int32) (v_fewest : Nat → Int32)  {o_fewest : Nat → Int32} {o_queued : Int32} (h : fX8_forget v_fewest v_queued = some (o_fewest, o_queued)) : Met l yX8_forget (wsM yX8_forget cX8_forget 2 none) rmX8_forget (va_Pc [.ref a_] (preW G cI cO sz [(a_, .inr (7, [.ref a_fewest, .ref a_queue, .int v_queued])), (a_fewest, .inl (cI, 72, .inl v_fewest))])) (QcV G (va_A [(a_, .inr (7, [.ref a_fewest, .ref a_queue, .int v_queued])), (a_fewest, .inl (cI, 72, .inl v_fewest))] sz) [(a_, .inr (7, [.ref a_fewest, .ref a_queue, .int o_queued])), (a_fewest, .inl (cI, 72, .inl o_fewest))]) 0 0 (va_A [(a_, .inr (7, [.ref a_fewest, .ref a_queue, .int v_queued])), (a_fewest, .inl (cI, 72, .inl v_fewest))] sz) := by
  refine mkMet (own := RX8) (by decide) rfl (Nat.le_of_ble_eq_true rfl) ?_
  intro p e s m args below meth c _ hsz _ X hP0 hD0 ls0 hl0
  have hS0 : va_S (va_A [(a_, .inr (7, [.ref a_fewest, .ref a_queue, .int v_queued])), (a_fewest, .inl (cI, 72, .inl v_fewest))] sz) s.heap s.heap [] := va_S.rf
  replace hl0 : lv_has ls0 2 [(0, .ref a_)] := hl0
  generalize va_A [(a_, .inr (7, [.ref a_fewest, .ref a_queue, .int v_queued])), (a_fewest, .inl (cI, 72, .inl v_fewest))] sz = A at X hD0 hS0 ⊢
  unfold fX8_forget at h
  obtain ⟨hx, hb, hml, hr, hown, hts, hlocks, hK, hN, hA, hZ⟩ := id X
  refine lv_aload_n hx hb dX8_forget_0 rfl (lv_at hl0 0 rfl) ?_
  refine lv_iconst (v := (0 : Int32)) hx hb dX8_forget_1 (by decide) ?_
  refine va_put (D := G) (ci := 7) (v := .int (0 : Int32)) (ty := .int) (C := RX8) (T := TX8) (N := 3) hx hb hts gwX8 tyX8 tyX8_ok nmX8 hown hK hP0 hD0 hS0 0 rfl rfl 2 (by decide) (hts _ fl_X8_18) (fun _ h9 => h9) rfl (by decide +kernel) rfl rfl (Nat.le_of_ble_eq_true rfl) dX8_forget_2 (fun H1 locs1 hP1 hD1 hS1 => ?_)
  replace hP1 : va_P G vwCl [(a_, .inr (7, [.ref a_fewest, .ref a_queue, .int (0 : Int32)])), (a_fewest, .inl (cI, 72, .inl v_fewest))] H1 := hP1
  replace hD1 : va_D A [(a_, .inr (7, [.ref a_fewest, .ref a_queue, .int (0 : Int32)])), (a_fewest, .inl (cI, 72, .inl v_fewest))] := hD1
  refine lv_iconst (v := (0 : Int32)) hx hb dX8_forget_5 (by decide) ?_
  refine lv_istore_n (lv' := [(1, .int (0 : Int32)), (0, .ref a_)]) hx hb dX8_forget_6 rfl hl0 (by decide) rfl (fun ls2 hl2 => ?_)
  exact bX8_forget_7 X 4000 v_fewest (0 : Int32) (0 : Int32) H1 locs1 hP1 hD1 hS1 ls2 (lv_sub hl2 [1, 0] rfl) h
/-! PloughMaze$Ways.reach -/
abbrev rmX8_reach : Room := { frames := 0, cells := 0, slots := 0, locals := 0 }
set_option maxHeartbeats 4000000 in
set_option maxRecDepth 100000 in
theorem mX8_reach (l : Launch) (G : va_G) (cI cO : ClassId) (a_ a_fewest a_queue : Nat) (sz : Nat) (v_queued : Int32) (v_fewest : Nat → Int32) (v_queue : Nat → Int32) (x1 : Int32) (x2 : Int32) {o_fewest : Nat → Int32} {o_queue : Nat → Int32} {o_queued : Int32} (h : fX8_reach v_fewest v_queue v_queued x1 x2 = some (o_fewest, o_queue, o_queued)) : Met l yX8_reach (wsM yX8_reach cX8_reach 3 none) rmX8_reach (va_Pc [.ref a_, .int x1, .int x2] (preW G cI cO sz [(a_, .inr (7, [.ref a_fewest, .ref a_queue, .int v_queued])), (a_fewest, .inl (cI, 72, .inl v_fewest)), (a_queue, .inl (cI, 72, .inl v_queue))])) (QcV G (va_A [(a_, .inr (7, [.ref a_fewest, .ref a_queue, .int v_queued])), (a_fewest, .inl (cI, 72, .inl v_fewest)), (a_queue, .inl (cI, 72, .inl v_queue))] sz) [(a_, .inr (7, [.ref a_fewest, .ref a_queue, .int o_queued])), (a_fewest, .inl (cI, 72, .inl o_fewest)), (a_queue, .inl (cI, 72, .inl o_queue))]) 0 0 (va_A [(a_, .inr (7, [.ref a_fewest, .ref a_queue, .int v_queued])), (a_fewest, .inl (cI, 72, .inl v_fewest)), (a_queue, .inl (cI, 72, .inl v_queue))] sz) := by
  refine mkMet (own := RX8) (by decide) rfl (Nat.le_of_ble_eq_true rfl) ?_
  intro p e s m args below meth c _ hsz _ X hP0 hD0 ls0 hl0
  have hS0 : va_S (va_A [(a_, .inr (7, [.ref a_fewest, .ref a_queue, .int v_queued])), (a_fewest, .inl (cI, 72, .inl v_fewest)), (a_queue, .inl (cI, 72, .inl v_queue))] sz) s.heap s.heap [] := va_S.rf
  replace hl0 : lv_has ls0 3 [(0, .ref a_), (1, .int x1), (2, .int x2)] := hl0
  generalize va_A [(a_, .inr (7, [.ref a_fewest, .ref a_queue, .int v_queued])), (a_fewest, .inl (cI, 72, .inl v_fewest)), (a_queue, .inl (cI, 72, .inl v_queue))] sz = A at X hD0 hS0 ⊢
  unfold fX8_reach at h
  obtain ⟨hx, hb, hml, hr, hown, hts, hlocks, hK, hN, hA, hZ⟩ := id X
  refine lv_iload_n hx hb dX8_reach_0 rfl (lv_at hl0 1 rfl) ?_
  refine lv_if_lt (tgt := 34) hx hb dX8_reach_1 (by decide) (fun hc => ?_) (fun hc => ?_)
  · replace h := t_pos h hc
    clear hc
    obtain ⟨ez0, ez1, ez2⟩ := r_eq3 h
    subst ez0; subst ez1; subst ez2
    exact ret_v X hP0 hS0 dX8_reach_34
  · replace h := t_neg h hc
    clear hc
    refine lv_iload_n hx hb dX8_reach_4 rfl (lv_at hl0 1 rfl) ?_
    refine lv_aload_n hx hb dX8_reach_5 rfl (lv_at hl0 0 rfl) ?_
    refine va_get (D := G) (ci := 7) (v := .ref a_fewest) (C := RX8) (T := TX8) (N := 3) hx hb hts gwX8 hown hK hP0 0 rfl rfl 0 (by decide) (hts _ fl_X8_9) (fun _ h9 => h9) rfl dX8_reach_6 ?_
    refine va_alen (v := (72 : Int32)) hx hb hK hP0 1 0 rfl rfl (show Int32.ofNat 72 = 72 by decide) dX8_reach_9 ?_
    refine lv_icmp_ge (tgt := 34) hx hb dX8_reach_10 (by decide) (fun hc => ?_) (fun hc => ?_)
    · replace h := t_pos h hc
      clear hc
      obtain ⟨ez0, ez1, ez2⟩ := r_eq3 h
      subst ez0; subst ez1; subst ez2
      exact ret_v X hP0 hS0 dX8_reach_34
    · replace h := t_neg h hc
      clear hc
      refine lv_aload_n hx hb dX8_reach_13 rfl (lv_at hl0 0 rfl) ?_
      refine va_get (D := G) (ci := 7) (v := .ref a_fewest) (C := RX8) (T := TX8) (N := 3) hx hb hts gwX8 hown hK hP0 0 rfl rfl 0 (by decide) (hts _ fl_X8_9) (fun _ h9 => h9) rfl dX8_reach_14 ?_
      refine lv_iload_n hx hb dX8_reach_17 rfl (lv_at hl0 1 rfl) ?_
      replace h := g_in h; obtain ⟨hg, h⟩ := h
      refine va_iald hx hb hK hP0 1 0 rfl rfl (inb_ok hg) dX8_reach_18 ?_
      clear hg
      refine lv_if_ge (tgt := 34) hx hb dX8_reach_19 (by decide) (fun hc => ?_) (fun hc => ?_)
      · replace h := t_pos h hc
        clear hc
        obtain ⟨ez0, ez1, ez2⟩ := r_eq3 h
        subst ez0; subst ez1; subst ez2
        exact ret_v X hP0 hS0 dX8_reach_34
      · replace h := t_neg h hc
        clear hc
        refine lv_aload_n hx hb dX8_reach_22 rfl (lv_at hl0 0 rfl) ?_
        refine va_get (D := G) (ci := 7) (v := .int v_queued) (C := RX8) (T := TX8) (N := 3) hx hb hts gwX8 hown hK hP0 0 rfl rfl 2 (by decide) (hts _ fl_X8_18) (fun _ h9 => h9) rfl dX8_reach_23 ?_
        refine lv_aload_n hx hb dX8_reach_26 rfl (lv_at hl0 0 rfl) ?_
        refine va_get (D := G) (ci := 7) (v := .ref a_queue) (C := RX8) (T := TX8) (N := 3) hx hb hts gwX8 hown hK hP0 0 rfl rfl 1 (by decide) (hts _ fl_X8_15) (fun _ h9 => h9) rfl dX8_reach_27 ?_
        refine va_alen (v := (72 : Int32)) hx hb hK hP0 2 0 rfl rfl (show Int32.ofNat 72 = 72 by decide) dX8_reach_30 ?_
        refine lv_icmp_lt (tgt := 35) hx hb dX8_reach_31 (by decide) (fun hc => ?_) (fun hc => ?_)
        · replace h := t_pos h hc
          clear hc
          refine lv_aload_n hx hb dX8_reach_35 rfl (lv_at hl0 0 rfl) ?_
          refine va_get (D := G) (ci := 7) (v := .ref a_fewest) (C := RX8) (T := TX8) (N := 3) hx hb hts gwX8 hown hK hP0 0 rfl rfl 0 (by decide) (hts _ fl_X8_9) (fun _ h9 => h9) rfl dX8_reach_36 ?_
          refine lv_iload_n hx hb dX8_reach_39 rfl (lv_at hl0 1 rfl) ?_
          refine lv_iload_n hx hb dX8_reach_40 rfl (lv_at hl0 2 rfl) ?_
          replace h := g_in h; obtain ⟨hg, h⟩ := h
          refine va_iast hx hb hK hP0 hD0 hS0 1 0 rfl rfl (inb_ok hg) dX8_reach_41 (fun H1 locs1 hP1 hD1 hS1 => ?_)
          replace hP1 : va_P G vwCl [(a_, .inr (7, [.ref a_fewest, .ref a_queue, .int v_queued])), (a_fewest, .inl (cI, 72, .inl ((upd v_fewest x1.toNatClampNeg x2)))), (a_queue, .inl (cI, 72, .inl v_queue))] H1 := hP1
          replace hD1 : va_D A [(a_, .inr (7, [.ref a_fewest, .ref a_queue, .int v_queued])), (a_fewest, .inl (cI, 72, .inl ((upd v_fewest x1.toNatClampNeg x2)))), (a_queue, .inl (cI, 72, .inl v_queue))] := hD1
          clear hg
          refine lv_aload_n hx hb dX8_reach_42 rfl (lv_at hl0 0 rfl) ?_
          refine va_get (D := G) (ci := 7) (v := .ref a_queue) (C := RX8) (T := TX8) (N := 3) hx hb hts gwX8 hown hK hP1 0 rfl rfl 1 (by decide) (hts _ fl_X8_15) (fun _ h9 => h9) rfl dX8_reach_43 ?_
          refine lv_aload_n hx hb dX8_reach_46 rfl (lv_at hl0 0 rfl) ?_
          refine va_get (D := G) (ci := 7) (v := .int v_queued) (C := RX8) (T := TX8) (N := 3) hx hb hts gwX8 hown hK hP1 0 rfl rfl 2 (by decide) (hts _ fl_X8_18) (fun _ h9 => h9) rfl dX8_reach_47 ?_
          refine lv_iload_n hx hb dX8_reach_50 rfl (lv_at hl0 1 rfl) ?_
          replace h := g_in h; obtain ⟨hg, h⟩ := h
          refine va_iast hx hb hK hP1 hD1 hS1 2 0 rfl rfl (inb_ok hg) dX8_reach_51 (fun H2 locs2 hP2 hD2 hS2 => ?_)
          replace hP2 : va_P G vwCl [(a_, .inr (7, [.ref a_fewest, .ref a_queue, .int v_queued])), (a_fewest, .inl (cI, 72, .inl ((upd v_fewest x1.toNatClampNeg x2)))), (a_queue, .inl (cI, 72, .inl ((upd v_queue v_queued.toNatClampNeg x1))))] H2 := hP2
          replace hD2 : va_D A [(a_, .inr (7, [.ref a_fewest, .ref a_queue, .int v_queued])), (a_fewest, .inl (cI, 72, .inl ((upd v_fewest x1.toNatClampNeg x2)))), (a_queue, .inl (cI, 72, .inl ((upd v_queue v_queued.toNatClampNeg x1))))] := hD2
          clear hP1 hD1 hS1
          clear hg
          refine lv_aload_n hx hb dX8_reach_52 rfl (lv_at hl0 0 rfl) ?_
          refine lv_dup hx hb dX8_reach_53 rfl ?_
          refine va_get (D := G) (ci := 7) (v := .int v_queued) (C := RX8) (T := TX8) (N := 3) hx hb hts gwX8 hown hK hP2 0 rfl rfl 2 (by decide) (hts _ fl_X8_18) (fun _ h9 => h9) rfl dX8_reach_54 ?_
          refine lv_iconst (v := (1 : Int32)) hx hb dX8_reach_57 (by decide) ?_
          refine lv_iadd hx hb dX8_reach_58 ?_
          refine lv_topi (fun y3 ey3 => ?_)
          replace h := g_let h ey3
          clear ey3
          refine va_put (D := G) (ci := 7) (v := .int y3) (ty := .int) (C := RX8) (T := TX8) (N := 3) hx hb hts gwX8 tyX8 tyX8_ok nmX8 hown hK hP2 hD2 hS2 0 rfl rfl 2 (by decide) (hts _ fl_X8_18) (fun _ h9 => h9) rfl (by decide +kernel) rfl rfl (Nat.le_of_ble_eq_true rfl) dX8_reach_59 (fun H4 locs4 hP4 hD4 hS4 => ?_)
          replace hP4 : va_P G vwCl [(a_, .inr (7, [.ref a_fewest, .ref a_queue, .int y3])), (a_fewest, .inl (cI, 72, .inl ((upd v_fewest x1.toNatClampNeg x2)))), (a_queue, .inl (cI, 72, .inl ((upd v_queue v_queued.toNatClampNeg x1))))] H4 := hP4
          replace hD4 : va_D A [(a_, .inr (7, [.ref a_fewest, .ref a_queue, .int y3])), (a_fewest, .inl (cI, 72, .inl ((upd v_fewest x1.toNatClampNeg x2)))), (a_queue, .inl (cI, 72, .inl ((upd v_queue v_queued.toNatClampNeg x1))))] := hD4
          clear hP2 hD2 hS2
          obtain ⟨ez0, ez1, ez2⟩ := r_eq3 h
          subst ez0; subst ez1; subst ez2
          exact ret_v X hP4 hS4 dX8_reach_62
        · replace h := t_neg h hc
          clear hc
          obtain ⟨ez0, ez1, ez2⟩ := r_eq3 h
          subst ez0; subst ez1; subst ez2
          exact ret_v X hP0 hS0 dX8_reach_34
/-! PloughMaze$Ways.spread -/
abbrev rmX8_spread : Room := { frames := 1, cells := 0, slots := 0, locals := 23 }
def SX8_spread_103 (p : Program) (l : Launch) (e : Env) (s : State) (m : MethodId) (args : Array Value) (below : List Frame) (meth : Method) (c : Code) (G : va_G) (cI cO : ClassId) (A : Nat → Prop) (a_ a_fewest a_queue : Nat) (o_fewest : Nat → Int32) (o_queue : Nat → Int32) (o_queued : Int32) (k : (Nat → Int32) → (Nat → Int32) → Int32 → Int64 → Int32 → Int32 → Int32 → Int32 → Int32 → Option ((Nat → Int32) × (Nat → Int32) × Int32)) : Prop := ∀ (v_fewest : Nat → Int32) (v_queue : Nat → Int32) (v_queued : Int32) (x1 : Int64) (x3 : Int32) (x4 : Int32) (x5 : Int32) (x6 : Int32) (x7 : Int32) (H : Heap) (locs : List Loc), va_P G vwCl [(a_, .inr (7, [.ref a_fewest, .ref a_queue, .int v_queued])), (a_fewest, .inl (cI, 72, .inl v_fewest)), (a_queue, .inl (cI, 72, .inl v_queue))] H → va_D A [(a_, .inr (7, [.ref a_fewest, .ref a_queue, .int v_queued])), (a_fewest, .inl (cI, 72, .inl v_fewest)), (a_queue, .inl (cI, 72, .inl v_queue))] → va_S A s.heap H locs → ∀ (ls : Array Slot), lv_has ls 10 [(0, .ref a_), (1, .long x1), (3, .int x3), (4, .int x4), (5, .int x5), (6, .int x6), (7, .int x7)] → k v_fewest v_queue v_queued x1 x3 x4 x5 x6 x7 = some (o_fewest, o_queue, o_queued) → W p l e rmX8_spread s m args below meth c H locs 0 0 (MQ below (QcV G A [(a_, .inr (7, [.ref a_fewest, .ref a_queue, .int o_queued])), (a_fewest, .inl (cI, 72, .inl o_fewest)), (a_queue, .inl (cI, 72, .inl o_queue))]) args s 0 0 A) (F0 m 103 ls [])
def SX8_spread_88 (p : Program) (l : Launch) (e : Env) (s : State) (m : MethodId) (args : Array Value) (below : List Frame) (meth : Method) (c : Code) (G : va_G) (cI cO : ClassId) (A : Nat → Prop) (a_ a_fewest a_queue : Nat) (o_fewest : Nat → Int32) (o_queue : Nat → Int32) (o_queued : Int32) (k : (Nat → Int32) → (Nat → Int32) → Int32 → Int64 → Int32 → Int32 → Int32 → Int32 → Int32 → Int32 → Int32 → Option ((Nat → Int32) × (Nat → Int32) × Int32)) : Prop := ∀ (v_fewest : Nat → Int32) (v_queue : Nat → Int32) (v_queued : Int32) (x1 : Int64) (x3 : Int32) (x4 : Int32) (x5 : Int32) (x6 : Int32) (x7 : Int32) (s1 : Int32) (s2 : Int32) (H : Heap) (locs : List Loc), va_P G vwCl [(a_, .inr (7, [.ref a_fewest, .ref a_queue, .int v_queued])), (a_fewest, .inl (cI, 72, .inl v_fewest)), (a_queue, .inl (cI, 72, .inl v_queue))] H → va_D A [(a_, .inr (7, [.ref a_fewest, .ref a_queue, .int v_queued])), (a_fewest, .inl (cI, 72, .inl v_fewest)), (a_queue, .inl (cI, 72, .inl v_queue))] → va_S A s.heap H locs → ∀ (ls : Array Slot), lv_has ls 10 [(0, .ref a_), (1, .long x1), (3, .int x3), (4, .int x4), (5, .int x5), (6, .int x6), (7, .int x7)] → k v_fewest v_queue v_queued x1 x3 x4 x5 x6 x7 s1 s2 = some (o_fewest, o_queue, o_queued) → W p l e rmX8_spread s m args below meth c H locs 0 0 (MQ below (QcV G A [(a_, .inr (7, [.ref a_fewest, .ref a_queue, .int o_queued])), (a_fewest, .inl (cI, 72, .inl o_fewest)), (a_queue, .inl (cI, 72, .inl o_queue))]) args s 0 0 A) (F0 m 88 ls [.int s2, .int s1, .ref a_])
def SX8_spread_71 (p : Program) (l : Launch) (e : Env) (s : State) (m : MethodId) (args : Array Value) (below : List Frame) (meth : Method) (c : Code) (G : va_G) (cI cO : ClassId) (A : Nat → Prop) (a_ a_fewest a_queue : Nat) (o_fewest : Nat → Int32) (o_queue : Nat → Int32) (o_queued : Int32) (k : (Nat → Int32) → (Nat → Int32) → Int32 → Int64 → Int32 → Int32 → Int32 → Int32 → Int32 → Int32 → Int32 → Option ((Nat → Int32) × (Nat → Int32) × Int32)) : Prop := ∀ (v_fewest : Nat → Int32) (v_queue : Nat → Int32) (v_queued : Int32) (x1 : Int64) (x3 : Int32) (x4 : Int32) (x5 : Int32) (x6 : Int32) (x7 : Int32) (x8 : Int32) (x9 : Int32) (H : Heap) (locs : List Loc), va_P G vwCl [(a_, .inr (7, [.ref a_fewest, .ref a_queue, .int v_queued])), (a_fewest, .inl (cI, 72, .inl v_fewest)), (a_queue, .inl (cI, 72, .inl v_queue))] H → va_D A [(a_, .inr (7, [.ref a_fewest, .ref a_queue, .int v_queued])), (a_fewest, .inl (cI, 72, .inl v_fewest)), (a_queue, .inl (cI, 72, .inl v_queue))] → va_S A s.heap H locs → ∀ (ls : Array Slot), lv_has ls 10 [(0, .ref a_), (1, .long x1), (3, .int x3), (4, .int x4), (5, .int x5), (6, .int x6), (7, .int x7), (8, .int x8), (9, .int x9)] → k v_fewest v_queue v_queued x1 x3 x4 x5 x6 x7 x8 x9 = some (o_fewest, o_queue, o_queued) → W p l e rmX8_spread s m args below meth c H locs 0 0 (MQ below (QcV G A [(a_, .inr (7, [.ref a_fewest, .ref a_queue, .int o_queued])), (a_fewest, .inl (cI, 72, .inl o_fewest)), (a_queue, .inl (cI, 72, .inl o_queue))]) args s 0 0 A) (F0 m 71 ls [])
def SX8_spread_57 (p : Program) (l : Launch) (e : Env) (s : State) (m : MethodId) (args : Array Value) (below : List Frame) (meth : Method) (c : Code) (G : va_G) (cI cO : ClassId) (A : Nat → Prop) (a_ a_fewest a_queue : Nat) (o_fewest : Nat → Int32) (o_queue : Nat → Int32) (o_queued : Int32) (k : (Nat → Int32) → (Nat → Int32) → Int32 → Int64 → Int32 → Int32 → Int32 → Int32 → Int32 → Int32 → Int32 → Option ((Nat → Int32) × (Nat → Int32) × Int32)) : Prop := ∀ (v_fewest : Nat → Int32) (v_queue : Nat → Int32) (v_queued : Int32) (x1 : Int64) (x3 : Int32) (x4 : Int32) (x5 : Int32) (x6 : Int32) (x7 : Int32) (x8 : Int32) (s0 : Int32) (H : Heap) (locs : List Loc), va_P G vwCl [(a_, .inr (7, [.ref a_fewest, .ref a_queue, .int v_queued])), (a_fewest, .inl (cI, 72, .inl v_fewest)), (a_queue, .inl (cI, 72, .inl v_queue))] H → va_D A [(a_, .inr (7, [.ref a_fewest, .ref a_queue, .int v_queued])), (a_fewest, .inl (cI, 72, .inl v_fewest)), (a_queue, .inl (cI, 72, .inl v_queue))] → va_S A s.heap H locs → ∀ (ls : Array Slot), lv_has ls 10 [(0, .ref a_), (1, .long x1), (3, .int x3), (4, .int x4), (5, .int x5), (6, .int x6), (7, .int x7), (8, .int x8)] → k v_fewest v_queue v_queued x1 x3 x4 x5 x6 x7 x8 s0 = some (o_fewest, o_queue, o_queued) → W p l e rmX8_spread s m args below meth c H locs 0 0 (MQ below (QcV G A [(a_, .inr (7, [.ref a_fewest, .ref a_queue, .int o_queued])), (a_fewest, .inl (cI, 72, .inl o_fewest)), (a_queue, .inl (cI, 72, .inl o_queue))]) args s 0 0 A) (F0 m 57 ls [.int s0])
def SX8_spread_15 (p : Program) (l : Launch) (e : Env) (s : State) (m : MethodId) (args : Array Value) (below : List Frame) (meth : Method) (c : Code) (G : va_G) (cI cO : ClassId) (A : Nat → Prop) (a_ a_fewest a_queue : Nat) (o_fewest : Nat → Int32) (o_queue : Nat → Int32) (o_queued : Int32) (k : (Nat → Int32) → (Nat → Int32) → Int32 → Int64 → Int32 → Int32 → Int32 → Int32 → Int32 → Option ((Nat → Int32) × (Nat → Int32) × Int32)) : Prop := ∀ (v_fewest : Nat → Int32) (v_queue : Nat → Int32) (v_queued : Int32) (x1 : Int64) (x3 : Int32) (x4 : Int32) (x5 : Int32) (x6 : Int32) (x7 : Int32) (H : Heap) (locs : List Loc), va_P G vwCl [(a_, .inr (7, [.ref a_fewest, .ref a_queue, .int v_queued])), (a_fewest, .inl (cI, 72, .inl v_fewest)), (a_queue, .inl (cI, 72, .inl v_queue))] H → va_D A [(a_, .inr (7, [.ref a_fewest, .ref a_queue, .int v_queued])), (a_fewest, .inl (cI, 72, .inl v_fewest)), (a_queue, .inl (cI, 72, .inl v_queue))] → va_S A s.heap H locs → ∀ (ls : Array Slot), lv_has ls 10 [(0, .ref a_), (1, .long x1), (3, .int x3), (4, .int x4), (5, .int x5), (6, .int x6), (7, .int x7)] → k v_fewest v_queue v_queued x1 x3 x4 x5 x6 x7 = some (o_fewest, o_queue, o_queued) → W p l e rmX8_spread s m args below meth c H locs 0 0 (MQ below (QcV G A [(a_, .inr (7, [.ref a_fewest, .ref a_queue, .int o_queued])), (a_fewest, .inl (cI, 72, .inl o_fewest)), (a_queue, .inl (cI, 72, .inl o_queue))]) args s 0 0 A) (F0 m 15 ls [])
set_option maxHeartbeats 4000000 in
set_option maxRecDepth 100000 in
theorem bX8_spread_103 {p : Program} {l : Launch} {e : Env} {s : State} {m : MethodId} {args : Array Value} {below : List Frame} {meth : Method} {c : Code} {G : va_G} {cI cO : ClassId} {A : Nat → Prop} {a_ a_fewest a_queue : Nat} {o_fewest : Nat → Int32} {o_queue : Nat → Int32} {o_queued : Int32} (X : BX p rmX8_spread s m args meth c cX8_spread 10 none RX8 G cI cO A) {k_15 : (Nat → Int32) → (Nat → Int32) → Int32 → Int64 → Int32 → Int32 → Int32 → Int32 → Int32 → Option ((Nat → Int32) × (Nat → Int32) × Int32)} (hk_15 : SX8_spread_15 p l e s m args below meth c G cI cO A a_ a_fewest a_queue o_fewest o_queue o_queued k_15) : SX8_spread_103 p l e s m args below meth c G cI cO A a_ a_fewest a_queue o_fewest o_queue o_queued (fX8_spread_103 k_15) := by
  intro v_fewest v_queue v_queued x1 x3 x4 x5 x6 x7 H0 locs0 hP0 hD0 hS0 ls0 hl0 h
  unfold fX8_spread_103 at h
  obtain ⟨hx, hb, hml, hr, hown, hts, hlocks, hK, hN, hA, hZ⟩ := id X
  refine lv_iinc (v := (x7 + (1 : Int32))) (lv' := [(7, .int (x7 + (1 : Int32))), (0, .ref a_), (1, .long x1), (3, .int x3), (4, .int x4), (5, .int x5), (6, .int x6)]) hx hb dX8_spread_103 hl0 (k := 6) rfl (congrArg (fun z => x7 + z) (by decide : Int32.ofInt (1) = (1 : Int32))) (by decide) rfl (fun ls1 hl1 => ?_)
  refine lv_goto (tgt := 15) hx hb dX8_spread_106 (by decide) ?_
  exact hk_15 v_fewest v_queue v_queued x1 x3 x4 x5 x6 ((x7 + (1 : Int32))) H0 locs0 hP0 hD0 hS0 ls1 (lv_sub hl1 [1, 2, 3, 4, 5, 6, 0] rfl) h
set_option maxHeartbeats 4000000 in
set_option maxRecDepth 100000 in
theorem bX8_spread_88 {p : Program} {l : Launch} {e : Env} {s : State} {m : MethodId} {args : Array Value} {below : List Frame} {meth : Method} {c : Code} {G : va_G} {cI cO : ClassId} {A : Nat → Prop} {a_ a_fewest a_queue : Nat} {o_fewest : Nat → Int32} {o_queue : Nat → Int32} {o_queued : Int32} (X : BX p rmX8_spread s m args meth c cX8_spread 10 none RX8 G cI cO A) {k_15 : (Nat → Int32) → (Nat → Int32) → Int32 → Int64 → Int32 → Int32 → Int32 → Int32 → Int32 → Option ((Nat → Int32) × (Nat → Int32) × Int32)} (hk_15 : SX8_spread_15 p l e s m args below meth c G cI cO A a_ a_fewest a_queue o_fewest o_queue o_queued k_15) : SX8_spread_88 p l e s m args below meth c G cI cO A a_ a_fewest a_queue o_fewest o_queue o_queued (fX8_spread_88 k_15) := by
  intro v_fewest v_queue v_queued x1 x3 x4 x5 x6 x7 s1 s2 H0 locs0 hP0 hD0 hS0 ls0 hl0 h
  unfold fX8_spread_88 at h
  obtain ⟨hx, hb, hml, hr, hown, hts, hlocks, hK, hN, hA, hZ⟩ := id X
  refine lv_bipush (v := (36 : Int32)) hx hb dX8_spread_88 (by decide) ?_
  refine lv_imul hx hb dX8_spread_90 ?_
  refine lv_iadd hx hb dX8_spread_91 ?_
  refine lv_aload_n hx hb dX8_spread_92 rfl (lv_at hl0 0 rfl) ?_
  refine va_get (D := G) (ci := 7) (v := .ref a_fewest) (C := RX8) (T := TX8) (N := 3) hx hb hts gwX8 hown hK hP0 0 rfl rfl 0 (by decide) (hts _ fl_X8_9) (fun _ h9 => h9) rfl dX8_spread_93 ?_
  refine lv_iload_n hx hb dX8_spread_96 rfl (lv_at hl0 2 rfl) ?_
  replace h := g_in h; obtain ⟨hg, h⟩ := h
  refine va_iald hx hb hK hP0 1 0 rfl rfl (inb_ok hg) dX8_spread_97 ?_
  clear hg
  refine lv_iconst (v := (1 : Int32)) hx hb dX8_spread_98 (by decide) ?_
  refine lv_iadd hx hb dX8_spread_99 ?_
  replace h := g_ob3 h
  obtain ⟨v_fewest_1, v_queue_1, v_queued_1, hf1, h⟩ := h
  refine cal_v (wc := [(a_, .inr (7, [.ref a_fewest, .ref a_queue, .int v_queued])), (a_fewest, .inl (cI, 72, .inl v_fewest)), (a_queue, .inl (cI, 72, .inl v_queue))]) (w1 := [(a_, .inr (7, [.ref a_fewest, .ref a_queue, .int v_queued_1])), (a_fewest, .inl (cI, 72, .inl v_fewest_1)), (a_queue, .inl (cI, 72, .inl v_queue_1))]) (wn := [(a_, .inr (7, [.ref a_fewest, .ref a_queue, .int v_queued_1])), (a_fewest, .inl (cI, 72, .inl v_fewest_1)), (a_queue, .inl (cI, 72, .inl v_queue_1))]) X hP0 hD0 hS0 [0, 1, 2] rfl rfl rfl rfl (run_V (As := [.int (s1 + (s2 * (36 : Int32))), .int ((v_fewest x3.toNatClampNeg) + (1 : Int32))]) (rest := []) X hP0 hD0 hS0 [0, 1, 2] rfl rfl (mX8_reach l G cI cO a_ a_fewest a_queue  H0.size v_queued v_fewest v_queue ((s1 + (s2 * (36 : Int32)))) (((v_fewest x3.toNatClampNeg) + (1 : Int32))) hf1) mv_X8_reach ml_X8_30 ⟨Nat.le_of_ble_eq_true rfl, Nat.le_of_ble_eq_true rfl⟩ rfl rfl 0 7 rfl rfl rfl rfl hl0.1 rfl (Nat.le_of_ble_eq_true rfl) ⟨Nat.zero_le _, Nat.zero_le _⟩ dX8_spread_100) (fun H2 locs2 hP2 hD2 hS2 => ?_)
  clear hf1
  exact bX8_spread_103 X hk_15 v_fewest_1 v_queue_1 v_queued_1 x1 x3 x4 x5 x6 x7 H2 locs2 hP2 hD2 hS2 ls0 (lv_sub hl0 [0, 1, 2, 3, 4, 5, 6] rfl) h
set_option maxHeartbeats 4000000 in
set_option maxRecDepth 100000 in
theorem bX8_spread_71 {p : Program} {l : Launch} {e : Env} {s : State} {m : MethodId} {args : Array Value} {below : List Frame} {meth : Method} {c : Code} {G : va_G} {cI cO : ClassId} {A : Nat → Prop} {a_ a_fewest a_queue : Nat} {o_fewest : Nat → Int32} {o_queue : Nat → Int32} {o_queued : Int32} (X : BX p rmX8_spread s m args meth c cX8_spread 10 none RX8 G cI cO A) {k_15 : (Nat → Int32) → (Nat → Int32) → Int32 → Int64 → Int32 → Int32 → Int32 → Int32 → Int32 → Option ((Nat → Int32) × (Nat → Int32) × Int32)} (hk_15 : SX8_spread_15 p l e s m args below meth c G cI cO A a_ a_fewest a_queue o_fewest o_queue o_queued k_15) : SX8_spread_71 p l e s m args below meth c G cI cO A a_ a_fewest a_queue o_fewest o_queue o_queued (fX8_spread_71 k_15) := by
  intro v_fewest v_queue v_queued x1 x3 x4 x5 x6 x7 x8 x9 H0 locs0 hP0 hD0 hS0 ls0 hl0 h
  unfold fX8_spread_71 at h
  obtain ⟨hx, hb, hml, hr, hown, hts, hlocks, hK, hN, hA, hZ⟩ := id X
  refine lv_aload_n hx hb dX8_spread_71 rfl (lv_at hl0 0 rfl) ?_
  refine lv_iload hx hb dX8_spread_72 (lv_at hl0 7 rfl) ?_
  refine lv_iload hx hb dX8_spread_74 (lv_at hl0 8 rfl) ?_
  refine lv_if_eq (tgt := 84) hx hb dX8_spread_76 (by decide) (fun hc => ?_) (fun hc => ?_)
  · replace h := t_pos h hc
    clear hc
    refine lv_iload hx hb dX8_spread_84 (lv_at hl0 5 rfl) ?_
    refine lv_iconst (v := (1 : Int32)) hx hb dX8_spread_86 (by decide) ?_
    refine lv_iadd hx hb dX8_spread_87 ?_
    exact bX8_spread_88 X hk_15 v_fewest v_queue v_queued x1 x3 x4 x5 x6 x7 x8 ((x6 + (1 : Int32))) H0 locs0 hP0 hD0 hS0 ls0 (lv_sub hl0 [0, 1, 2, 3, 4, 5, 6] rfl) h
  · replace h := t_neg h hc
    clear hc
    refine lv_iload hx hb dX8_spread_79 (lv_at hl0 5 rfl) ?_
    refine lv_goto (tgt := 88) hx hb dX8_spread_81 (by decide) ?_
    exact bX8_spread_88 X hk_15 v_fewest v_queue v_queued x1 x3 x4 x5 x6 x7 x8 x6 H0 locs0 hP0 hD0 hS0 ls0 (lv_sub hl0 [0, 1, 2, 3, 4, 5, 6] rfl) h
set_option maxHeartbeats 4000000 in
set_option maxRecDepth 100000 in
theorem bX8_spread_57 {p : Program} {l : Launch} {e : Env} {s : State} {m : MethodId} {args : Array Value} {below : List Frame} {meth : Method} {c : Code} {G : va_G} {cI cO : ClassId} {A : Nat → Prop} {a_ a_fewest a_queue : Nat} {o_fewest : Nat → Int32} {o_queue : Nat → Int32} {o_queued : Int32} (X : BX p rmX8_spread s m args meth c cX8_spread 10 none RX8 G cI cO A) {k_15 : (Nat → Int32) → (Nat → Int32) → Int32 → Int64 → Int32 → Int32 → Int32 → Int32 → Int32 → Option ((Nat → Int32) × (Nat → Int32) × Int32)} (hk_15 : SX8_spread_15 p l e s m args below meth c G cI cO A a_ a_fewest a_queue o_fewest o_queue o_queued k_15) : SX8_spread_57 p l e s m args below meth c G cI cO A a_ a_fewest a_queue o_fewest o_queue o_queued (fX8_spread_57 k_15) := by
  intro v_fewest v_queue v_queued x1 x3 x4 x5 x6 x7 x8 s0 H0 locs0 hP0 hD0 hS0 ls0 hl0 h
  unfold fX8_spread_57 at h
  obtain ⟨hx, hb, hml, hr, hown, hts, hlocks, hK, hN, hA, hZ⟩ := id X
  refine lv_istore (lv' := [(9, .int s0), (0, .ref a_), (1, .long x1), (3, .int x3), (4, .int x4), (5, .int x5), (6, .int x6), (7, .int x7), (8, .int x8)]) hx hb dX8_spread_57 hl0 (by decide) rfl (fun ls1 hl1 => ?_)
  refine lv_iload hx hb dX8_spread_59 (lv_at hl1 0 rfl) ?_
  refine lv_if_ne (tgt := 71) hx hb dX8_spread_61 (by decide) (fun hc => ?_) (fun hc => ?_)
  · replace h := t_neg h hc
    clear hc
    exact bX8_spread_71 X hk_15 v_fewest v_queue v_queued x1 x3 x4 x5 x6 x7 x8 s0 H0 locs0 hP0 hD0 hS0 ls1 (lv_sub hl1 [1, 2, 3, 4, 5, 6, 7, 8, 0] rfl) h
  · replace h := t_pos h hc
    clear hc
    refine lv_iload hx hb dX8_spread_64 (lv_at hl1 6 rfl) ?_
    refine lv_iload hx hb dX8_spread_66 (lv_at hl1 4 rfl) ?_
    refine lv_icmp_ge (tgt := 103) hx hb dX8_spread_68 (by decide) (fun hc => ?_) (fun hc => ?_)
    · replace h := t_pos h hc
      clear hc
      exact bX8_spread_103 X hk_15 v_fewest v_queue v_queued x1 x3 x4 x5 x6 x7 H0 locs0 hP0 hD0 hS0 ls1 (lv_sub hl1 [1, 2, 3, 4, 5, 6, 7] rfl) h
    · replace h := t_neg h hc
      clear hc
      exact bX8_spread_71 X hk_15 v_fewest v_queue v_queued x1 x3 x4 x5 x6 x7 x8 s0 H0 locs0 hP0 hD0 hS0 ls1 (lv_sub hl1 [1, 2, 3, 4, 5, 6, 7, 8, 0] rfl) h
set_option maxHeartbeats 4000000 in
set_option maxRecDepth 100000 in
theorem bX8_spread_15 {p : Program} {l : Launch} {e : Env} {s : State} {m : MethodId} {args : Array Value} {below : List Frame} {meth : Method} {c : Code} {G : va_G} {cI cO : ClassId} {A : Nat → Prop} {a_ a_fewest a_queue : Nat} {o_fewest : Nat → Int32} {o_queue : Nat → Int32} {o_queued : Int32} (X : BX p rmX8_spread s m args meth c cX8_spread 10 none RX8 G cI cO A) : ∀ n : Nat, SX8_spread_15 p l e s m args below meth c G cI cO A a_ a_fewest a_queue o_fewest o_queue o_queued (fX8_spread_15 n) := by
  intro n
  induction n with
  | zero => intro v_fewest v_queue v_queued x1 x3 x4 x5 x6 x7 H0 locs0 hP0 hD0 hS0 ls0 hl0 h; exact absurd h (by simp [fX8_spread_15])
  | succ n ih =>
    intro v_fewest v_queue v_queued x1 x3 x4 x5 x6 x7 H0 locs0 hP0 hD0 hS0 ls0 hl0 h
    rw [fX8_spread_15] at h
    obtain ⟨hx, hb, hml, hr, hown, hts, hlocks, hK, hN, hA, hZ⟩ := id X
    refine lv_iload hx hb dX8_spread_15 (lv_at hl0 6 rfl) ?_
    refine lv_iconst (v := (4 : Int32)) hx hb dX8_spread_17 (by decide) ?_
    refine lv_icmp_ge (tgt := 109) hx hb dX8_spread_18 (by decide) (fun hc => ?_) (fun hc => ?_)
    · replace h := t_pos h hc
      clear hc
      obtain ⟨ez0, ez1, ez2⟩ := r_eq3 h
      subst ez0; subst ez1; subst ez2
      exact ret_v X hP0 hS0 dX8_spread_109
    · replace h := t_neg h hc
      clear hc
      refine lv_iload hx hb dX8_spread_21 (lv_at hl0 4 rfl) ?_
      refine lv_iload hx hb dX8_spread_23 (lv_at hl0 6 rfl) ?_
      replace h := g_ob1 h
      obtain ⟨r1, hf1, h⟩ := h
      refine cal_i (wc := []) (w1 := []) (wn := [(a_, .inr (7, [.ref a_fewest, .ref a_queue, .int v_queued])), (a_fewest, .inl (cI, 72, .inl v_fewest)), (a_queue, .inl (cI, 72, .inl v_queue))]) X hP0 hD0 hS0 [] rfl rfl rfl rfl (run_S (As := [.int x5, .int x7]) (rest := []) X hP0 hD0 hS0 [] rfl rfl (mX3_next l G cI cO   H0.size  x5 x7 hf1) ms_X3_next ml_X8_62 ⟨Nat.le_of_ble_eq_true rfl, Nat.le_of_ble_eq_true rfl⟩ rfl rfl rfl hl0.1 rfl (Nat.le_of_ble_eq_true rfl) ⟨Nat.zero_le _, Nat.zero_le _⟩ dX8_spread_25) (fun H2 locs2 hP2 hD2 hS2 => ?_)
      clear hf1
      refine lv_istore (lv' := [(8, .int r1), (0, .ref a_), (1, .long x1), (3, .int x3), (4, .int x4), (5, .int x5), (6, .int x6), (7, .int x7)]) hx hb dX8_spread_28 hl0 (by decide) rfl (fun ls3 hl3 => ?_)
      refine lv_iload hx hb dX8_spread_30 (lv_at hl3 0 rfl) ?_
      refine lv_if_ge (tgt := 38) hx hb dX8_spread_32 (by decide) (fun hc => ?_) (fun hc => ?_)
      · replace h := t_pos h hc
        clear hc
        refine lv_lload_n hx hb dX8_spread_38 rfl (lv_at hl3 2 rfl) ?_
        refine lv_iload hx hb dX8_spread_39 (lv_at hl3 5 rfl) ?_
        refine lv_iload hx hb dX8_spread_41 (lv_at hl3 0 rfl) ?_
        replace h := g_ob1 h
        obtain ⟨r4, hf4, h⟩ := h
        refine cal_l (wc := []) (w1 := []) (wn := [(a_, .inr (7, [.ref a_fewest, .ref a_queue, .int v_queued])), (a_fewest, .inl (cI, 72, .inl v_fewest)), (a_queue, .inl (cI, 72, .inl v_queue))]) X hP2 hD2 hS2 [] rfl rfl rfl rfl (run_S (As := [.int x5, .int r1]) (rest := [.long x1]) X hP2 hD2 hS2 [] rfl rfl (mX3_between l G cI cO   H2.size  x5 r1 hf4) ms_X3_between ml_X8_65 ⟨Nat.le_of_ble_eq_true rfl, Nat.le_of_ble_eq_true rfl⟩ rfl rfl rfl hl3.1 rfl (Nat.le_of_ble_eq_true rfl) ⟨Nat.zero_le _, Nat.zero_le _⟩ dX8_spread_43) (fun H5 locs5 hP5 hD5 hS5 => ?_)
        clear hf4 hP2 hD2 hS2
        refine lv_land hx hb dX8_spread_46 ?_
        refine lv_lconst (v := (0 : Int64)) hx hb dX8_spread_47 (by decide) ?_
        refine W.lcmp hx hb dX8_spread_48 ?_
        refine lv_if_eq (tgt := 56) hx hb dX8_spread_49 (by decide) (fun hc => ?_) (fun hc => ?_)
        · replace h := t_pos h hc
          clear hc
          refine lv_iconst (v := (0 : Int32)) hx hb dX8_spread_56 (by decide) ?_
          exact bX8_spread_57 X ih v_fewest v_queue v_queued x1 x3 x4 x5 x6 x7 r1 (0 : Int32) H5 locs5 hP5 hD5 hS5 ls3 (lv_sub hl3 [1, 2, 3, 4, 5, 6, 7, 0] rfl) h
        · replace h := t_neg h hc
          clear hc
          refine lv_iconst (v := (1 : Int32)) hx hb dX8_spread_52 (by decide) ?_
          refine lv_goto (tgt := 57) hx hb dX8_spread_53 (by decide) ?_
          exact bX8_spread_57 X ih v_fewest v_queue v_queued x1 x3 x4 x5 x6 x7 r1 (1 : Int32) H5 locs5 hP5 hD5 hS5 ls3 (lv_sub hl3 [1, 2, 3, 4, 5, 6, 7, 0] rfl) h
      · replace h := t_neg h hc
        clear hc
        refine lv_goto (tgt := 103) hx hb dX8_spread_35 (by decide) ?_
        exact bX8_spread_103 X ih v_fewest v_queue v_queued x1 x3 x4 x5 x6 x7 H2 locs2 hP2 hD2 hS2 ls3 (lv_sub hl3 [1, 2, 3, 4, 5, 6, 7] rfl) h
set_option maxHeartbeats 4000000 in
set_option maxRecDepth 100000 in
theorem mX8_spread (l : Launch) (G : va_G) (cI cO : ClassId) (a_ a_fewest a_queue : Nat) (sz : Nat) (v_queued : Int32) (v_fewest : Nat → Int32) (v_queue : Nat → Int32) (x1 : Int64) (x3 : Int32) (x4 : Int32) {o_fewest : Nat → Int32} {o_queue : Nat → Int32} {o_queued : Int32} (h : fX8_spread v_fewest v_queue v_queued x1 x3 x4 = some (o_fewest, o_queue, o_queued)) : Met l yX8_spread (wsM yX8_spread cX8_spread 10 none) rmX8_spread (va_Pc [.ref a_, .long x1, .int x3, .int x4] (preW G cI cO sz [(a_, .inr (7, [.ref a_fewest, .ref a_queue, .int v_queued])), (a_fewest, .inl (cI, 72, .inl v_fewest)), (a_queue, .inl (cI, 72, .inl v_queue))])) (QcV G (va_A [(a_, .inr (7, [.ref a_fewest, .ref a_queue, .int v_queued])), (a_fewest, .inl (cI, 72, .inl v_fewest)), (a_queue, .inl (cI, 72, .inl v_queue))] sz) [(a_, .inr (7, [.ref a_fewest, .ref a_queue, .int o_queued])), (a_fewest, .inl (cI, 72, .inl o_fewest)), (a_queue, .inl (cI, 72, .inl o_queue))]) 0 0 (va_A [(a_, .inr (7, [.ref a_fewest, .ref a_queue, .int v_queued])), (a_fewest, .inl (cI, 72, .inl v_fewest)), (a_queue, .inl (cI, 72, .inl v_queue))] sz) := by
  refine mkMet (own := RX8) (by decide) rfl (Nat.le_of_ble_eq_true rfl) ?_
  intro p e s m args below meth c _ hsz _ X hP0 hD0 ls0 hl0
  have hS0 : va_S (va_A [(a_, .inr (7, [.ref a_fewest, .ref a_queue, .int v_queued])), (a_fewest, .inl (cI, 72, .inl v_fewest)), (a_queue, .inl (cI, 72, .inl v_queue))] sz) s.heap s.heap [] := va_S.rf
  replace hl0 : lv_has ls0 10 [(0, .ref a_), (1, .long x1), (3, .int x3), (4, .int x4)] := hl0
  generalize va_A [(a_, .inr (7, [.ref a_fewest, .ref a_queue, .int v_queued])), (a_fewest, .inl (cI, 72, .inl v_fewest)), (a_queue, .inl (cI, 72, .inl v_queue))] sz = A at X hD0 hS0 ⊢
  unfold fX8_spread at h
  obtain ⟨hx, hb, hml, hr, hown, hts, hlocks, hK, hN, hA, hZ⟩ := id X
  refine lv_iload_n hx hb dX8_spread_0 rfl (lv_at hl0 2 rfl) ?_
  refine lv_bipush (v := (36 : Int32)) hx hb dX8_spread_1 (by decide) ?_
  refine lv_irem hx hb dX8_spread_3 (by decide) ?_
  refine lv_topi (fun y1 ey1 => ?_)
  replace h := g_let h ey1
  clear ey1
  refine lv_istore (lv' := [(5, .int y1), (0, .ref a_), (1, .long x1), (3, .int x3), (4, .int x4)]) hx hb dX8_spread_4 hl0 (by decide) rfl (fun ls2 hl2 => ?_)
  refine lv_iload_n hx hb dX8_spread_6 rfl (lv_at hl2 3 rfl) ?_
  refine lv_bipush (v := (36 : Int32)) hx hb dX8_spread_7 (by decide) ?_
  refine lv_idiv hx hb dX8_spread_9 (by decide) ?_
  refine lv_topi (fun y3 ey3 => ?_)
  replace h := g_let h ey3
  clear ey3
  refine lv_istore (lv' := [(6, .int y3), (5, .int y1), (0, .ref a_), (1, .long x1), (3, .int x3), (4, .int x4)]) hx hb dX8_spread_10 hl2 (by decide) rfl (fun ls4 hl4 => ?_)
  clear hl2
  refine lv_iconst (v := (0 : Int32)) hx hb dX8_spread_12 (by decide) ?_
  refine lv_istore (lv' := [(7, .int (0 : Int32)), (6, .int y3), (5, .int y1), (0, .ref a_), (1, .long x1), (3, .int x3), (4, .int x4)]) hx hb dX8_spread_13 hl4 (by decide) rfl (fun ls5 hl5 => ?_)
  clear hl4
  exact bX8_spread_15 X 4000 v_fewest v_queue v_queued x1 x3 x4 y1 y3 (0 : Int32) s.heap [] hP0 hD0 hS0 ls5 (lv_sub hl5 [3, 4, 5, 6, 2, 1, 0] rfl) h
/-! PloughMaze$Ways.measure -/
abbrev rmX8_measure : Room := { frames := 2, cells := 0, slots := 0, locals := 52 }
def SX8_measure_90 (p : Program) (l : Launch) (e : Env) (s : State) (m : MethodId) (args : Array Value) (below : List Frame) (meth : Method) (c : Code) (G : va_G) (cI cO : ClassId) (A : Nat → Prop) (a_ a_fewest a_queue a_p0 a_p0_furrow : Nat) (v_p0_eaten : Int64) (v_p0_closed : Int64) (v_p0_gaps : Int64) (v_p0_strawMen : Int64) (v_p0_months : Int32) (v_p0_middle : Int32) (v_p0_door : Int32) (v_p0_seenGaps : Int64) (v_p0_seenCorn : Int64) (v_p0_seenCount : Int32) (o_fewest : Nat → Int32) (o_queue : Nat → Int32) (o_queued : Int32) (k : (Nat → Int32) → (Nat → Int32) → Int32 → Int32 → Int32 → Int64 → Int32 → Option ((Nat → Int32) × (Nat → Int32) × Int32)) : Prop := ∀ (v_fewest : Nat → Int32) (v_queue : Nat → Int32) (v_queued : Int32) (x4 : Int32) (x5 : Int32) (x6 : Int64) (x8 : Int32) (H : Heap) (locs : List Loc), va_P G vwCl [(a_, .inr (7, [.ref a_fewest, .ref a_queue, .int v_queued])), (a_fewest, .inl (cI, 72, .inl v_fewest)), (a_queue, .inl (cI, 72, .inl v_queue)), (a_p0, .inr (1, [.ref a_p0_furrow, .long v_p0_eaten, .long v_p0_closed, .long v_p0_gaps, .long v_p0_strawMen, .int v_p0_months, .int v_p0_middle, .int v_p0_door, .long v_p0_seenGaps, .long v_p0_seenCorn, .int v_p0_seenCount]))] H → va_D A [(a_, .inr (7, [.ref a_fewest, .ref a_queue, .int v_queued])), (a_fewest, .inl (cI, 72, .inl v_fewest)), (a_queue, .inl (cI, 72, .inl v_queue)), (a_p0, .inr (1, [.ref a_p0_furrow, .long v_p0_eaten, .long v_p0_closed, .long v_p0_gaps, .long v_p0_strawMen, .int v_p0_months, .int v_p0_middle, .int v_p0_door, .long v_p0_seenGaps, .long v_p0_seenCorn, .int v_p0_seenCount]))] → va_S A s.heap H locs → ∀ (ls : Array Slot), lv_has ls 9 [(0, .ref a_), (1, .ref a_p0), (4, .int x4), (5, .int x5), (6, .long x6), (8, .int x8)] → k v_fewest v_queue v_queued x4 x5 x6 x8 = some (o_fewest, o_queue, o_queued) → W p l e rmX8_measure s m args below meth c H locs 0 0 (MQ below (QcV G A [(a_, .inr (7, [.ref a_fewest, .ref a_queue, .int o_queued])), (a_fewest, .inl (cI, 72, .inl o_fewest)), (a_queue, .inl (cI, 72, .inl o_queue)), (a_p0, .inr (1, [.ref a_p0_furrow, .long v_p0_eaten, .long v_p0_closed, .long v_p0_gaps, .long v_p0_strawMen, .int v_p0_months, .int v_p0_middle, .int v_p0_door, .long v_p0_seenGaps, .long v_p0_seenCorn, .int v_p0_seenCount]))]) args s 0 0 A) (F0 m 90 ls [])
def SX8_measure_75 (p : Program) (l : Launch) (e : Env) (s : State) (m : MethodId) (args : Array Value) (below : List Frame) (meth : Method) (c : Code) (G : va_G) (cI cO : ClassId) (A : Nat → Prop) (a_ a_fewest a_queue a_p0 a_p0_furrow : Nat) (v_p0_eaten : Int64) (v_p0_closed : Int64) (v_p0_gaps : Int64) (v_p0_strawMen : Int64) (v_p0_months : Int32) (v_p0_middle : Int32) (v_p0_door : Int32) (v_p0_seenGaps : Int64) (v_p0_seenCorn : Int64) (v_p0_seenCount : Int32) (o_fewest : Nat → Int32) (o_queue : Nat → Int32) (o_queued : Int32) (k : (Nat → Int32) → (Nat → Int32) → Int32 → Int32 → Int32 → Int64 → Int32 → Option ((Nat → Int32) × (Nat → Int32) × Int32)) : Prop := ∀ (v_fewest : Nat → Int32) (v_queue : Nat → Int32) (v_queued : Int32) (x4 : Int32) (x5 : Int32) (x6 : Int64) (x8 : Int32) (H : Heap) (locs : List Loc), va_P G vwCl [(a_, .inr (7, [.ref a_fewest, .ref a_queue, .int v_queued])), (a_fewest, .inl (cI, 72, .inl v_fewest)), (a_queue, .inl (cI, 72, .inl v_queue)), (a_p0, .inr (1, [.ref a_p0_furrow, .long v_p0_eaten, .long v_p0_closed, .long v_p0_gaps, .long v_p0_strawMen, .int v_p0_months, .int v_p0_middle, .int v_p0_door, .long v_p0_seenGaps, .long v_p0_seenCorn, .int v_p0_seenCount]))] H → va_D A [(a_, .inr (7, [.ref a_fewest, .ref a_queue, .int v_queued])), (a_fewest, .inl (cI, 72, .inl v_fewest)), (a_queue, .inl (cI, 72, .inl v_queue)), (a_p0, .inr (1, [.ref a_p0_furrow, .long v_p0_eaten, .long v_p0_closed, .long v_p0_gaps, .long v_p0_strawMen, .int v_p0_months, .int v_p0_middle, .int v_p0_door, .long v_p0_seenGaps, .long v_p0_seenCorn, .int v_p0_seenCount]))] → va_S A s.heap H locs → ∀ (ls : Array Slot), lv_has ls 9 [(0, .ref a_), (1, .ref a_p0), (4, .int x4), (5, .int x5), (6, .long x6), (8, .int x8)] → k v_fewest v_queue v_queued x4 x5 x6 x8 = some (o_fewest, o_queue, o_queued) → W p l e rmX8_measure s m args below meth c H locs 0 0 (MQ below (QcV G A [(a_, .inr (7, [.ref a_fewest, .ref a_queue, .int o_queued])), (a_fewest, .inl (cI, 72, .inl o_fewest)), (a_queue, .inl (cI, 72, .inl o_queue)), (a_p0, .inr (1, [.ref a_p0_furrow, .long v_p0_eaten, .long v_p0_closed, .long v_p0_gaps, .long v_p0_strawMen, .int v_p0_months, .int v_p0_middle, .int v_p0_door, .long v_p0_seenGaps, .long v_p0_seenCorn, .int v_p0_seenCount]))]) args s 0 0 A) (F0 m 75 ls [])
def SX8_measure_34 (p : Program) (l : Launch) (e : Env) (s : State) (m : MethodId) (args : Array Value) (below : List Frame) (meth : Method) (c : Code) (G : va_G) (cI cO : ClassId) (A : Nat → Prop) (a_ a_fewest a_queue a_p0 a_p0_furrow : Nat) (v_p0_eaten : Int64) (v_p0_closed : Int64) (v_p0_gaps : Int64) (v_p0_strawMen : Int64) (v_p0_months : Int32) (v_p0_middle : Int32) (v_p0_door : Int32) (v_p0_seenGaps : Int64) (v_p0_seenCorn : Int64) (v_p0_seenCount : Int32) (o_fewest : Nat → Int32) (o_queue : Nat → Int32) (o_queued : Int32) (k : (Nat → Int32) → (Nat → Int32) → Int32 → Int32 → Int32 → Int64 → Int32 → Option ((Nat → Int32) × (Nat → Int32) × Int32)) : Prop := ∀ (v_fewest : Nat → Int32) (v_queue : Nat → Int32) (v_queued : Int32) (x4 : Int32) (x5 : Int32) (x6 : Int64) (x8 : Int32) (H : Heap) (locs : List Loc), va_P G vwCl [(a_, .inr (7, [.ref a_fewest, .ref a_queue, .int v_queued])), (a_fewest, .inl (cI, 72, .inl v_fewest)), (a_queue, .inl (cI, 72, .inl v_queue)), (a_p0, .inr (1, [.ref a_p0_furrow, .long v_p0_eaten, .long v_p0_closed, .long v_p0_gaps, .long v_p0_strawMen, .int v_p0_months, .int v_p0_middle, .int v_p0_door, .long v_p0_seenGaps, .long v_p0_seenCorn, .int v_p0_seenCount]))] H → va_D A [(a_, .inr (7, [.ref a_fewest, .ref a_queue, .int v_queued])), (a_fewest, .inl (cI, 72, .inl v_fewest)), (a_queue, .inl (cI, 72, .inl v_queue)), (a_p0, .inr (1, [.ref a_p0_furrow, .long v_p0_eaten, .long v_p0_closed, .long v_p0_gaps, .long v_p0_strawMen, .int v_p0_months, .int v_p0_middle, .int v_p0_door, .long v_p0_seenGaps, .long v_p0_seenCorn, .int v_p0_seenCount]))] → va_S A s.heap H locs → ∀ (ls : Array Slot), lv_has ls 9 [(0, .ref a_), (1, .ref a_p0), (4, .int x4), (5, .int x5), (6, .long x6), (8, .int x8)] → k v_fewest v_queue v_queued x4 x5 x6 x8 = some (o_fewest, o_queue, o_queued) → W p l e rmX8_measure s m args below meth c H locs 0 0 (MQ below (QcV G A [(a_, .inr (7, [.ref a_fewest, .ref a_queue, .int o_queued])), (a_fewest, .inl (cI, 72, .inl o_fewest)), (a_queue, .inl (cI, 72, .inl o_queue)), (a_p0, .inr (1, [.ref a_p0_furrow, .long v_p0_eaten, .long v_p0_closed, .long v_p0_gaps, .long v_p0_strawMen, .int v_p0_months, .int v_p0_middle, .int v_p0_door, .long v_p0_seenGaps, .long v_p0_seenCorn, .int v_p0_seenCount]))]) args s 0 0 A) (F0 m 34 ls [])
def SX8_measure_29 (p : Program) (l : Launch) (e : Env) (s : State) (m : MethodId) (args : Array Value) (below : List Frame) (meth : Method) (c : Code) (G : va_G) (cI cO : ClassId) (A : Nat → Prop) (a_ a_fewest a_queue a_p0 a_p0_furrow : Nat) (v_p0_eaten : Int64) (v_p0_closed : Int64) (v_p0_gaps : Int64) (v_p0_strawMen : Int64) (v_p0_months : Int32) (v_p0_middle : Int32) (v_p0_door : Int32) (v_p0_seenGaps : Int64) (v_p0_seenCorn : Int64) (v_p0_seenCount : Int32) (o_fewest : Nat → Int32) (o_queue : Nat → Int32) (o_queued : Int32) (k : (Nat → Int32) → (Nat → Int32) → Int32 → Int32 → Int32 → Int64 → Option ((Nat → Int32) × (Nat → Int32) × Int32)) : Prop := ∀ (v_fewest : Nat → Int32) (v_queue : Nat → Int32) (v_queued : Int32) (x4 : Int32) (x5 : Int32) (s0 : Int64) (H : Heap) (locs : List Loc), va_P G vwCl [(a_, .inr (7, [.ref a_fewest, .ref a_queue, .int v_queued])), (a_fewest, .inl (cI, 72, .inl v_fewest)), (a_queue, .inl (cI, 72, .inl v_queue)), (a_p0, .inr (1, [.ref a_p0_furrow, .long v_p0_eaten, .long v_p0_closed, .long v_p0_gaps, .long v_p0_strawMen, .int v_p0_months, .int v_p0_middle, .int v_p0_door, .long v_p0_seenGaps, .long v_p0_seenCorn, .int v_p0_seenCount]))] H → va_D A [(a_, .inr (7, [.ref a_fewest, .ref a_queue, .int v_queued])), (a_fewest, .inl (cI, 72, .inl v_fewest)), (a_queue, .inl (cI, 72, .inl v_queue)), (a_p0, .inr (1, [.ref a_p0_furrow, .long v_p0_eaten, .long v_p0_closed, .long v_p0_gaps, .long v_p0_strawMen, .int v_p0_months, .int v_p0_middle, .int v_p0_door, .long v_p0_seenGaps, .long v_p0_seenCorn, .int v_p0_seenCount]))] → va_S A s.heap H locs → ∀ (ls : Array Slot), lv_has ls 9 [(0, .ref a_), (1, .ref a_p0), (4, .int x4), (5, .int x5)] → k v_fewest v_queue v_queued x4 x5 s0 = some (o_fewest, o_queue, o_queued) → W p l e rmX8_measure s m args below meth c H locs 0 0 (MQ below (QcV G A [(a_, .inr (7, [.ref a_fewest, .ref a_queue, .int o_queued])), (a_fewest, .inl (cI, 72, .inl o_fewest)), (a_queue, .inl (cI, 72, .inl o_queue)), (a_p0, .inr (1, [.ref a_p0_furrow, .long v_p0_eaten, .long v_p0_closed, .long v_p0_gaps, .long v_p0_strawMen, .int v_p0_months, .int v_p0_middle, .int v_p0_door, .long v_p0_seenGaps, .long v_p0_seenCorn, .int v_p0_seenCount]))]) args s 0 0 A) (F0 m 29 ls [.long s0])
set_option maxHeartbeats 4000000 in
set_option maxRecDepth 100000 in
theorem bX8_measure_90 {p : Program} {l : Launch} {e : Env} {s : State} {m : MethodId} {args : Array Value} {below : List Frame} {meth : Method} {c : Code} {G : va_G} {cI cO : ClassId} {A : Nat → Prop} {a_ a_fewest a_queue a_p0 a_p0_furrow : Nat} {v_p0_eaten : Int64} {v_p0_closed : Int64} {v_p0_gaps : Int64} {v_p0_strawMen : Int64} {v_p0_months : Int32} {v_p0_middle : Int32} {v_p0_door : Int32} {v_p0_seenGaps : Int64} {v_p0_seenCorn : Int64} {v_p0_seenCount : Int32} {o_fewest : Nat → Int32} {o_queue : Nat → Int32} {o_queued : Int32} (X : BX p rmX8_measure s m args meth c cX8_measure 9 none RX8 G cI cO A) {k_34 : (Nat → Int32) → (Nat → Int32) → Int32 → Int32 → Int32 → Int64 → Int32 → Option ((Nat → Int32) × (Nat → Int32) × Int32)} (hk_34 : SX8_measure_34 p l e s m args below meth c G cI cO A a_ a_fewest a_queue a_p0 a_p0_furrow v_p0_eaten v_p0_closed v_p0_gaps v_p0_strawMen v_p0_months v_p0_middle v_p0_door v_p0_seenGaps v_p0_seenCorn v_p0_seenCount o_fewest o_queue o_queued k_34) : SX8_measure_90 p l e s m args below meth c G cI cO A a_ a_fewest a_queue a_p0 a_p0_furrow v_p0_eaten v_p0_closed v_p0_gaps v_p0_strawMen v_p0_months v_p0_middle v_p0_door v_p0_seenGaps v_p0_seenCorn v_p0_seenCount o_fewest o_queue o_queued (fX8_measure_90 k_34) := by
  intro v_fewest v_queue v_queued x4 x5 x6 x8 H0 locs0 hP0 hD0 hS0 ls0 hl0 h
  unfold fX8_measure_90 at h
  obtain ⟨hx, hb, hml, hr, hown, hts, hlocks, hK, hN, hA, hZ⟩ := id X
  refine lv_iinc (v := (x8 + (1 : Int32))) (lv' := [(8, .int (x8 + (1 : Int32))), (0, .ref a_), (1, .ref a_p0), (4, .int x4), (5, .int x5), (6, .long x6)]) hx hb dX8_measure_90 hl0 (k := 5) rfl (congrArg (fun z => x8 + z) (by decide : Int32.ofInt (1) = (1 : Int32))) (by decide) rfl (fun ls1 hl1 => ?_)
  refine lv_goto (tgt := 34) hx hb dX8_measure_93 (by decide) ?_
  exact hk_34 v_fewest v_queue v_queued x4 x5 x6 ((x8 + (1 : Int32))) H0 locs0 hP0 hD0 hS0 ls1 (lv_sub hl1 [1, 2, 3, 4, 5, 0] rfl) h
set_option maxHeartbeats 4000000 in
set_option maxRecDepth 100000 in
theorem bX8_measure_75 {p : Program} {l : Launch} {e : Env} {s : State} {m : MethodId} {args : Array Value} {below : List Frame} {meth : Method} {c : Code} {G : va_G} {cI cO : ClassId} {A : Nat → Prop} {a_ a_fewest a_queue a_p0 a_p0_furrow : Nat} {v_p0_eaten : Int64} {v_p0_closed : Int64} {v_p0_gaps : Int64} {v_p0_strawMen : Int64} {v_p0_months : Int32} {v_p0_middle : Int32} {v_p0_door : Int32} {v_p0_seenGaps : Int64} {v_p0_seenCorn : Int64} {v_p0_seenCount : Int32} {o_fewest : Nat → Int32} {o_queue : Nat → Int32} {o_queued : Int32} (X : BX p rmX8_measure s m args meth c cX8_measure 9 none RX8 G cI cO A) {k_34 : (Nat → Int32) → (Nat → Int32) → Int32 → Int32 → Int32 → Int64 → Int32 → Option ((Nat → Int32) × (Nat → Int32) × Int32)} (hk_34 : SX8_measure_34 p l e s m args below meth c G cI cO A a_ a_fewest a_queue a_p0 a_p0_furrow v_p0_eaten v_p0_closed v_p0_gaps v_p0_strawMen v_p0_months v_p0_middle v_p0_door v_p0_seenGaps v_p0_seenCorn v_p0_seenCount o_fewest o_queue o_queued k_34) : SX8_measure_75 p l e s m args below meth c G cI cO A a_ a_fewest a_queue a_p0 a_p0_furrow v_p0_eaten v_p0_closed v_p0_gaps v_p0_strawMen v_p0_months v_p0_middle v_p0_door v_p0_seenGaps v_p0_seenCorn v_p0_seenCount o_fewest o_queue o_queued (fX8_measure_75 k_34) := by
  intro v_fewest v_queue v_queued x4 x5 x6 x8 H0 locs0 hP0 hD0 hS0 ls0 hl0 h
  unfold fX8_measure_75 at h
  obtain ⟨hx, hb, hml, hr, hown, hts, hlocks, hK, hN, hA, hZ⟩ := id X
  refine lv_aload_n hx hb dX8_measure_75 rfl (lv_at hl0 0 rfl) ?_
  refine lv_lload hx hb dX8_measure_76 (lv_at hl0 4 rfl) ?_
  refine lv_aload_n hx hb dX8_measure_78 rfl (lv_at hl0 0 rfl) ?_
  refine va_get (D := G) (ci := 7) (v := .ref a_queue) (C := RX8) (T := TX8) (N := 3) hx hb hts gwX8 hown hK hP0 0 rfl rfl 1 (by decide) (hts _ fl_X8_15) (fun _ h9 => h9) rfl dX8_measure_79 ?_
  refine lv_iload hx hb dX8_measure_82 (lv_at hl0 5 rfl) ?_
  replace h := g_in h; obtain ⟨hg, h⟩ := h
  refine va_iald hx hb hK hP0 2 0 rfl rfl (inb_ok hg) dX8_measure_84 ?_
  clear hg
  refine lv_iload hx hb dX8_measure_85 (lv_at hl0 2 rfl) ?_
  replace h := g_ob3 h
  obtain ⟨v_fewest_1, v_queue_1, v_queued_1, hf1, h⟩ := h
  refine cal_v (wc := [(a_, .inr (7, [.ref a_fewest, .ref a_queue, .int v_queued])), (a_fewest, .inl (cI, 72, .inl v_fewest)), (a_queue, .inl (cI, 72, .inl v_queue))]) (w1 := [(a_, .inr (7, [.ref a_fewest, .ref a_queue, .int v_queued_1])), (a_fewest, .inl (cI, 72, .inl v_fewest_1)), (a_queue, .inl (cI, 72, .inl v_queue_1))]) (wn := [(a_, .inr (7, [.ref a_fewest, .ref a_queue, .int v_queued_1])), (a_fewest, .inl (cI, 72, .inl v_fewest_1)), (a_queue, .inl (cI, 72, .inl v_queue_1)), (a_p0, .inr (1, [.ref a_p0_furrow, .long v_p0_eaten, .long v_p0_closed, .long v_p0_gaps, .long v_p0_strawMen, .int v_p0_months, .int v_p0_middle, .int v_p0_door, .long v_p0_seenGaps, .long v_p0_seenCorn, .int v_p0_seenCount]))]) X hP0 hD0 hS0 [0, 1, 2] rfl rfl rfl rfl (run_V (As := [.long x6, .int (v_queue x8.toNatClampNeg), .int x4]) (rest := []) X hP0 hD0 hS0 [0, 1, 2] rfl rfl (mX8_spread l G cI cO a_ a_fewest a_queue  H0.size v_queued v_fewest v_queue x6 ((v_queue x8.toNatClampNeg)) x4 hf1) mv_X8_spread ml_X8_44 ⟨Nat.le_of_ble_eq_true rfl, Nat.le_of_ble_eq_true rfl⟩ rfl rfl 0 7 rfl rfl rfl rfl hl0.1 rfl (Nat.le_of_ble_eq_true rfl) ⟨Nat.zero_le _, Nat.zero_le _⟩ dX8_measure_87) (fun H2 locs2 hP2 hD2 hS2 => ?_)
  clear hf1
  exact bX8_measure_90 X hk_34 v_fewest_1 v_queue_1 v_queued_1 x4 x5 x6 x8 H2 locs2 hP2 hD2 hS2 ls0 (lv_sub hl0 [0, 1, 2, 3, 4, 5] rfl) h
set_option maxHeartbeats 4000000 in
set_option maxRecDepth 100000 in
theorem bX8_measure_34 {p : Program} {l : Launch} {e : Env} {s : State} {m : MethodId} {args : Array Value} {below : List Frame} {meth : Method} {c : Code} {G : va_G} {cI cO : ClassId} {A : Nat → Prop} {a_ a_fewest a_queue a_p0 a_p0_furrow : Nat} {v_p0_eaten : Int64} {v_p0_closed : Int64} {v_p0_gaps : Int64} {v_p0_strawMen : Int64} {v_p0_months : Int32} {v_p0_middle : Int32} {v_p0_door : Int32} {v_p0_seenGaps : Int64} {v_p0_seenCorn : Int64} {v_p0_seenCount : Int32} {o_fewest : Nat → Int32} {o_queue : Nat → Int32} {o_queued : Int32} (X : BX p rmX8_measure s m args meth c cX8_measure 9 none RX8 G cI cO A) : ∀ n : Nat, SX8_measure_34 p l e s m args below meth c G cI cO A a_ a_fewest a_queue a_p0 a_p0_furrow v_p0_eaten v_p0_closed v_p0_gaps v_p0_strawMen v_p0_months v_p0_middle v_p0_door v_p0_seenGaps v_p0_seenCorn v_p0_seenCount o_fewest o_queue o_queued (fX8_measure_34 v_p0_strawMen n) := by
  intro n
  induction n with
  | zero => intro v_fewest v_queue v_queued x4 x5 x6 x8 H0 locs0 hP0 hD0 hS0 ls0 hl0 h; exact absurd h (by simp [fX8_measure_34])
  | succ n ih =>
    intro v_fewest v_queue v_queued x4 x5 x6 x8 H0 locs0 hP0 hD0 hS0 ls0 hl0 h
    rw [fX8_measure_34] at h
    obtain ⟨hx, hb, hml, hr, hown, hts, hlocks, hK, hN, hA, hZ⟩ := id X
    refine lv_iload hx hb dX8_measure_34 (lv_at hl0 5 rfl) ?_
    refine lv_aload_n hx hb dX8_measure_36 rfl (lv_at hl0 0 rfl) ?_
    refine va_get (D := G) (ci := 7) (v := .int v_queued) (C := RX8) (T := TX8) (N := 3) hx hb hts gwX8 hown hK hP0 0 rfl rfl 2 (by decide) (hts _ fl_X8_18) (fun _ h9 => h9) rfl dX8_measure_37 ?_
    refine lv_icmp_ge (tgt := 96) hx hb dX8_measure_40 (by decide) (fun hc => ?_) (fun hc => ?_)
    · replace h := t_pos h hc
      clear hc
      obtain ⟨ez0, ez1, ez2⟩ := r_eq3 h
      subst ez0; subst ez1; subst ez2
      exact ret_v X hP0 hS0 dX8_measure_96
    · replace h := t_neg h hc
      clear hc
      refine lv_iload hx hb dX8_measure_43 (lv_at hl0 5 rfl) ?_
      refine lv_aload_n hx hb dX8_measure_45 rfl (lv_at hl0 0 rfl) ?_
      refine va_get (D := G) (ci := 7) (v := .ref a_queue) (C := RX8) (T := TX8) (N := 3) hx hb hts gwX8 hown hK hP0 0 rfl rfl 1 (by decide) (hts _ fl_X8_15) (fun _ h9 => h9) rfl dX8_measure_46 ?_
      refine va_alen (v := (72 : Int32)) hx hb hK hP0 2 0 rfl rfl (show Int32.ofNat 72 = 72 by decide) dX8_measure_49 ?_
      refine lv_icmp_ge (tgt := 96) hx hb dX8_measure_50 (by decide) (fun hc => ?_) (fun hc => ?_)
      · replace h := t_pos h hc
        clear hc
        obtain ⟨ez0, ez1, ez2⟩ := r_eq3 h
        subst ez0; subst ez1; subst ez2
        exact ret_v X hP0 hS0 dX8_measure_96
      · replace h := t_neg h hc
        clear hc
        refine lv_iload hx hb dX8_measure_53 (lv_at hl0 3 rfl) ?_
        refine lv_if_ne (tgt := 75) hx hb dX8_measure_55 (by decide) (fun hc => ?_) (fun hc => ?_)
        · replace h := t_neg h hc
          clear hc
          exact bX8_measure_75 X ih v_fewest v_queue v_queued x4 x5 x6 x8 H0 locs0 hP0 hD0 hS0 ls0 (lv_sub hl0 [0, 1, 2, 3, 4, 5] rfl) h
        · replace h := t_pos h hc
          clear hc
          refine lv_aload_n hx hb dX8_measure_58 rfl (lv_at hl0 1 rfl) ?_
          refine lv_aload_n hx hb dX8_measure_59 rfl (lv_at hl0 0 rfl) ?_
          refine va_get (D := G) (ci := 7) (v := .ref a_queue) (C := RX8) (T := TX8) (N := 3) hx hb hts gwX8 hown hK hP0 0 rfl rfl 1 (by decide) (hts _ fl_X8_15) (fun _ h9 => h9) rfl dX8_measure_60 ?_
          refine lv_iload hx hb dX8_measure_63 (lv_at hl0 5 rfl) ?_
          replace h := g_in h; obtain ⟨hg, h⟩ := h
          refine va_iald hx hb hK hP0 2 0 rfl rfl (inb_ok hg) dX8_measure_65 ?_
          clear hg
          refine lv_bipush (v := (36 : Int32)) hx hb dX8_measure_66 (by decide) ?_
          refine lv_irem hx hb dX8_measure_68 (by decide) ?_
          replace h := g_ob1 h
          obtain ⟨r1, hf1, h⟩ := h
          refine cal_i (wc := [(a_p0, .inr (1, [.ref a_p0_furrow, .long v_p0_eaten, .long v_p0_closed, .long v_p0_gaps, .long v_p0_strawMen, .int v_p0_months, .int v_p0_middle, .int v_p0_door, .long v_p0_seenGaps, .long v_p0_seenCorn, .int v_p0_seenCount]))]) (w1 := [(a_p0, .inr (1, [.ref a_p0_furrow, .long v_p0_eaten, .long v_p0_closed, .long v_p0_gaps, .long v_p0_strawMen, .int v_p0_months, .int v_p0_middle, .int v_p0_door, .long v_p0_seenGaps, .long v_p0_seenCorn, .int v_p0_seenCount]))]) (wn := [(a_, .inr (7, [.ref a_fewest, .ref a_queue, .int v_queued])), (a_fewest, .inl (cI, 72, .inl v_fewest)), (a_queue, .inl (cI, 72, .inl v_queue)), (a_p0, .inr (1, [.ref a_p0_furrow, .long v_p0_eaten, .long v_p0_closed, .long v_p0_gaps, .long v_p0_strawMen, .int v_p0_months, .int v_p0_middle, .int v_p0_door, .long v_p0_seenGaps, .long v_p0_seenCorn, .int v_p0_seenCount]))]) X hP0 hD0 hS0 [3] rfl rfl rfl rfl (run_V (As := [.int ((v_queue x8.toNatClampNeg) - (v_queue x8.toNatClampNeg) / (36 : Int32) * (36 : Int32))]) (rest := []) X hP0 hD0 hS0 [3] rfl rfl (mX1_hasStrawMan l G cI cO a_p0 a_p0_furrow  H0.size v_p0_eaten v_p0_closed v_p0_gaps v_p0_strawMen v_p0_months v_p0_middle v_p0_door v_p0_seenGaps v_p0_seenCorn v_p0_seenCount (((v_queue x8.toNatClampNeg) - (v_queue x8.toNatClampNeg) / (36 : Int32) * (36 : Int32))) hf1) mv_X1_hasStrawMan ml_X8_40 ⟨Nat.le_of_ble_eq_true rfl, Nat.le_of_ble_eq_true rfl⟩ rfl rfl 3 1 rfl rfl rfl rfl hl0.1 rfl (Nat.le_of_ble_eq_true rfl) ⟨Nat.zero_le _, Nat.zero_le _⟩ dX8_measure_69) (fun H2 locs2 hP2 hD2 hS2 => ?_)
          clear hf1
          refine lv_if_ne (tgt := 90) hx hb dX8_measure_72 (by decide) (fun hc => ?_) (fun hc => ?_)
          · replace h := t_neg h hc
            clear hc
            exact bX8_measure_90 X ih v_fewest v_queue v_queued x4 x5 x6 x8 H2 locs2 hP2 hD2 hS2 ls0 (lv_sub hl0 [0, 1, 2, 3, 4, 5] rfl) h
          · replace h := t_pos h hc
            clear hc
            exact bX8_measure_75 X ih v_fewest v_queue v_queued x4 x5 x6 x8 H2 locs2 hP2 hD2 hS2 ls0 (lv_sub hl0 [0, 1, 2, 3, 4, 5] rfl) h
set_option maxHeartbeats 4000000 in
set_option maxRecDepth 100000 in
theorem bX8_measure_29 {p : Program} {l : Launch} {e : Env} {s : State} {m : MethodId} {args : Array Value} {below : List Frame} {meth : Method} {c : Code} {G : va_G} {cI cO : ClassId} {A : Nat → Prop} {a_ a_fewest a_queue a_p0 a_p0_furrow : Nat} {v_p0_eaten : Int64} {v_p0_closed : Int64} {v_p0_gaps : Int64} {v_p0_strawMen : Int64} {v_p0_months : Int32} {v_p0_middle : Int32} {v_p0_door : Int32} {v_p0_seenGaps : Int64} {v_p0_seenCorn : Int64} {v_p0_seenCount : Int32} {o_fewest : Nat → Int32} {o_queue : Nat → Int32} {o_queued : Int32} (X : BX p rmX8_measure s m args meth c cX8_measure 9 none RX8 G cI cO A) : SX8_measure_29 p l e s m args below meth c G cI cO A a_ a_fewest a_queue a_p0 a_p0_furrow v_p0_eaten v_p0_closed v_p0_gaps v_p0_strawMen v_p0_months v_p0_middle v_p0_door v_p0_seenGaps v_p0_seenCorn v_p0_seenCount o_fewest o_queue o_queued (fX8_measure_29 v_p0_strawMen) := by
  intro v_fewest v_queue v_queued x4 x5 s0 H0 locs0 hP0 hD0 hS0 ls0 hl0 h
  unfold fX8_measure_29 at h
  obtain ⟨hx, hb, hml, hr, hown, hts, hlocks, hK, hN, hA, hZ⟩ := id X
  refine lv_lstore (lv' := [(6, .long s0), (0, .ref a_), (1, .ref a_p0), (4, .int x4), (5, .int x5)]) hx hb dX8_measure_29 hl0 (by decide) rfl (fun ls1 hl1 => ?_)
  refine lv_iconst (v := (0 : Int32)) hx hb dX8_measure_31 (by decide) ?_
  refine lv_istore (lv' := [(8, .int (0 : Int32)), (6, .long s0), (0, .ref a_), (1, .ref a_p0), (4, .int x4), (5, .int x5)]) hx hb dX8_measure_32 hl1 (by decide) rfl (fun ls2 hl2 => ?_)
  clear hl1
  exact bX8_measure_34 X 4000 v_fewest v_queue v_queued x4 x5 s0 (0 : Int32) H0 locs0 hP0 hD0 hS0 ls2 (lv_sub hl2 [2, 3, 4, 5, 1, 0] rfl) h
set_option maxHeartbeats 4000000 in
set_option maxRecDepth 100000 in
theorem mX8_measure (l : Launch) (G : va_G) (cI cO : ClassId) (a_ a_fewest a_queue a_p0 a_p0_furrow : Nat) (sz : Nat) (v_queued : Int32) (v_fewest : Nat → Int32) (v_queue : Nat → Int32) (v_p0_eaten : Int64) (v_p0_closed : Int64) (v_p0_gaps : Int64) (v_p0_strawMen : Int64) (v_p0_months : Int32) (v_p0_middle : Int32) (v_p0_door : Int32) (v_p0_seenGaps : Int64) (v_p0_seenCorn : Int64) (v_p0_seenCount : Int32) (x2 : Int64) (x4 : Int32) (x5 : Int32) {o_fewest : Nat → Int32} {o_queue : Nat → Int32} {o_queued : Int32} (h : fX8_measure v_fewest v_queue v_queued v_p0_strawMen v_p0_months v_p0_middle x2 x4 x5 = some (o_fewest, o_queue, o_queued)) : Met l yX8_measure (wsM yX8_measure cX8_measure 9 none) rmX8_measure (va_Pc [.ref a_, .ref a_p0, .long x2, .int x4, .int x5] (preW G cI cO sz [(a_, .inr (7, [.ref a_fewest, .ref a_queue, .int v_queued])), (a_fewest, .inl (cI, 72, .inl v_fewest)), (a_queue, .inl (cI, 72, .inl v_queue)), (a_p0, .inr (1, [.ref a_p0_furrow, .long v_p0_eaten, .long v_p0_closed, .long v_p0_gaps, .long v_p0_strawMen, .int v_p0_months, .int v_p0_middle, .int v_p0_door, .long v_p0_seenGaps, .long v_p0_seenCorn, .int v_p0_seenCount]))])) (QcV G (va_A [(a_, .inr (7, [.ref a_fewest, .ref a_queue, .int v_queued])), (a_fewest, .inl (cI, 72, .inl v_fewest)), (a_queue, .inl (cI, 72, .inl v_queue)), (a_p0, .inr (1, [.ref a_p0_furrow, .long v_p0_eaten, .long v_p0_closed, .long v_p0_gaps, .long v_p0_strawMen, .int v_p0_months, .int v_p0_middle, .int v_p0_door, .long v_p0_seenGaps, .long v_p0_seenCorn, .int v_p0_seenCount]))] sz) [(a_, .inr (7, [.ref a_fewest, .ref a_queue, .int o_queued])), (a_fewest, .inl (cI, 72, .inl o_fewest)), (a_queue, .inl (cI, 72, .inl o_queue)), (a_p0, .inr (1, [.ref a_p0_furrow, .long v_p0_eaten, .long v_p0_closed, .long v_p0_gaps, .long v_p0_strawMen, .int v_p0_months, .int v_p0_middle, .int v_p0_door, .long v_p0_seenGaps, .long v_p0_seenCorn, .int v_p0_seenCount]))]) 0 0 (va_A [(a_, .inr (7, [.ref a_fewest, .ref a_queue, .int v_queued])), (a_fewest, .inl (cI, 72, .inl v_fewest)), (a_queue, .inl (cI, 72, .inl v_queue)), (a_p0, .inr (1, [.ref a_p0_furrow, .long v_p0_eaten, .long v_p0_closed, .long v_p0_gaps, .long v_p0_strawMen, .int v_p0_months, .int v_p0_middle, .int v_p0_door, .long v_p0_seenGaps, .long v_p0_seenCorn, .int v_p0_seenCount]))] sz) := by
  refine mkMet (own := RX8) (by decide) rfl (Nat.le_of_ble_eq_true rfl) ?_
  intro p e s m args below meth c _ hsz _ X hP0 hD0 ls0 hl0
  have hS0 : va_S (va_A [(a_, .inr (7, [.ref a_fewest, .ref a_queue, .int v_queued])), (a_fewest, .inl (cI, 72, .inl v_fewest)), (a_queue, .inl (cI, 72, .inl v_queue)), (a_p0, .inr (1, [.ref a_p0_furrow, .long v_p0_eaten, .long v_p0_closed, .long v_p0_gaps, .long v_p0_strawMen, .int v_p0_months, .int v_p0_middle, .int v_p0_door, .long v_p0_seenGaps, .long v_p0_seenCorn, .int v_p0_seenCount]))] sz) s.heap s.heap [] := va_S.rf
  replace hl0 : lv_has ls0 9 [(0, .ref a_), (1, .ref a_p0), (2, .long x2), (4, .int x4), (5, .int x5)] := hl0
  generalize va_A [(a_, .inr (7, [.ref a_fewest, .ref a_queue, .int v_queued])), (a_fewest, .inl (cI, 72, .inl v_fewest)), (a_queue, .inl (cI, 72, .inl v_queue)), (a_p0, .inr (1, [.ref a_p0_furrow, .long v_p0_eaten, .long v_p0_closed, .long v_p0_gaps, .long v_p0_strawMen, .int v_p0_months, .int v_p0_middle, .int v_p0_door, .long v_p0_seenGaps, .long v_p0_seenCorn, .int v_p0_seenCount]))] sz = A at X hD0 hS0 ⊢
  unfold fX8_measure at h
  obtain ⟨hx, hb, hml, hr, hown, hts, hlocks, hK, hN, hA, hZ⟩ := id X
  refine lv_aload_n hx hb dX8_measure_0 rfl (lv_at hl0 0 rfl) ?_
  replace h := g_ob2 h
  obtain ⟨v_fewest_1, v_queued_1, hf1, h⟩ := h
  refine cal_v (wc := [(a_, .inr (7, [.ref a_fewest, .ref a_queue, .int v_queued])), (a_fewest, .inl (cI, 72, .inl v_fewest))]) (w1 := [(a_, .inr (7, [.ref a_fewest, .ref a_queue, .int v_queued_1])), (a_fewest, .inl (cI, 72, .inl v_fewest_1))]) (wn := [(a_, .inr (7, [.ref a_fewest, .ref a_queue, .int v_queued_1])), (a_fewest, .inl (cI, 72, .inl v_fewest_1)), (a_queue, .inl (cI, 72, .inl v_queue)), (a_p0, .inr (1, [.ref a_p0_furrow, .long v_p0_eaten, .long v_p0_closed, .long v_p0_gaps, .long v_p0_strawMen, .int v_p0_months, .int v_p0_middle, .int v_p0_door, .long v_p0_seenGaps, .long v_p0_seenCorn, .int v_p0_seenCount]))]) X hP0 hD0 hS0 [0, 1] rfl rfl rfl rfl (run_V (As := []) (rest := []) X hP0 hD0 hS0 [0, 1] rfl rfl (mX8_forget l G cI cO a_ a_fewest a_queue  s.heap.size v_queued v_fewest  hf1) mv_X8_forget ml_X8_22 ⟨Nat.le_of_ble_eq_true rfl, Nat.le_of_ble_eq_true rfl⟩ rfl rfl 0 7 rfl rfl rfl rfl hl0.1 rfl (Nat.le_of_ble_eq_true rfl) ⟨Nat.zero_le _, Nat.zero_le _⟩ dX8_measure_1) (fun H2 locs2 hP2 hD2 hS2 => ?_)
  clear hf1
  refine lv_aload_n hx hb dX8_measure_4 rfl (lv_at hl0 0 rfl) ?_
  refine lv_aload_n hx hb dX8_measure_5 rfl (lv_at hl0 1 rfl) ?_
  refine va_getN (D := G) (ci := 1) (v := .int v_p0_middle) (C := RX1) (T := TX1) (N := 11) hx hb hts gwX1 hown hK hP2 3 rfl rfl 6 (by decide) (va_Nw.use rfl (hN _ fn_X8_25)) (fun _ h9 => h9) rfl dX8_measure_6 ?_
  refine lv_iconst (v := (0 : Int32)) hx hb dX8_measure_9 (by decide) ?_
  replace h := g_ob3 h
  obtain ⟨v_fewest_3, v_queue_3, v_queued_3, hf3, h⟩ := h
  refine cal_v (wc := [(a_, .inr (7, [.ref a_fewest, .ref a_queue, .int v_queued_1])), (a_fewest, .inl (cI, 72, .inl v_fewest_1)), (a_queue, .inl (cI, 72, .inl v_queue))]) (w1 := [(a_, .inr (7, [.ref a_fewest, .ref a_queue, .int v_queued_3])), (a_fewest, .inl (cI, 72, .inl v_fewest_3)), (a_queue, .inl (cI, 72, .inl v_queue_3))]) (wn := [(a_, .inr (7, [.ref a_fewest, .ref a_queue, .int v_queued_3])), (a_fewest, .inl (cI, 72, .inl v_fewest_3)), (a_queue, .inl (cI, 72, .inl v_queue_3)), (a_p0, .inr (1, [.ref a_p0_furrow, .long v_p0_eaten, .long v_p0_closed, .long v_p0_gaps, .long v_p0_strawMen, .int v_p0_months, .int v_p0_middle, .int v_p0_door, .long v_p0_seenGaps, .long v_p0_seenCorn, .int v_p0_seenCount]))]) X hP2 hD2 hS2 [0, 1, 2] rfl rfl rfl rfl (run_V (As := [.int v_p0_middle, .int (0 : Int32)]) (rest := []) X hP2 hD2 hS2 [0, 1, 2] rfl rfl (mX8_reach l G cI cO a_ a_fewest a_queue  H2.size v_queued_1 v_fewest_1 v_queue v_p0_middle (0 : Int32) hf3) mv_X8_reach ml_X8_30 ⟨Nat.le_of_ble_eq_true rfl, Nat.le_of_ble_eq_true rfl⟩ rfl rfl 0 7 rfl rfl rfl rfl hl0.1 rfl (Nat.le_of_ble_eq_true rfl) ⟨Nat.zero_le _, Nat.zero_le _⟩ dX8_measure_10) (fun H4 locs4 hP4 hD4 hS4 => ?_)
  clear hf3 hP2 hD2 hS2
  refine lv_aload_n hx hb dX8_measure_13 rfl (lv_at hl0 1 rfl) ?_
  refine lv_iload hx hb dX8_measure_14 (lv_at hl0 4 rfl) ?_
  replace h := g_ob1 h
  obtain ⟨r5, hf5, h⟩ := h
  refine cal_i (wc := [(a_p0, .inr (1, [.ref a_p0_furrow, .long v_p0_eaten, .long v_p0_closed, .long v_p0_gaps, .long v_p0_strawMen, .int v_p0_months, .int v_p0_middle, .int v_p0_door, .long v_p0_seenGaps, .long v_p0_seenCorn, .int v_p0_seenCount]))]) (w1 := [(a_p0, .inr (1, [.ref a_p0_furrow, .long v_p0_eaten, .long v_p0_closed, .long v_p0_gaps, .long v_p0_strawMen, .int v_p0_months, .int v_p0_middle, .int v_p0_door, .long v_p0_seenGaps, .long v_p0_seenCorn, .int v_p0_seenCount]))]) (wn := [(a_, .inr (7, [.ref a_fewest, .ref a_queue, .int v_queued_3])), (a_fewest, .inl (cI, 72, .inl v_fewest_3)), (a_queue, .inl (cI, 72, .inl v_queue_3)), (a_p0, .inr (1, [.ref a_p0_furrow, .long v_p0_eaten, .long v_p0_closed, .long v_p0_gaps, .long v_p0_strawMen, .int v_p0_months, .int v_p0_middle, .int v_p0_door, .long v_p0_seenGaps, .long v_p0_seenCorn, .int v_p0_seenCount]))]) X hP4 hD4 hS4 [3] rfl rfl rfl rfl (run_V (As := [.int x5]) (rest := []) X hP4 hD4 hS4 [3] rfl rfl (mX1_cornStops l G cI cO a_p0 a_p0_furrow  H4.size v_p0_eaten v_p0_closed v_p0_gaps v_p0_strawMen v_p0_months v_p0_middle v_p0_door v_p0_seenGaps v_p0_seenCorn v_p0_seenCount x5 hf5) mv_X1_cornStops ml_X8_34 ⟨Nat.le_of_ble_eq_true rfl, Nat.le_of_ble_eq_true rfl⟩ rfl rfl 3 1 rfl rfl rfl rfl hl0.1 rfl (Nat.le_of_ble_eq_true rfl) ⟨Nat.zero_le _, Nat.zero_le _⟩ dX8_measure_16) (fun H6 locs6 hP6 hD6 hS6 => ?_)
  clear hf5 hP4 hD4 hS4
  refine lv_if_eq (tgt := 26) hx hb dX8_measure_19 (by decide) (fun hc => ?_) (fun hc => ?_)
  · replace h := t_pos h hc
    clear hc
    refine lv_ldc2 (v := (-1 : Int64)) hx hb hown (hts _ kL_X8_38) dX8_measure_26 ?_
    exact bX8_measure_29 X v_fewest_3 v_queue_3 v_queued_3 x4 x5 (-1 : Int64) H6 locs6 hP6 hD6 hS6 ls0 (lv_sub hl0 [0, 1, 3, 4] rfl) h
  · replace h := t_neg h hc
    clear hc
    refine lv_lload_n hx hb dX8_measure_22 rfl (lv_at hl0 2 rfl) ?_
    refine lv_goto (tgt := 29) hx hb dX8_measure_23 (by decide) ?_
    exact bX8_measure_29 X v_fewest_3 v_queue_3 v_queued_3 x4 x5 x2 H6 locs6 hP6 hD6 hS6 ls0 (lv_sub hl0 [0, 1, 3, 4] rfl) h
/-! PloughMaze$Ways.fewestFrom -/
abbrev rmX8_fewestFrom : Room := { frames := 1, cells := 0, slots := 0, locals := 60 }
def SX8_fewestFrom_35 (p : Program) (l : Launch) (e : Env) (s : State) (m : MethodId) (args : Array Value) (below : List Frame) (meth : Method) (c : Code) (G : va_G) (cI cO : ClassId) (A : Nat → Prop) (a_ a_fewest a_queue : Nat) (v_queued : Int32) (v_fewest : Nat → Int32) (ret : Int32) (k : Int32 → Int32 → Option (Int32)) : Prop := ∀ (x2 : Int32) (x3 : Int32) (H : Heap) (locs : List Loc), va_P G vwCl [(a_, .inr (7, [.ref a_fewest, .ref a_queue, .int v_queued])), (a_fewest, .inl (cI, 72, .inl v_fewest))] H → va_D A [(a_, .inr (7, [.ref a_fewest, .ref a_queue, .int v_queued])), (a_fewest, .inl (cI, 72, .inl v_fewest))] → va_S A s.heap H locs → ∀ (ls : Array Slot), lv_has ls 4 [(2, .int x2), (3, .int x3)] → k x2 x3 = some ret → W p l e rmX8_fewestFrom s m args below meth c H locs 0 0 (MQ below (QcI G A ret [(a_, .inr (7, [.ref a_fewest, .ref a_queue, .int v_queued])), (a_fewest, .inl (cI, 72, .inl v_fewest))]) args s 0 0 A) (F0 m 35 ls [])
set_option maxHeartbeats 4000000 in
set_option maxRecDepth 100000 in
theorem bX8_fewestFrom_35 {p : Program} {l : Launch} {e : Env} {s : State} {m : MethodId} {args : Array Value} {below : List Frame} {meth : Method} {c : Code} {G : va_G} {cI cO : ClassId} {A : Nat → Prop} {a_ a_fewest a_queue : Nat} {v_queued : Int32} {v_fewest : Nat → Int32} {ret : Int32} (X : BX p rmX8_fewestFrom s m args meth c cX8_fewestFrom 4 (some .int) RX8 G cI cO A) : SX8_fewestFrom_35 p l e s m args below meth c G cI cO A a_ a_fewest a_queue v_queued v_fewest ret fX8_fewestFrom_35 := by
  intro x2 x3 H0 locs0 hP0 hD0 hS0 ls0 hl0 h
  unfold fX8_fewestFrom_35 at h
  obtain ⟨hx, hb, hml, hr, hown, hts, hlocks, hK, hN, hA, hZ⟩ := id X
  refine lv_iload_n hx hb dX8_fewestFrom_35 rfl (lv_at hl0 0 rfl) ?_
  refine lv_iload_n hx hb dX8_fewestFrom_36 rfl (lv_at hl0 1 rfl) ?_
  refine va_mmax hx hb (hml.trans hl0.1.symm) hown (hts _ ml_X8_53) (hts _ st_mmax) (hts _ ini_Math) (hts _ co_mmax) (Nat.le_of_ble_eq_true rfl) (Nat.le_of_ble_eq_true rfl) (Nat.le_of_ble_eq_true rfl) (Nat.le_of_ble_eq_true rfl) dX8_fewestFrom_37 ?_
  obtain ez0 := r_eq1 h
  subst ez0
  exact ret_i X hP0 hS0 dX8_fewestFrom_40
set_option maxHeartbeats 4000000 in
set_option maxRecDepth 100000 in
theorem mX8_fewestFrom (l : Launch) (G : va_G) (cI cO : ClassId) (a_ a_fewest a_queue : Nat) (sz : Nat) (v_queued : Int32) (v_fewest : Nat → Int32) (x1 : Int32) {ret : Int32} (h : fX8_fewestFrom v_fewest x1 = some ret) : Met l yX8_fewestFrom (wsM yX8_fewestFrom cX8_fewestFrom 4 (some .int)) rmX8_fewestFrom (va_Pc [.ref a_, .int x1] (preW G cI cO sz [(a_, .inr (7, [.ref a_fewest, .ref a_queue, .int v_queued])), (a_fewest, .inl (cI, 72, .inl v_fewest))])) (QcI G (va_A [(a_, .inr (7, [.ref a_fewest, .ref a_queue, .int v_queued])), (a_fewest, .inl (cI, 72, .inl v_fewest))] sz) ret [(a_, .inr (7, [.ref a_fewest, .ref a_queue, .int v_queued])), (a_fewest, .inl (cI, 72, .inl v_fewest))]) 0 0 (va_A [(a_, .inr (7, [.ref a_fewest, .ref a_queue, .int v_queued])), (a_fewest, .inl (cI, 72, .inl v_fewest))] sz) := by
  refine mkMet (own := RX8) (by decide) rfl (Nat.le_of_ble_eq_true rfl) ?_
  intro p e s m args below meth c _ hsz _ X hP0 hD0 ls0 hl0
  have hS0 : va_S (va_A [(a_, .inr (7, [.ref a_fewest, .ref a_queue, .int v_queued])), (a_fewest, .inl (cI, 72, .inl v_fewest))] sz) s.heap s.heap [] := va_S.rf
  replace hl0 : lv_has ls0 4 [(0, .ref a_), (1, .int x1)] := hl0
  generalize va_A [(a_, .inr (7, [.ref a_fewest, .ref a_queue, .int v_queued])), (a_fewest, .inl (cI, 72, .inl v_fewest))] sz = A at X hD0 hS0 ⊢
  unfold fX8_fewestFrom at h
  obtain ⟨hx, hb, hml, hr, hown, hts, hlocks, hK, hN, hA, hZ⟩ := id X
  refine lv_iload_n hx hb dX8_fewestFrom_0 rfl (lv_at hl0 1 rfl) ?_
  replace h := g_ob1 h
  obtain ⟨r1, hf1, h⟩ := h
  refine cal_i (wc := []) (w1 := []) (wn := [(a_, .inr (7, [.ref a_fewest, .ref a_queue, .int v_queued])), (a_fewest, .inl (cI, 72, .inl v_fewest))]) X hP0 hD0 hS0 [] rfl rfl rfl rfl (run_S (As := [.int x1]) (rest := []) X hP0 hD0 hS0 [] rfl rfl (mX3_isSquare l G cI cO   s.heap.size  x1 hf1) ms_X3_isSquare ml_X8_48 ⟨Nat.le_of_ble_eq_true rfl, Nat.le_of_ble_eq_true rfl⟩ rfl rfl rfl hl0.1 rfl (Nat.le_of_ble_eq_true rfl) ⟨Nat.zero_le _, Nat.zero_le _⟩ dX8_fewestFrom_1) (fun H2 locs2 hP2 hD2 hS2 => ?_)
  clear hf1
  refine lv_if_ne (tgt := 10) hx hb dX8_fewestFrom_4 (by decide) (fun hc => ?_) (fun hc => ?_)
  · replace h := t_neg h hc
    clear hc
    refine lv_aload_n hx hb dX8_fewestFrom_10 rfl (lv_at hl0 0 rfl) ?_
    refine va_get (D := G) (ci := 7) (v := .ref a_fewest) (C := RX8) (T := TX8) (N := 3) hx hb hts gwX8 hown hK hP2 0 rfl rfl 0 (by decide) (hts _ fl_X8_9) (fun _ h9 => h9) rfl dX8_fewestFrom_11 ?_
    refine lv_iload_n hx hb dX8_fewestFrom_14 rfl (lv_at hl0 1 rfl) ?_
    replace h := g_in h; obtain ⟨hg, h⟩ := h
    refine va_iald hx hb hK hP2 1 0 rfl rfl (inb_ok hg) dX8_fewestFrom_15 ?_
    clear hg
    refine lv_topi (fun y3 ey3 => ?_)
    replace h := g_let h ey3
    clear ey3
    refine lv_istore_n (lv' := [(2, .int y3), (0, .ref a_), (1, .int x1)]) hx hb dX8_fewestFrom_16 rfl hl0 (by decide) rfl (fun ls4 hl4 => ?_)
    refine lv_aload_n hx hb dX8_fewestFrom_17 rfl (lv_at hl4 1 rfl) ?_
    refine va_get (D := G) (ci := 7) (v := .ref a_fewest) (C := RX8) (T := TX8) (N := 3) hx hb hts gwX8 hown hK hP2 0 rfl rfl 0 (by decide) (hts _ fl_X8_9) (fun _ h9 => h9) rfl dX8_fewestFrom_18 ?_
    refine lv_bipush (v := (36 : Int32)) hx hb dX8_fewestFrom_21 (by decide) ?_
    refine lv_iload_n hx hb dX8_fewestFrom_23 rfl (lv_at hl4 2 rfl) ?_
    refine lv_iadd hx hb dX8_fewestFrom_24 ?_
    replace h := g_in h; obtain ⟨hg, h⟩ := h
    refine va_iald hx hb hK hP2 1 0 rfl rfl (inb_ok hg) dX8_fewestFrom_25 ?_
    clear hg
    refine lv_topi (fun y5 ey5 => ?_)
    replace h := g_let h ey5
    clear ey5
    refine lv_istore_n (lv' := [(3, .int y5), (2, .int y3), (0, .ref a_), (1, .int x1)]) hx hb dX8_fewestFrom_26 rfl hl4 (by decide) rfl (fun ls6 hl6 => ?_)
    clear hl4
    refine lv_iload_n hx hb dX8_fewestFrom_27 rfl (lv_at hl6 1 rfl) ?_
    refine lv_if_lt (tgt := 35) hx hb dX8_fewestFrom_28 (by decide) (fun hc => ?_) (fun hc => ?_)
    · replace h := t_pos h hc
      clear hc
      exact bX8_fewestFrom_35 X y3 y5 H2 locs2 hP2 hD2 hS2 ls6 (lv_sub hl6 [1, 0] rfl) h
    · replace h := t_neg h hc
      clear hc
      refine lv_iload_n hx hb dX8_fewestFrom_31 rfl (lv_at hl6 0 rfl) ?_
      refine lv_if_ge (tgt := 41) hx hb dX8_fewestFrom_32 (by decide) (fun hc => ?_) (fun hc => ?_)
      · replace h := t_pos h hc
        clear hc
        refine lv_iload_n hx hb dX8_fewestFrom_41 rfl (lv_at hl6 1 rfl) ?_
        refine lv_iload_n hx hb dX8_fewestFrom_42 rfl (lv_at hl6 0 rfl) ?_
        refine va_mmin hx hb (hml.trans hl6.1.symm) hown (hts _ ml_X8_59) (hts _ st_mmin) (hts _ ini_Math) (hts _ co_mmin) (Nat.le_of_ble_eq_true rfl) (Nat.le_of_ble_eq_true rfl) (Nat.le_of_ble_eq_true rfl) (Nat.le_of_ble_eq_true rfl) dX8_fewestFrom_43 ?_
        obtain ez0 := r_eq1 h
        subst ez0
        exact ret_i X hP2 hS2 dX8_fewestFrom_46
      · replace h := t_neg h hc
        clear hc
        exact bX8_fewestFrom_35 X y3 y5 H2 locs2 hP2 hD2 hS2 ls6 (lv_sub hl6 [1, 0] rfl) h
  · replace h := t_pos h hc
    clear hc
    refine lv_bipush (v := (-4 : Int32)) hx hb dX8_fewestFrom_7 (by decide) ?_
    obtain ez0 := r_eq1 h
    subst ez0
    exact ret_i X hP2 hS2 dX8_fewestFrom_9
/-! PloughMaze$Ways.hangTogether -/
abbrev rmX8_hangTogether : Room := { frames := 2, cells := 0, slots := 0, locals := 44 }
def SX8_hangTogether_81 (p : Program) (l : Launch) (e : Env) (s : State) (m : MethodId) (args : Array Value) (below : List Frame) (meth : Method) (c : Code) (G : va_G) (cI cO : ClassId) (A : Nat → Prop) (a_ a_fewest a_queue a_p0 a_p0_furrow : Nat) (v_p0_eaten : Int64) (v_p0_closed : Int64) (v_p0_gaps : Int64) (v_p0_strawMen : Int64) (v_p0_months : Int32) (v_p0_middle : Int32) (v_p0_door : Int32) (v_p0_seenGaps : Int64) (v_p0_seenCorn : Int64) (v_p0_seenCount : Int32) (o_fewest : Nat → Int32) (o_queue : Nat → Int32) (o_queued : Int32) (k : (Nat → Int32) → (Nat → Int32) → Int32 → Int32 → Int32 → Option ((Nat → Int32) × (Nat → Int32) × Int32)) : Prop := ∀ (v_fewest : Nat → Int32) (v_queue : Nat → Int32) (v_queued : Int32) (x4 : Int32) (x5 : Int32) (H : Heap) (locs : List Loc), va_P G vwCl [(a_, .inr (7, [.ref a_fewest, .ref a_queue, .int v_queued])), (a_fewest, .inl (cI, 72, .inl v_fewest)), (a_queue, .inl (cI, 72, .inl v_queue)), (a_p0, .inr (1, [.ref a_p0_furrow, .long v_p0_eaten, .long v_p0_closed, .long v_p0_gaps, .long v_p0_strawMen, .int v_p0_months, .int v_p0_middle, .int v_p0_door, .long v_p0_seenGaps, .long v_p0_seenCorn, .int v_p0_seenCount]))] H → va_D A [(a_, .inr (7, [.ref a_fewest, .ref a_queue, .int v_queued])), (a_fewest, .inl (cI, 72, .inl v_fewest)), (a_queue, .inl (cI, 72, .inl v_queue)), (a_p0, .inr (1, [.ref a_p0_furrow, .long v_p0_eaten, .long v_p0_closed, .long v_p0_gaps, .long v_p0_strawMen, .int v_p0_months, .int v_p0_middle, .int v_p0_door, .long v_p0_seenGaps, .long v_p0_seenCorn, .int v_p0_seenCount]))] → va_S A s.heap H locs → ∀ (ls : Array Slot), lv_has ls 6 [(0, .ref a_), (1, .ref a_p0), (4, .int x4), (5, .int x5)] → k v_fewest v_queue v_queued x4 x5 = some (o_fewest, o_queue, o_queued) → W p l e rmX8_hangTogether s m args below meth c H locs 0 0 (MQ below (QcV G A [(a_, .inr (7, [.ref a_fewest, .ref a_queue, .int o_queued])), (a_fewest, .inl (cI, 72, .inl o_fewest)), (a_queue, .inl (cI, 72, .inl o_queue)), (a_p0, .inr (1, [.ref a_p0_furrow, .long v_p0_eaten, .long v_p0_closed, .long v_p0_gaps, .long v_p0_strawMen, .int v_p0_months, .int v_p0_middle, .int v_p0_door, .long v_p0_seenGaps, .long v_p0_seenCorn, .int v_p0_seenCount]))]) args s 0 0 A) (F0 m 81 ls [])
def SX8_hangTogether_36 (p : Program) (l : Launch) (e : Env) (s : State) (m : MethodId) (args : Array Value) (below : List Frame) (meth : Method) (c : Code) (G : va_G) (cI cO : ClassId) (A : Nat → Prop) (a_ a_fewest a_queue a_p0 a_p0_furrow : Nat) (v_p0_eaten : Int64) (v_p0_closed : Int64) (v_p0_gaps : Int64) (v_p0_strawMen : Int64) (v_p0_months : Int32) (v_p0_middle : Int32) (v_p0_door : Int32) (v_p0_seenGaps : Int64) (v_p0_seenCorn : Int64) (v_p0_seenCount : Int32) (o_fewest : Nat → Int32) (o_queue : Nat → Int32) (o_queued : Int32) (k : (Nat → Int32) → (Nat → Int32) → Int32 → Int32 → Int32 → Option ((Nat → Int32) × (Nat → Int32) × Int32)) : Prop := ∀ (v_fewest : Nat → Int32) (v_queue : Nat → Int32) (v_queued : Int32) (x4 : Int32) (x5 : Int32) (H : Heap) (locs : List Loc), va_P G vwCl [(a_, .inr (7, [.ref a_fewest, .ref a_queue, .int v_queued])), (a_fewest, .inl (cI, 72, .inl v_fewest)), (a_queue, .inl (cI, 72, .inl v_queue)), (a_p0, .inr (1, [.ref a_p0_furrow, .long v_p0_eaten, .long v_p0_closed, .long v_p0_gaps, .long v_p0_strawMen, .int v_p0_months, .int v_p0_middle, .int v_p0_door, .long v_p0_seenGaps, .long v_p0_seenCorn, .int v_p0_seenCount]))] H → va_D A [(a_, .inr (7, [.ref a_fewest, .ref a_queue, .int v_queued])), (a_fewest, .inl (cI, 72, .inl v_fewest)), (a_queue, .inl (cI, 72, .inl v_queue)), (a_p0, .inr (1, [.ref a_p0_furrow, .long v_p0_eaten, .long v_p0_closed, .long v_p0_gaps, .long v_p0_strawMen, .int v_p0_months, .int v_p0_middle, .int v_p0_door, .long v_p0_seenGaps, .long v_p0_seenCorn, .int v_p0_seenCount]))] → va_S A s.heap H locs → ∀ (ls : Array Slot), lv_has ls 6 [(0, .ref a_), (1, .ref a_p0), (4, .int x4), (5, .int x5)] → k v_fewest v_queue v_queued x4 x5 = some (o_fewest, o_queue, o_queued) → W p l e rmX8_hangTogether s m args below meth c H locs 0 0 (MQ below (QcV G A [(a_, .inr (7, [.ref a_fewest, .ref a_queue, .int o_queued])), (a_fewest, .inl (cI, 72, .inl o_fewest)), (a_queue, .inl (cI, 72, .inl o_queue)), (a_p0, .inr (1, [.ref a_p0_furrow, .long v_p0_eaten, .long v_p0_closed, .long v_p0_gaps, .long v_p0_strawMen, .int v_p0_months, .int v_p0_middle, .int v_p0_door, .long v_p0_seenGaps, .long v_p0_seenCorn, .int v_p0_seenCount]))]) args s 0 0 A) (F0 m 36 ls [])
def SX8_hangTogether_14 (p : Program) (l : Launch) (e : Env) (s : State) (m : MethodId) (args : Array Value) (below : List Frame) (meth : Method) (c : Code) (G : va_G) (cI cO : ClassId) (A : Nat → Prop) (a_ a_fewest a_queue a_p0 a_p0_furrow : Nat) (v_p0_eaten : Int64) (v_p0_closed : Int64) (v_p0_gaps : Int64) (v_p0_strawMen : Int64) (v_p0_months : Int32) (v_p0_middle : Int32) (v_p0_door : Int32) (v_p0_seenGaps : Int64) (v_p0_seenCorn : Int64) (v_p0_seenCount : Int32) (o_fewest : Nat → Int32) (o_queue : Nat → Int32) (o_queued : Int32) (k : (Nat → Int32) → (Nat → Int32) → Int32 → Int32 → Option ((Nat → Int32) × (Nat → Int32) × Int32)) : Prop := ∀ (v_fewest : Nat → Int32) (v_queue : Nat → Int32) (v_queued : Int32) (x4 : Int32) (H : Heap) (locs : List Loc), va_P G vwCl [(a_, .inr (7, [.ref a_fewest, .ref a_queue, .int v_queued])), (a_fewest, .inl (cI, 72, .inl v_fewest)), (a_queue, .inl (cI, 72, .inl v_queue)), (a_p0, .inr (1, [.ref a_p0_furrow, .long v_p0_eaten, .long v_p0_closed, .long v_p0_gaps, .long v_p0_strawMen, .int v_p0_months, .int v_p0_middle, .int v_p0_door, .long v_p0_seenGaps, .long v_p0_seenCorn, .int v_p0_seenCount]))] H → va_D A [(a_, .inr (7, [.ref a_fewest, .ref a_queue, .int v_queued])), (a_fewest, .inl (cI, 72, .inl v_fewest)), (a_queue, .inl (cI, 72, .inl v_queue)), (a_p0, .inr (1, [.ref a_p0_furrow, .long v_p0_eaten, .long v_p0_closed, .long v_p0_gaps, .long v_p0_strawMen, .int v_p0_months, .int v_p0_middle, .int v_p0_door, .long v_p0_seenGaps, .long v_p0_seenCorn, .int v_p0_seenCount]))] → va_S A s.heap H locs → ∀ (ls : Array Slot), lv_has ls 6 [(0, .ref a_), (1, .ref a_p0), (4, .int x4)] → k v_fewest v_queue v_queued x4 = some (o_fewest, o_queue, o_queued) → W p l e rmX8_hangTogether s m args below meth c H locs 0 0 (MQ below (QcV G A [(a_, .inr (7, [.ref a_fewest, .ref a_queue, .int o_queued])), (a_fewest, .inl (cI, 72, .inl o_fewest)), (a_queue, .inl (cI, 72, .inl o_queue)), (a_p0, .inr (1, [.ref a_p0_furrow, .long v_p0_eaten, .long v_p0_closed, .long v_p0_gaps, .long v_p0_strawMen, .int v_p0_months, .int v_p0_middle, .int v_p0_door, .long v_p0_seenGaps, .long v_p0_seenCorn, .int v_p0_seenCount]))]) args s 0 0 A) (F0 m 14 ls [])
set_option maxHeartbeats 4000000 in
set_option maxRecDepth 100000 in
theorem bX8_hangTogether_81 {p : Program} {l : Launch} {e : Env} {s : State} {m : MethodId} {args : Array Value} {below : List Frame} {meth : Method} {c : Code} {G : va_G} {cI cO : ClassId} {A : Nat → Prop} {a_ a_fewest a_queue a_p0 a_p0_furrow : Nat} {v_p0_eaten : Int64} {v_p0_closed : Int64} {v_p0_gaps : Int64} {v_p0_strawMen : Int64} {v_p0_months : Int32} {v_p0_middle : Int32} {v_p0_door : Int32} {v_p0_seenGaps : Int64} {v_p0_seenCorn : Int64} {v_p0_seenCount : Int32} {o_fewest : Nat → Int32} {o_queue : Nat → Int32} {o_queued : Int32} (X : BX p rmX8_hangTogether s m args meth c cX8_hangTogether 6 none RX8 G cI cO A) {k_14 : (Nat → Int32) → (Nat → Int32) → Int32 → Int32 → Option ((Nat → Int32) × (Nat → Int32) × Int32)} (hk_14 : SX8_hangTogether_14 p l e s m args below meth c G cI cO A a_ a_fewest a_queue a_p0 a_p0_furrow v_p0_eaten v_p0_closed v_p0_gaps v_p0_strawMen v_p0_months v_p0_middle v_p0_door v_p0_seenGaps v_p0_seenCorn v_p0_seenCount o_fewest o_queue o_queued k_14) {k_36 : (Nat → Int32) → (Nat → Int32) → Int32 → Int32 → Int32 → Option ((Nat → Int32) × (Nat → Int32) × Int32)} (hk_36 : SX8_hangTogether_36 p l e s m args below meth c G cI cO A a_ a_fewest a_queue a_p0 a_p0_furrow v_p0_eaten v_p0_closed v_p0_gaps v_p0_strawMen v_p0_months v_p0_middle v_p0_door v_p0_seenGaps v_p0_seenCorn v_p0_seenCount o_fewest o_queue o_queued k_36) : SX8_hangTogether_81 p l e s m args below meth c G cI cO A a_ a_fewest a_queue a_p0 a_p0_furrow v_p0_eaten v_p0_closed v_p0_gaps v_p0_strawMen v_p0_months v_p0_middle v_p0_door v_p0_seenGaps v_p0_seenCorn v_p0_seenCount o_fewest o_queue o_queued (fX8_hangTogether_81 k_14 k_36) := by
  intro v_fewest v_queue v_queued x4 x5 H0 locs0 hP0 hD0 hS0 ls0 hl0 h
  unfold fX8_hangTogether_81 at h
  obtain ⟨hx, hb, hml, hr, hown, hts, hlocks, hK, hN, hA, hZ⟩ := id X
  refine lv_iinc (v := (x5 + (1 : Int32))) (lv' := [(5, .int (x5 + (1 : Int32))), (0, .ref a_), (1, .ref a_p0), (4, .int x4)]) hx hb dX8_hangTogether_81 hl0 (k := 3) rfl (congrArg (fun z => x5 + z) (by decide : Int32.ofInt (1) = (1 : Int32))) (by decide) rfl (fun ls1 hl1 => ?_)
  refine lv_goto (tgt := 36) hx hb dX8_hangTogether_84 (by decide) ?_
  exact hk_36 v_fewest v_queue v_queued x4 ((x5 + (1 : Int32))) H0 locs0 hP0 hD0 hS0 ls1 (lv_sub hl1 [1, 2, 3, 0] rfl) h
set_option maxHeartbeats 4000000 in
set_option maxRecDepth 100000 in
theorem bX8_hangTogether_36 {p : Program} {l : Launch} {e : Env} {s : State} {m : MethodId} {args : Array Value} {below : List Frame} {meth : Method} {c : Code} {G : va_G} {cI cO : ClassId} {A : Nat → Prop} {a_ a_fewest a_queue a_p0 a_p0_furrow : Nat} {v_p0_eaten : Int64} {v_p0_closed : Int64} {v_p0_gaps : Int64} {v_p0_strawMen : Int64} {v_p0_months : Int32} {v_p0_middle : Int32} {v_p0_door : Int32} {v_p0_seenGaps : Int64} {v_p0_seenCorn : Int64} {v_p0_seenCount : Int32} {o_fewest : Nat → Int32} {o_queue : Nat → Int32} {o_queued : Int32} (X : BX p rmX8_hangTogether s m args meth c cX8_hangTogether 6 none RX8 G cI cO A) {k_14 : (Nat → Int32) → (Nat → Int32) → Int32 → Int32 → Option ((Nat → Int32) × (Nat → Int32) × Int32)} (hk_14 : SX8_hangTogether_14 p l e s m args below meth c G cI cO A a_ a_fewest a_queue a_p0 a_p0_furrow v_p0_eaten v_p0_closed v_p0_gaps v_p0_strawMen v_p0_months v_p0_middle v_p0_door v_p0_seenGaps v_p0_seenCorn v_p0_seenCount o_fewest o_queue o_queued k_14) : ∀ n : Nat, SX8_hangTogether_36 p l e s m args below meth c G cI cO A a_ a_fewest a_queue a_p0 a_p0_furrow v_p0_eaten v_p0_closed v_p0_gaps v_p0_strawMen v_p0_months v_p0_middle v_p0_door v_p0_seenGaps v_p0_seenCorn v_p0_seenCount o_fewest o_queue o_queued (fX8_hangTogether_36 k_14 v_p0_gaps n) := by
  intro n
  induction n with
  | zero => intro v_fewest v_queue v_queued x4 x5 H0 locs0 hP0 hD0 hS0 ls0 hl0 h; exact absurd h (by simp [fX8_hangTogether_36])
  | succ n ih =>
    intro v_fewest v_queue v_queued x4 x5 H0 locs0 hP0 hD0 hS0 ls0 hl0 h
    rw [fX8_hangTogether_36] at h
    obtain ⟨hx, hb, hml, hr, hown, hts, hlocks, hK, hN, hA, hZ⟩ := id X
    refine lv_iload hx hb dX8_hangTogether_36 (lv_at hl0 3 rfl) ?_
    refine lv_iconst (v := (4 : Int32)) hx hb dX8_hangTogether_38 (by decide) ?_
    refine lv_icmp_ge (tgt := 87) hx hb dX8_hangTogether_39 (by decide) (fun hc => ?_) (fun hc => ?_)
    · replace h := t_pos h hc
      clear hc
      refine lv_iinc (v := (x4 + (1 : Int32))) (lv' := [(4, .int (x4 + (1 : Int32))), (0, .ref a_), (1, .ref a_p0), (5, .int x5)]) hx hb dX8_hangTogether_87 hl0 (k := 2) rfl (congrArg (fun z => x4 + z) (by decide : Int32.ofInt (1) = (1 : Int32))) (by decide) rfl (fun ls1 hl1 => ?_)
      refine lv_goto (tgt := 14) hx hb dX8_hangTogether_90 (by decide) ?_
      exact hk_14 v_fewest v_queue v_queued ((x4 + (1 : Int32))) H0 locs0 hP0 hD0 hS0 ls1 (lv_sub hl1 [1, 2, 0] rfl) h
    · replace h := t_neg h hc
      clear hc
      refine lv_aload_n hx hb dX8_hangTogether_42 rfl (lv_at hl0 1 rfl) ?_
      refine va_getN (D := G) (ci := 1) (v := .long v_p0_gaps) (C := RX1) (T := TX1) (N := 11) hx hb hts gwX1 hown hK hP0 3 rfl rfl 3 (by decide) (va_Nw.use rfl (hN _ fn_X8_73)) (fun _ h9 => h9) rfl dX8_hangTogether_43 ?_
      refine lv_aload_n hx hb dX8_hangTogether_46 rfl (lv_at hl0 0 rfl) ?_
      refine va_get (D := G) (ci := 7) (v := .ref a_queue) (C := RX8) (T := TX8) (N := 3) hx hb hts gwX8 hown hK hP0 0 rfl rfl 1 (by decide) (hts _ fl_X8_15) (fun _ h9 => h9) rfl dX8_hangTogether_47 ?_
      refine lv_iload hx hb dX8_hangTogether_50 (lv_at hl0 2 rfl) ?_
      replace h := g_in h; obtain ⟨hg, h⟩ := h
      refine va_iald hx hb hK hP0 2 0 rfl rfl (inb_ok hg) dX8_hangTogether_52 ?_
      clear hg
      refine lv_iload hx hb dX8_hangTogether_53 (lv_at hl0 3 rfl) ?_
      replace h := g_ob1 h
      obtain ⟨r2, hf2, h⟩ := h
      refine cal_l (wc := []) (w1 := []) (wn := [(a_, .inr (7, [.ref a_fewest, .ref a_queue, .int v_queued])), (a_fewest, .inl (cI, 72, .inl v_fewest)), (a_queue, .inl (cI, 72, .inl v_queue)), (a_p0, .inr (1, [.ref a_p0_furrow, .long v_p0_eaten, .long v_p0_closed, .long v_p0_gaps, .long v_p0_strawMen, .int v_p0_months, .int v_p0_middle, .int v_p0_door, .long v_p0_seenGaps, .long v_p0_seenCorn, .int v_p0_seenCount]))]) X hP0 hD0 hS0 [] rfl rfl rfl rfl (run_S (As := [.int (v_queue x4.toNatClampNeg), .int x5]) (rest := [.long v_p0_gaps]) X hP0 hD0 hS0 [] rfl rfl (mX3_edge l G cI cO   H0.size  ((v_queue x4.toNatClampNeg)) x5 hf2) ms_X3_edge ml_X8_77 ⟨Nat.le_of_ble_eq_true rfl, Nat.le_of_ble_eq_true rfl⟩ rfl rfl rfl hl0.1 rfl (Nat.le_of_ble_eq_true rfl) ⟨Nat.zero_le _, Nat.zero_le _⟩ dX8_hangTogether_55) (fun H3 locs3 hP3 hD3 hS3 => ?_)
      clear hf2
      refine lv_land hx hb dX8_hangTogether_58 ?_
      refine lv_lconst (v := (0 : Int64)) hx hb dX8_hangTogether_59 (by decide) ?_
      refine W.lcmp hx hb dX8_hangTogether_60 ?_
      refine lv_if_eq (tgt := 81) hx hb dX8_hangTogether_61 (by decide) (fun hc => ?_) (fun hc => ?_)
      · replace h := t_pos h hc
        clear hc
        exact bX8_hangTogether_81 X hk_14 ih v_fewest v_queue v_queued x4 x5 H3 locs3 hP3 hD3 hS3 ls0 (lv_sub hl0 [0, 1, 2, 3] rfl) h
      · replace h := t_neg h hc
        clear hc
        refine lv_aload_n hx hb dX8_hangTogether_64 rfl (lv_at hl0 0 rfl) ?_
        refine lv_aload_n hx hb dX8_hangTogether_65 rfl (lv_at hl0 0 rfl) ?_
        refine va_get (D := G) (ci := 7) (v := .ref a_queue) (C := RX8) (T := TX8) (N := 3) hx hb hts gwX8 hown hK hP3 0 rfl rfl 1 (by decide) (hts _ fl_X8_15) (fun _ h9 => h9) rfl dX8_hangTogether_66 ?_
        refine lv_iload hx hb dX8_hangTogether_69 (lv_at hl0 2 rfl) ?_
        replace h := g_in h; obtain ⟨hg, h⟩ := h
        refine va_iald hx hb hK hP3 2 0 rfl rfl (inb_ok hg) dX8_hangTogether_71 ?_
        clear hg
        refine lv_iload hx hb dX8_hangTogether_72 (lv_at hl0 3 rfl) ?_
        replace h := g_ob1 h
        obtain ⟨r4, hf4, h⟩ := h
        refine cal_i (wc := []) (w1 := []) (wn := [(a_, .inr (7, [.ref a_fewest, .ref a_queue, .int v_queued])), (a_fewest, .inl (cI, 72, .inl v_fewest)), (a_queue, .inl (cI, 72, .inl v_queue)), (a_p0, .inr (1, [.ref a_p0_furrow, .long v_p0_eaten, .long v_p0_closed, .long v_p0_gaps, .long v_p0_strawMen, .int v_p0_months, .int v_p0_middle, .int v_p0_door, .long v_p0_seenGaps, .long v_p0_seenCorn, .int v_p0_seenCount]))]) X hP3 hD3 hS3 [] rfl rfl rfl rfl (run_S (As := [.int (v_queue x4.toNatClampNeg), .int x5]) (rest := [.ref a_]) X hP3 hD3 hS3 [] rfl rfl (mX3_next l G cI cO   H3.size  ((v_queue x4.toNatClampNeg)) x5 hf4) ms_X3_next ml_X8_62 ⟨Nat.le_of_ble_eq_true rfl, Nat.le_of_ble_eq_true rfl⟩ rfl rfl rfl hl0.1 rfl (Nat.le_of_ble_eq_true rfl) ⟨Nat.zero_le _, Nat.zero_le _⟩ dX8_hangTogether_74) (fun H5 locs5 hP5 hD5 hS5 => ?_)
        clear hf4 hP3 hD3 hS3
        refine lv_iconst (v := (0 : Int32)) hx hb dX8_hangTogether_77 (by decide) ?_
        replace h := g_ob3 h
        obtain ⟨v_fewest_6, v_queue_6, v_queued_6, hf6, h⟩ := h
        refine cal_v (wc := [(a_, .inr (7, [.ref a_fewest, .ref a_queue, .int v_queued])), (a_fewest, .inl (cI, 72, .inl v_fewest)), (a_queue, .inl (cI, 72, .inl v_queue))]) (w1 := [(a_, .inr (7, [.ref a_fewest, .ref a_queue, .int v_queued_6])), (a_fewest, .inl (cI, 72, .inl v_fewest_6)), (a_queue, .inl (cI, 72, .inl v_queue_6))]) (wn := [(a_, .inr (7, [.ref a_fewest, .ref a_queue, .int v_queued_6])), (a_fewest, .inl (cI, 72, .inl v_fewest_6)), (a_queue, .inl (cI, 72, .inl v_queue_6)), (a_p0, .inr (1, [.ref a_p0_furrow, .long v_p0_eaten, .long v_p0_closed, .long v_p0_gaps, .long v_p0_strawMen, .int v_p0_months, .int v_p0_middle, .int v_p0_door, .long v_p0_seenGaps, .long v_p0_seenCorn, .int v_p0_seenCount]))]) X hP5 hD5 hS5 [0, 1, 2] rfl rfl rfl rfl (run_V (As := [.int r4, .int (0 : Int32)]) (rest := []) X hP5 hD5 hS5 [0, 1, 2] rfl rfl (mX8_reach l G cI cO a_ a_fewest a_queue  H5.size v_queued v_fewest v_queue r4 (0 : Int32) hf6) mv_X8_reach ml_X8_30 ⟨Nat.le_of_ble_eq_true rfl, Nat.le_of_ble_eq_true rfl⟩ rfl rfl 0 7 rfl rfl rfl rfl hl0.1 rfl (Nat.le_of_ble_eq_true rfl) ⟨Nat.zero_le _, Nat.zero_le _⟩ dX8_hangTogether_78) (fun H7 locs7 hP7 hD7 hS7 => ?_)
        clear hf6 hP5 hD5 hS5
        exact bX8_hangTogether_81 X hk_14 ih v_fewest_6 v_queue_6 v_queued_6 x4 x5 H7 locs7 hP7 hD7 hS7 ls0 (lv_sub hl0 [0, 1, 2, 3] rfl) h
set_option maxHeartbeats 4000000 in
set_option maxRecDepth 100000 in
theorem bX8_hangTogether_14 {p : Program} {l : Launch} {e : Env} {s : State} {m : MethodId} {args : Array Value} {below : List Frame} {meth : Method} {c : Code} {G : va_G} {cI cO : ClassId} {A : Nat → Prop} {a_ a_fewest a_queue a_p0 a_p0_furrow : Nat} {v_p0_eaten : Int64} {v_p0_closed : Int64} {v_p0_gaps : Int64} {v_p0_strawMen : Int64} {v_p0_months : Int32} {v_p0_middle : Int32} {v_p0_door : Int32} {v_p0_seenGaps : Int64} {v_p0_seenCorn : Int64} {v_p0_seenCount : Int32} {o_fewest : Nat → Int32} {o_queue : Nat → Int32} {o_queued : Int32} (X : BX p rmX8_hangTogether s m args meth c cX8_hangTogether 6 none RX8 G cI cO A) : ∀ n : Nat, SX8_hangTogether_14 p l e s m args below meth c G cI cO A a_ a_fewest a_queue a_p0 a_p0_furrow v_p0_eaten v_p0_closed v_p0_gaps v_p0_strawMen v_p0_months v_p0_middle v_p0_door v_p0_seenGaps v_p0_seenCorn v_p0_seenCount o_fewest o_queue o_queued (fX8_hangTogether_14 v_p0_gaps n) := by
  intro n
  induction n with
  | zero => intro v_fewest v_queue v_queued x4 H0 locs0 hP0 hD0 hS0 ls0 hl0 h; exact absurd h (by simp [fX8_hangTogether_14])
  | succ n ih =>
    intro v_fewest v_queue v_queued x4 H0 locs0 hP0 hD0 hS0 ls0 hl0 h
    rw [fX8_hangTogether_14] at h
    obtain ⟨hx, hb, hml, hr, hown, hts, hlocks, hK, hN, hA, hZ⟩ := id X
    refine lv_iload hx hb dX8_hangTogether_14 (lv_at hl0 2 rfl) ?_
    refine lv_aload_n hx hb dX8_hangTogether_16 rfl (lv_at hl0 0 rfl) ?_
    refine va_get (D := G) (ci := 7) (v := .int v_queued) (C := RX8) (T := TX8) (N := 3) hx hb hts gwX8 hown hK hP0 0 rfl rfl 2 (by decide) (hts _ fl_X8_18) (fun _ h9 => h9) rfl dX8_hangTogether_17 ?_
    refine lv_icmp_ge (tgt := 93) hx hb dX8_hangTogether_20 (by decide) (fun hc => ?_) (fun hc => ?_)
    · replace h := t_pos h hc
      clear hc
      obtain ⟨ez0, ez1, ez2⟩ := r_eq3 h
      subst ez0; subst ez1; subst ez2
      exact ret_v X hP0 hS0 dX8_hangTogether_93
    · replace h := t_neg h hc
      clear hc
      refine lv_iload hx hb dX8_hangTogether_23 (lv_at hl0 2 rfl) ?_
      refine lv_aload_n hx hb dX8_hangTogether_25 rfl (lv_at hl0 0 rfl) ?_
      refine va_get (D := G) (ci := 7) (v := .ref a_queue) (C := RX8) (T := TX8) (N := 3) hx hb hts gwX8 hown hK hP0 0 rfl rfl 1 (by decide) (hts _ fl_X8_15) (fun _ h9 => h9) rfl dX8_hangTogether_26 ?_
      refine va_alen (v := (72 : Int32)) hx hb hK hP0 2 0 rfl rfl (show Int32.ofNat 72 = 72 by decide) dX8_hangTogether_29 ?_
      refine lv_icmp_ge (tgt := 93) hx hb dX8_hangTogether_30 (by decide) (fun hc => ?_) (fun hc => ?_)
      · replace h := t_pos h hc
        clear hc
        obtain ⟨ez0, ez1, ez2⟩ := r_eq3 h
        subst ez0; subst ez1; subst ez2
        exact ret_v X hP0 hS0 dX8_hangTogether_93
      · replace h := t_neg h hc
        clear hc
        refine lv_iconst (v := (0 : Int32)) hx hb dX8_hangTogether_33 (by decide) ?_
        refine lv_istore (lv' := [(5, .int (0 : Int32)), (0, .ref a_), (1, .ref a_p0), (4, .int x4)]) hx hb dX8_hangTogether_34 hl0 (by decide) rfl (fun ls1 hl1 => ?_)
        exact bX8_hangTogether_36 X ih 4000 v_fewest v_queue v_queued x4 (0 : Int32) H0 locs0 hP0 hD0 hS0 ls1 (lv_sub hl1 [1, 2, 3, 0] rfl) h
set_option maxHeartbeats 4000000 in
set_option maxRecDepth 100000 in
theorem mX8_hangTogether (l : Launch) (G : va_G) (cI cO : ClassId) (a_ a_fewest a_queue a_p0 a_p0_furrow : Nat) (sz : Nat) (v_queued : Int32) (v_fewest : Nat → Int32) (v_queue : Nat → Int32) (v_p0_eaten : Int64) (v_p0_closed : Int64) (v_p0_gaps : Int64) (v_p0_strawMen : Int64) (v_p0_months : Int32) (v_p0_middle : Int32) (v_p0_door : Int32) (v_p0_seenGaps : Int64) (v_p0_seenCorn : Int64) (v_p0_seenCount : Int32) (x2 : Int32) {o_fewest : Nat → Int32} {o_queue : Nat → Int32} {o_queued : Int32} (h : fX8_hangTogether v_fewest v_queue v_queued v_p0_gaps x2 = some (o_fewest, o_queue, o_queued)) : Met l yX8_hangTogether (wsM yX8_hangTogether cX8_hangTogether 6 none) rmX8_hangTogether (va_Pc [.ref a_, .ref a_p0, .int x2] (preW G cI cO sz [(a_, .inr (7, [.ref a_fewest, .ref a_queue, .int v_queued])), (a_fewest, .inl (cI, 72, .inl v_fewest)), (a_queue, .inl (cI, 72, .inl v_queue)), (a_p0, .inr (1, [.ref a_p0_furrow, .long v_p0_eaten, .long v_p0_closed, .long v_p0_gaps, .long v_p0_strawMen, .int v_p0_months, .int v_p0_middle, .int v_p0_door, .long v_p0_seenGaps, .long v_p0_seenCorn, .int v_p0_seenCount]))])) (QcV G (va_A [(a_, .inr (7, [.ref a_fewest, .ref a_queue, .int v_queued])), (a_fewest, .inl (cI, 72, .inl v_fewest)), (a_queue, .inl (cI, 72, .inl v_queue)), (a_p0, .inr (1, [.ref a_p0_furrow, .long v_p0_eaten, .long v_p0_closed, .long v_p0_gaps, .long v_p0_strawMen, .int v_p0_months, .int v_p0_middle, .int v_p0_door, .long v_p0_seenGaps, .long v_p0_seenCorn, .int v_p0_seenCount]))] sz) [(a_, .inr (7, [.ref a_fewest, .ref a_queue, .int o_queued])), (a_fewest, .inl (cI, 72, .inl o_fewest)), (a_queue, .inl (cI, 72, .inl o_queue)), (a_p0, .inr (1, [.ref a_p0_furrow, .long v_p0_eaten, .long v_p0_closed, .long v_p0_gaps, .long v_p0_strawMen, .int v_p0_months, .int v_p0_middle, .int v_p0_door, .long v_p0_seenGaps, .long v_p0_seenCorn, .int v_p0_seenCount]))]) 0 0 (va_A [(a_, .inr (7, [.ref a_fewest, .ref a_queue, .int v_queued])), (a_fewest, .inl (cI, 72, .inl v_fewest)), (a_queue, .inl (cI, 72, .inl v_queue)), (a_p0, .inr (1, [.ref a_p0_furrow, .long v_p0_eaten, .long v_p0_closed, .long v_p0_gaps, .long v_p0_strawMen, .int v_p0_months, .int v_p0_middle, .int v_p0_door, .long v_p0_seenGaps, .long v_p0_seenCorn, .int v_p0_seenCount]))] sz) := by
  refine mkMet (own := RX8) (by decide) rfl (Nat.le_of_ble_eq_true rfl) ?_
  intro p e s m args below meth c _ hsz _ X hP0 hD0 ls0 hl0
  have hS0 : va_S (va_A [(a_, .inr (7, [.ref a_fewest, .ref a_queue, .int v_queued])), (a_fewest, .inl (cI, 72, .inl v_fewest)), (a_queue, .inl (cI, 72, .inl v_queue)), (a_p0, .inr (1, [.ref a_p0_furrow, .long v_p0_eaten, .long v_p0_closed, .long v_p0_gaps, .long v_p0_strawMen, .int v_p0_months, .int v_p0_middle, .int v_p0_door, .long v_p0_seenGaps, .long v_p0_seenCorn, .int v_p0_seenCount]))] sz) s.heap s.heap [] := va_S.rf
  replace hl0 : lv_has ls0 6 [(0, .ref a_), (1, .ref a_p0), (2, .int x2)] := hl0
  generalize va_A [(a_, .inr (7, [.ref a_fewest, .ref a_queue, .int v_queued])), (a_fewest, .inl (cI, 72, .inl v_fewest)), (a_queue, .inl (cI, 72, .inl v_queue)), (a_p0, .inr (1, [.ref a_p0_furrow, .long v_p0_eaten, .long v_p0_closed, .long v_p0_gaps, .long v_p0_strawMen, .int v_p0_months, .int v_p0_middle, .int v_p0_door, .long v_p0_seenGaps, .long v_p0_seenCorn, .int v_p0_seenCount]))] sz = A at X hD0 hS0 ⊢
  unfold fX8_hangTogether at h
  obtain ⟨hx, hb, hml, hr, hown, hts, hlocks, hK, hN, hA, hZ⟩ := id X
  refine lv_aload_n hx hb dX8_hangTogether_0 rfl (lv_at hl0 0 rfl) ?_
  refine va_get (D := G) (ci := 7) (v := .int v_queued) (C := RX8) (T := TX8) (N := 3) hx hb hts gwX8 hown hK hP0 0 rfl rfl 2 (by decide) (hts _ fl_X8_18) (fun _ h9 => h9) rfl dX8_hangTogether_1 ?_
  refine lv_istore_n (lv' := [(3, .int v_queued), (0, .ref a_), (1, .ref a_p0), (2, .int x2)]) hx hb dX8_hangTogether_4 rfl hl0 (by decide) rfl (fun ls1 hl1 => ?_)
  refine lv_aload_n hx hb dX8_hangTogether_5 rfl (lv_at hl1 1 rfl) ?_
  refine lv_iload_n hx hb dX8_hangTogether_6 rfl (lv_at hl1 3 rfl) ?_
  refine lv_iconst (v := (0 : Int32)) hx hb dX8_hangTogether_7 (by decide) ?_
  replace h := g_ob3 h
  obtain ⟨v_fewest_2, v_queue_2, v_queued_2, hf2, h⟩ := h
  refine cal_v (wc := [(a_, .inr (7, [.ref a_fewest, .ref a_queue, .int v_queued])), (a_fewest, .inl (cI, 72, .inl v_fewest)), (a_queue, .inl (cI, 72, .inl v_queue))]) (w1 := [(a_, .inr (7, [.ref a_fewest, .ref a_queue, .int v_queued_2])), (a_fewest, .inl (cI, 72, .inl v_fewest_2)), (a_queue, .inl (cI, 72, .inl v_queue_2))]) (wn := [(a_, .inr (7, [.ref a_fewest, .ref a_queue, .int v_queued_2])), (a_fewest, .inl (cI, 72, .inl v_fewest_2)), (a_queue, .inl (cI, 72, .inl v_queue_2)), (a_p0, .inr (1, [.ref a_p0_furrow, .long v_p0_eaten, .long v_p0_closed, .long v_p0_gaps, .long v_p0_strawMen, .int v_p0_months, .int v_p0_middle, .int v_p0_door, .long v_p0_seenGaps, .long v_p0_seenCorn, .int v_p0_seenCount]))]) X hP0 hD0 hS0 [0, 1, 2] rfl rfl rfl rfl (run_V (As := [.int x2, .int (0 : Int32)]) (rest := []) X hP0 hD0 hS0 [0, 1, 2] rfl rfl (mX8_reach l G cI cO a_ a_fewest a_queue  s.heap.size v_queued v_fewest v_queue x2 (0 : Int32) hf2) mv_X8_reach ml_X8_30 ⟨Nat.le_of_ble_eq_true rfl, Nat.le_of_ble_eq_true rfl⟩ rfl rfl 0 7 rfl rfl rfl rfl hl1.1 rfl (Nat.le_of_ble_eq_true rfl) ⟨Nat.zero_le _, Nat.zero_le _⟩ dX8_hangTogether_8) (fun H3 locs3 hP3 hD3 hS3 => ?_)
  clear hf2
  refine lv_iload_n hx hb dX8_hangTogether_11 rfl (lv_at hl1 0 rfl) ?_
  refine lv_istore (lv' := [(4, .int v_queued), (3, .int v_queued), (0, .ref a_), (1, .ref a_p0), (2, .int x2)]) hx hb dX8_hangTogether_12 hl1 (by decide) rfl (fun ls4 hl4 => ?_)
  clear hl1
  exact bX8_hangTogether_14 X 4000 v_fewest_2 v_queue_2 v_queued_2 v_queued H3 locs3 hP3 hD3 hS3 ls4 (lv_sub hl4 [2, 3, 0] rfl) h
/-! PloughMaze$Ways.countParts -/
abbrev rmX8_countParts : Room := { frames := 3, cells := 0, slots := 0, locals := 69 }
def SX8_countParts_32 (p : Program) (l : Launch) (e : Env) (s : State) (m : MethodId) (args : Array Value) (below : List Frame) (meth : Method) (c : Code) (G : va_G) (cI cO : ClassId) (A : Nat → Prop) (a_ a_fewest a_queue a_p0 a_p0_furrow : Nat) (v_p0_eaten : Int64) (v_p0_closed : Int64) (v_p0_gaps : Int64) (v_p0_strawMen : Int64) (v_p0_months : Int32) (v_p0_middle : Int32) (v_p0_door : Int32) (v_p0_seenGaps : Int64) (v_p0_seenCorn : Int64) (v_p0_seenCount : Int32) (ret : Int32) (o_fewest : Nat → Int32) (o_queue : Nat → Int32) (o_queued : Int32) (k : (Nat → Int32) → (Nat → Int32) → Int32 → Int32 → Int32 → Option (Int32 × (Nat → Int32) × (Nat → Int32) × Int32)) : Prop := ∀ (v_fewest : Nat → Int32) (v_queue : Nat → Int32) (v_queued : Int32) (x2 : Int32) (x3 : Int32) (H : Heap) (locs : List Loc), va_P G vwCl [(a_, .inr (7, [.ref a_fewest, .ref a_queue, .int v_queued])), (a_fewest, .inl (cI, 72, .inl v_fewest)), (a_queue, .inl (cI, 72, .inl v_queue)), (a_p0, .inr (1, [.ref a_p0_furrow, .long v_p0_eaten, .long v_p0_closed, .long v_p0_gaps, .long v_p0_strawMen, .int v_p0_months, .int v_p0_middle, .int v_p0_door, .long v_p0_seenGaps, .long v_p0_seenCorn, .int v_p0_seenCount]))] H → va_D A [(a_, .inr (7, [.ref a_fewest, .ref a_queue, .int v_queued])), (a_fewest, .inl (cI, 72, .inl v_fewest)), (a_queue, .inl (cI, 72, .inl v_queue)), (a_p0, .inr (1, [.ref a_p0_furrow, .long v_p0_eaten, .long v_p0_closed, .long v_p0_gaps, .long v_p0_strawMen, .int v_p0_months, .int v_p0_middle, .int v_p0_door, .long v_p0_seenGaps, .long v_p0_seenCorn, .int v_p0_seenCount]))] → va_S A s.heap H locs → ∀ (ls : Array Slot), lv_has ls 4 [(0, .ref a_), (1, .ref a_p0), (2, .int x2), (3, .int x3)] → k v_fewest v_queue v_queued x2 x3 = some (ret, o_fewest, o_queue, o_queued) → W p l e rmX8_countParts s m args below meth c H locs 0 0 (MQ below (QcI G A ret [(a_, .inr (7, [.ref a_fewest, .ref a_queue, .int o_queued])), (a_fewest, .inl (cI, 72, .inl o_fewest)), (a_queue, .inl (cI, 72, .inl o_queue)), (a_p0, .inr (1, [.ref a_p0_furrow, .long v_p0_eaten, .long v_p0_closed, .long v_p0_gaps, .long v_p0_strawMen, .int v_p0_months, .int v_p0_middle, .int v_p0_door, .long v_p0_seenGaps, .long v_p0_seenCorn, .int v_p0_seenCount]))]) args s 0 0 A) (F0 m 32 ls [])
def SX8_countParts_8 (p : Program) (l : Launch) (e : Env) (s : State) (m : MethodId) (args : Array Value) (below : List Frame) (meth : Method) (c : Code) (G : va_G) (cI cO : ClassId) (A : Nat → Prop) (a_ a_fewest a_queue a_p0 a_p0_furrow : Nat) (v_p0_eaten : Int64) (v_p0_closed : Int64) (v_p0_gaps : Int64) (v_p0_strawMen : Int64) (v_p0_months : Int32) (v_p0_middle : Int32) (v_p0_door : Int32) (v_p0_seenGaps : Int64) (v_p0_seenCorn : Int64) (v_p0_seenCount : Int32) (ret : Int32) (o_fewest : Nat → Int32) (o_queue : Nat → Int32) (o_queued : Int32) (k : (Nat → Int32) → (Nat → Int32) → Int32 → Int32 → Int32 → Option (Int32 × (Nat → Int32) × (Nat → Int32) × Int32)) : Prop := ∀ (v_fewest : Nat → Int32) (v_queue : Nat → Int32) (v_queued : Int32) (x2 : Int32) (x3 : Int32) (H : Heap) (locs : List Loc), va_P G vwCl [(a_, .inr (7, [.ref a_fewest, .ref a_queue, .int v_queued])), (a_fewest, .inl (cI, 72, .inl v_fewest)), (a_queue, .inl (cI, 72, .inl v_queue)), (a_p0, .inr (1, [.ref a_p0_furrow, .long v_p0_eaten, .long v_p0_closed, .long v_p0_gaps, .long v_p0_strawMen, .int v_p0_months, .int v_p0_middle, .int v_p0_door, .long v_p0_seenGaps, .long v_p0_seenCorn, .int v_p0_seenCount]))] H → va_D A [(a_, .inr (7, [.ref a_fewest, .ref a_queue, .int v_queued])), (a_fewest, .inl (cI, 72, .inl v_fewest)), (a_queue, .inl (cI, 72, .inl v_queue)), (a_p0, .inr (1, [.ref a_p0_furrow, .long v_p0_eaten, .long v_p0_closed, .long v_p0_gaps, .long v_p0_strawMen, .int v_p0_months, .int v_p0_middle, .int v_p0_door, .long v_p0_seenGaps, .long v_p0_seenCorn, .int v_p0_seenCount]))] → va_S A s.heap H locs → ∀ (ls : Array Slot), lv_has ls 4 [(0, .ref a_), (1, .ref a_p0), (2, .int x2), (3, .int x3)] → k v_fewest v_queue v_queued x2 x3 = some (ret, o_fewest, o_queue, o_queued) → W p l e rmX8_countParts s m args below meth c H locs 0 0 (MQ below (QcI G A ret [(a_, .inr (7, [.ref a_fewest, .ref a_queue, .int o_queued])), (a_fewest, .inl (cI, 72, .inl o_fewest)), (a_queue, .inl (cI, 72, .inl o_queue)), (a_p0, .inr (1, [.ref a_p0_furrow, .long v_p0_eaten, .long v_p0_closed, .long v_p0_gaps, .long v_p0_strawMen, .int v_p0_months, .int v_p0_middle, .int v_p0_door, .long v_p0_seenGaps, .long v_p0_seenCorn, .int v_p0_seenCount]))]) args s 0 0 A) (F0 m 8 ls [])
set_option maxHeartbeats 4000000 in
set_option maxRecDepth 100000 in
theorem bX8_countParts_32 {p : Program} {l : Launch} {e : Env} {s : State} {m : MethodId} {args : Array Value} {below : List Frame} {meth : Method} {c : Code} {G : va_G} {cI cO : ClassId} {A : Nat → Prop} {a_ a_fewest a_queue a_p0 a_p0_furrow : Nat} {v_p0_eaten : Int64} {v_p0_closed : Int64} {v_p0_gaps : Int64} {v_p0_strawMen : Int64} {v_p0_months : Int32} {v_p0_middle : Int32} {v_p0_door : Int32} {v_p0_seenGaps : Int64} {v_p0_seenCorn : Int64} {v_p0_seenCount : Int32} {ret : Int32} {o_fewest : Nat → Int32} {o_queue : Nat → Int32} {o_queued : Int32} (X : BX p rmX8_countParts s m args meth c cX8_countParts 4 (some .int) RX8 G cI cO A) {k_8 : (Nat → Int32) → (Nat → Int32) → Int32 → Int32 → Int32 → Option (Int32 × (Nat → Int32) × (Nat → Int32) × Int32)} (hk_8 : SX8_countParts_8 p l e s m args below meth c G cI cO A a_ a_fewest a_queue a_p0 a_p0_furrow v_p0_eaten v_p0_closed v_p0_gaps v_p0_strawMen v_p0_months v_p0_middle v_p0_door v_p0_seenGaps v_p0_seenCorn v_p0_seenCount ret o_fewest o_queue o_queued k_8) : SX8_countParts_32 p l e s m args below meth c G cI cO A a_ a_fewest a_queue a_p0 a_p0_furrow v_p0_eaten v_p0_closed v_p0_gaps v_p0_strawMen v_p0_months v_p0_middle v_p0_door v_p0_seenGaps v_p0_seenCorn v_p0_seenCount ret o_fewest o_queue o_queued (fX8_countParts_32 k_8) := by
  intro v_fewest v_queue v_queued x2 x3 H0 locs0 hP0 hD0 hS0 ls0 hl0 h
  unfold fX8_countParts_32 at h
  obtain ⟨hx, hb, hml, hr, hown, hts, hlocks, hK, hN, hA, hZ⟩ := id X
  refine lv_iinc (v := (x3 + (1 : Int32))) (lv' := [(3, .int (x3 + (1 : Int32))), (0, .ref a_), (1, .ref a_p0), (2, .int x2)]) hx hb dX8_countParts_32 hl0 (k := 3) rfl (congrArg (fun z => x3 + z) (by decide : Int32.ofInt (1) = (1 : Int32))) (by decide) rfl (fun ls1 hl1 => ?_)
  refine lv_goto (tgt := 8) hx hb dX8_countParts_35 (by decide) ?_
  exact hk_8 v_fewest v_queue v_queued x2 ((x3 + (1 : Int32))) H0 locs0 hP0 hD0 hS0 ls1 (lv_sub hl1 [1, 2, 3, 0] rfl) h
set_option maxHeartbeats 4000000 in
set_option maxRecDepth 100000 in
theorem bX8_countParts_8 {p : Program} {l : Launch} {e : Env} {s : State} {m : MethodId} {args : Array Value} {below : List Frame} {meth : Method} {c : Code} {G : va_G} {cI cO : ClassId} {A : Nat → Prop} {a_ a_fewest a_queue a_p0 a_p0_furrow : Nat} {v_p0_eaten : Int64} {v_p0_closed : Int64} {v_p0_gaps : Int64} {v_p0_strawMen : Int64} {v_p0_months : Int32} {v_p0_middle : Int32} {v_p0_door : Int32} {v_p0_seenGaps : Int64} {v_p0_seenCorn : Int64} {v_p0_seenCount : Int32} {ret : Int32} {o_fewest : Nat → Int32} {o_queue : Nat → Int32} {o_queued : Int32} (X : BX p rmX8_countParts s m args meth c cX8_countParts 4 (some .int) RX8 G cI cO A) : ∀ n : Nat, SX8_countParts_8 p l e s m args below meth c G cI cO A a_ a_fewest a_queue a_p0 a_p0_furrow v_p0_eaten v_p0_closed v_p0_gaps v_p0_strawMen v_p0_months v_p0_middle v_p0_door v_p0_seenGaps v_p0_seenCorn v_p0_seenCount ret o_fewest o_queue o_queued (fX8_countParts_8 v_p0_gaps n) := by
  intro n
  induction n with
  | zero => intro v_fewest v_queue v_queued x2 x3 H0 locs0 hP0 hD0 hS0 ls0 hl0 h; exact absurd h (by simp [fX8_countParts_8])
  | succ n ih =>
    intro v_fewest v_queue v_queued x2 x3 H0 locs0 hP0 hD0 hS0 ls0 hl0 h
    rw [fX8_countParts_8] at h
    obtain ⟨hx, hb, hml, hr, hown, hts, hlocks, hK, hN, hA, hZ⟩ := id X
    refine lv_iload_n hx hb dX8_countParts_8 rfl (lv_at hl0 3 rfl) ?_
    refine lv_bipush (v := (36 : Int32)) hx hb dX8_countParts_9 (by decide) ?_
    refine lv_icmp_ge (tgt := 38) hx hb dX8_countParts_11 (by decide) (fun hc => ?_) (fun hc => ?_)
    · replace h := t_pos h hc
      clear hc
      refine lv_iload_n hx hb dX8_countParts_38 rfl (lv_at hl0 2 rfl) ?_
      obtain ⟨ez0, ez1, ez2, ez3⟩ := r_eq4 h
      subst ez0; subst ez1; subst ez2; subst ez3
      exact ret_i X hP0 hS0 dX8_countParts_39
    · replace h := t_neg h hc
      clear hc
      refine lv_aload_n hx hb dX8_countParts_14 rfl (lv_at hl0 0 rfl) ?_
      refine va_get (D := G) (ci := 7) (v := .ref a_fewest) (C := RX8) (T := TX8) (N := 3) hx hb hts gwX8 hown hK hP0 0 rfl rfl 0 (by decide) (hts _ fl_X8_9) (fun _ h9 => h9) rfl dX8_countParts_15 ?_
      refine lv_iload_n hx hb dX8_countParts_18 rfl (lv_at hl0 3 rfl) ?_
      replace h := g_in h; obtain ⟨hg, h⟩ := h
      refine va_iald hx hb hK hP0 1 0 rfl rfl (inb_ok hg) dX8_countParts_19 ?_
      clear hg
      refine lv_if_ge (tgt := 32) hx hb dX8_countParts_20 (by decide) (fun hc => ?_) (fun hc => ?_)
      · replace h := t_pos h hc
        clear hc
        exact bX8_countParts_32 X ih v_fewest v_queue v_queued x2 x3 H0 locs0 hP0 hD0 hS0 ls0 (lv_sub hl0 [0, 1, 2, 3] rfl) h
      · replace h := t_neg h hc
        clear hc
        refine lv_iinc (v := (x2 + (1 : Int32))) (lv' := [(2, .int (x2 + (1 : Int32))), (0, .ref a_), (1, .ref a_p0), (3, .int x3)]) hx hb dX8_countParts_23 hl0 (k := 2) rfl (congrArg (fun z => x2 + z) (by decide : Int32.ofInt (1) = (1 : Int32))) (by decide) rfl (fun ls1 hl1 => ?_)
        refine lv_aload_n hx hb dX8_countParts_26 rfl (lv_at hl1 1 rfl) ?_
        refine lv_aload_n hx hb dX8_countParts_27 rfl (lv_at hl1 2 rfl) ?_
        refine lv_iload_n hx hb dX8_countParts_28 rfl (lv_at hl1 3 rfl) ?_
        replace h := g_ob3 h
        obtain ⟨v_fewest_2, v_queue_2, v_queued_2, hf2, h⟩ := h
        refine cal_v (wc := [(a_, .inr (7, [.ref a_fewest, .ref a_queue, .int v_queued])), (a_fewest, .inl (cI, 72, .inl v_fewest)), (a_queue, .inl (cI, 72, .inl v_queue)), (a_p0, .inr (1, [.ref a_p0_furrow, .long v_p0_eaten, .long v_p0_closed, .long v_p0_gaps, .long v_p0_strawMen, .int v_p0_months, .int v_p0_middle, .int v_p0_door, .long v_p0_seenGaps, .long v_p0_seenCorn, .int v_p0_seenCount]))]) (w1 := [(a_, .inr (7, [.ref a_fewest, .ref a_queue, .int v_queued_2])), (a_fewest, .inl (cI, 72, .inl v_fewest_2)), (a_queue, .inl (cI, 72, .inl v_queue_2)), (a_p0, .inr (1, [.ref a_p0_furrow, .long v_p0_eaten, .long v_p0_closed, .long v_p0_gaps, .long v_p0_strawMen, .int v_p0_months, .int v_p0_middle, .int v_p0_door, .long v_p0_seenGaps, .long v_p0_seenCorn, .int v_p0_seenCount]))]) (wn := [(a_, .inr (7, [.ref a_fewest, .ref a_queue, .int v_queued_2])), (a_fewest, .inl (cI, 72, .inl v_fewest_2)), (a_queue, .inl (cI, 72, .inl v_queue_2)), (a_p0, .inr (1, [.ref a_p0_furrow, .long v_p0_eaten, .long v_p0_closed, .long v_p0_gaps, .long v_p0_strawMen, .int v_p0_months, .int v_p0_middle, .int v_p0_door, .long v_p0_seenGaps, .long v_p0_seenCorn, .int v_p0_seenCount]))]) X hP0 hD0 hS0 [0, 1, 2, 3] rfl rfl rfl rfl (run_V (As := [.ref a_p0, .int x3]) (rest := []) X hP0 hD0 hS0 [0, 1, 2, 3] rfl rfl (mX8_hangTogether l G cI cO a_ a_fewest a_queue a_p0 a_p0_furrow  H0.size v_queued v_fewest v_queue v_p0_eaten v_p0_closed v_p0_gaps v_p0_strawMen v_p0_months v_p0_middle v_p0_door v_p0_seenGaps v_p0_seenCorn v_p0_seenCount x3 hf2) mv_X8_hangTogether ml_X8_69 ⟨Nat.le_of_ble_eq_true rfl, Nat.le_of_ble_eq_true rfl⟩ rfl rfl 0 7 rfl rfl rfl rfl hl1.1 rfl (Nat.le_of_ble_eq_true rfl) ⟨Nat.zero_le _, Nat.zero_le _⟩ dX8_countParts_29) (fun H3 locs3 hP3 hD3 hS3 => ?_)
        clear hf2
        exact bX8_countParts_32 X ih v_fewest_2 v_queue_2 v_queued_2 ((x2 + (1 : Int32))) x3 H3 locs3 hP3 hD3 hS3 ls1 (lv_sub hl1 [1, 2, 0, 3] rfl) h
set_option maxHeartbeats 4000000 in
set_option maxRecDepth 100000 in
theorem mX8_countParts (l : Launch) (G : va_G) (cI cO : ClassId) (a_ a_fewest a_queue a_p0 a_p0_furrow : Nat) (sz : Nat) (v_queued : Int32) (v_fewest : Nat → Int32) (v_queue : Nat → Int32) (v_p0_eaten : Int64) (v_p0_closed : Int64) (v_p0_gaps : Int64) (v_p0_strawMen : Int64) (v_p0_months : Int32) (v_p0_middle : Int32) (v_p0_door : Int32) (v_p0_seenGaps : Int64) (v_p0_seenCorn : Int64) (v_p0_seenCount : Int32)  {ret : Int32} {o_fewest : Nat → Int32} {o_queue : Nat → Int32} {o_queued : Int32} (h : fX8_countParts v_fewest v_queue v_queued v_p0_gaps = some (ret, o_fewest, o_queue, o_queued)) : Met l yX8_countParts (wsM yX8_countParts cX8_countParts 4 (some .int)) rmX8_countParts (va_Pc [.ref a_, .ref a_p0] (preW G cI cO sz [(a_, .inr (7, [.ref a_fewest, .ref a_queue, .int v_queued])), (a_fewest, .inl (cI, 72, .inl v_fewest)), (a_queue, .inl (cI, 72, .inl v_queue)), (a_p0, .inr (1, [.ref a_p0_furrow, .long v_p0_eaten, .long v_p0_closed, .long v_p0_gaps, .long v_p0_strawMen, .int v_p0_months, .int v_p0_middle, .int v_p0_door, .long v_p0_seenGaps, .long v_p0_seenCorn, .int v_p0_seenCount]))])) (QcI G (va_A [(a_, .inr (7, [.ref a_fewest, .ref a_queue, .int v_queued])), (a_fewest, .inl (cI, 72, .inl v_fewest)), (a_queue, .inl (cI, 72, .inl v_queue)), (a_p0, .inr (1, [.ref a_p0_furrow, .long v_p0_eaten, .long v_p0_closed, .long v_p0_gaps, .long v_p0_strawMen, .int v_p0_months, .int v_p0_middle, .int v_p0_door, .long v_p0_seenGaps, .long v_p0_seenCorn, .int v_p0_seenCount]))] sz) ret [(a_, .inr (7, [.ref a_fewest, .ref a_queue, .int o_queued])), (a_fewest, .inl (cI, 72, .inl o_fewest)), (a_queue, .inl (cI, 72, .inl o_queue)), (a_p0, .inr (1, [.ref a_p0_furrow, .long v_p0_eaten, .long v_p0_closed, .long v_p0_gaps, .long v_p0_strawMen, .int v_p0_months, .int v_p0_middle, .int v_p0_door, .long v_p0_seenGaps, .long v_p0_seenCorn, .int v_p0_seenCount]))]) 0 0 (va_A [(a_, .inr (7, [.ref a_fewest, .ref a_queue, .int v_queued])), (a_fewest, .inl (cI, 72, .inl v_fewest)), (a_queue, .inl (cI, 72, .inl v_queue)), (a_p0, .inr (1, [.ref a_p0_furrow, .long v_p0_eaten, .long v_p0_closed, .long v_p0_gaps, .long v_p0_strawMen, .int v_p0_months, .int v_p0_middle, .int v_p0_door, .long v_p0_seenGaps, .long v_p0_seenCorn, .int v_p0_seenCount]))] sz) := by
  refine mkMet (own := RX8) (by decide) rfl (Nat.le_of_ble_eq_true rfl) ?_
  intro p e s m args below meth c _ hsz _ X hP0 hD0 ls0 hl0
  have hS0 : va_S (va_A [(a_, .inr (7, [.ref a_fewest, .ref a_queue, .int v_queued])), (a_fewest, .inl (cI, 72, .inl v_fewest)), (a_queue, .inl (cI, 72, .inl v_queue)), (a_p0, .inr (1, [.ref a_p0_furrow, .long v_p0_eaten, .long v_p0_closed, .long v_p0_gaps, .long v_p0_strawMen, .int v_p0_months, .int v_p0_middle, .int v_p0_door, .long v_p0_seenGaps, .long v_p0_seenCorn, .int v_p0_seenCount]))] sz) s.heap s.heap [] := va_S.rf
  replace hl0 : lv_has ls0 4 [(0, .ref a_), (1, .ref a_p0)] := hl0
  generalize va_A [(a_, .inr (7, [.ref a_fewest, .ref a_queue, .int v_queued])), (a_fewest, .inl (cI, 72, .inl v_fewest)), (a_queue, .inl (cI, 72, .inl v_queue)), (a_p0, .inr (1, [.ref a_p0_furrow, .long v_p0_eaten, .long v_p0_closed, .long v_p0_gaps, .long v_p0_strawMen, .int v_p0_months, .int v_p0_middle, .int v_p0_door, .long v_p0_seenGaps, .long v_p0_seenCorn, .int v_p0_seenCount]))] sz = A at X hD0 hS0 ⊢
  unfold fX8_countParts at h
  obtain ⟨hx, hb, hml, hr, hown, hts, hlocks, hK, hN, hA, hZ⟩ := id X
  refine lv_aload_n hx hb dX8_countParts_0 rfl (lv_at hl0 0 rfl) ?_
  replace h := g_ob2 h
  obtain ⟨v_fewest_1, v_queued_1, hf1, h⟩ := h
  refine cal_v (wc := [(a_, .inr (7, [.ref a_fewest, .ref a_queue, .int v_queued])), (a_fewest, .inl (cI, 72, .inl v_fewest))]) (w1 := [(a_, .inr (7, [.ref a_fewest, .ref a_queue, .int v_queued_1])), (a_fewest, .inl (cI, 72, .inl v_fewest_1))]) (wn := [(a_, .inr (7, [.ref a_fewest, .ref a_queue, .int v_queued_1])), (a_fewest, .inl (cI, 72, .inl v_fewest_1)), (a_queue, .inl (cI, 72, .inl v_queue)), (a_p0, .inr (1, [.ref a_p0_furrow, .long v_p0_eaten, .long v_p0_closed, .long v_p0_gaps, .long v_p0_strawMen, .int v_p0_months, .int v_p0_middle, .int v_p0_door, .long v_p0_seenGaps, .long v_p0_seenCorn, .int v_p0_seenCount]))]) X hP0 hD0 hS0 [0, 1] rfl rfl rfl rfl (run_V (As := []) (rest := []) X hP0 hD0 hS0 [0, 1] rfl rfl (mX8_forget l G cI cO a_ a_fewest a_queue  s.heap.size v_queued v_fewest  hf1) mv_X8_forget ml_X8_22 ⟨Nat.le_of_ble_eq_true rfl, Nat.le_of_ble_eq_true rfl⟩ rfl rfl 0 7 rfl rfl rfl rfl hl0.1 rfl (Nat.le_of_ble_eq_true rfl) ⟨Nat.zero_le _, Nat.zero_le _⟩ dX8_countParts_1) (fun H2 locs2 hP2 hD2 hS2 => ?_)
  clear hf1
  refine lv_iconst (v := (0 : Int32)) hx hb dX8_countParts_4 (by decide) ?_
  refine lv_istore_n (lv' := [(2, .int (0 : Int32)), (0, .ref a_), (1, .ref a_p0)]) hx hb dX8_countParts_5 rfl hl0 (by decide) rfl (fun ls3 hl3 => ?_)
  refine lv_iconst (v := (0 : Int32)) hx hb dX8_countParts_6 (by decide) ?_
  refine lv_istore_n (lv' := [(3, .int (0 : Int32)), (2, .int (0 : Int32)), (0, .ref a_), (1, .ref a_p0)]) hx hb dX8_countParts_7 rfl hl3 (by decide) rfl (fun ls4 hl4 => ?_)
  clear hl3
  exact bX8_countParts_8 X 4000 v_fewest_1 v_queue v_queued_1 (0 : Int32) (0 : Int32) H2 locs2 hP2 hD2 hS2 ls4 (lv_sub hl4 [2, 3, 1, 0] rfl) h
/-! PloughMaze$Ways.lessenLosses -/
abbrev rmX8_lessenLosses : Room := { frames := 2, cells := 0, slots := 0, locals := 44 }
def SX8_lessenLosses_124 (p : Program) (l : Launch) (e : Env) (s : State) (m : MethodId) (args : Array Value) (below : List Frame) (meth : Method) (c : Code) (G : va_G) (cI cO : ClassId) (A : Nat → Prop) (a_ a_fewest a_p0 a_queue a_p0_furrow : Nat) (v_queued : Int32) (v_p0_eaten : Int64) (v_p0_closed : Int64) (v_p0_gaps : Int64) (v_p0_strawMen : Int64) (v_p0_months : Int32) (v_p0_middle : Int32) (v_p0_door : Int32) (v_p0_seenGaps : Int64) (v_p0_seenCorn : Int64) (v_p0_seenCount : Int32) (ret : Int32) (o_fewest : Nat → Int32) (k : (Nat → Int32) → Int32 → Int32 → Int32 → Option (Int32 × (Nat → Int32))) : Prop := ∀ (v_fewest : Nat → Int32) (x2 : Int32) (x3 : Int32) (x4 : Int32) (H : Heap) (locs : List Loc), va_P G vwCl [(a_, .inr (7, [.ref a_fewest, .ref a_queue, .int v_queued])), (a_fewest, .inl (cI, 72, .inl v_fewest)), (a_p0, .inr (1, [.ref a_p0_furrow, .long v_p0_eaten, .long v_p0_closed, .long v_p0_gaps, .long v_p0_strawMen, .int v_p0_months, .int v_p0_middle, .int v_p0_door, .long v_p0_seenGaps, .long v_p0_seenCorn, .int v_p0_seenCount]))] H → va_D A [(a_, .inr (7, [.ref a_fewest, .ref a_queue, .int v_queued])), (a_fewest, .inl (cI, 72, .inl v_fewest)), (a_p0, .inr (1, [.ref a_p0_furrow, .long v_p0_eaten, .long v_p0_closed, .long v_p0_gaps, .long v_p0_strawMen, .int v_p0_months, .int v_p0_middle, .int v_p0_door, .long v_p0_seenGaps, .long v_p0_seenCorn, .int v_p0_seenCount]))] → va_S A s.heap H locs → ∀ (ls : Array Slot), lv_has ls 8 [(0, .ref a_), (1, .ref a_p0), (2, .int x2), (3, .int x3), (4, .int x4)] → k v_fewest x2 x3 x4 = some (ret, o_fewest) → W p l e rmX8_lessenLosses s m args below meth c H locs 0 0 (MQ below (QcI G A ret [(a_, .inr (7, [.ref a_fewest, .ref a_queue, .int v_queued])), (a_fewest, .inl (cI, 72, .inl o_fewest)), (a_p0, .inr (1, [.ref a_p0_furrow, .long v_p0_eaten, .long v_p0_closed, .long v_p0_gaps, .long v_p0_strawMen, .int v_p0_months, .int v_p0_middle, .int v_p0_door, .long v_p0_seenGaps, .long v_p0_seenCorn, .int v_p0_seenCount]))]) args s 0 0 A) (F0 m 124 ls [])
def SX8_lessenLosses_113 (p : Program) (l : Launch) (e : Env) (s : State) (m : MethodId) (args : Array Value) (below : List Frame) (meth : Method) (c : Code) (G : va_G) (cI cO : ClassId) (A : Nat → Prop) (a_ a_fewest a_p0 a_queue a_p0_furrow : Nat) (v_queued : Int32) (v_p0_eaten : Int64) (v_p0_closed : Int64) (v_p0_gaps : Int64) (v_p0_strawMen : Int64) (v_p0_months : Int32) (v_p0_middle : Int32) (v_p0_door : Int32) (v_p0_seenGaps : Int64) (v_p0_seenCorn : Int64) (v_p0_seenCount : Int32) (ret : Int32) (o_fewest : Nat → Int32) (k : (Nat → Int32) → Int32 → Int32 → Int32 → Int32 → Option (Int32 × (Nat → Int32))) : Prop := ∀ (v_fewest : Nat → Int32) (x3 : Int32) (x4 : Int32) (x5 : Int32) (x7 : Int32) (H : Heap) (locs : List Loc), va_P G vwCl [(a_, .inr (7, [.ref a_fewest, .ref a_queue, .int v_queued])), (a_fewest, .inl (cI, 72, .inl v_fewest)), (a_p0, .inr (1, [.ref a_p0_furrow, .long v_p0_eaten, .long v_p0_closed, .long v_p0_gaps, .long v_p0_strawMen, .int v_p0_months, .int v_p0_middle, .int v_p0_door, .long v_p0_seenGaps, .long v_p0_seenCorn, .int v_p0_seenCount]))] H → va_D A [(a_, .inr (7, [.ref a_fewest, .ref a_queue, .int v_queued])), (a_fewest, .inl (cI, 72, .inl v_fewest)), (a_p0, .inr (1, [.ref a_p0_furrow, .long v_p0_eaten, .long v_p0_closed, .long v_p0_gaps, .long v_p0_strawMen, .int v_p0_months, .int v_p0_middle, .int v_p0_door, .long v_p0_seenGaps, .long v_p0_seenCorn, .int v_p0_seenCount]))] → va_S A s.heap H locs → ∀ (ls : Array Slot), lv_has ls 8 [(0, .ref a_), (1, .ref a_p0), (3, .int x3), (4, .int x4), (5, .int x5), (7, .int x7)] → k v_fewest x3 x4 x5 x7 = some (ret, o_fewest) → W p l e rmX8_lessenLosses s m args below meth c H locs 0 0 (MQ below (QcI G A ret [(a_, .inr (7, [.ref a_fewest, .ref a_queue, .int v_queued])), (a_fewest, .inl (cI, 72, .inl o_fewest)), (a_p0, .inr (1, [.ref a_p0_furrow, .long v_p0_eaten, .long v_p0_closed, .long v_p0_gaps, .long v_p0_strawMen, .int v_p0_months, .int v_p0_middle, .int v_p0_door, .long v_p0_seenGaps, .long v_p0_seenCorn, .int v_p0_seenCount]))]) args s 0 0 A) (F0 m 113 ls [])
def SX8_lessenLosses_88 (p : Program) (l : Launch) (e : Env) (s : State) (m : MethodId) (args : Array Value) (below : List Frame) (meth : Method) (c : Code) (G : va_G) (cI cO : ClassId) (A : Nat → Prop) (a_ a_fewest a_p0 a_queue a_p0_furrow : Nat) (v_queued : Int32) (v_p0_eaten : Int64) (v_p0_closed : Int64) (v_p0_gaps : Int64) (v_p0_strawMen : Int64) (v_p0_months : Int32) (v_p0_middle : Int32) (v_p0_door : Int32) (v_p0_seenGaps : Int64) (v_p0_seenCorn : Int64) (v_p0_seenCount : Int32) (ret : Int32) (o_fewest : Nat → Int32) (k : (Nat → Int32) → Int32 → Int32 → Int32 → Int32 → Int32 → Int32 → Option (Int32 × (Nat → Int32))) : Prop := ∀ (v_fewest : Nat → Int32) (x2 : Int32) (x3 : Int32) (x4 : Int32) (x5 : Int32) (s0 : Int32) (s1 : Int32) (H : Heap) (locs : List Loc), va_P G vwCl [(a_, .inr (7, [.ref a_fewest, .ref a_queue, .int v_queued])), (a_fewest, .inl (cI, 72, .inl v_fewest)), (a_p0, .inr (1, [.ref a_p0_furrow, .long v_p0_eaten, .long v_p0_closed, .long v_p0_gaps, .long v_p0_strawMen, .int v_p0_months, .int v_p0_middle, .int v_p0_door, .long v_p0_seenGaps, .long v_p0_seenCorn, .int v_p0_seenCount]))] H → va_D A [(a_, .inr (7, [.ref a_fewest, .ref a_queue, .int v_queued])), (a_fewest, .inl (cI, 72, .inl v_fewest)), (a_p0, .inr (1, [.ref a_p0_furrow, .long v_p0_eaten, .long v_p0_closed, .long v_p0_gaps, .long v_p0_strawMen, .int v_p0_months, .int v_p0_middle, .int v_p0_door, .long v_p0_seenGaps, .long v_p0_seenCorn, .int v_p0_seenCount]))] → va_S A s.heap H locs → ∀ (ls : Array Slot), lv_has ls 8 [(0, .ref a_), (1, .ref a_p0), (2, .int x2), (3, .int x3), (4, .int x4), (5, .int x5)] → k v_fewest x2 x3 x4 x5 s0 s1 = some (ret, o_fewest) → W p l e rmX8_lessenLosses s m args below meth c H locs 0 0 (MQ below (QcI G A ret [(a_, .inr (7, [.ref a_fewest, .ref a_queue, .int v_queued])), (a_fewest, .inl (cI, 72, .inl o_fewest)), (a_p0, .inr (1, [.ref a_p0_furrow, .long v_p0_eaten, .long v_p0_closed, .long v_p0_gaps, .long v_p0_strawMen, .int v_p0_months, .int v_p0_middle, .int v_p0_door, .long v_p0_seenGaps, .long v_p0_seenCorn, .int v_p0_seenCount]))]) args s 0 0 A) (F0 m 88 ls [.int s1, .int s0])
def SX8_lessenLosses_65 (p : Program) (l : Launch) (e : Env) (s : State) (m : MethodId) (args : Array Value) (below : List Frame) (meth : Method) (c : Code) (G : va_G) (cI cO : ClassId) (A : Nat → Prop) (a_ a_fewest a_p0 a_queue a_p0_furrow : Nat) (v_queued : Int32) (v_p0_eaten : Int64) (v_p0_closed : Int64) (v_p0_gaps : Int64) (v_p0_strawMen : Int64) (v_p0_months : Int32) (v_p0_middle : Int32) (v_p0_door : Int32) (v_p0_seenGaps : Int64) (v_p0_seenCorn : Int64) (v_p0_seenCount : Int32) (ret : Int32) (o_fewest : Nat → Int32) (k : (Nat → Int32) → Int32 → Int32 → Int32 → Int32 → Int32 → Option (Int32 × (Nat → Int32))) : Prop := ∀ (v_fewest : Nat → Int32) (x2 : Int32) (x3 : Int32) (x4 : Int32) (x5 : Int32) (s0 : Int32) (H : Heap) (locs : List Loc), va_P G vwCl [(a_, .inr (7, [.ref a_fewest, .ref a_queue, .int v_queued])), (a_fewest, .inl (cI, 72, .inl v_fewest)), (a_p0, .inr (1, [.ref a_p0_furrow, .long v_p0_eaten, .long v_p0_closed, .long v_p0_gaps, .long v_p0_strawMen, .int v_p0_months, .int v_p0_middle, .int v_p0_door, .long v_p0_seenGaps, .long v_p0_seenCorn, .int v_p0_seenCount]))] H → va_D A [(a_, .inr (7, [.ref a_fewest, .ref a_queue, .int v_queued])), (a_fewest, .inl (cI, 72, .inl v_fewest)), (a_p0, .inr (1, [.ref a_p0_furrow, .long v_p0_eaten, .long v_p0_closed, .long v_p0_gaps, .long v_p0_strawMen, .int v_p0_months, .int v_p0_middle, .int v_p0_door, .long v_p0_seenGaps, .long v_p0_seenCorn, .int v_p0_seenCount]))] → va_S A s.heap H locs → ∀ (ls : Array Slot), lv_has ls 8 [(0, .ref a_), (1, .ref a_p0), (2, .int x2), (3, .int x3), (4, .int x4), (5, .int x5)] → k v_fewest x2 x3 x4 x5 s0 = some (ret, o_fewest) → W p l e rmX8_lessenLosses s m args below meth c H locs 0 0 (MQ below (QcI G A ret [(a_, .inr (7, [.ref a_fewest, .ref a_queue, .int v_queued])), (a_fewest, .inl (cI, 72, .inl o_fewest)), (a_p0, .inr (1, [.ref a_p0_furrow, .long v_p0_eaten, .long v_p0_closed, .long v_p0_gaps, .long v_p0_strawMen, .int v_p0_months, .int v_p0_middle, .int v_p0_door, .long v_p0_seenGaps, .long v_p0_seenCorn, .int v_p0_seenCount]))]) args s 0 0 A) (F0 m 65 ls [.int s0])
def SX8_lessenLosses_130 (p : Program) (l : Launch) (e : Env) (s : State) (m : MethodId) (args : Array Value) (below : List Frame) (meth : Method) (c : Code) (G : va_G) (cI cO : ClassId) (A : Nat → Prop) (a_ a_fewest a_p0 a_queue a_p0_furrow : Nat) (v_queued : Int32) (v_p0_eaten : Int64) (v_p0_closed : Int64) (v_p0_gaps : Int64) (v_p0_strawMen : Int64) (v_p0_months : Int32) (v_p0_middle : Int32) (v_p0_door : Int32) (v_p0_seenGaps : Int64) (v_p0_seenCorn : Int64) (v_p0_seenCount : Int32) (ret : Int32) (o_fewest : Nat → Int32) (k : (Nat → Int32) → Int32 → Int32 → Option (Int32 × (Nat → Int32))) : Prop := ∀ (v_fewest : Nat → Int32) (x2 : Int32) (x3 : Int32) (H : Heap) (locs : List Loc), va_P G vwCl [(a_, .inr (7, [.ref a_fewest, .ref a_queue, .int v_queued])), (a_fewest, .inl (cI, 72, .inl v_fewest)), (a_p0, .inr (1, [.ref a_p0_furrow, .long v_p0_eaten, .long v_p0_closed, .long v_p0_gaps, .long v_p0_strawMen, .int v_p0_months, .int v_p0_middle, .int v_p0_door, .long v_p0_seenGaps, .long v_p0_seenCorn, .int v_p0_seenCount]))] H → va_D A [(a_, .inr (7, [.ref a_fewest, .ref a_queue, .int v_queued])), (a_fewest, .inl (cI, 72, .inl v_fewest)), (a_p0, .inr (1, [.ref a_p0_furrow, .long v_p0_eaten, .long v_p0_closed, .long v_p0_gaps, .long v_p0_strawMen, .int v_p0_months, .int v_p0_middle, .int v_p0_door, .long v_p0_seenGaps, .long v_p0_seenCorn, .int v_p0_seenCount]))] → va_S A s.heap H locs → ∀ (ls : Array Slot), lv_has ls 8 [(0, .ref a_), (1, .ref a_p0), (2, .int x2), (3, .int x3)] → k v_fewest x2 x3 = some (ret, o_fewest) → W p l e rmX8_lessenLosses s m args below meth c H locs 0 0 (MQ below (QcI G A ret [(a_, .inr (7, [.ref a_fewest, .ref a_queue, .int v_queued])), (a_fewest, .inl (cI, 72, .inl o_fewest)), (a_p0, .inr (1, [.ref a_p0_furrow, .long v_p0_eaten, .long v_p0_closed, .long v_p0_gaps, .long v_p0_strawMen, .int v_p0_months, .int v_p0_middle, .int v_p0_door, .long v_p0_seenGaps, .long v_p0_seenCorn, .int v_p0_seenCount]))]) args s 0 0 A) (F0 m 130 ls [])
def SX8_lessenLosses_13 (p : Program) (l : Launch) (e : Env) (s : State) (m : MethodId) (args : Array Value) (below : List Frame) (meth : Method) (c : Code) (G : va_G) (cI cO : ClassId) (A : Nat → Prop) (a_ a_fewest a_p0 a_queue a_p0_furrow : Nat) (v_queued : Int32) (v_p0_eaten : Int64) (v_p0_closed : Int64) (v_p0_gaps : Int64) (v_p0_strawMen : Int64) (v_p0_months : Int32) (v_p0_middle : Int32) (v_p0_door : Int32) (v_p0_seenGaps : Int64) (v_p0_seenCorn : Int64) (v_p0_seenCount : Int32) (ret : Int32) (o_fewest : Nat → Int32) (k : (Nat → Int32) → Int32 → Int32 → Int32 → Option (Int32 × (Nat → Int32))) : Prop := ∀ (v_fewest : Nat → Int32) (x2 : Int32) (x3 : Int32) (x4 : Int32) (H : Heap) (locs : List Loc), va_P G vwCl [(a_, .inr (7, [.ref a_fewest, .ref a_queue, .int v_queued])), (a_fewest, .inl (cI, 72, .inl v_fewest)), (a_p0, .inr (1, [.ref a_p0_furrow, .long v_p0_eaten, .long v_p0_closed, .long v_p0_gaps, .long v_p0_strawMen, .int v_p0_months, .int v_p0_middle, .int v_p0_door, .long v_p0_seenGaps, .long v_p0_seenCorn, .int v_p0_seenCount]))] H → va_D A [(a_, .inr (7, [.ref a_fewest, .ref a_queue, .int v_queued])), (a_fewest, .inl (cI, 72, .inl v_fewest)), (a_p0, .inr (1, [.ref a_p0_furrow, .long v_p0_eaten, .long v_p0_closed, .long v_p0_gaps, .long v_p0_strawMen, .int v_p0_months, .int v_p0_middle, .int v_p0_door, .long v_p0_seenGaps, .long v_p0_seenCorn, .int v_p0_seenCount]))] → va_S A s.heap H locs → ∀ (ls : Array Slot), lv_has ls 8 [(0, .ref a_), (1, .ref a_p0), (2, .int x2), (3, .int x3), (4, .int x4)] → k v_fewest x2 x3 x4 = some (ret, o_fewest) → W p l e rmX8_lessenLosses s m args below meth c H locs 0 0 (MQ below (QcI G A ret [(a_, .inr (7, [.ref a_fewest, .ref a_queue, .int v_queued])), (a_fewest, .inl (cI, 72, .inl o_fewest)), (a_p0, .inr (1, [.ref a_p0_furrow, .long v_p0_eaten, .long v_p0_closed, .long v_p0_gaps, .long v_p0_strawMen, .int v_p0_months, .int v_p0_middle, .int v_p0_door, .long v_p0_seenGaps, .long v_p0_seenCorn, .int v_p0_seenCount]))]) args s 0 0 A) (F0 m 13 ls [])
def SX8_lessenLosses_4 (p : Program) (l : Launch) (e : Env) (s : State) (m : MethodId) (args : Array Value) (below : List Frame) (meth : Method) (c : Code) (G : va_G) (cI cO : ClassId) (A : Nat → Prop) (a_ a_fewest a_p0 a_queue a_p0_furrow : Nat) (v_queued : Int32) (v_p0_eaten : Int64) (v_p0_closed : Int64) (v_p0_gaps : Int64) (v_p0_strawMen : Int64) (v_p0_months : Int32) (v_p0_middle : Int32) (v_p0_door : Int32) (v_p0_seenGaps : Int64) (v_p0_seenCorn : Int64) (v_p0_seenCount : Int32) (ret : Int32) (o_fewest : Nat → Int32) (k : (Nat → Int32) → Int32 → Int32 → Option (Int32 × (Nat → Int32))) : Prop := ∀ (v_fewest : Nat → Int32) (x2 : Int32) (x3 : Int32) (H : Heap) (locs : List Loc), va_P G vwCl [(a_, .inr (7, [.ref a_fewest, .ref a_queue, .int v_queued])), (a_fewest, .inl (cI, 72, .inl v_fewest)), (a_p0, .inr (1, [.ref a_p0_furrow, .long v_p0_eaten, .long v_p0_closed, .long v_p0_gaps, .long v_p0_strawMen, .int v_p0_months, .int v_p0_middle, .int v_p0_door, .long v_p0_seenGaps, .long v_p0_seenCorn, .int v_p0_seenCount]))] H → va_D A [(a_, .inr (7, [.ref a_fewest, .ref a_queue, .int v_queued])), (a_fewest, .inl (cI, 72, .inl v_fewest)), (a_p0, .inr (1, [.ref a_p0_furrow, .long v_p0_eaten, .long v_p0_closed, .long v_p0_gaps, .long v_p0_strawMen, .int v_p0_months, .int v_p0_middle, .int v_p0_door, .long v_p0_seenGaps, .long v_p0_seenCorn, .int v_p0_seenCount]))] → va_S A s.heap H locs → ∀ (ls : Array Slot), lv_has ls 8 [(0, .ref a_), (1, .ref a_p0), (2, .int x2), (3, .int x3)] → k v_fewest x2 x3 = some (ret, o_fewest) → W p l e rmX8_lessenLosses s m args below meth c H locs 0 0 (MQ below (QcI G A ret [(a_, .inr (7, [.ref a_fewest, .ref a_queue, .int v_queued])), (a_fewest, .inl (cI, 72, .inl o_fewest)), (a_p0, .inr (1, [.ref a_p0_furrow, .long v_p0_eaten, .long v_p0_closed, .long v_p0_gaps, .long v_p0_strawMen, .int v_p0_months, .int v_p0_middle, .int v_p0_door, .long v_p0_seenGaps, .long v_p0_seenCorn, .int v_p0_seenCount]))]) args s 0 0 A) (F0 m 4 ls [])
set_option maxHeartbeats 4000000 in
set_option maxRecDepth 100000 in
theorem bX8_lessenLosses_124 {p : Program} {l : Launch} {e : Env} {s : State} {m : MethodId} {args : Array Value} {below : List Frame} {meth : Method} {c : Code} {G : va_G} {cI cO : ClassId} {A : Nat → Prop} {a_ a_fewest a_p0 a_queue a_p0_furrow : Nat} {v_queued : Int32} {v_p0_eaten : Int64} {v_p0_closed : Int64} {v_p0_gaps : Int64} {v_p0_strawMen : Int64} {v_p0_months : Int32} {v_p0_middle : Int32} {v_p0_door : Int32} {v_p0_seenGaps : Int64} {v_p0_seenCorn : Int64} {v_p0_seenCount : Int32} {ret : Int32} {o_fewest : Nat → Int32} (X : BX p rmX8_lessenLosses s m args meth c cX8_lessenLosses 8 (some .boolean) RX8 G cI cO A) {k_4 : (Nat → Int32) → Int32 → Int32 → Option (Int32 × (Nat → Int32))} (hk_4 : SX8_lessenLosses_4 p l e s m args below meth c G cI cO A a_ a_fewest a_p0 a_queue a_p0_furrow v_queued v_p0_eaten v_p0_closed v_p0_gaps v_p0_strawMen v_p0_months v_p0_middle v_p0_door v_p0_seenGaps v_p0_seenCorn v_p0_seenCount ret o_fewest k_4) {k_13 : (Nat → Int32) → Int32 → Int32 → Int32 → Option (Int32 × (Nat → Int32))} (hk_13 : SX8_lessenLosses_13 p l e s m args below meth c G cI cO A a_ a_fewest a_p0 a_queue a_p0_furrow v_queued v_p0_eaten v_p0_closed v_p0_gaps v_p0_strawMen v_p0_months v_p0_middle v_p0_door v_p0_seenGaps v_p0_seenCorn v_p0_seenCount ret o_fewest k_13) : SX8_lessenLosses_124 p l e s m args below meth c G cI cO A a_ a_fewest a_p0 a_queue a_p0_furrow v_queued v_p0_eaten v_p0_closed v_p0_gaps v_p0_strawMen v_p0_months v_p0_middle v_p0_door v_p0_seenGaps v_p0_seenCorn v_p0_seenCount ret o_fewest (fX8_lessenLosses_124 k_4 k_13) := by
  intro v_fewest x2 x3 x4 H0 locs0 hP0 hD0 hS0 ls0 hl0 h
  unfold fX8_lessenLosses_124 at h
  obtain ⟨hx, hb, hml, hr, hown, hts, hlocks, hK, hN, hA, hZ⟩ := id X
  refine lv_iinc (v := (x4 + (1 : Int32))) (lv' := [(4, .int (x4 + (1 : Int32))), (0, .ref a_), (1, .ref a_p0), (2, .int x2), (3, .int x3)]) hx hb dX8_lessenLosses_124 hl0 (k := 4) rfl (congrArg (fun z => x4 + z) (by decide : Int32.ofInt (1) = (1 : Int32))) (by decide) rfl (fun ls1 hl1 => ?_)
  refine lv_goto (tgt := 13) hx hb dX8_lessenLosses_127 (by decide) ?_
  exact hk_13 v_fewest x2 x3 ((x4 + (1 : Int32))) H0 locs0 hP0 hD0 hS0 ls1 (lv_sub hl1 [1, 2, 3, 4, 0] rfl) h
set_option maxHeartbeats 4000000 in
set_option maxRecDepth 100000 in
theorem bX8_lessenLosses_113 {p : Program} {l : Launch} {e : Env} {s : State} {m : MethodId} {args : Array Value} {below : List Frame} {meth : Method} {c : Code} {G : va_G} {cI cO : ClassId} {A : Nat → Prop} {a_ a_fewest a_p0 a_queue a_p0_furrow : Nat} {v_queued : Int32} {v_p0_eaten : Int64} {v_p0_closed : Int64} {v_p0_gaps : Int64} {v_p0_strawMen : Int64} {v_p0_months : Int32} {v_p0_middle : Int32} {v_p0_door : Int32} {v_p0_seenGaps : Int64} {v_p0_seenCorn : Int64} {v_p0_seenCount : Int32} {ret : Int32} {o_fewest : Nat → Int32} (X : BX p rmX8_lessenLosses s m args meth c cX8_lessenLosses 8 (some .boolean) RX8 G cI cO A) {k_4 : (Nat → Int32) → Int32 → Int32 → Option (Int32 × (Nat → Int32))} (hk_4 : SX8_lessenLosses_4 p l e s m args below meth c G cI cO A a_ a_fewest a_p0 a_queue a_p0_furrow v_queued v_p0_eaten v_p0_closed v_p0_gaps v_p0_strawMen v_p0_months v_p0_middle v_p0_door v_p0_seenGaps v_p0_seenCorn v_p0_seenCount ret o_fewest k_4) {k_13 : (Nat → Int32) → Int32 → Int32 → Int32 → Option (Int32 × (Nat → Int32))} (hk_13 : SX8_lessenLosses_13 p l e s m args below meth c G cI cO A a_ a_fewest a_p0 a_queue a_p0_furrow v_queued v_p0_eaten v_p0_closed v_p0_gaps v_p0_strawMen v_p0_months v_p0_middle v_p0_door v_p0_seenGaps v_p0_seenCorn v_p0_seenCount ret o_fewest k_13) : SX8_lessenLosses_113 p l e s m args below meth c G cI cO A a_ a_fewest a_p0 a_queue a_p0_furrow v_queued v_p0_eaten v_p0_closed v_p0_gaps v_p0_strawMen v_p0_months v_p0_middle v_p0_door v_p0_seenGaps v_p0_seenCorn v_p0_seenCount ret o_fewest (fX8_lessenLosses_113 k_4 k_13) := by
  intro v_fewest x3 x4 x5 x7 H0 locs0 hP0 hD0 hS0 ls0 hl0 h
  unfold fX8_lessenLosses_113 at h
  obtain ⟨hx, hb, hml, hr, hown, hts, hlocks, hK, hN, hA, hZ⟩ := id X
  refine lv_aload_n hx hb dX8_lessenLosses_113 rfl (lv_at hl0 0 rfl) ?_
  refine va_get (D := G) (ci := 7) (v := .ref a_fewest) (C := RX8) (T := TX8) (N := 3) hx hb hts gwX8 hown hK hP0 0 rfl rfl 0 (by decide) (hts _ fl_X8_9) (fun _ h9 => h9) rfl dX8_lessenLosses_114 ?_
  refine lv_iload hx hb dX8_lessenLosses_117 (lv_at hl0 4 rfl) ?_
  refine lv_iload hx hb dX8_lessenLosses_119 (lv_at hl0 5 rfl) ?_
  replace h := g_in h; obtain ⟨hg, h⟩ := h
  refine va_iast hx hb hK hP0 hD0 hS0 1 0 rfl rfl (inb_ok hg) dX8_lessenLosses_121 (fun H1 locs1 hP1 hD1 hS1 => ?_)
  replace hP1 : va_P G vwCl [(a_, .inr (7, [.ref a_fewest, .ref a_queue, .int v_queued])), (a_fewest, .inl (cI, 72, .inl ((upd v_fewest x5.toNatClampNeg x7)))), (a_p0, .inr (1, [.ref a_p0_furrow, .long v_p0_eaten, .long v_p0_closed, .long v_p0_gaps, .long v_p0_strawMen, .int v_p0_months, .int v_p0_middle, .int v_p0_door, .long v_p0_seenGaps, .long v_p0_seenCorn, .int v_p0_seenCount]))] H1 := hP1
  replace hD1 : va_D A [(a_, .inr (7, [.ref a_fewest, .ref a_queue, .int v_queued])), (a_fewest, .inl (cI, 72, .inl ((upd v_fewest x5.toNatClampNeg x7)))), (a_p0, .inr (1, [.ref a_p0_furrow, .long v_p0_eaten, .long v_p0_closed, .long v_p0_gaps, .long v_p0_strawMen, .int v_p0_months, .int v_p0_middle, .int v_p0_door, .long v_p0_seenGaps, .long v_p0_seenCorn, .int v_p0_seenCount]))] := hD1
  clear hg
  refine lv_iconst (v := (1 : Int32)) hx hb dX8_lessenLosses_122 (by decide) ?_
  refine lv_istore_n (lv' := [(2, .int (1 : Int32)), (0, .ref a_), (1, .ref a_p0), (3, .int x3), (4, .int x4), (5, .int x5), (7, .int x7)]) hx hb dX8_lessenLosses_123 rfl hl0 (by decide) rfl (fun ls2 hl2 => ?_)
  exact bX8_lessenLosses_124 X hk_4 hk_13 ((upd v_fewest x5.toNatClampNeg x7)) (1 : Int32) x3 x4 H1 locs1 hP1 hD1 hS1 ls2 (lv_sub hl2 [1, 2, 0, 3, 4] rfl) h
set_option maxHeartbeats 4000000 in
set_option maxRecDepth 100000 in
theorem bX8_lessenLosses_88 {p : Program} {l : Launch} {e : Env} {s : State} {m : MethodId} {args : Array Value} {below : List Frame} {meth : Method} {c : Code} {G : va_G} {cI cO : ClassId} {A : Nat → Prop} {a_ a_fewest a_p0 a_queue a_p0_furrow : Nat} {v_queued : Int32} {v_p0_eaten : Int64} {v_p0_closed : Int64} {v_p0_gaps : Int64} {v_p0_strawMen : Int64} {v_p0_months : Int32} {v_p0_middle : Int32} {v_p0_door : Int32} {v_p0_seenGaps : Int64} {v_p0_seenCorn : Int64} {v_p0_seenCount : Int32} {ret : Int32} {o_fewest : Nat → Int32} (X : BX p rmX8_lessenLosses s m args meth c cX8_lessenLosses 8 (some .boolean) RX8 G cI cO A) {k_4 : (Nat → Int32) → Int32 → Int32 → Option (Int32 × (Nat → Int32))} (hk_4 : SX8_lessenLosses_4 p l e s m args below meth c G cI cO A a_ a_fewest a_p0 a_queue a_p0_furrow v_queued v_p0_eaten v_p0_closed v_p0_gaps v_p0_strawMen v_p0_months v_p0_middle v_p0_door v_p0_seenGaps v_p0_seenCorn v_p0_seenCount ret o_fewest k_4) {k_13 : (Nat → Int32) → Int32 → Int32 → Int32 → Option (Int32 × (Nat → Int32))} (hk_13 : SX8_lessenLosses_13 p l e s m args below meth c G cI cO A a_ a_fewest a_p0 a_queue a_p0_furrow v_queued v_p0_eaten v_p0_closed v_p0_gaps v_p0_strawMen v_p0_months v_p0_middle v_p0_door v_p0_seenGaps v_p0_seenCorn v_p0_seenCount ret o_fewest k_13) : SX8_lessenLosses_88 p l e s m args below meth c G cI cO A a_ a_fewest a_p0 a_queue a_p0_furrow v_queued v_p0_eaten v_p0_closed v_p0_gaps v_p0_strawMen v_p0_months v_p0_middle v_p0_door v_p0_seenGaps v_p0_seenCorn v_p0_seenCount ret o_fewest (fX8_lessenLosses_88 k_4 k_13) := by
  intro v_fewest x2 x3 x4 x5 s0 s1 H0 locs0 hP0 hD0 hS0 ls0 hl0 h
  unfold fX8_lessenLosses_88 at h
  obtain ⟨hx, hb, hml, hr, hown, hts, hlocks, hK, hN, hA, hZ⟩ := id X
  refine lv_iadd hx hb dX8_lessenLosses_88 ?_
  refine lv_topi (fun y1 ey1 => ?_)
  replace h := g_let h ey1
  clear ey1
  refine lv_istore (lv' := [(7, .int y1), (0, .ref a_), (1, .ref a_p0), (2, .int x2), (3, .int x3), (4, .int x4), (5, .int x5)]) hx hb dX8_lessenLosses_89 hl0 (by decide) rfl (fun ls2 hl2 => ?_)
  refine lv_aload_n hx hb dX8_lessenLosses_91 rfl (lv_at hl2 1 rfl) ?_
  refine va_get (D := G) (ci := 7) (v := .ref a_fewest) (C := RX8) (T := TX8) (N := 3) hx hb hts gwX8 hown hK hP0 0 rfl rfl 0 (by decide) (hts _ fl_X8_9) (fun _ h9 => h9) rfl dX8_lessenLosses_92 ?_
  refine lv_iload hx hb dX8_lessenLosses_95 (lv_at hl2 6 rfl) ?_
  replace h := g_in h; obtain ⟨hg, h⟩ := h
  refine va_iald hx hb hK hP0 1 0 rfl rfl (inb_ok hg) dX8_lessenLosses_97 ?_
  clear hg
  refine lv_if_lt (tgt := 113) hx hb dX8_lessenLosses_98 (by decide) (fun hc => ?_) (fun hc => ?_)
  · replace h := t_pos h hc
    clear hc
    exact bX8_lessenLosses_113 X hk_4 hk_13 v_fewest x3 x4 x5 y1 H0 locs0 hP0 hD0 hS0 ls2 (lv_sub hl2 [1, 2, 4, 5, 6, 0] rfl) h
  · replace h := t_neg h hc
    clear hc
    refine lv_iload hx hb dX8_lessenLosses_101 (lv_at hl2 0 rfl) ?_
    refine lv_aload_n hx hb dX8_lessenLosses_103 rfl (lv_at hl2 1 rfl) ?_
    refine va_get (D := G) (ci := 7) (v := .ref a_fewest) (C := RX8) (T := TX8) (N := 3) hx hb hts gwX8 hown hK hP0 0 rfl rfl 0 (by decide) (hts _ fl_X8_9) (fun _ h9 => h9) rfl dX8_lessenLosses_104 ?_
    refine lv_iload hx hb dX8_lessenLosses_107 (lv_at hl2 6 rfl) ?_
    replace h := g_in h; obtain ⟨hg, h⟩ := h
    refine va_iald hx hb hK hP0 1 0 rfl rfl (inb_ok hg) dX8_lessenLosses_109 ?_
    clear hg
    refine lv_icmp_ge (tgt := 124) hx hb dX8_lessenLosses_110 (by decide) (fun hc => ?_) (fun hc => ?_)
    · replace h := t_pos h hc
      clear hc
      exact bX8_lessenLosses_124 X hk_4 hk_13 v_fewest x2 x3 x4 H0 locs0 hP0 hD0 hS0 ls2 (lv_sub hl2 [1, 2, 3, 4, 5] rfl) h
    · replace h := t_neg h hc
      clear hc
      exact bX8_lessenLosses_113 X hk_4 hk_13 v_fewest x3 x4 x5 y1 H0 locs0 hP0 hD0 hS0 ls2 (lv_sub hl2 [1, 2, 4, 5, 6, 0] rfl) h
set_option maxHeartbeats 4000000 in
set_option maxRecDepth 100000 in
theorem bX8_lessenLosses_65 {p : Program} {l : Launch} {e : Env} {s : State} {m : MethodId} {args : Array Value} {below : List Frame} {meth : Method} {c : Code} {G : va_G} {cI cO : ClassId} {A : Nat → Prop} {a_ a_fewest a_p0 a_queue a_p0_furrow : Nat} {v_queued : Int32} {v_p0_eaten : Int64} {v_p0_closed : Int64} {v_p0_gaps : Int64} {v_p0_strawMen : Int64} {v_p0_months : Int32} {v_p0_middle : Int32} {v_p0_door : Int32} {v_p0_seenGaps : Int64} {v_p0_seenCorn : Int64} {v_p0_seenCount : Int32} {ret : Int32} {o_fewest : Nat → Int32} (X : BX p rmX8_lessenLosses s m args meth c cX8_lessenLosses 8 (some .boolean) RX8 G cI cO A) {k_4 : (Nat → Int32) → Int32 → Int32 → Option (Int32 × (Nat → Int32))} (hk_4 : SX8_lessenLosses_4 p l e s m args below meth c G cI cO A a_ a_fewest a_p0 a_queue a_p0_furrow v_queued v_p0_eaten v_p0_closed v_p0_gaps v_p0_strawMen v_p0_months v_p0_middle v_p0_door v_p0_seenGaps v_p0_seenCorn v_p0_seenCount ret o_fewest k_4) {k_13 : (Nat → Int32) → Int32 → Int32 → Int32 → Option (Int32 × (Nat → Int32))} (hk_13 : SX8_lessenLosses_13 p l e s m args below meth c G cI cO A a_ a_fewest a_p0 a_queue a_p0_furrow v_queued v_p0_eaten v_p0_closed v_p0_gaps v_p0_strawMen v_p0_months v_p0_middle v_p0_door v_p0_seenGaps v_p0_seenCorn v_p0_seenCount ret o_fewest k_13) : SX8_lessenLosses_65 p l e s m args below meth c G cI cO A a_ a_fewest a_p0 a_queue a_p0_furrow v_queued v_p0_eaten v_p0_closed v_p0_gaps v_p0_strawMen v_p0_months v_p0_middle v_p0_door v_p0_seenGaps v_p0_seenCorn v_p0_seenCount ret o_fewest (fX8_lessenLosses_65 k_4 k_13 v_p0_months) := by
  intro v_fewest x2 x3 x4 x5 s0 H0 locs0 hP0 hD0 hS0 ls0 hl0 h
  unfold fX8_lessenLosses_65 at h
  obtain ⟨hx, hb, hml, hr, hown, hts, hlocks, hK, hN, hA, hZ⟩ := id X
  refine lv_istore (lv' := [(6, .int s0), (0, .ref a_), (1, .ref a_p0), (2, .int x2), (3, .int x3), (4, .int x4), (5, .int x5)]) hx hb dX8_lessenLosses_65 hl0 (by decide) rfl (fun ls1 hl1 => ?_)
  refine lv_aload_n hx hb dX8_lessenLosses_67 rfl (lv_at hl1 1 rfl) ?_
  refine va_get (D := G) (ci := 7) (v := .ref a_fewest) (C := RX8) (T := TX8) (N := 3) hx hb hts gwX8 hown hK hP0 0 rfl rfl 0 (by decide) (hts _ fl_X8_9) (fun _ h9 => h9) rfl dX8_lessenLosses_68 ?_
  refine lv_iload_n hx hb dX8_lessenLosses_71 rfl (lv_at hl1 4 rfl) ?_
  replace h := g_in h; obtain ⟨hg, h⟩ := h
  refine va_iald hx hb hK hP0 1 0 rfl rfl (inb_ok hg) dX8_lessenLosses_72 ?_
  clear hg
  refine lv_iconst (v := (5 : Int32)) hx hb dX8_lessenLosses_73 (by decide) ?_
  refine lv_iadd hx hb dX8_lessenLosses_74 ?_
  refine lv_iload hx hb dX8_lessenLosses_75 (lv_at hl1 0 rfl) ?_
  refine lv_if_eq (tgt := 84) hx hb dX8_lessenLosses_77 (by decide) (fun hc => ?_) (fun hc => ?_)
  · replace h := t_pos h hc
    clear hc
    refine lv_aload_n hx hb dX8_lessenLosses_84 rfl (lv_at hl1 2 rfl) ?_
    refine va_getN (D := G) (ci := 1) (v := .int v_p0_months) (C := RX1) (T := TX1) (N := 11) hx hb hts gwX1 hown hK hP0 2 rfl rfl 5 (by decide) (va_Nw.use rfl (hN _ fn_X8_84)) (fun _ h9 => h9) rfl dX8_lessenLosses_85 ?_
    exact bX8_lessenLosses_88 X hk_4 hk_13 v_fewest x2 x3 x4 x5 (((v_fewest x3.toNatClampNeg) + (5 : Int32))) v_p0_months H0 locs0 hP0 hD0 hS0 ls1 (lv_sub hl1 [1, 2, 3, 4, 5, 6] rfl) h
  · replace h := t_neg h hc
    clear hc
    refine lv_iconst (v := (0 : Int32)) hx hb dX8_lessenLosses_80 (by decide) ?_
    refine lv_goto (tgt := 88) hx hb dX8_lessenLosses_81 (by decide) ?_
    exact bX8_lessenLosses_88 X hk_4 hk_13 v_fewest x2 x3 x4 x5 (((v_fewest x3.toNatClampNeg) + (5 : Int32))) (0 : Int32) H0 locs0 hP0 hD0 hS0 ls1 (lv_sub hl1 [1, 2, 3, 4, 5, 6] rfl) h
set_option maxHeartbeats 4000000 in
set_option maxRecDepth 100000 in
theorem bX8_lessenLosses_130 {p : Program} {l : Launch} {e : Env} {s : State} {m : MethodId} {args : Array Value} {below : List Frame} {meth : Method} {c : Code} {G : va_G} {cI cO : ClassId} {A : Nat → Prop} {a_ a_fewest a_p0 a_queue a_p0_furrow : Nat} {v_queued : Int32} {v_p0_eaten : Int64} {v_p0_closed : Int64} {v_p0_gaps : Int64} {v_p0_strawMen : Int64} {v_p0_months : Int32} {v_p0_middle : Int32} {v_p0_door : Int32} {v_p0_seenGaps : Int64} {v_p0_seenCorn : Int64} {v_p0_seenCount : Int32} {ret : Int32} {o_fewest : Nat → Int32} (X : BX p rmX8_lessenLosses s m args meth c cX8_lessenLosses 8 (some .boolean) RX8 G cI cO A) {k_4 : (Nat → Int32) → Int32 → Int32 → Option (Int32 × (Nat → Int32))} (hk_4 : SX8_lessenLosses_4 p l e s m args below meth c G cI cO A a_ a_fewest a_p0 a_queue a_p0_furrow v_queued v_p0_eaten v_p0_closed v_p0_gaps v_p0_strawMen v_p0_months v_p0_middle v_p0_door v_p0_seenGaps v_p0_seenCorn v_p0_seenCount ret o_fewest k_4) : SX8_lessenLosses_130 p l e s m args below meth c G cI cO A a_ a_fewest a_p0 a_queue a_p0_furrow v_queued v_p0_eaten v_p0_closed v_p0_gaps v_p0_strawMen v_p0_months v_p0_middle v_p0_door v_p0_seenGaps v_p0_seenCorn v_p0_seenCount ret o_fewest (fX8_lessenLosses_130 k_4) := by
  intro v_fewest x2 x3 H0 locs0 hP0 hD0 hS0 ls0 hl0 h
  unfold fX8_lessenLosses_130 at h
  obtain ⟨hx, hb, hml, hr, hown, hts, hlocks, hK, hN, hA, hZ⟩ := id X
  refine lv_iinc (v := (x3 + (1 : Int32))) (lv' := [(3, .int (x3 + (1 : Int32))), (0, .ref a_), (1, .ref a_p0), (2, .int x2)]) hx hb dX8_lessenLosses_130 hl0 (k := 3) rfl (congrArg (fun z => x3 + z) (by decide : Int32.ofInt (1) = (1 : Int32))) (by decide) rfl (fun ls1 hl1 => ?_)
  refine lv_goto (tgt := 4) hx hb dX8_lessenLosses_133 (by decide) ?_
  exact hk_4 v_fewest x2 ((x3 + (1 : Int32))) H0 locs0 hP0 hD0 hS0 ls1 (lv_sub hl1 [1, 2, 3, 0] rfl) h
set_option maxHeartbeats 4000000 in
set_option maxRecDepth 100000 in
theorem bX8_lessenLosses_13 {p : Program} {l : Launch} {e : Env} {s : State} {m : MethodId} {args : Array Value} {below : List Frame} {meth : Method} {c : Code} {G : va_G} {cI cO : ClassId} {A : Nat → Prop} {a_ a_fewest a_p0 a_queue a_p0_furrow : Nat} {v_queued : Int32} {v_p0_eaten : Int64} {v_p0_closed : Int64} {v_p0_gaps : Int64} {v_p0_strawMen : Int64} {v_p0_months : Int32} {v_p0_middle : Int32} {v_p0_door : Int32} {v_p0_seenGaps : Int64} {v_p0_seenCorn : Int64} {v_p0_seenCount : Int32} {ret : Int32} {o_fewest : Nat → Int32} (X : BX p rmX8_lessenLosses s m args meth c cX8_lessenLosses 8 (some .boolean) RX8 G cI cO A) {k_4 : (Nat → Int32) → Int32 → Int32 → Option (Int32 × (Nat → Int32))} (hk_4 : SX8_lessenLosses_4 p l e s m args below meth c G cI cO A a_ a_fewest a_p0 a_queue a_p0_furrow v_queued v_p0_eaten v_p0_closed v_p0_gaps v_p0_strawMen v_p0_months v_p0_middle v_p0_door v_p0_seenGaps v_p0_seenCorn v_p0_seenCount ret o_fewest k_4) : ∀ n : Nat, SX8_lessenLosses_13 p l e s m args below meth c G cI cO A a_ a_fewest a_p0 a_queue a_p0_furrow v_queued v_p0_eaten v_p0_closed v_p0_gaps v_p0_strawMen v_p0_months v_p0_middle v_p0_door v_p0_seenGaps v_p0_seenCorn v_p0_seenCount ret o_fewest (fX8_lessenLosses_13 k_4 v_p0_gaps v_p0_months n) := by
  intro n
  induction n with
  | zero => intro v_fewest x2 x3 x4 H0 locs0 hP0 hD0 hS0 ls0 hl0 h; exact absurd h (by simp [fX8_lessenLosses_13])
  | succ n ih =>
    intro v_fewest x2 x3 x4 H0 locs0 hP0 hD0 hS0 ls0 hl0 h
    rw [fX8_lessenLosses_13] at h
    obtain ⟨hx, hb, hml, hr, hown, hts, hlocks, hK, hN, hA, hZ⟩ := id X
    refine lv_iload hx hb dX8_lessenLosses_13 (lv_at hl0 4 rfl) ?_
    refine lv_iconst (v := (4 : Int32)) hx hb dX8_lessenLosses_15 (by decide) ?_
    refine lv_icmp_ge (tgt := 130) hx hb dX8_lessenLosses_16 (by decide) (fun hc => ?_) (fun hc => ?_)
    · replace h := t_pos h hc
      clear hc
      exact bX8_lessenLosses_130 X hk_4 v_fewest x2 x3 H0 locs0 hP0 hD0 hS0 ls0 (lv_sub hl0 [0, 1, 2, 3] rfl) h
    · replace h := t_neg h hc
      clear hc
      refine lv_aload_n hx hb dX8_lessenLosses_19 rfl (lv_at hl0 0 rfl) ?_
      refine va_get (D := G) (ci := 7) (v := .ref a_fewest) (C := RX8) (T := TX8) (N := 3) hx hb hts gwX8 hown hK hP0 0 rfl rfl 0 (by decide) (hts _ fl_X8_9) (fun _ h9 => h9) rfl dX8_lessenLosses_20 ?_
      refine lv_iload_n hx hb dX8_lessenLosses_23 rfl (lv_at hl0 3 rfl) ?_
      replace h := g_in h; obtain ⟨hg, h⟩ := h
      refine va_iald hx hb hK hP0 1 0 rfl rfl (inb_ok hg) dX8_lessenLosses_24 ?_
      clear hg
      refine lv_if_lt (tgt := 130) hx hb dX8_lessenLosses_25 (by decide) (fun hc => ?_) (fun hc => ?_)
      · replace h := t_pos h hc
        clear hc
        exact bX8_lessenLosses_130 X hk_4 v_fewest x2 x3 H0 locs0 hP0 hD0 hS0 ls0 (lv_sub hl0 [0, 1, 2, 3] rfl) h
      · replace h := t_neg h hc
        clear hc
        refine lv_iload_n hx hb dX8_lessenLosses_28 rfl (lv_at hl0 3 rfl) ?_
        refine lv_iload hx hb dX8_lessenLosses_29 (lv_at hl0 4 rfl) ?_
        replace h := g_ob1 h
        obtain ⟨r1, hf1, h⟩ := h
        refine cal_i (wc := []) (w1 := []) (wn := [(a_, .inr (7, [.ref a_fewest, .ref a_queue, .int v_queued])), (a_fewest, .inl (cI, 72, .inl v_fewest)), (a_p0, .inr (1, [.ref a_p0_furrow, .long v_p0_eaten, .long v_p0_closed, .long v_p0_gaps, .long v_p0_strawMen, .int v_p0_months, .int v_p0_middle, .int v_p0_door, .long v_p0_seenGaps, .long v_p0_seenCorn, .int v_p0_seenCount]))]) X hP0 hD0 hS0 [] rfl rfl rfl rfl (run_S (As := [.int x3, .int x4]) (rest := []) X hP0 hD0 hS0 [] rfl rfl (mX3_next l G cI cO   H0.size  x3 x4 hf1) ms_X3_next ml_X8_62 ⟨Nat.le_of_ble_eq_true rfl, Nat.le_of_ble_eq_true rfl⟩ rfl rfl rfl hl0.1 rfl (Nat.le_of_ble_eq_true rfl) ⟨Nat.zero_le _, Nat.zero_le _⟩ dX8_lessenLosses_31) (fun H2 locs2 hP2 hD2 hS2 => ?_)
        clear hf1
        refine lv_istore (lv' := [(5, .int r1), (0, .ref a_), (1, .ref a_p0), (2, .int x2), (3, .int x3), (4, .int x4)]) hx hb dX8_lessenLosses_34 hl0 (by decide) rfl (fun ls3 hl3 => ?_)
        refine lv_iload hx hb dX8_lessenLosses_36 (lv_at hl3 0 rfl) ?_
        refine lv_if_ge (tgt := 44) hx hb dX8_lessenLosses_38 (by decide) (fun hc => ?_) (fun hc => ?_)
        · replace h := t_pos h hc
          clear hc
          refine lv_aload_n hx hb dX8_lessenLosses_44 rfl (lv_at hl3 2 rfl) ?_
          refine va_getN (D := G) (ci := 1) (v := .long v_p0_gaps) (C := RX1) (T := TX1) (N := 11) hx hb hts gwX1 hown hK hP2 2 rfl rfl 3 (by decide) (va_Nw.use rfl (hN _ fn_X8_73)) (fun _ h9 => h9) rfl dX8_lessenLosses_45 ?_
          refine lv_iload_n hx hb dX8_lessenLosses_48 rfl (lv_at hl3 4 rfl) ?_
          refine lv_iload hx hb dX8_lessenLosses_49 (lv_at hl3 5 rfl) ?_
          replace h := g_ob1 h
          obtain ⟨r4, hf4, h⟩ := h
          refine cal_l (wc := []) (w1 := []) (wn := [(a_, .inr (7, [.ref a_fewest, .ref a_queue, .int v_queued])), (a_fewest, .inl (cI, 72, .inl v_fewest)), (a_p0, .inr (1, [.ref a_p0_furrow, .long v_p0_eaten, .long v_p0_closed, .long v_p0_gaps, .long v_p0_strawMen, .int v_p0_months, .int v_p0_middle, .int v_p0_door, .long v_p0_seenGaps, .long v_p0_seenCorn, .int v_p0_seenCount]))]) X hP2 hD2 hS2 [] rfl rfl rfl rfl (run_S (As := [.int x3, .int x4]) (rest := [.long v_p0_gaps]) X hP2 hD2 hS2 [] rfl rfl (mX3_edge l G cI cO   H2.size  x3 x4 hf4) ms_X3_edge ml_X8_77 ⟨Nat.le_of_ble_eq_true rfl, Nat.le_of_ble_eq_true rfl⟩ rfl rfl rfl hl3.1 rfl (Nat.le_of_ble_eq_true rfl) ⟨Nat.zero_le _, Nat.zero_le _⟩ dX8_lessenLosses_51) (fun H5 locs5 hP5 hD5 hS5 => ?_)
          clear hf4 hP2 hD2 hS2
          refine lv_land hx hb dX8_lessenLosses_54 ?_
          refine lv_lconst (v := (0 : Int64)) hx hb dX8_lessenLosses_55 (by decide) ?_
          refine W.lcmp hx hb dX8_lessenLosses_56 ?_
          refine lv_if_eq (tgt := 64) hx hb dX8_lessenLosses_57 (by decide) (fun hc => ?_) (fun hc => ?_)
          · replace h := t_pos h hc
            clear hc
            refine lv_iconst (v := (0 : Int32)) hx hb dX8_lessenLosses_64 (by decide) ?_
            exact bX8_lessenLosses_65 X hk_4 ih v_fewest x2 x3 x4 r1 (0 : Int32) H5 locs5 hP5 hD5 hS5 ls3 (lv_sub hl3 [1, 2, 3, 4, 5, 0] rfl) h
          · replace h := t_neg h hc
            clear hc
            refine lv_iconst (v := (1 : Int32)) hx hb dX8_lessenLosses_60 (by decide) ?_
            refine lv_goto (tgt := 65) hx hb dX8_lessenLosses_61 (by decide) ?_
            exact bX8_lessenLosses_65 X hk_4 ih v_fewest x2 x3 x4 r1 (1 : Int32) H5 locs5 hP5 hD5 hS5 ls3 (lv_sub hl3 [1, 2, 3, 4, 5, 0] rfl) h
        · replace h := t_neg h hc
          clear hc
          refine lv_goto (tgt := 124) hx hb dX8_lessenLosses_41 (by decide) ?_
          exact bX8_lessenLosses_124 X hk_4 ih v_fewest x2 x3 x4 H2 locs2 hP2 hD2 hS2 ls3 (lv_sub hl3 [1, 2, 3, 4, 5] rfl) h
set_option maxHeartbeats 4000000 in
set_option maxRecDepth 100000 in
theorem bX8_lessenLosses_4 {p : Program} {l : Launch} {e : Env} {s : State} {m : MethodId} {args : Array Value} {below : List Frame} {meth : Method} {c : Code} {G : va_G} {cI cO : ClassId} {A : Nat → Prop} {a_ a_fewest a_p0 a_queue a_p0_furrow : Nat} {v_queued : Int32} {v_p0_eaten : Int64} {v_p0_closed : Int64} {v_p0_gaps : Int64} {v_p0_strawMen : Int64} {v_p0_months : Int32} {v_p0_middle : Int32} {v_p0_door : Int32} {v_p0_seenGaps : Int64} {v_p0_seenCorn : Int64} {v_p0_seenCount : Int32} {ret : Int32} {o_fewest : Nat → Int32} (X : BX p rmX8_lessenLosses s m args meth c cX8_lessenLosses 8 (some .boolean) RX8 G cI cO A) : ∀ n : Nat, SX8_lessenLosses_4 p l e s m args below meth c G cI cO A a_ a_fewest a_p0 a_queue a_p0_furrow v_queued v_p0_eaten v_p0_closed v_p0_gaps v_p0_strawMen v_p0_months v_p0_middle v_p0_door v_p0_seenGaps v_p0_seenCorn v_p0_seenCount ret o_fewest (fX8_lessenLosses_4 v_p0_gaps v_p0_months n) := by
  intro n
  induction n with
  | zero => intro v_fewest x2 x3 H0 locs0 hP0 hD0 hS0 ls0 hl0 h; exact absurd h (by simp [fX8_lessenLosses_4])
  | succ n ih =>
    intro v_fewest x2 x3 H0 locs0 hP0 hD0 hS0 ls0 hl0 h
    rw [fX8_lessenLosses_4] at h
    obtain ⟨hx, hb, hml, hr, hown, hts, hlocks, hK, hN, hA, hZ⟩ := id X
    refine lv_iload_n hx hb dX8_lessenLosses_4 rfl (lv_at hl0 3 rfl) ?_
    refine lv_bipush (v := (36 : Int32)) hx hb dX8_lessenLosses_5 (by decide) ?_
    refine lv_icmp_ge (tgt := 136) hx hb dX8_lessenLosses_7 (by decide) (fun hc => ?_) (fun hc => ?_)
    · replace h := t_pos h hc
      clear hc
      refine lv_iload_n hx hb dX8_lessenLosses_136 rfl (lv_at hl0 2 rfl) ?_
      replace h := g_in h; obtain ⟨hz, h⟩ := h
      obtain ⟨ez0, ez1⟩ := r_eq2 h
      subst ez0; subst ez1
      exact ret_z X hP0 hS0 (isB_ok hz) dX8_lessenLosses_137
    · replace h := t_neg h hc
      clear hc
      refine lv_iconst (v := (0 : Int32)) hx hb dX8_lessenLosses_10 (by decide) ?_
      refine lv_istore (lv' := [(4, .int (0 : Int32)), (0, .ref a_), (1, .ref a_p0), (2, .int x2), (3, .int x3)]) hx hb dX8_lessenLosses_11 hl0 (by decide) rfl (fun ls1 hl1 => ?_)
      exact bX8_lessenLosses_13 X ih 4000 v_fewest x2 x3 (0 : Int32) H0 locs0 hP0 hD0 hS0 ls1 (lv_sub hl1 [1, 2, 3, 4, 0] rfl) h
set_option maxHeartbeats 4000000 in
set_option maxRecDepth 100000 in
theorem mX8_lessenLosses (l : Launch) (G : va_G) (cI cO : ClassId) (a_ a_fewest a_p0 a_queue a_p0_furrow : Nat) (sz : Nat) (v_queued : Int32) (v_fewest : Nat → Int32) (v_p0_eaten : Int64) (v_p0_closed : Int64) (v_p0_gaps : Int64) (v_p0_strawMen : Int64) (v_p0_months : Int32) (v_p0_middle : Int32) (v_p0_door : Int32) (v_p0_seenGaps : Int64) (v_p0_seenCorn : Int64) (v_p0_seenCount : Int32)  {ret : Int32} {o_fewest : Nat → Int32} (h : fX8_lessenLosses v_fewest v_p0_gaps v_p0_months = some (ret, o_fewest)) : Met l yX8_lessenLosses (wsM yX8_lessenLosses cX8_lessenLosses 8 (some .boolean)) rmX8_lessenLosses (va_Pc [.ref a_, .ref a_p0] (preW G cI cO sz [(a_, .inr (7, [.ref a_fewest, .ref a_queue, .int v_queued])), (a_fewest, .inl (cI, 72, .inl v_fewest)), (a_p0, .inr (1, [.ref a_p0_furrow, .long v_p0_eaten, .long v_p0_closed, .long v_p0_gaps, .long v_p0_strawMen, .int v_p0_months, .int v_p0_middle, .int v_p0_door, .long v_p0_seenGaps, .long v_p0_seenCorn, .int v_p0_seenCount]))])) (QcI G (va_A [(a_, .inr (7, [.ref a_fewest, .ref a_queue, .int v_queued])), (a_fewest, .inl (cI, 72, .inl v_fewest)), (a_p0, .inr (1, [.ref a_p0_furrow, .long v_p0_eaten, .long v_p0_closed, .long v_p0_gaps, .long v_p0_strawMen, .int v_p0_months, .int v_p0_middle, .int v_p0_door, .long v_p0_seenGaps, .long v_p0_seenCorn, .int v_p0_seenCount]))] sz) ret [(a_, .inr (7, [.ref a_fewest, .ref a_queue, .int v_queued])), (a_fewest, .inl (cI, 72, .inl o_fewest)), (a_p0, .inr (1, [.ref a_p0_furrow, .long v_p0_eaten, .long v_p0_closed, .long v_p0_gaps, .long v_p0_strawMen, .int v_p0_months, .int v_p0_middle, .int v_p0_door, .long v_p0_seenGaps, .long v_p0_seenCorn, .int v_p0_seenCount]))]) 0 0 (va_A [(a_, .inr (7, [.ref a_fewest, .ref a_queue, .int v_queued])), (a_fewest, .inl (cI, 72, .inl v_fewest)), (a_p0, .inr (1, [.ref a_p0_furrow, .long v_p0_eaten, .long v_p0_closed, .long v_p0_gaps, .long v_p0_strawMen, .int v_p0_months, .int v_p0_middle, .int v_p0_door, .long v_p0_seenGaps, .long v_p0_seenCorn, .int v_p0_seenCount]))] sz) := by
  refine mkMet (own := RX8) (by decide) rfl (Nat.le_of_ble_eq_true rfl) ?_
  intro p e s m args below meth c _ hsz _ X hP0 hD0 ls0 hl0
  have hS0 : va_S (va_A [(a_, .inr (7, [.ref a_fewest, .ref a_queue, .int v_queued])), (a_fewest, .inl (cI, 72, .inl v_fewest)), (a_p0, .inr (1, [.ref a_p0_furrow, .long v_p0_eaten, .long v_p0_closed, .long v_p0_gaps, .long v_p0_strawMen, .int v_p0_months, .int v_p0_middle, .int v_p0_door, .long v_p0_seenGaps, .long v_p0_seenCorn, .int v_p0_seenCount]))] sz) s.heap s.heap [] := va_S.rf
  replace hl0 : lv_has ls0 8 [(0, .ref a_), (1, .ref a_p0)] := hl0
  generalize va_A [(a_, .inr (7, [.ref a_fewest, .ref a_queue, .int v_queued])), (a_fewest, .inl (cI, 72, .inl v_fewest)), (a_p0, .inr (1, [.ref a_p0_furrow, .long v_p0_eaten, .long v_p0_closed, .long v_p0_gaps, .long v_p0_strawMen, .int v_p0_months, .int v_p0_middle, .int v_p0_door, .long v_p0_seenGaps, .long v_p0_seenCorn, .int v_p0_seenCount]))] sz = A at X hD0 hS0 ⊢
  unfold fX8_lessenLosses at h
  obtain ⟨hx, hb, hml, hr, hown, hts, hlocks, hK, hN, hA, hZ⟩ := id X
  refine lv_iconst (v := (0 : Int32)) hx hb dX8_lessenLosses_0 (by decide) ?_
  refine lv_istore_n (lv' := [(2, .int (0 : Int32)), (0, .ref a_), (1, .ref a_p0)]) hx hb dX8_lessenLosses_1 rfl hl0 (by decide) rfl (fun ls1 hl1 => ?_)
  refine lv_iconst (v := (0 : Int32)) hx hb dX8_lessenLosses_2 (by decide) ?_
  refine lv_istore_n (lv' := [(3, .int (0 : Int32)), (2, .int (0 : Int32)), (0, .ref a_), (1, .ref a_p0)]) hx hb dX8_lessenLosses_3 rfl hl1 (by decide) rfl (fun ls2 hl2 => ?_)
  clear hl1
  exact bX8_lessenLosses_4 X 4000 v_fewest (0 : Int32) (0 : Int32) s.heap [] hP0 hD0 hS0 ls2 (lv_sub hl2 [2, 3, 1, 0] rfl) h
/-! PloughMaze$Ways.heard -/
abbrev rmX8_heard : Room := { frames := 3, cells := 0, slots := 0, locals := 71 }
def SX8_heard_61 (p : Program) (l : Launch) (e : Env) (s : State) (m : MethodId) (args : Array Value) (below : List Frame) (meth : Method) (c : Code) (G : va_G) (cI cO : ClassId) (A : Nat → Prop) (a_ a_fewest a_p0 a_queue a_p0_furrow : Nat) (v_p0_eaten : Int64) (v_p0_closed : Int64) (v_p0_gaps : Int64) (v_p0_strawMen : Int64) (v_p0_months : Int32) (v_p0_middle : Int32) (v_p0_door : Int32) (v_p0_seenGaps : Int64) (v_p0_seenCorn : Int64) (v_p0_seenCount : Int32) (ret : Int32) (o_fewest : Nat → Int32) (o_queued : Int32) (k : (Nat → Int32) → Int32 → Int32 → Option (Int32 × (Nat → Int32) × Int32)) : Prop := ∀ (v_fewest : Nat → Int32) (v_queued : Int32) (x2 : Int32) (H : Heap) (locs : List Loc), va_P G vwCl [(a_, .inr (7, [.ref a_fewest, .ref a_queue, .int v_queued])), (a_fewest, .inl (cI, 72, .inl v_fewest)), (a_p0, .inr (1, [.ref a_p0_furrow, .long v_p0_eaten, .long v_p0_closed, .long v_p0_gaps, .long v_p0_strawMen, .int v_p0_months, .int v_p0_middle, .int v_p0_door, .long v_p0_seenGaps, .long v_p0_seenCorn, .int v_p0_seenCount]))] H → va_D A [(a_, .inr (7, [.ref a_fewest, .ref a_queue, .int v_queued])), (a_fewest, .inl (cI, 72, .inl v_fewest)), (a_p0, .inr (1, [.ref a_p0_furrow, .long v_p0_eaten, .long v_p0_closed, .long v_p0_gaps, .long v_p0_strawMen, .int v_p0_months, .int v_p0_middle, .int v_p0_door, .long v_p0_seenGaps, .long v_p0_seenCorn, .int v_p0_seenCount]))] → va_S A s.heap H locs → ∀ (ls : Array Slot), lv_has ls 5 [(0, .ref a_), (2, .int x2)] → k v_fewest v_queued x2 = some (ret, o_fewest, o_queued) → W p l e rmX8_heard s m args below meth c H locs 0 0 (MQ below (QcI G A ret [(a_, .inr (7, [.ref a_fewest, .ref a_queue, .int o_queued])), (a_fewest, .inl (cI, 72, .inl o_fewest)), (a_p0, .inr (1, [.ref a_p0_furrow, .long v_p0_eaten, .long v_p0_closed, .long v_p0_gaps, .long v_p0_strawMen, .int v_p0_months, .int v_p0_middle, .int v_p0_door, .long v_p0_seenGaps, .long v_p0_seenCorn, .int v_p0_seenCount]))]) args s 0 0 A) (F0 m 61 ls [])
def SX8_heard_38 (p : Program) (l : Launch) (e : Env) (s : State) (m : MethodId) (args : Array Value) (below : List Frame) (meth : Method) (c : Code) (G : va_G) (cI cO : ClassId) (A : Nat → Prop) (a_ a_fewest a_p0 a_queue a_p0_furrow : Nat) (v_p0_eaten : Int64) (v_p0_closed : Int64) (v_p0_gaps : Int64) (v_p0_strawMen : Int64) (v_p0_months : Int32) (v_p0_middle : Int32) (v_p0_door : Int32) (v_p0_seenGaps : Int64) (v_p0_seenCorn : Int64) (v_p0_seenCount : Int32) (ret : Int32) (o_fewest : Nat → Int32) (o_queued : Int32) (k : (Nat → Int32) → Int32 → Int32 → Int32 → Int32 → Option (Int32 × (Nat → Int32) × Int32)) : Prop := ∀ (v_fewest : Nat → Int32) (v_queued : Int32) (x2 : Int32) (x3 : Int32) (x4 : Int32) (H : Heap) (locs : List Loc), va_P G vwCl [(a_, .inr (7, [.ref a_fewest, .ref a_queue, .int v_queued])), (a_fewest, .inl (cI, 72, .inl v_fewest)), (a_p0, .inr (1, [.ref a_p0_furrow, .long v_p0_eaten, .long v_p0_closed, .long v_p0_gaps, .long v_p0_strawMen, .int v_p0_months, .int v_p0_middle, .int v_p0_door, .long v_p0_seenGaps, .long v_p0_seenCorn, .int v_p0_seenCount]))] H → va_D A [(a_, .inr (7, [.ref a_fewest, .ref a_queue, .int v_queued])), (a_fewest, .inl (cI, 72, .inl v_fewest)), (a_p0, .inr (1, [.ref a_p0_furrow, .long v_p0_eaten, .long v_p0_closed, .long v_p0_gaps, .long v_p0_strawMen, .int v_p0_months, .int v_p0_middle, .int v_p0_door, .long v_p0_seenGaps, .long v_p0_seenCorn, .int v_p0_seenCount]))] → va_S A s.heap H locs → ∀ (ls : Array Slot), lv_has ls 5 [(0, .ref a_), (1, .ref a_p0), (2, .int x2), (3, .int x3), (4, .int x4)] → k v_fewest v_queued x2 x3 x4 = some (ret, o_fewest, o_queued) → W p l e rmX8_heard s m args below meth c H locs 0 0 (MQ below (QcI G A ret [(a_, .inr (7, [.ref a_fewest, .ref a_queue, .int o_queued])), (a_fewest, .inl (cI, 72, .inl o_fewest)), (a_p0, .inr (1, [.ref a_p0_furrow, .long v_p0_eaten, .long v_p0_closed, .long v_p0_gaps, .long v_p0_strawMen, .int v_p0_months, .int v_p0_middle, .int v_p0_door, .long v_p0_seenGaps, .long v_p0_seenCorn, .int v_p0_seenCount]))]) args s 0 0 A) (F0 m 38 ls [])
set_option maxHeartbeats 4000000 in
set_option maxRecDepth 100000 in
theorem bX8_heard_61 {p : Program} {l : Launch} {e : Env} {s : State} {m : MethodId} {args : Array Value} {below : List Frame} {meth : Method} {c : Code} {G : va_G} {cI cO : ClassId} {A : Nat → Prop} {a_ a_fewest a_p0 a_queue a_p0_furrow : Nat} {v_p0_eaten : Int64} {v_p0_closed : Int64} {v_p0_gaps : Int64} {v_p0_strawMen : Int64} {v_p0_months : Int32} {v_p0_middle : Int32} {v_p0_door : Int32} {v_p0_seenGaps : Int64} {v_p0_seenCorn : Int64} {v_p0_seenCount : Int32} {ret : Int32} {o_fewest : Nat → Int32} {o_queued : Int32} (X : BX p rmX8_heard s m args meth c cX8_heard 5 (some .int) RX8 G cI cO A) : SX8_heard_61 p l e s m args below meth c G cI cO A a_ a_fewest a_p0 a_queue a_p0_furrow v_p0_eaten v_p0_closed v_p0_gaps v_p0_strawMen v_p0_months v_p0_middle v_p0_door v_p0_seenGaps v_p0_seenCorn v_p0_seenCount ret o_fewest o_queued fX8_heard_61 := by
  intro v_fewest v_queued x2 H0 locs0 hP0 hD0 hS0 ls0 hl0 h
  unfold fX8_heard_61 at h
  obtain ⟨hx, hb, hml, hr, hown, hts, hlocks, hK, hN, hA, hZ⟩ := id X
  refine lv_aload_n hx hb dX8_heard_61 rfl (lv_at hl0 0 rfl) ?_
  refine va_get (D := G) (ci := 7) (v := .ref a_fewest) (C := RX8) (T := TX8) (N := 3) hx hb hts gwX8 hown hK hP0 0 rfl rfl 0 (by decide) (hts _ fl_X8_9) (fun _ h9 => h9) rfl dX8_heard_62 ?_
  refine lv_iload_n hx hb dX8_heard_65 rfl (lv_at hl0 1 rfl) ?_
  replace h := g_in h; obtain ⟨hg, h⟩ := h
  refine va_iald hx hb hK hP0 1 0 rfl rfl (inb_ok hg) dX8_heard_66 ?_
  clear hg
  refine lv_if_ge (tgt := 74) hx hb dX8_heard_67 (by decide) (fun hc => ?_) (fun hc => ?_)
  · replace h := t_pos h hc
    clear hc
    refine lv_iconst (v := (0 : Int32)) hx hb dX8_heard_74 (by decide) ?_
    refine lv_bipush (v := (40 : Int32)) hx hb dX8_heard_75 (by decide) ?_
    refine lv_aload_n hx hb dX8_heard_77 rfl (lv_at hl0 0 rfl) ?_
    refine va_get (D := G) (ci := 7) (v := .ref a_fewest) (C := RX8) (T := TX8) (N := 3) hx hb hts gwX8 hown hK hP0 0 rfl rfl 0 (by decide) (hts _ fl_X8_9) (fun _ h9 => h9) rfl dX8_heard_78 ?_
    refine lv_iload_n hx hb dX8_heard_81 rfl (lv_at hl0 1 rfl) ?_
    replace h := g_in h; obtain ⟨hg, h⟩ := h
    refine va_iald hx hb hK hP0 1 0 rfl rfl (inb_ok hg) dX8_heard_82 ?_
    clear hg
    refine lv_isub hx hb dX8_heard_83 ?_
    refine va_mmax hx hb (hml.trans hl0.1.symm) hown (hts _ ml_X8_53) (hts _ st_mmax) (hts _ ini_Math) (hts _ co_mmax) (Nat.le_of_ble_eq_true rfl) (Nat.le_of_ble_eq_true rfl) (Nat.le_of_ble_eq_true rfl) (Nat.le_of_ble_eq_true rfl) dX8_heard_84 ?_
    obtain ⟨ez0, ez1, ez2⟩ := r_eq3 h
    subst ez0; subst ez1; subst ez2
    exact ret_i X hP0 hS0 dX8_heard_87
  · replace h := t_neg h hc
    clear hc
    refine lv_iconst (v := (0 : Int32)) hx hb dX8_heard_70 (by decide) ?_
    refine lv_goto (tgt := 87) hx hb dX8_heard_71 (by decide) ?_
    obtain ⟨ez0, ez1, ez2⟩ := r_eq3 h
    subst ez0; subst ez1; subst ez2
    exact ret_i X hP0 hS0 dX8_heard_87
set_option maxHeartbeats 4000000 in
set_option maxRecDepth 100000 in
theorem bX8_heard_38 {p : Program} {l : Launch} {e : Env} {s : State} {m : MethodId} {args : Array Value} {below : List Frame} {meth : Method} {c : Code} {G : va_G} {cI cO : ClassId} {A : Nat → Prop} {a_ a_fewest a_p0 a_queue a_p0_furrow : Nat} {v_p0_eaten : Int64} {v_p0_closed : Int64} {v_p0_gaps : Int64} {v_p0_strawMen : Int64} {v_p0_months : Int32} {v_p0_middle : Int32} {v_p0_door : Int32} {v_p0_seenGaps : Int64} {v_p0_seenCorn : Int64} {v_p0_seenCount : Int32} {ret : Int32} {o_fewest : Nat → Int32} {o_queued : Int32} (X : BX p rmX8_heard s m args meth c cX8_heard 5 (some .int) RX8 G cI cO A) : ∀ n : Nat, SX8_heard_38 p l e s m args below meth c G cI cO A a_ a_fewest a_p0 a_queue a_p0_furrow v_p0_eaten v_p0_closed v_p0_gaps v_p0_strawMen v_p0_months v_p0_middle v_p0_door v_p0_seenGaps v_p0_seenCorn v_p0_seenCount ret o_fewest o_queued (fX8_heard_38 v_p0_gaps v_p0_months n) := by
  intro n
  induction n with
  | zero => intro v_fewest v_queued x2 x3 x4 H0 locs0 hP0 hD0 hS0 ls0 hl0 h; exact absurd h (by simp [fX8_heard_38])
  | succ n ih =>
    intro v_fewest v_queued x2 x3 x4 H0 locs0 hP0 hD0 hS0 ls0 hl0 h
    rw [fX8_heard_38] at h
    obtain ⟨hx, hb, hml, hr, hown, hts, hlocks, hK, hN, hA, hZ⟩ := id X
    refine lv_iload hx hb dX8_heard_38 (lv_at hl0 4 rfl) ?_
    refine lv_bipush (v := (36 : Int32)) hx hb dX8_heard_40 (by decide) ?_
    refine lv_icmp_ge (tgt := 61) hx hb dX8_heard_42 (by decide) (fun hc => ?_) (fun hc => ?_)
    · replace h := t_pos h hc
      clear hc
      exact bX8_heard_61 X v_fewest v_queued x2 H0 locs0 hP0 hD0 hS0 ls0 (lv_sub hl0 [0, 2] rfl) h
    · replace h := t_neg h hc
      clear hc
      refine lv_iload_n hx hb dX8_heard_45 rfl (lv_at hl0 3 rfl) ?_
      refine lv_if_eq (tgt := 61) hx hb dX8_heard_46 (by decide) (fun hc => ?_) (fun hc => ?_)
      · replace h := t_pos h hc
        clear hc
        exact bX8_heard_61 X v_fewest v_queued x2 H0 locs0 hP0 hD0 hS0 ls0 (lv_sub hl0 [0, 2] rfl) h
      · replace h := t_neg h hc
        clear hc
        refine lv_aload_n hx hb dX8_heard_49 rfl (lv_at hl0 0 rfl) ?_
        refine lv_aload_n hx hb dX8_heard_50 rfl (lv_at hl0 1 rfl) ?_
        replace h := g_ob2 h
        obtain ⟨r1, v_fewest_1, hf1, h⟩ := h
        refine cal_i (wc := [(a_, .inr (7, [.ref a_fewest, .ref a_queue, .int v_queued])), (a_fewest, .inl (cI, 72, .inl v_fewest)), (a_p0, .inr (1, [.ref a_p0_furrow, .long v_p0_eaten, .long v_p0_closed, .long v_p0_gaps, .long v_p0_strawMen, .int v_p0_months, .int v_p0_middle, .int v_p0_door, .long v_p0_seenGaps, .long v_p0_seenCorn, .int v_p0_seenCount]))]) (w1 := [(a_, .inr (7, [.ref a_fewest, .ref a_queue, .int v_queued])), (a_fewest, .inl (cI, 72, .inl v_fewest_1)), (a_p0, .inr (1, [.ref a_p0_furrow, .long v_p0_eaten, .long v_p0_closed, .long v_p0_gaps, .long v_p0_strawMen, .int v_p0_months, .int v_p0_middle, .int v_p0_door, .long v_p0_seenGaps, .long v_p0_seenCorn, .int v_p0_seenCount]))]) (wn := [(a_, .inr (7, [.ref a_fewest, .ref a_queue, .int v_queued])), (a_fewest, .inl (cI, 72, .inl v_fewest_1)), (a_p0, .inr (1, [.ref a_p0_furrow, .long v_p0_eaten, .long v_p0_closed, .long v_p0_gaps, .long v_p0_strawMen, .int v_p0_months, .int v_p0_middle, .int v_p0_door, .long v_p0_seenGaps, .long v_p0_seenCorn, .int v_p0_seenCount]))]) X hP0 hD0 hS0 [0, 1, 2] rfl rfl rfl rfl (run_V (As := [.ref a_p0]) (rest := []) X hP0 hD0 hS0 [0, 1, 2] rfl rfl (mX8_lessenLosses l G cI cO a_ a_fewest a_p0 a_queue a_p0_furrow  H0.size v_queued v_fewest v_p0_eaten v_p0_closed v_p0_gaps v_p0_strawMen v_p0_months v_p0_middle v_p0_door v_p0_seenGaps v_p0_seenCorn v_p0_seenCount  hf1) mv_X8_lessenLosses ml_X8_80 ⟨Nat.le_of_ble_eq_true rfl, Nat.le_of_ble_eq_true rfl⟩ rfl rfl 0 7 rfl rfl rfl rfl hl0.1 rfl (Nat.le_of_ble_eq_true rfl) ⟨Nat.zero_le _, Nat.zero_le _⟩ dX8_heard_51) (fun H2 locs2 hP2 hD2 hS2 => ?_)
        clear hf1
        refine lv_istore_n (lv' := [(3, .int r1), (0, .ref a_), (1, .ref a_p0), (2, .int x2), (4, .int x4)]) hx hb dX8_heard_54 rfl hl0 (by decide) rfl (fun ls3 hl3 => ?_)
        refine lv_iinc (v := (x4 + (1 : Int32))) (lv' := [(4, .int (x4 + (1 : Int32))), (3, .int r1), (0, .ref a_), (1, .ref a_p0), (2, .int x2)]) hx hb dX8_heard_55 hl3 (k := 4) rfl (congrArg (fun z => x4 + z) (by decide : Int32.ofInt (1) = (1 : Int32))) (by decide) rfl (fun ls4 hl4 => ?_)
        refine lv_goto (tgt := 38) hx hb dX8_heard_58 (by decide) ?_
        exact ih v_fewest_1 v_queued x2 r1 ((x4 + (1 : Int32))) H2 locs2 hP2 hD2 hS2 ls4 (lv_sub hl4 [2, 3, 4, 1, 0] rfl) h
set_option maxHeartbeats 4000000 in
set_option maxRecDepth 100000 in
theorem mX8_heard (l : Launch) (G : va_G) (cI cO : ClassId) (a_ a_fewest a_p0 a_queue a_p0_furrow : Nat) (sz : Nat) (v_queued : Int32) (v_fewest : Nat → Int32) (v_p0_eaten : Int64) (v_p0_closed : Int64) (v_p0_gaps : Int64) (v_p0_strawMen : Int64) (v_p0_months : Int32) (v_p0_middle : Int32) (v_p0_door : Int32) (v_p0_seenGaps : Int64) (v_p0_seenCorn : Int64) (v_p0_seenCount : Int32) (x2 : Int32) {ret : Int32} {o_fewest : Nat → Int32} {o_queued : Int32} (h : fX8_heard v_fewest v_queued v_p0_gaps v_p0_months v_p0_middle x2 = some (ret, o_fewest, o_queued)) : Met l yX8_heard (wsM yX8_heard cX8_heard 5 (some .int)) rmX8_heard (va_Pc [.ref a_, .ref a_p0, .int x2] (preW G cI cO sz [(a_, .inr (7, [.ref a_fewest, .ref a_queue, .int v_queued])), (a_fewest, .inl (cI, 72, .inl v_fewest)), (a_p0, .inr (1, [.ref a_p0_furrow, .long v_p0_eaten, .long v_p0_closed, .long v_p0_gaps, .long v_p0_strawMen, .int v_p0_months, .int v_p0_middle, .int v_p0_door, .long v_p0_seenGaps, .long v_p0_seenCorn, .int v_p0_seenCount]))])) (QcI G (va_A [(a_, .inr (7, [.ref a_fewest, .ref a_queue, .int v_queued])), (a_fewest, .inl (cI, 72, .inl v_fewest)), (a_p0, .inr (1, [.ref a_p0_furrow, .long v_p0_eaten, .long v_p0_closed, .long v_p0_gaps, .long v_p0_strawMen, .int v_p0_months, .int v_p0_middle, .int v_p0_door, .long v_p0_seenGaps, .long v_p0_seenCorn, .int v_p0_seenCount]))] sz) ret [(a_, .inr (7, [.ref a_fewest, .ref a_queue, .int o_queued])), (a_fewest, .inl (cI, 72, .inl o_fewest)), (a_p0, .inr (1, [.ref a_p0_furrow, .long v_p0_eaten, .long v_p0_closed, .long v_p0_gaps, .long v_p0_strawMen, .int v_p0_months, .int v_p0_middle, .int v_p0_door, .long v_p0_seenGaps, .long v_p0_seenCorn, .int v_p0_seenCount]))]) 0 0 (va_A [(a_, .inr (7, [.ref a_fewest, .ref a_queue, .int v_queued])), (a_fewest, .inl (cI, 72, .inl v_fewest)), (a_p0, .inr (1, [.ref a_p0_furrow, .long v_p0_eaten, .long v_p0_closed, .long v_p0_gaps, .long v_p0_strawMen, .int v_p0_months, .int v_p0_middle, .int v_p0_door, .long v_p0_seenGaps, .long v_p0_seenCorn, .int v_p0_seenCount]))] sz) := by
  refine mkMet (own := RX8) (by decide) rfl (Nat.le_of_ble_eq_true rfl) ?_
  intro p e s m args below meth c _ hsz _ X hP0 hD0 ls0 hl0
  have hS0 : va_S (va_A [(a_, .inr (7, [.ref a_fewest, .ref a_queue, .int v_queued])), (a_fewest, .inl (cI, 72, .inl v_fewest)), (a_p0, .inr (1, [.ref a_p0_furrow, .long v_p0_eaten, .long v_p0_closed, .long v_p0_gaps, .long v_p0_strawMen, .int v_p0_months, .int v_p0_middle, .int v_p0_door, .long v_p0_seenGaps, .long v_p0_seenCorn, .int v_p0_seenCount]))] sz) s.heap s.heap [] := va_S.rf
  replace hl0 : lv_has ls0 5 [(0, .ref a_), (1, .ref a_p0), (2, .int x2)] := hl0
  generalize va_A [(a_, .inr (7, [.ref a_fewest, .ref a_queue, .int v_queued])), (a_fewest, .inl (cI, 72, .inl v_fewest)), (a_p0, .inr (1, [.ref a_p0_furrow, .long v_p0_eaten, .long v_p0_closed, .long v_p0_gaps, .long v_p0_strawMen, .int v_p0_months, .int v_p0_middle, .int v_p0_door, .long v_p0_seenGaps, .long v_p0_seenCorn, .int v_p0_seenCount]))] sz = A at X hD0 hS0 ⊢
  unfold fX8_heard at h
  obtain ⟨hx, hb, hml, hr, hown, hts, hlocks, hK, hN, hA, hZ⟩ := id X
  refine lv_iload_n hx hb dX8_heard_0 rfl (lv_at hl0 2 rfl) ?_
  replace h := g_ob1 h
  obtain ⟨r1, hf1, h⟩ := h
  refine cal_i (wc := []) (w1 := []) (wn := [(a_, .inr (7, [.ref a_fewest, .ref a_queue, .int v_queued])), (a_fewest, .inl (cI, 72, .inl v_fewest)), (a_p0, .inr (1, [.ref a_p0_furrow, .long v_p0_eaten, .long v_p0_closed, .long v_p0_gaps, .long v_p0_strawMen, .int v_p0_months, .int v_p0_middle, .int v_p0_door, .long v_p0_seenGaps, .long v_p0_seenCorn, .int v_p0_seenCount]))]) X hP0 hD0 hS0 [] rfl rfl rfl rfl (run_S (As := [.int x2]) (rest := []) X hP0 hD0 hS0 [] rfl rfl (mX3_isSquare l G cI cO   s.heap.size  x2 hf1) ms_X3_isSquare ml_X8_48 ⟨Nat.le_of_ble_eq_true rfl, Nat.le_of_ble_eq_true rfl⟩ rfl rfl rfl hl0.1 rfl (Nat.le_of_ble_eq_true rfl) ⟨Nat.zero_le _, Nat.zero_le _⟩ dX8_heard_1) (fun H2 locs2 hP2 hD2 hS2 => ?_)
  clear hf1
  refine lv_if_eq (tgt := 17) hx hb dX8_heard_4 (by decide) (fun hc => ?_) (fun hc => ?_)
  · replace h := t_pos h hc
    clear hc
    refine lv_iconst (v := (0 : Int32)) hx hb dX8_heard_17 (by decide) ?_
    obtain ⟨ez0, ez1, ez2⟩ := r_eq3 h
    subst ez0; subst ez1; subst ez2
    exact ret_i X hP2 hS2 dX8_heard_18
  · replace h := t_neg h hc
    clear hc
    refine lv_aload_n hx hb dX8_heard_7 rfl (lv_at hl0 1 rfl) ?_
    refine va_getN (D := G) (ci := 1) (v := .int v_p0_middle) (C := RX1) (T := TX1) (N := 11) hx hb hts gwX1 hown hK hP2 2 rfl rfl 6 (by decide) (va_Nw.use rfl (hN _ fn_X8_25)) (fun _ h9 => h9) rfl dX8_heard_8 ?_
    replace h := g_ob1 h
    obtain ⟨r3, hf3, h⟩ := h
    refine cal_i (wc := []) (w1 := []) (wn := [(a_, .inr (7, [.ref a_fewest, .ref a_queue, .int v_queued])), (a_fewest, .inl (cI, 72, .inl v_fewest)), (a_p0, .inr (1, [.ref a_p0_furrow, .long v_p0_eaten, .long v_p0_closed, .long v_p0_gaps, .long v_p0_strawMen, .int v_p0_months, .int v_p0_middle, .int v_p0_door, .long v_p0_seenGaps, .long v_p0_seenCorn, .int v_p0_seenCount]))]) X hP2 hD2 hS2 [] rfl rfl rfl rfl (run_S (As := [.int v_p0_middle]) (rest := []) X hP2 hD2 hS2 [] rfl rfl (mX3_isSquare l G cI cO   H2.size  v_p0_middle hf3) ms_X3_isSquare ml_X8_48 ⟨Nat.le_of_ble_eq_true rfl, Nat.le_of_ble_eq_true rfl⟩ rfl rfl rfl hl0.1 rfl (Nat.le_of_ble_eq_true rfl) ⟨Nat.zero_le _, Nat.zero_le _⟩ dX8_heard_11) (fun H4 locs4 hP4 hD4 hS4 => ?_)
    clear hf3 hP2 hD2 hS2
    refine lv_if_ne (tgt := 19) hx hb dX8_heard_14 (by decide) (fun hc => ?_) (fun hc => ?_)
    · replace h := t_neg h hc
      clear hc
      refine lv_aload_n hx hb dX8_heard_19 rfl (lv_at hl0 0 rfl) ?_
      replace h := g_ob2 h
      obtain ⟨v_fewest_5, v_queued_5, hf5, h⟩ := h
      refine cal_v (wc := [(a_, .inr (7, [.ref a_fewest, .ref a_queue, .int v_queued])), (a_fewest, .inl (cI, 72, .inl v_fewest))]) (w1 := [(a_, .inr (7, [.ref a_fewest, .ref a_queue, .int v_queued_5])), (a_fewest, .inl (cI, 72, .inl v_fewest_5))]) (wn := [(a_, .inr (7, [.ref a_fewest, .ref a_queue, .int v_queued_5])), (a_fewest, .inl (cI, 72, .inl v_fewest_5)), (a_p0, .inr (1, [.ref a_p0_furrow, .long v_p0_eaten, .long v_p0_closed, .long v_p0_gaps, .long v_p0_strawMen, .int v_p0_months, .int v_p0_middle, .int v_p0_door, .long v_p0_seenGaps, .long v_p0_seenCorn, .int v_p0_seenCount]))]) X hP4 hD4 hS4 [0, 1] rfl rfl rfl rfl (run_V (As := []) (rest := []) X hP4 hD4 hS4 [0, 1] rfl rfl (mX8_forget l G cI cO a_ a_fewest a_queue  H4.size v_queued v_fewest  hf5) mv_X8_forget ml_X8_22 ⟨Nat.le_of_ble_eq_true rfl, Nat.le_of_ble_eq_true rfl⟩ rfl rfl 0 7 rfl rfl rfl rfl hl0.1 rfl (Nat.le_of_ble_eq_true rfl) ⟨Nat.zero_le _, Nat.zero_le _⟩ dX8_heard_20) (fun H6 locs6 hP6 hD6 hS6 => ?_)
      clear hf5 hP4 hD4 hS4
      refine lv_aload_n hx hb dX8_heard_23 rfl (lv_at hl0 0 rfl) ?_
      refine va_get (D := G) (ci := 7) (v := .ref a_fewest) (C := RX8) (T := TX8) (N := 3) hx hb hts gwX8 hown hK hP6 0 rfl rfl 0 (by decide) (hts _ fl_X8_9) (fun _ h9 => h9) rfl dX8_heard_24 ?_
      refine lv_aload_n hx hb dX8_heard_27 rfl (lv_at hl0 1 rfl) ?_
      refine va_getN (D := G) (ci := 1) (v := .int v_p0_middle) (C := RX1) (T := TX1) (N := 11) hx hb hts gwX1 hown hK hP6 2 rfl rfl 6 (by decide) (va_Nw.use rfl (hN _ fn_X8_25)) (fun _ h9 => h9) rfl dX8_heard_28 ?_
      refine lv_iconst (v := (0 : Int32)) hx hb dX8_heard_31 (by decide) ?_
      replace h := g_in h; obtain ⟨hg, h⟩ := h
      refine va_iast hx hb hK hP6 hD6 hS6 1 0 rfl rfl (inb_ok hg) dX8_heard_32 (fun H7 locs7 hP7 hD7 hS7 => ?_)
      replace hP7 : va_P G vwCl [(a_, .inr (7, [.ref a_fewest, .ref a_queue, .int v_queued_5])), (a_fewest, .inl (cI, 72, .inl ((upd v_fewest_5 v_p0_middle.toNatClampNeg (0 : Int32))))), (a_p0, .inr (1, [.ref a_p0_furrow, .long v_p0_eaten, .long v_p0_closed, .long v_p0_gaps, .long v_p0_strawMen, .int v_p0_months, .int v_p0_middle, .int v_p0_door, .long v_p0_seenGaps, .long v_p0_seenCorn, .int v_p0_seenCount]))] H7 := hP7
      replace hD7 : va_D A [(a_, .inr (7, [.ref a_fewest, .ref a_queue, .int v_queued_5])), (a_fewest, .inl (cI, 72, .inl ((upd v_fewest_5 v_p0_middle.toNatClampNeg (0 : Int32))))), (a_p0, .inr (1, [.ref a_p0_furrow, .long v_p0_eaten, .long v_p0_closed, .long v_p0_gaps, .long v_p0_strawMen, .int v_p0_months, .int v_p0_middle, .int v_p0_door, .long v_p0_seenGaps, .long v_p0_seenCorn, .int v_p0_seenCount]))] := hD7
      clear hP6 hD6 hS6
      clear hg
      refine lv_iconst (v := (1 : Int32)) hx hb dX8_heard_33 (by decide) ?_
      refine lv_istore_n (lv' := [(3, .int (1 : Int32)), (0, .ref a_), (1, .ref a_p0), (2, .int x2)]) hx hb dX8_heard_34 rfl hl0 (by decide) rfl (fun ls8 hl8 => ?_)
      refine lv_iconst (v := (0 : Int32)) hx hb dX8_heard_35 (by decide) ?_
      refine lv_istore (lv' := [(4, .int (0 : Int32)), (3, .int (1 : Int32)), (0, .ref a_), (1, .ref a_p0), (2, .int x2)]) hx hb dX8_heard_36 hl8 (by decide) rfl (fun ls9 hl9 => ?_)
      clear hl8
      exact bX8_heard_38 X 4000 ((upd v_fewest_5 v_p0_middle.toNatClampNeg (0 : Int32))) v_queued_5 x2 (1 : Int32) (0 : Int32) H7 locs7 hP7 hD7 hS7 ls9 (lv_sub hl9 [2, 3, 4, 1, 0] rfl) h
    · replace h := t_pos h hc
      clear hc
      refine lv_iconst (v := (0 : Int32)) hx hb dX8_heard_17 (by decide) ?_
      obtain ⟨ez0, ez1, ez2⟩ := r_eq3 h
      subst ez0; subst ez1; subst ez2
      exact ret_i X hP4 hS4 dX8_heard_18
/-! PloughMaze$Closing.weigh -/
abbrev rmX0_weigh : Room := { frames := 3, cells := 0, slots := 0, locals := 83 }
set_option maxHeartbeats 4000000 in
set_option maxRecDepth 100000 in
theorem mX0_weigh (l : Launch) (G : va_G) (cI cO : ClassId) (a_ a_p0 a_p1 a_p1_fewest a_p1_queue a_p0_furrow : Nat) (sz : Nat) (v_square : Int32) (v_side : Int32) (v_steps : Int32) (v_p0_eaten : Int64) (v_p0_closed : Int64) (v_p0_gaps : Int64) (v_p0_strawMen : Int64) (v_p0_months : Int32) (v_p0_middle : Int32) (v_p0_door : Int32) (v_p0_seenGaps : Int64) (v_p0_seenCorn : Int64) (v_p0_seenCount : Int32) (v_p1_queued : Int32) (v_p1_fewest : Nat → Int32) (v_p1_queue : Nat → Int32) (x3 : Int32) (x4 : Int32) {o_square : Int32} {o_side : Int32} {o_steps : Int32} {o_p1_fewest : Nat → Int32} {o_p1_queue : Nat → Int32} {o_p1_queued : Int32} (h : fX0_weigh v_square v_side v_steps v_p0_gaps v_p0_strawMen v_p0_months v_p0_middle v_p0_door v_p1_fewest v_p1_queue v_p1_queued x3 x4 = some (o_square, o_side, o_steps, o_p1_fewest, o_p1_queue, o_p1_queued)) : Met l yX0_weigh (wsM yX0_weigh cX0_weigh 8 none) rmX0_weigh (va_Pc [.ref a_, .ref a_p0, .ref a_p1, .int x3, .int x4] (preW G cI cO sz [(a_, .inr (0, [.int v_square, .int v_side, .int v_steps])), (a_p0, .inr (1, [.ref a_p0_furrow, .long v_p0_eaten, .long v_p0_closed, .long v_p0_gaps, .long v_p0_strawMen, .int v_p0_months, .int v_p0_middle, .int v_p0_door, .long v_p0_seenGaps, .long v_p0_seenCorn, .int v_p0_seenCount])), (a_p1, .inr (7, [.ref a_p1_fewest, .ref a_p1_queue, .int v_p1_queued])), (a_p1_fewest, .inl (cI, 72, .inl v_p1_fewest)), (a_p1_queue, .inl (cI, 72, .inl v_p1_queue))])) (QcV G (va_A [(a_, .inr (0, [.int v_square, .int v_side, .int v_steps])), (a_p0, .inr (1, [.ref a_p0_furrow, .long v_p0_eaten, .long v_p0_closed, .long v_p0_gaps, .long v_p0_strawMen, .int v_p0_months, .int v_p0_middle, .int v_p0_door, .long v_p0_seenGaps, .long v_p0_seenCorn, .int v_p0_seenCount])), (a_p1, .inr (7, [.ref a_p1_fewest, .ref a_p1_queue, .int v_p1_queued])), (a_p1_fewest, .inl (cI, 72, .inl v_p1_fewest)), (a_p1_queue, .inl (cI, 72, .inl v_p1_queue))] sz) [(a_, .inr (0, [.int o_square, .int o_side, .int o_steps])), (a_p0, .inr (1, [.ref a_p0_furrow, .long v_p0_eaten, .long v_p0_closed, .long v_p0_gaps, .long v_p0_strawMen, .int v_p0_months, .int v_p0_middle, .int v_p0_door, .long v_p0_seenGaps, .long v_p0_seenCorn, .int v_p0_seenCount])), (a_p1, .inr (7, [.ref a_p1_fewest, .ref a_p1_queue, .int o_p1_queued])), (a_p1_fewest, .inl (cI, 72, .inl o_p1_fewest)), (a_p1_queue, .inl (cI, 72, .inl o_p1_queue))]) 0 0 (va_A [(a_, .inr (0, [.int v_square, .int v_side, .int v_steps])), (a_p0, .inr (1, [.ref a_p0_furrow, .long v_p0_eaten, .long v_p0_closed, .long v_p0_gaps, .long v_p0_strawMen, .int v_p0_months, .int v_p0_middle, .int v_p0_door, .long v_p0_seenGaps, .long v_p0_seenCorn, .int v_p0_seenCount])), (a_p1, .inr (7, [.ref a_p1_fewest, .ref a_p1_queue, .int v_p1_queued])), (a_p1_fewest, .inl (cI, 72, .inl v_p1_fewest)), (a_p1_queue, .inl (cI, 72, .inl v_p1_queue))] sz) := by
  refine mkMet (own := RX0) (by decide) rfl (Nat.le_of_ble_eq_true rfl) ?_
  intro p e s m args below meth c _ hsz _ X hP0 hD0 ls0 hl0
  have hS0 : va_S (va_A [(a_, .inr (0, [.int v_square, .int v_side, .int v_steps])), (a_p0, .inr (1, [.ref a_p0_furrow, .long v_p0_eaten, .long v_p0_closed, .long v_p0_gaps, .long v_p0_strawMen, .int v_p0_months, .int v_p0_middle, .int v_p0_door, .long v_p0_seenGaps, .long v_p0_seenCorn, .int v_p0_seenCount])), (a_p1, .inr (7, [.ref a_p1_fewest, .ref a_p1_queue, .int v_p1_queued])), (a_p1_fewest, .inl (cI, 72, .inl v_p1_fewest)), (a_p1_queue, .inl (cI, 72, .inl v_p1_queue))] sz) s.heap s.heap [] := va_S.rf
  replace hl0 : lv_has ls0 8 [(0, .ref a_), (1, .ref a_p0), (2, .ref a_p1), (3, .int x3), (4, .int x4)] := hl0
  generalize va_A [(a_, .inr (0, [.int v_square, .int v_side, .int v_steps])), (a_p0, .inr (1, [.ref a_p0_furrow, .long v_p0_eaten, .long v_p0_closed, .long v_p0_gaps, .long v_p0_strawMen, .int v_p0_months, .int v_p0_middle, .int v_p0_door, .long v_p0_seenGaps, .long v_p0_seenCorn, .int v_p0_seenCount])), (a_p1, .inr (7, [.ref a_p1_fewest, .ref a_p1_queue, .int v_p1_queued])), (a_p1_fewest, .inl (cI, 72, .inl v_p1_fewest)), (a_p1_queue, .inl (cI, 72, .inl v_p1_queue))] sz = A at X hD0 hS0 ⊢
  unfold fX0_weigh at h
  obtain ⟨hx, hb, hml, hr, hown, hts, hlocks, hK, hN, hA, hZ⟩ := id X
  refine lv_iload_n hx hb dX0_weigh_0 rfl (lv_at hl0 3 rfl) ?_
  refine lv_iload hx hb dX0_weigh_1 (lv_at hl0 4 rfl) ?_
  replace h := g_ob1 h
  obtain ⟨r1, hf1, h⟩ := h
  refine cal_l (wc := []) (w1 := []) (wn := [(a_, .inr (0, [.int v_square, .int v_side, .int v_steps])), (a_p0, .inr (1, [.ref a_p0_furrow, .long v_p0_eaten, .long v_p0_closed, .long v_p0_gaps, .long v_p0_strawMen, .int v_p0_months, .int v_p0_middle, .int v_p0_door, .long v_p0_seenGaps, .long v_p0_seenCorn, .int v_p0_seenCount])), (a_p1, .inr (7, [.ref a_p1_fewest, .ref a_p1_queue, .int v_p1_queued])), (a_p1_fewest, .inl (cI, 72, .inl v_p1_fewest)), (a_p1_queue, .inl (cI, 72, .inl v_p1_queue))]) X hP0 hD0 hS0 [] rfl rfl rfl rfl (run_S (As := [.int x3, .int x4]) (rest := []) X hP0 hD0 hS0 [] rfl rfl (mX3_edge l G cI cO   s.heap.size  x3 x4 hf1) ms_X3_edge ml_X0_25 ⟨Nat.le_of_ble_eq_true rfl, Nat.le_of_ble_eq_true rfl⟩ rfl rfl rfl hl0.1 rfl (Nat.le_of_ble_eq_true rfl) ⟨Nat.zero_le _, Nat.zero_le _⟩ dX0_weigh_3) (fun H2 locs2 hP2 hD2 hS2 => ?_)
  clear hf1
  refine lv_lstore (lv' := [(5, .long r1), (0, .ref a_), (1, .ref a_p0), (2, .ref a_p1), (3, .int x3), (4, .int x4)]) hx hb dX0_weigh_6 hl0 (by decide) rfl (fun ls3 hl3 => ?_)
  refine lv_aload_n hx hb dX0_weigh_8 rfl (lv_at hl3 2 rfl) ?_
  refine va_getN (D := G) (ci := 1) (v := .long v_p0_gaps) (C := RX1) (T := TX1) (N := 11) hx hb hts gwX1 hown hK hP2 1 rfl rfl 3 (by decide) (va_Nw.use rfl (hN _ fn_X0_31)) (fun _ h9 => h9) rfl dX0_weigh_9 ?_
  refine lv_lload hx hb dX0_weigh_12 (lv_at hl3 0 rfl) ?_
  refine lv_land hx hb dX0_weigh_14 ?_
  refine lv_lconst (v := (0 : Int64)) hx hb dX0_weigh_15 (by decide) ?_
  refine W.lcmp hx hb dX0_weigh_16 ?_
  refine lv_if_ne (tgt := 21) hx hb dX0_weigh_17 (by decide) (fun hc => ?_) (fun hc => ?_)
  · replace h := t_neg h hc
    clear hc
    refine lv_aload_n hx hb dX0_weigh_21 rfl (lv_at hl3 3 rfl) ?_
    refine lv_aload_n hx hb dX0_weigh_22 rfl (lv_at hl3 2 rfl) ?_
    refine lv_aload_n hx hb dX0_weigh_23 rfl (lv_at hl3 2 rfl) ?_
    refine va_getN (D := G) (ci := 1) (v := .long v_p0_gaps) (C := RX1) (T := TX1) (N := 11) hx hb hts gwX1 hown hK hP2 1 rfl rfl 3 (by decide) (va_Nw.use rfl (hN _ fn_X0_31)) (fun _ h9 => h9) rfl dX0_weigh_24 ?_
    refine lv_lload hx hb dX0_weigh_27 (lv_at hl3 0 rfl) ?_
    refine lv_ldc2 (v := (-1 : Int64)) hx hb hown (hts _ kL_X0_37) dX0_weigh_29 ?_
    refine lv_lxor hx hb dX0_weigh_32 ?_
    refine lv_land hx hb dX0_weigh_33 ?_
    refine lv_iconst (v := (0 : Int32)) hx hb dX0_weigh_34 (by decide) ?_
    refine lv_iconst (v := (0 : Int32)) hx hb dX0_weigh_35 (by decide) ?_
    replace h := g_ob3 h
    obtain ⟨v_p1_fewest_4, v_p1_queue_4, v_p1_queued_4, hf4, h⟩ := h
    refine cal_v (wc := [(a_p1, .inr (7, [.ref a_p1_fewest, .ref a_p1_queue, .int v_p1_queued])), (a_p1_fewest, .inl (cI, 72, .inl v_p1_fewest)), (a_p1_queue, .inl (cI, 72, .inl v_p1_queue)), (a_p0, .inr (1, [.ref a_p0_furrow, .long v_p0_eaten, .long v_p0_closed, .long v_p0_gaps, .long v_p0_strawMen, .int v_p0_months, .int v_p0_middle, .int v_p0_door, .long v_p0_seenGaps, .long v_p0_seenCorn, .int v_p0_seenCount]))]) (w1 := [(a_p1, .inr (7, [.ref a_p1_fewest, .ref a_p1_queue, .int v_p1_queued_4])), (a_p1_fewest, .inl (cI, 72, .inl v_p1_fewest_4)), (a_p1_queue, .inl (cI, 72, .inl v_p1_queue_4)), (a_p0, .inr (1, [.ref a_p0_furrow, .long v_p0_eaten, .long v_p0_closed, .long v_p0_gaps, .long v_p0_strawMen, .int v_p0_months, .int v_p0_middle, .int v_p0_door, .long v_p0_seenGaps, .long v_p0_seenCorn, .int v_p0_seenCount]))]) (wn := [(a_, .inr (0, [.int v_square, .int v_side, .int v_steps])), (a_p0, .inr (1, [.ref a_p0_furrow, .long v_p0_eaten, .long v_p0_closed, .long v_p0_gaps, .long v_p0_strawMen, .int v_p0_months, .int v_p0_middle, .int v_p0_door, .long v_p0_seenGaps, .long v_p0_seenCorn, .int v_p0_seenCount])), (a_p1, .inr (7, [.ref a_p1_fewest, .ref a_p1_queue, .int v_p1_queued_4])), (a_p1_fewest, .inl (cI, 72, .inl v_p1_fewest_4)), (a_p1_queue, .inl (cI, 72, .inl v_p1_queue_4))]) X hP2 hD2 hS2 [2, 3, 4, 1] rfl rfl rfl rfl (run_V (As := [.ref a_p0, .long (v_p0_gaps &&& (r1 ^^^ (-1 : Int64))), .int (0 : Int32), .int (0 : Int32)]) (rest := []) X hP2 hD2 hS2 [2, 3, 4, 1] rfl rfl (mX8_measure l G cI cO a_p1 a_p1_fewest a_p1_queue a_p0 a_p0_furrow  H2.size v_p1_queued v_p1_fewest v_p1_queue v_p0_eaten v_p0_closed v_p0_gaps v_p0_strawMen v_p0_months v_p0_middle v_p0_door v_p0_seenGaps v_p0_seenCorn v_p0_seenCount ((v_p0_gaps &&& (r1 ^^^ (-1 : Int64)))) (0 : Int32) (0 : Int32) hf4) mv_X8_measure ml_X0_39 ⟨Nat.le_of_ble_eq_true rfl, Nat.le_of_ble_eq_true rfl⟩ rfl rfl 2 7 rfl rfl rfl rfl hl3.1 rfl (Nat.le_of_ble_eq_true rfl) ⟨Nat.zero_le _, Nat.zero_le _⟩ dX0_weigh_36) (fun H5 locs5 hP5 hD5 hS5 => ?_)
    clear hf4 hP2 hD2 hS2
    refine lv_aload_n hx hb dX0_weigh_39 rfl (lv_at hl3 3 rfl) ?_
    refine lv_aload_n hx hb dX0_weigh_40 rfl (lv_at hl3 2 rfl) ?_
    refine va_getN (D := G) (ci := 1) (v := .int v_p0_door) (C := RX1) (T := TX1) (N := 11) hx hb hts gwX1 hown hK hP5 1 rfl rfl 7 (by decide) (va_Nw.use rfl (hN _ fn_X0_45)) (fun _ h9 => h9) rfl dX0_weigh_41 ?_
    replace h := g_ob1 h
    obtain ⟨r6, hf6, h⟩ := h
    refine cal_i (wc := [(a_p1, .inr (7, [.ref a_p1_fewest, .ref a_p1_queue, .int v_p1_queued_4])), (a_p1_fewest, .inl (cI, 72, .inl v_p1_fewest_4))]) (w1 := [(a_p1, .inr (7, [.ref a_p1_fewest, .ref a_p1_queue, .int v_p1_queued_4])), (a_p1_fewest, .inl (cI, 72, .inl v_p1_fewest_4))]) (wn := [(a_, .inr (0, [.int v_square, .int v_side, .int v_steps])), (a_p0, .inr (1, [.ref a_p0_furrow, .long v_p0_eaten, .long v_p0_closed, .long v_p0_gaps, .long v_p0_strawMen, .int v_p0_months, .int v_p0_middle, .int v_p0_door, .long v_p0_seenGaps, .long v_p0_seenCorn, .int v_p0_seenCount])), (a_p1, .inr (7, [.ref a_p1_fewest, .ref a_p1_queue, .int v_p1_queued_4])), (a_p1_fewest, .inl (cI, 72, .inl v_p1_fewest_4)), (a_p1_queue, .inl (cI, 72, .inl v_p1_queue_4))]) X hP5 hD5 hS5 [2, 3] rfl rfl rfl rfl (run_V (As := [.int v_p0_door]) (rest := []) X hP5 hD5 hS5 [2, 3] rfl rfl (mX8_fewestFrom l G cI cO a_p1 a_p1_fewest a_p1_queue  H5.size v_p1_queued_4 v_p1_fewest_4 v_p0_door hf6) mv_X8_fewestFrom ml_X0_48 ⟨Nat.le_of_ble_eq_true rfl, Nat.le_of_ble_eq_true rfl⟩ rfl rfl 2 7 rfl rfl rfl rfl hl3.1 rfl (Nat.le_of_ble_eq_true rfl) ⟨Nat.zero_le _, Nat.zero_le _⟩ dX0_weigh_44) (fun H7 locs7 hP7 hD7 hS7 => ?_)
    clear hf6 hP5 hD5 hS5
    refine lv_istore (lv' := [(7, .int r6), (5, .long r1), (0, .ref a_), (1, .ref a_p0), (2, .ref a_p1), (3, .int x3), (4, .int x4)]) hx hb dX0_weigh_47 hl3 (by decide) rfl (fun ls8 hl8 => ?_)
    clear hl3
    refine lv_iload hx hb dX0_weigh_49 (lv_at hl8 0 rfl) ?_
    refine lv_aload_n hx hb dX0_weigh_51 rfl (lv_at hl8 2 rfl) ?_
    refine va_get (D := G) (ci := 0) (v := .int v_steps) (C := RX0) (T := TX0) (N := 3) hx hb hts gwX0 hown hK hP7 0 rfl rfl 2 (by decide) (hts _ fl_X0_18) (fun _ h9 => h9) rfl dX0_weigh_52 ?_
    refine lv_icmp_le (tgt := 75) hx hb dX0_weigh_55 (by decide) (fun hc => ?_) (fun hc => ?_)
    · replace h := t_pos h hc
      clear hc
      obtain ⟨ez0, ez1, ez2, ez3, ez4, ez5⟩ := r_eq6 h
      subst ez0; subst ez1; subst ez2; subst ez3; subst ez4; subst ez5
      exact ret_v X hP7 hS7 dX0_weigh_75
    · replace h := t_neg h hc
      clear hc
      refine lv_aload_n hx hb dX0_weigh_58 rfl (lv_at hl8 2 rfl) ?_
      refine lv_iload hx hb dX0_weigh_59 (lv_at hl8 0 rfl) ?_
      refine va_put (D := G) (ci := 0) (v := .int r6) (ty := .int) (C := RX0) (T := TX0) (N := 3) hx hb hts gwX0 tyX0 tyX0_ok nmX0 hown hK hP7 hD7 hS7 0 rfl rfl 2 (by decide) (hts _ fl_X0_18) (fun _ h9 => h9) rfl (by decide +kernel) rfl rfl (Nat.le_of_ble_eq_true rfl) dX0_weigh_61 (fun H9 locs9 hP9 hD9 hS9 => ?_)
      replace hP9 : va_P G vwCl [(a_, .inr (0, [.int v_square, .int v_side, .int r6])), (a_p0, .inr (1, [.ref a_p0_furrow, .long v_p0_eaten, .long v_p0_closed, .long v_p0_gaps, .long v_p0_strawMen, .int v_p0_months, .int v_p0_middle, .int v_p0_door, .long v_p0_seenGaps, .long v_p0_seenCorn, .int v_p0_seenCount])), (a_p1, .inr (7, [.ref a_p1_fewest, .ref a_p1_queue, .int v_p1_queued_4])), (a_p1_fewest, .inl (cI, 72, .inl v_p1_fewest_4)), (a_p1_queue, .inl (cI, 72, .inl v_p1_queue_4))] H9 := hP9
      replace hD9 : va_D A [(a_, .inr (0, [.int v_square, .int v_side, .int r6])), (a_p0, .inr (1, [.ref a_p0_furrow, .long v_p0_eaten, .long v_p0_closed, .long v_p0_gaps, .long v_p0_strawMen, .int v_p0_months, .int v_p0_middle, .int v_p0_door, .long v_p0_seenGaps, .long v_p0_seenCorn, .int v_p0_seenCount])), (a_p1, .inr (7, [.ref a_p1_fewest, .ref a_p1_queue, .int v_p1_queued_4])), (a_p1_fewest, .inl (cI, 72, .inl v_p1_fewest_4)), (a_p1_queue, .inl (cI, 72, .inl v_p1_queue_4))] := hD9
      clear hP7 hD7 hS7
      refine lv_aload_n hx hb dX0_weigh_64 rfl (lv_at hl8 2 rfl) ?_
      refine lv_iload_n hx hb dX0_weigh_65 rfl (lv_at hl8 5 rfl) ?_
      refine va_put (D := G) (ci := 0) (v := .int x3) (ty := .int) (C := RX0) (T := TX0) (N := 3) hx hb hts gwX0 tyX0 tyX0_ok nmX0 hown hK hP9 hD9 hS9 0 rfl rfl 0 (by decide) (hts _ fl_X0_9) (fun _ h9 => h9) rfl (by decide +kernel) rfl rfl (Nat.le_of_ble_eq_true rfl) dX0_weigh_66 (fun H10 locs10 hP10 hD10 hS10 => ?_)
      replace hP10 : va_P G vwCl [(a_, .inr (0, [.int x3, .int v_side, .int r6])), (a_p0, .inr (1, [.ref a_p0_furrow, .long v_p0_eaten, .long v_p0_closed, .long v_p0_gaps, .long v_p0_strawMen, .int v_p0_months, .int v_p0_middle, .int v_p0_door, .long v_p0_seenGaps, .long v_p0_seenCorn, .int v_p0_seenCount])), (a_p1, .inr (7, [.ref a_p1_fewest, .ref a_p1_queue, .int v_p1_queued_4])), (a_p1_fewest, .inl (cI, 72, .inl v_p1_fewest_4)), (a_p1_queue, .inl (cI, 72, .inl v_p1_queue_4))] H10 := hP10
      replace hD10 : va_D A [(a_, .inr (0, [.int x3, .int v_side, .int r6])), (a_p0, .inr (1, [.ref a_p0_furrow, .long v_p0_eaten, .long v_p0_closed, .long v_p0_gaps, .long v_p0_strawMen, .int v_p0_months, .int v_p0_middle, .int v_p0_door, .long v_p0_seenGaps, .long v_p0_seenCorn, .int v_p0_seenCount])), (a_p1, .inr (7, [.ref a_p1_fewest, .ref a_p1_queue, .int v_p1_queued_4])), (a_p1_fewest, .inl (cI, 72, .inl v_p1_fewest_4)), (a_p1_queue, .inl (cI, 72, .inl v_p1_queue_4))] := hD10
      clear hP9 hD9 hS9
      refine lv_aload_n hx hb dX0_weigh_69 rfl (lv_at hl8 2 rfl) ?_
      refine lv_iload hx hb dX0_weigh_70 (lv_at hl8 6 rfl) ?_
      refine va_put (D := G) (ci := 0) (v := .int x4) (ty := .int) (C := RX0) (T := TX0) (N := 3) hx hb hts gwX0 tyX0 tyX0_ok nmX0 hown hK hP10 hD10 hS10 0 rfl rfl 1 (by decide) (hts _ fl_X0_15) (fun _ h9 => h9) rfl (by decide +kernel) rfl rfl (Nat.le_of_ble_eq_true rfl) dX0_weigh_72 (fun H11 locs11 hP11 hD11 hS11 => ?_)
      replace hP11 : va_P G vwCl [(a_, .inr (0, [.int x3, .int x4, .int r6])), (a_p0, .inr (1, [.ref a_p0_furrow, .long v_p0_eaten, .long v_p0_closed, .long v_p0_gaps, .long v_p0_strawMen, .int v_p0_months, .int v_p0_middle, .int v_p0_door, .long v_p0_seenGaps, .long v_p0_seenCorn, .int v_p0_seenCount])), (a_p1, .inr (7, [.ref a_p1_fewest, .ref a_p1_queue, .int v_p1_queued_4])), (a_p1_fewest, .inl (cI, 72, .inl v_p1_fewest_4)), (a_p1_queue, .inl (cI, 72, .inl v_p1_queue_4))] H11 := hP11
      replace hD11 : va_D A [(a_, .inr (0, [.int x3, .int x4, .int r6])), (a_p0, .inr (1, [.ref a_p0_furrow, .long v_p0_eaten, .long v_p0_closed, .long v_p0_gaps, .long v_p0_strawMen, .int v_p0_months, .int v_p0_middle, .int v_p0_door, .long v_p0_seenGaps, .long v_p0_seenCorn, .int v_p0_seenCount])), (a_p1, .inr (7, [.ref a_p1_fewest, .ref a_p1_queue, .int v_p1_queued_4])), (a_p1_fewest, .inl (cI, 72, .inl v_p1_fewest_4)), (a_p1_queue, .inl (cI, 72, .inl v_p1_queue_4))] := hD11
      clear hP10 hD10 hS10
      obtain ⟨ez0, ez1, ez2, ez3, ez4, ez5⟩ := r_eq6 h
      subst ez0; subst ez1; subst ez2; subst ez3; subst ez4; subst ez5
      exact ret_v X hP11 hS11 dX0_weigh_75
  · replace h := t_pos h hc
    clear hc
    obtain ⟨ez0, ez1, ez2, ez3, ez4, ez5⟩ := r_eq6 h
    subst ez0; subst ez1; subst ez2; subst ez3; subst ez4; subst ez5
    exact ret_v X hP2 hS2 dX0_weigh_20
/-! PloughMaze$Closing.find -/
abbrev rmX0_find : Room := { frames := 4, cells := 0, slots := 0, locals := 110 }
def SX0_find_8 (p : Program) (l : Launch) (e : Env) (s : State) (m : MethodId) (args : Array Value) (below : List Frame) (meth : Method) (c : Code) (G : va_G) (cI cO : ClassId) (A : Nat → Prop) (a_ a_p0 a_p1 a_p1_fewest a_p1_queue a_p0_furrow : Nat) (v_p0_eaten : Int64) (v_p0_closed : Int64) (v_p0_gaps : Int64) (v_p0_strawMen : Int64) (v_p0_months : Int32) (v_p0_middle : Int32) (v_p0_door : Int32) (v_p0_seenGaps : Int64) (v_p0_seenCorn : Int64) (v_p0_seenCount : Int32) (ret : Int32) (o_square : Int32) (o_side : Int32) (o_steps : Int32) (o_p1_fewest : Nat → Int32) (o_p1_queue : Nat → Int32) (o_p1_queued : Int32) (k : Int32 → Int32 → Int32 → (Nat → Int32) → (Nat → Int32) → Int32 → Int32 → Option (Int32 × Int32 × Int32 × Int32 × (Nat → Int32) × (Nat → Int32) × Int32)) : Prop := ∀ (v_square : Int32) (v_side : Int32) (v_steps : Int32) (v_p1_fewest : Nat → Int32) (v_p1_queue : Nat → Int32) (v_p1_queued : Int32) (x3 : Int32) (H : Heap) (locs : List Loc), va_P G vwCl [(a_, .inr (0, [.int v_square, .int v_side, .int v_steps])), (a_p0, .inr (1, [.ref a_p0_furrow, .long v_p0_eaten, .long v_p0_closed, .long v_p0_gaps, .long v_p0_strawMen, .int v_p0_months, .int v_p0_middle, .int v_p0_door, .long v_p0_seenGaps, .long v_p0_seenCorn, .int v_p0_seenCount])), (a_p1, .inr (7, [.ref a_p1_fewest, .ref a_p1_queue, .int v_p1_queued])), (a_p1_fewest, .inl (cI, 72, .inl v_p1_fewest)), (a_p1_queue, .inl (cI, 72, .inl v_p1_queue))] H → va_D A [(a_, .inr (0, [.int v_square, .int v_side, .int v_steps])), (a_p0, .inr (1, [.ref a_p0_furrow, .long v_p0_eaten, .long v_p0_closed, .long v_p0_gaps, .long v_p0_strawMen, .int v_p0_months, .int v_p0_middle, .int v_p0_door, .long v_p0_seenGaps, .long v_p0_seenCorn, .int v_p0_seenCount])), (a_p1, .inr (7, [.ref a_p1_fewest, .ref a_p1_queue, .int v_p1_queued])), (a_p1_fewest, .inl (cI, 72, .inl v_p1_fewest)), (a_p1_queue, .inl (cI, 72, .inl v_p1_queue))] → va_S A s.heap H locs → ∀ (ls : Array Slot), lv_has ls 4 [(0, .ref a_), (1, .ref a_p0), (2, .ref a_p1), (3, .int x3)] → k v_square v_side v_steps v_p1_fewest v_p1_queue v_p1_queued x3 = some (ret, o_square, o_side, o_steps, o_p1_fewest, o_p1_queue, o_p1_queued) → W p l e rmX0_find s m args below meth c H locs 0 0 (MQ below (QcI G A ret [(a_, .inr (0, [.int o_square, .int o_side, .int o_steps])), (a_p0, .inr (1, [.ref a_p0_furrow, .long v_p0_eaten, .long v_p0_closed, .long v_p0_gaps, .long v_p0_strawMen, .int v_p0_months, .int v_p0_middle, .int v_p0_door, .long v_p0_seenGaps, .long v_p0_seenCorn, .int v_p0_seenCount])), (a_p1, .inr (7, [.ref a_p1_fewest, .ref a_p1_queue, .int o_p1_queued])), (a_p1_fewest, .inl (cI, 72, .inl o_p1_fewest)), (a_p1_queue, .inl (cI, 72, .inl o_p1_queue))]) args s 0 0 A) (F0 m 8 ls [])
set_option maxHeartbeats 4000000 in
set_option maxRecDepth 100000 in
theorem bX0_find_8 {p : Program} {l : Launch} {e : Env} {s : State} {m : MethodId} {args : Array Value} {below : List Frame} {meth : Method} {c : Code} {G : va_G} {cI cO : ClassId} {A : Nat → Prop} {a_ a_p0 a_p1 a_p1_fewest a_p1_queue a_p0_furrow : Nat} {v_p0_eaten : Int64} {v_p0_closed : Int64} {v_p0_gaps : Int64} {v_p0_strawMen : Int64} {v_p0_months : Int32} {v_p0_middle : Int32} {v_p0_door : Int32} {v_p0_seenGaps : Int64} {v_p0_seenCorn : Int64} {v_p0_seenCount : Int32} {ret : Int32} {o_square : Int32} {o_side : Int32} {o_steps : Int32} {o_p1_fewest : Nat → Int32} {o_p1_queue : Nat → Int32} {o_p1_queued : Int32} (X : BX p rmX0_find s m args meth c cX0_find 4 (some .boolean) RX0 G cI cO A) : ∀ n : Nat, SX0_find_8 p l e s m args below meth c G cI cO A a_ a_p0 a_p1 a_p1_fewest a_p1_queue a_p0_furrow v_p0_eaten v_p0_closed v_p0_gaps v_p0_strawMen v_p0_months v_p0_middle v_p0_door v_p0_seenGaps v_p0_seenCorn v_p0_seenCount ret o_square o_side o_steps o_p1_fewest o_p1_queue o_p1_queued (fX0_find_8 v_p0_gaps v_p0_strawMen v_p0_months v_p0_middle v_p0_door n) := by
  intro n
  induction n with
  | zero => intro v_square v_side v_steps v_p1_fewest v_p1_queue v_p1_queued x3 H0 locs0 hP0 hD0 hS0 ls0 hl0 h; exact absurd h (by simp [fX0_find_8])
  | succ n ih =>
    intro v_square v_side v_steps v_p1_fewest v_p1_queue v_p1_queued x3 H0 locs0 hP0 hD0 hS0 ls0 hl0 h
    rw [fX0_find_8] at h
    obtain ⟨hx, hb, hml, hr, hown, hts, hlocks, hK, hN, hA, hZ⟩ := id X
    refine lv_iload_n hx hb dX0_find_8 rfl (lv_at hl0 3 rfl) ?_
    refine lv_bipush (v := (36 : Int32)) hx hb dX0_find_9 (by decide) ?_
    refine lv_icmp_ge (tgt := 36) hx hb dX0_find_11 (by decide) (fun hc => ?_) (fun hc => ?_)
    · replace h := t_pos h hc
      clear hc
      refine lv_aload_n hx hb dX0_find_36 rfl (lv_at hl0 0 rfl) ?_
      refine va_get (D := G) (ci := 0) (v := .int v_steps) (C := RX0) (T := TX0) (N := 3) hx hb hts gwX0 hown hK hP0 0 rfl rfl 2 (by decide) (hts _ fl_X0_18) (fun _ h9 => h9) rfl dX0_find_37 ?_
      refine lv_if_lt (tgt := 47) hx hb dX0_find_40 (by decide) (fun hc => ?_) (fun hc => ?_)
      · replace h := t_pos h hc
        clear hc
        refine lv_iconst (v := (0 : Int32)) hx hb dX0_find_47 (by decide) ?_
        obtain ⟨ez0, ez1, ez2, ez3, ez4, ez5, ez6⟩ := r_eq7 h
        subst ez0; subst ez1; subst ez2; subst ez3; subst ez4; subst ez5; subst ez6
        exact ret_z X hP0 hS0 rfl dX0_find_48
      · replace h := t_neg h hc
        clear hc
        refine lv_iconst (v := (1 : Int32)) hx hb dX0_find_43 (by decide) ?_
        refine lv_goto (tgt := 48) hx hb dX0_find_44 (by decide) ?_
        obtain ⟨ez0, ez1, ez2, ez3, ez4, ez5, ez6⟩ := r_eq7 h
        subst ez0; subst ez1; subst ez2; subst ez3; subst ez4; subst ez5; subst ez6
        exact ret_z X hP0 hS0 rfl dX0_find_48
    · replace h := t_neg h hc
      clear hc
      refine lv_aload_n hx hb dX0_find_14 rfl (lv_at hl0 0 rfl) ?_
      refine lv_aload_n hx hb dX0_find_15 rfl (lv_at hl0 1 rfl) ?_
      refine lv_aload_n hx hb dX0_find_16 rfl (lv_at hl0 2 rfl) ?_
      refine lv_iload_n hx hb dX0_find_17 rfl (lv_at hl0 3 rfl) ?_
      refine lv_iconst (v := (2 : Int32)) hx hb dX0_find_18 (by decide) ?_
      replace h := g_ob6 h
      obtain ⟨v_square_1, v_side_1, v_steps_1, v_p1_fewest_1, v_p1_queue_1, v_p1_queued_1, hf1, h⟩ := h
      refine cal_v (wc := [(a_, .inr (0, [.int v_square, .int v_side, .int v_steps])), (a_p0, .inr (1, [.ref a_p0_furrow, .long v_p0_eaten, .long v_p0_closed, .long v_p0_gaps, .long v_p0_strawMen, .int v_p0_months, .int v_p0_middle, .int v_p0_door, .long v_p0_seenGaps, .long v_p0_seenCorn, .int v_p0_seenCount])), (a_p1, .inr (7, [.ref a_p1_fewest, .ref a_p1_queue, .int v_p1_queued])), (a_p1_fewest, .inl (cI, 72, .inl v_p1_fewest)), (a_p1_queue, .inl (cI, 72, .inl v_p1_queue))]) (w1 := [(a_, .inr (0, [.int v_square_1, .int v_side_1, .int v_steps_1])), (a_p0, .inr (1, [.ref a_p0_furrow, .long v_p0_eaten, .long v_p0_closed, .long v_p0_gaps, .long v_p0_strawMen, .int v_p0_months, .int v_p0_middle, .int v_p0_door, .long v_p0_seenGaps, .long v_p0_seenCorn, .int v_p0_seenCount])), (a_p1, .inr (7, [.ref a_p1_fewest, .ref a_p1_queue, .int v_p1_queued_1])), (a_p1_fewest, .inl (cI, 72, .inl v_p1_fewest_1)), (a_p1_queue, .inl (cI, 72, .inl v_p1_queue_1))]) (wn := [(a_, .inr (0, [.int v_square_1, .int v_side_1, .int v_steps_1])), (a_p0, .inr (1, [.ref a_p0_furrow, .long v_p0_eaten, .long v_p0_closed, .long v_p0_gaps, .long v_p0_strawMen, .int v_p0_months, .int v_p0_middle, .int v_p0_door, .long v_p0_seenGaps, .long v_p0_seenCorn, .int v_p0_seenCount])), (a_p1, .inr (7, [.ref a_p1_fewest, .ref a_p1_queue, .int v_p1_queued_1])), (a_p1_fewest, .inl (cI, 72, .inl v_p1_fewest_1)), (a_p1_queue, .inl (cI, 72, .inl v_p1_queue_1))]) X hP0 hD0 hS0 [0, 1, 2, 3, 4] rfl rfl rfl rfl (run_V (As := [.ref a_p0, .ref a_p1, .int x3, .int (2 : Int32)]) (rest := []) X hP0 hD0 hS0 [0, 1, 2, 3, 4] rfl rfl (mX0_weigh l G cI cO a_ a_p0 a_p1 a_p1_fewest a_p1_queue a_p0_furrow  H0.size v_square v_side v_steps v_p0_eaten v_p0_closed v_p0_gaps v_p0_strawMen v_p0_months v_p0_middle v_p0_door v_p0_seenGaps v_p0_seenCorn v_p0_seenCount v_p1_queued v_p1_fewest v_p1_queue x3 (2 : Int32) hf1) mv_X0_weigh ml_X0_21 ⟨Nat.le_of_ble_eq_true rfl, Nat.le_of_ble_eq_true rfl⟩ rfl rfl 0 0 rfl rfl rfl rfl hl0.1 rfl (Nat.le_of_ble_eq_true rfl) ⟨Nat.zero_le _, Nat.zero_le _⟩ dX0_find_19) (fun H2 locs2 hP2 hD2 hS2 => ?_)
      clear hf1
      refine lv_aload_n hx hb dX0_find_22 rfl (lv_at hl0 0 rfl) ?_
      refine lv_aload_n hx hb dX0_find_23 rfl (lv_at hl0 1 rfl) ?_
      refine lv_aload_n hx hb dX0_find_24 rfl (lv_at hl0 2 rfl) ?_
      refine lv_iload_n hx hb dX0_find_25 rfl (lv_at hl0 3 rfl) ?_
      refine lv_iconst (v := (3 : Int32)) hx hb dX0_find_26 (by decide) ?_
      replace h := g_ob6 h
      obtain ⟨v_square_3, v_side_3, v_steps_3, v_p1_fewest_3, v_p1_queue_3, v_p1_queued_3, hf3, h⟩ := h
      refine cal_v (wc := [(a_, .inr (0, [.int v_square_1, .int v_side_1, .int v_steps_1])), (a_p0, .inr (1, [.ref a_p0_furrow, .long v_p0_eaten, .long v_p0_closed, .long v_p0_gaps, .long v_p0_strawMen, .int v_p0_months, .int v_p0_middle, .int v_p0_door, .long v_p0_seenGaps, .long v_p0_seenCorn, .int v_p0_seenCount])), (a_p1, .inr (7, [.ref a_p1_fewest, .ref a_p1_queue, .int v_p1_queued_1])), (a_p1_fewest, .inl (cI, 72, .inl v_p1_fewest_1)), (a_p1_queue, .inl (cI, 72, .inl v_p1_queue_1))]) (w1 := [(a_, .inr (0, [.int v_square_3, .int v_side_3, .int v_steps_3])), (a_p0, .inr (1, [.ref a_p0_furrow, .long v_p0_eaten, .long v_p0_closed, .long v_p0_gaps, .long v_p0_strawMen, .int v_p0_months, .int v_p0_middle, .int v_p0_door, .long v_p0_seenGaps, .long v_p0_seenCorn, .int v_p0_seenCount])), (a_p1, .inr (7, [.ref a_p1_fewest, .ref a_p1_queue, .int v_p1_queued_3])), (a_p1_fewest, .inl (cI, 72, .inl v_p1_fewest_3)), (a_p1_queue, .inl (cI, 72, .inl v_p1_queue_3))]) (wn := [(a_, .inr (0, [.int v_square_3, .int v_side_3, .int v_steps_3])), (a_p0, .inr (1, [.ref a_p0_furrow, .long v_p0_eaten, .long v_p0_closed, .long v_p0_gaps, .long v_p0_strawMen, .int v_p0_months, .int v_p0_middle, .int v_p0_door, .long v_p0_seenGaps, .long v_p0_seenCorn, .int v_p0_seenCount])), (a_p1, .inr (7, [.ref a_p1_fewest, .ref a_p1_queue, .int v_p1_queued_3])), (a_p1_fewest, .inl (cI, 72, .inl v_p1_fewest_3)), (a_p1_queue, .inl (cI, 72, .inl v_p1_queue_3))]) X hP2 hD2 hS2 [0, 1, 2, 3, 4] rfl rfl rfl rfl (run_V (As := [.ref a_p0, .ref a_p1, .int x3, .int (3 : Int32)]) (rest := []) X hP2 hD2 hS2 [0, 1, 2, 3, 4] rfl rfl (mX0_weigh l G cI cO a_ a_p0 a_p1 a_p1_fewest a_p1_queue a_p0_furrow  H2.size v_square_1 v_side_1 v_steps_1 v_p0_eaten v_p0_closed v_p0_gaps v_p0_strawMen v_p0_months v_p0_middle v_p0_door v_p0_seenGaps v_p0_seenCorn v_p0_seenCount v_p1_queued_1 v_p1_fewest_1 v_p1_queue_1 x3 (3 : Int32) hf3) mv_X0_weigh ml_X0_21 ⟨Nat.le_of_ble_eq_true rfl, Nat.le_of_ble_eq_true rfl⟩ rfl rfl 0 0 rfl rfl rfl rfl hl0.1 rfl (Nat.le_of_ble_eq_true rfl) ⟨Nat.zero_le _, Nat.zero_le _⟩ dX0_find_27) (fun H4 locs4 hP4 hD4 hS4 => ?_)
      clear hf3 hP2 hD2 hS2
      refine lv_iinc (v := (x3 + (1 : Int32))) (lv' := [(3, .int (x3 + (1 : Int32))), (0, .ref a_), (1, .ref a_p0), (2, .ref a_p1)]) hx hb dX0_find_30 hl0 (k := 3) rfl (congrArg (fun z => x3 + z) (by decide : Int32.ofInt (1) = (1 : Int32))) (by decide) rfl (fun ls5 hl5 => ?_)
      refine lv_goto (tgt := 8) hx hb dX0_find_33 (by decide) ?_
      exact ih v_square_3 v_side_3 v_steps_3 v_p1_fewest_3 v_p1_queue_3 v_p1_queued_3 ((x3 + (1 : Int32))) H4 locs4 hP4 hD4 hS4 ls5 (lv_sub hl5 [1, 2, 3, 0] rfl) h
set_option maxHeartbeats 4000000 in
set_option maxRecDepth 100000 in
theorem mX0_find (l : Launch) (G : va_G) (cI cO : ClassId) (a_ a_p0 a_p1 a_p1_fewest a_p1_queue a_p0_furrow : Nat) (sz : Nat) (v_square : Int32) (v_side : Int32) (v_steps : Int32) (v_p0_eaten : Int64) (v_p0_closed : Int64) (v_p0_gaps : Int64) (v_p0_strawMen : Int64) (v_p0_months : Int32) (v_p0_middle : Int32) (v_p0_door : Int32) (v_p0_seenGaps : Int64) (v_p0_seenCorn : Int64) (v_p0_seenCount : Int32) (v_p1_queued : Int32) (v_p1_fewest : Nat → Int32) (v_p1_queue : Nat → Int32)  {ret : Int32} {o_square : Int32} {o_side : Int32} {o_steps : Int32} {o_p1_fewest : Nat → Int32} {o_p1_queue : Nat → Int32} {o_p1_queued : Int32} (h : fX0_find v_square v_side v_steps v_p0_gaps v_p0_strawMen v_p0_months v_p0_middle v_p0_door v_p1_fewest v_p1_queue v_p1_queued = some (ret, o_square, o_side, o_steps, o_p1_fewest, o_p1_queue, o_p1_queued)) : Met l yX0_find (wsM yX0_find cX0_find 4 (some .boolean)) rmX0_find (va_Pc [.ref a_, .ref a_p0, .ref a_p1] (preW G cI cO sz [(a_, .inr (0, [.int v_square, .int v_side, .int v_steps])), (a_p0, .inr (1, [.ref a_p0_furrow, .long v_p0_eaten, .long v_p0_closed, .long v_p0_gaps, .long v_p0_strawMen, .int v_p0_months, .int v_p0_middle, .int v_p0_door, .long v_p0_seenGaps, .long v_p0_seenCorn, .int v_p0_seenCount])), (a_p1, .inr (7, [.ref a_p1_fewest, .ref a_p1_queue, .int v_p1_queued])), (a_p1_fewest, .inl (cI, 72, .inl v_p1_fewest)), (a_p1_queue, .inl (cI, 72, .inl v_p1_queue))])) (QcI G (va_A [(a_, .inr (0, [.int v_square, .int v_side, .int v_steps])), (a_p0, .inr (1, [.ref a_p0_furrow, .long v_p0_eaten, .long v_p0_closed, .long v_p0_gaps, .long v_p0_strawMen, .int v_p0_months, .int v_p0_middle, .int v_p0_door, .long v_p0_seenGaps, .long v_p0_seenCorn, .int v_p0_seenCount])), (a_p1, .inr (7, [.ref a_p1_fewest, .ref a_p1_queue, .int v_p1_queued])), (a_p1_fewest, .inl (cI, 72, .inl v_p1_fewest)), (a_p1_queue, .inl (cI, 72, .inl v_p1_queue))] sz) ret [(a_, .inr (0, [.int o_square, .int o_side, .int o_steps])), (a_p0, .inr (1, [.ref a_p0_furrow, .long v_p0_eaten, .long v_p0_closed, .long v_p0_gaps, .long v_p0_strawMen, .int v_p0_months, .int v_p0_middle, .int v_p0_door, .long v_p0_seenGaps, .long v_p0_seenCorn, .int v_p0_seenCount])), (a_p1, .inr (7, [.ref a_p1_fewest, .ref a_p1_queue, .int o_p1_queued])), (a_p1_fewest, .inl (cI, 72, .inl o_p1_fewest)), (a_p1_queue, .inl (cI, 72, .inl o_p1_queue))]) 0 0 (va_A [(a_, .inr (0, [.int v_square, .int v_side, .int v_steps])), (a_p0, .inr (1, [.ref a_p0_furrow, .long v_p0_eaten, .long v_p0_closed, .long v_p0_gaps, .long v_p0_strawMen, .int v_p0_months, .int v_p0_middle, .int v_p0_door, .long v_p0_seenGaps, .long v_p0_seenCorn, .int v_p0_seenCount])), (a_p1, .inr (7, [.ref a_p1_fewest, .ref a_p1_queue, .int v_p1_queued])), (a_p1_fewest, .inl (cI, 72, .inl v_p1_fewest)), (a_p1_queue, .inl (cI, 72, .inl v_p1_queue))] sz) := by
  refine mkMet (own := RX0) (by decide) rfl (Nat.le_of_ble_eq_true rfl) ?_
  intro p e s m args below meth c _ hsz _ X hP0 hD0 ls0 hl0
  have hS0 : va_S (va_A [(a_, .inr (0, [.int v_square, .int v_side, .int v_steps])), (a_p0, .inr (1, [.ref a_p0_furrow, .long v_p0_eaten, .long v_p0_closed, .long v_p0_gaps, .long v_p0_strawMen, .int v_p0_months, .int v_p0_middle, .int v_p0_door, .long v_p0_seenGaps, .long v_p0_seenCorn, .int v_p0_seenCount])), (a_p1, .inr (7, [.ref a_p1_fewest, .ref a_p1_queue, .int v_p1_queued])), (a_p1_fewest, .inl (cI, 72, .inl v_p1_fewest)), (a_p1_queue, .inl (cI, 72, .inl v_p1_queue))] sz) s.heap s.heap [] := va_S.rf
  replace hl0 : lv_has ls0 4 [(0, .ref a_), (1, .ref a_p0), (2, .ref a_p1)] := hl0
  generalize va_A [(a_, .inr (0, [.int v_square, .int v_side, .int v_steps])), (a_p0, .inr (1, [.ref a_p0_furrow, .long v_p0_eaten, .long v_p0_closed, .long v_p0_gaps, .long v_p0_strawMen, .int v_p0_months, .int v_p0_middle, .int v_p0_door, .long v_p0_seenGaps, .long v_p0_seenCorn, .int v_p0_seenCount])), (a_p1, .inr (7, [.ref a_p1_fewest, .ref a_p1_queue, .int v_p1_queued])), (a_p1_fewest, .inl (cI, 72, .inl v_p1_fewest)), (a_p1_queue, .inl (cI, 72, .inl v_p1_queue))] sz = A at X hD0 hS0 ⊢
  unfold fX0_find at h
  obtain ⟨hx, hb, hml, hr, hown, hts, hlocks, hK, hN, hA, hZ⟩ := id X
  refine lv_aload_n hx hb dX0_find_0 rfl (lv_at hl0 0 rfl) ?_
  refine lv_bipush (v := (-4 : Int32)) hx hb dX0_find_1 (by decide) ?_
  refine va_put (D := G) (ci := 0) (v := .int (-4 : Int32)) (ty := .int) (C := RX0) (T := TX0) (N := 3) hx hb hts gwX0 tyX0 tyX0_ok nmX0 hown hK hP0 hD0 hS0 0 rfl rfl 2 (by decide) (hts _ fl_X0_18) (fun _ h9 => h9) rfl (by decide +kernel) rfl rfl (Nat.le_of_ble_eq_true rfl) dX0_find_3 (fun H1 locs1 hP1 hD1 hS1 => ?_)
  replace hP1 : va_P G vwCl [(a_, .inr (0, [.int v_square, .int v_side, .int (-4 : Int32)])), (a_p0, .inr (1, [.ref a_p0_furrow, .long v_p0_eaten, .long v_p0_closed, .long v_p0_gaps, .long v_p0_strawMen, .int v_p0_months, .int v_p0_middle, .int v_p0_door, .long v_p0_seenGaps, .long v_p0_seenCorn, .int v_p0_seenCount])), (a_p1, .inr (7, [.ref a_p1_fewest, .ref a_p1_queue, .int v_p1_queued])), (a_p1_fewest, .inl (cI, 72, .inl v_p1_fewest)), (a_p1_queue, .inl (cI, 72, .inl v_p1_queue))] H1 := hP1
  replace hD1 : va_D A [(a_, .inr (0, [.int v_square, .int v_side, .int (-4 : Int32)])), (a_p0, .inr (1, [.ref a_p0_furrow, .long v_p0_eaten, .long v_p0_closed, .long v_p0_gaps, .long v_p0_strawMen, .int v_p0_months, .int v_p0_middle, .int v_p0_door, .long v_p0_seenGaps, .long v_p0_seenCorn, .int v_p0_seenCount])), (a_p1, .inr (7, [.ref a_p1_fewest, .ref a_p1_queue, .int v_p1_queued])), (a_p1_fewest, .inl (cI, 72, .inl v_p1_fewest)), (a_p1_queue, .inl (cI, 72, .inl v_p1_queue))] := hD1
  refine lv_iconst (v := (0 : Int32)) hx hb dX0_find_6 (by decide) ?_
  refine lv_istore_n (lv' := [(3, .int (0 : Int32)), (0, .ref a_), (1, .ref a_p0), (2, .ref a_p1)]) hx hb dX0_find_7 rfl hl0 (by decide) rfl (fun ls2 hl2 => ?_)
  exact bX0_find_8 X 4000 v_square v_side (-4 : Int32) v_p1_fewest v_p1_queue v_p1_queued (0 : Int32) H1 locs1 hP1 hD1 hS1 ls2 (lv_sub hl2 [1, 2, 3, 0] rfl) h
/-! PloughMaze$Search.weigh -/
abbrev rmX4_weigh : Room := { frames := 2, cells := 0, slots := 0, locals := 81 }
def SX4_weigh_94 (p : Program) (l : Launch) (e : Env) (s : State) (m : MethodId) (args : Array Value) (below : List Frame) (meth : Method) (c : Code) (G : va_G) (cI cO : ClassId) (A : Nat → Prop) (a_ a_trial a_trial_row a_best a_best_row a_p0 a_p0_furrow : Nat) (v_many : Int32) (v_trial_size : Int32) (v_trial_ploughed : Int64) (v_trial_steps : Int64) (v_trial_row : Nat → Int32) (v_p0_eaten : Int64) (v_p0_closed : Int64) (v_p0_gaps : Int64) (v_p0_strawMen : Int64) (v_p0_months : Int32) (v_p0_middle : Int32) (v_p0_door : Int32) (v_p0_seenGaps : Int64) (v_p0_seenCorn : Int64) (v_p0_seenCount : Int32) (o_best_row : Nat → Int32) (o_best_size : Int32) (o_best_ploughed : Int64) (o_best_steps : Int64) (o_fitting : Int32) (o_hardest : Int32) (k : (Nat → Int32) → Int32 → Int64 → Int64 → Int32 → Int32 → Int32 → Int32 → Option ((Nat → Int32) × Int32 × Int64 × Int64 × Int32 × Int32)) : Prop := ∀ (v_best_row : Nat → Int32) (v_best_size : Int32) (v_best_ploughed : Int64) (v_best_steps : Int64) (v_fitting : Int32) (v_hardest : Int32) (x6 : Int32) (s0 : Int32) (H : Heap) (locs : List Loc), va_P G vwCl [(a_, .inr (3, [.ref a_trial, .ref a_best, .int v_many, .int v_fitting, .int v_hardest])), (a_trial, .inr (2, [.ref a_trial_row, .int v_trial_size, .long v_trial_ploughed, .long v_trial_steps])), (a_trial_row, .inl (cI, 36, .inl v_trial_row)), (a_best, .inr (2, [.ref a_best_row, .int v_best_size, .long v_best_ploughed, .long v_best_steps])), (a_best_row, .inl (cI, 36, .inl v_best_row)), (a_p0, .inr (1, [.ref a_p0_furrow, .long v_p0_eaten, .long v_p0_closed, .long v_p0_gaps, .long v_p0_strawMen, .int v_p0_months, .int v_p0_middle, .int v_p0_door, .long v_p0_seenGaps, .long v_p0_seenCorn, .int v_p0_seenCount]))] H → va_D A [(a_, .inr (3, [.ref a_trial, .ref a_best, .int v_many, .int v_fitting, .int v_hardest])), (a_trial, .inr (2, [.ref a_trial_row, .int v_trial_size, .long v_trial_ploughed, .long v_trial_steps])), (a_trial_row, .inl (cI, 36, .inl v_trial_row)), (a_best, .inr (2, [.ref a_best_row, .int v_best_size, .long v_best_ploughed, .long v_best_steps])), (a_best_row, .inl (cI, 36, .inl v_best_row)), (a_p0, .inr (1, [.ref a_p0_furrow, .long v_p0_eaten, .long v_p0_closed, .long v_p0_gaps, .long v_p0_strawMen, .int v_p0_months, .int v_p0_middle, .int v_p0_door, .long v_p0_seenGaps, .long v_p0_seenCorn, .int v_p0_seenCount]))] → va_S A s.heap H locs → ∀ (ls : Array Slot), lv_has ls 8 [(0, .ref a_), (6, .int x6)] → k v_best_row v_best_size v_best_ploughed v_best_steps v_fitting v_hardest x6 s0 = some (o_best_row, o_best_size, o_best_ploughed, o_best_steps, o_fitting, o_hardest) → W p l e rmX4_weigh s m args below meth c H locs 0 0 (MQ below (QcV G A [(a_, .inr (3, [.ref a_trial, .ref a_best, .int v_many, .int o_fitting, .int o_hardest])), (a_trial, .inr (2, [.ref a_trial_row, .int v_trial_size, .long v_trial_ploughed, .long v_trial_steps])), (a_trial_row, .inl (cI, 36, .inl v_trial_row)), (a_best, .inr (2, [.ref a_best_row, .int o_best_size, .long o_best_ploughed, .long o_best_steps])), (a_best_row, .inl (cI, 36, .inl o_best_row)), (a_p0, .inr (1, [.ref a_p0_furrow, .long v_p0_eaten, .long v_p0_closed, .long v_p0_gaps, .long v_p0_strawMen, .int v_p0_months, .int v_p0_middle, .int v_p0_door, .long v_p0_seenGaps, .long v_p0_seenCorn, .int v_p0_seenCount]))]) args s 0 0 A) (F0 m 94 ls [.int s0])
set_option maxHeartbeats 4000000 in
set_option maxRecDepth 100000 in
theorem bX4_weigh_94 {p : Program} {l : Launch} {e : Env} {s : State} {m : MethodId} {args : Array Value} {below : List Frame} {meth : Method} {c : Code} {G : va_G} {cI cO : ClassId} {A : Nat → Prop} {a_ a_trial a_trial_row a_best a_best_row a_p0 a_p0_furrow : Nat} {v_many : Int32} {v_trial_size : Int32} {v_trial_ploughed : Int64} {v_trial_steps : Int64} {v_trial_row : Nat → Int32} {v_p0_eaten : Int64} {v_p0_closed : Int64} {v_p0_gaps : Int64} {v_p0_strawMen : Int64} {v_p0_months : Int32} {v_p0_middle : Int32} {v_p0_door : Int32} {v_p0_seenGaps : Int64} {v_p0_seenCorn : Int64} {v_p0_seenCount : Int32} {o_best_row : Nat → Int32} {o_best_size : Int32} {o_best_ploughed : Int64} {o_best_steps : Int64} {o_fitting : Int32} {o_hardest : Int32} (X : BX p rmX4_weigh s m args meth c cX4_weigh 8 none RX4 G cI cO A) : SX4_weigh_94 p l e s m args below meth c G cI cO A a_ a_trial a_trial_row a_best a_best_row a_p0 a_p0_furrow v_many v_trial_size v_trial_ploughed v_trial_steps v_trial_row v_p0_eaten v_p0_closed v_p0_gaps v_p0_strawMen v_p0_months v_p0_middle v_p0_door v_p0_seenGaps v_p0_seenCorn v_p0_seenCount o_best_row o_best_size o_best_ploughed o_best_steps o_fitting o_hardest (fX4_weigh_94 v_trial_row v_trial_size v_trial_ploughed v_trial_steps) := by
  intro v_best_row v_best_size v_best_ploughed v_best_steps v_fitting v_hardest x6 s0 H0 locs0 hP0 hD0 hS0 ls0 hl0 h
  unfold fX4_weigh_94 at h
  obtain ⟨hx, hb, hml, hr, hown, hts, hlocks, hK, hN, hA, hZ⟩ := id X
  refine lv_istore (lv' := [(7, .int s0), (0, .ref a_), (6, .int x6)]) hx hb dX4_weigh_94 hl0 (by decide) rfl (fun ls1 hl1 => ?_)
  refine lv_iload hx hb dX4_weigh_96 (lv_at hl1 2 rfl) ?_
  refine lv_if_lt (tgt := 127) hx hb dX4_weigh_98 (by decide) (fun hc => ?_) (fun hc => ?_)
  · replace h := t_pos h hc
    clear hc
    obtain ⟨ez0, ez1, ez2, ez3, ez4, ez5⟩ := r_eq6 h
    subst ez0; subst ez1; subst ez2; subst ez3; subst ez4; subst ez5
    exact ret_v X hP0 hS0 dX4_weigh_127
  · replace h := t_neg h hc
    clear hc
    refine lv_iload hx hb dX4_weigh_101 (lv_at hl1 0 rfl) ?_
    refine lv_aload_n hx hb dX4_weigh_103 rfl (lv_at hl1 1 rfl) ?_
    refine va_get (D := G) (ci := 3) (v := .int v_hardest) (C := RX4) (T := TX4) (N := 5) hx hb hts gwX4 hown hK hP0 0 rfl rfl 4 (by decide) (hts _ fl_X4_28) (fun _ h9 => h9) rfl dX4_weigh_104 ?_
    refine lv_icmp_le (tgt := 127) hx hb dX4_weigh_107 (by decide) (fun hc => ?_) (fun hc => ?_)
    · replace h := t_pos h hc
      clear hc
      obtain ⟨ez0, ez1, ez2, ez3, ez4, ez5⟩ := r_eq6 h
      subst ez0; subst ez1; subst ez2; subst ez3; subst ez4; subst ez5
      exact ret_v X hP0 hS0 dX4_weigh_127
    · replace h := t_neg h hc
      clear hc
      refine lv_aload_n hx hb dX4_weigh_110 rfl (lv_at hl1 1 rfl) ?_
      refine lv_iload hx hb dX4_weigh_111 (lv_at hl1 0 rfl) ?_
      refine va_put (D := G) (ci := 3) (v := .int s0) (ty := .int) (C := RX4) (T := TX4) (N := 5) hx hb hts gwX4 tyX4 tyX4_ok nmX4 hown hK hP0 hD0 hS0 0 rfl rfl 4 (by decide) (hts _ fl_X4_28) (fun _ h9 => h9) rfl (by decide +kernel) rfl rfl (Nat.le_of_ble_eq_true rfl) dX4_weigh_113 (fun H2 locs2 hP2 hD2 hS2 => ?_)
      replace hP2 : va_P G vwCl [(a_, .inr (3, [.ref a_trial, .ref a_best, .int v_many, .int v_fitting, .int s0])), (a_trial, .inr (2, [.ref a_trial_row, .int v_trial_size, .long v_trial_ploughed, .long v_trial_steps])), (a_trial_row, .inl (cI, 36, .inl v_trial_row)), (a_best, .inr (2, [.ref a_best_row, .int v_best_size, .long v_best_ploughed, .long v_best_steps])), (a_best_row, .inl (cI, 36, .inl v_best_row)), (a_p0, .inr (1, [.ref a_p0_furrow, .long v_p0_eaten, .long v_p0_closed, .long v_p0_gaps, .long v_p0_strawMen, .int v_p0_months, .int v_p0_middle, .int v_p0_door, .long v_p0_seenGaps, .long v_p0_seenCorn, .int v_p0_seenCount]))] H2 := hP2
      replace hD2 : va_D A [(a_, .inr (3, [.ref a_trial, .ref a_best, .int v_many, .int v_fitting, .int s0])), (a_trial, .inr (2, [.ref a_trial_row, .int v_trial_size, .long v_trial_ploughed, .long v_trial_steps])), (a_trial_row, .inl (cI, 36, .inl v_trial_row)), (a_best, .inr (2, [.ref a_best_row, .int v_best_size, .long v_best_ploughed, .long v_best_steps])), (a_best_row, .inl (cI, 36, .inl v_best_row)), (a_p0, .inr (1, [.ref a_p0_furrow, .long v_p0_eaten, .long v_p0_closed, .long v_p0_gaps, .long v_p0_strawMen, .int v_p0_months, .int v_p0_middle, .int v_p0_door, .long v_p0_seenGaps, .long v_p0_seenCorn, .int v_p0_seenCount]))] := hD2
      refine lv_aload_n hx hb dX4_weigh_116 rfl (lv_at hl1 1 rfl) ?_
      refine va_get (D := G) (ci := 3) (v := .ref a_best) (C := RX4) (T := TX4) (N := 5) hx hb hts gwX4 hown hK hP2 0 rfl rfl 1 (by decide) (hts _ fl_X4_18) (fun _ h9 => h9) rfl dX4_weigh_117 ?_
      refine lv_aload_n hx hb dX4_weigh_120 rfl (lv_at hl1 1 rfl) ?_
      refine va_get (D := G) (ci := 3) (v := .ref a_trial) (C := RX4) (T := TX4) (N := 5) hx hb hts gwX4 hown hK hP2 0 rfl rfl 0 (by decide) (hts _ fl_X4_12) (fun _ h9 => h9) rfl dX4_weigh_121 ?_
      replace h := g_ob4 h
      obtain ⟨v_best_row_3, v_best_size_3, v_best_ploughed_3, v_best_steps_3, hf3, h⟩ := h
      refine cal_v (wc := [(a_best, .inr (2, [.ref a_best_row, .int v_best_size, .long v_best_ploughed, .long v_best_steps])), (a_best_row, .inl (cI, 36, .inl v_best_row)), (a_trial, .inr (2, [.ref a_trial_row, .int v_trial_size, .long v_trial_ploughed, .long v_trial_steps])), (a_trial_row, .inl (cI, 36, .inl v_trial_row))]) (w1 := [(a_best, .inr (2, [.ref a_best_row, .int v_best_size_3, .long v_best_ploughed_3, .long v_best_steps_3])), (a_best_row, .inl (cI, 36, .inl v_best_row_3)), (a_trial, .inr (2, [.ref a_trial_row, .int v_trial_size, .long v_trial_ploughed, .long v_trial_steps])), (a_trial_row, .inl (cI, 36, .inl v_trial_row))]) (wn := [(a_, .inr (3, [.ref a_trial, .ref a_best, .int v_many, .int v_fitting, .int s0])), (a_trial, .inr (2, [.ref a_trial_row, .int v_trial_size, .long v_trial_ploughed, .long v_trial_steps])), (a_trial_row, .inl (cI, 36, .inl v_trial_row)), (a_best, .inr (2, [.ref a_best_row, .int v_best_size_3, .long v_best_ploughed_3, .long v_best_steps_3])), (a_best_row, .inl (cI, 36, .inl v_best_row_3)), (a_p0, .inr (1, [.ref a_p0_furrow, .long v_p0_eaten, .long v_p0_closed, .long v_p0_gaps, .long v_p0_strawMen, .int v_p0_months, .int v_p0_middle, .int v_p0_door, .long v_p0_seenGaps, .long v_p0_seenCorn, .int v_p0_seenCount]))]) X hP2 hD2 hS2 [3, 4, 1, 2] rfl rfl rfl rfl (run_V (As := [.ref a_trial]) (rest := []) X hP2 hD2 hS2 [3, 4, 1, 2] rfl rfl (mX2_copy l G cI cO a_best a_best_row a_trial a_trial_row  H2.size v_best_size v_best_ploughed v_best_steps v_best_row v_trial_size v_trial_ploughed v_trial_steps v_trial_row  hf3) mv_X2_copy ml_X4_93 ⟨Nat.le_of_ble_eq_true rfl, Nat.le_of_ble_eq_true rfl⟩ rfl rfl 3 2 rfl rfl rfl rfl hl1.1 rfl (Nat.le_of_ble_eq_true rfl) ⟨Nat.zero_le _, Nat.zero_le _⟩ dX4_weigh_124) (fun H4 locs4 hP4 hD4 hS4 => ?_)
      clear hf3 hP2 hD2 hS2
      obtain ⟨ez0, ez1, ez2, ez3, ez4, ez5⟩ := r_eq6 h
      subst ez0; subst ez1; subst ez2; subst ez3; subst ez4; subst ez5
      exact ret_v X hP4 hS4 dX4_weigh_127
set_option maxHeartbeats 4000000 in
set_option maxRecDepth 100000 in
theorem mX4_weigh (l : Launch) (G : va_G) (cI cO : ClassId) (a_ a_trial a_trial_row a_best a_best_row a_p0 a_p0_furrow : Nat) (sz : Nat) (v_many : Int32) (v_fitting : Int32) (v_hardest : Int32) (v_trial_size : Int32) (v_trial_ploughed : Int64) (v_trial_steps : Int64) (v_trial_row : Nat → Int32) (v_best_size : Int32) (v_best_ploughed : Int64) (v_best_steps : Int64) (v_best_row : Nat → Int32) (v_p0_eaten : Int64) (v_p0_closed : Int64) (v_p0_gaps : Int64) (v_p0_strawMen : Int64) (v_p0_months : Int32) (v_p0_middle : Int32) (v_p0_door : Int32) (v_p0_seenGaps : Int64) (v_p0_seenCorn : Int64) (v_p0_seenCount : Int32)  {o_best_row : Nat → Int32} {o_best_size : Int32} {o_best_ploughed : Int64} {o_best_steps : Int64} {o_fitting : Int32} {o_hardest : Int32} (h : fX4_weigh v_trial_row v_trial_size v_trial_ploughed v_trial_steps v_best_row v_best_size v_best_ploughed v_best_steps v_many v_fitting v_hardest v_p0_middle v_p0_seenGaps v_p0_seenCorn = some (o_best_row, o_best_size, o_best_ploughed, o_best_steps, o_fitting, o_hardest)) : Met l yX4_weigh (wsM yX4_weigh cX4_weigh 8 none) rmX4_weigh (va_Pc [.ref a_, .ref a_p0] (preW G cI cO sz [(a_, .inr (3, [.ref a_trial, .ref a_best, .int v_many, .int v_fitting, .int v_hardest])), (a_trial, .inr (2, [.ref a_trial_row, .int v_trial_size, .long v_trial_ploughed, .long v_trial_steps])), (a_trial_row, .inl (cI, 36, .inl v_trial_row)), (a_best, .inr (2, [.ref a_best_row, .int v_best_size, .long v_best_ploughed, .long v_best_steps])), (a_best_row, .inl (cI, 36, .inl v_best_row)), (a_p0, .inr (1, [.ref a_p0_furrow, .long v_p0_eaten, .long v_p0_closed, .long v_p0_gaps, .long v_p0_strawMen, .int v_p0_months, .int v_p0_middle, .int v_p0_door, .long v_p0_seenGaps, .long v_p0_seenCorn, .int v_p0_seenCount]))])) (QcV G (va_A [(a_, .inr (3, [.ref a_trial, .ref a_best, .int v_many, .int v_fitting, .int v_hardest])), (a_trial, .inr (2, [.ref a_trial_row, .int v_trial_size, .long v_trial_ploughed, .long v_trial_steps])), (a_trial_row, .inl (cI, 36, .inl v_trial_row)), (a_best, .inr (2, [.ref a_best_row, .int v_best_size, .long v_best_ploughed, .long v_best_steps])), (a_best_row, .inl (cI, 36, .inl v_best_row)), (a_p0, .inr (1, [.ref a_p0_furrow, .long v_p0_eaten, .long v_p0_closed, .long v_p0_gaps, .long v_p0_strawMen, .int v_p0_months, .int v_p0_middle, .int v_p0_door, .long v_p0_seenGaps, .long v_p0_seenCorn, .int v_p0_seenCount]))] sz) [(a_, .inr (3, [.ref a_trial, .ref a_best, .int v_many, .int o_fitting, .int o_hardest])), (a_trial, .inr (2, [.ref a_trial_row, .int v_trial_size, .long v_trial_ploughed, .long v_trial_steps])), (a_trial_row, .inl (cI, 36, .inl v_trial_row)), (a_best, .inr (2, [.ref a_best_row, .int o_best_size, .long o_best_ploughed, .long o_best_steps])), (a_best_row, .inl (cI, 36, .inl o_best_row)), (a_p0, .inr (1, [.ref a_p0_furrow, .long v_p0_eaten, .long v_p0_closed, .long v_p0_gaps, .long v_p0_strawMen, .int v_p0_months, .int v_p0_middle, .int v_p0_door, .long v_p0_seenGaps, .long v_p0_seenCorn, .int v_p0_seenCount]))]) 0 0 (va_A [(a_, .inr (3, [.ref a_trial, .ref a_best, .int v_many, .int v_fitting, .int v_hardest])), (a_trial, .inr (2, [.ref a_trial_row, .int v_trial_size, .long v_trial_ploughed, .long v_trial_steps])), (a_trial_row, .inl (cI, 36, .inl v_trial_row)), (a_best, .inr (2, [.ref a_best_row, .int v_best_size, .long v_best_ploughed, .long v_best_steps])), (a_best_row, .inl (cI, 36, .inl v_best_row)), (a_p0, .inr (1, [.ref a_p0_furrow, .long v_p0_eaten, .long v_p0_closed, .long v_p0_gaps, .long v_p0_strawMen, .int v_p0_months, .int v_p0_middle, .int v_p0_door, .long v_p0_seenGaps, .long v_p0_seenCorn, .int v_p0_seenCount]))] sz) := by
  refine mkMet (own := RX4) (by decide) rfl (Nat.le_of_ble_eq_true rfl) ?_
  intro p e s m args below meth c _ hsz _ X hP0 hD0 ls0 hl0
  have hS0 : va_S (va_A [(a_, .inr (3, [.ref a_trial, .ref a_best, .int v_many, .int v_fitting, .int v_hardest])), (a_trial, .inr (2, [.ref a_trial_row, .int v_trial_size, .long v_trial_ploughed, .long v_trial_steps])), (a_trial_row, .inl (cI, 36, .inl v_trial_row)), (a_best, .inr (2, [.ref a_best_row, .int v_best_size, .long v_best_ploughed, .long v_best_steps])), (a_best_row, .inl (cI, 36, .inl v_best_row)), (a_p0, .inr (1, [.ref a_p0_furrow, .long v_p0_eaten, .long v_p0_closed, .long v_p0_gaps, .long v_p0_strawMen, .int v_p0_months, .int v_p0_middle, .int v_p0_door, .long v_p0_seenGaps, .long v_p0_seenCorn, .int v_p0_seenCount]))] sz) s.heap s.heap [] := va_S.rf
  replace hl0 : lv_has ls0 8 [(0, .ref a_), (1, .ref a_p0)] := hl0
  generalize va_A [(a_, .inr (3, [.ref a_trial, .ref a_best, .int v_many, .int v_fitting, .int v_hardest])), (a_trial, .inr (2, [.ref a_trial_row, .int v_trial_size, .long v_trial_ploughed, .long v_trial_steps])), (a_trial_row, .inl (cI, 36, .inl v_trial_row)), (a_best, .inr (2, [.ref a_best_row, .int v_best_size, .long v_best_ploughed, .long v_best_steps])), (a_best_row, .inl (cI, 36, .inl v_best_row)), (a_p0, .inr (1, [.ref a_p0_furrow, .long v_p0_eaten, .long v_p0_closed, .long v_p0_gaps, .long v_p0_strawMen, .int v_p0_months, .int v_p0_middle, .int v_p0_door, .long v_p0_seenGaps, .long v_p0_seenCorn, .int v_p0_seenCount]))] sz = A at X hD0 hS0 ⊢
  unfold fX4_weigh at h
  obtain ⟨hx, hb, hml, hr, hown, hts, hlocks, hK, hN, hA, hZ⟩ := id X
  refine lv_aload_n hx hb dX4_weigh_0 rfl (lv_at hl0 0 rfl) ?_
  refine va_get (D := G) (ci := 3) (v := .ref a_trial) (C := RX4) (T := TX4) (N := 5) hx hb hts gwX4 hown hK hP0 0 rfl rfl 0 (by decide) (hts _ fl_X4_12) (fun _ h9 => h9) rfl dX4_weigh_1 ?_
  replace h := g_ob1 h
  obtain ⟨r1, hf1, h⟩ := h
  refine cal_l (wc := [(a_trial, .inr (2, [.ref a_trial_row, .int v_trial_size, .long v_trial_ploughed, .long v_trial_steps])), (a_trial_row, .inl (cI, 36, .inl v_trial_row))]) (w1 := [(a_trial, .inr (2, [.ref a_trial_row, .int v_trial_size, .long v_trial_ploughed, .long v_trial_steps])), (a_trial_row, .inl (cI, 36, .inl v_trial_row))]) (wn := [(a_, .inr (3, [.ref a_trial, .ref a_best, .int v_many, .int v_fitting, .int v_hardest])), (a_trial, .inr (2, [.ref a_trial_row, .int v_trial_size, .long v_trial_ploughed, .long v_trial_steps])), (a_trial_row, .inl (cI, 36, .inl v_trial_row)), (a_best, .inr (2, [.ref a_best_row, .int v_best_size, .long v_best_ploughed, .long v_best_steps])), (a_best_row, .inl (cI, 36, .inl v_best_row)), (a_p0, .inr (1, [.ref a_p0_furrow, .long v_p0_eaten, .long v_p0_closed, .long v_p0_gaps, .long v_p0_strawMen, .int v_p0_months, .int v_p0_middle, .int v_p0_door, .long v_p0_seenGaps, .long v_p0_seenCorn, .int v_p0_seenCount]))]) X hP0 hD0 hS0 [1, 2] rfl rfl rfl rfl (run_V (As := []) (rest := []) X hP0 hD0 hS0 [1, 2] rfl rfl (mX2_ring l G cI cO a_trial a_trial_row  s.heap.size v_trial_size v_trial_ploughed v_trial_steps v_trial_row  hf1) mv_X2_ring ml_X4_69 ⟨Nat.le_of_ble_eq_true rfl, Nat.le_of_ble_eq_true rfl⟩ rfl rfl 1 2 rfl rfl rfl rfl hl0.1 rfl (Nat.le_of_ble_eq_true rfl) ⟨Nat.zero_le _, Nat.zero_le _⟩ dX4_weigh_4) (fun H2 locs2 hP2 hD2 hS2 => ?_)
  clear hf1
  refine lv_lstore_n (lv' := [(2, .long r1), (0, .ref a_), (1, .ref a_p0)]) hx hb dX4_weigh_7 rfl hl0 (by decide) rfl (fun ls3 hl3 => ?_)
  refine lv_aload_n hx hb dX4_weigh_8 rfl (lv_at hl3 1 rfl) ?_
  refine va_get (D := G) (ci := 3) (v := .ref a_trial) (C := RX4) (T := TX4) (N := 5) hx hb hts gwX4 hown hK hP2 0 rfl rfl 0 (by decide) (hts _ fl_X4_12) (fun _ h9 => h9) rfl dX4_weigh_9 ?_
  refine va_getN (D := G) (ci := 2) (v := .long v_trial_steps) (C := RX2) (T := TX2) (N := 4) hx hb hts gwX2 hown hK hP2 1 rfl rfl 3 (by decide) (va_Nw.use rfl (hN _ fn_X4_73)) (fun _ h9 => h9) rfl dX4_weigh_12 ?_
  refine lv_lload_n hx hb dX4_weigh_15 rfl (lv_at hl3 0 rfl) ?_
  refine lv_lor hx hb dX4_weigh_16 ?_
  refine lv_topl (fun y4 ey4 => ?_)
  replace h := g_let h ey4
  clear ey4
  refine lv_lstore (lv' := [(4, .long y4), (2, .long r1), (0, .ref a_), (1, .ref a_p0)]) hx hb dX4_weigh_17 hl3 (by decide) rfl (fun ls5 hl5 => ?_)
  clear hl3
  refine lv_lload hx hb dX4_weigh_19 (lv_at hl5 0 rfl) ?_
  refine lv_aload_n hx hb dX4_weigh_21 rfl (lv_at hl5 3 rfl) ?_
  refine va_getN (D := G) (ci := 1) (v := .long v_p0_seenCorn) (C := RX1) (T := TX1) (N := 11) hx hb hts gwX1 hown hK hP2 5 rfl rfl 9 (by decide) (va_Nw.use rfl (hN _ fn_X4_50)) (fun _ h9 => h9) rfl dX4_weigh_22 ?_
  refine lv_land hx hb dX4_weigh_25 ?_
  refine lv_lconst (v := (0 : Int64)) hx hb dX4_weigh_26 (by decide) ?_
  refine W.lcmp hx hb dX4_weigh_27 ?_
  refine lv_if_ne (tgt := 47) hx hb dX4_weigh_28 (by decide) (fun hc => ?_) (fun hc => ?_)
  · replace h := t_neg h hc
    clear hc
    obtain ⟨ez0, ez1, ez2, ez3, ez4, ez5⟩ := r_eq6 h
    subst ez0; subst ez1; subst ez2; subst ez3; subst ez4; subst ez5
    exact ret_v X hP2 hS2 dX4_weigh_47
  · replace h := t_pos h hc
    clear hc
    refine lv_aload_n hx hb dX4_weigh_31 rfl (lv_at hl5 3 rfl) ?_
    refine va_getN (D := G) (ci := 1) (v := .long v_p0_seenGaps) (C := RX1) (T := TX1) (N := 11) hx hb hts gwX1 hown hK hP2 5 rfl rfl 8 (by decide) (va_Nw.use rfl (hN _ fn_X4_76)) (fun _ h9 => h9) rfl dX4_weigh_32 ?_
    refine lv_lload hx hb dX4_weigh_35 (lv_at hl5 0 rfl) ?_
    refine lv_ldc2 (v := (-1 : Int64)) hx hb hown (hts _ kL_X4_79) dX4_weigh_37 ?_
    refine lv_lxor hx hb dX4_weigh_40 ?_
    refine lv_land hx hb dX4_weigh_41 ?_
    refine lv_lconst (v := (0 : Int64)) hx hb dX4_weigh_42 (by decide) ?_
    refine W.lcmp hx hb dX4_weigh_43 ?_
    refine lv_if_eq (tgt := 48) hx hb dX4_weigh_44 (by decide) (fun hc => ?_) (fun hc => ?_)
    · replace h := t_pos h hc
      clear hc
      refine lv_aload_n hx hb dX4_weigh_48 rfl (lv_at hl5 2 rfl) ?_
      refine lv_dup hx hb dX4_weigh_49 rfl ?_
      refine va_get (D := G) (ci := 3) (v := .int v_fitting) (C := RX4) (T := TX4) (N := 5) hx hb hts gwX4 hown hK hP2 0 rfl rfl 3 (by decide) (hts _ fl_X4_25) (fun _ h9 => h9) rfl dX4_weigh_50 ?_
      refine lv_iconst (v := (1 : Int32)) hx hb dX4_weigh_53 (by decide) ?_
      refine lv_iadd hx hb dX4_weigh_54 ?_
      refine lv_topi (fun y6 ey6 => ?_)
      replace h := g_let h ey6
      clear ey6
      refine va_put (D := G) (ci := 3) (v := .int y6) (ty := .int) (C := RX4) (T := TX4) (N := 5) hx hb hts gwX4 tyX4 tyX4_ok nmX4 hown hK hP2 hD2 hS2 0 rfl rfl 3 (by decide) (hts _ fl_X4_25) (fun _ h9 => h9) rfl (by decide +kernel) rfl rfl (Nat.le_of_ble_eq_true rfl) dX4_weigh_55 (fun H7 locs7 hP7 hD7 hS7 => ?_)
      replace hP7 : va_P G vwCl [(a_, .inr (3, [.ref a_trial, .ref a_best, .int v_many, .int y6, .int v_hardest])), (a_trial, .inr (2, [.ref a_trial_row, .int v_trial_size, .long v_trial_ploughed, .long v_trial_steps])), (a_trial_row, .inl (cI, 36, .inl v_trial_row)), (a_best, .inr (2, [.ref a_best_row, .int v_best_size, .long v_best_ploughed, .long v_best_steps])), (a_best_row, .inl (cI, 36, .inl v_best_row)), (a_p0, .inr (1, [.ref a_p0_furrow, .long v_p0_eaten, .long v_p0_closed, .long v_p0_gaps, .long v_p0_strawMen, .int v_p0_months, .int v_p0_middle, .int v_p0_door, .long v_p0_seenGaps, .long v_p0_seenCorn, .int v_p0_seenCount]))] H7 := hP7
      replace hD7 : va_D A [(a_, .inr (3, [.ref a_trial, .ref a_best, .int v_many, .int y6, .int v_hardest])), (a_trial, .inr (2, [.ref a_trial_row, .int v_trial_size, .long v_trial_ploughed, .long v_trial_steps])), (a_trial_row, .inl (cI, 36, .inl v_trial_row)), (a_best, .inr (2, [.ref a_best_row, .int v_best_size, .long v_best_ploughed, .long v_best_steps])), (a_best_row, .inl (cI, 36, .inl v_best_row)), (a_p0, .inr (1, [.ref a_p0_furrow, .long v_p0_eaten, .long v_p0_closed, .long v_p0_gaps, .long v_p0_strawMen, .int v_p0_months, .int v_p0_middle, .int v_p0_door, .long v_p0_seenGaps, .long v_p0_seenCorn, .int v_p0_seenCount]))] := hD7
      clear hP2 hD2 hS2
      refine lv_aload_n hx hb dX4_weigh_58 rfl (lv_at hl5 2 rfl) ?_
      refine va_get (D := G) (ci := 3) (v := .ref a_trial) (C := RX4) (T := TX4) (N := 5) hx hb hts gwX4 hown hK hP7 0 rfl rfl 0 (by decide) (hts _ fl_X4_12) (fun _ h9 => h9) rfl dX4_weigh_59 ?_
      refine lv_aload_n hx hb dX4_weigh_62 rfl (lv_at hl5 3 rfl) ?_
      refine va_getN (D := G) (ci := 1) (v := .int v_p0_middle) (C := RX1) (T := TX1) (N := 11) hx hb hts gwX1 hown hK hP7 5 rfl rfl 6 (by decide) (va_Nw.use rfl (hN _ fn_X4_81)) (fun _ h9 => h9) rfl dX4_weigh_63 ?_
      replace h := g_ob1 h
      obtain ⟨r8, hf8, h⟩ := h
      refine cal_i (wc := [(a_trial, .inr (2, [.ref a_trial_row, .int v_trial_size, .long v_trial_ploughed, .long v_trial_steps])), (a_trial_row, .inl (cI, 36, .inl v_trial_row))]) (w1 := [(a_trial, .inr (2, [.ref a_trial_row, .int v_trial_size, .long v_trial_ploughed, .long v_trial_steps])), (a_trial_row, .inl (cI, 36, .inl v_trial_row))]) (wn := [(a_, .inr (3, [.ref a_trial, .ref a_best, .int v_many, .int y6, .int v_hardest])), (a_trial, .inr (2, [.ref a_trial_row, .int v_trial_size, .long v_trial_ploughed, .long v_trial_steps])), (a_trial_row, .inl (cI, 36, .inl v_trial_row)), (a_best, .inr (2, [.ref a_best_row, .int v_best_size, .long v_best_ploughed, .long v_best_steps])), (a_best_row, .inl (cI, 36, .inl v_best_row)), (a_p0, .inr (1, [.ref a_p0_furrow, .long v_p0_eaten, .long v_p0_closed, .long v_p0_gaps, .long v_p0_strawMen, .int v_p0_months, .int v_p0_middle, .int v_p0_door, .long v_p0_seenGaps, .long v_p0_seenCorn, .int v_p0_seenCount]))]) X hP7 hD7 hS7 [1, 2] rfl rfl rfl rfl (run_V (As := [.int v_p0_middle]) (rest := []) X hP7 hD7 hS7 [1, 2] rfl rfl (mX2_placeOf l G cI cO a_trial a_trial_row  H7.size v_trial_size v_trial_ploughed v_trial_steps v_trial_row v_p0_middle hf8) mv_X2_placeOf ml_X4_84 ⟨Nat.le_of_ble_eq_true rfl, Nat.le_of_ble_eq_true rfl⟩ rfl rfl 1 2 rfl rfl rfl rfl hl5.1 rfl (Nat.le_of_ble_eq_true rfl) ⟨Nat.zero_le _, Nat.zero_le _⟩ dX4_weigh_66) (fun H9 locs9 hP9 hD9 hS9 => ?_)
      clear hf8 hP7 hD7 hS7
      refine lv_istore (lv' := [(6, .int r8), (4, .long y4), (2, .long r1), (0, .ref a_), (1, .ref a_p0)]) hx hb dX4_weigh_69 hl5 (by decide) rfl (fun ls10 hl10 => ?_)
      clear hl5
      refine lv_lload_n hx hb dX4_weigh_71 rfl (lv_at hl10 2 rfl) ?_
      refine lv_lconst (v := (0 : Int64)) hx hb dX4_weigh_72 (by decide) ?_
      refine W.lcmp hx hb dX4_weigh_73 ?_
      refine lv_if_eq (tgt := 92) hx hb dX4_weigh_74 (by decide) (fun hc => ?_) (fun hc => ?_)
      · replace h := t_pos h hc
        clear hc
        refine lv_iload hx hb dX4_weigh_92 (lv_at hl10 0 rfl) ?_
        exact bX4_weigh_94 X v_best_row v_best_size v_best_ploughed v_best_steps y6 v_hardest r8 r8 H9 locs9 hP9 hD9 hS9 ls10 (lv_sub hl10 [3, 0] rfl) h
      · replace h := t_neg h hc
        clear hc
        refine lv_iload hx hb dX4_weigh_77 (lv_at hl10 0 rfl) ?_
        refine lv_aload_n hx hb dX4_weigh_79 rfl (lv_at hl10 3 rfl) ?_
        refine va_get (D := G) (ci := 3) (v := .int v_many) (C := RX4) (T := TX4) (N := 5) hx hb hts gwX4 hown hK hP9 0 rfl rfl 2 (by decide) (hts _ fl_X4_21) (fun _ h9 => h9) rfl dX4_weigh_80 ?_
        refine lv_iload hx hb dX4_weigh_83 (lv_at hl10 0 rfl) ?_
        refine lv_isub hx hb dX4_weigh_85 ?_
        refine va_mmin hx hb (hml.trans hl10.1.symm) hown (hts _ ml_X4_88) (hts _ st_mmin) (hts _ ini_Math) (hts _ co_mmin) (Nat.le_of_ble_eq_true rfl) (Nat.le_of_ble_eq_true rfl) (Nat.le_of_ble_eq_true rfl) (Nat.le_of_ble_eq_true rfl) dX4_weigh_86 ?_
        refine lv_goto (tgt := 94) hx hb dX4_weigh_89 (by decide) ?_
        exact bX4_weigh_94 X v_best_row v_best_size v_best_ploughed v_best_steps y6 v_hardest r8 ((if (v_many - r8) < r8 then (v_many - r8) else r8)) H9 locs9 hP9 hD9 hS9 ls10 (lv_sub hl10 [3, 0] rfl) h
    · replace h := t_neg h hc
      clear hc
      obtain ⟨ez0, ez1, ez2, ez3, ez4, ez5⟩ := r_eq6 h
      subst ez0; subst ez1; subst ez2; subst ez3; subst ez4; subst ez5
      exact ret_v X hP2 hS2 dX4_weigh_47
