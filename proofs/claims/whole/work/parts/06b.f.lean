/-- PloughMaze$Field.refresh()V -/
def fX1_refresh (v_furrow_row : Nat → Int32) (v_furrow_size : Int32) (v_furrow_steps : Int64) (v_eaten : Int64) (v_closed : Int64) (v_gaps : Int64) : Option (Int64) :=
  ob1 (fX2_ring v_furrow_row v_furrow_size) fun r1 => lets (((v_furrow_steps ||| r1) ||| v_eaten) &&& (v_closed ^^^ (-1 : Int64))) fun y3 => some (y3)
/-- PloughMaze$Field.copy(LPloughMaze$Field;)V -/
def fX1_copy (v_furrow_row : Nat → Int32) (v_furrow_size : Int32) (v_furrow_ploughed : Int64) (v_furrow_steps : Int64) (v_eaten : Int64) (v_closed : Int64) (v_gaps : Int64) (v_strawMen : Int64) (v_months : Int32) (v_middle : Int32) (v_door : Int32) (v_seenGaps : Int64) (v_seenCorn : Int64) (v_seenCount : Int32) (v_p0_furrow_row : Nat → Int32) (v_p0_furrow_size : Int32) (v_p0_furrow_ploughed : Int64) (v_p0_furrow_steps : Int64) (v_p0_eaten : Int64) (v_p0_closed : Int64) (v_p0_gaps : Int64) (v_p0_strawMen : Int64) (v_p0_months : Int32) (v_p0_middle : Int32) (v_p0_door : Int32) (v_p0_seenGaps : Int64) (v_p0_seenCorn : Int64) (v_p0_seenCount : Int32) : Option ((Nat → Int32) × Int32 × Int64 × Int64 × Int64 × Int64 × Int64 × Int64 × Int32 × Int32 × Int32 × Int64 × Int64 × Int32) :=
  ob4 (fX2_copy v_furrow_row v_furrow_size v_furrow_ploughed v_furrow_steps v_p0_furrow_row v_p0_furrow_size v_p0_furrow_ploughed v_p0_furrow_steps) fun v_furrow_row_1 v_furrow_size_1 v_furrow_ploughed_1 v_furrow_steps_1 => some (v_furrow_row_1, v_furrow_size_1, v_furrow_ploughed_1, v_furrow_steps_1, v_p0_eaten, v_p0_closed, v_p0_gaps, v_p0_strawMen, v_p0_months, v_p0_middle, v_p0_door, v_p0_seenGaps, v_p0_seenCorn, v_p0_seenCount)
/-- PloughMaze$Field.hasStrawMan(I)Z -/
def fX1_hasStrawMan (v_strawMen : Int64) (x1 : Int32) : Option (Int32) :=
  (if (lg_cmp ((v_strawMen >>> (x1.toInt64 &&& 63)) &&& (1 : Int64)) (0 : Int64)) = 0 then some ((0 : Int32)) else some ((1 : Int32)))
/-- PloughMaze$Field.gapSides(I)I -/
def fX1_gapSides_30 (k_4 : Int32 → Int32 → Int32 → Option (Int32)) (x1 : Int32) (x2 : Int32) (x3 : Int32) : Option (Int32) :=
  k_4 x1 x2 ((x3 + (1 : Int32)))
def fX1_gapSides_4 (v_gaps : Int64) : Nat → Int32 → Int32 → Int32 → Option (Int32)
  | 0, _, _, _ => none
  | n + 1, x1, x2, x3 => (if (4 : Int32) ≤ x3 then some (x2) else ob1 (fX3_edge x1 x3) fun r1 => (if (lg_cmp (v_gaps &&& r1) (0 : Int64)) = 0 then fX1_gapSides_30 (fX1_gapSides_4 v_gaps n) x1 x2 x3 else lets (x2 ||| ((1 : Int32) <<< (x3 &&& 31))) fun y3 => fX1_gapSides_30 (fX1_gapSides_4 v_gaps n) x1 y3 x3))
def fX1_gapSides (v_gaps : Int64) (x1 : Int32) : Option (Int32) :=
  fX1_gapSides_4 v_gaps 4000 x1 (0 : Int32) (0 : Int32)
/-- PloughMaze$Field.cornStops(Z)Z -/
def fX1_cornStops_14 (s0 : Int32) (s1 : Int32) : Option (Int32) :=
  (if s0 < s1 then some ((0 : Int32)) else some ((1 : Int32)))
def fX1_cornStops (v_months : Int32) (x1 : Int32) : Option (Int32) :=
  (if x1 = 0 then fX1_cornStops_14 v_months (3 : Int32) else fX1_cornStops_14 v_months (7 : Int32))
/-- PloughMaze$Field.isPassable(ZII)Z -/
def fX1_isPassable_27 (v_gaps : Int64) (v_months : Int32) (x1 : Int32) (x2 : Int32) (x3 : Int32) : Option (Int32) :=
  ob1 (fX3_edge x2 x3) fun r1 => (if (lg_cmp (v_gaps &&& r1) (0 : Int64)) = 0 then ob1 (fX1_cornStops v_months x1) fun r3 => (if r3 = 0 then some ((1 : Int32)) else some ((0 : Int32))) else some ((1 : Int32)))
def fX1_isPassable (v_gaps : Int64) (v_strawMen : Int64) (v_months : Int32) (x1 : Int32) (x2 : Int32) (x3 : Int32) : Option (Int32) :=
  ob1 (fX3_next x2 x3) fun r1 => (if r1 < 0 then some ((0 : Int32)) else (if x1 = 0 then ob1 (fX1_hasStrawMan v_strawMen r1) fun r4 => (if r4 = 0 then fX1_isPassable_27 v_gaps v_months x1 x2 x3 else some ((0 : Int32))) else fX1_isPassable_27 v_gaps v_months x1 x2 x3))
/-- PloughMaze$Walker.begin(III)V -/
def fX7_begin_18 : Nat → (Nat → Int32) → Int32 → Int32 → Int32 → Int32 → Option ((Nat → Int32) × Int32 × Int32 × Int32)
  | 0, _, _, _, _, _ => none
  | n + 1, v_marks, v_kind, v_square, v_side, x4 => (if (36 : Int32) ≤ x4 then some (v_marks, v_kind, v_square, v_side) else (if inb x4 36 = true then fX7_begin_18 n ((upd v_marks x4.toNatClampNeg (0 : Int32))) v_kind v_square v_side ((x4 + (1 : Int32))) else none))
def fX7_begin (v_marks : Nat → Int32) (v_kind : Int32) (v_square : Int32) (v_side : Int32) (x1 : Int32) (x2 : Int32) (x3 : Int32) : Option ((Nat → Int32) × Int32 × Int32 × Int32) :=
  fX7_begin_18 4000 v_marks x1 x2 x3 (0 : Int32)
/-- PloughMaze$Walker.marksAt(I)I -/
def fX7_marksAt (v_marks : Nat → Int32) (v_square : Int32) (x1 : Int32) : Option (Int32) :=
  ob1 (fX3_next v_square x1) fun r1 => (if 0 ≤ r1 then (if inb r1 36 = true then some ((v_marks r1.toNatClampNeg)) else none) else some ((0 : Int32)))
/-- PloughMaze$Walker.isBetter(II)Z -/
def fX7_isBetter (v_marks : Nat → Int32) (v_kind : Int32) (v_square : Int32) (x1 : Int32) (x2 : Int32) : Option (Int32) :=
  (if v_kind < (2 : Int32) then some ((0 : Int32)) else ob1 (fX7_marksAt v_marks v_square x1) fun r1 => ob1 (fX7_marksAt v_marks v_square x2) fun r3 => (if r3 ≤ r1 then some ((0 : Int32)) else some ((1 : Int32))))
/-- PloughMaze$Walker.chosenSide(LPloughMaze$Field;)I -/
def fX7_chosenSide_74 (k_28 : Int32 → Int32 → Int32 → Option (Int32)) (x2 : Int32) (x3 : Int32) (x4 : Int32) : Option (Int32) :=
  ob1 (fX3_rightOf x2) fun r1 => k_28 r1 x3 ((x4 + (1 : Int32)))
def fX7_chosenSide_72 (k_28 : Int32 → Int32 → Int32 → Option (Int32)) (x2 : Int32) (x4 : Int32) : Option (Int32) :=
  fX7_chosenSide_74 k_28 x2 x2 x4
def fX7_chosenSide_48 (k_28 : Int32 → Int32 → Int32 → Option (Int32)) (v_marks : Nat → Int32) (v_kind : Int32) (v_square : Int32) (v_p0_gaps : Int64) (v_p0_strawMen : Int64) (v_p0_months : Int32) (x2 : Int32) (x3 : Int32) (x4 : Int32) (s1 : Int32) : Option (Int32) :=
  ob1 (fX1_isPassable v_p0_gaps v_p0_strawMen v_p0_months s1 v_square x2) fun r1 => (if r1 = 0 then fX7_chosenSide_74 k_28 x2 x3 x4 else (if x3 < 0 then fX7_chosenSide_72 k_28 x2 x4 else ob1 (fX7_isBetter v_marks v_kind v_square x2 x3) fun r3 => (if r3 = 0 then fX7_chosenSide_74 k_28 x2 x3 x4 else fX7_chosenSide_72 k_28 x2 x4)))
def fX7_chosenSide_28 (v_marks : Nat → Int32) (v_kind : Int32) (v_square : Int32) (v_p0_gaps : Int64) (v_p0_strawMen : Int64) (v_p0_months : Int32) : Nat → Int32 → Int32 → Int32 → Option (Int32)
  | 0, _, _, _ => none
  | n + 1, x2, x3, x4 => (if (4 : Int32) ≤ x4 then some (x3) else (if v_kind = (3 : Int32) then fX7_chosenSide_48 (fX7_chosenSide_28 v_marks v_kind v_square v_p0_gaps v_p0_strawMen v_p0_months n) v_marks v_kind v_square v_p0_gaps v_p0_strawMen v_p0_months x2 x3 x4 (1 : Int32) else fX7_chosenSide_48 (fX7_chosenSide_28 v_marks v_kind v_square v_p0_gaps v_p0_strawMen v_p0_months n) v_marks v_kind v_square v_p0_gaps v_p0_strawMen v_p0_months x2 x3 x4 (0 : Int32)))
def fX7_chosenSide_21 (v_marks : Nat → Int32) (v_kind : Int32) (v_square : Int32) (v_p0_gaps : Int64) (v_p0_strawMen : Int64) (v_p0_months : Int32) (s0 : Int32) : Option (Int32) :=
  fX7_chosenSide_28 v_marks v_kind v_square v_p0_gaps v_p0_strawMen v_p0_months 4000 s0 (-4 : Int32) (0 : Int32)
def fX7_chosenSide (v_marks : Nat → Int32) (v_kind : Int32) (v_square : Int32) (v_side : Int32) (v_p0_gaps : Int64) (v_p0_strawMen : Int64) (v_p0_months : Int32) : Option (Int32) :=
  (if v_kind = 0 then fX7_chosenSide_21 v_marks v_kind v_square v_p0_gaps v_p0_strawMen v_p0_months v_side else ob1 (fX3_leftOf v_side) fun r1 => fX7_chosenSide_21 v_marks v_kind v_square v_p0_gaps v_p0_strawMen v_p0_months r1)
/-- PloughMaze$Walker.step(LPloughMaze$Field;)V -/
def fX7_step (v_marks : Nat → Int32) (v_kind : Int32) (v_square : Int32) (v_side : Int32) (v_p0_gaps : Int64) (v_p0_strawMen : Int64) (v_p0_months : Int32) : Option ((Nat → Int32) × Int32 × Int32) :=
  ob1 (fX7_chosenSide v_marks v_kind v_square v_side v_p0_gaps v_p0_strawMen v_p0_months) fun r1 => ob1 (fX3_next v_square r1) fun r4 => (if 0 ≤ r4 then (if inb v_square 36 = true then lets ((v_marks v_square.toNatClampNeg) + (1 : Int32)) fun y7 => (if inb v_square 36 = true then some ((upd v_marks v_square.toNatClampNeg y7), r4, r1) else none) else none) else some (v_marks, v_square, v_side))
/-- PloughMaze$Ways.forget()V -/
def fX8_forget_7 : Nat → (Nat → Int32) → Int32 → Int32 → Option ((Nat → Int32) × Int32)
  | 0, _, _, _ => none
  | n + 1, v_fewest, v_queued, x1 => (if (72 : Int32) ≤ x1 then some (v_fewest, v_queued) else (if inb x1 72 = true then fX8_forget_7 n ((upd v_fewest x1.toNatClampNeg (-4 : Int32))) v_queued ((x1 + (1 : Int32))) else none))
def fX8_forget (v_fewest : Nat → Int32) (v_queued : Int32) : Option ((Nat → Int32) × Int32) :=
  fX8_forget_7 4000 v_fewest (0 : Int32) (0 : Int32)
/-- PloughMaze$Ways.reach(II)V -/
def fX8_reach (v_fewest : Nat → Int32) (v_queue : Nat → Int32) (v_queued : Int32) (x1 : Int32) (x2 : Int32) : Option ((Nat → Int32) × (Nat → Int32) × Int32) :=
  (if x1 < 0 then some (v_fewest, v_queue, v_queued) else (if (72 : Int32) ≤ x1 then some (v_fewest, v_queue, v_queued) else (if inb x1 72 = true then (if 0 ≤ (v_fewest x1.toNatClampNeg) then some (v_fewest, v_queue, v_queued) else (if v_queued < (72 : Int32) then (if inb x1 72 = true then (if inb v_queued 72 = true then lets (v_queued + (1 : Int32)) fun y3 => some ((upd v_fewest x1.toNatClampNeg x2), (upd v_queue v_queued.toNatClampNeg x1), y3) else none) else none) else some (v_fewest, v_queue, v_queued))) else none)))
/-- PloughMaze$Ways.spread(JII)V -/
def fX8_spread_103 (k_15 : (Nat → Int32) → (Nat → Int32) → Int32 → Int64 → Int32 → Int32 → Int32 → Int32 → Int32 → Option ((Nat → Int32) × (Nat → Int32) × Int32)) (v_fewest : Nat → Int32) (v_queue : Nat → Int32) (v_queued : Int32) (x1 : Int64) (x3 : Int32) (x4 : Int32) (x5 : Int32) (x6 : Int32) (x7 : Int32) : Option ((Nat → Int32) × (Nat → Int32) × Int32) :=
  k_15 v_fewest v_queue v_queued x1 x3 x4 x5 x6 ((x7 + (1 : Int32)))
def fX8_spread_88 (k_15 : (Nat → Int32) → (Nat → Int32) → Int32 → Int64 → Int32 → Int32 → Int32 → Int32 → Int32 → Option ((Nat → Int32) × (Nat → Int32) × Int32)) (v_fewest : Nat → Int32) (v_queue : Nat → Int32) (v_queued : Int32) (x1 : Int64) (x3 : Int32) (x4 : Int32) (x5 : Int32) (x6 : Int32) (x7 : Int32) (s1 : Int32) (s2 : Int32) : Option ((Nat → Int32) × (Nat → Int32) × Int32) :=
  (if inb x3 72 = true then ob3 (fX8_reach v_fewest v_queue v_queued ((s1 + (s2 * (36 : Int32)))) (((v_fewest x3.toNatClampNeg) + (1 : Int32)))) fun v_fewest_1 v_queue_1 v_queued_1 => fX8_spread_103 k_15 v_fewest_1 v_queue_1 v_queued_1 x1 x3 x4 x5 x6 x7 else none)
def fX8_spread_71 (k_15 : (Nat → Int32) → (Nat → Int32) → Int32 → Int64 → Int32 → Int32 → Int32 → Int32 → Int32 → Option ((Nat → Int32) × (Nat → Int32) × Int32)) (v_fewest : Nat → Int32) (v_queue : Nat → Int32) (v_queued : Int32) (x1 : Int64) (x3 : Int32) (x4 : Int32) (x5 : Int32) (x6 : Int32) (x7 : Int32) (x8 : Int32) (x9 : Int32) : Option ((Nat → Int32) × (Nat → Int32) × Int32) :=
  (if x9 = 0 then fX8_spread_88 k_15 v_fewest v_queue v_queued x1 x3 x4 x5 x6 x7 x8 ((x6 + (1 : Int32))) else fX8_spread_88 k_15 v_fewest v_queue v_queued x1 x3 x4 x5 x6 x7 x8 x6)
def fX8_spread_57 (k_15 : (Nat → Int32) → (Nat → Int32) → Int32 → Int64 → Int32 → Int32 → Int32 → Int32 → Int32 → Option ((Nat → Int32) × (Nat → Int32) × Int32)) (v_fewest : Nat → Int32) (v_queue : Nat → Int32) (v_queued : Int32) (x1 : Int64) (x3 : Int32) (x4 : Int32) (x5 : Int32) (x6 : Int32) (x7 : Int32) (x8 : Int32) (s0 : Int32) : Option ((Nat → Int32) × (Nat → Int32) × Int32) :=
  (if s0 = 0 then (if x4 ≤ x6 then fX8_spread_103 k_15 v_fewest v_queue v_queued x1 x3 x4 x5 x6 x7 else fX8_spread_71 k_15 v_fewest v_queue v_queued x1 x3 x4 x5 x6 x7 x8 s0) else fX8_spread_71 k_15 v_fewest v_queue v_queued x1 x3 x4 x5 x6 x7 x8 s0)
def fX8_spread_15 : Nat → (Nat → Int32) → (Nat → Int32) → Int32 → Int64 → Int32 → Int32 → Int32 → Int32 → Int32 → Option ((Nat → Int32) × (Nat → Int32) × Int32)
  | 0, _, _, _, _, _, _, _, _, _ => none
  | n + 1, v_fewest, v_queue, v_queued, x1, x3, x4, x5, x6, x7 => (if (4 : Int32) ≤ x7 then some (v_fewest, v_queue, v_queued) else ob1 (fX3_next x5 x7) fun r1 => (if 0 ≤ r1 then ob1 (fX3_between x5 r1) fun r4 => (if (lg_cmp (x1 &&& r4) (0 : Int64)) = 0 then fX8_spread_57 (fX8_spread_15 n) v_fewest v_queue v_queued x1 x3 x4 x5 x6 x7 r1 (0 : Int32) else fX8_spread_57 (fX8_spread_15 n) v_fewest v_queue v_queued x1 x3 x4 x5 x6 x7 r1 (1 : Int32)) else fX8_spread_103 (fX8_spread_15 n) v_fewest v_queue v_queued x1 x3 x4 x5 x6 x7))
def fX8_spread (v_fewest : Nat → Int32) (v_queue : Nat → Int32) (v_queued : Int32) (x1 : Int64) (x3 : Int32) (x4 : Int32) : Option ((Nat → Int32) × (Nat → Int32) × Int32) :=
  lets (x3 - x3 / (36 : Int32) * (36 : Int32)) fun y1 => lets (x3 / (36 : Int32)) fun y3 => fX8_spread_15 4000 v_fewest v_queue v_queued x1 x3 x4 y1 y3 (0 : Int32)
/-- PloughMaze$Ways.measure(LPloughMaze$Field;JIZ)V -/
def fX8_measure_90 (k_34 : (Nat → Int32) → (Nat → Int32) → Int32 → Int32 → Int32 → Int64 → Int32 → Option ((Nat → Int32) × (Nat → Int32) × Int32)) (v_fewest : Nat → Int32) (v_queue : Nat → Int32) (v_queued : Int32) (x4 : Int32) (x5 : Int32) (x6 : Int64) (x8 : Int32) : Option ((Nat → Int32) × (Nat → Int32) × Int32) :=
  k_34 v_fewest v_queue v_queued x4 x5 x6 ((x8 + (1 : Int32)))
def fX8_measure_75 (k_34 : (Nat → Int32) → (Nat → Int32) → Int32 → Int32 → Int32 → Int64 → Int32 → Option ((Nat → Int32) × (Nat → Int32) × Int32)) (v_fewest : Nat → Int32) (v_queue : Nat → Int32) (v_queued : Int32) (x4 : Int32) (x5 : Int32) (x6 : Int64) (x8 : Int32) : Option ((Nat → Int32) × (Nat → Int32) × Int32) :=
  (if inb x8 72 = true then ob3 (fX8_spread v_fewest v_queue v_queued x6 ((v_queue x8.toNatClampNeg)) x4) fun v_fewest_1 v_queue_1 v_queued_1 => fX8_measure_90 k_34 v_fewest_1 v_queue_1 v_queued_1 x4 x5 x6 x8 else none)
def fX8_measure_34 (v_p0_strawMen : Int64) : Nat → (Nat → Int32) → (Nat → Int32) → Int32 → Int32 → Int32 → Int64 → Int32 → Option ((Nat → Int32) × (Nat → Int32) × Int32)
  | 0, _, _, _, _, _, _, _ => none
  | n + 1, v_fewest, v_queue, v_queued, x4, x5, x6, x8 => (if v_queued ≤ x8 then some (v_fewest, v_queue, v_queued) else (if (72 : Int32) ≤ x8 then some (v_fewest, v_queue, v_queued) else (if x5 = 0 then (if inb x8 72 = true then ob1 (fX1_hasStrawMan v_p0_strawMen (((v_queue x8.toNatClampNeg) - (v_queue x8.toNatClampNeg) / (36 : Int32) * (36 : Int32)))) fun r1 => (if r1 = 0 then fX8_measure_75 (fX8_measure_34 v_p0_strawMen n) v_fewest v_queue v_queued x4 x5 x6 x8 else fX8_measure_90 (fX8_measure_34 v_p0_strawMen n) v_fewest v_queue v_queued x4 x5 x6 x8) else none) else fX8_measure_75 (fX8_measure_34 v_p0_strawMen n) v_fewest v_queue v_queued x4 x5 x6 x8)))
def fX8_measure_29 (v_p0_strawMen : Int64) (v_fewest : Nat → Int32) (v_queue : Nat → Int32) (v_queued : Int32) (x4 : Int32) (x5 : Int32) (s0 : Int64) : Option ((Nat → Int32) × (Nat → Int32) × Int32) :=
  fX8_measure_34 v_p0_strawMen 4000 v_fewest v_queue v_queued x4 x5 s0 (0 : Int32)
def fX8_measure (v_fewest : Nat → Int32) (v_queue : Nat → Int32) (v_queued : Int32) (v_p0_strawMen : Int64) (v_p0_months : Int32) (v_p0_middle : Int32) (x2 : Int64) (x4 : Int32) (x5 : Int32) : Option ((Nat → Int32) × (Nat → Int32) × Int32) :=
  ob2 (fX8_forget v_fewest v_queued) fun v_fewest_1 v_queued_1 => ob3 (fX8_reach v_fewest_1 v_queue v_queued_1 v_p0_middle (0 : Int32)) fun v_fewest_3 v_queue_3 v_queued_3 => ob1 (fX1_cornStops v_p0_months x5) fun r5 => (if r5 = 0 then fX8_measure_29 v_p0_strawMen v_fewest_3 v_queue_3 v_queued_3 x4 x5 (-1 : Int64) else fX8_measure_29 v_p0_strawMen v_fewest_3 v_queue_3 v_queued_3 x4 x5 x2)
/-- PloughMaze$Ways.fewestFrom(I)I -/
def fX8_fewestFrom_35 (x2 : Int32) (x3 : Int32) : Option (Int32) :=
  some ((if x2 < x3 then x3 else x2))
def fX8_fewestFrom (v_fewest : Nat → Int32) (x1 : Int32) : Option (Int32) :=
  ob1 (fX3_isSquare x1) fun r1 => (if r1 = 0 then some ((-4 : Int32)) else (if inb x1 72 = true then lets (v_fewest x1.toNatClampNeg) fun y3 => (if inb ((36 : Int32) + x1) 72 = true then lets (v_fewest ((36 : Int32) + x1).toNatClampNeg) fun y5 => (if y3 < 0 then fX8_fewestFrom_35 y3 y5 else (if 0 ≤ y5 then some ((if y5 < y3 then y5 else y3)) else fX8_fewestFrom_35 y3 y5)) else none) else none))
/-- PloughMaze$Ways.hangTogether(LPloughMaze$Field;I)V -/
def fX8_hangTogether_81 (k_14 : (Nat → Int32) → (Nat → Int32) → Int32 → Int32 → Option ((Nat → Int32) × (Nat → Int32) × Int32)) (k_36 : (Nat → Int32) → (Nat → Int32) → Int32 → Int32 → Int32 → Option ((Nat → Int32) × (Nat → Int32) × Int32)) (v_fewest : Nat → Int32) (v_queue : Nat → Int32) (v_queued : Int32) (x4 : Int32) (x5 : Int32) : Option ((Nat → Int32) × (Nat → Int32) × Int32) :=
  k_36 v_fewest v_queue v_queued x4 ((x5 + (1 : Int32)))
def fX8_hangTogether_36 (k_14 : (Nat → Int32) → (Nat → Int32) → Int32 → Int32 → Option ((Nat → Int32) × (Nat → Int32) × Int32)) (v_p0_gaps : Int64) : Nat → (Nat → Int32) → (Nat → Int32) → Int32 → Int32 → Int32 → Option ((Nat → Int32) × (Nat → Int32) × Int32)
  | 0, _, _, _, _, _ => none
  | n + 1, v_fewest, v_queue, v_queued, x4, x5 => (if (4 : Int32) ≤ x5 then k_14 v_fewest v_queue v_queued ((x4 + (1 : Int32))) else (if inb x4 72 = true then ob1 (fX3_edge ((v_queue x4.toNatClampNeg)) x5) fun r2 => (if (lg_cmp (v_p0_gaps &&& r2) (0 : Int64)) = 0 then fX8_hangTogether_81 k_14 (fX8_hangTogether_36 k_14 v_p0_gaps n) v_fewest v_queue v_queued x4 x5 else (if inb x4 72 = true then ob1 (fX3_next ((v_queue x4.toNatClampNeg)) x5) fun r4 => ob3 (fX8_reach v_fewest v_queue v_queued r4 (0 : Int32)) fun v_fewest_6 v_queue_6 v_queued_6 => fX8_hangTogether_81 k_14 (fX8_hangTogether_36 k_14 v_p0_gaps n) v_fewest_6 v_queue_6 v_queued_6 x4 x5 else none)) else none))
def fX8_hangTogether_14 (v_p0_gaps : Int64) : Nat → (Nat → Int32) → (Nat → Int32) → Int32 → Int32 → Option ((Nat → Int32) × (Nat → Int32) × Int32)
  | 0, _, _, _, _ => none
  | n + 1, v_fewest, v_queue, v_queued, x4 => (if v_queued ≤ x4 then some (v_fewest, v_queue, v_queued) else (if (72 : Int32) ≤ x4 then some (v_fewest, v_queue, v_queued) else fX8_hangTogether_36 (fX8_hangTogether_14 v_p0_gaps n) v_p0_gaps 4000 v_fewest v_queue v_queued x4 (0 : Int32)))
def fX8_hangTogether (v_fewest : Nat → Int32) (v_queue : Nat → Int32) (v_queued : Int32) (v_p0_gaps : Int64) (x2 : Int32) : Option ((Nat → Int32) × (Nat → Int32) × Int32) :=
  ob3 (fX8_reach v_fewest v_queue v_queued x2 (0 : Int32)) fun v_fewest_2 v_queue_2 v_queued_2 => fX8_hangTogether_14 v_p0_gaps 4000 v_fewest_2 v_queue_2 v_queued_2 v_queued
/-- PloughMaze$Ways.countParts(LPloughMaze$Field;)I -/
def fX8_countParts_32 (k_8 : (Nat → Int32) → (Nat → Int32) → Int32 → Int32 → Int32 → Option (Int32 × (Nat → Int32) × (Nat → Int32) × Int32)) (v_fewest : Nat → Int32) (v_queue : Nat → Int32) (v_queued : Int32) (x2 : Int32) (x3 : Int32) : Option (Int32 × (Nat → Int32) × (Nat → Int32) × Int32) :=
  k_8 v_fewest v_queue v_queued x2 ((x3 + (1 : Int32)))
def fX8_countParts_8 (v_p0_gaps : Int64) : Nat → (Nat → Int32) → (Nat → Int32) → Int32 → Int32 → Int32 → Option (Int32 × (Nat → Int32) × (Nat → Int32) × Int32)
  | 0, _, _, _, _, _ => none
  | n + 1, v_fewest, v_queue, v_queued, x2, x3 => (if (36 : Int32) ≤ x3 then some (x2, v_fewest, v_queue, v_queued) else (if inb x3 72 = true then (if 0 ≤ (v_fewest x3.toNatClampNeg) then fX8_countParts_32 (fX8_countParts_8 v_p0_gaps n) v_fewest v_queue v_queued x2 x3 else ob3 (fX8_hangTogether v_fewest v_queue v_queued v_p0_gaps x3) fun v_fewest_2 v_queue_2 v_queued_2 => fX8_countParts_32 (fX8_countParts_8 v_p0_gaps n) v_fewest_2 v_queue_2 v_queued_2 ((x2 + (1 : Int32))) x3) else none))
def fX8_countParts (v_fewest : Nat → Int32) (v_queue : Nat → Int32) (v_queued : Int32) (v_p0_gaps : Int64) : Option (Int32 × (Nat → Int32) × (Nat → Int32) × Int32) :=
  ob2 (fX8_forget v_fewest v_queued) fun v_fewest_1 v_queued_1 => fX8_countParts_8 v_p0_gaps 4000 v_fewest_1 v_queue v_queued_1 (0 : Int32) (0 : Int32)
/-- PloughMaze$Ways.lessenLosses(LPloughMaze$Field;)Z -/
def fX8_lessenLosses_124 (k_4 : (Nat → Int32) → Int32 → Int32 → Option (Int32 × (Nat → Int32))) (k_13 : (Nat → Int32) → Int32 → Int32 → Int32 → Option (Int32 × (Nat → Int32))) (v_fewest : Nat → Int32) (x2 : Int32) (x3 : Int32) (x4 : Int32) : Option (Int32 × (Nat → Int32)) :=
  k_13 v_fewest x2 x3 ((x4 + (1 : Int32)))
def fX8_lessenLosses_113 (k_4 : (Nat → Int32) → Int32 → Int32 → Option (Int32 × (Nat → Int32))) (k_13 : (Nat → Int32) → Int32 → Int32 → Int32 → Option (Int32 × (Nat → Int32))) (v_fewest : Nat → Int32) (x3 : Int32) (x4 : Int32) (x5 : Int32) (x7 : Int32) : Option (Int32 × (Nat → Int32)) :=
  (if inb x5 72 = true then fX8_lessenLosses_124 k_4 k_13 ((upd v_fewest x5.toNatClampNeg x7)) (1 : Int32) x3 x4 else none)
def fX8_lessenLosses_88 (k_4 : (Nat → Int32) → Int32 → Int32 → Option (Int32 × (Nat → Int32))) (k_13 : (Nat → Int32) → Int32 → Int32 → Int32 → Option (Int32 × (Nat → Int32))) (v_fewest : Nat → Int32) (x2 : Int32) (x3 : Int32) (x4 : Int32) (x5 : Int32) (s0 : Int32) (s1 : Int32) : Option (Int32 × (Nat → Int32)) :=
  lets (s0 + s1) fun y1 => (if inb x5 72 = true then (if (v_fewest x5.toNatClampNeg) < 0 then fX8_lessenLosses_113 k_4 k_13 v_fewest x3 x4 x5 y1 else (if inb x5 72 = true then (if (v_fewest x5.toNatClampNeg) ≤ y1 then fX8_lessenLosses_124 k_4 k_13 v_fewest x2 x3 x4 else fX8_lessenLosses_113 k_4 k_13 v_fewest x3 x4 x5 y1) else none)) else none)
def fX8_lessenLosses_65 (k_4 : (Nat → Int32) → Int32 → Int32 → Option (Int32 × (Nat → Int32))) (k_13 : (Nat → Int32) → Int32 → Int32 → Int32 → Option (Int32 × (Nat → Int32))) (v_p0_months : Int32) (v_fewest : Nat → Int32) (x2 : Int32) (x3 : Int32) (x4 : Int32) (x5 : Int32) (s0 : Int32) : Option (Int32 × (Nat → Int32)) :=
  (if inb x3 72 = true then (if s0 = 0 then fX8_lessenLosses_88 k_4 k_13 v_fewest x2 x3 x4 x5 (((v_fewest x3.toNatClampNeg) + (5 : Int32))) v_p0_months else fX8_lessenLosses_88 k_4 k_13 v_fewest x2 x3 x4 x5 (((v_fewest x3.toNatClampNeg) + (5 : Int32))) (0 : Int32)) else none)
def fX8_lessenLosses_130 (k_4 : (Nat → Int32) → Int32 → Int32 → Option (Int32 × (Nat → Int32))) (v_fewest : Nat → Int32) (x2 : Int32) (x3 : Int32) : Option (Int32 × (Nat → Int32)) :=
  k_4 v_fewest x2 ((x3 + (1 : Int32)))
def fX8_lessenLosses_13 (k_4 : (Nat → Int32) → Int32 → Int32 → Option (Int32 × (Nat → Int32))) (v_p0_gaps : Int64) (v_p0_months : Int32) : Nat → (Nat → Int32) → Int32 → Int32 → Int32 → Option (Int32 × (Nat → Int32))
  | 0, _, _, _, _ => none
  | n + 1, v_fewest, x2, x3, x4 => (if (4 : Int32) ≤ x4 then fX8_lessenLosses_130 k_4 v_fewest x2 x3 else (if inb x3 72 = true then (if (v_fewest x3.toNatClampNeg) < 0 then fX8_lessenLosses_130 k_4 v_fewest x2 x3 else ob1 (fX3_next x3 x4) fun r1 => (if 0 ≤ r1 then ob1 (fX3_edge x3 x4) fun r4 => (if (lg_cmp (v_p0_gaps &&& r4) (0 : Int64)) = 0 then fX8_lessenLosses_65 k_4 (fX8_lessenLosses_13 k_4 v_p0_gaps v_p0_months n) v_p0_months v_fewest x2 x3 x4 r1 (0 : Int32) else fX8_lessenLosses_65 k_4 (fX8_lessenLosses_13 k_4 v_p0_gaps v_p0_months n) v_p0_months v_fewest x2 x3 x4 r1 (1 : Int32)) else fX8_lessenLosses_124 k_4 (fX8_lessenLosses_13 k_4 v_p0_gaps v_p0_months n) v_fewest x2 x3 x4)) else none))
def fX8_lessenLosses_4 (v_p0_gaps : Int64) (v_p0_months : Int32) : Nat → (Nat → Int32) → Int32 → Int32 → Option (Int32 × (Nat → Int32))
  | 0, _, _, _ => none
  | n + 1, v_fewest, x2, x3 => (if (36 : Int32) ≤ x3 then (if isB x2 = true then some (x2, v_fewest) else none) else fX8_lessenLosses_13 (fX8_lessenLosses_4 v_p0_gaps v_p0_months n) v_p0_gaps v_p0_months 4000 v_fewest x2 x3 (0 : Int32))
def fX8_lessenLosses (v_fewest : Nat → Int32) (v_p0_gaps : Int64) (v_p0_months : Int32) : Option (Int32 × (Nat → Int32)) :=
  fX8_lessenLosses_4 v_p0_gaps v_p0_months 4000 v_fewest (0 : Int32) (0 : Int32)
/-- PloughMaze$Ways.heard(LPloughMaze$Field;I)I -/
def fX8_heard_61 (v_fewest : Nat → Int32) (v_queued : Int32) (x2 : Int32) : Option (Int32 × (Nat → Int32) × Int32) :=
  (if inb x2 72 = true then (if 0 ≤ (v_fewest x2.toNatClampNeg) then (if inb x2 72 = true then some ((if (0 : Int32) < ((40 : Int32) - (v_fewest x2.toNatClampNeg)) then ((40 : Int32) - (v_fewest x2.toNatClampNeg)) else (0 : Int32)), v_fewest, v_queued) else none) else some ((0 : Int32), v_fewest, v_queued)) else none)
def fX8_heard_38 (v_p0_gaps : Int64) (v_p0_months : Int32) : Nat → (Nat → Int32) → Int32 → Int32 → Int32 → Int32 → Option (Int32 × (Nat → Int32) × Int32)
  | 0, _, _, _, _, _ => none
  | n + 1, v_fewest, v_queued, x2, x3, x4 => (if (36 : Int32) ≤ x4 then fX8_heard_61 v_fewest v_queued x2 else (if x3 = 0 then fX8_heard_61 v_fewest v_queued x2 else ob2 (fX8_lessenLosses v_fewest v_p0_gaps v_p0_months) fun r1 v_fewest_1 => fX8_heard_38 v_p0_gaps v_p0_months n v_fewest_1 v_queued x2 r1 ((x4 + (1 : Int32)))))
def fX8_heard (v_fewest : Nat → Int32) (v_queued : Int32) (v_p0_gaps : Int64) (v_p0_months : Int32) (v_p0_middle : Int32) (x2 : Int32) : Option (Int32 × (Nat → Int32) × Int32) :=
  ob1 (fX3_isSquare x2) fun r1 => (if r1 = 0 then some ((0 : Int32), v_fewest, v_queued) else ob1 (fX3_isSquare v_p0_middle) fun r3 => (if r3 = 0 then some ((0 : Int32), v_fewest, v_queued) else ob2 (fX8_forget v_fewest v_queued) fun v_fewest_5 v_queued_5 => (if inb v_p0_middle 72 = true then fX8_heard_38 v_p0_gaps v_p0_months 4000 ((upd v_fewest_5 v_p0_middle.toNatClampNeg (0 : Int32))) v_queued_5 x2 (1 : Int32) (0 : Int32) else none)))
/-- PloughMaze$Closing.weigh(LPloughMaze$Field;LPloughMaze$Ways;II)V -/
def fX0_weigh (v_square : Int32) (v_side : Int32) (v_steps : Int32) (v_p0_gaps : Int64) (v_p0_strawMen : Int64) (v_p0_months : Int32) (v_p0_middle : Int32) (v_p0_door : Int32) (v_p1_fewest : Nat → Int32) (v_p1_queue : Nat → Int32) (v_p1_queued : Int32) (x3 : Int32) (x4 : Int32) : Option (Int32 × Int32 × Int32 × (Nat → Int32) × (Nat → Int32) × Int32) :=
  ob1 (fX3_edge x3 x4) fun r1 => (if (lg_cmp (v_p0_gaps &&& r1) (0 : Int64)) = 0 then some (v_square, v_side, v_steps, v_p1_fewest, v_p1_queue, v_p1_queued) else ob3 (fX8_measure v_p1_fewest v_p1_queue v_p1_queued v_p0_strawMen v_p0_months v_p0_middle ((v_p0_gaps &&& (r1 ^^^ (-1 : Int64)))) (0 : Int32) (0 : Int32)) fun v_p1_fewest_4 v_p1_queue_4 v_p1_queued_4 => ob1 (fX8_fewestFrom v_p1_fewest_4 v_p0_door) fun r6 => (if r6 ≤ v_steps then some (v_square, v_side, v_steps, v_p1_fewest_4, v_p1_queue_4, v_p1_queued_4) else some (x3, x4, r6, v_p1_fewest_4, v_p1_queue_4, v_p1_queued_4)))
/-- PloughMaze$Closing.find(LPloughMaze$Field;LPloughMaze$Ways;)Z -/
def fX0_find_8 (v_p0_gaps : Int64) (v_p0_strawMen : Int64) (v_p0_months : Int32) (v_p0_middle : Int32) (v_p0_door : Int32) : Nat → Int32 → Int32 → Int32 → (Nat → Int32) → (Nat → Int32) → Int32 → Int32 → Option (Int32 × Int32 × Int32 × Int32 × (Nat → Int32) × (Nat → Int32) × Int32)
  | 0, _, _, _, _, _, _, _ => none
  | n + 1, v_square, v_side, v_steps, v_p1_fewest, v_p1_queue, v_p1_queued, x3 => (if (36 : Int32) ≤ x3 then (if v_steps < 0 then some ((0 : Int32), v_square, v_side, v_steps, v_p1_fewest, v_p1_queue, v_p1_queued) else some ((1 : Int32), v_square, v_side, v_steps, v_p1_fewest, v_p1_queue, v_p1_queued)) else ob6 (fX0_weigh v_square v_side v_steps v_p0_gaps v_p0_strawMen v_p0_months v_p0_middle v_p0_door v_p1_fewest v_p1_queue v_p1_queued x3 (2 : Int32)) fun v_square_1 v_side_1 v_steps_1 v_p1_fewest_1 v_p1_queue_1 v_p1_queued_1 => ob6 (fX0_weigh v_square_1 v_side_1 v_steps_1 v_p0_gaps v_p0_strawMen v_p0_months v_p0_middle v_p0_door v_p1_fewest_1 v_p1_queue_1 v_p1_queued_1 x3 (3 : Int32)) fun v_square_3 v_side_3 v_steps_3 v_p1_fewest_3 v_p1_queue_3 v_p1_queued_3 => fX0_find_8 v_p0_gaps v_p0_strawMen v_p0_months v_p0_middle v_p0_door n v_square_3 v_side_3 v_steps_3 v_p1_fewest_3 v_p1_queue_3 v_p1_queued_3 ((x3 + (1 : Int32))))
def fX0_find (v_square : Int32) (v_side : Int32) (v_steps : Int32) (v_p0_gaps : Int64) (v_p0_strawMen : Int64) (v_p0_months : Int32) (v_p0_middle : Int32) (v_p0_door : Int32) (v_p1_fewest : Nat → Int32) (v_p1_queue : Nat → Int32) (v_p1_queued : Int32) : Option (Int32 × Int32 × Int32 × Int32 × (Nat → Int32) × (Nat → Int32) × Int32) :=
  fX0_find_8 v_p0_gaps v_p0_strawMen v_p0_months v_p0_middle v_p0_door 4000 v_square v_side (-4 : Int32) v_p1_fewest v_p1_queue v_p1_queued (0 : Int32)
/-- PloughMaze$Search.weigh(LPloughMaze$Field;)V -/
def fX4_weigh_94 (v_trial_row : Nat → Int32) (v_trial_size : Int32) (v_trial_ploughed : Int64) (v_trial_steps : Int64) (v_best_row : Nat → Int32) (v_best_size : Int32) (v_best_ploughed : Int64) (v_best_steps : Int64) (v_fitting : Int32) (v_hardest : Int32) (x6 : Int32) (s0 : Int32) : Option ((Nat → Int32) × Int32 × Int64 × Int64 × Int32 × Int32) :=
  (if x6 < 0 then some (v_best_row, v_best_size, v_best_ploughed, v_best_steps, v_fitting, v_hardest) else (if s0 ≤ v_hardest then some (v_best_row, v_best_size, v_best_ploughed, v_best_steps, v_fitting, v_hardest) else ob4 (fX2_copy v_best_row v_best_size v_best_ploughed v_best_steps v_trial_row v_trial_size v_trial_ploughed v_trial_steps) fun v_best_row_3 v_best_size_3 v_best_ploughed_3 v_best_steps_3 => some (v_best_row_3, v_best_size_3, v_best_ploughed_3, v_best_steps_3, v_fitting, s0)))
def fX4_weigh (v_trial_row : Nat → Int32) (v_trial_size : Int32) (v_trial_ploughed : Int64) (v_trial_steps : Int64) (v_best_row : Nat → Int32) (v_best_size : Int32) (v_best_ploughed : Int64) (v_best_steps : Int64) (v_many : Int32) (v_fitting : Int32) (v_hardest : Int32) (v_p0_middle : Int32) (v_p0_seenGaps : Int64) (v_p0_seenCorn : Int64) : Option ((Nat → Int32) × Int32 × Int64 × Int64 × Int32 × Int32) :=
  ob1 (fX2_ring v_trial_row v_trial_size) fun r1 => lets (v_trial_steps ||| r1) fun y4 => (if (lg_cmp (y4 &&& v_p0_seenCorn) (0 : Int64)) = 0 then (if (lg_cmp (v_p0_seenGaps &&& (y4 ^^^ (-1 : Int64))) (0 : Int64)) = 0 then lets (v_fitting + (1 : Int32)) fun y6 => ob1 (fX2_placeOf v_trial_row v_trial_size v_p0_middle) fun r8 => (if (lg_cmp r1 (0 : Int64)) = 0 then fX4_weigh_94 v_trial_row v_trial_size v_trial_ploughed v_trial_steps v_best_row v_best_size v_best_ploughed v_best_steps y6 v_hardest r8 r8 else fX4_weigh_94 v_trial_row v_trial_size v_trial_ploughed v_trial_steps v_best_row v_best_size v_best_ploughed v_best_steps y6 v_hardest r8 ((if (v_many - r8) < r8 then (v_many - r8) else r8))) else some (v_best_row, v_best_size, v_best_ploughed, v_best_steps, v_fitting, v_hardest)) else some (v_best_row, v_best_size, v_best_ploughed, v_best_steps, v_fitting, v_hardest))
