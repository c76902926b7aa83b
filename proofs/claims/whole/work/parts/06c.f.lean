/-- PloughMaze$Tape.byteAt(JI)I -/
def fX6_byteAt (x0 : Int64) (x2 : Int32) : Option (Int32) :=
  some (((((x0 >>> (((8 : Int32) * x2).toInt64 &&& 63)) &&& (255 : Int64))).toInt32))
/-- PloughMaze$Tape.isTypeable(JI)Z -/
def fX6_isTypeable_2 : Nat → Int64 → Int32 → Int32 → Option (Int32)
  | 0, _, _, _ => none
  | n + 1, x0, x2, x3 => (if x2 ≤ x3 then some ((1 : Int32)) else ob1 (fX6_byteAt x0 x3) fun r1 => (if r1 < (32 : Int32) then some ((0 : Int32)) else (if r1 ≤ (126 : Int32) then fX6_isTypeable_2 n x0 x2 ((x3 + (1 : Int32))) else some ((0 : Int32)))))
def fX6_isTypeable (x0 : Int64) (x2 : Int32) : Option (Int32) :=
  fX6_isTypeable_2 4000 x0 x2 (0 : Int32)
/-- PloughMaze$Tape.append(JI)Z -/
def fX6_append_18 : Nat → (Nat → Int32) → Int32 → Int64 → Int32 → Option (Int32 × (Nat → Int32) × Int32)
  | 0, _, _, _, _ => none
  | n + 1, v_typed, v_size, x1, x4 => (if x4 < 0 then some ((1 : Int32), v_typed, v_size) else ob1 (fX6_byteAt x1 x4) fun r1 => (if inb v_size 80 = true then lets (v_size + (1 : Int32)) fun y4 => fX6_append_18 n ((upd v_typed v_size.toNatClampNeg r1)) y4 x1 ((x4 + (-1 : Int32))) else none))
def fX6_append (v_typed : Nat → Int32) (v_size : Int32) (x1 : Int64) (x3 : Int32) : Option (Int32 × (Nat → Int32) × Int32) :=
  (if (v_size + x3) ≤ (80 : Int32) then lets (x3 - (1 : Int32)) fun y1 => fX6_append_18 4000 v_typed v_size x1 y1 else some ((0 : Int32), v_typed, v_size))
/-- PloughMaze$Tape.advance()V -/
def fX6_advance_0 (v_typed : Nat → Int32) (v_length : Int32) : Nat → Int32 → Option (Int32)
  | 0, _ => none
  | n + 1, v_place => lets (v_place + (1 : Int32)) fun y1 => (if v_length ≤ y1 then some (y1) else (if inb y1 80 = true then (if (v_typed y1.toNatClampNeg) = (32 : Int32) then fX6_advance_0 v_typed v_length n y1 else some (y1)) else none))
def fX6_advance (v_typed : Nat → Int32) (v_length : Int32) (v_place : Int32) : Option (Int32) :=
  fX6_advance_0 v_typed v_length 4000 v_place
/-- PloughMaze$Tape.takeText()V -/
def fX6_takeText (v_typed : Nat → Int32) (v_size : Int32) (v_length : Int32) (v_place : Int32) : Option (Int32 × Int32 × Int32) :=
  ob1 (fX6_advance v_typed v_size (-1 : Int32)) fun v_place_4 => some ((0 : Int32), v_size, v_place_4)
/-- PloughMaze$Tape.letter()I -/
def fX6_letter (v_typed : Nat → Int32) (v_length : Int32) (v_place : Int32) : Option (Int32) :=
  (if v_length ≤ v_place then some ((32 : Int32)) else (if inb v_place 80 = true then some ((v_typed v_place.toNatClampNeg)) else none))
/-- PloughMaze$Tape.fault()I -/
def fX6_fault (v_place : Int32) : Option (Int32) :=
  some (((-20 : Int32) - v_place))
/-- PloughMaze$Tape.readDigit()I -/
def fX6_readDigit (v_typed : Nat → Int32) (v_length : Int32) (v_place : Int32) : Option (Int32 × Int32) :=
  ob1 (fX6_letter v_typed v_length v_place) fun r1 => lets (r1 - (48 : Int32)) fun y3 => (if y3 < 0 then some ((-4 : Int32), v_place) else (if y3 < (6 : Int32) then ob1 (fX6_advance v_typed v_length v_place) fun v_place_5 => some (y3, v_place_5) else some ((-4 : Int32), v_place)))
/-- PloughMaze$Tape.readSquare()I -/
def fX6_readSquare (v_typed : Nat → Int32) (v_length : Int32) (v_place : Int32) : Option (Int32 × Int32) :=
  ob2 (fX6_readDigit v_typed v_length v_place) fun r1 v_place_1 => (if 0 ≤ r1 then ob2 (fX6_readDigit v_typed v_length v_place_1) fun r4 v_place_4 => (if 0 ≤ r4 then some (((r1 * (6 : Int32)) + r4), v_place_4) else some ((-4 : Int32), v_place_4)) else some ((-4 : Int32), v_place_1))
/-- PloughMaze$Tape.readFurrow(LPloughMaze$Furrow;)I -/
def fX6_readFurrow_77 (v_place : Int32) (v_p0_row : Nat → Int32) (v_p0_size : Int32) (v_p0_ploughed : Int64) (v_p0_steps : Int64) : Option (Int32 × Int32 × (Nat → Int32) × Int32 × Int64 × Int64) :=
  some (v_p0_size, v_place, v_p0_row, v_p0_size, v_p0_ploughed, v_p0_steps)
def fX6_readFurrow_22 (v_typed : Nat → Int32) (v_length : Int32) : Nat → Int32 → (Nat → Int32) → Int32 → Int64 → Int64 → Int32 → Option (Int32 × Int32 × (Nat → Int32) × Int32 × Int64 × Int64)
  | 0, _, _, _, _, _, _ => none
  | n + 1, v_place, v_p0_row, v_p0_size, v_p0_ploughed, v_p0_steps, x2 => (if (36 : Int32) ≤ x2 then fX6_readFurrow_77 v_place v_p0_row v_p0_size v_p0_ploughed v_p0_steps else (if v_length ≤ v_place then fX6_readFurrow_77 v_place v_p0_row v_p0_size v_p0_ploughed v_p0_steps else ob1 (fX6_letter v_typed v_length v_place) fun r1 => ob1 (fX3_sideOfLetter r1) fun r3 => ob1 (fX2_lastSquare v_p0_row v_p0_size) fun r6 => ob1 (fX3_next r6 r3) fun r8 => ob5 (fX2_add v_p0_row v_p0_size v_p0_ploughed v_p0_steps r8) fun r10 v_p0_row_10 v_p0_size_10 v_p0_ploughed_10 v_p0_steps_10 => (if r10 = 0 then ob1 (fX6_fault v_place) fun r15 => some (r15, v_place, v_p0_row_10, v_p0_size_10, v_p0_ploughed_10, v_p0_steps_10) else ob1 (fX6_advance v_typed v_length v_place) fun v_place_12 => fX6_readFurrow_22 v_typed v_length n v_place_12 v_p0_row_10 v_p0_size_10 v_p0_ploughed_10 v_p0_steps_10 ((x2 + (1 : Int32))))))
def fX6_readFurrow (v_typed : Nat → Int32) (v_length : Int32) (v_place : Int32) (v_p0_row : Nat → Int32) (v_p0_size : Int32) (v_p0_ploughed : Int64) (v_p0_steps : Int64) : Option (Int32 × Int32 × (Nat → Int32) × Int32 × Int64 × Int64) :=
  ob3 (fX2_clear v_p0_size v_p0_ploughed v_p0_steps) fun v_p0_size_1 v_p0_ploughed_1 v_p0_steps_1 => ob2 (fX6_readSquare v_typed v_length v_place) fun r3 v_place_3 => ob5 (fX2_add v_p0_row v_p0_size_1 v_p0_ploughed_1 v_p0_steps_1 r3) fun r5 v_p0_row_5 v_p0_size_5 v_p0_ploughed_5 v_p0_steps_5 => (if r5 = 0 then ob1 (fX6_fault v_place_3) fun r8 => some (r8, v_place_3, v_p0_row_5, v_p0_size_5, v_p0_ploughed_5, v_p0_steps_5) else fX6_readFurrow_22 v_typed v_length 4000 v_place_3 v_p0_row_5 v_p0_size_5 v_p0_ploughed_5 v_p0_steps_5 (0 : Int32))
/-- PloughMaze$Tape.readPart()Z -/
def fX6_readPart_103 (v_typed : Nat → Int32) (v_length : Int32) (v_place : Int32) (v_readGaps : Int64) (v_readCorn : Int64) : Option (Int32 × Int32 × Int64 × Int64) :=
  ob1 (fX6_advance v_typed v_length v_place) fun v_place_1 => some ((1 : Int32), v_place_1, v_readGaps, v_readCorn)
def fX6_readPart_68 (v_typed : Nat → Int32) (v_length : Int32) (v_place : Int32) (v_readGaps : Int64) (v_readCorn : Int64) (x2 : Int64) : Option (Int32 × Int32 × Int64 × Int64) :=
  ob1 (fX6_letter v_typed v_length v_place) fun r1 => (if r1 = (45 : Int32) then (if (lg_cmp (v_readGaps &&& x2) (0 : Int64)) = 0 then lets (v_readCorn ||| x2) fun y3 => fX6_readPart_103 v_typed v_length v_place v_readGaps y3 else some ((0 : Int32), v_place, v_readGaps, v_readCorn)) else some ((0 : Int32), v_place, v_readGaps, v_readCorn))
def fX6_readPart (v_typed : Nat → Int32) (v_length : Int32) (v_place : Int32) (v_readGaps : Int64) (v_readCorn : Int64) : Option (Int32 × Int32 × Int64 × Int64) :=
  ob2 (fX6_readSquare v_typed v_length v_place) fun r1 v_place_1 => (if 0 ≤ r1 then ob1 (fX6_letter v_typed v_length v_place_1) fun r4 => ob1 (fX3_sideOfLetter r4) fun r6 => ob1 (fX3_edge r1 r6) fun r8 => (if (lg_cmp r8 (0 : Int64)) = 0 then some ((0 : Int32), v_place_1, v_readGaps, v_readCorn) else ob1 (fX6_advance v_typed v_length v_place_1) fun v_place_11 => ob1 (fX6_letter v_typed v_length v_place_11) fun r13 => (if r13 = (43 : Int32) then (if (lg_cmp (v_readCorn &&& r8) (0 : Int64)) = 0 then lets (v_readGaps ||| r8) fun y15 => fX6_readPart_103 v_typed v_length v_place_11 y15 v_readCorn else fX6_readPart_68 v_typed v_length v_place_11 v_readGaps v_readCorn r8) else fX6_readPart_68 v_typed v_length v_place_11 v_readGaps v_readCorn r8)) else some ((0 : Int32), v_place_1, v_readGaps, v_readCorn))
/-- PloughMaze$Tape.readSeen()I -/
def fX6_readSeen_58 (v_place : Int32) (v_readGaps : Int64) (v_readCorn : Int64) : Option (Int32 × Int32 × Int64 × Int64) :=
  ob1 (fX6_fault v_place) fun r1 => some (r1, v_place, v_readGaps, v_readCorn)
def fX6_readSeen_12 (v_typed : Nat → Int32) (v_length : Int32) : Nat → Int32 → Int64 → Int64 → Int32 → Option (Int32 × Int32 × Int64 × Int64)
  | 0, _, _, _, _ => none
  | n + 1, v_place, v_readGaps, v_readCorn, x1 => (if (12 : Int32) < x1 then ob1 (fX6_fault v_place) fun r1 => some (r1, v_place, v_readGaps, v_readCorn) else ob4 (fX6_readPart v_typed v_length v_place v_readGaps v_readCorn) fun r3 v_place_3 v_readGaps_3 v_readCorn_3 => (if r3 = 0 then ob1 (fX6_fault v_place_3) fun r10 => some (r10, v_place_3, v_readGaps_3, v_readCorn_3) else (if v_place_3 < v_length then ob1 (fX6_letter v_typed v_length v_place_3) fun r5 => (if r5 = (44 : Int32) then (if x1 = (12 : Int32) then fX6_readSeen_58 v_place_3 v_readGaps_3 v_readCorn_3 else ob1 (fX6_advance v_typed v_length v_place_3) fun v_place_7 => fX6_readSeen_12 v_typed v_length n v_place_7 v_readGaps_3 v_readCorn_3 ((x1 + (1 : Int32)))) else fX6_readSeen_58 v_place_3 v_readGaps_3 v_readCorn_3) else some (x1, v_place_3, v_readGaps_3, v_readCorn_3))))
def fX6_readSeen (v_typed : Nat → Int32) (v_length : Int32) (v_place : Int32) (v_readGaps : Int64) (v_readCorn : Int64) : Option (Int32 × Int32 × Int64 × Int64) :=
  fX6_readSeen_12 v_typed v_length 4000 v_place (0 : Int64) (0 : Int64) (1 : Int32)
/-- PloughMaze$Sheet.isThere()Z -/
def fX5_isThere (v_laneHeld : Int32) : Option (Int32) :=
  (if v_laneHeld = (-1 : Int32) then some ((0 : Int32)) else some ((1 : Int32)))
/-- PloughMaze$Sheet.renew(II)V -/
def fX5_renew_12 : Nat → (Nat → Int32) → Int32 → Int32 → Int32 → Option ((Nat → Int32) × Int32 × Int32)
  | 0, _, _, _, _ => none
  | n + 1, v_items, v_laneHeld, v_size, x3 => (if (36 : Int32) ≤ x3 then some (v_items, v_laneHeld, v_size) else (if inb x3 36 = true then fX5_renew_12 n ((upd v_items x3.toNatClampNeg (0 : Int32))) v_laneHeld v_size ((x3 + (1 : Int32))) else none))
def fX5_renew (v_items : Nat → Int32) (v_laneHeld : Int32) (v_size : Int32) (x1 : Int32) (x2 : Int32) : Option ((Nat → Int32) × Int32 × Int32) :=
  fX5_renew_12 4000 v_items x1 x2 (0 : Int32)
/-- PloughMaze$Sheet.empty()V -/
def fX5_empty (v_laneHeld : Int32) (v_size : Int32) : Option (Int32 × Int32) :=
  some ((-1 : Int32), (0 : Int32))
/-- PloughMaze$Sheet.trouble(III)I -/
def fX5_trouble (v_laneHeld : Int32) (v_size : Int32) (x1 : Int32) (x2 : Int32) (x3 : Int32) : Option (Int32) :=
  ob1 (fX5_isThere v_laneHeld) fun r1 => (if r1 = 0 then some ((-11 : Int32)) else (if x1 = v_laneHeld then (if x2 < 0 then some ((-13 : Int32)) else (if x2 ≤ (v_size - x3) then some ((0 : Int32)) else some ((-13 : Int32)))) else some ((-12 : Int32))))
/-- PloughMaze$Sheet.put(II)V -/
def fX5_put_44 (v_items : Nat → Int32) (s1 : Int32) (s2 : Int32) : Option ((Nat → Int32)) :=
  (if inb s1 36 = true then some ((upd v_items s1.toNatClampNeg s2)) else none)
def fX5_put (v_items : Nat → Int32) (v_laneHeld : Int32) (v_size : Int32) (x1 : Int32) (x2 : Int32) : Option ((Nat → Int32)) :=
  (if x1 < 0 then some (v_items) else (if x1 < v_size then (if v_laneHeld = 0 then fX5_put_44 v_items x1 (((x2).toInt8.toInt32)) else (if v_laneHeld = (1 : Int32) then fX5_put_44 v_items x1 (((x2).toInt16.toInt32)) else fX5_put_44 v_items x1 x2)) else some (v_items)))
