/-- PloughMaze$Grid.isSquare(I)Z -/
def fX3_isSquare (x0 : Int32) : Option (Int32) :=
  (if x0 < 0 then some ((0 : Int32)) else (if (36 : Int32) ≤ x0 then some ((0 : Int32)) else some ((1 : Int32))))
/-- PloughMaze$Grid.isSide(I)Z -/
def fX3_isSide (x0 : Int32) : Option (Int32) :=
  (if x0 < 0 then some ((0 : Int32)) else (if (4 : Int32) ≤ x0 then some ((0 : Int32)) else some ((1 : Int32))))
/-- PloughMaze$Grid.next(II)I -/
def fX3_next (x0 : Int32) (x1 : Int32) : Option (Int32) :=
  (if x0 < 0 then some ((-4 : Int32)) else (if x0 < (36 : Int32) then (if x1 = (0 : Int32) then (if x0 < (6 : Int32) then some ((-4 : Int32)) else some ((x0 - (6 : Int32)))) else (if x1 = (1 : Int32) then (if (x0 - x0 / (6 : Int32) * (6 : Int32)) ≤ 0 then some ((-4 : Int32)) else some ((x0 - (1 : Int32)))) else (if x1 = (2 : Int32) then (if (5 : Int32) ≤ (x0 - x0 / (6 : Int32) * (6 : Int32)) then some ((-4 : Int32)) else some ((x0 + (1 : Int32)))) else (if x1 = (3 : Int32) then (if (30 : Int32) ≤ x0 then some ((-4 : Int32)) else some ((x0 + (6 : Int32)))) else some ((-4 : Int32)))))) else some ((-4 : Int32))))
/-- PloughMaze$Grid.between(II)J -/
def fX3_between_21 (x2 : Int32) (s0 : Int32) : Option (Int64) :=
  (if x2 < 0 then some ((0 : Int64)) else (if s0 < (36 : Int32) then (if (s0 - x2) = (6 : Int32) then some (((1 : Int64) <<< (x2.toInt64 &&& 63))) else (if (s0 - x2) = (1 : Int32) then (if (s0 - s0 / (6 : Int32) * (6 : Int32)) = 0 then some ((0 : Int64)) else some (((1 : Int64) <<< ((((30 : Int32) + x2) - (x2 / (6 : Int32))).toInt64 &&& 63)))) else some ((0 : Int64)))) else some ((0 : Int64))))
def fX3_between_10 (x0 : Int32) (x1 : Int32) (s0 : Int32) : Option (Int64) :=
  (if x1 ≤ x0 then fX3_between_21 s0 x0 else fX3_between_21 s0 x1)
def fX3_between (x0 : Int32) (x1 : Int32) : Option (Int64) :=
  (if x1 ≤ x0 then fX3_between_10 x0 x1 x1 else fX3_between_10 x0 x1 x0)
/-- PloughMaze$Grid.edge(II)J -/
def fX3_edge (x0 : Int32) (x1 : Int32) : Option (Int64) :=
  ob1 (fX3_next x0 x1) fun r1 => ob1 (fX3_between x0 r1) fun r3 => some (r3)
/-- PloughMaze$Grid.rightOf(I)I -/
def fX3_rightOf (x0 : Int32) : Option (Int32) :=
  ob1 (fX3_isSide x0) fun r1 => (if r1 = 0 then some (x0) else (if inb x0 4 = true then some ((rgt x0.toNatClampNeg)) else none))
/-- PloughMaze$Grid.backOf(I)I -/
def fX3_backOf (x0 : Int32) : Option (Int32) :=
  some (((3 : Int32) - x0))
/-- PloughMaze$Grid.leftOf(I)I -/
def fX3_leftOf (x0 : Int32) : Option (Int32) :=
  ob1 (fX3_rightOf x0) fun r1 => ob1 (fX3_backOf r1) fun r3 => some (r3)
/-- PloughMaze$Grid.sideOfLetter(I)I -/
def fX3_sideOfLetter (x0 : Int32) : Option (Int32) :=
  (if x0 = (100 : Int32) then some ((3 : Int32)) else (if x0 = (108 : Int32) then some ((1 : Int32)) else (if x0 = (114 : Int32) then some ((2 : Int32)) else (if x0 = (117 : Int32) then some ((0 : Int32)) else some ((-4 : Int32))))))
/-- PloughMaze$Furrow.add(I)Z -/
def fX2_add_72 (v_row : Nat → Int32) (v_size : Int32) (v_ploughed : Int64) (v_steps : Int64) (x1 : Int32) : Option (Int32 × (Nat → Int32) × Int32 × Int64 × Int64) :=
  (if inb v_size 36 = true then lets (v_size + (1 : Int32)) fun y2 => lets (v_ploughed ||| ((1 : Int64) <<< (x1.toInt64 &&& 63))) fun y4 => some ((1 : Int32), (upd v_row v_size.toNatClampNeg x1), y2, y4, v_steps) else none)
def fX2_add (v_row : Nat → Int32) (v_size : Int32) (v_ploughed : Int64) (v_steps : Int64) (x1 : Int32) : Option (Int32 × (Nat → Int32) × Int32 × Int64 × Int64) :=
  ob1 (fX3_isSquare x1) fun r1 => (if r1 = 0 then some ((0 : Int32), v_row, v_size, v_ploughed, v_steps) else (if (36 : Int32) ≤ v_size then some ((0 : Int32), v_row, v_size, v_ploughed, v_steps) else (if (lg_cmp ((v_ploughed >>> (x1.toInt64 &&& 63)) &&& (1 : Int64)) (0 : Int64)) = 0 then (if v_size ≤ 0 then fX2_add_72 v_row v_size v_ploughed v_steps x1 else (if inb (v_size - (1 : Int32)) 36 = true then ob1 (fX3_between ((v_row (v_size - (1 : Int32)).toNatClampNeg)) x1) fun r3 => (if (lg_cmp r3 (0 : Int64)) = 0 then some ((0 : Int32), v_row, v_size, v_ploughed, v_steps) else lets (v_steps ||| r3) fun y6 => fX2_add_72 v_row v_size v_ploughed y6 x1) else none)) else some ((0 : Int32), v_row, v_size, v_ploughed, v_steps))))
/-- PloughMaze$Furrow.removeLast()V -/
def fX2_removeLast (v_row : Nat → Int32) (v_size : Int32) (v_ploughed : Int64) (v_steps : Int64) : Option (Int32 × Int64 × Int64) :=
  (if v_size = 0 then some (v_size, v_ploughed, v_steps) else lets (v_size - (1 : Int32)) fun y1 => (if inb y1 36 = true then lets (v_ploughed &&& (((1 : Int64) <<< ((v_row y1.toNatClampNeg).toInt64 &&& 63)) ^^^ (-1 : Int64))) fun y3 => (if y1 ≤ 0 then some (y1, y3, v_steps) else (if inb (y1 - (1 : Int32)) 36 = true then (if inb y1 36 = true then ob1 (fX3_between ((v_row (y1 - (1 : Int32)).toNatClampNeg)) ((v_row y1.toNatClampNeg))) fun r5 => lets (v_steps &&& (r5 ^^^ (-1 : Int64))) fun y7 => some (y1, y3, y7) else none) else none)) else none))
/-- PloughMaze$Furrow.clear()V -/
def fX2_clear (v_size : Int32) (v_ploughed : Int64) (v_steps : Int64) : Option (Int32 × Int64 × Int64) :=
  some ((0 : Int32), (0 : Int64), (0 : Int64))
/-- PloughMaze$Furrow.copy(LPloughMaze$Furrow;)V -/
def fX2_copy (v_row : Nat → Int32) (v_size : Int32) (v_ploughed : Int64) (v_steps : Int64) (v_p0_row : Nat → Int32) (v_p0_size : Int32) (v_p0_ploughed : Int64) (v_p0_steps : Int64) : Option ((Nat → Int32) × Int32 × Int64 × Int64) :=
  some ((va_cpy v_p0_row v_row (0 : Int32).toNatClampNeg (0 : Int32).toNatClampNeg (36 : Int32).toNatClampNeg), v_p0_size, v_p0_ploughed, v_p0_steps)
/-- PloughMaze$Furrow.squareAt(I)I -/
def fX2_squareAt (v_row : Nat → Int32) (v_size : Int32) (x1 : Int32) : Option (Int32) :=
  (if x1 < 0 then some ((-4 : Int32)) else (if v_size ≤ x1 then some ((-4 : Int32)) else (if inb x1 36 = true then some ((v_row x1.toNatClampNeg)) else none)))
/-- PloughMaze$Furrow.lastSquare()I -/
def fX2_lastSquare (v_row : Nat → Int32) (v_size : Int32) : Option (Int32) :=
  ob1 (fX2_squareAt v_row v_size ((v_size - (1 : Int32)))) fun r1 => some (r1)
/-- PloughMaze$Furrow.placeOf(I)I -/
def fX2_placeOf_2 (v_row : Nat → Int32) (v_size : Int32) : Nat → Int32 → Int32 → Option (Int32)
  | 0, _, _ => none
  | n + 1, x1, x2 => (if v_size ≤ x2 then some ((-4 : Int32)) else (if inb x2 36 = true then (if (v_row x2.toNatClampNeg) = x1 then some (x2) else fX2_placeOf_2 v_row v_size n x1 ((x2 + (1 : Int32)))) else none))
def fX2_placeOf (v_row : Nat → Int32) (v_size : Int32) (x1 : Int32) : Option (Int32) :=
  fX2_placeOf_2 v_row v_size 4000 x1 (0 : Int32)
/-- PloughMaze$Furrow.ring()J -/
def fX2_ring (v_row : Nat → Int32) (v_size : Int32) : Option (Int64) :=
  (if v_size < (4 : Int32) then some ((0 : Int64)) else (if inb (v_size - (1 : Int32)) 36 = true then ob1 (fX3_between ((v_row (v_size - (1 : Int32)).toNatClampNeg)) ((v_row (0 : Int32).toNatClampNeg))) fun r1 => some (r1) else none))
