-- THE RELATIONS of the two states
def bI (b : Bool) : Int32 := if b = true then 1 else 0
theorem bI_t : bI true = 1 := rfl
theorem bI_f : bI false = 0 := rfl
theorem i10 : ((1 : Int32) = 0) = False := eq_false (by decide)
theorem bI_0 {b : Bool} : bI b = 0 ↔ b = false := by cases b <;> simp [bI, i10]
theorem bI_1 {b : Bool} : bI b = 1 ↔ b = true := by cases b <;> simp [bI]
theorem isB_bI (b : Bool) : isB (bI b) = true := by cases b <;> decide
/-- in 0 .. n - 1 -/
def ir (a : Int32) (n : Nat) : Bool := decide (0 ≤ a) && decide (a < nI n)
theorem ir_t {a : Int32} {n : Nat} (hn : n < 2 ^ 31) : ir a n = true ↔ ∃ j : Nat, j < n ∧ a = nI j := by
  unfold ir
  constructor
  · intro h
    simp only [Bool.and_eq_true, decide_eq_true_eq] at h
    have h0 : ¬ a < 0 := by rw [Int32.not_lt]; exact h.1
    obtain ⟨j, hj, rfl⟩ := nI_of h0
    exact ⟨j, (nI_ltI hj hn).mp h.2, rfl⟩
  · rintro ⟨j, hj, rfl⟩
    simp only [Bool.and_eq_true, decide_eq_true_eq]
    exact ⟨nI_pos' (by omega), nI_lt hj hn⟩
theorem ir_n {j n : Nat} (h : j < n) (hn : n < 2 ^ 31) : ir (nI j) n = true := (ir_t hn).mpr ⟨j, h, rfl⟩
theorem ir_or (a : Int32) (n : Nat) (hn : n < 2 ^ 31) : ir a n = false ∨ ∃ j : Nat, j < n ∧ a = nI j := by
  cases h : ir a n with
  | false => exact Or.inl rfl
  | true => exact Or.inr ((ir_t hn).mp h)
theorem ir_if {α : Type} (a : Int32) (n : Nat) (N : Int32) (hN : nI n = N) (x y : α) : (if a < 0 then x else (if N ≤ a then x else y)) = if ir a n = true then y else x := by
  subst hN
  unfold ir
  by_cases h1 : a < 0
  · have h2 : ¬ 0 ≤ a := by rw [Int32.not_le]; exact h1
    simp [h1, h2]
  · have h2 : 0 ≤ a := by rw [Int32.not_lt] at h1; exact h1
    by_cases h3 : nI n ≤ a
    · have h4 : ¬ a < nI n := by rw [Int32.not_lt]; exact h3
      simp [h1, h3, h4]
    · have h4 : a < nI n := by rw [Int32.not_le] at h3; exact h3
      simp [h1, h3, h2, h4]
theorem bI_if (b : Bool) : (if b = true then some (1 : Int32) else some 0) = some (bI b) := by cases b <;> rfl
theorem X3_isSquare (a : Int32) : fX3_isSquare a = some (bI (ir a 36)) := (ir_if a 36 36 rfl _ _).trans (bI_if _)
theorem X3_isSide (a : Int32) : fX3_isSide a = some (bI (ir a 4)) := (ir_if a 4 4 rfl _ _).trans (bI_if _)
theorem X9_isSheet (a : Int32) : fX9_isSheet a = some (bI (ir a 4)) := (ir_if a 4 4 rfl _ _).trans (bI_if _)
theorem X9_isLane (a : Int32) : fX9_isLane a = some (bI (ir a 3)) := (ir_if a 3 3 rfl _ _).trans (bI_if _)
theorem X9_isKind (a : Int32) : fX9_isKind a = some (bI (ir a 4)) := (ir_if a 4 4 rfl _ _).trans (bI_if _)
theorem i64_lt (a b : Int32) : a.toInt64 < b.toInt64 ↔ a < b := by
  rw [Int64.lt_iff_toInt_lt, Int32.lt_iff_toInt_lt, Int32.toInt_toInt64, Int32.toInt_toInt64]
theorem X10_in (a b c : Int32) : fX10_in a.toInt64 b.toInt64 c.toInt64 = some (bI (decide (b ≤ a) && decide (a ≤ c))) := by
  have g1 : ∀ x y : Int64, lg_cmp x y < 0 ↔ x < y := by
    intro x y
    unfold lg_cmp
    by_cases h1 : x > y
    · have : ¬ x < y := by rw [Int64.not_lt]; exact Int64.le_of_lt h1
      rw [if_pos h1]
      exact ⟨fun h => absurd h (by decide), fun h => absurd h this⟩
    · by_cases h2 : x = y
      · rw [if_neg h1, if_pos h2, h2]
        constructor
        · intro h; exact absurd h (by decide)
        · intro h; exact absurd h (Int64.lt_irrefl)
      · rw [if_neg h1, if_neg h2]
        constructor
        · intro _
          have : x ≤ y := by rw [gt_iff_lt, Int64.not_lt] at h1; exact h1
          exact Int64.lt_of_le_of_ne this h2
        · intro _; decide
  have g2 : ∀ x y : Int64, 0 < lg_cmp x y ↔ y < x := by
    intro x y
    unfold lg_cmp
    by_cases h1 : x > y
    · rw [if_pos h1]
      exact ⟨fun _ => h1, fun _ => by decide⟩
    · have h1' : ¬ y < x := h1
      by_cases h2 : x = y
      · rw [if_neg h1, if_pos h2]
        exact ⟨fun h => absurd h (by decide), fun h => absurd h h1'⟩
      · rw [if_neg h1, if_neg h2]
        exact ⟨fun h => absurd h (by decide), fun h => absurd h h1'⟩
  unfold fX10_in
  by_cases h1 : a < b
  · have e1 : lg_cmp a.toInt64 b.toInt64 < 0 := (g1 _ _).mpr ((i64_lt a b).mpr h1)
    have e2 : ¬ b ≤ a := by rw [Int32.not_le]; exact h1
    simp [e1, e2, bI]
  · have e1 : ¬ lg_cmp a.toInt64 b.toInt64 < 0 := fun h => h1 ((i64_lt a b).mp ((g1 _ _).mp h))
    have e2 : b ≤ a := by rw [Int32.not_lt] at h1; exact h1
    by_cases h3 : c < a
    · have e3 : 0 < lg_cmp a.toInt64 c.toInt64 := (g2 _ _).mpr ((i64_lt c a).mpr h3)
      have e4 : ¬ a ≤ c := by rw [Int32.not_le]; exact h3
      simp [e1, e2, e3, e4, bI]
    · have e3 : ¬ 0 < lg_cmp a.toInt64 c.toInt64 := fun h => h3 ((i64_lt c a).mp ((g2 _ _).mp h))
      have e4 : a ≤ c := by rw [Int32.not_lt] at h3; exact h3
      simp [e1, e2, e3, e4, bI]
theorem le_pred (a : Int32) (n : Nat) (h : n + 1 < 2 ^ 31) : a ≤ nI n ↔ a < nI (n + 1) := by
  rw [Int32.le_iff_toInt_le, Int32.lt_iff_toInt_lt, nI_toInt (by omega), nI_toInt h]
  omega
theorem X10_in0 (a : Int32) (n : Nat) (N : Int64) (hN : (nI n).toInt64 = N) (hn : n + 1 < 2 ^ 31) : fX10_in a.toInt64 0 N = some (bI (ir a (n + 1))) := by
  subst hN
  have h0 : (0 : Int64) = (0 : Int32).toInt64 := by decide
  rw [h0, X10_in]
  unfold ir
  have h1 : decide (a ≤ nI n) = decide (a < nI (n + 1)) := decide_eq_decide.mpr (le_pred a n hn)
  rw [h1]
theorem X10_in3 (a : Int32) : fX10_in a.toInt64 0 3 = some (bI (ir a 4)) := X10_in0 a 3 3 (by decide) (by decide)
theorem X10_in2 (a : Int32) : fX10_in a.toInt64 0 2 = some (bI (ir a 3)) := X10_in0 a 2 2 (by decide) (by decide)
theorem X10_in35 (a : Int32) : fX10_in a.toInt64 0 35 = some (bI (ir a 36)) := X10_in0 a 35 35 (by decide) (by decide)
theorem X10_in9 (a : Int32) : fX10_in a.toInt64 0 9 = some (bI (ir a 10)) := X10_in0 a 9 9 (by decide) (by decide)
theorem X10_in999 (a : Int32) : fX10_in a.toInt64 0 999 = some (bI (ir a 1000)) := X10_in0 a 999 999 (by decide) (by decide)
theorem X10_isSquare (a : Int32) : fX10_isSquare a = some (bI (ir a 36)) := by
  unfold fX10_isSquare
  rw [X10_in35]
  simp only [ob1, isB_bI, if_true]
theorem X10_isSide (a b : Int32) : fX10_isSide a b = some (bI (ir a 36 && ir b 4)) := by
  unfold fX10_isSide
  rw [X10_isSquare]
  cases h1 : ir a 36 <;> simp only [ob1, bI_t, bI_f, if_true, i10, if_false, Bool.false_and, Bool.true_and]
  rw [X10_in3]
  cases h2 : ir b 4 <;> simp only [ob1, bI_t, bI_f, if_true, i10, if_false]
theorem X10_isSheet (a b : Int32) : fX10_isSheet a b = some (bI (ir a 4 && ir b 3)) := by
  unfold fX10_isSheet
  rw [X10_in3]
  cases h1 : ir a 4 <;> simp only [ob1, bI_t, bI_f, if_true, i10, if_false, Bool.false_and, Bool.true_and]
  rw [X10_in2]
  cases h2 : ir b 3 <;> simp only [ob1, bI_t, bI_f, if_true, i10, if_false]
/-- a furrow: n squares p 0 .. p (n - 1) -/
def FW (n : Nat) (p : Nat → Nat) (row : Nat → Int32) (size : Int32) (pl st : Int64) : Prop :=
  n ≤ 36 ∧ size = nI n ∧ (∀ i, i < n → p i < 36 ∧ row i = nI (p i)) ∧ (∀ i j, i < n → j < n → p i = p j → i = j) ∧ (∀ i, i + 1 < n → ew (p i) (p (i + 1)) ≠ 64) ∧
  (∀ q, bL pl q = true ↔ ∃ i, i < n ∧ p i = q) ∧ (∀ e, bL st e = true ↔ e ≠ 64 ∧ ∃ i, i + 1 < n ∧ ew (p i) (p (i + 1)) = e)
/-- a mask of edges, and the row of pairs that says the same -/
def MK (m : Int64) (arr : Nat → Int32) : Prop := (∀ p, p < 72 → arr p = bI (vpr p && bL m (pb p))) ∧ ∀ e, 60 ≤ e → bL m e = false
def MS36 (m : Int64) (arr : Nat → Int32) : Prop := (∀ q, q < 36 → arr q = bI (bL m q)) ∧ ∀ e, 36 ≤ e → bL m e = false
def rgv (n : Nat) (p : Nat → Nat) : Nat := if 4 ≤ n then ew (p (n - 1)) (p 0) else 64
def cN (m : Int64) : Nat := (List.range 60).countP (fun e => bL m e)
def SN (k : Nat) (sG sC : Int64) (sN : Int32) (ysp ysg : Nat → Int32) (ys : Int32) : Prop :=
  k ≤ 12 ∧ sN = nI k ∧ ys = nI k ∧ (∀ i, i < k → ∃ pr, pr < 72 ∧ vpr pr = true ∧ ysp i = nI pr ∧ (ysg i = 0 ∨ ysg i = 1)) ∧
  (∀ e, bL sG e = true ↔ ∃ i pr, i < k ∧ pr < 72 ∧ vpr pr = true ∧ ysp i = nI pr ∧ pb pr = e ∧ ysg i = 1) ∧
  (∀ e, bL sC e = true ↔ ∃ i pr, i < k ∧ pr < 72 ∧ vpr pr = true ∧ ysp i = nI pr ∧ pb pr = e ∧ ysg i = 0)
def GP (n : Nat) (p : Nat → Nat) (st eaten closed gaps : Int64) : Prop := ∀ e, e < 64 → bL gaps e = ((bL st e || decide (rgv n p = e) || bL eaten e) && !bL closed e)
def BD (n : Nat) (p : Nat → Nat) (mo mi dr k : Nat) (row : Nat → Int32) (size : Int32) (pl st eaten closed gaps straw : Int64) (months middle door : Int32) (sG sC : Int64) (sN : Int32) (yrow : Nat → Int32) (ysize : Int32) (yeaten yshuts ystraws ysets ysp ysg : Nat → Int32) (ys : Int32) : Prop :=
  FW n p row size pl st ∧ (ysize = nI n ∧ ∀ i, i < n → yrow i = nI (p i)) ∧ (MK eaten yeaten ∧ cN eaten ≤ 10) ∧ MK closed yshuts ∧ GP n p st eaten closed gaps ∧ MS36 straw ystraws ∧
  (mo ≤ 9 ∧ months = nI mo ∧ ysets 0 = nI mo) ∧ (mi < 36 ∧ middle = nI mi ∧ ysets 1 = nI mi) ∧ (dr < 36 ∧ door = nI dr ∧ ysets 2 = nI dr) ∧ SN k sG sC sN ysp ysg ys
def R1d : TR1 := fun row size pl st eaten closed gaps straw months middle door sG sC sN yrow ysize yeaten yshuts ystraws ysets ysp ysg ys =>
  ∃ (n : Nat) (p : Nat → Nat) (mo mi dr k : Nat), BD n p mo mi dr k row size pl st eaten closed gaps straw months middle door sG sC sN yrow ysize yeaten yshuts ystraws ysets ysp ysg ys
def R2d : TR2 := fun row size pl st eaten closed gaps straw months middle door sG sC sN isK ykept yks ykn yisK =>
  isK = yisK ∧ (isK = 0 ∨ isK = 1 ∧ R1d row size pl st eaten closed gaps straw months middle door sG sC sN ykept yks (fun i => ykept (36 + i)) (fun i => ykept (108 + i)) (fun i => ykept (180 + i)) (fun i => ykept (216 + i)) (fun i => ykept (219 + i)) (fun i => ykept (231 + i)) ykn)
def R3d : TR3 := fun typed size ytape ytaped => ∃ n : Nat, n ≤ 80 ∧ size = nI n ∧ ytaped = nI n ∧ ∀ i, i < n → typed i = ytape i ∧ ∃ b : Nat, 32 ≤ b ∧ b ≤ 126 ∧ typed i = nI b
def SH (j : Nat) (items : Nat → Int32) (lane size : Int32) (yl yr yi : Nat → Int32) : Prop :=
  lane = yl j ∧ (lane = -1 ∨ ∃ t z : Nat, t < 3 ∧ lane = nI t ∧ z ≤ 36 ∧ size = nI z ∧ yr j = nI z ∧ ∀ i, i < 36 → items i = yi (36 * j + i))
def R4d : TR4 := fun i0 l0 s0 i1 l1 s1 i2 l2 s2 i3 l3 s3 yl yr yi => SH 0 i0 l0 s0 yl yr yi ∧ SH 1 i1 l1 s1 yl yr yi ∧ SH 2 i2 l2 s2 yl yr yi ∧ SH 3 i3 l3 s3 yl yr yi
