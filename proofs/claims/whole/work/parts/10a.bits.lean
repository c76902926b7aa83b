-- BITS AND TABLES of the board
def bL (m : Int64) (e : Nat) : Bool := m.toBitVec.getLsbD e
def eL (k : Nat) : Int64 := Int64.ofBitVec (BitVec.twoPow 64 k)
theorem bL_or (a b : Int64) (e : Nat) : bL (a ||| b) e = (bL a e || bL b e) := by simp [bL]
theorem bL_and (a b : Int64) (e : Nat) : bL (a &&& b) e = (bL a e && bL b e) := by simp [bL]
theorem bL_not (a : Int64) {e : Nat} (he : e < 64) : bL (a ^^^ (-1)) e = !bL a e := by
  have h : (-1 : Int64).toBitVec = BitVec.allOnes 64 := by decide
  simp [bL, h, he]
theorem bL_big (m : Int64) {e : Nat} (he : 64 ≤ e) : bL m e = false := BitVec.getLsbD_of_ge _ _ he
theorem bL_0 (e : Nat) : bL 0 e = false := by simp [bL]
theorem bL_e (k e : Nat) : bL (eL k) e = decide (e = k ∧ k < 64) := by
  unfold bL eL
  rw [Int64.toBitVec_ofBitVec, BitVec.getLsbD_twoPow]
  by_cases h : k = e
  · subst h; simp
  · have h' : ¬ e = k := fun q => h q.symm
    simp [h, h']
theorem bL_ext {a b : Int64} (h : ∀ e, e < 64 → bL a e = bL b e) : a = b := Int64.toBitVec_inj.mp (BitVec.eq_of_getLsbD_eq h)
theorem lg0 {x : Int64} : lg_cmp x 0 = 0 ↔ x = 0 := by
  unfold lg_cmp
  by_cases h1 : x > 0
  · simp only [if_pos h1]
    constructor
    · intro h; exact absurd h (by decide)
    · intro h; subst h; exact absurd h1 (by decide)
  · by_cases h2 : x = 0
    · simp [h2]
    · simp only [if_neg h1, if_neg h2]
      constructor
      · intro h; exact absurd h (by decide)
      · intro h; exact absurd h h2
theorem and_e {m : Int64} {k : Nat} (hk : k < 64) : (m &&& eL k) = 0 ↔ bL m k = false := by
  constructor
  · intro h
    have h1 := congrArg (fun x => bL x k) h
    simpa [bL_and, bL_e, bL_0, hk] using h1
  · intro h
    refine bL_ext fun e he => ?_
    rw [bL_and, bL_e, bL_0]
    by_cases q : e = k
    · subst q; simp [h]
    · simp [q]
theorem shl_e : ∀ k, k < 64 → (1 : Int64) <<< ((nI k).toInt64 &&& 63) = eL k := by decide +kernel
theorem shr_e {m : Int64} {k : Nat} (hk : k < 64) : ((m >>> ((nI k).toInt64 &&& 63)) &&& 1) = 0 ↔ bL m k = false := by
  have hs : ∀ k, k < 64 → (((nI k).toInt64 &&& 63).toBitVec.smod 64).toNat = k := by decide +kernel
  have h1 : (m >>> ((nI k).toInt64 &&& 63)).toBitVec = m.toBitVec.sshiftRight k := by
    rw [Int64.toBitVec_shiftRight]
    show m.toBitVec.sshiftRight (((nI k).toInt64 &&& 63).toBitVec.smod 64).toNat = _
    rw [hs k hk]
  have h2 : (1 : Int64) = eL 0 := by decide
  rw [h2, and_e (by decide)]
  unfold bL
  rw [h1, BitVec.getLsbD_sshiftRight]
  simp [hk]
def nx (q s : Nat) : Nat := if s = 0 then (if 6 ≤ q then q - 6 else 36) else if s = 1 then (if 0 < q % 6 then q - 1 else 36) else if s = 2 then (if q % 6 < 5 then q + 1 else 36) else if s = 3 then (if q < 30 then q + 6 else 36) else 36
def eb (q s : Nat) : Nat := if s = 0 then q - 6 else if s = 1 then 30 + (q - 1) - (q - 1) / 6 else if s = 2 then 30 + q - q / 6 else q
def prN (q s : Nat) : Nat := if s = 0 then 2 * (q - 6) + 1 else if s = 1 then 2 * (q - 1) else if s = 2 then 2 * q else 2 * q + 1
def vpr (p : Nat) : Bool := if p % 2 = 0 then decide ((p / 2) % 6 < 5) else decide (p / 2 < 30)
def pb (p : Nat) : Nat := if p % 2 = 0 then 30 + p / 2 - p / 2 / 6 else p / 2
/-- the edge between two squares; 64 where there is none -/
def ew (a b : Nat) : Nat := if nx a 0 = b then eb a 0 else if nx a 1 = b then eb a 1 else if nx a 2 = b then eb a 2 else if nx a 3 = b then eb a 3 else 64
theorem tb_next : ∀ q, q < 36 → ∀ s, s < 4 → fX3_next (nI q) (nI s) = some (if nx q s = 36 then -4 else nI (nx q s)) := by decide +kernel
theorem tb_nextTo : ∀ q, q < 36 → ∀ s, s < 4 → fX10_nextTo (nI q) (nI s) = some (if nx q s = 36 then -1 else nI (nx q s)) := by decide +kernel
theorem tb_edge : ∀ q, q < 36 → ∀ s, s < 4 → fX3_edge (nI q) (nI s) = some (if nx q s = 36 then 0 else eL (eb q s)) := by decide +kernel
theorem tb_between : ∀ q, q < 36 → ∀ r, r < 36 → fX3_between (nI q) (nI r) = some (if ew q r = 64 then 0 else eL (ew q r)) := by decide +kernel
theorem tb_pair : ∀ q, q < 36 → ∀ s, s < 4 → nx q s ≠ 36 → fX10_pairOf (nI q) (nI s) = some (nI (prN q s)) := by decide +kernel
theorem tb_sideTo : ∀ q, q < 36 → ∀ r, r < 36 → (fX10_sideTo (nI q) (nI r)).isSome = true ∧ ∀ v, fX10_sideTo (nI q) (nI r) = some v → (v < 0 ↔ ew q r = 64) := by
  intro q hq r hr
  have h : ∀ q, q < 36 → ∀ r, r < 36 → (match fX10_sideTo (nI q) (nI r) with | none => false | some v => decide (v < 0 ↔ ew q r = 64)) = true := by decide +kernel
  have h1 := h q hq r hr
  cases hv : fX10_sideTo (nI q) (nI r) with
  | none => rw [hv] at h1; cases h1
  | some w =>
    rw [hv] at h1
    exact ⟨rfl, fun v e => by cases e; simpa using h1⟩
theorem tb_n1 : ∀ q, q < 36 → ∀ s, s < 4 → nx q s ≤ 36 := by decide +kernel
theorem tb_n2 : ∀ q, q < 36 → ∀ s, s < 4 → nx q s ≠ 36 → eb q s < 60 ∧ pb (prN q s) = eb q s ∧ prN q s < 72 ∧ vpr (prN q s) = true := by decide +kernel
theorem tb_n3 : ∀ q, q < 36 → ∀ s, s < 4 → nx q s ≠ 36 → ew q (nx q s) = eb q s ∧ nx (nx q s) (3 - s) = q ∧ eb (nx q s) (3 - s) = eb q s ∧ prN (nx q s) (3 - s) = prN q s := by decide +kernel
theorem tb_ew : ∀ q, q < 36 → ∀ r, r < 36 → (ew q r = 64 ∨ ew q r < 60) ∧ ew q r = ew r q ∧ ew q q = 64 := by decide +kernel
theorem tb_pb : ∀ a, a < 72 → ∀ b, b < 72 → vpr a = true → vpr b = true → pb a = pb b → a = b := by decide +kernel
theorem tb_vp : ∀ p, p < 72 → vpr p = true → pb p < 60 ∧ nx (p / 2) (2 + p % 2) ≠ 36 ∧ prN (p / 2) (2 + p % 2) = p := by decide +kernel
theorem tb_ews : ∀ q, q < 36 → ∀ r, r < 36 → ew q r ≠ 64 → ∃ s, s < 4 ∧ nx q s = r := by
  intro q hq r hr h
  unfold ew at h
  by_cases h0 : nx q 0 = r
  · exact ⟨0, by decide, h0⟩
  by_cases h1 : nx q 1 = r
  · exact ⟨1, by decide, h1⟩
  by_cases h2 : nx q 2 = r
  · exact ⟨2, by decide, h2⟩
  by_cases h3 : nx q 3 = r
  · exact ⟨3, by decide, h3⟩
  simp [h0, h1, h2, h3] at h
