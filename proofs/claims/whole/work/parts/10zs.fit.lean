-- FIT: the whole call
theorem fB_9 : ∀ m, m < 9 → fB m ≤ 109225 := by decide +kernel
theorem i_toInt : (0 : Int32).toInt = 0 ∧ (2 : Int32).toInt = 2 ∧ (9 : Int32).toInt = 9 ∧ (-2 : Int32).toInt = -2 ∧ (-1 : Int32).toInt = -1 := by decide
theorem X10_in29 (a : Int32) : fX10_in a.toInt64 2 9 = some (bI (decide ((2 : Int32) ≤ a) && decide (a ≤ (9 : Int32)))) := by
  rw [show (2 : Int64) = (2 : Int32).toInt64 by decide, show (9 : Int64) = (9 : Int32).toInt64 by decide, X10_in]
theorem X10_inm2 (a b : Int32) : fX10_in a.toInt64 (-2) b.toInt64 = some (bI (decide ((-2 : Int32) ≤ a) && decide (a ≤ b))) := by
  rw [show (-2 : Int64) = (-2 : Int32).toInt64 by decide, X10_in]
/-- the whole search, from a square that is there -/
theorem search_v {yset sp sg ypath ysides yhard trow brow : Nat → Int32} {ys sN yhs bsz tsz smany sfit shard : Int32} {sG sC tpl tst bpl bst : Int64} {kk many mi q : Nat} (hS : SN kk sG sC sN sp sg ys) (hy : yset 1 = nI mi) (hmi : mi < 36) (h2 : 2 ≤ many) (h9 : many ≤ 9) (hq : q < 36) :
    ∃ (row' : Nat → Int32) (sz' : Int32) (pl' st' : Int64) (brow' : Nat → Int32) (bsz' : Int32) (bpl' bst' : Int64) (fit' hc' : Int32) (path' sides' hd' : Nat → Int32) (hm' : Int32),
      fX4_run trow tsz tpl tst brow bsz bpl bst smany sfit shard (nI mi) sG sC (nI q) (nI many) = some (row', sz', pl', st', brow', bsz', bpl', bst', nI many, fit', hc') ∧
      fX10_findFits yset sp sg ys ypath ysides yhard yhs (nI q) (nI many) = some (fit', path', sides', hd', hm') ∧ HR many hc' hm' brow' bsz' hd' := by
  have hz : FW 0 (fun _ => 0) trow 0 0 0 := FW_z trow
  have hc : canAdd 0 (fun _ => 0) q := ⟨hq, fun i hi => absurd hi (by omega), Or.inl rfl⟩
  obtain ⟨m, rfl⟩ : ∃ m, many = m + 2 := ⟨many - 2, by omega⟩
  have hA := hz.add hc
  obtain ⟨row', pl', st', brow', bsz', bpl', bst', fit', hc', path', sides', hd', hm', C, a1, a2, a3, a4, a5, a6, a7⟩ := live_n (yset := yset) hS hy hmi h9 m 0 8 (by omega) (by omega) _ _ _ _ brow bsz bpl bst 0 (-4) (upd ypath 0 (nI q)) (upd ysides 0 (-1)) yhard (-1) hA (fun j hj => by
    have : j = 0 := by omega
    subst this
    rw [upd_s]; rfl) (Or.inl ⟨rfl, rfl⟩) (by rw [upd_s]; decide)
  refine ⟨row', nI (0 + 1), pl', st', brow', bsz', bpl', bst', fit', hc', path', sides', hd', hm', ?_, ?_, a3⟩
  · unfold fX4_run fX2_clear
    rw [o3, add_yes hz hc, o5, if_neg (show ¬ (1 : Int32) = 0 by decide)]
    rw [show (8 + 2 : Nat) = 10 from rfl, show nI (0 + 1) = (1 : Int32) from rfl] at a1
    rw [show nI (0 + 1) = (1 : Int32) from rfl, a1, o10]
  · have hC : C ≤ 109225 := Nat.le_trans a4 (fB_9 (m + 1) (by omega))
    have e7 := a7 (299999 - C + 1)
    rw [show 299999 - C + 1 + C = 300000 by omega] at e7
    unfold fX10_findFits
    rw [show (0 : Int32).toNatClampNeg = 0 from rfl]
    refine Eq.trans e7 ?_
    rw [fX10_findFits_24, if_pos (show nI 0 + (-1 : Int32) < 0 by decide)]
theorem step_fit : STEP_fit R1d := by
  intro ea cl ga sw mo mid dr sG sC sN sz pl st row smany sfit shard tsz tpl tst trow bsz bpl bst brow ysz yse yhs yr yea ysh yst yset ysp ysg ypath ysides yhard a0 a1 a2 hR
  obtain ⟨n, p, mo', mi, dr', kk, -, -, -, -, -, -, -, ⟨hmi, rfl, hy1⟩, -, hS⟩ := hR
  unfold fX9_fit fX10_fit
  rw [X3_isSquare, X10_isSquare, o1, o1]
  rcases ir_or a0 36 (by decide) with h | ⟨q, hq, rfl⟩
  · rw [h, if_pos (show bI false = 0 by decide), if_pos (show bI false = 0 by decide)]
    exact ⟨_, _, _, _, _, _, _, _, _, _, _, _, _, _, _, _, rfl, rfl⟩
  rw [ir_n hq (by decide), if_neg (show ¬ bI true = 0 by decide), if_neg (show ¬ bI true = 0 by decide), X10_in29, o1]
  obtain ⟨t0, t2, t9, tm2, tm1⟩ := i_toInt
  by_cases h2 : a1 < (2 : Int32)
  · have e : decide ((2 : Int32) ≤ a1) = false := decide_eq_false (by rw [Int32.not_le]; exact h2)
    rw [if_pos h2, e, Bool.false_and, if_pos (show bI false = 0 by decide)]
    exact ⟨_, _, _, _, _, _, _, _, _, _, _, _, _, _, _, _, rfl, rfl⟩
  have h2' : (2 : Int32) ≤ a1 := by rw [Int32.not_lt] at h2; exact h2
  rw [if_neg h2, decide_eq_true h2', Bool.true_and]
  by_cases h9 : (9 : Int32) < a1
  · have e : decide (a1 ≤ (9 : Int32)) = false := decide_eq_false (by rw [Int32.not_le]; exact h9)
    rw [if_pos h9, e, if_pos (show bI false = 0 by decide)]
    exact ⟨_, _, _, _, _, _, _, _, _, _, _, _, _, _, _, _, rfl, rfl⟩
  have h9' : a1 ≤ (9 : Int32) := by rw [Int32.not_lt] at h9; exact h9
  rw [if_neg h9, decide_eq_true h9', if_neg (show ¬ bI true = 0 by decide)]
  obtain ⟨many, hm2, hm9, rfl⟩ : ∃ many, 2 ≤ many ∧ many ≤ 9 ∧ a1 = nI many := by
    rw [Int32.le_iff_toInt_le] at h2' h9'
    obtain ⟨j, hj, rfl⟩ := nI_of (show ¬ a1 < 0 by rw [Int32.lt_iff_toInt_lt]; omega)
    rw [nI_toInt hj] at h2' h9'
    exact ⟨j, by omega, by omega, rfl⟩
  obtain ⟨mm, rfl⟩ : ∃ m, many = m + 1 := ⟨many - 1, by omega⟩
  rw [m1, X10_inm2, o1]
  by_cases g1 : a2 < (-2 : Int32)
  · have e : decide ((-2 : Int32) ≤ a2) = false := decide_eq_false (by rw [Int32.not_le]; exact g1)
    rw [if_pos g1, e, Bool.false_and, if_pos (show bI false = 0 by decide)]
    exact ⟨_, _, _, _, _, _, _, _, _, _, _, _, _, _, _, _, rfl, rfl⟩
  have g1' : (-2 : Int32) ≤ a2 := by rw [Int32.not_lt] at g1; exact g1
  rw [if_neg g1, decide_eq_true g1', Bool.true_and]
  by_cases g2 : a2 < nI (mm + 1)
  rotate_left
  · have e : decide (a2 ≤ nI mm) = false := decide_eq_false (fun z => g2 ((le_pred a2 mm (by omega)).mp z))
    rw [if_neg g2, e, if_pos (show bI false = 0 by decide)]
    exact ⟨_, _, _, _, _, _, _, _, _, _, _, _, _, _, _, _, rfl, rfl⟩
  rw [if_pos g2, decide_eq_true ((le_pred a2 mm (by omega)).mpr g2), if_neg (show ¬ bI true = 0 by decide)]
  obtain ⟨row', sz', pl', st', brow', bsz', bpl', bst', fit', hc', path', sides', hd', hm', e1, e2, e3⟩ := search_v (ypath := ypath) (ysides := ysides) (yhard := yhard) (trow := trow) (brow := brow) (yhs := yhs) (bsz := bsz) (tsz := tsz) (smany := smany) (sfit := sfit) (shard := shard) (tpl := tpl) (tst := tst) (bpl := bpl) (bst := bst) hS hy1 hmi hm2 hm9 hq
  rw [e1, e2, o11, o5]
  by_cases k1 : a2 = (-1 : Int32)
  · rw [if_pos k1, if_pos k1]
    exact ⟨_, _, _, _, _, _, _, _, _, _, _, _, _, _, _, _, rfl, rfl⟩
  rw [if_neg k1, if_neg k1]
  rcases e3 with ⟨c1, c2⟩ | ⟨h, h9, c1, c2, c3, c4⟩
  · rw [c1, c2, if_neg (show ¬ (0 : Int32) ≤ -4 by decide), if_neg (show ¬ (0 : Int32) ≤ -1 by decide)]
    exact ⟨_, _, _, _, _, _, _, _, _, _, _, _, _, _, _, _, rfl, rfl⟩
  rw [c1, c2, if_pos (nI_pos' (by omega)), if_pos (nI_pos' (by omega))]
  by_cases k2 : a2 = (-2 : Int32)
  · rw [if_pos k2, if_pos k2]
    exact ⟨_, _, _, _, _, _, _, _, _, _, _, _, _, _, _, _, rfl, rfl⟩
  rw [if_neg k2, if_neg k2]
  obtain ⟨t, ht, rfl⟩ : ∃ t, t < mm + 1 ∧ a2 = nI t := by
    have z1 : a2.toInt ≠ -1 := fun z => k1 (Int32.toInt_inj.mp (z.trans tm1.symm))
    have z2 : a2.toInt ≠ -2 := fun z => k2 (Int32.toInt_inj.mp (z.trans tm2.symm))
    rw [Int32.le_iff_toInt_le] at g1'
    obtain ⟨j, hj, rfl⟩ := nI_of (show ¬ a2 < 0 by rw [Int32.lt_iff_toInt_lt]; omega)
    exact ⟨j, (nI_ltI hj (by omega)).mp g2, rfl⟩
  unfold fX2_squareAt
  rw [if_neg (nI_pos (by omega)), c3, if_neg (nleF ht (by omega)), if_pos (inb_n (by omega) (by decide)), cl_n (by omega), o1, if_pos (inb_n (by omega) (by decide)), c4 t ht]
  exact ⟨_, _, _, _, _, _, _, _, _, _, _, _, _, _, _, _, rfl, rfl⟩
