-- WALKERS: one step of the class's and of the model's
theorem litT {c k : Nat} {C : Int32} (hC : nI c = C) (h : c ≤ k) (hk : k < 2 ^ 31) : C ≤ nI k := (lit_le C hC (by omega) hk).mpr h
theorem litF {c k : Nat} {C : Int32} (hC : nI c = C) (h : k < c) (hc : c < 2 ^ 31) : ¬ C ≤ nI k := fun z => by have := (lit_le C hC hc (by omega)).mp z; omega
theorem ltT {c k : Nat} {C : Int32} (hC : nI c = C) (h : k < c) (hc : c < 2 ^ 31) : nI k < C := (le_lit C hC hc (by omega)).mpr h
theorem ltF {c k : Nat} {C : Int32} (hC : nI c = C) (h : c ≤ k) (hk : k < 2 ^ 31) : ¬ nI k < C := fun z => by have := (le_lit C hC (by omega) hk).mp z; omega
theorem eqF {c k : Nat} {C : Int32} (hC : nI c = C) (h : k ≠ c) (hk : k < 2 ^ 31) (hc : c < 2 ^ 31) : ¬ nI k = C := fun z => h ((nI_eq hk hc).mp (z.trans hC.symm))
def pas (ga sw : Int64) (mo : Nat) (c : Bool) (q s : Nat) : Bool := decide (nx q s ≠ 36) && (c || !bL sw (nx q s)) && (bL ga (eb q s) || decide (mo < (if c = true then 7 else 3)))
theorem i_1 (b : Bool) : (bI b = 0) ↔ b = false := bI_0
theorem pas27 {ga : Int64} {mo q s : Nat} {c : Bool} (hmo : mo ≤ 9) (hq : q < 36) (hs : s < 4) (hn : nx q s ≠ 36) : fX1_isPassable_27 ga (nI mo) (bI c) (nI q) (nI s) = some (bI (bL ga (eb q s) || decide (mo < (if c = true then 7 else 3)))) := by
  unfold fX1_isPassable_27
  obtain ⟨e1, e2⟩ := edge_and (g := ga) hq hs
  rw [e1, o1]
  have hcs : fX1_cornStops (nI mo) (bI c) = some (bI (decide ¬ (mo < (if c = true then 7 else 3)))) := by
    unfold fX1_cornStops fX1_cornStops_14
    cases c with
    | true =>
      rw [if_neg (show ¬ bI true = 0 by decide), if_pos rfl]
      by_cases h : mo < 7
      · rw [if_pos (ltT (c := 7) (C := 7) rfl h (by decide))]; simp [h, bI]
      · rw [if_neg (ltF (c := 7) (C := 7) rfl (by omega) (by omega))]; simp [h, bI]
    | false =>
      rw [if_pos (show bI false = 0 by decide), if_neg (show ¬ false = true by decide)]
      by_cases h : mo < 3
      · rw [if_pos (ltT (c := 3) (C := 3) rfl h (by decide))]; simp [h, bI]
      · rw [if_neg (ltF (c := 3) (C := 3) rfl (by omega) (by omega))]; simp [h, bI]
  cases hb : bL ga (eb q s) with
  | true =>
    rw [if_neg (fun z => (e2.mp (lg0.mp z)) ⟨hn, hb⟩)]; rfl
  | false =>
    rw [if_pos (lg0.mpr (e2.mpr (fun z => by rw [hb] at z; cases z.2))), hcs, o1, Bool.false_or]
    by_cases h : mo < (if c = true then 7 else 3) <;> simp [h, bI]
theorem pas_c {ga sw : Int64} {mo q s : Nat} {c : Bool} (hmo : mo ≤ 9) (hq : q < 36) (hs : s < 4) : fX1_isPassable ga sw (nI mo) (bI c) (nI q) (nI s) = some (bI (pas ga sw mo c q s)) := by
  unfold fX1_isPassable pas
  rw [tb_next q hq s hs, o1]
  by_cases hn : nx q s = 36
  · rw [if_pos hn, if_pos (by decide)]; simp [hn, bI]
  · have hle := tb_n1 q hq s hs
    rw [if_neg hn, if_neg (nI_pos (by omega)), pas27 hmo hq hs hn, straw_v (by omega), o1]
    cases c with
    | true => rw [if_neg (show ¬ bI true = 0 by decide)]; simp [hn]
    | false =>
      rw [if_pos (show bI false = 0 by decide)]
      cases hb : bL sw (nx q s) with
      | true => rw [if_neg (show ¬ bI true = 0 by decide)]; simp [bI]
      | false => rw [if_pos (show bI false = 0 by decide)]; simp [hn]
section Pas
variable {n : Nat} {p : Nat → Nat} {row yrow : Nat → Int32} {size : Int32} {pl st : Int64} {eaten closed gaps sw : Int64} {yea ysh yst yset : Nat → Int32} {mo : Nat}
theorem pas_m (h : FW n p row size pl st) (hyr : ∀ i, i < n → yrow i = nI (p i)) (hE : MK eaten yea) (hC : MK closed ysh) (hG : GP n p st eaten closed gaps) (hS : MS36 sw yst) (hm : yset 0 = nI mo) (hmo : mo ≤ 9) {κ q s : Nat} (hκ : κ < 4) (hq : q < 36) (hs : s < 4) :
    fX10_isPassable yrow (nI n) yea ysh yst yset (nI κ) (nI q) (nI s) = some (bI (pas gaps sw mo (decide (κ = 3)) q s)) := by
  unfold fX10_isPassable
  rw [tb_nextTo q hq s hs, o1]
  by_cases hn : nx q s = 36
  · rw [if_pos hn, if_pos (by decide)]; simp [pas, hn, bI]
  have hle := tb_n1 q hq s hs
  have h3 : nI κ = 3 ↔ κ = 3 := nI_eq (b := 3) (by omega) (by decide)
  have h30 : fX10_isPassable_30 yrow (nI n) yea ysh yset (nI κ) (nI q) (nI s) = some (bI (bL gaps (eb q s) || decide (mo < (if decide (κ = 3) = true then 7 else 3)))) := by
    unfold fX10_isPassable_30 fX10_isPassable_56
    rw [gap_v h hyr hE hC hG hq hs hn, o1, show (0 : Int32).toNatClampNeg = 0 from rfl, hm]
    cases bL gaps (eb q s) with
    | true => rw [if_neg (show ¬ bI true = 0 by decide)]; rfl
    | false =>
      rw [if_pos (show bI false = 0 by decide), Bool.false_or]
      by_cases h4 : κ = 3
      · rw [if_pos (h3.mpr h4), decide_eq_true h4, if_pos rfl]
        by_cases h5 : mo < 7
        · rw [if_neg (litF (c := 7) (C := 7) rfl h5 (by decide)), decide_eq_true h5]; rfl
        · rw [if_pos (litT (c := 7) (C := 7) rfl (by omega) (by omega)), decide_eq_false h5]; rfl
      · rw [if_neg (fun z => h4 (h3.mp z)), decide_eq_false h4, if_neg (show ¬ false = true by decide)]
        by_cases h5 : mo < 3
        · rw [if_neg (litF (c := 3) (C := 3) rfl h5 (by decide)), decide_eq_true h5]; rfl
        · rw [if_pos (litT (c := 3) (C := 3) rfl (by omega) (by omega)), decide_eq_false h5]; rfl
  rw [if_neg hn, if_neg (nI_pos (by omega)), h30]
  unfold pas
  rw [decide_eq_true (show nx q s ≠ 36 from hn), Bool.true_and]
  by_cases h4 : κ = 3
  · rw [if_pos (h3.mpr h4), decide_eq_true h4, Bool.true_or, Bool.true_and]
  · rw [if_neg (fun z => h4 (h3.mp z)), decide_eq_false h4, Bool.false_or, if_pos (inb_n (by omega) (by decide)), cl_n (by omega), hS.1 _ (by omega)]
    cases bL sw (nx q s) with
    | true => rw [if_pos (by decide)]; rfl
    | false => rw [if_neg (by decide), Bool.not_false, Bool.true_and]
end Pas
def rt (s : Nat) : Nat := if s = 0 then 2 else if s = 2 then 3 else if s = 3 then 1 else 0
def tu (f t : Nat) : Nat := if t = 0 then 3 - rt f else if t = 1 then f else if t = 2 then rt f else 3 - f
theorem tb_rt : ∀ f, f < 4 → ∀ t, t < 4 → fX3_rightOf (nI (tu f t)) = some (nI (tu f ((t + 1) % 4))) ∧ tu f t < 4 := by decide +kernel
theorem tb_lf : ∀ f, f < 4 → fX3_leftOf (nI f) = some (nI (tu f 0)) := by decide +kernel
theorem tb_tu : ∀ f, f < 4 → ∀ t, t < 4 → fX10_turned (nI f) (nI t) = some (nI (tu f t)) := by decide +kernel
theorem tb_m4 : ∀ t, t < 5 → nI t - nI t / (4 : Int32) * (4 : Int32) = nI (t % 4) := by decide +kernel
theorem tb_next4 : ∀ q, q < 36 → fX3_next (nI q) (-4) = some (-4) := by decide +kernel
theorem sf121 (K : Int32 → Int32 → Int32 → Int32 → Int32 → Int32 → Option Int32) (x1 x2 x3 x4 x5 x6 x7 s0 : Int32) : fX10_sideFor_121 K x1 x2 x3 x4 x5 x6 x7 s0 = if x4 < 0 then K x1 x2 x3 x7 s0 (x6 + 1) else if x5 ≤ s0 then K x1 x2 x3 x4 x5 (x6 + 1) else K x1 x2 x3 x7 s0 (x6 + 1) := by
  unfold fX10_sideFor_121 fX10_sideFor_135 fX10_sideFor_140 fX10_sideFor_154 fX10_sideFor_168 fX10_sideFor_170
  by_cases h1 : x4 < 0
  · rw [if_pos h1, if_pos h1, if_neg (by decide), if_neg (by decide)]
  · rw [if_neg h1, if_neg h1]
    by_cases h2 : x5 ≤ s0
    · rw [if_pos h2, if_pos h2, if_pos rfl, if_pos rfl]
    · rw [if_neg h2, if_neg h2, if_neg (by decide), if_neg (by decide)]
section Cho
variable {mk : Nat → Int32} {ga sw : Int64} {mo κ q : Nat}
theorem cs_no (K : Int32 → Int32 → Int32 → Option Int32) (X : Int32) {t a : Nat} (hmo : mo ≤ 9) (hq : q < 36) (ha : a < 4) {R : Int32} (hR : fX3_rightOf (nI a) = some R) (c : Bool) (hp : pas ga sw mo c q a = false) :
    fX7_chosenSide_48 K mk (nI κ) (nI q) ga sw (nI mo) (nI a) X (nI t) (bI c) = K R X (nI (t + 1)) := by
  unfold fX7_chosenSide_48 fX7_chosenSide_74
  rw [pas_c hmo hq ha, o1, hp, if_pos (by decide), hR, o1, nI_1]
theorem cs_first (K : Int32 → Int32 → Int32 → Option Int32) {t a : Nat} (hmo : mo ≤ 9) (hq : q < 36) (ha : a < 4) {R : Int32} (hR : fX3_rightOf (nI a) = some R) (c : Bool) (hp : pas ga sw mo c q a = true) :
    fX7_chosenSide_48 K mk (nI κ) (nI q) ga sw (nI mo) (nI a) (-4) (nI t) (bI c) = K R (nI a) (nI (t + 1)) := by
  unfold fX7_chosenSide_48 fX7_chosenSide_72 fX7_chosenSide_74
  rw [pas_c hmo hq ha, o1, hp, if_neg (by decide), if_pos (show (-4 : Int32) < 0 by decide), hR, o1, nI_1]
theorem mk_at {a : Nat} (hq : q < 36) (ha : a < 4) (hn : nx q a ≠ 36) : fX7_marksAt mk (nI q) (nI a) = some (mk (nx q a)) := by
  have hle := tb_n1 q hq a ha
  unfold fX7_marksAt
  rw [tb_next q hq a ha, o1, if_neg hn, if_pos (nI_pos' (by omega)), if_pos (inb_n (by omega) (by decide)), cl_n (by omega)]
theorem pas_nx {c : Bool} {a : Nat} (hp : pas ga sw mo c q a = true) : nx q a ≠ 36 := by
  unfold pas at hp
  simp only [Bool.and_eq_true, decide_eq_true_eq] at hp
  exact hp.1.1
theorem cs_more (K : Int32 → Int32 → Int32 → Option Int32) {t a s : Nat} (hκ : κ < 4) (hmo : mo ≤ 9) (hq : q < 36) (ha : a < 4) (hs : s < 4) {R : Int32} (hR : fX3_rightOf (nI a) = some R) (c : Bool) (hp : pas ga sw mo c q a = true) (hp2 : pas ga sw mo c q s = true) :
    fX7_chosenSide_48 K mk (nI κ) (nI q) ga sw (nI mo) (nI a) (nI s) (nI t) (bI c) = K R (if 2 ≤ κ ∧ ¬ mk (nx q s) ≤ mk (nx q a) then nI a else nI s) (nI (t + 1)) := by
  unfold fX7_chosenSide_48 fX7_chosenSide_72 fX7_chosenSide_74
  rw [pas_c hmo hq ha, o1, hp, if_neg (show ¬ bI true = 0 by decide), if_neg (nI_pos (by omega)), hR, o1, o1, nI_1]
  unfold fX7_isBetter
  by_cases h2 : κ < 2
  · rw [if_pos (ltT (c := 2) (C := 2) rfl h2 (by decide)), o1, if_pos rfl, if_neg (fun z => by omega)]
  · rw [if_neg (ltF (c := 2) (C := 2) rfl (by omega) (by omega)), mk_at hq ha (pas_nx hp), o1, mk_at hq hs (pas_nx hp2), o1]
    by_cases h3 : mk (nx q s) ≤ mk (nx q a)
    · rw [if_pos h3, o1, if_pos rfl, if_neg (fun z => z.2 h3)]
    · rw [if_neg h3, o1, if_neg (by decide), if_pos ⟨by omega, h3⟩]
end Cho
