-- STEPS of told, shut, set
def sd (g : Int64) (q : Nat) : Nat → Int32
  | 0 => 0
  | s + 1 => if nx q s ≠ 36 ∧ bL g (eb q s) = true then sd g q s ||| (1 <<< (nI s &&& 31)) else sd g q s
theorem edge_and {g : Int64} {q s : Nat} (hq : q < 36) (hs : s < 4) : fX3_edge (nI q) (nI s) = some (if nx q s = 36 then 0 else eL (eb q s)) ∧ ((g &&& (if nx q s = 36 then 0 else eL (eb q s))) = 0 ↔ ¬ (nx q s ≠ 36 ∧ bL g (eb q s) = true)) := by
  refine ⟨tb_edge q hq s hs, ?_⟩
  by_cases h : nx q s = 36
  · simp [h]
  · have := tb_n2 q hq s hs h
    rw [if_neg h, and_e (by omega)]
    simp [h]
theorem edge_0 {q s : Nat} (hq : q < 36) (hs : s < 4) : (if nx q s = 36 then (0 : Int64) else eL (eb q s)) = 0 ↔ nx q s = 36 := by
  by_cases h : nx q s = 36
  · simp [h]
  · have := tb_n2 q hq s hs h
    rw [if_neg h]
    simp only [h, iff_false]
    intro z
    have h1 := congrArg (fun x => bL x (eb q s)) z
    simp only [bL_e, bL_0] at h1
    simp [show eb q s < 64 by omega] at h1
theorem sides_c (g : Int64) {q : Nat} (hq : q < 36) : ∀ (N s : Nat), s ≤ 4 → 5 ≤ s + N → fX1_gapSides_4 g N (nI q) (sd g q s) (nI s) = some (sd g q 4)
  | 0, s, h1, h2 => absurd h2 (by omega)
  | N + 1, s, h1, h2 => by
    rw [fX1_gapSides_4]
    by_cases z : s = 4
    · subst z; rw [if_pos (show (4 : Int32) ≤ nI 4 by decide)]
    · obtain ⟨e1, e2⟩ := edge_and (g := g) hq (show s < 4 by omega)
      have ih := sides_c g hq N (s + 1) (by omega) (by omega)
      rw [if_neg (show ¬ (4 : Int32) ≤ nI s from fun y => by have := (nle 4 s (by decide) (by omega)).mp y; omega), e1]
      simp only [ob1, lets, fX1_gapSides_30, nI_1]
      by_cases c : nx q s ≠ 36 ∧ bL g (eb q s) = true
      · rw [if_neg (fun y => (e2.mp (lg0.mp y)) c)]
        rw [sd, if_pos c] at ih
        exact ih
      · rw [if_pos (lg0.mpr (e2.mpr c))]
        rw [sd, if_neg c] at ih
        exact ih
section Told
variable {n : Nat} {p : Nat → Nat} {row yrow : Nat → Int32} {size : Int32} {pl st : Int64} {eaten closed gaps : Int64} {yea ysh : Nat → Int32}
theorem sides_m (yst : Nat → Int32) (x2 : Int32) (h : FW n p row size pl st) (hyr : ∀ i, i < n → yrow i = nI (p i)) (hE : MK eaten yea) (hC : MK closed ysh) (hG : GP n p st eaten closed gaps) {q : Nat} (hq : q < 36) :
    ∀ (N s : Nat), s ≤ 4 → 5 ≤ s + N → fX10_told_26 yrow (nI n) yea ysh yst N (nI q) x2 (sd gaps q s) (nI s) = (if x2 = 0 then ob1 (fX10_placeOf yrow (nI n) (nI q)) fun r1 => some r1 else if x2 = 1 then some (sd gaps q 4) else some (yst q))
  | 0, s, h1, h2 => absurd h2 (by omega)
  | N + 1, s, h1, h2 => by
    rw [fX10_told_26]
    by_cases z : s = 4
    · subst z; rw [if_pos (show (4 : Int32) ≤ nI 4 by decide), if_pos (inb_n hq (by decide)), cl_n (by omega)]
    · have ih := sides_m yst x2 h hyr hE hC hG hq N (s + 1) (by omega) (by omega)
      rw [if_neg (show ¬ (4 : Int32) ≤ nI s from fun y => by have := (nle 4 s (by decide) (by omega)).mp y; omega), tb_nextTo q hq s (by omega)]
      simp only [ob1, lets, fX10_told_59, fX10_told_60, nI_1]
      by_cases c1 : nx q s = 36
      · rw [if_pos c1, if_pos (by decide), Int32.or_zero]
        rw [sd, if_neg (fun y => y.1 c1)] at ih
        exact ih
      · rw [if_neg c1, if_neg (nI_pos (by have := tb_n1 q hq s (by omega); omega)), gap_v h hyr hE hC hG hq (show s < 4 by omega) c1]
        simp only
        cases c2 : bL gaps (eb q s) with
        | true =>
          rw [if_neg (show ¬ bI true = 0 by decide)]
          rw [sd, if_pos ⟨c1, c2⟩] at ih
          exact ih
        | false =>
          rw [if_pos (show bI false = 0 by decide), Int32.or_zero]
          rw [sd, if_neg (fun y => by rw [c2] at y; exact absurd y.2 (by decide))] at ih
          exact ih
end Told
set_option maxHeartbeats 1000000 in
theorem step_told : STEP_told R1d := by
  intro ea cl ga sw mo mi dr sG sC sN sz pl st row ys yse yrow yea ysh yst yset ysp ysg a0 a1 ⟨n, p, mo', mi', dr', k, hF, ⟨hys, hyr⟩, ⟨hE, _⟩, hC, hG, hS, hrest⟩
  rcases ir_or a0 36 (by decide) with ha | ⟨q, hq, rfl⟩
  · simp only [fX9_told, fX10_told, X3_isSquare, X10_isSquare, ha, bI_f, ob1, if_true]
    exact ⟨_, rfl, rfl⟩
  subst hys
  have h2 := hF.1
  have hm := sides_m yst a1 hF hyr hE hC hG hq 4000 0 (by decide) (by decide)
  have hc := sides_c ga hq 4000 0 (by decide) (by decide)
  simp only [fX9_told, fX10_told, X3_isSquare, X10_isSquare, ir_n hq (by decide : 36 < 2 ^ 31), bI_t, ob1, i10, if_false, X10_in2, straw_v (show q < 64 by omega)]
  have hm' : fX10_told_26 yrow (nI n) yea ysh yst 4000 (nI q) a1 0 0 = _ := hm
  have hc' : fX1_gapSides_4 ga 4000 (nI q) 0 0 = _ := hc
  rcases ir_or a1 3 (by decide) with ha | ⟨t, ht, rfl⟩
  · have n0 : ¬ a1 = 0 := fun z => by subst z; exact absurd ha (by decide)
    have n1 : ¬ a1 = 1 := fun z => by subst z; exact absurd ha (by decide)
    have n2 : ¬ a1 = 2 := fun z => by subst z; exact absurd ha (by decide)
    simp only [ha, bI_f, n0, n1, n2, if_true, if_false]
    exact ⟨_, rfl, rfl⟩
  rw [ir_n ht (by decide), hm']
  simp only [bI_t, i10, if_false]
  rcases (show t = 0 ∨ t = 1 ∨ t = 2 by omega) with rfl | rfl | rfl
  · rw [if_pos (show nI 0 = 0 from rfl), if_pos (show nI 0 = 0 from rfl)]
    rcases place_v hF rfl hyr hq with ⟨i, hi, e, e1, e2⟩ | ⟨hn, e1, e2⟩
    · rw [e1, e2]; exact ⟨_, rfl, rfl⟩
    · rw [e1, e2]; exact ⟨_, rfl, rfl⟩
  · rw [if_neg (show ¬ nI 1 = 0 by decide), if_neg (show ¬ nI 1 = 0 by decide), if_pos (show nI 1 = 1 from rfl), if_pos (show nI 1 = 1 from rfl)]
    unfold fX1_gapSides
    rw [hc']
    exact ⟨_, rfl, rfl⟩
  · rw [if_neg (show ¬ nI 2 = 0 by decide), if_neg (show ¬ nI 2 = 0 by decide), if_neg (show ¬ nI 2 = 1 by decide), if_neg (show ¬ nI 2 = 1 by decide), if_pos (show nI 2 = 2 from rfl), hS.1 q hq]
    cases bL sw q <;> exact ⟨_, rfl, rfl⟩
theorem MK.s1 {m : Int64} {arr : Nat → Int32} (h : MK m arr) {pr : Nat} (h1 : pr < 72) (h2 : vpr pr = true) : MK (m ||| eL (pb pr)) (upd arr pr 1) := by
  have h3 := (tb_vp pr h1 h2).1
  refine ⟨fun x hx => ?_, fun e he => ?_⟩
  · rw [bL_or, bL_e]
    by_cases z : x = pr
    · subst z; rw [upd_s]; simp [h2, show pb x < 64 by omega, bI]
    · rw [upd_n _ _ z, h.1 x hx]
      by_cases hv : vpr x = true
      · have : ¬ pb x = pb pr := fun y => z (tb_pb x hx pr h1 hv h2 y)
        simp [this]
      · simp [hv]
  · rw [bL_or, h.2 e he, bL_e]
    have : ¬ e = pb pr := by omega
    simp [this]
theorem MK.s0 {m : Int64} {arr : Nat → Int32} (h : MK m arr) {pr : Nat} (h1 : pr < 72) (h2 : vpr pr = true) : MK (m &&& (eL (pb pr) ^^^ (-1))) (upd arr pr 0) := by
  have h3 := (tb_vp pr h1 h2).1
  refine ⟨fun x hx => ?_, fun e he => ?_⟩
  · by_cases z : x = pr
    · subst z; rw [upd_s, bL_and, bL_not _ (by omega), bL_e]; simp [h2, show pb x < 64 by omega, bI]
    · rw [upd_n _ _ z, h.1 x hx]
      by_cases hv : vpr x = true
      · have hx3 := (tb_vp x hx hv).1
        have : ¬ pb x = pb pr := fun y => z (tb_pb x hx pr h1 hv h2 y)
        rw [bL_and, bL_not _ (by omega), bL_e]
        simp [this]
      · simp [hv]
  · rw [bL_and, h.2 e he]; rfl
theorem shut_m {q s : Nat} (ysh : Nat → Int32) (hq : q < 36) (hs : s < 4) (a2 : Int32) (h : nx q s ≠ 36) : fX10_shut ysh (nI q) (nI s) a2 = some (ysh (prN q s), upd ysh (prN q s) (if a2 = 0 then 0 else 1)) := by
  obtain ⟨t1, t2, t3, t4⟩ := tb_n2 q hq s hs h
  have hn := tb_n1 q hq s hs
  have e3 : ∀ v w, fX10_shut_51 ysh v (nI (prN q s)) w = some (v, upd ysh (prN q s) w) := fun v w => by
    unfold fX10_shut_51
    rw [if_pos (inb_n t3 (by decide)), cl_n (by omega)]
  unfold fX10_shut
  rw [X10_isSide, ir_n hq (by decide), ir_n hs (by decide), tb_nextTo q hq s hs, if_neg h, tb_pair q hq s hs h]
  simp only [Bool.and_true, ob1, bI_t, i10, if_false, nI_0le (nx q s) (by omega), if_true, inb_n t3 (by decide : 72 < 2 ^ 31), cl_n (show prN q s < 2 ^ 31 by omega), lets, e3]
  by_cases z : a2 = 0 <;> simp [z]
/-- an edge's bit, opaque: what is asked of it -/
theorem edge_E {q s : Nat} (hq : q < 36) (hs : s < 4) (h : nx q s ≠ 36) : ∃ E : Int64, E = eL (eb q s) ∧ fX3_edge (nI q) (nI s) = some E ∧ (¬ lg_cmp E 0 = 0) ∧ ∀ g : Int64, lg_cmp (g &&& E) 0 = 0 ↔ bL g (eb q s) = false := by
  have t := (tb_n2 q hq s hs h).1
  refine ⟨_, rfl, ?_, fun z => ?_, fun g => ?_⟩
  · rw [tb_edge q hq s hs, if_neg h]
  · have h1 := congrArg (fun x => bL x (eb q s)) (lg0.mp z)
    simp only [bL_e, bL_0] at h1
    simp [show eb q s < 64 by omega] at h1
  · rw [lg0, and_e (by omega)]
theorem edge_N {q s : Nat} (hq : q < 36) (hs : s < 4) (h : nx q s = 36) : fX3_edge (nI q) (nI s) = some 0 := by rw [tb_edge q hq s hs, if_pos h]
theorem shut_c {q s : Nat} (row : Nat → Int32) (sz : Int32) (st ea cl ga : Int64) (hq : q < 36) (hs : s < 4) (a2 : Int32) (h : nx q s ≠ 36) : fX9_shut row sz st ea cl ga (nI q) (nI s) a2 = ob1 (fX1_refresh row sz st ea (if a2 = 0 then cl &&& (eL (eb q s) ^^^ (-1)) else cl ||| eL (eb q s)) ga) fun g => some (bI (bL cl (eb q s)), if a2 = 0 then cl &&& (eL (eb q s) ^^^ (-1)) else cl ||| eL (eb q s), g) := by
  obtain ⟨E, hE, e1, e0, e2⟩ := edge_E hq hs h
  have e3 := e2 cl
  rw [← hE]
  unfold fX9_shut
  rw [X3_isSquare, X3_isSide, ir_n hq (by decide), ir_n hs (by decide), e1]
  rw [bI_t]
  simp only [ob1]
  rw [if_neg (show ¬ (1 : Int32) = 0 by decide), if_neg (show ¬ (1 : Int32) = 0 by decide), if_neg e0]
  unfold fX9_shut_53 fX9_shut_90
  cases c2 : bL cl (eb q s) with
  | true =>
    rw [if_neg (fun z => by have := e3.mp z; rw [c2] at this; cases this)]
    by_cases z : a2 = 0 <;> simp only [z, if_true, if_false, bI_t, ob1]
  | false =>
    rw [if_pos (e3.mpr c2)]
    by_cases z : a2 = 0 <;> simp only [z, if_true, if_false, bI_f, ob1]
set_option maxHeartbeats 1000000 in
theorem step_shut : STEP_shut R1d := by
  intro ea cl ga sw mo mi dr sG sC sN sz pl st row ys yse yrow yea ysh yst yset ysp ysg a0 a1 a2 _ ⟨n, p, mo', mi', dr', k, hF, hy, hE, hC, hG, hS, hrest⟩
  rcases ir_or a0 36 (by decide) with ha | ⟨q, hq, rfl⟩
  · simp only [fX9_shut, fX10_shut, X3_isSquare, X10_isSide, ha, bI_f, ob1, if_true, Bool.false_and]
    exact ⟨_, _, _, _, rfl, rfl, n, p, mo', mi', dr', k, hF, hy, hE, hC, hG, hS, hrest⟩
  rcases ir_or a1 4 (by decide) with ha | ⟨s, hs, rfl⟩
  · simp only [fX9_shut, fX10_shut, X3_isSquare, X3_isSide, X10_isSide, ir_n hq (by decide : 36 < 2 ^ 31), ha, bI_f, bI_t, ob1, if_true, Bool.and_false, i10, if_false]
    exact ⟨_, _, _, _, rfl, rfl, n, p, mo', mi', dr', k, hF, hy, hE, hC, hG, hS, hrest⟩
  by_cases c1 : nx q s = 36
  · have ec : fX9_shut row sz st ea cl ga (nI q) (nI s) a2 = some (-2, cl, ga) := by
      unfold fX9_shut
      rw [X3_isSquare, X3_isSide, ir_n hq (by decide), ir_n hs (by decide), edge_N hq hs c1]
      rfl
    have em : fX10_shut ysh (nI q) (nI s) a2 = some (-2, ysh) := by
      unfold fX10_shut
      rw [X10_isSide, ir_n hq (by decide), ir_n hs (by decide), tb_nextTo q hq s hs, if_pos c1]
      rfl
    exact ⟨_, _, _, _, ec, em, n, p, mo', mi', dr', k, hF, hy, hE, hC, hG, hS, hrest⟩
  · obtain ⟨t1, t2, t3, t4⟩ := tb_n2 q hq s hs c1
    have s1 := hC.s1 t3 t4
    have s0 := hC.s0 t3 t4
    rw [t2] at s1 s0
    have em := shut_m ysh hq hs a2 c1
    rw [hC.1 _ t3, t4, t2, Bool.true_and] at em
    by_cases z : a2 = 0
    · obtain ⟨g0, f0, hG0⟩ := refresh_v hF ea (cl &&& (eL (eb q s) ^^^ (-1))) ga
      have ec := shut_c row sz st ea cl ga hq hs a2 c1
      rw [if_pos z, f0] at ec
      rw [if_pos z] at em
      exact ⟨_, _, _, _, ec, em, n, p, mo', mi', dr', k, hF, hy, hE, s0, hG0, hS, hrest⟩
    · obtain ⟨g1, f1, hG1⟩ := refresh_v hF ea (cl ||| eL (eb q s)) ga
      have ec := shut_c row sz st ea cl ga hq hs a2 c1
      rw [if_neg z, f1] at ec
      rw [if_neg z] at em
      exact ⟨_, _, _, _, ec, em, n, p, mo', mi', dr', k, hF, hy, hE, s1, hG1, hS, hrest⟩
