-- STEPS of deer and count
def cB (b : Nat → Bool) (k : Nat) : Nat := (List.range k).countP b
theorem cB_s (b : Nat → Bool) (k : Nat) : cB b (k + 1) = cB b k + (if b k = true then 1 else 0) := by
  unfold cB
  rw [List.range_succ, List.countP_append]
  congr 1
  by_cases h : b k = true <;> simp [h]
theorem cB_le (b : Nat → Bool) (k : Nat) : cB b k ≤ k := by
  have := List.countP_le_length (p := b) (l := List.range k)
  unfold cB
  rw [List.length_range] at this
  exact this
theorem cB_c {b c : Nat → Bool} {k : Nat} (h : ∀ i, i < k → b i = c i) : cB b k = cB c k := List.countP_congr fun x hx => by rw [h x (List.mem_range.mp hx)]
theorem cB_or {f : Nat → Bool} {e : Nat} (he : f e = false) : ∀ N, cB (fun x => f x || decide (x = e)) N = cB f N + (if e < N then 1 else 0)
  | 0 => rfl
  | N + 1 => by
    rw [cB_s, cB_s, cB_or he N]
    by_cases h1 : N = e
    · subst h1
      simp [he]
    · by_cases h2 : e < N
      · have h3 : e < N + 1 := by omega
        simp [h1, h2, h3]; omega
      · have h3 : ¬ e < N + 1 := by omega
        simp [h1, h2, h3]
theorem bI_add (c : Nat) (b : Bool) : nI c + bI b = nI (c + (if b = true then 1 else 0)) := by
  cases b
  · show nI c + nI 0 = _
    rw [nI_add]; rfl
  · show nI c + nI 1 = _
    rw [nI_add]; rfl
theorem sum_l {N : Nat} {arr : Nat → Int32} {b : Nat → Bool} (hN : N < 1000) (h : ∀ i, i < N → arr i = bI (b i)) : ∀ F k : Nat, k ≤ N → N + 1 ≤ k + F → fX10_sumOf_4 N arr F (nI (cB b k)) (nI k) = some (nI (cB b N))
  | 0, k, h1, h2 => absurd h2 (by omega)
  | F + 1, k, h1, h2 => by
    rw [fX10_sumOf_4]
    by_cases z : k = N
    · subst z
      rw [if_pos (show Int32.ofNat k ≤ nI k from (nle k k (by omega) (by omega)).mpr (Nat.le_refl _))]
    · rw [if_neg (show ¬ Int32.ofNat N ≤ nI k from fun y => by have := (nle N k (by omega) (by omega)).mp y; omega), if_pos (inb_n (by omega) (by omega)), cl_n (by omega), h k (by omega), lets_eq, bI_add, nI_1, ← cB_s]
      exact sum_l hN h F (k + 1) (by omega) (by omega)
theorem sum_v {N : Nat} {arr : Nat → Int32} {b : Nat → Bool} (hN : N < 1000) (h : ∀ i, i < N → arr i = bI (b i)) : fX10_sumOf N arr = some (nI (cB b N)) := sum_l hN h 4000 0 (Nat.zero_le _) (by omega)
theorem perm60 : (((List.range 72).filter vpr).map pb).Perm (List.range 60) := by decide +kernel
theorem cN_72 (m : Int64) : cB (fun p => vpr p && bL m (pb p)) 72 = cN m := by
  unfold cN cB
  rw [← perm60.countP_eq, List.countP_map, List.countP_filter]
  apply List.countP_congr
  intro x _
  simp only [Function.comp_apply]
  rw [Bool.and_comm]
theorem cN_64 (m : Int64) (h : ∀ e, 60 ≤ e → e < 64 → bL m e = false) : (List.range 64).countP (fun e => bL m e) = cN m := by
  show cB (fun e => bL m e) 64 = cB (fun e => bL m e) 60
  rw [cB_s, cB_s, cB_s, cB_s, h 60 (by decide) (by decide), h 61 (by decide) (by decide), h 62 (by decide) (by decide), h 63 (by decide) (by decide)]
  simp
theorem MK.sum {m : Int64} {arr : Nat → Int32} (h : MK m arr) : fX10_sumOf 72 arr = some (nI (cN m)) ∧ fJ13_bitCount_95d88 m = some (nI (cN m)) := by
  refine ⟨?_, ?_⟩
  · rw [sum_v (by decide) h.1, cN_72]
  · rw [bitCount_v, cN_64 m fun e h1 _ => h.2 e h1]
theorem cN_le (m : Int64) : cN m ≤ 60 := cB_le _ 60
theorem MK.cnt {m : Int64} {arr : Nat → Int32} (h : MK m arr) {pr : Nat} (h1 : pr < 72) (h2 : vpr pr = true) (h3 : bL m (pb pr) = false) : cN (m ||| eL (pb pr)) = cN m + 1 := by
  have h4 := (tb_vp pr h1 h2).1
  have := cB_or (f := fun e => bL m e) (e := pb pr) h3 60
  rw [if_pos h4] at this
  show cB _ 60 = cB _ 60 + 1
  rw [← this]
  refine cB_c fun i hi => ?_
  rw [bL_or, bL_e]
  congr 1
  exact decide_eq_decide.mpr ⟨fun h => h.1, fun h => ⟨h, by omega⟩⟩
theorem deer_c {q s : Nat} (row : Nat → Int32) (sz : Int32) (st ea cl ga : Int64) (yea : Nat → Int32) (hE : MK ea yea) (hq : q < 36) (hs : s < 4) (h : nx q s ≠ 36) :
    fX9_deer row sz st ea cl ga (nI q) (nI s) = (if bL ea (eb q s) = true then some (-2, ea, ga) else if cN ea < 10 then ob1 (fX1_refresh row sz st (ea ||| eL (eb q s)) cl ga) fun g => some (nI (cN ea + 1), ea ||| eL (eb q s), g) else some (-3, ea, ga)) := by
  obtain ⟨t1, t2, t3, t4⟩ := tb_n2 q hq s hs h
  obtain ⟨E, hE', e1, e0, e2⟩ := edge_E hq hs h
  have e3 := e2 ea
  have hc := cN_le ea
  rw [fX9_deer, X3_isSquare, X3_isSide, ir_n hq (by decide), ir_n hs (by decide), e1, o1, if_neg (show ¬ bI true = 0 by decide), o1, if_neg (show ¬ bI true = 0 by decide), o1, if_neg e0]
  cases c2 : bL ea (eb q s) with
  | true => rw [if_neg (fun z => by have := e3.mp z; rw [c2] at this; cases this), if_pos rfl]
  | false =>
    rw [if_pos (e3.mpr c2), hE.sum.2, o1, if_neg (show ¬ false = true by decide)]
    by_cases z : cN ea < 10
    · rw [if_pos (show nI (cN ea) < (10 : Int32) from (nlt _ 10 (by omega) (by decide)).mpr z), if_pos z, lets_eq]
      have s1 := hE.s1 t3 t4
      have c3 := hE.cnt t3 t4 (by rw [t2]; exact c2)
      rw [t2] at s1 c3
      rw [← hE'] at s1 c3 ⊢
      rw [s1.sum.2, c3]
      congr 1
    · rw [if_neg (show ¬ nI (cN ea) < (10 : Int32) from fun y => z ((nlt _ 10 (by omega) (by decide)).mp y)), if_neg z]
theorem deer_m {q s : Nat} (ea : Int64) (yea : Nat → Int32) (hE : MK ea yea) (h10 : cN ea ≤ 10) (hq : q < 36) (hs : s < 4) (h : nx q s ≠ 36) :
    fX10_deer yea (nI q) (nI s) = (if bL ea (eb q s) = true then some (-2, yea) else if cN ea < 10 then some (nI (cN ea + 1), upd yea (prN q s) 1) else some (-3, yea)) := by
  obtain ⟨t1, t2, t3, t4⟩ := tb_n2 q hq s hs h
  have hn := tb_n1 q hq s hs
  rw [fX10_deer, X10_isSide, ir_n hq (by decide), ir_n hs (by decide), Bool.and_true, o1, if_neg (show ¬ bI true = 0 by decide), tb_nextTo q hq s hs, if_neg h, o1, if_neg (nI_pos (by omega)), tb_pair q hq s hs h, o1, if_pos (inb_n t3 (by decide)), cl_n (by omega), hE.1 _ t3, t4, t2, Bool.true_and]
  cases c2 : bL ea (eb q s) with
  | true => rw [if_pos (show bI true = 1 by decide), if_pos rfl]
  | false =>
    rw [if_neg (show ¬ bI false = 1 by decide), if_neg (show ¬ false = true by decide), hE.sum.1, o1]
    by_cases z : cN ea < 10
    · have s1 := hE.s1 t3 t4
      have c3 := hE.cnt t3 t4 (by rw [t2]; exact c2)
      rw [if_neg (show ¬ nI (cN ea) = (10 : Int32) from fun y => by have := (nI_eq (by omega) (by decide)).mp (show nI (cN ea) = nI 10 from y); omega), o1, if_pos (inb_n t3 (by decide)), cl_n (by omega), s1.sum.1, o1, c3, if_pos z]
    · rw [if_pos (show nI (cN ea) = (10 : Int32) from (show nI (cN ea) = nI 10 by rw [show cN ea = 10 by omega])), if_neg z]
set_option maxHeartbeats 1000000 in
theorem step_deer : STEP_deer R1d := by
  intro ea cl ga sw mo mi dr sG sC sN sz pl st row ys yse yrow yea ysh yst yset ysp ysg a0 a1 ⟨n, p, mo', mi', dr', k, hF, hy, ⟨hE, h10⟩, hC, hG, hS, hrest⟩
  rcases ir_or a0 36 (by decide) with ha | ⟨q, hq, rfl⟩
  · have ec : fX9_deer row sz st ea cl ga a0 a1 = some (-1, ea, ga) := by rw [fX9_deer, X3_isSquare, ha, o1, if_pos (show bI false = 0 by decide)]
    have em : fX10_deer yea a0 a1 = some (-1, yea) := by rw [fX10_deer, X10_isSide, ha, Bool.false_and, o1, if_pos (show bI false = 0 by decide)]
    exact ⟨_, _, _, _, ec, em, n, p, mo', mi', dr', k, hF, hy, ⟨hE, h10⟩, hC, hG, hS, hrest⟩
  rcases ir_or a1 4 (by decide) with ha | ⟨s, hs, rfl⟩
  · have ec : fX9_deer row sz st ea cl ga (nI q) a1 = some (-1, ea, ga) := by rw [fX9_deer, X3_isSquare, X3_isSide, ha, ir_n hq (by decide), o1, if_neg (show ¬ bI true = 0 by decide), o1, if_pos (show bI false = 0 by decide)]
    have em : fX10_deer yea (nI q) a1 = some (-1, yea) := by rw [fX10_deer, X10_isSide, ha, Bool.and_false, o1, if_pos (show bI false = 0 by decide)]
    exact ⟨_, _, _, _, ec, em, n, p, mo', mi', dr', k, hF, hy, ⟨hE, h10⟩, hC, hG, hS, hrest⟩
  by_cases c1 : nx q s = 36
  · have ec : fX9_deer row sz st ea cl ga (nI q) (nI s) = some (-2, ea, ga) := by
      rw [fX9_deer, X3_isSquare, X3_isSide, ir_n hq (by decide), ir_n hs (by decide), edge_N hq hs c1, o1, if_neg (show ¬ bI true = 0 by decide), o1, if_neg (show ¬ bI true = 0 by decide), o1, if_pos (show lg_cmp 0 0 = 0 by decide)]
    have em : fX10_deer yea (nI q) (nI s) = some (-2, yea) := by
      rw [fX10_deer, X10_isSide, ir_n hq (by decide), ir_n hs (by decide), Bool.and_true, o1, if_neg (show ¬ bI true = 0 by decide), tb_nextTo q hq s hs, if_pos c1, o1, if_pos (show (-1 : Int32) < 0 by decide)]
    exact ⟨_, _, _, _, ec, em, n, p, mo', mi', dr', k, hF, hy, ⟨hE, h10⟩, hC, hG, hS, hrest⟩
  · obtain ⟨t1, t2, t3, t4⟩ := tb_n2 q hq s hs c1
    have ec := deer_c row sz st ea cl ga yea hE hq hs c1
    have em := deer_m ea yea hE h10 hq hs c1
    cases c2 : bL ea (eb q s) with
    | true =>
      rw [c2, if_pos rfl] at ec em
      exact ⟨_, _, _, _, ec, em, n, p, mo', mi', dr', k, hF, hy, ⟨hE, h10⟩, hC, hG, hS, hrest⟩
    | false =>
      rw [c2, if_neg (show ¬ false = true by decide)] at ec em
      by_cases z : cN ea < 10
      · rw [if_pos z] at ec em
        obtain ⟨g1, f1, hG1⟩ := refresh_v hF (ea ||| eL (eb q s)) cl ga
        rw [f1, o1] at ec
        have s1 := hE.s1 t3 t4
        have c3 := hE.cnt t3 t4 (by rw [t2]; exact c2)
        rw [t2] at s1 c3
        exact ⟨_, _, _, _, ec, em, n, p, mo', mi', dr', k, hF, hy, ⟨s1, by omega⟩, hC, hG1, hS, hrest⟩
      · rw [if_neg z] at ec em
        exact ⟨_, _, _, _, ec, em, n, p, mo', mi', dr', k, hF, hy, ⟨hE, h10⟩, hC, hG, hS, hrest⟩
section Count
variable {n : Nat} {p : Nat → Nat} {row yrow : Nat → Int32} {size : Int32} {pl st : Int64} {eaten closed gaps : Int64} {yea ysh : Nat → Int32}
theorem gaps_hi (h : FW n p row size pl st) (hE : MK eaten yea) (hG : GP n p st eaten closed gaps) : ∀ e, 60 ≤ e → e < 64 → bL gaps e = false := by
  intro e h1 h2
  have e0 : bL st e = false := by
    cases hb : bL st e with
    | false => rfl
    | true =>
      obtain ⟨-, i, hi, e1⟩ := (h.2.2.2.2.2.2 e).mp hb
      have := (tb_ew _ (h.2.2.1 i (by omega)).1 _ (h.2.2.1 (i + 1) hi).1).1
      omega
  have e1 : ¬ rgv n p = e := by
    intro z
    obtain ⟨a, b⟩ := rgv_in h (show e ≠ 64 by omega) z
    have := (tb_ew _ (h.2.2.1 (n - 1) (by omega)).1 _ (h.2.2.1 0 (by omega)).1).1
    omega
  rw [hG e h2, e0, hE.2 e h1]
  simp [e1]
def gb (g : Int64) (x : Nat) : Bool := vpr x && bL g (pb x)
theorem cnt_in (k4 : Int32 → Int32 → Int32 → Option Int32) (x1 : Int32) (h : FW n p row size pl st) (hyr : ∀ i, i < n → yrow i = nI (p i)) (hE : MK eaten yea) (hC : MK closed ysh) (hG : GP n p st eaten closed gaps) {q : Nat} (hq : q < 36) (N : Nat) :
    fX10_count_13 k4 yrow (nI n) yea ysh (N + 3) x1 (nI (cB (gb gaps) (2 * q))) (nI q) 2 = k4 x1 (nI (cB (gb gaps) (2 * q + 2))) (nI (q + 1)) := by
  have one : ∀ (s : Nat), s = 2 ∨ s = 3 → ∀ N c, fX10_count_13 k4 yrow (nI n) yea ysh (N + 1) x1 (nI c) (nI q) (nI s) = fX10_count_13 k4 yrow (nI n) yea ysh N x1 (nI (c + (if gb gaps (2 * q + (s - 2)) = true then 1 else 0))) (nI q) (nI (s + 1)) := by
    intro s hs N c
    have hs4 : s < 4 := by omega
    have epr : prN q s = 2 * q + (s - 2) := by rcases hs with rfl | rfl <;> simp [prN]
    rw [fX10_count_13, if_neg (show ¬ (4 : Int32) ≤ nI s from fun y => by have := (nle 4 s (by decide) (by omega)).mp y; omega), tb_nextTo q hq s hs4, o1]
    by_cases c1 : nx q s = 36
    · have hv : gb gaps (2 * q + (s - 2)) = false := by
        unfold gb
        cases hv : vpr (2 * q + (s - 2)) with
        | false => rfl
        | true =>
          have h3 := (tb_vp _ (show 2 * q + (s - 2) < 72 by omega) hv).2.1
          exfalso
          apply h3
          rw [show (2 * q + (s - 2)) / 2 = q by omega, show 2 + (2 * q + (s - 2)) % 2 = s by omega]
          exact c1
      rw [if_pos c1, if_pos (show (-1 : Int32) < 0 by decide), fX10_count_43, fX10_count_44, lets_eq, hv, nI_1, show nI c + (0 : Int32) = nI (c + 0) from nI_add c 0]
      simp
    · obtain ⟨t1, t2, t3, t4⟩ := tb_n2 q hq s hs4 c1
      have hn := tb_n1 q hq s hs4
      have hv : gb gaps (2 * q + (s - 2)) = bL gaps (eb q s) := by
        unfold gb
        rw [← epr, t4, t2, Bool.true_and]
      rw [if_neg c1, if_neg (nI_pos (by omega)), gap_v h hyr hE hC hG hq hs4 c1, o1, hv]
      cases bL gaps (eb q s) with
      | true => rw [if_neg (show ¬ bI true = 0 by decide), fX10_count_44, lets_eq, nI_1, nI_1, if_pos rfl]
      | false =>
        rw [if_pos (show bI false = 0 by decide), fX10_count_43, fX10_count_44, lets_eq, nI_1, show nI c + (0 : Int32) = nI (c + 0) from nI_add c 0]
        simp
  have a := one 2 (Or.inl rfl) (N + 2) (cB (gb gaps) (2 * q))
  have b := one 3 (Or.inr rfl) (N + 1) (cB (gb gaps) (2 * q + 1))
  rw [show 2 * q + (2 - 2) = 2 * q by omega, ← cB_s] at a
  rw [show 2 * q + (3 - 2) = 2 * q + 1 by omega, ← cB_s] at b
  rw [show (2 : Int32) = nI 2 from rfl, a, b, fX10_count_13, if_pos (show (4 : Int32) ≤ nI (3 + 1) by decide), nI_1]
theorem cnt_out (x1 : Int32) (yst : Nat → Int32) (yse : Int32) (h : FW n p row size pl st) (hyr : ∀ i, i < n → yrow i = nI (p i)) (hE : MK eaten yea) (hC : MK closed ysh) (hG : GP n p st eaten closed gaps) (R : Option Int32)
    (hR : ∀ N, fX10_count_4 yrow (nI n) yea ysh yst yse (N + 1) x1 (nI (cB (gb gaps) 72)) (nI 36) = R) : ∀ N q : Nat, q ≤ 36 → 37 ≤ q + N → fX10_count_4 yrow (nI n) yea ysh yst yse N x1 (nI (cB (gb gaps) (2 * q))) (nI q) = R := by
  intro N
  induction N with
  | zero => intro q h1 h2; omega
  | succ N ih =>
    intro q h1 h2
    by_cases z : q = 36
    · subst z; exact hR N
    · rw [fX10_count_4, if_neg (show ¬ (36 : Int32) ≤ nI q from fun y => by have := (nle 36 q (by decide) (by omega)).mp y; omega)]
      rw [cnt_in _ x1 h hyr hE hC hG (show q < 36 by omega) 3997, show 2 * q + 2 = 2 * (q + 1) by omega]
      exact ih (q + 1) (by omega) (by omega)
end Count
set_option maxHeartbeats 1000000 in
theorem step_count : STEP_count R1d := by
  intro ea cl ga sw mo mi dr sG sC sN sz pl st row ys yse yrow yea ysh yst yset ysp ysg a0 ⟨n, p, mo', mi', dr', k, hF, ⟨hys, hyr⟩, ⟨hE, h10⟩, hC, hG, hS, hm, hi, hd, hN⟩
  subst hys
  have hsz := hF.2.1
  have hem : ∀ R, (∀ N, fX10_count_4 yrow (nI n) yea ysh yst yse (N + 1) a0 (nI (cB (gb ga) 72)) (nI 36) = R) → fX10_count yrow (nI n) yea ysh yst yse a0 = R := fun R hR => by
    rw [fX10_count]
    exact cnt_out a0 yst yse hF hyr hE hC hG R hR 4000 0 (by decide) (by decide)
  have h36 : (36 : Int32) ≤ nI 36 := by decide
  rcases ir_or a0 7 (by decide) with ha | ⟨w, hw, rfl⟩
  · have nn : ∀ j : Nat, j < 7 → ¬ a0 = nI j := fun j hj z => by subst z; rw [ir_n hj (by decide)] at ha; cases ha
    have n0 : ¬ a0 = 0 := nn 0 (by decide)
    have n1 : ¬ a0 = 1 := nn 1 (by decide)
    have n2 : ¬ a0 = 2 := nn 2 (by decide)
    have n3 : ¬ a0 = 3 := nn 3 (by decide)
    have n4 : ¬ a0 = 4 := nn 4 (by decide)
    have n5 : ¬ a0 = 5 := nn 5 (by decide)
    have n6 : ¬ a0 = 6 := nn 6 (by decide)
    refine ⟨-1, ?_, hem _ fun N => ?_⟩
    · rw [fX9_count, if_neg n0, if_neg n1, if_neg n2, if_neg n3, if_neg n4, if_neg n5, if_neg n6]
    · rw [fX10_count_4, if_pos h36, if_neg n0, if_neg n1, if_neg n2, if_neg n3, if_neg n4, if_neg n5, if_neg n6]
  rcases (show w = 0 ∨ w = 1 ∨ w = 2 ∨ w = 3 ∨ w = 4 ∨ w = 5 ∨ w = 6 by omega) with rfl | rfl | rfl | rfl | rfl | rfl | rfl
  · refine ⟨nI n, ?_, hem _ fun N => ?_⟩
    · rw [fX9_count, if_pos (show nI 0 = 0 by decide), hsz]
    · rw [fX10_count_4, if_pos h36, if_pos (show nI 0 = 0 by decide)]
  · have hrl := rgv_le hF
    refine ⟨bI (decide (rgv n p ≠ 64)), ?_, hem _ fun N => ?_⟩
    · rw [fX9_count, if_neg (show ¬ nI 1 = 0 by decide), if_pos (show nI 1 = 1 by decide), ring_v hF, o1]
      by_cases z : rgv n p = 64
      · rw [if_pos (lg0.mpr ((eV_0 hrl).mpr z))]; simp [z, bI]
      · rw [if_neg (fun y => z ((eV_0 hrl).mp (lg0.mp y)))]; simp [z, bI]
    · rw [fX10_count_4, if_pos h36, if_neg (show ¬ nI 1 = 0 by decide), if_pos (show nI 1 = 1 by decide), isRound_v hF hyr, o1]
      by_cases z : rgv n p = 64
      · rw [if_pos (show bI (decide (rgv n p ≠ 64)) = 0 by simp [z, bI])]; simp [z, bI]
      · rw [if_neg (show ¬ bI (decide (rgv n p ≠ 64)) = 0 by simp [z, bI, i10])]; simp [z, bI]
  · refine ⟨nI (cN ga), ?_, hem _ fun N => ?_⟩
    · rw [fX9_count, if_neg (show ¬ nI 2 = 0 by decide), if_neg (show ¬ nI 2 = 1 by decide), if_pos (show nI 2 = 2 by decide), bitCount_v, cN_64 ga (gaps_hi hF hE hG), o1]
    · rw [fX10_count_4, if_pos h36, if_neg (show ¬ nI 2 = 0 by decide), if_neg (show ¬ nI 2 = 1 by decide), if_pos (show nI 2 = 2 by decide)]
      congr 2
      exact cN_72 ga
  · refine ⟨nI (cN ea), ?_, hem _ fun N => ?_⟩
    · rw [fX9_count, if_neg (show ¬ nI 3 = 0 by decide), if_neg (show ¬ nI 3 = 1 by decide), if_neg (show ¬ nI 3 = 2 by decide), if_pos (show nI 3 = 3 by decide), hE.sum.2, o1]
    · rw [fX10_count_4, if_pos h36, if_neg (show ¬ nI 3 = 0 by decide), if_neg (show ¬ nI 3 = 1 by decide), if_neg (show ¬ nI 3 = 2 by decide), if_pos (show nI 3 = 3 by decide), hE.sum.1, o1]
  · refine ⟨nI (cN cl), ?_, hem _ fun N => ?_⟩
    · rw [fX9_count, if_neg (show ¬ nI 4 = 0 by decide), if_neg (show ¬ nI 4 = 1 by decide), if_neg (show ¬ nI 4 = 2 by decide), if_neg (show ¬ nI 4 = 3 by decide), if_pos (show nI 4 = 4 by decide), hC.sum.2, o1]
    · rw [fX10_count_4, if_pos h36, if_neg (show ¬ nI 4 = 0 by decide), if_neg (show ¬ nI 4 = 1 by decide), if_neg (show ¬ nI 4 = 2 by decide), if_neg (show ¬ nI 4 = 3 by decide), if_pos (show nI 4 = 4 by decide), hC.sum.1, o1]
  · have e1 : fX10_sumOf 36 yst = some (nI (cB (fun q => bL sw q) 36)) := sum_v (by decide) hS.1
    have e2 : (List.range 64).countP (fun e => bL sw e) = cB (fun q => bL sw q) 36 := by
      show cB (fun e => bL sw e) 64 = _
      have hz : ∀ j, j ≤ 28 → cB (fun e => bL sw e) (36 + j) = cB (fun e => bL sw e) 36 := by
        intro j
        induction j with
        | zero => intro _; rfl
        | succ j ih =>
          intro hj
          rw [show 36 + (j + 1) = 36 + j + 1 by omega, cB_s, ih (by omega), hS.2 _ (by omega)]
          simp
      exact hz 28 (by decide)
    refine ⟨nI (cB (fun q => bL sw q) 36), ?_, hem _ fun N => ?_⟩
    · rw [fX9_count, if_neg (show ¬ nI 5 = 0 by decide), if_neg (show ¬ nI 5 = 1 by decide), if_neg (show ¬ nI 5 = 2 by decide), if_neg (show ¬ nI 5 = 3 by decide), if_neg (show ¬ nI 5 = 4 by decide), if_pos (show nI 5 = 5 by decide), bitCount_v, e2, o1]
    · rw [fX10_count_4, if_pos h36, if_neg (show ¬ nI 5 = 0 by decide), if_neg (show ¬ nI 5 = 1 by decide), if_neg (show ¬ nI 5 = 2 by decide), if_neg (show ¬ nI 5 = 3 by decide), if_neg (show ¬ nI 5 = 4 by decide), if_pos (show nI 5 = 5 by decide), e1, o1]
  · obtain ⟨-, k1, k2, -⟩ := hN
    refine ⟨nI k, ?_, hem _ fun N => ?_⟩
    · rw [fX9_count, if_neg (show ¬ nI 6 = 0 by decide), if_neg (show ¬ nI 6 = 1 by decide), if_neg (show ¬ nI 6 = 2 by decide), if_neg (show ¬ nI 6 = 3 by decide), if_neg (show ¬ nI 6 = 4 by decide), if_neg (show ¬ nI 6 = 5 by decide), if_pos (show nI 6 = 6 by decide), k1]
    · rw [fX10_count_4, if_pos h36, if_neg (show ¬ nI 6 = 0 by decide), if_neg (show ¬ nI 6 = 1 by decide), if_neg (show ¬ nI 6 = 2 by decide), if_neg (show ¬ nI 6 = 3 by decide), if_neg (show ¬ nI 6 = 4 by decide), if_neg (show ¬ nI 6 = 5 by decide), if_pos (show nI 6 = 6 by decide), k2]
