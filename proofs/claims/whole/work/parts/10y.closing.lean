-- STEPS of shutting and days
theorem o6 {A B C D E F Z : Type} (a : A) (b : B) (c : C) (d : D) (e : E) (f : F) (q : A → B → C → D → E → F → Option Z) : ob6 (some (a, b, c, d, e, f)) q = q a b c d e f := rfl
theorem o7 {A B C D E F G Z : Type} (a : A) (b : B) (c : C) (d : D) (e : E) (f : F) (g : G) (q : A → B → C → D → E → F → G → Option Z) : ob7 (some (a, b, c, d, e, f, g)) q = q a b c d e f g := rfl
theorem tb_pr : ∀ pr, pr < 72 → nx (pr / 2) (2 + pr % 2) ≠ 36 → prN (pr / 2) (2 + pr % 2) = pr := by decide +kernel
theorem tb_prI : ∀ pr, pr < 72 → nI pr / (2 : Int32) = nI (pr / 2) ∧ (2 : Int32) + (nI pr - nI (pr / 2) * (2 : Int32)) = nI (2 + pr % 2) := by decide +kernel
theorem neg_le {k : Nat} (hk : k < 2 ^ 31) : ¬ nI k ≤ -4 ∧ ¬ nI k ≤ -1 ∧ -4 ≤ nI k := by
  rw [Int32.le_iff_toInt_le, Int32.le_iff_toInt_le, Int32.le_iff_toInt_le, nI_toInt hk, show (-4 : Int32).toInt = -4 from by decide, show (-1 : Int32).toInt = -1 from by decide]
  omega
/-- the best so far, on both sides -/
def CL (ga : Int64) (sq sd stp sf x1 : Int32) : Prop := (stp = -4 ∧ sf = -1 ∧ x1 = -4) ∨ ∃ pr k, pr < 72 ∧ k ≤ 72 ∧ vpr pr = true ∧ nx (pr / 2) (2 + pr % 2) ≠ 36 ∧ bL ga (pb pr) = true ∧ stp = nI k ∧ sf = nI k ∧ x1 = nI pr ∧ sq = nI (pr / 2) ∧ sd = nI (2 + pr % 2)
section Clo
variable {n : Nat} {p : Nat → Nat} {row yrow : Nat → Int32} {size : Int32} {pl st : Int64} {eaten closed ga sw : Int64} {yea ysh yst yset : Nat → Int32} {mo mid dr : Nat}
theorem weigh_l (h : FW n p row size pl st) (hyr : ∀ i, i < n → yrow i = nI (p i)) (hE : MK eaten yea) (hC : MK closed ysh) (hG : GP n p st eaten closed ga) (hS : MS36 sw yst) (hm : yset 0 = nI mo) (hmo : mo ≤ 9) (hmid : mid < 36) (hy : yset 1 = nI mid) (hdr : dr < 36) (hyd : yset 2 = nI dr)
    (wf wq : Nat → Int32) (wl : Int32) (yf yq : Nat → Int32) (yl sq sd stp sf x1 : Int32) (hL : CL ga sq sd stp sf x1) {pr : Nat} (hpr : pr < 72) :
    ∃ sq' sd' stp' wf' wq' wl' yf' yq' yl' sf' x1', fX0_weigh sq sd stp ga sw (nI mo) (nI mid) (nI dr) wf wq wl (nI (pr / 2)) (nI (2 + pr % 2)) = some (sq', sd', stp', wf', wq', wl') ∧
      (∀ N, fX10_bestShut_10 yrow (nI n) yea yst yset (N + 1) ysh yf yq yl sf x1 (nI pr) = fX10_bestShut_10 yrow (nI n) yea yst yset N ysh yf' yq' yl' sf' x1' (nI (pr + 1))) ∧ CL ga sq' sd' stp' sf' x1' := by
  have hq : pr / 2 < 36 := by omega
  have hs : 2 + pr % 2 < 4 := by omega
  obtain ⟨t1, t2⟩ := tb_prI pr hpr
  obtain ⟨e1, e2⟩ := edge_and (g := ga) hq hs
  have hskip : (nx (pr / 2) (2 + pr % 2) = 36 ∨ bL ga (eb (pr / 2) (2 + pr % 2)) = false) → ∃ sq' sd' stp' wf' wq' wl' yf' yq' yl' sf' x1', fX0_weigh sq sd stp ga sw (nI mo) (nI mid) (nI dr) wf wq wl (nI (pr / 2)) (nI (2 + pr % 2)) = some (sq', sd', stp', wf', wq', wl') ∧
      (∀ N, fX10_bestShut_10 yrow (nI n) yea yst yset (N + 1) ysh yf yq yl sf x1 (nI pr) = fX10_bestShut_10 yrow (nI n) yea yst yset N ysh yf' yq' yl' sf' x1' (nI (pr + 1))) ∧ CL ga sq' sd' stp' sf' x1' := by
    intro hno
    refine ⟨sq, sd, stp, wf, wq, wl, yf, yq, yl, sf, x1, ?_, fun N => ?_, hL⟩
    · unfold fX0_weigh
      rw [e1, o1, if_pos (lg0.mpr (e2.mpr (fun z => by rcases hno with y | y; exact z.1 y; rw [y] at z; cases z.2)))]
    · rw [fX10_bestShut_10, if_neg (litF (c := 72) (C := 72) rfl hpr (by decide)), t1, t2, lets_eq, lets_eq, tb_nextTo _ hq _ hs, o1]
      unfold fX10_bestShut_109
      rw [nI_1]
      by_cases hn : nx (pr / 2) (2 + pr % 2) = 36
      · rw [if_pos hn, if_pos (by decide)]
      · have hle := tb_n1 _ hq _ hs
        rw [if_neg hn, if_neg (nI_pos (by omega)), gap_v h hyr hE hC hG hq hs hn, o1, hno.resolve_left hn, if_pos (show bI false = 0 by decide)]
  by_cases hn : nx (pr / 2) (2 + pr % 2) = 36
  · exact hskip (Or.inl hn)
  cases hb : bL ga (eb (pr / 2) (2 + pr % 2)) with
  | false => exact hskip (Or.inr hb)
  | true =>
    have hpN := tb_pr pr hpr hn
    obtain ⟨n1, n2, n3, n4⟩ := tb_n2 _ hq _ hs hn
    rw [hpN] at n2 n4
    have hle := tb_n1 _ hq _ hs
    have hcl : bL closed (pb pr) = false := by
      have := hG (pb pr) (by omega)
      rw [n2, hb] at this
      cases hc : bL closed (eb (pr / 2) (2 + pr % 2)) with
      | false => rw [n2]; exact hc
      | true => rw [hc, Bool.not_true, Bool.and_false] at this; cases this
    have hsh0 : ysh pr = 0 := by rw [hC.1 pr hpr, hcl, Bool.and_false]; rfl
    have hC' := hC.s1 hpr n4
    have hG' : GP n p st eaten (closed ||| eL (pb pr)) (ga &&& (eL (eb (pr / 2) (2 + pr % 2)) ^^^ (-1))) := by
      intro e he
      rw [bL_and, bL_not _ he, bL_or, hG e he, n2]
      cases bL closed e <;> cases bL (eL (eb (pr / 2) (2 + pr % 2))) e <;> simp
    have hM : ∀ q s, q < 36 → s < 4 → fX10_isPassable yrow (nI n) yea (upd ysh pr 1) yst yset 0 (nI q) (nI s) = some (bI (pas (ga &&& (eL (eb (pr / 2) (2 + pr % 2)) ^^^ (-1))) sw mo false q s)) := fun q s hq hs => pas_m (κ := 0) h hyr hE hC' hG' hS hm hmo (by decide) hq hs
    obtain ⟨d1, q1, w1, c1, hLS⟩ := measure_v wf wq wl (ga &&& (eL (eb (pr / 2) (2 + pr % 2)) ^^^ (-1))) sw (ro := 0) false hmo hmid (by decide)
    obtain ⟨R, c2, hR⟩ := fewest_v hLS hdr
    obtain ⟨R', d2, q2, l2, c3, hR'⟩ := farOf_v hM hS hmid hy hdr yf yq yl
    have hRR := MNP.same (hR.cg (P_0 hmid hdr)) hR'
    subst hRR
    rw [nI_z, bI_f] at c1
    have hback : upd (upd ysh pr 1) pr 0 = ysh := by
      funext i
      by_cases z : i = pr
      · subst z; rw [upd_s, hsh0]
      · rw [upd_n _ _ z, upd_n _ _ z]
    have hcmp : R ≤ stp ↔ R ≤ sf := by
      rcases hL with ⟨a1, a2, -⟩ | ⟨_, k, _, _, _, _, _, a1, a2, _⟩
      · rcases hR' with ⟨b1, -⟩ | ⟨k, hk, b1, -⟩
        · rw [a1, a2, b1]; decide
        · rw [a1, a2, b1]
          obtain ⟨g1, g2, -⟩ := neg_le (k := k) (by omega)
          exact ⟨fun z => absurd z g1, fun z => absurd z g2⟩
      · rw [a1, a2]
    have hE0 : (if nx (pr / 2) (2 + pr % 2) = 36 then (0 : Int64) else eL (eb (pr / 2) (2 + pr % 2))) = eL (eb (pr / 2) (2 + pr % 2)) := if_neg hn
    have hclass : fX0_weigh sq sd stp ga sw (nI mo) (nI mid) (nI dr) wf wq wl (nI (pr / 2)) (nI (2 + pr % 2)) = if R ≤ stp then some (sq, sd, stp, d1, q1, w1) else some (nI (pr / 2), nI (2 + pr % 2), R, d1, q1, w1) := by
      unfold fX0_weigh
      rw [e1, o1, if_neg (fun z => (e2.mp (lg0.mp z)) ⟨hn, hb⟩), hE0, c1, o3, c2, o1]
    have hmodel : ∀ N, fX10_bestShut_10 yrow (nI n) yea yst yset (N + 1) ysh yf yq yl sf x1 (nI pr) = if R ≤ sf then fX10_bestShut_10 yrow (nI n) yea yst yset N ysh d2 q2 l2 sf x1 (nI (pr + 1)) else fX10_bestShut_10 yrow (nI n) yea yst yset N ysh d2 q2 l2 R (nI pr) (nI (pr + 1)) := by
      intro N
      rw [fX10_bestShut_10, if_neg (litF (c := 72) (C := 72) rfl hpr (by decide)), t1, t2, lets_eq, lets_eq, tb_nextTo _ hq _ hs, o1, if_neg hn, if_neg (nI_pos (by omega)), gap_v h hyr hE hC hG hq hs hn, o1, hb, if_neg (show ¬ bI true = 0 by decide), if_pos (inb_n hpr (by decide)), cl_n (by omega), show (2 : Int32).toNatClampNeg = 2 from rfl, hyd, c3, o4, if_pos (inb_n hpr (by decide)), hback]
      unfold fX10_bestShut_86 fX10_bestShut_106 fX10_bestShut_109
      rw [nI_1]
      by_cases z : R ≤ sf
      · rw [if_pos z, if_pos z, if_pos z]
      · rw [if_neg z, if_neg z, if_neg z]
    by_cases z : R ≤ sf
    · rw [if_pos (hcmp.mpr z)] at hclass
      exact ⟨_, _, _, _, _, _, _, _, _, _, _, hclass, fun N => by rw [hmodel N, if_pos z], hL⟩
    · rw [if_neg (fun y => z (hcmp.mp y))] at hclass
      refine ⟨_, _, _, _, _, _, _, _, _, _, _, hclass, fun N => by rw [hmodel N, if_neg z], ?_⟩
      rcases hR' with ⟨b1, -⟩ | ⟨k, hk, b1, -⟩
      · exfalso
        apply z
        rcases hL with ⟨_, a2, _⟩ | ⟨_, k, _, hk, _, _, _, _, a2, _⟩
        · rw [a2, b1]; decide
        · rw [a2, b1]; exact (neg_le (k := k) (by omega)).2.2
      · exact Or.inr ⟨pr, k, hpr, hk, n4, hn, by rw [n2]; exact hb, b1, b1, rfl, rfl, rfl⟩
theorem find_cl (h : FW n p row size pl st) (hyr : ∀ i, i < n → yrow i = nI (p i)) (hE : MK eaten yea) (hC : MK closed ysh) (hG : GP n p st eaten closed ga) (hS : MS36 sw yst) (hm : yset 0 = nI mo) (hmo : mo ≤ 9) (hmid : mid < 36) (hy : yset 1 = nI mid) (hdr : dr < 36) (hyd : yset 2 = nI dr) :
    ∀ N M q (wf wq : Nat → Int32) (wl : Int32) (yf yq : Nat → Int32) (yl sq sd stp sf x1 : Int32), q ≤ 36 → 37 ≤ q + N → 73 ≤ 2 * q + M → CL ga sq sd stp sf x1 →
    ∃ sq' sd' stp' wf' wq' wl' yf' yq' yl' sf' x1', fX0_find_8 ga sw (nI mo) (nI mid) (nI dr) N sq sd stp wf wq wl (nI q) = some (if stp' < 0 then 0 else 1, sq', sd', stp', wf', wq', wl') ∧
      fX10_bestShut_10 yrow (nI n) yea yst yset M ysh yf yq yl sf x1 (nI (2 * q)) = some (x1', ysh, yf', yq', yl', sf') ∧ CL ga sq' sd' stp' sf' x1' := by
  intro N
  induction N with
  | zero => intro M q wf wq wl yf yq yl sq sd stp sf x1 h1 h2; omega
  | succ N ih =>
    intro M q wf wq wl yf yq yl sq sd stp sf x1 h1 h2 h3 hL
    rw [fX0_find_8]
    by_cases z : q = 36
    · subst z
      obtain ⟨M, rfl⟩ : ∃ m, M = m + 1 := ⟨M - 1, by omega⟩
      rw [if_pos (show (36 : Int32) ≤ nI 36 by decide), fX10_bestShut_10, if_pos (show (72 : Int32) ≤ nI (2 * 36) by decide)]
      refine ⟨sq, sd, stp, wf, wq, wl, yf, yq, yl, sf, x1, ?_, rfl, hL⟩
      by_cases y : stp < 0
      · rw [if_pos y, if_pos y]
      · rw [if_neg y, if_neg y]
    · obtain ⟨M, rfl⟩ : ∃ m, M = m + 1 + 1 := ⟨M - 2, by omega⟩
      obtain ⟨a1, a2, a3, a4, a5, a6, a7, a8, a9, a10, a11, c1, c2, c3⟩ := weigh_l h hyr hE hC hG hS hm hmo hmid hy hdr hyd wf wq wl yf yq yl sq sd stp sf x1 hL (pr := 2 * q) (by omega)
      obtain ⟨b1, b2, b3, b4, b5, b6, b7, b8, b9, b10, b11, d1, d2, d3⟩ := weigh_l h hyr hE hC hG hS hm hmo hmid hy hdr hyd a4 a5 a6 a7 a8 a9 a1 a2 a3 a10 a11 c3 (pr := 2 * q + 1) (by omega)
      rw [show 2 * q / 2 = q by omega, show 2 + 2 * q % 2 = 2 by omega, show nI 2 = 2 from rfl] at c1
      rw [show (2 * q + 1) / 2 = q by omega, show 2 + (2 * q + 1) % 2 = 3 by omega, show nI 3 = 3 from rfl] at d1
      rw [if_neg (litF (c := 36) (C := 36) rfl (by omega) (by decide)), c1, o6, d1, o6, nI_1, c2, d2]
      exact ih M (q + 1) b4 b5 b6 b7 b8 b9 b1 b2 b3 b10 b11 (by omega) (by omega) (by omega) d3
theorem find_b (h : FW n p row size pl st) (hyr : ∀ i, i < n → yrow i = nI (p i)) (hE : MK eaten yea) (hC : MK closed ysh) (hG : GP n p st eaten closed ga) (hS : MS36 sw yst) (hm : yset 0 = nI mo) (hmo : mo ≤ 9) (hmid : mid < 36) (hy : yset 1 = nI mid) (hdr : dr < 36) (hyd : yset 2 = nI dr)
    (wf wq : Nat → Int32) (wl : Int32) (yf yq : Nat → Int32) (yl sq sd stp sf : Int32) :
    ∃ sq' sd' stp' wf' wq' wl' yf' yq' yl' sf' x1', fX0_find sq sd stp ga sw (nI mo) (nI mid) (nI dr) wf wq wl = some (if stp' < 0 then 0 else 1, sq', sd', stp', wf', wq', wl') ∧
      fX10_bestShut yrow (nI n) yea ysh yst yset yf yq yl sf = some (x1', ysh, yf', yq', yl', sf') ∧ CL ga sq' sd' stp' sf' x1' := by
  obtain ⟨a1, a2, a3, a4, a5, a6, a7, a8, a9, a10, a11, c1, c2, c3⟩ := find_cl h hyr hE hC hG hS hm hmo hmid hy hdr hyd 4000 4000 0 wf wq wl yf yq yl sq sd (-4) (-1) (-4) (by decide) (by decide) (by decide) (Or.inl ⟨rfl, rfl, rfl⟩)
  rw [show 2 * 0 = 0 from rfl, nI_z] at c2
  rw [nI_z] at c1
  exact ⟨_, _, _, _, _, _, _, _, _, _, _, c1, c2, c3⟩
theorem days_l (h : FW n p row size pl st) (hyr : ∀ i, i < n → yrow i = nI (p i)) (hE : MK eaten yea) (hS : MS36 sw yst) (hm : yset 0 = nI mo) (hmo : mo ≤ 9) (hmid : mid < 36) (hy : yset 1 = nI mid) (hdr : dr < 36) (hyd : yset 2 = nI dr) {k : Nat} (hk : k ≤ 20) :
    ∀ N M i (closed ga : Int64) (ysh wf wq : Nat → Int32) (wl : Int32) (yf yq : Nat → Int32) (yl sq sd stp sf : Int32), i ≤ k → k + 1 ≤ i + N → k + 2 ≤ i + M → MK closed ysh → GP n p st eaten closed ga →
    ∃ ret closed' ga' wf' wq' wl' sq' sd' stp' ysh' yf' yq' yl' sf', fX9_days_15 row size st eaten sw (nI mo) (nI mid) (nI dr) N closed ga wf wq wl sq sd stp (nI k) (nI i) = some (ret, closed', ga', wf', wq', wl', sq', sd', stp') ∧
      fX10_days_18 yrow (nI n) yea yst yset M ysh yf yq yl sf (nI k) (nI i) 1 = some (ret, ysh', yf', yq', yl', sf') ∧ MK closed' ysh' ∧ GP n p st eaten closed' ga' := by
  intro N
  induction N with
  | zero => intro M i closed ga ysh wf wq wl yf yq yl sq sd stp sf h1 h2; omega
  | succ N ih =>
    intro M i closed ga ysh wf wq wl yf yq yl sq sd stp sf h1 h2 h3 hC hG
    obtain ⟨M, rfl⟩ : ∃ m, M = m + 1 := ⟨M - 1, by omega⟩
    rw [fX9_days_15, fX10_days_18]
    by_cases z : i = k
    · subst z
      rw [if_pos (nleT (Nat.le_refl _) (by omega)), if_pos (nleT (Nat.le_refl _) (by omega))]
      exact ⟨_, _, _, _, _, _, _, _, _, _, _, _, _, _, rfl, rfl, hC, hG⟩
    rw [if_neg (nleF (by omega) (by omega)), if_neg (nleF (by omega) (by omega)), if_neg (show ¬ (1 : Int32) = 0 by decide)]
    obtain ⟨a1, a2, a3, a4, a5, a6, a7, a8, a9, a10, a11, c1, c2, c3⟩ := find_b h hyr hE hC hG hS hm hmo hmid hy hdr hyd wf wq wl yf yq yl sq sd stp sf
    rw [c1, o7, c2, o6]
    unfold fX10_days_43 fX10_days_59
    rcases c3 with ⟨e1, e2, e3⟩ | ⟨pr, j, hpr, hj, hv, hn, hb, e1, e2, e3, e4, e5⟩
    · subst e1 e2 e3
      obtain ⟨M, rfl⟩ : ∃ m, M = m + 1 := ⟨M - 1, by omega⟩
      rw [if_pos (show (-4 : Int32) < 0 by decide), if_pos rfl, if_pos (show (-4 : Int32) < 0 by decide), if_pos rfl, fX10_days_18, if_neg (nleF (by omega) (by omega)), if_pos rfl]
      exact ⟨_, _, _, _, _, _, _, _, _, _, _, _, _, _, rfl, rfl, hC, hG⟩
    · subst e1 e2 e3 e4 e5
      have hq : pr / 2 < 36 := by omega
      have hs : 2 + pr % 2 < 4 := by omega
      have hpN := tb_pr pr hpr hn
      obtain ⟨n1, n2, n3, n4⟩ := tb_n2 _ hq _ hs hn
      rw [hpN] at n2 n4
      have hC' := hC.s1 hpr n4
      obtain ⟨ga', r1, hG'⟩ := refresh_v h eaten (closed ||| eL (pb pr)) ga
      rw [if_neg (nI_pos (by omega)), if_neg (show ¬ (1 : Int32) = 0 by decide), tb_edge _ hq _ hs, if_neg hn, o1, lets_eq, ← n2, r1, o1, if_neg (nI_pos (by omega)), if_neg (show ¬ (1 : Int32) = 0 by decide), if_pos (inb_n hpr (by decide)), cl_n (by omega), nI_1]
      exact ih M (i + 1) _ ga' _ a4 a5 a6 a7 a8 a9 _ _ _ _ (by omega) (by omega) (by omega) hC' hG'
end Clo
theorem step_shutting : STEP_shutting R1d := by
  intro ea cl ga sw mo mi dr sG sC sN sz pl st row wl wf wq sq sd stp ys yse ylq sf yrow yea ysh yst yset ysp ysg yf yq a0 ⟨n, p, mo', mi', dr', k, hF, ⟨hys, hyr⟩, ⟨hE, h10⟩, hC, hG, hS, ⟨hm1, hm2, hm3⟩, ⟨hi1, hi2, hi3⟩, ⟨hd1, hd2, hd3⟩, hN⟩
  have hR : R1d row sz pl st ea cl ga sw mo mi dr sG sC sN yrow ys yea ysh yst yset ysp ysg yse := ⟨n, p, mo', mi', dr', k, hF, ⟨hys, hyr⟩, ⟨hE, h10⟩, hC, hG, hS, ⟨hm1, hm2, hm3⟩, ⟨hi1, hi2, hi3⟩, ⟨hd1, hd2, hd3⟩, hN⟩
  subst hys
  obtain ⟨a1, a2, a3, a4, a5, a6, a7, a8, a9, a10, a11, c1, c2, c3⟩ := find_b hF hyr hE hC hG hS hm3 hm1 hi1 hi3 hd1 hd3 wf wq wl yf yq ylq sq sd stp sf
  unfold fX9_shutting fX10_shutting
  rw [X10_in2, o1, hm2, hi2, hd2] 
  by_cases g0 : a0 < 0
  · have : ir a0 3 = false := by
      unfold ir
      rw [decide_eq_false (fun z => by rw [Int32.not_le.symm] at g0; exact g0 z), Bool.false_and]
    rw [if_pos g0, this, bI_f, if_pos rfl]
    exact ⟨_, _, _, _, _, _, _, _, _, _, _, _, rfl, rfl, by rw [← hm2, ← hi2, ← hd2]; exact hR⟩
  obtain ⟨v, hv, rfl⟩ := nI_of g0
  by_cases g1 : v < 3
  rotate_left
  · have : ir (nI v) 3 = false := by
      unfold ir
      rw [decide_eq_false (show ¬ nI v < nI 3 from fun z => by have := (nlt v 3 hv (by decide)).mp z; omega), Bool.and_false]
    rw [if_neg g0, if_neg (show ¬ nI v ≤ 2 from fun z => by have := (nle v 2 hv (by decide)).mp z; omega), this, bI_f, if_pos rfl]
    exact ⟨_, _, _, _, _, _, _, _, _, _, _, _, rfl, rfl, by rw [← hm2, ← hi2, ← hd2]; exact hR⟩
  rw [if_neg g0, if_pos (show nI v ≤ 2 from (nle v 2 hv (by decide)).mpr (by omega)), ir_n g1 (by decide), bI_t, if_neg (show ¬ (1 : Int32) = 0 by decide), c1, o7, c2, o6]
  have hR' : R1d row sz pl st ea cl ga sw (nI mo') (nI mi') (nI dr') sG sC sN yrow (nI n) yea ysh yst yset ysp ysg yse := by rw [← hm2, ← hi2, ← hd2]; exact hR
  rcases c3 with ⟨e1, e2, e3⟩ | ⟨pr, j, hpr, hj, hvp, hn, hb, e1, e2, e3, e4, e5⟩
  · subst e1 e2 e3
    rw [if_pos (show (-4 : Int32) < 0 by decide), if_pos rfl, if_neg (by decide)]
    exact ⟨_, _, _, _, _, _, _, _, _, _, _, _, rfl, rfl, hR'⟩
  · subst e1 e2 e3 e4 e5
    obtain ⟨t1, t2⟩ := tb_prI pr hpr
    rw [if_neg (nI_pos (by omega)), if_neg (show ¬ (1 : Int32) = 0 by decide), if_pos (nI_pos' (by omega)), t1, t2]
    rcases (show v = 0 ∨ v = 1 ∨ v = 2 by omega) with rfl | rfl | rfl
    · rw [if_pos (show nI 0 = 0 from rfl), if_pos (show nI 0 = 0 from rfl)]
      exact ⟨_, _, _, _, _, _, _, _, _, _, _, _, rfl, rfl, hR'⟩
    · rw [if_neg (show ¬ nI 1 = 0 by decide), if_neg (show ¬ nI 1 = 0 by decide), if_pos (show nI 1 = 1 from rfl), if_pos (show nI 1 = 1 from rfl)]
      exact ⟨_, _, _, _, _, _, _, _, _, _, _, _, rfl, rfl, hR'⟩
    · rw [if_neg (show ¬ nI 2 = 0 by decide), if_neg (show ¬ nI 2 = 0 by decide), if_neg (show ¬ nI 2 = 1 by decide), if_neg (show ¬ nI 2 = 1 by decide)]
      exact ⟨_, _, _, _, _, _, _, _, _, _, _, _, rfl, rfl, hR'⟩
theorem step_days : STEP_days R1d := by
  intro ea cl ga sw mo mi dr sG sC sN sz pl st row wl wf wq sq sd stp ys yse ylq sf yrow yea ysh yst yset ysp ysg yf yq a0 ⟨n, p, mo', mi', dr', k, hF, ⟨hys, hyr⟩, ⟨hE, h10⟩, hC, hG, hS, ⟨hm1, hm2, hm3⟩, ⟨hi1, hi2, hi3⟩, ⟨hd1, hd2, hd3⟩, hN⟩
  subst hys hm2 hi2 hd2
  have hE1 : fX10_in a0.toInt64 1 20 = some (bI (decide (1 ≤ a0) && decide (a0 ≤ 20))) := X10_in a0 1 20
  unfold fX9_days fX10_days
  rw [hE1, o1]
  by_cases w1 : a0 < 1
  · have w1' : ¬ 1 ≤ a0 := by rw [Int32.not_le]; exact w1
    rw [if_pos w1, decide_eq_false w1', Bool.false_and, bI_f, if_pos rfl]
    exact ⟨_, _, _, _, _, _, _, _, _, _, _, _, _, _, rfl, rfl, n, p, mo', mi', dr', k, hF, ⟨rfl, hyr⟩, ⟨hE, h10⟩, hC, hG, hS, ⟨hm1, rfl, hm3⟩, ⟨hi1, rfl, hi3⟩, ⟨hd1, rfl, hd3⟩, hN⟩
  have w1' : 1 ≤ a0 := by rw [Int32.not_lt] at w1; exact w1
  by_cases w2 : a0 ≤ 20
  rotate_left
  · rw [if_neg w1, if_neg w2, decide_eq_false w2, Bool.and_false, bI_f, if_pos rfl]
    exact ⟨_, _, _, _, _, _, _, _, _, _, _, _, _, _, rfl, rfl, n, p, mo', mi', dr', k, hF, ⟨rfl, hyr⟩, ⟨hE, h10⟩, hC, hG, hS, ⟨hm1, rfl, hm3⟩, ⟨hi1, rfl, hi3⟩, ⟨hd1, rfl, hd3⟩, hN⟩
  obtain ⟨w, hw, rfl⟩ : ∃ w : Nat, w ≤ 20 ∧ a0 = nI w := by
    have h0 : ¬ a0 < 0 := fun z => by
      rw [Int32.lt_iff_toInt_lt] at w1 z
      exact w1 (Int.lt_trans z (by decide))
    obtain ⟨w, hw, rfl⟩ := nI_of h0
    exact ⟨w, (nle w 20 hw (by decide)).mp w2, rfl⟩
  rw [if_neg w1, if_pos w2, decide_eq_true w1', decide_eq_true w2, Bool.and_true, bI_t, if_neg (show ¬ (1 : Int32) = 0 by decide)]
  obtain ⟨ret, b1, b2, b3, b4, b5, b6, b7, b8, b9, b10, b11, b12, b13, c1, c2, c3, c4⟩ := days_l hF hyr hE hS hm3 hm1 hi1 hi3 hd1 hd3 hw 4000 4000 0 cl ga ysh wf wq wl yf yq ylq sq sd stp sf (Nat.zero_le _) (by omega) (by omega) hC hG
  rw [nI_z] at c1 c2
  exact ⟨_, _, _, _, _, _, _, _, _, _, _, _, _, _, c1, c2, n, p, mo', mi', dr', k, hF, ⟨rfl, hyr⟩, ⟨hE, h10⟩, c3, c4, hS, ⟨hm1, rfl, hm3⟩, ⟨hi1, rfl, hi3⟩, ⟨hd1, rfl, hd3⟩, hN⟩
