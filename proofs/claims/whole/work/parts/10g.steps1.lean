-- STEPS of plough, back, straw, set
theorem straw_v {m : Int64} {q : Nat} (hq : q < 64) : fX1_hasStrawMan m (nI q) = some (bI (bL m q)) := by
  unfold fX1_hasStrawMan
  cases h : bL m q with
  | false => rw [if_pos (lg0.mpr ((shr_e hq).mpr h))]; rfl
  | true => rw [if_neg (fun z => by have := (shr_e hq).mp (lg0.mp z); rw [h] at this; cases this)]; rfl
theorem plough45 {n q : Nat} (yrow : Nat → Int32) (h : n < 36) : fX10_plough_45 yrow (nI n) (nI q) = some (nI (n + 1), upd yrow n (nI q), nI (n + 1)) := by
  unfold fX10_plough_45
  rw [if_pos (inb_n h (by decide)), cl_n (by omega), nI_1]; rfl
theorem m4neg : ¬ (0 : Int32) ≤ -4 := by decide
theorem nI_0le (n : Nat) (h : n < 2 ^ 31) : 0 ≤ nI n := nI_pos' h
theorem not_le_0 {v : Int32} : ¬ 0 ≤ v ↔ v < 0 := by rw [Int32.not_le]
set_option maxHeartbeats 1000000 in
theorem step_plough : STEP_plough R1d := by
  intro ea cl ga sw mo mi dr sG sC sN sz pl st row ys yse yrow yea ysh yst yset ysp ysg a0 ⟨n, p, mo', mi', dr', k, hF, ⟨hys, hyr⟩, hE, hC, hG, hrest⟩
  rcases ir_or a0 36 (by decide) with ha | ⟨q, hq, rfl⟩
  · simp only [fX9_plough, fX10_plough, X3_isSquare, X10_isSquare, ha, bI_f, ob1, if_true]
    exact ⟨_, _, _, _, _, _, _, _, rfl, rfl, n, p, mo', mi', dr', k, hF, ⟨hys, hyr⟩, hE, hC, hG, hrest⟩
  simp only [fX9_plough, X3_isSquare, ir_n hq (by decide : 36 < 2 ^ 31), bI_t, ob1, i10, if_false]
  have h1 := hF.1
  by_cases hc : canAdd n p q
  · have hr := hF.room hc.1 hc.2.1
    have hF' := hF.add hc
    obtain ⟨g', e1, hG'⟩ := refresh_v hF' ea cl ga
    rw [add_yes hF hc]
    simp only [ob5, i10, if_false]
    rw [e1]
    subst hys
    have em : fX10_plough yrow (nI n) (nI q) = some (nI (n + 1), upd yrow n (nI q), nI (n + 1)) := by
      unfold fX10_plough
      rw [X10_isSquare, ir_n hq (by decide : 36 < 2 ^ 31)]
      simp only [bI_t, ob1, i10, if_false]
      rcases place_v hF rfl hyr hq with ⟨i, hi, e, -⟩ | ⟨-, -, e⟩
      · exact absurd e (hc.2.1 i hi)
      · rw [e]
        simp only [m4neg, if_false]
        by_cases h0 : n = 0
        · subst h0
          rw [if_pos (show nI 0 ≤ 0 by decide)]
          exact plough45 _ hr
        · obtain ⟨j, rfl⟩ : ∃ j, n = j + 1 := ⟨n - 1, by omega⟩
          have hp := hF.2.2.1 j (by omega)
          rw [if_neg (nI_nle (by omega) (by omega)), m1, if_pos (inb_n (by omega) (by decide)), cl_n (by omega), hyr j (by omega)]
          obtain ⟨hs1, hs2⟩ := tb_sideTo (p j) hp.1 q hq
          cases hv : fX10_sideTo (nI (p j)) (nI q) with
          | none => rw [hv] at hs1; cases hs1
          | some v =>
            have h3 : 0 ≤ v := by
              apply Classical.byContradiction
              intro z
              have := (hs2 v hv).mp (not_le_0.mp z)
              rcases hc.2.2 with y | y
              · omega
              · exact y this
            simp only [h3, if_true]
            exact plough45 _ hr
    rw [em]
    exact ⟨_, _, _, _, _, _, _, _, rfl, rfl, n + 1, _, mo', mi', dr', k, hF', ⟨rfl, fun i hi => by
      by_cases z : i = n
      · subst z; rw [upd_s]; simp
      · rw [upd_n _ _ z, hyr i (by omega)]; simp [z]⟩, hE, hC, hG', hrest⟩
  · rw [add_no hF (fun ⟨q', e, h⟩ => by
      have e2 : q = q' := (nI_eq (by omega) (by have := h.1; omega)).mp e
      subst e2; exact hc h)]
    simp only [ob5, if_true]
    subst hys
    have em : fX10_plough yrow (nI n) (nI q) = some (-2, yrow, nI n) := by
      unfold fX10_plough
      rw [X10_isSquare, ir_n hq (by decide : 36 < 2 ^ 31)]
      simp only [bI_t, ob1, i10, if_false]
      rcases place_v hF rfl hyr hq with ⟨i, hi, e, -, e2⟩ | ⟨hn, -, e⟩
      · rw [e2]
        simp only [nI_0le i (by omega), if_true]
      · rw [e]
        simp only [m4neg, if_false]
        have h0 : n ≠ 0 := fun z => hc ⟨hq, hn, Or.inl z⟩
        have he : ew (p (n - 1)) q = 64 := Classical.byContradiction fun z => hc ⟨hq, hn, Or.inr z⟩
        obtain ⟨j, rfl⟩ : ∃ j, n = j + 1 := ⟨n - 1, by omega⟩
        have hp := hF.2.2.1 j (by omega)
        rw [if_neg (nI_nle (by omega) (by omega)), m1, if_pos (inb_n (by omega) (by decide)), cl_n (by omega), hyr j (by omega)]
        obtain ⟨hs1, hs2⟩ := tb_sideTo (p j) hp.1 q hq
        cases hv : fX10_sideTo (nI (p j)) (nI q) with
        | none => rw [hv] at hs1; cases hs1
        | some v =>
          have h3 : ¬ 0 ≤ v := not_le_0.mpr ((hs2 v hv).mpr he)
          simp only [h3, if_false]
    rw [em]
    exact ⟨_, _, _, _, _, _, _, _, rfl, rfl, n, p, mo', mi', dr', k, hF, ⟨rfl, hyr⟩, hE, hC, hG, hrest⟩
theorem back_l {p : Nat → Nat} {row : Nat → Int32} {b : Nat} (ea cl ga : Int64) (hb : b ≤ 36) : ∀ (N k m : Nat) (pl st : Int64), FW m p row (nI m) pl st → k ≤ b → b - k ≤ m → b + 1 ≤ k + N → ∃ pl' st' ga', fX9_back_32 row ea cl N (nI m) pl st ga (nI b) (nI k) = some (nI (m - (b - k)), nI (m - (b - k)), pl', st', ga') ∧ FW (m - (b - k)) p row (nI (m - (b - k))) pl' st' ∧ GP (m - (b - k)) p st' ea cl ga'
  | 0, k, m, pl, st, hF, h1, h2, h3 => absurd h3 (by omega)
  | N + 1, k, m, pl, st, hF, h1, h2, h3 => by
    rw [fX9_back_32]
    by_cases z : k = b
    · subst z
      obtain ⟨g', e1, hG'⟩ := refresh_v hF ea cl ga
      rw [if_pos (show nI k ≤ nI k from (nle k k (by omega) (by omega)).mpr (Nat.le_refl _)), e1, show m - (k - k) = m by omega]
      exact ⟨_, _, _, rfl, hF, hG'⟩
    · obtain ⟨j, rfl⟩ : ∃ j, m = j + 1 := ⟨m - 1, by omega⟩
      rw [if_neg (fun y => by have := (nle b k (by omega) (by omega)).mp y; omega), off_v hF, nI_1]
      obtain ⟨pl', st', ga', e, hF', hG'⟩ := back_l ea cl ga hb N (k + 1) j _ _ hF.off (by omega) (by omega) (by omega)
      rw [show j + 1 - (b - k) = j - (b - (k + 1)) by omega]
      exact ⟨_, _, _, e, hF', hG'⟩
set_option maxHeartbeats 1000000 in
theorem step_back : STEP_back R1d := by
  intro ea cl ga sw mo mi dr sG sC sN sz pl st row ys yse yrow yea ysh yst yset ysp ysg a0 ⟨n, p, mo', mi', dr', k, hF, ⟨hys, hyr⟩, hE, hC, hG, hrest⟩
  have h1 := hF.1
  have h2 := hF.2.1
  subst h2; subst hys
  have em : fX10_in a0.toInt64 1 36 = some (bI (decide ((1 : Int32) ≤ a0) && decide (a0 ≤ (36 : Int32)))) := by
    rw [show (1 : Int64) = (1 : Int32).toInt64 by decide, show (36 : Int64) = (36 : Int32).toInt64 by decide, X10_in]
  unfold fX9_back fX10_back
  rw [em]
  by_cases c1 : a0 < 1
  · have c2 : ¬ (1 : Int32) ≤ a0 := by rw [Int32.not_le]; exact c1
    simp only [c1, c2, if_true, decide_false, Bool.false_and, bI_f, ob1]
    exact ⟨_, _, _, _, _, _, rfl, rfl, n, p, mo', mi', dr', k, hF, ⟨rfl, hyr⟩, hE, hC, hG, hrest⟩
  have c2 : (1 : Int32) ≤ a0 := by rw [Int32.not_lt] at c1; exact c1
  by_cases c3 : a0 ≤ 36
  · obtain ⟨b, hb, rfl⟩ := nI_of2 (n := 36) (by decide) (fun z => c1 (Int32.lt_trans z (by decide))) c3
    have hb1 : 1 ≤ b := (nle 1 b (by decide) (by omega)).mp c2
    simp only [c1, c2, c3, if_true, if_false, decide_true, Bool.true_and, bI_t, i10, ob1]
    by_cases c4 : b ≤ n
    · have c5 : nI b ≤ nI n := (nle b n (by omega) (by omega)).mpr c4
      simp only [c5, if_true]
      obtain ⟨pl', st', ga', e, hF', hG'⟩ := back_l (b := b) ea cl ga hb 4000 0 n pl st hF (Nat.zero_le _) (by omega) (by omega)
      rw [show (0 : Int32) = nI 0 from rfl, e, pk_sub c4]
      exact ⟨_, _, _, _, _, _, rfl, rfl, n - b, p, mo', mi', dr', k, hF', ⟨rfl, fun i hi => hyr i (by omega)⟩, hE, hC, hG', hrest⟩
    · have c5 : ¬ nI b ≤ nI n := fun y => c4 ((nle b n (by omega) (by omega)).mp y)
      simp only [c5, if_false]
      exact ⟨_, _, _, _, _, _, rfl, rfl, n, p, mo', mi', dr', k, hF, ⟨rfl, hyr⟩, hE, hC, hG, hrest⟩
  · simp only [c1, c2, c3, if_true, if_false, decide_true, decide_false, Bool.and_false, bI_f, ob1]
    exact ⟨_, _, _, _, _, _, rfl, rfl, n, p, mo', mi', dr', k, hF, ⟨rfl, hyr⟩, hE, hC, hG, hrest⟩
theorem bI_if2 {α : Type} (b : Bool) (x y : Option α) : (if bI b = 0 then x else y) = if b = true then y else x := by cases b <;> rfl
set_option maxHeartbeats 1000000 in
theorem step_straw : STEP_straw R1d := by
  intro ea cl ga sw mo mi dr sG sC sN sz pl st row ys yse yrow yea ysh yst yset ysp ysg a0 a1 _ ⟨n, p, mo', mi', dr', k, hF, hy, hE, hC, hG, hS, hrest⟩
  rcases ir_or a0 36 (by decide) with ha | ⟨q, hq, rfl⟩
  · simp only [fX9_straw, fX10_straw, X3_isSquare, X10_isSquare, ha, bI_f, ob1, if_true]
    exact ⟨_, _, _, rfl, rfl, n, p, mo', mi', dr', k, hF, hy, hE, hC, hG, hS, hrest⟩
  simp only [fX9_straw, fX10_straw, X3_isSquare, X10_isSquare, ir_n hq (by decide : 36 < 2 ^ 31), bI_t, ob1, i10, if_false, straw_v (show q < 64 by omega), inb_n hq (by decide : 36 < 2 ^ 31), if_true, cl_n (show q < 2 ^ 31 by omega), lets, fX10_straw_30, fX9_straw_25, fX9_straw_66, shl_e q (by omega), hS.1 q hq]
  have hS1 : MS36 (sw &&& (eL q ^^^ (-1))) (upd yst q 0) := by
    refine ⟨fun x hx => ?_, fun e he => ?_⟩
    · by_cases z : x = q
      · subst z
        rw [upd_s, bL_and, bL_not _ (by omega), bL_e]
        simp [show x < 64 by omega, bI]
      · rw [upd_n _ _ z, hS.1 x hx, bL_and, bL_not _ (by omega), bL_e]
        simp [z]
    · rw [bL_and, hS.2 e he]; rfl
  have hS2 : MS36 (sw ||| eL q) (upd yst q 1) := by
    refine ⟨fun x hx => ?_, fun e he => ?_⟩
    · by_cases z : x = q
      · subst z
        rw [upd_s, bL_or, bL_e]
        simp [show x < 64 by omega, bI]
      · rw [upd_n _ _ z, hS.1 x hx, bL_or, bL_e]
        simp [z]
    · rw [bL_or, hS.2 e he, bL_e]
      have : ¬ e = q := by omega
      simp [this]
  by_cases z : a1 = 0
  · simp only [z, if_true]
    cases hb : bL sw q <;> simp only [bI_t, bI_f, i10, if_true, if_false]
    · exact ⟨_, _, _, rfl, rfl, n, p, mo', mi', dr', k, hF, hy, hE, hC, hG, hS1, hrest⟩
    · exact ⟨_, _, _, rfl, rfl, n, p, mo', mi', dr', k, hF, hy, hE, hC, hG, hS1, hrest⟩
  · simp only [z, if_false]
    cases hb : bL sw q <;> simp only [bI_t, bI_f, i10, if_true, if_false]
    · exact ⟨_, _, _, rfl, rfl, n, p, mo', mi', dr', k, hF, hy, hE, hC, hG, hS2, hrest⟩
    · exact ⟨_, _, _, rfl, rfl, n, p, mo', mi', dr', k, hF, hy, hE, hC, hG, hS2, hrest⟩
