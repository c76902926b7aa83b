-- STEP of set
theorem set28 {t : Nat} (yset : Nat → Int32) (x : Int32) (m : Nat) (M : Int64) (ht : t < 3) (hM : (nI m).toInt64 = M) (hm : m + 1 < 2 ^ 31) : fX10_set_28 yset (nI t) x x.toInt64 0 M = if ir x (m + 1) = true then some (yset t, upd yset t x) else some (-1, yset) := by
  unfold fX10_set_28
  rw [X10_in0 x m M hM hm, if_pos (inb_n ht (by decide)), cl_n (by omega)]
  cases ir x (m + 1) <;> simp [ob1, bI, i10, lets, inb_n ht (by decide : 3 < 2 ^ 31)]
set_option maxHeartbeats 1000000 in
theorem step_set : STEP_set R1d := by
  intro ea cl ga sw mo mi dr sG sC sN sz pl st row ys yse yrow yea ysh yst yset ysp ysg a0 a1 ⟨n, p, mo', mi', dr', k, hF, hy, hE, hC, hG, hS, ⟨m1, m2, m3⟩, ⟨i1, i2, i3⟩, ⟨d1, d2, d3⟩, hN⟩
  rcases ir_or a0 3 (by decide) with ha | ⟨t, ht, rfl⟩
  · have n0 : ¬ a0 = 0 := fun z => by subst z; exact absurd ha (by decide)
    have e : fX9_set mo mi dr a0 a1 = some (-1, mo, mi, dr) := by
      unfold fX9_set
      rw [if_neg n0]
      by_cases z1 : a0 < 0
      · rw [if_pos z1]
      · rw [if_neg z1, if_pos]
        rw [← Int32.not_le]
        intro z2
        obtain ⟨j, hj, rfl⟩ := nI_of2 (n := 2) (by decide) z1 z2
        rw [ir_n (by omega) (by decide)] at ha
        cases ha
    rw [e]
    simp only [fX10_set, X10_in2, ha, bI_f, ob1, if_true]
    exact ⟨_, _, _, _, _, rfl, rfl, n, p, mo', mi', dr', k, hF, hy, hE, hC, hG, hS, ⟨m1, m2, m3⟩, ⟨i1, i2, i3⟩, ⟨d1, d2, d3⟩, hN⟩
  unfold fX10_set
  rw [X10_in2, ir_n ht (by decide), set28 yset a1 9 9 ht (by decide) (by decide), set28 yset a1 35 35 ht (by decide) (by decide)]
  simp only [bI_t, i10, if_false, ob1]
  rcases (show t = 0 ∨ t = 1 ∨ t = 2 by omega) with rfl | rfl | rfl
  · rw [if_pos (show nI 0 = 0 from rfl)]
    unfold fX9_set
    rw [if_pos (show nI 0 = 0 from rfl)]
    have e : fX9_setMonths mo a1 = if ir a1 10 = true then some (mo, a1) else some (-1, mo) := by
      unfold fX9_setMonths
      rcases ir_or a1 10 (by decide) with ha | ⟨v, hv, rfl⟩
      · rw [ha]
        by_cases z1 : a1 < 0
        · simp [z1]
        · have z2 : ¬ a1 ≤ 9 := fun z => by
            obtain ⟨j, hj, rfl⟩ := nI_of2 (n := 9) (by decide) z1 z
            rw [ir_n (by omega) (by decide)] at ha
            cases ha
          simp [z1, z2]
      · rw [ir_n hv (by decide), if_neg (nI_pos (by omega)), if_pos (show nI v ≤ (9 : Int32) from (nle v 9 (by omega) (by decide)).mpr (by omega))]
        simp
    rw [e]
    rcases ir_or a1 10 (by decide) with ha | ⟨v, hv, rfl⟩
    · simp only [ha, ob2]
      exact ⟨_, _, _, _, _, rfl, rfl, n, p, mo', mi', dr', k, hF, hy, hE, hC, hG, hS, ⟨m1, m2, m3⟩, ⟨i1, i2, i3⟩, ⟨d1, d2, d3⟩, hN⟩
    · simp only [ir_n hv (by decide : 10 < 2 ^ 31), ob2, if_true]
      exact ⟨_, _, _, _, _, rfl, by rw [m2, m3], n, p, v, mi', dr', k, hF, hy, hE, hC, hG, hS, ⟨by omega, rfl, upd_s _ _ _⟩, ⟨i1, i2, by rw [upd_n _ _ (by decide)]; exact i3⟩, ⟨d1, d2, by rw [upd_n _ _ (by decide)]; exact d3⟩, hN⟩
  · rw [if_neg (show ¬ nI 1 = 0 by decide)]
    unfold fX9_set
    rw [if_neg (show ¬ nI 1 = 0 by decide), if_neg (show ¬ nI 1 < 0 by decide), if_neg (show ¬ (2 : Int32) < nI 1 by decide), X3_isSquare, if_pos (show nI 1 = 1 from rfl)]
    rcases ir_or a1 36 (by decide) with ha | ⟨v, hv, rfl⟩
    · simp only [ha, bI_f, ob1, if_true]
      exact ⟨_, _, _, _, _, rfl, rfl, n, p, mo', mi', dr', k, hF, hy, hE, hC, hG, hS, ⟨m1, m2, m3⟩, ⟨i1, i2, i3⟩, ⟨d1, d2, d3⟩, hN⟩
    · simp only [ir_n hv (by decide : 36 < 2 ^ 31), bI_t, i10, ob1, if_true, if_false]
      exact ⟨_, _, _, _, _, rfl, by rw [i2, i3], n, p, mo', v, dr', k, hF, hy, hE, hC, hG, hS, ⟨m1, m2, by rw [upd_n _ _ (by decide)]; exact m3⟩, ⟨hv, rfl, upd_s _ _ _⟩, ⟨d1, d2, by rw [upd_n _ _ (by decide)]; exact d3⟩, hN⟩
  · rw [if_neg (show ¬ nI 2 = 0 by decide)]
    unfold fX9_set
    rw [if_neg (show ¬ nI 2 = 0 by decide), if_neg (show ¬ nI 2 < 0 by decide), if_neg (show ¬ (2 : Int32) < nI 2 by decide), X3_isSquare, if_neg (show ¬ nI 2 = 1 by decide)]
    rcases ir_or a1 36 (by decide) with ha | ⟨v, hv, rfl⟩
    · simp only [ha, bI_f, ob1, if_true]
      exact ⟨_, _, _, _, _, rfl, rfl, n, p, mo', mi', dr', k, hF, hy, hE, hC, hG, hS, ⟨m1, m2, m3⟩, ⟨i1, i2, i3⟩, ⟨d1, d2, d3⟩, hN⟩
    · simp only [ir_n hv (by decide : 36 < 2 ^ 31), bI_t, i10, ob1, if_true, if_false]
      exact ⟨_, _, _, _, _, rfl, by rw [d2, d3], n, p, mo', mi', v, k, hF, hy, hE, hC, hG, hS, ⟨m1, m2, by rw [upd_n _ _ (by decide)]; exact m3⟩, ⟨i1, i2, by rw [upd_n _ _ (by decide)]; exact i3⟩, ⟨hv, rfl, upd_s _ _ _⟩, hN⟩
