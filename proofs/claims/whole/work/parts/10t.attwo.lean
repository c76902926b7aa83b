-- STEPS of at and two
def WR (w q f : Nat) (mk wh fc mm : Nat → Int32) : Prop := (∀ i, i < 36 → mk i = mm (36 * w + i)) ∧ wh w = nI q ∧ fc w = nI f ∧ q < 36 ∧ f < 4
section W2
variable {mk mm wh fc : Nat → Int32} {ga sw : Int64} {mo κ q w f : Nat} {yrow yea ysh yst yset : Nat → Int32} {ys : Int32}
theorem step_w (hM : ∀ q s, q < 36 → s < 4 → fX10_isPassable yrow ys yea ysh yst yset (nI κ) (nI q) (nI s) = some (bI (pas ga sw mo (decide (κ = 3)) q s)))
    (hκ : κ < 4) (hmo : mo ≤ 9) (hw : w < 2) (hW : WR w q f mk wh fc mm) :
    ∃ q' f' mk' wh' fc' mm', fX7_step mk (nI κ) (nI q) (nI f) ga sw (nI mo) = some (mk', nI q', nI f') ∧ fX10_step yrow ys yea ysh yst yset wh fc mm (nI w) (nI κ) = some (wh', fc', mm') ∧ WR w q' f' mk' wh' fc' mm' ∧
      ∀ w', w' < 2 → w' ≠ w → wh' w' = wh w' ∧ fc' w' = fc w' ∧ ∀ i, i < 36 → mm' (36 * w' + i) = mm (36 * w' + i) := by
  obtain ⟨h1, h2, h3, hq, hf⟩ := hW
  rcases step_l hM hκ hmo hq hf hw h1 h2 h3 with ⟨e1, e2⟩ | ⟨s, hs, hp, e1, e2⟩
  · exact ⟨_, _, _, _, _, _, e1, e2, ⟨h1, h2, h3, hq, hf⟩, fun w' _ _ => ⟨rfl, rfl, fun _ _ => rfl⟩⟩
  · have hle := tb_n1 q hq s hs
    have hn := pas_nx hp
    refine ⟨_, _, _, _, _, _, e1, e2, ⟨fun i hi => ?_, upd_s _ _ _, upd_s _ _ _, by omega, hs⟩, fun w' hw' hne => ⟨upd_n _ _ hne, upd_n _ _ hne, fun i hi => upd_n _ _ (by omega)⟩⟩
    by_cases z : i = q
    · subst z; rw [upd_s, upd_s, h1 _ hi]
    · rw [upd_n _ _ z, upd_n _ _ (by omega), h1 _ hi]
theorem begin_cl (a b c : Int32) : ∀ N k (mk : Nat → Int32), k ≤ 36 → 37 ≤ k + N → (∀ i, i < k → mk i = 0) → ∃ mk', fX7_begin_18 N mk a b c (nI k) = some (mk', a, b, c) ∧ ∀ i, i < 36 → mk' i = 0 := by
  intro N
  induction N with
  | zero => intro k mk h1 h2; omega
  | succ N ih =>
    intro k mk h1 h2 h3
    rw [fX7_begin_18]
    by_cases z : k = 36
    · subst z
      rw [if_pos (by decide)]
      exact ⟨mk, rfl, h3⟩
    · rw [if_neg (litF (c := 36) (C := 36) rfl (by omega) (by decide)), if_pos (inb_n (by omega) (by decide)), cl_n (by omega), nI_1]
      refine ih (k + 1) _ (by omega) (by omega) (fun i hi => ?_)
      by_cases y : i = k
      · subst y; exact upd_s _ _ _
      · rw [upd_n _ _ y]; exact h3 i (by omega)
theorem begin_c (mk : Nat → Int32) (κ q s a b c : Int32) : ∃ mk', fX7_begin mk κ q s a b c = some (mk', a, b, c) ∧ ∀ i, i < 36 → mk' i = 0 := by
  unfold fX7_begin
  exact begin_cl a b c 4000 0 mk (by decide) (by decide) (fun i hi => absurd hi (by omega))
theorem begin_ml {w : Nat} (hw : w < 2) (wh fc : Nat → Int32) : ∀ N k (mm : Nat → Int32), k ≤ 36 → 37 ≤ k + N → ∃ mm', fX10_begin_17 N wh fc mm (nI w) (nI k) = some (wh, fc, mm') ∧ (∀ i, k ≤ i → i < 36 → mm' (36 * w + i) = 0) ∧ ∀ i, (i < 36 * w + k ∨ 36 * w + 36 ≤ i) → mm' i = mm i := by
  intro N
  induction N with
  | zero => intro k mm h1 h2; omega
  | succ N ih =>
    intro k mm h1 h2
    rw [fX10_begin_17]
    by_cases z : k = 36
    · subst z
      rw [if_pos (by decide)]
      exact ⟨mm, rfl, fun i a b => by omega, fun i _ => rfl⟩
    · rw [if_neg (litF (c := 36) (C := 36) rfl (by omega) (by decide)), i36, if_pos (inb_n (by omega) (by decide)), cl_n (by omega), nI_1]
      obtain ⟨mm', e, g1, g2⟩ := ih (k + 1) (upd mm (36 * w + k) 0) (by omega) (by omega)
      refine ⟨mm', e, fun i a b => ?_, fun i a => ?_⟩
      · by_cases y : i = k
        · subst y; rw [g2 _ (by omega), upd_s]
        · exact g1 i (by omega) b
      · rw [g2 i (by omega), upd_n _ _ (by omega)]
theorem begin_m {w : Nat} (hw : w < 2) (wh fc mm : Nat → Int32) (b c : Int32) : ∃ mm', fX10_begin wh fc mm (nI w) b c = some (upd wh w b, upd fc w c, mm') ∧ (∀ i, i < 36 → mm' (36 * w + i) = 0) ∧ ∀ i, (i < 36 * w ∨ 36 * w + 36 ≤ i) → mm' i = mm i := by
  unfold fX10_begin
  rw [if_pos (inb_n hw (by decide)), if_pos (inb_n hw (by decide)), cl_n (by omega)]
  obtain ⟨mm', e, g1, g2⟩ := begin_ml hw (upd wh w b) (upd fc w c) 4000 0 mm (by decide) (by decide)
  exact ⟨mm', e, fun i hi => g1 i (Nat.zero_le _) hi, fun i hi => g2 i (by omega)⟩
theorem there_v {mi : Nat} (hw : w < 2) (hwh : wh w = nI q) (hq : q < 36) (hmi : mi < 36) (hy : yset 1 = nI mi) : fX10_isThere yset wh (nI w) = some (bI (decide (q = mi))) := by
  unfold fX10_isThere
  rw [if_pos (inb_n hw (by decide)), cl_n (by omega), hwh, show (1 : Int32).toNatClampNeg = 1 from rfl, hy]
  by_cases h : q = mi
  · rw [if_pos (by rw [h]), decide_eq_true h]; rfl
  · rw [if_neg (fun z => h ((nI_eq (by omega) (by omega)).mp z)), decide_eq_false h]; rfl
theorem walk50 {mi : Nat} (hwh : wh 0 = nI q) (hq : q < 36) (hmi : mi < 36) (hy : yset 1 = nI mi) : ∃ r, fX10_walkOf_50 yset wh fc mm = some (r, wh, fc, mm) := by
  unfold fX10_walkOf_50
  have ht := there_v (w := 0) (yset := yset) (by decide) hwh hq hmi hy
  rw [show (0 : Int32) = nI 0 from rfl, ht, o1]
  by_cases h : bI (decide (q = mi)) = nI 0
  · rw [if_pos h]; exact ⟨_, rfl⟩
  · rw [if_neg h]; exact ⟨_, rfl⟩
theorem at_l {mi k : Nat} (hM : ∀ q s, q < 36 → s < 4 → fX10_isPassable yrow ys yea ysh yst yset (nI κ) (nI q) (nI s) = some (bI (pas ga sw mo (decide (κ = 3)) q s)))
    (hκ : κ < 4) (hmo : mo ≤ 9) (hmi : mi < 36) (hy : yset 1 = nI mi) (hk : k ≤ 999) :
    ∀ N M i q f (mk wh fc mm : Nat → Int32), i ≤ k → k + 2 ≤ i + N → k + 2 ≤ i + M → WR 0 q f mk wh fc mm →
    ∃ q' f' mk' r wh' fc' mm', fX9_at_37 ga sw (nI mo) (nI mi) N mk (nI κ) (nI q) (nI f) (nI k) (nI i) = some (nI q', mk', nI κ, nI q', nI f') ∧
      fX10_walkOf_10 yrow ys yea ysh yst yset M wh fc mm (nI κ) (nI k) (nI i) = some (r, wh', fc', mm') ∧ wh' 0 = nI q' := by
  intro N
  induction N with
  | zero => intro M i q f mk wh fc mm h1 h2; omega
  | succ N ih =>
    intro M i q f mk wh fc mm h1 h2 h3 hW
    obtain ⟨M, rfl⟩ : ∃ m, M = m + 1 := ⟨M - 1, by omega⟩
    rw [fX9_at_37, fX10_walkOf_10]
    have ht := there_v (w := 0) (yset := yset) (by decide) hW.2.1 hW.2.2.2.1 hmi hy
    by_cases z : i = k
    · subst z
      rw [if_pos (nleT (Nat.le_refl _) (by omega)), if_pos (nleT (Nat.le_refl _) (by omega))]
      obtain ⟨r, e⟩ := walk50 (yset := yset) (fc := fc) (mm := mm) hW.2.1 hW.2.2.2.1 hmi hy
      exact ⟨q, f, mk, r, _, _, _, rfl, e, hW.2.1⟩
    · rw [if_neg (nleF (by omega) (by omega)), if_neg (nleF (by omega) (by omega)), show fX10_isThere yset wh 0 = fX10_isThere yset wh (nI 0) from rfl, ht, o1]
      by_cases y : q = mi
      · subst y
        rw [if_pos rfl, decide_eq_true rfl, if_neg (show ¬ bI true = 0 by decide)]
        obtain ⟨r, e⟩ := walk50 (yset := yset) (fc := fc) (mm := mm) hW.2.1 hW.2.2.2.1 hmi hy
        exact ⟨q, f, mk, r, _, _, _, rfl, e, hW.2.1⟩
      · obtain ⟨q', f', mk', wh', fc', mm', e1, e2, hW', -⟩ := step_w hM hκ hmo (show 0 < 2 by decide) hW
        have ht' := there_v (w := 0) (yset := yset) (by decide) hW'.2.1 hW'.2.2.2.1 hmi hy
        rw [if_neg (fun x => y ((nI_eq (by have := hW.2.2.2.1; omega) (by omega)).mp x)), decide_eq_false y, if_pos (show bI false = 0 by decide), e1, o3, show fX10_step yrow ys yea ysh yst yset wh fc mm 0 (nI κ) = fX10_step yrow ys yea ysh yst yset wh fc mm (nI 0) (nI κ) from rfl, e2, o3, show fX10_isThere yset wh' 0 = fX10_isThere yset wh' (nI 0) from rfl, ht', o1]
        simp only [nI_1]
        by_cases x : q' = mi
        · subst x
          rw [decide_eq_true rfl, if_neg (show ¬ bI true = 0 by decide)]
          obtain ⟨N, rfl⟩ : ∃ m, N = m + 1 := ⟨N - 1, by omega⟩
          rw [fX9_at_37]
          refine ⟨q', f', mk', nI (i + 1), _, _, _, ?_, rfl, hW'.2.1⟩
          by_cases v : nI k ≤ nI (i + 1)
          · rw [if_pos v]; rfl
          · rw [if_neg v, if_pos rfl]; rfl
        · rw [decide_eq_false x, if_pos (show bI false = 0 by decide)]
          exact ih M (i + 1) q' f' mk' wh' fc' mm' (by omega) (by omega) (by omega) hW'
end W2
theorem start_v (a b c : Int32) : fX9_isStart a b c = some (bI (ir a 4 && (ir b 36 && ir c 4))) := by
  unfold fX9_isStart
  rw [X9_isKind, o1]
  cases ir a 4 with
  | false => rw [if_pos (by decide)]; rfl
  | true =>
    rw [if_neg (show ¬ bI true = 0 by decide), X3_isSquare, o1]
    cases ir b 36 with
    | false => rw [if_pos (by decide)]; rfl
    | true =>
      rw [if_neg (show ¬ bI true = 0 by decide), X3_isSide, o1]
      cases ir c 4 with
      | false => rw [if_pos (by decide)]; rfl
      | true => rw [if_neg (by decide)]; rfl
theorem WR_b {w q f : Nat} {mk mm wh fc : Nat → Int32} (hq : q < 36) (hf : f < 4) (h1 : ∀ i, i < 36 → mk i = 0) (h2 : ∀ i, i < 36 → mm (36 * w + i) = 0) : WR w q f mk (upd wh w (nI q)) (upd fc w (nI f)) mm :=
  ⟨fun i hi => by rw [h1 i hi, h2 i hi], upd_s _ _ _, upd_s _ _ _, hq, hf⟩
theorem ir999 (a : Int32) : (a < 0 ∧ ir a 1000 = false) ∨ (¬ a < 0 ∧ ¬ a ≤ 999 ∧ ir a 1000 = false) ∨ ∃ k, k ≤ 999 ∧ a = nI k := by
  by_cases h : a < 0
  · refine Or.inl ⟨h, ?_⟩
    unfold ir
    rw [decide_eq_false (fun z => by rw [Int32.not_le.symm] at h; exact h z), Bool.false_and]
  · obtain ⟨k, hk, rfl⟩ := nI_of h
    by_cases h2 : k < 1000
    · exact Or.inr (Or.inr ⟨k, by omega, rfl⟩)
    · refine Or.inr (Or.inl ⟨h, fun z => ?_, ?_⟩)
      · have := (nle k 999 hk (by decide)).mp z; omega
      · unfold ir
        rw [decide_eq_false (show ¬ nI k < nI 1000 from fun z => by have := (nlt k 1000 hk (by decide)).mp z; omega), Bool.and_false]
theorem step_at : STEP_at R1d := by
  intro ea cl ga sw mo mi dr sG sC sN sz pl st row wk wq ws wm ys yse yrow yea ysh yst yset ysp ysg wh fc mm a0 a1 a2 a3 ⟨n, p, mo', mi', dr', k, hF, ⟨hys, hyr⟩, ⟨hE, h10⟩, hC, hG, hS, ⟨hm1, hm2, hm3⟩, ⟨hi1, hi2, hi3⟩, hd, hN⟩
  subst hys
  unfold fX9_at fX10_at
  rw [start_v, o1, X10_in3, o1, X10_isSide, X10_in999]
  rcases ir_or a0 4 (by decide) with ha | ⟨κ, hκ, rfl⟩
  · rw [ha, Bool.false_and, bI_f, if_pos rfl, if_pos rfl]; exact ⟨_, _, _, _, _, _, _, _, rfl, rfl⟩
  rw [ir_n hκ (by decide), Bool.true_and, bI_t, if_neg (show ¬ (1 : Int32) = 0 by decide), o1]
  cases hb : (ir a1 36 && ir a2 4) with
  | false => rw [bI_f, if_pos rfl, if_pos rfl]; exact ⟨_, _, _, _, _, _, _, _, rfl, rfl⟩
  | true =>
    rw [Bool.and_eq_true] at hb
    obtain ⟨q, hq, rfl⟩ := (ir_t (by decide)).mp hb.1
    obtain ⟨f, hf, rfl⟩ := (ir_t (by decide)).mp hb.2
    rw [bI_t, if_neg (show ¬ (1 : Int32) = 0 by decide), if_neg (show ¬ (1 : Int32) = 0 by decide), o1]
    rcases ir999 a3 with ⟨g1, g2⟩ | ⟨g0, g1, g2⟩ | ⟨j, hj, rfl⟩
    · rw [if_pos g1, g2, bI_f, if_pos rfl]; exact ⟨_, _, _, _, _, _, _, _, rfl, rfl⟩
    · rw [if_neg g0, if_neg g1, g2, bI_f, if_pos rfl]; exact ⟨_, _, _, _, _, _, _, _, rfl, rfl⟩
    · rw [if_neg (nI_pos (by omega)), if_pos (show nI j ≤ 999 from (nle j 999 (by omega) (by decide)).mpr hj), ir_n (show j < 1000 by omega) (by decide), bI_t, if_neg (show ¬ (1 : Int32) = 0 by decide)]
      obtain ⟨mk', b1, b2⟩ := begin_c wm wk wq ws (nI κ) (nI q) (nI f)
      obtain ⟨mm', c1, c2, -⟩ := begin_m (show 0 < 2 by decide) wh fc mm (nI q) (nI f)
      rw [nI_z] at c1
      have hM : ∀ q s, q < 36 → s < 4 → fX10_isPassable yrow (nI n) yea ysh yst yset (nI κ) (nI q) (nI s) = some (bI (pas ga sw mo' (decide (κ = 3)) q s)) := fun q s hq hs => pas_m hF hyr hE hC hG hS hm3 hm1 hκ hq hs
      obtain ⟨q', f', mk2, r, wh', fc', mm2, e1, e2, e3⟩ := at_l hM hκ hm1 hi1 hi3 hj 4000 4000 0 q f mk' (upd wh 0 (nI q)) (upd fc 0 (nI f)) mm' (Nat.zero_le _) (by omega) (by omega) (WR_b hq hf b2 c2)
      rw [nI_z] at e1 e2
      rw [b1, o4, hm2, hi2, e1]
      unfold fX10_walkOf
      rw [c1, o3, e2, o4, show (0 : Int32).toNatClampNeg = 0 from rfl, e3]
      exact ⟨_, _, _, _, _, _, _, _, rfl, rfl⟩

theorem tb_m2 : ∀ t, t < 2000 → nI t - nI t / (2 : Int32) * (2 : Int32) = nI (t % 2) := by decide +kernel
section Two
variable {ga sw : Int64} {mo κ₁ κ₂ mi : Nat} {yrow yea ysh yst yset : Nat → Int32} {ys : Int32}
theorem two_113 {q₁ q₂ i : Nat} {wh fc mm : Nat → Int32} (h1 : wh 0 = nI q₁) (h2 : wh 1 = nI q₂) (hq1 : q₁ < 36) (hq2 : q₂ < 36) (hmi : mi < 36) (hy : yset 1 = nI mi) : fX10_two_113 yset wh fc mm (nI i) = some (if q₁ = mi ∨ q₂ = mi then nI i else -4, wh, fc, mm) := by
  unfold fX10_two_113
  rw [show fX10_isThere yset wh 0 = fX10_isThere yset wh (nI 0) from rfl, show fX10_isThere yset wh 1 = fX10_isThere yset wh (nI 1) from rfl, there_v (by decide) h1 hq1 hmi hy, there_v (by decide) h2 hq2 hmi hy, o1]
  by_cases y : q₁ = mi
  · rw [decide_eq_true y, if_neg (show ¬ bI true = 0 by decide), if_pos (Or.inl y)]
  · rw [decide_eq_false y, if_pos (show bI false = 0 by decide), o1]
    by_cases y2 : q₂ = mi
    · rw [decide_eq_true y2, if_neg (show ¬ bI true = 0 by decide), if_pos (Or.inr y2)]
    · rw [decide_eq_false y2, if_pos (show bI false = 0 by decide), if_neg (fun z => z.elim y y2)]
theorem two_end {q₁ q₂ i M : Nat} {x1 x3 : Int32} {wh fc mm : Nat → Int32} (h1 : wh 0 = nI q₁) (h2 : wh 1 = nI q₂) (hq1 : q₁ < 36) (hq2 : q₂ < 36) (hmi : mi < 36) (hy : yset 1 = nI mi) (h : q₁ = mi ∨ q₂ = mi) : fX10_two_63 yrow ys yea ysh yst yset (M + 1) wh fc mm x1 x3 (nI i) = some (nI i, wh, fc, mm) := by
  rw [fX10_two_63, two_113 h1 h2 hq1 hq2 hmi hy, if_pos h, show fX10_isThere yset wh 0 = fX10_isThere yset wh (nI 0) from rfl, show fX10_isThere yset wh 1 = fX10_isThere yset wh (nI 1) from rfl, there_v (by decide) h1 hq1 hmi hy, there_v (by decide) h2 hq2 hmi hy, o1]
  by_cases y : q₁ = mi
  · rw [decide_eq_true y, if_neg (show ¬ bI true = 0 by decide)]
  · rw [decide_eq_false y, if_pos (show bI false = 0 by decide), o1, decide_eq_true (h.resolve_left y), if_neg (show ¬ bI true = 0 by decide)]
theorem two_l (hM : ∀ κ, κ < 4 → ∀ q s, q < 36 → s < 4 → fX10_isPassable yrow ys yea ysh yst yset (nI κ) (nI q) (nI s) = some (bI (pas ga sw mo (decide (κ = 3)) q s)))
    (hκ1 : κ₁ < 4) (hκ2 : κ₂ < 4) (hmo : mo ≤ 9) (hmi : mi < 36) (hy : yset 1 = nI mi) :
    ∀ N M i q₁ f₁ q₂ f₂ (mk₁ mk₂ wh fc mm : Nat → Int32), i ≤ 1998 → 2000 ≤ i + N → 2000 ≤ i + M → WR 0 q₁ f₁ mk₁ wh fc mm → WR 1 q₂ f₂ mk₂ wh fc mm → q₁ ≠ mi → q₂ ≠ mi →
    ∃ ret mk₁' q₁' f₁' mk₂' q₂' f₂' wh' fc' mm', fX9_two_74 ga sw (nI mo) (nI mi) N mk₁ (nI κ₁) (nI q₁) (nI f₁) mk₂ (nI κ₂) (nI q₂) (nI f₂) (nI (i + 1)) = some (ret, mk₁', nI κ₁, q₁', f₁', mk₂', nI κ₂, q₂', f₂') ∧
      fX10_two_63 yrow ys yea ysh yst yset M wh fc mm (nI κ₁) (nI κ₂) (nI i) = some (ret, wh', fc', mm') := by
  intro N
  induction N with
  | zero => intro M i q₁ f₁ q₂ f₂ mk₁ mk₂ wh fc mm h1 h2; omega
  | succ N ih =>
    intro M i q₁ f₁ q₂ f₂ mk₁ mk₂ wh fc mm h1 h2 h3 hW1 hW2 hn1 hn2
    obtain ⟨M, rfl⟩ : ∃ m, M = m + 1 := ⟨M - 1, by omega⟩
    have ht1 := there_v (w := 0) (yset := yset) (by decide) hW1.2.1 hW1.2.2.2.1 hmi hy
    have ht2 := there_v (w := 1) (yset := yset) (by decide) hW2.2.1 hW2.2.2.2.1 hmi hy
    rw [fX9_two_74, fX10_two_63, two_113 hW1.2.1 hW2.2.1 hW1.2.2.2.1 hW2.2.2.2.1 hmi hy, if_neg (show ¬ (q₁ = mi ∨ q₂ = mi) from fun z => z.elim hn1 hn2), show fX10_isThere yset wh 0 = fX10_isThere yset wh (nI 0) from rfl, show fX10_isThere yset wh 1 = fX10_isThere yset wh (nI 1) from rfl, ht1, o1, ht2, decide_eq_false hn1, decide_eq_false hn2, if_pos (show bI false = 0 by decide), o1, if_pos (show bI false = 0 by decide)]
    by_cases z : i = 1998
    · subst z
      rw [if_pos (show (1998 : Int32) < nI (1998 + 1) by decide), if_pos (show (1998 : Int32) ≤ nI 1998 by decide)]
      exact ⟨_, _, _, _, _, _, _, _, _, _, rfl, rfl⟩
    rw [if_neg (show ¬ (1998 : Int32) < nI (i + 1) from fun y => by have := (nlt 1998 (i + 1) (by decide) (by omega)).mp y; omega), if_neg (litF (c := 1998) (C := 1998) rfl (by omega) (by decide)), tb_m2 (i + 1) (by omega), tb_m2 i (by omega)]
    unfold fX9_two_117 fX10_two_104
    by_cases hp : i % 2 = 0
    · rw [show (i + 1) % 2 = 1 by omega, hp, if_pos (show nI 1 = 1 from rfl), if_pos (show nI 0 = 0 from rfl)]
      obtain ⟨q', f', mk', wh', fc', mm', e1, e2, hW', ho⟩ := step_w (hM κ₁ hκ1) hκ1 hmo (show 0 < 2 by decide) hW1
      obtain ⟨g1, g2, g3⟩ := ho 1 (by decide) (by decide)
      have hW2' : WR 1 q₂ f₂ mk₂ wh' fc' mm' := ⟨fun i hi => by rw [g3 i hi]; exact hW2.1 i hi, by rw [g1]; exact hW2.2.1, by rw [g2]; exact hW2.2.2.1, hW2.2.2.2⟩
      rw [e1, o3, e2, o3]
      simp only [nI_1]
      by_cases x : q' = mi
      · obtain ⟨M, rfl⟩ : ∃ m, M = m + 1 := ⟨M - 1, by omega⟩
        rw [if_pos (by rw [x]), two_end hW'.2.1 hW2'.2.1 hW'.2.2.2.1 hW2'.2.2.2.1 hmi hy (Or.inl x)]
        exact ⟨_, _, _, _, _, _, _, _, _, _, rfl, rfl⟩
      · rw [if_neg (fun y => x ((nI_eq (by have := hW'.2.2.2.1; omega) (by omega)).mp y))]
        exact ih M (i + 1) q' f' q₂ f₂ mk' mk₂ wh' fc' mm' (by omega) (by omega) (by omega) hW' hW2' x hn2
    · rw [show (i + 1) % 2 = 0 by omega, show i % 2 = 1 by omega, if_neg (show ¬ nI 0 = 1 by decide), if_neg (show ¬ nI 1 = 0 by decide)]
      obtain ⟨q', f', mk', wh', fc', mm', e1, e2, hW', ho⟩ := step_w (hM κ₂ hκ2) hκ2 hmo (show 1 < 2 by decide) hW2
      obtain ⟨g1, g2, g3⟩ := ho 0 (by decide) (by decide)
      have hW1' : WR 0 q₁ f₁ mk₁ wh' fc' mm' := ⟨fun i hi => by rw [g3 i hi]; exact hW1.1 i hi, by rw [g1]; exact hW1.2.1, by rw [g2]; exact hW1.2.2.1, hW1.2.2.2⟩
      rw [e1, o3, e2, o3]
      simp only [nI_1]
      by_cases x : q' = mi
      · obtain ⟨M, rfl⟩ : ∃ m, M = m + 1 := ⟨M - 1, by omega⟩
        rw [if_pos (by rw [x]), two_end hW1'.2.1 hW'.2.1 hW1'.2.2.2.1 hW'.2.2.2.1 hmi hy (Or.inr x)]
        exact ⟨_, _, _, _, _, _, _, _, _, _, rfl, rfl⟩
      · rw [if_neg (fun y => x ((nI_eq (by have := hW'.2.2.2.1; omega) (by omega)).mp y))]
        exact ih M (i + 1) q₁ f₁ q' f' mk₁ mk' wh' fc' mm' (by omega) (by omega) (by omega) hW1' hW' hn1 x
end Two
theorem step_two : STEP_two R1d := by
  intro ea cl ga sw mo mi dr sG sC sN sz pl st row wk wq ws wm vk vq vs vm ys yse yrow yea ysh yst yset ysp ysg wh fc mm a0 a1 a2 a3 a4 ⟨n, p, mo', mi', dr', k, hF, ⟨hys, hyr⟩, ⟨hE, h10⟩, hC, hG, hS, ⟨hm1, hm2, hm3⟩, ⟨hi1, hi2, hi3⟩, hd, hN⟩
  subst hys
  unfold fX9_two fX10_two
  rw [start_v, o1, X10_in3, o1, X10_isSide, X10_in3, X10_isSquare, start_v, o1]
  rcases ir_or a0 4 (by decide) with ha | ⟨κ, hκ, rfl⟩
  · rw [ha, Bool.false_and, bI_f, if_pos rfl, if_pos rfl]; exact ⟨_, _, _, _, _, _, _, _, _, _, _, _, rfl, rfl⟩
  rw [ir_n hκ (by decide), Bool.true_and, bI_t, if_neg (show ¬ (1 : Int32) = 0 by decide), o1]
  cases hb : (ir a1 36 && ir a4 4) with
  | false => rw [bI_f, if_pos rfl, if_pos rfl]; exact ⟨_, _, _, _, _, _, _, _, _, _, _, _, rfl, rfl⟩
  | true =>
    rw [Bool.and_eq_true] at hb
    obtain ⟨q, hq, rfl⟩ := (ir_t (by decide)).mp hb.1
    obtain ⟨f, hf, rfl⟩ := (ir_t (by decide)).mp hb.2
    rw [bI_t, if_neg (show ¬ (1 : Int32) = 0 by decide), if_neg (show ¬ (1 : Int32) = 0 by decide), o1, hb.2, Bool.and_true]
    rcases ir_or a2 4 (by decide) with ha | ⟨κ', hκ', rfl⟩
    · rw [ha, Bool.false_and, bI_f, if_pos rfl, if_pos rfl]; exact ⟨_, _, _, _, _, _, _, _, _, _, _, _, rfl, rfl⟩
    rw [ir_n hκ' (by decide), Bool.true_and, bI_t, if_neg (show ¬ (1 : Int32) = 0 by decide), o1]
    rcases ir_or a3 36 (by decide) with ha | ⟨q', hq', rfl⟩
    · rw [ha, bI_f, if_pos rfl, if_pos rfl]; exact ⟨_, _, _, _, _, _, _, _, _, _, _, _, rfl, rfl⟩
    rw [ir_n hq' (by decide), bI_t, if_neg (show ¬ (1 : Int32) = 0 by decide), if_neg (show ¬ (1 : Int32) = 0 by decide)]
    obtain ⟨mk₁, b1, b2⟩ := begin_c wm wk wq ws (nI κ) (nI q) (nI f)
    obtain ⟨mk₂, b3, b4⟩ := begin_c vm vk vq vs (nI κ') (nI q') (nI f)
    obtain ⟨mm₁, c1, c2, -⟩ := begin_m (show 0 < 2 by decide) wh fc mm (nI q) (nI f)
    obtain ⟨mm₂, c3, c4, c5⟩ := begin_m (show 1 < 2 by decide) (upd wh 0 (nI q)) (upd fc 0 (nI f)) mm₁ (nI q') (nI f)
    have hM : ∀ κ, κ < 4 → ∀ q s, q < 36 → s < 4 → fX10_isPassable yrow (nI n) yea ysh yst yset (nI κ) (nI q) (nI s) = some (bI (pas ga sw mo' (decide (κ = 3)) q s)) := fun κ hκ q s hq hs => pas_m hF hyr hE hC hG hS hm3 hm1 hκ hq hs
    have hW1 : WR 0 q f mk₁ (upd (upd wh 0 (nI q)) 1 (nI q')) (upd (upd fc 0 (nI f)) 1 (nI f)) mm₂ := ⟨fun i hi => by rw [b2 i hi, c5 _ (by omega), c2 i hi], by rw [upd_n _ _ (by decide), upd_s], by rw [upd_n _ _ (by decide), upd_s], hq, hf⟩
    have hW2 : WR 1 q' f mk₂ (upd (upd wh 0 (nI q)) 1 (nI q')) (upd (upd fc 0 (nI f)) 1 (nI f)) mm₂ := WR_b hq' hf b4 c4
    rw [show fX10_begin wh fc mm 0 (nI q) (nI f) = fX10_begin wh fc mm (nI 0) (nI q) (nI f) from rfl, c1, o3, show fX10_begin (upd wh 0 (nI q)) (upd fc 0 (nI f)) mm₁ 1 (nI q') (nI f) = fX10_begin (upd wh 0 (nI q)) (upd fc 0 (nI f)) mm₁ (nI 1) (nI q') (nI f) from rfl, c3, o3, hi2]
    by_cases z1 : q = mi'
    · have em := two_end (M := 3999) (i := 0) (yrow := yrow) (ys := nI n) (yea := yea) (ysh := ysh) (yst := yst) (x1 := nI κ) (x3 := nI κ') hW1.2.1 hW2.2.1 hq hq' hi1 hi3 (Or.inl z1) (fc := upd (upd fc 0 (nI f)) 1 (nI f)) (mm := mm₂)
      rw [nI_z, show 3999 + 1 = 4000 from rfl] at em
      rw [if_pos (by rw [z1]), em]
      exact ⟨_, _, _, _, _, _, _, _, _, _, _, _, rfl, rfl⟩
    rw [if_neg (fun y => z1 ((nI_eq (by omega) (by omega)).mp y))]
    by_cases z2 : q' = mi'
    · have em := two_end (M := 3999) (i := 0) (yrow := yrow) (ys := nI n) (yea := yea) (ysh := ysh) (yst := yst) (x1 := nI κ) (x3 := nI κ') hW1.2.1 hW2.2.1 hq hq' hi1 hi3 (Or.inr z2) (fc := upd (upd fc 0 (nI f)) 1 (nI f)) (mm := mm₂)
      rw [nI_z, show 3999 + 1 = 4000 from rfl] at em
      rw [if_pos (by rw [z2]), em]
      exact ⟨_, _, _, _, _, _, _, _, _, _, _, _, rfl, rfl⟩
    rw [if_neg (fun y => z2 ((nI_eq (by omega) (by omega)).mp y)), b1, o4, b3, o4, hm2]
    obtain ⟨ret, r1, r2, r3, r4, r5, r6, r7, r8, r9, e1, e2⟩ := two_l hM hκ hκ' hm1 hi1 hi3 4000 4000 0 q f q' f mk₁ mk₂ _ _ mm₂ (by decide) (by decide) (by decide) hW1 hW2 z1 z2
    rw [nI_z] at e2
    rw [show nI (0 + 1) = 1 from rfl] at e1
    exact ⟨_, _, _, _, _, _, _, _, _, _, _, _, e1, e2⟩
