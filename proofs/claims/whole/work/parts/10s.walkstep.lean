-- WALKERS: the side chosen, the step
def oC : Option Nat → Int32
  | none => -4
  | some s => nI s
def oM : Option Nat → Int32
  | none => -1
  | some s => nI s
def zM (κ w q : Nat) (mm : Nat → Int32) : Option Nat → Int32
  | none => 0
  | some s => if κ = 1 then 0 else mm (36 * w + nx q s)
theorem i36 (w i : Nat) : (36 : Int32) * nI w + nI i = nI (36 * w + i) := by
  show nI 36 * nI w + nI i = _
  rw [pk_mul, nI_add]
section Cho2
variable {mk mm wh fc : Nat → Int32} {ga sw : Int64} {mo κ q w f : Nat} {yrow yea ysh yst yset : Nat → Int32} {ys : Int32}
theorem child_eq (κ : Nat) (hκ : κ < 4) {α : Type} (x : Int32 → α) : (if nI κ = 3 then x 1 else x 0) = x (bI (decide (κ = 3))) := by
  by_cases h : κ = 3
  · rw [if_pos (show nI κ = 3 by rw [h]; rfl), decide_eq_true h]; rfl
  · rw [if_neg (eqF (c := 3) (C := 3) rfl h (by omega) (by decide)), decide_eq_false h]; rfl
theorem cho_l (hM : ∀ q s, q < 36 → s < 4 → fX10_isPassable yrow ys yea ysh yst yset (nI κ) (nI q) (nI s) = some (bI (pas ga sw mo (decide (κ = 3)) q s)))
    (hκ : κ < 4) (hκ0 : κ ≠ 0) (hmo : mo ≤ 9) (hq : q < 36) (hf : f < 4) (hw : w < 2) (hmm : ∀ i, i < 36 → mk i = mm (36 * w + i)) (hfc : fc w = nI f) :
    ∀ N M t (o : Option Nat), t ≤ 4 → 5 ≤ t + N → 5 ≤ t + M → (∀ s, o = some s → s < 4 ∧ pas ga sw mo (decide (κ = 3)) q s = true) →
    ∃ r : Option Nat, (∀ s, r = some s → s < 4 ∧ pas ga sw mo (decide (κ = 3)) q s = true) ∧
      fX7_chosenSide_28 mk (nI κ) (nI q) ga sw (nI mo) N (nI (tu f (t % 4))) (oC o) (nI t) = some (oC r) ∧
      fX10_sideFor_66 yrow ys yea ysh yst yset fc mm M (nI w) (nI κ) (nI q) (oM o) (zM κ w q mm o) (nI t) = some (oM r) := by
  intro N
  induction N with
  | zero => intro M t o h1 h2; omega
  | succ N ih =>
    intro M t o h1 h2 h3 ho
    obtain ⟨M, rfl⟩ : ∃ m, M = m + 1 := ⟨M - 1, by omega⟩
    rw [fX7_chosenSide_28, fX10_sideFor_66]
    by_cases z : t = 4
    · subst z
      rw [if_pos (show (4 : Int32) ≤ nI 4 by decide), if_pos (show (4 : Int32) ≤ nI 4 by decide)]
      exact ⟨o, ho, rfl, rfl⟩
    have ht : t < 4 := by omega
    obtain ⟨hR, ha⟩ := tb_rt f hf t ht
    have hmod : t % 4 = t := Nat.mod_eq_of_lt ht
    rw [hmod, if_neg (litF (c := 4) (C := 4) rfl ht (by decide)), if_neg (litF (c := 4) (C := 4) rfl ht (by decide)), child_eq κ hκ (fun s => fX7_chosenSide_48 (fX7_chosenSide_28 mk (nI κ) (nI q) ga sw (nI mo) N) mk (nI κ) (nI q) ga sw (nI mo) (nI (tu f t)) (oC o) (nI t) s), if_pos (inb_n hw (by decide)), cl_n (by omega), hfc, tb_tu f hf t ht, o1, hM q (tu f t) hq ha, o1]
    generalize hA : tu f t = a at hR ha ⊢
    cases hp : pas ga sw mo (decide (κ = 3)) q a with
    | false =>
      rw [if_pos (show bI false = 0 by decide), cs_no _ _ hmo hq ha hR _ hp]
      unfold fX10_sideFor_170
      rw [nI_1]
      exact ih M (t + 1) o (by omega) (by omega) (by omega) ho
    | true =>
      have hn := pas_nx hp
      have hle := tb_n1 q hq a ha
      have hmodel : (if nI κ = 1 then fX10_sideFor_121 (fX10_sideFor_66 yrow ys yea ysh yst yset fc mm M) (nI w) (nI κ) (nI q) (oM o) (zM κ w q mm o) (nI t) (nI a) (0 : Int32) else ob1 (fX10_nextTo (nI q) (nI a)) fun r6 => (if inb (((36 : Int32) * nI w) + r6) 72 = true then fX10_sideFor_121 (fX10_sideFor_66 yrow ys yea ysh yst yset fc mm M) (nI w) (nI κ) (nI q) (oM o) (zM κ w q mm o) (nI t) (nI a) ((mm (((36 : Int32) * nI w) + r6).toNatClampNeg)) else none)) = fX10_sideFor_121 (fX10_sideFor_66 yrow ys yea ysh yst yset fc mm M) (nI w) (nI κ) (nI q) (oM o) (zM κ w q mm o) (nI t) (nI a) (zM κ w q mm (some a)) := by
        by_cases h1 : κ = 1
        · rw [if_pos (show nI κ = 1 by rw [h1]; rfl)]
          show _ = fX10_sideFor_121 _ _ _ _ _ _ _ _ (if κ = 1 then 0 else mm (36 * w + nx q a))
          rw [if_pos h1]
        · rw [if_neg (eqF (c := 1) (C := 1) rfl h1 (by omega) (by decide)), tb_nextTo q hq a ha, o1, if_neg hn, i36, if_pos (inb_n (by omega) (by decide)), cl_n (by omega)]
          show _ = fX10_sideFor_121 _ _ _ _ _ _ _ _ (if κ = 1 then 0 else mm (36 * w + nx q a))
          rw [if_neg h1]
      rw [if_neg (show ¬ bI true = 0 by decide), hmodel, sf121]
      cases o with
      | none =>
        rw [show oC none = -4 from rfl, cs_first _ hmo hq ha hR _ hp, if_pos (show oM none < 0 by decide), nI_1]
        exact ih M (t + 1) (some a) (by omega) (by omega) (by omega) (fun s e => by cases e; exact ⟨ha, hp⟩)
      | some s =>
        obtain ⟨hs, hps⟩ := ho s rfl
        have hn2 := pas_nx hps
        have hle2 := tb_n1 q hq s hs
        rw [show oC (some s) = nI s from rfl, cs_more _ hκ hmo hq ha hs hR _ hp hps, show oM (some s) = nI s from rfl, if_neg (nI_pos (by omega)), nI_1]
        by_cases h4 : 2 ≤ κ ∧ ¬ mk (nx q s) ≤ mk (nx q a)
        · rw [if_pos h4]
          have h5 : ¬ zM κ w q mm (some s) ≤ zM κ w q mm (some a) := by
            show ¬ (if κ = 1 then 0 else mm (36 * w + nx q s)) ≤ (if κ = 1 then 0 else mm (36 * w + nx q a))
            rw [if_neg (by omega), if_neg (by omega), ← hmm _ (by omega), ← hmm _ (by omega)]
            exact h4.2
          rw [if_neg h5]
          exact ih M (t + 1) (some a) (by omega) (by omega) (by omega) (fun s e => by cases e; exact ⟨ha, hp⟩)
        · rw [if_neg h4]
          have h5 : zM κ w q mm (some s) ≤ zM κ w q mm (some a) := by
            show (if κ = 1 then 0 else mm (36 * w + nx q s)) ≤ (if κ = 1 then 0 else mm (36 * w + nx q a))
            by_cases h1 : κ = 1
            · rw [if_pos h1, if_pos h1]; decide
            · rw [if_neg h1, if_neg h1, ← hmm _ (by omega), ← hmm _ (by omega)]
              apply Classical.byContradiction
              intro h6
              exact h4 ⟨by omega, h6⟩
          rw [if_pos h5]
          exact ih M (t + 1) (some s) (by omega) (by omega) (by omega) ho
theorem cho_0c (hmo : mo ≤ 9) (hq : q < 36) (hf : f < 4) {s : Nat} (hs : s < 4) (hps : pas ga sw mo false q s = true) : ∀ N t, t ≤ 4 → 5 ≤ t + N → fX7_chosenSide_28 mk (nI 0) (nI q) ga sw (nI mo) N (nI (tu f ((t + 1) % 4))) (nI s) (nI t) = some (nI s) := by
  intro N
  induction N with
  | zero => intro t h1 h2; omega
  | succ N ih =>
    intro t h1 h2
    rw [fX7_chosenSide_28]
    by_cases z : t = 4
    · subst z
      rw [if_pos (show (4 : Int32) ≤ nI 4 by decide)]
    have ht : t < 4 := by omega
    obtain ⟨hR, ha⟩ := tb_rt f hf ((t + 1) % 4) (by omega)
    rw [show ((t + 1) % 4 + 1) % 4 = (t + 1 + 1) % 4 by omega] at hR
    rw [if_neg (litF (c := 4) (C := 4) rfl ht (by decide)), if_neg (show ¬ nI 0 = 3 by decide), ← bI_f]
    cases hp : pas ga sw mo false q (tu f ((t + 1) % 4)) with
    | false =>
      rw [cs_no _ _ hmo hq ha hR _ hp]
      exact ih (t + 1) (by omega) (by omega)
    | true =>
      rw [cs_more _ (by decide) hmo hq ha hs hR _ hp hps, if_neg (by omega)]
      exact ih (t + 1) (by omega) (by omega)
theorem cho_0 (hM : ∀ q s, q < 36 → s < 4 → fX10_isPassable yrow ys yea ysh yst yset (nI 0) (nI q) (nI s) = some (bI (pas ga sw mo false q s)))
    (hmo : mo ≤ 9) (hq : q < 36) (hf : f < 4) (hw : w < 2) (hfc : fc w = nI f) :
    ∀ N M t, t ≤ 4 → 5 ≤ t + N → 5 ≤ t + M →
    ∃ r : Option Nat, (∀ s, r = some s → s < 4 ∧ pas ga sw mo false q s = true) ∧
      fX7_chosenSide_28 mk (nI 0) (nI q) ga sw (nI mo) N (nI (tu f ((t + 1) % 4))) (-4) (nI t) = some (oC r) ∧
      fX10_sideFor_14 yrow ys yea ysh yst yset fc M (nI w) (nI 0) (nI q) (nI (t + 1)) = some (oM r) := by
  intro N
  induction N with
  | zero => intro M t h1 h2; omega
  | succ N ih =>
    intro M t h1 h2 h3
    obtain ⟨M, rfl⟩ : ∃ m, M = m + 1 := ⟨M - 1, by omega⟩
    rw [fX7_chosenSide_28, fX10_sideFor_14]
    by_cases z : t = 4
    · subst z
      rw [if_pos (show (4 : Int32) ≤ nI 4 by decide), if_pos (show (5 : Int32) ≤ nI (4 + 1) by decide)]
      exact ⟨none, fun s e => by (cases e), rfl, rfl⟩
    have ht : t < 4 := by omega
    obtain ⟨hR, ha⟩ := tb_rt f hf ((t + 1) % 4) (by omega)
    rw [show ((t + 1) % 4 + 1) % 4 = (t + 1 + 1) % 4 by omega] at hR
    rw [if_neg (litF (c := 4) (C := 4) rfl ht (by decide)), if_neg (show ¬ nI 0 = 3 by decide), ← bI_f, if_neg (litF (c := 5) (C := 5) rfl (by omega) (by decide)), if_pos (inb_n hw (by decide)), cl_n (by omega), hfc, tb_m4 (t + 1) (by omega), tb_tu f hf _ (by omega), o1, hM q _ hq ha, o1]
    cases hp : pas ga sw mo false q (tu f ((t + 1) % 4)) with
    | false =>
      rw [cs_no _ _ hmo hq ha hR _ hp, if_pos rfl, nI_1]
      exact ih M (t + 1) (by omega) (by omega) (by omega)
    | true =>
      rw [cs_first _ hmo hq ha hR _ hp, if_neg (show ¬ bI true = bI false by decide)]
      exact ⟨some (tu f ((t + 1) % 4)), fun s e => by cases e; exact ⟨ha, hp⟩, cho_0c hmo hq hf ha hp N (t + 1) (by omega) (by omega), rfl⟩
theorem step_l (hM : ∀ q s, q < 36 → s < 4 → fX10_isPassable yrow ys yea ysh yst yset (nI κ) (nI q) (nI s) = some (bI (pas ga sw mo (decide (κ = 3)) q s)))
    (hκ : κ < 4) (hmo : mo ≤ 9) (hq : q < 36) (hf : f < 4) (hw : w < 2) (hmm : ∀ i, i < 36 → mk i = mm (36 * w + i)) (hwh : wh w = nI q) (hfc : fc w = nI f) :
    (fX7_step mk (nI κ) (nI q) (nI f) ga sw (nI mo) = some (mk, nI q, nI f) ∧ fX10_step yrow ys yea ysh yst yset wh fc mm (nI w) (nI κ) = some (wh, fc, mm)) ∨
    ∃ s, s < 4 ∧ pas ga sw mo (decide (κ = 3)) q s = true ∧ fX7_step mk (nI κ) (nI q) (nI f) ga sw (nI mo) = some (upd mk q (mk q + 1), nI (nx q s), nI s) ∧
      fX10_step yrow ys yea ysh yst yset wh fc mm (nI w) (nI κ) = some (upd wh w (nI (nx q s)), upd fc w (nI s), upd mm (36 * w + q) (mm (36 * w + q) + 1)) := by
  obtain ⟨r, hr, e1, e2⟩ : ∃ r : Option Nat, (∀ s, r = some s → s < 4 ∧ pas ga sw mo (decide (κ = 3)) q s = true) ∧ fX7_chosenSide mk (nI κ) (nI q) (nI f) ga sw (nI mo) = some (oC r) ∧ fX10_sideFor yrow ys yea ysh yst yset wh fc mm (nI w) (nI κ) = some (oM r) := by
    unfold fX7_chosenSide fX10_sideFor fX7_chosenSide_21
    rw [if_pos (inb_n hw (by decide)), cl_n (by omega), hwh, lets_eq]
    by_cases h0 : κ = 0
    · subst h0
      rw [if_pos (show nI 0 = 0 from rfl), if_pos (show nI 0 = 0 from rfl)]
      have hd : decide ((0 : Nat) = 3) = false := by decide
      rw [hd] at hM ⊢
      exact cho_0 hM hmo hq hf hw hfc 4000 4000 0 (by decide) (by decide) (by decide)
    · rw [if_neg (eqF (c := 0) (C := 0) rfl h0 (by omega) (by decide)), if_neg (eqF (c := 0) (C := 0) rfl h0 (by omega) (by decide)), tb_lf f hf, o1]
      exact cho_l hM hκ h0 hmo hq hf hw hmm hfc 4000 4000 0 none (by decide) (by decide) (by decide) (fun s e => by cases e)
  unfold fX7_step fX10_step
  rw [e1, o1, e2, o1]
  cases r with
  | none =>
    refine Or.inl ⟨?_, ?_⟩
    · rw [show oC none = -4 from rfl, tb_next4 q hq, o1, if_neg (by decide)]
    · rw [if_pos (by decide)]
  | some s =>
    obtain ⟨hs, hps⟩ := hr s rfl
    have hn := pas_nx hps
    have hle := tb_n1 q hq s hs
    refine Or.inr ⟨s, hs, hps, ?_, ?_⟩
    · rw [show oC (some s) = nI s from rfl, tb_next q hq s hs, o1, if_neg hn, if_pos (nI_pos' (by omega)), if_pos (inb_n hq (by decide)), cl_n (by omega), lets_eq, if_pos (inb_n hq (by decide))]
    · rw [show oM (some s) = nI s from rfl, if_neg (nI_pos (by omega)), if_pos (inb_n hw (by decide)), cl_n (by omega), hwh, i36, if_pos (inb_n (by omega) (by decide)), cl_n (by omega), lets_eq, if_pos (inb_n (by omega) (by decide)), if_pos (inb_n hw (by decide)), if_pos (inb_n hw (by decide)), tb_nextTo q hq s hs, o1, if_neg hn, if_pos (inb_n hw (by decide))]
end Cho2
