-- STEP of go
theorem nleF {c k : Nat} (h : k < c) (hc : c < 2 ^ 31) : ¬ nI c ≤ nI k := fun z => by have := (nle c k hc (by omega)).mp z; omega
theorem nleT {c k : Nat} (h : c ≤ k) (hk : k < 2 ^ 31) : nI c ≤ nI k := (nle c k (by omega) hk).mpr h
theorem o5 {A B C D E Z : Type} (a : A) (b : B) (c : C) (d : D) (e : E) (q : A → B → C → D → E → Option Z) : ob5 (some (a, b, c, d, e)) q = q a b c d e := rfl
theorem o4 {A B C D Z : Type} (a : A) (b : B) (c : C) (d : D) (q : A → B → C → D → Option Z) : ob4 (some (a, b, c, d)) q = q a b c d := rfl
theorem nI_z : nI 0 = 0 := rfl
theorem go_66a (ea cl : Int64) (it : Nat → Int32) : ∀ N a1 a2 a3 a4 a5 a6 a7 a8 a9 a10 a11 a12, fX9_go_66a ea cl it N a1 a2 a3 a4 a5 a6 a7 a8 a9 a10 a11 a12 = fX9_go_66 ea cl it N a1 a2 a3 a4 a5 a6 a7 a8 a9 a10 a11 a12 := by
  intro N
  induction N with
  | zero => intros; rfl
  | succ N ih => intros; rw [fX9_go_66a, fX9_go_66]; simp only [ih]
theorem go_66b (ea cl : Int64) (it : Nat → Int32) : ∀ N a1 a2 a3 a4 a5 a6 a7 a8 a9 a10 a11 a12, fX9_go_66b ea cl it N a1 a2 a3 a4 a5 a6 a7 a8 a9 a10 a11 a12 = fX9_go_66 ea cl it N a1 a2 a3 a4 a5 a6 a7 a8 a9 a10 a11 a12 := by
  intro N
  induction N with
  | zero => intros; rfl
  | succ N ih => intros; rw [fX9_go_66b, fX9_go_66]; simp only [ih]
theorem go_66c (ea cl : Int64) (it : Nat → Int32) : ∀ N a1 a2 a3 a4 a5 a6 a7 a8 a9 a10 a11 a12, fX9_go_66c ea cl it N a1 a2 a3 a4 a5 a6 a7 a8 a9 a10 a11 a12 = fX9_go_66 ea cl it N a1 a2 a3 a4 a5 a6 a7 a8 a9 a10 a11 a12 := by
  intro N
  induction N with
  | zero => intros; rfl
  | succ N ih => intros; rw [fX9_go_66c, fX9_go_66]; simp only [ih]
/-- equal to an earlier one? -/
theorem go_115 (K : (Nat → Int32) → Int32 → Int32 → Int32 → Int32 → Option (Int32 × (Nat → Int32) × Int32)) (yi yrow : Nat → Int32) (ysz x4 : Int32) {b i q : Nat} {p : Nat → Nat} (hb : b + i < 144) (hq : q < 36) (hi : yi (b + i) = nI q) (hp : ∀ k, k < i → p k < 36 ∧ yi (b + k) = nI (p k)) :
    ∀ N k, k ≤ i → i + 1 ≤ k + N → ((∀ j, k ≤ j → j < i → p j ≠ q) → fX10_go_115 K yi N yrow ysz x4 (nI b) (nI i) (nI k) = K yrow ysz x4 (nI b) (nI (i + 1))) ∧ ((∃ j, k ≤ j ∧ j < i ∧ p j = q) → fX10_go_115 K yi N yrow ysz x4 (nI b) (nI i) (nI k) = some (-2, yrow, ysz)) := by
  intro N
  induction N with
  | zero => intro k h1 h2; omega
  | succ N ih =>
    intro k h1 h2
    rw [fX10_go_115]
    by_cases z : k = i
    · subst z
      rw [if_pos (nleT (Nat.le_refl _) (by omega)), nI_1]
      exact ⟨fun _ => rfl, fun ⟨j, a, c, _⟩ => by omega⟩
    · have hk := hp k (by omega)
      rw [if_neg (nleF (by omega) (by omega)), nI_add, nI_add, if_pos (inb_n (by omega) (by decide)), if_pos (inb_n (by omega) (by decide)), cl_n (by omega), cl_n (by omega), hi, hk.2]
      by_cases y : p k = q
      · rw [if_pos (by rw [y])]
        exact ⟨fun h => absurd y (h k (Nat.le_refl _) (by omega)), fun _ => rfl⟩
      · rw [if_neg (fun x => y ((nI_eq (by omega) (by omega)).mp x)), nI_1]
        obtain ⟨g1, g2⟩ := ih (k + 1) (by omega) (by omega)
        refine ⟨fun h => g1 (fun j a c => h j (by omega) c), fun ⟨j, a, c, d⟩ => g2 ⟨j, ?_, c, d⟩⟩
        by_cases x : j = k
        · subst x; exact absurd d y
        · omega
theorem go_169 (yi : Nat → Int32) {b w : Nat} (hb : b + w ≤ 144) (hw : w ≤ 36) : ∀ N k (yrow : Nat → Int32), k ≤ w → w + 1 ≤ k + N → ∃ yr', fX10_go_169 yi N yrow (nI w) (nI w) (nI b) (nI k) = some (nI w, yr', nI w) ∧ (∀ i, k ≤ i → i < w → yr' i = yi (b + i)) ∧ ∀ i, i < k → yr' i = yrow i := by
  intro N
  induction N with
  | zero => intro k yrow h1 h2; omega
  | succ N ih =>
    intro k yrow h1 h2
    rw [fX10_go_169]
    by_cases z : k = w
    · subst z
      rw [if_pos (nleT (Nat.le_refl _) (by omega))]
      exact ⟨_, rfl, fun i a c => by omega, fun i _ => rfl⟩
    · rw [if_neg (nleF (by omega) (by omega)), nI_add, if_pos (inb_n (by omega) (by decide)), cl_n (by omega)]
      show ∃ yr', (if inb (nI k) 36 = true then _ else none) = some (nI w, yr', nI w) ∧ _
      rw [if_pos (inb_n (by omega) (by decide)), cl_n (by omega), nI_1]
      obtain ⟨yr', e, g1, g2⟩ := ih (k + 1) (upd yrow k (yi (b + k))) (by omega) (by omega)
      refine ⟨yr', e, fun i a c => ?_, fun i a => ?_⟩
      · by_cases x : i = k
        · subst x; rw [g2 i (by omega), upd_s]
        · exact g1 i (by omega) c
      · rw [g2 i (by omega), upd_n _ _ (by omega)]
theorem go_l {I yi row yrow : Nat → Int32} {sz ysz : Int32} {pl st ea cl ga : Int64} {b f w : Nat} (hb : b + w ≤ 144) (hf : f + w ≤ 36) (hI : ∀ i, i < w → I (f + i) = yi (b + i)) :
    ∀ N M i (p : Nat → Nat) (drow : Nat → Int32) (dpl dst : Int64), i ≤ w → w + 1 ≤ i + N → w + 1 ≤ i + M → FW i p drow (nI i) dpl dst → (∀ k, k < i → p k < 36 ∧ yi (b + k) = nI (p k)) →
    ∃ ret r' s' pl' st' g' dr' ds' dp' dt' yr' ys', fX9_go_66 ea cl I N row sz pl st ga drow (nI i) dpl dst (nI f) (nI w) (nI i) = some (ret, r', s', pl', st', g', dr', ds', dp', dt') ∧ fX10_go_53 yi M yrow ysz (nI w) (nI b) (nI i) = some (ret, yr', ys') ∧
      ((r' = row ∧ s' = sz ∧ pl' = pl ∧ st' = st ∧ g' = ga ∧ yr' = yrow ∧ ys' = ysz) ∨ ∃ p', FW w p' r' s' pl' st' ∧ ys' = nI w ∧ (∀ k, k < w → yr' k = nI (p' k)) ∧ GP w p' st' ea cl g') := by
  intro N
  induction N with
  | zero => intro M i p drow dpl dst h1 h2; omega
  | succ N ih =>
    intro M i p drow dpl dst h1 h2 h3 hF hp
    obtain ⟨M, rfl⟩ : ∃ m, M = m + 1 := ⟨M - 1, by omega⟩
    rw [fX9_go_66, fX10_go_53]
    by_cases z : i = w
    · subst z
      rw [if_pos (nleT (Nat.le_refl _) (by omega)), if_pos (nleT (Nat.le_refl _) (by omega))]
      have hF' : FW i p (va_cpy drow row (0 : Int32).toNatClampNeg (0 : Int32).toNatClampNeg (36 : Int32).toNatClampNeg) (nI i) dpl dst := hF.congr (fun i hi => cpy36 _ _ hi)
      obtain ⟨g', e1, hG⟩ := refresh_v hF' ea cl ga
      obtain ⟨yr', e2, g1, -⟩ := go_169 yi hb (by omega) 4000 0 yrow (Nat.zero_le _) (by omega)
      have ec : fX9_go_102 ea cl row sz pl st ga drow (nI i) dpl dst (nI i) = some (nI i, va_cpy drow row (0 : Int32).toNatClampNeg (0 : Int32).toNatClampNeg (36 : Int32).toNatClampNeg, nI i, dpl, dst, g', drow, nI i, dpl, dst) := by
        unfold fX9_go_102 fX2_copy
        rw [o4, e1, o1]
      exact ⟨_, _, _, _, _, _, _, _, _, _, _, _, ec, e2, Or.inr ⟨p, hF', rfl, fun k hk => by rw [g1 k (Nat.zero_le _) hk]; exact (hp k hk).2, hG⟩⟩
    · rw [if_neg (nleF (by omega) (by omega)), if_neg (nleF (by omega) (by omega)), nI_add, nI_add, if_pos (inb_n (by omega) (by decide)), if_pos (inb_n (by omega) (by decide)), cl_n (by omega), cl_n (by omega), hI i (by omega), X10_isSquare, o1]
      rcases ir_or (yi (b + i)) 36 (by decide) with ha | ⟨q, hq, hv⟩
      · rw [add_no hF (fun ⟨q, e, hc⟩ => by rw [e, ir_n hc.1 (by decide)] at ha; cases ha), o5, if_pos rfl, ha, bI_f, if_pos rfl]
        exact ⟨_, _, _, _, _, _, _, _, _, _, _, _, rfl, rfl, Or.inl ⟨rfl, rfl, rfl, rfl, rfl, rfl, rfl⟩⟩
      rw [hv, ir_n hq (by decide), bI_t, if_neg (by decide)]
      obtain ⟨m1', m2'⟩ := go_115 (fX10_go_53 yi M) yi yrow ysz (nI w) (show b + i < 144 by omega) hq hv hp 4000 0 (Nat.zero_le _) (by omega)
      by_cases hc : canAdd i p q
      · rw [add_yes hF hc, o5, if_neg (by decide), nI_1]
        have em : (if nI i ≤ 0 then fX10_go_112 (fX10_go_53 yi M) yi yrow ysz (nI w) (nI b) (nI i) else (if inb (nI (b + i) - (1 : Int32)) 144 = true then (if inb (nI (b + i)) 144 = true then ob1 (fX10_sideTo ((yi (nI (b + i) - (1 : Int32)).toNatClampNeg)) (nI q)) fun r5 => (if 0 ≤ r5 then fX10_go_112 (fX10_go_53 yi M) yi yrow ysz (nI w) (nI b) (nI i) else some ((-2 : Int32), yrow, ysz)) else none) else none)) = fX10_go_53 yi M yrow ysz (nI w) (nI b) (nI (i + 1)) := by
          have e0 : fX10_go_112 (fX10_go_53 yi M) yi yrow ysz (nI w) (nI b) (nI i) = fX10_go_53 yi M yrow ysz (nI w) (nI b) (nI (i + 1)) := by
            unfold fX10_go_112
            exact m1' (fun j _ hj => hc.2.1 j hj)
          by_cases h0 : i = 0
          · rw [if_pos (by subst h0; decide), e0]
          · obtain ⟨j, rfl⟩ : ∃ j, i = j + 1 := ⟨i - 1, by omega⟩
            rw [if_neg (nI_nle (by omega) (by omega)), show b + (j + 1) = b + j + 1 by omega, m1, if_pos (inb_n (by omega) (by decide)), if_pos (inb_n (by omega) (by decide)), cl_n (by omega), (hp j (by omega)).2]
            obtain ⟨hs1, hs2⟩ := tb_sideTo (p j) (hp j (by omega)).1 q hq
            cases hv2 : fX10_sideTo (nI (p j)) (nI q) with
            | none => rw [hv2] at hs1; cases hs1
            | some v =>
              have h3 : 0 ≤ v := by
                apply Classical.byContradiction
                intro z
                have := (hs2 v hv2).mp (not_le_0.mp z)
                rcases hc.2.2 with y | y
                · omega
                · exact y this
              rw [o1, if_pos h3, e0]
        obtain ⟨ret, r', s', pl', st', g', dr', ds', dp', dt', yr', ys', c1, c2, c3⟩ := ih M (i + 1) (fun k => if k = i then q else p k) (upd drow i (nI q)) (dpl ||| eL q) (if i = 0 then dst else dst ||| eL (ew (p (i - 1)) q)) (by omega) (by omega) (by omega) (hF.add hc) (fun k hk => by
          by_cases y : k = i
          · subst y; rw [if_pos rfl]; exact ⟨hq, hv⟩
          · rw [if_neg y]; exact hp k (by omega))
        refine ⟨ret, r', s', pl', st', g', dr', ds', dp', dt', yr', ys', c1, ?_, c3⟩
        rw [← c2]; exact em
      · rw [add_no hF (fun ⟨q', e, hc'⟩ => by rw [nI_eq (by omega) (by have := hc'.1; omega)] at e; subst e; exact hc hc'), o5, if_pos rfl]
        refine ⟨-2, _, _, _, _, _, _, _, _, _, yrow, ysz, rfl, ?_, Or.inl ⟨rfl, rfl, rfl, rfl, rfl, rfl, rfl⟩⟩
        by_cases h0 : i = 0
        · exfalso
          exact hc ⟨hq, fun k hk => by omega, Or.inl h0⟩
        · obtain ⟨j, rfl⟩ : ∃ j, i = j + 1 := ⟨i - 1, by omega⟩
          rw [if_neg (nI_nle (by omega) (by omega)), show b + (j + 1) = b + j + 1 by omega, m1, if_pos (inb_n (by omega) (by decide)), if_pos (inb_n (by omega) (by decide)), cl_n (by omega), (hp j (by omega)).2]
          obtain ⟨hs1, hs2⟩ := tb_sideTo (p j) (hp j (by omega)).1 q hq
          cases hv2 : fX10_sideTo (nI (p j)) (nI q) with
          | none => rw [hv2] at hs1; cases hs1
          | some v =>
            rw [o1]
            by_cases h3 : 0 ≤ v
            · rw [if_pos h3]
              unfold fX10_go_112
              apply m2'
              apply Classical.byContradiction
              intro hno
              refine hc ⟨hq, fun k hk e => hno ⟨k, Nat.zero_le _, hk, e⟩, Or.inr (fun e => ?_)⟩
              exact absurd h3 (not_le_0.mpr ((hs2 v hv2).mpr e))
            · rw [if_neg h3]
theorem FW_z (drow : Nat → Int32) : FW 0 (fun _ => 0) drow (nI 0) 0 0 := by
  refine ⟨by decide, rfl, fun i hi => absurd hi (by omega), fun i j hi => absurd hi (by omega), fun i hi => absurd hi (by omega), fun q => ?_, fun e => ?_⟩
  · rw [bL_z]
    exact ⟨fun h => by (cases h), fun ⟨i, hi, _⟩ => by omega⟩
  · rw [bL_z]
    exact ⟨fun h => by (cases h), fun ⟨_, i, hi, _⟩ => by omega⟩
set_option maxHeartbeats 2000000 in
theorem step_go : STEP_go R1d R4d := by
  intro ea cl ga sw mo mi dr sG sC sN sz pl st row dsz dpl dst drow l0 s0 i0 l1 s1 i1 l2 s2 i2 l3 s3 i3 ys yse yrow yea ysh yst yset ysp ysg yl yr yi a0 a1 a2 a3 hR ⟨h0, h1, h2, h3⟩
  rcases ir_or a0 4 (by decide) with ha | ⟨j, hj, rfl⟩
  · simp only [fX9_go, fX10_go, X9_isSheet, X10_isSheet, ha, bI_f, ob1, if_true, Bool.false_and]
    exact ⟨_, _, _, _, _, _, _, _, _, _, _, _, rfl, rfl, hR⟩
  rcases ir_or a1 3 (by decide) with ha | ⟨t, ht, rfl⟩
  · simp only [fX9_go, fX10_go, X9_isSheet, X9_isLane, X10_isSheet, ir_n hj (by decide : 4 < 2 ^ 31), ha, bI_f, bI_t, i10, if_false, ob1, if_true, Bool.and_false]
    exact ⟨_, _, _, _, _, _, _, _, _, _, _, _, rfl, rfl, hR⟩
  have hE : ∀ a : Int32, fX10_in a.toInt64 1 36 = some (bI (decide (1 ≤ a) && decide (a ≤ 36))) := fun a => X10_in a 1 36
  unfold fX9_go fX10_go
  rw [X9_isSheet, X9_isLane, X10_isSheet, ir_n hj (by decide : 4 < 2 ^ 31), ir_n ht (by decide : 3 < 2 ^ 31), Bool.and_true, bI_t, o1, o1, o1, if_neg (show ¬ (1 : Int32) = 0 by decide), if_neg (show ¬ (1 : Int32) = 0 by decide), if_neg (show ¬ (1 : Int32) = 0 by decide), hE, o1]
  by_cases w1 : a3 < 1
  · have w1' : ¬ 1 ≤ a3 := by rw [Int32.not_le]; exact w1
    rw [if_pos w1, decide_eq_false w1', Bool.false_and, bI_f, if_pos rfl]
    exact ⟨_, _, _, _, _, _, _, _, _, _, _, _, rfl, rfl, hR⟩
  have w1' : 1 ≤ a3 := by rw [Int32.not_lt] at w1; exact w1
  rw [if_neg w1, decide_eq_true w1', Bool.true_and]
  by_cases w2 : a3 ≤ 36
  rotate_left
  · rw [if_neg w2, decide_eq_false w2, bI_f, if_pos rfl]
    exact ⟨_, _, _, _, _, _, _, _, _, _, _, _, rfl, rfl, hR⟩
  rw [if_pos w2, decide_eq_true w2, bI_t, if_neg (show ¬ (1 : Int32) = 0 by decide)]
  obtain ⟨w, hw, rfl⟩ : ∃ w : Nat, w ≤ 36 ∧ a3 = nI w := by
    have h0 : ¬ a3 < 0 := fun z => by
      rw [Int32.lt_iff_toInt_lt] at w1 z
      exact w1 (Int.lt_trans z (by decide))
    obtain ⟨w, hw, rfl⟩ := nI_of h0
    refine ⟨w, ?_, rfl⟩
    exact (nle w 36 hw (by decide)).mp w2
  obtain ⟨n, p, mo', mi', dr', k, hF, ⟨hys, hyr⟩, hEa, hC, hG, hrest⟩ := hR
  rcases (show j = 0 ∨ j = 1 ∨ j = 2 ∨ j = 3 by omega) with rfl | rfl | rfl | rfl
  · rw [if_pos (show nI 0 = 0 from rfl)]
    rcases trouble_eq (from_ := a2) h0 hj ht hw with ⟨r, hr, e1, e2⟩ | ⟨e1, e2, f, z, rfl, hfz, hz, e3, e4, e5, e6⟩
    · have hr0 : ¬ r = 0 := fun q => by subst q; exact absurd hr (by decide)
      have hr1 : ¬ 0 ≤ r := by rw [Int32.not_le]; exact hr
      rw [e1, e2, o1, o1, if_neg hr0, if_neg hr1]
      exact ⟨_, _, _, _, _, _, _, _, _, _, _, _, rfl, rfl, n, p, mo', mi', dr', k, hF, ⟨hys, hyr⟩, hEa, hC, hG, hrest⟩
    · rw [e1, e2, o1, o1, if_pos rfl, if_pos (by decide), lets_eq, show (36 : Int32) * nI 0 + nI f = nI (36 * 0 + f) from by show nI 36 * nI 0 + nI f = _; rw [pk_mul, nI_add]]
      obtain ⟨ret, r', s', pl', st', g', dr'', ds', dp', dt', yr', ys', c1, c2, c3⟩ := go_l (I := i0) (yi := yi) (row := row) (yrow := yrow) (sz := sz) (ysz := ys) (pl := pl) (st := st) (ea := ea) (cl := cl) (ga := ga) (b := 36 * 0 + f) (f := f) (w := w) (by omega) (by omega) (fun i hi => by rw [e6 (f + i) (by omega)]; congr 1; omega) 4000 4000 0 (fun _ => 0) drow 0 0 (Nat.zero_le _) (by omega) (by omega) (FW_z drow) (fun k hk => absurd hk (by omega))
      rw [nI_z] at c1 c2
      have ec : (ob3 (fX2_clear dsz dpl dst) fun a b c => fX9_go_66 ea cl i0 4000 row sz pl st ga drow a b c (nI f) (nI w) (0 : Int32)) = some (ret, r', s', pl', st', g', dr'', ds', dp', dt') := by
        unfold fX2_clear
        rw [o3]
        exact c1
      refine ⟨_, _, _, _, _, _, _, _, _, _, _, _, ec, c2, ?_⟩
      rcases c3 with ⟨rfl, rfl, rfl, rfl, rfl, rfl, rfl⟩ | ⟨p', hF', rfl, hy', hG'⟩
      · exact ⟨n, p, mo', mi', dr', k, hF, ⟨hys, hyr⟩, hEa, hC, hG, hrest⟩
      · exact ⟨w, p', mo', mi', dr', k, hF', ⟨rfl, hy'⟩, hEa, hC, hG', hrest⟩
  · rw [if_neg (show ¬ nI 1 = 0 by decide), if_pos (show nI 1 = 1 from rfl)]
    rcases trouble_eq (from_ := a2) h1 hj ht hw with ⟨r, hr, e1, e2⟩ | ⟨e1, e2, f, z, rfl, hfz, hz, e3, e4, e5, e6⟩
    · have hr0 : ¬ r = 0 := fun q => by subst q; exact absurd hr (by decide)
      have hr1 : ¬ 0 ≤ r := by rw [Int32.not_le]; exact hr
      rw [e1, e2, o1, o1, if_neg hr0, if_neg hr1]
      exact ⟨_, _, _, _, _, _, _, _, _, _, _, _, rfl, rfl, n, p, mo', mi', dr', k, hF, ⟨hys, hyr⟩, hEa, hC, hG, hrest⟩
    · rw [e1, e2, o1, o1, if_pos rfl, if_pos (by decide), lets_eq, show (36 : Int32) * nI 1 + nI f = nI (36 * 1 + f) from by show nI 36 * nI 1 + nI f = _; rw [pk_mul, nI_add]]
      obtain ⟨ret, r', s', pl', st', g', dr'', ds', dp', dt', yr', ys', c1, c2, c3⟩ := go_l (I := i1) (yi := yi) (row := row) (yrow := yrow) (sz := sz) (ysz := ys) (pl := pl) (st := st) (ea := ea) (cl := cl) (ga := ga) (b := 36 * 1 + f) (f := f) (w := w) (by omega) (by omega) (fun i hi => by rw [e6 (f + i) (by omega)]; congr 1; omega) 4000 4000 0 (fun _ => 0) drow 0 0 (Nat.zero_le _) (by omega) (by omega) (FW_z drow) (fun k hk => absurd hk (by omega))
      rw [nI_z] at c1 c2
      have ec : (ob3 (fX2_clear dsz dpl dst) fun a b c => fX9_go_66a ea cl i1 4000 row sz pl st ga drow a b c (nI f) (nI w) (0 : Int32)) = some (ret, r', s', pl', st', g', dr'', ds', dp', dt') := by
        unfold fX2_clear
        rw [o3, go_66a]
        exact c1
      refine ⟨_, _, _, _, _, _, _, _, _, _, _, _, ec, c2, ?_⟩
      rcases c3 with ⟨rfl, rfl, rfl, rfl, rfl, rfl, rfl⟩ | ⟨p', hF', rfl, hy', hG'⟩
      · exact ⟨n, p, mo', mi', dr', k, hF, ⟨hys, hyr⟩, hEa, hC, hG, hrest⟩
      · exact ⟨w, p', mo', mi', dr', k, hF', ⟨rfl, hy'⟩, hEa, hC, hG', hrest⟩
  · rw [if_neg (show ¬ nI 2 = 0 by decide), if_neg (show ¬ nI 2 = 1 by decide), if_pos (show nI 2 = 2 from rfl)]
    rcases trouble_eq (from_ := a2) h2 hj ht hw with ⟨r, hr, e1, e2⟩ | ⟨e1, e2, f, z, rfl, hfz, hz, e3, e4, e5, e6⟩
    · have hr0 : ¬ r = 0 := fun q => by subst q; exact absurd hr (by decide)
      have hr1 : ¬ 0 ≤ r := by rw [Int32.not_le]; exact hr
      rw [e1, e2, o1, o1, if_neg hr0, if_neg hr1]
      exact ⟨_, _, _, _, _, _, _, _, _, _, _, _, rfl, rfl, n, p, mo', mi', dr', k, hF, ⟨hys, hyr⟩, hEa, hC, hG, hrest⟩
    · rw [e1, e2, o1, o1, if_pos rfl, if_pos (by decide), lets_eq, show (36 : Int32) * nI 2 + nI f = nI (36 * 2 + f) from by show nI 36 * nI 2 + nI f = _; rw [pk_mul, nI_add]]
      obtain ⟨ret, r', s', pl', st', g', dr'', ds', dp', dt', yr', ys', c1, c2, c3⟩ := go_l (I := i2) (yi := yi) (row := row) (yrow := yrow) (sz := sz) (ysz := ys) (pl := pl) (st := st) (ea := ea) (cl := cl) (ga := ga) (b := 36 * 2 + f) (f := f) (w := w) (by omega) (by omega) (fun i hi => by rw [e6 (f + i) (by omega)]; congr 1; omega) 4000 4000 0 (fun _ => 0) drow 0 0 (Nat.zero_le _) (by omega) (by omega) (FW_z drow) (fun k hk => absurd hk (by omega))
      rw [nI_z] at c1 c2
      have ec : (ob3 (fX2_clear dsz dpl dst) fun a b c => fX9_go_66b ea cl i2 4000 row sz pl st ga drow a b c (nI f) (nI w) (0 : Int32)) = some (ret, r', s', pl', st', g', dr'', ds', dp', dt') := by
        unfold fX2_clear
        rw [o3, go_66b]
        exact c1
      refine ⟨_, _, _, _, _, _, _, _, _, _, _, _, ec, c2, ?_⟩
      rcases c3 with ⟨rfl, rfl, rfl, rfl, rfl, rfl, rfl⟩ | ⟨p', hF', rfl, hy', hG'⟩
      · exact ⟨n, p, mo', mi', dr', k, hF, ⟨hys, hyr⟩, hEa, hC, hG, hrest⟩
      · exact ⟨w, p', mo', mi', dr', k, hF', ⟨rfl, hy'⟩, hEa, hC, hG', hrest⟩
  · rw [if_neg (show ¬ nI 3 = 0 by decide), if_neg (show ¬ nI 3 = 1 by decide), if_neg (show ¬ nI 3 = 2 by decide), if_pos (show nI 3 = 3 from rfl)]
    rcases trouble_eq (from_ := a2) h3 hj ht hw with ⟨r, hr, e1, e2⟩ | ⟨e1, e2, f, z, rfl, hfz, hz, e3, e4, e5, e6⟩
    · have hr0 : ¬ r = 0 := fun q => by subst q; exact absurd hr (by decide)
      have hr1 : ¬ 0 ≤ r := by rw [Int32.not_le]; exact hr
      rw [e1, e2, o1, o1, if_neg hr0, if_neg hr1]
      exact ⟨_, _, _, _, _, _, _, _, _, _, _, _, rfl, rfl, n, p, mo', mi', dr', k, hF, ⟨hys, hyr⟩, hEa, hC, hG, hrest⟩
    · rw [e1, e2, o1, o1, if_pos rfl, if_pos (by decide), lets_eq, show (36 : Int32) * nI 3 + nI f = nI (36 * 3 + f) from by show nI 36 * nI 3 + nI f = _; rw [pk_mul, nI_add]]
      obtain ⟨ret, r', s', pl', st', g', dr'', ds', dp', dt', yr', ys', c1, c2, c3⟩ := go_l (I := i3) (yi := yi) (row := row) (yrow := yrow) (sz := sz) (ysz := ys) (pl := pl) (st := st) (ea := ea) (cl := cl) (ga := ga) (b := 36 * 3 + f) (f := f) (w := w) (by omega) (by omega) (fun i hi => by rw [e6 (f + i) (by omega)]; congr 1; omega) 4000 4000 0 (fun _ => 0) drow 0 0 (Nat.zero_le _) (by omega) (by omega) (FW_z drow) (fun k hk => absurd hk (by omega))
      rw [nI_z] at c1 c2
      have ec : (ob3 (fX2_clear dsz dpl dst) fun a b c => fX9_go_66c ea cl i3 4000 row sz pl st ga drow a b c (nI f) (nI w) (0 : Int32)) = some (ret, r', s', pl', st', g', dr'', ds', dp', dt') := by
        unfold fX2_clear
        rw [o3, go_66c]
        exact c1
      refine ⟨_, _, _, _, _, _, _, _, _, _, _, _, ec, c2, ?_⟩
      rcases c3 with ⟨rfl, rfl, rfl, rfl, rfl, rfl, rfl⟩ | ⟨p', hF', rfl, hy', hG'⟩
      · exact ⟨n, p, mo', mi', dr', k, hF, ⟨hys, hyr⟩, hEa, hC, hG, hrest⟩
      · exact ⟨w, p', mo', mi', dr', k, hF', ⟨rfl, hy'⟩, hEa, hC, hG', hrest⟩
