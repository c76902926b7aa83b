-- FIT: the class's search beside the model's
def HR (many : Nat) (hc hm : Int32) (brow : Nat → Int32) (bsz : Int32) (hd : Nat → Int32) : Prop :=
  (hc = -4 ∧ hm = -1) ∨ ∃ h : Nat, h ≤ 9 ∧ hc = nI h ∧ hm = nI h ∧ bsz = nI many ∧ ∀ j, j < many → brow j = hd j
theorem HR.le {many : Nat} {hc hm : Int32} {brow : Nat → Int32} {bsz : Int32} {hd : Nat → Int32} (h : HR many hc hm brow bsz hd) {x : Nat} (hx : x ≤ 9) : nI x ≤ hc ↔ nI x ≤ hm := by
  rcases h with ⟨e1, e2⟩ | ⟨h, h9, e1, e2, -⟩
  · have key : ∀ x, x < 10 → ¬ nI x ≤ (-4 : Int32) ∧ ¬ nI x ≤ (-1 : Int32) := by decide +kernel
    rw [e1, e2]
    exact ⟨fun z => absurd z (key x (by omega)).1, fun z => absurd z (key x (by omega)).2⟩
  · rw [e1, e2]
theorem hrd_le {i j : Nat} {p : Nat → Nat} (h : j < i) : hrd i p j ≤ i := by
  unfold hrd
  by_cases z : rgv i p ≠ 64 ∧ i - j < j
  · rw [if_pos z]; omega
  · rw [if_neg z]; omega
section Leaf
variable {yset sp sg path hd : Nat → Int32} {ys sN fit hc hm bsz : Int32} {row brow : Nat → Int32} {pl st sG sC bpl bst : Int64} {kk many mi : Nat} {p : Nat → Nat}
theorem leaf_yes (hS : SN kk sG sC sN sp sg ys) (hy : yset 1 = nI mi) (hmi : mi < 36) (hm9 : many ≤ 9) (hF : FW many p row (nI many) pl st) (hp : ∀ j, j < many → path j = nI (p j)) (hH : HR many hc hm brow bsz hd) (hok : ∀ m, m < kk → OKm many p sp sg m) :
    ∃ (brow' : Nat → Int32) (bsz' : Int32) (bpl' bst' : Int64) (hc' : Int32) (hd' : Nat → Int32) (hm' : Int32), fX4_weigh row (nI many) pl st brow bsz bpl bst (nI many) fit hc (nI mi) sG sC = some (brow', bsz', bpl', bst', fit + 1, hc') ∧ fX10_judge yset path hd hm (nI many) = some (hd', hm') ∧ HR many hc' hm' brow' bsz' hd' := by
  obtain ⟨w1, w2⟩ := weigh_yes (brow := brow) (bpl := bpl) (bst := bst) (bsz := bsz) (fit := fit) (hs := hc) hF hmi hS hok
  have hr : ∀ j, j < many → p j < 36 ∧ path j = nI (p j) := fun j hj => ⟨(hF.2.2.1 j hj).1, hp j hj⟩
  by_cases hx : ∃ j, j < many ∧ p j = mi
  · obtain ⟨j, hj, e⟩ := hx
    obtain ⟨j1, j2⟩ := judge_at hm9 hy hmi hr hj e (fun m hm em => hF.2.2.2.1 m j hm hj (em.trans e.symm)) 4000 0 hd hm (Nat.zero_le _) (by omega)
    have hle := hrd_le (p := p) hj
    rw [nI_z] at j1 j2
    by_cases z : nI (hrd many p j) ≤ hc
    · refine ⟨brow, bsz, bpl, bst, hc, hd, hm, ?_, ?_, hH⟩
      · rw [w2 j hj e, if_pos z]
      · unfold fX10_judge
        exact j1 ((hH.le (by omega)).mp z)
    · obtain ⟨hd', c1, c2⟩ := j2 (fun y => z ((hH.le (by omega)).mpr y))
      refine ⟨va_cpy row brow (0 : Int32).toNatClampNeg (0 : Int32).toNatClampNeg (36 : Int32).toNatClampNeg, nI many, pl, st, nI (hrd many p j), hd', nI (hrd many p j), ?_, ?_, Or.inr ⟨hrd many p j, by omega, rfl, rfl, rfl, fun m hm => ?_⟩⟩
      · rw [w2 j hj e, if_neg z]
      · unfold fX10_judge
        exact c1
      · rw [cpy36 _ _ (by omega), c2 m hm, (hF.2.2.1 m hm).2, hp m hm]
  · have hno : ∀ j, j < many → p j ≠ mi := fun j hj e => hx ⟨j, hj, e⟩
    refine ⟨brow, bsz, bpl, bst, hc, hd, hm, w1 hno, ?_, hH⟩
    unfold fX10_judge
    have := judge_no hm9 hy hmi hr 4000 0 hd hm (Nat.zero_le _) (by omega) (fun j _ hj => hno j hj)
    rw [nI_z] at this
    exact this
end Leaf
def LR (yset sp sg : Nat → Int32) (ys : Int32) (many k B : Nat) (p : Nat → Nat) (path sides hd : Nat → Int32) (hm fit : Int32) (o : TO10) : Prop :=
  ∃ (row' : Nat → Int32) (pl' st' : Int64) (brow' : Nat → Int32) (bsz' : Int32) (bpl' bst' : Int64) (fit' hc' : Int32) (path' sides' hd' : Nat → Int32) (hm' : Int32) (C : Nat),
    o = some (row', nI (k + 1), pl', st', brow', bsz', bpl', bst', fit', hc') ∧ FW (k + 1) p row' (nI (k + 1)) pl' st' ∧ HR many hc' hm' brow' bsz' hd' ∧ C ≤ B ∧ (∀ j, j < k + 1 → path' j = path j) ∧ (∀ j, j < k → sides' j = sides j) ∧
    ∀ N, fX10_findFits_24 yset sp sg ys (N + C) path sides hd hm (nI many) fit (nI k) = fX10_findFits_24 yset sp sg ys N path' sides' hd' hm' (nI many) fit' (nI k + (-1 : Int32))
theorem LR.step {yset sp sg path sides hd path1 sides1 hd1 : Nat → Int32} {ys hm fit hm1 fit1 : Int32} {many k B : Nat} {p : Nat → Nat} {o : TO10} (h : LR yset sp sg ys many k B p path1 sides1 hd1 hm1 fit1 o) (h1 : ∀ j, j < k + 1 → path1 j = path j) (h2 : ∀ j, j < k → sides1 j = sides j) {C1 B' : Nat} (hB : B + C1 ≤ B') (h3 : ∀ N, fX10_findFits_24 yset sp sg ys (N + C1) path sides hd hm (nI many) fit (nI k) = fX10_findFits_24 yset sp sg ys N path1 sides1 hd1 hm1 (nI many) fit1 (nI k)) : LR yset sp sg ys many k B' p path sides hd hm fit o := by
  obtain ⟨row', pl', st', brow', bsz', bpl', bst', fit', hc', path', sides', hd', hm', C, a1, a2, a3, a4, a5, a6, a7⟩ := h
  refine ⟨row', pl', st', brow', bsz', bpl', bst', fit', hc', path', sides', hd', hm', C + C1, a1, a2, a3, by omega, fun j hj => (a5 j hj).trans (h1 j hj), fun j hj => (a6 j hj).trans (h2 j hj), fun N => ?_⟩
  rw [← Nat.add_assoc, h3 (N + C)]
  exact a7 N
def LN (yset sp sg : Nat → Int32) (ys : Int32) (sG sC : Int64) (many mi d k m : Nat) : Prop :=
  ∀ (p : Nat → Nat) (row : Nat → Int32) (pl st : Int64) (brow : Nat → Int32) (bsz : Int32) (bpl bst : Int64) (fit hc : Int32) (path sides hd : Nat → Int32) (hm : Int32), FW (k + 1) p row (nI (k + 1)) pl st → (∀ j, j < k + 1 → path j = nI (p j)) → HR many hc hm brow bsz hd → sides k + 1 = nI 0 →
    LR yset sp sg ys many k (fB (m + 1)) p path sides hd hm fit (fX4_goOn d row (nI (k + 1)) pl st brow bsz bpl bst (nI many) fit hc (nI mi) sG sC (nI (k + 1)))
section Live
variable {yset sp sg : Nat → Int32} {ys sN : Int32} {sG sC : Int64} {kk many mi : Nat}
theorem live_l (hS : SN kk sG sC sN sp sg ys) (hy : yset 1 = nI mi) (hmi : mi < 36) (hm9 : many ≤ 9) {k m d : Nat} (hkm : k + 2 + m = many)
    (ih : ∀ m', m = m' + 1 → LN yset sp sg ys sG sC many mi (d + 1) (k + 1) m') {p : Nat → Nat} :
    ∀ r s M (row : Nat → Int32) (pl st : Int64) (brow : Nat → Int32) (bsz : Int32) (bpl bst : Int64) (fit hc : Int32) (path sides hd : Nat → Int32) (hm : Int32), s + r = 4 → r + 1 ≤ M → FW (k + 1) p row (nI (k + 1)) pl st → (∀ j, j < k + 1 → path j = nI (p j)) → HR many hc hm brow bsz hd → sides k + 1 = nI s →
      LR yset sp sg ys many k (r * (1 + fB m) + 1) p path sides hd hm fit (fX4_goOn_31 (fX4_goOn (d + 1)) (nI many) (nI mi) sG sC M row (nI (k + 1)) pl st brow bsz bpl bst fit hc (nI (k + 1)) (nI (p k)) (nI s)) := by
  intro r
  induction r with
  | zero =>
    intro s M row pl st brow bsz bpl bst fit hc path sides hd hm hs hM hF hpath hH hsd
    obtain ⟨M, rfl⟩ : ∃ m, M = m + 1 := ⟨M - 1, by omega⟩
    have h4 : s = 4 := by omega
    subst h4
    exact ⟨row, pl, st, brow, bsz, bpl, bst, fit, hc, path, upd sides k (nI 4), hd, hm, 1, cl_pop M, hF, hH, by omega, fun _ _ => rfl, fun j hj => upd_n _ _ (by omega), fun N => it_pop N (by omega) hsd⟩
  | succ r ihr =>
    intro s M row pl st brow bsz bpl bst fit hc path sides hd hm hs hM hF hpath hH hsd
    obtain ⟨M, rfl⟩ : ∃ m, M = m + 1 := ⟨M - 1, by omega⟩
    have hs4 : s < 4 := by omega
    have hp : ∀ j, j < k + 1 → p j < 36 ∧ path j = nI (p j) := fun j hj => ⟨(hF.2.2.1 j hj).1, hpath j hj⟩
    have hw : ∀ j, j + 1 < k + 1 → ew (p j) (p (j + 1)) ≠ 64 := hF.2.2.2.2.1
    have hq := (hp k (by omega)).1
    have hmul : (r + 1) * (1 + fB m) = r * (1 + fB m) + (1 + fB m) := Nat.succ_mul r _
    by_cases hsk : nx (p k) s = 36 ∨ ∃ j, j < k + 1 ∧ p j = nx (p k) s
    · rw [cl_skip M hs4 hF (hsk.elim Or.inl (fun z => Or.inr (Or.inl z)))]
      exact (ihr (s + 1) M row pl st brow bsz bpl bst fit hc path (upd sides k (nI s)) hd hm (by omega) (by omega) hF hpath hH (by rw [upd_s, nI_1])).step (C1 := 1) (fun _ _ => rfl) (fun j hj => upd_n _ _ (by omega)) (by omega) (fun N => it_skip N (by omega) hs4 hsd hp hsk)
    have hn : nx (p k) s ≠ 36 := fun e => hsk (Or.inl e)
    have hno : ∀ j, j < k + 1 → p j ≠ nx (p k) s := fun j hj e => hsk (Or.inr ⟨j, hj, e⟩)
    obtain ⟨q1, q2, q3⟩ := ew_nx hq hs4 hn
    have he64 : ew (p k) (nx (p k) s) ≠ 64 := by omega
    have hp' := pe_row hp q1
    have hw' := pe_way hw he64
    cases hb : bL sC (ew (p k) (nx (p k) s)) with
    | true =>
      rw [cl_skip M hs4 hF (Or.inr (Or.inr hb))]
      have hd' := pe_corn hb
      cases m with
      | zero =>
        obtain ⟨b', e1, e2⟩ := fits_v hS (show k + 1 + 1 ≤ 9 by omega) (by omega) hp' hw'
        have hb' : b' = false := by
          cases b' with
          | false => rfl
          | true => exact absurd (e2.mp rfl) (dead_no hS hd')
        have hk2 : k + 2 = many := by omega
        have hfit : fX10_fits sp sg ys (upd path (k + 1) (nI (nx (p k) s))) (nI many) = some (bI b') := by
          rw [hS.2.2.1, ← hk2]
          exact e1
        exact (ihr (s + 1) M row pl st brow bsz bpl bst fit hc (upd path (k + 1) (nI (nx (p k) s))) (upd sides k (nI s)) hd hm (by omega) (by omega) hF (fun j hj => by rw [upd_n _ _ (show j ≠ k + 1 by omega)]; exact hpath j hj) hH (by rw [upd_s, nI_1])).step (C1 := 1) (fun j hj => upd_n _ _ (by omega)) (fun j hj => upd_n _ _ (by omega)) (by omega) (fun N => (it_leaf N hk2 hm9 hs4 hsd hp hn hno hfit).1 hb')
      | succ m' =>
        obtain ⟨path1, sides1, C1, d1, d2, d3, d4⟩ := dead_n (yset := yset) hS hm9 m' (k + 1) (by omega) (pe (k + 1) p (nx (p k) s)) (upd path (k + 1) (nI (nx (p k) s))) (upd (upd sides k (nI s)) (k + 1) (-1)) hp' hw' hd' (by rw [upd_s]; decide)
        refine (ihr (s + 1) M row pl st brow bsz bpl bst fit hc path1 sides1 hd hm (by omega) (by omega) hF (fun j hj => by rw [d2 j (by omega), upd_n _ _ (show j ≠ k + 1 by omega)]; exact hpath j hj) hH (by rw [d3 k (by omega), upd_n _ _ (show k ≠ k + 1 by omega), upd_s, nI_1])).step (C1 := C1 + 1) (fun j hj => by rw [d2 j (by omega), upd_n _ _ (by omega)]) (fun j hj => by rw [d3 j (by omega), upd_n _ _ (by omega), upd_n _ _ (by omega)]) (by omega) (fun N => ?_)
        rw [← Nat.add_assoc, it_down (N + C1) (by omega) hm9 hs4 hsd hp hn hno, d4 N hd hm fit, pk_m1]
    | false =>
      have hcan : canAdd (k + 1) p (nx (p k) s) := ⟨q1, hno, Or.inr he64⟩
      have hF1 : FW (k + 1 + 1) (pe (k + 1) p (nx (p k) s)) (upd row (k + 1) (nI (nx (p k) s))) (nI (k + 1 + 1)) (pl ||| eL (nx (p k) s)) (st ||| eL (ew (p k) (nx (p k) s))) := by
        have := hF.add hcan
        rw [if_neg (show ¬ k + 1 = 0 by omega)] at this
        exact this
      cases m with
      | zero =>
        have hk2 : k + 2 = many := by omega
        obtain ⟨b', e1, e2⟩ := fits_v hS (show k + 1 + 1 ≤ 9 by omega) (by omega) hp' hw'
        have hfit : fX10_fits sp sg ys (upd path (k + 1) (nI (nx (p k) s))) (nI many) = some (bI b') := by
          rw [hS.2.2.1, ← hk2]
          exact e1
        have hF2 : FW many (pe (k + 1) p (nx (p k) s)) (upd row (k + 1) (nI (nx (p k) s))) (nI many) (pl ||| eL (nx (p k) s)) (st ||| eL (ew (p k) (nx (p k) s))) := by
          rw [← hk2]
          exact hF1
        have hle : nI many ≤ nI (k + 1 + 1) := nleT (by omega) (by omega)
        cases hbb : b' with
        | false =>
          have hnok : ¬ ∀ m, m < kk → OKm many (pe (k + 1) p (nx (p k) s)) sp sg m := fun z => by
            rw [← hk2] at z
            have := e2.mpr z
            rw [hbb] at this
            cases this
          have hwe := weigh_no (mi := mi) (brow := brow) (bpl := bpl) (bst := bst) (bsz := bsz) (fit := fit) (hs := hc) hF2 hS hnok
          rw [show nI many = nI (k + 1 + 1) by rw [← hk2]] at hwe
          have hK : fX4_goOn (d + 1) (upd row (k + 1) (nI (nx (p k) s))) (nI (k + 1 + 1)) (pl ||| eL (nx (p k) s)) (st ||| eL (ew (p k) (nx (p k) s))) brow bsz bpl bst (nI many) fit hc (nI mi) sG sC (nI (k + 1 + 1)) = some (upd row (k + 1) (nI (nx (p k) s)), nI (k + 1 + 1), pl ||| eL (nx (p k) s), st ||| eL (ew (p k) (nx (p k) s)), brow, bsz, bpl, bst, fit, hc) := by
            rw [goOn_leaf d hle, show nI many = nI (k + 1 + 1) by rw [← hk2], hwe, o6]
          obtain ⟨pl2, st2, g1, g2⟩ := cl_down M hs4 hF hn hno hb hK hF1
          rw [g2]
          exact (ihr (s + 1) M _ pl2 st2 brow bsz bpl bst fit hc (upd path (k + 1) (nI (nx (p k) s))) (upd sides k (nI s)) hd hm (by omega) (by omega) g1 (fun j hj => by rw [upd_n _ _ (show j ≠ k + 1 by omega)]; exact hpath j hj) hH (by rw [upd_s, nI_1])).step (C1 := 1) (fun j hj => upd_n _ _ (by omega)) (fun j hj => upd_n _ _ (by omega)) (by omega) (fun N => (it_leaf N hk2 hm9 hs4 hsd hp hn hno hfit).1 hbb)
        | true =>
          have hok : ∀ m, m < kk → OKm many (pe (k + 1) p (nx (p k) s)) sp sg m := by
            rw [← hk2]
            exact e2.mp hbb
          obtain ⟨brow', bsz', bpl', bst', hc', hd2, hm2, w1, w2, w3⟩ := leaf_yes (bpl := bpl) (bst := bst) (fit := fit) hS hy hmi hm9 hF2 (path := upd path (k + 1) (nI (nx (p k) s))) (fun j hj => (hp' j (by omega)).2) hH hok
          rw [show nI many = nI (k + 1 + 1) by rw [← hk2]] at w1
          have hK : fX4_goOn (d + 1) (upd row (k + 1) (nI (nx (p k) s))) (nI (k + 1 + 1)) (pl ||| eL (nx (p k) s)) (st ||| eL (ew (p k) (nx (p k) s))) brow bsz bpl bst (nI many) fit hc (nI mi) sG sC (nI (k + 1 + 1)) = some (upd row (k + 1) (nI (nx (p k) s)), nI (k + 1 + 1), pl ||| eL (nx (p k) s), st ||| eL (ew (p k) (nx (p k) s)), brow', bsz', bpl', bst', fit + 1, hc') := by
            rw [goOn_leaf d hle, show nI many = nI (k + 1 + 1) by rw [← hk2], w1, o6]
          obtain ⟨pl2, st2, g1, g2⟩ := cl_down M hs4 hF hn hno hb hK hF1
          rw [g2]
          exact (ihr (s + 1) M _ pl2 st2 brow' bsz' bpl' bst' (fit + 1) hc' (upd path (k + 1) (nI (nx (p k) s))) (upd sides k (nI s)) hd2 hm2 (by omega) (by omega) g1 (fun j hj => by rw [upd_n _ _ (show j ≠ k + 1 by omega)]; exact hpath j hj) w3 (by rw [upd_s, nI_1])).step (C1 := 1) (fun j hj => upd_n _ _ (by omega)) (fun j hj => upd_n _ _ (by omega)) (by omega) (fun N => (it_leaf N hk2 hm9 hs4 hsd hp hn hno hfit).2 hd2 hm2 hbb w2)
      | succ m' =>
        obtain ⟨row1, pl1, st1, brow1, bsz1, bpl1, bst1, fit1, hc1, path1, sides1, hd1, hm1, C1, a1, a2, a3, a4, a5, a6, a7⟩ := ih m' rfl (pe (k + 1) p (nx (p k) s)) (upd row (k + 1) (nI (nx (p k) s))) (pl ||| eL (nx (p k) s)) (st ||| eL (ew (p k) (nx (p k) s))) brow bsz bpl bst fit hc (upd path (k + 1) (nI (nx (p k) s))) (upd (upd sides k (nI s)) (k + 1) (-1)) hd hm hF1 (fun j hj => (hp' j hj).2) hH (by rw [upd_s]; decide)
        obtain ⟨pl2, st2, g1, g2⟩ := cl_down M hs4 hF hn hno hb a1 a2
        rw [g2]
        refine (ihr (s + 1) M row1 pl2 st2 brow1 bsz1 bpl1 bst1 fit1 hc1 path1 sides1 hd1 hm1 (by omega) (by omega) g1 (fun j hj => by rw [a5 j (by omega), upd_n _ _ (show j ≠ k + 1 by omega)]; exact hpath j hj) a3 (by rw [a6 k (by omega), upd_n _ _ (show k ≠ k + 1 by omega), upd_s, nI_1])).step (C1 := C1 + 1) (fun j hj => by rw [a5 j (by omega), upd_n _ _ (by omega)]) (fun j hj => by rw [a6 j (by omega), upd_n _ _ (by omega), upd_n _ _ (by omega)]) (by omega) (fun N => ?_)
        rw [← Nat.add_assoc, it_down (N + C1) (by omega) hm9 hs4 hsd hp hn hno, a7 N, pk_m1]
theorem live_n (hS : SN kk sG sC sN sp sg ys) (hy : yset 1 = nI mi) (hmi : mi < 36) (hm9 : many ≤ 9) : ∀ m k d, k + 2 + m = many → m ≤ d → LN yset sp sg ys sG sC many mi (d + 2) k m := by
  intro m
  induction m with
  | zero =>
    intro k d hk hd p row pl st brow bsz bpl bst fit hc path sides hdd hm hF hpath hH hsd
    rw [fB_s, goOn_node (d + 1) hF (by omega) hm9]
    exact live_l hS hy hmi hm9 hk (fun m' e => by omega) 4 0 4000 row pl st brow bsz bpl bst fit hc path sides hdd hm (by omega) (by omega) hF hpath hH hsd
  | succ m ih =>
    intro k d hk hd p row pl st brow bsz bpl bst fit hc path sides hdd hm hF hpath hH hsd
    obtain ⟨d, rfl⟩ : ∃ e, d = e + 1 := ⟨d - 1, by omega⟩
    rw [fB_s, goOn_node (d + 1 + 1) hF (by omega) hm9]
    exact live_l hS hy hmi hm9 hk (fun m' e => by
      obtain rfl : m = m' := by omega
      exact ih (k + 1) d (by omega) (by omega)) 4 0 4000 row pl st brow bsz bpl bst fit hc path sides hdd hm (by omega) (by omega) hF hpath hH hsd
end Live
