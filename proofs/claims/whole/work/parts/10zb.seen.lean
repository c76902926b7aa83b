-- STEP of seen
theorem SN.congr2 {k : Nat} {sG sC : Int64} {sN ys : Int32} {sp sg sp' sg' : Nat → Int32} (h : SN k sG sC sN sp sg ys) (f1 : ∀ i, i < k → sp' i = sp i) (f2 : ∀ i, i < k → sg' i = sg i) : SN k sG sC sN sp' sg' ys := by
  obtain ⟨h1, h2, h3, h4, h5, h6⟩ := h
  refine ⟨h1, h2, h3, fun i hi => by rw [f1 i hi, f2 i hi]; exact h4 i hi, fun e => ?_, fun e => ?_⟩
  · rw [h5 e]
    constructor
    · rintro ⟨i, pr, hi, a⟩
      exact ⟨i, pr, hi, by rw [f1 i hi, f2 i hi]; exact a⟩
    · rintro ⟨i, pr, hi, a⟩
      exact ⟨i, pr, hi, by rw [f1 i hi, f2 i hi] at a; exact a⟩
  · rw [h6 e]
    constructor
    · rintro ⟨i, pr, hi, a⟩
      exact ⟨i, pr, hi, by rw [f1 i hi, f2 i hi]; exact a⟩
    · rintro ⟨i, pr, hi, a⟩
      exact ⟨i, pr, hi, by rw [f1 i hi, f2 i hi] at a; exact a⟩
theorem nlt_F {a b : Nat} (h : ¬ a < b) (hb : a < 2 ^ 31) : ¬ nI a < nI b := fun z => h ((nlt a b hb (by omega)).mp z)
theorem tb_edge4 : ∀ q, q < 36 → fX3_edge (nI q) (-4) = some 0 := by decide +kernel
theorem SN.bit {k : Nat} {sG sC : Int64} {sp sg : Nat → Int32} {sN ys : Int32} (h : SN k sG sC sN sp sg ys) {pr : Nat} (hp : pr < 72) (hv : vpr pr = true) : (bL sG (pb pr) = true ↔ ∃ j, j < k ∧ sp j = nI pr ∧ sg j = 1) ∧ (bL sC (pb pr) = true ↔ ∃ j, j < k ∧ sp j = nI pr ∧ sg j = 0) := by
  obtain ⟨-, -, -, -, h5, h6⟩ := h
  refine ⟨(h5 _).trans ⟨?_, ?_⟩, (h6 _).trans ⟨?_, ?_⟩⟩
  · rintro ⟨j, p', hj, a1, a2, a3, a4, a5⟩
    have := tb_pb p' a1 pr hp a2 hv a4
    subst this
    exact ⟨j, hj, a3, a5⟩
  · rintro ⟨j, hj, a, b⟩
    exact ⟨j, pr, hj, hp, hv, a, rfl, b⟩
  · rintro ⟨j, p', hj, a1, a2, a3, a4, a5⟩
    have := tb_pb p' a1 pr hp a2 hv a4
    subst this
    exact ⟨j, hj, a3, a5⟩
  · rintro ⟨j, hj, a, b⟩
    exact ⟨j, pr, hj, hp, hv, a, rfl, b⟩
theorem SN.more {k : Nat} {sG sC : Int64} {sp sg : Nat → Int32} (h : SN k sG sC (nI k) sp sg (nI k)) (hk : k < 12) {pr : Nat} (hp : pr < 72) (hv : vpr pr = true) (v : Bool) :
    SN (k + 1) (if v = true then sG ||| eL (pb pr) else sG) (if v = true then sC else sC ||| eL (pb pr)) (nI (k + 1)) (upd sp k (nI pr)) (upd sg k (bI v)) (nI (k + 1)) := by
  obtain ⟨h1, -, -, h4, h5, h6⟩ := h
  have h60 := (tb_vp pr hp hv).1
  have old : ∀ (w : Int32) (e : Nat), (∃ j p', j < k + 1 ∧ p' < 72 ∧ vpr p' = true ∧ upd sp k (nI pr) j = nI p' ∧ pb p' = e ∧ upd sg k (bI v) j = w) ↔ ((∃ j p', j < k ∧ p' < 72 ∧ vpr p' = true ∧ sp j = nI p' ∧ pb p' = e ∧ sg j = w) ∨ (pb pr = e ∧ bI v = w)) := by
    intro w e
    constructor
    · rintro ⟨j, p', hj, a1, a2, a3, a4, a5⟩
      by_cases z : j = k
      · subst z
        rw [upd_s] at a3 a5
        have := (nI_eq (by omega) (by omega)).mp a3
        subst this
        exact Or.inr ⟨a4, a5⟩
      · rw [upd_n _ _ z] at a3 a5
        exact Or.inl ⟨j, p', by omega, a1, a2, a3, a4, a5⟩
    · rintro (⟨j, p', hj, a1, a2, a3, a4, a5⟩ | ⟨a4, a5⟩)
      · exact ⟨j, p', by omega, a1, a2, by rw [upd_n _ _ (by omega)]; exact a3, a4, by rw [upd_n _ _ (by omega)]; exact a5⟩
      · exact ⟨k, pr, by omega, hp, hv, upd_s _ _ _, a4, by rw [upd_s]; exact a5⟩
  refine ⟨by omega, rfl, rfl, fun i hi => ?_, fun e => ?_, fun e => ?_⟩
  · by_cases z : i = k
    · subst z
      rw [upd_s, upd_s]
      exact ⟨pr, hp, hv, rfl, by cases v; exact Or.inl rfl; exact Or.inr rfl⟩
    · rw [upd_n _ _ z, upd_n _ _ z]; exact h4 i (by omega)
  · rw [old, ← h5 e]
    cases v with
    | true =>
      rw [if_pos rfl, bL_or, Bool.or_eq_true, bL_e, decide_eq_true_eq]
      exact or_congr Iff.rfl ⟨fun x => ⟨x.1.symm, rfl⟩, fun x => ⟨x.1.symm, by omega⟩⟩
    | false =>
      rw [if_neg (by decide)]
      exact ⟨Or.inl, fun x => x.resolve_right (fun y => absurd y.2 (by decide))⟩
  · rw [old, ← h6 e]
    cases v with
    | true =>
      rw [if_pos rfl]
      exact ⟨Or.inl, fun x => x.resolve_right (fun y => absurd y.2 (by decide))⟩
    | false =>
      rw [if_neg (by decide), bL_or, Bool.or_eq_true, bL_e, decide_eq_true_eq]
      exact or_congr Iff.rfl ⟨fun x => ⟨x.1.symm, rfl⟩, fun x => ⟨x.1.symm, by omega⟩⟩
theorem sight_l {A B : Nat → Int32} {i P : Nat} (hi : i < 12) : ∀ N j, j ≤ i → i + 1 ≤ j + N → ((∀ m, j ≤ m → m < i → A m = A i → B m = B i) → fX10_readSight_92 N (nI P) A B (nI i) (nI j) = some (1, nI (P + 1), A, B)) ∧ ((∃ m, j ≤ m ∧ m < i ∧ A m = A i ∧ B m ≠ B i) → fX10_readSight_92 N (nI P) A B (nI i) (nI j) = some (0, nI P, A, B)) := by
  intro N
  induction N with
  | zero => intro j h1 h2; omega
  | succ N ih =>
    intro j h1 h2
    rw [fX10_readSight_92]
    unfold fX10_readSight_132
    by_cases z : j = i
    · subst z
      rw [if_pos (nleT (Nat.le_refl _) (by omega)), nI_1, lets_eq]
      exact ⟨fun _ => rfl, fun ⟨m, a, b, _⟩ => by omega⟩
    · have hj : j < i := by omega
      obtain ⟨g1, g2⟩ := ih (j + 1) (by omega) (by omega)
      rw [if_neg (nleF hj (by omega)), if_pos (inb_n (by omega) (by decide)), if_pos (inb_n (by omega) (by decide)), if_pos (inb_n (by omega) (by decide)), if_pos (inb_n (by omega) (by decide)), cl_n (by omega), cl_n (by omega), nI_1]
      by_cases y : A j = A i
      · rw [if_pos y]
        by_cases x : B j = B i
        · rw [if_pos x]
          refine ⟨fun h => g1 (fun m a => h m (by omega)), fun ⟨m, a, b, c, d⟩ => g2 ⟨m, ?_, b, c, d⟩⟩
          by_cases w : m = j
          · subst w; exact absurd x d
          · omega
        · rw [if_neg x]
          exact ⟨fun h => absurd (h j (Nat.le_refl _) hj y) x, fun _ => rfl⟩
      · rw [if_neg y]
        refine ⟨fun h => g1 (fun m a => h m (by omega)), fun ⟨m, a, b, c, d⟩ => g2 ⟨m, ?_, b, c, d⟩⟩
        by_cases w : m = j
        · subst w; exact absurd c y
        · omega
section Seen
variable {n : Nat} {ch : Nat → Nat} {typed ytape : Nat → Int32}
theorem mark_v {rg rc : Int64} {read rdg : Nat → Int32} {i pr P2 : Nat} (hi : i < 12) (hS : SN i rg rc (nI i) read rdg (nI i)) (hp : pr < 72) (hv : vpr pr = true) (v : Bool) :
    ((if v = true then rc else rg) &&& eL (pb pr) = 0 → fX10_readSight_88 (nI P2) (upd read i (nI pr)) rdg (nI i) (nI i) (bI v) = some (1, nI (P2 + 1), upd read i (nI pr), upd rdg i (bI v))) ∧
    (¬ (if v = true then rc else rg) &&& eL (pb pr) = 0 → fX10_readSight_88 (nI P2) (upd read i (nI pr)) rdg (nI i) (nI i) (bI v) = some (0, nI P2, upd read i (nI pr), upd rdg i (bI v))) := by
  unfold fX10_readSight_88
  have h60 := (tb_vp pr hp hv).1
  obtain ⟨b1, b2⟩ := hS.bit hp hv
  rw [if_pos (inb_n hi (by decide)), cl_n (by omega), and_e (by omega)]
  obtain ⟨g1, g2⟩ := sight_l (A := upd read i (nI pr)) (B := upd rdg i (bI v)) (P := P2) hi 4000 0 (Nat.zero_le _) (by omega)
  rw [nI_z] at g1 g2
  have hval : ∀ m, m < i → rdg m = 0 ∨ rdg m = 1 := fun m hm => by
    obtain ⟨_, _, _, _, x⟩ := hS.2.2.2.1 m hm
    exact x
  refine ⟨fun h => g1 (fun m _ hm e => ?_), fun h => g2 ?_⟩
  · rw [upd_n _ _ (by omega), upd_s] at e
    rw [upd_n _ _ (by omega), upd_s]
    cases v with
    | true =>
      rw [if_pos rfl] at h
      rcases hval m hm with x | x
      · have := b2.mpr ⟨m, hm, e, x⟩
        rw [h] at this; cases this
      · exact x
    | false =>
      rw [if_neg (by decide)] at h
      rcases hval m hm with x | x
      · exact x
      · have := b1.mpr ⟨m, hm, e, x⟩
        rw [h] at this; cases this
  · cases v with
    | true =>
      rw [if_pos rfl, Bool.not_eq_false] at h
      obtain ⟨m, hm, e, x⟩ := b2.mp h
      refine ⟨m, Nat.zero_le _, hm, ?_, ?_⟩
      · rw [upd_n _ _ (by omega), upd_s]; exact e
      · rw [upd_n _ _ (by omega), upd_s, x]; decide
    | false =>
      rw [if_neg (by decide), Bool.not_eq_false] at h
      obtain ⟨m, hm, e, x⟩ := b1.mp h
      refine ⟨m, Nat.zero_le _, hm, ?_, ?_⟩
      · rw [upd_n _ _ (by omega), upd_s]; exact e
      · rw [upd_n _ _ (by omega), upd_s, x]; decide
theorem part_v (h : TX n ch typed ytape) {k i : Nat} {rg rc : Int64} {read rdg : Nat → Int32} (hk : k ≤ n) (hi : i < 12) (hS : SN i rg rc (nI i) read rdg (nI i)) :
    (∃ P rg' rc' read' rdg', P ≤ n ∧ nb ch n P = P ∧ fX6_readPart typed (nI n) (nI (nb ch n k)) rg rc = some (0, nI P, rg', rc') ∧ fX10_readSight ytape (nI n) (nI k) read rdg (nI i) = some (0, nI P, read', rdg')) ∨
    ∃ k' rg' rc' read' rdg', k' ≤ n ∧ fX6_readPart typed (nI n) (nI (nb ch n k)) rg rc = some (1, nI (nb ch n k'), rg', rc') ∧ fX10_readSight ytape (nI n) (nI k) read rdg (nI i) = some (1, nI k', read', rdg') ∧ SN (i + 1) rg' rc' (nI (i + 1)) read' rdg' (nI (i + 1)) := by
  have h80 := h.1
  unfold fX6_readPart fX10_readSight
  rcases square_v h hk with ⟨q, k1, hq, hk1, e1, e2⟩ | ⟨P, hP, hPi, e1, e2⟩
  rotate_left
  · rw [e1, e2, o2, o2, if_neg (by decide), if_pos (by decide)]
    exact Or.inl ⟨P, _, _, _, _, hP, hPi, rfl, rfl⟩
  obtain ⟨b1, b2, b3⟩ := nb_le' ch hk1
  have hi1 := nb_i ch hk1
  rw [e1, e2, o2, o2, if_pos (nI_pos' (by omega)), if_neg (nI_pos (by omega)), letter_v h b2, o1, sideC_v h b2, o1, side_v h hk1, o2]
  generalize hP1 : nb ch n k1 = P1 at b1 b2 b3 hi1 ⊢
  cases ho : (if P1 < n then sl (ch P1) else none) with
  | none =>
    rw [show oC none = -4 from rfl, tb_edge4 q hq, o1, if_pos (show lg_cmp 0 0 = 0 from lg0.mpr rfl), show oM none = -1 from rfl, if_pos (by decide)]
    exact Or.inl ⟨P1, _, _, _, _, b2, hi1, rfl, rfl⟩
  | some s =>
    have hlt : P1 < n := Classical.byContradiction fun z => by rw [if_neg z] at ho; cases ho
    have hsl : sl (ch P1) = some s := by rw [if_pos hlt] at ho; exact ho
    have hs := sl_lt hsl
    have hle := tb_n1 q hq s hs
    have hside : fX10_sideHere ytape (nI n) (nI P1) = some (nI s, nI P1) := by rw [side_v h b2, hi1, if_pos hlt, hsl]; rfl
    rw [show oC (some s) = nI s from rfl, show oM (some s) = nI s from rfl, if_neg (nI_pos (by omega)), hside, o2, tb_edge q hq s hs, o1, tb_nextTo q hq s hs, o1, hside, o2]
    by_cases hn : nx q s = 36
    · rw [if_pos hn, if_pos hn, if_pos (show lg_cmp 0 0 = 0 from lg0.mpr rfl), if_neg (by decide)]
      exact Or.inl ⟨P1, _, _, _, _, b2, hi1, rfl, rfl⟩
    obtain ⟨n1, n2, n3, n4⟩ := tb_n2 q hq s hs hn
    have hE0 : ¬ lg_cmp (eL (eb q s)) 0 = 0 := fun z => by
      have := (edge_0 hq hs).mp (by rw [if_neg hn]; exact lg0.mp z)
      exact hn this
    obtain ⟨c1, c2, c3⟩ := nb_le' ch (show P1 + 1 ≤ n by omega)
    have ci := nb_i ch (show P1 + 1 ≤ n by omega)
    rw [if_neg hn, if_neg hn, if_neg hE0, if_pos (nI_pos' (by omega)), adv_v h hlt, o1, letter_v h c2, o1, tb_pair q hq s hs hn, o1, if_pos (inb_n (by omega) (by decide)), nI_1 P1, lets_eq (nI (P1 + 1)), byte_v h (show P1 + 1 ≤ n by omega), o2, cl_n (by omega)]
    generalize hP2 : nb ch n (P1 + 1) = P2 at c1 c2 c3 ci ⊢
    unfold fX10_readSight_72 fX6_readPart_68 fX6_readPart_103
    rw [letter_v h c2, o1]
    by_cases hz : P2 < n
    rotate_left
    · rw [if_neg hz, if_neg hz, if_neg (by decide), if_neg (by decide), if_neg (by decide), if_neg (by decide)]
      exact Or.inl ⟨P2, _, _, _, _, c2, ci, rfl, rfl⟩
    have hc := (h.2 P2 hz).2.2.2
    rw [if_pos hz, if_pos hz, adv_v h hz, ← n2]
    obtain ⟨m1', m0'⟩ := mark_v (P2 := P2) hi hS n3 n4 true
    obtain ⟨m2', m3'⟩ := mark_v (P2 := P2) hi hS n3 n4 false
    have hmore1 := hS.more hi n3 n4 true
    have hmore0 := hS.more hi n3 n4 false
    rw [if_pos rfl] at m1' m0'
    rw [if_neg (show ¬ false = true by decide)] at m2' m3'
    rw [if_pos rfl, if_pos rfl] at hmore1
    rw [if_neg (show ¬ false = true by decide), if_neg (show ¬ false = true by decide)] at hmore0
    rw [bI_t] at m1' m0' hmore1
    rw [bI_f] at m2' m3' hmore0
    by_cases y1 : ch P2 = 43
    · rw [y1, if_pos (show nI 43 = 43 from rfl), if_pos (show nI 43 = 43 from rfl), if_pos (show nI 43 = 43 from rfl), if_neg (show ¬ nI 43 = 45 by decide)]
      by_cases x : rc &&& eL (pb (prN q s)) = 0
      · rw [if_pos (lg0.mpr x), lets_eq, o1, m1' x]
        exact Or.inr ⟨P2 + 1, _, _, _, _, by omega, rfl, rfl, hmore1⟩
      · rw [if_neg (fun z => x (lg0.mp z)), m0' x]
        exact Or.inl ⟨P2, _, _, _, _, c2, ci, rfl, rfl⟩
    · rw [if_neg (eqF (c := 43) (C := 43) rfl y1 (by omega) (by decide)), if_neg (eqF (c := 43) (C := 43) rfl y1 (by omega) (by decide)), if_neg (eqF (c := 43) (C := 43) rfl y1 (by omega) (by decide))]
      by_cases y2 : ch P2 = 45
      · rw [y2, if_pos (show nI 45 = 45 from rfl), if_pos (show nI 45 = 45 from rfl)]
        by_cases x : rg &&& eL (pb (prN q s)) = 0
        · rw [if_pos (lg0.mpr x), lets_eq, o1, m2' x]
          exact Or.inr ⟨P2 + 1, _, _, _, _, by omega, rfl, rfl, hmore0⟩
        · rw [if_neg (fun z => x (lg0.mp z)), m3' x]
          exact Or.inl ⟨P2, _, _, _, _, c2, ci, rfl, rfl⟩
      · rw [if_neg (eqF (c := 45) (C := 45) rfl y2 (by omega) (by decide)), if_neg (eqF (c := 45) (C := 45) rfl y2 (by omega) (by decide))]
        exact Or.inl ⟨P2, _, _, _, _, c2, ci, rfl, rfl⟩
theorem seen_l (h : TX n ch typed ytape) : ∀ N M k i (rg rc : Int64) (reads : Int32) (read rdg : Nat → Int32), k ≤ n → i < 12 → 12 ≤ i + N → 12 ≤ i + M → SN i rg rc (nI i) read rdg (nI i) →
    (∃ P rg' rc' read' rdg' reads', P ≤ n ∧ nb ch n P = P ∧ fX6_readSeen_12 typed (nI n) N (nI (nb ch n k)) rg rc (nI (i + 1)) = some (-20 - nI P, nI P, rg', rc') ∧ fX10_readSeen_7 ytape (nI n) M (nI k) reads read rdg (nI i) = some (0, nI P, reads', read', rdg')) ∨
    ∃ P i' rg' rc' read' rdg', fX6_readSeen_12 typed (nI n) N (nI (nb ch n k)) rg rc (nI (i + 1)) = some (nI i', nI P, rg', rc') ∧ fX10_readSeen_7 ytape (nI n) M (nI k) reads read rdg (nI i) = some (1, nI P, nI i', read', rdg') ∧ SN i' rg' rc' (nI i') read' rdg' (nI i') := by
  intro N
  induction N with
  | zero => intro M k i rg rc reads read rdg h1 h2 h3; omega
  | succ N ih =>
    intro M k i rg rc reads read rdg h1 h2 h3 h4 hS
    obtain ⟨M, rfl⟩ : ∃ m, M = m + 1 := ⟨M - 1, by omega⟩
    have h80 := h.1
    rw [fX6_readSeen_12, fX10_readSeen_7, if_neg (show ¬ (12 : Int32) < nI (i + 1) from fun z => by have := (nlt 12 (i + 1) (by decide) (by omega)).mp z; omega), if_neg (litF (c := 12) (C := 12) rfl h2 (by decide))]
    unfold fX6_readSeen_58 fX6_fault
    rcases part_v h h1 h2 hS with ⟨P, rg', rc', read', rdg', hP, hPi, e1, e2⟩ | ⟨k', rg', rc', read', rdg', hk', e1, e2, hS'⟩
    · rw [e1, e2, o4, o4, if_pos rfl, if_pos rfl, o1]
      exact Or.inl ⟨P, _, _, _, _, _, hP, hPi, rfl, rfl⟩
    · obtain ⟨b1, b2, b3⟩ := nb_le' ch hk'
      have bi := nb_i ch hk'
      rw [e1, e2, o4, o4, if_neg (show ¬ (1 : Int32) = 0 by decide), if_neg (show ¬ (1 : Int32) = 0 by decide), letter_v h b2, o1, byte_v h hk', nI_1 i, lets_eq (nI (i + 1)), o2]
      generalize hP1 : nb ch n k' = P1 at b1 b2 b3 bi ⊢
      by_cases z : P1 < n
      rotate_left
      · rw [if_neg (nlt_F z (by omega)), if_neg z, if_neg (by decide)]
        exact Or.inr ⟨P1, i + 1, _, _, _, _, rfl, rfl, hS'⟩
      have hc := (h.2 P1 z).2.2.2
      rw [if_pos ((nlt P1 n (by omega) (by omega)).mpr z), if_pos z, if_pos z, if_pos (nI_pos' (by omega))]
      by_cases y : ch P1 = 44
      · rw [y, if_pos (show nI 44 = 44 from rfl), if_pos (show nI 44 = 44 from rfl)]
        by_cases x : i = 11
        · subst x
          rw [if_pos (show nI (11 + 1) = 12 from rfl), if_pos (show nI 11 = 11 from rfl), o1]
          exact Or.inl ⟨P1, _, _, _, _, _, b2, bi, rfl, rfl⟩
        · rw [if_neg (eqF (c := 12) (C := 12) rfl (by omega) (by omega) (by decide)), if_neg (eqF (c := 11) (C := 11) rfl x (by omega) (by decide)), adv_v h z, o1, nI_1, nI_1, lets_eq]
          exact ih M (P1 + 1) (i + 1) rg' rc' _ read' rdg' (by omega) (by omega) (by omega) (by omega) hS'
      · rw [if_neg (eqF (c := 44) (C := 44) rfl y (by omega) (by decide)), if_neg (eqF (c := 44) (C := 44) rfl y (by omega) (by decide)), o1]
        exact Or.inl ⟨P1, _, _, _, _, _, b2, bi, rfl, rfl⟩
theorem seen41 {i : Nat} {read rdg : Nat → Int32} (t pl r : Int32) (hi : i ≤ 12) : ∀ N k (sp sg : Nat → Int32), k ≤ i → i + 1 ≤ k + N → (∀ j, j < k → sp j = read j ∧ sg j = rdg j) → ∃ sp' sg', fX10_seen_41 N sp sg (nI i) t pl r read rdg (nI k) = some (nI i, sp', sg', nI i, t, pl, r, read, rdg) ∧ ∀ j, j < i → sp' j = read j ∧ sg' j = rdg j := by
  intro N
  induction N with
  | zero => intro k sp sg h1 h2; omega
  | succ N ih =>
    intro k sp sg h1 h2 h3
    rw [fX10_seen_41]
    by_cases z : k = i
    · subst z
      rw [if_pos (nleT (Nat.le_refl _) (by omega))]
      exact ⟨_, _, rfl, h3⟩
    · rw [if_neg (nleF (by omega) (by omega)), if_pos (inb_n (by omega) (by decide)), lets_eq, if_pos (inb_n (by omega) (by decide)), if_pos (inb_n (by omega) (by decide)), lets_eq, if_pos (inb_n (by omega) (by decide)), cl_n (by omega), nI_1]
      refine ih (k + 1) _ _ (by omega) (by omega) (fun j hj => ?_)
      by_cases y : j = k
      · subst y; rw [upd_s, upd_s]; exact ⟨rfl, rfl⟩
      · rw [upd_n _ _ y, upd_n _ _ y]; exact h3 j (by omega)
end Seen
theorem step_seen : STEP_seen R1d R3d := by
  intro ea cl ga sw mo mi dr sG sC sN sz pl st row ts tl tp rg rc typed ys yse yt yp yr yrow yea ysh yst yset ysp ysg ytape yread yrdg hR h3
  obtain ⟨n, ch, hT, rfl, rfl⟩ := TX_of h3
  have h80 := hT.1
  have hR' := hR
  obtain ⟨m, p, mo', mi', dr', k, hF, hyy, hE, hC, hG, hS, hm, hi, hd, hN⟩ := hR
  unfold fX9_seen fX10_seen fX6_readSeen fX10_readSeen fX10_seen_14
  have hS0 : SN 0 0 0 (nI 0) yread yrdg (nI 0) := by
    refine ⟨by decide, rfl, rfl, fun i hi => absurd hi (by omega), fun e => ?_, fun e => ?_⟩
    · rw [bL_z]
      exact ⟨fun h => by (cases h), fun ⟨i, pr, hi, _⟩ => by omega⟩
    · rw [bL_z]
      exact ⟨fun h => by (cases h), fun ⟨i, pr, hi, _⟩ => by omega⟩
  rw [take_v hT, o3]
  rcases seen_l hT 4000 4000 0 0 0 0 yr yread yrdg (Nat.zero_le _) (by decide) (by decide) (by decide) hS0 with ⟨P, rg', rc', read', rdg', reads', hP, hPi, c1, c2⟩ | ⟨P, i', rg', rc', read', rdg', c1, c2, hS'⟩
  · rw [nI_z] at c2
    rw [show nI (0 + 1) = 1 from rfl] at c1
    rw [c1, o4, c2, o5, if_pos (fault_neg (by omega)), if_pos rfl, byte_v hT hP, hPi, o2, if_pos rfl]
    exact ⟨_, _, _, _, _, _, _, _, _, _, _, _, _, _, _, _, _, rfl, rfl, hR', R3_z _ _⟩
  · rw [nI_z] at c2
    rw [show nI (0 + 1) = 1 from rfl] at c1
    have hi12 := hS'.1
    obtain ⟨sp', sg', e1, e2⟩ := seen41 (read := read') (rdg := rdg') 0 (nI P) (nI i') hi12 4000 0 ysp ysg (Nat.zero_le _) (by omega) (fun j hj => absurd hj (by omega))
    rw [nI_z] at e1
    rw [c1, o4, c2, o5, if_neg (nI_pos (by omega)), if_neg (show ¬ (1 : Int32) = 0 by decide), if_neg (show ¬ (1 : Int32) = 0 by decide), e1]
    exact ⟨_, _, _, _, _, _, _, _, _, _, _, _, _, _, _, _, _, rfl, rfl, ⟨m, p, mo', mi', dr', i', hF, hyy, hE, hC, hG, hS, hm, hi, hd, hS'.congr2 (fun j hj => (e2 j hj).1) (fun j hj => (e2 j hj).2)⟩, R3_z _ _⟩
