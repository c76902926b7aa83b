-- STEPS of far, roped, film
theorem fewest_v {E : Nat → Nat → Prop} {mid a : Nat} {d : Nat → Int32} (h : LST E mid (-4) d) (ha : a < 36) : ∃ R, fX8_fewestFrom d (nI a) = some R ∧ MNP (fun k => ∃ u, u ≤ 1 ∧ WK E k mid (a + u * 36)) R := by
  unfold fX8_fewestFrom fX8_fewestFrom_35
  rw [X3_isSquare, o1, ir_n ha (by decide), bI_t, if_neg (show ¬ (1 : Int32) = 0 by decide), if_pos (inb_n (by omega) (by decide)), cl_n (by omega), lets_eq, show (36 : Int32) + nI a = nI (36 + a) from by show nI 36 + _ = _; rw [nI_add], if_pos (inb_n (by omega) (by decide)), cl_n (by omega), lets_eq]
  have hneg : ∀ x, x < 72 → d x < 0 → d x = -4 := fun x hx hl => by
    rcases h x hx with ⟨e, _⟩ | ⟨i, hi, e, _⟩
    · exact e
    · rw [e] at hl; exact absurd hl (nI_pos (by omega))
  by_cases g1 : d a < 0
  · rw [if_pos g1]
    refine ⟨_, rfl, two_min h (by decide) ha _ (fun _ h2 => ?_) (fun _ h2 => ?_) (fun h3 _ => ?_) (fun i j hi hj e1 _ => ?_)⟩
    · rw [hneg a (by omega) g1, hneg (36 + a) (by omega) h2]; decide
    · rw [if_pos]
      rw [Int32.lt_iff_toInt_lt] at g1 ⊢
      rw [Int32.le_iff_toInt_le] at h2
      omega
    · exact absurd g1 (by rw [Int32.not_lt]; exact h3)
    · rw [e1] at g1; exact absurd g1 (nI_pos (by omega))
  · rw [if_neg g1]
    have g1' : 0 ≤ d a := by rw [Int32.not_lt] at g1; exact g1
    by_cases g2 : 0 ≤ d (36 + a)
    · rw [if_pos g2]
      refine ⟨_, rfl, two_min h (by decide) ha _ (fun h1 _ => absurd h1 g1) (fun h1 _ => absurd h1 g1) (fun _ h2 => absurd g2 (not_le_0.mpr h2)) (fun i j hi hj e1 e2 => ?_)⟩
      rw [e1, e2]
      by_cases z : i ≤ j
      · rw [if_pos z, if_neg (fun y => by have := (nlt j i (by omega) (by omega)).mp y; omega)]
      · rw [if_neg z, if_pos ((nlt j i (by omega) (by omega)).mpr (by omega))]
    · rw [if_neg g2]
      have g2' : d (36 + a) < 0 := not_le_0.mp g2
      refine ⟨_, rfl, two_min h (by decide) ha _ (fun h1 _ => absurd h1 g1) (fun h1 _ => absurd h1 g1) (fun _ _ => ?_) (fun i j hi hj e1 e2 => ?_)⟩
      · rw [if_neg (fun y => g1 ?_)]
        rw [Int32.lt_iff_toInt_lt] at y g2' ⊢
        omega
      · rw [e2] at g2'; exact absurd g2' (nI_pos (by omega))
section Far
variable {g sw : Int64} {mo mid : Nat}
theorem P_0 (hmid : mid < 36) {x : Nat} (hx : x < 36) (k : Nat) : (∃ u, u ≤ 1 ∧ WK (E1 g sw mo false 0) k mid (x + u * 36)) ↔ WK (E2 g sw mo false) k x mid := by
  constructor
  · rintro ⟨u, hu, h⟩
    have h1 := wk1_72 (by decide) hmid k _ h
    have hu0 : u = 0 := by omega
    subst hu0
    have h2 := wk_12 (by decide) hmid k _ h 0 (by omega)
    have ea : (x + 0 * 36) % 36 + 0 * 36 = x := by omega
    have eb : mid + (0 + (x + 0 * 36) / 36) * 36 = mid := by omega
    rw [ea, eb] at h2
    exact h2
  · intro h
    obtain ⟨u, hu, hw⟩ := wk_21 (ro := 0) (by decide) hmid k x mid (by omega) (by omega) (by omega) (by omega) h
    rw [show x % 36 = x by omega] at hw
    exact ⟨u, by omega, hw⟩
theorem P_1 (hmid : mid < 36) {x : Nat} (hx : x < 36) (k : Nat) : (∃ u, u ≤ 1 ∧ WK (E1 g sw mo false 1) k mid (x + u * 36)) ↔ ∃ u, u ≤ 1 ∧ WK (E2 g sw mo true) k x (mid + u * 36) := by
  constructor
  · rintro ⟨u, hu, h⟩
    have h1 := wk1_72 (by decide) hmid k _ h
    have h2 := wk_12 (by decide) hmid k _ h 0 (by omega)
    have ea : (x + u * 36) % 36 + 0 * 36 = x := by omega
    have eb : mid + (0 + (x + u * 36) / 36) * 36 = mid + u * 36 := by omega
    rw [ea, eb] at h2
    exact ⟨u, hu, h2⟩
  · rintro ⟨u, hu, h⟩
    obtain ⟨u', hu', hw⟩ := wk_21 (ro := 1) (by decide) hmid k x (mid + u * 36) (by omega) (by omega) (by omega) (by omega) h
    rw [show x % 36 = x by omega] at hw
    exact ⟨u', by omega, hw⟩
theorem MNP.cg {P Q : Nat → Prop} {R : Int32} (h : MNP P R) (e : ∀ k, P k ↔ Q k) : MNP Q R := by
  rcases h with ⟨h1, h2⟩ | ⟨k, h1, h2, h3, h4⟩
  · exact Or.inl ⟨h1, fun k hk => h2 k ((e k).mpr hk)⟩
  · exact Or.inr ⟨k, h1, h2, (e k).mp h3, fun k' hk => h4 k' ((e k').mpr hk)⟩
variable {yrow yea ysh yst yset : Nat → Int32} {ys : Int32}
theorem farOf_v (hM : ∀ q s, q < 36 → s < 4 → fX10_isPassable yrow ys yea ysh yst yset 0 (nI q) (nI s) = some (bI (pas g sw mo false q s))) (hS : MS36 sw yst) (hmid : mid < 36) (hy : yset 1 = nI mid) {x : Nat} (hx : x < 36) (d qu : Nat → Int32) (l : Int32) :
    ∃ R d' qu' l', fX10_farOf yrow ys yea ysh yst yset d qu l (nI x) = some (R, d', qu', l') ∧ MNP (fun k => WK (E2 g sw mo false) k x mid) R := by
  obtain ⟨d', qu', l', e, hL⟩ := find_v hM hS false hx d qu l
  rw [bI_f] at e
  unfold fX10_farOf
  rw [e, o3, show (1 : Int32).toNatClampNeg = 1 from rfl, hy, if_pos (inb_n (by omega) (by decide)), if_pos (inb_n (by omega) (by decide)), cl_n (by omega)]
  rcases hL mid (by omega) with ⟨e1, n1⟩ | ⟨i, hi, e1, w1, m1⟩
  · rw [e1, if_neg (by decide)]
    exact ⟨_, _, _, _, rfl, Or.inl ⟨rfl, n1⟩⟩
  · rw [e1, if_pos (nI_pos' (by omega))]
    exact ⟨_, _, _, _, rfl, Or.inr ⟨i, hi, rfl, w1, m1⟩⟩
end Far
theorem step_far : STEP_far R1d := by
  intro ea cl ga sw mo mi dr sG sC sN sz pl st row wl wf wq ys yse yl yrow yea ysh yst yset ysp ysg yf yq a0 ⟨n, p, mo', mi', dr', k, hF, ⟨hys, hyr⟩, ⟨hE, h10⟩, hC, hG, hS, ⟨hm1, hm2, hm3⟩, ⟨hi1, hi2, hi3⟩, hd, hN⟩
  subst hys
  unfold fX9_far fX10_far
  rw [X3_isSquare, X10_isSquare, o1, o1]
  rcases ir_or a0 36 (by decide) with ha | ⟨x, hx, rfl⟩
  · rw [ha, bI_f, if_pos rfl, if_pos rfl]; exact ⟨_, _, _, _, _, _, _, rfl, rfl⟩
  rw [ir_n hx (by decide), bI_t, if_neg (show ¬ (1 : Int32) = 0 by decide), if_neg (show ¬ (1 : Int32) = 0 by decide)]
  have hM : ∀ q s, q < 36 → s < 4 → fX10_isPassable yrow (nI n) yea ysh yst yset 0 (nI q) (nI s) = some (bI (pas ga sw mo' false q s)) := fun q s hq hs => pas_m (κ := 0) hF hyr hE hC hG hS hm3 hm1 (by decide) hq hs
  obtain ⟨d1, q1, l1, e1, hL⟩ := measure_v wf wq wl ga sw (ro := 0) false hm1 hi1 (by decide)
  obtain ⟨R, e2, hR⟩ := fewest_v hL hx
  obtain ⟨R', d2, q2, l2, e3, hR'⟩ := farOf_v hM hS hi1 hi3 hx yf yq yl
  have hRR := MNP.same (hR.cg (P_0 hi1 hx)) hR'
  subst hRR
  rw [nI_z, bI_f] at e1
  rw [hm2, hi2, e1, o3, e2, o1, e3, o4]
  exact ⟨_, _, _, _, _, _, _, rfl, rfl⟩
theorem step_roped : STEP_roped R1d := by
  intro ea cl ga sw mo mi dr sG sC sN sz pl st row wl wf wq ys yse yl yrow yea ysh yst yset ysp ysg yf yq a0 ⟨n, p, mo', mi', dr', k, hF, ⟨hys, hyr⟩, ⟨hE, h10⟩, hC, hG, hS, ⟨hm1, hm2, hm3⟩, ⟨hi1, hi2, hi3⟩, hd, hN⟩
  subst hys
  unfold fX9_roped fX10_roped
  rw [X3_isSquare, X10_isSquare, o1, o1]
  rcases ir_or a0 36 (by decide) with ha | ⟨x, hx, rfl⟩
  · rw [ha, bI_f, if_pos rfl, if_pos rfl]; exact ⟨_, _, _, _, _, _, _, rfl, rfl⟩
  rw [ir_n hx (by decide), bI_t, if_neg (show ¬ (1 : Int32) = 0 by decide), if_neg (show ¬ (1 : Int32) = 0 by decide)]
  have hM : ∀ q s, q < 36 → s < 4 → fX10_isPassable yrow (nI n) yea ysh yst yset 0 (nI q) (nI s) = some (bI (pas ga sw mo' false q s)) := fun q s hq hs => pas_m (κ := 0) hF hyr hE hC hG hS hm3 hm1 (by decide) hq hs
  obtain ⟨d1, q1, l1, e1, hL⟩ := measure_v wf wq wl ga sw (ro := 1) false hm1 hi1 (by decide)
  obtain ⟨R, e2, hR⟩ := fewest_v hL hx
  obtain ⟨d2, q2, l2, e3, hL2⟩ := find_v hM hS true hx yf yq yl
  have hmod : ∃ R', (if inb (nI mi') 72 = true then lets (d2 (nI mi').toNatClampNeg) fun y5 => (if inb ((36 : Int32) + nI mi') 72 = true then lets (d2 ((36 : Int32) + nI mi').toNatClampNeg) fun y7 => (if 0 ≤ y5 then (if y7 < 0 then some (y5, d2, q2, l2) else (if y7 ≤ y5 then some (y7, d2, q2, l2) else some (y5, d2, q2, l2))) else (if 0 ≤ y7 then some (y7, d2, q2, l2) else some ((-4 : Int32), d2, q2, l2))) else none) else none) = some (R', d2, q2, l2) ∧ MNP (fun k => ∃ u, u ≤ 1 ∧ WK (E2 ga sw mo' true) k x (mi' + u * 36)) R' := by
    rw [if_pos (inb_n (by omega) (by decide)), cl_n (by omega), lets_eq, show (36 : Int32) + nI mi' = nI (36 + mi') from by show nI 36 + _ = _; rw [nI_add], if_pos (inb_n (by omega) (by decide)), cl_n (by omega), lets_eq]
    by_cases g1 : 0 ≤ d2 mi'
    · rw [if_pos g1]
      have g1' : ¬ d2 mi' < 0 := by rw [Int32.not_lt]; exact g1
      by_cases g2 : d2 (36 + mi') < 0
      · rw [if_pos g2]
        exact ⟨_, rfl, two_min hL2 (by decide) hi1 _ (fun h _ => absurd h g1') (fun h _ => absurd h g1') (fun _ _ => rfl) (fun i j hi hj e1 e2 => by rw [e2] at g2; exact absurd g2 (nI_pos (by omega)))⟩
      · rw [if_neg g2]
        by_cases g3 : d2 (36 + mi') ≤ d2 mi'
        · rw [if_pos g3]
          refine ⟨_, rfl, two_min hL2 (by decide) hi1 _ (fun h _ => absurd h g1') (fun h _ => absurd h g1') (fun _ h => absurd h g2) (fun i j hi hj e1 e2 => ?_)⟩
          rw [e1, e2] at g3
          have := (nle j i (by omega) (by omega)).mp g3
          rw [e2]
          by_cases z : i ≤ j
          · rw [if_pos z]; exact congrArg nI (by omega)
          · rw [if_neg z]
        · rw [if_neg g3]
          refine ⟨_, rfl, two_min hL2 (by decide) hi1 _ (fun h _ => absurd h g1') (fun h _ => absurd h g1') (fun _ h => absurd h g2) (fun i j hi hj e1 e2 => ?_)⟩
          rw [e1, e2] at g3
          rw [e1, if_pos (show i ≤ j from Classical.byContradiction fun z => g3 ((nle j i (by omega) (by omega)).mpr (by omega)))]
    · rw [if_neg g1]
      by_cases g2 : 0 ≤ d2 (36 + mi')
      · rw [if_pos g2]
        exact ⟨_, rfl, two_min hL2 (by decide) hi1 _ (fun _ h => absurd g2 (not_le_0.mpr h)) (fun _ _ => rfl) (fun h _ => absurd h g1) (fun i j hi hj e1 e2 => by rw [e1] at g1; exact absurd (nI_pos' (by omega)) g1)⟩
      · rw [if_neg g2]
        exact ⟨_, rfl, two_min hL2 (by decide) hi1 _ (fun _ _ => rfl) (fun _ h => absurd h g2) (fun h _ => absurd h g1) (fun i j hi hj e1 e2 => by rw [e1] at g1; exact absurd (nI_pos' (by omega)) g1)⟩
  obtain ⟨R', e4, hR'⟩ := hmod
  have hRR := MNP.same (hR.cg (P_1 hi1 hx)) hR'
  subst hRR
  rw [bI_f, show nI 1 = 1 from rfl] at e1
  rw [bI_t] at e3
  rw [hm2, hi2, e1, o3, e2, o1, e3, o3, show (1 : Int32).toNatClampNeg = 1 from rfl, hi3, e4]
  exact ⟨_, _, _, _, _, _, _, rfl, rfl⟩
theorem castT_s : ∀ t, t < 3 → castT t (-4) = -4 ∧ ∀ k, k < 73 → castT t (nI k) = nI k := by decide +kernel
theorem castT_m {P : Nat → Prop} {R : Int32} (h : MNP P R) {t : Nat} (ht : t < 3) : castT t R = R := by
  rcases h with ⟨rfl, -⟩ | ⟨k, hk, rfl, -⟩
  · exact (castT_s t ht).1
  · exact (castT_s t ht).2 k (by omega)
theorem film_66 {t : Nat} (ht : t < 3) (d qu : Nat → Int32) (l : Int32) (Rf : Nat → Int32) (hd : ∀ i, i < 36 → fX8_fewestFrom d (nI i) = some (Rf i)) : ∀ N k (i0 i1 i2 i3 : Nat → Int32), k ≤ 36 → 37 ≤ k + N → ∃ I', fX9_film_66 (nI t) (nI 36) N d qu l i0 i1 i2 i3 0 (nI k) = some (36, d, qu, l, I', i1, i2, i3) ∧ (∀ i, k ≤ i → i < 36 → I' i = castT t (Rf i)) ∧ ∀ i, i < k → I' i = i0 i := by
  intro N
  induction N with
  | zero => intro k i0 i1 i2 i3 h1 h2; omega
  | succ N ih =>
    intro k i0 i1 i2 i3 h1 h2
    rw [fX9_film_66]
    by_cases z : k = 36
    · subst z
      rw [if_pos (by decide)]
      exact ⟨_, rfl, fun i h3 h4 => by omega, fun i _ => rfl⟩
    · rw [if_neg (litF (c := 36) (C := 36) rfl (by omega) (by decide)), hd k (by omega), o1, show (0 : Int32) + nI k = nI k from by show nI 0 + nI k = _; rw [nI_add]; congr 1; omega, put_eq _ _ ht (by decide) (by omega), o1, nI_1]
      obtain ⟨I', e, g1, g2⟩ := ih (k + 1) (upd i0 k (castT t (Rf k))) i1 i2 i3 (by omega) (by omega)
      refine ⟨I', e, fun i h3 h4 => ?_, fun i h3 => ?_⟩
      · by_cases y : i = k
        · subst y; rw [g2 i (by omega), upd_s]
        · exact g1 i (by omega) h4
      · rw [g2 i (by omega), upd_n _ _ (by omega)]
theorem film_66a {t : Nat} (ht : t < 3) (d qu : Nat → Int32) (l : Int32) (Rf : Nat → Int32) (hd : ∀ i, i < 36 → fX8_fewestFrom d (nI i) = some (Rf i)) : ∀ N k (i0 i1 i2 i3 : Nat → Int32), k ≤ 36 → 37 ≤ k + N → ∃ I', fX9_film_66a (nI t) (nI 36) N d qu l i0 i1 i2 i3 0 (nI k) = some (36, d, qu, l, i0, I', i2, i3) ∧ (∀ i, k ≤ i → i < 36 → I' i = castT t (Rf i)) ∧ ∀ i, i < k → I' i = i1 i := by
  intro N
  induction N with
  | zero => intro k i0 i1 i2 i3 h1 h2; omega
  | succ N ih =>
    intro k i0 i1 i2 i3 h1 h2
    rw [fX9_film_66a]
    by_cases z : k = 36
    · subst z
      rw [if_pos (by decide)]
      exact ⟨_, rfl, fun i h3 h4 => by omega, fun i _ => rfl⟩
    · rw [if_neg (litF (c := 36) (C := 36) rfl (by omega) (by decide)), hd k (by omega), o1, show (0 : Int32) + nI k = nI k from by show nI 0 + nI k = _; rw [nI_add]; congr 1; omega, put_eq _ _ ht (by decide) (by omega), o1, nI_1]
      obtain ⟨I', e, g1, g2⟩ := ih (k + 1) i0 (upd i1 k (castT t (Rf k))) i2 i3 (by omega) (by omega)
      refine ⟨I', e, fun i h3 h4 => ?_, fun i h3 => ?_⟩
      · by_cases y : i = k
        · subst y; rw [g2 i (by omega), upd_s]
        · exact g1 i (by omega) h4
      · rw [g2 i (by omega), upd_n _ _ (by omega)]
theorem film_66b {t : Nat} (ht : t < 3) (d qu : Nat → Int32) (l : Int32) (Rf : Nat → Int32) (hd : ∀ i, i < 36 → fX8_fewestFrom d (nI i) = some (Rf i)) : ∀ N k (i0 i1 i2 i3 : Nat → Int32), k ≤ 36 → 37 ≤ k + N → ∃ I', fX9_film_66b (nI t) (nI 36) N d qu l i0 i1 i2 i3 0 (nI k) = some (36, d, qu, l, i0, i1, I', i3) ∧ (∀ i, k ≤ i → i < 36 → I' i = castT t (Rf i)) ∧ ∀ i, i < k → I' i = i2 i := by
  intro N
  induction N with
  | zero => intro k i0 i1 i2 i3 h1 h2; omega
  | succ N ih =>
    intro k i0 i1 i2 i3 h1 h2
    rw [fX9_film_66b]
    by_cases z : k = 36
    · subst z
      rw [if_pos (by decide)]
      exact ⟨_, rfl, fun i h3 h4 => by omega, fun i _ => rfl⟩
    · rw [if_neg (litF (c := 36) (C := 36) rfl (by omega) (by decide)), hd k (by omega), o1, show (0 : Int32) + nI k = nI k from by show nI 0 + nI k = _; rw [nI_add]; congr 1; omega, put_eq _ _ ht (by decide) (by omega), o1, nI_1]
      obtain ⟨I', e, g1, g2⟩ := ih (k + 1) i0 i1 (upd i2 k (castT t (Rf k))) i3 (by omega) (by omega)
      refine ⟨I', e, fun i h3 h4 => ?_, fun i h3 => ?_⟩
      · by_cases y : i = k
        · subst y; rw [g2 i (by omega), upd_s]
        · exact g1 i (by omega) h4
      · rw [g2 i (by omega), upd_n _ _ (by omega)]
theorem film_66c {t : Nat} (ht : t < 3) (d qu : Nat → Int32) (l : Int32) (Rf : Nat → Int32) (hd : ∀ i, i < 36 → fX8_fewestFrom d (nI i) = some (Rf i)) : ∀ N k (i0 i1 i2 i3 : Nat → Int32), k ≤ 36 → 37 ≤ k + N → ∃ I', fX9_film_66c (nI t) (nI 36) N d qu l i0 i1 i2 i3 0 (nI k) = some (36, d, qu, l, i0, i1, i2, I') ∧ (∀ i, k ≤ i → i < 36 → I' i = castT t (Rf i)) ∧ ∀ i, i < k → I' i = i3 i := by
  intro N
  induction N with
  | zero => intro k i0 i1 i2 i3 h1 h2; omega
  | succ N ih =>
    intro k i0 i1 i2 i3 h1 h2
    rw [fX9_film_66c]
    by_cases z : k = 36
    · subst z
      rw [if_pos (by decide)]
      exact ⟨_, rfl, fun i h3 h4 => by omega, fun i _ => rfl⟩
    · rw [if_neg (litF (c := 36) (C := 36) rfl (by omega) (by decide)), hd k (by omega), o1, show (0 : Int32) + nI k = nI k from by show nI 0 + nI k = _; rw [nI_add]; congr 1; omega, put_eq _ _ ht (by decide) (by omega), o1, nI_1]
      obtain ⟨I', e, g1, g2⟩ := ih (k + 1) i0 i1 i2 (upd i3 k (castT t (Rf k))) (by omega) (by omega)
      refine ⟨I', e, fun i h3 h4 => ?_, fun i h3 => ?_⟩
      · by_cases y : i = k
        · subst y; rw [g2 i (by omega), upd_s]
        · exact g1 i (by omega) h4
      · rw [g2 i (by omega), upd_n _ _ (by omega)]
theorem film_m {yrow yea ysh yst yset : Nat → Int32} {ys : Int32} {j : Nat} (hj : j < 4) (Rf : Nat → Int32) (hR : ∀ i, i < 36 → ∀ (d qu : Nat → Int32) (l : Int32), ∃ d' qu' l', fX10_farOf yrow ys yea ysh yst yset d qu l (nI i) = some (Rf i, d', qu', l')) :
    ∀ N k (d qu : Nat → Int32) (l : Int32) (yi : Nat → Int32), k ≤ 36 → 37 ≤ k + N → ∃ d' qu' l' yi', fX10_film_32 yrow ys yea ysh yst yset N d qu l yi (nI j) 0 (nI k) = some (36, d', qu', l', yi') ∧ (∀ i, k ≤ i → i < 36 → yi' (36 * j + i) = Rf i) ∧ ∀ m, (m < 36 * j + k ∨ 36 * j + 36 ≤ m) → yi' m = yi m := by
  intro N
  induction N with
  | zero => intro k d qu l yi h1 h2; omega
  | succ N ih =>
    intro k d qu l yi h1 h2
    rw [fX10_film_32]
    by_cases z : k = 36
    · subst z
      rw [if_pos (by decide)]
      exact ⟨_, _, _, _, rfl, fun i h3 h4 => by omega, fun i _ => rfl⟩
    · obtain ⟨d1, q1, l1, e1⟩ := hR k (by omega) d qu l
      rw [if_neg (litF (c := 36) (C := 36) rfl (by omega) (by decide)), e1, o4, show (36 : Int32) * nI j + 0 + nI k = nI (36 * j + k) from by rw [show (36 : Int32) * nI j + 0 = 36 * nI j + nI 0 from rfl, i36, nI_add]; congr 1, if_pos (inb_n (by omega) (by decide)), cl_n (by omega), nI_1]
      obtain ⟨d2, q2, l2, yi', e, g1, g2⟩ := ih (k + 1) d1 q1 l1 (upd yi (36 * j + k) (Rf k)) (by omega) (by omega)
      refine ⟨d2, q2, l2, yi', e, fun i h3 h4 => ?_, fun m h3 => ?_⟩
      · by_cases y : i = k
        · subst y; rw [g2 _ (by omega), upd_s]
        · exact g1 i (by omega) h4
      · rw [g2 m (by omega), upd_n _ _ (by omega)]
set_option maxHeartbeats 2000000 in
theorem step_film : STEP_film R1d R4d := by
  intro ea cl ga sw mo mi dr sG sC sN sz pl st row wl wf wq l0 s0 i0 l1 s1 i1 l2 s2 i2 l3 s3 i3 ys yse ylq yrow yea ysh yst yset ysp ysg yf yq yl yr yi a0 a1 a2 ⟨n, p, mo', mi', dr', k, hF, ⟨hys, hyr⟩, ⟨hE, h10⟩, hC, hG, hS, ⟨hm1, hm2, hm3⟩, ⟨hi1, hi2, hi3⟩, hd, hN⟩ ⟨h0, h1, h2, h3⟩
  subst hys
  rcases ir_or a0 4 (by decide) with ha | ⟨j, hj, rfl⟩
  · simp only [fX9_film, fX10_film, X9_isSheet, X10_isSheet, ha, bI_f, ob1, if_true, Bool.false_and]
    exact ⟨_, _, _, _, _, _, _, _, _, _, _, _, rfl, rfl, h0, h1, h2, h3⟩
  rcases ir_or a1 3 (by decide) with ha | ⟨t, ht, rfl⟩
  · simp only [fX9_film, fX10_film, X9_isSheet, X9_isLane, X10_isSheet, ir_n hj (by decide : 4 < 2 ^ 31), ha, bI_f, bI_t, i10, if_false, ob1, if_true, Bool.and_false]
    exact ⟨_, _, _, _, _, _, _, _, _, _, _, _, rfl, rfl, h0, h1, h2, h3⟩
  have hM : ∀ q s, q < 36 → s < 4 → fX10_isPassable yrow (nI n) yea ysh yst yset 0 (nI q) (nI s) = some (bI (pas ga sw mo' false q s)) := fun q s hq hs => pas_m (κ := 0) hF hyr hE hC hG hS hm3 hm1 (by decide) hq hs
  obtain ⟨d1, q1, w1, e1, hL⟩ := measure_v wf wq wl ga sw (ro := 0) false hm1 hi1 (by decide)
  rw [nI_z, bI_f] at e1
  have hRf : ∃ Rf : Nat → Int32, ∀ i, i < 36 → fX8_fewestFrom d1 (nI i) = some (Rf i) ∧ castT t (Rf i) = Rf i ∧ ∀ (d qu : Nat → Int32) (l : Int32), ∃ d' qu' l', fX10_farOf yrow (nI n) yea ysh yst yset d qu l (nI i) = some (Rf i, d', qu', l') := by
    refine ⟨fun i => (fX8_fewestFrom d1 (nI i)).getD 0, fun i hi => ?_⟩
    obtain ⟨R, e2, hR⟩ := fewest_v hL hi
    dsimp only
    rw [e2]
    refine ⟨rfl, castT_m hR ht, fun d qu l => ?_⟩
    obtain ⟨R', d2, q2, l2, e3, hR'⟩ := farOf_v hM hS hi1 hi3 hi d qu l
    have hRR := MNP.same (hR.cg (P_0 hi1 hi)) hR'
    subst hRR
    exact ⟨_, _, _, e3⟩
  obtain ⟨Rf, hRf⟩ := hRf
  unfold fX9_film fX10_film
  rw [X9_isSheet, X9_isLane, X10_isSheet, ir_n hj (by decide : 4 < 2 ^ 31), ir_n ht (by decide : 3 < 2 ^ 31), Bool.and_true, bI_t, o1, o1, o1, if_neg (show ¬ (1 : Int32) = 0 by decide), if_neg (show ¬ (1 : Int32) = 0 by decide), if_neg (show ¬ (1 : Int32) = 0 by decide), show (36 : Int32) = nI 36 from rfl]
  obtain ⟨d3, q3, w3, yi', e7, g3, g4⟩ := film_m hj Rf (fun i hi => (hRf i hi).2.2) 4000 0 yf yq ylq yi (by decide) (by decide)
  rcases (show j = 0 ∨ j = 1 ∨ j = 2 ∨ j = 3 by omega) with rfl | rfl | rfl | rfl
  · rw [if_pos (show nI 0 = 0 from rfl)]
    rcases trouble_eq (from_ := a2) h0 hj ht (w := 36) (by decide) with ⟨r, hr, t1, t2⟩ | ⟨t1, t2, f, z, rfl, hfz, hz, e3, e4, e5, e6⟩
    · have hr0 : ¬ r = 0 := fun q => by subst q; exact absurd hr (by decide)
      have hr1 : ¬ 0 ≤ r := by rw [Int32.not_le]; exact hr
      rw [t1, t2, o1, o1, if_neg hr0, if_neg hr1]
      exact ⟨_, _, _, _, _, _, _, _, _, _, _, _, rfl, rfl, h0, h1, h2, h3⟩
    · have hf0 : f = 0 := by omega
      have hz36 : z = 36 := by omega
      subst hf0 hz36
      obtain ⟨I', e8, g1, g2⟩ := film_66 ht d1 q1 w1 Rf (fun i hi => (hRf i hi).1) 4000 0 i0 i1 i2 i3 (by decide) (by decide)
      have hI : ∀ i, i < 36 → I' i = yi' (36 * 0 + i) := fun i hi => by rw [g1 i (Nat.zero_le _) hi, (hRf i hi).2.1, g3 i (Nat.zero_le _) hi]
      rw [nI_z] at e7 e8
      rw [t1, t2, o1, o1, if_pos rfl, if_pos (by decide), hm2, hi2, e1, o3, e3, e4, nI_z, e8]
      refine ⟨_, _, _, _, _, _, _, _, _, _, _, _, rfl, e7, ⟨e3.symm.trans h0.1, Or.inr ⟨t, 36, ht, rfl, hz, rfl, e5, hI⟩⟩, h1.congr rfl rfl (fun i hi => g4 _ (by omega)), h2.congr rfl rfl (fun i hi => g4 _ (by omega)), h3.congr rfl rfl (fun i hi => g4 _ (by omega))⟩
  · rw [if_neg (show ¬ nI 1 = 0 by decide), if_pos (show nI 1 = 1 from rfl)]
    rcases trouble_eq (from_ := a2) h1 hj ht (w := 36) (by decide) with ⟨r, hr, t1, t2⟩ | ⟨t1, t2, f, z, rfl, hfz, hz, e3, e4, e5, e6⟩
    · have hr0 : ¬ r = 0 := fun q => by subst q; exact absurd hr (by decide)
      have hr1 : ¬ 0 ≤ r := by rw [Int32.not_le]; exact hr
      rw [t1, t2, o1, o1, if_neg hr0, if_neg hr1]
      exact ⟨_, _, _, _, _, _, _, _, _, _, _, _, rfl, rfl, h0, h1, h2, h3⟩
    · have hf0 : f = 0 := by omega
      have hz36 : z = 36 := by omega
      subst hf0 hz36
      obtain ⟨I', e8, g1, g2⟩ := film_66a ht d1 q1 w1 Rf (fun i hi => (hRf i hi).1) 4000 0 i0 i1 i2 i3 (by decide) (by decide)
      have hI : ∀ i, i < 36 → I' i = yi' (36 * 1 + i) := fun i hi => by rw [g1 i (Nat.zero_le _) hi, (hRf i hi).2.1, g3 i (Nat.zero_le _) hi]
      rw [nI_z] at e7 e8
      rw [t1, t2, o1, o1, if_pos rfl, if_pos (by decide), hm2, hi2, e1, o3, e3, e4, nI_z, e8]
      refine ⟨_, _, _, _, _, _, _, _, _, _, _, _, rfl, e7, h0.congr rfl rfl (fun i hi => g4 _ (by omega)), ⟨e3.symm.trans h1.1, Or.inr ⟨t, 36, ht, rfl, hz, rfl, e5, hI⟩⟩, h2.congr rfl rfl (fun i hi => g4 _ (by omega)), h3.congr rfl rfl (fun i hi => g4 _ (by omega))⟩
  · rw [if_neg (show ¬ nI 2 = 0 by decide), if_neg (show ¬ nI 2 = 1 by decide), if_pos (show nI 2 = 2 from rfl)]
    rcases trouble_eq (from_ := a2) h2 hj ht (w := 36) (by decide) with ⟨r, hr, t1, t2⟩ | ⟨t1, t2, f, z, rfl, hfz, hz, e3, e4, e5, e6⟩
    · have hr0 : ¬ r = 0 := fun q => by subst q; exact absurd hr (by decide)
      have hr1 : ¬ 0 ≤ r := by rw [Int32.not_le]; exact hr
      rw [t1, t2, o1, o1, if_neg hr0, if_neg hr1]
      exact ⟨_, _, _, _, _, _, _, _, _, _, _, _, rfl, rfl, h0, h1, h2, h3⟩
    · have hf0 : f = 0 := by omega
      have hz36 : z = 36 := by omega
      subst hf0 hz36
      obtain ⟨I', e8, g1, g2⟩ := film_66b ht d1 q1 w1 Rf (fun i hi => (hRf i hi).1) 4000 0 i0 i1 i2 i3 (by decide) (by decide)
      have hI : ∀ i, i < 36 → I' i = yi' (36 * 2 + i) := fun i hi => by rw [g1 i (Nat.zero_le _) hi, (hRf i hi).2.1, g3 i (Nat.zero_le _) hi]
      rw [nI_z] at e7 e8
      rw [t1, t2, o1, o1, if_pos rfl, if_pos (by decide), hm2, hi2, e1, o3, e3, e4, nI_z, e8]
      refine ⟨_, _, _, _, _, _, _, _, _, _, _, _, rfl, e7, h0.congr rfl rfl (fun i hi => g4 _ (by omega)), h1.congr rfl rfl (fun i hi => g4 _ (by omega)), ⟨e3.symm.trans h2.1, Or.inr ⟨t, 36, ht, rfl, hz, rfl, e5, hI⟩⟩, h3.congr rfl rfl (fun i hi => g4 _ (by omega))⟩
  · rw [if_neg (show ¬ nI 3 = 0 by decide), if_neg (show ¬ nI 3 = 1 by decide), if_neg (show ¬ nI 3 = 2 by decide), if_pos (show nI 3 = 3 from rfl)]
    rcases trouble_eq (from_ := a2) h3 hj ht (w := 36) (by decide) with ⟨r, hr, t1, t2⟩ | ⟨t1, t2, f, z, rfl, hfz, hz, e3, e4, e5, e6⟩
    · have hr0 : ¬ r = 0 := fun q => by subst q; exact absurd hr (by decide)
      have hr1 : ¬ 0 ≤ r := by rw [Int32.not_le]; exact hr
      rw [t1, t2, o1, o1, if_neg hr0, if_neg hr1]
      exact ⟨_, _, _, _, _, _, _, _, _, _, _, _, rfl, rfl, h0, h1, h2, h3⟩
    · have hf0 : f = 0 := by omega
      have hz36 : z = 36 := by omega
      subst hf0 hz36
      obtain ⟨I', e8, g1, g2⟩ := film_66c ht d1 q1 w1 Rf (fun i hi => (hRf i hi).1) 4000 0 i0 i1 i2 i3 (by decide) (by decide)
      have hI : ∀ i, i < 36 → I' i = yi' (36 * 3 + i) := fun i hi => by rw [g1 i (Nat.zero_le _) hi, (hRf i hi).2.1, g3 i (Nat.zero_le _) hi]
      rw [nI_z] at e7 e8
      rw [t1, t2, o1, o1, if_pos rfl, if_pos (by decide), hm2, hi2, e1, o3, e3, e4, nI_z, e8]
      refine ⟨_, _, _, _, _, _, _, _, _, _, _, _, rfl, e7, h0.congr rfl rfl (fun i hi => g4 _ (by omega)), h1.congr rfl rfl (fun i hi => g4 _ (by omega)), h2.congr rfl rfl (fun i hi => g4 _ (by omega)), ⟨e3.symm.trans h3.1, Or.inr ⟨t, 36, ht, rfl, hz, rfl, e5, hI⟩⟩⟩
