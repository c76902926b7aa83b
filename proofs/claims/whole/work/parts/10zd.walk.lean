-- STEPS of walk and worst
def TS : Type := Nat × Nat × (Nat → Int32)
def itr (T : TS → TS) (s : TS) : Nat → TS
  | 0 => s
  | n + 1 => T (itr T s n)
/-- the first time at the middle, from i to L -/
def FST (tr : Nat → TS) (mi i L : Nat) (ret : Int32) : Prop := (ret = -4 ∧ ∀ m, i ≤ m → m ≤ L → (tr m).1 ≠ mi) ∨ ∃ j, i ≤ j ∧ j ≤ L ∧ ret = nI j ∧ (tr j).1 = mi ∧ ∀ m, i ≤ m → m < j → (tr m).1 ≠ mi
theorem FST.same {tr : Nat → TS} {mi i L L' : Nat} {ret ret' : Int32} (h : FST tr mi i L ret) (h' : FST tr mi i L' ret') (hL : L ≤ L') (hx : (∀ m, i ≤ m → m ≤ L → (tr m).1 ≠ mi) → ∀ m, i ≤ m → m ≤ L' → (tr m).1 ≠ mi) : ret = ret' := by
  rcases h with ⟨e, h⟩ | ⟨j, h1, h2, e, h3, h4⟩
  · have h' := h'
    rcases h' with ⟨e', -⟩ | ⟨j', g1, g2, e', g3, g4⟩
    · rw [e, e']
    · exact absurd g3 (hx h j' g1 g2)
  · rcases h' with ⟨e', h'⟩ | ⟨j', g1, g2, e', g3, g4⟩
    · exact absurd h3 (h' j h1 (by omega))
    · have : j = j' := by
        apply Classical.byContradiction
        intro z
        rcases (show j < j' ∨ j' < j by omega) with y | y
        · exact g4 j h1 y h3
        · exact h4 j' g1 y g3
      rw [e, e', this]
section WT
variable {ga sw : Int64} {mo κ mi : Nat} {yrow yea ysh yst yset : Nat → Int32} {ys : Int32}
def SP (ga sw : Int64) (mo κ : Nat) (T : TS → TS) : Prop := ∀ s : TS, s.1 < 36 → s.2.1 < 4 → fX7_step s.2.2 (nI κ) (nI s.1) (nI s.2.1) ga sw (nI mo) = some ((T s).2.2, nI (T s).1, nI (T s).2.1) ∧ (T s).1 < 36 ∧ (T s).2.1 < 4 ∧ ((T s).1 = s.1 ∨ ∃ d, d < 4 ∧ pas ga sw mo (decide (κ = 3)) s.1 d = true ∧ (T s).1 = nx s.1 d)
theorem SP_ex (hM : ∀ q s, q < 36 → s < 4 → fX10_isPassable yrow ys yea ysh yst yset (nI κ) (nI q) (nI s) = some (bI (pas ga sw mo (decide (κ = 3)) q s))) (hκ : κ < 4) (hmo : mo ≤ 9) : ∃ T, SP ga sw mo κ T := by
  have h : ∀ s : TS, ∃ t : TS, s.1 < 36 → s.2.1 < 4 → fX7_step s.2.2 (nI κ) (nI s.1) (nI s.2.1) ga sw (nI mo) = some (t.2.2, nI t.1, nI t.2.1) ∧ t.1 < 36 ∧ t.2.1 < 4 ∧ (t.1 = s.1 ∨ ∃ d, d < 4 ∧ pas ga sw mo (decide (κ = 3)) s.1 d = true ∧ t.1 = nx s.1 d) := by
    intro s
    by_cases hq : s.1 < 36
    · by_cases hf : s.2.1 < 4
      · rcases step_l (w := 0) (mm := s.2.2) (wh := fun _ => nI s.1) (fc := fun _ => nI s.2.1) hM hκ hmo hq hf (by decide) (fun i _ => by rw [Nat.mul_zero, Nat.zero_add]) rfl rfl with ⟨e, -⟩ | ⟨d, hd, hp, e, -⟩
        · exact ⟨s, fun _ _ => ⟨e, hq, hf, Or.inl rfl⟩⟩
        · have hn := pas_nx hp
          have hle := tb_n1 _ hq d hd
          exact ⟨(nx s.1 d, d, _), fun _ _ => ⟨e, by show nx s.1 d < 36; omega, hd, Or.inr ⟨d, hd, hp, rfl⟩⟩⟩
      · exact ⟨s, fun _ h => absurd h hf⟩
    · exact ⟨s, fun h => absurd h hq⟩
  exact ⟨fun s => Classical.choose (h s), fun s => Classical.choose_spec (h s)⟩
theorem tr_ok {T : TS → TS} (hT : SP ga sw mo κ T) {s : TS} (h1 : s.1 < 36) (h2 : s.2.1 < 4) : ∀ i, (itr T s i).1 < 36 ∧ (itr T s i).2.1 < 4 := by
  intro i
  induction i with
  | zero => exact ⟨h1, h2⟩
  | succ i ih => exact ⟨(hT _ ih.1 ih.2).2.1, (hT _ ih.1 ih.2).2.2.1⟩
theorem walk_c {T : TS → TS} (hT : SP ga sw mo κ T) {s : TS} (h1 : s.1 < 36) (h2 : s.2.1 < 4) (hmi : mi < 36) {L : Nat} (hL : L ≤ 999) : ∀ N i, i ≤ L + 1 → L + 2 ≤ i + N →
    ∃ ret a b c, fX9_stepsOfWalk_43 ga sw (nI mo) (nI mi) N (itr T s i).2.2 (nI κ) (nI (itr T s i).1) (nI (itr T s i).2.1) (nI L) (nI i) = some (ret, a, nI κ, b, c) ∧ FST (itr T s) mi i L ret := by
  intro N
  induction N with
  | zero => intro i h3 h4; omega
  | succ N ih =>
    intro i h3 h4
    obtain ⟨g1, g2⟩ := tr_ok hT h1 h2 i
    rw [fX9_stepsOfWalk_43]
    by_cases z : i = L + 1
    · rw [if_pos ((nlt L i (by omega) (by omega)).mpr (by omega))]
      exact ⟨_, _, _, _, rfl, Or.inl ⟨rfl, fun m a b => by omega⟩⟩
    rw [if_neg (fun y => by have := (nlt L i (by omega) (by omega)).mp y; omega)]
    by_cases y : (itr T s i).1 = mi
    · rw [if_pos (by rw [y])]
      exact ⟨_, _, _, _, rfl, Or.inr ⟨i, Nat.le_refl _, by omega, rfl, y, fun m a b => by omega⟩⟩
    · obtain ⟨e, -⟩ := hT _ g1 g2
      rw [if_neg (fun x => y ((nI_eq (by omega) (by omega)).mp x)), e, o3, nI_1]
      obtain ⟨ret, a, b, c, e2, hF⟩ := ih (i + 1) (by omega) (by omega)
      refine ⟨ret, a, b, c, e2, ?_⟩
      rcases hF with ⟨e3, hF⟩ | ⟨j, j1, j2, e3, j3, j4⟩
      · refine Or.inl ⟨e3, fun m a b => ?_⟩
        by_cases x : m = i
        · subst x; exact y
        · exact hF m (by omega) b
      · refine Or.inr ⟨j, by omega, j2, e3, j3, fun m a b => ?_⟩
        by_cases x : m = i
        · subst x; exact y
        · exact j4 m (by omega) b
theorem walk_m (hM : ∀ q s, q < 36 → s < 4 → fX10_isPassable yrow ys yea ysh yst yset (nI κ) (nI q) (nI s) = some (bI (pas ga sw mo (decide (κ = 3)) q s))) (hκ : κ < 4) (hmo : mo ≤ 9)
    {T : TS → TS} (hT : SP ga sw mo κ T) {s : TS} (h1 : s.1 < 36) (h2 : s.2.1 < 4) (hmi : mi < 36) (hy : yset 1 = nI mi) : ∀ M i (wh fc mm : Nat → Int32), i ≤ 999 → 1000 ≤ i + M → WR 0 (itr T s i).1 (itr T s i).2.1 (itr T s i).2.2 wh fc mm → (i = 0 ∨ (itr T s i).1 ≠ mi) →
    ∃ ret wh' fc' mm', fX10_walkOf_10 yrow ys yea ysh yst yset M wh fc mm (nI κ) (nI 999) (nI i) = some (ret, wh', fc', mm') ∧ FST (itr T s) mi i 999 ret := by
  intro M
  induction M with
  | zero => intro i wh fc mm h3 h4; omega
  | succ M ih =>
    intro i wh fc mm h3 h4 hW h0
    obtain ⟨g1, g2⟩ := tr_ok hT h1 h2 i
    have ht := there_v (w := 0) (yset := yset) (by decide) hW.2.1 hW.2.2.2.1 hmi hy
    rw [fX10_walkOf_10]
    unfold fX10_walkOf_50
    rw [show fX10_isThere yset wh 0 = fX10_isThere yset wh (nI 0) from rfl, ht, o1, o1]
    by_cases y : (itr T s i).1 = mi
    · have hi0 : i = 0 := h0.resolve_right (fun z => z y)
      subst hi0
      rw [if_neg (nleF (by decide) (by decide)), decide_eq_true y, if_neg (show ¬ bI true = 0 by decide), if_neg (show ¬ bI true = 0 by decide)]
      exact ⟨_, _, _, _, rfl, Or.inr ⟨0, Nat.le_refl _, by decide, rfl, y, fun m a b => by omega⟩⟩
    rw [decide_eq_false y, if_pos (show bI false = 0 by decide), if_pos (show bI false = 0 by decide)]
    by_cases z : i = 999
    · subst z
      rw [if_pos (nleT (Nat.le_refl _) (by decide))]
      refine ⟨_, _, _, _, rfl, Or.inl ⟨rfl, fun m a b => ?_⟩⟩
      have : m = 999 := by omega
      subst this
      exact y
    · rw [if_neg (nleF (by omega) (by omega))]
      obtain ⟨q', f', mk', wh', fc', mm', e1, e2, hW', -⟩ := step_w hM hκ hmo (show 0 < 2 by decide) hW
      obtain ⟨e1', t1, t2, -⟩ := hT _ g1 g2
      rw [e1'] at e1
      obtain ⟨k2, k3, k4⟩ := r_eq3 e1
      have k3' := (nI_eq (by omega) (by have := hW'.2.2.2.1; omega)).mp k3
      have k4' := (nI_eq (by omega) (by have := hW'.2.2.2.2; omega)).mp k4
      rw [← k2, ← k3', ← k4'] at hW'
      have hW'' : WR 0 (itr T s (i + 1)).1 (itr T s (i + 1)).2.1 (itr T s (i + 1)).2.2 wh' fc' mm' := hW'
      have ht' := there_v (w := 0) (yset := yset) (by decide) hW''.2.1 hW''.2.2.2.1 hmi hy
      rw [show fX10_step yrow ys yea ysh yst yset wh fc mm 0 (nI κ) = fX10_step yrow ys yea ysh yst yset wh fc mm (nI 0) (nI κ) from rfl, e2, o3, show fX10_isThere yset wh' 0 = fX10_isThere yset wh' (nI 0) from rfl, ht', o1]
      simp only [nI_1]
      by_cases x : (itr T s (i + 1)).1 = mi
      · rw [decide_eq_true x, if_neg (show ¬ bI true = 0 by decide)]
        refine ⟨_, _, _, _, rfl, Or.inr ⟨i + 1, by omega, by omega, rfl, x, fun m a b => ?_⟩⟩
        have : m = i := by omega
        subst this; exact y
      · rw [decide_eq_false x, if_pos (show bI false = 0 by decide)]
        obtain ⟨ret, a, b, c, e3, hF⟩ := ih (i + 1) wh' fc' mm' (by omega) (by omega) hW'' (Or.inr x)
        refine ⟨ret, a, b, c, e3, ?_⟩
        rcases hF with ⟨e4, hF⟩ | ⟨j, j1, j2, e4, j3, j4⟩
        · refine Or.inl ⟨e4, fun m a b => ?_⟩
          by_cases x : m = i
          · subst x; exact y
          · exact hF m (by omega) b
        · refine Or.inr ⟨j, by omega, j2, e4, j3, fun m a b => ?_⟩
          by_cases x : m = i
          · subst x; exact y
          · exact j4 m (by omega) b
/-- kinds 0 and 1 see no marks -/
theorem cho_i (hκ : κ < 2) (mk mk' : Nat → Int32) (q : Int32) : ∀ N (a b c : Int32), fX7_chosenSide_28 mk (nI κ) q ga sw (nI mo) N a b c = fX7_chosenSide_28 mk' (nI κ) q ga sw (nI mo) N a b c := by
  have hb : ∀ (m : Nat → Int32) (a b : Int32), fX7_isBetter m (nI κ) q a b = some 0 := fun m a b => by
    unfold fX7_isBetter
    rw [if_pos (ltT (c := 2) (C := 2) rfl hκ (by decide))]
  intro N
  induction N with
  | zero => intros; rfl
  | succ N ih =>
    intro a b c
    rw [fX7_chosenSide_28, fX7_chosenSide_28]
    unfold fX7_chosenSide_48
    rw [hb mk, hb mk', show fX7_chosenSide_28 mk (nI κ) q ga sw (nI mo) N = fX7_chosenSide_28 mk' (nI κ) q ga sw (nI mo) N from funext fun a => funext fun b => funext fun c => ih a b c]
theorem stp_i (hκ : κ < 2) {mk mk' : Nat → Int32} {q f : Int32} {m m' : Nat → Int32} {a b a' b' : Int32} (h : fX7_step mk (nI κ) q f ga sw (nI mo) = some (m, a, b)) (h' : fX7_step mk' (nI κ) q f ga sw (nI mo) = some (m', a', b')) : a = a' ∧ b = b' := by
  have e : fX7_chosenSide mk (nI κ) q f ga sw (nI mo) = fX7_chosenSide mk' (nI κ) q f ga sw (nI mo) := by
    unfold fX7_chosenSide fX7_chosenSide_21
    simp only [cho_i hκ mk mk']
  unfold fX7_step at h h'
  rw [e] at h
  cases hc : fX7_chosenSide mk' (nI κ) q f ga sw (nI mo) with
  | none => rw [hc] at h; cases h
  | some v =>
    rw [hc, o1] at h h'
    cases hn : fX3_next q v with
    | none => rw [hn] at h; cases h
    | some u =>
      rw [hn, o1] at h h'
      by_cases z : 0 ≤ u
      · rw [if_pos z] at h h'
        by_cases y : inb q 36 = true
        · simp only [y, if_true, lets_eq] at h h'
          obtain ⟨-, e1, e2⟩ := r_eq3 h
          obtain ⟨-, e3, e4⟩ := r_eq3 h'
          exact ⟨e1.symm.trans e3, e2.symm.trans e4⟩
        · rw [if_neg y] at h; cases h
      · rw [if_neg z] at h h'
        obtain ⟨-, e1, e2⟩ := r_eq3 h
        obtain ⟨-, e3, e4⟩ := r_eq3 h'
        exact ⟨e1.symm.trans e3, e2.symm.trans e4⟩
theorem per_v (hκ : κ < 2) {T : TS → TS} (hT : SP ga sw mo κ T) {s : TS} (h1 : s.1 < 36) (h2 : s.2.1 < 4) (h : ∀ m, 0 ≤ m → m ≤ 144 → (itr T s m).1 ≠ mi) : ∀ m, 0 ≤ m → m ≤ 999 → (itr T s m).1 ≠ mi := by
  have hok := tr_ok hT h1 h2
  have hrep : ∃ i j, i < j ∧ j ≤ 144 ∧ (itr T s i).1 = (itr T s j).1 ∧ (itr T s i).2.1 = (itr T s j).2.1 := by
    apply Classical.byContradiction
    intro hno
    have := php 144 145 (fun i => 4 * (itr T s i).1 + (itr T s i).2.1) (fun i _ => by have := hok i; show 4 * (itr T s i).1 + (itr T s i).2.1 < 144; omega) (fun i j hi hj e => by
      replace e : 4 * (itr T s i).1 + (itr T s i).2.1 = 4 * (itr T s j).1 + (itr T s j).2.1 := e
      have a := hok i
      have b := hok j
      apply Classical.byContradiction
      intro hne
      rcases (show i < j ∨ j < i by omega) with y | y
      · exact hno ⟨i, j, y, by omega, by omega, by omega⟩
      · exact hno ⟨j, i, y, by omega, by omega, by omega⟩)
    omega
  obtain ⟨i, j, hij, hj, e1, e2⟩ := hrep
  have hst : ∀ t, (itr T s (i + t)).1 = (itr T s (j + t)).1 ∧ (itr T s (i + t)).2.1 = (itr T s (j + t)).2.1 := by
    intro t
    induction t with
    | zero => exact ⟨e1, e2⟩
    | succ t ih =>
      obtain ⟨a1, a2, a3, -⟩ := hT _ (hok (i + t)).1 (hok (i + t)).2
      obtain ⟨b1, b2, b3, -⟩ := hT _ (hok (j + t)).1 (hok (j + t)).2
      rw [ih.1, ih.2] at a1
      obtain ⟨c1, c2⟩ := stp_i hκ a1 b1
      show (T (itr T s (i + t))).1 = (T (itr T s (j + t))).1 ∧ (T (itr T s (i + t))).2.1 = (T (itr T s (j + t))).2.1
      exact ⟨(nI_eq (by omega) (by omega)).mp c1, (nI_eq (by omega) (by omega)).mp c2⟩
  have hall : ∀ M m, m ≤ M → (itr T s m).1 ≠ mi := by
    intro M
    induction M with
    | zero => intro m hm; exact h m (Nat.zero_le _) (by omega)
    | succ M ih =>
      intro m hm
      by_cases z : m ≤ 144
      · exact h m (Nat.zero_le _) z
      · have := (hst (m - j)).1
        rw [show j + (m - j) = m by omega] at this
        rw [← this]
        exact ih _ (by omega)
  exact fun m _ _ => hall m m (Nat.le_refl _)
/-- where none comes from the middle, no walk gets there -/
theorem off_w {T : TS → TS} (hT : SP ga sw mo κ T) {s : TS} (h1 : s.1 < 36) (h2 : s.2.1 < 4) (h : ∀ k, ¬ WK (E1 ga sw mo (decide (κ = 3)) 0) k mi s.1) : ∀ i, ∀ k, ¬ WK (E1 ga sw mo (decide (κ = 3)) 0) k mi (itr T s i).1 := by
  intro i
  induction i with
  | zero => exact h
  | succ i ih =>
    obtain ⟨g1, g2⟩ := tr_ok hT h1 h2 i
    obtain ⟨-, t1, t2, t3⟩ := hT _ g1 g2
    intro k hk
    replace hk : WK (E1 ga sw mo (decide (κ = 3)) 0) k mi (T (itr T s i)).1 := hk
    rcases t3 with e | ⟨d, hd, hp, e⟩
    · rw [e] at hk; exact ih k hk
    · rw [e] at hk
      have hn := pas_nx hp
      have hle := tb_n1 _ g1 d hd
      obtain ⟨-, n2, -, -⟩ := tb_n3 _ g1 d hd hn
      refine ih (k + 1) (WK.snoc hk ?_)
      have ea : nx (itr T s i).1 d % 36 = nx (itr T s i).1 d := by omega
      have eb : nx (itr T s i).1 d / 36 = 0 := by omega
      unfold pas at hp
      simp only [Bool.and_eq_true] at hp
      unfold E1 S1
      rw [ea, eb]
      refine ⟨?_, 3 - d, by omega, by rw [n2]; omega, Or.inl ⟨by rw [fr_s g1 hd hn]; exact hp.2, by rw [n2]; omega⟩⟩
      cases hc : decide (κ = 3) with
      | true => exact Or.inl rfl
      | false =>
        rw [hc] at hp
        have := hp.1.2
        simp only [Bool.false_or, Bool.not_eq_true'] at this
        exact Or.inr this
theorem walk_b (hM : ∀ q s, q < 36 → s < 4 → fX10_isPassable yrow ys yea ysh yst yset (nI κ) (nI q) (nI s) = some (bI (pas ga sw mo (decide (κ = 3)) q s))) (hκ : κ < 4) (hmo : mo ≤ 9) (hmi : mi < 36) (hy : yset 1 = nI mi) {q f : Nat} (hq : q < 36) (hf : f < 4)
    {d : Nat → Int32} (hL : LST (E1 ga sw mo (decide (κ = 3)) 0) mi (-4) d) (wm : Nat → Int32) (wk wq ws : Int32) (wh fc mm : Nat → Int32) :
    ∃ ret a b c e wh' fc' mm', ((ret = -4 ∧ q ≠ mi) ∨ ∃ j, j ≤ 999 ∧ ret = nI j) ∧ fX9_stepsOfWalk ga sw (nI mo) (nI mi) wm wk wq ws d (nI κ) (nI q) (nI f) = some (ret, a, b, c, e) ∧ fX10_walkOf yrow ys yea ysh yst yset wh fc mm (nI κ) (nI q) (nI f) (nI 999) = some (ret, wh', fc', mm') := by
  obtain ⟨T, hT⟩ := SP_ex hM hκ hmo
  obtain ⟨R, e1, hR⟩ := fewest_v hL hq
  obtain ⟨mm1, c1, c2, -⟩ := begin_m (show 0 < 2 by decide) wh fc mm (nI q) (nI f)
  obtain ⟨mk1, b1, b2⟩ := begin_c wm wk wq ws (nI κ) (nI q) (nI f)
  have h1 : ((q, f, mk1) : TS).1 < 36 := hq
  have h2 : ((q, f, mk1) : TS).2.1 < 4 := hf
  have hW : WR 0 (itr T (q, f, mk1) 0).1 (itr T (q, f, mk1) 0).2.1 (itr T (q, f, mk1) 0).2.2 (upd wh 0 (nI q)) (upd fc 0 (nI f)) mm1 := WR_b hq hf b2 c2
  obtain ⟨ret, wh', fc', mm', e2, hF⟩ := walk_m hM hκ hmo hT h1 h2 hmi hy 4000 0 _ _ mm1 (by decide) (by decide) hW (Or.inl rfl)
  have hret : (ret = -4 ∧ q ≠ mi) ∨ ∃ j, j ≤ 999 ∧ ret = nI j := by
    rcases hF with ⟨e, hne⟩ | ⟨j, -, hj, e, -⟩
    · exact Or.inl ⟨e, hne 0 (Nat.le_refl _) (by decide)⟩
    · exact Or.inr ⟨j, hj, e⟩
  rw [nI_z] at c1 e2
  have em : fX10_walkOf yrow ys yea ysh yst yset wh fc mm (nI κ) (nI q) (nI f) (nI 999) = some (ret, wh', fc', mm') := by
    unfold fX10_walkOf
    rw [c1, o3, e2]
  unfold fX9_stepsOfWalk
  rw [e1, o1]
  rcases hR with ⟨r1, hno⟩ | ⟨k, hk, r1, -, -⟩
  · rw [r1, if_neg (by decide)]
    have hoff := off_w hT h1 h2 (fun k hk => hno k ⟨0, by decide, by simpa using hk⟩)
    have hne : ∀ m, (itr T (q, f, mk1) m).1 ≠ mi := fun m e => hoff m 0 (by rw [e]; exact WK.nil _)
    have hr4 : ret = -4 := by
      rcases hF with ⟨e, -⟩ | ⟨j, -, -, -, e, -⟩
      · exact e
      · exact absurd e (hne j)
    rw [hr4] at em
    exact ⟨_, _, _, _, _, _, _, _, Or.inl ⟨rfl, hne 0⟩, rfl, em⟩
  · rw [r1, if_pos (nI_pos' (by omega)), b1, o4]
    unfold fX9_stepsOfWalk_38
    by_cases h : 2 ≤ κ
    · rw [if_pos (litT (c := 2) (C := 2) rfl h (by omega))]
      obtain ⟨ret2, a, b, c, e3, hF2⟩ := walk_c hT h1 h2 hmi (show 999 ≤ 999 by decide) 4000 0 (by decide) (by decide)
      have := hF2.same hF (Nat.le_refl _) (fun x => x)
      rw [this, nI_z] at e3
      exact ⟨ret, _, _, _, _, _, _, _, hret, e3, em⟩
    · rw [if_neg (litF (c := 2) (C := 2) rfl (by omega) (by decide))]
      obtain ⟨ret2, a, b, c, e3, hF2⟩ := walk_c hT h1 h2 hmi (show 144 ≤ 999 by decide) 4000 0 (by decide) (by decide)
      have := hF2.same hF (by decide) (per_v (by omega) hT h1 h2)
      rw [this, nI_z] at e3
      exact ⟨ret, _, _, _, _, _, _, _, hret, e3, em⟩
end WT
theorem step_walk : STEP_walk R1d := by
  intro ea cl ga sw mo mi dr sG sC sN sz pl st row wk wq ws wm wl wf wqu ys yse yrow yea ysh yst yset ysp ysg wh fc mm a0 a1 a2 ⟨n, p, mo', mi', dr', k, hF, ⟨hys, hyr⟩, ⟨hE, h10⟩, hC, hG, hS, ⟨hm1, hm2, hm3⟩, ⟨hi1, hi2, hi3⟩, hd, hN⟩
  subst hys
  unfold fX9_walk fX10_walk
  rw [start_v, o1, X10_in3, o1, X10_isSide]
  rcases ir_or a0 4 (by decide) with ha | ⟨κ, hκ, rfl⟩
  · rw [ha, Bool.false_and, bI_f, if_pos rfl, if_pos rfl]; exact ⟨_, _, _, _, _, _, _, _, _, _, _, rfl, rfl⟩
  rw [ir_n hκ (by decide), Bool.true_and, bI_t, if_neg (show ¬ (1 : Int32) = 0 by decide), o1]
  cases hb : (ir a1 36 && ir a2 4) with
  | false => rw [bI_f, if_pos rfl, if_pos rfl]; exact ⟨_, _, _, _, _, _, _, _, _, _, _, rfl, rfl⟩
  | true =>
    rw [Bool.and_eq_true] at hb
    obtain ⟨q, hq, rfl⟩ := (ir_t (by decide)).mp hb.1
    obtain ⟨f, hf, rfl⟩ := (ir_t (by decide)).mp hb.2
    have hM : ∀ q s, q < 36 → s < 4 → fX10_isPassable yrow (nI n) yea ysh yst yset (nI κ) (nI q) (nI s) = some (bI (pas ga sw mo' (decide (κ = 3)) q s)) := fun q s hq hs => pas_m hF hyr hE hC hG hS hm3 hm1 hκ hq hs
    obtain ⟨d1, q1, l1, e1, hL⟩ := measure_v wf wqu wl ga sw (ro := 0) (decide (κ = 3)) hm1 hi1 (by decide)
    obtain ⟨ret, a, b, c, e, wh', fc', mm', -, e2, e3⟩ := walk_b hM hκ hm1 hi1 hi3 hq hf hL wm wk wq ws wh fc mm
    rw [nI_z] at e1
    rw [bI_t, if_neg (show ¬ (1 : Int32) = 0 by decide), if_neg (show ¬ (1 : Int32) = 0 by decide), child_eq κ hκ (fun s => fX9_walk_37 ga sw mo mi wm wk wq ws wf wqu wl (nI κ) (nI q) (nI f) ga 0 s)]
    unfold fX9_walk_37
    rw [hm2, hi2, e1, o3, e2, o5, show (999 : Int32) = nI 999 from rfl, e3, o4]
    exact ⟨_, _, _, _, _, _, _, _, _, _, _, rfl, rfl⟩

section Worst
variable {ga sw : Int64} {mo κ mi : Nat} {yrow yea ysh yst yset : Nat → Int32} {ys : Int32}
theorem worst_l (hM : ∀ q s, q < 36 → s < 4 → fX10_isPassable yrow ys yea ysh yst yset (nI κ) (nI q) (nI s) = some (bI (pas ga sw mo (decide (κ = 3)) q s))) (hκ : κ < 4) (hmo : mo ≤ 9) (hmi : mi < 36) (hy : yset 1 = nI mi) {f : Nat} (hf : f < 4)
    {d : Nat → Int32} (hL : LST (E1 ga sw mo (decide (κ = 3)) 0) mi (-4) d) (qu : Nat → Int32) (l : Int32) (x3 : Int32) :
    ∀ N M q (wm : Nat → Int32) (wk wq ws x4 x5 x6 y4 y5 : Int32) (wh fc mm : Nat → Int32), q ≤ 36 → 37 ≤ q + N → 37 ≤ q + M → ((x4 = -4 ∧ y4 = -1 ∧ q ≤ mi) ∨ (x4 = y4 ∧ x5 = y5 ∧ ∃ k : Nat, k ≤ 999 ∧ x4 = nI k)) →
    ∃ ret a b c e wh' fc' mm', fX9_worst_68 ga sw (nI mo) (nI mi) N wm wk wq ws d qu l (nI κ) (nI f) x3 x4 x5 x6 (nI q) = some (ret, a, b, c, e, d, qu, l) ∧ fX10_worst_50 yrow ys yea ysh yst yset M wh fc mm (nI κ) (nI f) x3 y4 y5 x6 (nI q) = some (ret, wh', fc', mm') := by
  intro N
  induction N with
  | zero => intro M q wm wk wq ws x4 x5 x6 y4 y5 wh fc mm h1 h2; omega
  | succ N ih =>
    intro M q wm wk wq ws x4 x5 x6 y4 y5 wh fc mm h1 h2 h3 hR
    obtain ⟨M, rfl⟩ : ∃ m, M = m + 1 := ⟨M - 1, by omega⟩
    rw [fX9_worst_68, fX10_worst_50]
    by_cases z : q = 36
    · subst z
      rw [if_pos (show (36 : Int32) ≤ nI 36 by decide), if_pos (show (36 : Int32) ≤ nI 36 by decide)]
      rcases hR with ⟨-, -, h⟩ | ⟨h1, h2, -⟩
      · omega
      · subst h1 h2
        by_cases g0 : x3 = 0
        · rw [if_pos g0, if_pos g0]; exact ⟨_, _, _, _, _, _, _, _, rfl, rfl⟩
        · rw [if_neg g0, if_neg g0]
          by_cases g1 : x3 = 1
          · rw [if_pos g1, if_pos g1]; exact ⟨_, _, _, _, _, _, _, _, rfl, rfl⟩
          · rw [if_neg g1, if_neg g1]; exact ⟨_, _, _, _, _, _, _, _, rfl, rfl⟩
    have hq : q < 36 := by omega
    obtain ⟨ret, a, b, c, e, wh', fc', mm', hret, e2, e3⟩ := walk_b hM hκ hmo hmi hy hq hf hL wm wk wq ws wh fc mm
    rw [if_neg (litF (c := 36) (C := 36) rfl hq (by decide)), if_neg (litF (c := 36) (C := 36) rfl hq (by decide)), e2, o5, show (999 : Int32) = nI 999 from rfl, e3, o4]
    unfold fX9_worst_111 fX10_worst_82 fX10_worst_99 fX10_worst_115
    rw [lets_eq, lets_eq, nI_1]
    rcases hret with ⟨rfl, hne⟩ | ⟨j, hj, rfl⟩
    · have hy4 : (-4 : Int32) ≤ y4 := by
        rcases hR with ⟨-, e, -⟩ | ⟨e1, -, k, hk, e⟩
        · rw [e]; decide
        · rw [← e1, e]; exact (neg_le (k := k) (by omega)).2.2
      rw [if_neg (show ¬ (0 : Int32) ≤ -4 by decide), if_neg (show ¬ (0 : Int32) ≤ -4 by decide), if_pos hy4, if_pos hy4]
      refine ih M (q + 1) _ _ _ _ _ _ _ _ _ _ _ _ (by omega) (by omega) (by omega) ?_
      rcases hR with ⟨h1, h2, h3⟩ | h
      · exact Or.inl ⟨h1, h2, by omega⟩
      · exact Or.inr h
    · rw [if_pos (nI_pos' (by omega)), if_pos (nI_pos' (by omega)), Int32.add_zero]
      have hcmp : nI j ≤ x4 ↔ nI j ≤ y4 := by
        rcases hR with ⟨h1, h2, -⟩ | ⟨h1, -, -⟩
        · rw [h1, h2]
          obtain ⟨g1, g2, -⟩ := neg_le (k := j) (by omega)
          exact ⟨fun z => absurd z g1, fun z => absurd z g2⟩
        · rw [h1]
      by_cases g : nI j ≤ y4
      · rw [if_pos (hcmp.mpr g), if_pos g, if_pos g]
        refine ih M (q + 1) _ _ _ _ _ _ _ _ _ _ _ _ (by omega) (by omega) (by omega) ?_
        rcases hR with ⟨h1, h2, h3⟩ | h
        · rw [h2] at g; exact absurd g (neg_le (k := j) (by omega)).2.1
        · exact Or.inr h
      · rw [if_neg (fun z => g (hcmp.mp z)), if_neg g, if_neg g]
        exact ih M (q + 1) _ _ _ _ _ _ _ _ _ _ _ _ (by omega) (by omega) (by omega) (Or.inr ⟨rfl, rfl, j, hj, rfl⟩)
end Worst
theorem step_worst : STEP_worst R1d := by
  intro ea cl ga sw mo mi dr sG sC sN sz pl st row wk wq ws wm wl wf wqu ys yse yrow yea ysh yst yset ysp ysg wh fc mm a0 a1 a2 ⟨n, p, mo', mi', dr', k, hF, ⟨hys, hyr⟩, ⟨hE, h10⟩, hC, hG, hS, ⟨hm1, hm2, hm3⟩, ⟨hi1, hi2, hi3⟩, hd, hN⟩
  subst hys
  unfold fX9_worst fX10_worst
  rw [X9_isKind, o1, X10_in3, o1, X3_isSide, X10_in3, X10_in2]
  rcases ir_or a0 4 (by decide) with ha | ⟨κ, hκ, rfl⟩
  · rw [ha, bI_f, if_pos rfl, if_pos rfl]; exact ⟨_, _, _, _, _, _, _, _, _, _, _, rfl, rfl⟩
  rw [ir_n hκ (by decide), bI_t, if_neg (show ¬ (1 : Int32) = 0 by decide), o1, if_neg (show ¬ (1 : Int32) = 0 by decide), o1]
  rcases ir_or a1 4 (by decide) with ha | ⟨f, hf, rfl⟩
  · rw [ha, bI_f, if_pos rfl, if_pos rfl]; exact ⟨_, _, _, _, _, _, _, _, _, _, _, rfl, rfl⟩
  rw [ir_n hf (by decide), bI_t, if_neg (show ¬ (1 : Int32) = 0 by decide), if_neg (show ¬ (1 : Int32) = 0 by decide), o1]
  by_cases g0 : a2 < 0
  · have : ir a2 3 = false := by
      unfold ir
      rw [decide_eq_false (fun z => by rw [Int32.not_le.symm] at g0; exact g0 z), Bool.false_and]
    rw [if_pos g0, this, bI_f, if_pos rfl]; exact ⟨_, _, _, _, _, _, _, _, _, _, _, rfl, rfl⟩
  obtain ⟨v, hv, rfl⟩ := nI_of g0
  by_cases g1 : v < 3
  rotate_left
  · have : ir (nI v) 3 = false := by
      unfold ir
      rw [decide_eq_false (show ¬ nI v < nI 3 from fun z => by have := (nlt v 3 hv (by decide)).mp z; omega), Bool.and_false]
    rw [if_neg g0, if_neg (show ¬ nI v ≤ 2 from fun z => by have := (nle v 2 hv (by decide)).mp z; omega), this, bI_f, if_pos rfl]; exact ⟨_, _, _, _, _, _, _, _, _, _, _, rfl, rfl⟩
  have hM : ∀ q s, q < 36 → s < 4 → fX10_isPassable yrow (nI n) yea ysh yst yset (nI κ) (nI q) (nI s) = some (bI (pas ga sw mo' (decide (κ = 3)) q s)) := fun q s hq hs => pas_m hF hyr hE hC hG hS hm3 hm1 hκ hq hs
  obtain ⟨d1, q1, l1, e1, hL⟩ := measure_v wf wqu wl ga sw (ro := 0) (decide (κ = 3)) hm1 hi1 (by decide)
  obtain ⟨ret, a, b, c, e, wh', fc', mm', e2, e3⟩ := worst_l hM hκ hm1 hi1 hi3 hf hL q1 l1 (nI v) 4000 4000 0 wm wk wq ws (-4) (-4) 0 (-1) 0 wh fc mm (by decide) (by decide) (by decide) (Or.inl ⟨rfl, rfl, Nat.zero_le _⟩)
  have e0 : nI 0 = 0 := rfl
  rw [e0] at e1 e2 e3
  rw [if_neg g0, if_pos (show nI v ≤ 2 from (nle v 2 hv (by decide)).mpr (by omega)), ir_n g1 (by decide), bI_t, if_neg (show ¬ (1 : Int32) = 0 by decide), child_eq κ hκ (fun s => fX9_worst_62 ga sw mo mi wm wk wq ws wf wqu wl (nI κ) (nI f) (nI v) (-4) (-4) 0 ga 0 s)]
  unfold fX9_worst_62
  rw [hm2, hi2, e1, o3, e2, e3]
  exact ⟨_, _, _, _, _, _, _, _, _, _, _, rfl, rfl⟩
