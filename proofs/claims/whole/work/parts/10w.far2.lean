-- WAYS: the model's, from the start; STEPS of far and roped
section Find
variable {n : Nat} {p : Nat → Nat} {row yrow : Nat → Int32} {size : Int32} {pl st : Int64} {eaten closed g sw : Int64} {yea ysh yst yset : Nat → Int32} {mo : Nat}
theorem E2_72 {x2 : Bool} {x y : Nat} (hx : x < 72) (h : E2 g sw mo x2 x y) : y < 72 := by
  obtain ⟨s, hs, hn, h⟩ := h
  have := tb_n1 (x % 36) (by omega) s hs
  rcases h with ⟨-, e⟩ | ⟨-, h, -, e⟩ <;> omega
theorem find_l {ys : Int32} (hM : ∀ q s, q < 36 → s < 4 → fX10_isPassable yrow ys yea ysh yst yset 0 (nI q) (nI s) = some (bI (pas g sw mo false q s))) (hS : MS36 sw yst) {x2 : Bool} {src i a δ : Nat} {ν : Int32} (ha : a < 72)
    (K : (Nat → Int32) → (Nat → Int32) → Int32 → Int32 → Int32 → Option ((Nat → Int32) × (Nat → Int32) × Int32)) :
    ∀ N s (b : BS), s ≤ 4 → 5 ≤ s + N → b.ok (E2 g sw mo x2) src ν → b.head i → b.v i = a → b.D i = δ →
    ∃ b' : BS, fX10_findFar_82 K yrow ys yea ysh yst yset N b.d b.qu (nI b.len) (bI x2) (nI i) (nI (a % 36)) (nI (a / 36 * 36)) (nI (δ + 1)) (nI s) = K b'.d b'.qu (nI b'.len) (bI x2) (nI (i + 1)) ∧ b'.ok (E2 g sw mo x2) src ν ∧ b.ext b' ∧ b'.head i ∧ ∀ t, s ≤ t → t < 4 → ∀ y, S2 g sw mo x2 a t y → b'.has y := by
  intro N
  induction N with
  | zero => intro s b h1 h2; omega
  | succ N ih =>
    intro s b h1 h2 hok hh hv hD
    rw [fX10_findFar_82]
    by_cases z : s = 4
    · subst z
      rw [if_pos (by decide), nI_1]
      exact ⟨b, rfl, hok, b.ext_r, hh, fun t ht ht4 => by omega⟩
    have hs : s < 4 := by omega
    have hq : a % 36 < 36 := by omega
    rw [if_neg (litF (c := 4) (C := 4) rfl hs (by decide)), tb_nextTo _ hq s hs, o1, hM _ _ hq hs, o1]
    -- the second kind of step
    have h120 : ∀ (b : BS), b.ok (E2 g sw mo x2) src ν → b.head i → b.v i = a → b.D i = δ → (∀ y, nx (a % 36) s ≠ 36 → pas g sw mo false (a % 36) s = true → y = nx (a % 36) s + a / 36 * 36 → b.has y) →
        ∃ b' : BS, fX10_findFar_120 K (fX10_findFar_82 K yrow ys yea ysh yst yset N) yst b.d b.qu (nI b.len) (bI x2) (nI i) (nI (a % 36)) (nI (a / 36 * 36)) (nI (δ + 1)) (nI s) (if nx (a % 36) s = 36 then -1 else nI (nx (a % 36) s)) = K b'.d b'.qu (nI b'.len) (bI x2) (nI (i + 1)) ∧ b'.ok (E2 g sw mo x2) src ν ∧ b.ext b' ∧ b'.head i ∧ ∀ t, s ≤ t → t < 4 → ∀ y, S2 g sw mo x2 a t y → b'.has y := by
      intro b hok hh hv hD hfst
      have hskip : (¬ ∃ y, nx (a % 36) s ≠ 36 ∧ x2 = true ∧ a / 36 = 0 ∧ bL sw (nx (a % 36) s) = false ∧ y = 36 + nx (a % 36) s) → ∃ b' : BS, fX10_findFar_155 K (fX10_findFar_82 K yrow ys yea ysh yst yset N) b.d b.qu (nI b.len) (bI x2) (nI i) (nI (a % 36)) (nI (a / 36 * 36)) (nI (δ + 1)) (nI s) = K b'.d b'.qu (nI b'.len) (bI x2) (nI (i + 1)) ∧ b'.ok (E2 g sw mo x2) src ν ∧ b.ext b' ∧ b'.head i ∧ ∀ t, s ≤ t → t < 4 → ∀ y, S2 g sw mo x2 a t y → b'.has y := by
        intro hno
        unfold fX10_findFar_155
        rw [nI_1]
        obtain ⟨b', e, k1, k2, k3, k4⟩ := ih (s + 1) b (by omega) (by omega) hok hh hv hD
        refine ⟨b', e, k1, k2, k3, fun t ht ht4 y hy => ?_⟩
        by_cases x : t = s
        · subst x
          rcases hy.2 with ⟨h1, h2⟩ | h
          · exact BS.has_x (hfst y hy.1 h1 h2) k2
          · exact absurd ⟨y, hy.1, h⟩ hno
        · exact k4 t (by omega) ht4 y hy
      unfold fX10_findFar_120
      cases x2 with
      | false =>
        rw [if_pos (show bI false = 0 by decide)]
        exact hskip (fun ⟨y, _, h, _⟩ => by cases h)
      | true =>
        rw [if_neg (show ¬ bI true = 0 by decide)]
        by_cases h0 : a / 36 = 0
        · rw [if_pos (show nI (a / 36 * 36) = 0 by rw [h0]; rfl)]
          by_cases hn : nx (a % 36) s = 36
          · rw [if_pos hn, if_pos (by decide)]
            exact hskip (fun ⟨y, h, _⟩ => h hn)
          · have hle := tb_n1 (a % 36) hq s hs
            rw [if_neg hn, if_neg (nI_pos (by omega)), if_pos (inb_n (by omega) (by decide)), cl_n (by omega), hS.1 _ (by omega)]
            cases hb : bL sw (nx (a % 36) s) with
            | true =>
              rw [if_neg (show ¬ bI true = 0 by decide)]
              exact hskip (fun ⟨y, _, _, _, h, _⟩ => by rw [hb] at h; cases h)
            | false =>
              rw [if_pos (show bI false = 0 by decide)]
              have hS2 : S2 g sw mo true a s (36 + nx (a % 36) s) := ⟨hn, Or.inr ⟨rfl, h0, hb, rfl⟩⟩
              obtain ⟨b1, -, e1, k1, k2, k3, k4⟩ := reach_b (y := 36 + nx (a % 36) s) hok hh (by omega) (by rw [hv]; exact ⟨s, hs, hS2⟩)
              rw [hD] at e1
              rw [show (36 : Int32) + nI (nx (a % 36) s) = nI (36 + nx (a % 36) s) from by show nI 36 + _ = _; rw [nI_add], e1, o3]
              unfold fX10_findFar_155
              rw [nI_1]
              obtain ⟨b2, e2, j1, j2, j3, j4⟩ := ih (s + 1) b1 (by omega) (by omega) k1 k3 (by rw [(k2.2 i hh.1).1]; exact hv) (by rw [(k2.2 i hh.1).2]; exact hD)
              refine ⟨b2, e2, j1, BS.ext_t k2 j2, j3, fun t ht ht4 y hy => ?_⟩
              by_cases x : t = s
              · subst x
                rcases hy.2 with ⟨h1, h2⟩ | ⟨-, -, -, h⟩
                · exact BS.has_x (hfst y hy.1 h1 h2) (BS.ext_t k2 j2)
                · rw [h]; exact BS.has_x k4 j2
              · exact j4 t (by omega) ht4 y hy
        · rw [if_neg (show ¬ nI (a / 36 * 36) = 0 from eqF (c := 0) rfl (by omega) (by omega) (by decide))]
          exact hskip (fun ⟨y, _, _, h, _⟩ => h0 h)
    cases hp : pas g sw mo false (a % 36) s with
    | false =>
      rw [if_pos (show bI false = 0 by decide)]
      exact h120 b hok hh hv hD (fun y _ h => by rw [hp] at h; cases h)
    | true =>
      have hn := pas_nx hp
      have hle := tb_n1 (a % 36) hq s hs
      have hS2 : S2 g sw mo x2 a s (nx (a % 36) s + a / 36 * 36) := ⟨hn, Or.inl ⟨hp, rfl⟩⟩
      obtain ⟨b1, -, e1, k1, k2, k3, k4⟩ := reach_b (y := nx (a % 36) s + a / 36 * 36) hok hh (by omega) (by rw [hv]; exact ⟨s, hs, hS2⟩)
      rw [hD] at e1
      have hr : nI (a / 36 * 36) + (if nx (a % 36) s = 36 then -1 else nI (nx (a % 36) s)) = nI (nx (a % 36) s + a / 36 * 36) := by
        rw [if_neg hn, nI_add]; congr 1; omega
      rw [if_neg (show ¬ bI true = 0 by decide), hr, e1, o3]
      obtain ⟨b2, e2, j1, j2, j3, j4⟩ := h120 b1 k1 k3 (by rw [(k2.2 i hh.1).1]; exact hv) (by rw [(k2.2 i hh.1).2]; exact hD) (fun y _ _ e => by rw [e]; exact k4)
      exact ⟨b2, e2, j1, BS.ext_t k2 j2, j3, j4⟩
theorem find34_l {ys : Int32} (hM : ∀ q s, q < 36 → s < 4 → fX10_isPassable yrow ys yea ysh yst yset 0 (nI q) (nI s) = some (bI (pas g sw mo false q s))) (hS : MS36 sw yst) {x2 : Bool} {src : Nat} {ν : Int32} :
    ∀ N i (b : BS), 73 ≤ i + N → i ≤ b.len → b.ok (E2 g sw mo x2) src ν → b.done (E2 g sw mo x2) i → (i < b.len → b.head i) →
    ∃ b' : BS, fX10_findFar_34 yrow ys yea ysh yst yset N b.d b.qu (nI b.len) (bI x2) (nI i) = some (b'.d, b'.qu, nI b'.len) ∧ b'.ok (E2 g sw mo x2) src ν ∧ b'.done (E2 g sw mo x2) b'.len := by
  intro N
  induction N with
  | zero => intro i b h1 h2 hok; have := hok.1; omega
  | succ N ih =>
    intro i b h1 h2 hok hd hh
    have h72 := hok.1
    rw [fX10_findFar_34]
    by_cases z : i = b.len
    · subst z
      rw [if_pos (nleT (Nat.le_refl _) (by omega))]
      exact ⟨b, rfl, hok, hd⟩
    have hi : i < b.len := by omega
    have hvi := hok.2.2.1 i hi
    have ha := hvi.1
    obtain ⟨t1, t2, t3⟩ := tb_d36 (b.v i) ha
    rw [if_neg (nleF hi (by omega)), if_pos (inb_n (by omega) (by decide)), cl_n (by omega), hvi.2.1, t1, lets_eq, if_pos (inb_n (by omega) (by decide)), t3, lets_eq, if_pos (inb_n (by omega) (by decide)), if_pos (inb_n ha (by decide)), cl_n (by omega), hvi.2.2.1, nI_1, lets_eq]
    obtain ⟨b1, e1, k1, k2, k3, k4⟩ := find_l hM hS ha (fX10_findFar_34 yrow ys yea ysh yst yset N) 4000 0 b (by decide) (by decide) hok (hh hi) rfl rfl
    rw [nI_z] at e1
    rw [e1]
    have hnx := BS.next k1 k3 (BS.done_x (by omega) hd k2) (fun y hy hE => by
      rw [(k2.2 i hi).1] at hE
      obtain ⟨s, hs, hS⟩ := hE
      exact k4 s (Nat.zero_le _) hs y hS)
    exact ih (i + 1) b1 (by omega) (by have := k2.1; omega) k1 hnx.1 hnx.2
theorem find2_l {ys : Int32} (hM : ∀ q s, q < 36 → s < 4 → fX10_isPassable yrow ys yea ysh yst yset 0 (nI q) (nI s) = some (bI (pas g sw mo false q s))) (hS : MS36 sw yst) {x2 : Bool} {x : Nat} (hx : x < 36) :
    ∀ N k (d qu : Nat → Int32), k ≤ 72 → 73 ≤ k + N → (∀ i, i < k → d i = -1) → ∃ d' qu' l', fX10_findFar_2 yrow ys yea ysh yst yset N d qu (nI x) (bI x2) (nI k) = some (d', qu', l') ∧ LST (E2 g sw mo x2) x (-1) d' := by
  intro N
  induction N with
  | zero => intro k d qu h1 h2; omega
  | succ N ih =>
    intro k d qu h1 h2 h3
    rw [fX10_findFar_2]
    by_cases z : k = 72
    · subst z
      rw [if_pos (by decide)]
      obtain ⟨b, -, e2, hok, hd, hh⟩ := first_ok (E2 g sw mo x2) (src := x) (ν := -1) (qu := qu) (by omega) (by decide) h3
      obtain ⟨b', e, k1, k2⟩ := find34_l hM hS 4000 0 b (by omega) (Nat.zero_le _) hok hd (fun _ => hh)
      rw [nI_z] at e
      rw [e2, o3, e]
      exact ⟨_, _, _, rfl, BS.fin (fun x y hx hE => E2_72 hx hE) k1 k2⟩
    · rw [if_neg (litF (c := 72) (C := 72) rfl (by omega) (by decide)), if_pos (inb_n (by omega) (by decide)), cl_n (by omega), nI_1]
      refine ih (k + 1) _ qu (by omega) (by omega) (fun i hi => ?_)
      by_cases y : i = k
      · subst y; exact upd_s _ _ _
      · rw [upd_n _ _ y]; exact h3 i (by omega)
/-- the model's ways -/
theorem find_v {ys : Int32} (hM : ∀ q s, q < 36 → s < 4 → fX10_isPassable yrow ys yea ysh yst yset 0 (nI q) (nI s) = some (bI (pas g sw mo false q s))) (hS : MS36 sw yst) (x2 : Bool) {x : Nat} (hx : x < 36) (d qu : Nat → Int32) (l : Int32) :
    ∃ d' qu' l', fX10_findFar yrow ys yea ysh yst yset d qu l (nI x) (bI x2) = some (d', qu', l') ∧ LST (E2 g sw mo x2) x (-1) d' := by
  unfold fX10_findFar
  exact find2_l hM hS hx 4000 0 d qu (by decide) (by decide) (fun i hi => absurd hi (by omega))
end Find
section Same
variable {g sw : Int64} {mo ro mid : Nat}
theorem fr_s {c : Bool} {q s : Nat} (hq : q < 36) (hs : s < 4) (hn : nx q s ≠ 36) : fr g mo c (nx q s) (3 - s) = fr g mo c q s := by
  unfold fr
  rw [(tb_n3 q hq s hs hn).2.2.1]
theorem pas_fr {q s : Nat} (h : pas g sw mo false q s = true) : bL sw (nx q s) = false ∧ fr g mo false q s = true := by
  unfold pas at h
  simp only [Bool.and_eq_true, Bool.false_or] at h
  refine ⟨?_, h.2⟩
  cases hb : bL sw (nx q s) with
  | false => rfl
  | true => rw [hb] at h; cases h.1.2
theorem fr_pas {q s : Nat} (hn : nx q s ≠ 36) (h1 : bL sw (nx q s) = false) (h2 : fr g mo false q s = true) : pas g sw mo false q s = true := by
  unfold pas
  unfold fr at h2
  rw [decide_eq_true hn, h1, h2]; rfl
theorem wk1_72 (hro : ro ≤ 1) (hmid : mid < 36) : ∀ k y, WK (E1 g sw mo false ro) k mid y → y < 72 ∧ y / 36 ≤ ro := by
  intro k
  induction k with
  | zero => intro y h; have := h.zero; omega
  | succ k ih =>
    intro y h
    obtain ⟨x, h1, h2⟩ := h.last
    obtain ⟨h3, h4⟩ := ih x h1
    obtain ⟨-, s, hs, hn, h⟩ := h2
    have := tb_n1 (x % 36) (by omega) s hs
    rcases h with ⟨-, e⟩ | ⟨-, h, e⟩ <;> omega
theorem wk_12 (hro : ro ≤ 1) (hmid : mid < 36) : ∀ k y, WK (E1 g sw mo false ro) k mid y → ∀ c, c + y / 36 ≤ ro → WK (E2 g sw mo (decide (ro = 1))) k (y % 36 + c * 36) (mid + (c + y / 36) * 36) := by
  intro k
  induction k with
  | zero =>
    intro y h c hc
    have := h.zero
    subst this
    rw [show mid % 36 = mid by omega, show mid / 36 = 0 by omega]
    exact WK.nil _
  | succ k ih =>
    intro y h c hc
    obtain ⟨x, h1, h2⟩ := h.last
    obtain ⟨h3, h4⟩ := wk1_72 hro hmid k x h1
    obtain ⟨hst, s, hs, hn, h⟩ := h2
    have hst' : bL sw (x % 36) = false := hst.resolve_left (by decide)
    have hq : x % 36 < 36 := by omega
    have hle := tb_n1 (x % 36) hq s hs
    obtain ⟨-, n2, -, -⟩ := tb_n3 (x % 36) hq s hs hn
    rcases h with ⟨hf, e⟩ | ⟨hf, hlt, e⟩
    · have e1 : y % 36 = nx (x % 36) s := by omega
      have e2 : y / 36 = x / 36 := by omega
      rw [e1, e2]
      rw [e2] at hc
      refine WK.cons ?_ (ih x h1 c hc)
      refine ⟨3 - s, by omega, ?_⟩
      have ea : (nx (x % 36) s + c * 36) % 36 = nx (x % 36) s := by omega
      have eb : (nx (x % 36) s + c * 36) / 36 = c := by omega
      unfold S2
      rw [ea, eb, n2]
      exact ⟨by omega, Or.inl ⟨fr_pas (by rw [n2]; omega) (by rw [n2]; exact hst') (by rw [fr_s hq hs hn]; exact hf), rfl⟩⟩
    · have e1 : y % 36 = nx (x % 36) s := by omega
      have e2 : y / 36 = x / 36 + 1 := by omega
      have hc0 : c = 0 := by omega
      have hx0 : x / 36 = 0 := by omega
      have hr1 : ro = 1 := by omega
      subst hc0
      rw [e1, e2]
      have hw := ih x h1 1 (by omega)
      rw [hx0] at hw ⊢
      refine WK.cons ?_ hw
      refine ⟨3 - s, by omega, ?_⟩
      have ea : (nx (x % 36) s + 0 * 36) % 36 = nx (x % 36) s := by omega
      have eb : (nx (x % 36) s + 0 * 36) / 36 = 0 := by omega
      unfold S2
      rw [ea, eb, n2]
      exact ⟨by omega, Or.inr ⟨decide_eq_true hr1, rfl, hst', by omega⟩⟩
theorem wk_21 (hro : ro ≤ 1) (hmid : mid < 36) : ∀ k x z, x < 72 → z < 72 → z % 36 = mid → z / 36 ≤ ro → WK (E2 g sw mo (decide (ro = 1))) k x z → ∃ u, x / 36 + u ≤ z / 36 ∧ WK (E1 g sw mo false ro) k mid (x % 36 + u * 36) := by
  intro k
  induction k with
  | zero =>
    intro x z hx hz hm hr h
    have := h.zero
    subst this
    exact ⟨0, by omega, by rw [hm]; show mid = mid + 0 * 36; omega⟩
  | succ k ih =>
    intro x z hx hz hm hr h
    obtain ⟨y, h1, h2⟩ := h.first
    have hy := E2_72 hx h1
    obtain ⟨u, hu, hw⟩ := ih y z hy hz hm hr h2
    obtain ⟨s, hs, hn, h⟩ := h1
    have hq : x % 36 < 36 := by omega
    have hle := tb_n1 (x % 36) hq s hs
    obtain ⟨-, n2, -, -⟩ := tb_n3 (x % 36) hq s hs hn
    rcases h with ⟨hp, e⟩ | ⟨hx2, hx0, hst, e⟩
    · obtain ⟨p1, p2⟩ := pas_fr hp
      have e1 : y % 36 = nx (x % 36) s := by omega
      have e2 : y / 36 = x / 36 := by omega
      refine ⟨u, by omega, WK.snoc hw ?_⟩
      rw [e1]
      have ea : (nx (x % 36) s + u * 36) % 36 = nx (x % 36) s := by omega
      have eb : (nx (x % 36) s + u * 36) / 36 = u := by omega
      unfold E1 S1
      rw [ea, eb]
      refine ⟨Or.inr p1, 3 - s, by omega, by rw [n2]; omega, Or.inl ⟨by rw [fr_s hq hs hn]; exact p2, by rw [n2]⟩⟩
    · have e1 : y % 36 = nx (x % 36) s := by omega
      have e2 : y / 36 = 1 := by omega
      have hu0 : u = 0 := by omega
      subst hu0
      rw [e1] at hw
      have ea : (nx (x % 36) s + 0 * 36) % 36 = nx (x % 36) s := by omega
      have eb : (nx (x % 36) s + 0 * 36) / 36 = 0 := by omega
      cases hf : fr g mo false (nx (x % 36) s) (3 - s) with
      | true =>
        refine ⟨0, by omega, WK.snoc hw ?_⟩
        unfold E1 S1
        rw [ea, eb]
        exact ⟨Or.inr hst, 3 - s, by omega, by rw [n2]; omega, Or.inl ⟨hf, by rw [n2]⟩⟩
      | false =>
        refine ⟨1, by omega, WK.snoc hw ?_⟩
        unfold E1 S1
        rw [ea, eb]
        exact ⟨Or.inr hst, 3 - s, by omega, by rw [n2]; omega, Or.inr ⟨hf, by omega, by rw [n2]⟩⟩
end Same
/-- R is the least number that P tells of -/
def MNP (P : Nat → Prop) (R : Int32) : Prop := (R = -4 ∧ ∀ k, ¬ P k) ∨ ∃ k, k ≤ 72 ∧ R = nI k ∧ P k ∧ ∀ k', P k' → k ≤ k'
theorem MNP.same {P : Nat → Prop} {R R' : Int32} (h : MNP P R) (h' : MNP P R') : R = R' := by
  rcases h with ⟨e, h⟩ | ⟨k, hk, e, h1, h2⟩
  · rcases h' with ⟨e', -⟩ | ⟨k', -, -, h1', -⟩
    · rw [e, e']
    · exact absurd h1' (h k')
  · rcases h' with ⟨e', h'⟩ | ⟨k', -, e', h1', h2'⟩
    · exact absurd h1 (h' k)
    · rw [e, e', Nat.le_antisymm (h2 _ h1') (h2' _ h1)]
/-- two rows of least steps: the less of both -/
theorem two_min {E : Nat → Nat → Prop} {src a : Nat} {ν : Int32} {d : Nat → Int32} (h : LST E src ν d) (hν : ν < 0) (ha : a < 36) (R : Int32)
    (h1 : d a < 0 → d (36 + a) < 0 → R = -4) (h2 : d a < 0 → 0 ≤ d (36 + a) → R = d (36 + a)) (h3 : 0 ≤ d a → d (36 + a) < 0 → R = d a)
    (h4 : ∀ i j : Nat, i ≤ 72 → j ≤ 72 → d a = nI i → d (36 + a) = nI j → R = nI (if i ≤ j then i else j)) :
    MNP (fun k => ∃ u, u ≤ 1 ∧ WK E k src (a + u * 36)) R := by
  rcases h a (by omega) with ⟨e1, n1⟩ | ⟨i, hi, e1, w1, m1⟩
  · rcases h (36 + a) (by omega) with ⟨e2, n2⟩ | ⟨j, hj, e2, w2, m2⟩
    · refine Or.inl ⟨h1 (by rw [e1]; exact hν) (by rw [e2]; exact hν), fun k ⟨u, hu, hw⟩ => ?_⟩
      rcases (show u = 0 ∨ u = 1 by omega) with rfl | rfl
      · exact n1 k (by simpa using hw)
      · exact n2 k (by rw [show 36 + a = a + 1 * 36 by omega]; exact hw)
    · refine Or.inr ⟨j, hj, by rw [h2 (by rw [e1]; exact hν) (by rw [e2]; exact nI_pos' (by omega)), e2], ⟨1, by decide, by rw [show a + 1 * 36 = 36 + a by omega]; exact w2⟩, fun k ⟨u, hu, hw⟩ => ?_⟩
      rcases (show u = 0 ∨ u = 1 by omega) with rfl | rfl
      · exact absurd (by simpa using hw) (n1 k)
      · exact m2 k (by rw [show 36 + a = a + 1 * 36 by omega]; exact hw)
  · rcases h (36 + a) (by omega) with ⟨e2, n2⟩ | ⟨j, hj, e2, w2, m2⟩
    · refine Or.inr ⟨i, hi, by rw [h3 (by rw [e1]; exact nI_pos' (by omega)) (by rw [e2]; exact hν), e1], ⟨0, by decide, by simpa using w1⟩, fun k ⟨u, hu, hw⟩ => ?_⟩
      rcases (show u = 0 ∨ u = 1 by omega) with rfl | rfl
      · exact m1 k (by simpa using hw)
      · exact absurd (by rw [show 36 + a = a + 1 * 36 by omega]; exact hw) (n2 k)
    · refine Or.inr ⟨if i ≤ j then i else j, by split <;> omega, h4 i j hi hj e1 e2, ?_, fun k ⟨u, hu, hw⟩ => ?_⟩
      · by_cases z : i ≤ j
        · rw [if_pos z]; exact ⟨0, by decide, by simpa using w1⟩
        · rw [if_neg z]; exact ⟨1, by decide, by rw [show a + 1 * 36 = 36 + a by omega]; exact w2⟩
      · rcases (show u = 0 ∨ u = 1 by omega) with rfl | rfl
        · have := m1 k (by simpa using hw)
          split <;> omega
        · have := m2 k (by rw [show 36 + a = a + 1 * 36 by omega]; exact hw)
          split <;> omega
