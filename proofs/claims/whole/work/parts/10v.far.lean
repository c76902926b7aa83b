-- WAYS: the class's from the middle, the model's from the start
def fr (g : Int64) (mo : Nat) (c : Bool) (q s : Nat) : Bool := bL g (eb q s) || decide (mo < (if c = true then 7 else 3))
def S1 (g : Int64) (mo : Nat) (c : Bool) (ro a s y : Nat) : Prop := nx (a % 36) s ≠ 36 ∧ ((fr g mo c (a % 36) s = true ∧ y = nx (a % 36) s + a / 36 * 36) ∨ (fr g mo c (a % 36) s = false ∧ a / 36 < ro ∧ y = nx (a % 36) s + (a / 36 + 1) * 36))
def E1 (g sw : Int64) (mo : Nat) (c : Bool) (ro a y : Nat) : Prop := (c = true ∨ bL sw (a % 36) = false) ∧ ∃ s, s < 4 ∧ S1 g mo c ro a s y
def S2 (g sw : Int64) (mo : Nat) (x2 : Bool) (a s y : Nat) : Prop := nx (a % 36) s ≠ 36 ∧ ((pas g sw mo false (a % 36) s = true ∧ y = nx (a % 36) s + a / 36 * 36) ∨ (x2 = true ∧ a / 36 = 0 ∧ bL sw (nx (a % 36) s) = false ∧ y = 36 + nx (a % 36) s))
def E2 (g sw : Int64) (mo : Nat) (x2 : Bool) (a y : Nat) : Prop := ∃ s, s < 4 ∧ S2 g sw mo x2 a s y
theorem tb_d36 : ∀ a, a < 72 → nI a - nI a / (36 : Int32) * (36 : Int32) = nI (a % 36) ∧ nI a / (36 : Int32) = nI (a / 36) ∧ nI a - nI (a % 36) = nI (a / 36 * 36) := by decide +kernel
theorem forget_l : ∀ N k (d : Nat → Int32) (q : Int32), k ≤ 72 → 73 ≤ k + N → (∀ i, i < k → d i = -4) → ∃ d', fX8_forget_7 N d q (nI k) = some (d', q) ∧ ∀ i, i < 72 → d' i = -4 := by
  intro N
  induction N with
  | zero => intro k d q h1 h2; omega
  | succ N ih =>
    intro k d q h1 h2 h3
    rw [fX8_forget_7]
    by_cases z : k = 72
    · subst z
      rw [if_pos (by decide)]
      exact ⟨d, rfl, h3⟩
    · rw [if_neg (litF (c := 72) (C := 72) rfl (by omega) (by decide)), if_pos (inb_n (by omega) (by decide)), cl_n (by omega), nI_1]
      refine ih (k + 1) _ q (by omega) (by omega) (fun i hi => ?_)
      by_cases y : i = k
      · subst y; exact upd_s _ _ _
      · rw [upd_n _ _ y]; exact h3 i (by omega)
theorem forget_v (d : Nat → Int32) (q : Int32) : ∃ d', fX8_forget d q = some (d', 0) ∧ ∀ i, i < 72 → d' i = -4 := by
  unfold fX8_forget
  exact forget_l 4000 0 d 0 (by decide) (by decide) (fun i hi => absurd hi (by omega))
/-- the first one -/
theorem first_ok (E : Nat → Nat → Prop) {src : Nat} {ν : Int32} {d qu : Nat → Int32} (hs : src < 72) (hν : ν < 0) (hd : ∀ i, i < 72 → d i = ν) :
    ∃ b : BS, fX8_reach d qu 0 (nI src) 0 = some (b.d, b.qu, nI b.len) ∧ fX10_reach d qu 0 (nI src) 0 = some (b.d, b.qu, nI b.len) ∧ b.ok E src ν ∧ b.done E 0 ∧ b.head 0 := by
  have hneg' : ¬ 0 ≤ d src := by rw [hd src hs]; exact not_le_0.mpr hν
  have e0 : (0 : Int32) = nI 0 := rfl
  unfold fX8_reach fX10_reach
  rw [if_neg (nI_pos (by omega)), if_neg (litF (c := 72) (C := 72) rfl hs (by decide)), if_pos (inb_n hs (by decide)), if_pos (inb_n hs (by decide)), if_pos (inb_n hs (by decide)), cl_n (by omega), if_neg hneg', if_neg hneg', if_pos (show (0 : Int32) < 72 by decide), if_pos (show inb 0 72 = true by decide), lets_eq, show (0 : Int32).toNatClampNeg = 0 from rfl, show (0 : Int32) + 1 = nI 1 from rfl]
  refine ⟨BS.mk 1 (fun _ => src) (fun _ => 0) (upd d src 0) (upd qu 0 (nI src)), rfl, rfl, ⟨by show 1 ≤ 72; omega, by show 0 < 1; omega, fun j hj => ?_, fun i j hi hj _ => ?_, fun x hx hnx => ?_, rfl, fun j hj0 hj => ?_, fun j j' _ _ => Nat.le_refl _⟩, fun j hj => absurd hj (by omega), ⟨by show 0 < 1; omega, fun j hj => Nat.le_succ _⟩⟩
  · replace hj : j < 1 := hj
    have : j = 0 := by omega
    subst this
    exact ⟨hs, show upd qu 0 (nI src) 0 = nI src from upd_s _ _ _, show upd d src 0 src = nI 0 from upd_s _ _ _, Nat.le_refl _⟩
  · replace hi : i < 1 := hi
    replace hj : j < 1 := hj
    omega
  · have : x ≠ src := fun z => hnx 0 (by show 0 < 1; omega) z.symm
    refine ⟨?_, hν⟩
    show upd d src 0 x = ν
    rw [upd_n _ _ this]; exact hd x hx
  · replace hj : j < 1 := hj
    omega
section Spread
variable {g sw mask : Int64} {mo ro : Nat} {c : Bool}
theorem E1_72 (hro : ro ≤ 1) {x y : Nat} (hx : x < 72) (h : E1 g sw mo c ro x y) : y < 72 := by
  obtain ⟨-, s, hs, hn, h⟩ := h
  have := tb_n1 (x % 36) (by omega) s hs
  rcases h with ⟨-, e⟩ | ⟨-, h, e⟩ <;> omega
theorem spread_l (hro : ro ≤ 1) (hm : ∀ q s, q < 36 → s < 4 → nx q s ≠ 36 → bL mask (eb q s) = fr g mo c q s) {src i a δ : Nat} {ν : Int32} (hst : c = true ∨ bL sw (a % 36) = false) (ha : a < 72) :
    ∀ N s (b : BS), s ≤ 4 → 5 ≤ s + N → b.ok (E1 g sw mo c ro) src ν → b.head i → b.v i = a → b.D i = δ →
    ∃ b' : BS, fX8_spread_15 N b.d b.qu (nI b.len) mask (nI a) (nI ro) (nI (a % 36)) (nI (a / 36)) (nI s) = some (b'.d, b'.qu, nI b'.len) ∧ b'.ok (E1 g sw mo c ro) src ν ∧ b.ext b' ∧ b'.head i ∧ ∀ t, s ≤ t → t < 4 → ∀ y, S1 g mo c ro a t y → b'.has y := by
  intro N
  induction N with
  | zero => intro s b h1 h2; omega
  | succ N ih =>
    intro s b h1 h2 hok hh hv hD
    rw [fX8_spread_15]
    by_cases z : s = 4
    · subst z
      rw [if_pos (by decide)]
      exact ⟨b, rfl, hok, b.ext_r, hh, fun t ht ht4 => by omega⟩
    have hs : s < 4 := by omega
    have hq : a % 36 < 36 := by omega
    rw [if_neg (litF (c := 4) (C := 4) rfl hs (by decide)), tb_next _ hq s hs, o1]
    by_cases hn : nx (a % 36) s = 36
    · rw [if_pos hn, if_neg (by decide)]
      unfold fX8_spread_103
      rw [nI_1]
      obtain ⟨b', e, k1, k2, k3, k4⟩ := ih (s + 1) b (by omega) (by omega) hok hh hv hD
      refine ⟨b', e, k1, k2, k3, fun t ht ht4 y hy => ?_⟩
      by_cases x : t = s
      · subst x; exact absurd hn hy.1
      · exact k4 t (by omega) ht4 y hy
    have hle := tb_n1 (a % 36) hq s hs
    obtain ⟨n1, -, -, -⟩ := tb_n2 (a % 36) hq s hs hn
    obtain ⟨n2, -, -, -⟩ := tb_n3 (a % 36) hq s hs hn
    rw [if_neg hn, if_pos (nI_pos' (by omega)), tb_between _ hq _ (by omega), o1, n2, if_neg (show ¬ eb (a % 36) s = 64 by omega)]
    have hval : b.d a = nI δ := by rw [← hv, (hok.2.2.1 i hh.1).2.2.1, hD]
    have h88 : ∀ (K : (Nat → Int32) → (Nat → Int32) → Int32 → Int64 → Int32 → Int32 → Int32 → Int32 → Int32 → Option ((Nat → Int32) × (Nat → Int32) × Int32)) (x4 x5 x6 x7 : Int32) (u : Nat), u ≤ 1 → E1 g sw mo c ro a (nx (a % 36) s + u * 36) →
        ∃ b' : BS, fX8_spread_88 K b.d b.qu (nI b.len) mask (nI a) x4 x5 x6 x7 (nI (nx (a % 36) s)) (nI u) = K b'.d b'.qu (nI b'.len) mask (nI a) x4 x5 x6 (x7 + 1) ∧ b'.ok (E1 g sw mo c ro) src ν ∧ b.ext b' ∧ b'.head i ∧ b'.has (nx (a % 36) s + u * 36) := by
      intro K x4 x5 x6 x7 u hu hE
      unfold fX8_spread_88 fX8_spread_103
      obtain ⟨b', e1, -, k1, k2, k3, k4⟩ := reach_b (y := nx (a % 36) s + u * 36) hok hh (by omega) (by rw [hv]; exact hE)
      refine ⟨b', ?_, k1, k2, k3, k4⟩
      rw [if_pos (inb_n ha (by decide)), cl_n (by omega), hval, nI_1, show nI (nx (a % 36) s) + nI u * 36 = nI (nx (a % 36) s + u * 36) from by show nI _ + nI u * nI 36 = _; rw [pk_mul, nI_add], ← hD, e1, o3]
    have hgo : ∀ (u : Nat), u ≤ 1 → E1 g sw mo c ro a (nx (a % 36) s + u * 36) → (∀ y, S1 g mo c ro a s y → y = nx (a % 36) s + u * 36) →
        ∃ b' : BS, fX8_spread_88 (fX8_spread_15 N) b.d b.qu (nI b.len) mask (nI a) (nI ro) (nI (a % 36)) (nI (a / 36)) (nI s) (nI (nx (a % 36) s)) (nI u) = some (b'.d, b'.qu, nI b'.len) ∧ b'.ok (E1 g sw mo c ro) src ν ∧ b.ext b' ∧ b'.head i ∧ ∀ t, s ≤ t → t < 4 → ∀ y, S1 g mo c ro a t y → b'.has y := by
      intro u hu hE hall
      obtain ⟨b1, e1, k1, k2, k3, k4⟩ := h88 (fX8_spread_15 N) (nI ro) (nI (a % 36)) (nI (a / 36)) (nI s) u hu hE
      obtain ⟨b2, e2, j1, j2, j3, j4⟩ := ih (s + 1) b1 (by omega) (by omega) k1 k3 (by rw [(k2.2 i hh.1).1]; exact hv) (by rw [(k2.2 i hh.1).2]; exact hD)
      refine ⟨b2, by rw [e1, nI_1]; exact e2, j1, BS.ext_t k2 j2, j3, fun t ht ht4 y hy => ?_⟩
      by_cases x : t = s
      · subst x; rw [hall y hy]; exact BS.has_x k4 j2
      · exact j4 t (by omega) ht4 y hy
    have hu1 : a / 36 ≤ 1 := by omega
    have hand := hm (a % 36) s hq hs hn
    cases hf : fr g mo c (a % 36) s with
    | true =>
      rw [if_neg (fun z => by have := (and_e (show eb (a % 36) s < 64 by omega)).mp (lg0.mp z); rw [hand, hf] at this; cases this)]
      unfold fX8_spread_57 fX8_spread_71
      rw [if_neg (by decide), if_neg (by decide)]
      refine hgo (a / 36) hu1 ⟨hst, s, hs, hn, Or.inl ⟨hf, rfl⟩⟩ (fun y hy => ?_)
      rcases hy.2 with ⟨-, e⟩ | ⟨e, -⟩
      · exact e
      · rw [hf] at e; cases e
    | false =>
      rw [if_pos (lg0.mpr ((and_e (show eb (a % 36) s < 64 by omega)).mpr (by rw [hand, hf])))]
      unfold fX8_spread_57 fX8_spread_71
      rw [if_pos rfl]
      by_cases hlt : a / 36 < ro
      · rw [if_neg (nleF hlt (by omega)), if_pos rfl, nI_1]
        refine hgo (a / 36 + 1) (by omega) ⟨hst, s, hs, hn, Or.inr ⟨hf, hlt, rfl⟩⟩ (fun y hy => ?_)
        rcases hy.2 with ⟨e, -⟩ | ⟨-, -, e⟩
        · rw [hf] at e; cases e
        · exact e
      · rw [if_pos (nleT (by omega) (by omega))]
        unfold fX8_spread_103
        rw [nI_1]
        obtain ⟨b', e, k1, k2, k3, k4⟩ := ih (s + 1) b (by omega) (by omega) hok hh hv hD
        refine ⟨b', e, k1, k2, k3, fun t ht ht4 y hy => ?_⟩
        by_cases x : t = s
        · subst x
          rcases hy.2 with ⟨e, -⟩ | ⟨-, h, -⟩
          · rw [hf] at e; cases e
          · exact absurd h hlt
        · exact k4 t (by omega) ht4 y hy
theorem measure_l (hro : ro ≤ 1) (hm : ∀ q s, q < 36 → s < 4 → nx q s ≠ 36 → bL mask (eb q s) = fr g mo c q s) {src : Nat} {ν : Int32} :
    ∀ N i (b : BS), 73 ≤ i + N → i ≤ b.len → b.ok (E1 g sw mo c ro) src ν → b.done (E1 g sw mo c ro) i → (i < b.len → b.head i) →
    ∃ b' : BS, fX8_measure_34 sw N b.d b.qu (nI b.len) (nI ro) (bI c) mask (nI i) = some (b'.d, b'.qu, nI b'.len) ∧ b'.ok (E1 g sw mo c ro) src ν ∧ b'.done (E1 g sw mo c ro) b'.len := by
  intro N
  induction N with
  | zero => intro i b h1 h2 hok; have := hok.1; omega
  | succ N ih =>
    intro i b h1 h2 hok hd hh
    have h72 := hok.1
    rw [fX8_measure_34]
    by_cases z : i = b.len
    · subst z
      rw [if_pos (nleT (Nat.le_refl _) (by omega))]
      exact ⟨b, rfl, hok, hd⟩
    have hi : i < b.len := by omega
    have hvi := hok.2.2.1 i hi
    have ha := hvi.1
    obtain ⟨t1, t2, -⟩ := tb_d36 (b.v i) ha
    rw [if_neg (nleF hi (by omega)), if_neg (litF (c := 72) (C := 72) rfl (by omega) (by decide)), if_pos (inb_n (by omega) (by decide)), cl_n (by omega), hvi.2.1, t1, straw_v (by omega), o1]
    have hsp : (c = true ∨ bL sw (b.v i % 36) = false) → ∃ b' : BS, fX8_measure_75 (fX8_measure_34 sw N) b.d b.qu (nI b.len) (nI ro) (bI c) mask (nI i) = some (b'.d, b'.qu, nI b'.len) ∧ b'.ok (E1 g sw mo c ro) src ν ∧ b'.done (E1 g sw mo c ro) b'.len := by
      intro hst
      unfold fX8_measure_75 fX8_measure_90 fX8_spread
      rw [if_pos (inb_n (by omega) (by decide)), cl_n (by omega), hvi.2.1, t1, t2, lets_eq, lets_eq]
      obtain ⟨b1, e1, k1, k2, k3, k4⟩ := spread_l hro hm hst ha 4000 0 b (by decide) (by decide) hok (hh hi) rfl rfl
      rw [nI_z] at e1
      rw [e1, o3, nI_1]
      have hnx := BS.next k1 k3 (BS.done_x (by omega) hd k2) (fun y hy hE => by
        rw [(k2.2 i hi).1] at hE
        obtain ⟨-, s, hs, hS⟩ := hE
        exact k4 s (Nat.zero_le _) hs y hS)
      exact ih (i + 1) b1 (by omega) (by have := k2.1; omega) k1 hnx.1 hnx.2
    have hno : ¬ (c = true ∨ bL sw (b.v i % 36) = false) → ∃ b' : BS, fX8_measure_90 (fX8_measure_34 sw N) b.d b.qu (nI b.len) (nI ro) (bI c) mask (nI i) = some (b'.d, b'.qu, nI b'.len) ∧ b'.ok (E1 g sw mo c ro) src ν ∧ b'.done (E1 g sw mo c ro) b'.len := by
      intro hst
      unfold fX8_measure_90
      rw [nI_1]
      have hnx := BS.next hok (hh hi) hd (fun y hy hE => absurd hE.1 hst)
      exact ih (i + 1) b (by omega) (by omega) hok hnx.1 hnx.2
    cases c with
    | true =>
      rw [if_neg (show ¬ bI true = 0 by decide)]
      exact hsp (Or.inl rfl)
    | false =>
      rw [if_pos (show bI false = 0 by decide)]
      cases hb : bL sw (b.v i % 36) with
      | false =>
        rw [if_pos (show bI false = 0 by decide)]
        exact hsp (Or.inr hb)
      | true =>
        rw [if_neg (show ¬ bI true = 0 by decide)]
        exact hno (fun z => by rw [hb] at z; rcases z with z | z <;> cases z)
theorem corn_v (hmo : mo ≤ 9) (c : Bool) : fX1_cornStops (nI mo) (bI c) = some (bI (decide ¬ (mo < (if c = true then 7 else 3)))) := by
  unfold fX1_cornStops fX1_cornStops_14
  cases c with
  | true =>
    rw [if_neg (show ¬ bI true = 0 by decide), if_pos rfl]
    by_cases h : mo < 7
    · rw [if_pos (ltT (c := 7) (C := 7) rfl h (by decide))]; simp [h, bI]
    · rw [if_neg (ltF (c := 7) (C := 7) rfl (by omega) (by omega))]; simp [h, bI]
  | false =>
    rw [if_pos (show bI false = 0 by decide), if_neg (show ¬ false = true by decide)]
    by_cases h : mo < 3
    · rw [if_pos (ltT (c := 3) (C := 3) rfl h (by decide))]; simp [h, bI]
    · rw [if_neg (ltF (c := 3) (C := 3) rfl (by omega) (by omega))]; simp [h, bI]
theorem bL_m1' : ∀ e, e < 64 → bL (-1) e = true := by decide +kernel
theorem bL_m1 {e : Nat} (he : e < 64) : bL (-1) e = true := bL_m1' e he
/-- the class's ways -/
theorem measure_v (d qu : Nat → Int32) (l : Int32) (g sw : Int64) {mo mid ro : Nat} (c : Bool) (hmo : mo ≤ 9) (hmid : mid < 36) (hro : ro ≤ 1) :
    ∃ d' qu' l', fX8_measure d qu l sw (nI mo) (nI mid) g (nI ro) (bI c) = some (d', qu', l') ∧ LST (E1 g sw mo c ro) mid (-4) d' := by
  unfold fX8_measure fX8_measure_29
  obtain ⟨d1, e1, hd1⟩ := forget_v d l
  obtain ⟨b, e2, -, hok, hd, hh⟩ := first_ok (E1 g sw mo c ro) (src := mid) (ν := -4) (qu := qu) (by omega) (by decide) hd1
  rw [e1, o2, e2, o3, corn_v hmo, o1]
  by_cases h : mo < (if c = true then 7 else 3)
  · rw [decide_eq_false (show ¬ ¬ (mo < (if c = true then 7 else 3)) from fun z => z h), if_pos (show bI false = 0 by decide)]
    obtain ⟨b', e, k1, k2⟩ := measure_l (mask := -1) hro (fun q s hq hs hn => by
      have := tb_n2 q hq s hs hn
      unfold fr
      rw [bL_m1 (by omega), decide_eq_true h, Bool.or_true]) 4000 0 b (by omega) (Nat.zero_le _) hok hd (fun _ => hh)
    rw [nI_z] at e
    exact ⟨_, _, _, e, BS.fin (fun x y hx hE => E1_72 hro hx hE) k1 k2⟩
  · rw [decide_eq_true (show ¬ (mo < (if c = true then 7 else 3)) from h), if_neg (show ¬ bI true = 0 by decide)]
    obtain ⟨b', e, k1, k2⟩ := measure_l (mask := g) hro (fun q s hq hs hn => by
      unfold fr
      rw [decide_eq_false h, Bool.or_false]) 4000 0 b (by omega) (Nat.zero_le _) hok hd (fun _ => hh)
    rw [nI_z] at e
    exact ⟨_, _, _, e, BS.fin (fun x y hx hE => E1_72 hro hx hE) k1 k2⟩
end Spread
