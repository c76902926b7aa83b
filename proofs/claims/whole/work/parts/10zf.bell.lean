-- STEP of bell
theorem tb_k4 : ∀ k, k < 144 → nI k / (4 : Int32) = nI (k / 4) ∧ nI k - nI (k / 4) * (4 : Int32) = nI (k % 4) := by decide +kernel
theorem tb_loud : ∀ v, v < 491 → (if (0 : Int32) < 40 - nI v then 40 - nI v else 0) = (if (0 : Int32) ≤ 40 - nI v then 40 - nI v else 0) := by decide +kernel
def CR (c : Nat → Int32) (U : Nat → Nat) : Prop := ∀ x, x < 36 → (U x = 9999 ∧ c x < 0) ∨ (U x < 9999 ∧ c x = nI (U x))
def FLG (b : Bool) (U V : Nat → Nat) : Prop := b = true ↔ ∃ x, x < 36 ∧ U x < V x
section Bell
variable {n : Nat} {p : Nat → Nat} {row yrow : Nat → Int32} {size : Int32} {pl st : Int64} {eaten closed g : Int64} {yea ysh yset : Nat → Int32} {mo mid : Nat}
theorem rel_no {U : Nat → Nat} {q s : Nat} (h : nx q s = 36 ∨ U (nx q s) ≤ U q + wt g mo q s) : rel g mo U q s = U := by
  unfold rel
  rcases h with h | h
  · rw [if_pos h]
  · by_cases z : nx q s = 36
    · rw [if_pos z]
    · rw [if_neg z, if_pos h]
theorem rel_yes {U : Nat → Nat} {q s : Nat} (hn : nx q s ≠ 36) (h : ¬ U (nx q s) ≤ U q + wt g mo q s) : rel g mo U q s = updN U (nx q s) (U q + wt g mo q s) := by
  unfold rel
  rw [if_neg hn, if_neg h]
theorem flg_yes {U V : Nat → Nat} {x v : Nat} (hx : x < 36) (h : ¬ U x ≤ v) (hle : U x ≤ V x) : FLG true (updN U x v) V := ⟨fun _ => ⟨x, hx, by unfold updN; rw [if_pos rfl]; omega⟩, fun _ => rfl⟩
theorem loss_v (f : Int32) {a q s : Nat} (hf : f = nI a) : f + 5 + (if bL g (eb q s) = true then 0 else nI mo) = nI (a + wt g mo q s) := by
  subst hf
  unfold wt
  split
  · show nI a + nI 5 + nI 0 = _
    rw [nI_add, nI_add]
  · show nI a + nI 5 + nI mo = _
    rw [nI_add, nI_add]; congr 1; omega
theorem bell54 (h : FW n p row size pl st) (hyr : ∀ i, i < n → yrow i = nI (p i)) (hE : MK eaten yea) (hC : MK closed ysh) (hG : GP n p st eaten closed g) (hm : yset 0 = nI mo) (hmo : mo ≤ 9) (K : (Nat → Int32) → Int32 → Int32 → Option (Int32 × (Nat → Int32))) (x1 : Int32) {V : Nat → Nat} (hV : CHN V) (hS : SU g mo mid V) :
    ∀ N k (far : Nat → Int32) (b : Bool), k ≤ 144 → 145 ≤ k + N → (∀ x, x < 36 → far x = nI (rd g mo V k x)) → FLG b (rd g mo V k) V →
    ∃ far' b', fX10_bell_54 K yrow (nI n) yea ysh yset N far x1 (bI b) (nI k) = K far' x1 (bI b') ∧ (∀ x, x < 36 → far' x = nI (rd g mo V 144 x)) ∧ FLG b' (rd g mo V 144) V := by
  intro N
  induction N with
  | zero => intro k far b h1 h2; omega
  | succ N ih =>
    intro k far b h1 h2 hf hb
    rw [fX10_bell_54]
    by_cases z : k = 144
    · subst z
      rw [if_pos (show (144 : Int32) ≤ nI 144 by decide)]
      exact ⟨far, b, rfl, hf, hb⟩
    have hk : k < 144 := by omega
    obtain ⟨t1, t2⟩ := tb_k4 k hk
    have hq : k / 4 < 36 := by omega
    have hs : k % 4 < 4 := by omega
    have hle := tb_n1 _ hq _ hs
    obtain ⟨w1, w2⟩ := wt_b (g := g) hmo (k / 4) (k % 4)
    have hch := (rd_inv hmo hV hS k (by omega)).1
    have hbd : ∀ x, x < 36 → rd g mo V k x ≤ 9999 := fun x hx => by rcases hch.le hx with e | e <;> omega
    rw [if_neg (litF (c := 144) (C := 144) rfl hk (by decide)), t1, t2, lets_eq, tb_nextTo _ hq _ hs, o1]
    by_cases hn : nx (k / 4) (k % 4) = 36
    · have hr : rd g mo V (k + 1) = rd g mo V k := rel_no (Or.inl hn)
      rw [if_pos hn, if_pos (by decide)]
      unfold fX10_bell_168
      rw [nI_1]
      exact ih (k + 1) far b (by omega) (by omega) (by rw [hr]; exact hf) (by rw [hr]; exact hb)
    rw [if_neg hn, if_neg (nI_pos (by omega)), if_pos (inb_n (by omega) (by decide)), gap_v h hyr hE hC hG hq hs hn, o1, cl_n (by omega), show (0 : Int32).toNatClampNeg = 0 from rfl, hm]
    have hl := loss_v (g := g) (mo := mo) (q := k / 4) (s := k % 4) (far (k / 4)) (hf _ hq)
    have h112 : ∀ w : Int32, far (k / 4) + 5 + w = nI (rd g mo V k (k / 4) + wt g mo (k / 4) (k % 4)) → ∃ far' b', fX10_bell_112 K (fX10_bell_54 K yrow (nI n) yea ysh yset N) far x1 (bI b) (nI k) (nI (nx (k / 4) (k % 4))) (far (k / 4) + 5) w = K far' x1 (bI b') ∧ (∀ x, x < 36 → far' x = nI (rd g mo V 144 x)) ∧ FLG b' (rd g mo V 144) V := by
      intro w hw
      have hx36 : nx (k / 4) (k % 4) < 36 := by omega
      have hbx := hbd _ hx36
      have hbq := hbd _ hq
      have hI : inb (nI (nx (k / 4) (k % 4))) 72 = true := inb_n (by omega) (by decide)
      unfold fX10_bell_112 fX10_bell_131 fX10_bell_136 fX10_bell_167 fX10_bell_168
      rw [hw, lets_eq]
      simp only [hI, ↓reduceIte]
      rw [cl_n (by omega), hf _ hx36, nI_1]
      by_cases c : rd g mo V k (nx (k / 4) (k % 4)) ≤ rd g mo V k (k / 4) + wt g mo (k / 4) (k % 4)
      · have hr : rd g mo V (k + 1) = rd g mo V k := rel_no (Or.inr c)
        have hid : upd far (nx (k / 4) (k % 4)) (nI (rd g mo V k (nx (k / 4) (k % 4)))) = far := by rw [← hf _ hx36]; exact upd_id _ _
        have hc' : nI (rd g mo V k (nx (k / 4) (k % 4))) ≤ nI (rd g mo V k (k / 4) + wt g mo (k / 4) (k % 4)) := nleT c (by omega)
        have hih := ih (k + 1) far b (by omega) (by omega) (by rw [hr]; exact hf) (by rw [hr]; exact hb)
        rw [if_pos hc', if_pos hc', if_pos hc', hid]
        cases b with
        | true => rw [if_neg (show ¬ bI true = 0 by decide)]; exact hih
        | false => rw [if_pos (show bI false = 0 by decide)]; exact hih
      · have hr : rd g mo V (k + 1) = updN (rd g mo V k) (nx (k / 4) (k % 4)) (rd g mo V k (k / 4) + wt g mo (k / 4) (k % 4)) := rel_yes hn c
        have hc' : ¬ nI (rd g mo V k (nx (k / 4) (k % 4))) ≤ nI (rd g mo V k (k / 4) + wt g mo (k / 4) (k % 4)) := nleF (by omega) (by omega)
        have hih := ih (k + 1) (upd far (nx (k / 4) (k % 4)) (nI (rd g mo V k (k / 4) + wt g mo (k / 4) (k % 4)))) true (by omega) (by omega) (fun x hx => by
          rw [hr]
          unfold updN
          by_cases y : x = nx (k / 4) (k % 4)
          · rw [y, upd_s, if_pos rfl]
          · rw [upd_n _ _ y, if_neg y]; exact hf x hx) (by rw [hr]; exact flg_yes hx36 c (rd_le V k 0 _ (by omega)))
        rw [if_neg hc', if_neg hc']
        cases b with
        | true => rw [if_neg (show ¬ bI true = 0 by decide)]; exact hih
        | false => rw [if_pos (show bI false = 0 by decide)]; exact hih
    cases hb2 : bL g (eb (k / 4) (k % 4)) with
    | true =>
      rw [hb2, if_pos rfl] at hl
      rw [if_neg (show ¬ bI true = 0 by decide)]
      exact h112 0 hl
    | false =>
      rw [hb2, if_neg (show ¬ false = true by decide)] at hl
      rw [if_pos (show bI false = 0 by decide)]
      exact h112 (nI mo) hl
theorem less13 (hmo : mo ≤ 9) (K : (Nat → Int32) → Int32 → Int32 → Option (Int32 × (Nat → Int32))) {V : Nat → Nat} (hV : CHN V) (hS : SU g mo mid V) {q : Nat} (hq : q < 36) :
    ∀ N s (c : Nat → Int32) (b : Bool), s ≤ 4 → 5 ≤ s + N → CR c (rd g mo V (4 * q + s)) → FLG b (rd g mo V (4 * q + s)) V →
    ∃ c' b', fX8_lessenLosses_13 K g (nI mo) N c (bI b) (nI q) (nI s) = K c' (bI b') (nI (q + 1)) ∧ CR c' (rd g mo V (4 * q + 4)) ∧ FLG b' (rd g mo V (4 * q + 4)) V := by
  intro N
  induction N with
  | zero => intro s c b h1 h2; omega
  | succ N ih =>
    intro s c b h1 h2 hc hb
    rw [fX8_lessenLosses_13]
    unfold fX8_lessenLosses_130
    by_cases z : s = 4
    · subst z
      rw [if_pos (show (4 : Int32) ≤ nI 4 by decide), nI_1]
      exact ⟨c, b, rfl, hc, hb⟩
    have hs : s < 4 := by omega
    have hle := tb_n1 q hq s hs
    obtain ⟨w1, w2⟩ := wt_b (g := g) hmo q s
    have hstep : rd g mo V (4 * q + (s + 1)) = rel g mo (rd g mo V (4 * q + s)) q s := by
      show rel g mo (rd g mo V (4 * q + s)) ((4 * q + s) / 4) ((4 * q + s) % 4) = _
      rw [show (4 * q + s) / 4 = q by omega, show (4 * q + s) % 4 = s by omega]
    have hchn := (rd_inv hmo hV hS (4 * q + s) (by omega)).1
    rw [if_neg (litF (c := 4) (C := 4) rfl hs (by decide)), if_pos (inb_n (by omega) (by decide)), cl_n (by omega)]
    rcases hc q hq with ⟨e9, hneg⟩ | ⟨hfin, hcq⟩
    · rw [if_pos hneg, nI_1]
      have hsame : ∀ t, s + t ≤ 4 → rd g mo V (4 * q + (s + t)) = rd g mo V (4 * q + s) := by
        intro t
        induction t with
        | zero => intro _; rfl
        | succ t iht =>
          intro ht
          have e := iht (by omega)
          show rel g mo (rd g mo V (4 * q + (s + t))) ((4 * q + (s + t)) / 4) ((4 * q + (s + t)) % 4) = _
          rw [show (4 * q + (s + t)) / 4 = q by omega, show (4 * q + (s + t)) % 4 = s + t by omega, e]
          by_cases hn : nx q (s + t) = 36
          · exact rel_no (Or.inl hn)
          · refine rel_no (Or.inr ?_)
            have hl2 := tb_n1 q hq (s + t) (by omega)
            rcases hchn.le (show nx q (s + t) < 36 by omega) with e2 | e2 <;> omega
      have h4 := hsame (4 - s) (by omega)
      rw [show s + (4 - s) = 4 by omega] at h4
      exact ⟨c, b, rfl, by rw [h4]; exact hc, by rw [h4]; exact hb⟩
    have h490 : rd g mo V (4 * q + s) q ≤ 490 := by rcases hchn.le hq with e | e <;> omega
    obtain ⟨e1, e2⟩ := edge_and (g := g) hq hs
    rw [if_neg (by rw [hcq]; exact nI_pos (by omega)), tb_next q hq s hs, o1]
    by_cases hn : nx q s = 36
    · have hr : rel g mo (rd g mo V (4 * q + s)) q s = rd g mo V (4 * q + s) := rel_no (Or.inl hn)
      rw [hr] at hstep
      rw [if_pos hn, if_neg (by decide)]
      unfold fX8_lessenLosses_124
      rw [nI_1]
      exact ih (s + 1) c b (by omega) (by omega) (by rw [hstep]; exact hc) (by rw [hstep]; exact hb)
    have hx36 : nx q s < 36 := by omega
    have hl := loss_v (g := g) (mo := mo) (q := q) (s := s) (c q) hcq
    rw [if_neg hn] at e1 e2
    rw [if_neg hn, if_pos (nI_pos' (by omega)), e1, o1]
    have h88 : ∀ w : Int32, c q + 5 + w = nI (rd g mo V (4 * q + s) q + wt g mo q s) → ∃ c' b', fX8_lessenLosses_88 K (fX8_lessenLosses_13 K g (nI mo) N) c (bI b) (nI q) (nI s) (nI (nx q s)) (c q + 5) w = K c' (bI b') (nI (q + 1)) ∧ CR c' (rd g mo V (4 * q + 4)) ∧ FLG b' (rd g mo V (4 * q + 4)) V := by
      intro w hw
      have hI : inb (nI (nx q s)) 72 = true := inb_n (by omega) (by decide)
      unfold fX8_lessenLosses_88 fX8_lessenLosses_113 fX8_lessenLosses_124
      rw [hw, lets_eq]
      simp only [hI, ↓reduceIte]
      rw [cl_n (by omega), nI_1]
      have hset : ¬ rd g mo V (4 * q + s) (nx q s) ≤ rd g mo V (4 * q + s) q + wt g mo q s → ∃ c' b', fX8_lessenLosses_13 K g (nI mo) N (upd c (nx q s) (nI (rd g mo V (4 * q + s) q + wt g mo q s))) 1 (nI q) (nI (s + 1)) = K c' (bI b') (nI (q + 1)) ∧ CR c' (rd g mo V (4 * q + 4)) ∧ FLG b' (rd g mo V (4 * q + 4)) V := by
        intro hno
        have hr := rel_yes (g := g) (mo := mo) (U := rd g mo V (4 * q + s)) hn hno
        rw [hr] at hstep
        refine ih (s + 1) _ true (by omega) (by omega) (fun x hx => ?_) (by rw [hstep]; exact flg_yes hx36 hno (rd_le V _ 0 _ (by omega)))
        rw [hstep]
        unfold updN
        by_cases y : x = nx q s
        · rw [y, upd_s, if_pos rfl]; exact Or.inr ⟨by omega, rfl⟩
        · rw [upd_n _ _ y, if_neg y]; exact hc x hx
      rcases hc (nx q s) hx36 with ⟨e9, hneg⟩ | ⟨hfx, hcx⟩
      · rw [if_pos hneg]
        exact hset (by omega)
      · rw [hcx, if_neg (nI_pos (by omega))]
        by_cases y : rd g mo V (4 * q + s) (nx q s) ≤ rd g mo V (4 * q + s) q + wt g mo q s
        · have hr : rel g mo (rd g mo V (4 * q + s)) q s = rd g mo V (4 * q + s) := rel_no (Or.inr y)
          rw [hr] at hstep
          rw [if_pos (nleT y (by omega))]
          exact ih (s + 1) c b (by omega) (by omega) (by rw [hstep]; exact hc) (by rw [hstep]; exact hb)
        · rw [if_neg (nleF (by omega) (by omega))]
          exact hset y
    unfold fX8_lessenLosses_65
    rw [if_pos (inb_n (by omega) (by decide)), if_pos (inb_n (by omega) (by decide)), cl_n (by omega)]
    cases hb2 : bL g (eb q s) with
    | true =>
      rw [hb2, if_pos rfl] at hl
      rw [if_neg (fun z => (e2.mp (lg0.mp z)) ⟨hn, hb2⟩), if_neg (show ¬ (1 : Int32) = 0 by decide)]
      exact h88 0 hl
    | false =>
      rw [hb2, if_neg (show ¬ false = true by decide)] at hl
      rw [if_pos (lg0.mpr (e2.mpr (fun z => by rw [hb2] at z; cases z.2))), if_pos rfl]
      exact h88 (nI mo) hl
theorem less4 (hmo : mo ≤ 9) {V : Nat → Nat} (hV : CHN V) (hS : SU g mo mid V) : ∀ N q (c : Nat → Int32) (b : Bool), q ≤ 36 → 37 ≤ q + N → CR c (rd g mo V (4 * q)) → FLG b (rd g mo V (4 * q)) V →
    ∃ c' b', fX8_lessenLosses_4 g (nI mo) N c (bI b) (nI q) = some (bI b', c') ∧ CR c' (rd g mo V 144) ∧ FLG b' (rd g mo V 144) V := by
  intro N
  induction N with
  | zero => intro q c b h1 h2; omega
  | succ N ih =>
    intro q c b h1 h2 hc hb
    rw [fX8_lessenLosses_4]
    by_cases z : q = 36
    · subst z
      rw [if_pos (show (36 : Int32) ≤ nI 36 by decide), if_pos (isB_bI b)]
      exact ⟨c, b, rfl, hc, hb⟩
    · rw [if_neg (litF (c := 36) (C := 36) rfl (by omega) (by decide))]
      obtain ⟨c1, b1, e1, g1, g2⟩ := less13 hmo (fX8_lessenLosses_4 g (nI mo) N) hV hS (show q < 36 by omega) 4000 0 c b (by decide) (by decide) hc hb
      rw [nI_z] at e1
      rw [e1]
      exact ih (q + 1) c1 b1 (by omega) (by omega) g1 g2
/-- both go on by rounds -/
theorem rounds_l (h : FW n p row size pl st) (hyr : ∀ i, i < n → yrow i = nI (p i)) (hE : MK eaten yea) (hC : MK closed ysh) (hG : GP n p st eaten closed g) (hm : yset 0 = nI mo) (hmo : mo ≤ 9) (hmid : mid < 36) {V : Nat → Nat} (hV : CHN V) (hS : SU g mo mid V) {x : Nat} (hx : x < 36) (l : Int32) :
    ∀ N M r (c far : Nat → Int32) (b : Bool), r ≤ 36 → 37 ≤ r + N → 37 ≤ r + M → CR c (rs g mo V r) → (∀ x, x < 36 → far x = nI (rs g mo V r x)) → (r = 0 ∨ ∃ r', r = r' + 1 ∧ FLG b (rs g mo V r) (rs g mo V r')) →
    ∃ ret c' l' far', fX8_heard_38 g (nI mo) N c l (nI x) (bI b) (nI r) = some (ret, c', l') ∧ fX10_bell_46 yrow (nI n) yea ysh yset M far (nI x) (bI b) = some (ret, far') := by
  intro N
  induction N with
  | zero => intro M r c far b h1 h2; omega
  | succ N ih =>
    intro M r c far b h1 h2 h3 hc hf hb
    obtain ⟨M, rfl⟩ : ∃ m, M = m + 1 := ⟨M - 1, by omega⟩
    rw [fX8_heard_38, fX10_bell_46]
    obtain ⟨i1, i2⟩ := rs_inv hmo hV hS r
    have hans : ∃ ret c' l' far', fX8_heard_61 c l (nI x) = some (ret, c', l') ∧ (if inb (nI x) 72 = true then lets ((40 : Int32) - (far (nI x).toNatClampNeg)) fun y1 => (if 0 ≤ y1 then some (y1, far) else some ((0 : Int32), far)) else none) = some (ret, far') := by
      have hI : inb (nI x) 72 = true := inb_n (by omega) (by decide)
      unfold fX8_heard_61
      simp only [hI, ↓reduceIte]
      rw [cl_n (by omega), hf x hx, lets_eq]
      rcases hc x hx with ⟨e9, hneg⟩ | ⟨hfin, hcx⟩
      · rw [e9, if_neg (not_le_0.mpr hneg), if_neg (by decide)]
        exact ⟨_, _, _, _, rfl, rfl⟩
      · have h490 : rs g mo V r x < 491 := by rcases i1.le hx with e | e <;> omega
        rw [hcx, if_pos (nI_pos' (by omega)), tb_loud _ h490]
        by_cases y : (0 : Int32) ≤ 40 - nI (rs g mo V r x)
        · rw [if_pos y, if_pos y]; exact ⟨_, _, _, _, rfl, rfl⟩
        · rw [if_neg y, if_neg y]; exact ⟨_, _, _, _, rfl, rfl⟩
    have hb36 : r = 36 → b = false := by
      intro e
      rcases hb with e0 | ⟨r', e1, hfl⟩
      · omega
      · cases b with
        | false => rfl
        | true =>
          obtain ⟨z, hz, hlt⟩ := hfl.mp rfl
          have : r' = 35 := by omega
          subst this
          rw [e] at hlt
          exact absurd hlt (cg_end hmo hmid hV hS hz)
    cases b with
    | false =>
      rw [if_pos (show bI false = 0 by decide), if_pos (show bI false = 0 by decide)]
      obtain ⟨ret, c', l', far', a1, a2⟩ := hans
      refine ⟨ret, c', l', far', ?_, a2⟩
      by_cases z : (36 : Int32) ≤ nI r
      · rw [if_pos z]; exact a1
      · rw [if_neg z]; exact a1
    | true =>
      have hr : r < 36 := by
        apply Classical.byContradiction
        intro z
        have := hb36 (by omega)
        cases this
      rw [if_neg (litF (c := 36) (C := 36) rfl hr (by decide)), if_neg (show ¬ bI true = 0 by decide), if_neg (show ¬ bI true = 0 by decide)]
      unfold fX8_lessenLosses
      have hfl0 : FLG false (rd g mo (rs g mo V r) 0) (rs g mo V r) := ⟨fun y => by (cases y), fun ⟨z, _, hlt⟩ => absurd hlt (Nat.lt_irrefl _)⟩
      obtain ⟨c1, b1, a1, a2, a3⟩ := less4 hmo i1 i2 4000 0 c false (by decide) (by decide) hc hfl0
      obtain ⟨far1, b2, d1, d2, d3⟩ := bell54 h hyr hE hC hG hm hmo (fX10_bell_46 yrow (nI n) yea ysh yset M) (nI x) i1 i2 4000 0 far false (by decide) (by decide) hf hfl0
      have hbb : b1 = b2 := by
        cases b1 with
        | true =>
          exact (d3.mpr (a3.mp rfl)).symm
        | false =>
          cases b2 with
          | true => exact absurd (a3.mpr (d3.mp rfl)) (by decide)
          | false => rfl
      subst hbb
      rw [nI_z, bI_f] at a1 d1
      rw [a1, o2, d1, nI_1]
      exact ih M (r + 1) c1 far1 b1 (by omega) (by omega) (by omega) a2 d2 (Or.inr ⟨r, rfl, a3⟩)
theorem bell11 {yrow' : Nat → Int32} {ys x1 : Int32} (hmid : mid < 36) (hy : yset 1 = nI mid) : ∀ N k (far : Nat → Int32), k ≤ 36 → 37 ≤ k + N → (∀ i, i < k → far i = nI 9999) → ∃ far', fX10_bell_11 yrow' ys yea ysh yset N far x1 (nI k) = fX10_bell_46 yrow' ys yea ysh yset 4000 (upd far' mid 0) x1 1 ∧ ∀ i, i < 36 → far' i = nI 9999 := by
  intro N
  induction N with
  | zero => intro k far h1 h2; omega
  | succ N ih =>
    intro k far h1 h2 h3
    rw [fX10_bell_11]
    by_cases z : k = 36
    · subst z
      rw [if_pos (show (36 : Int32) ≤ nI 36 by decide), show (1 : Int32).toNatClampNeg = 1 from rfl, hy, if_pos (inb_n (by omega) (by decide)), cl_n (by omega)]
      exact ⟨far, rfl, h3⟩
    · rw [if_neg (litF (c := 36) (C := 36) rfl (by omega) (by decide)), if_pos (inb_n (by omega) (by decide)), cl_n (by omega), nI_1]
      refine ih (k + 1) _ (by omega) (by omega) (fun i hi => ?_)
      by_cases y : i = k
      · subst y; rw [upd_s]; rfl
      · rw [upd_n _ _ y]; exact h3 i (by omega)
end Bell
theorem step_bell : STEP_bell R1d := by
  intro ea cl ga sw mo mi dr sG sC sN sz pl st row wl wf ys yse yrow yea ysh yst yset ysp ysg yf a0 ⟨n, p, mo', mi', dr', k, hF, ⟨hys, hyr⟩, ⟨hE, h10⟩, hC, hG, hS, ⟨hm1, hm2, hm3⟩, ⟨hi1, hi2, hi3⟩, hd, hN⟩
  subst hys
  unfold fX9_bell fX10_bell
  rw [X3_isSquare, X10_isSquare, o1, o1]
  rcases ir_or a0 36 (by decide) with ha | ⟨x, hx, rfl⟩
  · rw [ha, bI_f, if_pos rfl, if_pos rfl]; exact ⟨_, _, _, _, rfl, rfl⟩
  rw [ir_n hx (by decide), bI_t, if_neg (show ¬ (1 : Int32) = 0 by decide), if_neg (show ¬ (1 : Int32) = 0 by decide)]
  obtain ⟨d1, e1, hd1⟩ := forget_v wf wl
  obtain ⟨far', e2, hf'⟩ := bell11 (yrow' := yrow) (ys := nI n) (x1 := nI x) (yea := yea) (ysh := ysh) hi1 hi3 4000 0 yf (by decide) (by decide) (fun i hi => absurd hi (by omega))
  have hV : CHN (updN (fun _ => 9999) mi' 0) := by
    intro z hz
    unfold updN
    by_cases y : z = mi'
    · rw [if_pos y]
      exact Or.inr ⟨0, fun _ => mi', fun i _ => ⟨hi1, by simp⟩, fun i i' h1 h2 _ => by omega, y.symm, Nat.zero_le _⟩
    · rw [if_neg y]; exact Or.inl rfl
  have hSU : SU ga mo' mi' (updN (fun _ => 9999) mi' 0) := by
    refine ⟨by unfold updN; rw [if_pos rfl], fun z hz hne => Or.inl ?_⟩
    unfold updN; rw [if_neg hne]
  have hc : CR (upd d1 mi' 0) (rs ga mo' (updN (fun _ => 9999) mi' 0) 0) := by
    intro z hz
    show (updN (fun _ => 9999) mi' 0 z = 9999 ∧ upd d1 mi' 0 z < 0) ∨ (updN (fun _ => 9999) mi' 0 z < 9999 ∧ upd d1 mi' 0 z = nI (updN (fun _ => 9999) mi' 0 z))
    unfold updN
    by_cases y : z = mi'
    · rw [if_pos y, y, upd_s]; exact Or.inr ⟨by decide, rfl⟩
    · rw [if_neg y, upd_n _ _ y, hd1 z (by omega)]; exact Or.inl ⟨rfl, by decide⟩
  have hf : ∀ z, z < 36 → upd far' mi' 0 z = nI (rs ga mo' (updN (fun _ => 9999) mi' 0) 0 z) := by
    intro z hz
    show upd far' mi' 0 z = nI (updN (fun _ => 9999) mi' 0 z)
    unfold updN
    by_cases y : z = mi'
    · rw [if_pos y, y, upd_s]; rfl
    · rw [if_neg y, upd_n _ _ y]; exact hf' z hz
  obtain ⟨ret, c', l', far2, a1, a2⟩ := rounds_l hF hyr hE hC hG hm3 hm1 hi1 hV hSU hx 0 4000 4000 0 _ _ true (by decide) (by decide) (by decide) hc hf (Or.inl rfl)
  rw [nI_z] at e2
  rw [nI_z, bI_t] at a1
  rw [bI_t] at a2
  unfold fX8_heard
  rw [X3_isSquare, X3_isSquare, hm2, hi2, ir_n hx (by decide), ir_n hi1 (by decide), bI_t, o1, if_neg (show ¬ (1 : Int32) = 0 by decide), o1, if_neg (show ¬ (1 : Int32) = 0 by decide), e1, o2, if_pos (inb_n (by omega) (by decide)), cl_n (by omega), a1, o3, e2, a2]
  exact ⟨_, _, _, _, rfl, rfl⟩
