-- LOSSES: rounds over numbers alone
def updN (f : Nat → Nat) (k v : Nat) : Nat → Nat := fun i => if i = k then v else f i
def wt (g : Int64) (mo q s : Nat) : Nat := if bL g (eb q s) = true then 5 else 5 + mo
def rel (g : Int64) (mo : Nat) (V : Nat → Nat) (q s : Nat) : Nat → Nat := if nx q s = 36 then V else if V (nx q s) ≤ V q + wt g mo q s then V else updN V (nx q s) (V q + wt g mo q s)
def rd (g : Int64) (mo : Nat) (V : Nat → Nat) : Nat → Nat → Nat
  | 0 => V
  | k + 1 => rel g mo (rd g mo V k) (k / 4) (k % 4)
section Loss
variable {g : Int64} {mo mid : Nat}
theorem wt_b (hmo : mo ≤ 9) (q s : Nat) : 5 ≤ wt g mo q s ∧ wt g mo q s ≤ 14 := by
  unfold wt
  split <;> omega
theorem wt_s {q s : Nat} (hq : q < 36) (hs : s < 4) (hn : nx q s ≠ 36) : wt g mo (nx q s) (3 - s) = wt g mo q s := by
  unfold wt
  rw [(tb_n3 q hq s hs hn).2.2.1]
theorem rel_le (V : Nat → Nat) (q s x : Nat) : rel g mo V q s x ≤ V x := by
  unfold rel
  split
  · exact Nat.le_refl _
  split
  · exact Nat.le_refl _
  · unfold updN
    by_cases z : x = nx q s
    · subst z; rw [if_pos rfl]; omega
    · rw [if_neg z]; exact Nat.le_refl _
theorem rel_at (V : Nat → Nat) {q s : Nat} (hn : nx q s ≠ 36) : rel g mo V q s (nx q s) ≤ V q + wt g mo q s := by
  unfold rel
  rw [if_neg hn]
  split
  · assumption
  · unfold updN; rw [if_pos rfl]; exact Nat.le_refl _
theorem rd_le (V : Nat → Nat) : ∀ m k x, k ≤ m → rd g mo V m x ≤ rd g mo V k x := by
  intro m
  induction m with
  | zero => intro k x h; have : k = 0 := by omega
            subst this; exact Nat.le_refl _
  | succ m ih =>
    intro k x h
    by_cases z : k = m + 1
    · subst z; exact Nat.le_refl _
    · exact Nat.le_trans (rel_le _ _ _ _) (ih k x (by omega))
/-- a round takes every edge -/
theorem rd_edge (V : Nat → Nat) {q s : Nat} (hq : q < 36) (hs : s < 4) (hn : nx q s ≠ 36) : rd g mo V 144 (nx q s) ≤ V q + wt g mo q s := by
  have h1 := rd_le (g := g) (mo := mo) V 144 (4 * q + s + 1) (nx q s) (by omega)
  have h2 : rd g mo V (4 * q + s + 1) (nx q s) ≤ rd g mo V (4 * q + s) q + wt g mo q s := by
    show rel g mo (rd g mo V (4 * q + s)) ((4 * q + s) / 4) ((4 * q + s) % 4) (nx q s) ≤ _
    rw [show (4 * q + s) / 4 = q by omega, show (4 * q + s) % 4 = s by omega]
    exact rel_at _ hn
  have h3 := rd_le (g := g) (mo := mo) V (4 * q + s) 0 q (by omega)
  have h4 : rd g mo V 0 q = V q := rfl
  omega
/-- whence a value comes -/
def SU (g : Int64) (mo mid : Nat) (V : Nat → Nat) : Prop := V mid = 0 ∧ ∀ x, x < 36 → x ≠ mid → V x = 9999 ∨ ∃ q s, q < 36 ∧ s < 4 ∧ nx q s = x ∧ V q + wt g mo q s ≤ V x
/-- a chain of squares told of, none twice -/
def CHN (V : Nat → Nat) : Prop := ∀ x, x < 36 → V x = 9999 ∨ ∃ j, ∃ p : Nat → Nat, (∀ i, i ≤ j → p i < 36 ∧ V (p i) < 9999) ∧ (∀ i i', i ≤ j → i' ≤ j → p i = p i' → i = i') ∧ p j = x ∧ V x ≤ 14 * j
theorem CHN.le {V : Nat → Nat} (h : CHN V) {x : Nat} (hx : x < 36) : V x = 9999 ∨ V x ≤ 490 := by
  rcases h x hx with h | ⟨j, p, h1, h2, h3, h4⟩
  · exact Or.inl h
  · have := php 36 (j + 1) p (fun i hi => (h1 i (by omega)).1) (fun i i' hi hi' => h2 i i' (by omega) (by omega))
    exact Or.inr (by omega)
theorem chn_rel {V : Nat → Nat} (hmo : mo ≤ 9) (h : CHN V) {q s : Nat} (hq : q < 36) (hs : s < 4) : CHN (rel g mo V q s) := by
  obtain ⟨w1, w2⟩ := wt_b (g := g) hmo q s
  have hle := rel_le (g := g) (mo := mo) V q s
  have hx36 := tb_n1 q hq s hs
  have old : ∀ z, z < 36 → rel g mo V q s z = V z ∨ V z ≠ 9999 → rel g mo V q s z = 9999 ∨ ∃ j, ∃ p : Nat → Nat, (∀ i, i ≤ j → p i < 36 ∧ rel g mo V q s (p i) < 9999) ∧ (∀ i i', i ≤ j → i' ≤ j → p i = p i' → i = i') ∧ p j = z ∧ rel g mo V q s z ≤ 14 * j := by
    intro z hz hor
    rcases h z hz with e | ⟨j, p, h1, h2, h3, h4⟩
    · rcases hor with e2 | e2
      · exact Or.inl (by rw [e2, e])
      · exact absurd e e2
    · exact Or.inr ⟨j, p, fun i hi => ⟨(h1 i hi).1, Nat.lt_of_le_of_lt (hle _) (h1 i hi).2⟩, h2, h3, Nat.le_trans (hle z) h4⟩
  intro z hz
  by_cases e : rel g mo V q s z = V z
  · exact old z hz (Or.inl e)
  by_cases e9 : V z = 9999
  rotate_left
  · exact old z hz (Or.inr e9)
  have hdef : nx q s ≠ 36 ∧ ¬ V (nx q s) ≤ V q + wt g mo q s ∧ z = nx q s ∧ rel g mo V q s z = V q + wt g mo q s := by
    unfold rel at e ⊢
    by_cases hn : nx q s = 36
    · rw [if_pos hn] at e; exact absurd rfl e
    rw [if_neg hn] at e ⊢
    by_cases hc : V (nx q s) ≤ V q + wt g mo q s
    · rw [if_pos hc] at e; exact absurd rfl e
    rw [if_neg hc] at e ⊢
    unfold updN at e ⊢
    by_cases hz' : z = nx q s
    · rw [if_pos hz']; exact ⟨hn, hc, hz', rfl⟩
    · rw [if_neg hz'] at e; exact absurd rfl e
  obtain ⟨hn, hc, hzx, hv⟩ := hdef
  rw [← hzx, e9] at hc
  rcases h q hq with e | ⟨j, p, h1, h2, h3, h4⟩
  · omega
  · have hnew : ∀ i, i ≤ j → p i ≠ z := fun i hi e => by have := (h1 i hi).2; rw [e, e9] at this; omega
    have hj := php 36 (j + 1) p (fun i hi => (h1 i (by omega)).1) (fun i i' hi hi' => h2 i i' (by omega) (by omega))
    refine Or.inr ⟨j + 1, fun i => if i = j + 1 then z else p i, fun i hi => ?_, fun i i' hi hi' e => ?_, by simp, by rw [hv]; omega⟩
    · by_cases y : i = j + 1
      · simp only [y, if_true]; exact ⟨hz, by rw [hv]; omega⟩
      · simp only [y, if_false]; exact ⟨(h1 i (by omega)).1, Nat.lt_of_le_of_lt (hle _) (h1 i (by omega)).2⟩
    · by_cases y : i = j + 1
      · by_cases y' : i' = j + 1
        · omega
        · simp only [y, y', if_true, if_false] at e
          exact absurd e.symm (hnew i' (by omega))
      · by_cases y' : i' = j + 1
        · simp only [y, y', if_true, if_false] at e
          exact absurd e (hnew i (by omega))
        · simp only [y, y', if_false] at e
          exact h2 i i' (by omega) (by omega) e
theorem su_rel {V : Nat → Nat} (h : SU g mo mid V) {q s : Nat} (hq : q < 36) (hs : s < 4) : SU g mo mid (rel g mo V q s) := by
  have hle := rel_le (g := g) (mo := mo) V q s
  refine ⟨by have := hle mid; have := h.1; omega, fun z hz hne => ?_⟩
  by_cases e : rel g mo V q s z = V z
  · rcases h.2 z hz hne with e2 | ⟨a, b, h1, h2, h3, h4⟩
    · exact Or.inl (by rw [e, e2])
    · exact Or.inr ⟨a, b, h1, h2, h3, by have := hle a; omega⟩
  · have hdef : z = nx q s ∧ rel g mo V q s z = V q + wt g mo q s := by
      unfold rel at e ⊢
      by_cases hn : nx q s = 36
      · rw [if_pos hn] at e; exact absurd rfl e
      rw [if_neg hn] at e ⊢
      by_cases hc : V (nx q s) ≤ V q + wt g mo q s
      · rw [if_pos hc] at e; exact absurd rfl e
      rw [if_neg hc] at e ⊢
      unfold updN at e ⊢
      by_cases hz' : z = nx q s
      · rw [if_pos hz']; exact ⟨hz', rfl⟩
      · rw [if_neg hz'] at e; exact absurd rfl e
    exact Or.inr ⟨q, s, hq, hs, hdef.1.symm, by rw [hdef.2]; have := hle q; omega⟩
theorem rd_inv {V : Nat → Nat} (hmo : mo ≤ 9) (h1 : CHN V) (h2 : SU g mo mid V) : ∀ k, k ≤ 144 → CHN (rd g mo V k) ∧ SU g mo mid (rd g mo V k) := by
  intro k
  induction k with
  | zero => intro _; exact ⟨h1, h2⟩
  | succ k ih =>
    intro hk
    obtain ⟨a, b⟩ := ih (by omega)
    exact ⟨chn_rel hmo a (by omega) (by omega), su_rel b (by omega) (by omega)⟩
/-- round by round -/
def rs (g : Int64) (mo : Nat) (V : Nat → Nat) : Nat → Nat → Nat
  | 0 => V
  | r + 1 => rd g mo (rs g mo V r) 144
theorem rs_inv {V : Nat → Nat} (hmo : mo ≤ 9) (h1 : CHN V) (h2 : SU g mo mid V) : ∀ r, CHN (rs g mo V r) ∧ SU g mo mid (rs g mo V r) := by
  intro r
  induction r with
  | zero => exact ⟨h1, h2⟩
  | succ r ih => exact rd_inv hmo ih.1 ih.2 144 (Nat.le_refl _)
theorem rs_le (V : Nat → Nat) (x : Nat) : ∀ m r, r ≤ m → rs g mo V m x ≤ rs g mo V r x := by
  intro m
  induction m with
  | zero => intro r h; have : r = 0 := by omega
            subst this; exact Nat.le_refl _
  | succ m ih =>
    intro r h
    by_cases z : r = m + 1
    · subst z; exact Nat.le_refl _
    · exact Nat.le_trans (rd_le (rs g mo V m) 144 0 x (by omega)) (ih r (by omega))
def CG (g : Int64) (mo : Nat) (V : Nat → Nat) (r x : Nat) : Prop := rs g mo V (r + 1) x < rs g mo V r x
theorem cg_back {V : Nat → Nat} (hmo : mo ≤ 9) (h1 : CHN V) (h2 : SU g mo mid V) {r x : Nat} (hx : x < 36) (h : CG g mo V (r + 1) x) : x ≠ mid ∧ ∃ y r', y < 36 ∧ r ≤ r' ∧ r' ≤ r + 1 ∧ CG g mo V r' y ∧ rs g mo V (r' + 1) y < rs g mo V (r + 1 + 1) x := by
  obtain ⟨i1, i2⟩ := rs_inv hmo h1 h2 (r + 1 + 1)
  obtain ⟨j1, j2⟩ := rs_inv hmo h1 h2 (r + 1)
  have hlt : rs g mo V (r + 1 + 1) x < rs g mo V (r + 1) x := h
  have hb : rs g mo V (r + 1) x ≤ 9999 := by rcases j1.le hx with e | e <;> omega
  have hne : x ≠ mid := fun e => by rw [e, j2.1] at hlt; omega
  refine ⟨hne, ?_⟩
  rcases i2.2 x hx hne with e | ⟨q, s, hq, hs, hn, hv⟩
  · omega
  have hnx : nx q s ≠ 36 := by omega
  have hw := (wt_b (g := g) hmo q s).1
  by_cases c1 : CG g mo V (r + 1) q
  · exact ⟨q, r + 1, hq, by omega, Nat.le_refl _, c1, by omega⟩
  · have e1 : rs g mo V (r + 1 + 1) q = rs g mo V (r + 1) q := Nat.le_antisymm (rs_le V q _ _ (by omega)) (Nat.le_of_not_lt c1)
    by_cases c0 : CG g mo V r q
    · exact ⟨q, r, hq, Nat.le_refl _, by omega, c0, by omega⟩
    · have e0 : rs g mo V (r + 1) q = rs g mo V r q := Nat.le_antisymm (rs_le V q _ _ (by omega)) (Nat.le_of_not_lt c0)
      have hed := rd_edge (g := g) (mo := mo) (rs g mo V r) hq hs hnx
      rw [hn] at hed
      have hed' : rs g mo V (r + 1) x ≤ rs g mo V r q + wt g mo q s := hed
      omega
theorem cg_chain {V : Nat → Nat} (hmo : mo ≤ 9) (h1 : CHN V) (h2 : SU g mo mid V) : ∀ k r x, k ≤ r → x < 36 → CG g mo V r x → x ≠ mid → ∃ p ρ : Nat → Nat, p 0 = x ∧ ρ 0 = r ∧ (∀ i, i ≤ k → p i < 36 ∧ p i ≠ mid) ∧ ∀ i j, i < j → j ≤ k → ρ j ≤ ρ i ∧ rs g mo V (ρ j + 1) (p j) < rs g mo V (ρ i + 1) (p i) := by
  intro k
  induction k with
  | zero => intro r x _ hx _ hne; exact ⟨fun _ => x, fun _ => r, rfl, rfl, fun _ _ => ⟨hx, hne⟩, fun i j a b => by omega⟩
  | succ k ih =>
    intro r x hr hx h hne
    obtain ⟨r0, rfl⟩ : ∃ m, r = m + 1 := ⟨r - 1, by omega⟩
    obtain ⟨-, y, r', hy, g1, g2, g3, g4⟩ := cg_back hmo h1 h2 hx h
    have hym : y ≠ mid := fun e => by
      have a := (rs_inv hmo h1 h2 r').2.1
      have b : rs g mo V (r' + 1) y < rs g mo V r' y := g3
      rw [e, a] at b; omega
    obtain ⟨p, ρ, e1, e2, e3, e4⟩ := ih r' y (by omega) hy g3 hym
    refine ⟨fun i => if i = 0 then x else p (i - 1), fun i => if i = 0 then r0 + 1 else ρ (i - 1), rfl, rfl, fun i hi => ?_, fun i j hij hj => ?_⟩
    · by_cases z : i = 0
      · simp only [z, if_true]; exact ⟨hx, hne⟩
      · simp only [z, if_false]; exact e3 (i - 1) (by omega)
    · have hj0 : ¬ j = 0 := by omega
      by_cases z : i = 0
      · simp only [z, hj0, if_true, if_false]
        by_cases y1 : j = 1
        · subst y1; rw [show 1 - 1 = 0 from rfl, e1, e2]; exact ⟨g2, g4⟩
        · obtain ⟨a, b⟩ := e4 0 (j - 1) (by omega) (by omega)
          rw [e1, e2] at b
          rw [e2] at a
          exact ⟨by omega, by omega⟩
      · simp only [z, hj0, if_false]
        exact e4 (i - 1) (j - 1) (by omega) (by omega)
/-- the thirty-sixth round changes nothing -/
theorem cg_end {V : Nat → Nat} (hmo : mo ≤ 9) (hmid : mid < 36) (h1 : CHN V) (h2 : SU g mo mid V) {x : Nat} (hx : x < 36) : ¬ CG g mo V 35 x := by
  intro h
  have hne := (cg_back (r := 34) hmo h1 h2 hx h).1
  obtain ⟨p, ρ, e1, e2, e3, e4⟩ := cg_chain hmo h1 h2 35 35 x (Nat.le_refl _) hx h hne
  have hd : ∀ i j, i < j → j ≤ 35 → p i ≠ p j := fun i j hij hj e => by
    obtain ⟨a, b⟩ := e4 i j hij hj
    have := rs_le (g := g) (mo := mo) V (p j) (ρ i + 1) (ρ j + 1) (by omega)
    rw [e] at b
    omega
  have := php 36 37 (fun i => if i = 36 then mid else p i) (fun i hi => by
    by_cases z : i = 36
    · simp only [z, if_true]; exact hmid
    · simp only [z, if_false]; exact (e3 i (by omega)).1) (fun i j hi hj e => by
    by_cases z : i = 36
    · by_cases z' : j = 36
      · omega
      · simp only [z, z', if_true, if_false] at e
        exact absurd e.symm (e3 j (by omega)).2
    · by_cases z' : j = 36
      · simp only [z, z', if_true, if_false] at e
        exact absurd e (e3 i (by omega)).2
      · simp only [z, z', if_false] at e
        apply Classical.byContradiction
        intro hne
        rcases (show i < j ∨ j < i by omega) with y | y
        · exact hd i j y (by omega) e
        · exact hd j i y (by omega) e.symm)
  omega
end Loss
