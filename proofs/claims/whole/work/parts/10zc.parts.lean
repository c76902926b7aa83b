-- STEP of parts
def PI (o len : Nat) (w : Nat → Nat) (d qu d' qu' : Nat → Int32) : Prop := o ≤ len ∧ (∀ j, j < len → w j < 36 ∧ qu j = nI (w j) ∧ 0 ≤ d (w j)) ∧ (∀ i j, i < len → j < len → w i = w j → i = j) ∧ (∀ x, x < 36 → (0 ≤ d x ↔ 0 ≤ d' x)) ∧ ∀ j, o ≤ j → j < len → qu' (j - o) = nI (w j)
theorem PI.le {o len : Nat} {w : Nat → Nat} {d qu d' qu' : Nat → Int32} (h : PI o len w d qu d' qu') : len ≤ 36 := php 36 len w (fun i hi => (h.2.1 i hi).1) (fun i j hi hj => h.2.2.1 i j hi hj)
theorem reach_p {o len : Nat} {w : Nat → Nat} {d qu d' qu' : Nat → Int32} (h : PI o len w d qu d' qu') {y : Nat} (hy : y < 36) :
    ∃ len1 w1 d1 qu1 d1' qu1', fX8_reach d qu (nI len) (nI y) 0 = some (d1, qu1, nI len1) ∧ fX10_reach d' qu' (nI (len - o)) (nI y) 0 = some (d1', qu1', nI (len1 - o)) ∧ PI o len1 w1 d1 qu1 d1' qu1' ∧ len ≤ len1 ∧ ∀ j, j < len → w1 j = w j := by
  have hle := h.le
  obtain ⟨h0, h1, h2, h3, h4⟩ := h
  unfold fX8_reach fX10_reach
  have hy72 : inb (nI y) 72 = true := inb_n (by omega) (by decide)
  rw [if_neg (nI_pos (by omega)), if_neg (litF (c := 72) (C := 72) rfl (by omega) (by decide))]
  simp only [hy72, ↓reduceIte]
  rw [cl_n (by omega)]
  by_cases g : 0 ≤ d y
  · rw [if_pos g, if_pos ((h3 y hy).mp g)]
    exact ⟨len, w, d, qu, d', qu', rfl, rfl, ⟨h0, h1, h2, h3, h4⟩, Nat.le_refl _, fun _ _ => rfl⟩
  · have hnew : ∀ j, j < len → w j ≠ y := fun j hj e => g (by rw [← e]; exact (h1 j hj).2.2)
    rw [if_neg g, if_neg (fun z => g ((h3 y hy).mpr z)), if_pos (ltT (c := 72) (C := 72) rfl (by omega) (by decide)), if_pos (show inb (nI len) 72 = true from inb_n (by omega) (by decide)), if_pos (show inb (nI (len - o)) 72 = true from inb_n (by omega) (by decide)), cl_n (show len < 2 ^ 31 by omega), cl_n (show len - o < 2 ^ 31 by omega), lets_eq, lets_eq, nI_1, nI_1, show len - o + 1 = len + 1 - o by omega]
    refine ⟨len + 1, fun j => if j = len then y else w j, _, _, _, _, rfl, rfl, ⟨by omega, fun j hj => ?_, fun i j hi hj e => ?_, fun x hx => ?_, fun j hj1 hj2 => ?_⟩, by omega, fun j hj => by simp only [show ¬ j = len by omega, if_false]⟩
    · by_cases z : j = len
      · simp only [z, if_true]; rw [upd_s, upd_s]; exact ⟨hy, rfl, by decide⟩
      · simp only [z, if_false]
        have hj' : j < len := by omega
        rw [upd_n _ _ z, upd_n _ _ (hnew j hj')]
        exact h1 j hj'
    · by_cases z1 : i = len
      · by_cases z2 : j = len
        · omega
        · simp only [z1, z2, if_true, if_false] at e
          exact absurd e.symm (hnew j (by omega))
      · by_cases z2 : j = len
        · simp only [z1, z2, if_true, if_false] at e
          exact absurd e (hnew i (by omega))
        · simp only [z1, z2, if_false] at e
          exact h2 i j (by omega) (by omega) e
    · by_cases z : x = y
      · rw [z, upd_s, upd_s]
      · rw [upd_n _ _ z, upd_n _ _ z]; exact h3 x hx
    · by_cases z : j = len
      · simp only [z, if_true]; rw [upd_s]
      · simp only [z, if_false]; rw [upd_n _ _ (by omega)]; exact h4 j hj1 (by omega)
section Parts
variable {n : Nat} {p : Nat → Nat} {row yrow : Nat → Int32} {size : Int32} {pl st : Int64} {eaten closed ga : Int64} {yea ysh : Nat → Int32}
theorem sides_p (h : FW n p row size pl st) (hyr : ∀ i, i < n → yrow i = nI (p i)) (hE : MK eaten yea) (hC : MK closed ysh) (hG : GP n p st eaten closed ga)
    (K : (Nat → Int32) → (Nat → Int32) → Int32 → Int32 → Option ((Nat → Int32) × (Nat → Int32) × Int32)) (k25 : (Nat → Int32) → (Nat → Int32) → Int32 → Int32 → Int32 → Option (Int32 × (Nat → Int32) × (Nat → Int32) × Int32)) (K' : (Nat → Int32) → (Nat → Int32) → Int32 → Int32 → Int32 → Int32 → Option (Int32 × (Nat → Int32) × (Nat → Int32) × Int32)) (x1 x2 : Int32) {o i : Nat} (hoi : o ≤ i) :
    ∀ N M s len w (d qu d' qu' : Nat → Int32), s ≤ 4 → 5 ≤ s + N → 5 ≤ s + M → i < len → PI o len w d qu d' qu' →
    ∃ len1 w1 d1 qu1 d1' qu1', fX8_hangTogether_36 K ga N d qu (nI len) (nI i) (nI s) = K d1 qu1 (nI len1) (nI (i + 1)) ∧
      fX10_parts_67 k25 K' yrow (nI n) yea ysh M d' qu' (nI (len - o)) x1 x2 (nI (i - o)) (nI s) = K' d1' qu1' (nI (len1 - o)) x1 x2 (nI (i + 1 - o)) ∧ PI o len1 w1 d1 qu1 d1' qu1' ∧ len ≤ len1 := by
  intro N
  induction N with
  | zero => intro M s len w d qu d' qu' h1 h2; omega
  | succ N ih =>
    intro M s len w d qu d' qu' h1 h2 h3 hi hP
    obtain ⟨M, rfl⟩ : ∃ m, M = m + 1 := ⟨M - 1, by omega⟩
    have h36 := hP.le
    rw [fX8_hangTogether_36, fX10_parts_67]
    by_cases z : s = 4
    · subst z
      rw [if_pos (show (4 : Int32) ≤ nI 4 by decide), if_pos (show (4 : Int32) ≤ nI 4 by decide), nI_1, nI_1, show i - o + 1 = i + 1 - o by omega]
      exact ⟨len, w, d, qu, d', qu', rfl, rfl, hP, Nat.le_refl _⟩
    have hs : s < 4 := by omega
    obtain ⟨hq, hqu, -⟩ := hP.2.1 i hi
    have hqu' := hP.2.2.2.2 i hoi hi
    have hle := tb_n1 (w i) hq s hs
    obtain ⟨e1, e2⟩ := edge_and (g := ga) hq hs
    have hI : inb (nI i) 72 = true := inb_n (by omega) (by decide)
    have hI' : inb (nI (i - o)) 72 = true := inb_n (by omega) (by decide)
    rw [if_neg (litF (c := 4) (C := 4) rfl hs (by decide)), if_neg (litF (c := 4) (C := 4) rfl hs (by decide))]
    simp only [hI, hI', ↓reduceIte]
    rw [cl_n (show i < 2 ^ 31 by omega), cl_n (show i - o < 2 ^ 31 by omega), hqu, hqu', e1, o1, tb_nextTo _ hq s hs, o1]
    unfold fX8_hangTogether_81 fX10_parts_113
    rw [nI_1]
    by_cases hn : nx (w i) s = 36
    · rw [if_pos (lg0.mpr (e2.mpr (fun z => z.1 hn))), if_pos hn, if_pos (by decide)]
      exact ih M (s + 1) len w d qu d' qu' (by omega) (by omega) (by omega) hi hP
    rw [if_neg hn, if_neg hn, if_neg (nI_pos (by omega)), gap_v h hyr hE hC hG hq hs hn, o1]
    cases hb : bL ga (eb (w i) s) with
    | false =>
      rw [if_neg hn] at e2
      rw [if_pos (lg0.mpr (e2.mpr (fun z => by rw [hb] at z; cases z.2))), if_pos (show bI false = 0 by decide)]
      exact ih M (s + 1) len w d qu d' qu' (by omega) (by omega) (by omega) hi hP
    | true =>
      rw [if_neg hn] at e2
      obtain ⟨len1, w1, d1, qu1, d1', qu1', r1, r2, r3, r4, r5⟩ := reach_p hP (y := nx (w i) s) (by omega)
      rw [if_neg (fun z => (e2.mp (lg0.mp z)) ⟨hn, hb⟩), if_neg (show ¬ bI true = 0 by decide), tb_next _ hq s hs, if_neg hn, o1, r1, o3, r2, o3]
      obtain ⟨len2, w2, d2, qu2, d2', qu2', s1, s2, s3, s4⟩ := ih M (s + 1) len1 w1 d1 qu1 d1' qu1' (by omega) (by omega) (by omega) (by omega) r3
      exact ⟨len2, w2, d2, qu2, d2', qu2', s1, s2, s3, by omega⟩
theorem hang_p (h : FW n p row size pl st) (hyr : ∀ i, i < n → yrow i = nI (p i)) (hE : MK eaten yea) (hC : MK closed ysh) (hG : GP n p st eaten closed ga)
    (k25 : (Nat → Int32) → (Nat → Int32) → Int32 → Int32 → Int32 → Option (Int32 × (Nat → Int32) × (Nat → Int32) × Int32)) (x1 x2 : Int32) {o : Nat} :
    ∀ N M i len w (d qu d' qu' : Nat → Int32), o ≤ i → i ≤ len → 37 ≤ i + N → 37 ≤ i + M → PI o len w d qu d' qu' →
    ∃ len1 w1 d1 qu1 d1' qu1', fX8_hangTogether_14 ga N d qu (nI len) (nI i) = some (d1, qu1, nI len1) ∧
      fX10_parts_56 k25 yrow (nI n) yea ysh M d' qu' (nI (len - o)) x1 x2 (nI (i - o)) = fX10_parts_125 k25 d1' qu1' (nI (len1 - o)) x1 x2 ∧ PI o len1 w1 d1 qu1 d1' qu1' ∧ len ≤ len1 := by
  intro N
  induction N with
  | zero => intro M i len w d qu d' qu' h0 h1 h2 h3 hP; have := hP.le; omega
  | succ N ih =>
    intro M i len w d qu d' qu' h0 h1 h2 h3 hP
    have h36 := hP.le
    obtain ⟨M, rfl⟩ : ∃ m, M = m + 1 := ⟨M - 1, by omega⟩
    rw [fX8_hangTogether_14, fX10_parts_56]
    by_cases z : i = len
    · subst z
      rw [if_pos (nleT (Nat.le_refl _) (by omega)), if_pos (nleT (Nat.le_refl _) (by omega))]
      exact ⟨i, w, d, qu, d', qu', rfl, rfl, hP, Nat.le_refl _⟩
    · rw [if_neg (nleF (by omega) (by omega)), if_neg (nleF (by omega) (by omega)), if_neg (litF (c := 72) (C := 72) rfl (by omega) (by decide))]
      obtain ⟨len1, w1, d1, qu1, d1', qu1', s1, s2, s3, s4⟩ := sides_p h hyr hE hC hG (fX8_hangTogether_14 ga N) k25 (fX10_parts_56 k25 yrow (nI n) yea ysh M) x1 x2 h0 4000 4000 0 len w d qu d' qu' (by decide) (by decide) (by decide) (by omega) hP
      rw [nI_z] at s1 s2
      rw [s1, s2]
      obtain ⟨len2, w2, d2, qu2, d2', qu2', t1, t2, t3, t4⟩ := ih M (i + 1) len1 w1 d1 qu1 d1' qu1' (by omega) (by omega) (by omega) (by omega) s3
      exact ⟨len2, w2, d2, qu2, d2', qu2', t1, t2, t3, by omega⟩
theorem PI.re {o len : Nat} {w : Nat → Nat} {d qu d' qu' : Nat → Int32} (h : PI o len w d qu d' qu') : PI len len w d qu d' qu' := ⟨Nat.le_refl _, h.2.1, h.2.2.1, h.2.2.2.1, fun j h1 h2 => by omega⟩
theorem count_p (h : FW n p row size pl st) (hyr : ∀ i, i < n → yrow i = nI (p i)) (hE : MK eaten yea) (hC : MK closed ysh) (hG : GP n p st eaten closed ga) :
    ∀ N M c q o len w (d qu d' qu' : Nat → Int32), q ≤ 36 → 37 ≤ q + N → 37 ≤ q + M → PI o len w d qu d' qu' →
    ∀ l' : Int32, ∃ ret d1 qu1 l1 d1' qu1' l1', fX8_countParts_8 ga N d qu (nI len) (nI c) (nI q) = some (ret, d1, qu1, l1) ∧ fX10_parts_25 yrow (nI n) yea ysh M d' qu' l' (nI c) (nI q) = some (ret, d1', qu1', l1') := by
  intro N
  induction N with
  | zero => intro M c q o len w d qu d' qu' h1 h2; omega
  | succ N ih =>
    intro M c q o len w d qu d' qu' h1 h2 h3 hP l'
    obtain ⟨M, rfl⟩ : ∃ m, M = m + 1 := ⟨M - 1, by omega⟩
    rw [fX8_countParts_8, fX10_parts_25]
    unfold fX8_countParts_32
    by_cases z : q = 36
    · subst z
      rw [if_pos (show (36 : Int32) ≤ nI 36 by decide), if_pos (show (36 : Int32) ≤ nI 36 by decide)]
      exact ⟨_, _, _, _, _, _, _, rfl, rfl⟩
    have hq : q < 36 := by omega
    rw [if_neg (litF (c := 36) (C := 36) rfl hq (by decide)), if_neg (litF (c := 36) (C := 36) rfl hq (by decide)), if_pos (inb_n (by omega) (by decide)), if_pos (inb_n (by omega) (by decide)), cl_n (by omega)]
    by_cases g : 0 ≤ d q
    · rw [if_pos g, if_pos ((hP.2.2.2.1 q hq).mp g)]
      unfold fX10_parts_125
      rw [nI_1]
      exact ih M c (q + 1) o len w d qu d' qu' (by omega) (by omega) (by omega) hP l'
    · rw [if_neg g, if_neg (fun y => g ((hP.2.2.2.1 q hq).mpr y))]
      unfold fX8_hangTogether
      have hP2 := hP.re
      obtain ⟨len1, w1, d1, qu1, d1', qu1', r1, r2, r3, r4, r5⟩ := reach_p hP2 hq
      rw [show len - len = 0 by omega, nI_z] at r2
      rw [r1, o3, r2, o3]
      obtain ⟨len2, w2, d2, qu2, d2', qu2', t1, t2, t3, t4⟩ := hang_p h hyr hE hC hG (fX10_parts_25 yrow (nI n) yea ysh M) (nI (c + 1)) (nI q) 4000 4000 len len1 w1 d1 qu1 d1' qu1' (Nat.le_refl _) r4 (by have := r3.le; omega) (by omega) r3
      rw [show len - len = 0 by omega, nI_z] at t2
      rw [t1, o3, nI_1 c, t2]
      unfold fX10_parts_125
      rw [nI_1]
      exact ih M (c + 1) (q + 1) len len2 w2 d2 qu2 d2' qu2' (by omega) (by omega) (by omega) t3 _
theorem parts2_l (h : FW n p row size pl st) (hyr : ∀ i, i < n → yrow i = nI (p i)) (hE : MK eaten yea) (hC : MK closed ysh) (hG : GP n p st eaten closed ga) (d qu : Nat → Int32) (hd : ∀ i, i < 72 → d i = -4) :
    ∀ N k (d' qu' : Nat → Int32) (l' : Int32), k ≤ 72 → 73 ≤ k + N → (∀ i, i < k → d' i = -1) →
    ∃ ret d1 qu1 l1 d1' qu1' l1', fX8_countParts_8 ga 4000 d qu 0 0 0 = some (ret, d1, qu1, l1) ∧ fX10_parts_2 yrow (nI n) yea ysh N d' qu' l' (nI k) = some (ret, d1', qu1', l1') := by
  intro N
  induction N with
  | zero => intro k d' qu' l' h1 h2; omega
  | succ N ih =>
    intro k d' qu' l' h1 h2 h3
    rw [fX10_parts_2]
    by_cases z : k = 72
    · subst z
      rw [if_pos (show (72 : Int32) ≤ nI 72 by decide)]
      have hP : PI 0 0 (fun _ => 0) d qu d' qu' := ⟨Nat.le_refl _, fun j hj => absurd hj (by omega), fun i j hi => absurd hi (by omega), fun x hx => by
        rw [hd x (by omega), h3 x (by omega)]
        decide, fun j _ hj => absurd hj (by omega)⟩
      have := count_p h hyr hE hC hG 4000 4000 0 0 0 0 (fun _ => 0) d qu d' qu' (by decide) (by decide) (by decide) hP l'
      rw [nI_z] at this
      exact this
    · rw [if_neg (litF (c := 72) (C := 72) rfl (by omega) (by decide)), if_pos (inb_n (by omega) (by decide)), cl_n (by omega), nI_1]
      refine ih (k + 1) _ qu' l' (by omega) (by omega) (fun i hi => ?_)
      by_cases y : i = k
      · subst y; exact upd_s _ _ _
      · rw [upd_n _ _ y]; exact h3 i (by omega)
end Parts
theorem step_parts : STEP_parts R1d := by
  intro ea cl ga sw mo mi dr sG sC sN sz pl st row wl wf wq ys yse yl yrow yea ysh yst yset ysp ysg yf yq ⟨n, p, mo', mi', dr', k, hF, ⟨hys, hyr⟩, ⟨hE, h10⟩, hC, hG, hrest⟩
  subst hys
  obtain ⟨d1, e1, hd1⟩ := forget_v wf wl
  obtain ⟨ret, a1, a2, a3, b1, b2, b3, c1, c2⟩ := parts2_l hF hyr hE hC hG d1 wq hd1 4000 0 yf yq yl (by decide) (by decide) (fun i hi => absurd hi (by omega))
  rw [nI_z] at c2
  unfold fX9_parts fX8_countParts fX10_parts
  rw [e1, o2, c1, o4, c2]
  exact ⟨_, _, _, _, _, _, _, rfl, rfl⟩
