-- THE TAPE read; STEP of furrow
def nbf (ch : Nat → Nat) : Nat → Nat → Nat
  | 0, k => k
  | m + 1, k => if ch k = 32 then nbf ch m (k + 1) else k
def nb (ch : Nat → Nat) (n k : Nat) : Nat := nbf ch (n - k) k
theorem nb_n (ch : Nat → Nat) (n : Nat) : nb ch n n = n := by unfold nb; rw [Nat.sub_self]; rfl
theorem nb_s (ch : Nat → Nat) {n k : Nat} (h : k < n) : nb ch n k = if ch k = 32 then nb ch n (k + 1) else k := by
  unfold nb
  rw [show n - k = (n - (k + 1)) + 1 by omega]; rfl
theorem nb_le (ch : Nat → Nat) {n : Nat} : ∀ m k, k ≤ n → n ≤ k + m → k ≤ nb ch n k ∧ nb ch n k ≤ n ∧ (nb ch n k < n → ch (nb ch n k) ≠ 32) := by
  intro m
  induction m with
  | zero =>
    intro k h1 h2
    have : k = n := by omega
    subst this
    rw [nb_n]
    exact ⟨Nat.le_refl _, Nat.le_refl _, fun h => by omega⟩
  | succ m ih =>
    intro k h1 h2
    by_cases z : k = n
    · subst z
      rw [nb_n]
      exact ⟨Nat.le_refl _, Nat.le_refl _, fun h => by omega⟩
    · rw [nb_s ch (by omega)]
      by_cases y : ch k = 32
      · rw [if_pos y]
        have := ih (k + 1) (by omega) (by omega)
        exact ⟨by omega, this.2⟩
      · rw [if_neg y]
        exact ⟨Nat.le_refl _, h1, fun _ => y⟩
theorem nb_le' (ch : Nat → Nat) {n k : Nat} (h : k ≤ n) : k ≤ nb ch n k ∧ nb ch n k ≤ n ∧ (nb ch n k < n → ch (nb ch n k) ≠ 32) := nb_le ch n k h (by omega)
theorem nb_i (ch : Nat → Nat) {n k : Nat} (h : k ≤ n) : nb ch n (nb ch n k) = nb ch n k := by
  obtain ⟨h1, h2, h3⟩ := nb_le' ch h
  by_cases z : nb ch n k < n
  · rw [nb_s ch z, if_neg (h3 z)]
  · rw [show nb ch n k = n by omega, nb_n]
def TX (n : Nat) (ch : Nat → Nat) (typed ytape : Nat → Int32) : Prop := n ≤ 80 ∧ ∀ i, i < n → typed i = nI (ch i) ∧ ytape i = nI (ch i) ∧ 32 ≤ ch i ∧ ch i < 127
theorem TX_of {typed ytape : Nat → Int32} {size ytaped : Int32} (h : R3d typed size ytape ytaped) : ∃ n ch, TX n ch typed ytape ∧ size = nI n ∧ ytaped = nI n := by
  obtain ⟨n, h1, h2, h3, h4⟩ := h
  refine ⟨n, fun i => (typed i).toNatClampNeg, ⟨h1, fun i hi => ?_⟩, h2, h3⟩
  obtain ⟨e1, b, b1, b2, e2⟩ := h4 i hi
  have : (typed i).toNatClampNeg = b := by rw [e2, cl_n (by omega)]
  show typed i = nI (typed i).toNatClampNeg ∧ ytape i = nI (typed i).toNatClampNeg ∧ 32 ≤ (typed i).toNatClampNeg ∧ (typed i).toNatClampNeg < 127
  rw [this]
  exact ⟨e2, by rw [← e1]; exact e2, b1, by omega⟩
def sl (c : Nat) : Option Nat := if c = 117 then some 0 else if c = 108 then some 1 else if c = 114 then some 2 else if c = 100 then some 3 else none
theorem sl_lt {c s : Nat} (h : sl c = some s) : s < 4 := by
  unfold sl at h
  split at h
  · cases h; decide
  split at h
  · cases h; decide
  split at h
  · cases h; decide
  split at h
  · cases h; decide
  · cases h
theorem tb_sl : ∀ c, c < 127 → fX3_sideOfLetter (nI c) = some (oC (sl c)) := by decide +kernel
theorem tb_dg : ∀ c, c < 127 → (nI c - (48 : Int32) < 0 ↔ c < 48) ∧ (nI c - (48 : Int32) < 6 ↔ c < 54) ∧ ir (nI c - (48 : Int32)) 6 = decide (48 ≤ c ∧ c < 54) ∧ (48 ≤ c → nI c - (48 : Int32) = nI (c - 48)) := by decide +kernel
section Tape
variable {n : Nat} {ch : Nat → Nat} {typed ytape : Nat → Int32}
theorem adv_l (h : TX n ch typed ytape) : ∀ N k (P : Int32), P + 1 = nI k → k ≤ n → n + 1 ≤ k + N → fX6_advance_0 typed (nI n) N P = some (nI (nb ch n k)) := by
  intro N
  induction N with
  | zero => intro k P _ h1 h2; omega
  | succ N ih =>
    intro k P hP h1 h2
    have h80 := h.1
    rw [fX6_advance_0, hP, lets_eq]
    by_cases z : k = n
    · subst z
      rw [if_pos (nleT (Nat.le_refl _) (by omega)), nb_n]
    · rw [if_neg (nleF (by omega) (by omega)), if_pos (inb_n (by omega) (by decide)), cl_n (by omega), (h.2 k (by omega)).1, nb_s ch (by omega)]
      have := (h.2 k (by omega)).2.2.2
      by_cases y : ch k = 32
      · rw [if_pos (by rw [y]; rfl), if_pos y]
        exact ih (k + 1) (nI k) (nI_1 k) (by omega) (by omega)
      · rw [if_neg (eqF (c := 32) (C := 32) rfl y (by omega) (by decide)), if_neg y]
theorem adv_v (h : TX n ch typed ytape) {P : Nat} (hP : P < n) : fX6_advance typed (nI n) (nI P) = some (nI (nb ch n (P + 1))) := by
  unfold fX6_advance
  have := h.1
  exact adv_l h 4000 (P + 1) (nI P) (nI_1 P) (by omega) (by omega)
theorem byte_l (h : TX n ch typed ytape) : ∀ N k, k ≤ n → n + 1 ≤ k + N → fX10_nextByte_0 ytape (nI n) N (nI k) = some (if nb ch n k < n then nI (ch (nb ch n k)) else -1, nI (nb ch n k)) := by
  intro N
  induction N with
  | zero => intro k h1 h2; omega
  | succ N ih =>
    intro k h1 h2
    have h80 := h.1
    rw [fX10_nextByte_0]
    unfold fX10_nextByte_38
    by_cases z : k = n
    · subst z
      rw [if_pos (nleT (Nat.le_refl _) (by omega)), if_pos (nleT (Nat.le_refl _) (by omega)), nb_n, if_neg (by omega)]
    · have hk := h.2 k (by omega)
      have hlt := hk.2.2.2
      rw [if_neg (nleF (by omega) (by omega)), if_pos (inb_n (by omega) (by decide)), cl_n (by omega), hk.2.1, nb_s ch (by omega), if_neg (nleF (by omega) (by omega)), if_pos (inb_n (by omega) (by decide)), nI_1, lets_eq]
      by_cases y : ch k = 32
      · rw [if_pos (show nI (ch k) = 32 by rw [y]; rfl), if_pos y]
        exact ih (k + 1) (by omega) (by omega)
      · rw [if_neg (eqF (c := 32) (C := 32) rfl y (by omega) (by decide)), if_neg y, if_pos (show k < n by omega)]
theorem byte_v (h : TX n ch typed ytape) {k : Nat} (hk : k ≤ n) : fX10_nextByte ytape (nI n) (nI k) = some (if nb ch n k < n then nI (ch (nb ch n k)) else -1, nI (nb ch n k)) := by
  unfold fX10_nextByte
  have := h.1
  exact byte_l h 4000 k hk (by omega)
theorem letter_v (h : TX n ch typed ytape) {P : Nat} (hP : P ≤ n) : fX6_letter typed (nI n) (nI P) = some (if P < n then nI (ch P) else 32) := by
  unfold fX6_letter
  have := h.1
  by_cases z : P < n
  · rw [if_neg (nleF z (by omega)), if_pos (inb_n (by omega) (by decide)), cl_n (by omega), (h.2 P z).1, if_pos z]
  · rw [if_pos (nleT (by omega) (by omega)), if_neg z]
theorem side_v (h : TX n ch typed ytape) {k : Nat} (hk : k ≤ n) : fX10_sideHere ytape (nI n) (nI k) = some (oM (if nb ch n k < n then sl (ch (nb ch n k)) else none), nI (nb ch n k)) := by
  unfold fX10_sideHere
  rw [byte_v h hk, o2]
  by_cases z : nb ch n k < n
  · have hlt := (h.2 _ z).2.2.2
    rw [if_pos z, if_pos z]
    unfold sl
    by_cases y1 : ch (nb ch n k) = 117
    · rw [if_pos (by rw [y1]; rfl), if_pos y1]; rfl
    rw [if_neg (eqF (c := 117) (C := 117) rfl y1 (by omega) (by decide)), if_neg y1]
    by_cases y2 : ch (nb ch n k) = 108
    · rw [if_pos (by rw [y2]; rfl), if_pos y2]; rfl
    rw [if_neg (eqF (c := 108) (C := 108) rfl y2 (by omega) (by decide)), if_neg y2]
    by_cases y3 : ch (nb ch n k) = 114
    · rw [if_pos (by rw [y3]; rfl), if_pos y3]; rfl
    rw [if_neg (eqF (c := 114) (C := 114) rfl y3 (by omega) (by decide)), if_neg y3]
    by_cases y4 : ch (nb ch n k) = 100
    · rw [if_pos (by rw [y4]; rfl), if_pos y4]; rfl
    rw [if_neg (eqF (c := 100) (C := 100) rfl y4 (by omega) (by decide)), if_neg y4]; rfl
  · rw [if_neg z, if_neg z, if_neg (by decide), if_neg (by decide), if_neg (by decide), if_neg (by decide)]; rfl
theorem sideC_v {P : Nat} (h : TX n ch typed ytape) (hP : P ≤ n) : fX3_sideOfLetter (if P < n then nI (ch P) else 32) = some (oC (if P < n then sl (ch P) else none)) := by
  by_cases z : P < n
  · rw [if_pos z, if_pos z, tb_sl _ (h.2 P z).2.2.2]
  · rw [if_neg z, if_neg z]; decide
theorem digit_v (h : TX n ch typed ytape) {k : Nat} (hk : k ≤ n) :
    (∃ d k', d < 6 ∧ k' ≤ n ∧ fX6_readDigit typed (nI n) (nI (nb ch n k)) = some (nI d, nI (nb ch n k')) ∧ fX10_readDigit ytape (nI n) (nI k) = some (nI d, nI k')) ∨
    (fX6_readDigit typed (nI n) (nI (nb ch n k)) = some (-4, nI (nb ch n k)) ∧ fX10_readDigit ytape (nI n) (nI k) = some (-1, nI (nb ch n k))) := by
  unfold fX6_readDigit fX10_readDigit
  obtain ⟨h1, h2, h3⟩ := nb_le' ch hk
  have hin : ∀ a : Int32, fX10_in a.toInt64 0 5 = some (bI (ir a 6)) := fun a => X10_in0 a 5 5 (by decide) (by decide)
  have h80 := h.1
  rw [letter_v h h2, o1, byte_v h hk, o2, lets_eq, lets_eq, hin, o1]
  by_cases z : nb ch n k < n
  · rw [if_pos z, if_pos z]
    obtain ⟨g1, g2, g3, g4⟩ := tb_dg _ (h.2 _ z).2.2.2
    rw [g3]
    by_cases y : 48 ≤ ch (nb ch n k) ∧ ch (nb ch n k) < 54
    · refine Or.inl ⟨ch (nb ch n k) - 48, nb ch n k + 1, by omega, by omega, ?_, ?_⟩
      · rw [if_neg (fun x => by have := g1.mp x; omega), if_pos (g2.mpr y.2), adv_v h z, o1, g4 y.1]
      · rw [decide_eq_true y, if_neg (show ¬ bI true = 0 by decide), lets_eq, nI_1, g4 y.1]
    · refine Or.inr ⟨?_, ?_⟩
      · by_cases x : nI (ch (nb ch n k)) - (48 : Int32) < 0
        · rw [if_pos x]
        · rw [if_neg x, if_neg (fun w => y ⟨Classical.byContradiction fun v => x (g1.mpr (by omega)), g2.mp w⟩)]
      · rw [decide_eq_false y, if_pos (show bI false = 0 by decide)]
  · rw [if_neg z, if_neg z]
    refine Or.inr ⟨?_, ?_⟩
    · rw [if_pos (show (32 : Int32) - 48 < 0 by decide)]
    · rw [if_pos (show bI (ir (-1 - 48) 6) = 0 by decide)]
theorem square_v (h : TX n ch typed ytape) {k : Nat} (hk : k ≤ n) :
    (∃ q k', q < 36 ∧ k' ≤ n ∧ fX6_readSquare typed (nI n) (nI (nb ch n k)) = some (nI q, nI (nb ch n k')) ∧ fX10_readSquare ytape (nI n) (nI k) = some (nI q, nI k')) ∨
    ∃ P, P ≤ n ∧ nb ch n P = P ∧ fX6_readSquare typed (nI n) (nI (nb ch n k)) = some (-4, nI P) ∧ fX10_readSquare ytape (nI n) (nI k) = some (-1, nI P) := by
  unfold fX6_readSquare fX10_readSquare fX10_readSquare_17
  rcases digit_v h hk with ⟨d, k1, hd, hk1, e1, e2⟩ | ⟨e1, e2⟩
  · rw [e1, o2, e2, o2, if_pos (nI_pos' (by omega)), if_pos (nI_pos' (by omega))]
    rcases digit_v h hk1 with ⟨d2, k2, hd2, hk2, e3, e4⟩ | ⟨e3, e4⟩
    · refine Or.inl ⟨6 * d + d2, k2, by omega, hk2, ?_, ?_⟩
      · rw [e3, o2, if_pos (nI_pos' (by omega)), show nI d * (6 : Int32) + nI d2 = nI (6 * d + d2) from by show nI d * nI 6 + nI d2 = _; rw [pk_mul, nI_add]; congr 1; omega]
      · rw [e4, o2, if_pos (nI_pos' (by omega)), show (6 : Int32) * nI d + nI d2 = nI (6 * d + d2) from by show nI 6 * nI d + nI d2 = _; rw [pk_mul, nI_add]]
    · refine Or.inr ⟨nb ch n k1, (nb_le' ch hk1).2.1, nb_i ch hk1, ?_, ?_⟩
      · rw [e3, o2, if_neg (by decide)]
      · rw [e4, o2, if_neg (by decide)]
  · refine Or.inr ⟨nb ch n k, (nb_le' ch hk).2.1, nb_i ch hk, ?_, ?_⟩
    · rw [e1, o2, if_neg (by decide)]
    · rw [e2, o2, if_neg (by decide), if_neg (by decide)]
theorem isRead_l {i : Nat} {p : Nat → Nat} {read : Nat → Int32} {q : Nat} (hi : i ≤ 36) (hq : q < 36) (hr : ∀ j, j < i → p j < 36 ∧ read j = nI (p j)) : ∀ N k (b : Bool), k ≤ i → i + 1 ≤ k + N → (b = true ↔ ∃ j, j < k ∧ p j = q) → ∃ b' : Bool, fX10_isRead_4 (nI i) read N (nI q) (bI b) (nI k) = some (bI b') ∧ (b' = true ↔ ∃ j, j < i ∧ p j = q) := by
  intro N
  induction N with
  | zero => intro k b h1 h2; omega
  | succ N ih =>
    intro k b h1 h2 hb
    rw [fX10_isRead_4]
    by_cases z : k = i
    · subst z
      rw [if_pos (nleT (Nat.le_refl _) (by omega)), if_pos (isB_bI b)]
      exact ⟨b, rfl, hb⟩
    · rw [if_neg (nleF (by omega) (by omega))]
      unfold fX10_isRead_26 fX10_isRead_31
      rw [nI_1]
      have hk := hr k (by omega)
      have hA : k + 1 ≤ i := by omega
      have hB : i + 1 ≤ k + 1 + N := by omega
      cases b with
      | true =>
        rw [if_neg (show ¬ bI true = 0 by decide), ← bI_t]
        refine ih (k + 1) true hA hB ⟨fun _ => ?_, fun _ => rfl⟩
        obtain ⟨j, hj, e⟩ := hb.mp rfl
        exact ⟨j, by omega, e⟩
      | false =>
        have hno : ∀ j, j < k → p j ≠ q := fun j hj e => by have := hb.mpr ⟨j, hj, e⟩; cases this
        rw [if_pos (show bI false = 0 by decide), if_pos (inb_n (by omega) (by decide)), cl_n (by omega), hk.2]
        by_cases y : p k = q
        · rw [if_pos (by rw [y]), ← bI_t]
          exact ih (k + 1) true hA hB ⟨fun _ => ⟨k, by omega, y⟩, fun _ => rfl⟩
        · rw [if_neg (fun x => y ((nI_eq (by omega) (by omega)).mp x)), ← bI_f]
          refine ih (k + 1) false hA hB ⟨fun x => by (cases x), fun ⟨j, hj, e⟩ => ?_⟩
          exfalso
          by_cases x : j = k
          · subst x; exact y e
          · exact hno j (by omega) e
theorem isRead_v {i : Nat} {p : Nat → Nat} {read : Nat → Int32} {q : Nat} (hi : i ≤ 36) (hq : q < 36) (hr : ∀ j, j < i → p j < 36 ∧ read j = nI (p j)) : ∃ b' : Bool, fX10_isRead (nI i) read (nI q) = some (bI b') ∧ (b' = true ↔ ∃ j, j < i ∧ p j = q) := by
  unfold fX10_isRead
  exact isRead_l hi hq hr 4000 0 false (Nat.zero_le _) (by omega) ⟨fun x => by (cases x), fun ⟨j, hj, _⟩ => by omega⟩
theorem furrow_l (h : TX n ch typed ytape) : ∀ N M k j (p : Nat → Nat) (drow : Nat → Int32) (dpl dst : Int64) (read : Nat → Int32), k ≤ n → n + 1 ≤ k + N → n + 1 ≤ k + M → FW (j + 1) p drow (nI (j + 1)) dpl dst → (∀ m, m < j + 1 → p m < 36 ∧ read m = nI (p m)) →
    (∃ P r s l t read' i', P ≤ n ∧ fX6_readFurrow_22 typed (nI n) N (nI (nb ch n k)) drow (nI (j + 1)) dpl dst (nI j) = some (-20 - nI P, nI P, r, s, l, t) ∧ fX10_readFurrow_36 ytape (nI n) M (nI k) (nI (j + 1)) read = some (0, nI P, i', read')) ∨
    ∃ P i' p' r l t read', P ≤ n ∧ i' ≤ 36 ∧ FW i' p' r (nI i') l t ∧ (∀ j, j < i' → read' j = nI (p' j)) ∧ fX6_readFurrow_22 typed (nI n) N (nI (nb ch n k)) drow (nI (j + 1)) dpl dst (nI j) = some (nI i', nI P, r, nI i', l, t) ∧ fX10_readFurrow_36 ytape (nI n) M (nI k) (nI (j + 1)) read = some (1, nI P, nI i', read') := by
  intro N
  induction N with
  | zero => intro M k j p drow dpl dst read h1 h2; omega
  | succ N ih =>
    intro M k j p drow dpl dst read h1 h2 h3 hF hr
    obtain ⟨M, rfl⟩ : ∃ m, M = m + 1 := ⟨M - 1, by omega⟩
    have h80 := h.1
    have h36 := hF.1
    obtain ⟨b1, b2, b3⟩ := nb_le' ch h1
    rw [fX6_readFurrow_22, fX10_readFurrow_36, side_v h h1, o2, if_neg (show ¬ (36 : Int32) ≤ nI j from litF (c := 36) (C := 36) rfl (by omega) (by decide))]
    by_cases z : nb ch n k < n
    rotate_left
    · have hPn : nb ch n k = n := by omega
      rw [if_pos (nleT (by omega) (by omega)), if_neg z, if_pos (by decide), byte_v h b2, nb_i ch h1, o2, if_neg z, if_neg (by decide)]
      exact Or.inr ⟨nb ch n k, j + 1, p, drow, dpl, dst, read, b2, h36, hF, fun m hm => (hr m hm).2, rfl, rfl⟩
    rw [if_neg (nleF z (by omega)), letter_v h b2, o1, sideC_v h b2, o1, if_pos z]
    have hlast := hF.2.2.1 j (by omega)
    have hls : fX2_lastSquare drow (nI (j + 1)) = some (nI (p j)) := by
      unfold fX2_lastSquare fX2_squareAt
      rw [m1, if_neg (nI_pos (by omega)), if_neg (nleF (by omega) (by omega)), if_pos (inb_n (by omega) (by decide)), cl_n (by omega), hlast.2, o1]
    rw [hls, o1]
    cases hsl : sl (ch (nb ch n k)) with
    | none =>
      have hc32 := (h.2 _ z).2.2
      rw [show oC none = -4 from rfl, tb_next4 _ hlast.1, o1, add_no hF (fun ⟨q, e, hc⟩ => by
        have := hc.1
        have h4 : (-4 : Int32) < 0 := by decide
        rw [e] at h4
        exact nI_pos (by omega) h4), o5, if_pos rfl, show oM none = -1 from rfl, if_pos (by decide), byte_v h b2, nb_i ch h1, o2, if_pos z, if_pos (nI_pos' (by omega))]
      exact Or.inl ⟨_, _, _, _, _, _, _, b2, rfl, rfl⟩
    | some s =>
      have hs := sl_lt hsl
      have hle := tb_n1 _ hlast.1 s hs
      rw [show oC (some s) = nI s from rfl, show oM (some s) = nI s from rfl, tb_next _ hlast.1 s hs, o1, if_neg (nI_pos (by omega)), m1, if_pos (inb_n (by omega) (by decide)), side_v h b2, nb_i ch h1, o2, if_pos z, hsl, cl_n (by omega), (hr j (by omega)).2, show oM (some s) = nI s from rfl, tb_nextTo _ hlast.1 s hs, o1]
      by_cases hn : nx (p j) s = 36
      · rw [if_pos hn, if_pos hn, add_no hF (fun ⟨q, e, hc⟩ => by
          have := hc.1
          have h4 : (-4 : Int32) < 0 := by decide
          rw [e] at h4
          exact nI_pos (by omega) h4), o5, if_pos rfl, if_pos (by decide)]
        exact Or.inl ⟨_, _, _, _, _, _, _, b2, rfl, rfl⟩
      · have hq : nx (p j) s < 36 := by omega
        obtain ⟨b', e1, e2⟩ := isRead_v h36 hq hr
        obtain ⟨n1, -⟩ := tb_n3 _ hlast.1 s hs hn
        obtain ⟨n2, -⟩ := tb_n2 _ hlast.1 s hs hn
        rw [if_neg hn, if_neg hn, if_neg (nI_pos (by omega)), e1, o1]
        cases hb : b' with
        | true =>
          rw [hb] at e2
          obtain ⟨m, hm, em⟩ := e2.mp rfl
          rw [add_no hF (fun ⟨q, e, hc⟩ => by
            have h1' := hc.1
            rw [nI_eq (by omega) (by omega)] at e
            exact hc.2.1 m hm (em.trans e)), o5, if_pos rfl, if_neg (show ¬ bI true = 0 by decide)]
          exact Or.inl ⟨_, _, _, _, _, _, _, b2, rfl, rfl⟩
        | false =>
          rw [hb] at e2
          have hno : ∀ m, m < j + 1 → p m ≠ nx (p j) s := fun m hm e => by have := e2.mpr ⟨m, hm, e⟩; cases this
          have hc : canAdd (j + 1) p (nx (p j) s) := ⟨hq, hno, Or.inr (by rw [show j + 1 - 1 = j from rfl, n1]; omega)⟩
          have hroom := hF.room hq hno
          rw [add_yes hF hc, o5, if_neg (show ¬ (1 : Int32) = 0 by decide), adv_v h z, o1, if_pos (show bI false = 0 by decide), if_pos (inb_n hroom (by decide)), lets_eq, lets_eq, cl_n (by omega), nI_1, nI_1, nI_1]
          refine ih M (nb ch n k + 1) (j + 1) _ _ _ _ _ (by omega) (by omega) (by omega) (hF.add hc) (fun m hm => ?_)
          by_cases y : m = j + 1
          · subst y; rw [upd_s]; simp only [if_true]; exact ⟨hq, trivial⟩
          · simp only [y, if_false]; rw [upd_n _ _ y]; exact hr m (by omega)
theorem furrow32 {i : Nat} {p : Nat → Nat} {read : Nat → Int32} (t pl r : Int32) (hi : i ≤ 36) (hr : ∀ j, j < i → read j = nI (p j)) : ∀ N k (yrow : Nat → Int32), k ≤ i → i + 1 ≤ k + N → (∀ j, j < k → yrow j = nI (p j)) → ∃ yr', fX10_furrow_32 N yrow (nI i) t pl r read (nI k) = some (nI i, yr', nI i, t, pl, r, read) ∧ ∀ j, j < i → yr' j = nI (p j) := by
  intro N
  induction N with
  | zero => intro k yrow h1 h2; omega
  | succ N ih =>
    intro k yrow h1 h2 h3
    rw [fX10_furrow_32]
    by_cases z : k = i
    · subst z
      rw [if_pos (nleT (Nat.le_refl _) (by omega))]
      exact ⟨_, rfl, h3⟩
    · rw [if_neg (nleF (by omega) (by omega)), if_pos (inb_n (by omega) (by decide)), lets_eq, if_pos (inb_n (by omega) (by decide)), cl_n (by omega), nI_1]
      refine ih (k + 1) _ (by omega) (by omega) (fun j hj => ?_)
      by_cases y : j = k
      · subst y; rw [upd_s]; exact hr j (by omega)
      · rw [upd_n _ _ y]; exact h3 j (by omega)
end Tape
theorem fault_neg {P : Nat} (h : P ≤ 80) : (-20 : Int32) - nI P < 0 := by
  have : ∀ P, P < 81 → (-20 : Int32) - nI P < 0 := by decide +kernel
  exact this P (by omega)
theorem take_v {n : Nat} {ch : Nat → Nat} {typed ytape : Nat → Int32} (h : TX n ch typed ytape) (l pl : Int32) : fX6_takeText typed (nI n) l pl = some (0, nI n, nI (nb ch n 0)) := by
  unfold fX6_takeText fX6_advance
  have := h.1
  rw [adv_l h 4000 0 (-1) (by decide) (Nat.zero_le _) (by omega), o1]
theorem R3_z (typed ytape : Nat → Int32) : R3d typed 0 ytape 0 := ⟨0, by decide, rfl, rfl, fun i hi => absurd hi (by omega)⟩
theorem step_furrow : STEP_furrow R1d R3d := by
  intro ea cl ga sw mo mi dr sG sC sN sz pl st row ts tl tp typed dsz dpl dst drow ys yse yt yp yr yrow yea ysh yst yset ysp ysg ytape yread hR h3
  obtain ⟨n, ch, hT, rfl, rfl⟩ := TX_of h3
  have h80 := hT.1
  have hR' := hR
  obtain ⟨m, p, mo', mi', dr', k, hF, ⟨hys, hyr⟩, hE, hC, hG, hrest⟩ := hR
  unfold fX9_furrow fX10_furrow fX6_readFurrow fX10_readFurrow fX2_clear
  rw [take_v hT, o3, o3]
  have hz : FW 0 (fun _ => 0) drow 0 0 0 := FW_z drow
  rcases square_v hT (Nat.zero_le n) with ⟨q, k', hq, hk', e1, e2⟩ | ⟨P, hP, -, e1, e2⟩
  · rw [nI_z] at e2
    have hc : canAdd 0 (fun _ => 0) q := ⟨hq, fun i hi => absurd hi (by omega), Or.inl rfl⟩
    rw [e1, o2, add_yes hz hc, o5, if_neg (show ¬ (1 : Int32) = 0 by decide), e2, o2, show (0 : Int32).toNatClampNeg = 0 from rfl, upd_s, if_pos (nI_pos' (by omega))]
    rcases furrow_l hT 4000 4000 k' 0 _ _ _ _ (upd yread 0 (nI q)) hk' (by omega) (by omega) (hz.add hc) (fun j hj => by
      have : j = 0 := by omega
      subst this
      rw [upd_s]; simp only [if_true]; exact ⟨hq, trivial⟩) with ⟨P, r, s, l, t, read', i', hP, c1, c2⟩ | ⟨P, i', p', r, l, t, read', hP, hi', hF', hr', c1, c2⟩
    · rw [nI_z] at c1
      rw [c1, show (1 : Int32) = nI (0 + 1) from rfl, c2, o6, o4, if_pos (fault_neg (by omega)), if_pos rfl]
      exact ⟨_, _, _, _, _, _, _, _, _, _, _, _, _, _, _, _, _, _, _, rfl, rfl, hR', R3_z _ _⟩
    · have hF2 : FW i' p' (va_cpy r row (0 : Int32).toNatClampNeg (0 : Int32).toNatClampNeg (36 : Int32).toNatClampNeg) (nI i') l t := hF'.congr (fun i hi => cpy36 _ _ hi)
      obtain ⟨g', r1, hG'⟩ := refresh_v hF2 ea cl ga
      obtain ⟨yr', r2, r3⟩ := furrow32 (p := p') 0 (nI P) (nI i') hi' hr' 4000 0 yrow (Nat.zero_le _) (by omega) (fun j hj => absurd hj (by omega))
      rw [nI_z] at r2 c1
      rw [c1, show (1 : Int32) = nI (0 + 1) from rfl, c2, o6, o4, if_neg (nI_pos (by omega)), if_neg (show ¬ (1 : Int32) = 0 by decide), r2]
      unfold fX2_copy
      rw [o4, r1, o1]
      exact ⟨_, _, _, _, _, _, _, _, _, _, _, _, _, _, _, _, _, _, _, rfl, rfl, ⟨i', p', mo', mi', dr', k, hF2, ⟨rfl, r3⟩, hE, hC, hG', hrest⟩, R3_z _ _⟩
  · rw [nI_z] at e2
    rw [e1, o2, add_no hz (fun ⟨q, e, hc⟩ => by
      have := hc.1
      have h4 : (-4 : Int32) < 0 := by decide
      rw [e] at h4
      exact nI_pos (by omega) h4), o5, if_pos rfl, e2, o2, show (0 : Int32).toNatClampNeg = 0 from rfl, upd_s, if_neg (by decide)]
    unfold fX6_fault
    rw [o1, o6, o4, if_pos (fault_neg (by omega)), if_pos rfl]
    exact ⟨_, _, _, _, _, _, _, _, _, _, _, _, _, _, _, _, _, _, _, rfl, rfl, hR', R3_z _ _⟩
