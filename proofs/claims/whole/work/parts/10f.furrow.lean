-- FURROWS: adding, taking off, places, ring; the gaps held are the gaps asked
theorem php : ∀ (N n : Nat) (p : Nat → Nat), (∀ i, i < n → p i < N) → (∀ i j, i < n → j < n → p i = p j → i = j) → n ≤ N
  | 0, n, p, h, _ => by
    rcases Nat.eq_zero_or_pos n with e | e
    · omega
    · exact absurd (h 0 e) (by omega)
  | N + 1, n, p, h, inj => by
    by_cases hx : ∃ i, i < n ∧ p i = N
    · obtain ⟨i, hi, e⟩ := hx
      have h1 := php N (n - 1) (fun k => if k < i then p k else p (k + 1)) (fun k hk => by
        by_cases q : k < i
        · have a1 := h k (by omega)
          have a2 : p k ≠ N := fun z => by have := inj k i (by omega) hi (by rw [z, e]); omega
          simp only [q, if_true]; omega
        · have a1 := h (k + 1) (by omega)
          have a2 : p (k + 1) ≠ N := fun z => by have := inj (k + 1) i (by omega) hi (by rw [z, e]); omega
          simp only [q, if_false]; omega) (fun a b ha hb hab => by
        by_cases q1 : a < i <;> by_cases q2 : b < i <;> simp only [q1, q2, if_true, if_false] at hab
        · exact inj a b (by omega) (by omega) hab
        · have := inj a (b + 1) (by omega) (by omega) hab; omega
        · have := inj (a + 1) b (by omega) (by omega) hab; omega
        · have := inj (a + 1) (b + 1) (by omega) (by omega) hab; omega)
      omega
    · have h1 := php N n p (fun i hi => by have a1 := h i hi; have a2 : p i ≠ N := fun z => hx ⟨i, hi, z⟩; omega) inj
      omega
theorem php_on {N : Nat} {p : Nat → Nat} (h : ∀ i, i < N → p i < N) (inj : ∀ i j, i < N → j < N → p i = p j → i = j) {q : Nat} (hq : q < N) : ∃ i, i < N ∧ p i = q := by
  apply Classical.byContradiction
  intro hn
  have hn : ∀ i, i < N → p i ≠ q := fun i hi z => hn ⟨i, hi, z⟩
  have := php N (N + 1) (fun k => if k < N then p k else q) (fun k hk => by
    by_cases z : k < N
    · simp only [z, if_true]; exact h k z
    · simp only [z, if_false]; exact hq) (fun a b ha hb hab => by
    by_cases z1 : a < N <;> by_cases z2 : b < N <;> simp only [z1, z2, if_true, if_false] at hab
    · exact inj a b z1 z2 hab
    · exact absurd hab (hn a z1)
    · exact absurd hab.symm (hn b z2)
    · omega)
  omega
theorem m1 (n : Nat) : nI (n + 1) - (1 : Int32) = nI n := nI_pred n
def eV (k : Nat) : Int64 := if k = 64 then 0 else eL k
theorem eV_0 {k : Nat} (hk : k ≤ 64) : eV k = 0 ↔ k = 64 := by
  unfold eV
  by_cases q : k = 64
  · simp [q]
  · rw [if_neg q]
    constructor
    · intro h
      have h1 := congrArg (fun x => bL x k) h
      simp only [bL_e, bL_0] at h1
      have : k < 64 := by omega
      simp [this] at h1
    · intro h; exact absurd h q
theorem bL_v {k e : Nat} (he : e < 64) : bL (eV k) e = decide (k = e) := by
  unfold eV
  by_cases q : k = 64
  · have : ¬ k = e := by omega
    rw [if_pos q, bL_0]; simp [this]
  · rw [if_neg q, bL_e]
    by_cases z : e = k
    · subst z; simp [he]
    · have : ¬ k = e := fun y => z y.symm
      simp [z, this]
theorem ew_le {q r : Nat} (hq : q < 36) (hr : r < 36) : ew q r ≤ 64 := by
  rcases (tb_ew q hq r hr).1 with h | h <;> omega
theorem between_v {q r : Nat} (hq : q < 36) (hr : r < 36) : fX3_between (nI q) (nI r) = some (eV (ew q r)) := tb_between q hq r hr
theorem ew_inj {a b c d : Nat} (ha : a < 36) (hb : b < 36) (hc : c < 36) (hd : d < 36) (h : ew c d ≠ 64) (e : ew a b = ew c d) : a = c ∧ b = d ∨ a = d ∧ b = c := by
  obtain ⟨s, hs, rfl⟩ := tb_ews a ha b hb (by rw [e]; exact h)
  obtain ⟨t, ht, rfl⟩ := tb_ews c hc d hd h
  have h1 : nx a s ≠ 36 := by omega
  have h2 : nx c t ≠ 36 := by omega
  rw [(tb_n3 a ha s hs h1).1, (tb_n3 c hc t ht h2).1] at e
  have key : ∀ x, x < 144 → ∀ y, y < 144 → (decide (nx (x / 4) (x % 4) = 36) || decide (nx (y / 4) (y % 4) = 36) || !decide (eb (x / 4) (x % 4) = eb (y / 4) (y % 4)) || (decide (x / 4 = y / 4) && decide (nx (x / 4) (x % 4) = nx (y / 4) (y % 4))) || (decide (x / 4 = nx (y / 4) (y % 4)) && decide (nx (x / 4) (x % 4) = y / 4))) = true := by decide +kernel
  have h3 := key (4 * a + s) (by omega) (4 * c + t) (by omega)
  rw [show (4 * a + s) / 4 = a by omega, show (4 * a + s) % 4 = s by omega, show (4 * c + t) / 4 = c by omega, show (4 * c + t) % 4 = t by omega] at h3
  simp only [Bool.or_eq_true, Bool.and_eq_true, Bool.not_eq_true', decide_eq_true_eq, decide_eq_false_iff_not] at h3
  rcases h3 with (((h3 | h3) | h3) | h3) | h3
  · exact absurd h3 h1
  · exact absurd h3 h2
  · exact absurd e h3
  · exact Or.inl h3
  · exact Or.inr h3
section Furrows
variable {n : Nat} {p : Nat → Nat} {row yrow : Nat → Int32} {size ysize : Int32} {pl st : Int64}
theorem rgv_le (h : FW n p row size pl st) : rgv n p ≤ 64 := by
  obtain ⟨h1, h2, h3, -⟩ := h
  unfold rgv
  by_cases q : 4 ≤ n
  · rw [if_pos q]; exact ew_le (h3 _ (by omega)).1 (h3 _ (by omega)).1
  · rw [if_neg q]; exact Nat.le_refl _
theorem ring_v (h : FW n p row size pl st) : fX2_ring row size = some (eV (rgv n p)) := by
  obtain ⟨h1, h2, h3, -⟩ := h
  unfold fX2_ring rgv
  subst h2
  by_cases q : 4 ≤ n
  · obtain ⟨k, rfl⟩ : ∃ k, n = k + 1 := ⟨n - 1, by omega⟩
    rw [if_neg (fun z => by have := (nlt (k + 1) 4 (by omega) (by decide)).mp z; omega), m1, if_pos (inb_n (by omega) (by decide)), cl_n (by omega), show (0 : Int32).toNatClampNeg = 0 by decide,
      (h3 k (by omega)).2, (h3 0 (by omega)).2, between_v (h3 k (by omega)).1 (h3 0 (by omega)).1, if_pos q]
    rfl
  · rw [if_pos (show nI n < (4 : Int32) from (nlt n 4 (by omega) (by decide)).mpr (by omega)), if_neg q]; rfl
theorem refresh_v (h : FW n p row size pl st) (eaten closed g : Int64) : ∃ g', fX1_refresh row size st eaten closed g = some g' ∧ GP n p st eaten closed g' := by
  refine ⟨((st ||| eV (rgv n p)) ||| eaten) &&& (closed ^^^ (-1 : Int64)), ?_, fun e he => ?_⟩
  · unfold fX1_refresh
    rw [ring_v h]; rfl
  · rw [bL_and, bL_or, bL_or, bL_not _ he, bL_v he]
/-- a square that may come behind -/
def canAdd (n : Nat) (p : Nat → Nat) (q : Nat) : Prop := q < 36 ∧ (∀ i, i < n → p i ≠ q) ∧ (n = 0 ∨ ew (p (n - 1)) q ≠ 64)
theorem FW.room (h : FW n p row size pl st) {q : Nat} (hq : q < 36) (hn : ∀ i, i < n → p i ≠ q) : n < 36 := by
  obtain ⟨h1, h2, h3, h4, -⟩ := h
  rcases Nat.lt_or_ge n 36 with z | z
  · exact z
  · have e : n = 36 := by omega
    subst e
    obtain ⟨i, hi, ei⟩ := php_on (fun i hi => (h3 i hi).1) h4 hq
    exact absurd ei (hn i hi)
theorem FW.add (h : FW n p row size pl st) {q : Nat} (hc : canAdd n p q) : FW (n + 1) (fun k => if k = n then q else p k) (upd row n (nI q)) (nI (n + 1)) (pl ||| eL q) (if n = 0 then st else st ||| eL (ew (p (n - 1)) q)) := by
  have hr := h.room hc.1 hc.2.1
  obtain ⟨h1, h2, h3, h4, h5, h6, h7⟩ := h
  obtain ⟨c1, c2, c3⟩ := hc
  refine ⟨by omega, rfl, fun i hi => ?_, fun i j hi hj hij => ?_, fun i hi => ?_, fun x => ?_, fun e => ?_⟩
  · by_cases z : i = n
    · subst z; simp only [if_true]; exact ⟨c1, upd_s _ _ _⟩
    · simp only [z, if_false]; rw [upd_n _ _ z]; exact h3 i (by omega)
  · by_cases z1 : i = n <;> by_cases z2 : j = n <;> simp only [z1, z2, if_true, if_false] at hij
    · omega
    · exact absurd hij.symm (c2 j (by omega))
    · exact absurd hij (c2 i (by omega))
    · exact h4 i j (by omega) (by omega) hij
  · have z1 : i ≠ n := by omega
    by_cases z2 : i + 1 = n
    · simp only [z1, z2, if_true, if_false]
      have : i = n - 1 := by omega
      rw [this]
      rcases c3 with c3 | c3
      · omega
      · exact c3
    · simp only [z1, z2, if_false]; exact h5 i (by omega)
  · rw [bL_or, bL_e, Bool.or_eq_true, h6 x, decide_eq_true_eq]
    constructor
    · rintro (⟨i, hi, e⟩ | ⟨e, -⟩)
      · exact ⟨i, by omega, by simp only [show i ≠ n by omega, if_false]; exact e⟩
      · exact ⟨n, by omega, by simp only [if_true]; exact e.symm⟩
    · rintro ⟨i, hi, e⟩
      by_cases z : i = n
      · simp only [z, if_true] at e; exact Or.inr ⟨e.symm, by omega⟩
      · simp only [z, if_false] at e; exact Or.inl ⟨i, by omega, e⟩
  · by_cases z0 : n = 0
    · subst z0
      simp only [if_true]
      rw [h7 e]
      constructor
      · rintro ⟨-, i, hi, -⟩; omega
      · rintro ⟨-, i, hi, -⟩; omega
    · rw [if_neg z0, bL_or, bL_e, Bool.or_eq_true, h7 e, decide_eq_true_eq]
      have c3' : ew (p (n - 1)) q ≠ 64 := c3.resolve_left z0
      constructor
      · rintro (⟨he, i, hi, e1⟩ | ⟨e1, e2⟩)
        · exact ⟨he, i, by omega, by simp only [show i ≠ n by omega, show i + 1 ≠ n by omega, if_false]; exact e1⟩
        · exact ⟨by omega, n - 1, by omega, by simp only [show n - 1 ≠ n by omega, show n - 1 + 1 = n by omega, if_true, if_false]; exact e1.symm⟩
      · rintro ⟨he, i, hi, e1⟩
        by_cases z : i + 1 = n
        · simp only [show i ≠ n by omega, z, if_true, if_false] at e1
          rw [show i = n - 1 by omega] at e1
          have hle := ew_le (h3 (n - 1) (by omega)).1 c1
          exact Or.inr ⟨e1.symm, by omega⟩
        · simp only [show i ≠ n by omega, z, if_false] at e1
          exact Or.inl ⟨he, i, by omega, e1⟩
theorem add_no (h : FW n p row size pl st) {a : Int32} (hc : ¬ ∃ q, a = nI q ∧ canAdd n p q) : fX2_add row size pl st a = some (0, row, size, pl, st) := by
  have h' := h
  obtain ⟨h1, h2, h3, h4, h5, h6, h7⟩ := h
  subst h2
  unfold fX2_add
  rw [X3_isSquare]
  rcases ir_or a 36 (by decide) with ha | ⟨q, hq, rfl⟩
  · rw [ha]; rfl
  · rw [ir_n hq (by decide)]
    simp only [ob1, bI_t, i10, if_false]
    by_cases hx : ∃ i, i < n ∧ p i = q
    · have hb : bL pl q = true := (h6 q).mpr hx
      have hsh : ¬ lg_cmp (pl >>> ((nI q).toInt64 &&& 63) &&& 1) 0 = 0 := fun z => by
        have := (shr_e (by omega)).mp (lg0.mp z); rw [hb] at this; cases this
      rw [if_neg hsh]
      simp
    · have hn : ∀ i, i < n → p i ≠ q := fun i hi z => hx ⟨i, hi, z⟩
      have hr := h'.room hq hn
      have hb : bL pl q = false := by
        cases hbb : bL pl q with
        | false => rfl
        | true => exact absurd ((h6 q).mp hbb) hx
      rw [if_neg (fun z => by have := (nle 36 n (by decide) (by omega)).mp z; omega), if_pos (lg0.mpr ((shr_e (by omega)).mpr hb))]
      have h0 : n ≠ 0 := fun z => hc ⟨q, rfl, hq, hn, Or.inl z⟩
      have he : ew (p (n - 1)) q = 64 := Classical.byContradiction fun z => hc ⟨q, rfl, hq, hn, Or.inr z⟩
      obtain ⟨k, rfl⟩ : ∃ k, n = k + 1 := ⟨n - 1, by omega⟩
      rw [if_neg (nI_nle (by omega) (by omega)), m1, if_pos (inb_n (by omega) (by decide)), cl_n (by omega), (h3 k (by omega)).2, between_v (h3 k (by omega)).1 hq]
      have he' : ew (p k) q = 64 := he
      simp only [ob1, he']
      rw [if_pos (lg0.mpr ((eV_0 (by decide)).mpr rfl))]
theorem add_yes (h : FW n p row size pl st) {q : Nat} (hc : canAdd n p q) : fX2_add row size pl st (nI q) = some (1, upd row n (nI q), nI (n + 1), pl ||| eL q, if n = 0 then st else st ||| eL (ew (p (n - 1)) q)) := by
  have hr := h.room hc.1 hc.2.1
  obtain ⟨h1, h2, h3, h4, h5, h6, h7⟩ := h
  obtain ⟨hq, hn, c3⟩ := hc
  subst h2
  unfold fX2_add
  rw [X3_isSquare, ir_n hq (by decide)]
  have hb : bL pl q = false := by
    cases hbb : bL pl q with
    | false => rfl
    | true => obtain ⟨i, hi, e⟩ := (h6 q).mp hbb; exact absurd e (hn i hi)
  have e72 : ∀ s', fX2_add_72 row (nI n) pl s' (nI q) = some (1, upd row n (nI q), nI (n + 1), pl ||| eL q, s') := fun s' => by
    unfold fX2_add_72
    rw [if_pos (inb_n hr (by decide)), cl_n (by omega), shl_e q (by omega), nI_1]; rfl
  simp only [ob1, bI_t, i10, if_false]
  rw [if_neg (fun z => by have := (nle 36 n (by decide) (by omega)).mp z; omega), if_pos (lg0.mpr ((shr_e (by omega)).mpr hb))]
  by_cases h0 : n = 0
  · subst h0
    rw [if_pos (by decide), e72]; rfl
  · have c3' : ew (p (n - 1)) q ≠ 64 := c3.resolve_left h0
    obtain ⟨k, rfl⟩ : ∃ k, n = k + 1 := ⟨n - 1, by omega⟩
    have hle := ew_le (h3 k (by omega)).1 hq
    have c4 : ew (p k) q ≠ 64 := c3'
    rw [if_neg (nI_nle (by omega) (by omega)), m1, if_pos (inb_n (by omega) (by decide)), cl_n (by omega), (h3 k (by omega)).2, between_v (h3 k (by omega)).1 hq]
    simp only [ob1]
    rw [if_neg (fun z => c4 ((eV_0 hle).mp (lg0.mp z)))]
    show fX2_add_72 row (nI (k + 1)) pl (st ||| eV (ew (p k) q)) (nI q) = _
    rw [e72, if_neg h0]
    unfold eV
    rw [if_neg c4]; rfl
theorem FW.off (h : FW (n + 1) p row size pl st) : FW n p row (nI n) (pl &&& (eL (p n) ^^^ (-1))) (if n = 0 then st else st &&& (eL (ew (p (n - 1)) (p n)) ^^^ (-1))) := by
  obtain ⟨h1, h2, h3, h4, h5, h6, h7⟩ := h
  refine ⟨by omega, rfl, fun i hi => h3 i (by omega), fun i j hi hj e => h4 i j (by omega) (by omega) e, fun i hi => h5 i (by omega), fun q => ?_, fun e => ?_⟩
  · by_cases hq : q < 64
    · rw [bL_and, bL_not _ hq, bL_e, Bool.and_eq_true, h6 q]
      constructor
      · rintro ⟨⟨i, hi, e⟩, z⟩
        refine ⟨i, ?_, e⟩
        rcases Nat.lt_or_ge i n with y | y
        · exact y
        · have e1 : i = n := by omega
          subst e1
          have h9 := (h3 i (by omega)).1
          simp [e.symm, show p i < 64 by omega] at z
      · rintro ⟨i, hi, e⟩
        refine ⟨⟨i, by omega, e⟩, ?_⟩
        have z : ¬ q = p n := fun y => by have := h4 i n (by omega) (by omega) (e.trans y); omega
        simp [z]
    · rw [bL_big _ (by omega)]
      constructor
      · intro z; cases z
      · rintro ⟨i, hi, e⟩
        have := (h3 i (by omega)).1
        omega
  · by_cases he : e < 64
    · by_cases h0 : n = 0
      · subst h0
        rw [if_pos rfl, h7 e]
        constructor
        · rintro ⟨-, i, hi, -⟩; omega
        · rintro ⟨-, i, hi, -⟩; omega
      · rw [if_neg h0, bL_and, bL_not _ he, bL_e, Bool.and_eq_true, h7 e]
        have hn := (h3 n (by omega)).1
        have hn1 := (h3 (n - 1) (by omega)).1
        constructor
        · rintro ⟨⟨a, i, hi, e1⟩, z⟩
          refine ⟨a, i, ?_, e1⟩
          rcases Nat.lt_or_ge (i + 1) n with y | y
          · exact y
          · have e2 : i = n - 1 := by omega
            subst e2
            rw [show n - 1 + 1 = n by omega] at e1
            have h9 := ew_le hn1 hn
            simp [e1, show e < 64 by omega] at z
        · rintro ⟨a, i, hi, e1⟩
          refine ⟨⟨a, i, by omega, e1⟩, ?_⟩
          have z : ¬ e = ew (p (n - 1)) (p n) := fun y => by
            rw [y] at e1
            have h9 := h5 (n - 1) (by omega)
            rw [show n - 1 + 1 = n by omega] at h9
            have := ew_inj (h3 i (by omega)).1 (h3 (i + 1) (by omega)).1 hn1 hn h9 e1
            rcases this with ⟨a1, a2⟩ | ⟨a1, a2⟩
            · have := h4 (i + 1) n (by omega) (by omega) a2; omega
            · have := h4 i n (by omega) (by omega) a1; omega
          simp [z]
    · constructor
      · intro z
        have hf : bL (if n = 0 then st else st &&& (eL (ew (p (n - 1)) (p n)) ^^^ (-1))) e = false := bL_big _ (by omega)
        rw [hf] at z; cases z
      · rintro ⟨a, i, hi, e1⟩
        have := ew_le (h3 i (by omega)).1 (h3 (i + 1) (by omega)).1
        omega
theorem off_v (h : FW (n + 1) p row size pl st) : fX2_removeLast row size pl st = some (nI n, pl &&& (eL (p n) ^^^ (-1)), if n = 0 then st else st &&& (eL (ew (p (n - 1)) (p n)) ^^^ (-1))) := by
  obtain ⟨h1, h2, h3, h4, h5, h6, h7⟩ := h
  subst h2
  unfold fX2_removeLast
  rw [if_neg (nI_ne0 (by omega) (by omega)), m1]
  have hn := (h3 n (by omega))
  simp only [lets]
  rw [if_pos (inb_n (by omega) (by decide)), cl_n (by omega), hn.2, shl_e _ (by omega)]
  by_cases h0 : n = 0
  · subst h0
    simp only [lets]
    rw [if_pos (show nI 0 ≤ 0 by decide)]; rfl
  · obtain ⟨k, rfl⟩ : ∃ k, n = k + 1 := ⟨n - 1, by omega⟩
    have hk := (h3 k (by omega))
    have h9 := h5 k (by omega)
    rw [if_neg (nI_nle (by omega) (by omega)), m1, if_pos (inb_n (by omega) (by decide)), cl_n (by omega), hk.2, if_pos (inb_n (by omega) (by decide)), between_v hk.1 hn.1]
    simp only [ob1, lets]
    rw [if_neg h0]
    unfold eV
    rw [if_neg h9]; rfl
theorem place_c : ∀ (m k : Nat) (q : Nat), (∀ i, i < n → p i < 36 ∧ row i = nI (p i)) → n ≤ 36 → q < 36 → k ≤ n → n + 1 ≤ k + m → ((∀ i, k ≤ i → i < n → p i ≠ q) → fX2_placeOf_2 row (nI n) m (nI q) (nI k) = some (-4)) ∧ ∀ j, k ≤ j → j < n → p j = q → (∀ i, k ≤ i → i < j → p i ≠ q) → fX2_placeOf_2 row (nI n) m (nI q) (nI k) = some (nI j)
  | 0, k, q, h3, h1, hq, hk, hm => absurd hm (by omega)
  | m + 1, k, q, h3, h1, hq, hk, hm => by
    rw [fX2_placeOf_2]
    by_cases z : k = n
    · subst z
      rw [if_pos (show nI k ≤ nI k from (nle k k (by omega) (by omega)).mpr (Nat.le_refl _))]
      exact ⟨fun _ => rfl, fun j h1 h2 => by omega⟩
    · have hk' := h3 k (by omega)
      rw [if_neg (fun y => by have := (nle n k (by omega) (by omega)).mp y; omega), if_pos (inb_n (by omega) (by decide)), cl_n (by omega), hk'.2, nI_1]
      have ih := place_c m (k + 1) q h3 h1 hq (by omega) (by omega)
      by_cases e : p k = q
      · rw [if_pos (by rw [e])]
        refine ⟨fun hn => absurd e (hn k (Nat.le_refl _) (by omega)), fun j j1 j2 j3 j4 => ?_⟩
        have : j = k := Classical.byContradiction fun y => j4 k (Nat.le_refl _) (by omega) e
        rw [this]
      · rw [if_neg (fun y => e ((nI_eq (by omega) (by omega)).mp y))]
        refine ⟨fun hn => ih.1 fun i i1 i2 => hn i (by omega) i2, fun j j1 j2 j3 j4 => ih.2 j ?_ j2 j3 fun i i1 i2 => j4 i (by omega) i2⟩
        have : j ≠ k := fun y => e (by rw [← y]; exact j3)
        omega
theorem place_m : ∀ (m k : Nat) (q : Nat) (acc : Int32), (∀ i, i < n → p i < 36 ∧ row i = nI (p i)) → n ≤ 36 → q < 36 → k ≤ n → n + 1 ≤ k + m → ((∀ i, k ≤ i → i < n → p i ≠ q) → fX10_placeOf_5 row (nI n) m (nI q) acc (nI k) = some acc) ∧ ∀ j, k ≤ j → j < n → p j = q → (∀ i, j < i → i < n → p i ≠ q) → fX10_placeOf_5 row (nI n) m (nI q) acc (nI k) = some (nI j)
  | 0, k, q, acc, h3, h1, hq, hk, hm => absurd hm (by omega)
  | m + 1, k, q, acc, h3, h1, hq, hk, hm => by
    rw [fX10_placeOf_5]
    by_cases z : k = n
    · subst z
      rw [if_pos (show nI k ≤ nI k from (nle k k (by omega) (by omega)).mpr (Nat.le_refl _))]
      exact ⟨fun _ => rfl, fun j h1 h2 => by omega⟩
    · have hk' := h3 k (by omega)
      unfold fX10_placeOf_28
      rw [if_neg (fun y => by have := (nle n k (by omega) (by omega)).mp y; omega), if_pos (inb_n (by omega) (by decide)), cl_n (by omega), hk'.2, nI_1]
      by_cases e : p k = q
      · have ih := place_m m (k + 1) q (nI k) h3 h1 hq (by omega) (by omega)
        rw [if_pos (by rw [e])]
        refine ⟨fun hn => absurd e (hn k (Nat.le_refl _) (by omega)), fun j j1 j2 j3 j4 => ?_⟩
        have : j = k ∨ k < j := by omega
        rcases this with y | y
        · subst y; exact ih.1 fun i i1 i2 => j4 i (by omega) i2
        · exact ih.2 j (by omega) j2 j3 j4
      · have ih := place_m m (k + 1) q acc h3 h1 hq (by omega) (by omega)
        rw [if_neg (fun y => e ((nI_eq (by omega) (by omega)).mp y))]
        refine ⟨fun hn => ih.1 fun i i1 i2 => hn i (by omega) i2, fun j j1 j2 j3 j4 => ih.2 j ?_ j2 j3 j4⟩
        have : j ≠ k := fun y => e (by rw [← y]; exact j3)
        omega
end Furrows
section Places
variable {n : Nat} {p : Nat → Nat} {row yrow : Nat → Int32} {size ysize : Int32} {pl st : Int64}
theorem place_v (h : FW n p row size pl st) (hy : ysize = nI n) (hyr : ∀ i, i < n → yrow i = nI (p i)) {q : Nat} (hq : q < 36) :
    (∃ i, i < n ∧ p i = q ∧ fX2_placeOf row size (nI q) = some (nI i) ∧ fX10_placeOf yrow ysize (nI q) = some (nI i)) ∨ ((∀ i, i < n → p i ≠ q) ∧ fX2_placeOf row size (nI q) = some (-4) ∧ fX10_placeOf yrow ysize (nI q) = some (-4)) := by
  obtain ⟨h1, h2, h3, h4, -⟩ := h
  subst h2; subst hy
  have c := place_c (n := n) (p := p) (row := row) 4000 0 q h3 h1 hq (Nat.zero_le _) (by omega)
  have m := place_m (n := n) (p := p) (row := yrow) 4000 0 q (-4) (fun i hi => ⟨(h3 i hi).1, hyr i hi⟩) h1 hq (Nat.zero_le _) (by omega)
  by_cases hx : ∃ i, i < n ∧ p i = q
  · obtain ⟨i, hi, e⟩ := hx
    refine Or.inl ⟨i, hi, e, c.2 i (Nat.zero_le _) hi e fun k _ hk y => ?_, m.2 i (Nat.zero_le _) hi e fun k hk1 hk2 y => ?_⟩
    · have := h4 k i (by omega) hi (by rw [y, e]); omega
    · have := h4 k i hk2 hi (by rw [y, e]); omega
  · have hn : ∀ i, i < n → p i ≠ q := fun i hi y => hx ⟨i, hi, y⟩
    exact Or.inr ⟨hn, c.1 fun i _ hi => hn i hi, m.1 fun i _ hi => hn i hi⟩
end Places
