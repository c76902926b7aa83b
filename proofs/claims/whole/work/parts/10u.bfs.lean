-- WAYS: a queue of states reached, least steps first
def BS : Type := Nat × (Nat → Nat) × (Nat → Nat) × (Nat → Int32) × (Nat → Int32)
def BS.len (b : BS) : Nat := b.1
def BS.v (b : BS) : Nat → Nat := b.2.1
def BS.D (b : BS) : Nat → Nat := b.2.2.1
def BS.d (b : BS) : Nat → Int32 := b.2.2.2.1
def BS.qu (b : BS) : Nat → Int32 := b.2.2.2.2
def BS.mk (len : Nat) (v D : Nat → Nat) (d qu : Nat → Int32) : BS := (len, v, D, d, qu)
def BS.ok (E : Nat → Nat → Prop) (src : Nat) (ν : Int32) (b : BS) : Prop :=
  b.len ≤ 72 ∧ 0 < b.len ∧ (∀ j, j < b.len → b.v j < 72 ∧ b.qu j = nI (b.v j) ∧ b.d (b.v j) = nI (b.D j) ∧ b.D j ≤ j) ∧ (∀ i j, i < b.len → j < b.len → b.v i = b.v j → i = j) ∧
  (∀ x, x < 72 → (∀ j, j < b.len → b.v j ≠ x) → b.d x = ν ∧ ν < 0) ∧ b.v 0 = src ∧ (∀ j, 0 < j → j < b.len → ∃ j', j' < j ∧ E (b.v j') (b.v j) ∧ b.D j = b.D j' + 1) ∧ (∀ j j', j ≤ j' → j' < b.len → b.D j ≤ b.D j')
def BS.ext (b b' : BS) : Prop := b.len ≤ b'.len ∧ ∀ j, j < b.len → b'.v j = b.v j ∧ b'.D j = b.D j
def BS.head (i : Nat) (b : BS) : Prop := i < b.len ∧ ∀ j, j < b.len → b.D j ≤ b.D i + 1
def BS.has (b : BS) (y : Nat) : Prop := ∃ j, j < b.len ∧ b.v j = y
def BS.done (E : Nat → Nat → Prop) (i : Nat) (b : BS) : Prop := ∀ j, j < i → j < b.len → ∀ y, y < 72 → E (b.v j) y → ∃ j', j' < b.len ∧ b.v j' = y ∧ b.D j' ≤ b.D j + 1
theorem BS.ext_r (b : BS) : b.ext b := ⟨Nat.le_refl _, fun _ _ => ⟨rfl, rfl⟩⟩
theorem BS.ext_t {a b c : BS} (h1 : a.ext b) (h2 : b.ext c) : a.ext c := ⟨Nat.le_trans h1.1 h2.1, fun j hj => by
  have e1 := h1.2 j hj
  have e2 := h2.2 j (by have := h1.1; omega)
  exact ⟨e2.1.trans e1.1, e2.2.trans e1.2⟩⟩
theorem BS.has_x {b b' : BS} {y : Nat} (h : b.has y) (hx : b.ext b') : b'.has y := by
  obtain ⟨j, hj, e⟩ := h
  exact ⟨j, by have := hx.1; omega, by rw [(hx.2 j hj).1]; exact e⟩
theorem BS.done_x {E : Nat → Nat → Prop} {i : Nat} {b b' : BS} (hi : i ≤ b.len) (h : b.done E i) (hx : b.ext b') : b'.done E i := by
  intro j hj _ y hy hE
  have hj' : j < b.len := by omega
  rw [(hx.2 j hj').1] at hE
  obtain ⟨j', h1, h2, h3⟩ := h j hj hj' y hy hE
  exact ⟨j', by have := hx.1; omega, by rw [(hx.2 j' h1).1]; exact h2, by rw [(hx.2 j' h1).2, (hx.2 j hj').2]; exact h3⟩
section Reach
variable {E : Nat → Nat → Prop} {src : Nat} {ν : Int32} {b : BS}
theorem BS.dec (b : BS) (y : Nat) : b.has y ∨ ∀ j, j < b.len → b.v j ≠ y := by
  by_cases h : b.has y
  · exact Or.inl h
  · exact Or.inr (fun j hj e => h ⟨j, hj, e⟩)
theorem BS.room (h : b.ok E src ν) {y : Nat} (hy : y < 72) (hn : ∀ j, j < b.len → b.v j ≠ y) : b.len < 72 := by
  apply Classical.byContradiction
  intro z
  have hl : b.len = 72 := by have := h.1; omega
  obtain ⟨i, hi, e⟩ := php_on (N := 72) (p := b.v) (fun i hi => (h.2.2.1 i (by omega)).1) (fun i j hi hj => h.2.2.2.1 i j (by omega) (by omega)) hy
  exact hn i (by omega) e
theorem reach_b (h : b.ok E src ν) {i y : Nat} (hh : b.head i) (hy : y < 72) (hE : E (b.v i) y) :
    ∃ b' : BS, fX8_reach b.d b.qu (nI b.len) (nI y) (nI (b.D i + 1)) = some (b'.d, b'.qu, nI b'.len) ∧ fX10_reach b.d b.qu (nI b.len) (nI y) (nI (b.D i + 1)) = some (b'.d, b'.qu, nI b'.len) ∧ b'.ok E src ν ∧ b.ext b' ∧ b'.head i ∧ b'.has y := by
  have h' := h
  obtain ⟨h1, h2, h3, h4, h5, h6, h7, h8⟩ := h'
  unfold fX8_reach fX10_reach
  rw [if_neg (nI_pos (by omega)), if_neg (litF (c := 72) (C := 72) rfl hy (by decide)), if_pos (inb_n hy (by decide)), if_pos (inb_n hy (by decide)), if_pos (inb_n hy (by decide)), cl_n (by omega)]
  rcases b.dec y with ⟨j, hj, e⟩ | hn
  · have hd := (h3 j hj).2.2.1
    have hle := (h3 j hj).2.2.2
    rw [e] at hd
    rw [hd, if_pos (nI_pos' (by omega)), if_pos (nI_pos' (by omega))]
    exact ⟨b, rfl, rfl, h, b.ext_r, hh, j, hj, e⟩
  · have hr := b.room h hy hn
    have hneg : b.d y < 0 := by rw [(h5 y hy hn).1]; exact (h5 y hy hn).2
    have hneg' : ¬ 0 ≤ b.d y := not_le_0.mpr hneg
    rw [if_neg hneg', if_neg hneg', if_pos (ltT (c := 72) (C := 72) rfl hr (by decide)), if_pos (inb_n hr (by decide)), cl_n (by omega), lets_eq, nI_1]
    have hDi : b.D i ≤ i := (h3 i hh.1).2.2.2
    have hi := hh.1
    refine ⟨BS.mk (b.len + 1) (fun j => if j = b.len then y else b.v j) (fun j => if j = b.len then b.D i + 1 else b.D j) (upd b.d y (nI (b.D i + 1))) (upd b.qu b.len (nI y)), rfl, rfl, ⟨by show b.len + 1 ≤ 72; omega, by show 0 < b.len + 1; omega, fun j hj => ?_, fun i' j hi' hj e => ?_, fun x hx hnx => ?_, ?_, fun j hj0 hj => ?_, fun j j' hjj hj' => ?_⟩, ⟨by show b.len ≤ b.len + 1; omega, fun j hj => ?_⟩, ⟨by show i < b.len + 1; omega, fun j hj => ?_⟩, b.len, by show b.len < b.len + 1; omega, by show (if b.len = b.len then y else _) = y; rw [if_pos rfl]⟩
    · replace hj : j < b.len + 1 := hj
      show (if j = b.len then y else b.v j) < 72 ∧ upd b.qu b.len (nI y) j = nI (if j = b.len then y else b.v j) ∧ upd b.d y (nI (b.D i + 1)) (if j = b.len then y else b.v j) = nI (if j = b.len then b.D i + 1 else b.D j) ∧ (if j = b.len then b.D i + 1 else b.D j) ≤ j
      by_cases z : j = b.len
      · rw [if_pos z, if_pos z, z, upd_s, upd_s]
        exact ⟨hy, rfl, rfl, by omega⟩
      · have hj2 : j < b.len := by omega
        have := h3 j hj2
        rw [if_neg z, if_neg z, upd_n _ _ z, upd_n _ _ (hn j hj2)]
        exact this
    · replace hi' : i' < b.len + 1 := hi'
      replace hj : j < b.len + 1 := hj
      replace e : (if i' = b.len then y else b.v i') = (if j = b.len then y else b.v j) := e
      by_cases z1 : i' = b.len
      · by_cases z2 : j = b.len
        · omega
        · rw [if_pos z1, if_neg z2] at e
          exact absurd e.symm (hn j (by omega))
      · by_cases z2 : j = b.len
        · rw [if_neg z1, if_pos z2] at e
          exact absurd e (hn i' (by omega))
        · rw [if_neg z1, if_neg z2] at e
          exact h4 i' j (by omega) (by omega) e
    · show upd b.d y (nI (b.D i + 1)) x = ν ∧ ν < 0
      have e1 : x ≠ y := fun z => hnx b.len (by show b.len < b.len + 1; omega) (by show (if b.len = b.len then y else _) = x; rw [if_pos rfl]; exact z.symm)
      rw [upd_n _ _ e1]
      refine h5 x hx (fun j hj e => hnx j (by show j < b.len + 1; omega) ?_)
      show (if j = b.len then y else b.v j) = x
      rw [if_neg (by omega)]; exact e
    · show (if 0 = b.len then y else b.v 0) = src
      rw [if_neg (by omega)]; exact h6
    · replace hj : j < b.len + 1 := hj
      show ∃ j', j' < j ∧ E (if j' = b.len then y else b.v j') (if j = b.len then y else b.v j) ∧ (if j = b.len then b.D i + 1 else b.D j) = (if j' = b.len then b.D i + 1 else b.D j') + 1
      by_cases z : j = b.len
      · refine ⟨i, by omega, ?_⟩
        rw [if_neg (show ¬ i = b.len by omega), if_pos z, if_pos z, if_neg (show ¬ i = b.len by omega)]
        exact ⟨hE, rfl⟩
      · obtain ⟨j', a1, a2, a3⟩ := h7 j hj0 (by omega)
        refine ⟨j', a1, ?_⟩
        rw [if_neg (show ¬ j' = b.len by omega), if_neg z, if_neg z, if_neg (show ¬ j' = b.len by omega)]
        exact ⟨a2, a3⟩
    · replace hj' : j' < b.len + 1 := hj'
      show (if j = b.len then b.D i + 1 else b.D j) ≤ (if j' = b.len then b.D i + 1 else b.D j')
      by_cases z : j' = b.len
      · rw [if_pos z]
        by_cases z2 : j = b.len
        · rw [if_pos z2]; exact Nat.le_refl _
        · rw [if_neg z2]; exact hh.2 j (by omega)
      · rw [if_neg z, if_neg (by omega)]
        exact h8 j j' hjj (by omega)
    · show (if j = b.len then y else b.v j) = b.v j ∧ (if j = b.len then b.D i + 1 else b.D j) = b.D j
      rw [if_neg (by omega), if_neg (by omega)]; exact ⟨rfl, rfl⟩
    · replace hj : j < b.len + 1 := hj
      show (if j = b.len then b.D i + 1 else b.D j) ≤ (if i = b.len then b.D i + 1 else b.D i) + 1
      rw [if_neg (show ¬ i = b.len by omega)]
      by_cases z : j = b.len
      · rw [if_pos z]; exact Nat.le_refl _
      · rw [if_neg z]; exact hh.2 j (by omega)
/-- the head goes on -/
theorem BS.next (h : b.ok E src ν) {i : Nat} (hh : b.head i) (hd : b.done E i) (hx : ∀ y, y < 72 → E (b.v i) y → b.has y) : b.done E (i + 1) ∧ (i + 1 < b.len → b.head (i + 1)) := by
  refine ⟨fun j hj hjl y hy hE => ?_, fun hi => ⟨hi, fun j hj => ?_⟩⟩
  · by_cases z : j = i
    · subst z
      obtain ⟨j', a, e⟩ := hx y hy hE
      exact ⟨j', a, e, hh.2 j' a⟩
    · exact hd j (by omega) hjl y hy hE
  · have h1 := hh.2 j hj
    have h2 := h.2.2.2.2.2.2.2 i (i + 1) (by omega) hi
    omega
end Reach
def WK (E : Nat → Nat → Prop) : Nat → Nat → Nat → Prop
  | 0, a, b => a = b
  | k + 1, a, c => ∃ b, WK E k a b ∧ E b c
theorem WK.nil {E : Nat → Nat → Prop} (a : Nat) : WK E 0 a a := rfl
theorem WK.snoc {E : Nat → Nat → Prop} {k a b c : Nat} (h : WK E k a b) (e : E b c) : WK E (k + 1) a c := ⟨b, h, e⟩
theorem WK.zero {E : Nat → Nat → Prop} {a b : Nat} (h : WK E 0 a b) : a = b := h
theorem WK.last {E : Nat → Nat → Prop} {k a c : Nat} (h : WK E (k + 1) a c) : ∃ b, WK E k a b ∧ E b c := h
theorem WK.cons {E : Nat → Nat → Prop} {a b : Nat} (h : E a b) : ∀ {k c : Nat}, WK E k b c → WK E (k + 1) a c := by
  intro k
  induction k with
  | zero => intro c hw; have := hw.zero; subst this; exact WK.snoc (WK.nil _) h
  | succ k ih =>
    intro c hw
    obtain ⟨x, h1, h2⟩ := hw.last
    exact WK.snoc (ih h1) h2
theorem WK.first {E : Nat → Nat → Prop} : ∀ {k a c : Nat}, WK E (k + 1) a c → ∃ b, E a b ∧ WK E k b c := by
  intro k
  induction k with
  | zero =>
    intro a c h
    obtain ⟨b, h1, h2⟩ := h.last
    have := h1.zero
    subst this
    exact ⟨c, h2, WK.nil _⟩
  | succ k ih =>
    intro a c h
    obtain ⟨b, h1, h2⟩ := h.last
    obtain ⟨b', e1, e2⟩ := ih h1
    exact ⟨b', e1, WK.snoc e2 h2⟩
/-- what the row of least steps says -/
def LST (E : Nat → Nat → Prop) (src : Nat) (ν : Int32) (d : Nat → Int32) : Prop := ∀ x, x < 72 → (d x = ν ∧ ∀ k, ¬ WK E k src x) ∨ ∃ k, k ≤ 72 ∧ d x = nI k ∧ WK E k src x ∧ ∀ k', WK E k' src x → k ≤ k'
theorem BS.fin {E : Nat → Nat → Prop} {src : Nat} {ν : Int32} {b : BS} (hE : ∀ x y, x < 72 → E x y → y < 72) (h : b.ok E src ν) (hd : b.done E b.len) : LST E src ν b.d := by
  have hall : ∀ k x, WK E k src x → x < 72 ∧ ∃ j, j < b.len ∧ b.v j = x ∧ b.D j ≤ k := by
    intro k
    induction k with
    | zero =>
      intro x hw
      have := hw.zero
      subst this
      have h0 := h.2.2.1 0 h.2.1
      exact ⟨by rw [← h.2.2.2.2.2.1]; exact h0.1, 0, h.2.1, h.2.2.2.2.2.1, h0.2.2.2⟩
    | succ k ih =>
      intro x hw
      obtain ⟨y, h1, h2⟩ := hw.last
      obtain ⟨hy, j, a, e, c⟩ := ih y h1
      have hx := hE y x hy h2
      rw [← e] at h2
      obtain ⟨j', a', e', c'⟩ := hd j a a x hx h2
      exact ⟨hx, j', a', e', by omega⟩
  have hwk : ∀ m j, j ≤ m → j < b.len → WK E (b.D j) src (b.v j) := by
    intro m
    induction m with
    | zero =>
      intro j hj hl
      have : j = 0 := by omega
      subst this
      have h0 := (h.2.2.1 0 h.2.1).2.2.2
      rw [show b.D 0 = 0 by omega, h.2.2.2.2.2.1]
      exact WK.nil _
    | succ m ih =>
      intro j hj hl
      by_cases z : j = 0
      · exact ih j (by omega) hl
      · obtain ⟨j', a1, a2, a3⟩ := h.2.2.2.2.2.2.1 j (by omega) hl
        rw [a3]
        exact WK.snoc (ih j' (by omega) (by omega)) a2
  intro x hx
  rcases b.dec x with ⟨j, hj, e⟩ | hn
  · have h3 := h.2.2.1 j hj
    refine Or.inr ⟨b.D j, by have := h.1; omega, by rw [← e]; exact h3.2.2.1, by rw [← e]; exact hwk j j (Nat.le_refl _) hj, fun k' hk => ?_⟩
    obtain ⟨_, j', a, e', c⟩ := hall k' x hk
    have := h.2.2.2.1 j' j a hj (e'.trans e.symm)
    subst this
    exact c
  · refine Or.inl ⟨(h.2.2.2.2.1 x hx hn).1, fun k hk => ?_⟩
    obtain ⟨_, j, a, e, _⟩ := hall k x hk
    exact hn j a e
