-- FIT: whether a path fits what was seen
def XE (i : Nat) (p : Nat → Nat) (e : Nat) : Prop := (∃ j, j + 1 < i ∧ ew (p j) (p (j + 1)) = e) ∨ rgv i p = e
def OKm (i : Nat) (p : Nat → Nat) (sp sg : Nat → Int32) (m : Nat) : Prop := ∀ pr, pr < 72 → vpr pr = true → sp m = nI pr → (XE i p (pb pr) ↔ sg m = 1)
theorem fits_l {i k : Nat} {p : Nat → Nat} {path sp sg : Nat → Int32} {sG sC : Int64} {sN ys : Int32} (hS : SN k sG sC sN sp sg ys) (hi : i ≤ 9) (hi1 : 1 ≤ i) (hr : ∀ j, j < i → p j < 36 ∧ path j = nI (p j)) (hw : ∀ j, j + 1 < i → ew (p j) (p (j + 1)) ≠ 64) :
    ∀ N j (b : Bool), j ≤ k → k + 1 ≤ j + N → (b = true ↔ ∀ m, m < j → OKm i p sp sg m) → ∃ b' : Bool, fX10_fits_4 sp sg (nI k) path N (nI i) (bI b) (nI j) = some (bI b') ∧ (b' = true ↔ ∀ m, m < k → OKm i p sp sg m) := by
  intro N
  induction N with
  | zero => intro j b h1 h2; omega
  | succ N ih =>
    intro j b h1 h2 hb
    have hk := hS.1
    rw [fX10_fits_4]
    by_cases z : j = k
    · subst z
      rw [if_pos (nleT (Nat.le_refl _) (by omega)), if_pos (isB_bI b)]
      exact ⟨b, rfl, hb⟩
    rw [if_neg (nleF (by omega) (by omega))]
    cases b with
    | false =>
      rw [if_pos (show bI false = 0 by decide), if_pos (isB_bI false)]
      exact ⟨false, rfl, fun q => by (cases q), fun q => hb.mpr (fun m hm => q m (by omega))⟩
    | true =>
      have hall := hb.mp rfl
      obtain ⟨pr, hp, hv, e1, e2⟩ := hS.2.2.2.1 j (by omega)
      obtain ⟨b', c1, c2⟩ := haspair_v hi hi1 hr hw hp hv
      have hI : inb (nI j) 12 = true := inb_n (by omega) (by decide)
      rw [if_neg (show ¬ bI true = 0 by decide), if_pos hI, cl_n (by omega), e1, c1, o1, if_pos hI]
      unfold fX10_fits_42 fX10_fits_50
      have hA : j + 1 ≤ k := by omega
      have hB : k + 1 ≤ j + 1 + N := by omega
      have hnew : ∀ b2 : Bool, (b2 = true ↔ (b' = true ↔ sg j = 1)) → (b2 = true ↔ ∀ m, m < j + 1 → OKm i p sp sg m) := by
        intro b2 h2
        rw [h2]
        constructor
        · intro h m hm
          by_cases y : m = j
          · subst y
            intro pr' hp' hv' e'
            rw [e1] at e'
            have := (nI_eq (by omega) (by omega)).mp e'
            subst this
            exact c2.symm.trans h
          · exact hall m (by omega)
        · intro h
          exact c2.trans (h j (by omega) pr hp hv e1)
      rw [nI_1]
      rcases e2 with e0 | e0
      · rw [e0, if_neg (show ¬ (0 : Int32) = 1 by decide)]
        cases b' with
        | true =>
          rw [if_neg (show ¬ bI true = 0 by decide), ← bI_f]
          exact ih (j + 1) false hA hB (hnew false ⟨fun q => by (cases q), fun q => absurd (q.mp rfl) (by rw [e0]; decide)⟩)
        | false =>
          rw [if_pos (show bI false = 0 by decide), ← bI_t]
          exact ih (j + 1) true hA hB (hnew true ⟨fun _ => ⟨fun q => by (cases q), fun q => absurd q (by rw [e0]; decide)⟩, fun _ => rfl⟩)
      · rw [e0, if_pos rfl]
        cases b' with
        | true =>
          rw [if_pos (show bI true = 1 by decide), ← bI_t]
          exact ih (j + 1) true hA hB (hnew true ⟨fun _ => ⟨fun _ => e0, fun _ => rfl⟩, fun _ => rfl⟩)
        | false =>
          rw [if_neg (show ¬ bI false = 1 by decide), ← bI_f]
          exact ih (j + 1) false hA hB (hnew false ⟨fun q => by (cases q), fun q => absurd (q.mpr e0) (by decide)⟩)
theorem fits_v {i k : Nat} {p : Nat → Nat} {path sp sg : Nat → Int32} {sG sC : Int64} {sN ys : Int32} (hS : SN k sG sC sN sp sg ys) (hi : i ≤ 9) (hi1 : 1 ≤ i) (hr : ∀ j, j < i → p j < 36 ∧ path j = nI (p j)) (hw : ∀ j, j + 1 < i → ew (p j) (p (j + 1)) ≠ 64) :
    ∃ b' : Bool, fX10_fits sp sg (nI k) path (nI i) = some (bI b') ∧ (b' = true ↔ ∀ m, m < k → OKm i p sp sg m) := by
  unfold fX10_fits
  exact fits_l hS hi hi1 hr hw 4000 0 true (Nat.zero_le _) (by have := hS.1; omega) ⟨fun _ m hm => by omega, fun _ => rfl⟩
