-- FIT: what the model asks of a path
theorem inpath_l {i : Nat} {p : Nat → Nat} {path : Nat → Int32} {q : Nat} (hi : i ≤ 9) (hq : q < 36) (hr : ∀ j, j < i → p j < 36 ∧ path j = nI (p j)) : ∀ N k (b : Bool), k ≤ i → i + 1 ≤ k + N → (b = true ↔ ∃ j, j < k ∧ p j = q) → ∃ b' : Bool, fX10_isInPath_5 path N (nI q) (nI i) (bI b) (nI k) = some (bI b') ∧ (b' = true ↔ ∃ j, j < i ∧ p j = q) := by
  intro N
  induction N with
  | zero => intro k b h1 h2; omega
  | succ N ih =>
    intro k b h1 h2 hb
    rw [fX10_isInPath_5]
    by_cases z : k = i
    · subst z
      rw [if_pos (nleT (Nat.le_refl _) (by omega)), if_pos (isB_bI b)]
      exact ⟨b, rfl, hb⟩
    · rw [if_neg (nleF (by omega) (by omega))]
      unfold fX10_isInPath_26 fX10_isInPath_31
      rw [nI_1]
      have hk := hr k (by omega)
      have hA : k + 1 ≤ i := by omega
      have hB : i + 1 ≤ k + 1 + N := by omega
      cases b with
      | true =>
        rw [if_neg (show ¬ bI true = 0 by decide), ← bI_t]
        refine ih (k + 1) true hA hB ⟨fun _ => ?_, fun _ => rfl⟩
        obtain ⟨j, hj, e⟩ := hb.mp rfl
        exact ⟨j, by omega, e⟩
      | false =>
        have hno : ∀ j, j < k → p j ≠ q := fun j hj e => by have := hb.mpr ⟨j, hj, e⟩; cases this
        rw [if_pos (show bI false = 0 by decide), if_pos (inb_n (by omega) (by decide)), cl_n (by omega), hk.2]
        by_cases y : p k = q
        · rw [if_pos (by rw [y]), ← bI_t]
          exact ih (k + 1) true hA hB ⟨fun _ => ⟨k, by omega, y⟩, fun _ => rfl⟩
        · rw [if_neg (fun x => y ((nI_eq (by omega) (by omega)).mp x)), ← bI_f]
          refine ih (k + 1) false hA hB ⟨fun x => by (cases x), fun ⟨j, hj, e⟩ => ?_⟩
          exfalso
          by_cases x : j = k
          · subst x; exact y e
          · exact hno j (by omega) e
theorem inpath_v {i : Nat} {p : Nat → Nat} {path : Nat → Int32} {q : Nat} (hi : i ≤ 9) (hq : q < 36) (hr : ∀ j, j < i → p j < 36 ∧ path j = nI (p j)) : ∃ b' : Bool, fX10_isInPath path (nI q) (nI i) = some (bI b') ∧ (b' = true ↔ ∃ j, j < i ∧ p j = q) := by
  unfold fX10_isInPath
  exact inpath_l hi hq hr 4000 0 false (Nat.zero_le _) (by omega) ⟨fun x => by (cases x), fun ⟨j, hj, _⟩ => by omega⟩
theorem pround_v {i : Nat} {p : Nat → Nat} {path : Nat → Int32} (hi : i ≤ 9) (hr : ∀ j, j < i → p j < 36 ∧ path j = nI (p j)) : fX10_isPathRound path (nI i) = some (bI (decide (rgv i p ≠ 64))) := by
  unfold fX10_isPathRound rgv
  by_cases h4 : i < 4
  · rw [if_pos (ltT (c := 4) (C := 4) rfl h4 (by decide)), if_neg (show ¬ 4 ≤ i by omega)]; rfl
  · obtain ⟨j, rfl⟩ : ∃ j, i = j + 1 := ⟨i - 1, by omega⟩
    have h0 := hr 0 (by omega)
    have hj := hr j (by omega)
    rw [if_neg (ltF (c := 4) (C := 4) rfl (by omega) (by omega)), if_pos (show 4 ≤ j + 1 by omega), m1, if_pos (inb_n (by omega) (by decide)), cl_n (by omega), show (0 : Int32).toNatClampNeg = 0 from rfl, hj.2, h0.2]
    obtain ⟨hs1, hs2⟩ := tb_sideTo (p j) hj.1 (p 0) h0.1
    cases hv : fX10_sideTo (nI (p j)) (nI (p 0)) with
    | none => rw [hv] at hs1; cases hs1
    | some v =>
      rw [o1, show j + 1 - 1 = j from rfl]
      by_cases z : v < 0
      · rw [if_pos z, decide_eq_false (fun y => y ((hs2 v hv).mp z))]; rfl
      · rw [if_neg z, decide_eq_true (show ew (p j) (p 0) ≠ 64 from fun y => z ((hs2 v hv).mpr y))]; rfl
/-- the pair between two squares told of -/
theorem tb_pairTo : ∀ q, q < 36 → ∀ r, r < 36 → ew q r ≠ 64 → (match fX10_sideTo (nI q) (nI r) with | none => none | some v => fX10_pairOf (nI q) v) = (match (List.range 72).find? (fun x => vpr x && decide (pb x = ew q r)) with | none => none | some x => some (nI x)) := by decide +kernel
