-- FIT: whether a path has a pair
def chk (q r : Nat) : Bool := match fX10_sideTo (nI q) (nI r) with | none => false | some v => match fX10_pairOf (nI q) v with | none => false | some w => (List.range 72).any (fun x => decide (nI x = w) && vpr x && decide (pb x = ew q r))
theorem tb_chk : ∀ q, q < 36 → ∀ r, r < 36 → ew q r ≠ 64 → chk q r = true := by decide +kernel
theorem pairTo_v {q r : Nat} (hq : q < 36) (hr : r < 36) (h : ew q r ≠ 64) : ∃ v x, fX10_sideTo (nI q) (nI r) = some v ∧ fX10_pairOf (nI q) v = some (nI x) ∧ x < 72 ∧ vpr x = true ∧ pb x = ew q r := by
  have hc := tb_chk q hq r hr h
  unfold chk at hc
  cases h1 : fX10_sideTo (nI q) (nI r) with
  | none => rw [h1] at hc; cases hc
  | some v =>
    rw [h1] at hc
    simp only at hc
    cases h2 : fX10_pairOf (nI q) v with
    | none => rw [h2] at hc; cases hc
    | some w =>
      rw [h2] at hc
      simp only [List.any_eq_true, List.mem_range, Bool.and_eq_true, decide_eq_true_eq] at hc
      obtain ⟨x, hx, ⟨e, hv⟩, hp⟩ := hc
      exact ⟨v, x, rfl, by rw [e, h2], hx, hv, hp⟩
theorem haspair_l {i pr : Nat} {p : Nat → Nat} {path : Nat → Int32} (hi : i ≤ 9) (hi1 : 1 ≤ i) (hr : ∀ j, j < i → p j < 36 ∧ path j = nI (p j)) (hw : ∀ j, j + 1 < i → ew (p j) (p (j + 1)) ≠ 64) (hp : pr < 72) (hv : vpr pr = true) :
    ∀ N k (b : Bool), k + 1 ≤ i → i ≤ k + N → (b = true ↔ ∃ j, j < k ∧ ew (p j) (p (j + 1)) = pb pr) → ∃ b' : Bool, fX10_hasPair_5 path N (nI pr) (nI i) (bI b) (nI k) = some (bI b') ∧ (b' = true ↔ (∃ j, j + 1 < i ∧ ew (p j) (p (j + 1)) = pb pr) ∨ rgv i p = pb pr) := by
  intro N
  induction N with
  | zero => intro k b h1 h2; omega
  | succ N ih =>
    intro k b h1 h2 hb
    rw [fX10_hasPair_5, nI_1]
    have h60 := (tb_vp pr hp hv).1
    by_cases z : k + 1 = i
    · subst z
      rw [if_pos (nleT (Nat.le_refl _) (by omega))]
      have hbb : b = true ↔ ∃ j, j + 1 < k + 1 ∧ ew (p j) (p (j + 1)) = pb pr := hb.trans ⟨fun ⟨j, a, e⟩ => ⟨j, by omega, e⟩, fun ⟨j, a, e⟩ => ⟨j, by omega, e⟩⟩
      cases b with
      | true =>
        rw [if_neg (show ¬ bI true = 0 by decide)]
        exact ⟨true, rfl, fun _ => Or.inl (hbb.mp rfl), fun _ => rfl⟩
      | false =>
        have hno : ¬ ∃ j, j + 1 < k + 1 ∧ ew (p j) (p (j + 1)) = pb pr := fun e => by have := hbb.mpr e; cases this
        rw [if_pos (show bI false = 0 by decide), pround_v hi hr, o1]
        by_cases y : rgv (k + 1) p ≠ 64
        · have h4 : 4 ≤ k + 1 := Classical.byContradiction fun q => y (by unfold rgv; rw [if_neg q])
          have hre : rgv (k + 1) p = ew (p k) (p 0) := by unfold rgv; rw [if_pos h4]; rfl
          have ha := hr k (by omega)
          have h0 := hr 0 (by omega)
          obtain ⟨v, x, e1, e2, e3, e4, e5⟩ := pairTo_v ha.1 h0.1 (by rw [← hre]; exact y)
          rw [decide_eq_true y, if_neg (show ¬ bI true = 0 by decide), m1, if_pos (inb_n (by omega) (by decide)), if_pos (inb_n (by omega) (by decide)), cl_n (by omega), show (0 : Int32).toNatClampNeg = 0 from rfl, ha.2, h0.2, e1, o1, e2, o1]
          by_cases w : x = pr
          · rw [if_pos (by rw [w])]
            exact ⟨true, rfl, fun _ => Or.inr (by rw [hre, ← e5, w]), fun _ => rfl⟩
          · rw [if_neg (fun q => w ((nI_eq (by omega) (by omega)).mp q))]
            refine ⟨false, rfl, fun q => by (cases q), fun q => ?_⟩
            rcases q with q | q
            · exact absurd q hno
            · exact absurd (tb_pb x e3 pr hp e4 hv (by rw [e5, ← hre, q])) w
        · rw [decide_eq_false y, if_pos (show bI false = 0 by decide)]
          refine ⟨false, rfl, fun q => by (cases q), fun q => ?_⟩
          rcases q with q | q
          · exact absurd q hno
          · have y' : rgv (k + 1) p = 64 := Classical.byContradiction fun q => y q
            omega
    · rw [if_neg (nleF (by omega) (by omega))]
      unfold fX10_hasPair_50 fX10_hasPair_55
      have hA : k + 1 + 1 ≤ i := by omega
      have hB : i ≤ k + 1 + N := by omega
      cases b with
      | true =>
        rw [if_neg (show ¬ bI true = 0 by decide), nI_1, ← bI_t]
        refine ih (k + 1) true hA hB ⟨fun _ => ?_, fun _ => rfl⟩
        obtain ⟨j, hj, e⟩ := hb.mp rfl
        exact ⟨j, by omega, e⟩
      | false =>
        have hno : ∀ j, j < k → ew (p j) (p (j + 1)) ≠ pb pr := fun j hj e => by have := hb.mpr ⟨j, hj, e⟩; cases this
        have ha := hr k (by omega)
        have hb1 := hr (k + 1) (by omega)
        obtain ⟨v, x, e1, e2, e3, e4, e5⟩ := pairTo_v ha.1 hb1.1 (hw k (by omega))
        have hI1 : inb (nI k) 9 = true := inb_n (by omega) (by decide)
        have hI2 : inb (nI (k + 1)) 9 = true := inb_n (by omega) (by decide)
        rw [if_pos (show bI false = 0 by decide)]
        simp only [hI1, hI2, ↓reduceIte]
        rw [cl_n (show k < 2 ^ 31 by omega), cl_n (show k + 1 < 2 ^ 31 by omega), ha.2, hb1.2, e1, o1, e2, o1]
        by_cases w : x = pr
        · rw [if_pos (by rw [w]), nI_1, ← bI_t]
          exact ih (k + 1) true hA hB ⟨fun _ => ⟨k, by omega, by rw [← e5, w]⟩, fun _ => rfl⟩
        · rw [if_neg (fun q => w ((nI_eq (by omega) (by omega)).mp q)), nI_1, ← bI_f]
          refine ih (k + 1) false hA hB ⟨fun q => by (cases q), fun ⟨j, hj, e⟩ => ?_⟩
          exfalso
          by_cases y : j = k
          · subst y; exact w (tb_pb x e3 pr hp e4 hv (by rw [e5, e]))
          · exact hno j (by omega) e
theorem haspair_v {i pr : Nat} {p : Nat → Nat} {path : Nat → Int32} (hi : i ≤ 9) (hi1 : 1 ≤ i) (hr : ∀ j, j < i → p j < 36 ∧ path j = nI (p j)) (hw : ∀ j, j + 1 < i → ew (p j) (p (j + 1)) ≠ 64) (hp : pr < 72) (hv : vpr pr = true) :
    ∃ b' : Bool, fX10_hasPair path (nI pr) (nI i) = some (bI b') ∧ (b' = true ↔ (∃ j, j + 1 < i ∧ ew (p j) (p (j + 1)) = pb pr) ∨ rgv i p = pb pr) := by
  unfold fX10_hasPair
  exact haspair_l hi hi1 hr hw hp hv 4000 0 false (by omega) (by omega) ⟨fun x => by (cases x), fun ⟨j, hj, _⟩ => by omega⟩
