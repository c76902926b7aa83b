-- FIT: the model's judge of a path
theorem judge61 (K : (Nat → Int32) → Int32 → Int32 → Int32 → Option ((Nat → Int32) × Int32)) (path : Nat → Int32) (hs x2 : Int32) {i : Nat} (hi : i ≤ 9) : ∀ N k (hd : Nat → Int32), k ≤ i → i + 1 ≤ k + N → (∀ m, m < k → hd m = path m) → ∃ hd', fX10_judge_61 K path N hd hs (nI i) x2 (nI k) = K hd' hs (nI i) (x2 + 1) ∧ ∀ m, m < i → hd' m = path m := by
  intro N
  induction N with
  | zero => intro k hd h1 h2; omega
  | succ N ih =>
    intro k hd h1 h2 h3
    rw [fX10_judge_61]
    by_cases z : k = i
    · subst z
      rw [if_pos (nleT (Nat.le_refl _) (by omega))]
      exact ⟨hd, rfl, h3⟩
    · have hI : inb (nI k) 9 = true := inb_n (by omega) (by decide)
      rw [if_neg (nleF (by omega) (by omega)), if_pos hI, lets_eq, if_pos hI, cl_n (by omega), nI_1]
      refine ih (k + 1) _ (by omega) (by omega) (fun m hm => ?_)
      by_cases y : m = k
      · subst y; exact upd_s _ _ _
      · rw [upd_n _ _ y]; exact h3 m (by omega)
theorem judge_no {yset path : Nat → Int32} {p : Nat → Nat} {i mi : Nat} (hi : i ≤ 9) (hy : yset 1 = nI mi) (hmi : mi < 36) (hr : ∀ j, j < i → p j < 36 ∧ path j = nI (p j)) : ∀ N k (hd : Nat → Int32) (hs : Int32), k ≤ i → i + 1 ≤ k + N → (∀ j, k ≤ j → j < i → p j ≠ mi) → fX10_judge_2 yset path N hd hs (nI i) (nI k) = some (hd, hs) := by
  intro N
  induction N with
  | zero => intro k hd hs h1 h2; omega
  | succ N ih =>
    intro k hd hs h1 h2 h3
    rw [fX10_judge_2]
    by_cases z : k = i
    · subst z
      rw [if_pos (nleT (Nat.le_refl _) (by omega))]
    · have hk := hr k (by omega)
      have hne := h3 k (Nat.le_refl _) (by omega)
      rw [if_neg (nleF (by omega) (by omega)), if_pos (inb_n (by omega) (by decide)), cl_n (by omega), hk.2, show (1 : Int32).toNatClampNeg = 1 from rfl, hy, if_neg (fun q => hne ((nI_eq (by omega) (by omega)).mp q))]
      unfold fX10_judge_87
      rw [nI_1]
      exact ih (k + 1) hd hs (by omega) (by omega) (fun j a b => h3 j (by omega) b)
