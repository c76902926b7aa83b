-- FIT: the class's weighing of a whole trial
theorem weigh_no {i k mi : Nat} {p : Nat → Nat} {row brow sp sg : Nat → Int32} {pl st sG sC bpl bst : Int64} {bsz sN ys fit hs : Int32} (h : FW i p row (nI i) pl st) (hS : SN k sG sC sN sp sg ys) (hno : ¬ ∀ m, m < k → OKm i p sp sg m) :
    fX4_weigh row (nI i) pl st brow bsz bpl bst (nI i) fit hs (nI mi) sG sC = some (brow, bsz, bpl, bst, fit, hs) := by
  have hm := fun q => hno ((masks_v h hS).mp q)
  unfold fX4_weigh
  rw [ring_v h, o1, lets_eq]
  by_cases y : (st ||| eV (rgv i p)) &&& sC = 0
  · rw [if_pos (lg0.mpr y), if_neg (fun q => hm ⟨y, lg0.mp q⟩)]
  · rw [if_neg (fun q => y (lg0.mp q))]
theorem weigh_yes {i k mi : Nat} {p : Nat → Nat} {row brow sp sg : Nat → Int32} {pl st sG sC bpl bst : Int64} {bsz sN ys fit hs : Int32} (h : FW i p row (nI i) pl st) (hmi : mi < 36) (hS : SN k sG sC sN sp sg ys) (hok : ∀ m, m < k → OKm i p sp sg m) :
    ((∀ j, j < i → p j ≠ mi) → fX4_weigh row (nI i) pl st brow bsz bpl bst (nI i) fit hs (nI mi) sG sC = some (brow, bsz, bpl, bst, fit + 1, hs)) ∧
    ∀ j, j < i → p j = mi → fX4_weigh row (nI i) pl st brow bsz bpl bst (nI i) fit hs (nI mi) sG sC = some (if nI (hrd i p j) ≤ hs then (brow, bsz, bpl, bst, fit + 1, hs) else (va_cpy row brow (0 : Int32).toNatClampNeg (0 : Int32).toNatClampNeg (36 : Int32).toNatClampNeg, nI i, pl, st, fit + 1, nI (hrd i p j))) := by
  obtain ⟨y1, y2⟩ := (masks_v h hS).mpr hok
  have h36 := h.1
  have hrl := rgv_le h
  obtain ⟨c1, c2⟩ := place_c (n := i) (row := row) (p := p) 4000 0 mi h.2.2.1 h36 hmi (Nat.zero_le _) (by omega)
  rw [nI_z] at c1 c2
  unfold fX4_weigh fX2_placeOf
  rw [ring_v h, o1, lets_eq, if_pos (lg0.mpr y1), if_pos (lg0.mpr y2), lets_eq]
  refine ⟨fun hn => ?_, fun j hj hpj => ?_⟩
  · rw [c1 (fun m _ hm => hn m hm), o1]
    unfold fX4_weigh_94
    by_cases z : lg_cmp (eV (rgv i p)) 0 = 0
    · rw [if_pos z, if_pos (by decide)]
    · rw [if_neg z, if_pos (by decide)]
  · rw [c2 j (Nat.zero_le _) hj hpj (fun m _ hm e => by have := h.2.2.2.1 m j (by omega) hj (e.trans hpj.symm); omega), o1]
    unfold fX4_weigh_94 fX2_copy
    have hs0 : (if lg_cmp (eV (rgv i p)) 0 = 0 then nI j else if nI i - nI j < nI j then nI i - nI j else nI j) = nI (hrd i p j) := by
      unfold hrd
      by_cases z : rgv i p = 64
      · rw [if_pos (lg0.mpr ((eV_0 hrl).mpr z)), if_neg (fun q => q.1 z)]
      · rw [if_neg (fun q => z ((eV_0 hrl).mp (lg0.mp q))), pk_sub (by omega)]
        by_cases w : i - j < j
        · rw [if_pos ((nlt _ _ (by omega) (by omega)).mpr w), if_pos ⟨z, w⟩]
        · rw [if_neg (fun q => w ((nlt _ _ (by omega) (by omega)).mp q)), if_neg (fun q => w q.2)]
    rw [if_neg (nI_pos (by omega)), if_neg (nI_pos (by omega))]
    by_cases z : lg_cmp (eV (rgv i p)) 0 = 0
    · rw [if_pos z] at hs0 ⊢
      rw [hs0]
      by_cases w : nI (hrd i p j) ≤ hs
      · rw [if_pos w, if_pos w]
      · rw [if_neg w, if_neg w, o4]
    · rw [if_neg z] at hs0 ⊢
      rw [hs0]
      by_cases w : nI (hrd i p j) ≤ hs
      · rw [if_pos w, if_pos w]
      · rw [if_neg w, if_neg w, o4]
