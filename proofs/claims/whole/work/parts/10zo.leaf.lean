-- FIT: the model at a whole path
theorem it_leaf {yset sp sg path sides hd : Nat → Int32} {hs ys x3 : Int32} {many k s : Nat} {p : Nat → Nat} (N : Nat) (hk : k + 2 = many) (hm9 : many ≤ 9) (hs4 : s < 4) (hsd : sides k + 1 = nI s) (hp : ∀ j, j < k + 1 → p j < 36 ∧ path j = nI (p j)) (hn : nx (p k) s ≠ 36) (hno : ∀ j, j < k + 1 → p j ≠ nx (p k) s) {b : Bool} (hb : fX10_fits sp sg ys (upd path (k + 1) (nI (nx (p k) s))) (nI many) = some (bI b)) :
    (b = false → fX10_findFits_24 yset sp sg ys (N + 1) path sides hd hs (nI many) x3 (nI k) = fX10_findFits_24 yset sp sg ys N (upd path (k + 1) (nI (nx (p k) s))) (upd sides k (nI s)) hd hs (nI many) x3 (nI k)) ∧
    ∀ hd' hs', b = true → fX10_judge yset (upd path (k + 1) (nI (nx (p k) s))) hd hs (nI many) = some (hd', hs') → fX10_findFits_24 yset sp sg ys (N + 1) path sides hd hs (nI many) x3 (nI k) = fX10_findFits_24 yset sp sg ys N (upd path (k + 1) (nI (nx (p k) s))) (upd sides k (nI s)) hd' hs' (nI many) (x3 + 1) (nI k) := by
  have hI : inb (nI k) 9 = true := inb_n (by omega) (by decide)
  have hI1 : inb (nI (k + 1)) 9 = true := inb_n (by omega) (by decide)
  have hq := (hp k (by omega)).1
  have hle := tb_n1 _ hq s hs4
  obtain ⟨b', e1, e2⟩ := inpath_v (i := k + 1) (by omega) (show nx (p k) s < 36 by omega) hp
  have hb0 : b' = false := by
    cases b' with
    | false => rfl
    | true => obtain ⟨j, hj, e⟩ := e2.mp rfl; exact absurd e (hno j hj)
  rw [fX10_findFits_24, if_neg (nI_pos (by omega)), if_pos hI, cl_n (by omega), hsd, lets_eq, if_pos hI, if_pos hI, upd_s, if_neg (eqF (c := 4) (C := 4) rfl (by omega) (by omega) (by decide)), if_pos hI, if_pos hI, (hp k (by omega)).2, tb_nextTo _ hq s hs4, o1, if_neg hn, if_neg (nI_pos (by omega)), nI_1, e1, o1, hb0, if_pos (show bI false = 0 by decide), if_pos hI1, show nI k + (2 : Int32) = nI (k + 2) from by show nI k + nI 2 = _; rw [nI_add], if_pos (nleT (by omega) (by omega)), cl_n (by omega), hb, o1]
  unfold fX10_findFits_146
  refine ⟨fun h => ?_, fun hd' hs' h hj => ?_⟩
  · rw [h, if_pos (show bI false = 0 by decide)]
  · rw [h, if_neg (show ¬ bI true = 0 by decide), hj, o2]
