-- FIT: one turn of the model's search
section It
variable {yset sp sg path sides hd : Nat → Int32} {hs ys x3 : Int32} {many k s : Nat} {p : Nat → Nat}
theorem it_pop (N : Nat) (hk : k < 9) (hsd : sides k + 1 = nI 4) : fX10_findFits_24 yset sp sg ys (N + 1) path sides hd hs (nI many) x3 (nI k) = fX10_findFits_24 yset sp sg ys N path (upd sides k (nI 4)) hd hs (nI many) x3 (nI k + (-1 : Int32)) := by
  have hI : inb (nI k) 9 = true := inb_n hk (by decide)
  rw [fX10_findFits_24, if_neg (nI_pos (by omega)), if_pos hI, cl_n (by omega), hsd, lets_eq, if_pos hI, if_pos hI, upd_s, if_pos (show nI 4 = 4 from rfl)]
theorem it_skip (N : Nat) (hk : k < 9) (hs4 : s < 4) (hsd : sides k + 1 = nI s) (hp : ∀ j, j < k + 1 → p j < 36 ∧ path j = nI (p j)) (h : nx (p k) s = 36 ∨ ∃ j, j < k + 1 ∧ p j = nx (p k) s) : fX10_findFits_24 yset sp sg ys (N + 1) path sides hd hs (nI many) x3 (nI k) = fX10_findFits_24 yset sp sg ys N path (upd sides k (nI s)) hd hs (nI many) x3 (nI k) := by
  have hI : inb (nI k) 9 = true := inb_n hk (by decide)
  have hq := (hp k (by omega)).1
  have hle := tb_n1 _ hq s hs4
  rw [fX10_findFits_24, if_neg (nI_pos (by omega)), if_pos hI, cl_n (by omega), hsd, lets_eq, if_pos hI, if_pos hI, upd_s, if_neg (eqF (c := 4) (C := 4) rfl (by omega) (by omega) (by decide)), if_pos hI, if_pos hI, (hp k (by omega)).2, tb_nextTo _ hq s hs4, o1]
  by_cases hn : nx (p k) s = 36
  · rw [if_pos hn, if_pos (by decide)]
  · have hex := h.resolve_left hn
    obtain ⟨b', e1, e2⟩ := inpath_v (i := k + 1) (by omega) (show nx (p k) s < 36 by omega) hp
    rw [if_neg hn, if_neg (nI_pos (by omega)), nI_1, e1, o1, e2.mpr hex, if_neg (show ¬ bI true = 0 by decide)]
theorem it_down (N : Nat) (hk : k + 2 < many) (hm9 : many ≤ 9) (hs4 : s < 4) (hsd : sides k + 1 = nI s) (hp : ∀ j, j < k + 1 → p j < 36 ∧ path j = nI (p j)) (hn : nx (p k) s ≠ 36) (hno : ∀ j, j < k + 1 → p j ≠ nx (p k) s) : fX10_findFits_24 yset sp sg ys (N + 1) path sides hd hs (nI many) x3 (nI k) = fX10_findFits_24 yset sp sg ys N (upd path (k + 1) (nI (nx (p k) s))) (upd (upd sides k (nI s)) (k + 1) (-1)) hd hs (nI many) x3 (nI (k + 1)) := by
  have hI : inb (nI k) 9 = true := inb_n (by omega) (by decide)
  have hI1 : inb (nI (k + 1)) 9 = true := inb_n (by omega) (by decide)
  have hq := (hp k (by omega)).1
  have hle := tb_n1 _ hq s hs4
  obtain ⟨b', e1, e2⟩ := inpath_v (i := k + 1) (by omega) (show nx (p k) s < 36 by omega) hp
  have hb : b' = false := by
    cases b' with
    | false => rfl
    | true => obtain ⟨j, hj, e⟩ := e2.mp rfl; exact absurd e (hno j hj)
  rw [fX10_findFits_24, if_neg (nI_pos (by omega)), if_pos hI, cl_n (by omega), hsd, lets_eq, if_pos hI, if_pos hI, upd_s, if_neg (eqF (c := 4) (C := 4) rfl (by omega) (by omega) (by decide)), if_pos hI, if_pos hI, (hp k (by omega)).2, tb_nextTo _ hq s hs4, o1, if_neg hn, if_neg (nI_pos (by omega)), nI_1, e1, o1, hb, if_pos (show bI false = 0 by decide), if_pos hI1, show nI k + (2 : Int32) = nI (k + 2) from by show nI k + nI 2 = _; rw [nI_add], if_neg (nleF hk (by omega)), if_pos hI1, cl_n (by omega)]
  rfl
end It
