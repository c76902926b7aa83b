-- STEPS of the sheets
theorem nI_lits : nI 0 = 0 ∧ nI 1 = 1 ∧ nI 2 = 2 ∧ nI 3 = 3 := ⟨rfl, rfl, rfl, rfl⟩
theorem lane_t (t : Nat) (h : t < 3) : 0 ≤ nI t ∧ ¬ nI t = -1 := by
  rcases (show t = 0 ∨ t = 1 ∨ t = 2 by omega) with rfl | rfl | rfl <;> decide
theorem isThere_1 : fX5_isThere (-1) = some 0 := by decide
theorem isThere_t {t : Nat} (h : t < 3) : fX5_isThere (nI t) = some 1 := by
  unfold fX5_isThere
  rw [if_neg (lane_t t h).2]
theorem inb_n {j n : Nat} (h : j < n) (hn : n < 2 ^ 31) : inb (nI j) n = true := by
  have h1 := vp_in_nI h hn
  unfold vp_in at h1
  unfold inb
  simp only [Bool.not_eq_true', Bool.or_eq_false_iff, decide_eq_false_iff_not]
  exact ⟨fun q => h1 (Or.inl q), fun q => h1 (Or.inr q)⟩
theorem cl_n {j : Nat} (h : j < 2 ^ 31) : (nI j).toNatClampNeg = j := nI_clamp h
theorem SH.congr {j : Nat} {items : Nat → Int32} {lane size : Int32} {yl yr yi yl' yr' yi' : Nat → Int32} (h : SH j items lane size yl yr yi) (e1 : yl' j = yl j) (e2 : yr' j = yr j) (e3 : ∀ i, i < 36 → yi' (36 * j + i) = yi (36 * j + i)) : SH j items lane size yl' yr' yi' := by
  obtain ⟨h1, h2⟩ := h
  refine ⟨by rw [e1]; exact h1, h2.imp id ?_⟩
  rintro ⟨t, z, a1, a2, a3, a4, a5, a6⟩
  exact ⟨t, z, a1, a2, a3, a4, by rw [e2]; exact a5, fun i hi => by rw [e3 i hi]; exact a6 i hi⟩
theorem upd_s (f : Nat → Int32) (k : Nat) (v : Int32) : upd f k v k = v := pk_us
theorem upd_n (f : Nat → Int32) {k j : Nat} (v : Int32) (h : j ≠ k) : upd f k v j = f j := pk_un h
set_option maxHeartbeats 1000000 in
theorem step_drop : STEP_drop R4d := by
  intro l0 s0 i0 l1 s1 i1 l2 s2 i2 l3 s3 i3 yl yr yi a0 ⟨h0, h1, h2, h3⟩
  rcases ir_or a0 4 (by decide) with ha | ⟨j, hj, rfl⟩
  · simp only [fX9_drop, fX10_drop, X9_isSheet, X10_in3, ha, bI_f, ob1, if_true]
    exact ⟨_, _, _, _, _, _, _, _, _, _, rfl, rfl, h0, h1, h2, h3⟩
  · have hb : inb (nI j) 4 = true := inb_n hj (by decide)
    simp only [fX9_drop, fX10_drop, X9_isSheet, X10_in3, ir_n hj (by decide : 4 < 2 ^ 31), bI_t, ob1, i10, if_false, hb, if_true, cl_n (show j < 2 ^ 31 by omega)]
    rcases (show j = 0 ∨ j = 1 ∨ j = 2 ∨ j = 3 by omega) with rfl | rfl | rfl | rfl
    · obtain ⟨rfl, hh⟩ := h0
      rcases hh with e | ⟨t, z, ht, e, hz, rfl, ez, hi⟩
      · rw [e, isThere_1]
        simp (decide := true) only [nI_lits, ob1, if_true, if_false]
        exact ⟨_, _, _, _, _, _, _, _, _, _, rfl, rfl, ⟨e.symm, Or.inl rfl⟩, h1, h2, h3⟩
      · rw [e, isThere_t ht, ez]
        simp (decide := true) only [nI_lits, ob1, ob2, fX5_empty, if_true, if_false, (lane_t t ht).1]
        exact ⟨_, _, _, _, _, _, _, _, _, _, rfl, rfl, ⟨upd_s _ _ _ |>.symm, Or.inl rfl⟩, h1.congr (upd_n _ _ (by decide)) rfl (fun _ _ => rfl), h2.congr (upd_n _ _ (by decide)) rfl (fun _ _ => rfl), h3.congr (upd_n _ _ (by decide)) rfl (fun _ _ => rfl)⟩
    · obtain ⟨rfl, hh⟩ := h1
      rcases hh with e | ⟨t, z, ht, e, hz, rfl, ez, hi⟩
      · rw [e, isThere_1]
        simp (decide := true) only [nI_lits, ob1, if_true, if_false]
        exact ⟨_, _, _, _, _, _, _, _, _, _, rfl, rfl, h0, ⟨e.symm, Or.inl rfl⟩, h2, h3⟩
      · rw [e, isThere_t ht, ez]
        simp (decide := true) only [nI_lits, ob1, ob2, fX5_empty, if_true, if_false, (lane_t t ht).1]
        exact ⟨_, _, _, _, _, _, _, _, _, _, rfl, rfl, h0.congr (upd_n _ _ (by decide)) rfl (fun _ _ => rfl), ⟨upd_s _ _ _ |>.symm, Or.inl rfl⟩, h2.congr (upd_n _ _ (by decide)) rfl (fun _ _ => rfl), h3.congr (upd_n _ _ (by decide)) rfl (fun _ _ => rfl)⟩
    · obtain ⟨rfl, hh⟩ := h2
      rcases hh with e | ⟨t, z, ht, e, hz, rfl, ez, hi⟩
      · rw [e, isThere_1]
        simp (decide := true) only [nI_lits, ob1, if_true, if_false]
        exact ⟨_, _, _, _, _, _, _, _, _, _, rfl, rfl, h0, h1, ⟨e.symm, Or.inl rfl⟩, h3⟩
      · rw [e, isThere_t ht, ez]
        simp (decide := true) only [nI_lits, ob1, ob2, fX5_empty, if_true, if_false, (lane_t t ht).1]
        exact ⟨_, _, _, _, _, _, _, _, _, _, rfl, rfl, h0.congr (upd_n _ _ (by decide)) rfl (fun _ _ => rfl), h1.congr (upd_n _ _ (by decide)) rfl (fun _ _ => rfl), ⟨upd_s _ _ _ |>.symm, Or.inl rfl⟩, h3.congr (upd_n _ _ (by decide)) rfl (fun _ _ => rfl)⟩
    · obtain ⟨rfl, hh⟩ := h3
      rcases hh with e | ⟨t, z, ht, e, hz, rfl, ez, hi⟩
      · rw [e, isThere_1]
        simp (decide := true) only [nI_lits, ob1, if_true, if_false]
        exact ⟨_, _, _, _, _, _, _, _, _, _, rfl, rfl, h0, h1, h2, ⟨e.symm, Or.inl rfl⟩⟩
      · rw [e, isThere_t ht, ez]
        simp (decide := true) only [nI_lits, ob1, ob2, fX5_empty, if_true, if_false, (lane_t t ht).1]
        exact ⟨_, _, _, _, _, _, _, _, _, _, rfl, rfl, h0.congr (upd_n _ _ (by decide)) rfl (fun _ _ => rfl), h1.congr (upd_n _ _ (by decide)) rfl (fun _ _ => rfl), h2.congr (upd_n _ _ (by decide)) rfl (fun _ _ => rfl), ⟨upd_s _ _ _ |>.symm, Or.inl rfl⟩⟩
