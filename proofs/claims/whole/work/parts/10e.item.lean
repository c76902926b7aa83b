-- STEP of item; what go and film need of sheets
theorem trouble_eq {j t' w : Nat} {items : Nat → Int32} {lane size from_ : Int32} {yl yr yi : Nat → Int32} (h : SH j items lane size yl yr yi) (hj : j < 4) (ht : t' < 3) (hw : w ≤ 36) :
    (∃ r : Int32, r < 0 ∧ fX5_trouble lane size (nI t') from_ (nI w) = some r ∧ fX10_lacksRow yl yr (nI j) (nI t') from_ (nI w) = some r) ∨
    (fX5_trouble lane size (nI t') from_ (nI w) = some 0 ∧ fX10_lacksRow yl yr (nI j) (nI t') from_ (nI w) = some 0 ∧ ∃ f z : Nat, from_ = nI f ∧ f + w ≤ z ∧ z ≤ 36 ∧ lane = nI t' ∧ size = nI z ∧ yr j = nI z ∧ ∀ i, i < 36 → items i = yi (36 * j + i)) := by
  have hb : inb (nI j) 4 = true := inb_n hj (by decide)
  have hcl := cl_n (show j < 2 ^ 31 by omega)
  obtain ⟨h1, h2⟩ := h
  rcases h2 with e | ⟨t, z, a1, a2, a3, a4, a5, a6⟩
  · refine Or.inl ⟨-11, by decide, ?_, ?_⟩
    · unfold fX5_trouble
      rw [e, isThere_1]
      simp only [ob1, if_true]
    · unfold fX10_lacksRow
      rw [if_pos hb, hcl, ← h1, e, if_neg (fun q => (lane_t t' ht).2 q.symm), if_pos hb, if_neg (by decide)]
  · by_cases htt : t = t'
    · subst htt
      have e1 : fX5_trouble lane size (nI t) from_ (nI w) = some (if 0 ≤ from_ ∧ from_ ≤ nI z - nI w then 0 else -13) := by
        unfold fX5_trouble
        rw [a2, isThere_t a1, a4]
        simp only [ob1, i10, if_false, if_true]
        by_cases q : from_ < 0
        · have q2 : ¬ 0 ≤ from_ := by rw [Int32.not_le]; exact q
          simp [q, q2]
        · have q2 : 0 ≤ from_ := by rw [Int32.not_lt] at q; exact q
          by_cases q3 : from_ ≤ nI z - nI w <;> simp [q, q2, q3]
      have e2 : fX10_lacksRow yl yr (nI j) (nI t) from_ (nI w) = some (if 0 ≤ from_ ∧ from_ ≤ nI z - nI w then 0 else -13) := by
        unfold fX10_lacksRow
        rw [if_pos hb, hcl, ← h1, a2, if_pos rfl, if_pos hb, a5, show (0 : Int64) = (0 : Int32).toInt64 by decide, X10_in]
        by_cases q2 : 0 ≤ from_ <;> by_cases q3 : from_ ≤ nI z - nI w <;> simp [q2, q3, ob1, bI, i10]
      by_cases q : 0 ≤ from_ ∧ from_ ≤ nI z - nI w
      · rw [if_pos q] at e1 e2
        refine Or.inr ⟨e1, e2, ?_⟩
        obtain ⟨f, hf, rfl⟩ := nI_of (show ¬ from_ < 0 by rw [Int32.not_lt]; exact q.1)
        refine ⟨f, z, rfl, ?_, a3, a2, a4, a5, a6⟩
        have q3 := q.2
        rw [Int32.le_iff_toInt_le, nI_toInt hf, pk_sub_toInt (by omega) (by omega)] at q3
        omega
      · rw [if_neg q] at e1 e2
        exact Or.inl ⟨-13, by decide, e1, e2⟩
    · have hne : ¬ nI t' = nI t := fun q => htt ((nI_eq (by omega) (by omega)).mp q.symm)
      refine Or.inl ⟨-12, by decide, ?_, ?_⟩
      · unfold fX5_trouble
        rw [a2, isThere_t a1]
        simp only [ob1, i10, if_false, hne]
      · unfold fX10_lacksRow
        rw [if_pos hb, hcl, ← h1, a2, if_neg (fun q => hne q.symm), if_pos hb, if_pos (lane_t t a1).1]
theorem upd_rel {f j : Nat} {items yi : Nat → Int32} {v : Int32} (h : ∀ i, i < 36 → items i = yi (36 * j + i)) : ∀ i, i < 36 → upd items f v i = upd yi (36 * j + f) v (36 * j + i) := by
  intro i hi
  by_cases q : i = f
  · rw [q, upd_s, upd_s]
  · rw [upd_n _ _ q, upd_n _ _ (by omega), h i hi]
def castT (t : Nat) (v : Int32) : Int32 := if t = 0 then v.toInt8.toInt32 else if t = 1 then v.toInt16.toInt32 else v
theorem put_eq {t f z : Nat} (items : Nat → Int32) (v : Int32) (ht : t < 3) (hz : z ≤ 36) (hf : f < z) : fX5_put items (nI t) (nI z) (nI f) v = some (upd items f (castT t v)) := by
  unfold fX5_put
  rw [if_neg (nI_pos (by omega)), if_pos (nI_lt hf (by omega))]
  have hb : inb (nI f) 36 = true := inb_n (by omega) (by decide)
  rcases (show t = 0 ∨ t = 1 ∨ t = 2 by omega) with rfl | rfl | rfl
  · rw [if_pos (by decide)]
    unfold fX5_put_44
    rw [if_pos hb, cl_n (by omega)]; rfl
  · rw [if_neg (by decide), if_pos (by decide)]
    unfold fX5_put_44
    rw [if_pos hb, cl_n (by omega)]; rfl
  · rw [if_neg (by decide), if_neg (by decide)]
    unfold fX5_put_44
    rw [if_pos hb, cl_n (by omega)]; rfl
theorem mitem_eq {t j f : Nat} (yi : Nat → Int32) (v : Int32) (hj : j < 4) (ht : t < 3) (hf : f < 36) :
    (if nI t = 0 then fX10_item_71 yi ((36 : Int32) * nI j + nI f) ((v <<< ((24 : Int32) &&& 31)) >>> ((24 : Int32) &&& 31)) else if nI t = 1 then fX10_item_71 yi ((36 : Int32) * nI j + nI f) ((v <<< ((16 : Int32) &&& 31)) >>> ((16 : Int32) &&& 31)) else fX10_item_71 yi ((36 : Int32) * nI j + nI f) v) = some (1, upd yi (36 * j + f) (castT t v)) := by
  have e1 : (36 : Int32) * nI j + nI f = nI (36 * j + f) := by
    show nI 36 * nI j + nI f = _
    rw [pk_mul, nI_add]
  have hb : inb (nI (36 * j + f)) 144 = true := inb_n (by omega) (by decide)
  have e2 : ∀ u, fX10_item_71 yi (nI (36 * j + f)) u = some (1, upd yi (36 * j + f) u) := fun u => by
    unfold fX10_item_71
    rw [if_pos hb, cl_n (by omega)]
  rw [e1, e2, e2, e2, sh24, sh16]
  rcases (show t = 0 ∨ t = 1 ∨ t = 2 by omega) with rfl | rfl | rfl
  · rw [if_pos (by decide)]; rfl
  · rw [if_neg (by decide), if_pos (by decide)]; rfl
  · rw [if_neg (by decide), if_neg (by decide)]; rfl
set_option maxHeartbeats 2000000 in
theorem step_item : STEP_item R4d := by
  intro l0 s0 i0 l1 s1 i1 l2 s2 i2 l3 s3 i3 yl yr yi a0 a1 a2 a3 ⟨h0, h1, h2, h3⟩
  rcases ir_or a0 4 (by decide) with ha | ⟨j, hj, rfl⟩
  · simp only [fX9_item, fX10_item, X9_isSheet, X10_isSheet, ha, bI_f, ob1, if_true, Bool.false_and]
    exact ⟨_, _, _, _, _, _, rfl, rfl, h0, h1, h2, h3⟩
  rcases ir_or a1 3 (by decide) with ha | ⟨t, ht, rfl⟩
  · simp only [fX9_item, fX10_item, X9_isSheet, X9_isLane, X10_isSheet, ir_n hj (by decide : 4 < 2 ^ 31), ha, bI_f, bI_t, i10, if_false, ob1, if_true, Bool.and_false]
    exact ⟨_, _, _, _, _, _, rfl, rfl, h0, h1, h2, h3⟩
  simp only [fX9_item, fX10_item, X9_isSheet, X9_isLane, X10_isSheet, ir_n hj (by decide : 4 < 2 ^ 31), ir_n ht (by decide : 3 < 2 ^ 31), bI_f, bI_t, i10, if_false, ob1, if_true, Bool.and_true]
  rw [show (1 : Int32) = nI 1 from rfl]
  rcases (show j = 0 ∨ j = 1 ∨ j = 2 ∨ j = 3 by omega) with rfl | rfl | rfl | rfl
  · rcases trouble_eq (from_ := a2) h0 hj ht (w := 1) (by decide) with ⟨r, hr, e1, e2⟩ | ⟨e1, e2, f, z, rfl, hfz, hz, e3, e4, e5, e6⟩
    · have hr0 : ¬ r = 0 := fun q => by subst q; exact absurd hr (by decide)
      have hr1 : ¬ 0 ≤ r := by rw [Int32.not_le]; exact hr
      rw [e1, e2]
      simp (decide := true) only [nI_lits, if_true, if_false, hr0, hr1]
      exact ⟨_, _, _, _, _, _, rfl, rfl, h0, h1, h2, h3⟩
    · rw [e1, e2, e3, e4, put_eq _ _ ht hz (by omega)]
      have e7 := mitem_eq (j := 0) yi a3 (by decide) ht (show f < 36 by omega)
      simp (decide := true) only [nI_lits, if_true, if_false] at e7 ⊢
      rw [e7]
      exact ⟨_, _, _, _, _, _, rfl, rfl, ⟨e3.symm.trans h0.1, Or.inr ⟨t, z, ht, rfl, hz, rfl, e5, upd_rel e6⟩⟩, h1.congr rfl rfl (fun i hi => upd_n _ _ (by omega)), h2.congr rfl rfl (fun i hi => upd_n _ _ (by omega)), h3.congr rfl rfl (fun i hi => upd_n _ _ (by omega))⟩
  · rcases trouble_eq (from_ := a2) h1 hj ht (w := 1) (by decide) with ⟨r, hr, e1, e2⟩ | ⟨e1, e2, f, z, rfl, hfz, hz, e3, e4, e5, e6⟩
    · have hr0 : ¬ r = 0 := fun q => by subst q; exact absurd hr (by decide)
      have hr1 : ¬ 0 ≤ r := by rw [Int32.not_le]; exact hr
      rw [e1, e2]
      simp (decide := true) only [nI_lits, if_true, if_false, hr0, hr1]
      exact ⟨_, _, _, _, _, _, rfl, rfl, h0, h1, h2, h3⟩
    · rw [e1, e2, e3, e4, put_eq _ _ ht hz (by omega)]
      have e7 := mitem_eq (j := 1) yi a3 (by decide) ht (show f < 36 by omega)
      simp (decide := true) only [nI_lits, if_true, if_false] at e7 ⊢
      rw [e7]
      exact ⟨_, _, _, _, _, _, rfl, rfl, h0.congr rfl rfl (fun i hi => upd_n _ _ (by omega)), ⟨e3.symm.trans h1.1, Or.inr ⟨t, z, ht, rfl, hz, rfl, e5, upd_rel e6⟩⟩, h2.congr rfl rfl (fun i hi => upd_n _ _ (by omega)), h3.congr rfl rfl (fun i hi => upd_n _ _ (by omega))⟩
  · rcases trouble_eq (from_ := a2) h2 hj ht (w := 1) (by decide) with ⟨r, hr, e1, e2⟩ | ⟨e1, e2, f, z, rfl, hfz, hz, e3, e4, e5, e6⟩
    · have hr0 : ¬ r = 0 := fun q => by subst q; exact absurd hr (by decide)
      have hr1 : ¬ 0 ≤ r := by rw [Int32.not_le]; exact hr
      rw [e1, e2]
      simp (decide := true) only [nI_lits, if_true, if_false, hr0, hr1]
      exact ⟨_, _, _, _, _, _, rfl, rfl, h0, h1, h2, h3⟩
    · rw [e1, e2, e3, e4, put_eq _ _ ht hz (by omega)]
      have e7 := mitem_eq (j := 2) yi a3 (by decide) ht (show f < 36 by omega)
      simp (decide := true) only [nI_lits, if_true, if_false] at e7 ⊢
      rw [e7]
      exact ⟨_, _, _, _, _, _, rfl, rfl, h0.congr rfl rfl (fun i hi => upd_n _ _ (by omega)), h1.congr rfl rfl (fun i hi => upd_n _ _ (by omega)), ⟨e3.symm.trans h2.1, Or.inr ⟨t, z, ht, rfl, hz, rfl, e5, upd_rel e6⟩⟩, h3.congr rfl rfl (fun i hi => upd_n _ _ (by omega))⟩
  · rcases trouble_eq (from_ := a2) h3 hj ht (w := 1) (by decide) with ⟨r, hr, e1, e2⟩ | ⟨e1, e2, f, z, rfl, hfz, hz, e3, e4, e5, e6⟩
    · have hr0 : ¬ r = 0 := fun q => by subst q; exact absurd hr (by decide)
      have hr1 : ¬ 0 ≤ r := by rw [Int32.not_le]; exact hr
      rw [e1, e2]
      simp (decide := true) only [nI_lits, if_true, if_false, hr0, hr1]
      exact ⟨_, _, _, _, _, _, rfl, rfl, h0, h1, h2, h3⟩
    · rw [e1, e2, e3, e4, put_eq _ _ ht hz (by omega)]
      have e7 := mitem_eq (j := 3) yi a3 (by decide) ht (show f < 36 by omega)
      simp (decide := true) only [nI_lits, if_true, if_false] at e7 ⊢
      rw [e7]
      exact ⟨_, _, _, _, _, _, rfl, rfl, h0.congr rfl rfl (fun i hi => upd_n _ _ (by omega)), h1.congr rfl rfl (fun i hi => upd_n _ _ (by omega)), h2.congr rfl rfl (fun i hi => upd_n _ _ (by omega)), ⟨e3.symm.trans h3.1, Or.inr ⟨t, z, ht, rfl, hz, rfl, e5, upd_rel e6⟩⟩⟩
