-- STEPS of the sheets, item and sheet
theorem nle (c k : Nat) (hc : c < 2 ^ 31) (hk : k < 2 ^ 31) : nI c ≤ nI k ↔ c ≤ k := nI_leI hc hk
theorem nlt (c k : Nat) (hc : c < 2 ^ 31) (hk : k < 2 ^ 31) : nI c < nI k ↔ c < k := nI_ltI hc hk
theorem sh24 (v : Int32) : (v <<< ((24 : Int32) &&& 31)) >>> ((24 : Int32) &&& 31) = v.toInt8.toInt32 := by
  apply Int32.toBitVec_inj.mp
  have h : ((24 : Int32) &&& 31).toBitVec.smod 32 = 24#32 := by decide
  rw [Int32.toBitVec_shiftRight, Int32.toBitVec_shiftLeft, h]
  show ((v.toBitVec <<< (24#32)).sshiftRight' (24#32)) = _
  rw [Int8.toBitVec_toInt32, Int32.toBitVec_toInt8]
  refine BitVec.eq_of_getLsbD_eq fun i hi => ?_
  simp [BitVec.getLsbD_sshiftRight, BitVec.getLsbD_signExtend, BitVec.msb_eq_getLsbD_last]
  have hs : (BitVec.signExtend 8 v.toBitVec)[7] = v.toBitVec[7] := by simp [BitVec.getElem_signExtend]
  rw [hs]
  by_cases q : i < 8
  · have q1 : 24 + i < 32 := by omega
    have q2 : ¬ 24 + i < 24 := by omega
    have q3 : ¬ 32 ≤ i := by omega
    simp [q, q1, q2, q3, hi]
  · have q1 : ¬ 24 + i < 32 := by omega
    have q3 : ¬ 32 ≤ i := by omega
    simp [q, q1, q3, hi]
theorem sh16 (v : Int32) : (v <<< ((16 : Int32) &&& 31)) >>> ((16 : Int32) &&& 31) = v.toInt16.toInt32 := by
  apply Int32.toBitVec_inj.mp
  have h : ((16 : Int32) &&& 31).toBitVec.smod 32 = 16#32 := by decide
  rw [Int32.toBitVec_shiftRight, Int32.toBitVec_shiftLeft, h]
  show ((v.toBitVec <<< (16#32)).sshiftRight' (16#32)) = _
  rw [Int16.toBitVec_toInt32, Int32.toBitVec_toInt16]
  refine BitVec.eq_of_getLsbD_eq fun i hi => ?_
  simp [BitVec.getLsbD_sshiftRight, BitVec.getLsbD_signExtend, BitVec.msb_eq_getLsbD_last]
  have hs : (BitVec.signExtend 16 v.toBitVec)[15] = v.toBitVec[15] := by simp [BitVec.getElem_signExtend]
  rw [hs]
  by_cases q : i < 16
  · have q1 : 16 + i < 32 := by omega
    have q2 : ¬ 16 + i < 16 := by omega
    have q3 : ¬ 32 ≤ i := by omega
    simp [q, q1, q2, q3, hi]
  · have q1 : ¬ 16 + i < 32 := by omega
    have q3 : ¬ 32 ≤ i := by omega
    simp [q, q1, q3, hi]
theorem renew_l : ∀ (n k : Nat) (items : Nat → Int32) (l s : Int32), k ≤ 36 → 37 ≤ k + n → ∃ it, fX5_renew_12 n items l s (nI k) = some (it, l, s) ∧ ∀ i, i < 36 → (k ≤ i → it i = 0) ∧ (i < k → it i = items i)
  | 0, k, items, l, s, h1, h2 => absurd h2 (by omega)
  | n + 1, k, items, l, s, h1, h2 => by
    rw [fX5_renew_12]
    by_cases hk : k = 36
    · subst hk
      rw [if_pos (show (36 : Int32) ≤ nI 36 by decide)]
      exact ⟨items, rfl, fun i hi => ⟨fun h => by omega, fun _ => rfl⟩⟩
    · rw [if_neg (fun q => by have := (nle 36 k (by decide) (by omega)).mp q; omega), if_pos (inb_n (by omega) (by decide)), cl_n (by omega), show nI k + (1 : Int32) = nI (k + 1) from nI_1 k]
      obtain ⟨it, e, h⟩ := renew_l n (k + 1) (upd items k 0) l s (by omega) (by omega)
      refine ⟨it, e, fun i hi => ⟨fun q => ?_, fun q => ?_⟩⟩
      · by_cases hik : i = k
        · subst hik; rw [(h i hi).2 (by omega), upd_s]
        · exact (h i hi).1 (by omega)
      · rw [(h i hi).2 (by omega), upd_n _ _ (by omega)]
theorem sheet_l : ∀ (n k j : Nat) (yl yr yi : Nat → Int32) (x3 : Int32), j < 4 → k ≤ 36 → 37 ≤ k + n → ∃ it, fX10_sheet_40 n yl yr yi (nI j) x3 (nI k) = some (x3, yl, yr, it) ∧ (∀ i, i < 36 → (k ≤ i → it (36 * j + i) = 0) ∧ (i < k → it (36 * j + i) = yi (36 * j + i))) ∧ ∀ a, (a < 36 * j ∨ 36 * j + 36 ≤ a) → it a = yi a
  | 0, k, j, yl, yr, yi, x3, h0, h1, h2 => absurd h2 (by omega)
  | n + 1, k, j, yl, yr, yi, x3, h0, h1, h2 => by
    rw [fX10_sheet_40]
    by_cases hk : k = 36
    · subst hk
      rw [if_pos (show (36 : Int32) ≤ nI 36 by decide)]
      exact ⟨yi, rfl, fun i hi => ⟨fun h => by omega, fun _ => rfl⟩, fun _ _ => rfl⟩
    · have e1 : (36 : Int32) * nI j + nI k = nI (36 * j + k) := by
        show nI 36 * nI j + nI k = _
        rw [pk_mul, nI_add]
      rw [if_neg (fun q => by have := (nle 36 k (by decide) (by omega)).mp q; omega), e1, if_pos (inb_n (by omega) (by decide)), cl_n (by omega), show nI k + (1 : Int32) = nI (k + 1) from nI_1 k]
      obtain ⟨it, e, h, ho⟩ := sheet_l n (k + 1) j yl yr (upd yi (36 * j + k) 0) x3 h0 (by omega) (by omega)
      refine ⟨it, e, fun i hi => ⟨fun q => ?_, fun q => ?_⟩, fun a ha => ?_⟩
      · by_cases hik : i = k
        · subst hik; rw [(h i hi).2 (by omega), upd_s]
        · exact (h i hi).1 (by omega)
      · rw [(h i hi).2 (by omega), upd_n _ _ (by omega)]
      · rw [ho a ha, upd_n _ _ (by omega)]
set_option maxHeartbeats 2000000 in
theorem step_sheet : STEP_sheet R4d := by
  intro l0 s0 i0 l1 s1 i1 l2 s2 i2 l3 s3 i3 yl yr yi a0 a1 a2 ⟨h0, h1, h2, h3⟩
  rcases ir_or a0 4 (by decide) with ha | ⟨j, hj, rfl⟩
  · simp only [fX9_sheet, fX10_sheet, X9_isSheet, X10_isSheet, ha, bI_f, ob1, if_true, Bool.false_and]
    exact ⟨_, _, _, _, _, _, _, _, _, _, _, _, _, _, _, _, rfl, rfl, h0, h1, h2, h3⟩
  have hb : inb (nI j) 4 = true := inb_n hj (by decide)
  rcases ir_or a1 3 (by decide) with ha | ⟨t, ht, rfl⟩
  · simp only [fX9_sheet, fX10_sheet, X9_isSheet, X9_isLane, X10_isSheet, ir_n hj (by decide : 4 < 2 ^ 31), ha, bI_f, bI_t, i10, if_false, ob1, if_true, Bool.and_false]
    exact ⟨_, _, _, _, _, _, _, _, _, _, _, _, _, _, _, _, rfl, rfl, h0, h1, h2, h3⟩
  simp only [fX9_sheet, fX10_sheet, X9_isSheet, X9_isLane, X10_isSheet, ir_n hj (by decide : 4 < 2 ^ 31), ir_n ht (by decide : 3 < 2 ^ 31), bI_f, bI_t, i10, if_false, ob1, if_true, Bool.and_true, hb, cl_n (show j < 2 ^ 31 by omega)]
  by_cases hz : a2 ≤ 36
  rotate_left
  · simp only [hz, if_false]
    exact ⟨_, _, _, _, _, _, _, _, _, _, _, _, _, _, _, _, rfl, rfl, h0, h1, h2, h3⟩
  by_cases hz0 : 0 ≤ a2
  rotate_left
  · simp only [hz, hz0, if_false, if_true]
    exact ⟨_, _, _, _, _, _, _, _, _, _, _, _, _, _, _, _, rfl, rfl, h0, h1, h2, h3⟩
  obtain ⟨z, hz3, rfl⟩ := nI_of2 (n := 36) (by decide) (by rw [Int32.not_lt]; exact hz0) hz
  simp only [hz, hz0, if_true]
  obtain ⟨it, e2, hi2, ho⟩ := sheet_l 4000 0 j (upd yl j (nI t)) (upd yr j (nI z)) yi (nI z) hj (by decide) (by decide)
  rw [show (0 : Int32) = nI 0 from rfl, e2]
  rcases (show j = 0 ∨ j = 1 ∨ j = 2 ∨ j = 3 by omega) with rfl | rfl | rfl | rfl
  · obtain ⟨it1, e1, hi1⟩ := renew_l 4000 0 i0 (nI t) (nI z) (by decide) (by decide)
    simp (decide := true) only [nI_lits, if_true, if_false, fX5_renew]
    rw [show (0 : Int32) = nI 0 from rfl, e1]
    exact ⟨_, _, _, _, _, _, _, _, _, _, _, _, _, _, _, _, rfl, rfl, ⟨(upd_s _ _ _).symm, Or.inr ⟨t, z, ht, rfl, hz3, rfl, upd_s _ _ _, fun i hi => by rw [(hi1 i hi).1 (by omega), (hi2 i hi).1 (by omega)]⟩⟩, h1.congr (upd_n _ _ (by decide)) (upd_n _ _ (by decide)) (fun i hi => ho _ (by omega)), h2.congr (upd_n _ _ (by decide)) (upd_n _ _ (by decide)) (fun i hi => ho _ (by omega)), h3.congr (upd_n _ _ (by decide)) (upd_n _ _ (by decide)) (fun i hi => ho _ (by omega))⟩
  · obtain ⟨it1, e1, hi1⟩ := renew_l 4000 0 i1 (nI t) (nI z) (by decide) (by decide)
    simp (decide := true) only [nI_lits, if_true, if_false, fX5_renew]
    rw [show (0 : Int32) = nI 0 from rfl, e1]
    exact ⟨_, _, _, _, _, _, _, _, _, _, _, _, _, _, _, _, rfl, rfl, h0.congr (upd_n _ _ (by decide)) (upd_n _ _ (by decide)) (fun i hi => ho _ (by omega)), ⟨(upd_s _ _ _).symm, Or.inr ⟨t, z, ht, rfl, hz3, rfl, upd_s _ _ _, fun i hi => by rw [(hi1 i hi).1 (by omega), (hi2 i hi).1 (by omega)]⟩⟩, h2.congr (upd_n _ _ (by decide)) (upd_n _ _ (by decide)) (fun i hi => ho _ (by omega)), h3.congr (upd_n _ _ (by decide)) (upd_n _ _ (by decide)) (fun i hi => ho _ (by omega))⟩
  · obtain ⟨it1, e1, hi1⟩ := renew_l 4000 0 i2 (nI t) (nI z) (by decide) (by decide)
    simp (decide := true) only [nI_lits, if_true, if_false, fX5_renew]
    rw [show (0 : Int32) = nI 0 from rfl, e1]
    exact ⟨_, _, _, _, _, _, _, _, _, _, _, _, _, _, _, _, rfl, rfl, h0.congr (upd_n _ _ (by decide)) (upd_n _ _ (by decide)) (fun i hi => ho _ (by omega)), h1.congr (upd_n _ _ (by decide)) (upd_n _ _ (by decide)) (fun i hi => ho _ (by omega)), ⟨(upd_s _ _ _).symm, Or.inr ⟨t, z, ht, rfl, hz3, rfl, upd_s _ _ _, fun i hi => by rw [(hi1 i hi).1 (by omega), (hi2 i hi).1 (by omega)]⟩⟩, h3.congr (upd_n _ _ (by decide)) (upd_n _ _ (by decide)) (fun i hi => ho _ (by omega))⟩
  · obtain ⟨it1, e1, hi1⟩ := renew_l 4000 0 i3 (nI t) (nI z) (by decide) (by decide)
    simp (decide := true) only [nI_lits, if_true, if_false, fX5_renew]
    rw [show (0 : Int32) = nI 0 from rfl, e1]
    exact ⟨_, _, _, _, _, _, _, _, _, _, _, _, _, _, _, _, rfl, rfl, h0.congr (upd_n _ _ (by decide)) (upd_n _ _ (by decide)) (fun i hi => ho _ (by omega)), h1.congr (upd_n _ _ (by decide)) (upd_n _ _ (by decide)) (fun i hi => ho _ (by omega)), h2.congr (upd_n _ _ (by decide)) (upd_n _ _ (by decide)) (fun i hi => ho _ (by omega)), ⟨(upd_s _ _ _).symm, Or.inr ⟨t, z, ht, rfl, hz3, rfl, upd_s _ _ _, fun i hi => by rw [(hi1 i hi).1 (by omega), (hi2 i hi).1 (by omega)]⟩⟩⟩
