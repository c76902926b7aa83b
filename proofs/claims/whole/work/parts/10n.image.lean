-- STEPS of image and restore
theorem upd_id (f : Nat → Int32) (i : Nat) : upd f i (f i) = f := by
  funext j
  by_cases h : j = i
  · subst h; exact upd_s _ _ _
  · exact upd_n _ _ h
theorem an (k c : Nat) (C : Int32) (hC : -nI c = C) (h : c ≤ k) : nI k + C = nI (k - c) := by
  rw [← hC, ← Int32.sub_eq_add_neg, pk_sub h]
theorem lit_le {c k : Nat} (C : Int32) (hC : nI c = C) (hc : c < 2 ^ 31) (hk : k < 2 ^ 31) : (C ≤ nI k) ↔ c ≤ k := by rw [← hC]; exact nle c k hc hk
theorem le_lit {c k : Nat} (C : Int32) (hC : nI c = C) (hc : c < 2 ^ 31) (hk : k < 2 ^ 31) : (nI k < C) ↔ k < c := by rw [← hC]; exact nlt k c hk hc
section Carried
variable (r ea sh sw se sp sg : Nat → Int32) (v : Int32)
theorem car_0 {k : Nat} (h : k < 36) : fX10_carried r ea sh sw se sp sg (nI k) v 0 = some (r k, r, ea, sh, sw, se, sp, sg) ∧ fX10_carried r ea sh sw se sp sg (nI k) v 1 = some (v, upd r k v, ea, sh, sw, se, sp, sg) := by
  have c1 : ¬ (36 : Int32) ≤ nI k := fun z => by have := (lit_le (c := 36) 36 rfl (by decide) (by omega)).mp z; omega
  have b := inb_n h (show 36 < 2 ^ 31 by decide)
  have e := cl_n (show k < 2 ^ 31 by omega)
  have z0 : (0 : Int32) = 0 := rfl
  have z1 : ¬ (1 : Int32) = 0 := by decide
  constructor
  · rw [fX10_carried, if_neg c1, if_pos z0, if_pos b, fX10_carried_31, if_pos b, if_pos b, e, upd_id]
  · rw [fX10_carried, if_neg c1, if_neg z1, fX10_carried_31, if_pos b, if_pos b, e, upd_s]
theorem car_1 {k : Nat} (h0 : 36 ≤ k) (h : k < 108) : fX10_carried r ea sh sw se sp sg (nI k) v 0 = some (ea (k - 36), r, ea, sh, sw, se, sp, sg) ∧ fX10_carried r ea sh sw se sp sg (nI k) v 1 = some (v, r, upd ea (k - 36) v, sh, sw, se, sp, sg) := by
  have c1 : (36 : Int32) ≤ nI k := (lit_le (c := 36) 36 rfl (by decide) (by omega)).mpr h0
  have a1 := an k 36 (-36) rfl h0
  have c2 : ¬ (144 : Int32) ≤ nI (k - 36) := fun z => by have := (lit_le (c := 144) 144 rfl (by decide) (by omega)).mp z; omega
  have c3 : ¬ (72 : Int32) ≤ nI (k - 36) := fun z => by have := (lit_le (c := 72) 72 rfl (by decide) (by omega)).mp z; omega
  have c4 : nI (k - 36) < (72 : Int32) := (le_lit (c := 72) 72 rfl (by decide) (by omega)).mpr (by omega)
  have pr : nI (k - 36) - nI (k - 36) / 72 * 72 = nI (k - 36) := by
    have := pk_rem (a := k - 36) (d := 72) (by omega) (by decide) (by decide)
    rw [Nat.mod_eq_of_lt (by omega)] at this
    exact this
  have b := inb_n (show k - 36 < 72 by omega) (show 72 < 2 ^ 31 by decide)
  have e := cl_n (show k - 36 < 2 ^ 31 by omega)
  have z0 : (0 : Int32) = 0 := rfl
  have z1 : ¬ (1 : Int32) = 0 := by decide
  constructor
  · rw [fX10_carried, if_pos c1, a1, if_neg c2, pr, lets_eq, if_pos z0, fX10_carried_79, if_pos b, fX10_carried_86, if_pos b, if_pos z0, fX10_carried_108, if_pos b, fX10_carried_115, if_pos b, if_neg c3, if_pos b, e, upd_id, upd_id]
  · rw [fX10_carried, if_pos c1, a1, if_neg c2, pr, lets_eq, if_neg z1, if_neg c3, fX10_carried_86, if_pos b, if_neg z1, if_pos c4, fX10_carried_108, if_pos b, fX10_carried_115, if_pos b, if_neg c3, if_pos b, e, upd_s, upd_id]
theorem car_2 {k : Nat} (h0 : 108 ≤ k) (h : k < 180) : fX10_carried r ea sh sw se sp sg (nI k) v 0 = some (sh (k - 108), r, ea, sh, sw, se, sp, sg) ∧ fX10_carried r ea sh sw se sp sg (nI k) v 1 = some (v, r, ea, upd sh (k - 108) v, sw, se, sp, sg) := by
  have c1 : (36 : Int32) ≤ nI k := (lit_le (c := 36) 36 rfl (by decide) (by omega)).mpr (by omega)
  have a1 := an k 36 (-36) rfl (by omega)
  have c2 : ¬ (144 : Int32) ≤ nI (k - 36) := fun z => by have := (lit_le (c := 144) 144 rfl (by decide) (by omega)).mp z; omega
  have c3 : (72 : Int32) ≤ nI (k - 36) := (lit_le (c := 72) 72 rfl (by decide) (by omega)).mpr (by omega)
  have c4 : ¬ nI (k - 36) < (72 : Int32) := fun z => by have := (le_lit (c := 72) 72 rfl (by decide) (by omega)).mp z; omega
  have pr : nI (k - 36) - nI (k - 36) / 72 * 72 = nI (k - 108) := by
    have := pk_rem (a := k - 36) (d := 72) (by omega) (by decide) (by decide)
    rw [show (k - 36) % 72 = k - 108 by omega] at this
    exact this
  have b := inb_n (show k - 108 < 72 by omega) (show 72 < 2 ^ 31 by decide)
  have e := cl_n (show k - 108 < 2 ^ 31 by omega)
  have z0 : (0 : Int32) = 0 := rfl
  have z1 : ¬ (1 : Int32) = 0 := by decide
  constructor
  · rw [fX10_carried, if_pos c1, a1, if_neg c2, pr, lets_eq, if_pos z0, fX10_carried_79, if_pos b, fX10_carried_86, if_pos b, if_pos z0, fX10_carried_108, if_pos b, fX10_carried_115, if_pos b, if_pos c3, if_pos b, e, upd_id, upd_id]
  · rw [fX10_carried, if_pos c1, a1, if_neg c2, pr, lets_eq, if_neg z1, if_pos c3, fX10_carried_79, if_pos b, fX10_carried_86, if_pos b, if_neg z1, if_neg c4, fX10_carried_115, if_pos b, if_pos c3, if_pos b, e, upd_s, upd_id]
theorem car_3 {k : Nat} (h0 : 180 ≤ k) (h : k < 216) : fX10_carried r ea sh sw se sp sg (nI k) v 0 = some (sw (k - 180), r, ea, sh, sw, se, sp, sg) ∧ fX10_carried r ea sh sw se sp sg (nI k) v 1 = some (v, r, ea, sh, upd sw (k - 180) v, se, sp, sg) := by
  have c1 : (36 : Int32) ≤ nI k := (lit_le (c := 36) 36 rfl (by decide) (by omega)).mpr (by omega)
  have a1 := an k 36 (-36) rfl (by omega)
  have c2 : (144 : Int32) ≤ nI (k - 36) := (lit_le (c := 144) 144 rfl (by decide) (by omega)).mpr (by omega)
  have a2 := an (k - 36) 144 (-144) rfl (by omega)
  rw [show k - 36 - 144 = k - 180 by omega] at a2
  have c3 : ¬ (36 : Int32) ≤ nI (k - 180) := fun z => by have := (lit_le (c := 36) 36 rfl (by decide) (by omega)).mp z; omega
  have b := inb_n (show k - 180 < 36 by omega) (show 36 < 2 ^ 31 by decide)
  have e := cl_n (show k - 180 < 2 ^ 31 by omega)
  have z0 : (0 : Int32) = 0 := rfl
  have z1 : ¬ (1 : Int32) = 0 := by decide
  constructor
  · rw [fX10_carried, if_pos c1, a1, if_pos c2, a2, if_neg c3, if_pos z0, if_pos b, fX10_carried_175, if_pos b, if_pos b, e, upd_id]
  · rw [fX10_carried, if_pos c1, a1, if_pos c2, a2, if_neg c3, if_neg z1, fX10_carried_175, if_pos b, if_pos b, e, upd_s]
theorem car_4 {k : Nat} (h0 : 216 ≤ k) (h : k < 219) : fX10_carried r ea sh sw se sp sg (nI k) v 0 = some (se (k - 216), r, ea, sh, sw, se, sp, sg) ∧ fX10_carried r ea sh sw se sp sg (nI k) v 1 = some (v, r, ea, sh, sw, upd se (k - 216) v, sp, sg) := by
  have c1 : (36 : Int32) ≤ nI k := (lit_le (c := 36) 36 rfl (by decide) (by omega)).mpr (by omega)
  have a1 := an k 36 (-36) rfl (by omega)
  have c2 : (144 : Int32) ≤ nI (k - 36) := (lit_le (c := 144) 144 rfl (by decide) (by omega)).mpr (by omega)
  have a2 := an (k - 36) 144 (-144) rfl (by omega)
  rw [show k - 36 - 144 = k - 180 by omega] at a2
  have c3 : (36 : Int32) ≤ nI (k - 180) := (lit_le (c := 36) 36 rfl (by decide) (by omega)).mpr (by omega)
  have a3 := an (k - 180) 36 (-36) rfl (by omega)
  rw [show k - 180 - 36 = k - 216 by omega] at a3
  have c4 : ¬ (3 : Int32) ≤ nI (k - 216) := fun z => by have := (lit_le (c := 3) 3 rfl (by decide) (by omega)).mp z; omega
  have b := inb_n (show k - 216 < 3 by omega) (show 3 < 2 ^ 31 by decide)
  have e := cl_n (show k - 216 < 2 ^ 31 by omega)
  have z0 : (0 : Int32) = 0 := rfl
  have z1 : ¬ (1 : Int32) = 0 := by decide
  constructor
  · rw [fX10_carried, if_pos c1, a1, if_pos c2, a2, if_pos c3, a3, if_neg c4, if_pos z0, if_pos b, fX10_carried_214, if_pos b, if_pos b, e, upd_id]
  · rw [fX10_carried, if_pos c1, a1, if_pos c2, a2, if_pos c3, a3, if_neg c4, if_neg z1, fX10_carried_214, if_pos b, if_pos b, e, upd_s]
theorem car_5 {k : Nat} (h0 : 219 ≤ k) (h : k < 243) :
    fX10_carried r ea sh sw se sp sg (nI k) v 0 = some (if k < 231 then sp (k - 219) else sg (k - 231), r, ea, sh, sw, se, sp, sg) ∧ fX10_carried r ea sh sw se sp sg (nI k) v 1 = some (v, r, ea, sh, sw, se, if k < 231 then upd sp (k - 219) v else sp, if k < 231 then sg else upd sg (k - 231) v) := by
  have z0 : (0 : Int32) = 0 := rfl
  have z1 : ¬ (1 : Int32) = 0 := by decide
  have c1 : (36 : Int32) ≤ nI k := (lit_le (c := 36) 36 rfl (by decide) (by omega)).mpr (by omega)
  have a1 := an k 36 (-36) rfl (by omega)
  have c2 : (144 : Int32) ≤ nI (k - 36) := (lit_le (c := 144) 144 rfl (by decide) (by omega)).mpr (by omega)
  have a2 := an (k - 36) 144 (-144) rfl (by omega)
  rw [show k - 36 - 144 = k - 180 by omega] at a2
  have c3 : (36 : Int32) ≤ nI (k - 180) := (lit_le (c := 36) 36 rfl (by decide) (by omega)).mpr (by omega)
  have a3 := an (k - 180) 36 (-36) rfl (by omega)
  rw [show k - 180 - 36 = k - 216 by omega] at a3
  have c4 : (3 : Int32) ≤ nI (k - 216) := (lit_le (c := 3) 3 rfl (by decide) (by omega)).mpr (by omega)
  have a4 := an (k - 216) 3 (-3) rfl (by omega)
  rw [show k - 216 - 3 = k - 219 by omega] at a4
  by_cases hk : k < 231
  · have pr : nI (k - 219) - nI (k - 219) / 12 * 12 = nI (k - 219) := by
      have := pk_rem (a := k - 219) (d := 12) (by omega) (by decide) (by decide)
      rw [Nat.mod_eq_of_lt (by omega)] at this
      exact this
    have c5 : ¬ (12 : Int32) ≤ nI (k - 219) := fun z => by have := (lit_le (c := 12) 12 rfl (by decide) (by omega)).mp z; omega
    have c6 : nI (k - 219) < (12 : Int32) := (le_lit (c := 12) 12 rfl (by decide) (by omega)).mpr (by omega)
    have b := inb_n (show k - 219 < 12 by omega) (show 12 < 2 ^ 31 by decide)
    have e := cl_n (show k - 219 < 2 ^ 31 by omega)
    constructor
    · rw [fX10_carried, if_pos c1, a1, if_pos c2, a2, if_pos c3, a3, if_pos c4, a4, pr, lets_eq, if_pos z0, fX10_carried_254, if_pos b, fX10_carried_261, if_pos b, if_pos z0, fX10_carried_283, if_pos b, fX10_carried_290, if_pos b, if_neg c5, if_pos b, e, upd_id, upd_id, if_pos hk]
    · rw [fX10_carried, if_pos c1, a1, if_pos c2, a2, if_pos c3, a3, if_pos c4, a4, pr, lets_eq, if_neg z1, if_neg c5, fX10_carried_261, if_pos b, if_neg z1, if_pos c6, fX10_carried_283, if_pos b, fX10_carried_290, if_pos b, if_neg c5, if_pos b, e, upd_s, upd_id, if_pos hk, if_pos hk]
  · have pr : nI (k - 219) - nI (k - 219) / 12 * 12 = nI (k - 231) := by
      have := pk_rem (a := k - 219) (d := 12) (by omega) (by decide) (by decide)
      rw [show (k - 219) % 12 = k - 231 by omega] at this
      exact this
    have c5 : (12 : Int32) ≤ nI (k - 219) := (lit_le (c := 12) 12 rfl (by decide) (by omega)).mpr (by omega)
    have c6 : ¬ nI (k - 219) < (12 : Int32) := fun z => by have := (le_lit (c := 12) 12 rfl (by decide) (by omega)).mp z; omega
    have b := inb_n (show k - 231 < 12 by omega) (show 12 < 2 ^ 31 by decide)
    have e := cl_n (show k - 231 < 2 ^ 31 by omega)
    constructor
    · rw [fX10_carried, if_pos c1, a1, if_pos c2, a2, if_pos c3, a3, if_pos c4, a4, pr, lets_eq, if_pos z0, fX10_carried_254, if_pos b, fX10_carried_261, if_pos b, if_pos z0, fX10_carried_283, if_pos b, fX10_carried_290, if_pos b, if_pos c5, if_pos b, e, upd_id, upd_id, if_neg hk]
    · rw [fX10_carried, if_pos c1, a1, if_pos c2, a2, if_pos c3, a3, if_pos c4, a4, pr, lets_eq, if_neg z1, if_pos c5, fX10_carried_254, if_pos b, fX10_carried_261, if_pos b, if_neg z1, if_neg c6, fX10_carried_290, if_pos b, if_pos c5, if_pos b, e, upd_s, upd_id, if_neg hk, if_neg hk]
end Carried
