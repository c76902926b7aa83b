-- STEPS of image and restore, the loops
def kv (r ea sh sw se sp sg : Nat → Int32) (k : Nat) : Int32 := if k < 36 then r k else if k < 108 then ea (k - 36) else if k < 180 then sh (k - 108) else if k < 216 then sw (k - 180) else if k < 219 then se (k - 216) else if k < 231 then sp (k - 219) else sg (k - 231)
theorem o8 {A B C D E F G H Z : Type} (a : A) (b : B) (c : C) (d : D) (e : E) (f : F) (g : G) (h : H) (k : A → B → C → D → E → F → G → H → Option Z) : ob8 (some (a, b, c, d, e, f, g, h)) k = k a b c d e f g h := rfl
theorem car_a (r ea sh sw se sp sg : Nat → Int32) (v : Int32) {k : Nat} (hk : k < 243) : fX10_carried r ea sh sw se sp sg (nI k) v 0 = some (kv r ea sh sw se sp sg k, r, ea, sh, sw, se, sp, sg) := by
  unfold kv
  by_cases h1 : k < 36
  · rw [if_pos h1]; exact (car_0 r ea sh sw se sp sg v h1).1
  by_cases h2 : k < 108
  · rw [if_neg h1, if_pos h2]; exact (car_1 r ea sh sw se sp sg v (by omega) h2).1
  by_cases h3 : k < 180
  · rw [if_neg h1, if_neg h2, if_pos h3]; exact (car_2 r ea sh sw se sp sg v (by omega) h3).1
  by_cases h4 : k < 216
  · rw [if_neg h1, if_neg h2, if_neg h3, if_pos h4]; exact (car_3 r ea sh sw se sp sg v (by omega) h4).1
  by_cases h5 : k < 219
  · rw [if_neg h1, if_neg h2, if_neg h3, if_neg h4, if_pos h5]; exact (car_4 r ea sh sw se sp sg v (by omega) h5).1
  · rw [if_neg h1, if_neg h2, if_neg h3, if_neg h4, if_neg h5]; exact (car_5 r ea sh sw se sp sg v (by omega) hk).1
theorem kv_set {r ea sh sw se sp sg r' ea' sh' sw' se' sp' sg' : Nat → Int32} {k : Nat} {v : Int32}
    (h : (k < 36 ∧ r' = upd r k v ∧ ea' = ea ∧ sh' = sh ∧ sw' = sw ∧ se' = se ∧ sp' = sp ∧ sg' = sg) ∨ (36 ≤ k ∧ k < 108 ∧ r' = r ∧ ea' = upd ea (k - 36) v ∧ sh' = sh ∧ sw' = sw ∧ se' = se ∧ sp' = sp ∧ sg' = sg) ∨ (108 ≤ k ∧ k < 180 ∧ r' = r ∧ ea' = ea ∧ sh' = upd sh (k - 108) v ∧ sw' = sw ∧ se' = se ∧ sp' = sp ∧ sg' = sg) ∨ (180 ≤ k ∧ k < 216 ∧ r' = r ∧ ea' = ea ∧ sh' = sh ∧ sw' = upd sw (k - 180) v ∧ se' = se ∧ sp' = sp ∧ sg' = sg) ∨ (216 ≤ k ∧ k < 219 ∧ r' = r ∧ ea' = ea ∧ sh' = sh ∧ sw' = sw ∧ se' = upd se (k - 216) v ∧ sp' = sp ∧ sg' = sg) ∨ (219 ≤ k ∧ k < 231 ∧ r' = r ∧ ea' = ea ∧ sh' = sh ∧ sw' = sw ∧ se' = se ∧ sp' = upd sp (k - 219) v ∧ sg' = sg) ∨ (231 ≤ k ∧ k < 243 ∧ r' = r ∧ ea' = ea ∧ sh' = sh ∧ sw' = sw ∧ se' = se ∧ sp' = sp ∧ sg' = upd sg (k - 231) v)) :
    ∀ i, kv r' ea' sh' sw' se' sp' sg' i = if i = k then v else kv r ea sh sw se sp sg i := by
  intro i
  unfold kv
  by_cases h1 : i < 36
  · rcases h with ⟨hk, rfl, rfl, rfl, rfl, rfl, rfl, rfl⟩ | ⟨hk, hk2, rfl, rfl, rfl, rfl, rfl, rfl, rfl⟩ | ⟨hk, hk2, rfl, rfl, rfl, rfl, rfl, rfl, rfl⟩ | ⟨hk, hk2, rfl, rfl, rfl, rfl, rfl, rfl, rfl⟩ | ⟨hk, hk2, rfl, rfl, rfl, rfl, rfl, rfl, rfl⟩ | ⟨hk, hk2, rfl, rfl, rfl, rfl, rfl, rfl, rfl⟩ | ⟨hk, hk2, rfl, rfl, rfl, rfl, rfl, rfl, rfl⟩
    · by_cases z : i = k
      · subst z; simp only [h1, if_true, upd_s]
      · simp only [h1, z, if_true, if_false]; exact upd_n _ _ z
    all_goals (have z : ¬ i = k := by omega); simp only [h1, z, if_true, if_false]
  by_cases h2 : i < 108
  · rcases h with ⟨hk, rfl, rfl, rfl, rfl, rfl, rfl, rfl⟩ | ⟨hk, hk2, rfl, rfl, rfl, rfl, rfl, rfl, rfl⟩ | ⟨hk, hk2, rfl, rfl, rfl, rfl, rfl, rfl, rfl⟩ | ⟨hk, hk2, rfl, rfl, rfl, rfl, rfl, rfl, rfl⟩ | ⟨hk, hk2, rfl, rfl, rfl, rfl, rfl, rfl, rfl⟩ | ⟨hk, hk2, rfl, rfl, rfl, rfl, rfl, rfl, rfl⟩ | ⟨hk, hk2, rfl, rfl, rfl, rfl, rfl, rfl, rfl⟩
    rotate_left
    · by_cases z : i = k
      · subst z; simp only [h1, h2, if_true, if_false, upd_s]
      · simp only [h1, h2, z, if_true, if_false]; exact upd_n _ _ (by omega)
    all_goals (have z : ¬ i = k := by omega); simp only [h1, h2, z, if_true, if_false]
  by_cases h3 : i < 180
  · rcases h with ⟨hk, rfl, rfl, rfl, rfl, rfl, rfl, rfl⟩ | ⟨hk, hk2, rfl, rfl, rfl, rfl, rfl, rfl, rfl⟩ | ⟨hk, hk2, rfl, rfl, rfl, rfl, rfl, rfl, rfl⟩ | ⟨hk, hk2, rfl, rfl, rfl, rfl, rfl, rfl, rfl⟩ | ⟨hk, hk2, rfl, rfl, rfl, rfl, rfl, rfl, rfl⟩ | ⟨hk, hk2, rfl, rfl, rfl, rfl, rfl, rfl, rfl⟩ | ⟨hk, hk2, rfl, rfl, rfl, rfl, rfl, rfl, rfl⟩
    rotate_left 2
    · by_cases z : i = k
      · subst z; simp only [h1, h2, h3, if_true, if_false, upd_s]
      · simp only [h1, h2, h3, z, if_true, if_false]; exact upd_n _ _ (by omega)
    all_goals (have z : ¬ i = k := by omega); simp only [h1, h2, h3, z, if_true, if_false]
  by_cases h4 : i < 216
  · rcases h with ⟨hk, rfl, rfl, rfl, rfl, rfl, rfl, rfl⟩ | ⟨hk, hk2, rfl, rfl, rfl, rfl, rfl, rfl, rfl⟩ | ⟨hk, hk2, rfl, rfl, rfl, rfl, rfl, rfl, rfl⟩ | ⟨hk, hk2, rfl, rfl, rfl, rfl, rfl, rfl, rfl⟩ | ⟨hk, hk2, rfl, rfl, rfl, rfl, rfl, rfl, rfl⟩ | ⟨hk, hk2, rfl, rfl, rfl, rfl, rfl, rfl, rfl⟩ | ⟨hk, hk2, rfl, rfl, rfl, rfl, rfl, rfl, rfl⟩
    rotate_left 3
    · by_cases z : i = k
      · subst z; simp only [h1, h2, h3, h4, if_true, if_false, upd_s]
      · simp only [h1, h2, h3, h4, z, if_true, if_false]; exact upd_n _ _ (by omega)
    all_goals (have z : ¬ i = k := by omega); simp only [h1, h2, h3, h4, z, if_true, if_false]
  by_cases h5 : i < 219
  · rcases h with ⟨hk, rfl, rfl, rfl, rfl, rfl, rfl, rfl⟩ | ⟨hk, hk2, rfl, rfl, rfl, rfl, rfl, rfl, rfl⟩ | ⟨hk, hk2, rfl, rfl, rfl, rfl, rfl, rfl, rfl⟩ | ⟨hk, hk2, rfl, rfl, rfl, rfl, rfl, rfl, rfl⟩ | ⟨hk, hk2, rfl, rfl, rfl, rfl, rfl, rfl, rfl⟩ | ⟨hk, hk2, rfl, rfl, rfl, rfl, rfl, rfl, rfl⟩ | ⟨hk, hk2, rfl, rfl, rfl, rfl, rfl, rfl, rfl⟩
    rotate_left 4
    · by_cases z : i = k
      · subst z; simp only [h1, h2, h3, h4, h5, if_true, if_false, upd_s]
      · simp only [h1, h2, h3, h4, h5, z, if_true, if_false]; exact upd_n _ _ (by omega)
    all_goals (have z : ¬ i = k := by omega); simp only [h1, h2, h3, h4, h5, z, if_true, if_false]
  by_cases h6 : i < 231
  · rcases h with ⟨hk, rfl, rfl, rfl, rfl, rfl, rfl, rfl⟩ | ⟨hk, hk2, rfl, rfl, rfl, rfl, rfl, rfl, rfl⟩ | ⟨hk, hk2, rfl, rfl, rfl, rfl, rfl, rfl, rfl⟩ | ⟨hk, hk2, rfl, rfl, rfl, rfl, rfl, rfl, rfl⟩ | ⟨hk, hk2, rfl, rfl, rfl, rfl, rfl, rfl, rfl⟩ | ⟨hk, hk2, rfl, rfl, rfl, rfl, rfl, rfl, rfl⟩ | ⟨hk, hk2, rfl, rfl, rfl, rfl, rfl, rfl, rfl⟩
    rotate_left 5
    · by_cases z : i = k
      · subst z; simp only [h1, h2, h3, h4, h5, h6, if_true, if_false, upd_s]
      · simp only [h1, h2, h3, h4, h5, h6, z, if_true, if_false]; exact upd_n _ _ (by omega)
    all_goals (have z : ¬ i = k := by omega); simp only [h1, h2, h3, h4, h5, h6, z, if_true, if_false]
  · rcases h with ⟨hk, rfl, rfl, rfl, rfl, rfl, rfl, rfl⟩ | ⟨hk, hk2, rfl, rfl, rfl, rfl, rfl, rfl, rfl⟩ | ⟨hk, hk2, rfl, rfl, rfl, rfl, rfl, rfl, rfl⟩ | ⟨hk, hk2, rfl, rfl, rfl, rfl, rfl, rfl, rfl⟩ | ⟨hk, hk2, rfl, rfl, rfl, rfl, rfl, rfl, rfl⟩ | ⟨hk, hk2, rfl, rfl, rfl, rfl, rfl, rfl, rfl⟩ | ⟨hk, hk2, rfl, rfl, rfl, rfl, rfl, rfl, rfl⟩
    rotate_left 6
    · by_cases z : i = k
      · subst z; simp only [h1, h2, h3, h4, h5, h6, if_true, if_false, upd_s]
      · simp only [h1, h2, h3, h4, h5, h6, z, if_false]; exact upd_n _ _ (by omega)
    all_goals (have z : ¬ i = k := by omega); simp only [h1, h2, h3, h4, h5, h6, z, if_false]
theorem car_b (r ea sh sw se sp sg : Nat → Int32) (v : Int32) {k : Nat} (hk : k < 243) : ∃ r' ea' sh' sw' se' sp' sg' : Nat → Int32, fX10_carried r ea sh sw se sp sg (nI k) v 1 = some (v, r', ea', sh', sw', se', sp', sg') ∧ ∀ i, kv r' ea' sh' sw' se' sp' sg' i = if i = k then v else kv r ea sh sw se sp sg i := by
  by_cases h1 : k < 36
  · exact ⟨_, _, _, _, _, _, _, (car_0 r ea sh sw se sp sg v h1).2, kv_set (Or.inl ⟨h1, rfl, rfl, rfl, rfl, rfl, rfl, rfl⟩)⟩
  by_cases h2 : k < 108
  · exact ⟨_, _, _, _, _, _, _, (car_1 r ea sh sw se sp sg v (by omega) h2).2, kv_set (Or.inr (Or.inl ⟨by omega, h2, rfl, rfl, rfl, rfl, rfl, rfl, rfl⟩))⟩
  by_cases h3 : k < 180
  · exact ⟨_, _, _, _, _, _, _, (car_2 r ea sh sw se sp sg v (by omega) h3).2, kv_set (Or.inr (Or.inr (Or.inl ⟨by omega, h3, rfl, rfl, rfl, rfl, rfl, rfl, rfl⟩)))⟩
  by_cases h4 : k < 216
  · exact ⟨_, _, _, _, _, _, _, (car_3 r ea sh sw se sp sg v (by omega) h4).2, kv_set (Or.inr (Or.inr (Or.inr (Or.inl ⟨by omega, h4, rfl, rfl, rfl, rfl, rfl, rfl, rfl⟩))))⟩
  by_cases h5 : k < 219
  · exact ⟨_, _, _, _, _, _, _, (car_4 r ea sh sw se sp sg v (by omega) h5).2, kv_set (Or.inr (Or.inr (Or.inr (Or.inr (Or.inl ⟨by omega, h5, rfl, rfl, rfl, rfl, rfl, rfl, rfl⟩)))))⟩
  by_cases h6 : k < 231
  · exact ⟨_, _, _, _, _, _, _, (car_5 r ea sh sw se sp sg v (by omega) hk).2, kv_set (Or.inr (Or.inr (Or.inr (Or.inr (Or.inr (Or.inl ⟨by omega, h6, rfl, rfl, rfl, rfl, rfl, by rw [if_pos h6], by rw [if_pos h6]⟩))))))⟩
  · exact ⟨_, _, _, _, _, _, _, (car_5 r ea sh sw se sp sg v (by omega) hk).2, kv_set (Or.inr (Or.inr (Or.inr (Or.inr (Or.inr (Or.inr ⟨by omega, hk, rfl, rfl, rfl, rfl, rfl, by rw [if_neg h6], by rw [if_neg h6]⟩))))))⟩
theorem image_l (r ea sh sw se sp sg : Nat → Int32) (size seens : Int32) : ∀ N k : Nat, ∀ kept : Nat → Int32, k ≤ 243 → 244 ≤ k + N → ∃ kept', fX10_image_2 size seens N r ea sh sw se sp sg kept (nI k) = some (1, r, ea, sh, sw, se, sp, sg, 1, kept', size, seens) ∧ ∀ i, i < 243 → kept' i = if k ≤ i then kv r ea sh sw se sp sg i else kept i := by
  intro N
  induction N with
  | zero => intro k kept h1 h2; omega
  | succ N ih =>
    intro k kept h1 h2
    rw [fX10_image_2]
    by_cases z : k = 243
    · subst z
      rw [if_pos (show (243 : Int32) ≤ nI 243 by decide)]
      exact ⟨kept, rfl, fun i hi => by rw [if_neg (by omega)]⟩
    · rw [if_neg (show ¬ (243 : Int32) ≤ nI k from fun y => by have := (lit_le (c := 243) 243 rfl (by decide) (by omega)).mp y; omega), car_a r ea sh sw se sp sg 0 (by omega), o8, if_pos (inb_n (by omega) (by decide)), cl_n (by omega), nI_1]
      obtain ⟨kept', e, h⟩ := ih (k + 1) (upd kept k (kv r ea sh sw se sp sg k)) (by omega) (by omega)
      refine ⟨kept', e, fun i hi => ?_⟩
      rw [h i hi]
      by_cases y : i = k
      · subst y; rw [if_neg (by omega), if_pos (Nat.le_refl _), upd_s]
      · by_cases y2 : k ≤ i
        · rw [if_pos (by omega), if_pos y2]
        · rw [if_neg (by omega), if_neg y2, upd_n _ _ y]
theorem restore_l (kept : Nat → Int32) (size seens : Int32) : ∀ N k : Nat, ∀ r ea sh sw se sp sg : Nat → Int32, k ≤ 243 → 244 ≤ k + N → ∃ r' ea' sh' sw' se' sp' sg' : Nat → Int32, fX10_restore_12 kept size seens N r ea sh sw se sp sg (nI k) = some (1, r', size, ea', sh', sw', se', sp', sg', seens) ∧ ∀ i, i < 243 → kv r' ea' sh' sw' se' sp' sg' i = if k ≤ i then kept i else kv r ea sh sw se sp sg i := by
  intro N
  induction N with
  | zero => intro k r ea sh sw se sp sg h1 h2; omega
  | succ N ih =>
    intro k r ea sh sw se sp sg h1 h2
    rw [fX10_restore_12]
    by_cases z : k = 243
    · subst z
      rw [if_pos (show (243 : Int32) ≤ nI 243 by decide)]
      exact ⟨_, _, _, _, _, _, _, rfl, fun i hi => by rw [if_neg (by omega)]⟩
    · obtain ⟨r1, ea1, sh1, sw1, se1, sp1, sg1, e1, h1'⟩ := car_b r ea sh sw se sp sg (kept k) (show k < 243 by omega)
      rw [if_neg (show ¬ (243 : Int32) ≤ nI k from fun y => by have := (lit_le (c := 243) 243 rfl (by decide) (by omega)).mp y; omega), if_pos (inb_n (by omega) (by decide)), cl_n (by omega), e1, o8, nI_1]
      obtain ⟨r2, ea2, sh2, sw2, se2, sp2, sg2, e2, h3⟩ := ih (k + 1) r1 ea1 sh1 sw1 se1 sp1 sg1 (by omega) (by omega)
      refine ⟨_, _, _, _, _, _, _, e2, fun i hi => ?_⟩
      rw [h3 i hi, h1' i]
      by_cases y : i = k
      · subst y; rw [if_neg (by omega), if_pos rfl, if_pos (Nat.le_refl _)]
      · by_cases y2 : k ≤ i
        · rw [if_pos (by omega), if_pos y2]
        · rw [if_neg (by omega), if_neg y, if_neg y2]
