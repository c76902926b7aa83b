-- FIT: one turn of the class's search
theorem o10 {A B C D E F G H I J Z : Type} (a : A) (b : B) (c : C) (d : D) (e : E) (f : F) (g : G) (h : H) (i : I) (j : J) (q : A → B → C → D → E → F → G → H → I → J → Option Z) : ob10 (some (a, b, c, d, e, f, g, h, i, j)) q = q a b c d e f g h i j := rfl
theorem o11 {A B C D E F G H I J K Z : Type} (a : A) (b : B) (c : C) (d : D) (e : E) (f : F) (g : G) (h : H) (i : I) (j : J) (k : K) (q : A → B → C → D → E → F → G → H → I → J → K → Option Z) : ob11 (some (a, b, c, d, e, f, g, h, i, j, k)) q = q a b c d e f g h i j k := rfl
theorem FW.same {n : Nat} {p p' : Nat → Nat} {row : Nat → Int32} {size : Int32} {pl st : Int64} (h : FW n p row size pl st) (he : ∀ i, i < n → p' i = p i) : FW n p' row size pl st := by
  obtain ⟨h1, h2, h3, h4, h5, h6, h7⟩ := h
  refine ⟨h1, h2, fun i hi => by rw [he i hi]; exact h3 i hi, fun i j hi hj e => h4 i j hi hj (by rw [← he i hi, ← he j hj]; exact e), fun i hi => by rw [he i (by omega), he (i + 1) hi]; exact h5 i hi, fun q => (h6 q).trans ⟨fun ⟨i, hi, e⟩ => ⟨i, hi, by rw [he i hi]; exact e⟩, fun ⟨i, hi, e⟩ => ⟨i, hi, by rw [← he i hi]; exact e⟩⟩, fun e => (h7 e).trans ⟨fun ⟨a, i, hi, z⟩ => ⟨a, i, hi, by rw [he i (by omega), he (i + 1) hi]; exact z⟩, fun ⟨a, i, hi, z⟩ => ⟨a, i, hi, by rw [← he i (by omega), ← he (i + 1) hi]; exact z⟩⟩⟩
abbrev TO10 : Type := Option ((Nat → Int32) × Int32 × Int64 × Int64 × (Nat → Int32) × Int32 × Int64 × Int64 × Int32 × Int32)
abbrev TK : Type := (Nat → Int32) → Int32 → Int64 → Int64 → (Nat → Int32) → Int32 → Int64 → Int64 → Int32 → Int32 → Int32 → Int32 → Int64 → Int64 → Int32 → TO10
section Cl
variable {K : TK} {many mid x2 x3 : Int32} {sG sC : Int64} {row brow : Nat → Int32} {sz bsz fit hc : Int32} {pl st bpl bst : Int64} {k s : Nat} {p : Nat → Nat}
theorem cl_pop (M : Nat) : fX4_goOn_31 K many mid sG sC (M + 1) row sz pl st brow bsz bpl bst fit hc x2 x3 (nI 4) = some (row, sz, pl, st, brow, bsz, bpl, bst, fit, hc) := by
  rw [fX4_goOn_31, if_pos (show (4 : Int32) ≤ nI 4 by decide)]
theorem cl_skip (M : Nat) (hs4 : s < 4) (hF : FW (k + 1) p row (nI (k + 1)) pl st) (h : nx (p k) s = 36 ∨ (∃ j, j < k + 1 ∧ p j = nx (p k) s) ∨ bL sC (ew (p k) (nx (p k) s)) = true) : fX4_goOn_31 K many mid sG sC (M + 1) row (nI (k + 1)) pl st brow bsz bpl bst fit hc x2 (nI (p k)) (nI s) = fX4_goOn_31 K many mid sG sC M row (nI (k + 1)) pl st brow bsz bpl bst fit hc x2 (nI (p k)) (nI (s + 1)) := by
  have hq := (hF.2.2.1 k (by omega)).1
  have h58 : ∀ a, fX3_next (nI (p k)) (nI s) = some a → (¬ ∃ q, a = nI q ∧ canAdd (k + 1) p q) → fX4_goOn_58 K (fX4_goOn_31 K many mid sG sC M) many mid sG sC row (nI (k + 1)) pl st brow bsz bpl bst fit hc x2 (nI (p k)) (nI s) 0 = fX4_goOn_31 K many mid sG sC M row (nI (k + 1)) pl st brow bsz bpl bst fit hc x2 (nI (p k)) (nI (s + 1)) := by
    intro a ha hcan
    unfold fX4_goOn_58 fX4_goOn_96
    rw [if_pos (show (0 : Int32) = 0 from rfl), ha, o1, add_no hF hcan, o5, if_pos (show (0 : Int32) = 0 from rfl), nI_1 s]
  rw [fX4_goOn_31, if_neg (show ¬ (4 : Int32) ≤ nI s from nleF hs4 (by decide)), tb_edge _ hq s hs4, o1]
  by_cases hn : nx (p k) s = 36
  · rw [if_pos hn, if_pos (lg0.mpr (and_0.mpr fun e _ _ => bL_0 e))]
    exact h58 (-4) (by rw [tb_next _ hq s hs4, if_pos hn]) (fun ⟨q, e, hcan⟩ => by
      have := hcan.1
      have h4 : (-4 : Int32) < 0 := by decide
      rw [e] at h4
      exact nI_pos (by omega) h4)
  · obtain ⟨q1, q2, q3⟩ := ew_nx hq hs4 hn
    rw [if_neg hn]
    by_cases hb : bL sC (eb (p k) s) = true
    · rw [if_neg (fun z => by have := (and_e (by omega)).mp (lg0.mp z); rw [hb] at this; cases this)]
      unfold fX4_goOn_58 fX4_goOn_96
      rw [if_neg (show ¬ (1 : Int32) = 0 by decide), nI_1 s]
    · have hb' : bL sC (eb (p k) s) = false := by
        cases h0 : bL sC (eb (p k) s) with
        | false => rfl
        | true => exact absurd h0 hb
      rw [if_pos (lg0.mpr ((and_e (by omega)).mpr hb'))]
      obtain ⟨j, hj, e⟩ : ∃ j, j < k + 1 ∧ p j = nx (p k) s := by
        rcases h with h | h | h
        · exact absurd h hn
        · exact h
        · rw [q2] at h; exact absurd h hb
      exact h58 (nI (nx (p k) s)) (by rw [tb_next _ hq s hs4, if_neg hn]) (fun ⟨q, e', hcan⟩ => by
        have h1' := hcan.1
        rw [nI_eq (by omega) (by omega)] at e'
        exact hcan.2.1 j hj (e.trans e'))
theorem cl_down (M : Nat) (hs4 : s < 4) (hF : FW (k + 1) p row (nI (k + 1)) pl st) (hn : nx (p k) s ≠ 36) (hno : ∀ j, j < k + 1 → p j ≠ nx (p k) s) (hb : bL sC (ew (p k) (nx (p k) s)) = false) {row' brow' : Nat → Int32} {pl' st' bpl' bst' : Int64} {bsz' fit' hc' : Int32}
    (hK : K (upd row (k + 1) (nI (nx (p k) s))) (nI (k + 1 + 1)) (pl ||| eL (nx (p k) s)) (st ||| eL (ew (p k) (nx (p k) s))) brow bsz bpl bst many fit hc mid sG sC (nI (k + 1 + 1)) = some (row', nI (k + 1 + 1), pl', st', brow', bsz', bpl', bst', fit', hc'))
    (hF' : FW (k + 1 + 1) (pe (k + 1) p (nx (p k) s)) row' (nI (k + 1 + 1)) pl' st') :
    ∃ pl2 st2, FW (k + 1) p row' (nI (k + 1)) pl2 st2 ∧ fX4_goOn_31 K many mid sG sC (M + 1) row (nI (k + 1)) pl st brow bsz bpl bst fit hc (nI (k + 1)) (nI (p k)) (nI s) = fX4_goOn_31 K many mid sG sC M row' (nI (k + 1)) pl2 st2 brow' bsz' bpl' bst' fit' hc' (nI (k + 1)) (nI (p k)) (nI (s + 1)) := by
  have hq := (hF.2.2.1 k (by omega)).1
  obtain ⟨q1, q2, q3⟩ := ew_nx hq hs4 hn
  have hcan : canAdd (k + 1) p (nx (p k) s) := ⟨q1, hno, Or.inr (by rw [show k + 1 - 1 = k from rfl, q2]; omega)⟩
  refine ⟨_, _, hF'.off.same (fun i hi => (pe_n _ _ (by omega)).symm), ?_⟩
  have hb2 : bL sC (eb (p k) s) = false := by rw [← q2]; exact hb
  rw [fX4_goOn_31, if_neg (show ¬ (4 : Int32) ≤ nI s from nleF hs4 (by decide)), tb_edge _ hq s hs4, o1, if_neg hn, if_pos (lg0.mpr ((and_e (by omega)).mpr hb2))]
  unfold fX4_goOn_58 fX4_goOn_96
  rw [if_pos (show (0 : Int32) = 0 from rfl), tb_next _ hq s hs4, if_neg hn, o1, add_yes hF hcan, o5, if_neg (show ¬ (1 : Int32) = 0 by decide), nI_1 (k + 1), if_neg (show ¬ k + 1 = 0 by omega), show k + 1 - 1 = k from rfl, hK, o10, off_v hF', o3, nI_1 s, show k + 1 - 1 = k from rfl]
theorem goOn_leaf (d : Nat) (h : many ≤ x2) : fX4_goOn (d + 1) row sz pl st brow bsz bpl bst many fit hc mid sG sC x2 = ob6 (fX4_weigh row sz pl st brow bsz bpl bst many fit hc mid sG sC) fun a b c e f g => some (row, sz, pl, st, a, b, c, e, f, g) := by
  rw [fX4_goOn, if_pos h]
  unfold fX4_goOn_14
  exact rfl
theorem goOn_node {mn : Nat} (d : Nat) (hF : FW (k + 1) p row (nI (k + 1)) pl st) (h : k + 2 ≤ mn) (h9 : mn ≤ 9) : fX4_goOn (d + 1) row (nI (k + 1)) pl st brow bsz bpl bst (nI mn) fit hc mid sG sC (nI (k + 1)) = fX4_goOn_31 (fX4_goOn d) (nI mn) mid sG sC 4000 row (nI (k + 1)) pl st brow bsz bpl bst fit hc (nI (k + 1)) (nI (p k)) (nI 0) := by
  have hlast := hF.2.2.1 k (by omega)
  have hls : fX2_lastSquare row (nI (k + 1)) = some (nI (p k)) := by
    unfold fX2_lastSquare fX2_squareAt
    rw [m1, if_neg (nI_pos (by omega)), if_neg (nleF (by omega) (by omega)), if_pos (inb_n (by omega) (by decide)), cl_n (by omega), hlast.2, o1]
  rw [nI_z, fX4_goOn, if_neg (nleF (by omega) (by omega)), if_pos (ltT (c := 9) (C := 9) rfl (by omega) (by decide)), hls, o1]
end Cl
