-- GAPS: what the class holds as a bit, the reference asks of places
section Gaps
variable {n : Nat} {p : Nat → Nat} {row yrow : Nat → Int32} {size : Int32} {pl st : Int64}
theorem isRound_v (h : FW n p row size pl st) (hyr : ∀ i, i < n → yrow i = nI (p i)) : fX10_isRound yrow (nI n) = some (bI (decide (rgv n p ≠ 64))) := by
  obtain ⟨h1, h2, h3, -⟩ := h
  unfold fX10_isRound rgv
  by_cases q : 4 ≤ n
  · obtain ⟨k, rfl⟩ : ∃ k, n = k + 1 := ⟨n - 1, by omega⟩
    rw [if_neg (fun z => by have := (nlt (k + 1) 4 (by omega) (by decide)).mp z; omega), m1, if_pos (inb_n (by omega) (by decide)), cl_n (by omega), show (0 : Int32).toNatClampNeg = 0 by decide, hyr k (by omega), hyr 0 (by omega), if_pos q]
    have a := (h3 k (by omega)).1
    have b := (h3 0 (by omega)).1
    obtain ⟨hs1, hs2⟩ := tb_sideTo (p k) a (p 0) b
    cases hv : fX10_sideTo (nI (p k)) (nI (p 0)) with
    | none => rw [hv] at hs1; cases hs1
    | some v =>
      show (if v < 0 then some (0 : Int32) else some 1) = _
      by_cases z : ew (p k) (p 0) = 64
      · rw [if_pos ((hs2 v hv).mpr z)]
        simp [z, bI]
      · rw [if_neg (fun y => z ((hs2 v hv).mp y))]
        simp [z, bI]
  · rw [if_pos (show nI n < (4 : Int32) from (nlt n 4 (by omega) (by decide)).mpr (by omega)), if_neg q]
    simp [bI]
theorem follow_none {a b : Int32} (h : a < 0 ∨ b < 0) : fX10_follow yrow size a b = some 0 := by
  have key : ∀ s0, fX10_follow_14 yrow size a b s0 = some 0 := fun s0 => by
    unfold fX10_follow_14
    by_cases q : a < 0
    · rw [if_pos q]
    · rw [if_neg q, if_pos (h.resolve_left q)]
  unfold fX10_follow
  rw [key, key]
  exact ite_self _
def fol (n : Nat) (p : Nat → Nat) (i j : Nat) : Bool := decide (i + 1 = j ∨ j + 1 = i) || (decide (i + (n - 1) = j ∨ j + (n - 1) = i) && decide (rgv n p ≠ 64))
theorem follow_v (h : FW n p row size pl st) (hyr : ∀ i, i < n → yrow i = nI (p i)) {i j : Nat} (hi : i < n) (hj : j < n) : fX10_follow yrow (nI n) (nI i) (nI j) = some (bI (fol n p i j)) := by
  have h1 := h.1
  have hr := isRound_v h hyr
  have key : ∀ d : Nat, d < 36 → fX10_follow_14 yrow (nI n) (nI i) (nI j) (nI d) = some (bI (decide (d = 1) || (decide (d = n - 1) && decide (rgv n p ≠ 64)))) := fun d hd => by
    unfold fX10_follow_14
    obtain ⟨m, rfl⟩ : ∃ m, n = m + 1 := ⟨n - 1, by omega⟩
    rw [if_neg (nI_pos (by omega)), if_neg (nI_pos (by omega)), m1]
    by_cases q : d = 1
    · subst q
      rw [if_pos (show nI 1 = 1 from rfl)]
      simp [bI]
    · rw [if_neg (show ¬ nI d = (1 : Int32) from fun z => q ((nI_eq (by omega) (by decide)).mp (show nI d = nI 1 from z)))]
      by_cases q2 : d = m
      · subst q2
        rw [if_pos rfl, hr]
        simp only [ob1]
        cases hz : decide (rgv (d + 1) p ≠ 64) <;> simp [q, bI, i10]
      · rw [if_neg (fun z => q2 ((nI_eq (by omega) (by omega)).mp z))]
        simp [q, q2, bI]
  unfold fX10_follow
  by_cases q : i ≤ j
  · rw [if_pos ((nle i j (by omega) (by omega)).mpr q), pk_sub q, key _ (by omega)]
    congr 2
    unfold fol
    congr 1
    · exact decide_eq_decide.mpr (by omega)
    · congr 1
      exact decide_eq_decide.mpr (by omega)
  · rw [if_neg (fun z => q ((nle i j (by omega) (by omega)).mp z)), pk_sub (by omega), key _ (by omega)]
    congr 2
    unfold fol
    congr 1
    · exact decide_eq_decide.mpr (by omega)
    · congr 1
      exact decide_eq_decide.mpr (by omega)
theorem rgv_in (h : FW n p row size pl st) {e : Nat} (he : e ≠ 64) (hr : rgv n p = e) : 4 ≤ n ∧ ew (p (n - 1)) (p 0) = e := by
  unfold rgv at hr
  by_cases q : 4 ≤ n
  · rw [if_pos q] at hr; exact ⟨q, hr⟩
  · rw [if_neg q] at hr; omega
/-- the step or the ring between two places -/
theorem fol_bit (h : FW n p row size pl st) {i j : Nat} (hi : i < n) (hj : j < n) (hne : ew (p i) (p j) ≠ 64) : fol n p i j = (bL st (ew (p i) (p j)) || decide (rgv n p = ew (p i) (p j))) := by
  obtain ⟨h1, h2, h3, h4, h5, h6, h7⟩ := id h
  have pi := (h3 i hi).1
  have pj := (h3 j hj).1
  have inj2 : ∀ {a b : Nat}, a < n → b < n → ew (p a) (p b) = ew (p i) (p j) → a = i ∧ b = j ∨ a = j ∧ b = i := by
    intro a b ha hb e
    rcases ew_inj (h3 a ha).1 (h3 b hb).1 pi pj hne e with ⟨x, y⟩ | ⟨x, y⟩
    · exact Or.inl ⟨h4 a i ha hi x, h4 b j hb hj y⟩
    · exact Or.inr ⟨h4 a j ha hj x, h4 b i hb hi y⟩
  rw [Bool.eq_iff_iff]
  unfold fol
  simp only [Bool.or_eq_true, Bool.and_eq_true, decide_eq_true_eq]
  rw [h7]
  constructor
  · rintro (h8 | ⟨h8, h9⟩)
    · refine Or.inl ⟨hne, ?_⟩
      rcases h8 with z | z
      · exact ⟨i, by omega, by rw [z]⟩
      · exact ⟨j, by omega, by rw [z]; exact (tb_ew _ pj _ pi).2.1⟩
    · refine Or.inr ?_
      have hr : 4 ≤ n ∧ ew (p (n - 1)) (p 0) = rgv n p := rgv_in h h9 rfl
      rcases h8 with z | z
      · have e1 : i = 0 := by omega
        have e2 : j = n - 1 := by omega
        rw [← hr.2, e1, e2]; exact (tb_ew _ (h3 _ (by omega)).1 _ (h3 _ (by omega)).1).2.1
      · have e1 : j = 0 := by omega
        have e2 : i = n - 1 := by omega
        rw [← hr.2, e1, e2]
  · rintro (⟨-, a, ha, e⟩ | e)
    · rcases inj2 (by omega) ha e with ⟨x, y⟩ | ⟨x, y⟩
      · exact Or.inl (Or.inl (by omega))
      · exact Or.inl (Or.inr (by omega))
    · obtain ⟨a, b⟩ := rgv_in h hne e
      refine Or.inr ⟨?_, by rw [e]; exact hne⟩
      rcases inj2 (by omega) (by omega) b with ⟨x, y⟩ | ⟨x, y⟩ <;> omega
theorem no_bit (h : FW n p row size pl st) {q r : Nat} (hq : q < 36) (hr : r < 36) (hne : ew q r ≠ 64) (hn : (∀ i, i < n → p i ≠ q) ∨ ∀ i, i < n → p i ≠ r) : bL st (ew q r) = false ∧ rgv n p ≠ ew q r := by
  obtain ⟨h1, h2, h3, h4, h5, h6, h7⟩ := id h
  have key : ∀ {a b : Nat}, a < n → b < n → ew (p a) (p b) ≠ ew q r := by
    intro a b ha hb e
    rcases ew_inj (h3 a ha).1 (h3 b hb).1 hq hr hne e with ⟨x, y⟩ | ⟨x, y⟩
    · rcases hn with z | z
      · exact z a ha x
      · exact z b hb y
    · rcases hn with z | z
      · exact z b hb y
      · exact z a ha x
  refine ⟨?_, fun e => ?_⟩
  · cases hb : bL st (ew q r) with
    | false => rfl
    | true =>
      obtain ⟨-, a, ha, e⟩ := (h7 _).mp hb
      exact absurd e (key (by omega) ha)
  · obtain ⟨a, b⟩ := rgv_in h hne e
    exact key (by omega) (by omega) b
theorem gap_v {eaten closed gaps : Int64} {yea ysh : Nat → Int32} (h : FW n p row size pl st) (hyr : ∀ i, i < n → yrow i = nI (p i)) (hE : MK eaten yea) (hC : MK closed ysh) (hG : GP n p st eaten closed gaps) {q s : Nat} (hq : q < 36) (hs : s < 4) (hnx : nx q s ≠ 36) :
    fX10_isGap yrow (nI n) yea ysh (nI q) (nI s) = some (bI (bL gaps (eb q s))) := by
  obtain ⟨t1, t2, t3, t4⟩ := tb_n2 q hq s hs hnx
  obtain ⟨u1, u2, u3, u4⟩ := tb_n3 q hq s hs hnx
  have hr : nx q s < 36 := by have := tb_n1 q hq s hs; omega
  unfold fX10_isGap
  rw [tb_pair q hq s hs hnx]
  simp only [ob1]
  rw [if_pos (inb_n t3 (by decide)), if_pos (inb_n t3 (by decide)), cl_n (by omega), hC.1 _ t3, hE.1 _ t3, t4, t2, Bool.true_and, Bool.true_and, hG _ (by omega)]
  cases hc : bL closed (eb q s) with
  | true =>
    rw [if_neg (show ¬ bI true = 0 by decide)]
    simp [bI]
  | false =>
    rw [if_pos (show bI false = 0 by decide)]
    cases he : bL eaten (eb q s) with
    | true =>
      rw [if_pos (show bI true = 1 by decide)]
      simp [bI]
    | false =>
      rw [if_neg (show ¬ bI false = 1 by decide), tb_nextTo q hq s hs, if_neg hnx]
      have h2 := h.1
      rcases place_v h rfl hyr hq with ⟨i, hi, ei, -, e1⟩ | ⟨hn, -, e1⟩
      · rcases place_v h rfl hyr hr with ⟨j, hj, ej, -, e2⟩ | ⟨hn, -, e2⟩
        · rw [e1]
          simp only
          rw [e2]
          simp only
          rw [follow_v h hyr hi hj]
          simp only
          have hne : ew (p i) (p j) ≠ 64 := by rw [ei, ej, u1]; omega
          rw [fol_bit h hi hj hne, ei, ej, u1]
          simp only [Bool.or_false, Bool.not_false, Bool.and_true]
          cases (bL st (eb q s) || decide (rgv n p = eb q s)) <;> simp [bI, i10]
        · rw [e1]
          simp only
          rw [e2]
          simp only
          rw [follow_none (Or.inr (by decide))]
          obtain ⟨z1, z2⟩ := no_bit h hq hr (by rw [u1]; omega) (Or.inr hn)
          rw [u1] at z1 z2
          simp [z1, z2, bI]
      · rw [e1]
        simp only
        rcases place_v h rfl hyr hr with ⟨j, hj, ej, -, e2⟩ | ⟨hn2, -, e2⟩
        · rw [e2]
          simp only
          rw [follow_none (Or.inl (by decide))]
          obtain ⟨z1, z2⟩ := no_bit h hq hr (by rw [u1]; omega) (Or.inl hn)
          rw [u1] at z1 z2
          simp [z1, z2, bI]
        · rw [e2]
          simp only
          rw [follow_none (Or.inl (by decide))]
          obtain ⟨z1, z2⟩ := no_bit h hq hr (by rw [u1]; omega) (Or.inl hn)
          rw [u1] at z1 z2
          simp [z1, z2, bI]
end Gaps
