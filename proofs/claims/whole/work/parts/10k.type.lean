-- STEP of type
theorem and255 (x : Int64) : ∃ m : Nat, m < 256 ∧ x &&& 255 = lN m := by
  refine ⟨(x &&& 255).toBitVec.toNat, ?_, ?_⟩
  · rw [Int64.toBitVec_and, BitVec.toNat_and]
    have : (255 : Int64).toBitVec.toNat = 255 := by decide
    rw [this]
    exact Nat.lt_of_le_of_lt Nat.and_le_right (by decide)
  · apply Int64.toBitVec_inj.mp
    show (x &&& 255).toBitVec = BitVec.ofNat 64 (x &&& 255).toBitVec.toNat
    simp
noncomputable def bN (w : Int64) (k : Nat) : Nat := Classical.choose (and255 (w >>> (((8 : Int32) * nI k).toInt64 &&& 63)))
theorem bN_lt (w : Int64) (k : Nat) : bN w k < 256 := (Classical.choose_spec (and255 (w >>> (((8 : Int32) * nI k).toInt64 &&& 63)))).1
theorem bN_e (w : Int64) (k : Nat) : (w >>> (((8 : Int32) * nI k).toInt64 &&& 63)) &&& 255 = lN (bN w k) := (Classical.choose_spec (and255 (w >>> (((8 : Int32) * nI k).toInt64 &&& 63)))).2
def gB (w : Int64) (i : Nat) : Prop := 32 ≤ bN w i ∧ bN w i ≤ 126
theorem byteAt_v (w : Int64) (k : Nat) : fX6_byteAt w (nI k) = some (nI (bN w k)) := by
  unfold fX6_byteAt
  rw [bN_e, lN_i]
theorem ty_c (w : Int64) (m : Nat) (hm : m ≤ 8) : ∀ N j : Nat, j ≤ m → m + 1 ≤ j + N → ((∀ i, j ≤ i → i < m → gB w i) → fX6_isTypeable_2 N w (nI m) (nI j) = some 1) ∧ ((∃ i, j ≤ i ∧ i < m ∧ ¬ gB w i) → fX6_isTypeable_2 N w (nI m) (nI j) = some 0)
  | 0, j, h1, h2 => absurd h2 (by omega)
  | N + 1, j, h1, h2 => by
    rw [fX6_isTypeable_2]
    by_cases z : j = m
    · subst z
      rw [if_pos ((nle j j (by omega) (by omega)).mpr (Nat.le_refl _))]
      exact ⟨fun _ => rfl, fun ⟨i, a, b, _⟩ => absurd a (by omega)⟩
    · have ih := ty_c w m hm N (j + 1) (by omega) (by omega)
      have hb := bN_lt w j
      rw [if_neg (fun y => by have := (nle m j (by omega) (by omega)).mp y; omega), byteAt_v]
      simp only [ob1]
      rw [nI_1]
      by_cases g : gB w j
      · rw [if_neg (show ¬ nI (bN w j) < (32 : Int32) from fun y => by have := (nlt _ 32 (by omega) (by decide)).mp y; have := g.1; omega), if_pos (show nI (bN w j) ≤ (126 : Int32) from (nle _ 126 (by omega) (by decide)).mpr g.2)]
        refine ⟨fun h => ih.1 fun i a b => h i (by omega) b, fun ⟨i, a, b, c⟩ => ih.2 ⟨i, ?_, b, c⟩⟩
        have : i ≠ j := fun y => by subst y; exact c g
        omega
      · refine ⟨fun h => absurd (h j (Nat.le_refl _) (by omega)) g, fun _ => ?_⟩
        by_cases z1 : bN w j < 32
        · rw [if_pos (show nI (bN w j) < (32 : Int32) from (nlt _ 32 (by omega) (by decide)).mpr z1)]
        · rw [if_neg (show ¬ nI (bN w j) < (32 : Int32) from fun y => z1 ((nlt _ 32 (by omega) (by decide)).mp y)), if_neg (show ¬ nI (bN w j) ≤ (126 : Int32) from fun y => g ⟨by omega, (nle _ 126 (by omega) (by decide)).mp y⟩)]
def pm (k : Nat) : Int32 := nI k + (-1)
theorem pm_0 : pm 0 = -1 := by decide
theorem pm_s (k : Nat) : pm (k + 1) = nI k := pk_m1 k
theorem sub_pm (m : Nat) : nI m - (1 : Int32) = pm m := by
  unfold pm
  rw [Int32.sub_eq_add_neg]
theorem o1 {α β : Type} (a : α) (k : α → Option β) : ob1 (some a) k = k a := rfl
theorem o2 {α β γ : Type} (a : α) (b : β) (k : α → β → Option γ) : ob2 (some (a, b)) k = k a b := rfl
theorem o3 {α β γ δ : Type} (a : α) (b : β) (c : γ) (k : α → β → γ → Option δ) : ob3 (some (a, b, c)) k = k a b c := rfl
theorem lets_eq {α β : Type} (x : α) (k : α → Option β) : lets x k = k x := rfl
theorem ty_t1 (tape : Nat → Int32) (t : Nat) (w : Int64) (m : Nat) (hm : m ≤ 8) (z : t + m ≤ 80) (N : Nat) : fX10_type_19 (N + 1) tape (nI t) w (nI m) (pm 0) = fX10_type_74 4000 tape (nI t) w (pm m) := by
  rw [fX10_type_19, pm_0, if_pos (show (-1 : Int32) < 0 by decide), nI_add, if_pos (show nI (t + m) ≤ (80 : Int32) from (nle _ 80 (by omega) (by decide)).mpr z), lets_eq, sub_pm]
theorem ty_t2 (tape : Nat → Int32) (t : Nat) (w : Int64) (m : Nat) (hm : m ≤ 8) (ht : t ≤ 80) (z : ¬ t + m ≤ 80) (N : Nat) : fX10_type_19 (N + 1) tape (nI t) w (nI m) (pm 0) = some (-3, tape, nI t) := by
  rw [fX10_type_19, pm_0, if_pos (show (-1 : Int32) < 0 by decide), nI_add, if_neg (show ¬ nI (t + m) ≤ (80 : Int32) from fun y => z ((nle _ 80 (by omega) (by decide)).mp y))]
theorem ty_m (tape : Nat → Int32) (t : Nat) (w : Int64) (m : Nat) (E0 : Option (Int32 × (Nat → Int32) × Int32)) (hE : ∀ N, fX10_type_19 (N + 1) tape (nI t) w (nI m) (pm 0) = E0) : ∀ N k : Nat, k ≤ 8 → k + 1 ≤ N → ((∀ i, i < k → gB w i) → fX10_type_19 N tape (nI t) w (nI m) (pm k) = E0) ∧ ((∃ i, i < k ∧ ¬ gB w i) → fX10_type_19 N tape (nI t) w (nI m) (pm k) = some (-1, tape, nI t)) := by
  intro N
  induction N with
  | zero => intro k h1 h2; omega
  | succ N ih0 =>
    intro k h1 h2
    cases k with
    | zero => exact ⟨fun _ => hE N, fun ⟨i, a, _⟩ => absurd a (by omega)⟩
    | succ k =>
      have ih := ih0 k (by omega) (by omega)
      have hb := bN_lt w k
      have ein : fX10_in (lN (bN w k)) 32 126 = some (bI (decide ((32 : Int32) ≤ nI (bN w k)) && decide (nI (bN w k) ≤ (126 : Int32)))) := by
        rw [← nI_l (show bN w k < 2 ^ 31 by omega), show (32 : Int64) = (32 : Int32).toInt64 by decide, show (126 : Int64) = (126 : Int32).toInt64 by decide, X10_in]
      rw [fX10_type_19, pm_s, if_neg (nI_pos (by omega)), bN_e, ein]
      simp only [ob1]
      have e1 : decide ((32 : Int32) ≤ nI (bN w k)) = decide (32 ≤ bN w k) := decide_eq_decide.mpr (nle 32 _ (by decide) (by omega))
      have e2 : decide (nI (bN w k) ≤ (126 : Int32)) = decide (bN w k ≤ 126) := decide_eq_decide.mpr (nle _ 126 (by omega) (by decide))
      rw [e1, e2]
      by_cases g : gB w k
      · have e3 : (decide (32 ≤ bN w k) && decide (bN w k ≤ 126)) = true := by simp [g.1, g.2]
        rw [e3, if_neg (show ¬ bI true = 0 by decide)]
        refine ⟨fun h => ih.1 fun i a => h i (by omega), fun ⟨i, a, c⟩ => ih.2 ⟨i, ?_, c⟩⟩
        have : i ≠ k := fun y => by subst y; exact c g
        omega
      · have e3 : (decide (32 ≤ bN w k) && decide (bN w k ≤ 126)) = false := by
          cases hx : (decide (32 ≤ bN w k) && decide (bN w k ≤ 126)) with
          | false => rfl
          | true => simp only [Bool.and_eq_true, decide_eq_true_eq] at hx; exact absurd hx g
        rw [e3, if_pos (show bI false = 0 by decide)]
        exact ⟨fun h => absurd (h k (by omega)) g, fun _ => rfl⟩
theorem ap_l (w : Int64) : ∀ N k t : Nat, ∀ typed tape : Nat → Int32, t + k ≤ 80 → k + 1 ≤ N → (∀ i, i < k → gB w i) → (∀ i, i < t → typed i = tape i ∧ ∃ b : Nat, 32 ≤ b ∧ b ≤ 126 ∧ typed i = nI b) →
    ∃ typed' tape', fX6_append_18 N typed (nI t) w (pm k) = some (1, typed', nI (t + k)) ∧ fX10_type_74 N tape (nI t) w (pm k) = some (nI (t + k), tape', nI (t + k)) ∧ ∀ i, i < t + k → typed' i = tape' i ∧ ∃ b : Nat, 32 ≤ b ∧ b ≤ 126 ∧ typed' i = nI b
  | 0, k, t, typed, tape, h1, h2, hg, hr => absurd h2 (by omega)
  | N + 1, 0, t, typed, tape, h1, h2, hg, hr => by
    rw [fX6_append_18, fX10_type_74, pm_0, if_pos (by decide), if_pos (by decide)]
    exact ⟨_, _, rfl, rfl, hr⟩
  | N + 1, k + 1, t, typed, tape, h1, h2, hg, hr => by
    have hb := bN_lt w k
    have g := hg k (by omega)
    rw [fX6_append_18, fX10_type_74, pm_s, if_neg (nI_pos (by omega)), if_neg (nI_pos (by omega)), byteAt_v, bN_e, lN_i]
    simp only [ob1, lets]
    rw [if_pos (inb_n (by omega) (by decide)), if_pos (inb_n (by omega) (by decide)), nI_1, cl_n (by omega)]
    have ih := ap_l w N k (t + 1) (upd typed t (nI (bN w k))) (upd tape t (nI (bN w k))) (by omega) (by omega) (fun i a => hg i (by omega)) (fun i hi => by
      by_cases z : i = t
      · subst z; rw [upd_s, upd_s]; exact ⟨rfl, _, g.1, g.2, rfl⟩
      · rw [upd_n _ _ z, upd_n _ _ z]; exact hr i (by omega))
    rw [show t + (k + 1) = t + 1 + k by omega]
    exact ih
theorem X10_in18 (a : Int32) : fX10_in a.toInt64 1 8 = some (bI (decide ((1 : Int32) ≤ a) && decide (a ≤ (8 : Int32)))) := by
  rw [show (1 : Int64) = (1 : Int32).toInt64 by decide, show (8 : Int64) = (8 : Int32).toInt64 by decide, X10_in]
theorem type_bad1 (typed : Nat → Int32) (t : Nat) (w : Int64) (a1 : Int32) (hn : ¬ ((1 : Int32) ≤ a1 ∧ a1 ≤ (8 : Int32))) : fX9_type typed (nI t) w a1 = some (-1, typed, nI t) := by
  unfold fX9_type
  by_cases z : a1 < 1
  · rw [if_pos z]
  · rw [if_neg z, if_pos]
    rw [← Int32.not_le]
    exact fun y => hn ⟨by rw [Int32.not_lt] at z; exact z, y⟩
theorem type_bad2 (tape : Nat → Int32) (t : Nat) (w : Int64) (a1 : Int32) (hn : ¬ ((1 : Int32) ≤ a1 ∧ a1 ≤ (8 : Int32))) : fX10_type tape (nI t) w a1 = some (-1, tape, nI t) := by
  have : (decide ((1 : Int32) ≤ a1) && decide (a1 ≤ (8 : Int32))) = false := by
    cases hx : (decide ((1 : Int32) ≤ a1) && decide (a1 ≤ (8 : Int32))) with
    | false => rfl
    | true => simp only [Bool.and_eq_true, decide_eq_true_eq] at hx; exact absurd hx hn
  rw [fX10_type, X10_in18, this, o1, if_pos (show bI false = 0 by decide)]
theorem type_m (tape : Nat → Int32) (t : Nat) (w : Int64) (m : Nat) (h : (1 : Int32) ≤ nI m ∧ nI m ≤ (8 : Int32)) : fX10_type tape (nI t) w (nI m) = fX10_type_19 4000 tape (nI t) w (nI m) (pm m) := by
  have : (decide ((1 : Int32) ≤ nI m) && decide (nI m ≤ (8 : Int32))) = true := by simp [h.1, h.2]
  rw [fX10_type, X10_in18, this, o1, if_neg (show ¬ bI true = 0 by decide), lets_eq, sub_pm]
theorem type_c (typed : Nat → Int32) (t : Nat) (w : Int64) (m : Nat) (h : (1 : Int32) ≤ nI m ∧ nI m ≤ (8 : Int32)) (r : Int32) (hr : fX6_isTypeable_2 4000 w (nI m) (nI 0) = some r) : fX9_type typed (nI t) w (nI m) = (if r = 0 then some (-1, typed, nI t) else ob3 (fX6_append typed (nI t) w (nI m)) fun r3 a b => if r3 = 0 then some (-3, a, b) else some (b, a, b)) := by
  rw [fX9_type, if_neg (by rw [Int32.not_lt]; exact h.1), if_neg (by rw [Int32.not_lt]; exact h.2), fX6_isTypeable, show (0 : Int32) = nI 0 from rfl, hr, o1]
theorem app_y (typed : Nat → Int32) (t : Nat) (w : Int64) (m : Nat) (hm : m ≤ 8) (hz : t + m ≤ 80) : fX6_append typed (nI t) w (nI m) = fX6_append_18 4000 typed (nI t) w (pm m) := by
  rw [fX6_append, nI_add, if_pos (show nI (t + m) ≤ (80 : Int32) from (nle _ 80 (by omega) (by decide)).mpr hz), sub_pm, lets_eq]
theorem app_n (typed : Nat → Int32) (t : Nat) (w : Int64) (m : Nat) (hm : m ≤ 8) (ht : t ≤ 80) (hz : ¬ t + m ≤ 80) : fX6_append typed (nI t) w (nI m) = some (0, typed, nI t) := by
  rw [fX6_append, nI_add, if_neg (show ¬ nI (t + m) ≤ (80 : Int32) from fun y => hz ((nle _ 80 (by omega) (by decide)).mp y))]
set_option maxHeartbeats 1000000 in
theorem step_type : STEP_type R3d := by
  intro sz typed taped tape w a1 ⟨t, ht, e1, e2, hr⟩
  subst e1; subst e2
  by_cases hn : (1 : Int32) ≤ a1 ∧ a1 ≤ (8 : Int32)
  · obtain ⟨m, hm, rfl⟩ := nI_of2 (n := 8) (by decide) (fun z => by
      have := Int32.lt_of_lt_of_le z (show (0 : Int32) ≤ 1 by decide)
      exact absurd hn.1 (by rw [Int32.not_le]; exact this)) hn.2
    obtain ⟨c0, c1⟩ := ty_c w m hm 4000 0 (Nat.zero_le _) (by omega)
    have em := type_m tape t w m hn
    by_cases hg : ∀ i, i < m → gB w i
    · have c2 := type_c typed t w m hn 1 (c0 fun i _ b => hg i b)
      rw [if_neg (show ¬ (1 : Int32) = 0 by decide)] at c2
      by_cases hz : t + m ≤ 80
      · have m1 := (ty_m tape t w m _ (ty_t1 tape t w m hm hz) 4000 m hm (by omega)).1 hg
        obtain ⟨ty', ta', f1, f2, f3⟩ := ap_l w 4000 m t typed tape hz (by omega) hg hr
        rw [app_y typed t w m hm hz, f1, o3, if_neg (show ¬ (1 : Int32) = 0 by decide)] at c2
        rw [m1, f2] at em
        exact ⟨_, _, _, _, _, c2, em, t + m, hz, rfl, rfl, f3⟩
      · have m1 := (ty_m tape t w m _ (ty_t2 tape t w m hm ht hz) 4000 m hm (by omega)).1 hg
        rw [app_n typed t w m hm ht hz, o3, if_pos rfl] at c2
        rw [m1] at em
        exact ⟨_, _, _, _, _, c2, em, t, ht, rfl, rfl, hr⟩
    · have hx : ∃ i, i < m ∧ ¬ gB w i := by
        apply Classical.byContradiction
        intro y
        exact hg fun i hi => Classical.byContradiction fun z => y ⟨i, hi, z⟩
      obtain ⟨i, hi, hgi⟩ := hx
      have c2 := type_c typed t w m hn 0 (c1 ⟨i, Nat.zero_le _, hi, hgi⟩)
      rw [if_pos rfl] at c2
      have em2 : fX10_type_19 4000 tape (nI t) w (nI m) (pm m) = some (-1, tape, nI t) := by
        by_cases hz : t + m ≤ 80
        · exact (ty_m tape t w m _ (ty_t1 tape t w m hm hz) 4000 m hm (by omega)).2 ⟨i, hi, hgi⟩
        · exact (ty_m tape t w m _ (ty_t2 tape t w m hm ht hz) 4000 m hm (by omega)).2 ⟨i, hi, hgi⟩
      rw [em2] at em
      exact ⟨_, _, _, _, _, c2, em, t, ht, rfl, rfl, hr⟩
  · exact ⟨_, _, _, _, _, type_bad1 typed t w a1 hn, type_bad2 tape t w a1 hn, t, ht, rfl, rfl, hr⟩
