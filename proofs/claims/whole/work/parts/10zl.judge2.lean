-- FIT: the model's judge of a path that has the middle at place j
def hrd (i : Nat) (p : Nat → Nat) (j : Nat) : Nat := if rgv i p ≠ 64 ∧ i - j < j then i - j else j
theorem judge_at {yset path : Nat → Int32} {p : Nat → Nat} {i mi j : Nat} (hi : i ≤ 9) (hy : yset 1 = nI mi) (hmi : mi < 36) (hr : ∀ j, j < i → p j < 36 ∧ path j = nI (p j)) (hj : j < i) (hpj : p j = mi) (hinj : ∀ m, m < i → p m = mi → m = j) : ∀ N k (hd : Nat → Int32) (hs : Int32), k ≤ j → i + 1 ≤ k + N →
    (nI (hrd i p j) ≤ hs → fX10_judge_2 yset path N hd hs (nI i) (nI k) = some (hd, hs)) ∧ (¬ nI (hrd i p j) ≤ hs → ∃ hd', fX10_judge_2 yset path N hd hs (nI i) (nI k) = some (hd', nI (hrd i p j)) ∧ ∀ m, m < i → hd' m = path m) := by
  intro N
  induction N with
  | zero => intro k hd hs h1 h2; omega
  | succ N ih =>
    intro k hd hs h1 h2
    rw [fX10_judge_2]
    have hk := hr k (by omega)
    rw [if_neg (nleF (by omega) (by omega)), if_pos (inb_n (by omega) (by decide)), cl_n (by omega), hk.2, show (1 : Int32).toNatClampNeg = 1 from rfl, hy]
    by_cases z : k = j
    · subst z
      have hrest : ∀ hd' hs', fX10_judge_2 yset path N hd' hs' (nI i) (nI (k + 1)) = some (hd', hs') := fun hd' hs' => judge_no hi hy hmi hr N (k + 1) hd' hs' (by omega) (by omega) (fun m a b e => by have := hinj m b e; omega)
      have h44 : ∀ s0 : Int32, s0 = nI (hrd i p k) → (nI (hrd i p k) ≤ hs → fX10_judge_44 (fX10_judge_2 yset path N) path hd hs (nI i) (nI k) s0 = some (hd, hs)) ∧ (¬ nI (hrd i p k) ≤ hs → ∃ hd', fX10_judge_44 (fX10_judge_2 yset path N) path hd hs (nI i) (nI k) s0 = some (hd', nI (hrd i p k)) ∧ ∀ m, m < i → hd' m = path m) := by
        intro s0 hs0
        subst hs0
        unfold fX10_judge_44 fX10_judge_87
        refine ⟨fun h => ?_, fun h => ?_⟩
        · rw [if_pos h, nI_1]; exact hrest _ _
        · rw [if_neg h]
          obtain ⟨hd', e1, e2⟩ := judge61 (fX10_judge_2 yset path N) path (nI (hrd i p k)) (nI k) hi 4000 0 hd (Nat.zero_le _) (by omega) (fun m hm => absurd hm (by omega))
          rw [nI_z] at e1
          rw [e1, nI_1, hrest]
          exact ⟨_, rfl, e2⟩
      rw [if_pos (by rw [hpj]), pround_v hi hr, o1]
      by_cases y : rgv i p ≠ 64
      · rw [decide_eq_true y, if_neg (show ¬ bI true = 0 by decide), pk_sub (by omega)]
        by_cases w : i - k < k
        · rw [if_neg (nleF w (by omega))]
          exact h44 _ (by unfold hrd; rw [if_pos ⟨y, w⟩])
        · rw [if_pos (nleT (by omega) (by omega))]
          unfold fX10_judge_43
          exact h44 _ (by unfold hrd; rw [if_neg (fun q => w q.2)])
      · rw [decide_eq_false y, if_pos (show bI false = 0 by decide)]
        unfold fX10_judge_43
        exact h44 _ (by unfold hrd; rw [if_neg (fun q => y q.1)])
    · rw [if_neg (fun q => z (hinj k (by omega) ((nI_eq (by omega) (by omega)).mp q)))]
      unfold fX10_judge_87
      rw [nI_1]
      exact ih (k + 1) hd hs (by omega) (by omega)
