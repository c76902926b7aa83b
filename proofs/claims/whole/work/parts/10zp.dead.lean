-- FIT: a path with a step through corn seen: the model finds nothing below it
def fB : Nat → Nat
  | 0 => 0
  | m + 1 => 5 + 4 * fB m
theorem fB_s (m : Nat) : fB (m + 1) = 4 * (1 + fB m) + 1 := by
  show 5 + 4 * fB m = _
  omega
def DD (i : Nat) (p : Nat → Nat) (sC : Int64) : Prop := ∃ j, j + 1 < i ∧ bL sC (ew (p j) (p (j + 1))) = true
theorem dead_no {i k : Nat} {p : Nat → Nat} {sp sg : Nat → Int32} {sG sC : Int64} {sN ys : Int32} (hS : SN k sG sC sN sp sg ys) (hd : DD i p sC) : ¬ ∀ m, m < k → OKm i p sp sg m := by
  intro h
  obtain ⟨j, hj, hb⟩ := hd
  obtain ⟨m, pr, hm, hp, hv, e1, e2, e3⟩ := (hS.2.2.2.2.2 _).mp hb
  have := (h m hm pr hp hv e1).mp (Or.inl ⟨j, hj, e2.symm⟩)
  rw [e3] at this
  exact absurd this (by decide)
def pe (n : Nat) (p : Nat → Nat) (q : Nat) : Nat → Nat := fun k => if k = n then q else p k
theorem pe_s (n : Nat) (p : Nat → Nat) (q : Nat) : pe n p q n = q := if_pos rfl
theorem pe_n {n : Nat} (p : Nat → Nat) (q : Nat) {j : Nat} (h : j ≠ n) : pe n p q j = p j := if_neg h
theorem pe_row {k : Nat} {p : Nat → Nat} {path : Nat → Int32} (hp : ∀ j, j < k + 1 → p j < 36 ∧ path j = nI (p j)) {q : Nat} (hq : q < 36) : ∀ j, j < k + 1 + 1 → pe (k + 1) p q j < 36 ∧ upd path (k + 1) (nI q) j = nI (pe (k + 1) p q j) := by
  intro j hj
  by_cases z : j = k + 1
  · subst z
    rw [pe_s, upd_s]
    exact ⟨hq, rfl⟩
  · rw [pe_n _ _ z, upd_n _ _ z]
    exact hp j (by omega)
theorem pe_way {k : Nat} {p : Nat → Nat} (hw : ∀ j, j + 1 < k + 1 → ew (p j) (p (j + 1)) ≠ 64) {q : Nat} (h : ew (p k) q ≠ 64) : ∀ j, j + 1 < k + 1 + 1 → ew (pe (k + 1) p q j) (pe (k + 1) p q (j + 1)) ≠ 64 := by
  intro j hj
  by_cases z : j = k
  · subst z
    rw [pe_s, pe_n _ _ (show j ≠ j + 1 by omega)]
    exact h
  · rw [pe_n _ _ (show j ≠ k + 1 by omega), pe_n _ _ (show j + 1 ≠ k + 1 by omega)]
    exact hw j (by omega)
theorem pe_dead {k : Nat} {p : Nat → Nat} {sC : Int64} (h : DD (k + 1) p sC) (q : Nat) : DD (k + 1 + 1) (pe (k + 1) p q) sC := by
  obtain ⟨j, hj, e⟩ := h
  refine ⟨j, by omega, ?_⟩
  rw [pe_n _ _ (show j ≠ k + 1 by omega), pe_n _ _ (show j + 1 ≠ k + 1 by omega)]
  exact e
theorem pe_corn {k : Nat} {p : Nat → Nat} {sC : Int64} {q : Nat} (h : bL sC (ew (p k) q) = true) : DD (k + 1 + 1) (pe (k + 1) p q) sC := by
  refine ⟨k, by omega, ?_⟩
  rw [pe_s, pe_n _ _ (show k ≠ k + 1 by omega)]
  exact h
theorem ew_nx {q s : Nat} (hq : q < 36) (hs : s < 4) (hn : nx q s ≠ 36) : nx q s < 36 ∧ ew q (nx q s) = eb q s ∧ eb q s < 60 := by
  have h1 := tb_n1 q hq s hs
  have h2 := (tb_n2 q hq s hs hn).1
  have h3 := (tb_n3 q hq s hs hn).1
  exact ⟨by omega, h3, h2⟩
def DR (yset sp sg : Nat → Int32) (ys : Int32) (many k B : Nat) (path sides : Nat → Int32) : Prop :=
  ∃ (path' sides' : Nat → Int32) (C : Nat), C ≤ B ∧ (∀ j, j < k + 1 → path' j = path j) ∧ (∀ j, j < k → sides' j = sides j) ∧ ∀ N hd hs x3, fX10_findFits_24 yset sp sg ys (N + C) path sides hd hs (nI many) x3 (nI k) = fX10_findFits_24 yset sp sg ys N path' sides' hd hs (nI many) x3 (nI k + (-1 : Int32))
section Dead
variable {yset sp sg : Nat → Int32} {ys sN : Int32} {sG sC : Int64} {kk many : Nat}
theorem dead_l (hS : SN kk sG sC sN sp sg ys) (hm9 : many ≤ 9) {k m : Nat} (hkm : k + 2 + m = many)
    (ih : ∀ m', m = m' + 1 → ∀ (p : Nat → Nat) (path sides : Nat → Int32), (∀ j, j < k + 1 + 1 → p j < 36 ∧ path j = nI (p j)) → (∀ j, j + 1 < k + 1 + 1 → ew (p j) (p (j + 1)) ≠ 64) → DD (k + 1 + 1) p sC → sides (k + 1) + 1 = nI 0 → DR yset sp sg ys many (k + 1) (fB m) path sides)
    {p : Nat → Nat} (hw : ∀ j, j + 1 < k + 1 → ew (p j) (p (j + 1)) ≠ 64) (hdd : DD (k + 1) p sC) :
    ∀ r s (path sides : Nat → Int32), s + r = 4 → (∀ j, j < k + 1 → p j < 36 ∧ path j = nI (p j)) → sides k + 1 = nI s → DR yset sp sg ys many k (r * (1 + fB m) + 1) path sides := by
  intro r
  induction r with
  | zero =>
    intro s path sides hs hp hsd
    have h4 : s = 4 := by omega
    subst h4
    exact ⟨path, upd sides k (nI 4), 1, by omega, fun _ _ => rfl, fun j hj => upd_n _ _ (by omega), fun N hd hs x3 => it_pop N (by omega) hsd⟩
  | succ r ihr =>
    intro s path sides hs hp hsd
    have hs4 : s < 4 := by omega
    have hq := (hp k (by omega)).1
    have hmul : (r + 1) * (1 + fB m) = r * (1 + fB m) + (1 + fB m) := Nat.succ_mul r _
    by_cases hsk : nx (p k) s = 36 ∨ ∃ j, j < k + 1 ∧ p j = nx (p k) s
    · obtain ⟨path', sides', C, c1, c2, c3, c4⟩ := ihr (s + 1) path (upd sides k (nI s)) (by omega) hp (by rw [upd_s, nI_1])
      refine ⟨path', sides', C + 1, by omega, c2, fun j hj => by rw [c3 j hj, upd_n _ _ (by omega)], fun N hd hs x3 => ?_⟩
      rw [← Nat.add_assoc, it_skip (N + C) (by omega) hs4 hsd hp hsk]
      exact c4 N hd hs x3
    · have hn : nx (p k) s ≠ 36 := fun e => hsk (Or.inl e)
      have hno : ∀ j, j < k + 1 → p j ≠ nx (p k) s := fun j hj e => hsk (Or.inr ⟨j, hj, e⟩)
      obtain ⟨q1, q2, q3⟩ := ew_nx hq hs4 hn
      have hp' := pe_row hp q1
      have hw' := pe_way hw (show ew (p k) (nx (p k) s) ≠ 64 by omega)
      have hd' := pe_dead hdd (nx (p k) s)
      cases m with
      | zero =>
        obtain ⟨b', e1, e2⟩ := fits_v hS (show k + 1 + 1 ≤ 9 by omega) (by omega) hp' hw'
        have hb : b' = false := by
          cases b' with
          | false => rfl
          | true => exact absurd (e2.mp rfl) (dead_no hS hd')
        have hk2 : k + 2 = many := by omega
        have hfit : fX10_fits sp sg ys (upd path (k + 1) (nI (nx (p k) s))) (nI many) = some (bI b') := by
          rw [hS.2.2.1, ← hk2]
          exact e1
        obtain ⟨path', sides', C, c1, c2, c3, c4⟩ := ihr (s + 1) (upd path (k + 1) (nI (nx (p k) s))) (upd sides k (nI s)) (by omega) (fun j hj => by rw [upd_n _ _ (show j ≠ k + 1 by omega)]; exact hp j hj) (by rw [upd_s, nI_1])
        refine ⟨path', sides', C + 1, by omega, fun j hj => by rw [c2 j hj, upd_n _ _ (by omega)], fun j hj => by rw [c3 j hj, upd_n _ _ (by omega)], fun N hd hs x3 => ?_⟩
        rw [← Nat.add_assoc, (it_leaf (N + C) hk2 hm9 hs4 hsd hp hn hno hfit).1 hb]
        exact c4 N hd hs x3
      | succ m' =>
        obtain ⟨path1, sides1, C1, d1, d2, d3, d4⟩ := ih m' rfl (pe (k + 1) p (nx (p k) s)) (upd path (k + 1) (nI (nx (p k) s))) (upd (upd sides k (nI s)) (k + 1) (-1)) hp' hw' hd' (by rw [upd_s]; decide)
        obtain ⟨path', sides', C, c1, c2, c3, c4⟩ := ihr (s + 1) path1 sides1 (by omega) (fun j hj => by rw [d2 j (by omega), upd_n _ _ (show j ≠ k + 1 by omega)]; exact hp j hj) (by rw [d3 k (by omega), upd_n _ _ (show k ≠ k + 1 by omega), upd_s, nI_1])
        refine ⟨path', sides', C + C1 + 1, by omega, fun j hj => by rw [c2 j hj, d2 j (by omega), upd_n _ _ (by omega)], fun j hj => by rw [c3 j hj, d3 j (by omega), upd_n _ _ (by omega), upd_n _ _ (by omega)], fun N hd hs x3 => ?_⟩
        rw [show N + (C + C1 + 1) = (N + C + C1) + 1 by omega, it_down (N + C + C1) (by omega) hm9 hs4 hsd hp hn hno, d4 (N + C) hd hs x3, pk_m1]
        exact c4 N hd hs x3
theorem dead_n (hS : SN kk sG sC sN sp sg ys) (hm9 : many ≤ 9) : ∀ m k, k + 2 + m = many → ∀ (p : Nat → Nat) (path sides : Nat → Int32), (∀ j, j < k + 1 → p j < 36 ∧ path j = nI (p j)) → (∀ j, j + 1 < k + 1 → ew (p j) (p (j + 1)) ≠ 64) → DD (k + 1) p sC → sides k + 1 = nI 0 → DR yset sp sg ys many k (fB (m + 1)) path sides := by
  intro m
  induction m with
  | zero =>
    intro k hk p path sides hp hw hdd hsd
    rw [fB_s]
    exact dead_l hS hm9 hk (fun m' e => by omega) hw hdd 4 0 path sides (by omega) hp hsd
  | succ m ih =>
    intro k hk p path sides hp hw hdd hsd
    rw [fB_s]
    exact dead_l hS hm9 hk (fun m' e => ih (k + 1) (by omega)) hw hdd 4 0 path sides (by omega) hp hsd
end Dead
