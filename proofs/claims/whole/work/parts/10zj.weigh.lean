-- FIT: the class's masks say the same
theorem and_0 {a b : Int64} : a &&& b = 0 ↔ ∀ e, e < 64 → bL a e = true → bL b e = false := by
  constructor
  · intro h e he ha
    have h1 := congrArg (fun x => bL x e) h
    simp only [bL_and, bL_0, ha, Bool.true_and] at h1
    exact h1
  · intro h
    refine bL_ext fun e he => ?_
    rw [bL_and, bL_0]
    cases ha : bL a e with
    | false => rfl
    | true => rw [h e he ha]; rfl
theorem FW.xe {i : Nat} {p : Nat → Nat} {row : Nat → Int32} {size : Int32} {pl st : Int64} (h : FW i p row size pl st) {e : Nat} (he : e < 64) : bL (st ||| eV (rgv i p)) e = true ↔ XE i p e := by
  rw [bL_or, bL_v he, Bool.or_eq_true, decide_eq_true_eq]
  unfold XE
  refine or_congr ((h.2.2.2.2.2.2 e).trans ⟨fun x => ?_, fun ⟨j, a, b⟩ => ⟨by omega, j, a, b⟩⟩) Iff.rfl
  obtain ⟨-, j, a, b⟩ := x
  exact ⟨j, a, b⟩
theorem masks_v {i k : Nat} {p : Nat → Nat} {row sp sg : Nat → Int32} {size : Int32} {pl st sG sC : Int64} {sN ys : Int32} (h : FW i p row size pl st) (hS : SN k sG sC sN sp sg ys) :
    ((st ||| eV (rgv i p)) &&& sC = 0 ∧ sG &&& ((st ||| eV (rgv i p)) ^^^ (-1)) = 0) ↔ ∀ m, m < k → OKm i p sp sg m := by
  rw [and_0, and_0]
  constructor
  · rintro ⟨h1, h2⟩ m hm pr hp hv e
    obtain ⟨b1, b2⟩ := hS.bit hp hv
    have h60 := (tb_vp pr hp hv).1
    obtain ⟨pr', hp', hv', e', hval⟩ := hS.2.2.2.1 m hm
    constructor
    · intro hx
      rcases hval with z | z
      · have := h1 (pb pr) (by omega) ((h.xe (by omega)).mpr hx)
        rw [b2.mpr ⟨m, hm, e, z⟩] at this; cases this
      · exact z
    · intro z
      have := h2 (pb pr) (by omega) (b1.mpr ⟨m, hm, e, z⟩)
      rw [bL_not _ (by omega)] at this
      refine (h.xe (by omega)).mp ?_
      cases hb : bL (st ||| eV (rgv i p)) (pb pr) with
      | true => rfl
      | false => rw [hb] at this; cases this
  · intro hall
    refine ⟨fun e he hx => ?_, fun e he hg => ?_⟩
    · cases hc : bL sC e with
      | false => rfl
      | true =>
        obtain ⟨m, pr, hm, hp, hv, e1, e2, e3⟩ := (hS.2.2.2.2.2 e).mp hc
        have := (hall m hm pr hp hv e1).mp (by rw [e2]; exact (h.xe he).mp hx)
        rw [e3] at this
        exact absurd this (by decide)
    · obtain ⟨m, pr, hm, hp, hv, e1, e2, e3⟩ := (hS.2.2.2.2.1 e).mp hg
      have := (hall m hm pr hp hv e1).mpr e3
      rw [e2] at this
      rw [bL_not _ he, (h.xe he).mpr this]; rfl
