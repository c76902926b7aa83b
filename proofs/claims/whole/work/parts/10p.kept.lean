-- STEPS of image and restore
theorem o14 {A B C D E F G H I J K L M N Z : Type} (a : A) (b : B) (c : C) (d : D) (e : E) (f : F) (g : G) (h : H) (i : I) (j : J) (k : K) (l : L) (m : M) (n : N) (q : A → B → C → D → E → F → G → H → I → J → K → L → M → N → Option Z) : ob14 (some (a, b, c, d, e, f, g, h, i, j, k, l, m, n)) q = q a b c d e f g h i j k l m n := rfl
theorem kv_parts {r ea sh sw se sp sg r' ea' sh' sw' se' sp' sg' : Nat → Int32} (hk : ∀ i, i < 243 → kv r' ea' sh' sw' se' sp' sg' i = kv r ea sh sw se sp sg i) :
    (∀ i, i < 36 → r' i = r i) ∧ (∀ i, i < 72 → ea' i = ea i) ∧ (∀ i, i < 72 → sh' i = sh i) ∧ (∀ i, i < 36 → sw' i = sw i) ∧ (∀ i, i < 3 → se' i = se i) ∧ (∀ i, i < 12 → sp' i = sp i) ∧ (∀ i, i < 12 → sg' i = sg i) := by
  refine ⟨fun i hi => ?_, fun i hi => ?_, fun i hi => ?_, fun i hi => ?_, fun i hi => ?_, fun i hi => ?_, fun i hi => ?_⟩
  · have h := hk i (by omega)
    unfold kv at h
    rw [if_pos hi, if_pos hi] at h
    exact h
  · have h := hk (36 + i) (by omega)
    unfold kv at h
    rw [if_neg (by omega), if_pos (by omega), if_neg (by omega), if_pos (by omega), show 36 + i - 36 = i by omega] at h
    exact h
  · have h := hk (108 + i) (by omega)
    unfold kv at h
    rw [if_neg (by omega), if_neg (by omega), if_pos (by omega), if_neg (by omega), if_neg (by omega), if_pos (by omega), show 108 + i - 108 = i by omega] at h
    exact h
  · have h := hk (180 + i) (by omega)
    unfold kv at h
    rw [if_neg (by omega), if_neg (by omega), if_neg (by omega), if_pos (by omega), if_neg (by omega), if_neg (by omega), if_neg (by omega), if_pos (by omega), show 180 + i - 180 = i by omega] at h
    exact h
  · have h := hk (216 + i) (by omega)
    unfold kv at h
    rw [if_neg (by omega), if_neg (by omega), if_neg (by omega), if_neg (by omega), if_pos (by omega), if_neg (by omega), if_neg (by omega), if_neg (by omega), if_neg (by omega), if_pos (by omega), show 216 + i - 216 = i by omega] at h
    exact h
  · have h := hk (219 + i) (by omega)
    unfold kv at h
    rw [if_neg (by omega), if_neg (by omega), if_neg (by omega), if_neg (by omega), if_neg (by omega), if_pos (by omega), if_neg (by omega), if_neg (by omega), if_neg (by omega), if_neg (by omega), if_neg (by omega), if_pos (by omega), show 219 + i - 219 = i by omega] at h
    exact h
  · have h := hk (231 + i) (by omega)
    unfold kv at h
    rw [if_neg (by omega), if_neg (by omega), if_neg (by omega), if_neg (by omega), if_neg (by omega), if_neg (by omega), if_neg (by omega), if_neg (by omega), if_neg (by omega), if_neg (by omega), if_neg (by omega), if_neg (by omega), show 231 + i - 231 = i by omega] at h
    exact h
theorem FW.congr {n : Nat} {p : Nat → Nat} {row row' : Nat → Int32} {size : Int32} {pl st : Int64} (h : FW n p row size pl st) (hr : ∀ i, i < 36 → row' i = row i) : FW n p row' size pl st := by
  obtain ⟨h1, h2, h3, h4, h5, h6, h7⟩ := h
  exact ⟨h1, h2, fun i hi => ⟨(h3 i hi).1, by rw [hr i (by omega)]; exact (h3 i hi).2⟩, h4, h5, h6, h7⟩
theorem MK.congr {m : Int64} {a a' : Nat → Int32} (h : MK m a) (hr : ∀ i, i < 72 → a' i = a i) : MK m a' := ⟨fun p hp => by rw [hr p hp]; exact h.1 p hp, h.2⟩
theorem SN.congr {k : Nat} {sG sC : Int64} {sN ys : Int32} {sp sg sp' sg' : Nat → Int32} (h : SN k sG sC sN sp sg ys) (e1 : ∀ i, i < 12 → sp' i = sp i) (e2 : ∀ i, i < 12 → sg' i = sg i) : SN k sG sC sN sp' sg' ys := by
  obtain ⟨h1, h2, h3, h4, h5, h6⟩ := h
  have f1 : ∀ i, i < k → sp' i = sp i := fun i hi => e1 i (by omega)
  have f2 : ∀ i, i < k → sg' i = sg i := fun i hi => e2 i (by omega)
  refine ⟨h1, h2, h3, fun i hi => by rw [f1 i hi, f2 i hi]; exact h4 i hi, fun e => ?_, fun e => ?_⟩
  · rw [h5 e]
    constructor
    · rintro ⟨i, pr, hi, a⟩
      exact ⟨i, pr, hi, by rw [f1 i hi, f2 i hi]; exact a⟩
    · rintro ⟨i, pr, hi, a⟩
      exact ⟨i, pr, hi, by rw [f1 i hi, f2 i hi] at a; exact a⟩
  · rw [h6 e]
    constructor
    · rintro ⟨i, pr, hi, a⟩
      exact ⟨i, pr, hi, by rw [f1 i hi, f2 i hi]; exact a⟩
    · rintro ⟨i, pr, hi, a⟩
      exact ⟨i, pr, hi, by rw [f1 i hi, f2 i hi] at a; exact a⟩
theorem R1d.congr {row row' : Nat → Int32} {size : Int32} {pl st ea cl ga sw : Int64} {mo mi dr : Int32} {sG sC : Int64} {sN : Int32} {yrow yea ysh yst yset ysp ysg yrow' yea' ysh' yst' yset' ysp' ysg' : Nat → Int32} {ys yse : Int32}
    (h : R1d row size pl st ea cl ga sw mo mi dr sG sC sN yrow ys yea ysh yst yset ysp ysg yse) (hr : ∀ i, i < 36 → row' i = row i) (hk : ∀ i, i < 243 → kv yrow' yea' ysh' yst' yset' ysp' ysg' i = kv yrow yea ysh yst yset ysp ysg i) :
    R1d row' size pl st ea cl ga sw mo mi dr sG sC sN yrow' ys yea' ysh' yst' yset' ysp' ysg' yse := by
  obtain ⟨n, p, mo', mi', dr', k, hF, ⟨hys, hyr⟩, ⟨hE, h10⟩, hC, hG, hS, hm, hi, hd, hN⟩ := h
  obtain ⟨k1, k2, k3, k4, k5, k6, k7⟩ := kv_parts hk
  have hn := hF.1
  exact ⟨n, p, mo', mi', dr', k, hF.congr hr, ⟨hys, fun i hi => by rw [k1 i (by omega)]; exact hyr i hi⟩, ⟨hE.congr k2, h10⟩, hC.congr k3, hG, ⟨fun q hq => by rw [k4 q hq]; exact hS.1 q hq, hS.2⟩, ⟨hm.1, hm.2.1, by rw [k5 0 (by decide)]; exact hm.2.2⟩, ⟨hi.1, hi.2.1, by rw [k5 1 (by decide)]; exact hi.2.2⟩, ⟨hd.1, hd.2.1, by rw [k5 2 (by decide)]; exact hd.2.2⟩, hN.congr k6 k7⟩
theorem kv_kept (f : Nat → Int32) (i : Nat) : kv f (fun i => f (36 + i)) (fun i => f (108 + i)) (fun i => f (180 + i)) (fun i => f (216 + i)) (fun i => f (219 + i)) (fun i => f (231 + i)) i = f i := by
  unfold kv
  by_cases h1 : i < 36
  · rw [if_pos h1]
  by_cases h2 : i < 108
  · rw [if_neg h1, if_pos h2]; show f (36 + (i - 36)) = f i; rw [show 36 + (i - 36) = i by omega]
  by_cases h3 : i < 180
  · rw [if_neg h1, if_neg h2, if_pos h3]; show f (108 + (i - 108)) = f i; rw [show 108 + (i - 108) = i by omega]
  by_cases h4 : i < 216
  · rw [if_neg h1, if_neg h2, if_neg h3, if_pos h4]; show f (180 + (i - 180)) = f i; rw [show 180 + (i - 180) = i by omega]
  by_cases h5 : i < 219
  · rw [if_neg h1, if_neg h2, if_neg h3, if_neg h4, if_pos h5]; show f (216 + (i - 216)) = f i; rw [show 216 + (i - 216) = i by omega]
  by_cases h6 : i < 231
  · rw [if_neg h1, if_neg h2, if_neg h3, if_neg h4, if_neg h5, if_pos h6]; show f (219 + (i - 219)) = f i; rw [show 219 + (i - 219) = i by omega]
  · rw [if_neg h1, if_neg h2, if_neg h3, if_neg h4, if_neg h5, if_neg h6]; show f (231 + (i - 231)) = f i; rw [show 231 + (i - 231) = i by omega]
theorem cpy36 (f g : Nat → Int32) {i : Nat} (hi : i < 36) : va_cpy f g (0 : Int32).toNatClampNeg (0 : Int32).toNatClampNeg (36 : Int32).toNatClampNeg i = f i := by
  rw [show (0 : Int32).toNatClampNeg = 0 by decide, show (36 : Int32).toNatClampNeg = 36 by decide]
  unfold va_cpy
  rw [if_pos ⟨Nat.zero_le _, by omega⟩]
  congr 1; omega
theorem step_image : STEP_image R1d R2d := by
  intro isK ea cl ga sw mo mi dr sG sC sN sz pl st row kea kcl kga ksw kmo kmi kdr ksG ksC ksN ksz kpl kst krow ys yse yisK yks ykn yrow yea ysh yst yset ysp ysg ykept hR hR2
  obtain ⟨kept', em, hk⟩ := image_l yrow yea ysh yst yset ysp ysg ys yse 4000 0 ykept (by decide) (by decide)
  have ec : fX9_image row sz pl st ea cl ga sw mo mi dr sG sC sN krow ksz kpl kst kea kcl kga ksw kmo kmi kdr ksG ksC ksN isK = some (1, va_cpy row krow (0 : Int32).toNatClampNeg (0 : Int32).toNatClampNeg (36 : Int32).toNatClampNeg, sz, pl, st, ea, cl, ga, sw, mo, mi, dr, sG, sC, sN, 1) := by
    unfold fX9_image fX1_copy fX2_copy
    rw [show ob4 (some (va_cpy row krow (0 : Int32).toNatClampNeg (0 : Int32).toNatClampNeg (36 : Int32).toNatClampNeg, sz, pl, st)) (fun a b c d => some (a, b, c, d, ea, cl, ga, sw, mo, mi, dr, sG, sC, sN)) = some (va_cpy row krow (0 : Int32).toNatClampNeg (0 : Int32).toNatClampNeg (36 : Int32).toNatClampNeg, sz, pl, st, ea, cl, ga, sw, mo, mi, dr, sG, sC, sN) from rfl, o14]
  have em' : fX10_image yrow ys yea ysh yst yset ysp ysg yse yisK ykept yks ykn = some (1, yrow, yea, ysh, yst, yset, ysp, ysg, 1, kept', ys, yse) := by
    unfold fX10_image; exact em
  refine ⟨_, _, _, _, _, _, _, _, _, _, _, _, _, _, _, _, _, _, _, _, _, _, _, _, _, _, _, ec, em', hR, rfl, Or.inr ⟨rfl, ?_⟩⟩
  exact hR.congr (fun i hi => cpy36 _ _ hi) (fun i hi => by rw [kv_kept, hk i hi, if_pos (Nat.zero_le _)])
theorem step_restore : STEP_restore R1d R2d := by
  intro isK ea cl ga sw mo mi dr sG sC sN sz pl st row kea kcl kga ksw kmo kmi kdr ksG ksC ksN ksz kpl kst krow ys yse yisK yks ykn yrow yea ysh yst yset ysp ysg ykept hR hR2
  obtain ⟨rfl, hR2⟩ := hR2
  by_cases z : isK = 0
  · have ec : fX9_restore row sz pl st ea cl ga sw mo mi dr sG sC sN krow ksz kpl kst kea kcl kga ksw kmo kmi kdr ksG ksC ksN isK = some (-4, row, sz, pl, st, ea, cl, ga, sw, mo, mi, dr, sG, sC, sN) := by
      unfold fX9_restore; rw [if_pos z]
    have em : fX10_restore yrow ys yea ysh yst yset ysp ysg yse isK ykept yks ykn = some (-4, yrow, ys, yea, ysh, yst, yset, ysp, ysg, yse) := by
      unfold fX10_restore; rw [if_pos z]
    exact ⟨_, _, _, _, _, _, _, _, _, _, _, _, _, _, _, _, _, _, _, _, _, _, _, _, ec, em, hR⟩
  · obtain ⟨-, hK⟩ := hR2.resolve_left z
    obtain ⟨r', ea', sh', sw', se', sp', sg', em, hk⟩ := restore_l ykept yks ykn 4000 0 yrow yea ysh yst yset ysp ysg (by decide) (by decide)
    have ec : fX9_restore row sz pl st ea cl ga sw mo mi dr sG sC sN krow ksz kpl kst kea kcl kga ksw kmo kmi kdr ksG ksC ksN isK = some (1, va_cpy krow row (0 : Int32).toNatClampNeg (0 : Int32).toNatClampNeg (36 : Int32).toNatClampNeg, ksz, kpl, kst, kea, kcl, kga, ksw, kmo, kmi, kdr, ksG, ksC, ksN) := by
      unfold fX9_restore fX1_copy fX2_copy
      rw [if_neg z, show ob4 (some (va_cpy krow row (0 : Int32).toNatClampNeg (0 : Int32).toNatClampNeg (36 : Int32).toNatClampNeg, ksz, kpl, kst)) (fun a b c d => some (a, b, c, d, kea, kcl, kga, ksw, kmo, kmi, kdr, ksG, ksC, ksN)) = some (va_cpy krow row (0 : Int32).toNatClampNeg (0 : Int32).toNatClampNeg (36 : Int32).toNatClampNeg, ksz, kpl, kst, kea, kcl, kga, ksw, kmo, kmi, kdr, ksG, ksC, ksN) from rfl, o14]
    have em' : fX10_restore yrow ys yea ysh yst yset ysp ysg yse isK ykept yks ykn = some (1, r', yks, ea', sh', sw', se', sp', sg', ykn) := by
      unfold fX10_restore; rw [if_neg z]; exact em
    refine ⟨_, _, _, _, _, _, _, _, _, _, _, _, _, _, _, _, _, _, _, _, _, _, _, _, ec, em', ?_⟩
    exact hK.congr (fun i hi => cpy36 _ _ hi) (fun i hi => by rw [kv_kept, hk i hi, if_pos (Nat.zero_le _)])
theorem bL_z (e : Nat) : bL 0 e = false := by unfold bL; simp
theorem MK_z : MK 0 (fun _ => 0) := ⟨fun p _ => by rw [bL_z, Bool.and_false]; rfl, fun e _ => bL_z e⟩
theorem init_d : INIT R1d R2d R3d R4d := by
  refine ⟨⟨0, fun _ => 0, 9, 14, 0, 0, ?_, ⟨rfl, fun i hi => absurd hi (by omega)⟩, ⟨MK_z, ?_⟩, MK_z, ?_, ?_, ⟨by decide, rfl, ?_⟩, ⟨by decide, rfl, ?_⟩, ⟨by decide, rfl, ?_⟩, ?_⟩, ⟨rfl, Or.inl rfl⟩, ⟨0, by decide, rfl, rfl, fun i hi => absurd hi (by omega)⟩, ?_, ?_, ?_, ?_⟩
  · refine ⟨by decide, rfl, fun i hi => absurd hi (by omega), fun i j hi => absurd hi (by omega), fun i hi => absurd hi (by omega), fun q => ?_, fun e => ?_⟩
    · rw [bL_z]
      exact ⟨fun h => by (cases h), fun ⟨i, hi, _⟩ => by omega⟩
    · rw [bL_z]
      exact ⟨fun h => by (cases h), fun ⟨_, i, hi, _⟩ => by omega⟩
  · unfold cN
    simp only [bL_z]
    decide
  · intro e he
    rw [bL_z, show decide (rgv 0 (fun _ => 0) = e) = false by (unfold rgv; rw [if_neg (by decide)]; simp; omega)]
    rfl
  · exact ⟨fun q _ => by rw [bL_z]; rfl, fun e _ => bL_z e⟩
  · decide
  · decide
  · decide
  · refine ⟨by decide, rfl, rfl, fun i hi => absurd hi (by omega), fun e => ?_, fun e => ?_⟩
    · rw [bL_z]
      exact ⟨fun h => by (cases h), fun ⟨i, pr, hi, _⟩ => by omega⟩
    · rw [bL_z]
      exact ⟨fun h => by (cases h), fun ⟨i, pr, hi, _⟩ => by omega⟩
  all_goals exact ⟨by decide, Or.inl rfl⟩
