-- Long.bitCount counts the bits
theorem m256 (A B : Nat) : A * 256 + B = 2 ^ 8 * A + B := by
  have h : (2 : Nat) ^ 8 = 256 := by decide
  rw [h, Nat.mul_comm]
theorem and_split (A B C D : Nat) (hB : B < 256) (hD : D < 256) : (A * 256 + B) &&& (C * 256 + D) = (A &&& C) * 256 + (B &&& D) := by
  apply Nat.eq_of_testBit_eq
  intro i
  have h3 : B &&& D < 2 ^ 8 := Nat.lt_of_le_of_lt Nat.and_le_left hB
  rw [m256 A B, m256 C D, m256 (A &&& C) (B &&& D), Nat.testBit_and, Nat.testBit_two_pow_mul_add _ hB, Nat.testBit_two_pow_mul_add _ hD, Nat.testBit_two_pow_mul_add _ h3]
  by_cases h : i < 8 <;> simp [h, Nat.testBit_and]
def U8 (b0 b1 b2 b3 b4 b5 b6 b7 : Nat) : Nat := ((((((b7 * 256 + b6) * 256 + b5) * 256 + b4) * 256 + b3) * 256 + b2) * 256 + b1) * 256 + b0
theorem and8 {b0 b1 b2 b3 b4 b5 b6 b7 k : Nat} (h0 : b0 < 256) (h1 : b1 < 256) (h2 : b2 < 256) (h3 : b3 < 256) (h4 : b4 < 256) (h5 : b5 < 256) (h6 : b6 < 256) (hk : k < 256) : U8 b0 b1 b2 b3 b4 b5 b6 b7 &&& U8 k k k k k k k k = U8 (b0 &&& k) (b1 &&& k) (b2 &&& k) (b3 &&& k) (b4 &&& k) (b5 &&& k) (b6 &&& k) (b7 &&& k) := by
  unfold U8
  rw [and_split _ _ _ _ h0 hk, and_split _ _ _ _ h1 hk, and_split _ _ _ _ h2 hk, and_split _ _ _ _ h3 hk, and_split _ _ _ _ h4 hk, and_split _ _ _ _ h5 hk, and_split _ _ _ _ h6 hk]
theorem bytes8 (n : Nat) (h : n < 2 ^ 64) : ∃ b0 b1 b2 b3 b4 b5 b6 b7 : Nat, (b0 < 256 ∧ b1 < 256 ∧ b2 < 256 ∧ b3 < 256 ∧ b4 < 256 ∧ b5 < 256 ∧ b6 < 256 ∧ b7 < 256) ∧ n = U8 b0 b1 b2 b3 b4 b5 b6 b7 := by
  refine ⟨n % 256, n / 256 % 256, n / 65536 % 256, n / 16777216 % 256, n / 4294967296 % 256, n / 1099511627776 % 256, n / 281474976710656 % 256, n / 72057594037927936, ?_, ?_⟩
  · omega
  · unfold U8; omega
def s1 (b : Nat) : Nat := b - (b / 2 &&& 85)
def s2 (a : Nat) : Nat := (a &&& 51) + (a / 4 &&& 51)
def s3 (b : Nat) : Nat := (b + b / 16) &&& 15
def pcb (b : Nat) : Nat := (List.range 8).countP (fun j => b.testBit j)
theorem t1 : ∀ b, b < 256 → ∀ t, t < 2 → (b / 2 + t * 128) &&& 85 = b / 2 &&& 85 := by decide +kernel
theorem t1b : ∀ b, b < 256 → (b / 2 &&& 85) ≤ b ∧ s1 b < 256 := by decide +kernel
theorem t2 : ∀ b, b < 256 → ∀ t, t < 4 → (b / 4 + t * 64) &&& 51 = b / 4 &&& 51 := by decide +kernel
theorem t2b : ∀ b, b < 256 → s2 (s1 b) < 69 ∧ s2 (s1 b) % 16 ≤ 4 := by decide +kernel
theorem t3 : ∀ b, b < 69 → ∀ t, t < 16 → (b + b / 16 + t * 16) &&& 15 = s3 b := by decide +kernel
theorem t4 : ∀ b, b < 256 → s3 (s2 (s1 b)) = pcb b ∧ pcb b ≤ 8 := by decide +kernel
theorem cnt_step (n k : Nat) : (List.range (8 + k)).countP (fun e => n.testBit e) = pcb (n % 256) + (List.range k).countP (fun e => (n / 256).testBit e) := by
  rw [List.range_add, List.countP_append, List.countP_map]
  congr 1
  · unfold pcb
    apply List.countP_congr
    intro e he
    have h8 : e < 8 := List.mem_range.mp he
    have := Nat.testBit_mod_two_pow n 8 e
    rw [show (256 : Nat) = 2 ^ 8 by decide, this]
    simp [h8]
  · apply List.countP_congr
    intro e _
    have : (n / 2 ^ 8).testBit e = n.testBit (e + 8) := Nat.testBit_div_two_pow n e
    simp only [Function.comp_apply]
    rw [show (256 : Nat) = 2 ^ 8 by decide, this, Nat.add_comm]
theorem pop_nat {b0 b1 b2 b3 b4 b5 b6 b7 : Nat} (h0 : b0 < 256) (h1 : b1 < 256) (h2 : b2 < 256) (h3 : b3 < 256) (h4 : b4 < 256) (h5 : b5 < 256) (h6 : b6 < 256) (h7 : b7 < 256) : (List.range 64).countP (fun e => (U8 b0 b1 b2 b3 b4 b5 b6 b7).testBit e) = pcb b0 + (pcb b1 + (pcb b2 + (pcb b3 + (pcb b4 + (pcb b5 + (pcb b6 + pcb b7)))))) := by
  have e : ∀ A B : Nat, B < 256 → (A * 256 + B) % 256 = B ∧ (A * 256 + B) / 256 = A := fun A B h => by omega
  unfold U8
  rw [show 64 = 8 + (8 + (8 + (8 + (8 + (8 + (8 + (8 + 0))))))) by decide, cnt_step, (e _ _ h0).1, (e _ _ h0).2, cnt_step, (e _ _ h1).1, (e _ _ h1).2, cnt_step, (e _ _ h2).1, (e _ _ h2).2, cnt_step, (e _ _ h3).1, (e _ _ h3).2, cnt_step, (e _ _ h4).1, (e _ _ h4).2, cnt_step, (e _ _ h5).1, (e _ _ h5).2, cnt_step, (e _ _ h6).1, (e _ _ h6).2, cnt_step, Nat.mod_eq_of_lt h7]
  simp
theorem k85 : (6148914691236517205 : Nat) = U8 85 85 85 85 85 85 85 85 := by decide
theorem k51 : (3689348814741910323 : Nat) = U8 51 51 51 51 51 51 51 51 := by decide
theorem k15 : (1085102592571150095 : Nat) = U8 15 15 15 15 15 15 15 15 := by decide
theorem p1 {b0 b1 b2 b3 b4 b5 b6 b7 : Nat} (h0 : b0 < 256) (h1 : b1 < 256) (h2 : b2 < 256) (h3 : b3 < 256) (h4 : b4 < 256) (h5 : b5 < 256) (h6 : b6 < 256) (h7 : b7 < 256) :
    U8 b0 b1 b2 b3 b4 b5 b6 b7 - (U8 b0 b1 b2 b3 b4 b5 b6 b7 / 2 &&& U8 85 85 85 85 85 85 85 85) = U8 (s1 b0) (s1 b1) (s1 b2) (s1 b3) (s1 b4) (s1 b5) (s1 b6) (s1 b7) ∧ (U8 b0 b1 b2 b3 b4 b5 b6 b7 / 2 &&& U8 85 85 85 85 85 85 85 85) ≤ U8 b0 b1 b2 b3 b4 b5 b6 b7 := by
  have e : U8 b0 b1 b2 b3 b4 b5 b6 b7 / 2 = U8 (b0 / 2 + b1 % 2 * 128) (b1 / 2 + b2 % 2 * 128) (b2 / 2 + b3 % 2 * 128) (b3 / 2 + b4 % 2 * 128) (b4 / 2 + b5 % 2 * 128) (b5 / 2 + b6 % 2 * 128) (b6 / 2 + b7 % 2 * 128) (b7 / 2) := by unfold U8; omega
  rw [e, and8 (by omega) (by omega) (by omega) (by omega) (by omega) (by omega) (by omega) (by decide), t1 _ h0 _ (by omega), t1 _ h1 _ (by omega), t1 _ h2 _ (by omega), t1 _ h3 _ (by omega), t1 _ h4 _ (by omega), t1 _ h5 _ (by omega), t1 _ h6 _ (by omega)]
  have a0 := (t1b b0 h0).1
  have a1 := (t1b b1 h1).1
  have a2 := (t1b b2 h2).1
  have a3 := (t1b b3 h3).1
  have a4 := (t1b b4 h4).1
  have a5 := (t1b b5 h5).1
  have a6 := (t1b b6 h6).1
  have a7 := (t1b b7 h7).1
  unfold s1
  generalize (b0 / 2 &&& 85) = x0 at a0 ⊢
  generalize (b1 / 2 &&& 85) = x1 at a1 ⊢
  generalize (b2 / 2 &&& 85) = x2 at a2 ⊢
  generalize (b3 / 2 &&& 85) = x3 at a3 ⊢
  generalize (b4 / 2 &&& 85) = x4 at a4 ⊢
  generalize (b5 / 2 &&& 85) = x5 at a5 ⊢
  generalize (b6 / 2 &&& 85) = x6 at a6 ⊢
  generalize (b7 / 2 &&& 85) = x7 at a7 ⊢
  unfold U8
  omega
theorem p2 {b0 b1 b2 b3 b4 b5 b6 b7 : Nat} (h0 : b0 < 256) (h1 : b1 < 256) (h2 : b2 < 256) (h3 : b3 < 256) (h4 : b4 < 256) (h5 : b5 < 256) (h6 : b6 < 256) (h7 : b7 < 256) :
    (U8 b0 b1 b2 b3 b4 b5 b6 b7 &&& U8 51 51 51 51 51 51 51 51) + (U8 b0 b1 b2 b3 b4 b5 b6 b7 / 4 &&& U8 51 51 51 51 51 51 51 51) = U8 (s2 b0) (s2 b1) (s2 b2) (s2 b3) (s2 b4) (s2 b5) (s2 b6) (s2 b7) := by
  have e : U8 b0 b1 b2 b3 b4 b5 b6 b7 / 4 = U8 (b0 / 4 + b1 % 4 * 64) (b1 / 4 + b2 % 4 * 64) (b2 / 4 + b3 % 4 * 64) (b3 / 4 + b4 % 4 * 64) (b4 / 4 + b5 % 4 * 64) (b5 / 4 + b6 % 4 * 64) (b6 / 4 + b7 % 4 * 64) (b7 / 4) := by unfold U8; omega
  rw [and8 h0 h1 h2 h3 h4 h5 h6 (by decide), e, and8 (by omega) (by omega) (by omega) (by omega) (by omega) (by omega) (by omega) (by decide), t2 _ h0 _ (by omega), t2 _ h1 _ (by omega), t2 _ h2 _ (by omega), t2 _ h3 _ (by omega), t2 _ h4 _ (by omega), t2 _ h5 _ (by omega), t2 _ h6 _ (by omega)]
  unfold s2 U8
  omega
theorem p3 {b0 b1 b2 b3 b4 b5 b6 b7 : Nat} (h0 : b0 < 69) (h1 : b1 < 69) (h2 : b2 < 69) (h3 : b3 < 69) (h4 : b4 < 69) (h5 : b5 < 69) (h6 : b6 < 69) (h7 : b7 < 69) (g1 : b1 % 16 ≤ 4) (g2 : b2 % 16 ≤ 4) (g3 : b3 % 16 ≤ 4) (g4 : b4 % 16 ≤ 4) (g5 : b5 % 16 ≤ 4) (g6 : b6 % 16 ≤ 4) (g7 : b7 % 16 ≤ 4) :
    (U8 b0 b1 b2 b3 b4 b5 b6 b7 + U8 b0 b1 b2 b3 b4 b5 b6 b7 / 16) &&& U8 15 15 15 15 15 15 15 15 = U8 (s3 b0) (s3 b1) (s3 b2) (s3 b3) (s3 b4) (s3 b5) (s3 b6) (s3 b7) := by
  have e : U8 b0 b1 b2 b3 b4 b5 b6 b7 + U8 b0 b1 b2 b3 b4 b5 b6 b7 / 16 = U8 (b0 + b0 / 16 + b1 % 16 * 16) (b1 + b1 / 16 + b2 % 16 * 16) (b2 + b2 / 16 + b3 % 16 * 16) (b3 + b3 / 16 + b4 % 16 * 16) (b4 + b4 / 16 + b5 % 16 * 16) (b5 + b5 / 16 + b6 % 16 * 16) (b6 + b6 / 16 + b7 % 16 * 16) (b7 + b7 / 16) := by unfold U8; omega
  rw [e, and8 (by omega) (by omega) (by omega) (by omega) (by omega) (by omega) (by omega) (by decide), t3 _ h0 _ (by omega), t3 _ h1 _ (by omega), t3 _ h2 _ (by omega), t3 _ h3 _ (by omega), t3 _ h4 _ (by omega), t3 _ h5 _ (by omega), t3 _ h6 _ (by omega)]
  have := t3 b7 h7 0 (by decide)
  rw [show b7 + b7 / 16 + 0 * 16 = b7 + b7 / 16 by omega] at this
  rw [this]
theorem p4 {c0 c1 c2 c3 c4 c5 c6 c7 : Nat} (h0 : c0 ≤ 8) (h1 : c1 ≤ 8) (h2 : c2 ≤ 8) (h3 : c3 ≤ 8) (h4 : c4 ≤ 8) (h5 : c5 ≤ 8) (h6 : c6 ≤ 8) (h7 : c7 ≤ 8) {c d e f : Nat} (hc : c = U8 c0 c1 c2 c3 c4 c5 c6 c7) (hd : d = c + c / 256) (he : e = d + d / 65536) (hf : f = e + e / 4294967296) :
    f % 128 = c0 + (c1 + (c2 + (c3 + (c4 + (c5 + (c6 + c7)))))) ∧ f < 2 ^ 63 := by
  have ed : d = U8 (c0 + c1) (c1 + c2) (c2 + c3) (c3 + c4) (c4 + c5) (c5 + c6) (c6 + c7) c7 := by unfold U8 at hc ⊢; omega
  have ee : e = U8 (c0 + c1 + c2 + c3) (c1 + c2 + c3 + c4) (c2 + c3 + c4 + c5) (c3 + c4 + c5 + c6) (c4 + c5 + c6 + c7) (c5 + c6 + c7) (c6 + c7) c7 := by
    have : d / 65536 = U8 (c2 + c3) (c3 + c4) (c4 + c5) (c5 + c6) (c6 + c7) c7 0 0 := by unfold U8 at ed ⊢; omega
    rw [he, this, ed]; unfold U8; omega
  have ef : e / 4294967296 = U8 (c4 + c5 + c6 + c7) (c5 + c6 + c7) (c6 + c7) c7 0 0 0 0 := by unfold U8 at ee ⊢; omega
  rw [hf, ef, ee]
  unfold U8
  omega
theorem wb_tn' {n : Nat} (h : n < 2 ^ 64) : (lN n).toBitVec.toNat = n := by
  show (BitVec.ofNat 64 n).toNat = n
  rw [BitVec.toNat_ofNat, Nat.mod_eq_of_lt h]
theorem bit_t (m : Int64) {n : Nat} (h : m = lN n) (hn : n < 2 ^ 64) (e : Nat) : bL m e = n.testBit e := by
  subst h
  unfold bL BitVec.getLsbD
  rw [wb_tn' hn]
theorem lN_of (x : Int64) : ∃ n, n < 2 ^ 64 ∧ x = lN n := ⟨x.toBitVec.toNat, x.toBitVec.isLt, by
  apply Int64.toBitVec_inj.mp
  show x.toBitVec = BitVec.ofNat 64 x.toBitVec.toNat
  simp⟩
theorem lN_and {a b : Nat} (ha : a < 2 ^ 64) (hb : b < 2 ^ 64) : lN a &&& lN b = lN (a &&& b) := by
  apply Int64.toBitVec_inj.mp
  rw [Int64.toBitVec_and]
  apply BitVec.eq_of_toNat_eq
  rw [BitVec.toNat_and, wb_tn' ha, wb_tn' hb, wb_tn' (Nat.lt_of_le_of_lt Nat.and_le_left ha)]
theorem lN_ush {a k p : Nat} {y : UInt64} (hy : y.toBitVec.toNat % 64 = k) (hp : 2 ^ k = p) (ha : a < 2 ^ 64) : ((lN a).toUInt64 >>> y).toInt64 = lN (a / p) := by
  apply Int64.toBitVec_inj.mp
  show ((lN a).toBitVec >>> (y.toBitVec % 64)) = _
  apply BitVec.eq_of_toNat_eq
  have e : (y.toBitVec % 64).toNat = k := by rw [BitVec.toNat_umod]; exact hy
  rw [BitVec.ushiftRight_eq', BitVec.toNat_ushiftRight, e, wb_tn' ha, wb_tn' (Nat.lt_of_le_of_lt (Nat.div_le_self _ _) ha), Nat.shiftRight_eq_div_pow, hp]
theorem n127 (f : Nat) (h : f < 2 ^ 63) : (lN f).toInt32 &&& 127 = nI (f % 128) := by
  apply Int32.toBitVec_inj.mp
  rw [lN_i, Int32.toBitVec_and]
  apply BitVec.eq_of_toNat_eq
  have e1 : (127 : Int32).toBitVec.toNat = 2 ^ 7 - 1 := by decide
  have e2 : (nI f).toBitVec.toNat = f % 2 ^ 32 := by show (BitVec.ofNat 32 f).toNat = _; rw [BitVec.toNat_ofNat]
  have e3 : (nI (f % 128)).toBitVec.toNat = f % 128 := by show (BitVec.ofNat 32 (f % 128)).toNat = _; rw [BitVec.toNat_ofNat, Nat.mod_eq_of_lt (by omega)]
  rw [BitVec.toNat_and, e1, e2, e3, Nat.and_two_pow_sub_one_eq_mod]
  omega
set_option maxHeartbeats 1000000 in
theorem bitCount_v (m : Int64) : fJ13_bitCount_95d88 m = some (nI ((List.range 64).countP (fun e => bL m e))) := by
  obtain ⟨n, hn, rfl⟩ := lN_of m
  have ec : (List.range 64).countP (fun e => bL (lN n) e) = (List.range 64).countP (fun e => n.testBit e) := by
    congr 1
    funext e
    exact bit_t _ rfl hn e
  rw [ec]
  obtain ⟨b0, b1, b2, b3, b4, b5, b6, b7, ⟨h0, h1, h2, h3, h4, h5, h6, h7⟩, en⟩ := bytes8 n hn
  have q1 := p1 h0 h1 h2 h3 h4 h5 h6 h7
  have q2 := p2 (t1b b0 h0).2 (t1b b1 h1).2 (t1b b2 h2).2 (t1b b3 h3).2 (t1b b4 h4).2 (t1b b5 h5).2 (t1b b6 h6).2 (t1b b7 h7).2
  have q3 := p3 (t2b b0 h0).1 (t2b b1 h1).1 (t2b b2 h2).1 (t2b b3 h3).1 (t2b b4 h4).1 (t2b b5 h5).1 (t2b b6 h6).1 (t2b b7 h7).1 (t2b b1 h1).2 (t2b b2 h2).2 (t2b b3 h3).2 (t2b b4 h4).2 (t2b b5 h5).2 (t2b b6 h6).2 (t2b b7 h7).2
  have u0 := t4 b0 h0
  have u1 := t4 b1 h1
  have u2 := t4 b2 h2
  have u3 := t4 b3 h3
  have u4 := t4 b4 h4
  have u5 := t4 b5 h5
  have u6 := t4 b6 h6
  have u7 := t4 b7 h7
  rw [u0.1, u1.1, u2.1, u3.1, u4.1, u5.1, u6.1, u7.1] at q3
  have q5 := pop_nat h0 h1 h2 h3 h4 h5 h6 h7
  rw [← en] at q1 q5
  rw [q5]
  rw [← k85] at q1
  rw [← q1.1, ← k51] at q2
  rw [← q2, ← k15] at q3
  have l1 : n - (n / 2 &&& 6148914691236517205) < 2 ^ 64 := by omega
  generalize hA : n - (n / 2 &&& 6148914691236517205) = a at l1 q2 q3
  have l2a : a &&& 3689348814741910323 ≤ 3689348814741910323 := Nat.and_le_right
  have l2b : a / 4 &&& 3689348814741910323 ≤ 3689348814741910323 := Nat.and_le_right
  have l2 : (a &&& 3689348814741910323) + (a / 4 &&& 3689348814741910323) < 2 ^ 63 := by omega
  generalize hB : (a &&& 3689348814741910323) + (a / 4 &&& 3689348814741910323) = b at l2 q3
  have l3 : (b + b / 16 &&& 1085102592571150095) ≤ 1085102592571150095 := Nat.and_le_right
  generalize hC : (b + b / 16 &&& 1085102592571150095) = c at l3 q3
  obtain ⟨r1, r2⟩ := p4 u0.2 u1.2 u2.2 u3.2 u4.2 u5.2 u6.2 u7.2 q3 rfl rfl rfl
  unfold fJ13_bitCount_95d88
  have x1 : (lN n) - (((lN n).toUInt64 >>> ((1 : Int32).toInt64.toUInt64 &&& Int64.toUInt64 63)).toInt64 &&& 6148914691236517205) = lN a := by
    rw [lN_ush (k := 1) (p := 2) (by decide) (by decide) hn, show (6148914691236517205 : Int64) = lN 6148914691236517205 from rfl, lN_and (by omega) (by decide), lN_sub q1.2, hA]
  have x2 : (lN a &&& 3689348814741910323) + (((lN a).toUInt64 >>> ((2 : Int32).toInt64.toUInt64 &&& Int64.toUInt64 63)).toInt64 &&& 3689348814741910323) = lN b := by
    rw [lN_ush (k := 2) (p := 4) (by decide) (by decide) l1, show (3689348814741910323 : Int64) = lN 3689348814741910323 from rfl, lN_and l1 (by decide), lN_and (by omega) (by decide), lN_add, hB]
  have x3 : (lN b + ((lN b).toUInt64 >>> ((4 : Int32).toInt64.toUInt64 &&& Int64.toUInt64 63)).toInt64) &&& 1085102592571150095 = lN c := by
    rw [lN_ush (k := 4) (p := 16) (by decide) (by decide) (by omega), lN_add, show (1085102592571150095 : Int64) = lN 1085102592571150095 from rfl, lN_and (by omega) (by decide), hC]
  have x4 : lN c + ((lN c).toUInt64 >>> ((8 : Int32).toInt64.toUInt64 &&& Int64.toUInt64 63)).toInt64 = lN (c + c / 256) := by
    rw [lN_ush (k := 8) (p := 256) (by decide) (by decide) (by omega), lN_add]
  have x5 : lN (c + c / 256) + ((lN (c + c / 256)).toUInt64 >>> ((16 : Int32).toInt64.toUInt64 &&& Int64.toUInt64 63)).toInt64 = lN (c + c / 256 + (c + c / 256) / 65536) := by
    rw [lN_ush (k := 16) (p := 65536) (by decide) (by decide) (by omega), lN_add]
  have x6 : lN (c + c / 256 + (c + c / 256) / 65536) + ((lN (c + c / 256 + (c + c / 256) / 65536)).toUInt64 >>> ((32 : Int32).toInt64.toUInt64 &&& Int64.toUInt64 63)).toInt64 = lN (c + c / 256 + (c + c / 256) / 65536 + (c + c / 256 + (c + c / 256) / 65536) / 4294967296) := by
    rw [lN_ush (k := 32) (p := 4294967296) (by decide) (by decide) (by omega), lN_add]
  rw [x1, lets_eq, x2, lets_eq, x3, lets_eq, x4, lets_eq, x5, lets_eq, x6, lets_eq, n127 _ r2, r1]
