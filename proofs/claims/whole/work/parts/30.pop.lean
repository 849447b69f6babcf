/-! ===== lN n to 2^64: shifts, and, or, masks, one bit ===== -/
theorem wb_tb (n : Nat) : (lN n).toBitVec = BitVec.ofNat 64 n := rfl
theorem wb_inj {a b : Int64} (h : a.toBitVec = b.toBitVec) : a = b := Int64.toBitVec_inj.mp h
theorem wb_tn {n : Nat} (h : n < 2 ^ 64) : (lN n).toBitVec.toNat = n := by rw [wb_tb, BitVec.toNat_ofNat, Nat.mod_eq_of_lt h]
theorem wb_of (x : Int64) : ∃ n, n < 2 ^ 64 ∧ x = lN n := ⟨x.toBitVec.toNat, x.toBitVec.isLt, wb_inj (by rw [wb_tb]; simp)⟩
theorem wb_of32 (x : Int32) : ∃ n, n < 2 ^ 32 ∧ x = nI n := ⟨x.toBitVec.toNat, x.toBitVec.isLt, Int32.toBitVec_inj.mp (by show _ = BitVec.ofNat 32 _; simp)⟩
theorem wb_c : ∀ k, k < 64 → ((nI k).toInt64 &&& 63) = lN k := by decide +kernel
theorem wb_cu : ∀ k, k < 64 → ((nI k).toInt64.toUInt64 &&& Int64.toUInt64 63) = UInt64.ofNat k := by decide +kernel
theorem wb_sm : ∀ k, k < 64 → (BitVec.ofNat 64 k).smod 64 = BitVec.ofNat 64 k := by decide +kernel
theorem wb_pw {a b : Nat} (h : a ≤ b) : 2 ^ b = 2 ^ a * 2 ^ (b - a) := by rw [← Nat.pow_add]; congr 1; omega
theorem wb_lt2 {a b : Nat} (h : a < b) : 2 ^ a < 2 ^ b := Nat.pow_lt_pow_right (by decide) h
theorem wb_mod (n : Nat) : lN n = lN (n % 2 ^ 64) := wb_inj (by rw [wb_tb, wb_tb]; apply BitVec.eq_of_toNat_eq; rw [BitVec.toNat_ofNat, BitVec.toNat_ofNat, Nat.mod_mod])
theorem wb_shr {n k : Nat} (hn : n < 2 ^ 64) (hk : k < 64) : ((lN n).toUInt64 >>> ((nI k).toInt64.toUInt64 &&& Int64.toUInt64 63)).toInt64 = lN (n / 2 ^ k) := by
  rw [wb_cu k hk]
  apply wb_inj
  apply BitVec.eq_of_toNat_eq
  show ((lN n).toUInt64 >>> UInt64.ofNat k).toNat = (BitVec.ofNat 64 _).toNat
  have h1 : (UInt64.ofNat k).toNat = k := by
    show (BitVec.ofNat 64 k).toNat = k
    rw [BitVec.toNat_ofNat, Nat.mod_eq_of_lt (by omega)]
  have h2 : (lN n).toUInt64.toNat = n := wb_tn hn
  rw [UInt64.toNat_shiftRight, h1, h2, Nat.mod_eq_of_lt hk, Nat.shiftRight_eq_div_pow, BitVec.toNat_ofNat, Nat.mod_eq_of_lt (Nat.lt_of_le_of_lt (Nat.div_le_self _ _) hn)]
theorem wb_shl (n : Nat) {k : Nat} (hk : k < 64) : lN n <<< ((nI k).toInt64 &&& 63) = lN (n * 2 ^ k) := by
  rw [wb_c k hk]
  apply wb_inj
  rw [Int64.toBitVec_shiftLeft, wb_tb, wb_tb, wb_tb, wb_sm k hk]
  apply BitVec.eq_of_toNat_eq
  rw [BitVec.shiftLeft_eq', BitVec.toNat_shiftLeft, BitVec.toNat_ofNat, BitVec.toNat_ofNat, BitVec.toNat_ofNat, Nat.mod_eq_of_lt (show k < 2 ^ 64 by omega), Nat.shiftLeft_eq, Nat.mul_mod, Nat.mod_mod, ← Nat.mul_mod]
theorem wb_and {a b : Nat} (ha : a < 2 ^ 64) (hb : b < 2 ^ 64) : lN a &&& lN b = lN (a &&& b) := by
  apply wb_inj
  rw [Int64.toBitVec_and, wb_tb, wb_tb, wb_tb]
  apply BitVec.eq_of_toNat_eq
  rw [BitVec.toNat_and, BitVec.toNat_ofNat, BitVec.toNat_ofNat, BitVec.toNat_ofNat, Nat.mod_eq_of_lt ha, Nat.mod_eq_of_lt hb, Nat.mod_eq_of_lt (Nat.and_lt_two_pow _ hb)]
theorem wb_or {a b : Nat} (ha : a < 2 ^ 64) (hb : b < 2 ^ 64) : lN a ||| lN b = lN (a ||| b) := by
  apply wb_inj
  rw [Int64.toBitVec_or, wb_tb, wb_tb, wb_tb]
  apply BitVec.eq_of_toNat_eq
  rw [BitVec.toNat_or, BitVec.toNat_ofNat, BitVec.toNat_ofNat, BitVec.toNat_ofNat, Nat.mod_eq_of_lt ha, Nat.mod_eq_of_lt hb, Nat.mod_eq_of_lt (Nat.or_lt_two_pow ha hb)]
theorem wb_mask {n k : Nat} (hn : n < 2 ^ 64) (hk : k < 64) : lN n &&& lN (2 ^ k - 1) = lN (n % 2 ^ k) := by
  rw [wb_and hn (by have := wb_lt2 hk; omega), Nat.and_two_pow_sub_one_eq_mod]
theorem wb_a1 {n : Nat} (hn : n < 2 ^ 64) : lN n &&& 1 = lN (n % 2) := wb_mask (k := 1) hn (by decide)
theorem wb_bit {n k : Nat} (hn : n < 2 ^ 64) (hk : k < 64) : ((lN n).toUInt64 >>> ((nI k).toInt64.toUInt64 &&& Int64.toUInt64 63)).toInt64 &&& 1 = lN (n / 2 ^ k % 2) := by
  rw [wb_shr hn hk, wb_a1 (Nat.lt_of_le_of_lt (Nat.div_le_self _ _) hn)]
theorem wb_xor {q k : Nat} (hk : k < 63) (h : 2 ^ k ≤ q) (h2 : q < 2 ^ (k + 1)) : lN q ^^^ lN (2 ^ k) = lN (q - 2 ^ k) := by
  obtain ⟨r, rfl⟩ : ∃ r, q = 2 ^ k + r := ⟨q - 2 ^ k, by omega⟩
  have hr : r < 2 ^ k := by rw [Nat.pow_succ] at h2; omega
  have hx : (2 ^ k + r) ^^^ 2 ^ k = r := by
    apply Nat.eq_of_testBit_eq
    intro i
    rw [Nat.testBit_xor, Nat.testBit_two_pow]
    rcases Nat.lt_trichotomy i k with h | h | h
    · rw [Nat.testBit_two_pow_add_gt h]
      simp [show ¬ k = i by omega]
    · subst h
      rw [Nat.testBit_two_pow_add_eq]
      simp
    · have a1 : 2 ^ (k + 1) ≤ 2 ^ i := Nat.pow_le_pow_right (by decide) h
      rw [Nat.testBit_lt_two_pow (show 2 ^ k + r < 2 ^ i by omega), Nat.testBit_lt_two_pow (show r < 2 ^ i by omega)]
      simp [show ¬ k = i by omega]
  have b1 := wb_lt2 (show k + 1 < 64 by omega)
  have b2 := wb_lt2 (show k < 64 by omega)
  apply wb_inj
  rw [Int64.toBitVec_xor, wb_tb, wb_tb, wb_tb]
  apply BitVec.eq_of_toNat_eq
  rw [BitVec.toNat_xor, BitVec.toNat_ofNat, BitVec.toNat_ofNat, BitVec.toNat_ofNat, Nat.mod_eq_of_lt (by omega : 2 ^ k + r < 2 ^ 64), Nat.mod_eq_of_lt b2, hx, Nat.add_sub_cancel_left, Nat.mod_eq_of_lt (by omega)]
/-! ===== how many nodes a set has ===== -/
theorem and256 {A B a b : Nat} (ha : a < 256) (hb : b < 256) : (a + 256 * A) &&& (b + 256 * B) = (a &&& b) + 256 * (A &&& B) := by
  have h1 : ((a + 256 * A) &&& (b + 256 * B)) / 2 ^ 8 = (A &&& B) := by
    rw [Nat.and_div_two_pow]
    congr 1 <;> omega
  have h2 : ((a + 256 * A) &&& (b + 256 * B)) % 2 ^ 8 = (a &&& b) := by
    rw [Nat.and_mod_two_pow]
    congr 1 <;> omega
  have := Nat.div_add_mod ((a + 256 * A) &&& (b + 256 * B)) (2 ^ 8)
  rw [h1, h2] at this
  omega
def cat8 (a0 a1 a2 a3 a4 a5 a6 a7 : Nat) : Nat := a0 + 256 * (a1 + 256 * (a2 + 256 * (a3 + 256 * (a4 + 256 * (a5 + 256 * (a6 + 256 * a7))))))
theorem and8 {a0 a1 a2 a3 a4 a5 a6 a7 m : Nat} (h0 : a0 < 256) (h1 : a1 < 256) (h2 : a2 < 256) (h3 : a3 < 256) (h4 : a4 < 256) (h5 : a5 < 256) (h6 : a6 < 256) (hm : m < 256) : cat8 a0 a1 a2 a3 a4 a5 a6 a7 &&& cat8 m m m m m m m m = cat8 (a0 &&& m) (a1 &&& m) (a2 &&& m) (a3 &&& m) (a4 &&& m) (a5 &&& m) (a6 &&& m) (a7 &&& m) := by
  unfold cat8
  rw [and256 h0 hm, and256 h1 hm, and256 h2 hm, and256 h3 hm, and256 h4 hm, and256 h5 hm, and256 h6 hm]
def pb1 (a : Nat) : Nat := a - (a / 2 &&& 85)
def pb2 (b : Nat) : Nat := (b &&& 51) + (b / 4 &&& 51)
theorem pop_1 : ∀ a, a < 256 → ∀ c, c < 2 → (a / 2 + 128 * c) &&& 85 = (a / 2 &&& 85) ∧ (a / 2 &&& 85) ≤ a ∧ (a / 2 &&& 85) < 256 := by decide +kernel
theorem pop_2 : ∀ b, b < 256 → ∀ c, c < 4 → (b / 4 + 64 * c) &&& 51 = (b / 4 &&& 51) ∧ (b / 4 &&& 51) ≤ 51 ∧ (b &&& 51) ≤ 51 := by decide +kernel
theorem pop_3 : ∀ a, a < 256 → pb1 a < 256 ∧ pb2 (pb1 a) % 16 ≤ 4 ∧ pb2 (pb1 a) / 16 ≤ 4 ∧ (pb2 (pb1 a) + pb2 (pb1 a) / 16) % 16 = fb_ct (fun i => a.testBit i) 8 ∧ fb_ct (fun i => a.testBit i) 8 ≤ 8 := by decide +kernel
theorem pop_nat {a0 a1 a2 a3 a4 a5 a6 a7 : Nat} (h0 : a0 < 256) (h1 : a1 < 256) (h2 : a2 < 256) (h3 : a3 < 256) (h4 : a4 < 256) (h5 : a5 < 256) (h6 : a6 < 256) (h7 : a7 < 256) : f_J13_bitCount_95d88 (lN (cat8 a0 a1 a2 a3 a4 a5 a6 a7)) = some (nI (fb_ct (fun i => a0.testBit i) 8 + fb_ct (fun i => a1.testBit i) 8 + fb_ct (fun i => a2.testBit i) 8 + fb_ct (fun i => a3.testBit i) 8 + fb_ct (fun i => a4.testBit i) 8 + fb_ct (fun i => a5.testBit i) 8 + fb_ct (fun i => a6.testBit i) 8 + fb_ct (fun i => a7.testBit i) 8)) := by
  have q0 := pop_3 a0 h0
  have q1 := pop_3 a1 h1
  have q2 := pop_3 a2 h2
  have q3 := pop_3 a3 h3
  have q4 := pop_3 a4 h4
  have q5 := pop_3 a5 h5
  have q6 := pop_3 a6 h6
  have q7 := pop_3 a7 h7
  rw [f_J13_bitCount_95d88]
  simp only [bindv]
  have lt : ∀ {x0 x1 x2 x3 x4 x5 x6 x7 : Nat}, x0 < 256 → x1 < 256 → x2 < 256 → x3 < 256 → x4 < 256 → x5 < 256 → x6 < 256 → x7 < 256 → cat8 x0 x1 x2 x3 x4 x5 x6 x7 < 2 ^ 64 := by
    intro x0 x1 x2 x3 x4 x5 x6 x7 _ _ _ _ _ _ _ _
    unfold cat8
    omega
  -- step 1
  have s1 : lN (cat8 a0 a1 a2 a3 a4 a5 a6 a7) - (((lN (cat8 a0 a1 a2 a3 a4 a5 a6 a7)).toUInt64 >>> ((1 : Int32).toInt64.toUInt64 &&& Int64.toUInt64 63)).toInt64 &&& (6148914691236517205 : Int64)) = lN (cat8 (pb1 a0) (pb1 a1) (pb1 a2) (pb1 a3) (pb1 a4) (pb1 a5) (pb1 a6) (pb1 a7)) := by
    have p0 := pop_1 a0 h0 (a1 % 2) (by omega)
    have p1 := pop_1 a1 h1 (a2 % 2) (by omega)
    have p2 := pop_1 a2 h2 (a3 % 2) (by omega)
    have p3 := pop_1 a3 h3 (a4 % 2) (by omega)
    have p4 := pop_1 a4 h4 (a5 % 2) (by omega)
    have p5 := pop_1 a5 h5 (a6 % 2) (by omega)
    have p6 := pop_1 a6 h6 (a7 % 2) (by omega)
    have p7 := pop_1 a7 h7 0 (by omega)
    rw [show (1 : Int32) = nI 1 from rfl, wb_shr (lt h0 h1 h2 h3 h4 h5 h6 h7) (by omega), show (6148914691236517205 : Int64) = lN (cat8 85 85 85 85 85 85 85 85) from rfl, fb_andL]
    have e : cat8 a0 a1 a2 a3 a4 a5 a6 a7 / 2 ^ 1 = cat8 (a0 / 2 + 128 * (a1 % 2)) (a1 / 2 + 128 * (a2 % 2)) (a2 / 2 + 128 * (a3 % 2)) (a3 / 2 + 128 * (a4 % 2)) (a4 / 2 + 128 * (a5 % 2)) (a5 / 2 + 128 * (a6 % 2)) (a6 / 2 + 128 * (a7 % 2)) (a7 / 2 + 128 * 0) := by
      unfold cat8
      omega
    rw [e, and8 (by omega) (by omega) (by omega) (by omega) (by omega) (by omega) (by omega) (by omega), p0.1, p1.1, p2.1, p3.1, p4.1, p5.1, p6.1, p7.1]
    generalize hg0 : (a0 / 2 &&& 85) = g0 at *
    generalize hg1 : (a1 / 2 &&& 85) = g1 at *
    generalize hg2 : (a2 / 2 &&& 85) = g2 at *
    generalize hg3 : (a3 / 2 &&& 85) = g3 at *
    generalize hg4 : (a4 / 2 &&& 85) = g4 at *
    generalize hg5 : (a5 / 2 &&& 85) = g5 at *
    generalize hg6 : (a6 / 2 &&& 85) = g6 at *
    generalize hg7 : (a7 / 2 &&& 85) = g7 at *
    have hle : cat8 g0 g1 g2 g3 g4 g5 g6 g7 ≤ cat8 a0 a1 a2 a3 a4 a5 a6 a7 := by
      unfold cat8
      omega
    rw [lN_sub hle]
    unfold pb1
    rw [hg0, hg1, hg2, hg3, hg4, hg5, hg6, hg7]
    congr 1
    unfold cat8
    omega
  rw [s1]
  generalize hb0 : pb1 a0 = b0 at *
  generalize hb1 : pb1 a1 = b1 at *
  generalize hb2 : pb1 a2 = b2 at *
  generalize hb3 : pb1 a3 = b3 at *
  generalize hb4 : pb1 a4 = b4 at *
  generalize hb5 : pb1 a5 = b5 at *
  generalize hb6 : pb1 a6 = b6 at *
  generalize hb7 : pb1 a7 = b7 at *
  have s2 : (lN (cat8 b0 b1 b2 b3 b4 b5 b6 b7) &&& (3689348814741910323 : Int64)) + (((lN (cat8 b0 b1 b2 b3 b4 b5 b6 b7)).toUInt64 >>> ((2 : Int32).toInt64.toUInt64 &&& Int64.toUInt64 63)).toInt64 &&& (3689348814741910323 : Int64)) = lN (cat8 (pb2 b0) (pb2 b1) (pb2 b2) (pb2 b3) (pb2 b4) (pb2 b5) (pb2 b6) (pb2 b7)) := by
    have p0 := pop_2 b0 (by omega) (b1 % 4) (by omega)
    have p1 := pop_2 b1 (by omega) (b2 % 4) (by omega)
    have p2 := pop_2 b2 (by omega) (b3 % 4) (by omega)
    have p3 := pop_2 b3 (by omega) (b4 % 4) (by omega)
    have p4 := pop_2 b4 (by omega) (b5 % 4) (by omega)
    have p5 := pop_2 b5 (by omega) (b6 % 4) (by omega)
    have p6 := pop_2 b6 (by omega) (b7 % 4) (by omega)
    have p7 := pop_2 b7 (by omega) 0 (by omega)
    rw [show (2 : Int32) = nI 2 from rfl, wb_shr (lt (by omega) (by omega) (by omega) (by omega) (by omega) (by omega) (by omega) (by omega)) (by omega), show (3689348814741910323 : Int64) = lN (cat8 51 51 51 51 51 51 51 51) from rfl, fb_andL, fb_andL]
    have e : cat8 b0 b1 b2 b3 b4 b5 b6 b7 / 2 ^ 2 = cat8 (b0 / 4 + 64 * (b1 % 4)) (b1 / 4 + 64 * (b2 % 4)) (b2 / 4 + 64 * (b3 % 4)) (b3 / 4 + 64 * (b4 % 4)) (b4 / 4 + 64 * (b5 % 4)) (b5 / 4 + 64 * (b6 % 4)) (b6 / 4 + 64 * (b7 % 4)) (b7 / 4 + 64 * 0) := by
      unfold cat8
      omega
    rw [e, and8 (by omega) (by omega) (by omega) (by omega) (by omega) (by omega) (by omega) (by omega), and8 (by omega) (by omega) (by omega) (by omega) (by omega) (by omega) (by omega) (by omega), p0.1, p1.1, p2.1, p3.1, p4.1, p5.1, p6.1, p7.1, lN_add]
    unfold pb2
    congr 1
    unfold cat8
    omega
  rw [s2]
  generalize hc0 : pb2 b0 = y0 at *
  generalize hc1 : pb2 b1 = y1 at *
  generalize hc2 : pb2 b2 = y2 at *
  generalize hc3 : pb2 b3 = y3 at *
  generalize hc4 : pb2 b4 = y4 at *
  generalize hc5 : pb2 b5 = y5 at *
  generalize hc6 : pb2 b6 = y6 at *
  generalize hc7 : pb2 b7 = y7 at *
  generalize hd0 : fb_ct (fun i => a0.testBit i) 8 = d0 at *
  generalize hd1 : fb_ct (fun i => a1.testBit i) 8 = d1 at *
  generalize hd2 : fb_ct (fun i => a2.testBit i) 8 = d2 at *
  generalize hd3 : fb_ct (fun i => a3.testBit i) 8 = d3 at *
  generalize hd4 : fb_ct (fun i => a4.testBit i) 8 = d4 at *
  generalize hd5 : fb_ct (fun i => a5.testBit i) 8 = d5 at *
  generalize hd6 : fb_ct (fun i => a6.testBit i) 8 = d6 at *
  generalize hd7 : fb_ct (fun i => a7.testBit i) 8 = d7 at *
  have s3 : (lN (cat8 y0 y1 y2 y3 y4 y5 y6 y7) + ((lN (cat8 y0 y1 y2 y3 y4 y5 y6 y7)).toUInt64 >>> ((4 : Int32).toInt64.toUInt64 &&& Int64.toUInt64 63)).toInt64) &&& (1085102592571150095 : Int64) = lN (cat8 d0 d1 d2 d3 d4 d5 d6 d7) := by
    have m15 : ∀ x : Nat, x &&& 15 = x % 16 := fun x => Nat.and_two_pow_sub_one_eq_mod x 4
    rw [show (4 : Int32) = nI 4 from rfl, wb_shr (lt (by omega) (by omega) (by omega) (by omega) (by omega) (by omega) (by omega) (by omega)) (by omega), lN_add, show (1085102592571150095 : Int64) = lN (cat8 15 15 15 15 15 15 15 15) from rfl, fb_andL]
    have e : cat8 y0 y1 y2 y3 y4 y5 y6 y7 + cat8 y0 y1 y2 y3 y4 y5 y6 y7 / 2 ^ 4 = cat8 (y0 + y0 / 16 + 16 * (y1 % 16)) (y1 + y1 / 16 + 16 * (y2 % 16)) (y2 + y2 / 16 + 16 * (y3 % 16)) (y3 + y3 / 16 + 16 * (y4 % 16)) (y4 + y4 / 16 + 16 * (y5 % 16)) (y5 + y5 / 16 + 16 * (y6 % 16)) (y6 + y6 / 16 + 16 * (y7 % 16)) (y7 + y7 / 16) := by
      unfold cat8
      omega
    rw [e, and8 (by omega) (by omega) (by omega) (by omega) (by omega) (by omega) (by omega) (by omega), m15, m15, m15, m15, m15, m15, m15, m15]
    congr 1
    unfold cat8
    omega
  rw [s3]
  have hz : cat8 d0 d1 d2 d3 d4 d5 d6 d7 < 2 ^ 63 := by
    unfold cat8
    omega
  generalize hZ : cat8 d0 d1 d2 d3 d4 d5 d6 d7 = Z at *
  unfold cat8 at hZ
  rw [show (8 : Int32) = nI 8 from rfl, wb_shr (by omega) (by omega), lN_add]
  have h8 : Z / 2 ^ 8 = d1 + 256 * (d2 + 256 * (d3 + 256 * (d4 + 256 * (d5 + 256 * (d6 + 256 * d7))))) := by omega
  generalize hY : Z + Z / 2 ^ 8 = Y at *
  have hY2 : Y < 2 ^ 63 := by omega
  rw [show (16 : Int32) = nI 16 from rfl, wb_shr (by omega) (by omega), lN_add]
  have h16 : Y / 2 ^ 16 = (d2 + d3) + 256 * ((d3 + d4) + 256 * ((d4 + d5) + 256 * ((d5 + d6) + 256 * ((d6 + d7) + 256 * d7)))) := by omega
  generalize hX : Y + Y / 2 ^ 16 = X at *
  have hX2 : X < 2 ^ 63 := by omega
  rw [show (32 : Int32) = nI 32 from rfl, wb_shr (by omega) (by omega), lN_add, lN_i]
  have h32 : X / 2 ^ 32 = (d4 + d5 + d6 + d7) + 256 * ((d5 + d6 + d7 + 0) + 256 * ((d6 + d7) + 256 * d7)) := by omega
  rw [pk_and _ 7 (by decide)]
  have hb : (nI (X + X / 2 ^ 32)).toBitVec.toNat = (X + X / 2 ^ 32) % 2 ^ 32 := by
    show (BitVec.ofNat 32 (X + X / 2 ^ 32)).toNat = _
    rw [BitVec.toNat_ofNat]
  rw [hb]
  congr 2
  omega
theorem pop_ok (x : Int64) : f_J13_bitCount_95d88 x = some (nI (fb_ct (bt6 x) 64)) := by
  obtain ⟨n, hn, rfl⟩ := wb_of x
  have hc : n = cat8 (n % 256) (n / 256 % 256) (n / 65536 % 256) (n / 16777216 % 256) (n / 4294967296 % 256) (n / 1099511627776 % 256) (n / 281474976710656 % 256) (n / 72057594037927936 % 256) := by
    unfold cat8
    omega
  have hb : ∀ i, bt6 (lN n) i = n.testBit i := by
    intro i
    unfold bt6
    rw [wb_tb, BitVec.getLsbD_ofNat]
    by_cases h : i < 64
    · simp [h]
    · simp [h]
      have : n < 2 ^ i := Nat.lt_of_lt_of_le hn (Nat.pow_le_pow_right (by omega) (by omega))
      exact Nat.testBit_lt_two_pow this
  have hk : ∀ m, fb_ct (fun j => bt6 (lN n) (m + j)) 8 = fb_ct (fun i => (n / 2 ^ m % 256).testBit i) 8 := by
    intro m
    refine fb_ct_cong (fun j hj => ?_)
    rw [hb, show (256 : Nat) = 2 ^ 8 from rfl, Nat.testBit_mod_two_pow, Nat.testBit_div_two_pow]
    simp [hj]
    rw [Nat.add_comm]
  have e : fb_ct (bt6 (lN n)) 64 = fb_ct (fun i => (n % 256).testBit i) 8 + fb_ct (fun i => (n / 256 % 256).testBit i) 8 + fb_ct (fun i => (n / 65536 % 256).testBit i) 8 + fb_ct (fun i => (n / 16777216 % 256).testBit i) 8 + fb_ct (fun i => (n / 4294967296 % 256).testBit i) 8 + fb_ct (fun i => (n / 1099511627776 % 256).testBit i) 8 + fb_ct (fun i => (n / 281474976710656 % 256).testBit i) 8 + fb_ct (fun i => (n / 72057594037927936 % 256).testBit i) 8 := by
    rw [show (64 : Nat) = 56 + 8 from rfl, fb_ct_split, show (56 : Nat) = 48 + 8 from rfl, fb_ct_split _ 48, show (48 : Nat) = 40 + 8 from rfl, fb_ct_split _ 40, show (40 : Nat) = 32 + 8 from rfl, fb_ct_split _ 32, show (32 : Nat) = 24 + 8 from rfl, fb_ct_split _ 24, show (24 : Nat) = 16 + 8 from rfl, fb_ct_split _ 16, show (16 : Nat) = 8 + 8 from rfl, fb_ct_split _ 8]
    have k0 : fb_ct (bt6 (lN n)) 8 = fb_ct (fun i => (n % 256).testBit i) 8 := by
      have := hk 0
      rw [Nat.pow_zero, Nat.div_one] at this
      rw [← this]
      exact fb_ct_cong (fun j _ => by rw [Nat.zero_add])
    have k1 := hk 8
    have k2 := hk 16
    have k3 := hk 24
    have k4 := hk 32
    have k5 := hk 40
    have k6 := hk 48
    have k7 := hk 56
    rw [k0]
    simp only [show (2 : Nat) ^ 8 = 256 from rfl, show (2 : Nat) ^ 16 = 65536 from rfl, show (2 : Nat) ^ 24 = 16777216 from rfl, show (2 : Nat) ^ 32 = 4294967296 from rfl, show (2 : Nat) ^ 40 = 1099511627776 from rfl, show (2 : Nat) ^ 48 = 281474976710656 from rfl, show (2 : Nat) ^ 56 = 72057594037927936 from rfl] at k1 k2 k3 k4 k5 k6 k7
    simp only [show (8 : Nat) + 8 = 16 from rfl, show (16 : Nat) + 8 = 24 from rfl, show (24 : Nat) + 8 = 32 from rfl, show (32 : Nat) + 8 = 40 from rfl, show (40 : Nat) + 8 = 48 from rfl, show (48 : Nat) + 8 = 56 from rfl]
    rw [k1, k2, k3, k4, k5, k6, k7]
  rw [e]
  have := pop_nat (a0 := n % 256) (a1 := n / 256 % 256) (a2 := n / 65536 % 256) (a3 := n / 16777216 % 256) (a4 := n / 4294967296 % 256) (a5 := n / 1099511627776 % 256) (a6 := n / 281474976710656 % 256) (a7 := n / 72057594037927936 % 256) (by omega) (by omega) (by omega) (by omega) (by omega) (by omega) (by omega) (by omega)
  rw [← hc] at this
  exact this
