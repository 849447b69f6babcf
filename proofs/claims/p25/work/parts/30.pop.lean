/-! ===== lN n to 2^64: shifts, and, or, masks, one bit ===== -/
theorem wb_tb (n : Nat) : (lN n).toBitVec = BitVec.ofNat 64 n := rfl
theorem wb_inj {a b : Int64} (h : a.toBitVec = b.toBitVec) : a = b := Int64.toBitVec_inj.mp h
theorem wb_tn {n : Nat} (h : n < 2 ^ 64) : (lN n).toBitVec.toNat = n := by rw [wb_tb, BitVec.toNat_ofNat, Nat.mod_eq_of_lt h]
theorem wb_of (x : Int64) : ∃ n, n < 2 ^ 64 ∧ x = lN n := ⟨x.toBitVec.toNat, x.toBitVec.isLt, wb_inj (by rw [wb_tb]; simp)⟩
theorem wb_of32 (x : Int32) : ∃ n, n < 2 ^ 32 ∧ x = nI n := ⟨x.toBitVec.toNat, x.toBitVec.isLt, Int32.toBitVec_inj.mp (by show _ = BitVec.ofNat 32 _; simp)⟩
theorem wb_c : ∀ k, k < 64 → ((nI k).toInt64 &&& 63) = lN k := by decide +kernel
theorem wb_cu : ∀ k, k < 64 → ((nI k).toInt64.toUInt64 &&& Int64.toUInt64 63) = UInt64.ofNat k := by decide +kernel
theorem wb_sm : ∀ k, k < 64 → (BitVec.ofNat 64 k).smod 64 = BitVec.ofNat 64 k := by decide +kernel
theorem wb_pw {a b : Nat} (h : a ≤ b) : 2 ^ b = 2 ^ a * 2 ^ (b - a) := by rw [← Nat.pow_add]; congr 1; omega
theorem wb_lt2 {a b : Nat} (h : a < b) : 2 ^ a < 2 ^ b := Nat.pow_lt_pow_right (by decide) h
theorem wb_mod (n : Nat) : lN n = lN (n % 2 ^ 64) := wb_inj (by rw [wb_tb, wb_tb]; apply BitVec.eq_of_toNat_eq; rw [BitVec.toNat_ofNat, BitVec.toNat_ofNat, Nat.mod_mod])
theorem wb_shr {n k : Nat} (hn : n < 2 ^ 64) (hk : k < 64) : ((lN n).toUInt64 >>> ((nI k).toInt64.toUInt64 &&& Int64.toUInt64 63)).toInt64 = lN (n / 2 ^ k) := by
  rw [wb_cu k hk]
  apply wb_inj
  apply BitVec.eq_of_toNat_eq
  show ((lN n).toUInt64 >>> UInt64.ofNat k).toNat = (BitVec.ofNat 64 _).toNat
  have h1 : (UInt64.ofNat k).toNat = k := by
    show (BitVec.ofNat 64 k).toNat = k
    rw [BitVec.toNat_ofNat, Nat.mod_eq_of_lt (by omega)]
  have h2 : (lN n).toUInt64.toNat = n := wb_tn hn
  rw [UInt64.toNat_shiftRight, h1, h2, Nat.mod_eq_of_lt hk, Nat.shiftRight_eq_div_pow, BitVec.toNat_ofNat, Nat.mod_eq_of_lt (Nat.lt_of_le_of_lt (Nat.div_le_self _ _) hn)]
theorem wb_shl (n : Nat) {k : Nat} (hk : k < 64) : lN n <<< ((nI k).toInt64 &&& 63) = lN (n * 2 ^ k) := by
  rw [wb_c k hk]
  apply wb_inj
  rw [Int64.toBitVec_shiftLeft, wb_tb, wb_tb, wb_tb, wb_sm k hk]
  apply BitVec.eq_of_toNat_eq
  rw [BitVec.shiftLeft_eq', BitVec.toNat_shiftLeft, BitVec.toNat_ofNat, BitVec.toNat_ofNat, BitVec.toNat_ofNat, Nat.mod_eq_of_lt (show k < 2 ^ 64 by omega), Nat.shiftLeft_eq, Nat.mul_mod, Nat.mod_mod, ← Nat.mul_mod]
theorem wb_and {a b : Nat} (ha : a < 2 ^ 64) (hb : b < 2 ^ 64) : lN a &&& lN b = lN (a &&& b) := by
  apply wb_inj
  rw [Int64.toBitVec_and, wb_tb, wb_tb, wb_tb]
  apply BitVec.eq_of_toNat_eq
  rw [BitVec.toNat_and, BitVec.toNat_ofNat, BitVec.toNat_ofNat, BitVec.toNat_ofNat, Nat.mod_eq_of_lt ha, Nat.mod_eq_of_lt hb, Nat.mod_eq_of_lt (Nat.and_lt_two_pow _ hb)]
theorem wb_or {a b : Nat} (ha : a < 2 ^ 64) (hb : b < 2 ^ 64) : lN a ||| lN b = lN (a ||| b) := by
  apply wb_inj
  rw [Int64.toBitVec_or, wb_tb, wb_tb, wb_tb]
  apply BitVec.eq_of_toNat_eq
  rw [BitVec.toNat_or, BitVec.toNat_ofNat, BitVec.toNat_ofNat, BitVec.toNat_ofNat, Nat.mod_eq_of_lt ha, Nat.mod_eq_of_lt hb, Nat.mod_eq_of_lt (Nat.or_lt_two_pow ha hb)]
theorem wb_mask {n k : Nat} (hn : n < 2 ^ 64) (hk : k < 64) : lN n &&& lN (2 ^ k - 1) = lN (n % 2 ^ k) := by
  rw [wb_and hn (by have := wb_lt2 hk; omega), Nat.and_two_pow_sub_one_eq_mod]
theorem wb_a1 {n : Nat} (hn : n < 2 ^ 64) : lN n &&& 1 = lN (n % 2) := wb_mask (k := 1) hn (by decide)
theorem wb_bit {n k : Nat} (hn : n < 2 ^ 64) (hk : k < 64) : ((lN n).toUInt64 >>> ((nI k).toInt64.toUInt64 &&& Int64.toUInt64 63)).toInt64 &&& 1 = lN (n / 2 ^ k % 2) := by
  rw [wb_shr hn hk, wb_a1 (Nat.lt_of_le_of_lt (Nat.div_le_self _ _) hn)]
theorem wb_xor {q k : Nat} (hk : k < 63) (h : 2 ^ k ≤ q) (h2 : q < 2 ^ (k + 1)) : lN q ^^^ lN (2 ^ k) = lN (q - 2 ^ k) := by
  obtain ⟨r, rfl⟩ : ∃ r, q = 2 ^ k + r := ⟨q - 2 ^ k, by omega⟩
  have hr : r < 2 ^ k := by rw [Nat.pow_succ] at h2; omega
  have hx : (2 ^ k + r) ^^^ 2 ^ k = r := by
    apply Nat.eq_of_testBit_eq
    intro i
    rw [Nat.testBit_xor, Nat.testBit_two_pow]
    rcases Nat.lt_trichotomy i k with h | h | h
    · rw [Nat.testBit_two_pow_add_gt h]
      simp [show ¬ k = i by omega]
    · subst h
      rw [Nat.testBit_two_pow_add_eq]
      simp
    · have a1 : 2 ^ (k + 1) ≤ 2 ^ i := Nat.pow_le_pow_right (by decide) h
      rw [Nat.testBit_lt_two_pow (show 2 ^ k + r < 2 ^ i by omega), Nat.testBit_lt_two_pow (show r < 2 ^ i by omega)]
      simp [show ¬ k = i by omega]
  have b1 := wb_lt2 (show k + 1 < 64 by omega)
  have b2 := wb_lt2 (show k < 64 by omega)
  apply wb_inj
  rw [Int64.toBitVec_xor, wb_tb, wb_tb, wb_tb]
  apply BitVec.eq_of_toNat_eq
  rw [BitVec.toNat_xor, BitVec.toNat_ofNat, BitVec.toNat_ofNat, BitVec.toNat_ofNat, Nat.mod_eq_of_lt (by omega : 2 ^ k + r < 2 ^ 64), Nat.mod_eq_of_lt b2, hx, Nat.add_sub_cancel_left, Nat.mod_eq_of_lt (by omega)]
/-! ===== how many nodes a set has ===== -/
theorem and256 {A B a b : Nat} (ha : a < 256) (hb : b < 256) : (a + 256 * A) &&& (b + 256 * B) = (a &&& b) + 256 * (A &&& B) := by
  have h1 : ((a + 256 * A) &&& (b + 256 * B)) / 2 ^ 8 = (A &&& B) := by
    rw [Nat.and_div_two_pow]
    congr 1 <;> omega
  have h2 : ((a + 256 * A) &&& (b + 256 * B)) % 2 ^ 8 = (a &&& b) := by
    rw [Nat.and_mod_two_pow]
    congr 1 <;> omega
  have := Nat.div_add_mod ((a + 256 * A) &&& (b + 256 * B)) (2 ^ 8)
  rw [h1, h2] at this
  omega
def cat8 (a0 a1 a2 a3 a4 a5 a6 a7 : Nat) : Nat := a0 + 256 * (a1 + 256 * (a2 + 256 * (a3 + 256 * (a4 + 256 * (a5 + 256 * (a6 + 256 * a7))))))
theorem and8 {a0 a1 a2 a3 a4 a5 a6 a7 m : Nat} (h0 : a0 < 256) (h1 : a1 < 256) (h2 : a2 < 256) (h3 : a3 < 256) (h4 : a4 < 256) (h5 : a5 < 256) (h6 : a6 < 256) (hm : m < 256) : cat8 a0 a1 a2 a3 a4 a5 a6 a7 &&& cat8 m m m m m m m m = cat8 (a0 &&& m) (a1 &&& m) (a2 &&& m) (a3 &&& m) (a4 &&& m) (a5 &&& m) (a6 &&& m) (a7 &&& m) := by
  unfold cat8
  rw [and256 h0 hm, and256 h1 hm, and256 h2 hm, and256 h3 hm, and256 h4 hm, and256 h5 hm, and256 h6 hm]
def pb1 (a : Nat) : Nat := a - (a / 2 &&& 85)
def pb2 (b : Nat) : Nat := (b &&& 51) + (b / 4 &&& 51)
theorem pop_1 : ∀ a, a < 256 → ∀ c, c < 2 → (a / 2 + 128 * c) &&& 85 = (a / 2 &&& 85) ∧ (a / 2 &&& 85) ≤ a ∧ (a / 2 &&& 85) < 256 := by decide +kernel
theorem pop_2 : ∀ b, b < 256 → ∀ c, c < 4 → (b / 4 + 64 * c) &&& 51 = (b / 4 &&& 51) ∧ (b / 4 &&& 51) ≤ 51 ∧ (b &&& 51) ≤ 51 := by decide +kernel
theorem pop_3 : ∀ a, a < 256 → pb1 a < 256 ∧ pb2 (pb1 a) % 16 ≤ 4 ∧ pb2 (pb1 a) / 16 ≤ 4 ∧ (pb2 (pb1 a) + pb2 (pb1 a) / 16) % 16 = fb_ct (fun i => a.testBit i) 8 ∧ fb_ct (fun i => a.testBit i) 8 ≤ 8 := by decide +kernel
theorem cat8_lt {a0 a1 a2 a3 a4 a5 a6 a7 : Nat} (h0 : a0 < 256) (h1 : a1 < 256) (h2 : a2 < 256) (h3 : a3 < 256) (h4 : a4 < 256) (h5 : a5 < 256) (h6 : a6 < 256) (h7 : a7 < 256) : cat8 a0 a1 a2 a3 a4 a5 a6 a7 < 2 ^ 64 := by
  unfold cat8
  omega
set_option maxHeartbeats 4000000 in
theorem pop_s1 {a0 a1 a2 a3 a4 a5 a6 a7 : Nat} (h0 : a0 < 256) (h1 : a1 < 256) (h2 : a2 < 256) (h3 : a3 < 256) (h4 : a4 < 256) (h5 : a5 < 256) (h6 : a6 < 256) (h7 : a7 < 256) : lN (cat8 a0 a1 a2 a3 a4 a5 a6 a7) - (((lN (cat8 a0 a1 a2 a3 a4 a5 a6 a7)).toUInt64 >>> ((1 : Int32).toInt64.toUInt64 &&& Int64.toUInt64 63)).toInt64 &&& (6148914691236517205 : Int64)) = lN (cat8 (pb1 a0) (pb1 a1) (pb1 a2) (pb1 a3) (pb1 a4) (pb1 a5) (pb1 a6) (pb1 a7)) := by
  have p0 := pop_1 a0 h0 (a1 % 2) (by omega)
  have p1 := pop_1 a1 h1 (a2 % 2) (by omega)
  have p2 := pop_1 a2 h2 (a3 % 2) (by omega)
  have p3 := pop_1 a3 h3 (a4 % 2) (by omega)
  have p4 := pop_1 a4 h4 (a5 % 2) (by omega)
  have p5 := pop_1 a5 h5 (a6 % 2) (by omega)
  have p6 := pop_1 a6 h6 (a7 % 2) (by omega)
  have p7 := pop_1 a7 h7 0 (by omega)
  rw [show (1 : Int32) = nI 1 from rfl, wb_shr (cat8_lt h0 h1 h2 h3 h4 h5 h6 h7) (by omega), show (6148914691236517205 : Int64) = lN (cat8 85 85 85 85 85 85 85 85) from rfl, fb_andL]
  have e : cat8 a0 a1 a2 a3 a4 a5 a6 a7 / 2 ^ 1 = cat8 (a0 / 2 + 128 * (a1 % 2)) (a1 / 2 + 128 * (a2 % 2)) (a2 / 2 + 128 * (a3 % 2)) (a3 / 2 + 128 * (a4 % 2)) (a4 / 2 + 128 * (a5 % 2)) (a5 / 2 + 128 * (a6 % 2)) (a6 / 2 + 128 * (a7 % 2)) (a7 / 2 + 128 * 0) := by
    unfold cat8
    omega
  rw [e, and8 (by omega) (by omega) (by omega) (by omega) (by omega) (by omega) (by omega) (by omega), p0.1, p1.1, p2.1, p3.1, p4.1, p5.1, p6.1, p7.1]
  clear e
  replace p0 := p0.2.1
  replace p1 := p1.2.1
  replace p2 := p2.2.1
  replace p3 := p3.2.1
  replace p4 := p4.2.1
  replace p5 := p5.2.1
  replace p6 := p6.2.1
  replace p7 := p7.2.1
  have u0 : pb1 a0 = a0 - (a0 / 2 &&& 85) := rfl
  have u1 : pb1 a1 = a1 - (a1 / 2 &&& 85) := rfl
  have u2 : pb1 a2 = a2 - (a2 / 2 &&& 85) := rfl
  have u3 : pb1 a3 = a3 - (a3 / 2 &&& 85) := rfl
  have u4 : pb1 a4 = a4 - (a4 / 2 &&& 85) := rfl
  have u5 : pb1 a5 = a5 - (a5 / 2 &&& 85) := rfl
  have u6 : pb1 a6 = a6 - (a6 / 2 &&& 85) := rfl
  have u7 : pb1 a7 = a7 - (a7 / 2 &&& 85) := rfl
  rw [u0]
  clear u0
  rw [u1]
  clear u1
  rw [u2]
  clear u2
  rw [u3]
  clear u3
  rw [u4]
  clear u4
  rw [u5]
  clear u5
  rw [u6]
  clear u6
  rw [u7]
  clear u7
  generalize (a0 / 2 &&& 85) = g0 at *
  generalize (a1 / 2 &&& 85) = g1 at *
  generalize (a2 / 2 &&& 85) = g2 at *
  generalize (a3 / 2 &&& 85) = g3 at *
  generalize (a4 / 2 &&& 85) = g4 at *
  generalize (a5 / 2 &&& 85) = g5 at *
  generalize (a6 / 2 &&& 85) = g6 at *
  generalize (a7 / 2 &&& 85) = g7 at *
  have hle : cat8 g0 g1 g2 g3 g4 g5 g6 g7 ≤ cat8 a0 a1 a2 a3 a4 a5 a6 a7 := by
    unfold cat8
    omega
  rw [lN_sub hle]
  congr 1
  unfold cat8
  omega
set_option maxHeartbeats 4000000 in
theorem pop_s2 {a0 a1 a2 a3 a4 a5 a6 a7 : Nat} (h0 : a0 < 256) (h1 : a1 < 256) (h2 : a2 < 256) (h3 : a3 < 256) (h4 : a4 < 256) (h5 : a5 < 256) (h6 : a6 < 256) (h7 : a7 < 256) : (lN (cat8 a0 a1 a2 a3 a4 a5 a6 a7) &&& (3689348814741910323 : Int64)) + (((lN (cat8 a0 a1 a2 a3 a4 a5 a6 a7)).toUInt64 >>> ((2 : Int32).toInt64.toUInt64 &&& Int64.toUInt64 63)).toInt64 &&& (3689348814741910323 : Int64)) = lN (cat8 (pb2 a0) (pb2 a1) (pb2 a2) (pb2 a3) (pb2 a4) (pb2 a5) (pb2 a6) (pb2 a7)) := by
  have p0 := pop_2 a0 h0 (a1 % 4) (by omega)
  have p1 := pop_2 a1 h1 (a2 % 4) (by omega)
  have p2 := pop_2 a2 h2 (a3 % 4) (by omega)
  have p3 := pop_2 a3 h3 (a4 % 4) (by omega)
  have p4 := pop_2 a4 h4 (a5 % 4) (by omega)
  have p5 := pop_2 a5 h5 (a6 % 4) (by omega)
  have p6 := pop_2 a6 h6 (a7 % 4) (by omega)
  have p7 := pop_2 a7 h7 0 (by omega)
  rw [show (2 : Int32) = nI 2 from rfl, wb_shr (cat8_lt h0 h1 h2 h3 h4 h5 h6 h7) (by omega), show (3689348814741910323 : Int64) = lN (cat8 51 51 51 51 51 51 51 51) from rfl, fb_andL, fb_andL]
  have e : cat8 a0 a1 a2 a3 a4 a5 a6 a7 / 2 ^ 2 = cat8 (a0 / 4 + 64 * (a1 % 4)) (a1 / 4 + 64 * (a2 % 4)) (a2 / 4 + 64 * (a3 % 4)) (a3 / 4 + 64 * (a4 % 4)) (a4 / 4 + 64 * (a5 % 4)) (a5 / 4 + 64 * (a6 % 4)) (a6 / 4 + 64 * (a7 % 4)) (a7 / 4 + 64 * 0) := by
    unfold cat8
    omega
  rw [e, and8 h0 h1 h2 h3 h4 h5 h6 (by omega), and8 (by omega) (by omega) (by omega) (by omega) (by omega) (by omega) (by omega) (by omega), p0.1, p1.1, p2.1, p3.1, p4.1, p5.1, p6.1, p7.1, lN_add]
  clear e
  unfold pb2 cat8
  congr 1
  omega
theorem pop_c {y Y m M : Nat} (h1 : y % 16 ≤ 4) (h2 : y / 16 ≤ 4) (h3 : Y % 16 ≤ 4) (hm : m = 15) : ((y + 256 * Y) + (y + 256 * Y) / 16) &&& (m + 256 * M) = (y + y / 16) % 16 + 256 * ((Y + Y / 16) &&& M) := by
  subst hm
  have e : (y + 256 * Y) + (y + 256 * Y) / 16 = (y + y / 16 + 16 * (Y % 16)) + 256 * (Y + Y / 16) := by omega
  rw [e, and256 (by omega) (by omega)]
  have := Nat.and_two_pow_sub_one_eq_mod (y + y / 16 + 16 * (Y % 16)) 4
  rw [show 2 ^ 4 - 1 = 15 from rfl, show 2 ^ 4 = 16 from rfl] at this
  rw [this]
  omega
set_option maxHeartbeats 4000000 in
theorem pop_s3 {a0 a1 a2 a3 a4 a5 a6 a7 : Nat} (h0 : a0 < 256) (h1 : a1 < 256) (h2 : a2 < 256) (h3 : a3 < 256) (h4 : a4 < 256) (h5 : a5 < 256) (h6 : a6 < 256) (h7 : a7 < 256) (u0 : a0 % 16 ≤ 4) (v0 : a0 / 16 ≤ 4) (u1 : a1 % 16 ≤ 4) (v1 : a1 / 16 ≤ 4) (u2 : a2 % 16 ≤ 4) (v2 : a2 / 16 ≤ 4) (u3 : a3 % 16 ≤ 4) (v3 : a3 / 16 ≤ 4) (u4 : a4 % 16 ≤ 4) (v4 : a4 / 16 ≤ 4) (u5 : a5 % 16 ≤ 4) (v5 : a5 / 16 ≤ 4) (u6 : a6 % 16 ≤ 4) (v6 : a6 / 16 ≤ 4) (u7 : a7 % 16 ≤ 4) (v7 : a7 / 16 ≤ 4) : (lN (cat8 a0 a1 a2 a3 a4 a5 a6 a7) + ((lN (cat8 a0 a1 a2 a3 a4 a5 a6 a7)).toUInt64 >>> ((4 : Int32).toInt64.toUInt64 &&& Int64.toUInt64 63)).toInt64) &&& (1085102592571150095 : Int64) = lN (cat8 ((a0 + a0 / 16) % 16) ((a1 + a1 / 16) % 16) ((a2 + a2 / 16) % 16) ((a3 + a3 / 16) % 16) ((a4 + a4 / 16) % 16) ((a5 + a5 / 16) % 16) ((a6 + a6 / 16) % 16) ((a7 + a7 / 16) % 16)) := by
  rw [show (4 : Int32) = nI 4 from rfl, wb_shr (cat8_lt h0 h1 h2 h3 h4 h5 h6 h7) (by omega), lN_add, show (1085102592571150095 : Int64) = lN (cat8 15 15 15 15 15 15 15 15) from rfl, fb_andL]
  unfold cat8
  rw [show 2 ^ 4 = 16 from rfl, pop_c u0 v0 (by omega) rfl, pop_c u1 v1 (by omega) rfl, pop_c u2 v2 (by omega) rfl, pop_c u3 v3 (by omega) rfl, pop_c u4 v4 (by omega) rfl, pop_c u5 v5 (by omega) rfl, pop_c u6 v6 (by omega) rfl]
  have := Nat.and_two_pow_sub_one_eq_mod (a7 + a7 / 16) 4
  rw [show 2 ^ 4 - 1 = 15 from rfl, show 2 ^ 4 = 16 from rfl] at this
  rw [this]
set_option maxHeartbeats 4000000 in
theorem pop_s4 {d0 d1 d2 d3 d4 d5 d6 d7 : Nat} (h0 : d0 ≤ 8) (h1 : d1 ≤ 8) (h2 : d2 ≤ 8) (h3 : d3 ≤ 8) (h4 : d4 ≤ 8) (h5 : d5 ≤ 8) (h6 : d6 ≤ 8) (h7 : d7 ≤ 8) {Z : Nat} (hZ : d0 + 256 * (d1 + 256 * (d2 + 256 * (d3 + 256 * (d4 + 256 * (d5 + 256 * (d6 + 256 * d7)))))) = Z) : Z + Z / 2 ^ 8 + (Z + Z / 2 ^ 8) / 2 ^ 16 < 2 ^ 63 ∧ Z + Z / 2 ^ 8 < 2 ^ 63 ∧ Z < 2 ^ 63 ∧ (Z + Z / 2 ^ 8 + (Z + Z / 2 ^ 8) / 2 ^ 16 + (Z + Z / 2 ^ 8 + (Z + Z / 2 ^ 8) / 2 ^ 16) / 2 ^ 32) % 2 ^ 32 % 128 = d0 + d1 + d2 + d3 + d4 + d5 + d6 + d7 := by
  have h8 : Z / 2 ^ 8 = d1 + 256 * (d2 + 256 * (d3 + 256 * (d4 + 256 * (d5 + 256 * (d6 + 256 * d7))))) := by omega
  have hY : Z + Z / 2 ^ 8 = (d0 + d1) + 256 * ((d1 + d2) + 256 * ((d2 + d3) + 256 * ((d3 + d4) + 256 * ((d4 + d5) + 256 * ((d5 + d6) + 256 * ((d6 + d7) + 256 * d7)))))) := by omega
  have hZ3 : Z < 2 ^ 63 := by omega
  generalize Z + Z / 2 ^ 8 = Y at *
  clear hZ h8
  have h16 : Y / 2 ^ 16 = (d2 + d3) + 256 * ((d3 + d4) + 256 * ((d4 + d5) + 256 * ((d5 + d6) + 256 * ((d6 + d7) + 256 * d7)))) := by omega
  have hX : Y + Y / 2 ^ 16 = (d0 + d1 + d2 + d3) + 256 * ((d1 + d2 + d3 + d4) + 256 * ((d2 + d3 + d4 + d5) + 256 * ((d3 + d4 + d5 + d6) + 256 * ((d4 + d5 + d6 + d7) + 256 * ((d5 + d6 + d7) + 256 * ((d6 + d7) + 256 * d7)))))) := by omega
  have hY3 : Y < 2 ^ 63 := by omega
  generalize Y + Y / 2 ^ 16 = X at *
  clear hY h16
  have h32 : X / 2 ^ 32 = (d4 + d5 + d6 + d7) + 256 * ((d5 + d6 + d7) + 256 * ((d6 + d7) + 256 * d7)) := by omega
  refine ⟨by omega, hY3, hZ3, ?_⟩
  rw [h32]
  clear h32
  omega
theorem pop_nat {a0 a1 a2 a3 a4 a5 a6 a7 : Nat} (h0 : a0 < 256) (h1 : a1 < 256) (h2 : a2 < 256) (h3 : a3 < 256) (h4 : a4 < 256) (h5 : a5 < 256) (h6 : a6 < 256) (h7 : a7 < 256) : f_J13_bitCount_95d88 (lN (cat8 a0 a1 a2 a3 a4 a5 a6 a7)) = some (nI (fb_ct (fun i => a0.testBit i) 8 + fb_ct (fun i => a1.testBit i) 8 + fb_ct (fun i => a2.testBit i) 8 + fb_ct (fun i => a3.testBit i) 8 + fb_ct (fun i => a4.testBit i) 8 + fb_ct (fun i => a5.testBit i) 8 + fb_ct (fun i => a6.testBit i) 8 + fb_ct (fun i => a7.testBit i) 8)) := by
  have q0 := pop_3 a0 h0
  have q1 := pop_3 a1 h1
  have q2 := pop_3 a2 h2
  have q3 := pop_3 a3 h3
  have q4 := pop_3 a4 h4
  have q5 := pop_3 a5 h5
  have q6 := pop_3 a6 h6
  have q7 := pop_3 a7 h7
  rw [f_J13_bitCount_95d88]
  simp only [bindv]
  rw [pop_s1 h0 h1 h2 h3 h4 h5 h6 h7, pop_s2 q0.1 q1.1 q2.1 q3.1 q4.1 q5.1 q6.1 q7.1]
  have b0 : pb2 (pb1 a0) < 256 := by omega
  have b1 : pb2 (pb1 a1) < 256 := by omega
  have b2 : pb2 (pb1 a2) < 256 := by omega
  have b3 : pb2 (pb1 a3) < 256 := by omega
  have b4 : pb2 (pb1 a4) < 256 := by omega
  have b5 : pb2 (pb1 a5) < 256 := by omega
  have b6 : pb2 (pb1 a6) < 256 := by omega
  have b7 : pb2 (pb1 a7) < 256 := by omega
  rw [pop_s3 b0 b1 b2 b3 b4 b5 b6 b7 q0.2.1 q0.2.2.1 q1.2.1 q1.2.2.1 q2.2.1 q2.2.2.1 q3.2.1 q3.2.2.1 q4.2.1 q4.2.2.1 q5.2.1 q5.2.2.1 q6.2.1 q6.2.2.1 q7.2.1 q7.2.2.1, q0.2.2.2.1, q1.2.2.2.1, q2.2.2.2.1, q3.2.2.2.1, q4.2.2.2.1, q5.2.2.2.1, q6.2.2.2.1, q7.2.2.2.1]
  obtain ⟨z1, z2, z3, z4⟩ := pop_s4 q0.2.2.2.2 q1.2.2.2.2 q2.2.2.2.2 q3.2.2.2.2 q4.2.2.2.2 q5.2.2.2.2 q6.2.2.2.2 q7.2.2.2.2 (Z := cat8 (fb_ct (fun i => a0.testBit i) 8) (fb_ct (fun i => a1.testBit i) 8) (fb_ct (fun i => a2.testBit i) 8) (fb_ct (fun i => a3.testBit i) 8) (fb_ct (fun i => a4.testBit i) 8) (fb_ct (fun i => a5.testBit i) 8) (fb_ct (fun i => a6.testBit i) 8) (fb_ct (fun i => a7.testBit i) 8)) rfl
  generalize cat8 (fb_ct (fun i => a0.testBit i) 8) (fb_ct (fun i => a1.testBit i) 8) (fb_ct (fun i => a2.testBit i) 8) (fb_ct (fun i => a3.testBit i) 8) (fb_ct (fun i => a4.testBit i) 8) (fb_ct (fun i => a5.testBit i) 8) (fb_ct (fun i => a6.testBit i) 8) (fb_ct (fun i => a7.testBit i) 8) = Z at *
  rw [show (8 : Int32) = nI 8 from rfl, wb_shr (by omega) (by omega), lN_add]
  generalize Z + Z / 2 ^ 8 = Y at *
  rw [show (16 : Int32) = nI 16 from rfl, wb_shr (by omega) (by omega), lN_add]
  generalize Y + Y / 2 ^ 16 = X at *
  rw [show (32 : Int32) = nI 32 from rfl, wb_shr (by omega) (by omega), lN_add, lN_i, pk_and _ 7 (by decide)]
  have hb : (nI (X + X / 2 ^ 32)).toBitVec.toNat = (X + X / 2 ^ 32) % 2 ^ 32 := by
    show (BitVec.ofNat 32 (X + X / 2 ^ 32)).toNat = _
    rw [BitVec.toNat_ofNat]
  rw [hb, show 2 ^ 7 = 128 from rfl, z4]
theorem pop_ok (x : Int64) : f_J13_bitCount_95d88 x = some (nI (fb_ct (bt6 x) 64)) := by
  obtain ⟨n, hn, rfl⟩ := wb_of x
  have hc : n = cat8 (n % 256) (n / 256 % 256) (n / 65536 % 256) (n / 16777216 % 256) (n / 4294967296 % 256) (n / 1099511627776 % 256) (n / 281474976710656 % 256) (n / 72057594037927936 % 256) := by
    unfold cat8
    omega
  have hb : ∀ i, bt6 (lN n) i = n.testBit i := by
    intro i
    unfold bt6
    rw [wb_tb, BitVec.getLsbD_ofNat]
    by_cases h : i < 64
    · simp [h]
    · simp [h]
      have : n < 2 ^ i := Nat.lt_of_lt_of_le hn (Nat.pow_le_pow_right (by omega) (by omega))
      exact Nat.testBit_lt_two_pow this
  have hk : ∀ m, fb_ct (fun j => bt6 (lN n) (m + j)) 8 = fb_ct (fun i => (n / 2 ^ m % 256).testBit i) 8 := by
    intro m
    refine fb_ct_cong (fun j hj => ?_)
    rw [hb, show (256 : Nat) = 2 ^ 8 from rfl, Nat.testBit_mod_two_pow, Nat.testBit_div_two_pow]
    simp [hj]
    rw [Nat.add_comm]
  have e : fb_ct (bt6 (lN n)) 64 = fb_ct (fun i => (n % 256).testBit i) 8 + fb_ct (fun i => (n / 256 % 256).testBit i) 8 + fb_ct (fun i => (n / 65536 % 256).testBit i) 8 + fb_ct (fun i => (n / 16777216 % 256).testBit i) 8 + fb_ct (fun i => (n / 4294967296 % 256).testBit i) 8 + fb_ct (fun i => (n / 1099511627776 % 256).testBit i) 8 + fb_ct (fun i => (n / 281474976710656 % 256).testBit i) 8 + fb_ct (fun i => (n / 72057594037927936 % 256).testBit i) 8 := by
    rw [show (64 : Nat) = 56 + 8 from rfl, fb_ct_split, show (56 : Nat) = 48 + 8 from rfl, fb_ct_split _ 48, show (48 : Nat) = 40 + 8 from rfl, fb_ct_split _ 40, show (40 : Nat) = 32 + 8 from rfl, fb_ct_split _ 32, show (32 : Nat) = 24 + 8 from rfl, fb_ct_split _ 24, show (24 : Nat) = 16 + 8 from rfl, fb_ct_split _ 16, show (16 : Nat) = 8 + 8 from rfl, fb_ct_split _ 8]
    have k0 : fb_ct (bt6 (lN n)) 8 = fb_ct (fun i => (n % 256).testBit i) 8 := by
      have := hk 0
      rw [Nat.pow_zero, Nat.div_one] at this
      rw [← this]
      exact fb_ct_cong (fun j _ => by rw [Nat.zero_add])
    have k1 := hk 8
    have k2 := hk 16
    have k3 := hk 24
    have k4 := hk 32
    have k5 := hk 40
    have k6 := hk 48
    have k7 := hk 56
    rw [k0]
    simp only [show (2 : Nat) ^ 8 = 256 from rfl, show (2 : Nat) ^ 16 = 65536 from rfl, show (2 : Nat) ^ 24 = 16777216 from rfl, show (2 : Nat) ^ 32 = 4294967296 from rfl, show (2 : Nat) ^ 40 = 1099511627776 from rfl, show (2 : Nat) ^ 48 = 281474976710656 from rfl, show (2 : Nat) ^ 56 = 72057594037927936 from rfl] at k1 k2 k3 k4 k5 k6 k7
    simp only [show (8 : Nat) + 8 = 16 from rfl, show (16 : Nat) + 8 = 24 from rfl, show (24 : Nat) + 8 = 32 from rfl, show (32 : Nat) + 8 = 40 from rfl, show (40 : Nat) + 8 = 48 from rfl, show (48 : Nat) + 8 = 56 from rfl]
    rw [k1, k2, k3, k4, k5, k6, k7]
    try omega
  rw [e]
  have := pop_nat (a0 := n % 256) (a1 := n / 256 % 256) (a2 := n / 65536 % 256) (a3 := n / 16777216 % 256) (a4 := n / 4294967296 % 256) (a5 := n / 1099511627776 % 256) (a6 := n / 281474976710656 % 256) (a7 := n / 72057594037927936 % 256) (by omega) (by omega) (by omega) (by omega) (by omega) (by omega) (by omega) (by omega)
  rw [← hc] at this
  exact this
