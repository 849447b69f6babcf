/-! ===== the mean as a float ===== -/
theorem fi_int {n : Nat} (h : n ≤ 2 ^ 24) : FP.Core.FInt (n : Int) (FP.i2f (nI n)) := by
  have e : (nI n).toInt = (n : Int) := nI_toInt (by omega)
  have := FP.Core.i2f_int (a := nI n) (by rw [e]; omega)
  rw [e] at this
  exact this
theorem fparts {n : Nat} (h0 : 0 < n) (h : n ≤ 2 ^ 24) : ∃ c q, FP.Core.val32 (FP.i2f (nI n)) = .fin false c q ∧ -149 ≤ q ∧ q ≤ 104 ∧ ∀ e : Int, e ≤ q → e ≤ 0 → FP.Core.inUnits c q e = n * 2 ^ (-e).toNat := by
  have hw : FP.Core.Whole (n : Int) (FP.Core.val32 (FP.i2f (nI n))) := fi_int h
  have hf := FP.Core.val32_fits (FP.i2f (nI n))
  cases hv : FP.Core.val32 (FP.i2f (nI n)) with
  | nan => rw [hv] at hw; exact hw.elim
  | inf s => rw [hv] at hw; exact hw.elim
  | fin s c q =>
    rw [hv] at hw hf
    obtain ⟨-, f1, f2, -⟩ := hf
    have f1 : -149 ≤ q := f1
    have f2 : q ≤ 104 := f2
    have hu : ∀ e : Int, e ≤ q → e ≤ 0 → FP.Core.signed s (FP.Core.inUnits c q e) = ((n * 2 ^ (-e).toNat : Nat) : Int) := by
      intro e h1 h2
      have := FP.Core.whole_units hw h1
      rw [show e.toNat = 0 by omega, Nat.pow_zero] at this
      rw [Int.natCast_mul, ← this]
      exact (Int.mul_one _).symm
    have hs : s = false := by
      cases s with
      | false => rfl
      | true =>
        have h1 := hu (min q 0) (by omega) (by omega)
        have h2 : 0 < n * 2 ^ (-(min q 0)).toNat := Nat.mul_pos h0 (Nat.two_pow_pos _)
        have h3 : FP.Core.signed true (FP.Core.inUnits c q (min q 0)) = -((FP.Core.inUnits c q (min q 0) : Nat) : Int) := rfl
        rw [h3] at h1
        omega
    subst hs
    refine ⟨c, q, rfl, f1, f2, fun e h1 h2 => ?_⟩
    have h3 := hu e h1 h2
    have h4 : FP.Core.signed false (FP.Core.inUnits c q e) = ((FP.Core.inUnits c q e : Nat) : Int) := rfl
    rw [h4] at h3
    exact Int.ofNat_inj.mp h3
theorem fdiv_parts {a b : Nat} (ha : 0 < a) (hb : 0 < b) (a24 : a ≤ 2 ^ 24) (b24 : b ≤ 2 ^ 24) : ∃ c d e, FP.Core.val32 (FP.fdiv (FP.i2f (nI a)) (FP.i2f (nI b))) = FP.Core.roundRatio FP.Core.b32 false c d e ∧ 0 < d ∧ ∀ e0 : Int, e0 ≤ -1000 → e0 ≤ e ∧ ∃ k, FP.Core.inUnits c e e0 = a * 2 ^ k ∧ d * 2 ^ (-149 - e0).toNat * FP.Core.one32 = b * 2 ^ k := by
  obtain ⟨c, q, ex, q1, q2, hx⟩ := fparts ha a24
  obtain ⟨d, r, ey, r1, r2, hy⟩ := fparts hb b24
  have hd : 0 < d := by
    rcases Nat.eq_zero_or_pos d with h | h
    · exfalso
      have h1 := hy (min r 0) (by omega) (by omega)
      have h2 : 0 < b * 2 ^ (-(min r 0)).toNat := Nat.mul_pos hb (Nat.two_pow_pos _)
      unfold FP.Core.inUnits at h1
      rw [h, Nat.zero_mul] at h1
      omega
    · exact h
  refine ⟨c, d, q - r, ?_, hd, fun e0 h0 => ⟨by omega, (-(r + e0)).toNat, ?_, ?_⟩⟩
  · rw [show FP.Core.val32 (FP.fdiv (FP.i2f (nI a)) (FP.i2f (nI b))) = FP.Core.quotient FP.Core.b32 (FP.Core.val32 (FP.i2f (nI a))) (FP.Core.val32 (FP.i2f (nI b))) from FP.Core.val32_fdiv _ _, ex, ey]
    show (if d = 0 then (if c = 0 then FP.Core.Datum.nan else .inf (false != false)) else FP.Core.roundRatio FP.Core.b32 (false != false) c d (q - r)) = _
    rw [if_neg (by omega)]
    rfl
  · have h1 := hx (r + e0) (by omega) (by omega)
    unfold FP.Core.inUnits at h1 ⊢
    rw [show q - r - e0 = q - (r + e0) by omega]
    exact h1
  · have h1 := hy (r + e0) (by omega) (by omega)
    unfold FP.Core.inUnits at h1
    unfold FP.Core.one32
    rw [Nat.mul_assoc, ← Nat.pow_add, show (-149 - e0).toNat + 149 = (r - (r + e0)).toNat by omega]
    exact h1
theorem fi_zmag {v : Nat} (h0 : 0 < v) (h : v ≤ 2 ^ 24) : FP.Core.zmag FP.Core.b32 (FP.Core.val32 (FP.i2f (nI v))) = v * FP.Core.one32 ∧ FP.Core.zval FP.Core.b32 (FP.Core.val32 (FP.i2f (nI v))) = ((v * FP.Core.one32 : Nat) : Int) := by
  obtain ⟨c, q, ex, -, -, -⟩ := fparts h0 h
  have hz := FP.Core.FInt_zval (fi_int h)
  rw [← Int.natCast_mul] at hz
  refine ⟨?_, hz⟩
  rw [ex] at hz ⊢
  have e : FP.Core.zval FP.Core.b32 (.fin false c q) = ((FP.Core.zmag FP.Core.b32 (.fin false c q) : Nat) : Int) := rfl
  rw [e] at hz
  exact Int.ofNat_inj.mp hz
theorem qmin32 : FP.Core.Fmt.qmin FP.Core.b32 = -149 := by decide
theorem fq_nan {a b : Nat} (ha : 0 < a) (hb : 0 < b) (a24 : a ≤ 2 ^ 24) (b24 : b ≤ 2 ^ 24) : FP.Core.val32 (FP.fdiv (FP.i2f (nI a)) (FP.i2f (nI b))) ≠ .nan ∧ FP.Core.zval FP.Core.b32 (FP.Core.val32 (FP.fdiv (FP.i2f (nI a)) (FP.i2f (nI b)))) = ((FP.Core.zmag FP.Core.b32 (FP.Core.val32 (FP.fdiv (FP.i2f (nI a)) (FP.i2f (nI b)))) : Nat) : Int) := by
  obtain ⟨c, d, e, hF, -, -⟩ := fdiv_parts ha hb a24 b24
  rw [hF]
  rcases FP.Core.roundRatio_cases FP.Core.b32 false c d e with ⟨c', q', h⟩ | h
  · rw [h]; exact ⟨fun h => (by cases h), rfl⟩
  · rw [h]; exact ⟨fun h => (by cases h), rfl⟩
theorem fq_ge {a b v : Nat} (ha : 0 < a) (hb : 0 < b) (hv : 0 < v) (a24 : a ≤ 2 ^ 24) (b24 : b ≤ 2 ^ 24) (v24 : v ≤ 2 ^ 24) (h : v * b ≤ a) : FP.fcmp (FP.fdiv (FP.i2f (nI a)) (FP.i2f (nI b))) (FP.i2f (nI v)) = some .gt ∨ FP.fcmp (FP.fdiv (FP.i2f (nI a)) (FP.i2f (nI b))) (FP.i2f (nI v)) = some .eq := by
  obtain ⟨n1, n2⟩ := fq_nan ha hb a24 b24
  obtain ⟨z1, z2⟩ := fi_zmag hv v24
  refine FP.Core.fcmp_ge.mpr ⟨n1, FP.Core.FInt_ne_nan (fi_int v24), ?_⟩
  refine Int.le_trans (Int.le_of_eq z2) (Int.le_trans (Int.ofNat_le.mpr ?_) (Int.le_of_eq n2.symm))
  obtain ⟨c, d, e, hF, hd, hk⟩ := fdiv_parts ha hb a24 b24
  obtain ⟨e1, k, k1, k2⟩ := hk (-1000) (by omega)
  rw [hF, ← z1]
  refine FP.Core.zmag_roundRatio_ge FP.Core.good_b32 (e0 := -1000) hd (FP.Core.val32_fits _) (by rw [qmin32]; omega) e1 ?_
  rw [z1, k1, qmin32]
  have e2 : v * FP.Core.one32 * 2 ^ (-149 - (-1000) : Int).toNat * d = v * (d * 2 ^ (-149 - (-1000) : Int).toNat * FP.Core.one32) := by
    generalize 2 ^ (-149 - (-1000) : Int).toNat = p
    generalize FP.Core.one32 = o
    ac_rfl
  rw [e2, k2, ← Nat.mul_assoc]
  exact Nat.mul_le_mul_right _ h
theorem fq_le {a b v : Nat} (ha : 0 < a) (hb : 0 < b) (hv : 0 < v) (a24 : a ≤ 2 ^ 24) (b24 : b ≤ 2 ^ 24) (v24 : v ≤ 2 ^ 24) (h : a ≤ v * b) : FP.fcmp (FP.fdiv (FP.i2f (nI a)) (FP.i2f (nI b))) (FP.i2f (nI v)) = some .lt ∨ FP.fcmp (FP.fdiv (FP.i2f (nI a)) (FP.i2f (nI b))) (FP.i2f (nI v)) = some .eq := by
  obtain ⟨n1, n2⟩ := fq_nan ha hb a24 b24
  obtain ⟨z1, z2⟩ := fi_zmag hv v24
  refine FP.Core.fcmp_le.mpr ⟨n1, FP.Core.FInt_ne_nan (fi_int v24), ?_⟩
  refine Int.le_trans (Int.le_of_eq n2) (Int.le_trans (Int.ofNat_le.mpr ?_) (Int.le_of_eq z2.symm))
  obtain ⟨c, d, e, hF, hd, hk⟩ := fdiv_parts ha hb a24 b24
  obtain ⟨e1, k, k1, k2⟩ := hk (-1000) (by omega)
  rw [hF, ← z1]
  refine FP.Core.zmag_roundRatio_le FP.Core.good_b32 (e0 := -1000) hd (FP.Core.val32_fits _) (FP.Core.FInt_ne_nan (fi_int v24)) (by rw [qmin32]; omega) e1 ?_
  rw [z1, k1, qmin32]
  have e2 : v * FP.Core.one32 * 2 ^ (-149 - (-1000) : Int).toNat * d = v * (d * 2 ^ (-149 - (-1000) : Int).toNat * FP.Core.one32) := by
    generalize 2 ^ (-149 - (-1000) : Int).toNat = p
    generalize FP.Core.one32 = o
    ac_rfl
  rw [e2, k2, ← Nat.mul_assoc]
  exact Nat.mul_le_mul_right _ h
theorem fone : FP.fconst1 = FP.i2f (nI 1) := by decide +kernel
theorem mean_ge {a b : Nat} (hb : 0 < b) (a24 : a ≤ 2 ^ 24) (h : b ≤ a) : ¬ Op.cmpValue (FP.fcmp (FP.fdiv (FP.i2f (nI a)) (FP.i2f (nI b))) FP.fconst1) .l < 0 := by
  rw [fone]
  rcases fq_ge (v := 1) (show 0 < a by omega) hb (by omega) a24 (by omega) (by omega) (by omega) with e | e
  · rw [e]; decide
  · rw [e]; decide
theorem mean_le {a b m : Nat} (ha : 0 < a) (hb : 0 < b) (hm : 0 < m) (a24 : a ≤ 2 ^ 24) (b24 : b ≤ 2 ^ 24) (m24 : m ≤ 2 ^ 24) (h : a ≤ m * b) : ¬ 0 < Op.cmpValue (FP.fcmp (FP.fdiv (FP.i2f (nI a)) (FP.i2f (nI b))) (FP.i2f (nI m))) .g := by
  rcases fq_le ha hb hm a24 b24 m24 h with e | e
  · rw [e]; decide
  · rw [e]; decide
theorem zero_cmp : Op.cmpValue (FP.fcmp (0 : UInt32) 0) .l = 0 := by decide +kernel
