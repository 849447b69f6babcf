theorem nf_bits (x : UInt32) : x &&& 0x7fffffff ≤ 0x7f800000 ↔ x.toNat % 2147483648 ≤ 2139095040 := by
  rw [UInt32.le_iff_toNat_le, UInt32.toNat_and, show (0x7fffffff : UInt32).toNat = 2 ^ 31 - 1 from rfl, show (0x7f800000 : UInt32).toNat = 2139095040 from rfl, Nat.and_two_pow_sub_one_eq_mod]
theorem nd_bits (x : UInt64) : x &&& 0x7fffffffffffffff ≤ 0x7ff0000000000000 ↔ x.toNat % 9223372036854775808 ≤ 9218868437227405312 := by
  rw [UInt64.le_iff_toNat_le, UInt64.toNat_and, show (0x7fffffffffffffff : UInt64).toNat = 2 ^ 63 - 1 from rfl, show (0x7ff0000000000000 : UInt64).toNat = 9218868437227405312 from rfl, Nat.and_two_pow_sub_one_eq_mod]
theorem nf_ok {x : UInt32} (h : FP.Core.fIsNaN x = false) : nfB x = true ∧ FP.fIsNaN x = false := by
  refine ⟨decide_eq_true ((nf_bits x).mpr ?_), h⟩
  rw [← Bool.not_eq_true, FP.Core.isNaN_bits32] at h
  omega
theorem f2d_core0 {r : UInt32} (h : FP.fIsNaN r = false) : FP.Core.dIsNaN (FP.f2d r) = false := by
  rw [show FP.Core.dIsNaN (FP.f2d r) = FP.Core.fIsNaN r from FP.f2d_nan r]
  exact h
theorem f2d_n64 {r : UInt32} (h : FP.fIsNaN r = false) : vf_n64 (FP.f2d r) := by
  have h2 := f2d_core0 h
  refine (nd_bits _).mpr ?_
  rw [← Bool.not_eq_true, FP.Core.isNaN_bits] at h2
  omega
theorem f2d_cmp {r : UInt32} (h : FP.fIsNaN r = false) : Op.cmpValue (FP.dcmp (FP.f2d r) (FP.f2d r)) .l = 0 := by
  rw [show FP.dcmp (FP.f2d r) (FP.f2d r) = some .eq from FP.Core.dcmp_refl (f2d_core0 h)]
  rfl
theorem div_ok (a b : Int32) (hb : b ≠ 0) : FP.Core.fIsNaN (FP.fdiv (FP.i2f a) (FP.i2f b)) = false := by
  have hz : ¬ FP.Core.FZero (FP.i2f b) := by
    rw [FP.Core.zero_bits232]
    exact FP.Core.i2f_ne_zero hb
  exact FP.Core.fdiv_out (FP.Core.i2f_fin a).notNaN (FP.Core.i2f_fin b) hz
theorem pv_4 (t : NT) (s d : Nat) : pv t 4 s d ≤ 1 := by
  unfold pv
  by_cases h : s ≠ d ∧ tR t s = true ∧ tR t d = true
  · rw [if_pos h, (v_def t s d).2.2.2.2.1]
    by_cases h2 : rs t d s (rl t d s) = d
    · rw [if_pos h2]; omega
    · rw [if_neg h2]; omega
  · rw [if_neg h]; omega
theorem tot_4 {t : NT} (ok : NetOK t) : tot t 4 < 2 ^ 30 := by
  have h49 := n49 ok
  have h1 : ∀ d, d < tN t → Td t 4 d ≤ 49 := fun d _ => by
    have : Td t 4 d ≤ tN t * 1 := fd_sum (k := 4) (by decide) (fun s _ => pv_4 t s d)
    omega
  have : tot t 4 ≤ tN t * 49 := fd_sum (k := 4) (by decide) h1
  omega
theorem st_mean {V : HS} {N : NS} (S : SS) {M : MS} (h : Rel V N M) : ∃ (r : UInt32) (S' : SS) (M' : MS), f_X2_mean V N S  = some (r, S') ∧ f_X3_mean M  = some (r, M') ∧ Rel V N M' ∧ FP.fIsNaN r = false := by
  obtain ⟨⟨t, ok, rN, rW⟩, hH⟩ := h
  obtain ⟨S', s1, s2⟩ := n_take_meas rN ok S
  obtain ⟨M', m1, m2, m3⟩ := m_lay_meas rW ok
  have hR : Rel V N M' := ⟨⟨t, ok, rN, by rw [m2.1]; exact rW⟩, RelH_congr m2.2.1 m2.2.2.1 m2.2.2.2.1 m2.2.2.2.2 hH⟩
  have h4 := tot_4 ok
  have k4 : f_X1_measured S' 4 = some (nI (tot t 4)) := by
    rw [← s2 4 (by omega)]
    exact n_meas (k := 4) (by omega)
  have k6 : f_X1_measured S' 6 = some (nI (tot t 6)) := by
    rw [← s2 6 (by omega)]
    exact n_meas (k := 6) (by omega)
  rw [f_X2_mean, f_X3_mean, s1, m1, Option.bind_some, Option.bind_some, k4, Option.bind_some, c4, c6, m3 4 (by omega), m3 6 (by omega)]
  by_cases h0 : tot t 4 = 0
  · rw [h0, if_neg (show ¬ (1 : Int32) ≤ nI 0 by decide), if_pos (show nI 0 = 0 from rfl)]
    exact ⟨_, _, _, rfl, rfl, hR, by decide⟩
  · have hn : nI (tot t 4) ≠ 0 := fun e => h0 ((nI_eq (b := 0) (by omega) (by omega)).mp e)
    have hf := nf_ok (div_ok (nI (tot t 6)) (nI (tot t 4)) hn)
    rw [if_pos (show (1 : Int32) ≤ nI (tot t 4) from nI_le (a := 1) (by omega) (by omega)), if_neg (show ¬ nI (tot t 4) = 0 from hn), k6, Option.bind_some, gd_t hf.1, gd_t hf.1]
    exact ⟨_, _, _, rfl, rfl, hR, hf.2⟩
