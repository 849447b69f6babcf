set_option maxRecDepth 100000 in
set_option maxHeartbeats 4000000 in
theorem c_L_low (l : Launch) (D : va_G) (cI cJ cN : ClassId)   (x0 : Int32) (x1 : Int32) (z : Int32) (hf : f_L_low x0 x1 = some z) : MI l D cI cJ cN yL_low (WS yL_low cL_low 2 (some .int)) { frames := 0, cells := 0, slots := 0, locals := 0 } [.int x0, .int x1] ([]) z (fun w => w = []) := by
  rw [f_L_low] at hf
  refine q_startI (lv := [(0, .int x0), (1, .int x1)]) (by decide +kernel) rfl (Nat.le_of_ble_eq_true rfl) ?_
  intro p e s m below meth c C hin
  refine q_iload_n C dL_low_0 rfl 0 rfl ?_
  refine q_ldc (v := (2147483647)) C (ws_in xk_L_8) dL_low_1 ?_
  refine q_iand C dL_low_3 ?_
  refine q_iload_n C dL_low_4 rfl 1 rfl ?_
  obtain ⟨hg, hf⟩ := gd_some hf
  refine q_irem C dL_low_5 hg ?_
  have hf := Option.some.inj hf
  subst hf
  exact q_iret C (Nat.le_of_ble_eq_true rfl) (Nat.le_of_ble_eq_true rfl) rfl dL_low_6
set_option maxRecDepth 100000 in
set_option maxHeartbeats 4000000 in
theorem c_L_change (l : Launch) (D : va_G) (cI cJ cN : ClassId) (x0 p0 i0 n0 n1 n2 n3 n4 n5 n6 s0 s1 s2 s3 s4 s5 s6 : Nat) (rp ri : Nat → Option Nat) (pl : va_W)  (V : HS) (N : NS) (S : SS) (x1 : Int32) (x2 : Int32) (z : Int32 × HS × NS × SS) (hpool : PoolOK cI V rp ri pl) (hf : f_L_change V N S x1 x2 = some z) : MI l D cI cJ cN yL_change (WS yL_change cL_change 6 (some .int)) { frames := 7, cells := 7, slots := 356, locals := 165 } [.ref x0, .int x1, .int x2] (wXX cI cJ cN x0 p0 i0 n0 n1 n2 n3 n4 n5 n6 s0 s1 s2 s3 s4 s5 s6 rp ri pl V N S) z.1 (XP cI cJ cN x0 p0 i0 n0 n1 n2 n3 n4 n5 n6 s0 s1 s2 s3 s4 s5 s6 z.2.1 z.2.2.1 z.2.2.2) := by
  rw [f_L_change] at hf
  refine q_startI (lv := [(0, .ref x0), (1, .int x1), (2, .int x2)]) (by decide +kernel) rfl (Nat.le_of_ble_eq_true rfl) ?_
  intro p e s m below meth c C hin
  refine q_aload_n C dL_change_0 rfl 0 rfl ?_
  refine q_iconst (v := 0) C dL_change_1 (by decide) ?_
  obtain ⟨z1, h_z1, hf⟩ := bnd hf
  refine q_cVIw C (c_X2_told l D cI cJ cN x0 p0 i0 n0 n1 n2 n3 n4 n5 n6 s0 s1 s2 s3 s4 s5 s6 rp ri pl V N S (0 : Int32) z1 h_z1) (mkV (fr := 3) (lo := 66) C xc_X2_told xm_L_9 xi_X2_told xe_X2_told xn_X2 hd_X2_told ⟨Nat.le_of_ble_eq_true rfl, Nat.le_of_ble_eq_true rfl⟩) 0 rfl rfl rfl rfl (Nat.le_of_ble_eq_true rfl) dL_change_2 ⟨Nat.le_of_ble_eq_true rfl, Nat.le_of_ble_eq_true rfl⟩ (fun w1 hp1 => ?_)
  subst hp1
  refine q_istore_n (lv' := [(3, .int z1), (0, .ref x0), (1, .int x1), (2, .int x2)]) C dL_change_5 rfl (by decide) rfl ?_
  refine q_iload_n C dL_change_6 rfl 2 rfl ?_
  refine q_iconst (v := 5) C dL_change_7 (by decide) ?_
  refine q_ishr C dL_change_8 ?_
  refine q_iload_n C dL_change_9 rfl 0 rfl ?_
  obtain ⟨z2, h_z2, hf⟩ := bnd hf
  refine q_cSI (ws' := wXX cI cJ cN x0 p0 i0 n0 n1 n2 n3 n4 n5 n6 s0 s1 s2 s3 s4 s5 s6 rp ri pl V N S) C (c_L_low l D cI cJ cN (x1 >>> ((5 : Int32) &&& 31)) z1 z2 h_z2) (mkS (fr := 0) (lo := 0) C xc_L_low xm_L_15 xs_L_low xn_L hd_L_low ⟨Nat.le_of_ble_eq_true rfl, Nat.le_of_ble_eq_true rfl⟩) [] rfl (by decide) rfl rfl rfl rfl (Nat.le_of_ble_eq_true rfl) dL_change_10 ⟨Nat.le_of_ble_eq_true rfl, Nat.le_of_ble_eq_true rfl⟩ ?_
  refine q_istore (lv' := [(4, .int z2), (3, .int z1), (0, .ref x0), (1, .int x1), (2, .int x2)]) C dL_change_13 (by decide) rfl ?_
  refine q_iload_n C dL_change_15 rfl 3 rfl ?_
  refine q_bipush (v := 12) C dL_change_16 (by decide) ?_
  refine q_ishr C dL_change_18 ?_
  refine q_iload_n C dL_change_19 rfl 1 rfl ?_
  obtain ⟨z3, h_z3, hf⟩ := bnd hf
  refine q_cSI (ws' := wXX cI cJ cN x0 p0 i0 n0 n1 n2 n3 n4 n5 n6 s0 s1 s2 s3 s4 s5 s6 rp ri pl V N S) C (c_L_low l D cI cJ cN (x1 >>> ((12 : Int32) &&& 31)) z1 z3 h_z3) (mkS (fr := 0) (lo := 0) C xc_L_low xm_L_15 xs_L_low xn_L hd_L_low ⟨Nat.le_of_ble_eq_true rfl, Nat.le_of_ble_eq_true rfl⟩) [] rfl (by decide) rfl rfl rfl rfl (Nat.le_of_ble_eq_true rfl) dL_change_20 ⟨Nat.le_of_ble_eq_true rfl, Nat.le_of_ble_eq_true rfl⟩ ?_
  refine q_istore (lv' := [(5, .int z3), (4, .int z2), (3, .int z1), (0, .ref x0), (1, .int x1), (2, .int x2)]) C dL_change_23 (by decide) rfl ?_
  refine q_iload_n C dL_change_25 rfl 4 rfl ?_
  refine q_bipush (v := 18) C dL_change_26 (by decide) ?_
  obtain ⟨z4, h_z4, hf⟩ := bnd hf
  refine q_cSI (ws' := wXX cI cJ cN x0 p0 i0 n0 n1 n2 n3 n4 n5 n6 s0 s1 s2 s3 s4 s5 s6 rp ri pl V N S) C (c_L_low l D cI cJ cN x1 (18 : Int32) z4 h_z4) (mkS (fr := 0) (lo := 0) C xc_L_low xm_L_15 xs_L_low xn_L hd_L_low ⟨Nat.le_of_ble_eq_true rfl, Nat.le_of_ble_eq_true rfl⟩) [] rfl (by decide) rfl rfl rfl rfl (Nat.le_of_ble_eq_true rfl) dL_change_28 ⟨Nat.le_of_ble_eq_true rfl, Nat.le_of_ble_eq_true rfl⟩ ?_
  by_cases h0 : z4 = (0 : Int32)
  · have hf := ifT hf h0
    refine q_tableIn (off := 77) C 108 dL_change_31 (by rw [h0]; decide) (by rw [h0]; decide) (by first | (rw [h0]; done) | (rw [h0]; decide)) (by decide) ?_
    refine q_iload_n C dL_change_108 rfl 5 rfl ?_
    refine q_iconst (v := 4) C dL_change_109 (by decide) ?_
    obtain ⟨z5, h_z5, hf⟩ := bnd hf
    refine q_cSI (ws' := wXX cI cJ cN x0 p0 i0 n0 n1 n2 n3 n4 n5 n6 s0 s1 s2 s3 s4 s5 s6 rp ri pl V N S) C (c_L_low l D cI cJ cN x2 (4 : Int32) z5 h_z5) (mkS (fr := 0) (lo := 0) C xc_L_low xm_L_15 xs_L_low xn_L hd_L_low ⟨Nat.le_of_ble_eq_true rfl, Nat.le_of_ble_eq_true rfl⟩) [] rfl (by decide) rfl rfl rfl rfl (Nat.le_of_ble_eq_true rfl) dL_change_110 ⟨Nat.le_of_ble_eq_true rfl, Nat.le_of_ble_eq_true rfl⟩ ?_
    refine q_if_ne C 143 dL_change_113 (by decide) (fun h => ?_) (fun h => ?_)
    · have hf := ifF hf h
      refine q_bipush (v := -9) C dL_change_143 (by decide) ?_
      have hf := Option.some.inj hf
      subst hf
      exact q_iret C (Nat.le_of_ble_eq_true rfl) (Nat.le_of_ble_eq_true rfl) ⟨_, _, _, hpool, rfl⟩ dL_change_145
    · have hf := ifT hf h
      refine q_aload_n C dL_change_116 rfl 3 rfl ?_
      refine q_iconst (v := 1) C dL_change_117 (by decide) ?_
      refine q_iload_n C dL_change_118 rfl 5 rfl ?_
      refine q_iconst (v := 2) C dL_change_119 (by decide) ?_
      refine q_ishr C dL_change_120 ?_
      refine q_bipush (v := 7) C dL_change_121 (by decide) ?_
      obtain ⟨z6, h_z6, hf⟩ := bnd hf
      refine q_cSI (ws' := wXX cI cJ cN x0 p0 i0 n0 n1 n2 n3 n4 n5 n6 s0 s1 s2 s3 s4 s5 s6 rp ri pl V N S) C (c_L_low l D cI cJ cN (x2 >>> ((2 : Int32) &&& 31)) (7 : Int32) z6 h_z6) (mkS (fr := 0) (lo := 0) C xc_L_low xm_L_15 xs_L_low xn_L hd_L_low ⟨Nat.le_of_ble_eq_true rfl, Nat.le_of_ble_eq_true rfl⟩) [] rfl (by decide) rfl rfl rfl rfl (Nat.le_of_ble_eq_true rfl) dL_change_123 ⟨Nat.le_of_ble_eq_true rfl, Nat.le_of_ble_eq_true rfl⟩ ?_
      refine q_iadd C dL_change_126 ?_
      refine q_iconst (v := 1) C dL_change_127 (by decide) ?_
      refine q_iload_n C dL_change_128 rfl 5 rfl ?_
      refine q_iconst (v := 5) C dL_change_129 (by decide) ?_
      refine q_ishr C dL_change_130 ?_
      refine q_bipush (v := 7) C dL_change_131 (by decide) ?_
      obtain ⟨z7, h_z7, hf⟩ := bnd hf
      refine q_cSI (ws' := wXX cI cJ cN x0 p0 i0 n0 n1 n2 n3 n4 n5 n6 s0 s1 s2 s3 s4 s5 s6 rp ri pl V N S) C (c_L_low l D cI cJ cN (x2 >>> ((5 : Int32) &&& 31)) (7 : Int32) z7 h_z7) (mkS (fr := 0) (lo := 0) C xc_L_low xm_L_15 xs_L_low xn_L hd_L_low ⟨Nat.le_of_ble_eq_true rfl, Nat.le_of_ble_eq_true rfl⟩) [] rfl (by decide) rfl rfl rfl rfl (Nat.le_of_ble_eq_true rfl) dL_change_133 ⟨Nat.le_of_ble_eq_true rfl, Nat.le_of_ble_eq_true rfl⟩ ?_
      refine q_iadd C dL_change_136 ?_
      obtain ⟨z8, h_z8, hf⟩ := bnd hf
      refine q_cVIw C (c_X2_begin l D cI cJ cN x0 p0 i0 n0 n1 n2 n3 n4 n5 n6 s0 s1 s2 s3 s4 s5 s6 rp ri pl V N S ((1 : Int32) + z6) ((1 : Int32) + z7) z8 hpool h_z8) (mkV (fr := 6) (lo := 132) C xc_X2_begin xm_L_21 xi_X2_begin xe_X2_begin xn_X2 hd_X2_begin ⟨Nat.le_of_ble_eq_true rfl, Nat.le_of_ble_eq_true rfl⟩) 0 rfl rfl rfl rfl (Nat.le_of_ble_eq_true rfl) dL_change_137 ⟨Nat.le_of_ble_eq_true rfl, Nat.le_of_ble_eq_true rfl⟩ (fun w1 hp1 => ?_)
      obtain ⟨rp1, ri1, pl1, hpool, rfl⟩ := hp1
      refine q_goto C 145 dL_change_140 (by decide) ?_
      have hf := Option.some.inj hf
      subst hf
      exact q_iret C (Nat.le_of_ble_eq_true rfl) (Nat.le_of_ble_eq_true rfl) ⟨_, _, _, hpool, rfl⟩ dL_change_145
  · have hf := ifF hf h0
    by_cases h1 : z4 = (1 : Int32)
    · have hf := ifT hf h1
      refine q_tableIn (off := 115) C 146 dL_change_31 (by rw [h1]; decide) (by rw [h1]; decide) (by first | (rw [h1]; done) | (rw [h1]; decide)) (by decide) ?_
      refine q_aload_n C dL_change_146 rfl 3 rfl ?_
      refine q_iload C dL_change_147 1 rfl ?_
      refine q_iload C dL_change_149 0 rfl ?_
      obtain ⟨z9, h_z9, hf⟩ := bnd hf
      refine q_cVIw C (c_X2_link l D cI cJ cN x0 p0 i0 n0 n1 n2 n3 n4 n5 n6 s0 s1 s2 s3 s4 s5 s6 rp ri pl V N S z2 z3 z9 hpool h_z9) (mkV (fr := 6) (lo := 132) C xc_X2_link xm_L_24 xi_X2_link xe_X2_link xn_X2 hd_X2_link ⟨Nat.le_of_ble_eq_true rfl, Nat.le_of_ble_eq_true rfl⟩) 0 rfl rfl rfl rfl (Nat.le_of_ble_eq_true rfl) dL_change_151 ⟨Nat.le_of_ble_eq_true rfl, Nat.le_of_ble_eq_true rfl⟩ (fun w1 hp1 => ?_)
      obtain ⟨rp1, ri1, pl1, hpool, rfl⟩ := hp1
      have hf := Option.some.inj hf
      subst hf
      exact q_iret C (Nat.le_of_ble_eq_true rfl) (Nat.le_of_ble_eq_true rfl) ⟨_, _, _, hpool, rfl⟩ dL_change_154
    · have hf := ifF hf h1
      by_cases h2 : z4 = (2 : Int32)
      · have hf := ifT hf h2
        refine q_tableIn (off := 115) C 146 dL_change_31 (by rw [h2]; decide) (by rw [h2]; decide) (by first | (rw [h2]; done) | (rw [h2]; decide)) (by decide) ?_
        refine q_aload_n C dL_change_146 rfl 3 rfl ?_
        refine q_iload C dL_change_147 1 rfl ?_
        refine q_iload C dL_change_149 0 rfl ?_
        obtain ⟨z10, h_z10, hf⟩ := bnd hf
        refine q_cVIw C (c_X2_link l D cI cJ cN x0 p0 i0 n0 n1 n2 n3 n4 n5 n6 s0 s1 s2 s3 s4 s5 s6 rp ri pl V N S z2 z3 z10 hpool h_z10) (mkV (fr := 6) (lo := 132) C xc_X2_link xm_L_24 xi_X2_link xe_X2_link xn_X2 hd_X2_link ⟨Nat.le_of_ble_eq_true rfl, Nat.le_of_ble_eq_true rfl⟩) 0 rfl rfl rfl rfl (Nat.le_of_ble_eq_true rfl) dL_change_151 ⟨Nat.le_of_ble_eq_true rfl, Nat.le_of_ble_eq_true rfl⟩ (fun w1 hp1 => ?_)
        obtain ⟨rp1, ri1, pl1, hpool, rfl⟩ := hp1
        have hf := Option.some.inj hf
        subst hf
        exact q_iret C (Nat.le_of_ble_eq_true rfl) (Nat.le_of_ble_eq_true rfl) ⟨_, _, _, hpool, rfl⟩ dL_change_154
      · have hf := ifF hf h2
        by_cases h3 : z4 = (3 : Int32)
        · have hf := ifT hf h3
          refine q_tableIn (off := 115) C 146 dL_change_31 (by rw [h3]; decide) (by rw [h3]; decide) (by first | (rw [h3]; done) | (rw [h3]; decide)) (by decide) ?_
          refine q_aload_n C dL_change_146 rfl 3 rfl ?_
          refine q_iload C dL_change_147 1 rfl ?_
          refine q_iload C dL_change_149 0 rfl ?_
          obtain ⟨z11, h_z11, hf⟩ := bnd hf
          refine q_cVIw C (c_X2_link l D cI cJ cN x0 p0 i0 n0 n1 n2 n3 n4 n5 n6 s0 s1 s2 s3 s4 s5 s6 rp ri pl V N S z2 z3 z11 hpool h_z11) (mkV (fr := 6) (lo := 132) C xc_X2_link xm_L_24 xi_X2_link xe_X2_link xn_X2 hd_X2_link ⟨Nat.le_of_ble_eq_true rfl, Nat.le_of_ble_eq_true rfl⟩) 0 rfl rfl rfl rfl (Nat.le_of_ble_eq_true rfl) dL_change_151 ⟨Nat.le_of_ble_eq_true rfl, Nat.le_of_ble_eq_true rfl⟩ (fun w1 hp1 => ?_)
          obtain ⟨rp1, ri1, pl1, hpool, rfl⟩ := hp1
          have hf := Option.some.inj hf
          subst hf
          exact q_iret C (Nat.le_of_ble_eq_true rfl) (Nat.le_of_ble_eq_true rfl) ⟨_, _, _, hpool, rfl⟩ dL_change_154
        · have hf := ifF hf h3
          by_cases h4 : z4 = (4 : Int32)
          · have hf := ifT hf h4
            refine q_tableIn (off := 124) C 155 dL_change_31 (by rw [h4]; decide) (by rw [h4]; decide) (by first | (rw [h4]; done) | (rw [h4]; decide)) (by decide) ?_
            refine q_aload_n C dL_change_155 rfl 3 rfl ?_
            refine q_iload C dL_change_156 1 rfl ?_
            refine q_iload_n C dL_change_158 rfl 5 rfl ?_
            refine q_iconst (v := 3) C dL_change_159 (by decide) ?_
            obtain ⟨z12, h_z12, hf⟩ := bnd hf
            refine q_cSI (ws' := wXX cI cJ cN x0 p0 i0 n0 n1 n2 n3 n4 n5 n6 s0 s1 s2 s3 s4 s5 s6 rp ri pl V N S) C (c_L_low l D cI cJ cN x2 (3 : Int32) z12 h_z12) (mkS (fr := 0) (lo := 0) C xc_L_low xm_L_15 xs_L_low xn_L hd_L_low ⟨Nat.le_of_ble_eq_true rfl, Nat.le_of_ble_eq_true rfl⟩) [] rfl (by decide) rfl rfl rfl rfl (Nat.le_of_ble_eq_true rfl) dL_change_160 ⟨Nat.le_of_ble_eq_true rfl, Nat.le_of_ble_eq_true rfl⟩ ?_
            obtain ⟨z13, h_z13, hf⟩ := bnd hf
            refine q_cVIw C (c_X2_unlink l D cI cJ cN x0 p0 i0 n0 n1 n2 n3 n4 n5 n6 s0 s1 s2 s3 s4 s5 s6 rp ri pl V N S z2 z12 z13 hpool h_z13) (mkV (fr := 6) (lo := 132) C xc_X2_unlink xm_L_27 xi_X2_unlink xe_X2_unlink xn_X2 hd_X2_unlink ⟨Nat.le_of_ble_eq_true rfl, Nat.le_of_ble_eq_true rfl⟩) 0 rfl rfl rfl rfl (Nat.le_of_ble_eq_true rfl) dL_change_163 ⟨Nat.le_of_ble_eq_true rfl, Nat.le_of_ble_eq_true rfl⟩ (fun w1 hp1 => ?_)
            obtain ⟨rp1, ri1, pl1, hpool, rfl⟩ := hp1
            have hf := Option.some.inj hf
            subst hf
            exact q_iret C (Nat.le_of_ble_eq_true rfl) (Nat.le_of_ble_eq_true rfl) ⟨_, _, _, hpool, rfl⟩ dL_change_166
          · have hf := ifF hf h4
            by_cases h5 : z4 = (5 : Int32)
            · have hf := ifT hf h5
              refine q_tableIn (off := 136) C 167 dL_change_31 (by rw [h5]; decide) (by rw [h5]; decide) (by first | (rw [h5]; done) | (rw [h5]; decide)) (by decide) ?_
              refine q_aload_n C dL_change_167 rfl 3 rfl ?_
              refine q_iload C dL_change_168 1 rfl ?_
              refine q_iload_n C dL_change_170 rfl 5 rfl ?_
              refine q_iconst (v := 3) C dL_change_171 (by decide) ?_
              obtain ⟨z14, h_z14, hf⟩ := bnd hf
              refine q_cSI (ws' := wXX cI cJ cN x0 p0 i0 n0 n1 n2 n3 n4 n5 n6 s0 s1 s2 s3 s4 s5 s6 rp ri pl V N S) C (c_L_low l D cI cJ cN x2 (3 : Int32) z14 h_z14) (mkS (fr := 0) (lo := 0) C xc_L_low xm_L_15 xs_L_low xn_L hd_L_low ⟨Nat.le_of_ble_eq_true rfl, Nat.le_of_ble_eq_true rfl⟩) [] rfl (by decide) rfl rfl rfl rfl (Nat.le_of_ble_eq_true rfl) dL_change_172 ⟨Nat.le_of_ble_eq_true rfl, Nat.le_of_ble_eq_true rfl⟩ ?_
              obtain ⟨z15, h_z15, hf⟩ := bnd hf
              refine q_cVIw C (c_X2_drawLink l D cI cJ cN x0 p0 i0 n0 n1 n2 n3 n4 n5 n6 s0 s1 s2 s3 s4 s5 s6 rp ri pl V N S z2 z14 z15 hpool h_z15) (mkV (fr := 6) (lo := 132) C xc_X2_drawLink xm_L_30 xi_X2_drawLink xe_X2_drawLink xn_X2 hd_X2_drawLink ⟨Nat.le_of_ble_eq_true rfl, Nat.le_of_ble_eq_true rfl⟩) 0 rfl rfl rfl rfl (Nat.le_of_ble_eq_true rfl) dL_change_175 ⟨Nat.le_of_ble_eq_true rfl, Nat.le_of_ble_eq_true rfl⟩ (fun w1 hp1 => ?_)
              obtain ⟨rp1, ri1, pl1, hpool, rfl⟩ := hp1
              have hf := Option.some.inj hf
              subst hf
              exact q_iret C (Nat.le_of_ble_eq_true rfl) (Nat.le_of_ble_eq_true rfl) ⟨_, _, _, hpool, rfl⟩ dL_change_178
            · have hf := ifF hf h5
              by_cases h6 : z4 = (6 : Int32)
              · have hf := ifT hf h6
                refine q_tableIn (off := 136) C 167 dL_change_31 (by rw [h6]; decide) (by rw [h6]; decide) (by first | (rw [h6]; done) | (rw [h6]; decide)) (by decide) ?_
                refine q_aload_n C dL_change_167 rfl 3 rfl ?_
                refine q_iload C dL_change_168 1 rfl ?_
                refine q_iload_n C dL_change_170 rfl 5 rfl ?_
                refine q_iconst (v := 3) C dL_change_171 (by decide) ?_
                obtain ⟨z16, h_z16, hf⟩ := bnd hf
                refine q_cSI (ws' := wXX cI cJ cN x0 p0 i0 n0 n1 n2 n3 n4 n5 n6 s0 s1 s2 s3 s4 s5 s6 rp ri pl V N S) C (c_L_low l D cI cJ cN x2 (3 : Int32) z16 h_z16) (mkS (fr := 0) (lo := 0) C xc_L_low xm_L_15 xs_L_low xn_L hd_L_low ⟨Nat.le_of_ble_eq_true rfl, Nat.le_of_ble_eq_true rfl⟩) [] rfl (by decide) rfl rfl rfl rfl (Nat.le_of_ble_eq_true rfl) dL_change_172 ⟨Nat.le_of_ble_eq_true rfl, Nat.le_of_ble_eq_true rfl⟩ ?_
                obtain ⟨z17, h_z17, hf⟩ := bnd hf
                refine q_cVIw C (c_X2_drawLink l D cI cJ cN x0 p0 i0 n0 n1 n2 n3 n4 n5 n6 s0 s1 s2 s3 s4 s5 s6 rp ri pl V N S z2 z16 z17 hpool h_z17) (mkV (fr := 6) (lo := 132) C xc_X2_drawLink xm_L_30 xi_X2_drawLink xe_X2_drawLink xn_X2 hd_X2_drawLink ⟨Nat.le_of_ble_eq_true rfl, Nat.le_of_ble_eq_true rfl⟩) 0 rfl rfl rfl rfl (Nat.le_of_ble_eq_true rfl) dL_change_175 ⟨Nat.le_of_ble_eq_true rfl, Nat.le_of_ble_eq_true rfl⟩ (fun w1 hp1 => ?_)
                obtain ⟨rp1, ri1, pl1, hpool, rfl⟩ := hp1
                have hf := Option.some.inj hf
                subst hf
                exact q_iret C (Nat.le_of_ble_eq_true rfl) (Nat.le_of_ble_eq_true rfl) ⟨_, _, _, hpool, rfl⟩ dL_change_178
              · have hf := ifF hf h6
                by_cases h7 : z4 = (7 : Int32)
                · have hf := ifT hf h7
                  refine q_tableIn (off := 136) C 167 dL_change_31 (by rw [h7]; decide) (by rw [h7]; decide) (by first | (rw [h7]; done) | (rw [h7]; decide)) (by decide) ?_
                  refine q_aload_n C dL_change_167 rfl 3 rfl ?_
                  refine q_iload C dL_change_168 1 rfl ?_
                  refine q_iload_n C dL_change_170 rfl 5 rfl ?_
                  refine q_iconst (v := 3) C dL_change_171 (by decide) ?_
                  obtain ⟨z18, h_z18, hf⟩ := bnd hf
                  refine q_cSI (ws' := wXX cI cJ cN x0 p0 i0 n0 n1 n2 n3 n4 n5 n6 s0 s1 s2 s3 s4 s5 s6 rp ri pl V N S) C (c_L_low l D cI cJ cN x2 (3 : Int32) z18 h_z18) (mkS (fr := 0) (lo := 0) C xc_L_low xm_L_15 xs_L_low xn_L hd_L_low ⟨Nat.le_of_ble_eq_true rfl, Nat.le_of_ble_eq_true rfl⟩) [] rfl (by decide) rfl rfl rfl rfl (Nat.le_of_ble_eq_true rfl) dL_change_172 ⟨Nat.le_of_ble_eq_true rfl, Nat.le_of_ble_eq_true rfl⟩ ?_
                  obtain ⟨z19, h_z19, hf⟩ := bnd hf
                  refine q_cVIw C (c_X2_drawLink l D cI cJ cN x0 p0 i0 n0 n1 n2 n3 n4 n5 n6 s0 s1 s2 s3 s4 s5 s6 rp ri pl V N S z2 z18 z19 hpool h_z19) (mkV (fr := 6) (lo := 132) C xc_X2_drawLink xm_L_30 xi_X2_drawLink xe_X2_drawLink xn_X2 hd_X2_drawLink ⟨Nat.le_of_ble_eq_true rfl, Nat.le_of_ble_eq_true rfl⟩) 0 rfl rfl rfl rfl (Nat.le_of_ble_eq_true rfl) dL_change_175 ⟨Nat.le_of_ble_eq_true rfl, Nat.le_of_ble_eq_true rfl⟩ (fun w1 hp1 => ?_)
                  obtain ⟨rp1, ri1, pl1, hpool, rfl⟩ := hp1
                  have hf := Option.some.inj hf
                  subst hf
                  exact q_iret C (Nat.le_of_ble_eq_true rfl) (Nat.le_of_ble_eq_true rfl) ⟨_, _, _, hpool, rfl⟩ dL_change_178
                · have hf := ifF hf h7
                  by_cases h8 : z4 = (8 : Int32)
                  · have hf := ifT hf h8
                    refine q_tableIn (off := 148) C 179 dL_change_31 (by rw [h8]; decide) (by rw [h8]; decide) (by first | (rw [h8]; done) | (rw [h8]; decide)) (by decide) ?_
                    refine q_aload_n C dL_change_179 rfl 3 rfl ?_
                    refine q_iload C dL_change_180 1 rfl ?_
                    refine q_iload C dL_change_182 0 rfl ?_
                    obtain ⟨z20, h_z20, hf⟩ := bnd hf
                    refine q_cVIw C (c_X2_seek l D cI cJ cN x0 p0 i0 n0 n1 n2 n3 n4 n5 n6 s0 s1 s2 s3 s4 s5 s6 rp ri pl V N S z2 z3 z20 hpool h_z20) (mkV (fr := 6) (lo := 140) C xc_X2_seek xm_L_33 xi_X2_seek xe_X2_seek xn_X2 hd_X2_seek ⟨Nat.le_of_ble_eq_true rfl, Nat.le_of_ble_eq_true rfl⟩) 0 rfl rfl rfl rfl (Nat.le_of_ble_eq_true rfl) dL_change_184 ⟨Nat.le_of_ble_eq_true rfl, Nat.le_of_ble_eq_true rfl⟩ (fun w1 hp1 => ?_)
                    obtain ⟨rp1, ri1, pl1, hpool, rfl⟩ := hp1
                    have hf := Option.some.inj hf
                    subst hf
                    exact q_iret C (Nat.le_of_ble_eq_true rfl) (Nat.le_of_ble_eq_true rfl) ⟨_, _, _, hpool, rfl⟩ dL_change_187
                  · have hf := ifF hf h8
                    by_cases h9 : z4 = (9 : Int32)
                    · have hf := ifT hf h9
                      refine q_tableIn (off := 148) C 179 dL_change_31 (by rw [h9]; decide) (by rw [h9]; decide) (by first | (rw [h9]; done) | (rw [h9]; decide)) (by decide) ?_
                      refine q_aload_n C dL_change_179 rfl 3 rfl ?_
                      refine q_iload C dL_change_180 1 rfl ?_
                      refine q_iload C dL_change_182 0 rfl ?_
                      obtain ⟨z21, h_z21, hf⟩ := bnd hf
                      refine q_cVIw C (c_X2_seek l D cI cJ cN x0 p0 i0 n0 n1 n2 n3 n4 n5 n6 s0 s1 s2 s3 s4 s5 s6 rp ri pl V N S z2 z3 z21 hpool h_z21) (mkV (fr := 6) (lo := 140) C xc_X2_seek xm_L_33 xi_X2_seek xe_X2_seek xn_X2 hd_X2_seek ⟨Nat.le_of_ble_eq_true rfl, Nat.le_of_ble_eq_true rfl⟩) 0 rfl rfl rfl rfl (Nat.le_of_ble_eq_true rfl) dL_change_184 ⟨Nat.le_of_ble_eq_true rfl, Nat.le_of_ble_eq_true rfl⟩ (fun w1 hp1 => ?_)
                      obtain ⟨rp1, ri1, pl1, hpool, rfl⟩ := hp1
                      have hf := Option.some.inj hf
                      subst hf
                      exact q_iret C (Nat.le_of_ble_eq_true rfl) (Nat.le_of_ble_eq_true rfl) ⟨_, _, _, hpool, rfl⟩ dL_change_187
                    · have hf := ifF hf h9
                      by_cases h10 : z4 = (10 : Int32)
                      · have hf := ifT hf h10
                        refine q_tableIn (off := 157) C 188 dL_change_31 (by rw [h10]; decide) (by rw [h10]; decide) (by first | (rw [h10]; done) | (rw [h10]; decide)) (by decide) ?_
                        refine q_aload_n C dL_change_188 rfl 3 rfl ?_
                        refine q_iconst (v := 1) C dL_change_189 (by decide) ?_
                        refine q_iload_n C dL_change_190 rfl 5 rfl ?_
                        refine q_bipush (v := 20) C dL_change_191 (by decide) ?_
                        obtain ⟨z22, h_z22, hf⟩ := bnd hf
                        refine q_cSI (ws' := wXX cI cJ cN x0 p0 i0 n0 n1 n2 n3 n4 n5 n6 s0 s1 s2 s3 s4 s5 s6 rp ri pl V N S) C (c_L_low l D cI cJ cN x2 (20 : Int32) z22 h_z22) (mkS (fr := 0) (lo := 0) C xc_L_low xm_L_15 xs_L_low xn_L hd_L_low ⟨Nat.le_of_ble_eq_true rfl, Nat.le_of_ble_eq_true rfl⟩) [] rfl (by decide) rfl rfl rfl rfl (Nat.le_of_ble_eq_true rfl) dL_change_193 ⟨Nat.le_of_ble_eq_true rfl, Nat.le_of_ble_eq_true rfl⟩ ?_
                        refine q_iadd C dL_change_196 ?_
                        obtain ⟨z23, h_z23, hf⟩ := bnd hf
                        refine q_cVIw C (c_X2_seekSome l D cI cJ cN x0 p0 i0 n0 n1 n2 n3 n4 n5 n6 s0 s1 s2 s3 s4 s5 s6 rp ri pl V N S ((1 : Int32) + z22) z23 hpool h_z23) (mkV (fr := 6) (lo := 140) C xc_X2_seekSome xm_L_36 xi_X2_seekSome xe_X2_seekSome xn_X2 hd_X2_seekSome ⟨Nat.le_of_ble_eq_true rfl, Nat.le_of_ble_eq_true rfl⟩) 0 rfl rfl rfl rfl (Nat.le_of_ble_eq_true rfl) dL_change_197 ⟨Nat.le_of_ble_eq_true rfl, Nat.le_of_ble_eq_true rfl⟩ (fun w1 hp1 => ?_)
                        obtain ⟨rp1, ri1, pl1, hpool, rfl⟩ := hp1
                        have hf := Option.some.inj hf
                        subst hf
                        exact q_iret C (Nat.le_of_ble_eq_true rfl) (Nat.le_of_ble_eq_true rfl) ⟨_, _, _, hpool, rfl⟩ dL_change_200
                      · have hf := ifF hf h10
                        by_cases h11 : z4 = (11 : Int32)
                        · have hf := ifT hf h11
                          refine q_tableIn (off := 170) C 201 dL_change_31 (by rw [h11]; decide) (by rw [h11]; decide) (by first | (rw [h11]; done) | (rw [h11]; decide)) (by decide) ?_
                          refine q_aload_n C dL_change_201 rfl 3 rfl ?_
                          refine q_iload C dL_change_202 1 rfl ?_
                          refine q_iload C dL_change_204 0 rfl ?_
                          obtain ⟨z24, h_z24, hf⟩ := bnd hf
                          refine q_cVIw C (c_X2_exchange l D cI cJ cN x0 p0 i0 n0 n1 n2 n3 n4 n5 n6 s0 s1 s2 s3 s4 s5 s6 rp ri pl V N S z2 z3 z24 hpool h_z24) (mkV (fr := 6) (lo := 132) C xc_X2_exchange xm_L_39 xi_X2_exchange xe_X2_exchange xn_X2 hd_X2_exchange ⟨Nat.le_of_ble_eq_true rfl, Nat.le_of_ble_eq_true rfl⟩) 0 rfl rfl rfl rfl (Nat.le_of_ble_eq_true rfl) dL_change_206 ⟨Nat.le_of_ble_eq_true rfl, Nat.le_of_ble_eq_true rfl⟩ (fun w1 hp1 => ?_)
                          obtain ⟨rp1, ri1, pl1, hpool, rfl⟩ := hp1
                          have hf := Option.some.inj hf
                          subst hf
                          exact q_iret C (Nat.le_of_ble_eq_true rfl) (Nat.le_of_ble_eq_true rfl) ⟨_, _, _, hpool, rfl⟩ dL_change_209
                        · have hf := ifF hf h11
                          by_cases h12 : z4 = (12 : Int32)
                          · have hf := ifT hf h12
                            refine q_tableIn (off := 179) C 210 dL_change_31 (by rw [h12]; decide) (by rw [h12]; decide) (by first | (rw [h12]; done) | (rw [h12]; decide)) (by decide) ?_
                            refine q_aload_n C dL_change_210 rfl 3 rfl ?_
                            refine q_iload C dL_change_211 1 rfl ?_
                            obtain ⟨z25, h_z25, hf⟩ := bnd hf
                            refine q_cVIw C (c_X2_leave l D cI cJ cN x0 p0 i0 n0 n1 n2 n3 n4 n5 n6 s0 s1 s2 s3 s4 s5 s6 rp ri pl V N S z2 z25 hpool h_z25) (mkV (fr := 6) (lo := 132) C xc_X2_leave xm_L_42 xi_X2_leave xe_X2_leave xn_X2 hd_X2_leave ⟨Nat.le_of_ble_eq_true rfl, Nat.le_of_ble_eq_true rfl⟩) 0 rfl rfl rfl rfl (Nat.le_of_ble_eq_true rfl) dL_change_213 ⟨Nat.le_of_ble_eq_true rfl, Nat.le_of_ble_eq_true rfl⟩ (fun w1 hp1 => ?_)
                            obtain ⟨rp1, ri1, pl1, hpool, rfl⟩ := hp1
                            have hf := Option.some.inj hf
                            subst hf
                            exact q_iret C (Nat.le_of_ble_eq_true rfl) (Nat.le_of_ble_eq_true rfl) ⟨_, _, _, hpool, rfl⟩ dL_change_216
                          · have hf := ifF hf h12
                            by_cases h13 : z4 = (13 : Int32)
                            · have hf := ifT hf h13
                              refine q_tableIn (off := 186) C 217 dL_change_31 (by rw [h13]; decide) (by rw [h13]; decide) (by first | (rw [h13]; done) | (rw [h13]; decide)) (by decide) ?_
                              refine q_aload_n C dL_change_217 rfl 3 rfl ?_
                              refine q_iload C dL_change_218 1 rfl ?_
                              obtain ⟨z26, h_z26, hf⟩ := bnd hf
                              refine q_cVIw C (c_X2_enter l D cI cJ cN x0 p0 i0 n0 n1 n2 n3 n4 n5 n6 s0 s1 s2 s3 s4 s5 s6 rp ri pl V N S z2 z26 hpool h_z26) (mkV (fr := 6) (lo := 132) C xc_X2_enter xm_L_45 xi_X2_enter xe_X2_enter xn_X2 hd_X2_enter ⟨Nat.le_of_ble_eq_true rfl, Nat.le_of_ble_eq_true rfl⟩) 0 rfl rfl rfl rfl (Nat.le_of_ble_eq_true rfl) dL_change_220 ⟨Nat.le_of_ble_eq_true rfl, Nat.le_of_ble_eq_true rfl⟩ (fun w1 hp1 => ?_)
                              obtain ⟨rp1, ri1, pl1, hpool, rfl⟩ := hp1
                              have hf := Option.some.inj hf
                              subst hf
                              exact q_iret C (Nat.le_of_ble_eq_true rfl) (Nat.le_of_ble_eq_true rfl) ⟨_, _, _, hpool, rfl⟩ dL_change_223
                            · have hf := ifF hf h13
                              by_cases h14 : z4 = (14 : Int32)
                              · have hf := ifT hf h14
                                refine q_tableIn (off := 193) C 224 dL_change_31 (by rw [h14]; decide) (by rw [h14]; decide) (by first | (rw [h14]; done) | (rw [h14]; decide)) (by decide) ?_
                                refine q_aload_n C dL_change_224 rfl 3 rfl ?_
                                refine q_iload_n C dL_change_225 rfl 5 rfl ?_
                                refine q_iconst (v := 4) C dL_change_226 (by decide) ?_
                                obtain ⟨z27, h_z27, hf⟩ := bnd hf
                                refine q_cSI (ws' := wXX cI cJ cN x0 p0 i0 n0 n1 n2 n3 n4 n5 n6 s0 s1 s2 s3 s4 s5 s6 rp ri pl V N S) C (c_L_low l D cI cJ cN x2 (4 : Int32) z27 h_z27) (mkS (fr := 0) (lo := 0) C xc_L_low xm_L_15 xs_L_low xn_L hd_L_low ⟨Nat.le_of_ble_eq_true rfl, Nat.le_of_ble_eq_true rfl⟩) [] rfl (by decide) rfl rfl rfl rfl (Nat.le_of_ble_eq_true rfl) dL_change_227 ⟨Nat.le_of_ble_eq_true rfl, Nat.le_of_ble_eq_true rfl⟩ ?_
                                refine q_iconst (v := 1) C dL_change_230 (by decide) ?_
                                refine q_iload_n C dL_change_231 rfl 5 rfl ?_
                                refine q_iconst (v := 2) C dL_change_232 (by decide) ?_
                                refine q_ishr C dL_change_233 ?_
                                refine q_iconst (v := 3) C dL_change_234 (by decide) ?_
                                obtain ⟨z28, h_z28, hf⟩ := bnd hf
                                refine q_cSI (ws' := wXX cI cJ cN x0 p0 i0 n0 n1 n2 n3 n4 n5 n6 s0 s1 s2 s3 s4 s5 s6 rp ri pl V N S) C (c_L_low l D cI cJ cN (x2 >>> ((2 : Int32) &&& 31)) (3 : Int32) z28 h_z28) (mkS (fr := 0) (lo := 0) C xc_L_low xm_L_15 xs_L_low xn_L hd_L_low ⟨Nat.le_of_ble_eq_true rfl, Nat.le_of_ble_eq_true rfl⟩) [] rfl (by decide) rfl rfl rfl rfl (Nat.le_of_ble_eq_true rfl) dL_change_235 ⟨Nat.le_of_ble_eq_true rfl, Nat.le_of_ble_eq_true rfl⟩ ?_
                                refine q_iadd C dL_change_238 ?_
                                obtain ⟨z29, h_z29, hf⟩ := bnd hf
                                refine q_cVIw C (c_X2_set l D cI cJ cN x0 p0 i0 n0 n1 n2 n3 n4 n5 n6 s0 s1 s2 s3 s4 s5 s6 rp ri pl V N S z27 ((1 : Int32) + z28) z29 hpool h_z29) (mkV (fr := 6) (lo := 132) C xc_X2_set xm_L_48 xi_X2_set xe_X2_set xn_X2 hd_X2_set ⟨Nat.le_of_ble_eq_true rfl, Nat.le_of_ble_eq_true rfl⟩) 0 rfl rfl rfl rfl (Nat.le_of_ble_eq_true rfl) dL_change_239 ⟨Nat.le_of_ble_eq_true rfl, Nat.le_of_ble_eq_true rfl⟩ (fun w1 hp1 => ?_)
                                obtain ⟨rp1, ri1, pl1, hpool, rfl⟩ := hp1
                                have hf := Option.some.inj hf
                                subst hf
                                exact q_iret C (Nat.le_of_ble_eq_true rfl) (Nat.le_of_ble_eq_true rfl) ⟨_, _, _, hpool, rfl⟩ dL_change_242
                              · have hf := ifF hf h14
                                by_cases h15 : z4 = (15 : Int32)
                                · have hf := ifT hf h15
                                  refine q_tableIn (off := 212) C 243 dL_change_31 (by rw [h15]; decide) (by rw [h15]; decide) (by first | (rw [h15]; done) | (rw [h15]; decide)) (by decide) ?_
                                  refine q_iload_n C dL_change_243 rfl 5 rfl ?_
                                  refine q_iconst (v := 2) C dL_change_244 (by decide) ?_
                                  obtain ⟨z30, h_z30, hf⟩ := bnd hf
                                  refine q_cSI (ws' := wXX cI cJ cN x0 p0 i0 n0 n1 n2 n3 n4 n5 n6 s0 s1 s2 s3 s4 s5 s6 rp ri pl V N S) C (c_L_low l D cI cJ cN x2 (2 : Int32) z30 h_z30) (mkS (fr := 0) (lo := 0) C xc_L_low xm_L_15 xs_L_low xn_L hd_L_low ⟨Nat.le_of_ble_eq_true rfl, Nat.le_of_ble_eq_true rfl⟩) [] rfl (by decide) rfl rfl rfl rfl (Nat.le_of_ble_eq_true rfl) dL_change_245 ⟨Nat.le_of_ble_eq_true rfl, Nat.le_of_ble_eq_true rfl⟩ ?_
                                  refine q_if_ne C 265 dL_change_248 (by decide) (fun h => ?_) (fun h => ?_)
                                  · have hf := ifF hf h
                                    refine q_aload_n C dL_change_265 rfl 3 rfl ?_
                                    refine q_iload_n C dL_change_266 rfl 5 rfl ?_
                                    refine q_iconst (v := 1) C dL_change_267 (by decide) ?_
                                    refine q_ishr C dL_change_268 ?_
                                    refine q_iconst (v := 2) C dL_change_269 (by decide) ?_
                                    obtain ⟨z31, h_z31, hf⟩ := bnd hf
                                    refine q_cSI (ws' := wXX cI cJ cN x0 p0 i0 n0 n1 n2 n3 n4 n5 n6 s0 s1 s2 s3 s4 s5 s6 rp ri pl V N S) C (c_L_low l D cI cJ cN (x2 >>> ((1 : Int32) &&& 31)) (2 : Int32) z31 h_z31) (mkS (fr := 0) (lo := 0) C xc_L_low xm_L_15 xs_L_low xn_L hd_L_low ⟨Nat.le_of_ble_eq_true rfl, Nat.le_of_ble_eq_true rfl⟩) [] rfl (by decide) rfl rfl rfl rfl (Nat.le_of_ble_eq_true rfl) dL_change_270 ⟨Nat.le_of_ble_eq_true rfl, Nat.le_of_ble_eq_true rfl⟩ ?_
                                    obtain ⟨z32, h_z32, hf⟩ := bnd hf
                                    refine q_cVIw C (c_X2_back l D cI cJ cN x0 p0 i0 n0 n1 n2 n3 n4 n5 n6 s0 s1 s2 s3 s4 s5 s6 rp ri pl V N S z31 z32 hpool h_z32) (mkV (fr := 6) (lo := 132) C xc_X2_back xm_L_54 xi_X2_back xe_X2_back xn_X2 hd_X2_back ⟨Nat.le_of_ble_eq_true rfl, Nat.le_of_ble_eq_true rfl⟩) 0 rfl rfl rfl rfl (Nat.le_of_ble_eq_true rfl) dL_change_273 ⟨Nat.le_of_ble_eq_true rfl, Nat.le_of_ble_eq_true rfl⟩ (fun w1 hp1 => ?_)
                                    obtain ⟨rp1, ri1, pl1, hpool, rfl⟩ := hp1
                                    have hf := Option.some.inj hf
                                    subst hf
                                    exact q_iret C (Nat.le_of_ble_eq_true rfl) (Nat.le_of_ble_eq_true rfl) ⟨_, _, _, hpool, rfl⟩ dL_change_276
                                  · have hf := ifT hf h
                                    refine q_aload_n C dL_change_251 rfl 3 rfl ?_
                                    refine q_iload_n C dL_change_252 rfl 5 rfl ?_
                                    refine q_iconst (v := 1) C dL_change_253 (by decide) ?_
                                    refine q_ishr C dL_change_254 ?_
                                    refine q_iconst (v := 2) C dL_change_255 (by decide) ?_
                                    obtain ⟨z33, h_z33, hf⟩ := bnd hf
                                    refine q_cSI (ws' := wXX cI cJ cN x0 p0 i0 n0 n1 n2 n3 n4 n5 n6 s0 s1 s2 s3 s4 s5 s6 rp ri pl V N S) C (c_L_low l D cI cJ cN (x2 >>> ((1 : Int32) &&& 31)) (2 : Int32) z33 h_z33) (mkS (fr := 0) (lo := 0) C xc_L_low xm_L_15 xs_L_low xn_L hd_L_low ⟨Nat.le_of_ble_eq_true rfl, Nat.le_of_ble_eq_true rfl⟩) [] rfl (by decide) rfl rfl rfl rfl (Nat.le_of_ble_eq_true rfl) dL_change_256 ⟨Nat.le_of_ble_eq_true rfl, Nat.le_of_ble_eq_true rfl⟩ ?_
                                    obtain ⟨z34, h_z34, hf⟩ := bnd hf
                                    refine q_cVIw C (c_X2_keep l D cI cJ cN x0 p0 i0 n0 n1 n2 n3 n4 n5 n6 s0 s1 s2 s3 s4 s5 s6 rp ri pl V N S z33 z34 hpool h_z34) (mkV (fr := 5) (lo := 112) C xc_X2_keep xm_L_51 xi_X2_keep xe_X2_keep xn_X2 hd_X2_keep ⟨Nat.le_of_ble_eq_true rfl, Nat.le_of_ble_eq_true rfl⟩) 0 rfl rfl rfl rfl (Nat.le_of_ble_eq_true rfl) dL_change_259 ⟨Nat.le_of_ble_eq_true rfl, Nat.le_of_ble_eq_true rfl⟩ (fun w1 hp1 => ?_)
                                    obtain ⟨rp1, ri1, pl1, hpool, rfl⟩ := hp1
                                    refine q_goto C 276 dL_change_262 (by decide) ?_
                                    have hf := Option.some.inj hf
                                    subst hf
                                    exact q_iret C (Nat.le_of_ble_eq_true rfl) (Nat.le_of_ble_eq_true rfl) ⟨_, _, _, hpool, rfl⟩ dL_change_276
                                · have hf := ifF hf h15
                                  refine q_tableOut C 277 dL_change_31 (by have a0 := lv_neT h0 (show ((0 : Int32)).toInt = 0 by decide); have a1 := lv_neT h1 (show ((1 : Int32)).toInt = 1 by decide); have a2 := lv_neT h2 (show ((2 : Int32)).toInt = 2 by decide); have a3 := lv_neT h3 (show ((3 : Int32)).toInt = 3 by decide); have a4 := lv_neT h4 (show ((4 : Int32)).toInt = 4 by decide); have a5 := lv_neT h5 (show ((5 : Int32)).toInt = 5 by decide); have a6 := lv_neT h6 (show ((6 : Int32)).toInt = 6 by decide); have a7 := lv_neT h7 (show ((7 : Int32)).toInt = 7 by decide); have a8 := lv_neT h8 (show ((8 : Int32)).toInt = 8 by decide); have a9 := lv_neT h9 (show ((9 : Int32)).toInt = 9 by decide); have a10 := lv_neT h10 (show ((10 : Int32)).toInt = 10 by decide); have a11 := lv_neT h11 (show ((11 : Int32)).toInt = 11 by decide); have a12 := lv_neT h12 (show ((12 : Int32)).toInt = 12 by decide); have a13 := lv_neT h13 (show ((13 : Int32)).toInt = 13 by decide); have a14 := lv_neT h14 (show ((14 : Int32)).toInt = 14 by decide); have a15 := lv_neT h15 (show ((15 : Int32)).toInt = 15 by decide); omega) (by decide) ?_
                                  refine q_aload_n C dL_change_277 rfl 3 rfl ?_
                                  obtain ⟨z35, h_z35, hf⟩ := bnd hf
                                  refine q_cVIw C (c_X2_undo l D cI cJ cN x0 p0 i0 n0 n1 n2 n3 n4 n5 n6 s0 s1 s2 s3 s4 s5 s6 rp ri pl V N S z35 hpool h_z35) (mkV (fr := 2) (lo := 43) C xc_X2_undo xm_L_57 xi_X2_undo xe_X2_undo xn_X2 hd_X2_undo ⟨Nat.le_of_ble_eq_true rfl, Nat.le_of_ble_eq_true rfl⟩) 0 rfl rfl rfl rfl (Nat.le_of_ble_eq_true rfl) dL_change_278 ⟨Nat.le_of_ble_eq_true rfl, Nat.le_of_ble_eq_true rfl⟩ (fun w1 hp1 => ?_)
                                  obtain ⟨rp1, ri1, pl1, hpool, rfl⟩ := hp1
                                  have hf := Option.some.inj hf
                                  subst hf
                                  exact q_iret C (Nat.le_of_ble_eq_true rfl) (Nat.le_of_ble_eq_true rfl) ⟨_, _, _, hpool, rfl⟩ dL_change_281
set_option maxRecDepth 100000 in
set_option maxHeartbeats 4000000 in
theorem l_L_isSound_202 {p : Program} {l : Launch} {e : Env} {s : State} {m : MethodId} {args : Array Value} {below : List Frame} {meth : Method} {c : Code} {D : va_G} {cI cJ cN : ClassId} {W0 : va_W} {rp ri : Nat → Option Nat} {pl : va_W} {x0 p0 i0 n0 n1 n2 n3 n4 n5 n6 s0 s1 s2 s3 s4 s5 s6 : Nat} {z : Int32 × SS} (C : CX p l s m args meth c cL_isSound 10 yL_isSound.cls (WS yL_isSound cL_isSound 10 (some .boolean)) (some .boolean) D cI cJ cN (va_A W0 s.heap.size)) {K19 : HS → NS → SS → Int32 → Int32 → Int32 → Int32 → Int32 → Int32 → Option (Int32 × SS)} (hK19 : ∀ (V : HS) (N : NS) (S : SS) (x1 : Int32) (x2 : Int32) (x3 : Int32) (x4 : Int32) (x5 : Int32) (x6 : Int32), K19 V N S x1 x2 x3 x4 x5 x6 = some z → WW p l e { frames := 6, cells := 0, slots := 0, locals := 138 } s m args below meth c D 10 (va_A W0 s.heap.size) 0 0 (QI below args s D W0 { frames := 6, cells := 0, slots := 0, locals := 138 } z.1 (fun w => w = wXX cI cJ cN x0 p0 i0 n0 n1 n2 n3 n4 n5 n6 s0 s1 s2 s3 s4 s5 s6 rp ri pl V N z.2)) 19 [(0, .ref x0), (1, .int x1), (2, .int x2), (3, .int x3), (4, .int x4), (5, .int x5), (6, .int x6)] [] (wXX cI cJ cN x0 p0 i0 n0 n1 n2 n3 n4 n5 n6 s0 s1 s2 s3 s4 s5 s6 rp ri pl V N S)) : ∀ (fu : Nat) (V : HS) (N : NS) (S : SS) (x1 : Int32) (x2 : Int32) (x3 : Int32) (x4 : Int32) (x5 : Int32) (x6 : Int32) (x8 : Int32), g_L_isSound_202 K19 fu V N S x1 x2 x3 x4 x5 x6 x8 = some z → WW p l e { frames := 6, cells := 0, slots := 0, locals := 138 } s m args below meth c D 10 (va_A W0 s.heap.size) 0 0 (QI below args s D W0 { frames := 6, cells := 0, slots := 0, locals := 138 } z.1 (fun w => w = wXX cI cJ cN x0 p0 i0 n0 n1 n2 n3 n4 n5 n6 s0 s1 s2 s3 s4 s5 s6 rp ri pl V N z.2)) 202 [(0, .ref x0), (1, .int x1), (2, .int x2), (3, .int x3), (4, .int x4), (5, .int x5), (6, .int x6), (8, .int x8)] [] (wXX cI cJ cN x0 p0 i0 n0 n1 n2 n3 n4 n5 n6 s0 s1 s2 s3 s4 s5 s6 rp ri pl V N S) := by
  intro fu
  induction fu with
  | zero =>
    intro V N S x1 x2 x3 x4 x5 x6 x8 hf
    rw [g_L_isSound_202] at hf
    cases hf
  | succ fu ih =>
    intro V N S x1 x2 x3 x4 x5 x6 x8 hf
    rw [g_L_isSound_202] at hf
    refine q_iload C dL_isSound_202 7 rfl ?_
    refine q_iload C dL_isSound_204 6 rfl ?_
    refine q_icmp_ge C 234 dL_isSound_206 (by decide) (fun h => ?_) (fun h => ?_)
    · have hf := ifT hf h
      refine q_iinc (v := (x6 + (1 : Int32))) (lv' := [(6, .int (x6 + (1 : Int32))), (0, .ref x0), (1, .int x1), (2, .int x2), (3, .int x3), (4, .int x4), (5, .int x5), (8, .int x8)]) C dL_isSound_234 6 rfl rfl (by decide) rfl ?_
      refine q_goto C 19 dL_isSound_237 (by decide) ?_
      refine q_sub (lv' := [(0, .ref x0), (1, .int x1), (2, .int x2), (3, .int x3), (4, .int x4), (5, .int x5), (6, .int (x6 + (1 : Int32)))]) [1, 2, 3, 4, 5, 6, 0] rfl ?_
      exact hK19 V N S x1 x2 x3 x4 x5 (x6 + (1 : Int32)) hf
    · have hf := ifF hf h
      refine q_aload_n C dL_isSound_209 rfl 0 rfl ?_
      refine q_iload C dL_isSound_210 7 rfl ?_
      refine q_iconst (v := 0) C dL_isSound_212 (by decide) ?_
      obtain ⟨z1, h_z1, hf⟩ := bnd hf
      refine q_cVIw C (c_X2_node l D cI cJ cN x0 p0 i0 n0 n1 n2 n3 n4 n5 n6 s0 s1 s2 s3 s4 s5 s6 rp ri pl V N S x8 (0 : Int32) z1 h_z1) (mkV (fr := 5) (lo := 116) C xc_X2_node xm_L_61 xi_X2_node xe_X2_node xn_X2 hd_X2_node ⟨Nat.le_of_ble_eq_true rfl, Nat.le_of_ble_eq_true rfl⟩) 0 rfl rfl rfl rfl (Nat.le_of_ble_eq_true rfl) dL_isSound_213 ⟨Nat.le_of_ble_eq_true rfl, Nat.le_of_ble_eq_true rfl⟩ (fun w1 hp1 => ?_)
      subst hp1
      refine q_aload_n C dL_isSound_216 rfl 0 rfl ?_
      refine q_iload C dL_isSound_217 6 rfl ?_
      refine q_iconst (v := 0) C dL_isSound_219 (by decide) ?_
      obtain ⟨z2, h_z2, hf⟩ := bnd hf
      refine q_cVIw C (c_X2_node l D cI cJ cN x0 p0 i0 n0 n1 n2 n3 n4 n5 n6 s0 s1 s2 s3 s4 s5 s6 rp ri pl V N z1.2 x6 (0 : Int32) z2 h_z2) (mkV (fr := 5) (lo := 116) C xc_X2_node xm_L_61 xi_X2_node xe_X2_node xn_X2 hd_X2_node ⟨Nat.le_of_ble_eq_true rfl, Nat.le_of_ble_eq_true rfl⟩) 0 rfl rfl rfl rfl (Nat.le_of_ble_eq_true rfl) dL_isSound_220 ⟨Nat.le_of_ble_eq_true rfl, Nat.le_of_ble_eq_true rfl⟩ (fun w1 hp1 => ?_)
      subst hp1
      refine q_icmp_ne C 228 dL_isSound_223 (by decide) (fun h => ?_) (fun h => ?_)
      · have hf := ifF hf h
        refine q_iinc (v := (x8 + (1 : Int32))) (lv' := [(8, .int (x8 + (1 : Int32))), (0, .ref x0), (1, .int x1), (2, .int x2), (3, .int x3), (4, .int x4), (5, .int x5), (6, .int x6)]) C dL_isSound_228 7 rfl rfl (by decide) rfl ?_
        refine q_goto C 202 dL_isSound_231 (by decide) ?_
        refine q_sub (lv' := [(0, .ref x0), (1, .int x1), (2, .int x2), (3, .int x3), (4, .int x4), (5, .int x5), (6, .int x6), (8, .int (x8 + (1 : Int32)))]) [1, 2, 3, 4, 5, 6, 7, 0] rfl ?_
        exact ih V N z2.2 x1 x2 x3 x4 x5 x6 (x8 + (1 : Int32)) hf
      · have hf := ifT hf h
        refine q_iconst (v := 0) C dL_isSound_226 (by decide) ?_
        have hf := Option.some.inj hf
        subst hf
        exact q_zret (v := 0) C rfl (Nat.le_of_ble_eq_true rfl) (Nat.le_of_ble_eq_true rfl) rfl dL_isSound_227
set_option maxRecDepth 100000 in
set_option maxHeartbeats 4000000 in
theorem l_L_isSound_173 {p : Program} {l : Launch} {e : Env} {s : State} {m : MethodId} {args : Array Value} {below : List Frame} {meth : Method} {c : Code} {D : va_G} {cI cJ cN : ClassId} {W0 : va_W} {rp ri : Nat → Option Nat} {pl : va_W} {x0 p0 i0 n0 n1 n2 n3 n4 n5 n6 s0 s1 s2 s3 s4 s5 s6 : Nat} {z : Int32 × SS} (C : CX p l s m args meth c cL_isSound 10 yL_isSound.cls (WS yL_isSound cL_isSound 10 (some .boolean)) (some .boolean) D cI cJ cN (va_A W0 s.heap.size)) {K19 : HS → NS → SS → Int32 → Int32 → Int32 → Int32 → Int32 → Int32 → Option (Int32 × SS)} (hK19 : ∀ (V : HS) (N : NS) (S : SS) (x1 : Int32) (x2 : Int32) (x3 : Int32) (x4 : Int32) (x5 : Int32) (x6 : Int32), K19 V N S x1 x2 x3 x4 x5 x6 = some z → WW p l e { frames := 6, cells := 0, slots := 0, locals := 138 } s m args below meth c D 10 (va_A W0 s.heap.size) 0 0 (QI below args s D W0 { frames := 6, cells := 0, slots := 0, locals := 138 } z.1 (fun w => w = wXX cI cJ cN x0 p0 i0 n0 n1 n2 n3 n4 n5 n6 s0 s1 s2 s3 s4 s5 s6 rp ri pl V N z.2)) 19 [(0, .ref x0), (1, .int x1), (2, .int x2), (3, .int x3), (4, .int x4), (5, .int x5), (6, .int x6)] [] (wXX cI cJ cN x0 p0 i0 n0 n1 n2 n3 n4 n5 n6 s0 s1 s2 s3 s4 s5 s6 rp ri pl V N S)) {K105 : HS → NS → SS → Int32 → Int32 → Int32 → Int32 → Int32 → Int32 → Int32 → Int32 → Option (Int32 × SS)} (hK105 : ∀ (V : HS) (N : NS) (S : SS) (x1 : Int32) (x2 : Int32) (x3 : Int32) (x4 : Int32) (x5 : Int32) (x6 : Int32) (x7 : Int32) (x8 : Int32), K105 V N S x1 x2 x3 x4 x5 x6 x7 x8 = some z → WW p l e { frames := 6, cells := 0, slots := 0, locals := 138 } s m args below meth c D 10 (va_A W0 s.heap.size) 0 0 (QI below args s D W0 { frames := 6, cells := 0, slots := 0, locals := 138 } z.1 (fun w => w = wXX cI cJ cN x0 p0 i0 n0 n1 n2 n3 n4 n5 n6 s0 s1 s2 s3 s4 s5 s6 rp ri pl V N z.2)) 105 [(0, .ref x0), (1, .int x1), (2, .int x2), (3, .int x3), (4, .int x4), (5, .int x5), (6, .int x6), (7, .int x7), (8, .int x8)] [] (wXX cI cJ cN x0 p0 i0 n0 n1 n2 n3 n4 n5 n6 s0 s1 s2 s3 s4 s5 s6 rp ri pl V N S)) : ∀ (V : HS) (N : NS) (S : SS) (x1 : Int32) (x2 : Int32) (x3 : Int32) (x4 : Int32) (x5 : Int32) (x6 : Int32) (x7 : Int32) (x8 : Int32) (x9 : Int32), g_L_isSound_173 K19 K105 V N S x1 x2 x3 x4 x5 x6 x7 x8 x9 = some z → WW p l e { frames := 6, cells := 0, slots := 0, locals := 138 } s m args below meth c D 10 (va_A W0 s.heap.size) 0 0 (QI below args s D W0 { frames := 6, cells := 0, slots := 0, locals := 138 } z.1 (fun w => w = wXX cI cJ cN x0 p0 i0 n0 n1 n2 n3 n4 n5 n6 s0 s1 s2 s3 s4 s5 s6 rp ri pl V N z.2)) 173 [(0, .ref x0), (1, .int x1), (2, .int x2), (3, .int x3), (4, .int x4), (5, .int x5), (6, .int x6), (7, .int x7), (8, .int x8), (9, .int x9)] [] (wXX cI cJ cN x0 p0 i0 n0 n1 n2 n3 n4 n5 n6 s0 s1 s2 s3 s4 s5 s6 rp ri pl V N S) := by
  intro V N S x1 x2 x3 x4 x5 x6 x7 x8 x9 hf
  rw [g_L_isSound_173] at hf
  refine q_iload C dL_isSound_173 8 rfl ?_
  refine q_iconst (v := 1) C dL_isSound_175 (by decide) ?_
  refine q_icmp_le C 193 dL_isSound_176 (by decide) (fun h => ?_) (fun h => ?_)
  · have hf := ifT hf h
    refine q_iinc (v := (x8 + (1 : Int32))) (lv' := [(8, .int (x8 + (1 : Int32))), (0, .ref x0), (1, .int x1), (2, .int x2), (3, .int x3), (4, .int x4), (5, .int x5), (6, .int x6), (7, .int x7), (9, .int x9)]) C dL_isSound_193 8 rfl rfl (by decide) rfl ?_
    refine q_goto C 105 dL_isSound_196 (by decide) ?_
    refine q_sub (lv' := [(0, .ref x0), (1, .int x1), (2, .int x2), (3, .int x3), (4, .int x4), (5, .int x5), (6, .int x6), (7, .int x7), (8, .int (x8 + (1 : Int32)))]) [1, 2, 3, 4, 5, 6, 7, 8, 0] rfl ?_
    exact hK105 V N S x1 x2 x3 x4 x5 x6 x7 (x8 + (1 : Int32)) hf
  · have hf := ifF hf h
    refine q_aload_n C dL_isSound_179 rfl 0 rfl ?_
    refine q_iload C dL_isSound_180 6 rfl ?_
    refine q_iconst (v := 0) C dL_isSound_182 (by decide) ?_
    obtain ⟨z1, h_z1, hf⟩ := bnd hf
    refine q_cVIw C (c_X2_target l D cI cJ cN x0 p0 i0 n0 n1 n2 n3 n4 n5 n6 s0 s1 s2 s3 s4 s5 s6 rp ri pl V N S x6 (0 : Int32) z1 h_z1) (mkV (fr := 2) (lo := 43) C xc_X2_target xm_L_64 xi_X2_target xe_X2_target xn_X2 hd_X2_target ⟨Nat.le_of_ble_eq_true rfl, Nat.le_of_ble_eq_true rfl⟩) 0 rfl rfl rfl rfl (Nat.le_of_ble_eq_true rfl) dL_isSound_183 ⟨Nat.le_of_ble_eq_true rfl, Nat.le_of_ble_eq_true rfl⟩ (fun w1 hp1 => ?_)
    subst hp1
    refine q_iload C dL_isSound_186 9 rfl ?_
    refine q_icmp_ne C 193 dL_isSound_188 (by decide) (fun h => ?_) (fun h => ?_)
    · have hf := ifF hf h
      refine q_iinc (v := (x8 + (1 : Int32))) (lv' := [(8, .int (x8 + (1 : Int32))), (0, .ref x0), (1, .int x1), (2, .int x2), (3, .int x3), (4, .int x4), (5, .int x5), (6, .int x6), (7, .int x7), (9, .int x9)]) C dL_isSound_193 8 rfl rfl (by decide) rfl ?_
      refine q_goto C 105 dL_isSound_196 (by decide) ?_
      refine q_sub (lv' := [(0, .ref x0), (1, .int x1), (2, .int x2), (3, .int x3), (4, .int x4), (5, .int x5), (6, .int x6), (7, .int x7), (8, .int (x8 + (1 : Int32)))]) [1, 2, 3, 4, 5, 6, 7, 8, 0] rfl ?_
      exact hK105 V N S x1 x2 x3 x4 x5 x6 x7 (x8 + (1 : Int32)) hf
    · have hf := ifT hf h
      refine q_iconst (v := 0) C dL_isSound_191 (by decide) ?_
      have hf := Option.some.inj hf
      subst hf
      exact q_zret (v := 0) C rfl (Nat.le_of_ble_eq_true rfl) (Nat.le_of_ble_eq_true rfl) rfl dL_isSound_192
set_option maxRecDepth 100000 in
set_option maxHeartbeats 4000000 in
theorem l_L_isSound_105 {p : Program} {l : Launch} {e : Env} {s : State} {m : MethodId} {args : Array Value} {below : List Frame} {meth : Method} {c : Code} {D : va_G} {cI cJ cN : ClassId} {W0 : va_W} {rp ri : Nat → Option Nat} {pl : va_W} {x0 p0 i0 n0 n1 n2 n3 n4 n5 n6 s0 s1 s2 s3 s4 s5 s6 : Nat} {z : Int32 × SS} (C : CX p l s m args meth c cL_isSound 10 yL_isSound.cls (WS yL_isSound cL_isSound 10 (some .boolean)) (some .boolean) D cI cJ cN (va_A W0 s.heap.size)) {K19 : HS → NS → SS → Int32 → Int32 → Int32 → Int32 → Int32 → Int32 → Option (Int32 × SS)} (hK19 : ∀ (V : HS) (N : NS) (S : SS) (x1 : Int32) (x2 : Int32) (x3 : Int32) (x4 : Int32) (x5 : Int32) (x6 : Int32), K19 V N S x1 x2 x3 x4 x5 x6 = some z → WW p l e { frames := 6, cells := 0, slots := 0, locals := 138 } s m args below meth c D 10 (va_A W0 s.heap.size) 0 0 (QI below args s D W0 { frames := 6, cells := 0, slots := 0, locals := 138 } z.1 (fun w => w = wXX cI cJ cN x0 p0 i0 n0 n1 n2 n3 n4 n5 n6 s0 s1 s2 s3 s4 s5 s6 rp ri pl V N z.2)) 19 [(0, .ref x0), (1, .int x1), (2, .int x2), (3, .int x3), (4, .int x4), (5, .int x5), (6, .int x6)] [] (wXX cI cJ cN x0 p0 i0 n0 n1 n2 n3 n4 n5 n6 s0 s1 s2 s3 s4 s5 s6 rp ri pl V N S)) : ∀ (fu : Nat) (V : HS) (N : NS) (S : SS) (x1 : Int32) (x2 : Int32) (x3 : Int32) (x4 : Int32) (x5 : Int32) (x6 : Int32) (x7 : Int32) (x8 : Int32), g_L_isSound_105 K19 fu V N S x1 x2 x3 x4 x5 x6 x7 x8 = some z → WW p l e { frames := 6, cells := 0, slots := 0, locals := 138 } s m args below meth c D 10 (va_A W0 s.heap.size) 0 0 (QI below args s D W0 { frames := 6, cells := 0, slots := 0, locals := 138 } z.1 (fun w => w = wXX cI cJ cN x0 p0 i0 n0 n1 n2 n3 n4 n5 n6 s0 s1 s2 s3 s4 s5 s6 rp ri pl V N z.2)) 105 [(0, .ref x0), (1, .int x1), (2, .int x2), (3, .int x3), (4, .int x4), (5, .int x5), (6, .int x6), (7, .int x7), (8, .int x8)] [] (wXX cI cJ cN x0 p0 i0 n0 n1 n2 n3 n4 n5 n6 s0 s1 s2 s3 s4 s5 s6 rp ri pl V N S) := by
  intro fu
  induction fu with
  | zero =>
    intro V N S x1 x2 x3 x4 x5 x6 x7 x8 hf
    rw [g_L_isSound_105] at hf
    cases hf
  | succ fu ih =>
    intro V N S x1 x2 x3 x4 x5 x6 x7 x8 hf
    rw [g_L_isSound_105] at hf
    refine q_iload C dL_isSound_105 8 rfl ?_
    refine q_iload C dL_isSound_107 7 rfl ?_
    refine q_icmp_ge C 199 dL_isSound_109 (by decide) (fun h => ?_) (fun h => ?_)
    · have hf := ifT hf h
      refine q_iconst (v := 0) C dL_isSound_199 (by decide) ?_
      refine q_istore (lv' := [(8, .int (0 : Int32)), (0, .ref x0), (1, .int x1), (2, .int x2), (3, .int x3), (4, .int x4), (5, .int x5), (6, .int x6), (7, .int x7)]) C dL_isSound_200 (by decide) rfl ?_
      refine q_sub (lv' := [(0, .ref x0), (1, .int x1), (2, .int x2), (3, .int x3), (4, .int x4), (5, .int x5), (6, .int x6), (8, .int (0 : Int32))]) [1, 2, 3, 4, 5, 6, 7, 0] rfl ?_
      exact l_L_isSound_202 C hK19 FU V N S x1 x2 x3 x4 x5 x6 (0 : Int32) hf
    · have hf := ifF hf h
      refine q_aload_n C dL_isSound_112 rfl 0 rfl ?_
      refine q_iload C dL_isSound_113 6 rfl ?_
      refine q_iload C dL_isSound_115 8 rfl ?_
      obtain ⟨z1, h_z1, hf⟩ := bnd hf
      refine q_cVIw C (c_X2_target l D cI cJ cN x0 p0 i0 n0 n1 n2 n3 n4 n5 n6 s0 s1 s2 s3 s4 s5 s6 rp ri pl V N S x6 x8 z1 h_z1) (mkV (fr := 2) (lo := 43) C xc_X2_target xm_L_64 xi_X2_target xe_X2_target xn_X2 hd_X2_target ⟨Nat.le_of_ble_eq_true rfl, Nat.le_of_ble_eq_true rfl⟩) 0 rfl rfl rfl rfl (Nat.le_of_ble_eq_true rfl) dL_isSound_117 ⟨Nat.le_of_ble_eq_true rfl, Nat.le_of_ble_eq_true rfl⟩ (fun w1 hp1 => ?_)
      subst hp1
      refine q_istore (lv' := [(9, .int z1), (0, .ref x0), (1, .int x1), (2, .int x2), (3, .int x3), (4, .int x4), (5, .int x5), (6, .int x6), (7, .int x7), (8, .int x8)]) C dL_isSound_120 (by decide) rfl ?_
      refine q_iload C dL_isSound_122 5 rfl ?_
      refine q_aload_n C dL_isSound_124 rfl 1 rfl ?_
      refine q_iload C dL_isSound_125 7 rfl ?_
      refine q_iload C dL_isSound_127 0 rfl ?_
      obtain ⟨z2, h_z2, hf⟩ := bnd hf
      refine q_cVIw C (c_X2_distance l D cI cJ cN x0 p0 i0 n0 n1 n2 n3 n4 n5 n6 s0 s1 s2 s3 s4 s5 s6 rp ri pl V N S x6 z1 z2 h_z2) (mkV (fr := 2) (lo := 43) C xc_X2_distance xm_L_67 xi_X2_distance xe_X2_distance xn_X2 hd_X2_distance ⟨Nat.le_of_ble_eq_true rfl, Nat.le_of_ble_eq_true rfl⟩) 0 rfl rfl rfl rfl (Nat.le_of_ble_eq_true rfl) dL_isSound_129 ⟨Nat.le_of_ble_eq_true rfl, Nat.le_of_ble_eq_true rfl⟩ (fun w1 hp1 => ?_)
      subst hp1
      refine q_iadd C dL_isSound_132 ?_
      refine q_istore (lv' := [(4, .int (x4 + z2)), (9, .int z1), (0, .ref x0), (1, .int x1), (2, .int x2), (3, .int x3), (5, .int x5), (6, .int x6), (7, .int x7), (8, .int x8)]) C dL_isSound_133 (by decide) rfl ?_
      refine q_iload C dL_isSound_135 1 rfl ?_
      refine q_iload C dL_isSound_137 7 rfl ?_
      refine q_icmp_eq C 191 dL_isSound_139 (by decide) (fun h => ?_) (fun h => ?_)
      · have hf := ifT hf h
        refine q_iconst (v := 0) C dL_isSound_191 (by decide) ?_
        have hf := Option.some.inj hf
        subst hf
        exact q_zret (v := 0) C rfl (Nat.le_of_ble_eq_true rfl) (Nat.le_of_ble_eq_true rfl) rfl dL_isSound_192
      · have hf := ifF hf h
        refine q_aload_n C dL_isSound_142 rfl 2 rfl ?_
        refine q_iload C dL_isSound_143 1 rfl ?_
        refine q_iconst (v := 1) C dL_isSound_145 (by decide) ?_
        obtain ⟨z3, h_z3, hf⟩ := bnd hf
        refine q_cVIw C (c_X2_node l D cI cJ cN x0 p0 i0 n0 n1 n2 n3 n4 n5 n6 s0 s1 s2 s3 s4 s5 s6 rp ri pl V N S z1 (1 : Int32) z3 h_z3) (mkV (fr := 5) (lo := 116) C xc_X2_node xm_L_61 xi_X2_node xe_X2_node xn_X2 hd_X2_node ⟨Nat.le_of_ble_eq_true rfl, Nat.le_of_ble_eq_true rfl⟩) 0 rfl rfl rfl rfl (Nat.le_of_ble_eq_true rfl) dL_isSound_146 ⟨Nat.le_of_ble_eq_true rfl, Nat.le_of_ble_eq_true rfl⟩ (fun w1 hp1 => ?_)
        subst hp1
        refine q_iconst (v := 1) C dL_isSound_149 (by decide) ?_
        refine q_icmp_ne C 191 dL_isSound_150 (by decide) (fun h => ?_) (fun h => ?_)
        · have hf := ifF hf h
          refine q_iconst (v := 0) C dL_isSound_191 (by decide) ?_
          have hf := Option.some.inj hf
          subst hf
          exact q_zret (v := 0) C rfl (Nat.le_of_ble_eq_true rfl) (Nat.le_of_ble_eq_true rfl) rfl dL_isSound_192
        · have hf := ifT hf h
          refine q_iload C dL_isSound_153 9 rfl ?_
          refine q_if_le C 173 dL_isSound_155 (by decide) (fun h => ?_) (fun h => ?_)
          · have hf := ifT hf h
            refine q_sub (lv' := [(0, .ref x0), (1, .int x1), (2, .int x2), (3, .int x3), (4, .int (x4 + z2)), (5, .int x5), (6, .int x6), (7, .int x7), (8, .int x8), (9, .int z1)]) [2, 3, 4, 5, 0, 6, 7, 8, 9, 1] rfl ?_
            exact l_L_isSound_173 C hK19 ih V N z3.2 x1 x2 x3 (x4 + z2) x5 x6 x7 x8 z1 hf
          · have hf := ifF hf h
            refine q_aload_n C dL_isSound_158 rfl 2 rfl ?_
            refine q_iload C dL_isSound_159 7 rfl ?_
            refine q_iload C dL_isSound_161 9 rfl ?_
            refine q_iconst (v := 1) C dL_isSound_163 (by decide) ?_
            refine q_isub C dL_isSound_164 ?_
            obtain ⟨z4, h_z4, hf⟩ := bnd hf
            refine q_cVIw C (c_X2_target l D cI cJ cN x0 p0 i0 n0 n1 n2 n3 n4 n5 n6 s0 s1 s2 s3 s4 s5 s6 rp ri pl V N z3.2 x6 (x8 - (1 : Int32)) z4 h_z4) (mkV (fr := 2) (lo := 43) C xc_X2_target xm_L_64 xi_X2_target xe_X2_target xn_X2 hd_X2_target ⟨Nat.le_of_ble_eq_true rfl, Nat.le_of_ble_eq_true rfl⟩) 0 rfl rfl rfl rfl (Nat.le_of_ble_eq_true rfl) dL_isSound_165 ⟨Nat.le_of_ble_eq_true rfl, Nat.le_of_ble_eq_true rfl⟩ (fun w1 hp1 => ?_)
            subst hp1
            refine q_iload C dL_isSound_168 1 rfl ?_
            refine q_icmp_eq C 191 dL_isSound_170 (by decide) (fun h => ?_) (fun h => ?_)
            · have hf := ifT hf h
              refine q_iconst (v := 0) C dL_isSound_191 (by decide) ?_
              have hf := Option.some.inj hf
              subst hf
              exact q_zret (v := 0) C rfl (Nat.le_of_ble_eq_true rfl) (Nat.le_of_ble_eq_true rfl) rfl dL_isSound_192
            · have hf := ifF hf h
              refine q_sub (lv' := [(0, .ref x0), (1, .int x1), (2, .int x2), (3, .int x3), (4, .int (x4 + z2)), (5, .int x5), (6, .int x6), (7, .int x7), (8, .int x8), (9, .int z1)]) [2, 3, 4, 5, 0, 6, 7, 8, 9, 1] rfl ?_
              exact l_L_isSound_173 C hK19 ih V N z3.2 x1 x2 x3 (x4 + z2) x5 x6 x7 x8 z1 hf
set_option maxRecDepth 100000 in
set_option maxHeartbeats 4000000 in
theorem l_L_isSound_19 {p : Program} {l : Launch} {e : Env} {s : State} {m : MethodId} {args : Array Value} {below : List Frame} {meth : Method} {c : Code} {D : va_G} {cI cJ cN : ClassId} {W0 : va_W} {rp ri : Nat → Option Nat} {pl : va_W} {x0 p0 i0 n0 n1 n2 n3 n4 n5 n6 s0 s1 s2 s3 s4 s5 s6 : Nat} {z : Int32 × SS} (C : CX p l s m args meth c cL_isSound 10 yL_isSound.cls (WS yL_isSound cL_isSound 10 (some .boolean)) (some .boolean) D cI cJ cN (va_A W0 s.heap.size)) : ∀ (fu : Nat) (V : HS) (N : NS) (S : SS) (x1 : Int32) (x2 : Int32) (x3 : Int32) (x4 : Int32) (x5 : Int32) (x6 : Int32), g_L_isSound_19 fu V N S x1 x2 x3 x4 x5 x6 = some z → WW p l e { frames := 6, cells := 0, slots := 0, locals := 138 } s m args below meth c D 10 (va_A W0 s.heap.size) 0 0 (QI below args s D W0 { frames := 6, cells := 0, slots := 0, locals := 138 } z.1 (fun w => w = wXX cI cJ cN x0 p0 i0 n0 n1 n2 n3 n4 n5 n6 s0 s1 s2 s3 s4 s5 s6 rp ri pl V N z.2)) 19 [(0, .ref x0), (1, .int x1), (2, .int x2), (3, .int x3), (4, .int x4), (5, .int x5), (6, .int x6)] [] (wXX cI cJ cN x0 p0 i0 n0 n1 n2 n3 n4 n5 n6 s0 s1 s2 s3 s4 s5 s6 rp ri pl V N S) := by
  intro fu
  induction fu with
  | zero =>
    intro V N S x1 x2 x3 x4 x5 x6 hf
    rw [g_L_isSound_19] at hf
    cases hf
  | succ fu ih =>
    intro V N S x1 x2 x3 x4 x5 x6 hf
    rw [g_L_isSound_19] at hf
    refine q_iload C dL_isSound_19 6 rfl ?_
    refine q_iload_n C dL_isSound_21 rfl 1 rfl ?_
    refine q_icmp_ge C 240 dL_isSound_22 (by decide) (fun h => ?_) (fun h => ?_)
    · have hf := ifT hf h
      refine q_iload_n C dL_isSound_240 rfl 2 rfl ?_
      refine q_if_le C 282 dL_isSound_241 (by decide) (fun h => ?_) (fun h => ?_)
      · have hf := ifT hf h
        refine q_iconst (v := 0) C dL_isSound_282 (by decide) ?_
        have hf := Option.some.inj hf
        subst hf
        exact q_zret (v := 0) C rfl (Nat.le_of_ble_eq_true rfl) (Nat.le_of_ble_eq_true rfl) rfl dL_isSound_283
      · have hf := ifF hf h
        refine q_aload_n C dL_isSound_244 rfl 0 rfl ?_
        refine q_iconst (v := 2) C dL_isSound_245 (by decide) ?_
        obtain ⟨z1, h_z1, hf⟩ := bnd hf
        refine q_cVIw C (c_X2_told l D cI cJ cN x0 p0 i0 n0 n1 n2 n3 n4 n5 n6 s0 s1 s2 s3 s4 s5 s6 rp ri pl V N S (2 : Int32) z1 h_z1) (mkV (fr := 3) (lo := 66) C xc_X2_told xm_L_9 xi_X2_told xe_X2_told xn_X2 hd_X2_told ⟨Nat.le_of_ble_eq_true rfl, Nat.le_of_ble_eq_true rfl⟩) 0 rfl rfl rfl rfl (Nat.le_of_ble_eq_true rfl) dL_isSound_246 ⟨Nat.le_of_ble_eq_true rfl, Nat.le_of_ble_eq_true rfl⟩ (fun w1 hp1 => ?_)
        subst hp1
        refine q_iload_n C dL_isSound_249 rfl 2 rfl ?_
        refine q_icmp_ne C 282 dL_isSound_250 (by decide) (fun h => ?_) (fun h => ?_)
        · have hf := ifF hf h
          refine q_iconst (v := 0) C dL_isSound_282 (by decide) ?_
          have hf := Option.some.inj hf
          subst hf
          exact q_zret (v := 0) C rfl (Nat.le_of_ble_eq_true rfl) (Nat.le_of_ble_eq_true rfl) rfl dL_isSound_283
        · have hf := ifT hf h
          refine q_aload_n C dL_isSound_253 rfl 0 rfl ?_
          refine q_iconst (v := 3) C dL_isSound_254 (by decide) ?_
          obtain ⟨z2, h_z2, hf⟩ := bnd hf
          refine q_cVIw C (c_X2_told l D cI cJ cN x0 p0 i0 n0 n1 n2 n3 n4 n5 n6 s0 s1 s2 s3 s4 s5 s6 rp ri pl V N S (3 : Int32) z2 h_z2) (mkV (fr := 3) (lo := 66) C xc_X2_told xm_L_9 xi_X2_told xe_X2_told xn_X2 hd_X2_told ⟨Nat.le_of_ble_eq_true rfl, Nat.le_of_ble_eq_true rfl⟩) 0 rfl rfl rfl rfl (Nat.le_of_ble_eq_true rfl) dL_isSound_255 ⟨Nat.le_of_ble_eq_true rfl, Nat.le_of_ble_eq_true rfl⟩ (fun w1 hp1 => ?_)
          subst hp1
          refine q_iload_n C dL_isSound_258 rfl 3 rfl ?_
          refine q_icmp_ne C 282 dL_isSound_259 (by decide) (fun h => ?_) (fun h => ?_)
          · have hf := ifF hf h
            refine q_iconst (v := 0) C dL_isSound_282 (by decide) ?_
            have hf := Option.some.inj hf
            subst hf
            exact q_zret (v := 0) C rfl (Nat.le_of_ble_eq_true rfl) (Nat.le_of_ble_eq_true rfl) rfl dL_isSound_283
          · have hf := ifT hf h
            refine q_iload C dL_isSound_262 5 rfl ?_
            refine q_iload_n C dL_isSound_264 rfl 3 rfl ?_
            refine q_icmp_ne C 282 dL_isSound_265 (by decide) (fun h => ?_) (fun h => ?_)
            · have hf := ifF hf h
              refine q_iconst (v := 0) C dL_isSound_282 (by decide) ?_
              have hf := Option.some.inj hf
              subst hf
              exact q_zret (v := 0) C rfl (Nat.le_of_ble_eq_true rfl) (Nat.le_of_ble_eq_true rfl) rfl dL_isSound_283
            · have hf := ifT hf h
              refine q_aload_n C dL_isSound_268 rfl 0 rfl ?_
              refine q_iconst (v := 4) C dL_isSound_269 (by decide) ?_
              obtain ⟨z3, h_z3, hf⟩ := bnd hf
              refine q_cVIw C (c_X2_told l D cI cJ cN x0 p0 i0 n0 n1 n2 n3 n4 n5 n6 s0 s1 s2 s3 s4 s5 s6 rp ri pl V N S (4 : Int32) z3 h_z3) (mkV (fr := 3) (lo := 66) C xc_X2_told xm_L_9 xi_X2_told xe_X2_told xn_X2 hd_X2_told ⟨Nat.le_of_ble_eq_true rfl, Nat.le_of_ble_eq_true rfl⟩) 0 rfl rfl rfl rfl (Nat.le_of_ble_eq_true rfl) dL_isSound_270 ⟨Nat.le_of_ble_eq_true rfl, Nat.le_of_ble_eq_true rfl⟩ (fun w1 hp1 => ?_)
              subst hp1
              refine q_iload C dL_isSound_273 4 rfl ?_
              refine q_icmp_ne C 282 dL_isSound_275 (by decide) (fun h => ?_) (fun h => ?_)
              · have hf := ifF hf h
                refine q_iconst (v := 0) C dL_isSound_282 (by decide) ?_
                have hf := Option.some.inj hf
                subst hf
                exact q_zret (v := 0) C rfl (Nat.le_of_ble_eq_true rfl) (Nat.le_of_ble_eq_true rfl) rfl dL_isSound_283
              · have hf := ifT hf h
                refine q_iconst (v := 1) C dL_isSound_278 (by decide) ?_
                refine q_goto C 283 dL_isSound_279 (by decide) ?_
                have hf := Option.some.inj hf
                subst hf
                exact q_zret (v := 1) C rfl (Nat.le_of_ble_eq_true rfl) (Nat.le_of_ble_eq_true rfl) rfl dL_isSound_283
    · have hf := ifF hf h
      refine q_aload_n C dL_isSound_25 rfl 0 rfl ?_
      refine q_iload C dL_isSound_26 6 rfl ?_
      refine q_iconst (v := 3) C dL_isSound_28 (by decide) ?_
      obtain ⟨z4, h_z4, hf⟩ := bnd hf
      refine q_cVIw C (c_X2_node l D cI cJ cN x0 p0 i0 n0 n1 n2 n3 n4 n5 n6 s0 s1 s2 s3 s4 s5 s6 rp ri pl V N S x6 (3 : Int32) z4 h_z4) (mkV (fr := 5) (lo := 116) C xc_X2_node xm_L_61 xi_X2_node xe_X2_node xn_X2 hd_X2_node ⟨Nat.le_of_ble_eq_true rfl, Nat.le_of_ble_eq_true rfl⟩) 0 rfl rfl rfl rfl (Nat.le_of_ble_eq_true rfl) dL_isSound_29 ⟨Nat.le_of_ble_eq_true rfl, Nat.le_of_ble_eq_true rfl⟩ (fun w1 hp1 => ?_)
      subst hp1
      refine q_istore (lv' := [(7, .int z4.1), (0, .ref x0), (1, .int x1), (2, .int x2), (3, .int x3), (4, .int x4), (5, .int x5), (6, .int x6)]) C dL_isSound_32 (by decide) rfl ?_
      refine q_iload_n C dL_isSound_34 rfl 3 rfl ?_
      refine q_aload_n C dL_isSound_35 rfl 1 rfl ?_
      refine q_iload C dL_isSound_36 7 rfl ?_
      refine q_iconst (v := 1) C dL_isSound_38 (by decide) ?_
      obtain ⟨z5, h_z5, hf⟩ := bnd hf
      refine q_cVIw C (c_X2_node l D cI cJ cN x0 p0 i0 n0 n1 n2 n3 n4 n5 n6 s0 s1 s2 s3 s4 s5 s6 rp ri pl V N z4.2 x6 (1 : Int32) z5 h_z5) (mkV (fr := 5) (lo := 116) C xc_X2_node xm_L_61 xi_X2_node xe_X2_node xn_X2 hd_X2_node ⟨Nat.le_of_ble_eq_true rfl, Nat.le_of_ble_eq_true rfl⟩) 0 rfl rfl rfl rfl (Nat.le_of_ble_eq_true rfl) dL_isSound_39 ⟨Nat.le_of_ble_eq_true rfl, Nat.le_of_ble_eq_true rfl⟩ (fun w1 hp1 => ?_)
      subst hp1
      refine q_iadd C dL_isSound_42 ?_
      refine q_istore_n (lv' := [(2, .int (x2 + z5.1)), (7, .int z4.1), (0, .ref x0), (1, .int x1), (3, .int x3), (4, .int x4), (5, .int x5), (6, .int x6)]) C dL_isSound_43 rfl (by decide) rfl ?_
      refine q_iload_n C dL_isSound_44 rfl 4 rfl ?_
      refine q_iload C dL_isSound_45 1 rfl ?_
      refine q_iadd C dL_isSound_47 ?_
      refine q_istore_n (lv' := [(3, .int (x3 + z4.1)), (2, .int (x2 + z5.1)), (7, .int z4.1), (0, .ref x0), (1, .int x1), (4, .int x4), (5, .int x5), (6, .int x6)]) C dL_isSound_48 rfl (by decide) rfl ?_
      refine q_iload C dL_isSound_49 6 rfl ?_
      refine q_aload_n C dL_isSound_51 rfl 3 rfl ?_
      refine q_iload C dL_isSound_52 7 rfl ?_
      refine q_iconst (v := 4) C dL_isSound_54 (by decide) ?_
      obtain ⟨z6, h_z6, hf⟩ := bnd hf
      refine q_cVIw C (c_X2_node l D cI cJ cN x0 p0 i0 n0 n1 n2 n3 n4 n5 n6 s0 s1 s2 s3 s4 s5 s6 rp ri pl V N z5.2 x6 (4 : Int32) z6 h_z6) (mkV (fr := 5) (lo := 116) C xc_X2_node xm_L_61 xi_X2_node xe_X2_node xn_X2 hd_X2_node ⟨Nat.le_of_ble_eq_true rfl, Nat.le_of_ble_eq_true rfl⟩) 0 rfl rfl rfl rfl (Nat.le_of_ble_eq_true rfl) dL_isSound_55 ⟨Nat.le_of_ble_eq_true rfl, Nat.le_of_ble_eq_true rfl⟩ (fun w1 hp1 => ?_)
      subst hp1
      refine q_iadd C dL_isSound_58 ?_
      refine q_istore (lv' := [(5, .int (x5 + z6.1)), (3, .int (x3 + z4.1)), (2, .int (x2 + z5.1)), (7, .int z4.1), (0, .ref x0), (1, .int x1), (4, .int x4), (6, .int x6)]) C dL_isSound_59 (by decide) rfl ?_
      refine q_iload C dL_isSound_61 3 rfl ?_
      refine q_if_lt C 100 dL_isSound_63 (by decide) (fun h => ?_) (fun h => ?_)
      · have hf := ifT hf h
        refine q_iconst (v := 0) C dL_isSound_100 (by decide) ?_
        have hf := Option.some.inj hf
        subst hf
        exact q_zret (v := 0) C rfl (Nat.le_of_ble_eq_true rfl) (Nat.le_of_ble_eq_true rfl) rfl dL_isSound_101
      · have hf := ifF hf h
        refine q_iload C dL_isSound_66 3 rfl ?_
        refine q_iconst (v := 3) C dL_isSound_68 (by decide) ?_
        refine q_icmp_gt C 100 dL_isSound_69 (by decide) (fun h => ?_) (fun h => ?_)
        · have hf := ifT hf h
          refine q_iconst (v := 0) C dL_isSound_100 (by decide) ?_
          have hf := Option.some.inj hf
          subst hf
          exact q_zret (v := 0) C rfl (Nat.le_of_ble_eq_true rfl) (Nat.le_of_ble_eq_true rfl) rfl dL_isSound_101
        · have hf := ifF hf h
          refine q_aload_n C dL_isSound_72 rfl 4 rfl ?_
          refine q_iload C dL_isSound_73 7 rfl ?_
          refine q_iconst (v := 1) C dL_isSound_75 (by decide) ?_
          obtain ⟨z7, h_z7, hf⟩ := bnd hf
          refine q_cVIw C (c_X2_node l D cI cJ cN x0 p0 i0 n0 n1 n2 n3 n4 n5 n6 s0 s1 s2 s3 s4 s5 s6 rp ri pl V N z6.2 x6 (1 : Int32) z7 h_z7) (mkV (fr := 5) (lo := 116) C xc_X2_node xm_L_61 xi_X2_node xe_X2_node xn_X2 hd_X2_node ⟨Nat.le_of_ble_eq_true rfl, Nat.le_of_ble_eq_true rfl⟩) 0 rfl rfl rfl rfl (Nat.le_of_ble_eq_true rfl) dL_isSound_76 ⟨Nat.le_of_ble_eq_true rfl, Nat.le_of_ble_eq_true rfl⟩ (fun w1 hp1 => ?_)
          subst hp1
          refine q_if_ne C 87 dL_isSound_79 (by decide) (fun h => ?_) (fun h => ?_)
          · have hf := ifF hf h
            refine q_aload_n C dL_isSound_87 rfl 4 rfl ?_
            refine q_iload C dL_isSound_88 7 rfl ?_
            refine q_iload C dL_isSound_90 3 rfl ?_
            obtain ⟨z8, h_z8, hf⟩ := bnd hf
            refine q_cVIw C (c_X2_target l D cI cJ cN x0 p0 i0 n0 n1 n2 n3 n4 n5 n6 s0 s1 s2 s3 s4 s5 s6 rp ri pl V N z7.2 x6 z4.1 z8 h_z8) (mkV (fr := 2) (lo := 43) C xc_X2_target xm_L_64 xi_X2_target xe_X2_target xn_X2 hd_X2_target ⟨Nat.le_of_ble_eq_true rfl, Nat.le_of_ble_eq_true rfl⟩) 0 rfl rfl rfl rfl (Nat.le_of_ble_eq_true rfl) dL_isSound_92 ⟨Nat.le_of_ble_eq_true rfl, Nat.le_of_ble_eq_true rfl⟩ (fun w1 hp1 => ?_)
            subst hp1
            refine q_bipush (v := -9) C dL_isSound_95 (by decide) ?_
            refine q_icmp_eq C 102 dL_isSound_97 (by decide) (fun h => ?_) (fun h => ?_)
            · have hf := ifT hf h
              refine q_iconst (v := 0) C dL_isSound_102 (by decide) ?_
              refine q_istore (lv' := [(8, .int (0 : Int32)), (5, .int (x5 + z6.1)), (3, .int (x3 + z4.1)), (2, .int (x2 + z5.1)), (7, .int z4.1), (0, .ref x0), (1, .int x1), (4, .int x4), (6, .int x6)]) C dL_isSound_103 (by decide) rfl ?_
              refine q_sub (lv' := [(0, .ref x0), (1, .int x1), (2, .int (x2 + z5.1)), (3, .int (x3 + z4.1)), (4, .int x4), (5, .int (x5 + z6.1)), (6, .int x6), (7, .int z4.1), (8, .int (0 : Int32))]) [5, 6, 3, 2, 7, 1, 8, 4, 0] rfl ?_
              exact l_L_isSound_105 C ih FU V N z7.2 x1 (x2 + z5.1) (x3 + z4.1) x4 (x5 + z6.1) x6 z4.1 (0 : Int32) hf
            · have hf := ifF hf h
              refine q_iconst (v := 0) C dL_isSound_100 (by decide) ?_
              have hf := Option.some.inj hf
              subst hf
              exact q_zret (v := 0) C rfl (Nat.le_of_ble_eq_true rfl) (Nat.le_of_ble_eq_true rfl) rfl dL_isSound_101
          · have hf := ifT hf h
            refine q_iload C dL_isSound_82 3 rfl ?_
            refine q_if_gt C 100 dL_isSound_84 (by decide) (fun h => ?_) (fun h => ?_)
            · have hf := ifT hf h
              refine q_iconst (v := 0) C dL_isSound_100 (by decide) ?_
              have hf := Option.some.inj hf
              subst hf
              exact q_zret (v := 0) C rfl (Nat.le_of_ble_eq_true rfl) (Nat.le_of_ble_eq_true rfl) rfl dL_isSound_101
            · have hf := ifF hf h
              refine q_aload_n C dL_isSound_87 rfl 4 rfl ?_
              refine q_iload C dL_isSound_88 7 rfl ?_
              refine q_iload C dL_isSound_90 3 rfl ?_
              obtain ⟨z9, h_z9, hf⟩ := bnd hf
              refine q_cVIw C (c_X2_target l D cI cJ cN x0 p0 i0 n0 n1 n2 n3 n4 n5 n6 s0 s1 s2 s3 s4 s5 s6 rp ri pl V N z7.2 x6 z4.1 z9 h_z9) (mkV (fr := 2) (lo := 43) C xc_X2_target xm_L_64 xi_X2_target xe_X2_target xn_X2 hd_X2_target ⟨Nat.le_of_ble_eq_true rfl, Nat.le_of_ble_eq_true rfl⟩) 0 rfl rfl rfl rfl (Nat.le_of_ble_eq_true rfl) dL_isSound_92 ⟨Nat.le_of_ble_eq_true rfl, Nat.le_of_ble_eq_true rfl⟩ (fun w1 hp1 => ?_)
              subst hp1
              refine q_bipush (v := -9) C dL_isSound_95 (by decide) ?_
              refine q_icmp_eq C 102 dL_isSound_97 (by decide) (fun h => ?_) (fun h => ?_)
              · have hf := ifT hf h
                refine q_iconst (v := 0) C dL_isSound_102 (by decide) ?_
                refine q_istore (lv' := [(8, .int (0 : Int32)), (5, .int (x5 + z6.1)), (3, .int (x3 + z4.1)), (2, .int (x2 + z5.1)), (7, .int z4.1), (0, .ref x0), (1, .int x1), (4, .int x4), (6, .int x6)]) C dL_isSound_103 (by decide) rfl ?_
                refine q_sub (lv' := [(0, .ref x0), (1, .int x1), (2, .int (x2 + z5.1)), (3, .int (x3 + z4.1)), (4, .int x4), (5, .int (x5 + z6.1)), (6, .int x6), (7, .int z4.1), (8, .int (0 : Int32))]) [5, 6, 3, 2, 7, 1, 8, 4, 0] rfl ?_
                exact l_L_isSound_105 C ih FU V N z7.2 x1 (x2 + z5.1) (x3 + z4.1) x4 (x5 + z6.1) x6 z4.1 (0 : Int32) hf
              · have hf := ifF hf h
                refine q_iconst (v := 0) C dL_isSound_100 (by decide) ?_
                have hf := Option.some.inj hf
                subst hf
                exact q_zret (v := 0) C rfl (Nat.le_of_ble_eq_true rfl) (Nat.le_of_ble_eq_true rfl) rfl dL_isSound_101
set_option maxRecDepth 100000 in
set_option maxHeartbeats 4000000 in
theorem c_L_isSound (l : Launch) (D : va_G) (cI cJ cN : ClassId) (x0 p0 i0 n0 n1 n2 n3 n4 n5 n6 s0 s1 s2 s3 s4 s5 s6 : Nat) (rp ri : Nat → Option Nat) (pl : va_W)  (V : HS) (N : NS) (S : SS)  (z : Int32 × SS) (hf : f_L_isSound V N S = some z) : MI l D cI cJ cN yL_isSound (WS yL_isSound cL_isSound 10 (some .boolean)) { frames := 6, cells := 0, slots := 0, locals := 138 } [.ref x0] (wXX cI cJ cN x0 p0 i0 n0 n1 n2 n3 n4 n5 n6 s0 s1 s2 s3 s4 s5 s6 rp ri pl V N S) z.1 (fun w => w = wXX cI cJ cN x0 p0 i0 n0 n1 n2 n3 n4 n5 n6 s0 s1 s2 s3 s4 s5 s6 rp ri pl V N z.2) := by
  rw [f_L_isSound] at hf
  refine q_startI (lv := [(0, .ref x0)]) (by decide +kernel) rfl (Nat.le_of_ble_eq_true rfl) ?_
  intro p e s m below meth c C hin
  refine q_aload_n C dL_isSound_0 rfl 0 rfl ?_
  refine q_iconst (v := 0) C dL_isSound_1 (by decide) ?_
  obtain ⟨z1, h_z1, hf⟩ := bnd hf
  refine q_cVIw C (c_X2_told l D cI cJ cN x0 p0 i0 n0 n1 n2 n3 n4 n5 n6 s0 s1 s2 s3 s4 s5 s6 rp ri pl V N S (0 : Int32) z1 h_z1) (mkV (fr := 3) (lo := 66) C xc_X2_told xm_L_9 xi_X2_told xe_X2_told xn_X2 hd_X2_told ⟨Nat.le_of_ble_eq_true rfl, Nat.le_of_ble_eq_true rfl⟩) 0 rfl rfl rfl rfl (Nat.le_of_ble_eq_true rfl) dL_isSound_2 ⟨Nat.le_of_ble_eq_true rfl, Nat.le_of_ble_eq_true rfl⟩ (fun w1 hp1 => ?_)
  subst hp1
  refine q_istore_n (lv' := [(1, .int z1), (0, .ref x0)]) C dL_isSound_5 rfl (by decide) rfl ?_
  refine q_iconst (v := 0) C dL_isSound_6 (by decide) ?_
  refine q_istore_n (lv' := [(2, .int (0 : Int32)), (1, .int z1), (0, .ref x0)]) C dL_isSound_7 rfl (by decide) rfl ?_
  refine q_iconst (v := 0) C dL_isSound_8 (by decide) ?_
  refine q_istore_n (lv' := [(3, .int (0 : Int32)), (2, .int (0 : Int32)), (1, .int z1), (0, .ref x0)]) C dL_isSound_9 rfl (by decide) rfl ?_
  refine q_iconst (v := 0) C dL_isSound_10 (by decide) ?_
  refine q_istore (lv' := [(4, .int (0 : Int32)), (3, .int (0 : Int32)), (2, .int (0 : Int32)), (1, .int z1), (0, .ref x0)]) C dL_isSound_11 (by decide) rfl ?_
  refine q_iconst (v := 0) C dL_isSound_13 (by decide) ?_
  refine q_istore (lv' := [(5, .int (0 : Int32)), (4, .int (0 : Int32)), (3, .int (0 : Int32)), (2, .int (0 : Int32)), (1, .int z1), (0, .ref x0)]) C dL_isSound_14 (by decide) rfl ?_
  refine q_iconst (v := 0) C dL_isSound_16 (by decide) ?_
  refine q_istore (lv' := [(6, .int (0 : Int32)), (5, .int (0 : Int32)), (4, .int (0 : Int32)), (3, .int (0 : Int32)), (2, .int (0 : Int32)), (1, .int z1), (0, .ref x0)]) C dL_isSound_17 (by decide) rfl ?_
  refine q_sub (lv' := [(0, .ref x0), (1, .int z1), (2, .int (0 : Int32)), (3, .int (0 : Int32)), (4, .int (0 : Int32)), (5, .int (0 : Int32)), (6, .int (0 : Int32))]) [6, 5, 4, 3, 2, 1, 0] rfl ?_
  exact l_L_isSound_19 C FU V N S z1 (0 : Int32) (0 : Int32) (0 : Int32) (0 : Int32) (0 : Int32) hf
set_option maxRecDepth 100000 in
set_option maxHeartbeats 4000000 in
theorem l_L_isRoute_18 {p : Program} {l : Launch} {e : Env} {s : State} {m : MethodId} {args : Array Value} {below : List Frame} {meth : Method} {c : Code} {D : va_G} {cI cJ cN : ClassId} {W0 : va_W} {rp ri : Nat → Option Nat} {pl : va_W} {x0 p0 i0 n0 n1 n2 n3 n4 n5 n6 s0 s1 s2 s3 s4 s5 s6 : Nat} {z : Int32 × SS} (C : CX p l s m args meth c cL_isRoute 8 yL_isRoute.cls (WS yL_isRoute cL_isRoute 8 (some .boolean)) (some .boolean) D cI cJ cN (va_A W0 s.heap.size)) : ∀ (V : HS) (N : NS) (S : SS) (x1 : Int32) (x2 : Int32), g_L_isRoute_18 V N S x1 x2 = some z → WW p l e { frames := 6, cells := 0, slots := 0, locals := 142 } s m args below meth c D 8 (va_A W0 s.heap.size) 0 0 (QI below args s D W0 { frames := 6, cells := 0, slots := 0, locals := 142 } z.1 (fun w => w = wXX cI cJ cN x0 p0 i0 n0 n1 n2 n3 n4 n5 n6 s0 s1 s2 s3 s4 s5 s6 rp ri pl V N z.2)) 18 [(0, .ref x0), (1, .int x1), (2, .int x2)] [] (wXX cI cJ cN x0 p0 i0 n0 n1 n2 n3 n4 n5 n6 s0 s1 s2 s3 s4 s5 s6 rp ri pl V N S) := by
  intro V N S x1 x2 hf
  rw [g_L_isRoute_18] at hf
  refine q_aload_n C dL_isRoute_18 rfl 0 rfl ?_
  refine q_iload_n C dL_isRoute_19 rfl 1 rfl ?_
  refine q_iload_n C dL_isRoute_20 rfl 2 rfl ?_
  refine q_iconst (v := 0) C dL_isRoute_21 (by decide) ?_
  obtain ⟨z1, h_z1, hf⟩ := bnd hf
  refine q_cVIw C (c_X2_route l D cI cJ cN x0 p0 i0 n0 n1 n2 n3 n4 n5 n6 s0 s1 s2 s3 s4 s5 s6 rp ri pl V N S x1 x2 (0 : Int32) z1 h_z1) (mkV (fr := 5) (lo := 117) C xc_X2_route xm_L_70 xi_X2_route xe_X2_route xn_X2 hd_X2_route ⟨Nat.le_of_ble_eq_true rfl, Nat.le_of_ble_eq_true rfl⟩) 0 rfl rfl rfl rfl (Nat.le_of_ble_eq_true rfl) dL_isRoute_22 ⟨Nat.le_of_ble_eq_true rfl, Nat.le_of_ble_eq_true rfl⟩ (fun w1 hp1 => ?_)
  subst hp1
  refine q_bipush (v := -2) C dL_isRoute_25 (by decide) ?_
  refine q_icmp_ne C 58 dL_isRoute_27 (by decide) (fun h => ?_) (fun h => ?_)
  · have hf := ifF hf h
    refine q_iconst (v := 0) C dL_isRoute_58 (by decide) ?_
    have hf := Option.some.inj hf
    subst hf
    exact q_zret (v := 0) C rfl (Nat.le_of_ble_eq_true rfl) (Nat.le_of_ble_eq_true rfl) rfl dL_isRoute_59
  · have hf := ifT hf h
    refine q_aload_n C dL_isRoute_30 rfl 0 rfl ?_
    refine q_iload_n C dL_isRoute_31 rfl 1 rfl ?_
    refine q_iload_n C dL_isRoute_32 rfl 2 rfl ?_
    obtain ⟨z2, h_z2, hf⟩ := bnd hf
    refine q_cVIw C (c_X2_way l D cI cJ cN x0 p0 i0 n0 n1 n2 n3 n4 n5 n6 s0 s1 s2 s3 s4 s5 s6 rp ri pl V N z1.2 x1 x2 z2 h_z2) (mkV (fr := 4) (lo := 92) C xc_X2_way xm_L_74 xi_X2_way xe_X2_way xn_X2 hd_X2_way ⟨Nat.le_of_ble_eq_true rfl, Nat.le_of_ble_eq_true rfl⟩) 0 rfl rfl rfl rfl (Nat.le_of_ble_eq_true rfl) dL_isRoute_33 ⟨Nat.le_of_ble_eq_true rfl, Nat.le_of_ble_eq_true rfl⟩ (fun w1 hp1 => ?_)
    subst hp1
    refine q_bipush (v := -2) C dL_isRoute_36 (by decide) ?_
    refine q_icmp_ne C 58 dL_isRoute_38 (by decide) (fun h => ?_) (fun h => ?_)
    · have hf := ifF hf h
      refine q_iconst (v := 0) C dL_isRoute_58 (by decide) ?_
      have hf := Option.some.inj hf
      subst hf
      exact q_zret (v := 0) C rfl (Nat.le_of_ble_eq_true rfl) (Nat.le_of_ble_eq_true rfl) rfl dL_isRoute_59
    · have hf := ifT hf h
      refine q_aload_n C dL_isRoute_41 rfl 0 rfl ?_
      refine q_iload_n C dL_isRoute_42 rfl 1 rfl ?_
      refine q_iload_n C dL_isRoute_43 rfl 2 rfl ?_
      obtain ⟨z3, h_z3, hf⟩ := bnd hf
      refine q_cVLw C (c_X2_paths l D cI cJ cN x0 p0 i0 n0 n1 n2 n3 n4 n5 n6 s0 s1 s2 s3 s4 s5 s6 rp ri pl V N z2.2 x1 x2 z3 h_z3) (mkV (fr := 4) (lo := 92) C xc_X2_paths xm_L_77 xi_X2_paths xe_X2_paths xn_X2 hd_X2_paths ⟨Nat.le_of_ble_eq_true rfl, Nat.le_of_ble_eq_true rfl⟩) 0 rfl rfl rfl rfl (Nat.le_of_ble_eq_true rfl) dL_isRoute_44 ⟨Nat.le_of_ble_eq_true rfl, Nat.le_of_ble_eq_true rfl⟩ (fun w1 hp1 => ?_)
      subst hp1
      refine q_ldc2 (v := (-2)) C (ws_in xk_L_81) dL_isRoute_47 ?_
      refine q_lcmp C dL_isRoute_50 ?_
      refine q_if_ne C 58 dL_isRoute_51 (by decide) (fun h => ?_) (fun h => ?_)
      · have hf := ifF hf h
        refine q_iconst (v := 0) C dL_isRoute_58 (by decide) ?_
        have hf := Option.some.inj hf
        subst hf
        exact q_zret (v := 0) C rfl (Nat.le_of_ble_eq_true rfl) (Nat.le_of_ble_eq_true rfl) rfl dL_isRoute_59
      · have hf := ifT hf h
        refine q_iconst (v := 1) C dL_isRoute_54 (by decide) ?_
        refine q_goto C 59 dL_isRoute_55 (by decide) ?_
        have hf := Option.some.inj hf
        subst hf
        exact q_zret (v := 1) C rfl (Nat.le_of_ble_eq_true rfl) (Nat.le_of_ble_eq_true rfl) rfl dL_isRoute_59
set_option maxRecDepth 100000 in
set_option maxHeartbeats 4000000 in
theorem l_L_isRoute_278 {p : Program} {l : Launch} {e : Env} {s : State} {m : MethodId} {args : Array Value} {below : List Frame} {meth : Method} {c : Code} {D : va_G} {cI cJ cN : ClassId} {W0 : va_W} {rp ri : Nat → Option Nat} {pl : va_W} {x0 p0 i0 n0 n1 n2 n3 n4 n5 n6 s0 s1 s2 s3 s4 s5 s6 : Nat} {z : Int32 × SS} (C : CX p l s m args meth c cL_isRoute 8 yL_isRoute.cls (WS yL_isRoute cL_isRoute 8 (some .boolean)) (some .boolean) D cI cJ cN (va_A W0 s.heap.size)) : ∀ (V : HS) (N : NS) (S : SS) (x1 : Int32) (x2 : Int32) (y0 : Int32) (y1 : Int32), g_L_isRoute_278 V N S x1 x2 y0 y1 = some z → WW p l e { frames := 6, cells := 0, slots := 0, locals := 142 } s m args below meth c D 8 (va_A W0 s.heap.size) 0 0 (QI below args s D W0 { frames := 6, cells := 0, slots := 0, locals := 142 } z.1 (fun w => w = wXX cI cJ cN x0 p0 i0 n0 n1 n2 n3 n4 n5 n6 s0 s1 s2 s3 s4 s5 s6 rp ri pl V N z.2)) 278 [(0, .ref x0), (1, .int x1), (2, .int x2)] [.int y0, .int y1] (wXX cI cJ cN x0 p0 i0 n0 n1 n2 n3 n4 n5 n6 s0 s1 s2 s3 s4 s5 s6 rp ri pl V N S) := by
  intro V N S x1 x2 y0 y1 hf
  rw [g_L_isRoute_278] at hf
  refine q_icmp_ne C 301 dL_isRoute_278 (by decide) (fun h => ?_) (fun h => ?_)
  · have hf := ifF hf h
    refine q_iconst (v := 0) C dL_isRoute_301 (by decide) ?_
    have hf := Option.some.inj hf
    subst hf
    exact q_zret (v := 0) C rfl (Nat.le_of_ble_eq_true rfl) (Nat.le_of_ble_eq_true rfl) rfl dL_isRoute_302
  · have hf := ifT hf h
    refine q_iload_n C dL_isRoute_281 rfl 1 rfl ?_
    refine q_iload_n C dL_isRoute_282 rfl 2 rfl ?_
    refine q_icmp_ne C 297 dL_isRoute_283 (by decide) (fun h => ?_) (fun h => ?_)
    · have hf := ifF hf h
      refine q_iconst (v := 1) C dL_isRoute_297 (by decide) ?_
      refine q_goto C 302 dL_isRoute_298 (by decide) ?_
      have hf := Option.some.inj hf
      subst hf
      exact q_zret (v := 1) C rfl (Nat.le_of_ble_eq_true rfl) (Nat.le_of_ble_eq_true rfl) rfl dL_isRoute_302
    · have hf := ifT hf h
      refine q_aload_n C dL_isRoute_286 rfl 0 rfl ?_
      refine q_iload_n C dL_isRoute_287 rfl 1 rfl ?_
      refine q_iload_n C dL_isRoute_288 rfl 2 rfl ?_
      obtain ⟨z1, h_z1, hf⟩ := bnd hf
      refine q_cVLw C (c_X2_paths l D cI cJ cN x0 p0 i0 n0 n1 n2 n3 n4 n5 n6 s0 s1 s2 s3 s4 s5 s6 rp ri pl V N S x1 x2 z1 h_z1) (mkV (fr := 4) (lo := 92) C xc_X2_paths xm_L_77 xi_X2_paths xe_X2_paths xn_X2 hd_X2_paths ⟨Nat.le_of_ble_eq_true rfl, Nat.le_of_ble_eq_true rfl⟩) 0 rfl rfl rfl rfl (Nat.le_of_ble_eq_true rfl) dL_isRoute_289 ⟨Nat.le_of_ble_eq_true rfl, Nat.le_of_ble_eq_true rfl⟩ (fun w1 hp1 => ?_)
      subst hp1
      refine q_lconst (v := 1) C dL_isRoute_292 (by decide) ?_
      refine q_lcmp C dL_isRoute_293 ?_
      refine q_if_ne C 301 dL_isRoute_294 (by decide) (fun h => ?_) (fun h => ?_)
      · have hf := ifF hf h
        refine q_iconst (v := 0) C dL_isRoute_301 (by decide) ?_
        have hf := Option.some.inj hf
        subst hf
        exact q_zret (v := 0) C rfl (Nat.le_of_ble_eq_true rfl) (Nat.le_of_ble_eq_true rfl) rfl dL_isRoute_302
      · have hf := ifT hf h
        refine q_iconst (v := 1) C dL_isRoute_297 (by decide) ?_
        refine q_goto C 302 dL_isRoute_298 (by decide) ?_
        have hf := Option.some.inj hf
        subst hf
        exact q_zret (v := 1) C rfl (Nat.le_of_ble_eq_true rfl) (Nat.le_of_ble_eq_true rfl) rfl dL_isRoute_302
set_option maxRecDepth 100000 in
set_option maxHeartbeats 4000000 in
theorem l_L_isRoute_255 {p : Program} {l : Launch} {e : Env} {s : State} {m : MethodId} {args : Array Value} {below : List Frame} {meth : Method} {c : Code} {D : va_G} {cI cJ cN : ClassId} {W0 : va_W} {rp ri : Nat → Option Nat} {pl : va_W} {x0 p0 i0 n0 n1 n2 n3 n4 n5 n6 s0 s1 s2 s3 s4 s5 s6 : Nat} {z : Int32 × SS} (C : CX p l s m args meth c cL_isRoute 8 yL_isRoute.cls (WS yL_isRoute cL_isRoute 8 (some .boolean)) (some .boolean) D cI cJ cN (va_A W0 s.heap.size)) : ∀ (V : HS) (N : NS) (S : SS) (x1 : Int32) (x2 : Int32) (x6 : Int32) (y0 : Int32) (y1 : Int32), g_L_isRoute_255 V N S x1 x2 x6 y0 y1 = some z → WW p l e { frames := 6, cells := 0, slots := 0, locals := 142 } s m args below meth c D 8 (va_A W0 s.heap.size) 0 0 (QI below args s D W0 { frames := 6, cells := 0, slots := 0, locals := 142 } z.1 (fun w => w = wXX cI cJ cN x0 p0 i0 n0 n1 n2 n3 n4 n5 n6 s0 s1 s2 s3 s4 s5 s6 rp ri pl V N z.2)) 255 [(0, .ref x0), (1, .int x1), (2, .int x2), (6, .int x6)] [.int y0, .int y1] (wXX cI cJ cN x0 p0 i0 n0 n1 n2 n3 n4 n5 n6 s0 s1 s2 s3 s4 s5 s6 rp ri pl V N S) := by
  intro V N S x1 x2 x6 y0 y1 hf
  rw [g_L_isRoute_255] at hf
  refine q_icmp_ne C 301 dL_isRoute_255 (by decide) (fun h => ?_) (fun h => ?_)
  · have hf := ifF hf h
    refine q_iconst (v := 0) C dL_isRoute_301 (by decide) ?_
    have hf := Option.some.inj hf
    subst hf
    exact q_zret (v := 0) C rfl (Nat.le_of_ble_eq_true rfl) (Nat.le_of_ble_eq_true rfl) rfl dL_isRoute_302
  · have hf := ifT hf h
    refine q_iload_n C dL_isRoute_258 rfl 1 rfl ?_
    refine q_iload_n C dL_isRoute_259 rfl 2 rfl ?_
    refine q_icmp_ne C 267 dL_isRoute_260 (by decide) (fun h => ?_) (fun h => ?_)
    · have hf := ifF hf h
      refine q_iconst (v := 0) C dL_isRoute_267 (by decide) ?_
      refine q_iload C dL_isRoute_268 3 rfl ?_
      refine q_if_ne C 277 dL_isRoute_270 (by decide) (fun h => ?_) (fun h => ?_)
      · have hf := ifF hf h
        refine q_iconst (v := 0) C dL_isRoute_277 (by decide) ?_
        refine q_sub (lv' := [(0, .ref x0), (1, .int x1), (2, .int x2)]) [0, 1, 2] rfl ?_
        exact l_L_isRoute_278 C V N S x1 x2 (0 : Int32) (0 : Int32) hf
      · have hf := ifT hf h
        refine q_iconst (v := 1) C dL_isRoute_273 (by decide) ?_
        refine q_goto C 278 dL_isRoute_274 (by decide) ?_
        refine q_sub (lv' := [(0, .ref x0), (1, .int x1), (2, .int x2)]) [0, 1, 2] rfl ?_
        exact l_L_isRoute_278 C V N S x1 x2 (1 : Int32) (0 : Int32) hf
    · have hf := ifT hf h
      refine q_iconst (v := 1) C dL_isRoute_263 (by decide) ?_
      refine q_goto C 268 dL_isRoute_264 (by decide) ?_
      refine q_iload C dL_isRoute_268 3 rfl ?_
      refine q_if_ne C 277 dL_isRoute_270 (by decide) (fun h => ?_) (fun h => ?_)
      · have hf := ifF hf h
        refine q_iconst (v := 0) C dL_isRoute_277 (by decide) ?_
        refine q_sub (lv' := [(0, .ref x0), (1, .int x1), (2, .int x2)]) [0, 1, 2] rfl ?_
        exact l_L_isRoute_278 C V N S x1 x2 (0 : Int32) (1 : Int32) hf
      · have hf := ifT hf h
        refine q_iconst (v := 1) C dL_isRoute_273 (by decide) ?_
        refine q_goto C 278 dL_isRoute_274 (by decide) ?_
        refine q_sub (lv' := [(0, .ref x0), (1, .int x1), (2, .int x2)]) [0, 1, 2] rfl ?_
        exact l_L_isRoute_278 C V N S x1 x2 (1 : Int32) (1 : Int32) hf
set_option maxRecDepth 100000 in
set_option maxHeartbeats 4000000 in
theorem l_L_isRoute_220 {p : Program} {l : Launch} {e : Env} {s : State} {m : MethodId} {args : Array Value} {below : List Frame} {meth : Method} {c : Code} {D : va_G} {cI cJ cN : ClassId} {W0 : va_W} {rp ri : Nat → Option Nat} {pl : va_W} {x0 p0 i0 n0 n1 n2 n3 n4 n5 n6 s0 s1 s2 s3 s4 s5 s6 : Nat} {z : Int32 × SS} (C : CX p l s m args meth c cL_isRoute 8 yL_isRoute.cls (WS yL_isRoute cL_isRoute 8 (some .boolean)) (some .boolean) D cI cJ cN (va_A W0 s.heap.size)) : ∀ (V : HS) (N : NS) (S : SS) (x1 : Int32) (x2 : Int32) (x6 : Int32) (y0 : Int32), g_L_isRoute_220 V N S x1 x2 x6 y0 = some z → WW p l e { frames := 6, cells := 0, slots := 0, locals := 142 } s m args below meth c D 8 (va_A W0 s.heap.size) 0 0 (QI below args s D W0 { frames := 6, cells := 0, slots := 0, locals := 142 } z.1 (fun w => w = wXX cI cJ cN x0 p0 i0 n0 n1 n2 n3 n4 n5 n6 s0 s1 s2 s3 s4 s5 s6 rp ri pl V N z.2)) 220 [(0, .ref x0), (1, .int x1), (2, .int x2), (6, .int x6)] [.int y0] (wXX cI cJ cN x0 p0 i0 n0 n1 n2 n3 n4 n5 n6 s0 s1 s2 s3 s4 s5 s6 rp ri pl V N S) := by
  intro V N S x1 x2 x6 y0 hf
  rw [g_L_isRoute_220] at hf
  refine q_istore (lv' := [(7, .int y0), (0, .ref x0), (1, .int x1), (2, .int x2), (6, .int x6)]) C dL_isRoute_220 (by decide) rfl ?_
  refine q_iload C dL_isRoute_222 0 rfl ?_
  refine q_if_eq C 301 dL_isRoute_224 (by decide) (fun h => ?_) (fun h => ?_)
  · have hf := ifT hf h
    refine q_iconst (v := 0) C dL_isRoute_301 (by decide) ?_
    have hf := Option.some.inj hf
    subst hf
    exact q_zret (v := 0) C rfl (Nat.le_of_ble_eq_true rfl) (Nat.le_of_ble_eq_true rfl) rfl dL_isRoute_302
  · have hf := ifF hf h
    refine q_iload C dL_isRoute_227 4 rfl ?_
    refine q_bipush (v := -9) C dL_isRoute_229 (by decide) ?_
    refine q_icmp_ne C 238 dL_isRoute_231 (by decide) (fun h => ?_) (fun h => ?_)
    · have hf := ifF hf h
      refine q_iconst (v := 0) C dL_isRoute_238 (by decide) ?_
      refine q_aload_n C dL_isRoute_239 rfl 1 rfl ?_
      refine q_iload_n C dL_isRoute_240 rfl 2 rfl ?_
      refine q_iload_n C dL_isRoute_241 rfl 3 rfl ?_
      obtain ⟨z1, h_z1, hf⟩ := bnd hf
      refine q_cVLw C (c_X2_paths l D cI cJ cN x0 p0 i0 n0 n1 n2 n3 n4 n5 n6 s0 s1 s2 s3 s4 s5 s6 rp ri pl V N S x1 x2 z1 h_z1) (mkV (fr := 4) (lo := 92) C xc_X2_paths xm_L_77 xi_X2_paths xe_X2_paths xn_X2 hd_X2_paths ⟨Nat.le_of_ble_eq_true rfl, Nat.le_of_ble_eq_true rfl⟩) 0 rfl rfl rfl rfl (Nat.le_of_ble_eq_true rfl) dL_isRoute_242 ⟨Nat.le_of_ble_eq_true rfl, Nat.le_of_ble_eq_true rfl⟩ (fun w1 hp1 => ?_)
      subst hp1
      refine q_lconst (v := 0) C dL_isRoute_245 (by decide) ?_
      refine q_lcmp C dL_isRoute_246 ?_
      refine q_if_ne C 254 dL_isRoute_247 (by decide) (fun h => ?_) (fun h => ?_)
      · have hf := ifF hf h
        refine q_iconst (v := 0) C dL_isRoute_254 (by decide) ?_
        refine q_sub (lv' := [(0, .ref x0), (1, .int x1), (2, .int x2), (6, .int x6)]) [1, 2, 3, 4] rfl ?_
        exact l_L_isRoute_255 C V N z1.2 x1 x2 x6 (0 : Int32) (0 : Int32) hf
      · have hf := ifT hf h
        refine q_iconst (v := 1) C dL_isRoute_250 (by decide) ?_
        refine q_goto C 255 dL_isRoute_251 (by decide) ?_
        refine q_sub (lv' := [(0, .ref x0), (1, .int x1), (2, .int x2), (6, .int x6)]) [1, 2, 3, 4] rfl ?_
        exact l_L_isRoute_255 C V N z1.2 x1 x2 x6 (1 : Int32) (0 : Int32) hf
    · have hf := ifT hf h
      refine q_iconst (v := 1) C dL_isRoute_234 (by decide) ?_
      refine q_goto C 239 dL_isRoute_235 (by decide) ?_
      refine q_aload_n C dL_isRoute_239 rfl 1 rfl ?_
      refine q_iload_n C dL_isRoute_240 rfl 2 rfl ?_
      refine q_iload_n C dL_isRoute_241 rfl 3 rfl ?_
      obtain ⟨z2, h_z2, hf⟩ := bnd hf
      refine q_cVLw C (c_X2_paths l D cI cJ cN x0 p0 i0 n0 n1 n2 n3 n4 n5 n6 s0 s1 s2 s3 s4 s5 s6 rp ri pl V N S x1 x2 z2 h_z2) (mkV (fr := 4) (lo := 92) C xc_X2_paths xm_L_77 xi_X2_paths xe_X2_paths xn_X2 hd_X2_paths ⟨Nat.le_of_ble_eq_true rfl, Nat.le_of_ble_eq_true rfl⟩) 0 rfl rfl rfl rfl (Nat.le_of_ble_eq_true rfl) dL_isRoute_242 ⟨Nat.le_of_ble_eq_true rfl, Nat.le_of_ble_eq_true rfl⟩ (fun w1 hp1 => ?_)
      subst hp1
      refine q_lconst (v := 0) C dL_isRoute_245 (by decide) ?_
      refine q_lcmp C dL_isRoute_246 ?_
      refine q_if_ne C 254 dL_isRoute_247 (by decide) (fun h => ?_) (fun h => ?_)
      · have hf := ifF hf h
        refine q_iconst (v := 0) C dL_isRoute_254 (by decide) ?_
        refine q_sub (lv' := [(0, .ref x0), (1, .int x1), (2, .int x2), (6, .int x6)]) [1, 2, 3, 4] rfl ?_
        exact l_L_isRoute_255 C V N z2.2 x1 x2 x6 (0 : Int32) (1 : Int32) hf
      · have hf := ifT hf h
        refine q_iconst (v := 1) C dL_isRoute_250 (by decide) ?_
        refine q_goto C 255 dL_isRoute_251 (by decide) ?_
        refine q_sub (lv' := [(0, .ref x0), (1, .int x1), (2, .int x2), (6, .int x6)]) [1, 2, 3, 4] rfl ?_
        exact l_L_isRoute_255 C V N z2.2 x1 x2 x6 (1 : Int32) (1 : Int32) hf
set_option maxRecDepth 100000 in
set_option maxHeartbeats 4000000 in
theorem l_L_isRoute_196 {p : Program} {l : Launch} {e : Env} {s : State} {m : MethodId} {args : Array Value} {below : List Frame} {meth : Method} {c : Code} {D : va_G} {cI cJ cN : ClassId} {W0 : va_W} {rp ri : Nat → Option Nat} {pl : va_W} {x0 p0 i0 n0 n1 n2 n3 n4 n5 n6 s0 s1 s2 s3 s4 s5 s6 : Nat} {z : Int32 × SS} (C : CX p l s m args meth c cL_isRoute 8 yL_isRoute.cls (WS yL_isRoute cL_isRoute 8 (some .boolean)) (some .boolean) D cI cJ cN (va_A W0 s.heap.size)) : ∀ (V : HS) (N : NS) (S : SS) (x1 : Int32) (x2 : Int32) (x3 : Int32) (x5 : Int32) (x6 : Int32) (y0 : Int32) (y1 : Int32), g_L_isRoute_196 V N S x1 x2 x3 x5 x6 y0 y1 = some z → WW p l e { frames := 6, cells := 0, slots := 0, locals := 142 } s m args below meth c D 8 (va_A W0 s.heap.size) 0 0 (QI below args s D W0 { frames := 6, cells := 0, slots := 0, locals := 142 } z.1 (fun w => w = wXX cI cJ cN x0 p0 i0 n0 n1 n2 n3 n4 n5 n6 s0 s1 s2 s3 s4 s5 s6 rp ri pl V N z.2)) 196 [(0, .ref x0), (1, .int x1), (2, .int x2), (3, .int x3), (5, .int x5), (6, .int x6)] [.int y0, .int y1] (wXX cI cJ cN x0 p0 i0 n0 n1 n2 n3 n4 n5 n6 s0 s1 s2 s3 s4 s5 s6 rp ri pl V N S) := by
  intro V N S x1 x2 x3 x5 x6 y0 y1 hf
  rw [g_L_isRoute_196] at hf
  refine q_icmp_ne C 219 dL_isRoute_196 (by decide) (fun h => ?_) (fun h => ?_)
  · have hf := ifF hf h
    refine q_iconst (v := 0) C dL_isRoute_219 (by decide) ?_
    refine q_sub (lv' := [(0, .ref x0), (1, .int x1), (2, .int x2), (6, .int x6)]) [0, 1, 2, 5] rfl ?_
    exact l_L_isRoute_220 C V N S x1 x2 x6 (0 : Int32) hf
  · have hf := ifT hf h
    refine q_iload C dL_isRoute_199 4 rfl ?_
    refine q_if_eq C 215 dL_isRoute_201 (by decide) (fun h => ?_) (fun h => ?_)
    · have hf := ifT hf h
      refine q_iconst (v := 1) C dL_isRoute_215 (by decide) ?_
      refine q_goto C 220 dL_isRoute_216 (by decide) ?_
      refine q_sub (lv' := [(0, .ref x0), (1, .int x1), (2, .int x2), (6, .int x6)]) [0, 1, 2, 5] rfl ?_
      exact l_L_isRoute_220 C V N S x1 x2 x6 (1 : Int32) hf
    · have hf := ifF hf h
      refine q_iload C dL_isRoute_204 5 rfl ?_
      refine q_if_lt C 219 dL_isRoute_206 (by decide) (fun h => ?_) (fun h => ?_)
      · have hf := ifT hf h
        refine q_iconst (v := 0) C dL_isRoute_219 (by decide) ?_
        refine q_sub (lv' := [(0, .ref x0), (1, .int x1), (2, .int x2), (6, .int x6)]) [0, 1, 2, 5] rfl ?_
        exact l_L_isRoute_220 C V N S x1 x2 x6 (0 : Int32) hf
      · have hf := ifF hf h
        refine q_iload C dL_isRoute_209 5 rfl ?_
        refine q_iload_n C dL_isRoute_211 rfl 3 rfl ?_
        refine q_icmp_gt C 219 dL_isRoute_212 (by decide) (fun h => ?_) (fun h => ?_)
        · have hf := ifT hf h
          refine q_iconst (v := 0) C dL_isRoute_219 (by decide) ?_
          refine q_sub (lv' := [(0, .ref x0), (1, .int x1), (2, .int x2), (6, .int x6)]) [0, 1, 2, 5] rfl ?_
          exact l_L_isRoute_220 C V N S x1 x2 x6 (0 : Int32) hf
        · have hf := ifF hf h
          refine q_iconst (v := 1) C dL_isRoute_215 (by decide) ?_
          refine q_goto C 220 dL_isRoute_216 (by decide) ?_
          refine q_sub (lv' := [(0, .ref x0), (1, .int x1), (2, .int x2), (6, .int x6)]) [0, 1, 2, 5] rfl ?_
          exact l_L_isRoute_220 C V N S x1 x2 x6 (1 : Int32) hf
set_option maxRecDepth 100000 in
set_option maxHeartbeats 4000000 in
theorem l_L_isRoute_148 {p : Program} {l : Launch} {e : Env} {s : State} {m : MethodId} {args : Array Value} {below : List Frame} {meth : Method} {c : Code} {D : va_G} {cI cJ cN : ClassId} {W0 : va_W} {rp ri : Nat → Option Nat} {pl : va_W} {x0 p0 i0 n0 n1 n2 n3 n4 n5 n6 s0 s1 s2 s3 s4 s5 s6 : Nat} {z : Int32 × SS} (C : CX p l s m args meth c cL_isRoute 8 yL_isRoute.cls (WS yL_isRoute cL_isRoute 8 (some .boolean)) (some .boolean) D cI cJ cN (va_A W0 s.heap.size)) : ∀ (V : HS) (N : NS) (S : SS) (x1 : Int32) (x2 : Int32) (x3 : Int32) (x4 : Int32) (y0 : Int32), g_L_isRoute_148 V N S x1 x2 x3 x4 y0 = some z → WW p l e { frames := 6, cells := 0, slots := 0, locals := 142 } s m args below meth c D 8 (va_A W0 s.heap.size) 0 0 (QI below args s D W0 { frames := 6, cells := 0, slots := 0, locals := 142 } z.1 (fun w => w = wXX cI cJ cN x0 p0 i0 n0 n1 n2 n3 n4 n5 n6 s0 s1 s2 s3 s4 s5 s6 rp ri pl V N z.2)) 148 [(0, .ref x0), (1, .int x1), (2, .int x2), (3, .int x3), (4, .int x4)] [.int y0] (wXX cI cJ cN x0 p0 i0 n0 n1 n2 n3 n4 n5 n6 s0 s1 s2 s3 s4 s5 s6 rp ri pl V N S) := by
  intro V N S x1 x2 x3 x4 y0 hf
  rw [g_L_isRoute_148] at hf
  refine q_istore (lv' := [(5, .int y0), (0, .ref x0), (1, .int x1), (2, .int x2), (3, .int x3), (4, .int x4)]) C dL_isRoute_148 (by decide) rfl ?_
  refine q_aload_n C dL_isRoute_150 rfl 1 rfl ?_
  refine q_iload_n C dL_isRoute_151 rfl 2 rfl ?_
  refine q_iload_n C dL_isRoute_152 rfl 3 rfl ?_
  obtain ⟨z1, h_z1, hf⟩ := bnd hf
  refine q_cVIw C (c_X2_way l D cI cJ cN x0 p0 i0 n0 n1 n2 n3 n4 n5 n6 s0 s1 s2 s3 s4 s5 s6 rp ri pl V N S x1 x2 z1 h_z1) (mkV (fr := 4) (lo := 92) C xc_X2_way xm_L_74 xi_X2_way xe_X2_way xn_X2 hd_X2_way ⟨Nat.le_of_ble_eq_true rfl, Nat.le_of_ble_eq_true rfl⟩) 0 rfl rfl rfl rfl (Nat.le_of_ble_eq_true rfl) dL_isRoute_153 ⟨Nat.le_of_ble_eq_true rfl, Nat.le_of_ble_eq_true rfl⟩ (fun w1 hp1 => ?_)
  subst hp1
  refine q_istore (lv' := [(6, .int z1.1), (5, .int y0), (0, .ref x0), (1, .int x1), (2, .int x2), (3, .int x3), (4, .int x4)]) C dL_isRoute_156 (by decide) rfl ?_
  refine q_aload_n C dL_isRoute_158 rfl 2 rfl ?_
  refine q_iload_n C dL_isRoute_159 rfl 3 rfl ?_
  refine q_iload_n C dL_isRoute_160 rfl 4 rfl ?_
  refine q_iconst (v := 0) C dL_isRoute_161 (by decide) ?_
  obtain ⟨z2, h_z2, hf⟩ := bnd hf
  refine q_cVIw C (c_X2_route l D cI cJ cN x0 p0 i0 n0 n1 n2 n3 n4 n5 n6 s0 s1 s2 s3 s4 s5 s6 rp ri pl V N z1.2 x1 x2 (0 : Int32) z2 h_z2) (mkV (fr := 5) (lo := 117) C xc_X2_route xm_L_70 xi_X2_route xe_X2_route xn_X2 hd_X2_route ⟨Nat.le_of_ble_eq_true rfl, Nat.le_of_ble_eq_true rfl⟩) 0 rfl rfl rfl rfl (Nat.le_of_ble_eq_true rfl) dL_isRoute_162 ⟨Nat.le_of_ble_eq_true rfl, Nat.le_of_ble_eq_true rfl⟩ (fun w1 hp1 => ?_)
  subst hp1
  refine q_iload_n C dL_isRoute_165 rfl 3 rfl ?_
  refine q_icmp_ne C 219 dL_isRoute_166 (by decide) (fun h => ?_) (fun h => ?_)
  · have hf := ifF hf h
    refine q_iconst (v := 0) C dL_isRoute_219 (by decide) ?_
    refine q_sub (lv' := [(0, .ref x0), (1, .int x1), (2, .int x2), (6, .int z1.1)]) [2, 3, 4, 0] rfl ?_
    exact l_L_isRoute_220 C V N z2.2 x1 x2 z1.1 (0 : Int32) hf
  · have hf := ifT hf h
    refine q_aload_n C dL_isRoute_169 rfl 2 rfl ?_
    refine q_iload_n C dL_isRoute_170 rfl 3 rfl ?_
    refine q_iload_n C dL_isRoute_171 rfl 4 rfl ?_
    refine q_iload_n C dL_isRoute_172 rfl 5 rfl ?_
    refine q_iconst (v := 1) C dL_isRoute_173 (by decide) ?_
    refine q_iadd C dL_isRoute_174 ?_
    obtain ⟨z3, h_z3, hf⟩ := bnd hf
    refine q_cVIw C (c_X2_route l D cI cJ cN x0 p0 i0 n0 n1 n2 n3 n4 n5 n6 s0 s1 s2 s3 s4 s5 s6 rp ri pl V N z2.2 x1 x2 (x3 + (1 : Int32)) z3 h_z3) (mkV (fr := 5) (lo := 117) C xc_X2_route xm_L_70 xi_X2_route xe_X2_route xn_X2 hd_X2_route ⟨Nat.le_of_ble_eq_true rfl, Nat.le_of_ble_eq_true rfl⟩) 0 rfl rfl rfl rfl (Nat.le_of_ble_eq_true rfl) dL_isRoute_175 ⟨Nat.le_of_ble_eq_true rfl, Nat.le_of_ble_eq_true rfl⟩ (fun w1 hp1 => ?_)
    subst hp1
    refine q_bipush (v := -9) C dL_isRoute_178 (by decide) ?_
    refine q_icmp_ne C 219 dL_isRoute_180 (by decide) (fun h => ?_) (fun h => ?_)
    · have hf := ifF hf h
      refine q_iconst (v := 0) C dL_isRoute_219 (by decide) ?_
      refine q_sub (lv' := [(0, .ref x0), (1, .int x1), (2, .int x2), (6, .int z1.1)]) [2, 3, 4, 0] rfl ?_
      exact l_L_isRoute_220 C V N z3.2 x1 x2 z1.1 (0 : Int32) hf
    · have hf := ifT hf h
      refine q_iload C dL_isRoute_183 1 rfl ?_
      refine q_iload C dL_isRoute_185 6 rfl ?_
      refine q_iload_n C dL_isRoute_187 rfl 4 rfl ?_
      refine q_icmp_ne C 195 dL_isRoute_188 (by decide) (fun h => ?_) (fun h => ?_)
      · have hf := ifF hf h
        refine q_iconst (v := 0) C dL_isRoute_195 (by decide) ?_
        refine q_sub (lv' := [(0, .ref x0), (1, .int x1), (2, .int x2), (3, .int x3), (5, .int y0), (6, .int z1.1)]) [2, 3, 4, 5, 1, 0] rfl ?_
        exact l_L_isRoute_196 C V N z3.2 x1 x2 x3 y0 z1.1 (0 : Int32) y0 hf
      · have hf := ifT hf h
        refine q_iconst (v := 1) C dL_isRoute_191 (by decide) ?_
        refine q_goto C 196 dL_isRoute_192 (by decide) ?_
        refine q_sub (lv' := [(0, .ref x0), (1, .int x1), (2, .int x2), (3, .int x3), (5, .int y0), (6, .int z1.1)]) [2, 3, 4, 5, 1, 0] rfl ?_
        exact l_L_isRoute_196 C V N z3.2 x1 x2 x3 y0 z1.1 (1 : Int32) y0 hf
set_option maxRecDepth 100000 in
set_option maxHeartbeats 4000000 in
theorem l_L_isRoute_74 {p : Program} {l : Launch} {e : Env} {s : State} {m : MethodId} {args : Array Value} {below : List Frame} {meth : Method} {c : Code} {D : va_G} {cI cJ cN : ClassId} {W0 : va_W} {rp ri : Nat → Option Nat} {pl : va_W} {x0 p0 i0 n0 n1 n2 n3 n4 n5 n6 s0 s1 s2 s3 s4 s5 s6 : Nat} {z : Int32 × SS} (C : CX p l s m args meth c cL_isRoute 8 yL_isRoute.cls (WS yL_isRoute cL_isRoute 8 (some .boolean)) (some .boolean) D cI cJ cN (va_A W0 s.heap.size)) : ∀ (fu : Nat) (V : HS) (N : NS) (S : SS) (x1 : Int32) (x2 : Int32) (x3 : Int32) (x4 : Int32) (x5 : Int32), g_L_isRoute_74 fu V N S x1 x2 x3 x4 x5 = some z → WW p l e { frames := 6, cells := 0, slots := 0, locals := 142 } s m args below meth c D 8 (va_A W0 s.heap.size) 0 0 (QI below args s D W0 { frames := 6, cells := 0, slots := 0, locals := 142 } z.1 (fun w => w = wXX cI cJ cN x0 p0 i0 n0 n1 n2 n3 n4 n5 n6 s0 s1 s2 s3 s4 s5 s6 rp ri pl V N z.2)) 74 [(0, .ref x0), (1, .int x1), (2, .int x2), (3, .int x3), (4, .int x4), (5, .int x5)] [] (wXX cI cJ cN x0 p0 i0 n0 n1 n2 n3 n4 n5 n6 s0 s1 s2 s3 s4 s5 s6 rp ri pl V N S) := by
  intro fu
  induction fu with
  | zero =>
    intro V N S x1 x2 x3 x4 x5 hf
    rw [g_L_isRoute_74] at hf
    cases hf
  | succ fu ih =>
    intro V N S x1 x2 x3 x4 x5 hf
    rw [g_L_isRoute_74] at hf
    refine q_iload C dL_isRoute_74 5 rfl ?_
    refine q_iload_n C dL_isRoute_76 rfl 3 rfl ?_
    refine q_icmp_gt C 131 dL_isRoute_77 (by decide) (fun h => ?_) (fun h => ?_)
    · have hf := ifT hf h
      refine q_aload_n C dL_isRoute_131 rfl 0 rfl ?_
      refine q_iload_n C dL_isRoute_132 rfl 1 rfl ?_
      refine q_iload_n C dL_isRoute_133 rfl 2 rfl ?_
      refine q_bipush (v := -2) C dL_isRoute_134 (by decide) ?_
      obtain ⟨z1, h_z1, hf⟩ := bnd hf
      refine q_cVIw C (c_X2_route l D cI cJ cN x0 p0 i0 n0 n1 n2 n3 n4 n5 n6 s0 s1 s2 s3 s4 s5 s6 rp ri pl V N S x1 x2 (-2 : Int32) z1 h_z1) (mkV (fr := 5) (lo := 117) C xc_X2_route xm_L_70 xi_X2_route xe_X2_route xn_X2 hd_X2_route ⟨Nat.le_of_ble_eq_true rfl, Nat.le_of_ble_eq_true rfl⟩) 0 rfl rfl rfl rfl (Nat.le_of_ble_eq_true rfl) dL_isRoute_136 ⟨Nat.le_of_ble_eq_true rfl, Nat.le_of_ble_eq_true rfl⟩ (fun w1 hp1 => ?_)
      subst hp1
      refine q_iconst (v := 1) C dL_isRoute_139 (by decide) ?_
      refine q_icmp_ne C 147 dL_isRoute_140 (by decide) (fun h => ?_) (fun h => ?_)
      · have hf := ifF hf h
        refine q_iconst (v := 0) C dL_isRoute_147 (by decide) ?_
        refine q_sub (lv' := [(0, .ref x0), (1, .int x1), (2, .int x2), (3, .int x3), (4, .int x4)]) [0, 1, 2, 3, 4] rfl ?_
        exact l_L_isRoute_148 C V N z1.2 x1 x2 x3 x4 (0 : Int32) hf
      · have hf := ifT hf h
        refine q_iconst (v := 1) C dL_isRoute_143 (by decide) ?_
        refine q_goto C 148 dL_isRoute_144 (by decide) ?_
        refine q_sub (lv' := [(0, .ref x0), (1, .int x1), (2, .int x2), (3, .int x3), (4, .int x4)]) [0, 1, 2, 3, 4] rfl ?_
        exact l_L_isRoute_148 C V N z1.2 x1 x2 x3 x4 (1 : Int32) hf
    · have hf := ifF hf h
      refine q_aload_n C dL_isRoute_80 rfl 0 rfl ?_
      refine q_iload_n C dL_isRoute_81 rfl 1 rfl ?_
      refine q_iload_n C dL_isRoute_82 rfl 2 rfl ?_
      refine q_iload C dL_isRoute_83 5 rfl ?_
      obtain ⟨z2, h_z2, hf⟩ := bnd hf
      refine q_cVIw C (c_X2_route l D cI cJ cN x0 p0 i0 n0 n1 n2 n3 n4 n5 n6 s0 s1 s2 s3 s4 s5 s6 rp ri pl V N S x1 x2 x5 z2 h_z2) (mkV (fr := 5) (lo := 117) C xc_X2_route xm_L_70 xi_X2_route xe_X2_route xn_X2 hd_X2_route ⟨Nat.le_of_ble_eq_true rfl, Nat.le_of_ble_eq_true rfl⟩) 0 rfl rfl rfl rfl (Nat.le_of_ble_eq_true rfl) dL_isRoute_85 ⟨Nat.le_of_ble_eq_true rfl, Nat.le_of_ble_eq_true rfl⟩ (fun w1 hp1 => ?_)
      subst hp1
      refine q_istore (lv' := [(6, .int z2.1), (0, .ref x0), (1, .int x1), (2, .int x2), (3, .int x3), (4, .int x4), (5, .int x5)]) C dL_isRoute_88 (by decide) rfl ?_
      refine q_aload_n C dL_isRoute_90 rfl 1 rfl ?_
      refine q_iload C dL_isRoute_91 0 rfl ?_
      refine q_iload_n C dL_isRoute_93 rfl 3 rfl ?_
      obtain ⟨z3, h_z3, hf⟩ := bnd hf
      refine q_cVIw C (c_X2_distance l D cI cJ cN x0 p0 i0 n0 n1 n2 n3 n4 n5 n6 s0 s1 s2 s3 s4 s5 s6 rp ri pl V N z2.2 z2.1 x2 z3 h_z3) (mkV (fr := 2) (lo := 43) C xc_X2_distance xm_L_67 xi_X2_distance xe_X2_distance xn_X2 hd_X2_distance ⟨Nat.le_of_ble_eq_true rfl, Nat.le_of_ble_eq_true rfl⟩) 0 rfl rfl rfl rfl (Nat.le_of_ble_eq_true rfl) dL_isRoute_94 ⟨Nat.le_of_ble_eq_true rfl, Nat.le_of_ble_eq_true rfl⟩ (fun w1 hp1 => ?_)
      subst hp1
      refine q_aload_n C dL_isRoute_97 rfl 1 rfl ?_
      refine q_iload C dL_isRoute_98 5 rfl ?_
      refine q_iload_n C dL_isRoute_100 rfl 3 rfl ?_
      obtain ⟨z4, h_z4, hf⟩ := bnd hf
      refine q_cVIw C (c_X2_distance l D cI cJ cN x0 p0 i0 n0 n1 n2 n3 n4 n5 n6 s0 s1 s2 s3 s4 s5 s6 rp ri pl V N z2.2 x4 x2 z4 h_z4) (mkV (fr := 2) (lo := 43) C xc_X2_distance xm_L_67 xi_X2_distance xe_X2_distance xn_X2 hd_X2_distance ⟨Nat.le_of_ble_eq_true rfl, Nat.le_of_ble_eq_true rfl⟩) 0 rfl rfl rfl rfl (Nat.le_of_ble_eq_true rfl) dL_isRoute_101 ⟨Nat.le_of_ble_eq_true rfl, Nat.le_of_ble_eq_true rfl⟩ (fun w1 hp1 => ?_)
      subst hp1
      refine q_icmp_ge C 119 dL_isRoute_104 (by decide) (fun h => ?_) (fun h => ?_)
      · have hf := ifT hf h
        refine q_iconst (v := 0) C dL_isRoute_119 (by decide) ?_
        have hf := Option.some.inj hf
        subst hf
        exact q_zret (v := 0) C rfl (Nat.le_of_ble_eq_true rfl) (Nat.le_of_ble_eq_true rfl) rfl dL_isRoute_120
      · have hf := ifF hf h
        refine q_aload_n C dL_isRoute_107 rfl 1 rfl ?_
        refine q_iload C dL_isRoute_108 5 rfl ?_
        refine q_iload C dL_isRoute_110 0 rfl ?_
        obtain ⟨z5, h_z5, hf⟩ := bnd hf
        refine q_cVIw C (c_X2_way l D cI cJ cN x0 p0 i0 n0 n1 n2 n3 n4 n5 n6 s0 s1 s2 s3 s4 s5 s6 rp ri pl V N z2.2 x4 z2.1 z5 h_z5) (mkV (fr := 4) (lo := 92) C xc_X2_way xm_L_74 xi_X2_way xe_X2_way xn_X2 hd_X2_way ⟨Nat.le_of_ble_eq_true rfl, Nat.le_of_ble_eq_true rfl⟩) 0 rfl rfl rfl rfl (Nat.le_of_ble_eq_true rfl) dL_isRoute_112 ⟨Nat.le_of_ble_eq_true rfl, Nat.le_of_ble_eq_true rfl⟩ (fun w1 hp1 => ?_)
        subst hp1
        refine q_iconst (v := 1) C dL_isRoute_115 (by decide) ?_
        refine q_icmp_eq C 121 dL_isRoute_116 (by decide) (fun h => ?_) (fun h => ?_)
        · have hf := ifT hf h
          refine q_iload C dL_isRoute_121 0 rfl ?_
          refine q_istore (lv' := [(4, .int z2.1), (6, .int z2.1), (0, .ref x0), (1, .int x1), (2, .int x2), (3, .int x3), (5, .int x5)]) C dL_isRoute_123 (by decide) rfl ?_
          refine q_iinc (v := (x5 + (1 : Int32))) (lv' := [(5, .int (x5 + (1 : Int32))), (4, .int z2.1), (6, .int z2.1), (0, .ref x0), (1, .int x1), (2, .int x2), (3, .int x3)]) C dL_isRoute_125 6 rfl rfl (by decide) rfl ?_
          refine q_goto C 74 dL_isRoute_128 (by decide) ?_
          refine q_sub (lv' := [(0, .ref x0), (1, .int x1), (2, .int x2), (3, .int x3), (4, .int z2.1), (5, .int (x5 + (1 : Int32)))]) [3, 4, 5, 6, 1, 0] rfl ?_
          exact ih V N z5.2 x1 x2 x3 z2.1 (x5 + (1 : Int32)) hf
        · have hf := ifF hf h
          refine q_iconst (v := 0) C dL_isRoute_119 (by decide) ?_
          have hf := Option.some.inj hf
          subst hf
          exact q_zret (v := 0) C rfl (Nat.le_of_ble_eq_true rfl) (Nat.le_of_ble_eq_true rfl) rfl dL_isRoute_120
set_option maxRecDepth 100000 in
set_option maxHeartbeats 4000000 in
theorem c_L_isRoute (l : Launch) (D : va_G) (cI cJ cN : ClassId) (x0 p0 i0 n0 n1 n2 n3 n4 n5 n6 s0 s1 s2 s3 s4 s5 s6 : Nat) (rp ri : Nat → Option Nat) (pl : va_W)  (V : HS) (N : NS) (S : SS) (x1 : Int32) (x2 : Int32) (z : Int32 × SS) (hf : f_L_isRoute V N S x1 x2 = some z) : MI l D cI cJ cN yL_isRoute (WS yL_isRoute cL_isRoute 8 (some .boolean)) { frames := 6, cells := 0, slots := 0, locals := 142 } [.ref x0, .int x1, .int x2] (wXX cI cJ cN x0 p0 i0 n0 n1 n2 n3 n4 n5 n6 s0 s1 s2 s3 s4 s5 s6 rp ri pl V N S) z.1 (fun w => w = wXX cI cJ cN x0 p0 i0 n0 n1 n2 n3 n4 n5 n6 s0 s1 s2 s3 s4 s5 s6 rp ri pl V N z.2) := by
  rw [f_L_isRoute] at hf
  refine q_startI (lv := [(0, .ref x0), (1, .int x1), (2, .int x2)]) (by decide +kernel) rfl (Nat.le_of_ble_eq_true rfl) ?_
  intro p e s m below meth c C hin
  refine q_aload_n C dL_isRoute_0 rfl 0 rfl ?_
  refine q_iload_n C dL_isRoute_1 rfl 1 rfl ?_
  refine q_iconst (v := 1) C dL_isRoute_2 (by decide) ?_
  obtain ⟨z1, h_z1, hf⟩ := bnd hf
  refine q_cVIw C (c_X2_node l D cI cJ cN x0 p0 i0 n0 n1 n2 n3 n4 n5 n6 s0 s1 s2 s3 s4 s5 s6 rp ri pl V N S x1 (1 : Int32) z1 h_z1) (mkV (fr := 5) (lo := 116) C xc_X2_node xm_L_61 xi_X2_node xe_X2_node xn_X2 hd_X2_node ⟨Nat.le_of_ble_eq_true rfl, Nat.le_of_ble_eq_true rfl⟩) 0 rfl rfl rfl rfl (Nat.le_of_ble_eq_true rfl) dL_isRoute_3 ⟨Nat.le_of_ble_eq_true rfl, Nat.le_of_ble_eq_true rfl⟩ (fun w1 hp1 => ?_)
  subst hp1
  refine q_if_eq C 18 dL_isRoute_6 (by decide) (fun h => ?_) (fun h => ?_)
  · have hf := ifT hf h
    exact l_L_isRoute_18 C V N z1.2 x1 x2 hf
  · have hf := ifF hf h
    refine q_aload_n C dL_isRoute_9 rfl 0 rfl ?_
    refine q_iload_n C dL_isRoute_10 rfl 2 rfl ?_
    refine q_iconst (v := 1) C dL_isRoute_11 (by decide) ?_
    obtain ⟨z2, h_z2, hf⟩ := bnd hf
    refine q_cVIw C (c_X2_node l D cI cJ cN x0 p0 i0 n0 n1 n2 n3 n4 n5 n6 s0 s1 s2 s3 s4 s5 s6 rp ri pl V N z1.2 x2 (1 : Int32) z2 h_z2) (mkV (fr := 5) (lo := 116) C xc_X2_node xm_L_61 xi_X2_node xe_X2_node xn_X2 hd_X2_node ⟨Nat.le_of_ble_eq_true rfl, Nat.le_of_ble_eq_true rfl⟩) 0 rfl rfl rfl rfl (Nat.le_of_ble_eq_true rfl) dL_isRoute_12 ⟨Nat.le_of_ble_eq_true rfl, Nat.le_of_ble_eq_true rfl⟩ (fun w1 hp1 => ?_)
    subst hp1
    refine q_if_ne C 60 dL_isRoute_15 (by decide) (fun h => ?_) (fun h => ?_)
    · have hf := ifF hf h
      refine q_aload_n C dL_isRoute_60 rfl 0 rfl ?_
      refine q_iload_n C dL_isRoute_61 rfl 1 rfl ?_
      refine q_iload_n C dL_isRoute_62 rfl 2 rfl ?_
      refine q_iconst (v := -1) C dL_isRoute_63 (by decide) ?_
      obtain ⟨z3, h_z3, hf⟩ := bnd hf
      refine q_cVIw C (c_X2_route l D cI cJ cN x0 p0 i0 n0 n1 n2 n3 n4 n5 n6 s0 s1 s2 s3 s4 s5 s6 rp ri pl V N z2.2 x1 x2 (-1 : Int32) z3 h_z3) (mkV (fr := 5) (lo := 117) C xc_X2_route xm_L_70 xi_X2_route xe_X2_route xn_X2 hd_X2_route ⟨Nat.le_of_ble_eq_true rfl, Nat.le_of_ble_eq_true rfl⟩) 0 rfl rfl rfl rfl (Nat.le_of_ble_eq_true rfl) dL_isRoute_64 ⟨Nat.le_of_ble_eq_true rfl, Nat.le_of_ble_eq_true rfl⟩ (fun w1 hp1 => ?_)
      subst hp1
      refine q_istore_n (lv' := [(3, .int z3.1), (0, .ref x0), (1, .int x1), (2, .int x2)]) C dL_isRoute_67 rfl (by decide) rfl ?_
      refine q_iload_n C dL_isRoute_68 rfl 2 rfl ?_
      refine q_istore (lv' := [(4, .int x1), (3, .int z3.1), (0, .ref x0), (1, .int x1), (2, .int x2)]) C dL_isRoute_69 (by decide) rfl ?_
      refine q_iconst (v := 1) C dL_isRoute_71 (by decide) ?_
      refine q_istore (lv' := [(5, .int (1 : Int32)), (4, .int x1), (3, .int z3.1), (0, .ref x0), (1, .int x1), (2, .int x2)]) C dL_isRoute_72 (by decide) rfl ?_
      refine q_sub (lv' := [(0, .ref x0), (1, .int x1), (2, .int x2), (3, .int z3.1), (4, .int x1), (5, .int (1 : Int32))]) [3, 4, 5, 2, 1, 0] rfl ?_
      exact l_L_isRoute_74 C FU V N z3.2 x1 x2 z3.1 x1 (1 : Int32) hf
    · have hf := ifT hf h
      exact l_L_isRoute_18 C V N z2.2 x1 x2 hf
set_option maxRecDepth 100000 in
set_option maxHeartbeats 4000000 in
theorem l_L_areMeasures_161 {p : Program} {l : Launch} {e : Env} {s : State} {m : MethodId} {args : Array Value} {below : List Frame} {meth : Method} {c : Code} {D : va_G} {cI cJ cN : ClassId} {W0 : va_W} {rp ri : Nat → Option Nat} {pl : va_W} {x0 p0 i0 n0 n1 n2 n3 n4 n5 n6 s0 s1 s2 s3 s4 s5 s6 : Nat} {z : Int32 × SS} (C : CX p l s m args meth c cL_areMeasures 7 yL_areMeasures.cls (WS yL_areMeasures cL_areMeasures 7 (some .boolean)) (some .boolean) D cI cJ cN (va_A W0 s.heap.size)) : ∀ (V : HS) (N : NS) (S : SS) (y0 : Int32), g_L_areMeasures_161 V N S y0 = some z → WW p l e { frames := 7, cells := 0, slots := 0, locals := 153 } s m args below meth c D 7 (va_A W0 s.heap.size) 0 0 (QI below args s D W0 { frames := 7, cells := 0, slots := 0, locals := 153 } z.1 (fun w => w = wXX cI cJ cN x0 p0 i0 n0 n1 n2 n3 n4 n5 n6 s0 s1 s2 s3 s4 s5 s6 rp ri pl V N z.2)) 161 [(0, .ref x0)] [.int y0] (wXX cI cJ cN x0 p0 i0 n0 n1 n2 n3 n4 n5 n6 s0 s1 s2 s3 s4 s5 s6 rp ri pl V N S) := by
  intro V N S y0 hf
  rw [g_L_areMeasures_161] at hf
  refine q_istore (lv' := [(5, .int y0), (0, .ref x0)]) C dL_areMeasures_161 (by decide) rfl ?_
  refine q_aload_n C dL_areMeasures_163 rfl 1 rfl ?_
  obtain ⟨z1, h_z1, hf⟩ := bnd hf
  refine q_cVFw C (c_X2_mean l D cI cJ cN x0 p0 i0 n0 n1 n2 n3 n4 n5 n6 s0 s1 s2 s3 s4 s5 s6 rp ri pl V N S z1 h_z1) (mkV (fr := 6) (lo := 132) C xc_X2_mean xm_L_86 xi_X2_mean xe_X2_mean xn_X2 hd_X2_mean ⟨Nat.le_of_ble_eq_true rfl, Nat.le_of_ble_eq_true rfl⟩) 0 rfl rfl rfl rfl (Nat.le_of_ble_eq_true rfl) dL_areMeasures_164 ⟨Nat.le_of_ble_eq_true rfl, Nat.le_of_ble_eq_true rfl⟩ (fun w1 hp1 => ?_)
  subst hp1
  refine q_fstore (lv' := [(6, .float z1.1), (5, .int y0), (0, .ref x0)]) C dL_areMeasures_167 (by decide) rfl ?_
  refine q_iload C dL_areMeasures_169 1 rfl ?_
  refine q_if_eq C 225 dL_areMeasures_171 (by decide) (fun h => ?_) (fun h => ?_)
  · have hf := ifT hf h
    refine q_iconst (v := 0) C dL_areMeasures_225 (by decide) ?_
    have hf := Option.some.inj hf
    subst hf
    exact q_zret (v := 0) C rfl (Nat.le_of_ble_eq_true rfl) (Nat.le_of_ble_eq_true rfl) rfl dL_areMeasures_226
  · have hf := ifF hf h
    refine q_aload_n C dL_areMeasures_174 rfl 2 rfl ?_
    refine q_iconst (v := 4) C dL_areMeasures_175 (by decide) ?_
    obtain ⟨z2, h_z2, hf⟩ := bnd hf
    refine q_cVIw C (c_X2_measure l D cI cJ cN x0 p0 i0 n0 n1 n2 n3 n4 n5 n6 s0 s1 s2 s3 s4 s5 s6 rp ri pl V N z1.2 (4 : Int32) z2 h_z2) (mkV (fr := 6) (lo := 132) C xc_X2_measure xm_L_83 xi_X2_measure xe_X2_measure xn_X2 hd_X2_measure ⟨Nat.le_of_ble_eq_true rfl, Nat.le_of_ble_eq_true rfl⟩) 0 rfl rfl rfl rfl (Nat.le_of_ble_eq_true rfl) dL_areMeasures_176 ⟨Nat.le_of_ble_eq_true rfl, Nat.le_of_ble_eq_true rfl⟩ (fun w1 hp1 => ?_)
    subst hp1
    refine q_if_ne C 192 dL_areMeasures_179 (by decide) (fun h => ?_) (fun h => ?_)
    · have hf := ifF hf h
      refine q_fload C dL_areMeasures_192 0 rfl ?_
      refine q_fconst1 C dL_areMeasures_194 ?_
      refine q_fcmp C dL_areMeasures_195 ?_
      refine q_if_lt C 225 dL_areMeasures_196 (by decide) (fun h => ?_) (fun h => ?_)
      · have hf := ifT hf h
        refine q_iconst (v := 0) C dL_areMeasures_225 (by decide) ?_
        have hf := Option.some.inj hf
        subst hf
        exact q_zret (v := 0) C rfl (Nat.le_of_ble_eq_true rfl) (Nat.le_of_ble_eq_true rfl) rfl dL_areMeasures_226
      · have hf := ifF hf h
        refine q_fload C dL_areMeasures_199 0 rfl ?_
        refine q_aload_n C dL_areMeasures_201 rfl 2 rfl ?_
        refine q_iconst (v := 5) C dL_areMeasures_202 (by decide) ?_
        obtain ⟨z3, h_z3, hf⟩ := bnd hf
        refine q_cVIw C (c_X2_measure l D cI cJ cN x0 p0 i0 n0 n1 n2 n3 n4 n5 n6 s0 s1 s2 s3 s4 s5 s6 rp ri pl V N z2.2 (5 : Int32) z3 h_z3) (mkV (fr := 6) (lo := 132) C xc_X2_measure xm_L_83 xi_X2_measure xe_X2_measure xn_X2 hd_X2_measure ⟨Nat.le_of_ble_eq_true rfl, Nat.le_of_ble_eq_true rfl⟩) 0 rfl rfl rfl rfl (Nat.le_of_ble_eq_true rfl) dL_areMeasures_203 ⟨Nat.le_of_ble_eq_true rfl, Nat.le_of_ble_eq_true rfl⟩ (fun w1 hp1 => ?_)
        subst hp1
        refine q_i2f C dL_areMeasures_206 ?_
        refine q_fcmp C dL_areMeasures_207 ?_
        refine q_if_gt C 225 dL_areMeasures_208 (by decide) (fun h => ?_) (fun h => ?_)
        · have hf := ifT hf h
          refine q_iconst (v := 0) C dL_areMeasures_225 (by decide) ?_
          have hf := Option.some.inj hf
          subst hf
          exact q_zret (v := 0) C rfl (Nat.le_of_ble_eq_true rfl) (Nat.le_of_ble_eq_true rfl) rfl dL_areMeasures_226
        · have hf := ifF hf h
          refine q_aload_n C dL_areMeasures_211 rfl 2 rfl ?_
          refine q_bipush (v := 8) C dL_areMeasures_212 (by decide) ?_
          obtain ⟨z4, h_z4, hf⟩ := bnd hf
          refine q_cVIw C (c_X2_measure l D cI cJ cN x0 p0 i0 n0 n1 n2 n3 n4 n5 n6 s0 s1 s2 s3 s4 s5 s6 rp ri pl V N z3.2 (8 : Int32) z4 h_z4) (mkV (fr := 6) (lo := 132) C xc_X2_measure xm_L_83 xi_X2_measure xe_X2_measure xn_X2 hd_X2_measure ⟨Nat.le_of_ble_eq_true rfl, Nat.le_of_ble_eq_true rfl⟩) 0 rfl rfl rfl rfl (Nat.le_of_ble_eq_true rfl) dL_areMeasures_214 ⟨Nat.le_of_ble_eq_true rfl, Nat.le_of_ble_eq_true rfl⟩ (fun w1 hp1 => ?_)
          subst hp1
          refine q_iconst (v := -1) C dL_areMeasures_217 (by decide) ?_
          refine q_icmp_ne C 225 dL_areMeasures_218 (by decide) (fun h => ?_) (fun h => ?_)
          · have hf := ifF hf h
            refine q_iconst (v := 0) C dL_areMeasures_225 (by decide) ?_
            have hf := Option.some.inj hf
            subst hf
            exact q_zret (v := 0) C rfl (Nat.le_of_ble_eq_true rfl) (Nat.le_of_ble_eq_true rfl) rfl dL_areMeasures_226
          · have hf := ifT hf h
            refine q_iconst (v := 1) C dL_areMeasures_221 (by decide) ?_
            refine q_goto C 226 dL_areMeasures_222 (by decide) ?_
            have hf := Option.some.inj hf
            subst hf
            exact q_zret (v := 1) C rfl (Nat.le_of_ble_eq_true rfl) (Nat.le_of_ble_eq_true rfl) rfl dL_areMeasures_226
    · have hf := ifT hf h
      refine q_fload C dL_areMeasures_182 0 rfl ?_
      refine q_fconst0 C dL_areMeasures_184 ?_
      refine q_fcmp C dL_areMeasures_185 ?_
      refine q_if_ne C 225 dL_areMeasures_186 (by decide) (fun h => ?_) (fun h => ?_)
      · have hf := ifF hf h
        refine q_iconst (v := 0) C dL_areMeasures_225 (by decide) ?_
        have hf := Option.some.inj hf
        subst hf
        exact q_zret (v := 0) C rfl (Nat.le_of_ble_eq_true rfl) (Nat.le_of_ble_eq_true rfl) rfl dL_areMeasures_226
      · have hf := ifT hf h
        refine q_goto C 211 dL_areMeasures_189 (by decide) ?_
        refine q_aload_n C dL_areMeasures_211 rfl 2 rfl ?_
        refine q_bipush (v := 8) C dL_areMeasures_212 (by decide) ?_
        obtain ⟨z5, h_z5, hf⟩ := bnd hf
        refine q_cVIw C (c_X2_measure l D cI cJ cN x0 p0 i0 n0 n1 n2 n3 n4 n5 n6 s0 s1 s2 s3 s4 s5 s6 rp ri pl V N z2.2 (8 : Int32) z5 h_z5) (mkV (fr := 6) (lo := 132) C xc_X2_measure xm_L_83 xi_X2_measure xe_X2_measure xn_X2 hd_X2_measure ⟨Nat.le_of_ble_eq_true rfl, Nat.le_of_ble_eq_true rfl⟩) 0 rfl rfl rfl rfl (Nat.le_of_ble_eq_true rfl) dL_areMeasures_214 ⟨Nat.le_of_ble_eq_true rfl, Nat.le_of_ble_eq_true rfl⟩ (fun w1 hp1 => ?_)
        subst hp1
        refine q_iconst (v := -1) C dL_areMeasures_217 (by decide) ?_
        refine q_icmp_ne C 225 dL_areMeasures_218 (by decide) (fun h => ?_) (fun h => ?_)
        · have hf := ifF hf h
          refine q_iconst (v := 0) C dL_areMeasures_225 (by decide) ?_
          have hf := Option.some.inj hf
          subst hf
          exact q_zret (v := 0) C rfl (Nat.le_of_ble_eq_true rfl) (Nat.le_of_ble_eq_true rfl) rfl dL_areMeasures_226
        · have hf := ifT hf h
          refine q_iconst (v := 1) C dL_areMeasures_221 (by decide) ?_
          refine q_goto C 226 dL_areMeasures_222 (by decide) ?_
          have hf := Option.some.inj hf
          subst hf
          exact q_zret (v := 1) C rfl (Nat.le_of_ble_eq_true rfl) (Nat.le_of_ble_eq_true rfl) rfl dL_areMeasures_226
set_option maxRecDepth 100000 in
set_option maxHeartbeats 4000000 in
theorem l_L_areMeasures_20 {p : Program} {l : Launch} {e : Env} {s : State} {m : MethodId} {args : Array Value} {below : List Frame} {meth : Method} {c : Code} {D : va_G} {cI cJ cN : ClassId} {W0 : va_W} {rp ri : Nat → Option Nat} {pl : va_W} {x0 p0 i0 n0 n1 n2 n3 n4 n5 n6 s0 s1 s2 s3 s4 s5 s6 : Nat} {z : Int32 × SS} (C : CX p l s m args meth c cL_areMeasures 7 yL_areMeasures.cls (WS yL_areMeasures cL_areMeasures 7 (some .boolean)) (some .boolean) D cI cJ cN (va_A W0 s.heap.size)) : ∀ (fu : Nat) (V : HS) (N : NS) (S : SS) (x1 : Int32) (x2 : Int32) (x3 : Int32) (x4 : Int32) (x5 : Int32), g_L_areMeasures_20 fu V N S x1 x2 x3 x4 x5 = some z → WW p l e { frames := 7, cells := 0, slots := 0, locals := 153 } s m args below meth c D 7 (va_A W0 s.heap.size) 0 0 (QI below args s D W0 { frames := 7, cells := 0, slots := 0, locals := 153 } z.1 (fun w => w = wXX cI cJ cN x0 p0 i0 n0 n1 n2 n3 n4 n5 n6 s0 s1 s2 s3 s4 s5 s6 rp ri pl V N z.2)) 20 [(0, .ref x0), (1, .int x1), (2, .int x2), (3, .int x3), (4, .int x4), (5, .int x5)] [] (wXX cI cJ cN x0 p0 i0 n0 n1 n2 n3 n4 n5 n6 s0 s1 s2 s3 s4 s5 s6 rp ri pl V N S) := by
  intro fu
  induction fu with
  | zero =>
    intro V N S x1 x2 x3 x4 x5 hf
    rw [g_L_areMeasures_20] at hf
    cases hf
  | succ fu ih =>
    intro V N S x1 x2 x3 x4 x5 hf
    rw [g_L_areMeasures_20] at hf
    refine q_iload C dL_areMeasures_20 5 rfl ?_
    refine q_aload_n C dL_areMeasures_22 rfl 0 rfl ?_
    refine q_iconst (v := 0) C dL_areMeasures_23 (by decide) ?_
    obtain ⟨z1, h_z1, hf⟩ := bnd hf
    refine q_cVIw C (c_X2_told l D cI cJ cN x0 p0 i0 n0 n1 n2 n3 n4 n5 n6 s0 s1 s2 s3 s4 s5 s6 rp ri pl V N S (0 : Int32) z1 h_z1) (mkV (fr := 3) (lo := 66) C xc_X2_told xm_L_9 xi_X2_told xe_X2_told xn_X2 hd_X2_told ⟨Nat.le_of_ble_eq_true rfl, Nat.le_of_ble_eq_true rfl⟩) 0 rfl rfl rfl rfl (Nat.le_of_ble_eq_true rfl) dL_areMeasures_24 ⟨Nat.le_of_ble_eq_true rfl, Nat.le_of_ble_eq_true rfl⟩ (fun w1 hp1 => ?_)
    subst hp1
    refine q_icmp_ge C 74 dL_areMeasures_27 (by decide) (fun h => ?_) (fun h => ?_)
    · have hf := ifT hf h
      refine q_iload_n C dL_areMeasures_74 rfl 2 rfl ?_
      refine q_iload_n C dL_areMeasures_75 rfl 1 rfl ?_
      refine q_iload_n C dL_areMeasures_76 rfl 1 rfl ?_
      refine q_iconst (v := 1) C dL_areMeasures_77 (by decide) ?_
      refine q_isub C dL_areMeasures_78 ?_
      refine q_imul C dL_areMeasures_79 ?_
      refine q_icmp_ne C 160 dL_areMeasures_80 (by decide) (fun h => ?_) (fun h => ?_)
      · have hf := ifF hf h
        refine q_iconst (v := 0) C dL_areMeasures_160 (by decide) ?_
        refine q_sub (lv' := [(0, .ref x0)]) [0] rfl ?_
        exact l_L_areMeasures_161 C V N S (0 : Int32) hf
      · have hf := ifT hf h
        refine q_aload_n C dL_areMeasures_83 rfl 0 rfl ?_
        refine q_iconst (v := 1) C dL_areMeasures_84 (by decide) ?_
        obtain ⟨z2, h_z2, hf⟩ := bnd hf
        refine q_cVIw C (c_X2_measure l D cI cJ cN x0 p0 i0 n0 n1 n2 n3 n4 n5 n6 s0 s1 s2 s3 s4 s5 s6 rp ri pl V N S (1 : Int32) z2 h_z2) (mkV (fr := 6) (lo := 132) C xc_X2_measure xm_L_83 xi_X2_measure xe_X2_measure xn_X2 hd_X2_measure ⟨Nat.le_of_ble_eq_true rfl, Nat.le_of_ble_eq_true rfl⟩) 0 rfl rfl rfl rfl (Nat.le_of_ble_eq_true rfl) dL_areMeasures_85 ⟨Nat.le_of_ble_eq_true rfl, Nat.le_of_ble_eq_true rfl⟩ (fun w1 hp1 => ?_)
        subst hp1
        refine q_iload_n C dL_areMeasures_88 rfl 3 rfl ?_
        refine q_icmp_ne C 160 dL_areMeasures_89 (by decide) (fun h => ?_) (fun h => ?_)
        · have hf := ifF hf h
          refine q_iconst (v := 0) C dL_areMeasures_160 (by decide) ?_
          refine q_sub (lv' := [(0, .ref x0)]) [0] rfl ?_
          exact l_L_areMeasures_161 C V N z2.2 (0 : Int32) hf
        · have hf := ifT hf h
          refine q_aload_n C dL_areMeasures_92 rfl 0 rfl ?_
          refine q_iconst (v := 2) C dL_areMeasures_93 (by decide) ?_
          obtain ⟨z3, h_z3, hf⟩ := bnd hf
          refine q_cVIw C (c_X2_measure l D cI cJ cN x0 p0 i0 n0 n1 n2 n3 n4 n5 n6 s0 s1 s2 s3 s4 s5 s6 rp ri pl V N z2.2 (2 : Int32) z3 h_z3) (mkV (fr := 6) (lo := 132) C xc_X2_measure xm_L_83 xi_X2_measure xe_X2_measure xn_X2 hd_X2_measure ⟨Nat.le_of_ble_eq_true rfl, Nat.le_of_ble_eq_true rfl⟩) 0 rfl rfl rfl rfl (Nat.le_of_ble_eq_true rfl) dL_areMeasures_94 ⟨Nat.le_of_ble_eq_true rfl, Nat.le_of_ble_eq_true rfl⟩ (fun w1 hp1 => ?_)
          subst hp1
          refine q_iload C dL_areMeasures_97 4 rfl ?_
          refine q_icmp_ne C 160 dL_areMeasures_99 (by decide) (fun h => ?_) (fun h => ?_)
          · have hf := ifF hf h
            refine q_iconst (v := 0) C dL_areMeasures_160 (by decide) ?_
            refine q_sub (lv' := [(0, .ref x0)]) [0] rfl ?_
            exact l_L_areMeasures_161 C V N z3.2 (0 : Int32) hf
          · have hf := ifT hf h
            refine q_aload_n C dL_areMeasures_102 rfl 0 rfl ?_
            refine q_iconst (v := 3) C dL_areMeasures_103 (by decide) ?_
            obtain ⟨z4, h_z4, hf⟩ := bnd hf
            refine q_cVIw C (c_X2_measure l D cI cJ cN x0 p0 i0 n0 n1 n2 n3 n4 n5 n6 s0 s1 s2 s3 s4 s5 s6 rp ri pl V N z3.2 (3 : Int32) z4 h_z4) (mkV (fr := 6) (lo := 132) C xc_X2_measure xm_L_83 xi_X2_measure xe_X2_measure xn_X2 hd_X2_measure ⟨Nat.le_of_ble_eq_true rfl, Nat.le_of_ble_eq_true rfl⟩) 0 rfl rfl rfl rfl (Nat.le_of_ble_eq_true rfl) dL_areMeasures_104 ⟨Nat.le_of_ble_eq_true rfl, Nat.le_of_ble_eq_true rfl⟩ (fun w1 hp1 => ?_)
            subst hp1
            refine q_aload_n C dL_areMeasures_107 rfl 0 rfl ?_
            refine q_iconst (v := 1) C dL_areMeasures_108 (by decide) ?_
            obtain ⟨z5, h_z5, hf⟩ := bnd hf
            refine q_cVIw C (c_X2_measure l D cI cJ cN x0 p0 i0 n0 n1 n2 n3 n4 n5 n6 s0 s1 s2 s3 s4 s5 s6 rp ri pl V N z4.2 (1 : Int32) z5 h_z5) (mkV (fr := 6) (lo := 132) C xc_X2_measure xm_L_83 xi_X2_measure xe_X2_measure xn_X2 hd_X2_measure ⟨Nat.le_of_ble_eq_true rfl, Nat.le_of_ble_eq_true rfl⟩) 0 rfl rfl rfl rfl (Nat.le_of_ble_eq_true rfl) dL_areMeasures_109 ⟨Nat.le_of_ble_eq_true rfl, Nat.le_of_ble_eq_true rfl⟩ (fun w1 hp1 => ?_)
            subst hp1
            refine q_icmp_lt C 160 dL_areMeasures_112 (by decide) (fun h => ?_) (fun h => ?_)
            · have hf := ifT hf h
              refine q_iconst (v := 0) C dL_areMeasures_160 (by decide) ?_
              refine q_sub (lv' := [(0, .ref x0)]) [0] rfl ?_
              exact l_L_areMeasures_161 C V N z5.2 (0 : Int32) hf
            · have hf := ifF hf h
              refine q_aload_n C dL_areMeasures_115 rfl 0 rfl ?_
              refine q_iconst (v := 4) C dL_areMeasures_116 (by decide) ?_
              obtain ⟨z6, h_z6, hf⟩ := bnd hf
              refine q_cVIw C (c_X2_measure l D cI cJ cN x0 p0 i0 n0 n1 n2 n3 n4 n5 n6 s0 s1 s2 s3 s4 s5 s6 rp ri pl V N z5.2 (4 : Int32) z6 h_z6) (mkV (fr := 6) (lo := 132) C xc_X2_measure xm_L_83 xi_X2_measure xe_X2_measure xn_X2 hd_X2_measure ⟨Nat.le_of_ble_eq_true rfl, Nat.le_of_ble_eq_true rfl⟩) 0 rfl rfl rfl rfl (Nat.le_of_ble_eq_true rfl) dL_areMeasures_117 ⟨Nat.le_of_ble_eq_true rfl, Nat.le_of_ble_eq_true rfl⟩ (fun w1 hp1 => ?_)
              subst hp1
              refine q_aload_n C dL_areMeasures_120 rfl 0 rfl ?_
              refine q_iconst (v := 1) C dL_areMeasures_121 (by decide) ?_
              obtain ⟨z7, h_z7, hf⟩ := bnd hf
              refine q_cVIw C (c_X2_measure l D cI cJ cN x0 p0 i0 n0 n1 n2 n3 n4 n5 n6 s0 s1 s2 s3 s4 s5 s6 rp ri pl V N z6.2 (1 : Int32) z7 h_z7) (mkV (fr := 6) (lo := 132) C xc_X2_measure xm_L_83 xi_X2_measure xe_X2_measure xn_X2 hd_X2_measure ⟨Nat.le_of_ble_eq_true rfl, Nat.le_of_ble_eq_true rfl⟩) 0 rfl rfl rfl rfl (Nat.le_of_ble_eq_true rfl) dL_areMeasures_122 ⟨Nat.le_of_ble_eq_true rfl, Nat.le_of_ble_eq_true rfl⟩ (fun w1 hp1 => ?_)
              subst hp1
              refine q_icmp_gt C 160 dL_areMeasures_125 (by decide) (fun h => ?_) (fun h => ?_)
              · have hf := ifT hf h
                refine q_iconst (v := 0) C dL_areMeasures_160 (by decide) ?_
                refine q_sub (lv' := [(0, .ref x0)]) [0] rfl ?_
                exact l_L_areMeasures_161 C V N z7.2 (0 : Int32) hf
              · have hf := ifF hf h
                refine q_aload_n C dL_areMeasures_128 rfl 0 rfl ?_
                refine q_bipush (v := 7) C dL_areMeasures_129 (by decide) ?_
                obtain ⟨z8, h_z8, hf⟩ := bnd hf
                refine q_cVIw C (c_X2_measure l D cI cJ cN x0 p0 i0 n0 n1 n2 n3 n4 n5 n6 s0 s1 s2 s3 s4 s5 s6 rp ri pl V N z7.2 (7 : Int32) z8 h_z8) (mkV (fr := 6) (lo := 132) C xc_X2_measure xm_L_83 xi_X2_measure xe_X2_measure xn_X2 hd_X2_measure ⟨Nat.le_of_ble_eq_true rfl, Nat.le_of_ble_eq_true rfl⟩) 0 rfl rfl rfl rfl (Nat.le_of_ble_eq_true rfl) dL_areMeasures_131 ⟨Nat.le_of_ble_eq_true rfl, Nat.le_of_ble_eq_true rfl⟩ (fun w1 hp1 => ?_)
                subst hp1
                refine q_aload_n C dL_areMeasures_134 rfl 0 rfl ?_
                refine q_iconst (v := 4) C dL_areMeasures_135 (by decide) ?_
                obtain ⟨z9, h_z9, hf⟩ := bnd hf
                refine q_cVIw C (c_X2_measure l D cI cJ cN x0 p0 i0 n0 n1 n2 n3 n4 n5 n6 s0 s1 s2 s3 s4 s5 s6 rp ri pl V N z8.2 (4 : Int32) z9 h_z9) (mkV (fr := 6) (lo := 132) C xc_X2_measure xm_L_83 xi_X2_measure xe_X2_measure xn_X2 hd_X2_measure ⟨Nat.le_of_ble_eq_true rfl, Nat.le_of_ble_eq_true rfl⟩) 0 rfl rfl rfl rfl (Nat.le_of_ble_eq_true rfl) dL_areMeasures_136 ⟨Nat.le_of_ble_eq_true rfl, Nat.le_of_ble_eq_true rfl⟩ (fun w1 hp1 => ?_)
                subst hp1
                refine q_icmp_gt C 160 dL_areMeasures_139 (by decide) (fun h => ?_) (fun h => ?_)
                · have hf := ifT hf h
                  refine q_iconst (v := 0) C dL_areMeasures_160 (by decide) ?_
                  refine q_sub (lv' := [(0, .ref x0)]) [0] rfl ?_
                  exact l_L_areMeasures_161 C V N z9.2 (0 : Int32) hf
                · have hf := ifF hf h
                  refine q_aload_n C dL_areMeasures_142 rfl 0 rfl ?_
                  refine q_bipush (v := 6) C dL_areMeasures_143 (by decide) ?_
                  obtain ⟨z10, h_z10, hf⟩ := bnd hf
                  refine q_cVIw C (c_X2_measure l D cI cJ cN x0 p0 i0 n0 n1 n2 n3 n4 n5 n6 s0 s1 s2 s3 s4 s5 s6 rp ri pl V N z9.2 (6 : Int32) z10 h_z10) (mkV (fr := 6) (lo := 132) C xc_X2_measure xm_L_83 xi_X2_measure xe_X2_measure xn_X2 hd_X2_measure ⟨Nat.le_of_ble_eq_true rfl, Nat.le_of_ble_eq_true rfl⟩) 0 rfl rfl rfl rfl (Nat.le_of_ble_eq_true rfl) dL_areMeasures_145 ⟨Nat.le_of_ble_eq_true rfl, Nat.le_of_ble_eq_true rfl⟩ (fun w1 hp1 => ?_)
                  subst hp1
                  refine q_aload_n C dL_areMeasures_148 rfl 0 rfl ?_
                  refine q_iconst (v := 4) C dL_areMeasures_149 (by decide) ?_
                  obtain ⟨z11, h_z11, hf⟩ := bnd hf
                  refine q_cVIw C (c_X2_measure l D cI cJ cN x0 p0 i0 n0 n1 n2 n3 n4 n5 n6 s0 s1 s2 s3 s4 s5 s6 rp ri pl V N z10.2 (4 : Int32) z11 h_z11) (mkV (fr := 6) (lo := 132) C xc_X2_measure xm_L_83 xi_X2_measure xe_X2_measure xn_X2 hd_X2_measure ⟨Nat.le_of_ble_eq_true rfl, Nat.le_of_ble_eq_true rfl⟩) 0 rfl rfl rfl rfl (Nat.le_of_ble_eq_true rfl) dL_areMeasures_150 ⟨Nat.le_of_ble_eq_true rfl, Nat.le_of_ble_eq_true rfl⟩ (fun w1 hp1 => ?_)
                  subst hp1
                  refine q_icmp_lt C 160 dL_areMeasures_153 (by decide) (fun h => ?_) (fun h => ?_)
                  · have hf := ifT hf h
                    refine q_iconst (v := 0) C dL_areMeasures_160 (by decide) ?_
                    refine q_sub (lv' := [(0, .ref x0)]) [0] rfl ?_
                    exact l_L_areMeasures_161 C V N z11.2 (0 : Int32) hf
                  · have hf := ifF hf h
                    refine q_iconst (v := 1) C dL_areMeasures_156 (by decide) ?_
                    refine q_goto C 161 dL_areMeasures_157 (by decide) ?_
                    refine q_sub (lv' := [(0, .ref x0)]) [0] rfl ?_
                    exact l_L_areMeasures_161 C V N z11.2 (1 : Int32) hf
    · have hf := ifF hf h
      refine q_iload_n C dL_areMeasures_30 rfl 3 rfl ?_
      refine q_aload_n C dL_areMeasures_31 rfl 0 rfl ?_
      refine q_iload C dL_areMeasures_32 5 rfl ?_
      refine q_iconst (v := 5) C dL_areMeasures_34 (by decide) ?_
      obtain ⟨z12, h_z12, hf⟩ := bnd hf
      refine q_cVIw C (c_X2_node l D cI cJ cN x0 p0 i0 n0 n1 n2 n3 n4 n5 n6 s0 s1 s2 s3 s4 s5 s6 rp ri pl V N S x5 (5 : Int32) z12 h_z12) (mkV (fr := 5) (lo := 116) C xc_X2_node xm_L_61 xi_X2_node xe_X2_node xn_X2 hd_X2_node ⟨Nat.le_of_ble_eq_true rfl, Nat.le_of_ble_eq_true rfl⟩) 0 rfl rfl rfl rfl (Nat.le_of_ble_eq_true rfl) dL_areMeasures_35 ⟨Nat.le_of_ble_eq_true rfl, Nat.le_of_ble_eq_true rfl⟩ (fun w1 hp1 => ?_)
      subst hp1
      refine q_iadd C dL_areMeasures_38 ?_
      refine q_istore_n (lv' := [(3, .int (x3 + z12.1)), (0, .ref x0), (1, .int x1), (2, .int x2), (4, .int x4), (5, .int x5)]) C dL_areMeasures_39 rfl (by decide) rfl ?_
      refine q_aload_n C dL_areMeasures_40 rfl 1 rfl ?_
      refine q_iload C dL_areMeasures_41 5 rfl ?_
      refine q_bipush (v := 6) C dL_areMeasures_43 (by decide) ?_
      obtain ⟨z13, h_z13, hf⟩ := bnd hf
      refine q_cVIw C (c_X2_node l D cI cJ cN x0 p0 i0 n0 n1 n2 n3 n4 n5 n6 s0 s1 s2 s3 s4 s5 s6 rp ri pl V N z12.2 x5 (6 : Int32) z13 h_z13) (mkV (fr := 5) (lo := 116) C xc_X2_node xm_L_61 xi_X2_node xe_X2_node xn_X2 hd_X2_node ⟨Nat.le_of_ble_eq_true rfl, Nat.le_of_ble_eq_true rfl⟩) 0 rfl rfl rfl rfl (Nat.le_of_ble_eq_true rfl) dL_areMeasures_45 ⟨Nat.le_of_ble_eq_true rfl, Nat.le_of_ble_eq_true rfl⟩ (fun w1 hp1 => ?_)
      subst hp1
      refine q_iload C dL_areMeasures_48 4 rfl ?_
      refine q_icmp_le C 64 dL_areMeasures_50 (by decide) (fun h => ?_) (fun h => ?_)
      · have hf := ifT hf h
        refine q_iload C dL_areMeasures_64 4 rfl ?_
        refine q_istore (lv' := [(4, .int x4), (3, .int (x3 + z12.1)), (0, .ref x0), (1, .int x1), (2, .int x2), (5, .int x5)]) C dL_areMeasures_66 (by decide) rfl ?_
        refine q_iinc (v := (x5 + (1 : Int32))) (lv' := [(5, .int (x5 + (1 : Int32))), (4, .int x4), (3, .int (x3 + z12.1)), (0, .ref x0), (1, .int x1), (2, .int x2)]) C dL_areMeasures_68 5 rfl rfl (by decide) rfl ?_
        refine q_goto C 20 dL_areMeasures_71 (by decide) ?_
        refine q_sub (lv' := [(0, .ref x0), (1, .int x1), (2, .int x2), (3, .int (x3 + z12.1)), (4, .int x4), (5, .int (x5 + (1 : Int32)))]) [3, 4, 5, 2, 1, 0] rfl ?_
        exact ih V N z13.2 x1 x2 (x3 + z12.1) x4 (x5 + (1 : Int32)) hf
      · have hf := ifF hf h
        refine q_aload_n C dL_areMeasures_53 rfl 1 rfl ?_
        refine q_iload C dL_areMeasures_54 5 rfl ?_
        refine q_bipush (v := 6) C dL_areMeasures_56 (by decide) ?_
        obtain ⟨z14, h_z14, hf⟩ := bnd hf
        refine q_cVIw C (c_X2_node l D cI cJ cN x0 p0 i0 n0 n1 n2 n3 n4 n5 n6 s0 s1 s2 s3 s4 s5 s6 rp ri pl V N z13.2 x5 (6 : Int32) z14 h_z14) (mkV (fr := 5) (lo := 116) C xc_X2_node xm_L_61 xi_X2_node xe_X2_node xn_X2 hd_X2_node ⟨Nat.le_of_ble_eq_true rfl, Nat.le_of_ble_eq_true rfl⟩) 0 rfl rfl rfl rfl (Nat.le_of_ble_eq_true rfl) dL_areMeasures_58 ⟨Nat.le_of_ble_eq_true rfl, Nat.le_of_ble_eq_true rfl⟩ (fun w1 hp1 => ?_)
        subst hp1
        refine q_goto C 66 dL_areMeasures_61 (by decide) ?_
        refine q_istore (lv' := [(4, .int z14.1), (3, .int (x3 + z12.1)), (0, .ref x0), (1, .int x1), (2, .int x2), (5, .int x5)]) C dL_areMeasures_66 (by decide) rfl ?_
        refine q_iinc (v := (x5 + (1 : Int32))) (lv' := [(5, .int (x5 + (1 : Int32))), (4, .int z14.1), (3, .int (x3 + z12.1)), (0, .ref x0), (1, .int x1), (2, .int x2)]) C dL_areMeasures_68 5 rfl rfl (by decide) rfl ?_
        refine q_goto C 20 dL_areMeasures_71 (by decide) ?_
        refine q_sub (lv' := [(0, .ref x0), (1, .int x1), (2, .int x2), (3, .int (x3 + z12.1)), (4, .int z14.1), (5, .int (x5 + (1 : Int32)))]) [3, 4, 5, 2, 1, 0] rfl ?_
        exact ih V N z14.2 x1 x2 (x3 + z12.1) z14.1 (x5 + (1 : Int32)) hf
set_option maxRecDepth 100000 in
set_option maxHeartbeats 4000000 in
theorem c_L_areMeasures (l : Launch) (D : va_G) (cI cJ cN : ClassId) (x0 p0 i0 n0 n1 n2 n3 n4 n5 n6 s0 s1 s2 s3 s4 s5 s6 : Nat) (rp ri : Nat → Option Nat) (pl : va_W)  (V : HS) (N : NS) (S : SS)  (z : Int32 × SS) (hf : f_L_areMeasures V N S = some z) : MI l D cI cJ cN yL_areMeasures (WS yL_areMeasures cL_areMeasures 7 (some .boolean)) { frames := 7, cells := 0, slots := 0, locals := 153 } [.ref x0] (wXX cI cJ cN x0 p0 i0 n0 n1 n2 n3 n4 n5 n6 s0 s1 s2 s3 s4 s5 s6 rp ri pl V N S) z.1 (fun w => w = wXX cI cJ cN x0 p0 i0 n0 n1 n2 n3 n4 n5 n6 s0 s1 s2 s3 s4 s5 s6 rp ri pl V N z.2) := by
  rw [f_L_areMeasures] at hf
  refine q_startI (lv := [(0, .ref x0)]) (by decide +kernel) rfl (Nat.le_of_ble_eq_true rfl) ?_
  intro p e s m below meth c C hin
  refine q_aload_n C dL_areMeasures_0 rfl 0 rfl ?_
  refine q_iconst (v := 2) C dL_areMeasures_1 (by decide) ?_
  obtain ⟨z1, h_z1, hf⟩ := bnd hf
  refine q_cVIw C (c_X2_told l D cI cJ cN x0 p0 i0 n0 n1 n2 n3 n4 n5 n6 s0 s1 s2 s3 s4 s5 s6 rp ri pl V N S (2 : Int32) z1 h_z1) (mkV (fr := 3) (lo := 66) C xc_X2_told xm_L_9 xi_X2_told xe_X2_told xn_X2 hd_X2_told ⟨Nat.le_of_ble_eq_true rfl, Nat.le_of_ble_eq_true rfl⟩) 0 rfl rfl rfl rfl (Nat.le_of_ble_eq_true rfl) dL_areMeasures_2 ⟨Nat.le_of_ble_eq_true rfl, Nat.le_of_ble_eq_true rfl⟩ (fun w1 hp1 => ?_)
  subst hp1
  refine q_istore_n (lv' := [(1, .int z1), (0, .ref x0)]) C dL_areMeasures_5 rfl (by decide) rfl ?_
  refine q_aload_n C dL_areMeasures_6 rfl 1 rfl ?_
  refine q_iconst (v := 0) C dL_areMeasures_7 (by decide) ?_
  obtain ⟨z2, h_z2, hf⟩ := bnd hf
  refine q_cVIw C (c_X2_measure l D cI cJ cN x0 p0 i0 n0 n1 n2 n3 n4 n5 n6 s0 s1 s2 s3 s4 s5 s6 rp ri pl V N S (0 : Int32) z2 h_z2) (mkV (fr := 6) (lo := 132) C xc_X2_measure xm_L_83 xi_X2_measure xe_X2_measure xn_X2 hd_X2_measure ⟨Nat.le_of_ble_eq_true rfl, Nat.le_of_ble_eq_true rfl⟩) 0 rfl rfl rfl rfl (Nat.le_of_ble_eq_true rfl) dL_areMeasures_8 ⟨Nat.le_of_ble_eq_true rfl, Nat.le_of_ble_eq_true rfl⟩ (fun w1 hp1 => ?_)
  subst hp1
  refine q_istore_n (lv' := [(2, .int z2.1), (1, .int z1), (0, .ref x0)]) C dL_areMeasures_11 rfl (by decide) rfl ?_
  refine q_iconst (v := 0) C dL_areMeasures_12 (by decide) ?_
  refine q_istore_n (lv' := [(3, .int (0 : Int32)), (2, .int z2.1), (1, .int z1), (0, .ref x0)]) C dL_areMeasures_13 rfl (by decide) rfl ?_
  refine q_iconst (v := 0) C dL_areMeasures_14 (by decide) ?_
  refine q_istore (lv' := [(4, .int (0 : Int32)), (3, .int (0 : Int32)), (2, .int z2.1), (1, .int z1), (0, .ref x0)]) C dL_areMeasures_15 (by decide) rfl ?_
  refine q_iconst (v := 0) C dL_areMeasures_17 (by decide) ?_
  refine q_istore (lv' := [(5, .int (0 : Int32)), (4, .int (0 : Int32)), (3, .int (0 : Int32)), (2, .int z2.1), (1, .int z1), (0, .ref x0)]) C dL_areMeasures_18 (by decide) rfl ?_
  refine q_sub (lv' := [(0, .ref x0), (1, .int z1), (2, .int z2.1), (3, .int (0 : Int32)), (4, .int (0 : Int32)), (5, .int (0 : Int32))]) [5, 4, 3, 2, 1, 0] rfl ?_
  exact l_L_areMeasures_20 C FU V N z2.2 z1 z2.1 (0 : Int32) (0 : Int32) (0 : Int32) hf
set_option maxRecDepth 100000 in
set_option maxHeartbeats 4000000 in
theorem l_L_areAlike_93 {p : Program} {l : Launch} {e : Env} {s : State} {m : MethodId} {args : Array Value} {below : List Frame} {meth : Method} {c : Code} {D : va_G} {cI cJ cN : ClassId} {W0 : va_W} {rp ri rq rj : Nat → Option Nat} {pl pm : va_W} {x0 p0 i0 n0 n1 n2 n3 n4 n5 n6 s0 s1 s2 s3 s4 s5 s6 b0 r0 j0 k0 k1 k2 k3 k4 k5 k6 t0 t1 t2 t3 t4 t5 t6 : Nat} {z : Int32 × SS × SS} (C : CX p l s m args meth c cL_areAlike 5 yL_areAlike.cls (WS yL_areAlike cL_areAlike 5 (some .boolean)) (some .boolean) D cI cJ cN (va_A W0 s.heap.size)) {K41 : HS → NS → SS → HS → NS → SS → Int32 → Int32 → Option (Int32 × SS × SS)} (hK41 : ∀ (V : HS) (N : NS) (S : SS) (Vq : HS) (Nq : NS) (Sq : SS) (x2 : Int32) (x3 : Int32), K41 V N S Vq Nq Sq x2 x3 = some z → WW p l e { frames := 6, cells := 0, slots := 0, locals := 138 } s m args below meth c D 5 (va_A W0 s.heap.size) 0 0 (QI below args s D W0 { frames := 6, cells := 0, slots := 0, locals := 138 } z.1 (fun w => w = wXX cI cJ cN x0 p0 i0 n0 n1 n2 n3 n4 n5 n6 s0 s1 s2 s3 s4 s5 s6 rp ri pl V N z.2.1 ++ wXX cI cJ cN b0 r0 j0 k0 k1 k2 k3 k4 k5 k6 t0 t1 t2 t3 t4 t5 t6 rq rj pm Vq Nq z.2.2)) 41 [(0, .ref x0), (1, .ref b0), (2, .int x2), (3, .int x3)] [] (wXX cI cJ cN x0 p0 i0 n0 n1 n2 n3 n4 n5 n6 s0 s1 s2 s3 s4 s5 s6 rp ri pl V N S ++ wXX cI cJ cN b0 r0 j0 k0 k1 k2 k3 k4 k5 k6 t0 t1 t2 t3 t4 t5 t6 rq rj pm Vq Nq Sq)) : ∀ (fu : Nat) (V : HS) (N : NS) (S : SS) (Vq : HS) (Nq : NS) (Sq : SS) (x2 : Int32) (x3 : Int32) (x4 : Int32), g_L_areAlike_93 K41 fu V N S Vq Nq Sq x2 x3 x4 = some z → WW p l e { frames := 6, cells := 0, slots := 0, locals := 138 } s m args below meth c D 5 (va_A W0 s.heap.size) 0 0 (QI below args s D W0 { frames := 6, cells := 0, slots := 0, locals := 138 } z.1 (fun w => w = wXX cI cJ cN x0 p0 i0 n0 n1 n2 n3 n4 n5 n6 s0 s1 s2 s3 s4 s5 s6 rp ri pl V N z.2.1 ++ wXX cI cJ cN b0 r0 j0 k0 k1 k2 k3 k4 k5 k6 t0 t1 t2 t3 t4 t5 t6 rq rj pm Vq Nq z.2.2)) 93 [(0, .ref x0), (1, .ref b0), (2, .int x2), (3, .int x3), (4, .int x4)] [] (wXX cI cJ cN x0 p0 i0 n0 n1 n2 n3 n4 n5 n6 s0 s1 s2 s3 s4 s5 s6 rp ri pl V N S ++ wXX cI cJ cN b0 r0 j0 k0 k1 k2 k3 k4 k5 k6 t0 t1 t2 t3 t4 t5 t6 rq rj pm Vq Nq Sq) := by
  intro fu
  induction fu with
  | zero =>
    intro V N S Vq Nq Sq x2 x3 x4 hf
    rw [g_L_areAlike_93] at hf
    cases hf
  | succ fu ih =>
    intro V N S Vq Nq Sq x2 x3 x4 hf
    rw [g_L_areAlike_93] at hf
    refine q_iload C dL_areAlike_93 4 rfl ?_
    refine q_iconst (v := 3) C dL_areAlike_95 (by decide) ?_
    refine q_icmp_ge C 132 dL_areAlike_96 (by decide) (fun h => ?_) (fun h => ?_)
    · have hf := ifT hf h
      refine q_iinc (v := (x3 + (1 : Int32))) (lv' := [(3, .int (x3 + (1 : Int32))), (0, .ref x0), (1, .ref b0), (2, .int x2), (4, .int x4)]) C dL_areAlike_132 3 rfl rfl (by decide) rfl ?_
      refine q_goto C 41 dL_areAlike_135 (by decide) ?_
      refine q_sub (lv' := [(0, .ref x0), (1, .ref b0), (2, .int x2), (3, .int (x3 + (1 : Int32)))]) [1, 2, 3, 0] rfl ?_
      exact hK41 V N S Vq Nq Sq x2 (x3 + (1 : Int32)) hf
    · have hf := ifF hf h
      refine q_iload_n C dL_areAlike_99 rfl 2 rfl ?_
      refine q_if_eq C 124 dL_areAlike_100 (by decide) (fun h => ?_) (fun h => ?_)
      · have hf := ifT hf h
        refine q_iconst (v := 0) C dL_areAlike_124 (by decide) ?_
        refine q_istore_n (lv' := [(2, .int (0 : Int32)), (0, .ref x0), (1, .ref b0), (3, .int x3), (4, .int x4)]) C dL_areAlike_125 rfl (by decide) rfl ?_
        refine q_iinc (v := (x4 + (1 : Int32))) (lv' := [(4, .int (x4 + (1 : Int32))), (2, .int (0 : Int32)), (0, .ref x0), (1, .ref b0), (3, .int x3)]) C dL_areAlike_126 4 rfl rfl (by decide) rfl ?_
        refine q_goto C 93 dL_areAlike_129 (by decide) ?_
        refine q_sub (lv' := [(0, .ref x0), (1, .ref b0), (2, .int (0 : Int32)), (3, .int x3), (4, .int (x4 + (1 : Int32)))]) [2, 3, 1, 4, 0] rfl ?_
        exact ih V N S Vq Nq Sq (0 : Int32) x3 (x4 + (1 : Int32)) hf
      · have hf := ifF hf h
        refine q_aload_n C dL_areAlike_103 rfl 0 rfl ?_
        refine q_iload_n C dL_areAlike_104 rfl 3 rfl ?_
        refine q_iload C dL_areAlike_105 4 rfl ?_
        obtain ⟨z1, h_z1, hf⟩ := bnd hf
        refine q_cVIa C (c_X2_target l D cI cJ cN x0 p0 i0 n0 n1 n2 n3 n4 n5 n6 s0 s1 s2 s3 s4 s5 s6 rp ri pl V N S x3 x4 z1 h_z1) (mkV (fr := 2) (lo := 43) C xc_X2_target xm_L_64 xi_X2_target xe_X2_target xn_X2 hd_X2_target ⟨Nat.le_of_ble_eq_true rfl, Nat.le_of_ble_eq_true rfl⟩) 0 rfl rfl rfl rfl rfl (Nat.le_of_ble_eq_true rfl) dL_areAlike_107 ⟨Nat.le_of_ble_eq_true rfl, Nat.le_of_ble_eq_true rfl⟩ (fun w1 hp1 => ?_)
        subst hp1
        refine q_aload_n C dL_areAlike_110 rfl 1 rfl ?_
        refine q_iload_n C dL_areAlike_111 rfl 3 rfl ?_
        refine q_iload C dL_areAlike_112 4 rfl ?_
        obtain ⟨z2, h_z2, hf⟩ := bnd hf
        refine q_cVIs C (c_X2_target l D cI cJ cN b0 r0 j0 k0 k1 k2 k3 k4 k5 k6 t0 t1 t2 t3 t4 t5 t6 rq rj pm Vq Nq Sq x3 x4 z2 h_z2) (mkV (fr := 2) (lo := 43) C xc_X2_target xm_L_64 xi_X2_target xe_X2_target xn_X2 hd_X2_target ⟨Nat.le_of_ble_eq_true rfl, Nat.le_of_ble_eq_true rfl⟩) 0 rfl rfl rfl rfl rfl (Nat.le_of_ble_eq_true rfl) dL_areAlike_114 ⟨Nat.le_of_ble_eq_true rfl, Nat.le_of_ble_eq_true rfl⟩ (fun w1 hp1 => ?_)
        subst hp1
        refine q_icmp_ne C 124 dL_areAlike_117 (by decide) (fun h => ?_) (fun h => ?_)
        · have hf := ifF hf h
          refine q_iconst (v := 0) C dL_areAlike_124 (by decide) ?_
          refine q_istore_n (lv' := [(2, .int (0 : Int32)), (0, .ref x0), (1, .ref b0), (3, .int x3), (4, .int x4)]) C dL_areAlike_125 rfl (by decide) rfl ?_
          refine q_iinc (v := (x4 + (1 : Int32))) (lv' := [(4, .int (x4 + (1 : Int32))), (2, .int (0 : Int32)), (0, .ref x0), (1, .ref b0), (3, .int x3)]) C dL_areAlike_126 4 rfl rfl (by decide) rfl ?_
          refine q_goto C 93 dL_areAlike_129 (by decide) ?_
          refine q_sub (lv' := [(0, .ref x0), (1, .ref b0), (2, .int (0 : Int32)), (3, .int x3), (4, .int (x4 + (1 : Int32)))]) [2, 3, 1, 4, 0] rfl ?_
          exact ih V N S Vq Nq Sq (0 : Int32) x3 (x4 + (1 : Int32)) hf
        · have hf := ifT hf h
          refine q_iconst (v := 1) C dL_areAlike_120 (by decide) ?_
          refine q_goto C 125 dL_areAlike_121 (by decide) ?_
          refine q_istore_n (lv' := [(2, .int (1 : Int32)), (0, .ref x0), (1, .ref b0), (3, .int x3), (4, .int x4)]) C dL_areAlike_125 rfl (by decide) rfl ?_
          refine q_iinc (v := (x4 + (1 : Int32))) (lv' := [(4, .int (x4 + (1 : Int32))), (2, .int (1 : Int32)), (0, .ref x0), (1, .ref b0), (3, .int x3)]) C dL_areAlike_126 4 rfl rfl (by decide) rfl ?_
          refine q_goto C 93 dL_areAlike_129 (by decide) ?_
          refine q_sub (lv' := [(0, .ref x0), (1, .ref b0), (2, .int (1 : Int32)), (3, .int x3), (4, .int (x4 + (1 : Int32)))]) [2, 3, 1, 4, 0] rfl ?_
          exact ih V N S Vq Nq Sq (1 : Int32) x3 (x4 + (1 : Int32)) hf
set_option maxRecDepth 100000 in
set_option maxHeartbeats 4000000 in
theorem l_L_areAlike_41 {p : Program} {l : Launch} {e : Env} {s : State} {m : MethodId} {args : Array Value} {below : List Frame} {meth : Method} {c : Code} {D : va_G} {cI cJ cN : ClassId} {W0 : va_W} {rp ri rq rj : Nat → Option Nat} {pl pm : va_W} {x0 p0 i0 n0 n1 n2 n3 n4 n5 n6 s0 s1 s2 s3 s4 s5 s6 b0 r0 j0 k0 k1 k2 k3 k4 k5 k6 t0 t1 t2 t3 t4 t5 t6 : Nat} {z : Int32 × SS × SS} (C : CX p l s m args meth c cL_areAlike 5 yL_areAlike.cls (WS yL_areAlike cL_areAlike 5 (some .boolean)) (some .boolean) D cI cJ cN (va_A W0 s.heap.size)) : ∀ (fu : Nat) (V : HS) (N : NS) (S : SS) (Vq : HS) (Nq : NS) (Sq : SS) (x2 : Int32) (x3 : Int32), g_L_areAlike_41 fu V N S Vq Nq Sq x2 x3 = some z → WW p l e { frames := 6, cells := 0, slots := 0, locals := 138 } s m args below meth c D 5 (va_A W0 s.heap.size) 0 0 (QI below args s D W0 { frames := 6, cells := 0, slots := 0, locals := 138 } z.1 (fun w => w = wXX cI cJ cN x0 p0 i0 n0 n1 n2 n3 n4 n5 n6 s0 s1 s2 s3 s4 s5 s6 rp ri pl V N z.2.1 ++ wXX cI cJ cN b0 r0 j0 k0 k1 k2 k3 k4 k5 k6 t0 t1 t2 t3 t4 t5 t6 rq rj pm Vq Nq z.2.2)) 41 [(0, .ref x0), (1, .ref b0), (2, .int x2), (3, .int x3)] [] (wXX cI cJ cN x0 p0 i0 n0 n1 n2 n3 n4 n5 n6 s0 s1 s2 s3 s4 s5 s6 rp ri pl V N S ++ wXX cI cJ cN b0 r0 j0 k0 k1 k2 k3 k4 k5 k6 t0 t1 t2 t3 t4 t5 t6 rq rj pm Vq Nq Sq) := by
  intro fu
  induction fu with
  | zero =>
    intro V N S Vq Nq Sq x2 x3 hf
    rw [g_L_areAlike_41] at hf
    cases hf
  | succ fu ih =>
    intro V N S Vq Nq Sq x2 x3 hf
    rw [g_L_areAlike_41] at hf
    refine q_iload_n C dL_areAlike_41 rfl 3 rfl ?_
    refine q_aload_n C dL_areAlike_42 rfl 0 rfl ?_
    refine q_iconst (v := 0) C dL_areAlike_43 (by decide) ?_
    obtain ⟨z1, h_z1, hf⟩ := bnd hf
    refine q_cVIa C (c_X2_told l D cI cJ cN x0 p0 i0 n0 n1 n2 n3 n4 n5 n6 s0 s1 s2 s3 s4 s5 s6 rp ri pl V N S (0 : Int32) z1 h_z1) (mkV (fr := 3) (lo := 66) C xc_X2_told xm_L_9 xi_X2_told xe_X2_told xn_X2 hd_X2_told ⟨Nat.le_of_ble_eq_true rfl, Nat.le_of_ble_eq_true rfl⟩) 0 rfl rfl rfl rfl rfl (Nat.le_of_ble_eq_true rfl) dL_areAlike_44 ⟨Nat.le_of_ble_eq_true rfl, Nat.le_of_ble_eq_true rfl⟩ (fun w1 hp1 => ?_)
    subst hp1
    refine q_icmp_ge C 138 dL_areAlike_47 (by decide) (fun h => ?_) (fun h => ?_)
    · have hf := ifT hf h
      refine q_iload_n C dL_areAlike_138 rfl 2 rfl ?_
      obtain ⟨hg, hf⟩ := gd_some hf
      have hf := Option.some.inj hf
      subst hf
      exact q_zret C (bB_nar hg) (Nat.le_of_ble_eq_true rfl) (Nat.le_of_ble_eq_true rfl) rfl dL_areAlike_139
    · have hf := ifF hf h
      refine q_iload_n C dL_areAlike_50 rfl 2 rfl ?_
      refine q_if_eq C 88 dL_areAlike_51 (by decide) (fun h => ?_) (fun h => ?_)
      · have hf := ifT hf h
        refine q_iconst (v := 0) C dL_areAlike_88 (by decide) ?_
        refine q_istore_n (lv' := [(2, .int (0 : Int32)), (0, .ref x0), (1, .ref b0), (3, .int x3)]) C dL_areAlike_89 rfl (by decide) rfl ?_
        refine q_iconst (v := 0) C dL_areAlike_90 (by decide) ?_
        refine q_istore (lv' := [(4, .int (0 : Int32)), (2, .int (0 : Int32)), (0, .ref x0), (1, .ref b0), (3, .int x3)]) C dL_areAlike_91 (by decide) rfl ?_
        refine q_sub (lv' := [(0, .ref x0), (1, .ref b0), (2, .int (0 : Int32)), (3, .int x3), (4, .int (0 : Int32))]) [2, 3, 1, 4, 0] rfl ?_
        exact l_L_areAlike_93 C ih FU V N S Vq Nq Sq (0 : Int32) x3 (0 : Int32) hf
      · have hf := ifF hf h
        refine q_aload_n C dL_areAlike_54 rfl 0 rfl ?_
        refine q_iload_n C dL_areAlike_55 rfl 3 rfl ?_
        refine q_iconst (v := 0) C dL_areAlike_56 (by decide) ?_
        obtain ⟨z2, h_z2, hf⟩ := bnd hf
        refine q_cVIa C (c_X2_node l D cI cJ cN x0 p0 i0 n0 n1 n2 n3 n4 n5 n6 s0 s1 s2 s3 s4 s5 s6 rp ri pl V N S x3 (0 : Int32) z2 h_z2) (mkV (fr := 5) (lo := 116) C xc_X2_node xm_L_61 xi_X2_node xe_X2_node xn_X2 hd_X2_node ⟨Nat.le_of_ble_eq_true rfl, Nat.le_of_ble_eq_true rfl⟩) 0 rfl rfl rfl rfl rfl (Nat.le_of_ble_eq_true rfl) dL_areAlike_57 ⟨Nat.le_of_ble_eq_true rfl, Nat.le_of_ble_eq_true rfl⟩ (fun w1 hp1 => ?_)
        subst hp1
        refine q_aload_n C dL_areAlike_60 rfl 1 rfl ?_
        refine q_iload_n C dL_areAlike_61 rfl 3 rfl ?_
        refine q_iconst (v := 0) C dL_areAlike_62 (by decide) ?_
        obtain ⟨z3, h_z3, hf⟩ := bnd hf
        refine q_cVIs C (c_X2_node l D cI cJ cN b0 r0 j0 k0 k1 k2 k3 k4 k5 k6 t0 t1 t2 t3 t4 t5 t6 rq rj pm Vq Nq Sq x3 (0 : Int32) z3 h_z3) (mkV (fr := 5) (lo := 116) C xc_X2_node xm_L_61 xi_X2_node xe_X2_node xn_X2 hd_X2_node ⟨Nat.le_of_ble_eq_true rfl, Nat.le_of_ble_eq_true rfl⟩) 0 rfl rfl rfl rfl rfl (Nat.le_of_ble_eq_true rfl) dL_areAlike_63 ⟨Nat.le_of_ble_eq_true rfl, Nat.le_of_ble_eq_true rfl⟩ (fun w1 hp1 => ?_)
        subst hp1
        refine q_icmp_ne C 88 dL_areAlike_66 (by decide) (fun h => ?_) (fun h => ?_)
        · have hf := ifF hf h
          refine q_iconst (v := 0) C dL_areAlike_88 (by decide) ?_
          refine q_istore_n (lv' := [(2, .int (0 : Int32)), (0, .ref x0), (1, .ref b0), (3, .int x3)]) C dL_areAlike_89 rfl (by decide) rfl ?_
          refine q_iconst (v := 0) C dL_areAlike_90 (by decide) ?_
          refine q_istore (lv' := [(4, .int (0 : Int32)), (2, .int (0 : Int32)), (0, .ref x0), (1, .ref b0), (3, .int x3)]) C dL_areAlike_91 (by decide) rfl ?_
          refine q_sub (lv' := [(0, .ref x0), (1, .ref b0), (2, .int (0 : Int32)), (3, .int x3), (4, .int (0 : Int32))]) [2, 3, 1, 4, 0] rfl ?_
          exact l_L_areAlike_93 C ih FU V N z2.2 Vq Nq z3.2 (0 : Int32) x3 (0 : Int32) hf
        · have hf := ifT hf h
          refine q_aload_n C dL_areAlike_69 rfl 0 rfl ?_
          refine q_iload_n C dL_areAlike_70 rfl 3 rfl ?_
          refine q_iconst (v := 1) C dL_areAlike_71 (by decide) ?_
          obtain ⟨z4, h_z4, hf⟩ := bnd hf
          refine q_cVIa C (c_X2_node l D cI cJ cN x0 p0 i0 n0 n1 n2 n3 n4 n5 n6 s0 s1 s2 s3 s4 s5 s6 rp ri pl V N z2.2 x3 (1 : Int32) z4 h_z4) (mkV (fr := 5) (lo := 116) C xc_X2_node xm_L_61 xi_X2_node xe_X2_node xn_X2 hd_X2_node ⟨Nat.le_of_ble_eq_true rfl, Nat.le_of_ble_eq_true rfl⟩) 0 rfl rfl rfl rfl rfl (Nat.le_of_ble_eq_true rfl) dL_areAlike_72 ⟨Nat.le_of_ble_eq_true rfl, Nat.le_of_ble_eq_true rfl⟩ (fun w1 hp1 => ?_)
          subst hp1
          refine q_aload_n C dL_areAlike_75 rfl 1 rfl ?_
          refine q_iload_n C dL_areAlike_76 rfl 3 rfl ?_
          refine q_iconst (v := 1) C dL_areAlike_77 (by decide) ?_
          obtain ⟨z5, h_z5, hf⟩ := bnd hf
          refine q_cVIs C (c_X2_node l D cI cJ cN b0 r0 j0 k0 k1 k2 k3 k4 k5 k6 t0 t1 t2 t3 t4 t5 t6 rq rj pm Vq Nq z3.2 x3 (1 : Int32) z5 h_z5) (mkV (fr := 5) (lo := 116) C xc_X2_node xm_L_61 xi_X2_node xe_X2_node xn_X2 hd_X2_node ⟨Nat.le_of_ble_eq_true rfl, Nat.le_of_ble_eq_true rfl⟩) 0 rfl rfl rfl rfl rfl (Nat.le_of_ble_eq_true rfl) dL_areAlike_78 ⟨Nat.le_of_ble_eq_true rfl, Nat.le_of_ble_eq_true rfl⟩ (fun w1 hp1 => ?_)
          subst hp1
          refine q_icmp_ne C 88 dL_areAlike_81 (by decide) (fun h => ?_) (fun h => ?_)
          · have hf := ifF hf h
            refine q_iconst (v := 0) C dL_areAlike_88 (by decide) ?_
            refine q_istore_n (lv' := [(2, .int (0 : Int32)), (0, .ref x0), (1, .ref b0), (3, .int x3)]) C dL_areAlike_89 rfl (by decide) rfl ?_
            refine q_iconst (v := 0) C dL_areAlike_90 (by decide) ?_
            refine q_istore (lv' := [(4, .int (0 : Int32)), (2, .int (0 : Int32)), (0, .ref x0), (1, .ref b0), (3, .int x3)]) C dL_areAlike_91 (by decide) rfl ?_
            refine q_sub (lv' := [(0, .ref x0), (1, .ref b0), (2, .int (0 : Int32)), (3, .int x3), (4, .int (0 : Int32))]) [2, 3, 1, 4, 0] rfl ?_
            exact l_L_areAlike_93 C ih FU V N z4.2 Vq Nq z5.2 (0 : Int32) x3 (0 : Int32) hf
          · have hf := ifT hf h
            refine q_iconst (v := 1) C dL_areAlike_84 (by decide) ?_
            refine q_goto C 89 dL_areAlike_85 (by decide) ?_
            refine q_istore_n (lv' := [(2, .int (1 : Int32)), (0, .ref x0), (1, .ref b0), (3, .int x3)]) C dL_areAlike_89 rfl (by decide) rfl ?_
            refine q_iconst (v := 0) C dL_areAlike_90 (by decide) ?_
            refine q_istore (lv' := [(4, .int (0 : Int32)), (2, .int (1 : Int32)), (0, .ref x0), (1, .ref b0), (3, .int x3)]) C dL_areAlike_91 (by decide) rfl ?_
            refine q_sub (lv' := [(0, .ref x0), (1, .ref b0), (2, .int (1 : Int32)), (3, .int x3), (4, .int (0 : Int32))]) [2, 3, 1, 4, 0] rfl ?_
            exact l_L_areAlike_93 C ih FU V N z4.2 Vq Nq z5.2 (1 : Int32) x3 (0 : Int32) hf
set_option maxRecDepth 100000 in
set_option maxHeartbeats 4000000 in
theorem l_L_areAlike_4 {p : Program} {l : Launch} {e : Env} {s : State} {m : MethodId} {args : Array Value} {below : List Frame} {meth : Method} {c : Code} {D : va_G} {cI cJ cN : ClassId} {W0 : va_W} {rp ri rq rj : Nat → Option Nat} {pl pm : va_W} {x0 p0 i0 n0 n1 n2 n3 n4 n5 n6 s0 s1 s2 s3 s4 s5 s6 b0 r0 j0 k0 k1 k2 k3 k4 k5 k6 t0 t1 t2 t3 t4 t5 t6 : Nat} {z : Int32 × SS × SS} (C : CX p l s m args meth c cL_areAlike 5 yL_areAlike.cls (WS yL_areAlike cL_areAlike 5 (some .boolean)) (some .boolean) D cI cJ cN (va_A W0 s.heap.size)) : ∀ (fu : Nat) (V : HS) (N : NS) (S : SS) (Vq : HS) (Nq : NS) (Sq : SS) (x2 : Int32) (x3 : Int32), g_L_areAlike_4 fu V N S Vq Nq Sq x2 x3 = some z → WW p l e { frames := 6, cells := 0, slots := 0, locals := 138 } s m args below meth c D 5 (va_A W0 s.heap.size) 0 0 (QI below args s D W0 { frames := 6, cells := 0, slots := 0, locals := 138 } z.1 (fun w => w = wXX cI cJ cN x0 p0 i0 n0 n1 n2 n3 n4 n5 n6 s0 s1 s2 s3 s4 s5 s6 rp ri pl V N z.2.1 ++ wXX cI cJ cN b0 r0 j0 k0 k1 k2 k3 k4 k5 k6 t0 t1 t2 t3 t4 t5 t6 rq rj pm Vq Nq z.2.2)) 4 [(0, .ref x0), (1, .ref b0), (2, .int x2), (3, .int x3)] [] (wXX cI cJ cN x0 p0 i0 n0 n1 n2 n3 n4 n5 n6 s0 s1 s2 s3 s4 s5 s6 rp ri pl V N S ++ wXX cI cJ cN b0 r0 j0 k0 k1 k2 k3 k4 k5 k6 t0 t1 t2 t3 t4 t5 t6 rq rj pm Vq Nq Sq) := by
  intro fu
  induction fu with
  | zero =>
    intro V N S Vq Nq Sq x2 x3 hf
    rw [g_L_areAlike_4] at hf
    cases hf
  | succ fu ih =>
    intro V N S Vq Nq Sq x2 x3 hf
    rw [g_L_areAlike_4] at hf
    refine q_iload_n C dL_areAlike_4 rfl 3 rfl ?_
    refine q_bipush (v := 10) C dL_areAlike_5 (by decide) ?_
    refine q_icmp_ge C 39 dL_areAlike_7 (by decide) (fun h => ?_) (fun h => ?_)
    · have hf := ifT hf h
      refine q_iconst (v := 0) C dL_areAlike_39 (by decide) ?_
      refine q_istore_n (lv' := [(3, .int (0 : Int32)), (0, .ref x0), (1, .ref b0), (2, .int x2)]) C dL_areAlike_40 rfl (by decide) rfl ?_
      refine q_sub (lv' := [(0, .ref x0), (1, .ref b0), (2, .int x2), (3, .int (0 : Int32))]) [1, 2, 3, 0] rfl ?_
      exact l_L_areAlike_41 C FU V N S Vq Nq Sq x2 (0 : Int32) hf
    · have hf := ifF hf h
      refine q_iload_n C dL_areAlike_10 rfl 2 rfl ?_
      refine q_if_eq C 31 dL_areAlike_11 (by decide) (fun h => ?_) (fun h => ?_)
      · have hf := ifT hf h
        refine q_iconst (v := 0) C dL_areAlike_31 (by decide) ?_
        refine q_istore_n (lv' := [(2, .int (0 : Int32)), (0, .ref x0), (1, .ref b0), (3, .int x3)]) C dL_areAlike_32 rfl (by decide) rfl ?_
        refine q_iinc (v := (x3 + (1 : Int32))) (lv' := [(3, .int (x3 + (1 : Int32))), (2, .int (0 : Int32)), (0, .ref x0), (1, .ref b0)]) C dL_areAlike_33 3 rfl rfl (by decide) rfl ?_
        refine q_goto C 4 dL_areAlike_36 (by decide) ?_
        refine q_sub (lv' := [(0, .ref x0), (1, .ref b0), (2, .int (0 : Int32)), (3, .int (x3 + (1 : Int32)))]) [2, 3, 1, 0] rfl ?_
        exact ih V N S Vq Nq Sq (0 : Int32) (x3 + (1 : Int32)) hf
      · have hf := ifF hf h
        refine q_aload_n C dL_areAlike_14 rfl 0 rfl ?_
        refine q_iload_n C dL_areAlike_15 rfl 3 rfl ?_
        obtain ⟨z1, h_z1, hf⟩ := bnd hf
        refine q_cVIa C (c_X2_told l D cI cJ cN x0 p0 i0 n0 n1 n2 n3 n4 n5 n6 s0 s1 s2 s3 s4 s5 s6 rp ri pl V N S x3 z1 h_z1) (mkV (fr := 3) (lo := 66) C xc_X2_told xm_L_9 xi_X2_told xe_X2_told xn_X2 hd_X2_told ⟨Nat.le_of_ble_eq_true rfl, Nat.le_of_ble_eq_true rfl⟩) 0 rfl rfl rfl rfl rfl (Nat.le_of_ble_eq_true rfl) dL_areAlike_16 ⟨Nat.le_of_ble_eq_true rfl, Nat.le_of_ble_eq_true rfl⟩ (fun w1 hp1 => ?_)
        subst hp1
        refine q_aload_n C dL_areAlike_19 rfl 1 rfl ?_
        refine q_iload_n C dL_areAlike_20 rfl 3 rfl ?_
        obtain ⟨z2, h_z2, hf⟩ := bnd hf
        refine q_cVIs C (c_X2_told l D cI cJ cN b0 r0 j0 k0 k1 k2 k3 k4 k5 k6 t0 t1 t2 t3 t4 t5 t6 rq rj pm Vq Nq Sq x3 z2 h_z2) (mkV (fr := 3) (lo := 66) C xc_X2_told xm_L_9 xi_X2_told xe_X2_told xn_X2 hd_X2_told ⟨Nat.le_of_ble_eq_true rfl, Nat.le_of_ble_eq_true rfl⟩) 0 rfl rfl rfl rfl rfl (Nat.le_of_ble_eq_true rfl) dL_areAlike_21 ⟨Nat.le_of_ble_eq_true rfl, Nat.le_of_ble_eq_true rfl⟩ (fun w1 hp1 => ?_)
        subst hp1
        refine q_icmp_ne C 31 dL_areAlike_24 (by decide) (fun h => ?_) (fun h => ?_)
        · have hf := ifF hf h
          refine q_iconst (v := 0) C dL_areAlike_31 (by decide) ?_
          refine q_istore_n (lv' := [(2, .int (0 : Int32)), (0, .ref x0), (1, .ref b0), (3, .int x3)]) C dL_areAlike_32 rfl (by decide) rfl ?_
          refine q_iinc (v := (x3 + (1 : Int32))) (lv' := [(3, .int (x3 + (1 : Int32))), (2, .int (0 : Int32)), (0, .ref x0), (1, .ref b0)]) C dL_areAlike_33 3 rfl rfl (by decide) rfl ?_
          refine q_goto C 4 dL_areAlike_36 (by decide) ?_
          refine q_sub (lv' := [(0, .ref x0), (1, .ref b0), (2, .int (0 : Int32)), (3, .int (x3 + (1 : Int32)))]) [2, 3, 1, 0] rfl ?_
          exact ih V N S Vq Nq Sq (0 : Int32) (x3 + (1 : Int32)) hf
        · have hf := ifT hf h
          refine q_iconst (v := 1) C dL_areAlike_27 (by decide) ?_
          refine q_goto C 32 dL_areAlike_28 (by decide) ?_
          refine q_istore_n (lv' := [(2, .int (1 : Int32)), (0, .ref x0), (1, .ref b0), (3, .int x3)]) C dL_areAlike_32 rfl (by decide) rfl ?_
          refine q_iinc (v := (x3 + (1 : Int32))) (lv' := [(3, .int (x3 + (1 : Int32))), (2, .int (1 : Int32)), (0, .ref x0), (1, .ref b0)]) C dL_areAlike_33 3 rfl rfl (by decide) rfl ?_
          refine q_goto C 4 dL_areAlike_36 (by decide) ?_
          refine q_sub (lv' := [(0, .ref x0), (1, .ref b0), (2, .int (1 : Int32)), (3, .int (x3 + (1 : Int32)))]) [2, 3, 1, 0] rfl ?_
          exact ih V N S Vq Nq Sq (1 : Int32) (x3 + (1 : Int32)) hf
set_option maxRecDepth 100000 in
set_option maxHeartbeats 4000000 in
theorem c_L_areAlike (l : Launch) (D : va_G) (cI cJ cN : ClassId) (x0 p0 i0 n0 n1 n2 n3 n4 n5 n6 s0 s1 s2 s3 s4 s5 s6 b0 r0 j0 k0 k1 k2 k3 k4 k5 k6 t0 t1 t2 t3 t4 t5 t6 : Nat) (rp ri rq rj : Nat → Option Nat) (pl pm : va_W)  (V : HS) (N : NS) (S : SS) (Vq : HS) (Nq : NS) (Sq : SS)  (z : Int32 × SS × SS) (hf : f_L_areAlike V N S Vq Nq Sq = some z) : MI l D cI cJ cN yL_areAlike (WS yL_areAlike cL_areAlike 5 (some .boolean)) { frames := 6, cells := 0, slots := 0, locals := 138 } [.ref x0, .ref b0] (wXX cI cJ cN x0 p0 i0 n0 n1 n2 n3 n4 n5 n6 s0 s1 s2 s3 s4 s5 s6 rp ri pl V N S ++ wXX cI cJ cN b0 r0 j0 k0 k1 k2 k3 k4 k5 k6 t0 t1 t2 t3 t4 t5 t6 rq rj pm Vq Nq Sq) z.1 (fun w => w = wXX cI cJ cN x0 p0 i0 n0 n1 n2 n3 n4 n5 n6 s0 s1 s2 s3 s4 s5 s6 rp ri pl V N z.2.1 ++ wXX cI cJ cN b0 r0 j0 k0 k1 k2 k3 k4 k5 k6 t0 t1 t2 t3 t4 t5 t6 rq rj pm Vq Nq z.2.2) := by
  rw [f_L_areAlike] at hf
  refine q_startI (lv := [(0, .ref x0), (1, .ref b0)]) (by decide +kernel) rfl (Nat.le_of_ble_eq_true rfl) ?_
  intro p e s m below meth c C hin
  refine q_iconst (v := 1) C dL_areAlike_0 (by decide) ?_
  refine q_istore_n (lv' := [(2, .int (1 : Int32)), (0, .ref x0), (1, .ref b0)]) C dL_areAlike_1 rfl (by decide) rfl ?_
  refine q_iconst (v := 0) C dL_areAlike_2 (by decide) ?_
  refine q_istore_n (lv' := [(3, .int (0 : Int32)), (2, .int (1 : Int32)), (0, .ref x0), (1, .ref b0)]) C dL_areAlike_3 rfl (by decide) rfl ?_
  refine q_sub (lv' := [(0, .ref x0), (1, .ref b0), (2, .int (1 : Int32)), (3, .int (0 : Int32))]) [2, 3, 1, 0] rfl ?_
  exact l_L_areAlike_4 C FU V N S Vq Nq Sq (1 : Int32) (0 : Int32) hf
