set_option maxRecDepth 100000 in
set_option maxHeartbeats 4000000 in
theorem c_X2_begin (l : Launch) (D : va_G) (cI cJ cN : ClassId) (x0 p0 i0 n0 n1 n2 n3 n4 n5 n6 s0 s1 s2 s3 s4 s5 s6 : Nat) (rp ri : Nat → Option Nat) (pl : va_W)  (V : HS) (N : NS) (S : SS) (x1 : Int32) (x2 : Int32) (z : Int32 × HS × NS) (hpool : PoolOK cI V rp ri pl) (hf : f_X2_begin V N S x1 x2 = some z) : MI l D cI cJ cN yX2_begin (WS yX2_begin cX2_begin 4 (some .int)) { frames := 6, cells := 7, slots := 356, locals := 132 } [.ref x0, .int x1, .int x2] (wXX cI cJ cN x0 p0 i0 n0 n1 n2 n3 n4 n5 n6 s0 s1 s2 s3 s4 s5 s6 rp ri pl V N S) z.1 (XP cI cJ cN x0 p0 i0 n0 n1 n2 n3 n4 n5 n6 s0 s1 s2 s3 s4 s5 s6 z.2.1 z.2.2 S) := by
  rw [f_X2_begin] at hf
  refine q_startI (lv := [(0, .ref x0), (1, .int x1), (2, .int x2)]) (by decide +kernel) rfl (Nat.le_of_ble_eq_true rfl) ?_
  intro p e s m below meth c C hin
  refine q_iload_n C dX2_begin_0 rfl 1 rfl ?_
  refine q_iconst (v := 1) C dX2_begin_1 (by decide) ?_
  refine q_icmp_lt C 22 dX2_begin_2 (by decide) (fun h => ?_) (fun h => ?_)
  · have hf := ifT hf h
    refine q_iconst (v := -1) C dX2_begin_22 (by decide) ?_
    have hf := Option.some.inj hf
    subst hf
    exact q_iret C (Nat.le_of_ble_eq_true rfl) (Nat.le_of_ble_eq_true rfl) ⟨_, _, _, hpool, rfl⟩ dX2_begin_23
  · have hf := ifF hf h
    refine q_iload_n C dX2_begin_5 rfl 1 rfl ?_
    refine q_bipush (v := 7) C dX2_begin_6 (by decide) ?_
    refine q_icmp_gt C 22 dX2_begin_8 (by decide) (fun h => ?_) (fun h => ?_)
    · have hf := ifT hf h
      refine q_iconst (v := -1) C dX2_begin_22 (by decide) ?_
      have hf := Option.some.inj hf
      subst hf
      exact q_iret C (Nat.le_of_ble_eq_true rfl) (Nat.le_of_ble_eq_true rfl) ⟨_, _, _, hpool, rfl⟩ dX2_begin_23
    · have hf := ifF hf h
      refine q_iload_n C dX2_begin_11 rfl 2 rfl ?_
      refine q_iconst (v := 1) C dX2_begin_12 (by decide) ?_
      refine q_icmp_lt C 22 dX2_begin_13 (by decide) (fun h => ?_) (fun h => ?_)
      · have hf := ifT hf h
        refine q_iconst (v := -1) C dX2_begin_22 (by decide) ?_
        have hf := Option.some.inj hf
        subst hf
        exact q_iret C (Nat.le_of_ble_eq_true rfl) (Nat.le_of_ble_eq_true rfl) ⟨_, _, _, hpool, rfl⟩ dX2_begin_23
      · have hf := ifF hf h
        refine q_iload_n C dX2_begin_16 rfl 2 rfl ?_
        refine q_bipush (v := 7) C dX2_begin_17 (by decide) ?_
        refine q_icmp_le C 24 dX2_begin_19 (by decide) (fun h => ?_) (fun h => ?_)
        · have hf := ifT hf h
          refine q_aload_n C dX2_begin_24 rfl 0 rfl ?_
          obtain ⟨z1, h_z1, hf⟩ := bnd hf
          refine q_cVVw C (c_X2_record l D cI cJ cN x0 p0 i0 n0 n1 n2 n3 n4 n5 n6 s0 s1 s2 s3 s4 s5 s6 rp ri pl V N S z1 hpool h_z1) (mkV (fr := 5) (lo := 112) C xc_X2_record xm_X2_34 xi_X2_record xe_X2_record xn_X2 hd_X2_record ⟨Nat.le_of_ble_eq_true rfl, Nat.le_of_ble_eq_true rfl⟩) 0 rfl rfl rfl rfl (Nat.le_of_ble_eq_true rfl) dX2_begin_25 ⟨Nat.le_of_ble_eq_true rfl, Nat.le_of_ble_eq_true rfl⟩ (fun w1 hp1 => ?_)
          obtain ⟨rp1, pl1, hpool, rfl⟩ := hp1
          refine q_aload_n C dX2_begin_28 rfl 0 rfl ?_
          refine q_get C (uW uX2_in) 0 rfl rfl 0 (by decide) (ws_in xf_X2_10) rfl rfl dX2_begin_29 ?_
          obtain ⟨z2, h_z2, hf⟩ := bnd hf
          refine q_cVI (ws' := wXX cI cJ cN x0 p0 i0 n0 n1 n2 n3 n4 n5 n6 s0 s1 s2 s3 s4 s5 s6 rp1 ri pl1 z1 N S) C (c_X0_nodes l D cI cJ cN n0 n1 n2 n3 n4 n5 n6 N z2 h_z2) (mkV (fr := 0) (lo := 0) C xc_X0_nodes xm_X2_37 xi_X0_nodes xe_X0_nodes xn_X0 hd_X0_nodes ⟨Nat.le_of_ble_eq_true rfl, Nat.le_of_ble_eq_true rfl⟩) 0 rfl rfl [3, 4, 5, 6, 7, 8, 9] rfl (by decide) rfl rfl rfl rfl (Nat.le_of_ble_eq_true rfl) dX2_begin_32 ⟨Nat.le_of_ble_eq_true rfl, Nat.le_of_ble_eq_true rfl⟩ ?_
          refine q_istore_n (lv' := [(3, .int z2), (0, .ref x0), (1, .int x1), (2, .int x2)]) C dX2_begin_35 rfl (by decide) rfl ?_
          refine q_aload_n C dX2_begin_36 rfl 1 rfl ?_
          refine q_get C (uW uX2_in) 0 rfl rfl 0 (by decide) (ws_in xf_X2_10) rfl rfl dX2_begin_37 ?_
          refine q_iload_n C dX2_begin_40 rfl 2 rfl ?_
          refine q_iload_n C dX2_begin_41 rfl 3 rfl ?_
          obtain ⟨z3, h_z3, hf⟩ := bnd hf
          refine q_cVV (ws' := wXX cI cJ cN x0 p0 i0 n0 n1 n2 n3 n4 n5 n6 s0 s1 s2 s3 s4 s5 s6 rp1 ri pl1 z1 z3 S) C (c_X0_layOut l D cI cJ cN n0 n1 n2 n3 n4 n5 n6 N x1 x2 z3 h_z3) (mkV (fr := 2) (lo := 45) C xc_X0_layOut xm_X2_41 xi_X0_layOut xe_X0_layOut xn_X0 hd_X0_layOut ⟨Nat.le_of_ble_eq_true rfl, Nat.le_of_ble_eq_true rfl⟩) 0 rfl rfl [3, 4, 5, 6, 7, 8, 9] rfl (by decide) rfl rfl rfl rfl (Nat.le_of_ble_eq_true rfl) dX2_begin_42 ⟨Nat.le_of_ble_eq_true rfl, Nat.le_of_ble_eq_true rfl⟩ ?_
          refine q_iload_n C dX2_begin_45 rfl 0 rfl ?_
          have hf := Option.some.inj hf
          subst hf
          exact q_iret C (Nat.le_of_ble_eq_true rfl) (Nat.le_of_ble_eq_true rfl) ⟨_, _, _, hpool, rfl⟩ dX2_begin_46
        · have hf := ifF hf h
          refine q_iconst (v := -1) C dX2_begin_22 (by decide) ?_
          have hf := Option.some.inj hf
          subst hf
          exact q_iret C (Nat.le_of_ble_eq_true rfl) (Nat.le_of_ble_eq_true rfl) ⟨_, _, _, hpool, rfl⟩ dX2_begin_23
set_option maxRecDepth 100000 in
set_option maxHeartbeats 4000000 in
theorem c_X2_faultOfPair (l : Launch) (D : va_G) (cI cJ cN : ClassId) (x0 p0 i0 n0 n1 n2 n3 n4 n5 n6 s0 s1 s2 s3 s4 s5 s6 : Nat) (rp ri : Nat → Option Nat) (pl : va_W)  (V : HS) (N : NS) (S : SS) (x1 : Int32) (x2 : Int32) (z : Int32) (hf : f_X2_faultOfPair V N S x1 x2 = some z) : MI l D cI cJ cN yX2_faultOfPair (WS yX2_faultOfPair cX2_faultOfPair 3 (some .int)) { frames := 3, cells := 0, slots := 0, locals := 62 } [.ref x0, .int x1, .int x2] (wXX cI cJ cN x0 p0 i0 n0 n1 n2 n3 n4 n5 n6 s0 s1 s2 s3 s4 s5 s6 rp ri pl V N S) z (fun w => w = wXX cI cJ cN x0 p0 i0 n0 n1 n2 n3 n4 n5 n6 s0 s1 s2 s3 s4 s5 s6 rp ri pl V N S) := by
  rw [f_X2_faultOfPair] at hf
  refine q_startI (lv := [(0, .ref x0), (1, .int x1), (2, .int x2)]) (by decide +kernel) rfl (Nat.le_of_ble_eq_true rfl) ?_
  intro p e s m below meth c C hin
  refine q_aload_n C dX2_faultOfPair_0 rfl 0 rfl ?_
  refine q_get C (uW uX2_in) 0 rfl rfl 0 (by decide) (ws_in xf_X2_10) rfl rfl dX2_faultOfPair_1 ?_
  refine q_iload_n C dX2_faultOfPair_4 rfl 1 rfl ?_
  obtain ⟨z1, h_z1, hf⟩ := bnd hf
  refine q_cVI (ws' := wXX cI cJ cN x0 p0 i0 n0 n1 n2 n3 n4 n5 n6 s0 s1 s2 s3 s4 s5 s6 rp ri pl V N S) C (c_X0_holds l D cI cJ cN n0 n1 n2 n3 n4 n5 n6 N x1 z1 h_z1) (mkV (fr := 1) (lo := 20) C xc_X0_holds xm_X2_56 xi_X0_holds xe_X0_holds xn_X0 hd_X0_holds ⟨Nat.le_of_ble_eq_true rfl, Nat.le_of_ble_eq_true rfl⟩) 0 rfl rfl [3, 4, 5, 6, 7, 8, 9] rfl (by decide) rfl rfl rfl rfl (Nat.le_of_ble_eq_true rfl) dX2_faultOfPair_5 ⟨Nat.le_of_ble_eq_true rfl, Nat.le_of_ble_eq_true rfl⟩ ?_
  refine q_if_eq C 22 dX2_faultOfPair_8 (by decide) (fun h => ?_) (fun h => ?_)
  · have hf := ifT hf h
    refine q_iconst (v := -1) C dX2_faultOfPair_22 (by decide) ?_
    have hf := Option.some.inj hf
    subst hf
    exact q_iret C (Nat.le_of_ble_eq_true rfl) (Nat.le_of_ble_eq_true rfl) rfl dX2_faultOfPair_23
  · have hf := ifF hf h
    refine q_aload_n C dX2_faultOfPair_11 rfl 0 rfl ?_
    refine q_get C (uW uX2_in) 0 rfl rfl 0 (by decide) (ws_in xf_X2_10) rfl rfl dX2_faultOfPair_12 ?_
    refine q_iload_n C dX2_faultOfPair_15 rfl 2 rfl ?_
    obtain ⟨z2, h_z2, hf⟩ := bnd hf
    refine q_cVI (ws' := wXX cI cJ cN x0 p0 i0 n0 n1 n2 n3 n4 n5 n6 s0 s1 s2 s3 s4 s5 s6 rp ri pl V N S) C (c_X0_holds l D cI cJ cN n0 n1 n2 n3 n4 n5 n6 N x2 z2 h_z2) (mkV (fr := 1) (lo := 20) C xc_X0_holds xm_X2_56 xi_X0_holds xe_X0_holds xn_X0 hd_X0_holds ⟨Nat.le_of_ble_eq_true rfl, Nat.le_of_ble_eq_true rfl⟩) 0 rfl rfl [3, 4, 5, 6, 7, 8, 9] rfl (by decide) rfl rfl rfl rfl (Nat.le_of_ble_eq_true rfl) dX2_faultOfPair_16 ⟨Nat.le_of_ble_eq_true rfl, Nat.le_of_ble_eq_true rfl⟩ ?_
    refine q_if_ne C 24 dX2_faultOfPair_19 (by decide) (fun h => ?_) (fun h => ?_)
    · have hf := ifF hf h
      refine q_aload_n C dX2_faultOfPair_24 rfl 0 rfl ?_
      refine q_get C (uW uX2_in) 0 rfl rfl 0 (by decide) (ws_in xf_X2_10) rfl rfl dX2_faultOfPair_25 ?_
      refine q_iload_n C dX2_faultOfPair_28 rfl 1 rfl ?_
      obtain ⟨z3, h_z3, hf⟩ := bnd hf
      refine q_cVI (ws' := wXX cI cJ cN x0 p0 i0 n0 n1 n2 n3 n4 n5 n6 s0 s1 s2 s3 s4 s5 s6 rp ri pl V N S) C (c_X0_isPresent l D cI cJ cN n0 n1 n2 n3 n4 n5 n6 N x1 z3 h_z3) (mkV (fr := 2) (lo := 41) C xc_X0_isPresent xm_X2_66 xi_X0_isPresent xe_X0_isPresent xn_X0 hd_X0_isPresent ⟨Nat.le_of_ble_eq_true rfl, Nat.le_of_ble_eq_true rfl⟩) 0 rfl rfl [3, 4, 5, 6, 7, 8, 9] rfl (by decide) rfl rfl rfl rfl (Nat.le_of_ble_eq_true rfl) dX2_faultOfPair_29 ⟨Nat.le_of_ble_eq_true rfl, Nat.le_of_ble_eq_true rfl⟩ ?_
      refine q_if_eq C 50 dX2_faultOfPair_32 (by decide) (fun h => ?_) (fun h => ?_)
      · have hf := ifT hf h
        refine q_bipush (v := -2) C dX2_faultOfPair_50 (by decide) ?_
        have hf := Option.some.inj hf
        subst hf
        exact q_iret C (Nat.le_of_ble_eq_true rfl) (Nat.le_of_ble_eq_true rfl) rfl dX2_faultOfPair_52
      · have hf := ifF hf h
        refine q_aload_n C dX2_faultOfPair_35 rfl 0 rfl ?_
        refine q_get C (uW uX2_in) 0 rfl rfl 0 (by decide) (ws_in xf_X2_10) rfl rfl dX2_faultOfPair_36 ?_
        refine q_iload_n C dX2_faultOfPair_39 rfl 2 rfl ?_
        obtain ⟨z4, h_z4, hf⟩ := bnd hf
        refine q_cVI (ws' := wXX cI cJ cN x0 p0 i0 n0 n1 n2 n3 n4 n5 n6 s0 s1 s2 s3 s4 s5 s6 rp ri pl V N S) C (c_X0_isPresent l D cI cJ cN n0 n1 n2 n3 n4 n5 n6 N x2 z4 h_z4) (mkV (fr := 2) (lo := 41) C xc_X0_isPresent xm_X2_66 xi_X0_isPresent xe_X0_isPresent xn_X0 hd_X0_isPresent ⟨Nat.le_of_ble_eq_true rfl, Nat.le_of_ble_eq_true rfl⟩) 0 rfl rfl [3, 4, 5, 6, 7, 8, 9] rfl (by decide) rfl rfl rfl rfl (Nat.le_of_ble_eq_true rfl) dX2_faultOfPair_40 ⟨Nat.le_of_ble_eq_true rfl, Nat.le_of_ble_eq_true rfl⟩ ?_
        refine q_if_eq C 50 dX2_faultOfPair_43 (by decide) (fun h => ?_) (fun h => ?_)
        · have hf := ifT hf h
          refine q_bipush (v := -2) C dX2_faultOfPair_50 (by decide) ?_
          have hf := Option.some.inj hf
          subst hf
          exact q_iret C (Nat.le_of_ble_eq_true rfl) (Nat.le_of_ble_eq_true rfl) rfl dX2_faultOfPair_52
        · have hf := ifF hf h
          refine q_iconst (v := 0) C dX2_faultOfPair_46 (by decide) ?_
          refine q_goto C 52 dX2_faultOfPair_47 (by decide) ?_
          have hf := Option.some.inj hf
          subst hf
          exact q_iret C (Nat.le_of_ble_eq_true rfl) (Nat.le_of_ble_eq_true rfl) rfl dX2_faultOfPair_52
    · have hf := ifT hf h
      refine q_iconst (v := -1) C dX2_faultOfPair_22 (by decide) ?_
      have hf := Option.some.inj hf
      subst hf
      exact q_iret C (Nat.le_of_ble_eq_true rfl) (Nat.le_of_ble_eq_true rfl) rfl dX2_faultOfPair_23
set_option maxRecDepth 100000 in
set_option maxHeartbeats 4000000 in
theorem c_X2_faultOfOthers (l : Launch) (D : va_G) (cI cJ cN : ClassId) (x0 p0 i0 n0 n1 n2 n3 n4 n5 n6 s0 s1 s2 s3 s4 s5 s6 : Nat) (rp ri : Nat → Option Nat) (pl : va_W)  (V : HS) (N : NS) (S : SS) (x1 : Int32) (x2 : Int32) (z : Int32) (hf : f_X2_faultOfOthers V N S x1 x2 = some z) : MI l D cI cJ cN yX2_faultOfOthers (WS yX2_faultOfOthers cX2_faultOfOthers 3 (some .int)) { frames := 4, cells := 0, slots := 0, locals := 84 } [.ref x0, .int x1, .int x2] (wXX cI cJ cN x0 p0 i0 n0 n1 n2 n3 n4 n5 n6 s0 s1 s2 s3 s4 s5 s6 rp ri pl V N S) z (fun w => w = wXX cI cJ cN x0 p0 i0 n0 n1 n2 n3 n4 n5 n6 s0 s1 s2 s3 s4 s5 s6 rp ri pl V N S) := by
  rw [f_X2_faultOfOthers] at hf
  refine q_startI (lv := [(0, .ref x0), (1, .int x1), (2, .int x2)]) (by decide +kernel) rfl (Nat.le_of_ble_eq_true rfl) ?_
  intro p e s m below meth c C hin
  refine q_iload_n C dX2_faultOfOthers_0 rfl 1 rfl ?_
  refine q_iload_n C dX2_faultOfOthers_1 rfl 2 rfl ?_
  refine q_icmp_ne C 9 dX2_faultOfOthers_2 (by decide) (fun h => ?_) (fun h => ?_)
  · have hf := ifF hf h
    refine q_aload_n C dX2_faultOfOthers_9 rfl 0 rfl ?_
    refine q_iload_n C dX2_faultOfOthers_10 rfl 1 rfl ?_
    refine q_iload_n C dX2_faultOfOthers_11 rfl 2 rfl ?_
    obtain ⟨z1, h_z1, hf⟩ := bnd hf
    refine q_cVIw C (c_X2_faultOfPair l D cI cJ cN x0 p0 i0 n0 n1 n2 n3 n4 n5 n6 s0 s1 s2 s3 s4 s5 s6 rp ri pl V N S x1 x2 z1 h_z1) (mkV (fr := 3) (lo := 62) C xc_X2_faultOfPair xm_X2_72 xi_X2_faultOfPair xe_X2_faultOfPair xn_X2 hd_X2_faultOfPair ⟨Nat.le_of_ble_eq_true rfl, Nat.le_of_ble_eq_true rfl⟩) 0 rfl rfl rfl rfl (Nat.le_of_ble_eq_true rfl) dX2_faultOfOthers_12 ⟨Nat.le_of_ble_eq_true rfl, Nat.le_of_ble_eq_true rfl⟩ (fun w1 hp1 => ?_)
    subst hp1
    have hf := Option.some.inj hf
    subst hf
    exact q_iret C (Nat.le_of_ble_eq_true rfl) (Nat.le_of_ble_eq_true rfl) rfl dX2_faultOfOthers_15
  · have hf := ifT hf h
    refine q_iconst (v := -1) C dX2_faultOfOthers_5 (by decide) ?_
    refine q_goto C 15 dX2_faultOfOthers_6 (by decide) ?_
    have hf := Option.some.inj hf
    subst hf
    exact q_iret C (Nat.le_of_ble_eq_true rfl) (Nat.le_of_ble_eq_true rfl) rfl dX2_faultOfOthers_15
set_option maxRecDepth 100000 in
set_option maxHeartbeats 4000000 in
theorem c_X2_link (l : Launch) (D : va_G) (cI cJ cN : ClassId) (x0 p0 i0 n0 n1 n2 n3 n4 n5 n6 s0 s1 s2 s3 s4 s5 s6 : Nat) (rp ri : Nat → Option Nat) (pl : va_W)  (V : HS) (N : NS) (S : SS) (x1 : Int32) (x2 : Int32) (z : Int32 × HS × NS) (hpool : PoolOK cI V rp ri pl) (hf : f_X2_link V N S x1 x2 = some z) : MI l D cI cJ cN yX2_link (WS yX2_link cX2_link 4 (some .int)) { frames := 6, cells := 7, slots := 356, locals := 132 } [.ref x0, .int x1, .int x2] (wXX cI cJ cN x0 p0 i0 n0 n1 n2 n3 n4 n5 n6 s0 s1 s2 s3 s4 s5 s6 rp ri pl V N S) z.1 (XP cI cJ cN x0 p0 i0 n0 n1 n2 n3 n4 n5 n6 s0 s1 s2 s3 s4 s5 s6 z.2.1 z.2.2 S) := by
  rw [f_X2_link] at hf
  refine q_startI (lv := [(0, .ref x0), (1, .int x1), (2, .int x2)]) (by decide +kernel) rfl (Nat.le_of_ble_eq_true rfl) ?_
  intro p e s m below meth c C hin
  refine q_aload_n C dX2_link_0 rfl 0 rfl ?_
  refine q_iload_n C dX2_link_1 rfl 1 rfl ?_
  refine q_iload_n C dX2_link_2 rfl 2 rfl ?_
  obtain ⟨z1, h_z1, hf⟩ := bnd hf
  refine q_cVIw C (c_X2_faultOfOthers l D cI cJ cN x0 p0 i0 n0 n1 n2 n3 n4 n5 n6 s0 s1 s2 s3 s4 s5 s6 rp ri pl V N S x1 x2 z1 h_z1) (mkV (fr := 4) (lo := 84) C xc_X2_faultOfOthers xm_X2_45 xi_X2_faultOfOthers xe_X2_faultOfOthers xn_X2 hd_X2_faultOfOthers ⟨Nat.le_of_ble_eq_true rfl, Nat.le_of_ble_eq_true rfl⟩) 0 rfl rfl rfl rfl (Nat.le_of_ble_eq_true rfl) dX2_link_3 ⟨Nat.le_of_ble_eq_true rfl, Nat.le_of_ble_eq_true rfl⟩ (fun w1 hp1 => ?_)
  subst hp1
  refine q_istore_n (lv' := [(3, .int z1), (0, .ref x0), (1, .int x1), (2, .int x2)]) C dX2_link_6 rfl (by decide) rfl ?_
  refine q_iload_n C dX2_link_7 rfl 0 rfl ?_
  refine q_if_eq C 13 dX2_link_8 (by decide) (fun h => ?_) (fun h => ?_)
  · have hf := ifT hf h
    refine q_aload_n C dX2_link_13 rfl 1 rfl ?_
    obtain ⟨z2, h_z2, hf⟩ := bnd hf
    refine q_cVVw C (c_X2_record l D cI cJ cN x0 p0 i0 n0 n1 n2 n3 n4 n5 n6 s0 s1 s2 s3 s4 s5 s6 rp ri pl V N S z2 hpool h_z2) (mkV (fr := 5) (lo := 112) C xc_X2_record xm_X2_34 xi_X2_record xe_X2_record xn_X2 hd_X2_record ⟨Nat.le_of_ble_eq_true rfl, Nat.le_of_ble_eq_true rfl⟩) 0 rfl rfl rfl rfl (Nat.le_of_ble_eq_true rfl) dX2_link_14 ⟨Nat.le_of_ble_eq_true rfl, Nat.le_of_ble_eq_true rfl⟩ (fun w1 hp1 => ?_)
    obtain ⟨rp1, pl1, hpool, rfl⟩ := hp1
    refine q_aload_n C dX2_link_17 rfl 1 rfl ?_
    refine q_get C (uW uX2_in) 0 rfl rfl 0 (by decide) (ws_in xf_X2_10) rfl rfl dX2_link_18 ?_
    refine q_iload_n C dX2_link_21 rfl 2 rfl ?_
    refine q_iload_n C dX2_link_22 rfl 3 rfl ?_
    obtain ⟨z3, h_z3, hf⟩ := bnd hf
    refine q_cVV (ws' := wXX cI cJ cN x0 p0 i0 n0 n1 n2 n3 n4 n5 n6 s0 s1 s2 s3 s4 s5 s6 rp1 ri pl1 z2 z3 S) C (c_X0_giveLink l D cI cJ cN n0 n1 n2 n3 n4 n5 n6 N x1 x2 z3 h_z3) (mkV (fr := 3) (lo := 66) C xc_X0_giveLink xm_X2_49 xi_X0_giveLink xe_X0_giveLink xn_X0 hd_X0_giveLink ⟨Nat.le_of_ble_eq_true rfl, Nat.le_of_ble_eq_true rfl⟩) 0 rfl rfl [3, 4, 5, 6, 7, 8, 9] rfl (by decide) rfl rfl rfl rfl (Nat.le_of_ble_eq_true rfl) dX2_link_23 ⟨Nat.le_of_ble_eq_true rfl, Nat.le_of_ble_eq_true rfl⟩ ?_
    refine q_aload_n C dX2_link_26 rfl 1 rfl ?_
    refine q_get C (uW uX2_in) 0 rfl rfl 0 (by decide) (ws_in xf_X2_10) rfl rfl dX2_link_27 ?_
    refine q_iload_n C dX2_link_30 rfl 2 rfl ?_
    obtain ⟨z4, h_z4, hf⟩ := bnd hf
    refine q_cVI (ws' := wXX cI cJ cN x0 p0 i0 n0 n1 n2 n3 n4 n5 n6 s0 s1 s2 s3 s4 s5 s6 rp1 ri pl1 z2 z3 S) C (c_X0_linksOf l D cI cJ cN n0 n1 n2 n3 n4 n5 n6 z3 x1 z4 h_z4) (mkV (fr := 1) (lo := 21) C xc_X0_linksOf xm_X2_52 xi_X0_linksOf xe_X0_linksOf xn_X0 hd_X0_linksOf ⟨Nat.le_of_ble_eq_true rfl, Nat.le_of_ble_eq_true rfl⟩) 0 rfl rfl [3, 4, 5, 6, 7, 8, 9] rfl (by decide) rfl rfl rfl rfl (Nat.le_of_ble_eq_true rfl) dX2_link_31 ⟨Nat.le_of_ble_eq_true rfl, Nat.le_of_ble_eq_true rfl⟩ ?_
    have hf := Option.some.inj hf
    subst hf
    exact q_iret C (Nat.le_of_ble_eq_true rfl) (Nat.le_of_ble_eq_true rfl) ⟨_, _, _, hpool, rfl⟩ dX2_link_34
  · have hf := ifF hf h
    refine q_iload_n C dX2_link_11 rfl 0 rfl ?_
    have hf := Option.some.inj hf
    subst hf
    exact q_iret C (Nat.le_of_ble_eq_true rfl) (Nat.le_of_ble_eq_true rfl) ⟨_, _, _, hpool, rfl⟩ dX2_link_12
set_option maxRecDepth 100000 in
set_option maxHeartbeats 4000000 in
theorem c_X2_unlink (l : Launch) (D : va_G) (cI cJ cN : ClassId) (x0 p0 i0 n0 n1 n2 n3 n4 n5 n6 s0 s1 s2 s3 s4 s5 s6 : Nat) (rp ri : Nat → Option Nat) (pl : va_W)  (V : HS) (N : NS) (S : SS) (x1 : Int32) (x2 : Int32) (z : Int32 × HS × NS) (hpool : PoolOK cI V rp ri pl) (hf : f_X2_unlink V N S x1 x2 = some z) : MI l D cI cJ cN yX2_unlink (WS yX2_unlink cX2_unlink 4 (some .int)) { frames := 6, cells := 7, slots := 356, locals := 132 } [.ref x0, .int x1, .int x2] (wXX cI cJ cN x0 p0 i0 n0 n1 n2 n3 n4 n5 n6 s0 s1 s2 s3 s4 s5 s6 rp ri pl V N S) z.1 (XP cI cJ cN x0 p0 i0 n0 n1 n2 n3 n4 n5 n6 s0 s1 s2 s3 s4 s5 s6 z.2.1 z.2.2 S) := by
  rw [f_X2_unlink] at hf
  refine q_startI (lv := [(0, .ref x0), (1, .int x1), (2, .int x2)]) (by decide +kernel) rfl (Nat.le_of_ble_eq_true rfl) ?_
  intro p e s m below meth c C hin
  refine q_aload_n C dX2_unlink_0 rfl 0 rfl ?_
  refine q_get C (uW uX2_in) 0 rfl rfl 0 (by decide) (ws_in xf_X2_10) rfl rfl dX2_unlink_1 ?_
  refine q_iload_n C dX2_unlink_4 rfl 1 rfl ?_
  obtain ⟨z1, h_z1, hf⟩ := bnd hf
  refine q_cVI (ws' := wXX cI cJ cN x0 p0 i0 n0 n1 n2 n3 n4 n5 n6 s0 s1 s2 s3 s4 s5 s6 rp ri pl V N S) C (c_X0_holds l D cI cJ cN n0 n1 n2 n3 n4 n5 n6 N x1 z1 h_z1) (mkV (fr := 1) (lo := 20) C xc_X0_holds xm_X2_56 xi_X0_holds xe_X0_holds xn_X0 hd_X0_holds ⟨Nat.le_of_ble_eq_true rfl, Nat.le_of_ble_eq_true rfl⟩) 0 rfl rfl [3, 4, 5, 6, 7, 8, 9] rfl (by decide) rfl rfl rfl rfl (Nat.le_of_ble_eq_true rfl) dX2_unlink_5 ⟨Nat.le_of_ble_eq_true rfl, Nat.le_of_ble_eq_true rfl⟩ ?_
  refine q_if_eq C 27 dX2_unlink_8 (by decide) (fun h => ?_) (fun h => ?_)
  · have hf := ifT hf h
    refine q_iconst (v := -1) C dX2_unlink_27 (by decide) ?_
    have hf := Option.some.inj hf
    subst hf
    exact q_iret C (Nat.le_of_ble_eq_true rfl) (Nat.le_of_ble_eq_true rfl) ⟨_, _, _, hpool, rfl⟩ dX2_unlink_28
  · have hf := ifF hf h
    refine q_iload_n C dX2_unlink_11 rfl 2 rfl ?_
    refine q_if_lt C 27 dX2_unlink_12 (by decide) (fun h => ?_) (fun h => ?_)
    · have hf := ifT hf h
      refine q_iconst (v := -1) C dX2_unlink_27 (by decide) ?_
      have hf := Option.some.inj hf
      subst hf
      exact q_iret C (Nat.le_of_ble_eq_true rfl) (Nat.le_of_ble_eq_true rfl) ⟨_, _, _, hpool, rfl⟩ dX2_unlink_28
    · have hf := ifF hf h
      refine q_iload_n C dX2_unlink_15 rfl 2 rfl ?_
      refine q_aload_n C dX2_unlink_16 rfl 0 rfl ?_
      refine q_get C (uW uX2_in) 0 rfl rfl 0 (by decide) (ws_in xf_X2_10) rfl rfl dX2_unlink_17 ?_
      refine q_iload_n C dX2_unlink_20 rfl 1 rfl ?_
      obtain ⟨z2, h_z2, hf⟩ := bnd hf
      refine q_cVI (ws' := wXX cI cJ cN x0 p0 i0 n0 n1 n2 n3 n4 n5 n6 s0 s1 s2 s3 s4 s5 s6 rp ri pl V N S) C (c_X0_linksOf l D cI cJ cN n0 n1 n2 n3 n4 n5 n6 N x1 z2 h_z2) (mkV (fr := 1) (lo := 21) C xc_X0_linksOf xm_X2_52 xi_X0_linksOf xe_X0_linksOf xn_X0 hd_X0_linksOf ⟨Nat.le_of_ble_eq_true rfl, Nat.le_of_ble_eq_true rfl⟩) 0 rfl rfl [3, 4, 5, 6, 7, 8, 9] rfl (by decide) rfl rfl rfl rfl (Nat.le_of_ble_eq_true rfl) dX2_unlink_21 ⟨Nat.le_of_ble_eq_true rfl, Nat.le_of_ble_eq_true rfl⟩ ?_
      refine q_icmp_lt C 29 dX2_unlink_24 (by decide) (fun h => ?_) (fun h => ?_)
      · have hf := ifT hf h
        refine q_aload_n C dX2_unlink_29 rfl 0 rfl ?_
        obtain ⟨z3, h_z3, hf⟩ := bnd hf
        refine q_cVVw C (c_X2_record l D cI cJ cN x0 p0 i0 n0 n1 n2 n3 n4 n5 n6 s0 s1 s2 s3 s4 s5 s6 rp ri pl V N S z3 hpool h_z3) (mkV (fr := 5) (lo := 112) C xc_X2_record xm_X2_34 xi_X2_record xe_X2_record xn_X2 hd_X2_record ⟨Nat.le_of_ble_eq_true rfl, Nat.le_of_ble_eq_true rfl⟩) 0 rfl rfl rfl rfl (Nat.le_of_ble_eq_true rfl) dX2_unlink_30 ⟨Nat.le_of_ble_eq_true rfl, Nat.le_of_ble_eq_true rfl⟩ (fun w1 hp1 => ?_)
        obtain ⟨rp1, pl1, hpool, rfl⟩ := hp1
        refine q_aload_n C dX2_unlink_33 rfl 0 rfl ?_
        refine q_get C (uW uX2_in) 0 rfl rfl 0 (by decide) (ws_in xf_X2_10) rfl rfl dX2_unlink_34 ?_
        refine q_iload_n C dX2_unlink_37 rfl 1 rfl ?_
        refine q_iload_n C dX2_unlink_38 rfl 2 rfl ?_
        obtain ⟨z4, h_z4, hf⟩ := bnd hf
        refine q_cVI (ws' := wXX cI cJ cN x0 p0 i0 n0 n1 n2 n3 n4 n5 n6 s0 s1 s2 s3 s4 s5 s6 rp1 ri pl1 z3 N S) C (c_X0_linkAt l D cI cJ cN n0 n1 n2 n3 n4 n5 n6 N x1 x2 z4 h_z4) (mkV (fr := 1) (lo := 21) C xc_X0_linkAt xm_X2_60 xi_X0_linkAt xe_X0_linkAt xn_X0 hd_X0_linkAt ⟨Nat.le_of_ble_eq_true rfl, Nat.le_of_ble_eq_true rfl⟩) 0 rfl rfl [3, 4, 5, 6, 7, 8, 9] rfl (by decide) rfl rfl rfl rfl (Nat.le_of_ble_eq_true rfl) dX2_unlink_39 ⟨Nat.le_of_ble_eq_true rfl, Nat.le_of_ble_eq_true rfl⟩ ?_
        refine q_istore_n (lv' := [(3, .int z4), (0, .ref x0), (1, .int x1), (2, .int x2)]) C dX2_unlink_42 rfl (by decide) rfl ?_
        refine q_aload_n C dX2_unlink_43 rfl 1 rfl ?_
        refine q_get C (uW uX2_in) 0 rfl rfl 0 (by decide) (ws_in xf_X2_10) rfl rfl dX2_unlink_44 ?_
        refine q_iload_n C dX2_unlink_47 rfl 2 rfl ?_
        refine q_iload_n C dX2_unlink_48 rfl 3 rfl ?_
        obtain ⟨z5, h_z5, hf⟩ := bnd hf
        refine q_cVV (ws' := wXX cI cJ cN x0 p0 i0 n0 n1 n2 n3 n4 n5 n6 s0 s1 s2 s3 s4 s5 s6 rp1 ri pl1 z3 z5 S) C (c_X0_takeLink l D cI cJ cN n0 n1 n2 n3 n4 n5 n6 N x1 x2 z5 h_z5) (mkV (fr := 2) (lo := 43) C xc_X0_takeLink xm_X2_63 xi_X0_takeLink xe_X0_takeLink xn_X0 hd_X0_takeLink ⟨Nat.le_of_ble_eq_true rfl, Nat.le_of_ble_eq_true rfl⟩) 0 rfl rfl [3, 4, 5, 6, 7, 8, 9] rfl (by decide) rfl rfl rfl rfl (Nat.le_of_ble_eq_true rfl) dX2_unlink_49 ⟨Nat.le_of_ble_eq_true rfl, Nat.le_of_ble_eq_true rfl⟩ ?_
        refine q_iload_n C dX2_unlink_52 rfl 0 rfl ?_
        have hf := Option.some.inj hf
        subst hf
        exact q_iret C (Nat.le_of_ble_eq_true rfl) (Nat.le_of_ble_eq_true rfl) ⟨_, _, _, hpool, rfl⟩ dX2_unlink_53
      · have hf := ifF hf h
        refine q_iconst (v := -1) C dX2_unlink_27 (by decide) ?_
        have hf := Option.some.inj hf
        subst hf
        exact q_iret C (Nat.le_of_ble_eq_true rfl) (Nat.le_of_ble_eq_true rfl) ⟨_, _, _, hpool, rfl⟩ dX2_unlink_28
set_option maxRecDepth 100000 in
set_option maxHeartbeats 4000000 in
theorem c_X2_drawLink (l : Launch) (D : va_G) (cI cJ cN : ClassId) (x0 p0 i0 n0 n1 n2 n3 n4 n5 n6 s0 s1 s2 s3 s4 s5 s6 : Nat) (rp ri : Nat → Option Nat) (pl : va_W)  (V : HS) (N : NS) (S : SS) (x1 : Int32) (x2 : Int32) (z : Int32 × HS × NS) (hpool : PoolOK cI V rp ri pl) (hf : f_X2_drawLink V N S x1 x2 = some z) : MI l D cI cJ cN yX2_drawLink (WS yX2_drawLink cX2_drawLink 4 (some .int)) { frames := 6, cells := 7, slots := 356, locals := 132 } [.ref x0, .int x1, .int x2] (wXX cI cJ cN x0 p0 i0 n0 n1 n2 n3 n4 n5 n6 s0 s1 s2 s3 s4 s5 s6 rp ri pl V N S) z.1 (XP cI cJ cN x0 p0 i0 n0 n1 n2 n3 n4 n5 n6 s0 s1 s2 s3 s4 s5 s6 z.2.1 z.2.2 S) := by
  rw [f_X2_drawLink] at hf
  refine q_startI (lv := [(0, .ref x0), (1, .int x1), (2, .int x2)]) (by decide +kernel) rfl (Nat.le_of_ble_eq_true rfl) ?_
  intro p e s m below meth c C hin
  refine q_aload_n C dX2_drawLink_0 rfl 0 rfl ?_
  refine q_get C (uW uX2_in) 0 rfl rfl 0 (by decide) (ws_in xf_X2_10) rfl rfl dX2_drawLink_1 ?_
  refine q_iload_n C dX2_drawLink_4 rfl 1 rfl ?_
  obtain ⟨z1, h_z1, hf⟩ := bnd hf
  refine q_cVI (ws' := wXX cI cJ cN x0 p0 i0 n0 n1 n2 n3 n4 n5 n6 s0 s1 s2 s3 s4 s5 s6 rp ri pl V N S) C (c_X0_holds l D cI cJ cN n0 n1 n2 n3 n4 n5 n6 N x1 z1 h_z1) (mkV (fr := 1) (lo := 20) C xc_X0_holds xm_X2_56 xi_X0_holds xe_X0_holds xn_X0 hd_X0_holds ⟨Nat.le_of_ble_eq_true rfl, Nat.le_of_ble_eq_true rfl⟩) 0 rfl rfl [3, 4, 5, 6, 7, 8, 9] rfl (by decide) rfl rfl rfl rfl (Nat.le_of_ble_eq_true rfl) dX2_drawLink_5 ⟨Nat.le_of_ble_eq_true rfl, Nat.le_of_ble_eq_true rfl⟩ ?_
  refine q_if_eq C 20 dX2_drawLink_8 (by decide) (fun h => ?_) (fun h => ?_)
  · have hf := ifT hf h
    refine q_iconst (v := -1) C dX2_drawLink_20 (by decide) ?_
    have hf := Option.some.inj hf
    subst hf
    exact q_iret C (Nat.le_of_ble_eq_true rfl) (Nat.le_of_ble_eq_true rfl) ⟨_, _, _, hpool, rfl⟩ dX2_drawLink_21
  · have hf := ifF hf h
    refine q_iload_n C dX2_drawLink_11 rfl 2 rfl ?_
    refine q_if_lt C 20 dX2_drawLink_12 (by decide) (fun h => ?_) (fun h => ?_)
    · have hf := ifT hf h
      refine q_iconst (v := -1) C dX2_drawLink_20 (by decide) ?_
      have hf := Option.some.inj hf
      subst hf
      exact q_iret C (Nat.le_of_ble_eq_true rfl) (Nat.le_of_ble_eq_true rfl) ⟨_, _, _, hpool, rfl⟩ dX2_drawLink_21
    · have hf := ifF hf h
      refine q_iload_n C dX2_drawLink_15 rfl 2 rfl ?_
      refine q_iconst (v := 2) C dX2_drawLink_16 (by decide) ?_
      refine q_icmp_le C 22 dX2_drawLink_17 (by decide) (fun h => ?_) (fun h => ?_)
      · have hf := ifT hf h
        refine q_aload_n C dX2_drawLink_22 rfl 0 rfl ?_
        refine q_get C (uW uX2_in) 0 rfl rfl 0 (by decide) (ws_in xf_X2_10) rfl rfl dX2_drawLink_23 ?_
        refine q_iload_n C dX2_drawLink_26 rfl 1 rfl ?_
        obtain ⟨z2, h_z2, hf⟩ := bnd hf
        refine q_cVI (ws' := wXX cI cJ cN x0 p0 i0 n0 n1 n2 n3 n4 n5 n6 s0 s1 s2 s3 s4 s5 s6 rp ri pl V N S) C (c_X0_isPresent l D cI cJ cN n0 n1 n2 n3 n4 n5 n6 N x1 z2 h_z2) (mkV (fr := 2) (lo := 41) C xc_X0_isPresent xm_X2_66 xi_X0_isPresent xe_X0_isPresent xn_X0 hd_X0_isPresent ⟨Nat.le_of_ble_eq_true rfl, Nat.le_of_ble_eq_true rfl⟩) 0 rfl rfl [3, 4, 5, 6, 7, 8, 9] rfl (by decide) rfl rfl rfl rfl (Nat.le_of_ble_eq_true rfl) dX2_drawLink_27 ⟨Nat.le_of_ble_eq_true rfl, Nat.le_of_ble_eq_true rfl⟩ ?_
        refine q_if_ne C 36 dX2_drawLink_30 (by decide) (fun h => ?_) (fun h => ?_)
        · have hf := ifF hf h
          refine q_aload_n C dX2_drawLink_36 rfl 0 rfl ?_
          obtain ⟨z3, h_z3, hf⟩ := bnd hf
          refine q_cVVw C (c_X2_record l D cI cJ cN x0 p0 i0 n0 n1 n2 n3 n4 n5 n6 s0 s1 s2 s3 s4 s5 s6 rp ri pl V N S z3 hpool h_z3) (mkV (fr := 5) (lo := 112) C xc_X2_record xm_X2_34 xi_X2_record xe_X2_record xn_X2 hd_X2_record ⟨Nat.le_of_ble_eq_true rfl, Nat.le_of_ble_eq_true rfl⟩) 0 rfl rfl rfl rfl (Nat.le_of_ble_eq_true rfl) dX2_drawLink_37 ⟨Nat.le_of_ble_eq_true rfl, Nat.le_of_ble_eq_true rfl⟩ (fun w1 hp1 => ?_)
          obtain ⟨rp1, pl1, hpool, rfl⟩ := hp1
          refine q_aload_n C dX2_drawLink_40 rfl 0 rfl ?_
          refine q_get C (uW uX2_in) 0 rfl rfl 0 (by decide) (ws_in xf_X2_10) rfl rfl dX2_drawLink_41 ?_
          refine q_iload_n C dX2_drawLink_44 rfl 1 rfl ?_
          refine q_iload_n C dX2_drawLink_45 rfl 2 rfl ?_
          obtain ⟨z4, h_z4, hf⟩ := bnd hf
          refine q_cVI (ws' := wXX cI cJ cN x0 p0 i0 n0 n1 n2 n3 n4 n5 n6 s0 s1 s2 s3 s4 s5 s6 rp1 ri pl1 z3 z4.2 S) C (c_X0_drawTarget l D cI cJ cN n0 n1 n2 n3 n4 n5 n6 N x1 x2 z4 h_z4) (mkV (fr := 3) (lo := 70) C xc_X0_drawTarget xm_X2_69 xi_X0_drawTarget xe_X0_drawTarget xn_X0 hd_X0_drawTarget ⟨Nat.le_of_ble_eq_true rfl, Nat.le_of_ble_eq_true rfl⟩) 0 rfl rfl [3, 4, 5, 6, 7, 8, 9] rfl (by decide) rfl rfl rfl rfl (Nat.le_of_ble_eq_true rfl) dX2_drawLink_46 ⟨Nat.le_of_ble_eq_true rfl, Nat.le_of_ble_eq_true rfl⟩ ?_
          refine q_istore_n (lv' := [(3, .int z4.1), (0, .ref x0), (1, .int x1), (2, .int x2)]) C dX2_drawLink_49 rfl (by decide) rfl ?_
          refine q_iload_n C dX2_drawLink_50 rfl 0 rfl ?_
          refine q_bipush (v := -9) C dX2_drawLink_51 (by decide) ?_
          refine q_icmp_eq C 65 dX2_drawLink_53 (by decide) (fun h => ?_) (fun h => ?_)
          · have hf := ifT hf h
            refine q_iload_n C dX2_drawLink_65 rfl 0 rfl ?_
            have hf := Option.some.inj hf
            subst hf
            exact q_iret C (Nat.le_of_ble_eq_true rfl) (Nat.le_of_ble_eq_true rfl) ⟨_, _, _, hpool, rfl⟩ dX2_drawLink_66
          · have hf := ifF hf h
            refine q_aload_n C dX2_drawLink_56 rfl 1 rfl ?_
            refine q_get C (uW uX2_in) 0 rfl rfl 0 (by decide) (ws_in xf_X2_10) rfl rfl dX2_drawLink_57 ?_
            refine q_iload_n C dX2_drawLink_60 rfl 2 rfl ?_
            refine q_iload_n C dX2_drawLink_61 rfl 0 rfl ?_
            obtain ⟨z5, h_z5, hf⟩ := bnd hf
            refine q_cVV (ws' := wXX cI cJ cN x0 p0 i0 n0 n1 n2 n3 n4 n5 n6 s0 s1 s2 s3 s4 s5 s6 rp1 ri pl1 z3 z5 S) C (c_X0_giveLink l D cI cJ cN n0 n1 n2 n3 n4 n5 n6 z4.2 x1 z4.1 z5 h_z5) (mkV (fr := 3) (lo := 66) C xc_X0_giveLink xm_X2_49 xi_X0_giveLink xe_X0_giveLink xn_X0 hd_X0_giveLink ⟨Nat.le_of_ble_eq_true rfl, Nat.le_of_ble_eq_true rfl⟩) 0 rfl rfl [3, 4, 5, 6, 7, 8, 9] rfl (by decide) rfl rfl rfl rfl (Nat.le_of_ble_eq_true rfl) dX2_drawLink_62 ⟨Nat.le_of_ble_eq_true rfl, Nat.le_of_ble_eq_true rfl⟩ ?_
            refine q_iload_n C dX2_drawLink_65 rfl 0 rfl ?_
            have hf := Option.some.inj hf
            subst hf
            exact q_iret C (Nat.le_of_ble_eq_true rfl) (Nat.le_of_ble_eq_true rfl) ⟨_, _, _, hpool, rfl⟩ dX2_drawLink_66
        · have hf := ifT hf h
          refine q_bipush (v := -2) C dX2_drawLink_33 (by decide) ?_
          have hf := Option.some.inj hf
          subst hf
          exact q_iret C (Nat.le_of_ble_eq_true rfl) (Nat.le_of_ble_eq_true rfl) ⟨_, _, _, hpool, rfl⟩ dX2_drawLink_35
      · have hf := ifF hf h
        refine q_iconst (v := -1) C dX2_drawLink_20 (by decide) ?_
        have hf := Option.some.inj hf
        subst hf
        exact q_iret C (Nat.le_of_ble_eq_true rfl) (Nat.le_of_ble_eq_true rfl) ⟨_, _, _, hpool, rfl⟩ dX2_drawLink_21
set_option maxRecDepth 100000 in
set_option maxHeartbeats 4000000 in
theorem c_X2_isRewired (l : Launch) (D : va_G) (cI cJ cN : ClassId) (x0 p0 i0 n0 n1 n2 n3 n4 n5 n6 s0 s1 s2 s3 s4 s5 s6 : Nat) (rp ri : Nat → Option Nat) (pl : va_W)  (V : HS) (N : NS) (S : SS) (x1 : Int32) (z : Int32 × NS) (hf : f_X2_isRewired V N S x1 = some z) : MI l D cI cJ cN yX2_isRewired (WS yX2_isRewired cX2_isRewired 2 (some .boolean)) { frames := 3, cells := 0, slots := 0, locals := 67 } [.ref x0, .int x1] (wXX cI cJ cN x0 p0 i0 n0 n1 n2 n3 n4 n5 n6 s0 s1 s2 s3 s4 s5 s6 rp ri pl V N S) z.1 (fun w => w = wXX cI cJ cN x0 p0 i0 n0 n1 n2 n3 n4 n5 n6 s0 s1 s2 s3 s4 s5 s6 rp ri pl V z.2 S) := by
  rw [f_X2_isRewired] at hf
  refine q_startI (lv := [(0, .ref x0), (1, .int x1)]) (by decide +kernel) rfl (Nat.le_of_ble_eq_true rfl) ?_
  intro p e s m below meth c C hin
  refine q_aload_n C dX2_isRewired_0 rfl 0 rfl ?_
  refine q_get C (uW uX2_in) 0 rfl rfl 0 (by decide) (ws_in xf_X2_10) rfl rfl dX2_isRewired_1 ?_
  refine q_iconst (v := 1) C dX2_isRewired_4 (by decide) ?_
  obtain ⟨z1, h_z1, hf⟩ := bnd hf
  refine q_cVI (ws' := wXX cI cJ cN x0 p0 i0 n0 n1 n2 n3 n4 n5 n6 s0 s1 s2 s3 s4 s5 s6 rp ri pl V N S) C (c_X0_setting l D cI cJ cN n0 n1 n2 n3 n4 n5 n6 N (1 : Int32) z1 h_z1) (mkV (fr := 1) (lo := 21) C xc_X0_setting xm_X2_114 xi_X0_setting xe_X0_setting xn_X0 hd_X0_setting ⟨Nat.le_of_ble_eq_true rfl, Nat.le_of_ble_eq_true rfl⟩) 0 rfl rfl [3, 4, 5, 6, 7, 8, 9] rfl (by decide) rfl rfl rfl rfl (Nat.le_of_ble_eq_true rfl) dX2_isRewired_5 ⟨Nat.le_of_ble_eq_true rfl, Nat.le_of_ble_eq_true rfl⟩ ?_
  by_cases h0 : z1 = (1 : Int32)
  · have hf := ifT hf h0
    refine q_tableIn (off := 28) C 36 dX2_isRewired_8 (by rw [h0]; decide) (by rw [h0]; decide) (by first | (rw [h0]; done) | (rw [h0]; decide)) (by decide) ?_
    refine q_iload_n C dX2_isRewired_36 rfl 1 rfl ?_
    refine q_if_ne C 44 dX2_isRewired_37 (by decide) (fun h => ?_) (fun h => ?_)
    · have hf := ifF hf h
      refine q_iconst (v := 0) C dX2_isRewired_44 (by decide) ?_
      have hf := Option.some.inj hf
      subst hf
      exact q_zret (v := 0) C rfl (Nat.le_of_ble_eq_true rfl) (Nat.le_of_ble_eq_true rfl) rfl dX2_isRewired_45
    · have hf := ifT hf h
      refine q_iconst (v := 1) C dX2_isRewired_40 (by decide) ?_
      refine q_goto C 45 dX2_isRewired_41 (by decide) ?_
      have hf := Option.some.inj hf
      subst hf
      exact q_zret (v := 1) C rfl (Nat.le_of_ble_eq_true rfl) (Nat.le_of_ble_eq_true rfl) rfl dX2_isRewired_45
  · have hf := ifF hf h0
    by_cases h1 : z1 = (2 : Int32)
    · have hf := ifT hf h1
      refine q_tableIn (off := 38) C 46 dX2_isRewired_8 (by rw [h1]; decide) (by rw [h1]; decide) (by first | (rw [h1]; done) | (rw [h1]; decide)) (by decide) ?_
      refine q_aload_n C dX2_isRewired_46 rfl 0 rfl ?_
      refine q_get C (uW uX2_in) 0 rfl rfl 0 (by decide) (ws_in xf_X2_10) rfl rfl dX2_isRewired_47 ?_
      refine q_aload_n C dX2_isRewired_50 rfl 0 rfl ?_
      refine q_get C (uW uX2_in) 0 rfl rfl 0 (by decide) (ws_in xf_X2_10) rfl rfl dX2_isRewired_51 ?_
      refine q_iconst (v := 2) C dX2_isRewired_54 (by decide) ?_
      obtain ⟨z2, h_z2, hf⟩ := bnd hf
      refine q_cVI (ws' := wXX cI cJ cN x0 p0 i0 n0 n1 n2 n3 n4 n5 n6 s0 s1 s2 s3 s4 s5 s6 rp ri pl V N S) C (c_X0_setting l D cI cJ cN n0 n1 n2 n3 n4 n5 n6 N (2 : Int32) z2 h_z2) (mkV (fr := 1) (lo := 21) C xc_X0_setting xm_X2_114 xi_X0_setting xe_X0_setting xn_X0 hd_X0_setting ⟨Nat.le_of_ble_eq_true rfl, Nat.le_of_ble_eq_true rfl⟩) 0 rfl rfl [3, 4, 5, 6, 7, 8, 9] rfl (by decide) rfl rfl rfl rfl (Nat.le_of_ble_eq_true rfl) dX2_isRewired_55 ⟨Nat.le_of_ble_eq_true rfl, Nat.le_of_ble_eq_true rfl⟩ ?_
      obtain ⟨z3, h_z3, hf⟩ := bnd hf
      refine q_cVI (ws' := wXX cI cJ cN x0 p0 i0 n0 n1 n2 n3 n4 n5 n6 s0 s1 s2 s3 s4 s5 s6 rp ri pl V z3.2 S) C (c_X0_draw l D cI cJ cN n0 n1 n2 n3 n4 n5 n6 N z2 z3 h_z3) (mkV (fr := 2) (lo := 44) C xc_X0_draw xm_X2_82 xi_X0_draw xe_X0_draw xn_X0 hd_X0_draw ⟨Nat.le_of_ble_eq_true rfl, Nat.le_of_ble_eq_true rfl⟩) 0 rfl rfl [3, 4, 5, 6, 7, 8, 9] rfl (by decide) rfl rfl rfl rfl (Nat.le_of_ble_eq_true rfl) dX2_isRewired_58 ⟨Nat.le_of_ble_eq_true rfl, Nat.le_of_ble_eq_true rfl⟩ ?_
      refine q_if_ne C 68 dX2_isRewired_61 (by decide) (fun h => ?_) (fun h => ?_)
      · have hf := ifF hf h
        refine q_iconst (v := 0) C dX2_isRewired_68 (by decide) ?_
        have hf := Option.some.inj hf
        subst hf
        exact q_zret (v := 0) C rfl (Nat.le_of_ble_eq_true rfl) (Nat.le_of_ble_eq_true rfl) rfl dX2_isRewired_69
      · have hf := ifT hf h
        refine q_iconst (v := 1) C dX2_isRewired_64 (by decide) ?_
        refine q_goto C 69 dX2_isRewired_65 (by decide) ?_
        have hf := Option.some.inj hf
        subst hf
        exact q_zret (v := 1) C rfl (Nat.le_of_ble_eq_true rfl) (Nat.le_of_ble_eq_true rfl) rfl dX2_isRewired_69
    · have hf := ifF hf h1
      by_cases h2 : z1 = (3 : Int32)
      · have hf := ifT hf h2
        refine q_tableIn (off := 62) C 70 dX2_isRewired_8 (by rw [h2]; decide) (by rw [h2]; decide) (by first | (rw [h2]; done) | (rw [h2]; decide)) (by decide) ?_
        refine q_aload_n C dX2_isRewired_70 rfl 0 rfl ?_
        refine q_get C (uW uX2_in) 0 rfl rfl 1 (by decide) (ws_in xf_X2_19) rfl rfl dX2_isRewired_71 ?_
        obtain ⟨z4, h_z4, hf⟩ := bnd hf
        refine q_cVI (ws' := wXX cI cJ cN x0 p0 i0 n0 n1 n2 n3 n4 n5 n6 s0 s1 s2 s3 s4 s5 s6 rp ri pl V N S) C (c_X1_steps l D cI cJ cN s0 s1 s2 s3 s4 s5 s6 S z4 h_z4) (mkV (fr := 0) (lo := 0) C xc_X1_steps xm_X2_79 xi_X1_steps xe_X1_steps xn_X1 hd_X1_steps ⟨Nat.le_of_ble_eq_true rfl, Nat.le_of_ble_eq_true rfl⟩) 0 rfl rfl [10, 11, 12, 13, 14, 15, 16] rfl (by decide) rfl rfl rfl rfl (Nat.le_of_ble_eq_true rfl) dX2_isRewired_74 ⟨Nat.le_of_ble_eq_true rfl, Nat.le_of_ble_eq_true rfl⟩ ?_
        refine q_iconst (v := 1) C dX2_isRewired_77 (by decide) ?_
        refine q_icmp_le C 98 dX2_isRewired_78 (by decide) (fun h => ?_) (fun h => ?_)
        · have hf := ifT hf h
          refine q_iconst (v := 0) C dX2_isRewired_98 (by decide) ?_
          have hf := Option.some.inj hf
          subst hf
          exact q_zret (v := 0) C rfl (Nat.le_of_ble_eq_true rfl) (Nat.le_of_ble_eq_true rfl) rfl dX2_isRewired_99
        · have hf := ifF hf h
          refine q_iload_n C dX2_isRewired_81 rfl 1 rfl ?_
          refine q_aload_n C dX2_isRewired_82 rfl 0 rfl ?_
          refine q_get C (uW uX2_in) 0 rfl rfl 1 (by decide) (ws_in xf_X2_19) rfl rfl dX2_isRewired_83 ?_
          obtain ⟨z5, h_z5, hf⟩ := bnd hf
          refine q_cVI (ws' := wXX cI cJ cN x0 p0 i0 n0 n1 n2 n3 n4 n5 n6 s0 s1 s2 s3 s4 s5 s6 rp ri pl V N S) C (c_X1_steps l D cI cJ cN s0 s1 s2 s3 s4 s5 s6 S z5 h_z5) (mkV (fr := 0) (lo := 0) C xc_X1_steps xm_X2_79 xi_X1_steps xe_X1_steps xn_X1 hd_X1_steps ⟨Nat.le_of_ble_eq_true rfl, Nat.le_of_ble_eq_true rfl⟩) 0 rfl rfl [10, 11, 12, 13, 14, 15, 16] rfl (by decide) rfl rfl rfl rfl (Nat.le_of_ble_eq_true rfl) dX2_isRewired_86 ⟨Nat.le_of_ble_eq_true rfl, Nat.le_of_ble_eq_true rfl⟩ ?_
          refine q_iconst (v := 2) C dX2_isRewired_89 (by decide) ?_
          refine q_idiv C dX2_isRewired_90 (by decide) ?_
          refine q_icmp_ne C 98 dX2_isRewired_91 (by decide) (fun h => ?_) (fun h => ?_)
          · have hf := ifF hf h
            refine q_iconst (v := 0) C dX2_isRewired_98 (by decide) ?_
            have hf := Option.some.inj hf
            subst hf
            exact q_zret (v := 0) C rfl (Nat.le_of_ble_eq_true rfl) (Nat.le_of_ble_eq_true rfl) rfl dX2_isRewired_99
          · have hf := ifT hf h
            refine q_iconst (v := 1) C dX2_isRewired_94 (by decide) ?_
            refine q_goto C 99 dX2_isRewired_95 (by decide) ?_
            have hf := Option.some.inj hf
            subst hf
            exact q_zret (v := 1) C rfl (Nat.le_of_ble_eq_true rfl) (Nat.le_of_ble_eq_true rfl) rfl dX2_isRewired_99
      · have hf := ifF hf h2
        refine q_tableOut C 100 dX2_isRewired_8 (by have a0 := lv_neT h0 (show ((1 : Int32)).toInt = 1 by decide); have a1 := lv_neT h1 (show ((2 : Int32)).toInt = 2 by decide); have a2 := lv_neT h2 (show ((3 : Int32)).toInt = 3 by decide); omega) (by decide) ?_
        refine q_iconst (v := 0) C dX2_isRewired_100 (by decide) ?_
        have hf := Option.some.inj hf
        subst hf
        exact q_zret (v := 0) C rfl (Nat.le_of_ble_eq_true rfl) (Nat.le_of_ble_eq_true rfl) rfl dX2_isRewired_101
set_option maxRecDepth 100000 in
set_option maxHeartbeats 4000000 in
theorem l_X2_lookUpAndRewire_20 {p : Program} {l : Launch} {e : Env} {s : State} {m : MethodId} {args : Array Value} {below : List Frame} {meth : Method} {c : Code} {D : va_G} {cI cJ cN : ClassId} {W0 : va_W} {rp ri : Nat → Option Nat} {pl : va_W} {x0 p0 i0 n0 n1 n2 n3 n4 n5 n6 s0 s1 s2 s3 s4 s5 s6 : Nat} {z : Int32 × NS × SS} (C : CX p l s m args meth c cX2_lookUpAndRewire 4 yX2_lookUpAndRewire.cls (WS yX2_lookUpAndRewire cX2_lookUpAndRewire 4 (some .boolean)) (some .boolean) D cI cJ cN (va_A W0 s.heap.size)) : ∀ (fu : Nat) (V : HS) (N : NS) (S : SS) (x2 : Int32) (x3 : Int32), g_X2_lookUpAndRewire_20 fu V N S x2 x3 = some z → WW p l e { frames := 5, cells := 0, slots := 0, locals := 117 } s m args below meth c D 4 (va_A W0 s.heap.size) 0 0 (QI below args s D W0 { frames := 5, cells := 0, slots := 0, locals := 117 } z.1 (fun w => w = wXX cI cJ cN x0 p0 i0 n0 n1 n2 n3 n4 n5 n6 s0 s1 s2 s3 s4 s5 s6 rp ri pl V z.2.1 z.2.2)) 20 [(0, .ref x0), (2, .int x2), (3, .int x3)] [] (wXX cI cJ cN x0 p0 i0 n0 n1 n2 n3 n4 n5 n6 s0 s1 s2 s3 s4 s5 s6 rp ri pl V N S) := by
  intro fu
  induction fu with
  | zero =>
    intro V N S x2 x3 hf
    rw [g_X2_lookUpAndRewire_20] at hf
    cases hf
  | succ fu ih =>
    intro V N S x2 x3 hf
    rw [g_X2_lookUpAndRewire_20] at hf
    refine q_iload_n C dX2_lookUpAndRewire_20 rfl 2 rfl ?_
    refine q_aload_n C dX2_lookUpAndRewire_21 rfl 0 rfl ?_
    refine q_get C (uW uX2_in) 0 rfl rfl 1 (by decide) (ws_in xf_X2_19) rfl rfl dX2_lookUpAndRewire_22 ?_
    obtain ⟨z1, h_z1, hf⟩ := bnd hf
    refine q_cVI (ws' := wXX cI cJ cN x0 p0 i0 n0 n1 n2 n3 n4 n5 n6 s0 s1 s2 s3 s4 s5 s6 rp ri pl V N S) C (c_X1_steps l D cI cJ cN s0 s1 s2 s3 s4 s5 s6 S z1 h_z1) (mkV (fr := 0) (lo := 0) C xc_X1_steps xm_X2_79 xi_X1_steps xe_X1_steps xn_X1 hd_X1_steps ⟨Nat.le_of_ble_eq_true rfl, Nat.le_of_ble_eq_true rfl⟩) 0 rfl rfl [10, 11, 12, 13, 14, 15, 16] rfl (by decide) rfl rfl rfl rfl (Nat.le_of_ble_eq_true rfl) dX2_lookUpAndRewire_25 ⟨Nat.le_of_ble_eq_true rfl, Nat.le_of_ble_eq_true rfl⟩ ?_
    refine q_icmp_ge C 61 dX2_lookUpAndRewire_28 (by decide) (fun h => ?_) (fun h => ?_)
    · have hf := ifT hf h
      refine q_iconst (v := 1) C dX2_lookUpAndRewire_61 (by decide) ?_
      have hf := Option.some.inj hf
      subst hf
      exact q_zret (v := 1) C rfl (Nat.le_of_ble_eq_true rfl) (Nat.le_of_ble_eq_true rfl) rfl dX2_lookUpAndRewire_62
    · have hf := ifF hf h
      refine q_aload_n C dX2_lookUpAndRewire_31 rfl 0 rfl ?_
      refine q_iload_n C dX2_lookUpAndRewire_32 rfl 2 rfl ?_
      obtain ⟨z2, h_z2, hf⟩ := bnd hf
      refine q_cVIw C (c_X2_isRewired l D cI cJ cN x0 p0 i0 n0 n1 n2 n3 n4 n5 n6 s0 s1 s2 s3 s4 s5 s6 rp ri pl V N S x3 z2 h_z2) (mkV (fr := 3) (lo := 67) C xc_X2_isRewired xm_X2_184 xi_X2_isRewired xe_X2_isRewired xn_X2 hd_X2_isRewired ⟨Nat.le_of_ble_eq_true rfl, Nat.le_of_ble_eq_true rfl⟩) 0 rfl rfl rfl rfl (Nat.le_of_ble_eq_true rfl) dX2_lookUpAndRewire_33 ⟨Nat.le_of_ble_eq_true rfl, Nat.le_of_ble_eq_true rfl⟩ (fun w1 hp1 => ?_)
      subst hp1
      refine q_if_eq C 55 dX2_lookUpAndRewire_36 (by decide) (fun h => ?_) (fun h => ?_)
      · have hf := ifT hf h
        refine q_iinc (v := (x3 + (1 : Int32))) (lv' := [(3, .int (x3 + (1 : Int32))), (0, .ref x0), (2, .int x2)]) C dX2_lookUpAndRewire_55 2 rfl rfl (by decide) rfl ?_
        refine q_goto C 20 dX2_lookUpAndRewire_58 (by decide) ?_
        refine q_sub (lv' := [(0, .ref x0), (2, .int x2), (3, .int (x3 + (1 : Int32)))]) [1, 2, 0] rfl ?_
        exact ih V z2.2 S x2 (x3 + (1 : Int32)) hf
      · have hf := ifF hf h
        refine q_aload_n C dX2_lookUpAndRewire_39 rfl 0 rfl ?_
        refine q_get C (uW uX2_in) 0 rfl rfl 0 (by decide) (ws_in xf_X2_10) rfl rfl dX2_lookUpAndRewire_40 ?_
        refine q_aload_n C dX2_lookUpAndRewire_43 rfl 0 rfl ?_
        refine q_get C (uW uX2_in) 0 rfl rfl 1 (by decide) (ws_in xf_X2_19) rfl rfl dX2_lookUpAndRewire_44 ?_
        refine q_iload_n C dX2_lookUpAndRewire_47 rfl 2 rfl ?_
        obtain ⟨z3, h_z3, hf⟩ := bnd hf
        refine q_cVI (ws' := wXX cI cJ cN x0 p0 i0 n0 n1 n2 n3 n4 n5 n6 s0 s1 s2 s3 s4 s5 s6 rp ri pl V z2.2 S) C (c_X1_trailAt l D cI cJ cN s0 s1 s2 s3 s4 s5 s6 S x3 z3 h_z3) (mkV (fr := 1) (lo := 21) C xc_X1_trailAt xm_X2_153 xi_X1_trailAt xe_X1_trailAt xn_X1 hd_X1_trailAt ⟨Nat.le_of_ble_eq_true rfl, Nat.le_of_ble_eq_true rfl⟩) 0 rfl rfl [10, 11, 12, 13, 14, 15, 16] rfl (by decide) rfl rfl rfl rfl (Nat.le_of_ble_eq_true rfl) dX2_lookUpAndRewire_48 ⟨Nat.le_of_ble_eq_true rfl, Nat.le_of_ble_eq_true rfl⟩ ?_
        refine q_iload_n C dX2_lookUpAndRewire_51 rfl 1 rfl ?_
        obtain ⟨z4, h_z4, hf⟩ := bnd hf
        refine q_cVV (ws' := wXX cI cJ cN x0 p0 i0 n0 n1 n2 n3 n4 n5 n6 s0 s1 s2 s3 s4 s5 s6 rp ri pl V z4 S) C (c_X0_giveLink l D cI cJ cN n0 n1 n2 n3 n4 n5 n6 z2.2 z3 x2 z4 h_z4) (mkV (fr := 3) (lo := 66) C xc_X0_giveLink xm_X2_49 xi_X0_giveLink xe_X0_giveLink xn_X0 hd_X0_giveLink ⟨Nat.le_of_ble_eq_true rfl, Nat.le_of_ble_eq_true rfl⟩) 0 rfl rfl [3, 4, 5, 6, 7, 8, 9] rfl (by decide) rfl rfl rfl rfl (Nat.le_of_ble_eq_true rfl) dX2_lookUpAndRewire_52 ⟨Nat.le_of_ble_eq_true rfl, Nat.le_of_ble_eq_true rfl⟩ ?_
        refine q_iinc (v := (x3 + (1 : Int32))) (lv' := [(3, .int (x3 + (1 : Int32))), (0, .ref x0), (2, .int x2)]) C dX2_lookUpAndRewire_55 2 rfl rfl (by decide) rfl ?_
        refine q_goto C 20 dX2_lookUpAndRewire_58 (by decide) ?_
        refine q_sub (lv' := [(0, .ref x0), (2, .int x2), (3, .int (x3 + (1 : Int32)))]) [1, 2, 0] rfl ?_
        exact ih V z4 S x2 (x3 + (1 : Int32)) hf
set_option maxRecDepth 100000 in
set_option maxHeartbeats 4000000 in
theorem c_X2_lookUpAndRewire (l : Launch) (D : va_G) (cI cJ cN : ClassId) (x0 p0 i0 n0 n1 n2 n3 n4 n5 n6 s0 s1 s2 s3 s4 s5 s6 : Nat) (rp ri : Nat → Option Nat) (pl : va_W)  (V : HS) (N : NS) (S : SS) (x1 : Int32) (x2 : Int32) (z : Int32 × NS × SS) (hf : f_X2_lookUpAndRewire V N S x1 x2 = some z) : MI l D cI cJ cN yX2_lookUpAndRewire (WS yX2_lookUpAndRewire cX2_lookUpAndRewire 4 (some .boolean)) { frames := 5, cells := 0, slots := 0, locals := 117 } [.ref x0, .int x1, .int x2] (wXX cI cJ cN x0 p0 i0 n0 n1 n2 n3 n4 n5 n6 s0 s1 s2 s3 s4 s5 s6 rp ri pl V N S) z.1 (fun w => w = wXX cI cJ cN x0 p0 i0 n0 n1 n2 n3 n4 n5 n6 s0 s1 s2 s3 s4 s5 s6 rp ri pl V z.2.1 z.2.2) := by
  rw [f_X2_lookUpAndRewire] at hf
  refine q_startI (lv := [(0, .ref x0), (1, .int x1), (2, .int x2)]) (by decide +kernel) rfl (Nat.le_of_ble_eq_true rfl) ?_
  intro p e s m below meth c C hin
  refine q_aload_n C dX2_lookUpAndRewire_0 rfl 0 rfl ?_
  refine q_get C (uW uX2_in) 0 rfl rfl 1 (by decide) (ws_in xf_X2_19) rfl rfl dX2_lookUpAndRewire_1 ?_
  refine q_aload_n C dX2_lookUpAndRewire_4 rfl 0 rfl ?_
  refine q_get C (uW uX2_in) 0 rfl rfl 0 (by decide) (ws_in xf_X2_10) rfl rfl dX2_lookUpAndRewire_5 ?_
  refine q_iload_n C dX2_lookUpAndRewire_8 rfl 1 rfl ?_
  refine q_iload_n C dX2_lookUpAndRewire_9 rfl 2 rfl ?_
  obtain ⟨z1, h_z1, hf⟩ := bnd hf
  refine q_cVI (ws' := wXX cI cJ cN x0 p0 i0 n0 n1 n2 n3 n4 n5 n6 s0 s1 s2 s3 s4 s5 s6 rp ri pl V N z1.2) C (c_X1_lookUp l D cI cJ cN s0 s1 s2 s3 s4 s5 s6 n0 n1 n2 n3 n4 n5 n6 S N x1 x2 z1 h_z1) (mkV (fr := 4) (lo := 94) C xc_X1_lookUp xm_X2_149 xi_X1_lookUp xe_X1_lookUp xn_X1 hd_X1_lookUp ⟨Nat.le_of_ble_eq_true rfl, Nat.le_of_ble_eq_true rfl⟩) 0 rfl rfl [10, 11, 12, 13, 14, 15, 16, 3, 4, 5, 6, 7, 8, 9] rfl (by decide) rfl rfl rfl rfl (Nat.le_of_ble_eq_true rfl) dX2_lookUpAndRewire_10 ⟨Nat.le_of_ble_eq_true rfl, Nat.le_of_ble_eq_true rfl⟩ ?_
  refine q_if_ne C 18 dX2_lookUpAndRewire_13 (by decide) (fun h => ?_) (fun h => ?_)
  · have hf := ifF hf h
    refine q_iconst (v := 0) C dX2_lookUpAndRewire_18 (by decide) ?_
    refine q_istore_n (lv' := [(3, .int (0 : Int32)), (0, .ref x0), (1, .int x1), (2, .int x2)]) C dX2_lookUpAndRewire_19 rfl (by decide) rfl ?_
    refine q_sub (lv' := [(0, .ref x0), (2, .int x2), (3, .int (0 : Int32))]) [1, 3, 0] rfl ?_
    exact l_X2_lookUpAndRewire_20 C FU V N z1.2 x2 (0 : Int32) hf
  · have hf := ifT hf h
    refine q_iconst (v := 0) C dX2_lookUpAndRewire_16 (by decide) ?_
    have hf := Option.some.inj hf
    subst hf
    exact q_zret (v := 0) C rfl (Nat.le_of_ble_eq_true rfl) (Nat.le_of_ble_eq_true rfl) rfl dX2_lookUpAndRewire_17
set_option maxRecDepth 100000 in
set_option maxHeartbeats 4000000 in
theorem c_X2_seek (l : Launch) (D : va_G) (cI cJ cN : ClassId) (x0 p0 i0 n0 n1 n2 n3 n4 n5 n6 s0 s1 s2 s3 s4 s5 s6 : Nat) (rp ri : Nat → Option Nat) (pl : va_W)  (V : HS) (N : NS) (S : SS) (x1 : Int32) (x2 : Int32) (z : Int32 × HS × NS × SS) (hpool : PoolOK cI V rp ri pl) (hf : f_X2_seek V N S x1 x2 = some z) : MI l D cI cJ cN yX2_seek (WS yX2_seek cX2_seek 4 (some .int)) { frames := 6, cells := 7, slots := 356, locals := 140 } [.ref x0, .int x1, .int x2] (wXX cI cJ cN x0 p0 i0 n0 n1 n2 n3 n4 n5 n6 s0 s1 s2 s3 s4 s5 s6 rp ri pl V N S) z.1 (XP cI cJ cN x0 p0 i0 n0 n1 n2 n3 n4 n5 n6 s0 s1 s2 s3 s4 s5 s6 z.2.1 z.2.2.1 z.2.2.2) := by
  rw [f_X2_seek] at hf
  refine q_startI (lv := [(0, .ref x0), (1, .int x1), (2, .int x2)]) (by decide +kernel) rfl (Nat.le_of_ble_eq_true rfl) ?_
  intro p e s m below meth c C hin
  refine q_aload_n C dX2_seek_0 rfl 0 rfl ?_
  refine q_iload_n C dX2_seek_1 rfl 1 rfl ?_
  refine q_iload_n C dX2_seek_2 rfl 2 rfl ?_
  obtain ⟨z1, h_z1, hf⟩ := bnd hf
  refine q_cVIw C (c_X2_faultOfPair l D cI cJ cN x0 p0 i0 n0 n1 n2 n3 n4 n5 n6 s0 s1 s2 s3 s4 s5 s6 rp ri pl V N S x1 x2 z1 h_z1) (mkV (fr := 3) (lo := 62) C xc_X2_faultOfPair xm_X2_72 xi_X2_faultOfPair xe_X2_faultOfPair xn_X2 hd_X2_faultOfPair ⟨Nat.le_of_ble_eq_true rfl, Nat.le_of_ble_eq_true rfl⟩) 0 rfl rfl rfl rfl (Nat.le_of_ble_eq_true rfl) dX2_seek_3 ⟨Nat.le_of_ble_eq_true rfl, Nat.le_of_ble_eq_true rfl⟩ (fun w1 hp1 => ?_)
  subst hp1
  refine q_istore_n (lv' := [(3, .int z1), (0, .ref x0), (1, .int x1), (2, .int x2)]) C dX2_seek_6 rfl (by decide) rfl ?_
  refine q_iload_n C dX2_seek_7 rfl 0 rfl ?_
  refine q_if_eq C 13 dX2_seek_8 (by decide) (fun h => ?_) (fun h => ?_)
  · have hf := ifT hf h
    refine q_aload_n C dX2_seek_13 rfl 1 rfl ?_
    obtain ⟨z2, h_z2, hf⟩ := bnd hf
    refine q_cVVw C (c_X2_record l D cI cJ cN x0 p0 i0 n0 n1 n2 n3 n4 n5 n6 s0 s1 s2 s3 s4 s5 s6 rp ri pl V N S z2 hpool h_z2) (mkV (fr := 5) (lo := 112) C xc_X2_record xm_X2_34 xi_X2_record xe_X2_record xn_X2 hd_X2_record ⟨Nat.le_of_ble_eq_true rfl, Nat.le_of_ble_eq_true rfl⟩) 0 rfl rfl rfl rfl (Nat.le_of_ble_eq_true rfl) dX2_seek_14 ⟨Nat.le_of_ble_eq_true rfl, Nat.le_of_ble_eq_true rfl⟩ (fun w1 hp1 => ?_)
    obtain ⟨rp1, pl1, hpool, rfl⟩ := hp1
    refine q_aload_n C dX2_seek_17 rfl 1 rfl ?_
    refine q_iload_n C dX2_seek_18 rfl 2 rfl ?_
    refine q_iload_n C dX2_seek_19 rfl 3 rfl ?_
    obtain ⟨z3, h_z3, hf⟩ := bnd hf
    refine q_cVIw C (c_X2_lookUpAndRewire l D cI cJ cN x0 p0 i0 n0 n1 n2 n3 n4 n5 n6 s0 s1 s2 s3 s4 s5 s6 rp1 ri pl1 z2 N S x1 x2 z3 h_z3) (mkV (fr := 5) (lo := 117) C xc_X2_lookUpAndRewire xm_X2_75 xi_X2_lookUpAndRewire xe_X2_lookUpAndRewire xn_X2 hd_X2_lookUpAndRewire ⟨Nat.le_of_ble_eq_true rfl, Nat.le_of_ble_eq_true rfl⟩) 0 rfl rfl rfl rfl (Nat.le_of_ble_eq_true rfl) dX2_seek_20 ⟨Nat.le_of_ble_eq_true rfl, Nat.le_of_ble_eq_true rfl⟩ (fun w1 hp1 => ?_)
    subst hp1
    refine q_if_eq C 36 dX2_seek_23 (by decide) (fun h => ?_) (fun h => ?_)
    · have hf := ifT hf h
      refine q_bipush (v := -9) C dX2_seek_36 (by decide) ?_
      have hf := Option.some.inj hf
      subst hf
      exact q_iret C (Nat.le_of_ble_eq_true rfl) (Nat.le_of_ble_eq_true rfl) ⟨_, _, _, hpool, rfl⟩ dX2_seek_38
    · have hf := ifF hf h
      refine q_aload_n C dX2_seek_26 rfl 1 rfl ?_
      refine q_get C (uW uX2_in) 0 rfl rfl 1 (by decide) (ws_in xf_X2_19) rfl rfl dX2_seek_27 ?_
      obtain ⟨z4, h_z4, hf⟩ := bnd hf
      refine q_cVI (ws' := wXX cI cJ cN x0 p0 i0 n0 n1 n2 n3 n4 n5 n6 s0 s1 s2 s3 s4 s5 s6 rp1 ri pl1 z2 z3.2.1 z3.2.2) C (c_X1_steps l D cI cJ cN s0 s1 s2 s3 s4 s5 s6 z3.2.2 z4 h_z4) (mkV (fr := 0) (lo := 0) C xc_X1_steps xm_X2_79 xi_X1_steps xe_X1_steps xn_X1 hd_X1_steps ⟨Nat.le_of_ble_eq_true rfl, Nat.le_of_ble_eq_true rfl⟩) 0 rfl rfl [10, 11, 12, 13, 14, 15, 16] rfl (by decide) rfl rfl rfl rfl (Nat.le_of_ble_eq_true rfl) dX2_seek_30 ⟨Nat.le_of_ble_eq_true rfl, Nat.le_of_ble_eq_true rfl⟩ ?_
      refine q_goto C 38 dX2_seek_33 (by decide) ?_
      have hf := Option.some.inj hf
      subst hf
      exact q_iret C (Nat.le_of_ble_eq_true rfl) (Nat.le_of_ble_eq_true rfl) ⟨_, _, _, hpool, rfl⟩ dX2_seek_38
  · have hf := ifF hf h
    refine q_iload_n C dX2_seek_11 rfl 0 rfl ?_
    have hf := Option.some.inj hf
    subst hf
    exact q_iret C (Nat.le_of_ble_eq_true rfl) (Nat.le_of_ble_eq_true rfl) ⟨_, _, _, hpool, rfl⟩ dX2_seek_12
set_option maxRecDepth 100000 in
set_option maxHeartbeats 4000000 in
theorem l_X2_seekSome_21 {p : Program} {l : Launch} {e : Env} {s : State} {m : MethodId} {args : Array Value} {below : List Frame} {meth : Method} {c : Code} {D : va_G} {cI cJ cN : ClassId} {W0 : va_W} {rp ri : Nat → Option Nat} {pl : va_W} {x0 p0 i0 n0 n1 n2 n3 n4 n5 n6 s0 s1 s2 s3 s4 s5 s6 : Nat} {z : Int32 × HS × NS × SS} (C : CX p l s m args meth c cX2_seekSome 6 yX2_seekSome.cls (WS yX2_seekSome cX2_seekSome 6 (some .int)) (some .int) D cI cJ cN (va_A W0 s.heap.size)) : ∀ (fu : Nat) (V : HS) (N : NS) (S : SS) (x1 : Int32) (x2 : Int32) (x3 : Int32), PoolOK cI V rp ri pl → g_X2_seekSome_21 fu V N S x1 x2 x3 = some z → WW p l e { frames := 6, cells := 7, slots := 356, locals := 140 } s m args below meth c D 6 (va_A W0 s.heap.size) (0 + 7) (0 + 356) (QI below args s D W0 { frames := 6, cells := 7, slots := 356, locals := 140 } z.1 (XP cI cJ cN x0 p0 i0 n0 n1 n2 n3 n4 n5 n6 s0 s1 s2 s3 s4 s5 s6 z.2.1 z.2.2.1 z.2.2.2)) 21 [(0, .ref x0), (1, .int x1), (2, .int x2), (3, .int x3)] [] (wXX cI cJ cN x0 p0 i0 n0 n1 n2 n3 n4 n5 n6 s0 s1 s2 s3 s4 s5 s6 rp ri pl V N S) := by
  intro fu
  induction fu with
  | zero =>
    intro V N S x1 x2 x3 hpool hf
    rw [g_X2_seekSome_21] at hf
    cases hf
  | succ fu ih =>
    intro V N S x1 x2 x3 hpool hf
    rw [g_X2_seekSome_21] at hf
    refine q_iload_n C dX2_seekSome_21 rfl 3 rfl ?_
    refine q_iload_n C dX2_seekSome_22 rfl 1 rfl ?_
    refine q_icmp_ge C 102 dX2_seekSome_23 (by decide) (fun h => ?_) (fun h => ?_)
    · have hf := ifT hf h
      refine q_iload_n C dX2_seekSome_102 rfl 2 rfl ?_
      have hf := Option.some.inj hf
      subst hf
      exact q_iret C (Nat.le_of_ble_eq_true rfl) (Nat.le_of_ble_eq_true rfl) ⟨_, _, _, hpool, rfl⟩ dX2_seekSome_103
    · have hf := ifF hf h
      refine q_aload_n C dX2_seekSome_26 rfl 0 rfl ?_
      refine q_get C (uW uX2_in) 0 rfl rfl 0 (by decide) (ws_in xf_X2_10) rfl rfl dX2_seekSome_27 ?_
      refine q_aload_n C dX2_seekSome_30 rfl 0 rfl ?_
      refine q_get C (uW uX2_in) 0 rfl rfl 0 (by decide) (ws_in xf_X2_10) rfl rfl dX2_seekSome_31 ?_
      obtain ⟨z1, h_z1, hf⟩ := bnd hf
      refine q_cVI (ws' := wXX cI cJ cN x0 p0 i0 n0 n1 n2 n3 n4 n5 n6 s0 s1 s2 s3 s4 s5 s6 rp ri pl V N S) C (c_X0_nodes l D cI cJ cN n0 n1 n2 n3 n4 n5 n6 N z1 h_z1) (mkV (fr := 0) (lo := 0) C xc_X0_nodes xm_X2_37 xi_X0_nodes xe_X0_nodes xn_X0 hd_X0_nodes ⟨Nat.le_of_ble_eq_true rfl, Nat.le_of_ble_eq_true rfl⟩) 0 rfl rfl [3, 4, 5, 6, 7, 8, 9] rfl (by decide) rfl rfl rfl rfl (Nat.le_of_ble_eq_true rfl) dX2_seekSome_34 ⟨Nat.le_of_ble_eq_true rfl, Nat.le_of_ble_eq_true rfl⟩ ?_
      obtain ⟨z2, h_z2, hf⟩ := bnd hf
      refine q_cVI (ws' := wXX cI cJ cN x0 p0 i0 n0 n1 n2 n3 n4 n5 n6 s0 s1 s2 s3 s4 s5 s6 rp ri pl V z2.2 S) C (c_X0_draw l D cI cJ cN n0 n1 n2 n3 n4 n5 n6 N z1 z2 h_z2) (mkV (fr := 2) (lo := 44) C xc_X0_draw xm_X2_82 xi_X0_draw xe_X0_draw xn_X0 hd_X0_draw ⟨Nat.le_of_ble_eq_true rfl, Nat.le_of_ble_eq_true rfl⟩) 0 rfl rfl [3, 4, 5, 6, 7, 8, 9] rfl (by decide) rfl rfl rfl rfl (Nat.le_of_ble_eq_true rfl) dX2_seekSome_37 ⟨Nat.le_of_ble_eq_true rfl, Nat.le_of_ble_eq_true rfl⟩ ?_
      refine q_istore (lv' := [(4, .int z2.1), (0, .ref x0), (1, .int x1), (2, .int x2), (3, .int x3)]) C dX2_seekSome_40 (by decide) rfl ?_
      refine q_aload_n C dX2_seekSome_42 rfl 1 rfl ?_
      refine q_get C (uW uX2_in) 0 rfl rfl 0 (by decide) (ws_in xf_X2_10) rfl rfl dX2_seekSome_43 ?_
      refine q_aload_n C dX2_seekSome_46 rfl 1 rfl ?_
      refine q_get C (uW uX2_in) 0 rfl rfl 0 (by decide) (ws_in xf_X2_10) rfl rfl dX2_seekSome_47 ?_
      obtain ⟨z3, h_z3, hf⟩ := bnd hf
      refine q_cVI (ws' := wXX cI cJ cN x0 p0 i0 n0 n1 n2 n3 n4 n5 n6 s0 s1 s2 s3 s4 s5 s6 rp ri pl V z2.2 S) C (c_X0_nodes l D cI cJ cN n0 n1 n2 n3 n4 n5 n6 z2.2 z3 h_z3) (mkV (fr := 0) (lo := 0) C xc_X0_nodes xm_X2_37 xi_X0_nodes xe_X0_nodes xn_X0 hd_X0_nodes ⟨Nat.le_of_ble_eq_true rfl, Nat.le_of_ble_eq_true rfl⟩) 0 rfl rfl [3, 4, 5, 6, 7, 8, 9] rfl (by decide) rfl rfl rfl rfl (Nat.le_of_ble_eq_true rfl) dX2_seekSome_50 ⟨Nat.le_of_ble_eq_true rfl, Nat.le_of_ble_eq_true rfl⟩ ?_
      obtain ⟨z4, h_z4, hf⟩ := bnd hf
      refine q_cVI (ws' := wXX cI cJ cN x0 p0 i0 n0 n1 n2 n3 n4 n5 n6 s0 s1 s2 s3 s4 s5 s6 rp ri pl V z4.2 S) C (c_X0_draw l D cI cJ cN n0 n1 n2 n3 n4 n5 n6 z2.2 z3 z4 h_z4) (mkV (fr := 2) (lo := 44) C xc_X0_draw xm_X2_82 xi_X0_draw xe_X0_draw xn_X0 hd_X0_draw ⟨Nat.le_of_ble_eq_true rfl, Nat.le_of_ble_eq_true rfl⟩) 0 rfl rfl [3, 4, 5, 6, 7, 8, 9] rfl (by decide) rfl rfl rfl rfl (Nat.le_of_ble_eq_true rfl) dX2_seekSome_53 ⟨Nat.le_of_ble_eq_true rfl, Nat.le_of_ble_eq_true rfl⟩ ?_
      refine q_istore (lv' := [(5, .int z4.1), (4, .int z2.1), (0, .ref x0), (1, .int x1), (2, .int x2), (3, .int x3)]) C dX2_seekSome_56 (by decide) rfl ?_
      refine q_aload_n C dX2_seekSome_58 rfl 2 rfl ?_
      refine q_get C (uW uX2_in) 0 rfl rfl 0 (by decide) (ws_in xf_X2_10) rfl rfl dX2_seekSome_59 ?_
      refine q_iload C dX2_seekSome_62 1 rfl ?_
      obtain ⟨z5, h_z5, hf⟩ := bnd hf
      refine q_cVI (ws' := wXX cI cJ cN x0 p0 i0 n0 n1 n2 n3 n4 n5 n6 s0 s1 s2 s3 s4 s5 s6 rp ri pl V z4.2 S) C (c_X0_isPresent l D cI cJ cN n0 n1 n2 n3 n4 n5 n6 z4.2 z2.1 z5 h_z5) (mkV (fr := 2) (lo := 41) C xc_X0_isPresent xm_X2_66 xi_X0_isPresent xe_X0_isPresent xn_X0 hd_X0_isPresent ⟨Nat.le_of_ble_eq_true rfl, Nat.le_of_ble_eq_true rfl⟩) 0 rfl rfl [3, 4, 5, 6, 7, 8, 9] rfl (by decide) rfl rfl rfl rfl (Nat.le_of_ble_eq_true rfl) dX2_seekSome_64 ⟨Nat.le_of_ble_eq_true rfl, Nat.le_of_ble_eq_true rfl⟩ ?_
      refine q_if_eq C 96 dX2_seekSome_67 (by decide) (fun h => ?_) (fun h => ?_)
      · have hf := ifT hf h
        refine q_iinc (v := (x3 + (1 : Int32))) (lv' := [(3, .int (x3 + (1 : Int32))), (5, .int z4.1), (4, .int z2.1), (0, .ref x0), (1, .int x1), (2, .int x2)]) C dX2_seekSome_96 5 rfl rfl (by decide) rfl ?_
        refine q_goto C 21 dX2_seekSome_99 (by decide) ?_
        refine q_sub (lv' := [(0, .ref x0), (1, .int x1), (2, .int x2), (3, .int (x3 + (1 : Int32)))]) [3, 4, 5, 0] rfl ?_
        exact ih V z4.2 S x1 x2 (x3 + (1 : Int32)) hpool hf
      · have hf := ifF hf h
        refine q_aload_n C dX2_seekSome_70 rfl 2 rfl ?_
        refine q_get C (uW uX2_in) 0 rfl rfl 0 (by decide) (ws_in xf_X2_10) rfl rfl dX2_seekSome_71 ?_
        refine q_iload C dX2_seekSome_74 0 rfl ?_
        obtain ⟨z6, h_z6, hf⟩ := bnd hf
        refine q_cVI (ws' := wXX cI cJ cN x0 p0 i0 n0 n1 n2 n3 n4 n5 n6 s0 s1 s2 s3 s4 s5 s6 rp ri pl V z4.2 S) C (c_X0_isPresent l D cI cJ cN n0 n1 n2 n3 n4 n5 n6 z4.2 z4.1 z6 h_z6) (mkV (fr := 2) (lo := 41) C xc_X0_isPresent xm_X2_66 xi_X0_isPresent xe_X0_isPresent xn_X0 hd_X0_isPresent ⟨Nat.le_of_ble_eq_true rfl, Nat.le_of_ble_eq_true rfl⟩) 0 rfl rfl [3, 4, 5, 6, 7, 8, 9] rfl (by decide) rfl rfl rfl rfl (Nat.le_of_ble_eq_true rfl) dX2_seekSome_76 ⟨Nat.le_of_ble_eq_true rfl, Nat.le_of_ble_eq_true rfl⟩ ?_
        refine q_if_eq C 96 dX2_seekSome_79 (by decide) (fun h => ?_) (fun h => ?_)
        · have hf := ifT hf h
          refine q_iinc (v := (x3 + (1 : Int32))) (lv' := [(3, .int (x3 + (1 : Int32))), (5, .int z4.1), (4, .int z2.1), (0, .ref x0), (1, .int x1), (2, .int x2)]) C dX2_seekSome_96 5 rfl rfl (by decide) rfl ?_
          refine q_goto C 21 dX2_seekSome_99 (by decide) ?_
          refine q_sub (lv' := [(0, .ref x0), (1, .int x1), (2, .int x2), (3, .int (x3 + (1 : Int32)))]) [3, 4, 5, 0] rfl ?_
          exact ih V z4.2 S x1 x2 (x3 + (1 : Int32)) hpool hf
        · have hf := ifF hf h
          refine q_aload_n C dX2_seekSome_82 rfl 2 rfl ?_
          refine q_iload C dX2_seekSome_83 1 rfl ?_
          refine q_iload C dX2_seekSome_85 0 rfl ?_
          obtain ⟨z7, h_z7, hf⟩ := bnd hf
          refine q_cVIw C (c_X2_lookUpAndRewire l D cI cJ cN x0 p0 i0 n0 n1 n2 n3 n4 n5 n6 s0 s1 s2 s3 s4 s5 s6 rp ri pl V z4.2 S z2.1 z4.1 z7 h_z7) (mkV (fr := 5) (lo := 117) C xc_X2_lookUpAndRewire xm_X2_75 xi_X2_lookUpAndRewire xe_X2_lookUpAndRewire xn_X2 hd_X2_lookUpAndRewire ⟨Nat.le_of_ble_eq_true rfl, Nat.le_of_ble_eq_true rfl⟩) 0 rfl rfl rfl rfl (Nat.le_of_ble_eq_true rfl) dX2_seekSome_87 ⟨Nat.le_of_ble_eq_true rfl, Nat.le_of_ble_eq_true rfl⟩ (fun w1 hp1 => ?_)
          subst hp1
          refine q_if_eq C 96 dX2_seekSome_90 (by decide) (fun h => ?_) (fun h => ?_)
          · have hf := ifT hf h
            refine q_iinc (v := (x3 + (1 : Int32))) (lv' := [(3, .int (x3 + (1 : Int32))), (5, .int z4.1), (4, .int z2.1), (0, .ref x0), (1, .int x1), (2, .int x2)]) C dX2_seekSome_96 5 rfl rfl (by decide) rfl ?_
            refine q_goto C 21 dX2_seekSome_99 (by decide) ?_
            refine q_sub (lv' := [(0, .ref x0), (1, .int x1), (2, .int x2), (3, .int (x3 + (1 : Int32)))]) [3, 4, 5, 0] rfl ?_
            exact ih V z7.2.1 z7.2.2 x1 x2 (x3 + (1 : Int32)) hpool hf
          · have hf := ifF hf h
            refine q_iinc (v := (x2 + (1 : Int32))) (lv' := [(2, .int (x2 + (1 : Int32))), (5, .int z4.1), (4, .int z2.1), (0, .ref x0), (1, .int x1), (3, .int x3)]) C dX2_seekSome_93 4 rfl rfl (by decide) rfl ?_
            refine q_iinc (v := (x3 + (1 : Int32))) (lv' := [(3, .int (x3 + (1 : Int32))), (2, .int (x2 + (1 : Int32))), (5, .int z4.1), (4, .int z2.1), (0, .ref x0), (1, .int x1)]) C dX2_seekSome_96 5 rfl rfl (by decide) rfl ?_
            refine q_goto C 21 dX2_seekSome_99 (by decide) ?_
            refine q_sub (lv' := [(0, .ref x0), (1, .int x1), (2, .int (x2 + (1 : Int32))), (3, .int (x3 + (1 : Int32)))]) [4, 5, 1, 0] rfl ?_
            exact ih V z7.2.1 z7.2.2 x1 (x2 + (1 : Int32)) (x3 + (1 : Int32)) hpool hf
set_option maxRecDepth 100000 in
set_option maxHeartbeats 4000000 in
theorem c_X2_seekSome (l : Launch) (D : va_G) (cI cJ cN : ClassId) (x0 p0 i0 n0 n1 n2 n3 n4 n5 n6 s0 s1 s2 s3 s4 s5 s6 : Nat) (rp ri : Nat → Option Nat) (pl : va_W)  (V : HS) (N : NS) (S : SS) (x1 : Int32) (z : Int32 × HS × NS × SS) (hpool : PoolOK cI V rp ri pl) (hf : f_X2_seekSome V N S x1 = some z) : MI l D cI cJ cN yX2_seekSome (WS yX2_seekSome cX2_seekSome 6 (some .int)) { frames := 6, cells := 7, slots := 356, locals := 140 } [.ref x0, .int x1] (wXX cI cJ cN x0 p0 i0 n0 n1 n2 n3 n4 n5 n6 s0 s1 s2 s3 s4 s5 s6 rp ri pl V N S) z.1 (XP cI cJ cN x0 p0 i0 n0 n1 n2 n3 n4 n5 n6 s0 s1 s2 s3 s4 s5 s6 z.2.1 z.2.2.1 z.2.2.2) := by
  rw [f_X2_seekSome] at hf
  refine q_startI (lv := [(0, .ref x0), (1, .int x1)]) (by decide +kernel) rfl (Nat.le_of_ble_eq_true rfl) ?_
  intro p e s m below meth c C hin
  refine q_iload_n C dX2_seekSome_0 rfl 1 rfl ?_
  refine q_iconst (v := 1) C dX2_seekSome_1 (by decide) ?_
  refine q_icmp_lt C 11 dX2_seekSome_2 (by decide) (fun h => ?_) (fun h => ?_)
  · have hf := ifT hf h
    refine q_iconst (v := -1) C dX2_seekSome_11 (by decide) ?_
    have hf := Option.some.inj hf
    subst hf
    exact q_iret C (Nat.le_of_ble_eq_true rfl) (Nat.le_of_ble_eq_true rfl) ⟨_, _, _, hpool, rfl⟩ dX2_seekSome_12
  · have hf := ifF hf h
    refine q_iload_n C dX2_seekSome_5 rfl 1 rfl ?_
    refine q_bipush (v := 20) C dX2_seekSome_6 (by decide) ?_
    refine q_icmp_le C 13 dX2_seekSome_8 (by decide) (fun h => ?_) (fun h => ?_)
    · have hf := ifT hf h
      refine q_aload_n C dX2_seekSome_13 rfl 0 rfl ?_
      obtain ⟨z1, h_z1, hf⟩ := bnd hf
      refine q_cVVw C (c_X2_record l D cI cJ cN x0 p0 i0 n0 n1 n2 n3 n4 n5 n6 s0 s1 s2 s3 s4 s5 s6 rp ri pl V N S z1 hpool h_z1) (mkV (fr := 5) (lo := 112) C xc_X2_record xm_X2_34 xi_X2_record xe_X2_record xn_X2 hd_X2_record ⟨Nat.le_of_ble_eq_true rfl, Nat.le_of_ble_eq_true rfl⟩) 0 rfl rfl rfl rfl (Nat.le_of_ble_eq_true rfl) dX2_seekSome_14 ⟨Nat.le_of_ble_eq_true rfl, Nat.le_of_ble_eq_true rfl⟩ (fun w1 hp1 => ?_)
      obtain ⟨rp1, pl1, hpool, rfl⟩ := hp1
      refine q_iconst (v := 0) C dX2_seekSome_17 (by decide) ?_
      refine q_istore_n (lv' := [(2, .int (0 : Int32)), (0, .ref x0), (1, .int x1)]) C dX2_seekSome_18 rfl (by decide) rfl ?_
      refine q_iconst (v := 0) C dX2_seekSome_19 (by decide) ?_
      refine q_istore_n (lv' := [(3, .int (0 : Int32)), (2, .int (0 : Int32)), (0, .ref x0), (1, .int x1)]) C dX2_seekSome_20 rfl (by decide) rfl ?_
      refine q_sub (lv' := [(0, .ref x0), (1, .int x1), (2, .int (0 : Int32)), (3, .int (0 : Int32))]) [2, 3, 1, 0] rfl ?_
      exact l_X2_seekSome_21 C FU z1 N S x1 (0 : Int32) (0 : Int32) hpool hf
    · have hf := ifF hf h
      refine q_iconst (v := -1) C dX2_seekSome_11 (by decide) ?_
      have hf := Option.some.inj hf
      subst hf
      exact q_iret C (Nat.le_of_ble_eq_true rfl) (Nat.le_of_ble_eq_true rfl) ⟨_, _, _, hpool, rfl⟩ dX2_seekSome_12
set_option maxRecDepth 100000 in
set_option maxHeartbeats 4000000 in
theorem c_X2_exchange (l : Launch) (D : va_G) (cI cJ cN : ClassId) (x0 p0 i0 n0 n1 n2 n3 n4 n5 n6 s0 s1 s2 s3 s4 s5 s6 : Nat) (rp ri : Nat → Option Nat) (pl : va_W)  (V : HS) (N : NS) (S : SS) (x1 : Int32) (x2 : Int32) (z : Int32 × HS × NS) (hpool : PoolOK cI V rp ri pl) (hf : f_X2_exchange V N S x1 x2 = some z) : MI l D cI cJ cN yX2_exchange (WS yX2_exchange cX2_exchange 5 (some .int)) { frames := 6, cells := 7, slots := 356, locals := 132 } [.ref x0, .int x1, .int x2] (wXX cI cJ cN x0 p0 i0 n0 n1 n2 n3 n4 n5 n6 s0 s1 s2 s3 s4 s5 s6 rp ri pl V N S) z.1 (XP cI cJ cN x0 p0 i0 n0 n1 n2 n3 n4 n5 n6 s0 s1 s2 s3 s4 s5 s6 z.2.1 z.2.2 S) := by
  rw [f_X2_exchange] at hf
  refine q_startI (lv := [(0, .ref x0), (1, .int x1), (2, .int x2)]) (by decide +kernel) rfl (Nat.le_of_ble_eq_true rfl) ?_
  intro p e s m below meth c C hin
  refine q_aload_n C dX2_exchange_0 rfl 0 rfl ?_
  refine q_iload_n C dX2_exchange_1 rfl 1 rfl ?_
  refine q_iload_n C dX2_exchange_2 rfl 2 rfl ?_
  obtain ⟨z1, h_z1, hf⟩ := bnd hf
  refine q_cVIw C (c_X2_faultOfOthers l D cI cJ cN x0 p0 i0 n0 n1 n2 n3 n4 n5 n6 s0 s1 s2 s3 s4 s5 s6 rp ri pl V N S x1 x2 z1 h_z1) (mkV (fr := 4) (lo := 84) C xc_X2_faultOfOthers xm_X2_45 xi_X2_faultOfOthers xe_X2_faultOfOthers xn_X2 hd_X2_faultOfOthers ⟨Nat.le_of_ble_eq_true rfl, Nat.le_of_ble_eq_true rfl⟩) 0 rfl rfl rfl rfl (Nat.le_of_ble_eq_true rfl) dX2_exchange_3 ⟨Nat.le_of_ble_eq_true rfl, Nat.le_of_ble_eq_true rfl⟩ (fun w1 hp1 => ?_)
  subst hp1
  refine q_istore_n (lv' := [(3, .int z1), (0, .ref x0), (1, .int x1), (2, .int x2)]) C dX2_exchange_6 rfl (by decide) rfl ?_
  refine q_iload_n C dX2_exchange_7 rfl 0 rfl ?_
  refine q_if_eq C 13 dX2_exchange_8 (by decide) (fun h => ?_) (fun h => ?_)
  · have hf := ifT hf h
    refine q_aload_n C dX2_exchange_13 rfl 1 rfl ?_
    obtain ⟨z2, h_z2, hf⟩ := bnd hf
    refine q_cVVw C (c_X2_record l D cI cJ cN x0 p0 i0 n0 n1 n2 n3 n4 n5 n6 s0 s1 s2 s3 s4 s5 s6 rp ri pl V N S z2 hpool h_z2) (mkV (fr := 5) (lo := 112) C xc_X2_record xm_X2_34 xi_X2_record xe_X2_record xn_X2 hd_X2_record ⟨Nat.le_of_ble_eq_true rfl, Nat.le_of_ble_eq_true rfl⟩) 0 rfl rfl rfl rfl (Nat.le_of_ble_eq_true rfl) dX2_exchange_14 ⟨Nat.le_of_ble_eq_true rfl, Nat.le_of_ble_eq_true rfl⟩ (fun w1 hp1 => ?_)
    obtain ⟨rp1, pl1, hpool, rfl⟩ := hp1
    refine q_aload_n C dX2_exchange_17 rfl 1 rfl ?_
    refine q_get C (uW uX2_in) 0 rfl rfl 0 (by decide) (ws_in xf_X2_10) rfl rfl dX2_exchange_18 ?_
    obtain ⟨z3, h_z3, hf⟩ := bnd hf
    refine q_cVI (ws' := wXX cI cJ cN x0 p0 i0 n0 n1 n2 n3 n4 n5 n6 s0 s1 s2 s3 s4 s5 s6 rp1 ri pl1 z2 N S) C (c_X0_lengthOfLinks l D cI cJ cN n0 n1 n2 n3 n4 n5 n6 N z3 h_z3) (mkV (fr := 2) (lo := 43) C xc_X0_lengthOfLinks xm_X2_85 xi_X0_lengthOfLinks xe_X0_lengthOfLinks xn_X0 hd_X0_lengthOfLinks ⟨Nat.le_of_ble_eq_true rfl, Nat.le_of_ble_eq_true rfl⟩) 0 rfl rfl [3, 4, 5, 6, 7, 8, 9] rfl (by decide) rfl rfl rfl rfl (Nat.le_of_ble_eq_true rfl) dX2_exchange_21 ⟨Nat.le_of_ble_eq_true rfl, Nat.le_of_ble_eq_true rfl⟩ ?_
    refine q_istore (lv' := [(4, .int z3), (3, .int z1), (0, .ref x0), (1, .int x1), (2, .int x2)]) C dX2_exchange_24 (by decide) rfl ?_
    refine q_aload_n C dX2_exchange_26 rfl 2 rfl ?_
    refine q_get C (uW uX2_in) 0 rfl rfl 0 (by decide) (ws_in xf_X2_10) rfl rfl dX2_exchange_27 ?_
    refine q_iload_n C dX2_exchange_30 rfl 3 rfl ?_
    refine q_iload_n C dX2_exchange_31 rfl 4 rfl ?_
    obtain ⟨z4, h_z4, hf⟩ := bnd hf
    refine q_cVV (ws' := wXX cI cJ cN x0 p0 i0 n0 n1 n2 n3 n4 n5 n6 s0 s1 s2 s3 s4 s5 s6 rp1 ri pl1 z2 z4 S) C (c_X0_swapPlaces l D cI cJ cN n0 n1 n2 n3 n4 n5 n6 N x1 x2 z4 h_z4) (mkV (fr := 2) (lo := 45) C xc_X0_swapPlaces xm_X2_88 xi_X0_swapPlaces xe_X0_swapPlaces xn_X0 hd_X0_swapPlaces ⟨Nat.le_of_ble_eq_true rfl, Nat.le_of_ble_eq_true rfl⟩) 0 rfl rfl [3, 4, 5, 6, 7, 8, 9] rfl (by decide) rfl rfl rfl rfl (Nat.le_of_ble_eq_true rfl) dX2_exchange_32 ⟨Nat.le_of_ble_eq_true rfl, Nat.le_of_ble_eq_true rfl⟩ ?_
    refine q_aload_n C dX2_exchange_35 rfl 2 rfl ?_
    refine q_get C (uW uX2_in) 0 rfl rfl 0 (by decide) (ws_in xf_X2_10) rfl rfl dX2_exchange_36 ?_
    obtain ⟨z5, h_z5, hf⟩ := bnd hf
    refine q_cVI (ws' := wXX cI cJ cN x0 p0 i0 n0 n1 n2 n3 n4 n5 n6 s0 s1 s2 s3 s4 s5 s6 rp1 ri pl1 z2 z4 S) C (c_X0_lengthOfLinks l D cI cJ cN n0 n1 n2 n3 n4 n5 n6 z4 z5 h_z5) (mkV (fr := 2) (lo := 43) C xc_X0_lengthOfLinks xm_X2_85 xi_X0_lengthOfLinks xe_X0_lengthOfLinks xn_X0 hd_X0_lengthOfLinks ⟨Nat.le_of_ble_eq_true rfl, Nat.le_of_ble_eq_true rfl⟩) 0 rfl rfl [3, 4, 5, 6, 7, 8, 9] rfl (by decide) rfl rfl rfl rfl (Nat.le_of_ble_eq_true rfl) dX2_exchange_39 ⟨Nat.le_of_ble_eq_true rfl, Nat.le_of_ble_eq_true rfl⟩ ?_
    refine q_iload C dX2_exchange_42 0 rfl ?_
    refine q_icmp_gt C 49 dX2_exchange_44 (by decide) (fun h => ?_) (fun h => ?_)
    · have hf := ifT hf h
      refine q_aload_n C dX2_exchange_49 rfl 2 rfl ?_
      refine q_get C (uW uX2_in) 0 rfl rfl 0 (by decide) (ws_in xf_X2_10) rfl rfl dX2_exchange_50 ?_
      refine q_iload_n C dX2_exchange_53 rfl 3 rfl ?_
      refine q_iload_n C dX2_exchange_54 rfl 4 rfl ?_
      obtain ⟨z6, h_z6, hf⟩ := bnd hf
      refine q_cVV (ws' := wXX cI cJ cN x0 p0 i0 n0 n1 n2 n3 n4 n5 n6 s0 s1 s2 s3 s4 s5 s6 rp1 ri pl1 z2 z6 S) C (c_X0_swapPlaces l D cI cJ cN n0 n1 n2 n3 n4 n5 n6 z4 x1 x2 z6 h_z6) (mkV (fr := 2) (lo := 45) C xc_X0_swapPlaces xm_X2_88 xi_X0_swapPlaces xe_X0_swapPlaces xn_X0 hd_X0_swapPlaces ⟨Nat.le_of_ble_eq_true rfl, Nat.le_of_ble_eq_true rfl⟩) 0 rfl rfl [3, 4, 5, 6, 7, 8, 9] rfl (by decide) rfl rfl rfl rfl (Nat.le_of_ble_eq_true rfl) dX2_exchange_55 ⟨Nat.le_of_ble_eq_true rfl, Nat.le_of_ble_eq_true rfl⟩ ?_
      refine q_iconst (v := 0) C dX2_exchange_58 (by decide) ?_
      have hf := Option.some.inj hf
      subst hf
      exact q_iret C (Nat.le_of_ble_eq_true rfl) (Nat.le_of_ble_eq_true rfl) ⟨_, _, _, hpool, rfl⟩ dX2_exchange_59
    · have hf := ifF hf h
      refine q_iconst (v := 1) C dX2_exchange_47 (by decide) ?_
      have hf := Option.some.inj hf
      subst hf
      exact q_iret C (Nat.le_of_ble_eq_true rfl) (Nat.le_of_ble_eq_true rfl) ⟨_, _, _, hpool, rfl⟩ dX2_exchange_48
  · have hf := ifF hf h
    refine q_iload_n C dX2_exchange_11 rfl 0 rfl ?_
    have hf := Option.some.inj hf
    subst hf
    exact q_iret C (Nat.le_of_ble_eq_true rfl) (Nat.le_of_ble_eq_true rfl) ⟨_, _, _, hpool, rfl⟩ dX2_exchange_12
set_option maxRecDepth 100000 in
set_option maxHeartbeats 4000000 in
theorem c_X2_leave (l : Launch) (D : va_G) (cI cJ cN : ClassId) (x0 p0 i0 n0 n1 n2 n3 n4 n5 n6 s0 s1 s2 s3 s4 s5 s6 : Nat) (rp ri : Nat → Option Nat) (pl : va_W)  (V : HS) (N : NS) (S : SS) (x1 : Int32) (z : Int32 × HS × NS) (hpool : PoolOK cI V rp ri pl) (hf : f_X2_leave V N S x1 = some z) : MI l D cI cJ cN yX2_leave (WS yX2_leave cX2_leave 2 (some .int)) { frames := 6, cells := 7, slots := 356, locals := 132 } [.ref x0, .int x1] (wXX cI cJ cN x0 p0 i0 n0 n1 n2 n3 n4 n5 n6 s0 s1 s2 s3 s4 s5 s6 rp ri pl V N S) z.1 (XP cI cJ cN x0 p0 i0 n0 n1 n2 n3 n4 n5 n6 s0 s1 s2 s3 s4 s5 s6 z.2.1 z.2.2 S) := by
  rw [f_X2_leave] at hf
  refine q_startI (lv := [(0, .ref x0), (1, .int x1)]) (by decide +kernel) rfl (Nat.le_of_ble_eq_true rfl) ?_
  intro p e s m below meth c C hin
  refine q_aload_n C dX2_leave_0 rfl 0 rfl ?_
  refine q_get C (uW uX2_in) 0 rfl rfl 0 (by decide) (ws_in xf_X2_10) rfl rfl dX2_leave_1 ?_
  refine q_iload_n C dX2_leave_4 rfl 1 rfl ?_
  obtain ⟨z1, h_z1, hf⟩ := bnd hf
  refine q_cVI (ws' := wXX cI cJ cN x0 p0 i0 n0 n1 n2 n3 n4 n5 n6 s0 s1 s2 s3 s4 s5 s6 rp ri pl V N S) C (c_X0_holds l D cI cJ cN n0 n1 n2 n3 n4 n5 n6 N x1 z1 h_z1) (mkV (fr := 1) (lo := 20) C xc_X0_holds xm_X2_56 xi_X0_holds xe_X0_holds xn_X0 hd_X0_holds ⟨Nat.le_of_ble_eq_true rfl, Nat.le_of_ble_eq_true rfl⟩) 0 rfl rfl [3, 4, 5, 6, 7, 8, 9] rfl (by decide) rfl rfl rfl rfl (Nat.le_of_ble_eq_true rfl) dX2_leave_5 ⟨Nat.le_of_ble_eq_true rfl, Nat.le_of_ble_eq_true rfl⟩ ?_
  refine q_if_ne C 13 dX2_leave_8 (by decide) (fun h => ?_) (fun h => ?_)
  · have hf := ifF hf h
    refine q_aload_n C dX2_leave_13 rfl 0 rfl ?_
    refine q_get C (uW uX2_in) 0 rfl rfl 0 (by decide) (ws_in xf_X2_10) rfl rfl dX2_leave_14 ?_
    refine q_iload_n C dX2_leave_17 rfl 1 rfl ?_
    obtain ⟨z2, h_z2, hf⟩ := bnd hf
    refine q_cVI (ws' := wXX cI cJ cN x0 p0 i0 n0 n1 n2 n3 n4 n5 n6 s0 s1 s2 s3 s4 s5 s6 rp ri pl V N S) C (c_X0_isPresent l D cI cJ cN n0 n1 n2 n3 n4 n5 n6 N x1 z2 h_z2) (mkV (fr := 2) (lo := 41) C xc_X0_isPresent xm_X2_66 xi_X0_isPresent xe_X0_isPresent xn_X0 hd_X0_isPresent ⟨Nat.le_of_ble_eq_true rfl, Nat.le_of_ble_eq_true rfl⟩) 0 rfl rfl [3, 4, 5, 6, 7, 8, 9] rfl (by decide) rfl rfl rfl rfl (Nat.le_of_ble_eq_true rfl) dX2_leave_18 ⟨Nat.le_of_ble_eq_true rfl, Nat.le_of_ble_eq_true rfl⟩ ?_
    refine q_if_eq C 35 dX2_leave_21 (by decide) (fun h => ?_) (fun h => ?_)
    · have hf := ifT hf h
      refine q_bipush (v := -2) C dX2_leave_35 (by decide) ?_
      have hf := Option.some.inj hf
      subst hf
      exact q_iret C (Nat.le_of_ble_eq_true rfl) (Nat.le_of_ble_eq_true rfl) ⟨_, _, _, hpool, rfl⟩ dX2_leave_37
    · have hf := ifF hf h
      refine q_aload_n C dX2_leave_24 rfl 0 rfl ?_
      refine q_get C (uW uX2_in) 0 rfl rfl 0 (by decide) (ws_in xf_X2_10) rfl rfl dX2_leave_25 ?_
      obtain ⟨z3, h_z3, hf⟩ := bnd hf
      refine q_cVI (ws' := wXX cI cJ cN x0 p0 i0 n0 n1 n2 n3 n4 n5 n6 s0 s1 s2 s3 s4 s5 s6 rp ri pl V N S) C (c_X0_presentNodes l D cI cJ cN n0 n1 n2 n3 n4 n5 n6 N z3 h_z3) (mkV (fr := 1) (lo := 21) C xc_X0_presentNodes xm_X2_91 xi_X0_presentNodes xe_X0_presentNodes xn_X0 hd_X0_presentNodes ⟨Nat.le_of_ble_eq_true rfl, Nat.le_of_ble_eq_true rfl⟩) 0 rfl rfl [3, 4, 5, 6, 7, 8, 9] rfl (by decide) rfl rfl rfl rfl (Nat.le_of_ble_eq_true rfl) dX2_leave_28 ⟨Nat.le_of_ble_eq_true rfl, Nat.le_of_ble_eq_true rfl⟩ ?_
      refine q_iconst (v := 2) C dX2_leave_31 (by decide) ?_
      refine q_icmp_ge C 38 dX2_leave_32 (by decide) (fun h => ?_) (fun h => ?_)
      · have hf := ifT hf h
        refine q_aload_n C dX2_leave_38 rfl 0 rfl ?_
        obtain ⟨z4, h_z4, hf⟩ := bnd hf
        refine q_cVVw C (c_X2_record l D cI cJ cN x0 p0 i0 n0 n1 n2 n3 n4 n5 n6 s0 s1 s2 s3 s4 s5 s6 rp ri pl V N S z4 hpool h_z4) (mkV (fr := 5) (lo := 112) C xc_X2_record xm_X2_34 xi_X2_record xe_X2_record xn_X2 hd_X2_record ⟨Nat.le_of_ble_eq_true rfl, Nat.le_of_ble_eq_true rfl⟩) 0 rfl rfl rfl rfl (Nat.le_of_ble_eq_true rfl) dX2_leave_39 ⟨Nat.le_of_ble_eq_true rfl, Nat.le_of_ble_eq_true rfl⟩ (fun w1 hp1 => ?_)
        obtain ⟨rp1, pl1, hpool, rfl⟩ := hp1
        refine q_aload_n C dX2_leave_42 rfl 0 rfl ?_
        refine q_get C (uW uX2_in) 0 rfl rfl 0 (by decide) (ws_in xf_X2_10) rfl rfl dX2_leave_43 ?_
        refine q_iload_n C dX2_leave_46 rfl 1 rfl ?_
        obtain ⟨z5, h_z5, hf⟩ := bnd hf
        refine q_cVI (ws' := wXX cI cJ cN x0 p0 i0 n0 n1 n2 n3 n4 n5 n6 s0 s1 s2 s3 s4 s5 s6 rp1 ri pl1 z4 z5.2 S) C (c_X0_putAway l D cI cJ cN n0 n1 n2 n3 n4 n5 n6 N x1 z5 h_z5) (mkV (fr := 3) (lo := 66) C xc_X0_putAway xm_X2_94 xi_X0_putAway xe_X0_putAway xn_X0 hd_X0_putAway ⟨Nat.le_of_ble_eq_true rfl, Nat.le_of_ble_eq_true rfl⟩) 0 rfl rfl [3, 4, 5, 6, 7, 8, 9] rfl (by decide) rfl rfl rfl rfl (Nat.le_of_ble_eq_true rfl) dX2_leave_47 ⟨Nat.le_of_ble_eq_true rfl, Nat.le_of_ble_eq_true rfl⟩ ?_
        have hf := Option.some.inj hf
        subst hf
        exact q_iret C (Nat.le_of_ble_eq_true rfl) (Nat.le_of_ble_eq_true rfl) ⟨_, _, _, hpool, rfl⟩ dX2_leave_50
      · have hf := ifF hf h
        refine q_bipush (v := -2) C dX2_leave_35 (by decide) ?_
        have hf := Option.some.inj hf
        subst hf
        exact q_iret C (Nat.le_of_ble_eq_true rfl) (Nat.le_of_ble_eq_true rfl) ⟨_, _, _, hpool, rfl⟩ dX2_leave_37
  · have hf := ifT hf h
    refine q_iconst (v := -1) C dX2_leave_11 (by decide) ?_
    have hf := Option.some.inj hf
    subst hf
    exact q_iret C (Nat.le_of_ble_eq_true rfl) (Nat.le_of_ble_eq_true rfl) ⟨_, _, _, hpool, rfl⟩ dX2_leave_12
set_option maxRecDepth 100000 in
set_option maxHeartbeats 4000000 in
theorem c_X2_enter (l : Launch) (D : va_G) (cI cJ cN : ClassId) (x0 p0 i0 n0 n1 n2 n3 n4 n5 n6 s0 s1 s2 s3 s4 s5 s6 : Nat) (rp ri : Nat → Option Nat) (pl : va_W)  (V : HS) (N : NS) (S : SS) (x1 : Int32) (z : Int32 × HS × NS) (hpool : PoolOK cI V rp ri pl) (hf : f_X2_enter V N S x1 = some z) : MI l D cI cJ cN yX2_enter (WS yX2_enter cX2_enter 2 (some .int)) { frames := 6, cells := 7, slots := 356, locals := 132 } [.ref x0, .int x1] (wXX cI cJ cN x0 p0 i0 n0 n1 n2 n3 n4 n5 n6 s0 s1 s2 s3 s4 s5 s6 rp ri pl V N S) z.1 (XP cI cJ cN x0 p0 i0 n0 n1 n2 n3 n4 n5 n6 s0 s1 s2 s3 s4 s5 s6 z.2.1 z.2.2 S) := by
  rw [f_X2_enter] at hf
  refine q_startI (lv := [(0, .ref x0), (1, .int x1)]) (by decide +kernel) rfl (Nat.le_of_ble_eq_true rfl) ?_
  intro p e s m below meth c C hin
  refine q_aload_n C dX2_enter_0 rfl 0 rfl ?_
  refine q_get C (uW uX2_in) 0 rfl rfl 0 (by decide) (ws_in xf_X2_10) rfl rfl dX2_enter_1 ?_
  refine q_iload_n C dX2_enter_4 rfl 1 rfl ?_
  obtain ⟨z1, h_z1, hf⟩ := bnd hf
  refine q_cVI (ws' := wXX cI cJ cN x0 p0 i0 n0 n1 n2 n3 n4 n5 n6 s0 s1 s2 s3 s4 s5 s6 rp ri pl V N S) C (c_X0_holds l D cI cJ cN n0 n1 n2 n3 n4 n5 n6 N x1 z1 h_z1) (mkV (fr := 1) (lo := 20) C xc_X0_holds xm_X2_56 xi_X0_holds xe_X0_holds xn_X0 hd_X0_holds ⟨Nat.le_of_ble_eq_true rfl, Nat.le_of_ble_eq_true rfl⟩) 0 rfl rfl [3, 4, 5, 6, 7, 8, 9] rfl (by decide) rfl rfl rfl rfl (Nat.le_of_ble_eq_true rfl) dX2_enter_5 ⟨Nat.le_of_ble_eq_true rfl, Nat.le_of_ble_eq_true rfl⟩ ?_
  refine q_if_ne C 13 dX2_enter_8 (by decide) (fun h => ?_) (fun h => ?_)
  · have hf := ifF hf h
    refine q_aload_n C dX2_enter_13 rfl 0 rfl ?_
    refine q_get C (uW uX2_in) 0 rfl rfl 0 (by decide) (ws_in xf_X2_10) rfl rfl dX2_enter_14 ?_
    refine q_iload_n C dX2_enter_17 rfl 1 rfl ?_
    obtain ⟨z2, h_z2, hf⟩ := bnd hf
    refine q_cVI (ws' := wXX cI cJ cN x0 p0 i0 n0 n1 n2 n3 n4 n5 n6 s0 s1 s2 s3 s4 s5 s6 rp ri pl V N S) C (c_X0_isPresent l D cI cJ cN n0 n1 n2 n3 n4 n5 n6 N x1 z2 h_z2) (mkV (fr := 2) (lo := 41) C xc_X0_isPresent xm_X2_66 xi_X0_isPresent xe_X0_isPresent xn_X0 hd_X0_isPresent ⟨Nat.le_of_ble_eq_true rfl, Nat.le_of_ble_eq_true rfl⟩) 0 rfl rfl [3, 4, 5, 6, 7, 8, 9] rfl (by decide) rfl rfl rfl rfl (Nat.le_of_ble_eq_true rfl) dX2_enter_18 ⟨Nat.le_of_ble_eq_true rfl, Nat.le_of_ble_eq_true rfl⟩ ?_
    refine q_if_eq C 27 dX2_enter_21 (by decide) (fun h => ?_) (fun h => ?_)
    · have hf := ifT hf h
      refine q_aload_n C dX2_enter_27 rfl 0 rfl ?_
      obtain ⟨z3, h_z3, hf⟩ := bnd hf
      refine q_cVVw C (c_X2_record l D cI cJ cN x0 p0 i0 n0 n1 n2 n3 n4 n5 n6 s0 s1 s2 s3 s4 s5 s6 rp ri pl V N S z3 hpool h_z3) (mkV (fr := 5) (lo := 112) C xc_X2_record xm_X2_34 xi_X2_record xe_X2_record xn_X2 hd_X2_record ⟨Nat.le_of_ble_eq_true rfl, Nat.le_of_ble_eq_true rfl⟩) 0 rfl rfl rfl rfl (Nat.le_of_ble_eq_true rfl) dX2_enter_28 ⟨Nat.le_of_ble_eq_true rfl, Nat.le_of_ble_eq_true rfl⟩ (fun w1 hp1 => ?_)
      obtain ⟨rp1, pl1, hpool, rfl⟩ := hp1
      refine q_aload_n C dX2_enter_31 rfl 0 rfl ?_
      refine q_get C (uW uX2_in) 0 rfl rfl 0 (by decide) (ws_in xf_X2_10) rfl rfl dX2_enter_32 ?_
      refine q_iload_n C dX2_enter_35 rfl 1 rfl ?_
      obtain ⟨z4, h_z4, hf⟩ := bnd hf
      refine q_cVV (ws' := wXX cI cJ cN x0 p0 i0 n0 n1 n2 n3 n4 n5 n6 s0 s1 s2 s3 s4 s5 s6 rp1 ri pl1 z3 z4 S) C (c_X0_putIn l D cI cJ cN n0 n1 n2 n3 n4 n5 n6 N x1 z4 h_z4) (mkV (fr := 1) (lo := 20) C xc_X0_putIn xm_X2_97 xi_X0_putIn xe_X0_putIn xn_X0 hd_X0_putIn ⟨Nat.le_of_ble_eq_true rfl, Nat.le_of_ble_eq_true rfl⟩) 0 rfl rfl [3, 4, 5, 6, 7, 8, 9] rfl (by decide) rfl rfl rfl rfl (Nat.le_of_ble_eq_true rfl) dX2_enter_36 ⟨Nat.le_of_ble_eq_true rfl, Nat.le_of_ble_eq_true rfl⟩ ?_
      refine q_aload_n C dX2_enter_39 rfl 0 rfl ?_
      refine q_get C (uW uX2_in) 0 rfl rfl 0 (by decide) (ws_in xf_X2_10) rfl rfl dX2_enter_40 ?_
      refine q_iload_n C dX2_enter_43 rfl 1 rfl ?_
      obtain ⟨z5, h_z5, hf⟩ := bnd hf
      refine q_cVL (ws' := wXX cI cJ cN x0 p0 i0 n0 n1 n2 n3 n4 n5 n6 s0 s1 s2 s3 s4 s5 s6 rp1 ri pl1 z3 z4 S) C (c_X0_neighborsOf l D cI cJ cN n0 n1 n2 n3 n4 n5 n6 z4 x1 z5 h_z5) (mkV (fr := 1) (lo := 23) C xc_X0_neighborsOf xm_X2_101 xi_X0_neighborsOf xe_X0_neighborsOf xn_X0 hd_X0_neighborsOf ⟨Nat.le_of_ble_eq_true rfl, Nat.le_of_ble_eq_true rfl⟩) 0 rfl rfl [3, 4, 5, 6, 7, 8, 9] rfl (by decide) rfl rfl rfl rfl (Nat.le_of_ble_eq_true rfl) dX2_enter_44 ⟨Nat.le_of_ble_eq_true rfl, Nat.le_of_ble_eq_true rfl⟩ ?_
      obtain ⟨z6, h_z6, hf⟩ := bnd hf
      refine q_cSI (ws' := wXX cI cJ cN x0 p0 i0 n0 n1 n2 n3 n4 n5 n6 s0 s1 s2 s3 s4 s5 s6 rp1 ri pl1 z3 z4 S) C (c_J13_bitCount_95d88 l D cI cJ cN z5 z6 h_z6) (mkS (fr := 0) (lo := 0) C xc_J13_bitCount_95d88 xm_X2_105 xs_J13_bitCount_95d88 xn_J13 hd_J13_bitCount_95d88 ⟨Nat.le_of_ble_eq_true rfl, Nat.le_of_ble_eq_true rfl⟩) [] rfl (by decide) rfl rfl rfl rfl (Nat.le_of_ble_eq_true rfl) dX2_enter_47 ⟨Nat.le_of_ble_eq_true rfl, Nat.le_of_ble_eq_true rfl⟩ ?_
      have hf := Option.some.inj hf
      subst hf
      exact q_iret C (Nat.le_of_ble_eq_true rfl) (Nat.le_of_ble_eq_true rfl) ⟨_, _, _, hpool, rfl⟩ dX2_enter_50
    · have hf := ifF hf h
      refine q_bipush (v := -2) C dX2_enter_24 (by decide) ?_
      have hf := Option.some.inj hf
      subst hf
      exact q_iret C (Nat.le_of_ble_eq_true rfl) (Nat.le_of_ble_eq_true rfl) ⟨_, _, _, hpool, rfl⟩ dX2_enter_26
  · have hf := ifT hf h
    refine q_iconst (v := -1) C dX2_enter_11 (by decide) ?_
    have hf := Option.some.inj hf
    subst hf
    exact q_iret C (Nat.le_of_ble_eq_true rfl) (Nat.le_of_ble_eq_true rfl) ⟨_, _, _, hpool, rfl⟩ dX2_enter_12
set_option maxRecDepth 100000 in
set_option maxHeartbeats 4000000 in
theorem c_X2_set (l : Launch) (D : va_G) (cI cJ cN : ClassId) (x0 p0 i0 n0 n1 n2 n3 n4 n5 n6 s0 s1 s2 s3 s4 s5 s6 : Nat) (rp ri : Nat → Option Nat) (pl : va_W)  (V : HS) (N : NS) (S : SS) (x1 : Int32) (x2 : Int32) (z : Int32 × HS × NS) (hpool : PoolOK cI V rp ri pl) (hf : f_X2_set V N S x1 x2 = some z) : MI l D cI cJ cN yX2_set (WS yX2_set cX2_set 4 (some .int)) { frames := 6, cells := 7, slots := 356, locals := 132 } [.ref x0, .int x1, .int x2] (wXX cI cJ cN x0 p0 i0 n0 n1 n2 n3 n4 n5 n6 s0 s1 s2 s3 s4 s5 s6 rp ri pl V N S) z.1 (XP cI cJ cN x0 p0 i0 n0 n1 n2 n3 n4 n5 n6 s0 s1 s2 s3 s4 s5 s6 z.2.1 z.2.2 S) := by
  rw [f_X2_set] at hf
  refine q_startI (lv := [(0, .ref x0), (1, .int x1), (2, .int x2)]) (by decide +kernel) rfl (Nat.le_of_ble_eq_true rfl) ?_
  intro p e s m below meth c C hin
  refine q_iload_n C dX2_set_0 rfl 1 rfl ?_
  refine q_iload_n C dX2_set_1 rfl 2 rfl ?_
  obtain ⟨z1, h_z1, hf⟩ := bnd hf
  refine q_cSI (ws' := wXX cI cJ cN x0 p0 i0 n0 n1 n2 n3 n4 n5 n6 s0 s1 s2 s3 s4 s5 s6 rp ri pl V N S) C (c_X2_isSetting l D cI cJ cN x1 x2 z1 h_z1) (mkS (fr := 0) (lo := 0) C xc_X2_isSetting xm_X2_111 xs_X2_isSetting xn_X2 hd_X2_isSetting ⟨Nat.le_of_ble_eq_true rfl, Nat.le_of_ble_eq_true rfl⟩) [] rfl (by decide) rfl rfl rfl rfl (Nat.le_of_ble_eq_true rfl) dX2_set_2 ⟨Nat.le_of_ble_eq_true rfl, Nat.le_of_ble_eq_true rfl⟩ ?_
  refine q_if_ne C 10 dX2_set_5 (by decide) (fun h => ?_) (fun h => ?_)
  · have hf := ifF hf h
    refine q_aload_n C dX2_set_10 rfl 0 rfl ?_
    obtain ⟨z2, h_z2, hf⟩ := bnd hf
    refine q_cVVw C (c_X2_record l D cI cJ cN x0 p0 i0 n0 n1 n2 n3 n4 n5 n6 s0 s1 s2 s3 s4 s5 s6 rp ri pl V N S z2 hpool h_z2) (mkV (fr := 5) (lo := 112) C xc_X2_record xm_X2_34 xi_X2_record xe_X2_record xn_X2 hd_X2_record ⟨Nat.le_of_ble_eq_true rfl, Nat.le_of_ble_eq_true rfl⟩) 0 rfl rfl rfl rfl (Nat.le_of_ble_eq_true rfl) dX2_set_11 ⟨Nat.le_of_ble_eq_true rfl, Nat.le_of_ble_eq_true rfl⟩ (fun w1 hp1 => ?_)
    obtain ⟨rp1, pl1, hpool, rfl⟩ := hp1
    refine q_aload_n C dX2_set_14 rfl 0 rfl ?_
    refine q_get C (uW uX2_in) 0 rfl rfl 0 (by decide) (ws_in xf_X2_10) rfl rfl dX2_set_15 ?_
    refine q_iload_n C dX2_set_18 rfl 1 rfl ?_
    obtain ⟨z3, h_z3, hf⟩ := bnd hf
    refine q_cVI (ws' := wXX cI cJ cN x0 p0 i0 n0 n1 n2 n3 n4 n5 n6 s0 s1 s2 s3 s4 s5 s6 rp1 ri pl1 z2 N S) C (c_X0_setting l D cI cJ cN n0 n1 n2 n3 n4 n5 n6 N x1 z3 h_z3) (mkV (fr := 1) (lo := 21) C xc_X0_setting xm_X2_114 xi_X0_setting xe_X0_setting xn_X0 hd_X0_setting ⟨Nat.le_of_ble_eq_true rfl, Nat.le_of_ble_eq_true rfl⟩) 0 rfl rfl [3, 4, 5, 6, 7, 8, 9] rfl (by decide) rfl rfl rfl rfl (Nat.le_of_ble_eq_true rfl) dX2_set_19 ⟨Nat.le_of_ble_eq_true rfl, Nat.le_of_ble_eq_true rfl⟩ ?_
    refine q_istore_n (lv' := [(3, .int z3), (0, .ref x0), (1, .int x1), (2, .int x2)]) C dX2_set_22 rfl (by decide) rfl ?_
    refine q_aload_n C dX2_set_23 rfl 1 rfl ?_
    refine q_get C (uW uX2_in) 0 rfl rfl 0 (by decide) (ws_in xf_X2_10) rfl rfl dX2_set_24 ?_
    refine q_iload_n C dX2_set_27 rfl 2 rfl ?_
    refine q_iload_n C dX2_set_28 rfl 3 rfl ?_
    obtain ⟨z4, h_z4, hf⟩ := bnd hf
    refine q_cVV (ws' := wXX cI cJ cN x0 p0 i0 n0 n1 n2 n3 n4 n5 n6 s0 s1 s2 s3 s4 s5 s6 rp1 ri pl1 z2 z4 S) C (c_X0_changeSetting l D cI cJ cN n0 n1 n2 n3 n4 n5 n6 N x1 x2 z4 h_z4) (mkV (fr := 1) (lo := 22) C xc_X0_changeSetting xm_X2_117 xi_X0_changeSetting xe_X0_changeSetting xn_X0 hd_X0_changeSetting ⟨Nat.le_of_ble_eq_true rfl, Nat.le_of_ble_eq_true rfl⟩) 0 rfl rfl [3, 4, 5, 6, 7, 8, 9] rfl (by decide) rfl rfl rfl rfl (Nat.le_of_ble_eq_true rfl) dX2_set_29 ⟨Nat.le_of_ble_eq_true rfl, Nat.le_of_ble_eq_true rfl⟩ ?_
    refine q_iload_n C dX2_set_32 rfl 0 rfl ?_
    have hf := Option.some.inj hf
    subst hf
    exact q_iret C (Nat.le_of_ble_eq_true rfl) (Nat.le_of_ble_eq_true rfl) ⟨_, _, _, hpool, rfl⟩ dX2_set_33
  · have hf := ifT hf h
    refine q_iconst (v := -1) C dX2_set_8 (by decide) ?_
    have hf := Option.some.inj hf
    subst hf
    exact q_iret C (Nat.le_of_ble_eq_true rfl) (Nat.le_of_ble_eq_true rfl) ⟨_, _, _, hpool, rfl⟩ dX2_set_9
set_option maxRecDepth 100000 in
set_option maxHeartbeats 4000000 in
theorem c_X2_told (l : Launch) (D : va_G) (cI cJ cN : ClassId) (x0 p0 i0 n0 n1 n2 n3 n4 n5 n6 s0 s1 s2 s3 s4 s5 s6 : Nat) (rp ri : Nat → Option Nat) (pl : va_W)  (V : HS) (N : NS) (S : SS) (x1 : Int32) (z : Int32) (hf : f_X2_told V N S x1 = some z) : MI l D cI cJ cN yX2_told (WS yX2_told cX2_told 2 (some .int)) { frames := 3, cells := 0, slots := 0, locals := 66 } [.ref x0, .int x1] (wXX cI cJ cN x0 p0 i0 n0 n1 n2 n3 n4 n5 n6 s0 s1 s2 s3 s4 s5 s6 rp ri pl V N S) z (fun w => w = wXX cI cJ cN x0 p0 i0 n0 n1 n2 n3 n4 n5 n6 s0 s1 s2 s3 s4 s5 s6 rp ri pl V N S) := by
  rw [f_X2_told] at hf
  refine q_startI (lv := [(0, .ref x0), (1, .int x1)]) (by decide +kernel) rfl (Nat.le_of_ble_eq_true rfl) ?_
  intro p e s m below meth c C hin
  refine q_iload_n C dX2_told_0 rfl 1 rfl ?_
  by_cases h0 : x1 = (0 : Int32)
  · have hf := ifT hf h0
    refine q_tableIn (off := 55) C 56 dX2_told_1 (by rw [h0]; decide) (by rw [h0]; decide) (by first | (rw [h0]; done) | (rw [h0]; decide)) (by decide) ?_
    refine q_aload_n C dX2_told_56 rfl 0 rfl ?_
    refine q_get C (uW uX2_in) 0 rfl rfl 0 (by decide) (ws_in xf_X2_10) rfl rfl dX2_told_57 ?_
    obtain ⟨z1, h_z1, hf⟩ := bnd hf
    refine q_cVI (ws' := wXX cI cJ cN x0 p0 i0 n0 n1 n2 n3 n4 n5 n6 s0 s1 s2 s3 s4 s5 s6 rp ri pl V N S) C (c_X0_nodes l D cI cJ cN n0 n1 n2 n3 n4 n5 n6 N z1 h_z1) (mkV (fr := 0) (lo := 0) C xc_X0_nodes xm_X2_37 xi_X0_nodes xe_X0_nodes xn_X0 hd_X0_nodes ⟨Nat.le_of_ble_eq_true rfl, Nat.le_of_ble_eq_true rfl⟩) 0 rfl rfl [3, 4, 5, 6, 7, 8, 9] rfl (by decide) rfl rfl rfl rfl (Nat.le_of_ble_eq_true rfl) dX2_told_60 ⟨Nat.le_of_ble_eq_true rfl, Nat.le_of_ble_eq_true rfl⟩ ?_
    have hf := Option.some.inj hf
    subst hf
    exact q_iret C (Nat.le_of_ble_eq_true rfl) (Nat.le_of_ble_eq_true rfl) rfl dX2_told_63
  · have hf := ifF hf h0
    by_cases h1 : x1 = (1 : Int32)
    · have hf := ifT hf h1
      refine q_tableIn (off := 63) C 64 dX2_told_1 (by rw [h1]; decide) (by rw [h1]; decide) (by first | (rw [h1]; done) | (rw [h1]; decide)) (by decide) ?_
      refine q_aload_n C dX2_told_64 rfl 0 rfl ?_
      refine q_get C (uW uX2_in) 0 rfl rfl 0 (by decide) (ws_in xf_X2_10) rfl rfl dX2_told_65 ?_
      obtain ⟨z2, h_z2, hf⟩ := bnd hf
      refine q_cVI (ws' := wXX cI cJ cN x0 p0 i0 n0 n1 n2 n3 n4 n5 n6 s0 s1 s2 s3 s4 s5 s6 rp ri pl V N S) C (c_X0_width l D cI cJ cN n0 n1 n2 n3 n4 n5 n6 N z2 h_z2) (mkV (fr := 0) (lo := 0) C xc_X0_width xm_X2_124 xi_X0_width xe_X0_width xn_X0 hd_X0_width ⟨Nat.le_of_ble_eq_true rfl, Nat.le_of_ble_eq_true rfl⟩) 0 rfl rfl [3, 4, 5, 6, 7, 8, 9] rfl (by decide) rfl rfl rfl rfl (Nat.le_of_ble_eq_true rfl) dX2_told_68 ⟨Nat.le_of_ble_eq_true rfl, Nat.le_of_ble_eq_true rfl⟩ ?_
      have hf := Option.some.inj hf
      subst hf
      exact q_iret C (Nat.le_of_ble_eq_true rfl) (Nat.le_of_ble_eq_true rfl) rfl dX2_told_71
    · have hf := ifF hf h1
      by_cases h2 : x1 = (2 : Int32)
      · have hf := ifT hf h2
        refine q_tableIn (off := 71) C 72 dX2_told_1 (by rw [h2]; decide) (by rw [h2]; decide) (by first | (rw [h2]; done) | (rw [h2]; decide)) (by decide) ?_
        refine q_aload_n C dX2_told_72 rfl 0 rfl ?_
        refine q_get C (uW uX2_in) 0 rfl rfl 0 (by decide) (ws_in xf_X2_10) rfl rfl dX2_told_73 ?_
        obtain ⟨z3, h_z3, hf⟩ := bnd hf
        refine q_cVI (ws' := wXX cI cJ cN x0 p0 i0 n0 n1 n2 n3 n4 n5 n6 s0 s1 s2 s3 s4 s5 s6 rp ri pl V N S) C (c_X0_presentNodes l D cI cJ cN n0 n1 n2 n3 n4 n5 n6 N z3 h_z3) (mkV (fr := 1) (lo := 21) C xc_X0_presentNodes xm_X2_91 xi_X0_presentNodes xe_X0_presentNodes xn_X0 hd_X0_presentNodes ⟨Nat.le_of_ble_eq_true rfl, Nat.le_of_ble_eq_true rfl⟩) 0 rfl rfl [3, 4, 5, 6, 7, 8, 9] rfl (by decide) rfl rfl rfl rfl (Nat.le_of_ble_eq_true rfl) dX2_told_76 ⟨Nat.le_of_ble_eq_true rfl, Nat.le_of_ble_eq_true rfl⟩ ?_
        have hf := Option.some.inj hf
        subst hf
        exact q_iret C (Nat.le_of_ble_eq_true rfl) (Nat.le_of_ble_eq_true rfl) rfl dX2_told_79
      · have hf := ifF hf h2
        by_cases h3 : x1 = (3 : Int32)
        · have hf := ifT hf h3
          refine q_tableIn (off := 79) C 80 dX2_told_1 (by rw [h3]; decide) (by rw [h3]; decide) (by first | (rw [h3]; done) | (rw [h3]; decide)) (by decide) ?_
          refine q_aload_n C dX2_told_80 rfl 0 rfl ?_
          refine q_get C (uW uX2_in) 0 rfl rfl 0 (by decide) (ws_in xf_X2_10) rfl rfl dX2_told_81 ?_
          obtain ⟨z4, h_z4, hf⟩ := bnd hf
          refine q_cVI (ws' := wXX cI cJ cN x0 p0 i0 n0 n1 n2 n3 n4 n5 n6 s0 s1 s2 s3 s4 s5 s6 rp ri pl V N S) C (c_X0_countOfLinks l D cI cJ cN n0 n1 n2 n3 n4 n5 n6 N z4 h_z4) (mkV (fr := 2) (lo := 42) C xc_X0_countOfLinks xm_X2_127 xi_X0_countOfLinks xe_X0_countOfLinks xn_X0 hd_X0_countOfLinks ⟨Nat.le_of_ble_eq_true rfl, Nat.le_of_ble_eq_true rfl⟩) 0 rfl rfl [3, 4, 5, 6, 7, 8, 9] rfl (by decide) rfl rfl rfl rfl (Nat.le_of_ble_eq_true rfl) dX2_told_84 ⟨Nat.le_of_ble_eq_true rfl, Nat.le_of_ble_eq_true rfl⟩ ?_
          have hf := Option.some.inj hf
          subst hf
          exact q_iret C (Nat.le_of_ble_eq_true rfl) (Nat.le_of_ble_eq_true rfl) rfl dX2_told_87
        · have hf := ifF hf h3
          by_cases h4 : x1 = (4 : Int32)
          · have hf := ifT hf h4
            refine q_tableIn (off := 87) C 88 dX2_told_1 (by rw [h4]; decide) (by rw [h4]; decide) (by first | (rw [h4]; done) | (rw [h4]; decide)) (by decide) ?_
            refine q_aload_n C dX2_told_88 rfl 0 rfl ?_
            refine q_get C (uW uX2_in) 0 rfl rfl 0 (by decide) (ws_in xf_X2_10) rfl rfl dX2_told_89 ?_
            obtain ⟨z5, h_z5, hf⟩ := bnd hf
            refine q_cVI (ws' := wXX cI cJ cN x0 p0 i0 n0 n1 n2 n3 n4 n5 n6 s0 s1 s2 s3 s4 s5 s6 rp ri pl V N S) C (c_X0_lengthOfLinks l D cI cJ cN n0 n1 n2 n3 n4 n5 n6 N z5 h_z5) (mkV (fr := 2) (lo := 43) C xc_X0_lengthOfLinks xm_X2_85 xi_X0_lengthOfLinks xe_X0_lengthOfLinks xn_X0 hd_X0_lengthOfLinks ⟨Nat.le_of_ble_eq_true rfl, Nat.le_of_ble_eq_true rfl⟩) 0 rfl rfl [3, 4, 5, 6, 7, 8, 9] rfl (by decide) rfl rfl rfl rfl (Nat.le_of_ble_eq_true rfl) dX2_told_92 ⟨Nat.le_of_ble_eq_true rfl, Nat.le_of_ble_eq_true rfl⟩ ?_
            have hf := Option.some.inj hf
            subst hf
            exact q_iret C (Nat.le_of_ble_eq_true rfl) (Nat.le_of_ble_eq_true rfl) rfl dX2_told_95
          · have hf := ifF hf h4
            by_cases h5 : x1 = (5 : Int32)
            · have hf := ifT hf h5
              refine q_tableIn (off := 95) C 96 dX2_told_1 (by rw [h5]; decide) (by rw [h5]; decide) (by first | (rw [h5]; done) | (rw [h5]; decide)) (by decide) ?_
              refine q_aload_n C dX2_told_96 rfl 0 rfl ?_
              refine q_get C (uW uX2_in) 0 rfl rfl 0 (by decide) (ws_in xf_X2_10) rfl rfl dX2_told_97 ?_
              refine q_iconst (v := 0) C dX2_told_100 (by decide) ?_
              obtain ⟨z6, h_z6, hf⟩ := bnd hf
              refine q_cVI (ws' := wXX cI cJ cN x0 p0 i0 n0 n1 n2 n3 n4 n5 n6 s0 s1 s2 s3 s4 s5 s6 rp ri pl V N S) C (c_X0_setting l D cI cJ cN n0 n1 n2 n3 n4 n5 n6 N (0 : Int32) z6 h_z6) (mkV (fr := 1) (lo := 21) C xc_X0_setting xm_X2_114 xi_X0_setting xe_X0_setting xn_X0 hd_X0_setting ⟨Nat.le_of_ble_eq_true rfl, Nat.le_of_ble_eq_true rfl⟩) 0 rfl rfl [3, 4, 5, 6, 7, 8, 9] rfl (by decide) rfl rfl rfl rfl (Nat.le_of_ble_eq_true rfl) dX2_told_101 ⟨Nat.le_of_ble_eq_true rfl, Nat.le_of_ble_eq_true rfl⟩ ?_
              have hf := Option.some.inj hf
              subst hf
              exact q_iret C (Nat.le_of_ble_eq_true rfl) (Nat.le_of_ble_eq_true rfl) rfl dX2_told_104
            · have hf := ifF hf h5
              by_cases h6 : x1 = (6 : Int32)
              · have hf := ifT hf h6
                refine q_tableIn (off := 104) C 105 dX2_told_1 (by rw [h6]; decide) (by rw [h6]; decide) (by first | (rw [h6]; done) | (rw [h6]; decide)) (by decide) ?_
                refine q_aload_n C dX2_told_105 rfl 0 rfl ?_
                refine q_get C (uW uX2_in) 0 rfl rfl 0 (by decide) (ws_in xf_X2_10) rfl rfl dX2_told_106 ?_
                refine q_iconst (v := 1) C dX2_told_109 (by decide) ?_
                obtain ⟨z7, h_z7, hf⟩ := bnd hf
                refine q_cVI (ws' := wXX cI cJ cN x0 p0 i0 n0 n1 n2 n3 n4 n5 n6 s0 s1 s2 s3 s4 s5 s6 rp ri pl V N S) C (c_X0_setting l D cI cJ cN n0 n1 n2 n3 n4 n5 n6 N (1 : Int32) z7 h_z7) (mkV (fr := 1) (lo := 21) C xc_X0_setting xm_X2_114 xi_X0_setting xe_X0_setting xn_X0 hd_X0_setting ⟨Nat.le_of_ble_eq_true rfl, Nat.le_of_ble_eq_true rfl⟩) 0 rfl rfl [3, 4, 5, 6, 7, 8, 9] rfl (by decide) rfl rfl rfl rfl (Nat.le_of_ble_eq_true rfl) dX2_told_110 ⟨Nat.le_of_ble_eq_true rfl, Nat.le_of_ble_eq_true rfl⟩ ?_
                have hf := Option.some.inj hf
                subst hf
                exact q_iret C (Nat.le_of_ble_eq_true rfl) (Nat.le_of_ble_eq_true rfl) rfl dX2_told_113
              · have hf := ifF hf h6
                by_cases h7 : x1 = (7 : Int32)
                · have hf := ifT hf h7
                  refine q_tableIn (off := 113) C 114 dX2_told_1 (by rw [h7]; decide) (by rw [h7]; decide) (by first | (rw [h7]; done) | (rw [h7]; decide)) (by decide) ?_
                  refine q_aload_n C dX2_told_114 rfl 0 rfl ?_
                  refine q_get C (uW uX2_in) 0 rfl rfl 0 (by decide) (ws_in xf_X2_10) rfl rfl dX2_told_115 ?_
                  refine q_iconst (v := 2) C dX2_told_118 (by decide) ?_
                  obtain ⟨z8, h_z8, hf⟩ := bnd hf
                  refine q_cVI (ws' := wXX cI cJ cN x0 p0 i0 n0 n1 n2 n3 n4 n5 n6 s0 s1 s2 s3 s4 s5 s6 rp ri pl V N S) C (c_X0_setting l D cI cJ cN n0 n1 n2 n3 n4 n5 n6 N (2 : Int32) z8 h_z8) (mkV (fr := 1) (lo := 21) C xc_X0_setting xm_X2_114 xi_X0_setting xe_X0_setting xn_X0 hd_X0_setting ⟨Nat.le_of_ble_eq_true rfl, Nat.le_of_ble_eq_true rfl⟩) 0 rfl rfl [3, 4, 5, 6, 7, 8, 9] rfl (by decide) rfl rfl rfl rfl (Nat.le_of_ble_eq_true rfl) dX2_told_119 ⟨Nat.le_of_ble_eq_true rfl, Nat.le_of_ble_eq_true rfl⟩ ?_
                  have hf := Option.some.inj hf
                  subst hf
                  exact q_iret C (Nat.le_of_ble_eq_true rfl) (Nat.le_of_ble_eq_true rfl) rfl dX2_told_122
                · have hf := ifF hf h7
                  by_cases h8 : x1 = (8 : Int32)
                  · have hf := ifT hf h8
                    refine q_tableIn (off := 122) C 123 dX2_told_1 (by rw [h8]; decide) (by rw [h8]; decide) (by first | (rw [h8]; done) | (rw [h8]; decide)) (by decide) ?_
                    refine q_aload_n C dX2_told_123 rfl 0 rfl ?_
                    refine q_get C (uW uX2_in) 0 rfl rfl 0 (by decide) (ws_in xf_X2_10) rfl rfl dX2_told_124 ?_
                    refine q_iconst (v := 3) C dX2_told_127 (by decide) ?_
                    obtain ⟨z9, h_z9, hf⟩ := bnd hf
                    refine q_cVI (ws' := wXX cI cJ cN x0 p0 i0 n0 n1 n2 n3 n4 n5 n6 s0 s1 s2 s3 s4 s5 s6 rp ri pl V N S) C (c_X0_setting l D cI cJ cN n0 n1 n2 n3 n4 n5 n6 N (3 : Int32) z9 h_z9) (mkV (fr := 1) (lo := 21) C xc_X0_setting xm_X2_114 xi_X0_setting xe_X0_setting xn_X0 hd_X0_setting ⟨Nat.le_of_ble_eq_true rfl, Nat.le_of_ble_eq_true rfl⟩) 0 rfl rfl [3, 4, 5, 6, 7, 8, 9] rfl (by decide) rfl rfl rfl rfl (Nat.le_of_ble_eq_true rfl) dX2_told_128 ⟨Nat.le_of_ble_eq_true rfl, Nat.le_of_ble_eq_true rfl⟩ ?_
                    have hf := Option.some.inj hf
                    subst hf
                    exact q_iret C (Nat.le_of_ble_eq_true rfl) (Nat.le_of_ble_eq_true rfl) rfl dX2_told_131
                  · have hf := ifF hf h8
                    by_cases h9 : x1 = (9 : Int32)
                    · have hf := ifT hf h9
                      refine q_tableIn (off := 131) C 132 dX2_told_1 (by rw [h9]; decide) (by rw [h9]; decide) (by first | (rw [h9]; done) | (rw [h9]; decide)) (by decide) ?_
                      refine q_aload_n C dX2_told_132 rfl 0 rfl ?_
                      refine q_get C (uW uX2_in) 0 rfl rfl 4 (by decide) (ws_in xf_X2_30) rfl rfl dX2_told_133 ?_
                      have hf := Option.some.inj hf
                      subst hf
                      exact q_iret C (Nat.le_of_ble_eq_true rfl) (Nat.le_of_ble_eq_true rfl) rfl dX2_told_136
                    · have hf := ifF hf h9
                      refine q_tableOut C 137 dX2_told_1 (by have a0 := lv_neT h0 (show ((0 : Int32)).toInt = 0 by decide); have a1 := lv_neT h1 (show ((1 : Int32)).toInt = 1 by decide); have a2 := lv_neT h2 (show ((2 : Int32)).toInt = 2 by decide); have a3 := lv_neT h3 (show ((3 : Int32)).toInt = 3 by decide); have a4 := lv_neT h4 (show ((4 : Int32)).toInt = 4 by decide); have a5 := lv_neT h5 (show ((5 : Int32)).toInt = 5 by decide); have a6 := lv_neT h6 (show ((6 : Int32)).toInt = 6 by decide); have a7 := lv_neT h7 (show ((7 : Int32)).toInt = 7 by decide); have a8 := lv_neT h8 (show ((8 : Int32)).toInt = 8 by decide); have a9 := lv_neT h9 (show ((9 : Int32)).toInt = 9 by decide); omega) (by decide) ?_
                      refine q_iconst (v := -1) C dX2_told_137 (by decide) ?_
                      have hf := Option.some.inj hf
                      subst hf
                      exact q_iret C (Nat.le_of_ble_eq_true rfl) (Nat.le_of_ble_eq_true rfl) rfl dX2_told_138
set_option maxRecDepth 100000 in
set_option maxHeartbeats 4000000 in
theorem c_X2_node (l : Launch) (D : va_G) (cI cJ cN : ClassId) (x0 p0 i0 n0 n1 n2 n3 n4 n5 n6 s0 s1 s2 s3 s4 s5 s6 : Nat) (rp ri : Nat → Option Nat) (pl : va_W)  (V : HS) (N : NS) (S : SS) (x1 : Int32) (x2 : Int32) (z : Int32 × SS) (hf : f_X2_node V N S x1 x2 = some z) : MI l D cI cJ cN yX2_node (WS yX2_node cX2_node 3 (some .int)) { frames := 5, cells := 0, slots := 0, locals := 116 } [.ref x0, .int x1, .int x2] (wXX cI cJ cN x0 p0 i0 n0 n1 n2 n3 n4 n5 n6 s0 s1 s2 s3 s4 s5 s6 rp ri pl V N S) z.1 (fun w => w = wXX cI cJ cN x0 p0 i0 n0 n1 n2 n3 n4 n5 n6 s0 s1 s2 s3 s4 s5 s6 rp ri pl V N z.2) := by
  rw [f_X2_node] at hf
  refine q_startI (lv := [(0, .ref x0), (1, .int x1), (2, .int x2)]) (by decide +kernel) rfl (Nat.le_of_ble_eq_true rfl) ?_
  intro p e s m below meth c C hin
  refine q_aload_n C dX2_node_0 rfl 0 rfl ?_
  refine q_get C (uW uX2_in) 0 rfl rfl 0 (by decide) (ws_in xf_X2_10) rfl rfl dX2_node_1 ?_
  refine q_iload_n C dX2_node_4 rfl 1 rfl ?_
  obtain ⟨z1, h_z1, hf⟩ := bnd hf
  refine q_cVI (ws' := wXX cI cJ cN x0 p0 i0 n0 n1 n2 n3 n4 n5 n6 s0 s1 s2 s3 s4 s5 s6 rp ri pl V N S) C (c_X0_holds l D cI cJ cN n0 n1 n2 n3 n4 n5 n6 N x1 z1 h_z1) (mkV (fr := 1) (lo := 20) C xc_X0_holds xm_X2_56 xi_X0_holds xe_X0_holds xn_X0 hd_X0_holds ⟨Nat.le_of_ble_eq_true rfl, Nat.le_of_ble_eq_true rfl⟩) 0 rfl rfl [3, 4, 5, 6, 7, 8, 9] rfl (by decide) rfl rfl rfl rfl (Nat.le_of_ble_eq_true rfl) dX2_node_5 ⟨Nat.le_of_ble_eq_true rfl, Nat.le_of_ble_eq_true rfl⟩ ?_
  refine q_if_eq C 21 dX2_node_8 (by decide) (fun h => ?_) (fun h => ?_)
  · have hf := ifT hf h
    refine q_iconst (v := -1) C dX2_node_21 (by decide) ?_
    have hf := Option.some.inj hf
    subst hf
    exact q_iret C (Nat.le_of_ble_eq_true rfl) (Nat.le_of_ble_eq_true rfl) rfl dX2_node_22
  · have hf := ifF hf h
    refine q_iload_n C dX2_node_11 rfl 2 rfl ?_
    refine q_if_lt C 21 dX2_node_12 (by decide) (fun h => ?_) (fun h => ?_)
    · have hf := ifT hf h
      refine q_iconst (v := -1) C dX2_node_21 (by decide) ?_
      have hf := Option.some.inj hf
      subst hf
      exact q_iret C (Nat.le_of_ble_eq_true rfl) (Nat.le_of_ble_eq_true rfl) rfl dX2_node_22
    · have hf := ifF hf h
      refine q_iload_n C dX2_node_15 rfl 2 rfl ?_
      refine q_bipush (v := 6) C dX2_node_16 (by decide) ?_
      refine q_icmp_le C 23 dX2_node_18 (by decide) (fun h => ?_) (fun h => ?_)
      · have hf := ifT hf h
        refine q_iload_n C dX2_node_23 rfl 2 rfl ?_
        refine q_if_ne C 36 dX2_node_24 (by decide) (fun h => ?_) (fun h => ?_)
        · have hf := ifF hf h
          refine q_aload_n C dX2_node_36 rfl 0 rfl ?_
          refine q_get C (uW uX2_in) 0 rfl rfl 0 (by decide) (ws_in xf_X2_10) rfl rfl dX2_node_37 ?_
          refine q_iload_n C dX2_node_40 rfl 1 rfl ?_
          obtain ⟨z2, h_z2, hf⟩ := bnd hf
          refine q_cVI (ws' := wXX cI cJ cN x0 p0 i0 n0 n1 n2 n3 n4 n5 n6 s0 s1 s2 s3 s4 s5 s6 rp ri pl V N S) C (c_X0_isPresent l D cI cJ cN n0 n1 n2 n3 n4 n5 n6 N x1 z2 h_z2) (mkV (fr := 2) (lo := 41) C xc_X0_isPresent xm_X2_66 xi_X0_isPresent xe_X0_isPresent xn_X0 hd_X0_isPresent ⟨Nat.le_of_ble_eq_true rfl, Nat.le_of_ble_eq_true rfl⟩) 0 rfl rfl [3, 4, 5, 6, 7, 8, 9] rfl (by decide) rfl rfl rfl rfl (Nat.le_of_ble_eq_true rfl) dX2_node_41 ⟨Nat.le_of_ble_eq_true rfl, Nat.le_of_ble_eq_true rfl⟩ ?_
          refine q_if_ne C 49 dX2_node_44 (by decide) (fun h => ?_) (fun h => ?_)
          · have hf := ifF hf h
            refine q_iload_n C dX2_node_49 rfl 2 rfl ?_
            by_cases h0 : x2 = (1 : Int32)
            · have hf := ifT hf h0
              refine q_tableIn (off := 34) C 84 dX2_node_50 (by rw [h0]; decide) (by rw [h0]; decide) (by first | (rw [h0]; done) | (rw [h0]; decide)) (by decide) ?_
              refine q_iconst (v := 1) C dX2_node_84 (by decide) ?_
              have hf := Option.some.inj hf
              subst hf
              exact q_iret C (Nat.le_of_ble_eq_true rfl) (Nat.le_of_ble_eq_true rfl) rfl dX2_node_85
            · have hf := ifF hf h0
              by_cases h1 : x2 = (2 : Int32)
              · have hf := ifT hf h1
                refine q_tableIn (off := 36) C 86 dX2_node_50 (by rw [h1]; decide) (by rw [h1]; decide) (by first | (rw [h1]; done) | (rw [h1]; decide)) (by decide) ?_
                refine q_aload_n C dX2_node_86 rfl 0 rfl ?_
                refine q_get C (uW uX2_in) 0 rfl rfl 0 (by decide) (ws_in xf_X2_10) rfl rfl dX2_node_87 ?_
                refine q_iload_n C dX2_node_90 rfl 1 rfl ?_
                obtain ⟨z3, h_z3, hf⟩ := bnd hf
                refine q_cVL (ws' := wXX cI cJ cN x0 p0 i0 n0 n1 n2 n3 n4 n5 n6 s0 s1 s2 s3 s4 s5 s6 rp ri pl V N S) C (c_X0_contactsOf l D cI cJ cN n0 n1 n2 n3 n4 n5 n6 N x1 z3 h_z3) (mkV (fr := 2) (lo := 46) C xc_X0_contactsOf xm_X2_133 xi_X0_contactsOf xe_X0_contactsOf xn_X0 hd_X0_contactsOf ⟨Nat.le_of_ble_eq_true rfl, Nat.le_of_ble_eq_true rfl⟩) 0 rfl rfl [3, 4, 5, 6, 7, 8, 9] rfl (by decide) rfl rfl rfl rfl (Nat.le_of_ble_eq_true rfl) dX2_node_91 ⟨Nat.le_of_ble_eq_true rfl, Nat.le_of_ble_eq_true rfl⟩ ?_
                obtain ⟨z4, h_z4, hf⟩ := bnd hf
                refine q_cSI (ws' := wXX cI cJ cN x0 p0 i0 n0 n1 n2 n3 n4 n5 n6 s0 s1 s2 s3 s4 s5 s6 rp ri pl V N S) C (c_J13_bitCount_95d88 l D cI cJ cN z3 z4 h_z4) (mkS (fr := 0) (lo := 0) C xc_J13_bitCount_95d88 xm_X2_105 xs_J13_bitCount_95d88 xn_J13 hd_J13_bitCount_95d88 ⟨Nat.le_of_ble_eq_true rfl, Nat.le_of_ble_eq_true rfl⟩) [] rfl (by decide) rfl rfl rfl rfl (Nat.le_of_ble_eq_true rfl) dX2_node_94 ⟨Nat.le_of_ble_eq_true rfl, Nat.le_of_ble_eq_true rfl⟩ ?_
                have hf := Option.some.inj hf
                subst hf
                exact q_iret C (Nat.le_of_ble_eq_true rfl) (Nat.le_of_ble_eq_true rfl) rfl dX2_node_97
              · have hf := ifF hf h1
                by_cases h2 : x2 = (3 : Int32)
                · have hf := ifT hf h2
                  refine q_tableIn (off := 48) C 98 dX2_node_50 (by rw [h2]; decide) (by rw [h2]; decide) (by first | (rw [h2]; done) | (rw [h2]; decide)) (by decide) ?_
                  refine q_aload_n C dX2_node_98 rfl 0 rfl ?_
                  refine q_get C (uW uX2_in) 0 rfl rfl 0 (by decide) (ws_in xf_X2_10) rfl rfl dX2_node_99 ?_
                  refine q_iload_n C dX2_node_102 rfl 1 rfl ?_
                  obtain ⟨z5, h_z5, hf⟩ := bnd hf
                  refine q_cVI (ws' := wXX cI cJ cN x0 p0 i0 n0 n1 n2 n3 n4 n5 n6 s0 s1 s2 s3 s4 s5 s6 rp ri pl V N S) C (c_X0_linksOf l D cI cJ cN n0 n1 n2 n3 n4 n5 n6 N x1 z5 h_z5) (mkV (fr := 1) (lo := 21) C xc_X0_linksOf xm_X2_52 xi_X0_linksOf xe_X0_linksOf xn_X0 hd_X0_linksOf ⟨Nat.le_of_ble_eq_true rfl, Nat.le_of_ble_eq_true rfl⟩) 0 rfl rfl [3, 4, 5, 6, 7, 8, 9] rfl (by decide) rfl rfl rfl rfl (Nat.le_of_ble_eq_true rfl) dX2_node_103 ⟨Nat.le_of_ble_eq_true rfl, Nat.le_of_ble_eq_true rfl⟩ ?_
                  have hf := Option.some.inj hf
                  subst hf
                  exact q_iret C (Nat.le_of_ble_eq_true rfl) (Nat.le_of_ble_eq_true rfl) rfl dX2_node_106
                · have hf := ifF hf h2
                  by_cases h3 : x2 = (4 : Int32)
                  · have hf := ifT hf h3
                    refine q_tableIn (off := 57) C 107 dX2_node_50 (by rw [h3]; decide) (by rw [h3]; decide) (by first | (rw [h3]; done) | (rw [h3]; decide)) (by decide) ?_
                    refine q_aload_n C dX2_node_107 rfl 0 rfl ?_
                    refine q_get C (uW uX2_in) 0 rfl rfl 0 (by decide) (ws_in xf_X2_10) rfl rfl dX2_node_108 ?_
                    refine q_iload_n C dX2_node_111 rfl 1 rfl ?_
                    obtain ⟨z6, h_z6, hf⟩ := bnd hf
                    refine q_cVI (ws' := wXX cI cJ cN x0 p0 i0 n0 n1 n2 n3 n4 n5 n6 s0 s1 s2 s3 s4 s5 s6 rp ri pl V N S) C (c_X0_linksTo l D cI cJ cN n0 n1 n2 n3 n4 n5 n6 N x1 z6 h_z6) (mkV (fr := 3) (lo := 66) C xc_X0_linksTo xm_X2_136 xi_X0_linksTo xe_X0_linksTo xn_X0 hd_X0_linksTo ⟨Nat.le_of_ble_eq_true rfl, Nat.le_of_ble_eq_true rfl⟩) 0 rfl rfl [3, 4, 5, 6, 7, 8, 9] rfl (by decide) rfl rfl rfl rfl (Nat.le_of_ble_eq_true rfl) dX2_node_112 ⟨Nat.le_of_ble_eq_true rfl, Nat.le_of_ble_eq_true rfl⟩ ?_
                    have hf := Option.some.inj hf
                    subst hf
                    exact q_iret C (Nat.le_of_ble_eq_true rfl) (Nat.le_of_ble_eq_true rfl) rfl dX2_node_115
                  · have hf := ifF hf h3
                    by_cases h4 : x2 = (5 : Int32)
                    · have hf := ifT hf h4
                      refine q_tableIn (off := 66) C 116 dX2_node_50 (by rw [h4]; decide) (by rw [h4]; decide) (by first | (rw [h4]; done) | (rw [h4]; decide)) (by decide) ?_
                      refine q_aload_n C dX2_node_116 rfl 0 rfl ?_
                      refine q_get C (uW uX2_in) 0 rfl rfl 1 (by decide) (ws_in xf_X2_19) rfl rfl dX2_node_117 ?_
                      refine q_aload_n C dX2_node_120 rfl 0 rfl ?_
                      refine q_get C (uW uX2_in) 0 rfl rfl 0 (by decide) (ws_in xf_X2_10) rfl rfl dX2_node_121 ?_
                      refine q_iload_n C dX2_node_124 rfl 1 rfl ?_
                      obtain ⟨z7, h_z7, hf⟩ := bnd hf
                      refine q_cVI (ws' := wXX cI cJ cN x0 p0 i0 n0 n1 n2 n3 n4 n5 n6 s0 s1 s2 s3 s4 s5 s6 rp ri pl V N z7.2) C (c_X1_reachedFrom l D cI cJ cN s0 s1 s2 s3 s4 s5 s6 n0 n1 n2 n3 n4 n5 n6 S N x1 z7 h_z7) (mkV (fr := 4) (lo := 92) C xc_X1_reachedFrom xm_X2_139 xi_X1_reachedFrom xe_X1_reachedFrom xn_X1 hd_X1_reachedFrom ⟨Nat.le_of_ble_eq_true rfl, Nat.le_of_ble_eq_true rfl⟩) 0 rfl rfl [10, 11, 12, 13, 14, 15, 16, 3, 4, 5, 6, 7, 8, 9] rfl (by decide) rfl rfl rfl rfl (Nat.le_of_ble_eq_true rfl) dX2_node_125 ⟨Nat.le_of_ble_eq_true rfl, Nat.le_of_ble_eq_true rfl⟩ ?_
                      have hf := Option.some.inj hf
                      subst hf
                      exact q_iret C (Nat.le_of_ble_eq_true rfl) (Nat.le_of_ble_eq_true rfl) rfl dX2_node_128
                    · have hf := ifF hf h4
                      refine q_tableOut C 129 dX2_node_50 (by have a0 := lv_neT h0 (show ((1 : Int32)).toInt = 1 by decide); have a1 := lv_neT h1 (show ((2 : Int32)).toInt = 2 by decide); have a2 := lv_neT h2 (show ((3 : Int32)).toInt = 3 by decide); have a3 := lv_neT h3 (show ((4 : Int32)).toInt = 4 by decide); have a4 := lv_neT h4 (show ((5 : Int32)).toInt = 5 by decide); omega) (by decide) ?_
                      refine q_aload_n C dX2_node_129 rfl 0 rfl ?_
                      refine q_get C (uW uX2_in) 0 rfl rfl 1 (by decide) (ws_in xf_X2_19) rfl rfl dX2_node_130 ?_
                      refine q_aload_n C dX2_node_133 rfl 0 rfl ?_
                      refine q_get C (uW uX2_in) 0 rfl rfl 0 (by decide) (ws_in xf_X2_10) rfl rfl dX2_node_134 ?_
                      refine q_iload_n C dX2_node_137 rfl 1 rfl ?_
                      obtain ⟨z8, h_z8, hf⟩ := bnd hf
                      refine q_cVI (ws' := wXX cI cJ cN x0 p0 i0 n0 n1 n2 n3 n4 n5 n6 s0 s1 s2 s3 s4 s5 s6 rp ri pl V N z8.2) C (c_X1_greatestWayFrom l D cI cJ cN s0 s1 s2 s3 s4 s5 s6 n0 n1 n2 n3 n4 n5 n6 S N x1 z8 h_z8) (mkV (fr := 4) (lo := 92) C xc_X1_greatestWayFrom xm_X2_143 xi_X1_greatestWayFrom xe_X1_greatestWayFrom xn_X1 hd_X1_greatestWayFrom ⟨Nat.le_of_ble_eq_true rfl, Nat.le_of_ble_eq_true rfl⟩) 0 rfl rfl [10, 11, 12, 13, 14, 15, 16, 3, 4, 5, 6, 7, 8, 9] rfl (by decide) rfl rfl rfl rfl (Nat.le_of_ble_eq_true rfl) dX2_node_138 ⟨Nat.le_of_ble_eq_true rfl, Nat.le_of_ble_eq_true rfl⟩ ?_
                      have hf := Option.some.inj hf
                      subst hf
                      exact q_iret C (Nat.le_of_ble_eq_true rfl) (Nat.le_of_ble_eq_true rfl) rfl dX2_node_141
          · have hf := ifT hf h
            refine q_iconst (v := 0) C dX2_node_47 (by decide) ?_
            have hf := Option.some.inj hf
            subst hf
            exact q_iret C (Nat.le_of_ble_eq_true rfl) (Nat.le_of_ble_eq_true rfl) rfl dX2_node_48
        · have hf := ifT hf h
          refine q_aload_n C dX2_node_27 rfl 0 rfl ?_
          refine q_get C (uW uX2_in) 0 rfl rfl 0 (by decide) (ws_in xf_X2_10) rfl rfl dX2_node_28 ?_
          refine q_iload_n C dX2_node_31 rfl 1 rfl ?_
          obtain ⟨z9, h_z9, hf⟩ := bnd hf
          refine q_cVI (ws' := wXX cI cJ cN x0 p0 i0 n0 n1 n2 n3 n4 n5 n6 s0 s1 s2 s3 s4 s5 s6 rp ri pl V N S) C (c_X0_placeOf l D cI cJ cN n0 n1 n2 n3 n4 n5 n6 N x1 z9 h_z9) (mkV (fr := 1) (lo := 21) C xc_X0_placeOf xm_X2_130 xi_X0_placeOf xe_X0_placeOf xn_X0 hd_X0_placeOf ⟨Nat.le_of_ble_eq_true rfl, Nat.le_of_ble_eq_true rfl⟩) 0 rfl rfl [3, 4, 5, 6, 7, 8, 9] rfl (by decide) rfl rfl rfl rfl (Nat.le_of_ble_eq_true rfl) dX2_node_32 ⟨Nat.le_of_ble_eq_true rfl, Nat.le_of_ble_eq_true rfl⟩ ?_
          have hf := Option.some.inj hf
          subst hf
          exact q_iret C (Nat.le_of_ble_eq_true rfl) (Nat.le_of_ble_eq_true rfl) rfl dX2_node_35
      · have hf := ifF hf h
        refine q_iconst (v := -1) C dX2_node_21 (by decide) ?_
        have hf := Option.some.inj hf
        subst hf
        exact q_iret C (Nat.le_of_ble_eq_true rfl) (Nat.le_of_ble_eq_true rfl) rfl dX2_node_22
set_option maxRecDepth 100000 in
set_option maxHeartbeats 4000000 in
theorem c_X2_target (l : Launch) (D : va_G) (cI cJ cN : ClassId) (x0 p0 i0 n0 n1 n2 n3 n4 n5 n6 s0 s1 s2 s3 s4 s5 s6 : Nat) (rp ri : Nat → Option Nat) (pl : va_W)  (V : HS) (N : NS) (S : SS) (x1 : Int32) (x2 : Int32) (z : Int32) (hf : f_X2_target V N S x1 x2 = some z) : MI l D cI cJ cN yX2_target (WS yX2_target cX2_target 3 (some .int)) { frames := 2, cells := 0, slots := 0, locals := 43 } [.ref x0, .int x1, .int x2] (wXX cI cJ cN x0 p0 i0 n0 n1 n2 n3 n4 n5 n6 s0 s1 s2 s3 s4 s5 s6 rp ri pl V N S) z (fun w => w = wXX cI cJ cN x0 p0 i0 n0 n1 n2 n3 n4 n5 n6 s0 s1 s2 s3 s4 s5 s6 rp ri pl V N S) := by
  rw [f_X2_target] at hf
  refine q_startI (lv := [(0, .ref x0), (1, .int x1), (2, .int x2)]) (by decide +kernel) rfl (Nat.le_of_ble_eq_true rfl) ?_
  intro p e s m below meth c C hin
  refine q_aload_n C dX2_target_0 rfl 0 rfl ?_
  refine q_get C (uW uX2_in) 0 rfl rfl 0 (by decide) (ws_in xf_X2_10) rfl rfl dX2_target_1 ?_
  refine q_iload_n C dX2_target_4 rfl 1 rfl ?_
  obtain ⟨z1, h_z1, hf⟩ := bnd hf
  refine q_cVI (ws' := wXX cI cJ cN x0 p0 i0 n0 n1 n2 n3 n4 n5 n6 s0 s1 s2 s3 s4 s5 s6 rp ri pl V N S) C (c_X0_holds l D cI cJ cN n0 n1 n2 n3 n4 n5 n6 N x1 z1 h_z1) (mkV (fr := 1) (lo := 20) C xc_X0_holds xm_X2_56 xi_X0_holds xe_X0_holds xn_X0 hd_X0_holds ⟨Nat.le_of_ble_eq_true rfl, Nat.le_of_ble_eq_true rfl⟩) 0 rfl rfl [3, 4, 5, 6, 7, 8, 9] rfl (by decide) rfl rfl rfl rfl (Nat.le_of_ble_eq_true rfl) dX2_target_5 ⟨Nat.le_of_ble_eq_true rfl, Nat.le_of_ble_eq_true rfl⟩ ?_
  refine q_if_eq C 15 dX2_target_8 (by decide) (fun h => ?_) (fun h => ?_)
  · have hf := ifT hf h
    refine q_iconst (v := -1) C dX2_target_15 (by decide) ?_
    have hf := Option.some.inj hf
    subst hf
    exact q_iret C (Nat.le_of_ble_eq_true rfl) (Nat.le_of_ble_eq_true rfl) rfl dX2_target_16
  · have hf := ifF hf h
    refine q_iload_n C dX2_target_11 rfl 2 rfl ?_
    refine q_if_ge C 17 dX2_target_12 (by decide) (fun h => ?_) (fun h => ?_)
    · have hf := ifT hf h
      refine q_iload_n C dX2_target_17 rfl 2 rfl ?_
      refine q_aload_n C dX2_target_18 rfl 0 rfl ?_
      refine q_get C (uW uX2_in) 0 rfl rfl 0 (by decide) (ws_in xf_X2_10) rfl rfl dX2_target_19 ?_
      refine q_iload_n C dX2_target_22 rfl 1 rfl ?_
      obtain ⟨z2, h_z2, hf⟩ := bnd hf
      refine q_cVI (ws' := wXX cI cJ cN x0 p0 i0 n0 n1 n2 n3 n4 n5 n6 s0 s1 s2 s3 s4 s5 s6 rp ri pl V N S) C (c_X0_linksOf l D cI cJ cN n0 n1 n2 n3 n4 n5 n6 N x1 z2 h_z2) (mkV (fr := 1) (lo := 21) C xc_X0_linksOf xm_X2_52 xi_X0_linksOf xe_X0_linksOf xn_X0 hd_X0_linksOf ⟨Nat.le_of_ble_eq_true rfl, Nat.le_of_ble_eq_true rfl⟩) 0 rfl rfl [3, 4, 5, 6, 7, 8, 9] rfl (by decide) rfl rfl rfl rfl (Nat.le_of_ble_eq_true rfl) dX2_target_23 ⟨Nat.le_of_ble_eq_true rfl, Nat.le_of_ble_eq_true rfl⟩ ?_
      refine q_icmp_ge C 41 dX2_target_26 (by decide) (fun h => ?_) (fun h => ?_)
      · have hf := ifT hf h
        refine q_bipush (v := -9) C dX2_target_41 (by decide) ?_
        have hf := Option.some.inj hf
        subst hf
        exact q_iret C (Nat.le_of_ble_eq_true rfl) (Nat.le_of_ble_eq_true rfl) rfl dX2_target_43
      · have hf := ifF hf h
        refine q_aload_n C dX2_target_29 rfl 0 rfl ?_
        refine q_get C (uW uX2_in) 0 rfl rfl 0 (by decide) (ws_in xf_X2_10) rfl rfl dX2_target_30 ?_
        refine q_iload_n C dX2_target_33 rfl 1 rfl ?_
        refine q_iload_n C dX2_target_34 rfl 2 rfl ?_
        obtain ⟨z3, h_z3, hf⟩ := bnd hf
        refine q_cVI (ws' := wXX cI cJ cN x0 p0 i0 n0 n1 n2 n3 n4 n5 n6 s0 s1 s2 s3 s4 s5 s6 rp ri pl V N S) C (c_X0_linkAt l D cI cJ cN n0 n1 n2 n3 n4 n5 n6 N x1 x2 z3 h_z3) (mkV (fr := 1) (lo := 21) C xc_X0_linkAt xm_X2_60 xi_X0_linkAt xe_X0_linkAt xn_X0 hd_X0_linkAt ⟨Nat.le_of_ble_eq_true rfl, Nat.le_of_ble_eq_true rfl⟩) 0 rfl rfl [3, 4, 5, 6, 7, 8, 9] rfl (by decide) rfl rfl rfl rfl (Nat.le_of_ble_eq_true rfl) dX2_target_35 ⟨Nat.le_of_ble_eq_true rfl, Nat.le_of_ble_eq_true rfl⟩ ?_
        refine q_goto C 43 dX2_target_38 (by decide) ?_
        have hf := Option.some.inj hf
        subst hf
        exact q_iret C (Nat.le_of_ble_eq_true rfl) (Nat.le_of_ble_eq_true rfl) rfl dX2_target_43
    · have hf := ifF hf h
      refine q_iconst (v := -1) C dX2_target_15 (by decide) ?_
      have hf := Option.some.inj hf
      subst hf
      exact q_iret C (Nat.le_of_ble_eq_true rfl) (Nat.le_of_ble_eq_true rfl) rfl dX2_target_16
set_option maxRecDepth 100000 in
set_option maxHeartbeats 4000000 in
theorem c_X2_distance (l : Launch) (D : va_G) (cI cJ cN : ClassId) (x0 p0 i0 n0 n1 n2 n3 n4 n5 n6 s0 s1 s2 s3 s4 s5 s6 : Nat) (rp ri : Nat → Option Nat) (pl : va_W)  (V : HS) (N : NS) (S : SS) (x1 : Int32) (x2 : Int32) (z : Int32) (hf : f_X2_distance V N S x1 x2 = some z) : MI l D cI cJ cN yX2_distance (WS yX2_distance cX2_distance 3 (some .int)) { frames := 2, cells := 0, slots := 0, locals := 43 } [.ref x0, .int x1, .int x2] (wXX cI cJ cN x0 p0 i0 n0 n1 n2 n3 n4 n5 n6 s0 s1 s2 s3 s4 s5 s6 rp ri pl V N S) z (fun w => w = wXX cI cJ cN x0 p0 i0 n0 n1 n2 n3 n4 n5 n6 s0 s1 s2 s3 s4 s5 s6 rp ri pl V N S) := by
  rw [f_X2_distance] at hf
  refine q_startI (lv := [(0, .ref x0), (1, .int x1), (2, .int x2)]) (by decide +kernel) rfl (Nat.le_of_ble_eq_true rfl) ?_
  intro p e s m below meth c C hin
  refine q_aload_n C dX2_distance_0 rfl 0 rfl ?_
  refine q_get C (uW uX2_in) 0 rfl rfl 0 (by decide) (ws_in xf_X2_10) rfl rfl dX2_distance_1 ?_
  refine q_iload_n C dX2_distance_4 rfl 1 rfl ?_
  obtain ⟨z1, h_z1, hf⟩ := bnd hf
  refine q_cVI (ws' := wXX cI cJ cN x0 p0 i0 n0 n1 n2 n3 n4 n5 n6 s0 s1 s2 s3 s4 s5 s6 rp ri pl V N S) C (c_X0_holds l D cI cJ cN n0 n1 n2 n3 n4 n5 n6 N x1 z1 h_z1) (mkV (fr := 1) (lo := 20) C xc_X0_holds xm_X2_56 xi_X0_holds xe_X0_holds xn_X0 hd_X0_holds ⟨Nat.le_of_ble_eq_true rfl, Nat.le_of_ble_eq_true rfl⟩) 0 rfl rfl [3, 4, 5, 6, 7, 8, 9] rfl (by decide) rfl rfl rfl rfl (Nat.le_of_ble_eq_true rfl) dX2_distance_5 ⟨Nat.le_of_ble_eq_true rfl, Nat.le_of_ble_eq_true rfl⟩ ?_
  refine q_if_eq C 22 dX2_distance_8 (by decide) (fun h => ?_) (fun h => ?_)
  · have hf := ifT hf h
    refine q_iconst (v := -1) C dX2_distance_22 (by decide) ?_
    have hf := Option.some.inj hf
    subst hf
    exact q_iret C (Nat.le_of_ble_eq_true rfl) (Nat.le_of_ble_eq_true rfl) rfl dX2_distance_23
  · have hf := ifF hf h
    refine q_aload_n C dX2_distance_11 rfl 0 rfl ?_
    refine q_get C (uW uX2_in) 0 rfl rfl 0 (by decide) (ws_in xf_X2_10) rfl rfl dX2_distance_12 ?_
    refine q_iload_n C dX2_distance_15 rfl 2 rfl ?_
    obtain ⟨z2, h_z2, hf⟩ := bnd hf
    refine q_cVI (ws' := wXX cI cJ cN x0 p0 i0 n0 n1 n2 n3 n4 n5 n6 s0 s1 s2 s3 s4 s5 s6 rp ri pl V N S) C (c_X0_holds l D cI cJ cN n0 n1 n2 n3 n4 n5 n6 N x2 z2 h_z2) (mkV (fr := 1) (lo := 20) C xc_X0_holds xm_X2_56 xi_X0_holds xe_X0_holds xn_X0 hd_X0_holds ⟨Nat.le_of_ble_eq_true rfl, Nat.le_of_ble_eq_true rfl⟩) 0 rfl rfl [3, 4, 5, 6, 7, 8, 9] rfl (by decide) rfl rfl rfl rfl (Nat.le_of_ble_eq_true rfl) dX2_distance_16 ⟨Nat.le_of_ble_eq_true rfl, Nat.le_of_ble_eq_true rfl⟩ ?_
    refine q_if_ne C 24 dX2_distance_19 (by decide) (fun h => ?_) (fun h => ?_)
    · have hf := ifF hf h
      refine q_aload_n C dX2_distance_24 rfl 0 rfl ?_
      refine q_get C (uW uX2_in) 0 rfl rfl 0 (by decide) (ws_in xf_X2_10) rfl rfl dX2_distance_25 ?_
      refine q_iload_n C dX2_distance_28 rfl 1 rfl ?_
      refine q_iload_n C dX2_distance_29 rfl 2 rfl ?_
      obtain ⟨z3, h_z3, hf⟩ := bnd hf
      refine q_cVI (ws' := wXX cI cJ cN x0 p0 i0 n0 n1 n2 n3 n4 n5 n6 s0 s1 s2 s3 s4 s5 s6 rp ri pl V N S) C (c_X0_spacing l D cI cJ cN n0 n1 n2 n3 n4 n5 n6 N x1 x2 z3 h_z3) (mkV (fr := 1) (lo := 21) C xc_X0_spacing xm_X2_146 xi_X0_spacing xe_X0_spacing xn_X0 hd_X0_spacing ⟨Nat.le_of_ble_eq_true rfl, Nat.le_of_ble_eq_true rfl⟩) 0 rfl rfl [3, 4, 5, 6, 7, 8, 9] rfl (by decide) rfl rfl rfl rfl (Nat.le_of_ble_eq_true rfl) dX2_distance_30 ⟨Nat.le_of_ble_eq_true rfl, Nat.le_of_ble_eq_true rfl⟩ ?_
      have hf := Option.some.inj hf
      subst hf
      exact q_iret C (Nat.le_of_ble_eq_true rfl) (Nat.le_of_ble_eq_true rfl) rfl dX2_distance_33
    · have hf := ifT hf h
      refine q_iconst (v := -1) C dX2_distance_22 (by decide) ?_
      have hf := Option.some.inj hf
      subst hf
      exact q_iret C (Nat.le_of_ble_eq_true rfl) (Nat.le_of_ble_eq_true rfl) rfl dX2_distance_23
set_option maxRecDepth 100000 in
set_option maxHeartbeats 4000000 in
theorem c_X2_route (l : Launch) (D : va_G) (cI cJ cN : ClassId) (x0 p0 i0 n0 n1 n2 n3 n4 n5 n6 s0 s1 s2 s3 s4 s5 s6 : Nat) (rp ri : Nat → Option Nat) (pl : va_W)  (V : HS) (N : NS) (S : SS) (x1 : Int32) (x2 : Int32) (x3 : Int32) (z : Int32 × SS) (hf : f_X2_route V N S x1 x2 x3 = some z) : MI l D cI cJ cN yX2_route (WS yX2_route cX2_route 6 (some .int)) { frames := 5, cells := 0, slots := 0, locals := 117 } [.ref x0, .int x1, .int x2, .int x3] (wXX cI cJ cN x0 p0 i0 n0 n1 n2 n3 n4 n5 n6 s0 s1 s2 s3 s4 s5 s6 rp ri pl V N S) z.1 (fun w => w = wXX cI cJ cN x0 p0 i0 n0 n1 n2 n3 n4 n5 n6 s0 s1 s2 s3 s4 s5 s6 rp ri pl V N z.2) := by
  rw [f_X2_route] at hf
  refine q_startI (lv := [(0, .ref x0), (1, .int x1), (2, .int x2), (3, .int x3)]) (by decide +kernel) rfl (Nat.le_of_ble_eq_true rfl) ?_
  intro p e s m below meth c C hin
  refine q_iload_n C dX2_route_0 rfl 3 rfl ?_
  refine q_bipush (v := -2) C dX2_route_1 (by decide) ?_
  refine q_icmp_ge C 8 dX2_route_3 (by decide) (fun h => ?_) (fun h => ?_)
  · have hf := ifT hf h
    refine q_aload_n C dX2_route_8 rfl 0 rfl ?_
    refine q_iload_n C dX2_route_9 rfl 1 rfl ?_
    refine q_iload_n C dX2_route_10 rfl 2 rfl ?_
    obtain ⟨z1, h_z1, hf⟩ := bnd hf
    refine q_cVIw C (c_X2_faultOfPair l D cI cJ cN x0 p0 i0 n0 n1 n2 n3 n4 n5 n6 s0 s1 s2 s3 s4 s5 s6 rp ri pl V N S x1 x2 z1 h_z1) (mkV (fr := 3) (lo := 62) C xc_X2_faultOfPair xm_X2_72 xi_X2_faultOfPair xe_X2_faultOfPair xn_X2 hd_X2_faultOfPair ⟨Nat.le_of_ble_eq_true rfl, Nat.le_of_ble_eq_true rfl⟩) 0 rfl rfl rfl rfl (Nat.le_of_ble_eq_true rfl) dX2_route_11 ⟨Nat.le_of_ble_eq_true rfl, Nat.le_of_ble_eq_true rfl⟩ (fun w1 hp1 => ?_)
    subst hp1
    refine q_istore (lv' := [(4, .int z1), (0, .ref x0), (1, .int x1), (2, .int x2), (3, .int x3)]) C dX2_route_14 (by decide) rfl ?_
    refine q_iload C dX2_route_16 0 rfl ?_
    refine q_if_eq C 24 dX2_route_18 (by decide) (fun h => ?_) (fun h => ?_)
    · have hf := ifT hf h
      refine q_aload_n C dX2_route_24 rfl 1 rfl ?_
      refine q_get C (uW uX2_in) 0 rfl rfl 1 (by decide) (ws_in xf_X2_19) rfl rfl dX2_route_25 ?_
      refine q_aload_n C dX2_route_28 rfl 1 rfl ?_
      refine q_get C (uW uX2_in) 0 rfl rfl 0 (by decide) (ws_in xf_X2_10) rfl rfl dX2_route_29 ?_
      refine q_iload_n C dX2_route_32 rfl 2 rfl ?_
      refine q_iload_n C dX2_route_33 rfl 3 rfl ?_
      obtain ⟨z2, h_z2, hf⟩ := bnd hf
      refine q_cVI (ws' := wXX cI cJ cN x0 p0 i0 n0 n1 n2 n3 n4 n5 n6 s0 s1 s2 s3 s4 s5 s6 rp ri pl V N z2.2) C (c_X1_lookUp l D cI cJ cN s0 s1 s2 s3 s4 s5 s6 n0 n1 n2 n3 n4 n5 n6 S N x1 x2 z2 h_z2) (mkV (fr := 4) (lo := 94) C xc_X1_lookUp xm_X2_149 xi_X1_lookUp xe_X1_lookUp xn_X1 hd_X1_lookUp ⟨Nat.le_of_ble_eq_true rfl, Nat.le_of_ble_eq_true rfl⟩) 0 rfl rfl [10, 11, 12, 13, 14, 15, 16, 3, 4, 5, 6, 7, 8, 9] rfl (by decide) rfl rfl rfl rfl (Nat.le_of_ble_eq_true rfl) dX2_route_34 ⟨Nat.le_of_ble_eq_true rfl, Nat.le_of_ble_eq_true rfl⟩ ?_
      refine q_istore (lv' := [(5, .int z2.1), (4, .int z1), (0, .ref x0), (1, .int x1), (2, .int x2), (3, .int x3)]) C dX2_route_37 (by decide) rfl ?_
      refine q_iload_n C dX2_route_39 rfl 5 rfl ?_
      refine q_bipush (v := -2) C dX2_route_40 (by decide) ?_
      refine q_icmp_ne C 56 dX2_route_42 (by decide) (fun h => ?_) (fun h => ?_)
      · have hf := ifF hf h
        refine q_iload_n C dX2_route_56 rfl 5 rfl ?_
        refine q_iconst (v := -1) C dX2_route_57 (by decide) ?_
        refine q_icmp_ne C 69 dX2_route_58 (by decide) (fun h => ?_) (fun h => ?_)
        · have hf := ifF hf h
          refine q_iload_n C dX2_route_69 rfl 5 rfl ?_
          refine q_aload_n C dX2_route_70 rfl 2 rfl ?_
          refine q_get C (uW uX2_in) 0 rfl rfl 1 (by decide) (ws_in xf_X2_19) rfl rfl dX2_route_71 ?_
          obtain ⟨z3, h_z3, hf⟩ := bnd hf
          refine q_cVI (ws' := wXX cI cJ cN x0 p0 i0 n0 n1 n2 n3 n4 n5 n6 s0 s1 s2 s3 s4 s5 s6 rp ri pl V N z2.2) C (c_X1_steps l D cI cJ cN s0 s1 s2 s3 s4 s5 s6 z2.2 z3 h_z3) (mkV (fr := 0) (lo := 0) C xc_X1_steps xm_X2_79 xi_X1_steps xe_X1_steps xn_X1 hd_X1_steps ⟨Nat.le_of_ble_eq_true rfl, Nat.le_of_ble_eq_true rfl⟩) 0 rfl rfl [10, 11, 12, 13, 14, 15, 16] rfl (by decide) rfl rfl rfl rfl (Nat.le_of_ble_eq_true rfl) dX2_route_74 ⟨Nat.le_of_ble_eq_true rfl, Nat.le_of_ble_eq_true rfl⟩ ?_
          refine q_icmp_gt C 91 dX2_route_77 (by decide) (fun h => ?_) (fun h => ?_)
          · have hf := ifT hf h
            refine q_bipush (v := -9) C dX2_route_91 (by decide) ?_
            have hf := Option.some.inj hf
            subst hf
            exact q_iret C (Nat.le_of_ble_eq_true rfl) (Nat.le_of_ble_eq_true rfl) rfl dX2_route_93
          · have hf := ifF hf h
            refine q_aload_n C dX2_route_80 rfl 2 rfl ?_
            refine q_get C (uW uX2_in) 0 rfl rfl 1 (by decide) (ws_in xf_X2_19) rfl rfl dX2_route_81 ?_
            refine q_iload_n C dX2_route_84 rfl 5 rfl ?_
            obtain ⟨z4, h_z4, hf⟩ := bnd hf
            refine q_cVI (ws' := wXX cI cJ cN x0 p0 i0 n0 n1 n2 n3 n4 n5 n6 s0 s1 s2 s3 s4 s5 s6 rp ri pl V N z2.2) C (c_X1_trailAt l D cI cJ cN s0 s1 s2 s3 s4 s5 s6 z2.2 x3 z4 h_z4) (mkV (fr := 1) (lo := 21) C xc_X1_trailAt xm_X2_153 xi_X1_trailAt xe_X1_trailAt xn_X1 hd_X1_trailAt ⟨Nat.le_of_ble_eq_true rfl, Nat.le_of_ble_eq_true rfl⟩) 0 rfl rfl [10, 11, 12, 13, 14, 15, 16] rfl (by decide) rfl rfl rfl rfl (Nat.le_of_ble_eq_true rfl) dX2_route_85 ⟨Nat.le_of_ble_eq_true rfl, Nat.le_of_ble_eq_true rfl⟩ ?_
            refine q_goto C 93 dX2_route_88 (by decide) ?_
            have hf := Option.some.inj hf
            subst hf
            exact q_iret C (Nat.le_of_ble_eq_true rfl) (Nat.le_of_ble_eq_true rfl) rfl dX2_route_93
        · have hf := ifT hf h
          refine q_aload_n C dX2_route_61 rfl 2 rfl ?_
          refine q_get C (uW uX2_in) 0 rfl rfl 1 (by decide) (ws_in xf_X2_19) rfl rfl dX2_route_62 ?_
          obtain ⟨z5, h_z5, hf⟩ := bnd hf
          refine q_cVI (ws' := wXX cI cJ cN x0 p0 i0 n0 n1 n2 n3 n4 n5 n6 s0 s1 s2 s3 s4 s5 s6 rp ri pl V N z2.2) C (c_X1_steps l D cI cJ cN s0 s1 s2 s3 s4 s5 s6 z2.2 z5 h_z5) (mkV (fr := 0) (lo := 0) C xc_X1_steps xm_X2_79 xi_X1_steps xe_X1_steps xn_X1 hd_X1_steps ⟨Nat.le_of_ble_eq_true rfl, Nat.le_of_ble_eq_true rfl⟩) 0 rfl rfl [10, 11, 12, 13, 14, 15, 16] rfl (by decide) rfl rfl rfl rfl (Nat.le_of_ble_eq_true rfl) dX2_route_65 ⟨Nat.le_of_ble_eq_true rfl, Nat.le_of_ble_eq_true rfl⟩ ?_
          have hf := Option.some.inj hf
          subst hf
          exact q_iret C (Nat.le_of_ble_eq_true rfl) (Nat.le_of_ble_eq_true rfl) rfl dX2_route_68
      · have hf := ifT hf h
        refine q_iload C dX2_route_45 0 rfl ?_
        refine q_if_eq C 54 dX2_route_47 (by decide) (fun h => ?_) (fun h => ?_)
        · have hf := ifT hf h
          refine q_iconst (v := 0) C dX2_route_54 (by decide) ?_
          have hf := Option.some.inj hf
          subst hf
          exact q_iret C (Nat.le_of_ble_eq_true rfl) (Nat.le_of_ble_eq_true rfl) rfl dX2_route_55
        · have hf := ifF hf h
          refine q_iconst (v := 1) C dX2_route_50 (by decide) ?_
          refine q_goto C 55 dX2_route_51 (by decide) ?_
          have hf := Option.some.inj hf
          subst hf
          exact q_iret C (Nat.le_of_ble_eq_true rfl) (Nat.le_of_ble_eq_true rfl) rfl dX2_route_55
    · have hf := ifF hf h
      refine q_iload C dX2_route_21 0 rfl ?_
      have hf := Option.some.inj hf
      subst hf
      exact q_iret C (Nat.le_of_ble_eq_true rfl) (Nat.le_of_ble_eq_true rfl) rfl dX2_route_23
  · have hf := ifF hf h
    refine q_iconst (v := -1) C dX2_route_6 (by decide) ?_
    have hf := Option.some.inj hf
    subst hf
    exact q_iret C (Nat.le_of_ble_eq_true rfl) (Nat.le_of_ble_eq_true rfl) rfl dX2_route_7
set_option maxRecDepth 100000 in
set_option maxHeartbeats 4000000 in
theorem c_X2_way (l : Launch) (D : va_G) (cI cJ cN : ClassId) (x0 p0 i0 n0 n1 n2 n3 n4 n5 n6 s0 s1 s2 s3 s4 s5 s6 : Nat) (rp ri : Nat → Option Nat) (pl : va_W)  (V : HS) (N : NS) (S : SS) (x1 : Int32) (x2 : Int32) (z : Int32 × SS) (hf : f_X2_way V N S x1 x2 = some z) : MI l D cI cJ cN yX2_way (WS yX2_way cX2_way 5 (some .int)) { frames := 4, cells := 0, slots := 0, locals := 92 } [.ref x0, .int x1, .int x2] (wXX cI cJ cN x0 p0 i0 n0 n1 n2 n3 n4 n5 n6 s0 s1 s2 s3 s4 s5 s6 rp ri pl V N S) z.1 (fun w => w = wXX cI cJ cN x0 p0 i0 n0 n1 n2 n3 n4 n5 n6 s0 s1 s2 s3 s4 s5 s6 rp ri pl V N z.2) := by
  rw [f_X2_way] at hf
  refine q_startI (lv := [(0, .ref x0), (1, .int x1), (2, .int x2)]) (by decide +kernel) rfl (Nat.le_of_ble_eq_true rfl) ?_
  intro p e s m below meth c C hin
  refine q_aload_n C dX2_way_0 rfl 0 rfl ?_
  refine q_iload_n C dX2_way_1 rfl 1 rfl ?_
  refine q_iload_n C dX2_way_2 rfl 2 rfl ?_
  obtain ⟨z1, h_z1, hf⟩ := bnd hf
  refine q_cVIw C (c_X2_faultOfPair l D cI cJ cN x0 p0 i0 n0 n1 n2 n3 n4 n5 n6 s0 s1 s2 s3 s4 s5 s6 rp ri pl V N S x1 x2 z1 h_z1) (mkV (fr := 3) (lo := 62) C xc_X2_faultOfPair xm_X2_72 xi_X2_faultOfPair xe_X2_faultOfPair xn_X2 hd_X2_faultOfPair ⟨Nat.le_of_ble_eq_true rfl, Nat.le_of_ble_eq_true rfl⟩) 0 rfl rfl rfl rfl (Nat.le_of_ble_eq_true rfl) dX2_way_3 ⟨Nat.le_of_ble_eq_true rfl, Nat.le_of_ble_eq_true rfl⟩ (fun w1 hp1 => ?_)
  subst hp1
  refine q_istore_n (lv' := [(3, .int z1), (0, .ref x0), (1, .int x1), (2, .int x2)]) C dX2_way_6 rfl (by decide) rfl ?_
  refine q_iload_n C dX2_way_7 rfl 0 rfl ?_
  refine q_if_eq C 13 dX2_way_8 (by decide) (fun h => ?_) (fun h => ?_)
  · have hf := ifT hf h
    refine q_aload_n C dX2_way_13 rfl 1 rfl ?_
    refine q_get C (uW uX2_in) 0 rfl rfl 1 (by decide) (ws_in xf_X2_19) rfl rfl dX2_way_14 ?_
    refine q_aload_n C dX2_way_17 rfl 1 rfl ?_
    refine q_get C (uW uX2_in) 0 rfl rfl 0 (by decide) (ws_in xf_X2_10) rfl rfl dX2_way_18 ?_
    obtain ⟨z2, h_z2, hf⟩ := bnd hf
    refine q_cVV (ws' := wXX cI cJ cN x0 p0 i0 n0 n1 n2 n3 n4 n5 n6 s0 s1 s2 s3 s4 s5 s6 rp ri pl V N z2) C (c_X1_readContacts l D cI cJ cN s0 s1 s2 s3 s4 s5 s6 n0 n1 n2 n3 n4 n5 n6 S N z2 h_z2) (mkV (fr := 3) (lo := 70) C xc_X1_readContacts xm_X2_156 xi_X1_readContacts xe_X1_readContacts xn_X1 hd_X1_readContacts ⟨Nat.le_of_ble_eq_true rfl, Nat.le_of_ble_eq_true rfl⟩) 0 rfl rfl [10, 11, 12, 13, 14, 15, 16, 3, 4, 5, 6, 7, 8, 9] rfl (by decide) rfl rfl rfl rfl (Nat.le_of_ble_eq_true rfl) dX2_way_21 ⟨Nat.le_of_ble_eq_true rfl, Nat.le_of_ble_eq_true rfl⟩ ?_
    refine q_aload_n C dX2_way_24 rfl 1 rfl ?_
    refine q_get C (uW uX2_in) 0 rfl rfl 1 (by decide) (ws_in xf_X2_19) rfl rfl dX2_way_25 ?_
    refine q_iload_n C dX2_way_28 rfl 3 rfl ?_
    obtain ⟨z3, h_z3, hf⟩ := bnd hf
    refine q_cVV (ws' := wXX cI cJ cN x0 p0 i0 n0 n1 n2 n3 n4 n5 n6 s0 s1 s2 s3 s4 s5 s6 rp ri pl V N z3) C (c_X1_findWaysTo l D cI cJ cN s0 s1 s2 s3 s4 s5 s6 z2 x2 z3 h_z3) (mkV (fr := 2) (lo := 46) C xc_X1_findWaysTo xm_X2_159 xi_X1_findWaysTo xe_X1_findWaysTo xn_X1 hd_X1_findWaysTo ⟨Nat.le_of_ble_eq_true rfl, Nat.le_of_ble_eq_true rfl⟩) 0 rfl rfl [10, 11, 12, 13, 14, 15, 16] rfl (by decide) rfl rfl rfl rfl (Nat.le_of_ble_eq_true rfl) dX2_way_29 ⟨Nat.le_of_ble_eq_true rfl, Nat.le_of_ble_eq_true rfl⟩ ?_
    refine q_aload_n C dX2_way_32 rfl 1 rfl ?_
    refine q_get C (uW uX2_in) 0 rfl rfl 1 (by decide) (ws_in xf_X2_19) rfl rfl dX2_way_33 ?_
    refine q_iload_n C dX2_way_36 rfl 2 rfl ?_
    obtain ⟨z4, h_z4, hf⟩ := bnd hf
    refine q_cVI (ws' := wXX cI cJ cN x0 p0 i0 n0 n1 n2 n3 n4 n5 n6 s0 s1 s2 s3 s4 s5 s6 rp ri pl V N z3) C (c_X1_wayFrom l D cI cJ cN s0 s1 s2 s3 s4 s5 s6 z3 x1 z4 h_z4) (mkV (fr := 0) (lo := 0) C xc_X1_wayFrom xm_X2_162 xi_X1_wayFrom xe_X1_wayFrom xn_X1 hd_X1_wayFrom ⟨Nat.le_of_ble_eq_true rfl, Nat.le_of_ble_eq_true rfl⟩) 0 rfl rfl [10, 11, 12, 13, 14, 15, 16] rfl (by decide) rfl rfl rfl rfl (Nat.le_of_ble_eq_true rfl) dX2_way_37 ⟨Nat.le_of_ble_eq_true rfl, Nat.le_of_ble_eq_true rfl⟩ ?_
    refine q_istore (lv' := [(4, .int z4), (3, .int z1), (0, .ref x0), (1, .int x1), (2, .int x2)]) C dX2_way_40 (by decide) rfl ?_
    refine q_iload C dX2_way_42 0 rfl ?_
    refine q_iconst (v := -1) C dX2_way_44 (by decide) ?_
    refine q_icmp_ne C 53 dX2_way_45 (by decide) (fun h => ?_) (fun h => ?_)
    · have hf := ifF hf h
      refine q_iload C dX2_way_53 0 rfl ?_
      have hf := Option.some.inj hf
      subst hf
      exact q_iret C (Nat.le_of_ble_eq_true rfl) (Nat.le_of_ble_eq_true rfl) rfl dX2_way_55
    · have hf := ifT hf h
      refine q_bipush (v := -9) C dX2_way_48 (by decide) ?_
      refine q_goto C 55 dX2_way_50 (by decide) ?_
      have hf := Option.some.inj hf
      subst hf
      exact q_iret C (Nat.le_of_ble_eq_true rfl) (Nat.le_of_ble_eq_true rfl) rfl dX2_way_55
  · have hf := ifF hf h
    refine q_iload_n C dX2_way_11 rfl 0 rfl ?_
    have hf := Option.some.inj hf
    subst hf
    exact q_iret C (Nat.le_of_ble_eq_true rfl) (Nat.le_of_ble_eq_true rfl) rfl dX2_way_12
set_option maxRecDepth 100000 in
set_option maxHeartbeats 4000000 in
theorem c_X2_paths (l : Launch) (D : va_G) (cI cJ cN : ClassId) (x0 p0 i0 n0 n1 n2 n3 n4 n5 n6 s0 s1 s2 s3 s4 s5 s6 : Nat) (rp ri : Nat → Option Nat) (pl : va_W)  (V : HS) (N : NS) (S : SS) (x1 : Int32) (x2 : Int32) (z : Int64 × SS) (hf : f_X2_paths V N S x1 x2 = some z) : ML l D cI cJ cN yX2_paths (WS yX2_paths cX2_paths 4 (some .long)) { frames := 4, cells := 0, slots := 0, locals := 92 } [.ref x0, .int x1, .int x2] (wXX cI cJ cN x0 p0 i0 n0 n1 n2 n3 n4 n5 n6 s0 s1 s2 s3 s4 s5 s6 rp ri pl V N S) z.1 (fun w => w = wXX cI cJ cN x0 p0 i0 n0 n1 n2 n3 n4 n5 n6 s0 s1 s2 s3 s4 s5 s6 rp ri pl V N z.2) := by
  rw [f_X2_paths] at hf
  refine q_startL (lv := [(0, .ref x0), (1, .int x1), (2, .int x2)]) (by decide +kernel) rfl (Nat.le_of_ble_eq_true rfl) ?_
  intro p e s m below meth c C hin
  refine q_aload_n C dX2_paths_0 rfl 0 rfl ?_
  refine q_iload_n C dX2_paths_1 rfl 1 rfl ?_
  refine q_iload_n C dX2_paths_2 rfl 2 rfl ?_
  obtain ⟨z1, h_z1, hf⟩ := bnd hf
  refine q_cVIw C (c_X2_faultOfPair l D cI cJ cN x0 p0 i0 n0 n1 n2 n3 n4 n5 n6 s0 s1 s2 s3 s4 s5 s6 rp ri pl V N S x1 x2 z1 h_z1) (mkV (fr := 3) (lo := 62) C xc_X2_faultOfPair xm_X2_72 xi_X2_faultOfPair xe_X2_faultOfPair xn_X2 hd_X2_faultOfPair ⟨Nat.le_of_ble_eq_true rfl, Nat.le_of_ble_eq_true rfl⟩) 0 rfl rfl rfl rfl (Nat.le_of_ble_eq_true rfl) dX2_paths_3 ⟨Nat.le_of_ble_eq_true rfl, Nat.le_of_ble_eq_true rfl⟩ (fun w1 hp1 => ?_)
  subst hp1
  refine q_istore_n (lv' := [(3, .int z1), (0, .ref x0), (1, .int x1), (2, .int x2)]) C dX2_paths_6 rfl (by decide) rfl ?_
  refine q_iload_n C dX2_paths_7 rfl 0 rfl ?_
  refine q_if_eq C 14 dX2_paths_8 (by decide) (fun h => ?_) (fun h => ?_)
  · have hf := ifT hf h
    refine q_aload_n C dX2_paths_14 rfl 1 rfl ?_
    refine q_get C (uW uX2_in) 0 rfl rfl 1 (by decide) (ws_in xf_X2_19) rfl rfl dX2_paths_15 ?_
    refine q_aload_n C dX2_paths_18 rfl 1 rfl ?_
    refine q_get C (uW uX2_in) 0 rfl rfl 0 (by decide) (ws_in xf_X2_10) rfl rfl dX2_paths_19 ?_
    obtain ⟨z2, h_z2, hf⟩ := bnd hf
    refine q_cVV (ws' := wXX cI cJ cN x0 p0 i0 n0 n1 n2 n3 n4 n5 n6 s0 s1 s2 s3 s4 s5 s6 rp ri pl V N z2) C (c_X1_readContacts l D cI cJ cN s0 s1 s2 s3 s4 s5 s6 n0 n1 n2 n3 n4 n5 n6 S N z2 h_z2) (mkV (fr := 3) (lo := 70) C xc_X1_readContacts xm_X2_156 xi_X1_readContacts xe_X1_readContacts xn_X1 hd_X1_readContacts ⟨Nat.le_of_ble_eq_true rfl, Nat.le_of_ble_eq_true rfl⟩) 0 rfl rfl [10, 11, 12, 13, 14, 15, 16, 3, 4, 5, 6, 7, 8, 9] rfl (by decide) rfl rfl rfl rfl (Nat.le_of_ble_eq_true rfl) dX2_paths_22 ⟨Nat.le_of_ble_eq_true rfl, Nat.le_of_ble_eq_true rfl⟩ ?_
    refine q_aload_n C dX2_paths_25 rfl 1 rfl ?_
    refine q_get C (uW uX2_in) 0 rfl rfl 1 (by decide) (ws_in xf_X2_19) rfl rfl dX2_paths_26 ?_
    refine q_iload_n C dX2_paths_29 rfl 3 rfl ?_
    obtain ⟨z3, h_z3, hf⟩ := bnd hf
    refine q_cVV (ws' := wXX cI cJ cN x0 p0 i0 n0 n1 n2 n3 n4 n5 n6 s0 s1 s2 s3 s4 s5 s6 rp ri pl V N z3) C (c_X1_findWaysTo l D cI cJ cN s0 s1 s2 s3 s4 s5 s6 z2 x2 z3 h_z3) (mkV (fr := 2) (lo := 46) C xc_X1_findWaysTo xm_X2_159 xi_X1_findWaysTo xe_X1_findWaysTo xn_X1 hd_X1_findWaysTo ⟨Nat.le_of_ble_eq_true rfl, Nat.le_of_ble_eq_true rfl⟩) 0 rfl rfl [10, 11, 12, 13, 14, 15, 16] rfl (by decide) rfl rfl rfl rfl (Nat.le_of_ble_eq_true rfl) dX2_paths_30 ⟨Nat.le_of_ble_eq_true rfl, Nat.le_of_ble_eq_true rfl⟩ ?_
    refine q_aload_n C dX2_paths_33 rfl 1 rfl ?_
    refine q_get C (uW uX2_in) 0 rfl rfl 1 (by decide) (ws_in xf_X2_19) rfl rfl dX2_paths_34 ?_
    obtain ⟨z4, h_z4, hf⟩ := bnd hf
    refine q_cVV (ws' := wXX cI cJ cN x0 p0 i0 n0 n1 n2 n3 n4 n5 n6 s0 s1 s2 s3 s4 s5 s6 rp ri pl V N z4) C (c_X1_countPaths l D cI cJ cN s0 s1 s2 s3 s4 s5 s6 z3 z4 h_z4) (mkV (fr := 2) (lo := 47) C xc_X1_countPaths xm_X2_165 xi_X1_countPaths xe_X1_countPaths xn_X1 hd_X1_countPaths ⟨Nat.le_of_ble_eq_true rfl, Nat.le_of_ble_eq_true rfl⟩) 0 rfl rfl [10, 11, 12, 13, 14, 15, 16] rfl (by decide) rfl rfl rfl rfl (Nat.le_of_ble_eq_true rfl) dX2_paths_37 ⟨Nat.le_of_ble_eq_true rfl, Nat.le_of_ble_eq_true rfl⟩ ?_
    refine q_aload_n C dX2_paths_40 rfl 1 rfl ?_
    refine q_get C (uW uX2_in) 0 rfl rfl 1 (by decide) (ws_in xf_X2_19) rfl rfl dX2_paths_41 ?_
    refine q_iload_n C dX2_paths_44 rfl 2 rfl ?_
    obtain ⟨z5, h_z5, hf⟩ := bnd hf
    refine q_cVL (ws' := wXX cI cJ cN x0 p0 i0 n0 n1 n2 n3 n4 n5 n6 s0 s1 s2 s3 s4 s5 s6 rp ri pl V N z4) C (c_X1_pathsFrom l D cI cJ cN s0 s1 s2 s3 s4 s5 s6 z4 x1 z5 h_z5) (mkV (fr := 1) (lo := 21) C xc_X1_pathsFrom xm_X2_168 xi_X1_pathsFrom xe_X1_pathsFrom xn_X1 hd_X1_pathsFrom ⟨Nat.le_of_ble_eq_true rfl, Nat.le_of_ble_eq_true rfl⟩) 0 rfl rfl [10, 11, 12, 13, 14, 15, 16] rfl (by decide) rfl rfl rfl rfl (Nat.le_of_ble_eq_true rfl) dX2_paths_45 ⟨Nat.le_of_ble_eq_true rfl, Nat.le_of_ble_eq_true rfl⟩ ?_
    have hf := Option.some.inj hf
    subst hf
    exact q_lret C (Nat.le_of_ble_eq_true rfl) (Nat.le_of_ble_eq_true rfl) rfl dX2_paths_48
  · have hf := ifF hf h
    refine q_iload_n C dX2_paths_11 rfl 0 rfl ?_
    refine q_i2l C dX2_paths_12 ?_
    have hf := Option.some.inj hf
    subst hf
    exact q_lret C (Nat.le_of_ble_eq_true rfl) (Nat.le_of_ble_eq_true rfl) rfl dX2_paths_13
set_option maxRecDepth 100000 in
set_option maxHeartbeats 4000000 in
theorem c_X2_measure (l : Launch) (D : va_G) (cI cJ cN : ClassId) (x0 p0 i0 n0 n1 n2 n3 n4 n5 n6 s0 s1 s2 s3 s4 s5 s6 : Nat) (rp ri : Nat → Option Nat) (pl : va_W)  (V : HS) (N : NS) (S : SS) (x1 : Int32) (z : Int32 × SS) (hf : f_X2_measure V N S x1 = some z) : MI l D cI cJ cN yX2_measure (WS yX2_measure cX2_measure 2 (some .int)) { frames := 6, cells := 0, slots := 0, locals := 132 } [.ref x0, .int x1] (wXX cI cJ cN x0 p0 i0 n0 n1 n2 n3 n4 n5 n6 s0 s1 s2 s3 s4 s5 s6 rp ri pl V N S) z.1 (fun w => w = wXX cI cJ cN x0 p0 i0 n0 n1 n2 n3 n4 n5 n6 s0 s1 s2 s3 s4 s5 s6 rp ri pl V N z.2) := by
  rw [f_X2_measure] at hf
  refine q_startI (lv := [(0, .ref x0), (1, .int x1)]) (by decide +kernel) rfl (Nat.le_of_ble_eq_true rfl) ?_
  intro p e s m below meth c C hin
  refine q_iload_n C dX2_measure_0 rfl 1 rfl ?_
  refine q_if_lt C 10 dX2_measure_1 (by decide) (fun h => ?_) (fun h => ?_)
  · have hf := ifT hf h
    refine q_iconst (v := -1) C dX2_measure_10 (by decide) ?_
    have hf := Option.some.inj hf
    subst hf
    exact q_iret C (Nat.le_of_ble_eq_true rfl) (Nat.le_of_ble_eq_true rfl) rfl dX2_measure_11
  · have hf := ifF hf h
    refine q_iload_n C dX2_measure_4 rfl 1 rfl ?_
    refine q_bipush (v := 8) C dX2_measure_5 (by decide) ?_
    refine q_icmp_lt C 12 dX2_measure_7 (by decide) (fun h => ?_) (fun h => ?_)
    · have hf := ifT hf h
      refine q_aload_n C dX2_measure_12 rfl 0 rfl ?_
      refine q_get C (uW uX2_in) 0 rfl rfl 1 (by decide) (ws_in xf_X2_19) rfl rfl dX2_measure_13 ?_
      refine q_aload_n C dX2_measure_16 rfl 0 rfl ?_
      refine q_get C (uW uX2_in) 0 rfl rfl 0 (by decide) (ws_in xf_X2_10) rfl rfl dX2_measure_17 ?_
      obtain ⟨z1, h_z1, hf⟩ := bnd hf
      refine q_cVV (ws' := wXX cI cJ cN x0 p0 i0 n0 n1 n2 n3 n4 n5 n6 s0 s1 s2 s3 s4 s5 s6 rp ri pl V N z1) C (c_X1_takeMeasures l D cI cJ cN s0 s1 s2 s3 s4 s5 s6 n0 n1 n2 n3 n4 n5 n6 S N z1 h_z1) (mkV (fr := 5) (lo := 110) C xc_X1_takeMeasures xm_X2_171 xi_X1_takeMeasures xe_X1_takeMeasures xn_X1 hd_X1_takeMeasures ⟨Nat.le_of_ble_eq_true rfl, Nat.le_of_ble_eq_true rfl⟩) 0 rfl rfl [10, 11, 12, 13, 14, 15, 16, 3, 4, 5, 6, 7, 8, 9] rfl (by decide) rfl rfl rfl rfl (Nat.le_of_ble_eq_true rfl) dX2_measure_20 ⟨Nat.le_of_ble_eq_true rfl, Nat.le_of_ble_eq_true rfl⟩ ?_
      refine q_aload_n C dX2_measure_23 rfl 0 rfl ?_
      refine q_get C (uW uX2_in) 0 rfl rfl 1 (by decide) (ws_in xf_X2_19) rfl rfl dX2_measure_24 ?_
      refine q_iload_n C dX2_measure_27 rfl 1 rfl ?_
      obtain ⟨z2, h_z2, hf⟩ := bnd hf
      refine q_cVI (ws' := wXX cI cJ cN x0 p0 i0 n0 n1 n2 n3 n4 n5 n6 s0 s1 s2 s3 s4 s5 s6 rp ri pl V N z1) C (c_X1_measured l D cI cJ cN s0 s1 s2 s3 s4 s5 s6 z1 x1 z2 h_z2) (mkV (fr := 1) (lo := 21) C xc_X1_measured xm_X2_174 xi_X1_measured xe_X1_measured xn_X1 hd_X1_measured ⟨Nat.le_of_ble_eq_true rfl, Nat.le_of_ble_eq_true rfl⟩) 0 rfl rfl [10, 11, 12, 13, 14, 15, 16] rfl (by decide) rfl rfl rfl rfl (Nat.le_of_ble_eq_true rfl) dX2_measure_28 ⟨Nat.le_of_ble_eq_true rfl, Nat.le_of_ble_eq_true rfl⟩ ?_
      have hf := Option.some.inj hf
      subst hf
      exact q_iret C (Nat.le_of_ble_eq_true rfl) (Nat.le_of_ble_eq_true rfl) rfl dX2_measure_31
    · have hf := ifF hf h
      refine q_iconst (v := -1) C dX2_measure_10 (by decide) ?_
      have hf := Option.some.inj hf
      subst hf
      exact q_iret C (Nat.le_of_ble_eq_true rfl) (Nat.le_of_ble_eq_true rfl) rfl dX2_measure_11
set_option maxRecDepth 100000 in
set_option maxHeartbeats 4000000 in
theorem c_X2_mean (l : Launch) (D : va_G) (cI cJ cN : ClassId) (x0 p0 i0 n0 n1 n2 n3 n4 n5 n6 s0 s1 s2 s3 s4 s5 s6 : Nat) (rp ri : Nat → Option Nat) (pl : va_W)  (V : HS) (N : NS) (S : SS)  (z : UInt32 × SS) (hf : f_X2_mean V N S = some z) : MF l D cI cJ cN yX2_mean (WS yX2_mean cX2_mean 2 (some .float)) { frames := 6, cells := 0, slots := 0, locals := 132 } [.ref x0] (wXX cI cJ cN x0 p0 i0 n0 n1 n2 n3 n4 n5 n6 s0 s1 s2 s3 s4 s5 s6 rp ri pl V N S) z.1 (fun w => w = wXX cI cJ cN x0 p0 i0 n0 n1 n2 n3 n4 n5 n6 s0 s1 s2 s3 s4 s5 s6 rp ri pl V N z.2) := by
  rw [f_X2_mean] at hf
  refine q_startF (lv := [(0, .ref x0)]) (by decide +kernel) rfl (Nat.le_of_ble_eq_true rfl) ?_
  intro p e s m below meth c C hin
  refine q_aload_n C dX2_mean_0 rfl 0 rfl ?_
  refine q_get C (uW uX2_in) 0 rfl rfl 1 (by decide) (ws_in xf_X2_19) rfl rfl dX2_mean_1 ?_
  refine q_aload_n C dX2_mean_4 rfl 0 rfl ?_
  refine q_get C (uW uX2_in) 0 rfl rfl 0 (by decide) (ws_in xf_X2_10) rfl rfl dX2_mean_5 ?_
  obtain ⟨z1, h_z1, hf⟩ := bnd hf
  refine q_cVV (ws' := wXX cI cJ cN x0 p0 i0 n0 n1 n2 n3 n4 n5 n6 s0 s1 s2 s3 s4 s5 s6 rp ri pl V N z1) C (c_X1_takeMeasures l D cI cJ cN s0 s1 s2 s3 s4 s5 s6 n0 n1 n2 n3 n4 n5 n6 S N z1 h_z1) (mkV (fr := 5) (lo := 110) C xc_X1_takeMeasures xm_X2_171 xi_X1_takeMeasures xe_X1_takeMeasures xn_X1 hd_X1_takeMeasures ⟨Nat.le_of_ble_eq_true rfl, Nat.le_of_ble_eq_true rfl⟩) 0 rfl rfl [10, 11, 12, 13, 14, 15, 16, 3, 4, 5, 6, 7, 8, 9] rfl (by decide) rfl rfl rfl rfl (Nat.le_of_ble_eq_true rfl) dX2_mean_8 ⟨Nat.le_of_ble_eq_true rfl, Nat.le_of_ble_eq_true rfl⟩ ?_
  refine q_aload_n C dX2_mean_11 rfl 0 rfl ?_
  refine q_get C (uW uX2_in) 0 rfl rfl 1 (by decide) (ws_in xf_X2_19) rfl rfl dX2_mean_12 ?_
  refine q_iconst (v := 4) C dX2_mean_15 (by decide) ?_
  obtain ⟨z2, h_z2, hf⟩ := bnd hf
  refine q_cVI (ws' := wXX cI cJ cN x0 p0 i0 n0 n1 n2 n3 n4 n5 n6 s0 s1 s2 s3 s4 s5 s6 rp ri pl V N z1) C (c_X1_measured l D cI cJ cN s0 s1 s2 s3 s4 s5 s6 z1 (4 : Int32) z2 h_z2) (mkV (fr := 1) (lo := 21) C xc_X1_measured xm_X2_174 xi_X1_measured xe_X1_measured xn_X1 hd_X1_measured ⟨Nat.le_of_ble_eq_true rfl, Nat.le_of_ble_eq_true rfl⟩) 0 rfl rfl [10, 11, 12, 13, 14, 15, 16] rfl (by decide) rfl rfl rfl rfl (Nat.le_of_ble_eq_true rfl) dX2_mean_16 ⟨Nat.le_of_ble_eq_true rfl, Nat.le_of_ble_eq_true rfl⟩ ?_
  refine q_istore_n (lv' := [(1, .int z2), (0, .ref x0)]) C dX2_mean_19 rfl (by decide) rfl ?_
  refine q_iload_n C dX2_mean_20 rfl 0 rfl ?_
  refine q_iconst (v := 1) C dX2_mean_21 (by decide) ?_
  refine q_icmp_ge C 27 dX2_mean_22 (by decide) (fun h => ?_) (fun h => ?_)
  · have hf := ifT hf h
    refine q_aload_n C dX2_mean_27 rfl 1 rfl ?_
    refine q_get C (uW uX2_in) 0 rfl rfl 1 (by decide) (ws_in xf_X2_19) rfl rfl dX2_mean_28 ?_
    refine q_bipush (v := 6) C dX2_mean_31 (by decide) ?_
    obtain ⟨z3, h_z3, hf⟩ := bnd hf
    refine q_cVI (ws' := wXX cI cJ cN x0 p0 i0 n0 n1 n2 n3 n4 n5 n6 s0 s1 s2 s3 s4 s5 s6 rp ri pl V N z1) C (c_X1_measured l D cI cJ cN s0 s1 s2 s3 s4 s5 s6 z1 (6 : Int32) z3 h_z3) (mkV (fr := 1) (lo := 21) C xc_X1_measured xm_X2_174 xi_X1_measured xe_X1_measured xn_X1 hd_X1_measured ⟨Nat.le_of_ble_eq_true rfl, Nat.le_of_ble_eq_true rfl⟩) 0 rfl rfl [10, 11, 12, 13, 14, 15, 16] rfl (by decide) rfl rfl rfl rfl (Nat.le_of_ble_eq_true rfl) dX2_mean_33 ⟨Nat.le_of_ble_eq_true rfl, Nat.le_of_ble_eq_true rfl⟩ ?_
    refine q_i2f C dX2_mean_36 ?_
    refine q_iload_n C dX2_mean_37 rfl 0 rfl ?_
    refine q_i2f C dX2_mean_38 ?_
    obtain ⟨hg, hf⟩ := gd_some hf
    refine q_fdiv C dX2_mean_39 (nfB_ok hg) ?_
    have hf := Option.some.inj hf
    subst hf
    exact q_fret C (Nat.le_of_ble_eq_true rfl) (Nat.le_of_ble_eq_true rfl) rfl dX2_mean_40
  · have hf := ifF hf h
    refine q_fconst0 C dX2_mean_25 ?_
    have hf := Option.some.inj hf
    subst hf
    exact q_fret C (Nat.le_of_ble_eq_true rfl) (Nat.le_of_ble_eq_true rfl) rfl dX2_mean_26
