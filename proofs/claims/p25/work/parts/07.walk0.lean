set_option maxRecDepth 100000 in
set_option maxHeartbeats 4000000 in
theorem c_X0_nodes (l : Launch) (D : va_G) (cI cJ cN : ClassId) (n0 n1 n2 n3 n4 n5 n6 : Nat)  (N : NS)  (z : Int32) (hf : f_X0_nodes N = some z) : MI l D cI cJ cN yX0_nodes (WS yX0_nodes cX0_nodes 1 (some .int)) { frames := 0, cells := 0, slots := 0, locals := 0 } [.ref n0] (wNet cI n0 n1 n2 n3 n4 n5 n6 N) z (fun w => w = wNet cI n0 n1 n2 n3 n4 n5 n6 N) := by
  rw [f_X0_nodes] at hf
  refine q_startI (lv := [(0, .ref n0)]) (by decide +kernel) rfl (Nat.le_of_ble_eq_true rfl) ?_
  intro p e s m below meth c C hin
  refine q_aload_n C dX0_nodes_0 rfl 0 rfl ?_
  refine q_get C (uW uX0_in) 0 rfl rfl 0 (by decide) (ws_in xf_X0_37) rfl rfl dX0_nodes_1 ?_
  refine q_aload_n C dX0_nodes_4 rfl 0 rfl ?_
  refine q_get C (uW uX0_in) 0 rfl rfl 1 (by decide) (ws_in xf_X0_41) rfl rfl dX0_nodes_5 ?_
  refine q_imul C dX0_nodes_8 ?_
  have hf := Option.some.inj hf
  subst hf
  exact q_iret C (Nat.le_of_ble_eq_true rfl) (Nat.le_of_ble_eq_true rfl) rfl dX0_nodes_9
set_option maxRecDepth 100000 in
set_option maxHeartbeats 4000000 in
theorem c_X2_only (l : Launch) (D : va_G) (cI cJ cN : ClassId)   (x0 : Int32) (z : Int64) (hf : f_X2_only x0 = some z) : ML l D cI cJ cN yX2_only (WS yX2_only cX2_only 1 (some .long)) { frames := 0, cells := 0, slots := 0, locals := 0 } [.int x0] ([]) z (fun w => w = []) := by
  rw [f_X2_only] at hf
  refine q_startL (lv := [(0, .int x0)]) (by decide +kernel) rfl (Nat.le_of_ble_eq_true rfl) ?_
  intro p e s m below meth c C hin
  refine q_lconst (v := 1) C dX2_only_0 (by decide) ?_
  refine q_iload_n C dX2_only_1 rfl 0 rfl ?_
  refine q_lshl C dX2_only_2 ?_
  have hf := Option.some.inj hf
  subst hf
  exact q_lret C (Nat.le_of_ble_eq_true rfl) (Nat.le_of_ble_eq_true rfl) rfl dX2_only_3
set_option maxRecDepth 100000 in
set_option maxHeartbeats 4000000 in
theorem c_X2_putAt (l : Launch) (D : va_G) (cI cJ cN : ClassId) (a0 : Nat)  (k0 : Nat) (f0 : Nat → Int32) (x1 : Int32) (x2 : Int32) (z : (Nat → Int32)) (hf : f_X2_putAt k0 f0 x1 x2 = some z) : MV l D cI cJ cN yX2_putAt (WS yX2_putAt cX2_putAt 3 none) { frames := 0, cells := 0, slots := 0, locals := 0 } [.ref a0, .int x1, .int x2] ([(a0, .inl (cI, k0, .inl f0))]) (fun w => w = [(a0, .inl (cI, k0, .inl z))]) := by
  rw [f_X2_putAt] at hf
  refine q_startV (lv := [(0, .ref a0), (1, .int x1), (2, .int x2)]) (by decide +kernel) rfl (Nat.le_of_ble_eq_true rfl) ?_
  intro p e s m below meth c C hin
  refine q_iload_n C dX2_putAt_0 rfl 1 rfl ?_
  refine q_if_lt C 14 dX2_putAt_1 (by decide) (fun h => ?_) (fun h => ?_)
  · have hf := ifT hf h
    have hf := Option.some.inj hf
    subst hf
    exact q_vret C (Nat.le_of_ble_eq_true rfl) (Nat.le_of_ble_eq_true rfl) rfl dX2_putAt_14
  · have hf := ifF hf h
    refine q_iload_n C dX2_putAt_4 rfl 1 rfl ?_
    refine q_aload_n C dX2_putAt_5 rfl 0 rfl ?_
    refine q_alenI C 0 rfl dX2_putAt_6 ?_
    refine q_icmp_ge C 14 dX2_putAt_7 (by decide) (fun h => ?_) (fun h => ?_)
    · have hf := ifT hf h
      have hf := Option.some.inj hf
      subst hf
      exact q_vret C (Nat.le_of_ble_eq_true rfl) (Nat.le_of_ble_eq_true rfl) rfl dX2_putAt_14
    · have hf := ifF hf h
      refine q_aload_n C dX2_putAt_10 rfl 0 rfl ?_
      refine q_iload_n C dX2_putAt_11 rfl 1 rfl ?_
      refine q_iload_n C dX2_putAt_12 rfl 2 rfl ?_
      obtain ⟨hg, hf⟩ := gd_some hf
      refine q_iast (ws' := [(a0, .inl (cI, k0, .inl (upd f0 x1.toNatClampNeg x2)))]) C 0 rfl hg dX2_putAt_13 rfl ?_
      have hf := Option.some.inj hf
      subst hf
      exact q_vret C (Nat.le_of_ble_eq_true rfl) (Nat.le_of_ble_eq_true rfl) rfl dX2_putAt_14
set_option maxRecDepth 100000 in
set_option maxHeartbeats 4000000 in
theorem c_X0_settle (l : Launch) (D : va_G) (cI cJ cN : ClassId) (n0 n1 n2 n3 n4 n5 n6 : Nat)  (N : NS) (x1 : Int32) (x2 : Int32) (x3 : Int32) (z : NS) (hf : f_X0_settle N x1 x2 x3 = some z) : MV l D cI cJ cN yX0_settle (WS yX0_settle cX0_settle 4 none) { frames := 1, cells := 0, slots := 0, locals := 22 } [.ref n0, .int x1, .int x2, .int x3] (wNet cI n0 n1 n2 n3 n4 n5 n6 N) (fun w => w = wNet cI n0 n1 n2 n3 n4 n5 n6 z) := by
  rw [f_X0_settle] at hf
  refine q_startV (lv := [(0, .ref n0), (1, .int x1), (2, .int x2), (3, .int x3)]) (by decide +kernel) rfl (Nat.le_of_ble_eq_true rfl) ?_
  intro p e s m below meth c C hin
  refine q_aload_n C dX0_settle_0 rfl 0 rfl ?_
  refine q_get C (uW uX0_in) 0 rfl rfl 3 (by decide) (ws_in xf_X0_9) rfl rfl dX0_settle_1 ?_
  refine q_iload_n C dX0_settle_4 rfl 1 rfl ?_
  refine q_iload_n C dX0_settle_5 rfl 2 rfl ?_
  obtain ⟨z1, h_z1, hf⟩ := bnd hf
  refine q_cNV (ws' := wNet cI n0 n1 n2 n3 n4 n5 n6 (N.1, N.2.1, N.2.2.1, z1, N.2.2.2.2.1, N.2.2.2.2.2.1, N.2.2.2.2.2.2.1, N.2.2.2.2.2.2.2.1, N.2.2.2.2.2.2.2.2)) C (c_X2_putAt l D cI cJ cN n1 49 N.2.2.2.1 x1 x2 z1 h_z1) (mkN (fr := 0) (lo := 0) C 1 rfl xc_X2_putAt xs_X2_putAt xn_X2 hd_X2_putAt ⟨Nat.le_of_ble_eq_true rfl, Nat.le_of_ble_eq_true rfl⟩) [1] rfl (by decide) rfl rfl rfl rfl (Nat.le_of_ble_eq_true rfl) dX0_settle_6 ⟨Nat.le_of_ble_eq_true rfl, Nat.le_of_ble_eq_true rfl⟩ ?_
  refine q_aload_n C dX0_settle_9 rfl 0 rfl ?_
  refine q_get C (uW uX0_in) 0 rfl rfl 4 (by decide) (ws_in xf_X0_15) rfl rfl dX0_settle_10 ?_
  refine q_iload_n C dX0_settle_13 rfl 1 rfl ?_
  refine q_iload_n C dX0_settle_14 rfl 3 rfl ?_
  obtain ⟨z2, h_z2, hf⟩ := bnd hf
  refine q_cNV (ws' := wNet cI n0 n1 n2 n3 n4 n5 n6 (N.1, N.2.1, N.2.2.1, z1, z2, N.2.2.2.2.2.1, N.2.2.2.2.2.2.1, N.2.2.2.2.2.2.2.1, N.2.2.2.2.2.2.2.2)) C (c_X2_putAt l D cI cJ cN n2 49 N.2.2.2.2.1 x1 x3 z2 h_z2) (mkN (fr := 0) (lo := 0) C 1 rfl xc_X2_putAt xs_X2_putAt xn_X2 hd_X2_putAt ⟨Nat.le_of_ble_eq_true rfl, Nat.le_of_ble_eq_true rfl⟩) [2] rfl (by decide) rfl rfl rfl rfl (Nat.le_of_ble_eq_true rfl) dX0_settle_15 ⟨Nat.le_of_ble_eq_true rfl, Nat.le_of_ble_eq_true rfl⟩ ?_
  refine q_aload_n C dX0_settle_18 rfl 0 rfl ?_
  refine q_get C (uW uX0_in) 0 rfl rfl 5 (by decide) (ws_in xf_X0_18) rfl rfl dX0_settle_19 ?_
  refine q_iload_n C dX0_settle_22 rfl 3 rfl ?_
  refine q_aload_n C dX0_settle_23 rfl 0 rfl ?_
  refine q_get C (uW uX0_in) 0 rfl rfl 0 (by decide) (ws_in xf_X0_37) rfl rfl dX0_settle_24 ?_
  refine q_imul C dX0_settle_27 ?_
  refine q_iload_n C dX0_settle_28 rfl 2 rfl ?_
  refine q_iadd C dX0_settle_29 ?_
  refine q_iload_n C dX0_settle_30 rfl 1 rfl ?_
  obtain ⟨z3, h_z3, hf⟩ := bnd hf
  refine q_cNV (ws' := wNet cI n0 n1 n2 n3 n4 n5 n6 (N.1, N.2.1, N.2.2.1, z1, z2, z3, N.2.2.2.2.2.2.1, N.2.2.2.2.2.2.2.1, N.2.2.2.2.2.2.2.2)) C (c_X2_putAt l D cI cJ cN n3 49 N.2.2.2.2.2.1 ((x3 * N.1) + x2) x1 z3 h_z3) (mkN (fr := 0) (lo := 0) C 1 rfl xc_X2_putAt xs_X2_putAt xn_X2 hd_X2_putAt ⟨Nat.le_of_ble_eq_true rfl, Nat.le_of_ble_eq_true rfl⟩) [3] rfl (by decide) rfl rfl rfl rfl (Nat.le_of_ble_eq_true rfl) dX0_settle_31 ⟨Nat.le_of_ble_eq_true rfl, Nat.le_of_ble_eq_true rfl⟩ ?_
  have hf := Option.some.inj hf
  subst hf
  exact q_vret C (Nat.le_of_ble_eq_true rfl) (Nat.le_of_ble_eq_true rfl) rfl dX0_settle_34
set_option maxRecDepth 100000 in
set_option maxHeartbeats 4000000 in
theorem l_X0_layOut_75 {p : Program} {l : Launch} {e : Env} {s : State} {m : MethodId} {args : Array Value} {below : List Frame} {meth : Method} {c : Code} {D : va_G} {cI cJ cN : ClassId} {W0 : va_W} {n0 n1 n2 n3 n4 n5 n6 : Nat} {z : NS} (C : CX p l s m args meth c cX0_layOut 5 yX0_layOut.cls (WS yX0_layOut cX0_layOut 5 none) none D cI cJ cN (va_A W0 s.heap.size)) : ∀ (fu : Nat) (N : NS) (x3 : Int32), g_X0_layOut_75 fu N x3 = some z → WW p l e { frames := 2, cells := 0, slots := 0, locals := 45 } s m args below meth c D 5 (va_A W0 s.heap.size) 0 0 (QV below args s D W0 { frames := 2, cells := 0, slots := 0, locals := 45 } (fun w => w = wNet cI n0 n1 n2 n3 n4 n5 n6 z)) 75 [(0, .ref n0), (3, .int x3)] [] (wNet cI n0 n1 n2 n3 n4 n5 n6 N) := by
  intro fu
  induction fu with
  | zero =>
    intro N x3 hf
    rw [g_X0_layOut_75] at hf
    cases hf
  | succ fu ih =>
    intro N x3 hf
    rw [g_X0_layOut_75] at hf
    refine q_iload_n C dX0_layOut_75 rfl 1 rfl ?_
    refine q_aload_n C dX0_layOut_76 rfl 0 rfl ?_
    refine q_get C (uW uX0_in) 0 rfl rfl 6 (by decide) (ws_in xf_X0_21) rfl rfl dX0_layOut_77 ?_
    refine q_alenI C 4 rfl dX0_layOut_80 ?_
    refine q_icmp_ge C 97 dX0_layOut_81 (by decide) (fun h => ?_) (fun h => ?_)
    · have hf := ifT hf h
      have hf := Option.some.inj hf
      subst hf
      exact q_vret C (Nat.le_of_ble_eq_true rfl) (Nat.le_of_ble_eq_true rfl) rfl dX0_layOut_97
    · have hf := ifF hf h
      refine q_aload_n C dX0_layOut_84 rfl 0 rfl ?_
      refine q_get C (uW uX0_in) 0 rfl rfl 6 (by decide) (ws_in xf_X0_21) rfl rfl dX0_layOut_85 ?_
      refine q_iload_n C dX0_layOut_88 rfl 1 rfl ?_
      refine q_iconst (v := 0) C dX0_layOut_89 (by decide) ?_
      obtain ⟨hg, hf⟩ := gd_some hf
      refine q_iast (ws' := wNet cI n0 n1 n2 n3 n4 n5 n6 (N.1, N.2.1, N.2.2.1, N.2.2.2.1, N.2.2.2.2.1, N.2.2.2.2.2.1, (upd N.2.2.2.2.2.2.1 x3.toNatClampNeg (0 : Int32)), N.2.2.2.2.2.2.2.1, N.2.2.2.2.2.2.2.2)) C 4 rfl hg dX0_layOut_90 rfl ?_
      refine q_iinc (v := (x3 + (1 : Int32))) (lv' := [(3, .int (x3 + (1 : Int32))), (0, .ref n0)]) C dX0_layOut_91 1 rfl rfl (by decide) rfl ?_
      refine q_goto C 75 dX0_layOut_94 (by decide) ?_
      refine q_sub (lv' := [(0, .ref n0), (3, .int (x3 + (1 : Int32)))]) [1, 0] rfl ?_
      exact ih (N.1, N.2.1, N.2.2.1, N.2.2.2.1, N.2.2.2.2.1, N.2.2.2.2.2.1, (upd N.2.2.2.2.2.2.1 x3.toNatClampNeg (0 : Int32)), N.2.2.2.2.2.2.2.1, N.2.2.2.2.2.2.2.2) (x3 + (1 : Int32)) hf
set_option maxRecDepth 100000 in
set_option maxHeartbeats 4000000 in
theorem l_X0_layOut_36 {p : Program} {l : Launch} {e : Env} {s : State} {m : MethodId} {args : Array Value} {below : List Frame} {meth : Method} {c : Code} {D : va_G} {cI cJ cN : ClassId} {W0 : va_W} {n0 n1 n2 n3 n4 n5 n6 : Nat} {z : NS} (C : CX p l s m args meth c cX0_layOut 5 yX0_layOut.cls (WS yX0_layOut cX0_layOut 5 none) none D cI cJ cN (va_A W0 s.heap.size)) {K25 : NS → Int32 → Option (NS)} (hK25 : ∀ (N : NS) (x3 : Int32), K25 N x3 = some z → WW p l e { frames := 2, cells := 0, slots := 0, locals := 45 } s m args below meth c D 5 (va_A W0 s.heap.size) 0 0 (QV below args s D W0 { frames := 2, cells := 0, slots := 0, locals := 45 } (fun w => w = wNet cI n0 n1 n2 n3 n4 n5 n6 z)) 25 [(0, .ref n0), (3, .int x3)] [] (wNet cI n0 n1 n2 n3 n4 n5 n6 N)) : ∀ (fu : Nat) (N : NS) (x3 : Int32) (x4 : Int32), g_X0_layOut_36 K25 fu N x3 x4 = some z → WW p l e { frames := 2, cells := 0, slots := 0, locals := 45 } s m args below meth c D 5 (va_A W0 s.heap.size) 0 0 (QV below args s D W0 { frames := 2, cells := 0, slots := 0, locals := 45 } (fun w => w = wNet cI n0 n1 n2 n3 n4 n5 n6 z)) 36 [(0, .ref n0), (3, .int x3), (4, .int x4)] [] (wNet cI n0 n1 n2 n3 n4 n5 n6 N) := by
  intro fu
  induction fu with
  | zero =>
    intro N x3 x4 hf
    rw [g_X0_layOut_36] at hf
    cases hf
  | succ fu ih =>
    intro N x3 x4 hf
    rw [g_X0_layOut_36] at hf
    refine q_iload C dX0_layOut_36 2 rfl ?_
    refine q_aload_n C dX0_layOut_38 rfl 0 rfl ?_
    refine q_get C (uW uX0_in) 0 rfl rfl 0 (by decide) (ws_in xf_X0_37) rfl rfl dX0_layOut_39 ?_
    refine q_icmp_ge C 67 dX0_layOut_42 (by decide) (fun h => ?_) (fun h => ?_)
    · have hf := ifT hf h
      refine q_iinc (v := (x3 + (1 : Int32))) (lv' := [(3, .int (x3 + (1 : Int32))), (0, .ref n0), (4, .int x4)]) C dX0_layOut_67 1 rfl rfl (by decide) rfl ?_
      refine q_goto C 25 dX0_layOut_70 (by decide) ?_
      refine q_sub (lv' := [(0, .ref n0), (3, .int (x3 + (1 : Int32)))]) [1, 0] rfl ?_
      exact hK25 N (x3 + (1 : Int32)) hf
    · have hf := ifF hf h
      refine q_aload_n C dX0_layOut_45 rfl 0 rfl ?_
      refine q_iload_n C dX0_layOut_46 rfl 1 rfl ?_
      refine q_aload_n C dX0_layOut_47 rfl 0 rfl ?_
      refine q_get C (uW uX0_in) 0 rfl rfl 0 (by decide) (ws_in xf_X0_37) rfl rfl dX0_layOut_48 ?_
      refine q_imul C dX0_layOut_51 ?_
      refine q_iload C dX0_layOut_52 2 rfl ?_
      refine q_iadd C dX0_layOut_54 ?_
      refine q_iload C dX0_layOut_55 2 rfl ?_
      refine q_iload_n C dX0_layOut_57 rfl 1 rfl ?_
      obtain ⟨z1, h_z1, hf⟩ := bnd hf
      refine q_cVVw C (c_X0_settle l D cI cJ cN n0 n1 n2 n3 n4 n5 n6 N ((x3 * N.1) + x4) x4 x3 z1 h_z1) (mkV (fr := 1) (lo := 22) C xc_X0_settle xm_X0_56 xi_X0_settle xe_X0_settle xn_X0 hd_X0_settle ⟨Nat.le_of_ble_eq_true rfl, Nat.le_of_ble_eq_true rfl⟩) 0 rfl rfl rfl rfl (Nat.le_of_ble_eq_true rfl) dX0_layOut_58 ⟨Nat.le_of_ble_eq_true rfl, Nat.le_of_ble_eq_true rfl⟩ (fun w1 hp1 => ?_)
      subst hp1
      refine q_iinc (v := (x4 + (1 : Int32))) (lv' := [(4, .int (x4 + (1 : Int32))), (0, .ref n0), (3, .int x3)]) C dX0_layOut_61 2 rfl rfl (by decide) rfl ?_
      refine q_goto C 36 dX0_layOut_64 (by decide) ?_
      refine q_sub (lv' := [(0, .ref n0), (3, .int x3), (4, .int (x4 + (1 : Int32)))]) [1, 2, 0] rfl ?_
      exact ih z1 x3 (x4 + (1 : Int32)) hf
set_option maxRecDepth 100000 in
set_option maxHeartbeats 4000000 in
theorem l_X0_layOut_25 {p : Program} {l : Launch} {e : Env} {s : State} {m : MethodId} {args : Array Value} {below : List Frame} {meth : Method} {c : Code} {D : va_G} {cI cJ cN : ClassId} {W0 : va_W} {n0 n1 n2 n3 n4 n5 n6 : Nat} {z : NS} (C : CX p l s m args meth c cX0_layOut 5 yX0_layOut.cls (WS yX0_layOut cX0_layOut 5 none) none D cI cJ cN (va_A W0 s.heap.size)) : ∀ (fu : Nat) (N : NS) (x3 : Int32), g_X0_layOut_25 fu N x3 = some z → WW p l e { frames := 2, cells := 0, slots := 0, locals := 45 } s m args below meth c D 5 (va_A W0 s.heap.size) 0 0 (QV below args s D W0 { frames := 2, cells := 0, slots := 0, locals := 45 } (fun w => w = wNet cI n0 n1 n2 n3 n4 n5 n6 z)) 25 [(0, .ref n0), (3, .int x3)] [] (wNet cI n0 n1 n2 n3 n4 n5 n6 N) := by
  intro fu
  induction fu with
  | zero =>
    intro N x3 hf
    rw [g_X0_layOut_25] at hf
    cases hf
  | succ fu ih =>
    intro N x3 hf
    rw [g_X0_layOut_25] at hf
    refine q_iload_n C dX0_layOut_25 rfl 1 rfl ?_
    refine q_aload_n C dX0_layOut_26 rfl 0 rfl ?_
    refine q_get C (uW uX0_in) 0 rfl rfl 1 (by decide) (ws_in xf_X0_41) rfl rfl dX0_layOut_27 ?_
    refine q_icmp_ge C 73 dX0_layOut_30 (by decide) (fun h => ?_) (fun h => ?_)
    · have hf := ifT hf h
      refine q_iconst (v := 0) C dX0_layOut_73 (by decide) ?_
      refine q_istore_n (lv' := [(3, .int (0 : Int32)), (0, .ref n0)]) C dX0_layOut_74 rfl (by decide) rfl ?_
      refine q_sub (lv' := [(0, .ref n0), (3, .int (0 : Int32))]) [1, 0] rfl ?_
      exact l_X0_layOut_75 C FU N (0 : Int32) hf
    · have hf := ifF hf h
      refine q_iconst (v := 0) C dX0_layOut_33 (by decide) ?_
      refine q_istore (lv' := [(4, .int (0 : Int32)), (0, .ref n0), (3, .int x3)]) C dX0_layOut_34 (by decide) rfl ?_
      refine q_sub (lv' := [(0, .ref n0), (3, .int x3), (4, .int (0 : Int32))]) [1, 2, 0] rfl ?_
      exact l_X0_layOut_36 C ih FU N x3 (0 : Int32) hf
set_option maxRecDepth 100000 in
set_option maxHeartbeats 4000000 in
theorem c_X0_layOut (l : Launch) (D : va_G) (cI cJ cN : ClassId) (n0 n1 n2 n3 n4 n5 n6 : Nat)  (N : NS) (x1 : Int32) (x2 : Int32) (z : NS) (hf : f_X0_layOut N x1 x2 = some z) : MV l D cI cJ cN yX0_layOut (WS yX0_layOut cX0_layOut 5 none) { frames := 2, cells := 0, slots := 0, locals := 45 } [.ref n0, .int x1, .int x2] (wNet cI n0 n1 n2 n3 n4 n5 n6 N) (fun w => w = wNet cI n0 n1 n2 n3 n4 n5 n6 z) := by
  rw [f_X0_layOut] at hf
  refine q_startV (lv := [(0, .ref n0), (1, .int x1), (2, .int x2)]) (by decide +kernel) rfl (Nat.le_of_ble_eq_true rfl) ?_
  intro p e s m below meth c C hin
  refine q_aload_n C dX0_layOut_0 rfl 0 rfl ?_
  refine q_iload_n C dX0_layOut_1 rfl 1 rfl ?_
  refine q_put (ws' := wNet cI n0 n1 n2 n3 n4 n5 n6 (x1, N.2.1, N.2.2.1, N.2.2.2.1, N.2.2.2.2.1, N.2.2.2.2.2.1, N.2.2.2.2.2.2.1, N.2.2.2.2.2.2.2.1, N.2.2.2.2.2.2.2.2)) (ty := .int) C (uW uX0_in) tyX0 tyX0_ok nmX0 0 rfl rfl 0 (by decide) (ws_in xf_X0_37) rfl rfl (by decide +kernel) rfl rfl (Nat.le_of_ble_eq_true rfl) dX0_layOut_2 rfl ?_
  refine q_aload_n C dX0_layOut_5 rfl 0 rfl ?_
  refine q_iload_n C dX0_layOut_6 rfl 2 rfl ?_
  refine q_put (ws' := wNet cI n0 n1 n2 n3 n4 n5 n6 (x1, x2, N.2.2.1, N.2.2.2.1, N.2.2.2.2.1, N.2.2.2.2.2.1, N.2.2.2.2.2.2.1, N.2.2.2.2.2.2.2.1, N.2.2.2.2.2.2.2.2)) (ty := .int) C (uW uX0_in) tyX0 tyX0_ok nmX0 0 rfl rfl 1 (by decide) (ws_in xf_X0_41) rfl rfl (by decide +kernel) rfl rfl (Nat.le_of_ble_eq_true rfl) dX0_layOut_7 rfl ?_
  refine q_aload_n C dX0_layOut_10 rfl 0 rfl ?_
  refine q_aload_n C dX0_layOut_11 rfl 0 rfl ?_
  obtain ⟨z1, h_z1, hf⟩ := bnd hf
  refine q_cVIw C (c_X0_nodes l D cI cJ cN n0 n1 n2 n3 n4 n5 n6 (x1, x2, N.2.2.1, N.2.2.2.1, N.2.2.2.2.1, N.2.2.2.2.2.1, N.2.2.2.2.2.2.1, N.2.2.2.2.2.2.2.1, N.2.2.2.2.2.2.2.2) z1 h_z1) (mkV (fr := 0) (lo := 0) C xc_X0_nodes xm_X0_44 xi_X0_nodes xe_X0_nodes xn_X0 hd_X0_nodes ⟨Nat.le_of_ble_eq_true rfl, Nat.le_of_ble_eq_true rfl⟩) 0 rfl rfl rfl rfl (Nat.le_of_ble_eq_true rfl) dX0_layOut_12 ⟨Nat.le_of_ble_eq_true rfl, Nat.le_of_ble_eq_true rfl⟩ (fun w1 hp1 => ?_)
  subst hp1
  obtain ⟨z2, h_z2, hf⟩ := bnd hf
  refine q_cNL (ws' := wNet cI n0 n1 n2 n3 n4 n5 n6 (x1, x2, N.2.2.1, N.2.2.2.1, N.2.2.2.2.1, N.2.2.2.2.2.1, N.2.2.2.2.2.2.1, N.2.2.2.2.2.2.2.1, N.2.2.2.2.2.2.2.2)) C (c_X2_only l D cI cJ cN z1 z2 h_z2) (mkN (fr := 0) (lo := 0) C 0 rfl xc_X2_only xs_X2_only xn_X2 hd_X2_only ⟨Nat.le_of_ble_eq_true rfl, Nat.le_of_ble_eq_true rfl⟩) [] rfl (by decide) rfl rfl rfl rfl (Nat.le_of_ble_eq_true rfl) dX0_layOut_15 ⟨Nat.le_of_ble_eq_true rfl, Nat.le_of_ble_eq_true rfl⟩ ?_
  refine q_lconst (v := 1) C dX0_layOut_18 (by decide) ?_
  refine q_lsub C dX0_layOut_19 ?_
  refine q_put (ws' := wNet cI n0 n1 n2 n3 n4 n5 n6 (x1, x2, (z2 - (1 : Int64)), N.2.2.2.1, N.2.2.2.2.1, N.2.2.2.2.2.1, N.2.2.2.2.2.2.1, N.2.2.2.2.2.2.2.1, N.2.2.2.2.2.2.2.2)) (ty := .long) C (uW uX0_in) tyX0 tyX0_ok nmX0 0 rfl rfl 2 (by decide) (ws_in xf_X0_52) rfl rfl (by decide +kernel) rfl rfl (Nat.le_of_ble_eq_true rfl) dX0_layOut_20 rfl ?_
  refine q_iconst (v := 0) C dX0_layOut_23 (by decide) ?_
  refine q_istore_n (lv' := [(3, .int (0 : Int32)), (0, .ref n0), (1, .int x1), (2, .int x2)]) C dX0_layOut_24 rfl (by decide) rfl ?_
  refine q_sub (lv' := [(0, .ref n0), (3, .int (0 : Int32))]) [1, 0] rfl ?_
  exact l_X0_layOut_25 C FU (x1, x2, (z2 - (1 : Int64)), N.2.2.2.1, N.2.2.2.2.1, N.2.2.2.2.2.1, N.2.2.2.2.2.2.1, N.2.2.2.2.2.2.2.1, N.2.2.2.2.2.2.2.2) (0 : Int32) hf
set_option maxRecDepth 100000 in
set_option maxHeartbeats 4000000 in
theorem l_X2_copyRow_2 {p : Program} {l : Launch} {e : Env} {s : State} {m : MethodId} {args : Array Value} {below : List Frame} {meth : Method} {c : Code} {D : va_G} {cI cJ cN : ClassId} {W0 : va_W} {a0 a1 k0 k1 : Nat} {z : (Nat → Int32)} (C : CX p l s m args meth c cX2_copyRow 3 yX2_copyRow.cls (WS yX2_copyRow cX2_copyRow 3 none) none D cI cJ cN (va_A W0 s.heap.size)) : ∀ (fu : Nat) (f0 : Nat → Int32) (f1 : Nat → Int32) (x2 : Int32), g_X2_copyRow_2 k0 k1 fu f0 f1 x2 = some z → WW p l e { frames := 0, cells := 0, slots := 0, locals := 0 } s m args below meth c D 3 (va_A W0 s.heap.size) 0 0 (QV below args s D W0 { frames := 0, cells := 0, slots := 0, locals := 0 } (fun w => w = [(a0, .inl (cI, k0, .inl f0))] ++ [(a1, .inl (cI, k1, .inl z))])) 2 [(0, .ref a0), (1, .ref a1), (2, .int x2)] [] ([(a0, .inl (cI, k0, .inl f0))] ++ [(a1, .inl (cI, k1, .inl f1))]) := by
  intro fu
  induction fu with
  | zero =>
    intro f0 f1 x2 hf
    rw [g_X2_copyRow_2] at hf
    cases hf
  | succ fu ih =>
    intro f0 f1 x2 hf
    rw [g_X2_copyRow_2] at hf
    refine q_iload_n C dX2_copyRow_2 rfl 2 rfl ?_
    refine q_aload_n C dX2_copyRow_3 rfl 0 rfl ?_
    refine q_alenI C 0 rfl dX2_copyRow_4 ?_
    refine q_icmp_ge C 26 dX2_copyRow_5 (by decide) (fun h => ?_) (fun h => ?_)
    · have hf := ifT hf h
      have hf := Option.some.inj hf
      subst hf
      exact q_vret C (Nat.le_of_ble_eq_true rfl) (Nat.le_of_ble_eq_true rfl) rfl dX2_copyRow_26
    · have hf := ifF hf h
      refine q_iload_n C dX2_copyRow_8 rfl 2 rfl ?_
      refine q_aload_n C dX2_copyRow_9 rfl 1 rfl ?_
      refine q_alenI C 1 rfl dX2_copyRow_10 ?_
      refine q_icmp_ge C 26 dX2_copyRow_11 (by decide) (fun h => ?_) (fun h => ?_)
      · have hf := ifT hf h
        have hf := Option.some.inj hf
        subst hf
        exact q_vret C (Nat.le_of_ble_eq_true rfl) (Nat.le_of_ble_eq_true rfl) rfl dX2_copyRow_26
      · have hf := ifF hf h
        refine q_aload_n C dX2_copyRow_14 rfl 1 rfl ?_
        refine q_iload_n C dX2_copyRow_15 rfl 2 rfl ?_
        refine q_aload_n C dX2_copyRow_16 rfl 0 rfl ?_
        refine q_iload_n C dX2_copyRow_17 rfl 2 rfl ?_
        obtain ⟨hg, hf⟩ := gd_some hf
        refine q_iald C 0 rfl hg dX2_copyRow_18 ?_
        obtain ⟨hg, hf⟩ := gd_some hf
        refine q_iast (ws' := [(a0, .inl (cI, k0, .inl f0))] ++ [(a1, .inl (cI, k1, .inl (upd f1 x2.toNatClampNeg (f0 x2.toNatClampNeg))))]) C 1 rfl hg dX2_copyRow_19 rfl ?_
        refine q_iinc (v := (x2 + (1 : Int32))) (lv' := [(2, .int (x2 + (1 : Int32))), (0, .ref a0), (1, .ref a1)]) C dX2_copyRow_20 2 rfl rfl (by decide) rfl ?_
        refine q_goto C 2 dX2_copyRow_23 (by decide) ?_
        refine q_sub (lv' := [(0, .ref a0), (1, .ref a1), (2, .int (x2 + (1 : Int32)))]) [1, 2, 0] rfl ?_
        exact ih f0 (upd f1 x2.toNatClampNeg (f0 x2.toNatClampNeg)) (x2 + (1 : Int32)) hf
set_option maxRecDepth 100000 in
set_option maxHeartbeats 4000000 in
theorem c_X2_copyRow (l : Launch) (D : va_G) (cI cJ cN : ClassId) (a0 a1 : Nat)  (k0 : Nat) (k1 : Nat) (f0 : Nat → Int32) (f1 : Nat → Int32)  (z : (Nat → Int32)) (hf : f_X2_copyRow k0 k1 f0 f1 = some z) : MV l D cI cJ cN yX2_copyRow (WS yX2_copyRow cX2_copyRow 3 none) { frames := 0, cells := 0, slots := 0, locals := 0 } [.ref a0, .ref a1] ([(a0, .inl (cI, k0, .inl f0))] ++ [(a1, .inl (cI, k1, .inl f1))]) (fun w => w = [(a0, .inl (cI, k0, .inl f0))] ++ [(a1, .inl (cI, k1, .inl z))]) := by
  rw [f_X2_copyRow] at hf
  refine q_startV (lv := [(0, .ref a0), (1, .ref a1)]) (by decide +kernel) rfl (Nat.le_of_ble_eq_true rfl) ?_
  intro p e s m below meth c C hin
  refine q_iconst (v := 0) C dX2_copyRow_0 (by decide) ?_
  refine q_istore_n (lv' := [(2, .int (0 : Int32)), (0, .ref a0), (1, .ref a1)]) C dX2_copyRow_1 rfl (by decide) rfl ?_
  refine q_sub (lv' := [(0, .ref a0), (1, .ref a1), (2, .int (0 : Int32))]) [1, 2, 0] rfl ?_
  exact l_X2_copyRow_2 C FU f0 f1 (0 : Int32) hf
set_option maxRecDepth 100000 in
set_option maxHeartbeats 4000000 in
theorem c_X0_copyFrom (l : Launch) (D : va_G) (cI cJ cN : ClassId) (n0 n1 n2 n3 n4 n5 n6 o0 o1 o2 o3 o4 o5 o6 : Nat)  (N : NS) (O : NS)  (z : NS) (hf : f_X0_copyFrom N O = some z) : MV l D cI cJ cN yX0_copyFrom (WS yX0_copyFrom cX0_copyFrom 2 none) { frames := 1, cells := 0, slots := 0, locals := 22 } [.ref n0, .ref o0] (wNet cI n0 n1 n2 n3 n4 n5 n6 N ++ wNet cI o0 o1 o2 o3 o4 o5 o6 O) (fun w => w = wNet cI n0 n1 n2 n3 n4 n5 n6 z ++ wNet cI o0 o1 o2 o3 o4 o5 o6 O) := by
  rw [f_X0_copyFrom] at hf
  refine q_startV (lv := [(0, .ref n0), (1, .ref o0)]) (by decide +kernel) rfl (Nat.le_of_ble_eq_true rfl) ?_
  intro p e s m below meth c C hin
  refine q_aload_n C dX0_copyFrom_0 rfl 1 rfl ?_
  refine q_ifnonnull C 5 dX0_copyFrom_1 (by decide) ?_
  refine q_aload_n C dX0_copyFrom_5 rfl 0 rfl ?_
  refine q_aload_n C dX0_copyFrom_6 rfl 1 rfl ?_
  refine q_get C (uW uX0_in) 7 rfl rfl 0 (by decide) (ws_in xf_X0_37) rfl rfl dX0_copyFrom_7 ?_
  refine q_put (ws' := wNet cI n0 n1 n2 n3 n4 n5 n6 (O.1, N.2.1, N.2.2.1, N.2.2.2.1, N.2.2.2.2.1, N.2.2.2.2.2.1, N.2.2.2.2.2.2.1, N.2.2.2.2.2.2.2.1, N.2.2.2.2.2.2.2.2) ++ wNet cI o0 o1 o2 o3 o4 o5 o6 O) (ty := .int) C (uW uX0_in) tyX0 tyX0_ok nmX0 0 rfl rfl 0 (by decide) (ws_in xf_X0_37) rfl rfl (by decide +kernel) rfl rfl (Nat.le_of_ble_eq_true rfl) dX0_copyFrom_10 rfl ?_
  refine q_aload_n C dX0_copyFrom_13 rfl 0 rfl ?_
  refine q_aload_n C dX0_copyFrom_14 rfl 1 rfl ?_
  refine q_get C (uW uX0_in) 7 rfl rfl 1 (by decide) (ws_in xf_X0_41) rfl rfl dX0_copyFrom_15 ?_
  refine q_put (ws' := wNet cI n0 n1 n2 n3 n4 n5 n6 (O.1, O.2.1, N.2.2.1, N.2.2.2.1, N.2.2.2.2.1, N.2.2.2.2.2.1, N.2.2.2.2.2.2.1, N.2.2.2.2.2.2.2.1, N.2.2.2.2.2.2.2.2) ++ wNet cI o0 o1 o2 o3 o4 o5 o6 O) (ty := .int) C (uW uX0_in) tyX0 tyX0_ok nmX0 0 rfl rfl 1 (by decide) (ws_in xf_X0_41) rfl rfl (by decide +kernel) rfl rfl (Nat.le_of_ble_eq_true rfl) dX0_copyFrom_18 rfl ?_
  refine q_aload_n C dX0_copyFrom_21 rfl 0 rfl ?_
  refine q_aload_n C dX0_copyFrom_22 rfl 1 rfl ?_
  refine q_get C (uW uX0_in) 7 rfl rfl 2 (by decide) (ws_in xf_X0_52) rfl rfl dX0_copyFrom_23 ?_
  refine q_put (ws' := wNet cI n0 n1 n2 n3 n4 n5 n6 (O.1, O.2.1, O.2.2.1, N.2.2.2.1, N.2.2.2.2.1, N.2.2.2.2.2.1, N.2.2.2.2.2.2.1, N.2.2.2.2.2.2.2.1, N.2.2.2.2.2.2.2.2) ++ wNet cI o0 o1 o2 o3 o4 o5 o6 O) (ty := .long) C (uW uX0_in) tyX0 tyX0_ok nmX0 0 rfl rfl 2 (by decide) (ws_in xf_X0_52) rfl rfl (by decide +kernel) rfl rfl (Nat.le_of_ble_eq_true rfl) dX0_copyFrom_26 rfl ?_
  refine q_aload_n C dX0_copyFrom_29 rfl 1 rfl ?_
  refine q_get C (uW uX0_in) 7 rfl rfl 3 (by decide) (ws_in xf_X0_9) rfl rfl dX0_copyFrom_30 ?_
  refine q_aload_n C dX0_copyFrom_33 rfl 0 rfl ?_
  refine q_get C (uW uX0_in) 0 rfl rfl 3 (by decide) (ws_in xf_X0_9) rfl rfl dX0_copyFrom_34 ?_
  obtain ⟨z1, h_z1, hf⟩ := bnd hf
  refine q_cNV (ws' := wNet cI n0 n1 n2 n3 n4 n5 n6 (O.1, O.2.1, O.2.2.1, z1, N.2.2.2.2.1, N.2.2.2.2.2.1, N.2.2.2.2.2.2.1, N.2.2.2.2.2.2.2.1, N.2.2.2.2.2.2.2.2) ++ wNet cI o0 o1 o2 o3 o4 o5 o6 O) C (c_X2_copyRow l D cI cJ cN o1 n1 49 49 O.2.2.2.1 N.2.2.2.1 z1 h_z1) (mkN (fr := 0) (lo := 0) C 2 rfl xc_X2_copyRow xs_X2_copyRow xn_X2 hd_X2_copyRow ⟨Nat.le_of_ble_eq_true rfl, Nat.le_of_ble_eq_true rfl⟩) [8, 1] rfl (by decide) rfl rfl rfl rfl (Nat.le_of_ble_eq_true rfl) dX0_copyFrom_37 ⟨Nat.le_of_ble_eq_true rfl, Nat.le_of_ble_eq_true rfl⟩ ?_
  refine q_aload_n C dX0_copyFrom_40 rfl 1 rfl ?_
  refine q_get C (uW uX0_in) 7 rfl rfl 4 (by decide) (ws_in xf_X0_15) rfl rfl dX0_copyFrom_41 ?_
  refine q_aload_n C dX0_copyFrom_44 rfl 0 rfl ?_
  refine q_get C (uW uX0_in) 0 rfl rfl 4 (by decide) (ws_in xf_X0_15) rfl rfl dX0_copyFrom_45 ?_
  obtain ⟨z2, h_z2, hf⟩ := bnd hf
  refine q_cNV (ws' := wNet cI n0 n1 n2 n3 n4 n5 n6 (O.1, O.2.1, O.2.2.1, z1, z2, N.2.2.2.2.2.1, N.2.2.2.2.2.2.1, N.2.2.2.2.2.2.2.1, N.2.2.2.2.2.2.2.2) ++ wNet cI o0 o1 o2 o3 o4 o5 o6 O) C (c_X2_copyRow l D cI cJ cN o2 n2 49 49 O.2.2.2.2.1 N.2.2.2.2.1 z2 h_z2) (mkN (fr := 0) (lo := 0) C 2 rfl xc_X2_copyRow xs_X2_copyRow xn_X2 hd_X2_copyRow ⟨Nat.le_of_ble_eq_true rfl, Nat.le_of_ble_eq_true rfl⟩) [9, 2] rfl (by decide) rfl rfl rfl rfl (Nat.le_of_ble_eq_true rfl) dX0_copyFrom_48 ⟨Nat.le_of_ble_eq_true rfl, Nat.le_of_ble_eq_true rfl⟩ ?_
  refine q_aload_n C dX0_copyFrom_51 rfl 1 rfl ?_
  refine q_get C (uW uX0_in) 7 rfl rfl 5 (by decide) (ws_in xf_X0_18) rfl rfl dX0_copyFrom_52 ?_
  refine q_aload_n C dX0_copyFrom_55 rfl 0 rfl ?_
  refine q_get C (uW uX0_in) 0 rfl rfl 5 (by decide) (ws_in xf_X0_18) rfl rfl dX0_copyFrom_56 ?_
  obtain ⟨z3, h_z3, hf⟩ := bnd hf
  refine q_cNV (ws' := wNet cI n0 n1 n2 n3 n4 n5 n6 (O.1, O.2.1, O.2.2.1, z1, z2, z3, N.2.2.2.2.2.2.1, N.2.2.2.2.2.2.2.1, N.2.2.2.2.2.2.2.2) ++ wNet cI o0 o1 o2 o3 o4 o5 o6 O) C (c_X2_copyRow l D cI cJ cN o3 n3 49 49 O.2.2.2.2.2.1 N.2.2.2.2.2.1 z3 h_z3) (mkN (fr := 0) (lo := 0) C 2 rfl xc_X2_copyRow xs_X2_copyRow xn_X2 hd_X2_copyRow ⟨Nat.le_of_ble_eq_true rfl, Nat.le_of_ble_eq_true rfl⟩) [10, 3] rfl (by decide) rfl rfl rfl rfl (Nat.le_of_ble_eq_true rfl) dX0_copyFrom_59 ⟨Nat.le_of_ble_eq_true rfl, Nat.le_of_ble_eq_true rfl⟩ ?_
  refine q_aload_n C dX0_copyFrom_62 rfl 1 rfl ?_
  refine q_get C (uW uX0_in) 7 rfl rfl 6 (by decide) (ws_in xf_X0_21) rfl rfl dX0_copyFrom_63 ?_
  refine q_aload_n C dX0_copyFrom_66 rfl 0 rfl ?_
  refine q_get C (uW uX0_in) 0 rfl rfl 6 (by decide) (ws_in xf_X0_21) rfl rfl dX0_copyFrom_67 ?_
  obtain ⟨z4, h_z4, hf⟩ := bnd hf
  refine q_cNV (ws' := wNet cI n0 n1 n2 n3 n4 n5 n6 (O.1, O.2.1, O.2.2.1, z1, z2, z3, z4, N.2.2.2.2.2.2.2.1, N.2.2.2.2.2.2.2.2) ++ wNet cI o0 o1 o2 o3 o4 o5 o6 O) C (c_X2_copyRow l D cI cJ cN o4 n4 49 49 O.2.2.2.2.2.2.1 N.2.2.2.2.2.2.1 z4 h_z4) (mkN (fr := 0) (lo := 0) C 2 rfl xc_X2_copyRow xs_X2_copyRow xn_X2 hd_X2_copyRow ⟨Nat.le_of_ble_eq_true rfl, Nat.le_of_ble_eq_true rfl⟩) [11, 4] rfl (by decide) rfl rfl rfl rfl (Nat.le_of_ble_eq_true rfl) dX0_copyFrom_70 ⟨Nat.le_of_ble_eq_true rfl, Nat.le_of_ble_eq_true rfl⟩ ?_
  refine q_aload_n C dX0_copyFrom_73 rfl 1 rfl ?_
  refine q_get C (uW uX0_in) 7 rfl rfl 7 (by decide) (ws_in xf_X0_24) rfl rfl dX0_copyFrom_74 ?_
  refine q_aload_n C dX0_copyFrom_77 rfl 0 rfl ?_
  refine q_get C (uW uX0_in) 0 rfl rfl 7 (by decide) (ws_in xf_X0_24) rfl rfl dX0_copyFrom_78 ?_
  obtain ⟨z5, h_z5, hf⟩ := bnd hf
  refine q_cNV (ws' := wNet cI n0 n1 n2 n3 n4 n5 n6 (O.1, O.2.1, O.2.2.1, z1, z2, z3, z4, z5, N.2.2.2.2.2.2.2.2) ++ wNet cI o0 o1 o2 o3 o4 o5 o6 O) C (c_X2_copyRow l D cI cJ cN o5 n5 147 147 O.2.2.2.2.2.2.2.1 N.2.2.2.2.2.2.2.1 z5 h_z5) (mkN (fr := 0) (lo := 0) C 2 rfl xc_X2_copyRow xs_X2_copyRow xn_X2 hd_X2_copyRow ⟨Nat.le_of_ble_eq_true rfl, Nat.le_of_ble_eq_true rfl⟩) [12, 5] rfl (by decide) rfl rfl rfl rfl (Nat.le_of_ble_eq_true rfl) dX0_copyFrom_81 ⟨Nat.le_of_ble_eq_true rfl, Nat.le_of_ble_eq_true rfl⟩ ?_
  refine q_aload_n C dX0_copyFrom_84 rfl 1 rfl ?_
  refine q_get C (uW uX0_in) 7 rfl rfl 8 (by decide) (ws_in xf_X0_27) rfl rfl dX0_copyFrom_85 ?_
  refine q_aload_n C dX0_copyFrom_88 rfl 0 rfl ?_
  refine q_get C (uW uX0_in) 0 rfl rfl 8 (by decide) (ws_in xf_X0_27) rfl rfl dX0_copyFrom_89 ?_
  obtain ⟨z6, h_z6, hf⟩ := bnd hf
  refine q_cNV (ws' := wNet cI n0 n1 n2 n3 n4 n5 n6 (O.1, O.2.1, O.2.2.1, z1, z2, z3, z4, z5, z6) ++ wNet cI o0 o1 o2 o3 o4 o5 o6 O) C (c_X2_copyRow l D cI cJ cN o6 n6 4 4 O.2.2.2.2.2.2.2.2 N.2.2.2.2.2.2.2.2 z6 h_z6) (mkN (fr := 0) (lo := 0) C 2 rfl xc_X2_copyRow xs_X2_copyRow xn_X2 hd_X2_copyRow ⟨Nat.le_of_ble_eq_true rfl, Nat.le_of_ble_eq_true rfl⟩) [13, 6] rfl (by decide) rfl rfl rfl rfl (Nat.le_of_ble_eq_true rfl) dX0_copyFrom_92 ⟨Nat.le_of_ble_eq_true rfl, Nat.le_of_ble_eq_true rfl⟩ ?_
  have hf := Option.some.inj hf
  subst hf
  exact q_vret C (Nat.le_of_ble_eq_true rfl) (Nat.le_of_ble_eq_true rfl) rfl dX0_copyFrom_95
set_option maxRecDepth 100000 in
set_option maxHeartbeats 4000000 in
theorem c_X0_width (l : Launch) (D : va_G) (cI cJ cN : ClassId) (n0 n1 n2 n3 n4 n5 n6 : Nat)  (N : NS)  (z : Int32) (hf : f_X0_width N = some z) : MI l D cI cJ cN yX0_width (WS yX0_width cX0_width 1 (some .int)) { frames := 0, cells := 0, slots := 0, locals := 0 } [.ref n0] (wNet cI n0 n1 n2 n3 n4 n5 n6 N) z (fun w => w = wNet cI n0 n1 n2 n3 n4 n5 n6 N) := by
  rw [f_X0_width] at hf
  refine q_startI (lv := [(0, .ref n0)]) (by decide +kernel) rfl (Nat.le_of_ble_eq_true rfl) ?_
  intro p e s m below meth c C hin
  refine q_aload_n C dX0_width_0 rfl 0 rfl ?_
  refine q_get C (uW uX0_in) 0 rfl rfl 0 (by decide) (ws_in xf_X0_37) rfl rfl dX0_width_1 ?_
  have hf := Option.some.inj hf
  subst hf
  exact q_iret C (Nat.le_of_ble_eq_true rfl) (Nat.le_of_ble_eq_true rfl) rfl dX0_width_4
set_option maxRecDepth 100000 in
set_option maxHeartbeats 4000000 in
theorem c_X0_holds (l : Launch) (D : va_G) (cI cJ cN : ClassId) (n0 n1 n2 n3 n4 n5 n6 : Nat)  (N : NS) (x1 : Int32) (z : Int32) (hf : f_X0_holds N x1 = some z) : MI l D cI cJ cN yX0_holds (WS yX0_holds cX0_holds 2 (some .boolean)) { frames := 1, cells := 0, slots := 0, locals := 20 } [.ref n0, .int x1] (wNet cI n0 n1 n2 n3 n4 n5 n6 N) z (fun w => w = wNet cI n0 n1 n2 n3 n4 n5 n6 N) := by
  rw [f_X0_holds] at hf
  refine q_startI (lv := [(0, .ref n0), (1, .int x1)]) (by decide +kernel) rfl (Nat.le_of_ble_eq_true rfl) ?_
  intro p e s m below meth c C hin
  refine q_iload_n C dX0_holds_0 rfl 1 rfl ?_
  refine q_if_lt C 16 dX0_holds_1 (by decide) (fun h => ?_) (fun h => ?_)
  · have hf := ifT hf h
    refine q_iconst (v := 0) C dX0_holds_16 (by decide) ?_
    have hf := Option.some.inj hf
    subst hf
    exact q_zret (v := 0) C rfl (Nat.le_of_ble_eq_true rfl) (Nat.le_of_ble_eq_true rfl) rfl dX0_holds_17
  · have hf := ifF hf h
    refine q_iload_n C dX0_holds_4 rfl 1 rfl ?_
    refine q_aload_n C dX0_holds_5 rfl 0 rfl ?_
    obtain ⟨z1, h_z1, hf⟩ := bnd hf
    refine q_cVIw C (c_X0_nodes l D cI cJ cN n0 n1 n2 n3 n4 n5 n6 N z1 h_z1) (mkV (fr := 0) (lo := 0) C xc_X0_nodes xm_X0_44 xi_X0_nodes xe_X0_nodes xn_X0 hd_X0_nodes ⟨Nat.le_of_ble_eq_true rfl, Nat.le_of_ble_eq_true rfl⟩) 0 rfl rfl rfl rfl (Nat.le_of_ble_eq_true rfl) dX0_holds_6 ⟨Nat.le_of_ble_eq_true rfl, Nat.le_of_ble_eq_true rfl⟩ (fun w1 hp1 => ?_)
    subst hp1
    refine q_icmp_ge C 16 dX0_holds_9 (by decide) (fun h => ?_) (fun h => ?_)
    · have hf := ifT hf h
      refine q_iconst (v := 0) C dX0_holds_16 (by decide) ?_
      have hf := Option.some.inj hf
      subst hf
      exact q_zret (v := 0) C rfl (Nat.le_of_ble_eq_true rfl) (Nat.le_of_ble_eq_true rfl) rfl dX0_holds_17
    · have hf := ifF hf h
      refine q_iconst (v := 1) C dX0_holds_12 (by decide) ?_
      refine q_goto C 17 dX0_holds_13 (by decide) ?_
      have hf := Option.some.inj hf
      subst hf
      exact q_zret (v := 1) C rfl (Nat.le_of_ble_eq_true rfl) (Nat.le_of_ble_eq_true rfl) rfl dX0_holds_17
set_option maxRecDepth 100000 in
set_option maxHeartbeats 4000000 in
theorem c_X2_isIn (l : Launch) (D : va_G) (cI cJ cN : ClassId)   (x0 : Int64) (x2 : Int32) (z : Int32) (hf : f_X2_isIn x0 x2 = some z) : MI l D cI cJ cN yX2_isIn (WS yX2_isIn cX2_isIn 3 (some .boolean)) { frames := 0, cells := 0, slots := 0, locals := 0 } [.long x0, .int x2] ([]) z (fun w => w = []) := by
  rw [f_X2_isIn] at hf
  refine q_startI (lv := [(0, .long x0), (2, .int x2)]) (by decide +kernel) rfl (Nat.le_of_ble_eq_true rfl) ?_
  intro p e s m below meth c C hin
  refine q_lload_n C dX2_isIn_0 rfl 0 rfl ?_
  refine q_iload_n C dX2_isIn_1 rfl 1 rfl ?_
  refine q_lshr C dX2_isIn_2 ?_
  refine q_lconst (v := 1) C dX2_isIn_3 (by decide) ?_
  refine q_land C dX2_isIn_4 ?_
  refine q_lconst (v := 0) C dX2_isIn_5 (by decide) ?_
  refine q_lcmp C dX2_isIn_6 ?_
  refine q_if_eq C 14 dX2_isIn_7 (by decide) (fun h => ?_) (fun h => ?_)
  · have hf := ifT hf h
    refine q_iconst (v := 0) C dX2_isIn_14 (by decide) ?_
    have hf := Option.some.inj hf
    subst hf
    exact q_zret (v := 0) C rfl (Nat.le_of_ble_eq_true rfl) (Nat.le_of_ble_eq_true rfl) rfl dX2_isIn_15
  · have hf := ifF hf h
    refine q_iconst (v := 1) C dX2_isIn_10 (by decide) ?_
    refine q_goto C 15 dX2_isIn_11 (by decide) ?_
    have hf := Option.some.inj hf
    subst hf
    exact q_zret (v := 1) C rfl (Nat.le_of_ble_eq_true rfl) (Nat.le_of_ble_eq_true rfl) rfl dX2_isIn_15
set_option maxRecDepth 100000 in
set_option maxHeartbeats 4000000 in
theorem c_X0_isPresent (l : Launch) (D : va_G) (cI cJ cN : ClassId) (n0 n1 n2 n3 n4 n5 n6 : Nat)  (N : NS) (x1 : Int32) (z : Int32) (hf : f_X0_isPresent N x1 = some z) : MI l D cI cJ cN yX0_isPresent (WS yX0_isPresent cX0_isPresent 2 (some .boolean)) { frames := 2, cells := 0, slots := 0, locals := 41 } [.ref n0, .int x1] (wNet cI n0 n1 n2 n3 n4 n5 n6 N) z (fun w => w = wNet cI n0 n1 n2 n3 n4 n5 n6 N) := by
  rw [f_X0_isPresent] at hf
  refine q_startI (lv := [(0, .ref n0), (1, .int x1)]) (by decide +kernel) rfl (Nat.le_of_ble_eq_true rfl) ?_
  intro p e s m below meth c C hin
  refine q_aload_n C dX0_isPresent_0 rfl 0 rfl ?_
  refine q_iload_n C dX0_isPresent_1 rfl 1 rfl ?_
  obtain ⟨z1, h_z1, hf⟩ := bnd hf
  refine q_cVIw C (c_X0_holds l D cI cJ cN n0 n1 n2 n3 n4 n5 n6 N x1 z1 h_z1) (mkV (fr := 1) (lo := 20) C xc_X0_holds xm_X0_68 xi_X0_holds xe_X0_holds xn_X0 hd_X0_holds ⟨Nat.le_of_ble_eq_true rfl, Nat.le_of_ble_eq_true rfl⟩) 0 rfl rfl rfl rfl (Nat.le_of_ble_eq_true rfl) dX0_isPresent_2 ⟨Nat.le_of_ble_eq_true rfl, Nat.le_of_ble_eq_true rfl⟩ (fun w1 hp1 => ?_)
  subst hp1
  refine q_if_eq C 23 dX0_isPresent_5 (by decide) (fun h => ?_) (fun h => ?_)
  · have hf := ifT hf h
    refine q_iconst (v := 0) C dX0_isPresent_23 (by decide) ?_
    have hf := Option.some.inj hf
    subst hf
    exact q_zret (v := 0) C rfl (Nat.le_of_ble_eq_true rfl) (Nat.le_of_ble_eq_true rfl) rfl dX0_isPresent_24
  · have hf := ifF hf h
    refine q_aload_n C dX0_isPresent_8 rfl 0 rfl ?_
    refine q_get C (uW uX0_in) 0 rfl rfl 2 (by decide) (ws_in xf_X0_52) rfl rfl dX0_isPresent_9 ?_
    refine q_iload_n C dX0_isPresent_12 rfl 1 rfl ?_
    obtain ⟨z2, h_z2, hf⟩ := bnd hf
    refine q_cNI (ws' := wNet cI n0 n1 n2 n3 n4 n5 n6 N) C (c_X2_isIn l D cI cJ cN N.2.2.1 x1 z2 h_z2) (mkN (fr := 0) (lo := 0) C 3 rfl xc_X2_isIn xs_X2_isIn xn_X2 hd_X2_isIn ⟨Nat.le_of_ble_eq_true rfl, Nat.le_of_ble_eq_true rfl⟩) [] rfl (by decide) rfl rfl rfl rfl (Nat.le_of_ble_eq_true rfl) dX0_isPresent_13 ⟨Nat.le_of_ble_eq_true rfl, Nat.le_of_ble_eq_true rfl⟩ ?_
    refine q_if_eq C 23 dX0_isPresent_16 (by decide) (fun h => ?_) (fun h => ?_)
    · have hf := ifT hf h
      refine q_iconst (v := 0) C dX0_isPresent_23 (by decide) ?_
      have hf := Option.some.inj hf
      subst hf
      exact q_zret (v := 0) C rfl (Nat.le_of_ble_eq_true rfl) (Nat.le_of_ble_eq_true rfl) rfl dX0_isPresent_24
    · have hf := ifF hf h
      refine q_iconst (v := 1) C dX0_isPresent_19 (by decide) ?_
      refine q_goto C 24 dX0_isPresent_20 (by decide) ?_
      have hf := Option.some.inj hf
      subst hf
      exact q_zret (v := 1) C rfl (Nat.le_of_ble_eq_true rfl) (Nat.le_of_ble_eq_true rfl) rfl dX0_isPresent_24
set_option maxRecDepth 100000 in
set_option maxHeartbeats 4000000 in
theorem c_J13_bitCount_95d88 (l : Launch) (D : va_G) (cI cJ cN : ClassId)   (x0 : Int64) (z : Int32) (hf : f_J13_bitCount_95d88 x0 = some z) : MI l D cI cJ cN yJ13_bitCount_95d88 (WS yJ13_bitCount_95d88 cJ13_bitCount_95d88 2 (some .int)) { frames := 0, cells := 0, slots := 0, locals := 0 } [.long x0] ([]) z (fun w => w = []) := by
  rw [f_J13_bitCount_95d88] at hf
  refine q_startI (lv := [(0, .long x0)]) (by decide +kernel) rfl (Nat.le_of_ble_eq_true rfl) ?_
  intro p e s m below meth c C hin
  refine q_lload_n C dJ13_bitCount_95d88_0 rfl 0 rfl ?_
  refine q_lload_n C dJ13_bitCount_95d88_1 rfl 0 rfl ?_
  refine q_iconst (v := 1) C dJ13_bitCount_95d88_2 (by decide) ?_
  refine q_lushr C dJ13_bitCount_95d88_3 ?_
  refine q_ldc2 (v := (6148914691236517205)) C (ws_in xk_J13_314) dJ13_bitCount_95d88_4 ?_
  refine q_land C dJ13_bitCount_95d88_7 ?_
  refine q_lsub C dJ13_bitCount_95d88_8 ?_
  obtain ⟨z1, e_z1, hf⟩ := bndv hf
  refine q_topl e_z1 ?_
  refine q_lstore_n (lv' := [(0, .long z1)]) C dJ13_bitCount_95d88_9 rfl (by decide) rfl ?_
  refine q_lload_n C dJ13_bitCount_95d88_10 rfl 0 rfl ?_
  refine q_ldc2 (v := (3689348814741910323)) C (ws_in xk_J13_316) dJ13_bitCount_95d88_11 ?_
  refine q_land C dJ13_bitCount_95d88_14 ?_
  refine q_lload_n C dJ13_bitCount_95d88_15 rfl 0 rfl ?_
  refine q_iconst (v := 2) C dJ13_bitCount_95d88_16 (by decide) ?_
  refine q_lushr C dJ13_bitCount_95d88_17 ?_
  refine q_ldc2 (v := (3689348814741910323)) C (ws_in xk_J13_316) dJ13_bitCount_95d88_18 ?_
  refine q_land C dJ13_bitCount_95d88_21 ?_
  refine q_ladd C dJ13_bitCount_95d88_22 ?_
  obtain ⟨z2, e_z2, hf⟩ := bndv hf
  refine q_topl e_z2 ?_
  refine q_lstore_n (lv' := [(0, .long z2)]) C dJ13_bitCount_95d88_23 rfl (by decide) rfl ?_
  refine q_lload_n C dJ13_bitCount_95d88_24 rfl 0 rfl ?_
  refine q_lload_n C dJ13_bitCount_95d88_25 rfl 0 rfl ?_
  refine q_iconst (v := 4) C dJ13_bitCount_95d88_26 (by decide) ?_
  refine q_lushr C dJ13_bitCount_95d88_27 ?_
  refine q_ladd C dJ13_bitCount_95d88_28 ?_
  refine q_ldc2 (v := (1085102592571150095)) C (ws_in xk_J13_318) dJ13_bitCount_95d88_29 ?_
  refine q_land C dJ13_bitCount_95d88_32 ?_
  obtain ⟨z3, e_z3, hf⟩ := bndv hf
  refine q_topl e_z3 ?_
  refine q_lstore_n (lv' := [(0, .long z3)]) C dJ13_bitCount_95d88_33 rfl (by decide) rfl ?_
  refine q_lload_n C dJ13_bitCount_95d88_34 rfl 0 rfl ?_
  refine q_lload_n C dJ13_bitCount_95d88_35 rfl 0 rfl ?_
  refine q_bipush (v := 8) C dJ13_bitCount_95d88_36 (by decide) ?_
  refine q_lushr C dJ13_bitCount_95d88_38 ?_
  refine q_ladd C dJ13_bitCount_95d88_39 ?_
  obtain ⟨z4, e_z4, hf⟩ := bndv hf
  refine q_topl e_z4 ?_
  refine q_lstore_n (lv' := [(0, .long z4)]) C dJ13_bitCount_95d88_40 rfl (by decide) rfl ?_
  refine q_lload_n C dJ13_bitCount_95d88_41 rfl 0 rfl ?_
  refine q_lload_n C dJ13_bitCount_95d88_42 rfl 0 rfl ?_
  refine q_bipush (v := 16) C dJ13_bitCount_95d88_43 (by decide) ?_
  refine q_lushr C dJ13_bitCount_95d88_45 ?_
  refine q_ladd C dJ13_bitCount_95d88_46 ?_
  obtain ⟨z5, e_z5, hf⟩ := bndv hf
  refine q_topl e_z5 ?_
  refine q_lstore_n (lv' := [(0, .long z5)]) C dJ13_bitCount_95d88_47 rfl (by decide) rfl ?_
  refine q_lload_n C dJ13_bitCount_95d88_48 rfl 0 rfl ?_
  refine q_lload_n C dJ13_bitCount_95d88_49 rfl 0 rfl ?_
  refine q_bipush (v := 32) C dJ13_bitCount_95d88_50 (by decide) ?_
  refine q_lushr C dJ13_bitCount_95d88_52 ?_
  refine q_ladd C dJ13_bitCount_95d88_53 ?_
  obtain ⟨z6, e_z6, hf⟩ := bndv hf
  refine q_topl e_z6 ?_
  refine q_lstore_n (lv' := [(0, .long z6)]) C dJ13_bitCount_95d88_54 rfl (by decide) rfl ?_
  refine q_lload_n C dJ13_bitCount_95d88_55 rfl 0 rfl ?_
  refine q_l2i C dJ13_bitCount_95d88_56 ?_
  refine q_bipush (v := 127) C dJ13_bitCount_95d88_57 (by decide) ?_
  refine q_iand C dJ13_bitCount_95d88_59 ?_
  have hf := Option.some.inj hf
  subst hf
  exact q_iret C (Nat.le_of_ble_eq_true rfl) (Nat.le_of_ble_eq_true rfl) rfl dJ13_bitCount_95d88_60
set_option maxRecDepth 100000 in
set_option maxHeartbeats 4000000 in
theorem c_X0_presentNodes (l : Launch) (D : va_G) (cI cJ cN : ClassId) (n0 n1 n2 n3 n4 n5 n6 : Nat)  (N : NS)  (z : Int32) (hf : f_X0_presentNodes N = some z) : MI l D cI cJ cN yX0_presentNodes (WS yX0_presentNodes cX0_presentNodes 1 (some .int)) { frames := 1, cells := 0, slots := 0, locals := 21 } [.ref n0] (wNet cI n0 n1 n2 n3 n4 n5 n6 N) z (fun w => w = wNet cI n0 n1 n2 n3 n4 n5 n6 N) := by
  rw [f_X0_presentNodes] at hf
  refine q_startI (lv := [(0, .ref n0)]) (by decide +kernel) rfl (Nat.le_of_ble_eq_true rfl) ?_
  intro p e s m below meth c C hin
  refine q_aload_n C dX0_presentNodes_0 rfl 0 rfl ?_
  refine q_get C (uW uX0_in) 0 rfl rfl 2 (by decide) (ws_in xf_X0_52) rfl rfl dX0_presentNodes_1 ?_
  obtain ⟨z1, h_z1, hf⟩ := bnd hf
  refine q_cSI (ws' := wNet cI n0 n1 n2 n3 n4 n5 n6 N) C (c_J13_bitCount_95d88 l D cI cJ cN N.2.2.1 z1 h_z1) (mkS (fr := 0) (lo := 0) C xc_J13_bitCount_95d88 xm_X0_76 xs_J13_bitCount_95d88 xn_J13 hd_J13_bitCount_95d88 ⟨Nat.le_of_ble_eq_true rfl, Nat.le_of_ble_eq_true rfl⟩) [] rfl (by decide) rfl rfl rfl rfl (Nat.le_of_ble_eq_true rfl) dX0_presentNodes_4 ⟨Nat.le_of_ble_eq_true rfl, Nat.le_of_ble_eq_true rfl⟩ ?_
  have hf := Option.some.inj hf
  subst hf
  exact q_iret C (Nat.le_of_ble_eq_true rfl) (Nat.le_of_ble_eq_true rfl) rfl dX0_presentNodes_7
set_option maxRecDepth 100000 in
set_option maxHeartbeats 4000000 in
theorem c_X2_valueAt (l : Launch) (D : va_G) (cI cJ cN : ClassId) (a0 : Nat)  (k0 : Nat) (f0 : Nat → Int32) (x1 : Int32) (z : Int32) (hf : f_X2_valueAt k0 f0 x1 = some z) : MI l D cI cJ cN yX2_valueAt (WS yX2_valueAt cX2_valueAt 2 (some .int)) { frames := 0, cells := 0, slots := 0, locals := 0 } [.ref a0, .int x1] ([(a0, .inl (cI, k0, .inl f0))]) z (fun w => w = [(a0, .inl (cI, k0, .inl f0))]) := by
  rw [f_X2_valueAt] at hf
  refine q_startI (lv := [(0, .ref a0), (1, .int x1)]) (by decide +kernel) rfl (Nat.le_of_ble_eq_true rfl) ?_
  intro p e s m below meth c C hin
  refine q_iload_n C dX2_valueAt_0 rfl 1 rfl ?_
  refine q_if_lt C 16 dX2_valueAt_1 (by decide) (fun h => ?_) (fun h => ?_)
  · have hf := ifT hf h
    refine q_iconst (v := 0) C dX2_valueAt_16 (by decide) ?_
    have hf := Option.some.inj hf
    subst hf
    exact q_iret C (Nat.le_of_ble_eq_true rfl) (Nat.le_of_ble_eq_true rfl) rfl dX2_valueAt_17
  · have hf := ifF hf h
    refine q_iload_n C dX2_valueAt_4 rfl 1 rfl ?_
    refine q_aload_n C dX2_valueAt_5 rfl 0 rfl ?_
    refine q_alenI C 0 rfl dX2_valueAt_6 ?_
    refine q_icmp_ge C 16 dX2_valueAt_7 (by decide) (fun h => ?_) (fun h => ?_)
    · have hf := ifT hf h
      refine q_iconst (v := 0) C dX2_valueAt_16 (by decide) ?_
      have hf := Option.some.inj hf
      subst hf
      exact q_iret C (Nat.le_of_ble_eq_true rfl) (Nat.le_of_ble_eq_true rfl) rfl dX2_valueAt_17
    · have hf := ifF hf h
      refine q_aload_n C dX2_valueAt_10 rfl 0 rfl ?_
      refine q_iload_n C dX2_valueAt_11 rfl 1 rfl ?_
      obtain ⟨hg, hf⟩ := gd_some hf
      refine q_iald C 0 rfl hg dX2_valueAt_12 ?_
      refine q_goto C 17 dX2_valueAt_13 (by decide) ?_
      have hf := Option.some.inj hf
      subst hf
      exact q_iret C (Nat.le_of_ble_eq_true rfl) (Nat.le_of_ble_eq_true rfl) rfl dX2_valueAt_17
set_option maxRecDepth 100000 in
set_option maxHeartbeats 4000000 in
theorem c_X0_setting (l : Launch) (D : va_G) (cI cJ cN : ClassId) (n0 n1 n2 n3 n4 n5 n6 : Nat)  (N : NS) (x1 : Int32) (z : Int32) (hf : f_X0_setting N x1 = some z) : MI l D cI cJ cN yX0_setting (WS yX0_setting cX0_setting 2 (some .int)) { frames := 1, cells := 0, slots := 0, locals := 21 } [.ref n0, .int x1] (wNet cI n0 n1 n2 n3 n4 n5 n6 N) z (fun w => w = wNet cI n0 n1 n2 n3 n4 n5 n6 N) := by
  rw [f_X0_setting] at hf
  refine q_startI (lv := [(0, .ref n0), (1, .int x1)]) (by decide +kernel) rfl (Nat.le_of_ble_eq_true rfl) ?_
  intro p e s m below meth c C hin
  refine q_aload_n C dX0_setting_0 rfl 0 rfl ?_
  refine q_get C (uW uX0_in) 0 rfl rfl 8 (by decide) (ws_in xf_X0_27) rfl rfl dX0_setting_1 ?_
  refine q_iload_n C dX0_setting_4 rfl 1 rfl ?_
  obtain ⟨z1, h_z1, hf⟩ := bnd hf
  refine q_cNI (ws' := wNet cI n0 n1 n2 n3 n4 n5 n6 N) C (c_X2_valueAt l D cI cJ cN n6 4 N.2.2.2.2.2.2.2.2 x1 z1 h_z1) (mkN (fr := 0) (lo := 0) C 4 rfl xc_X2_valueAt xs_X2_valueAt xn_X2 hd_X2_valueAt ⟨Nat.le_of_ble_eq_true rfl, Nat.le_of_ble_eq_true rfl⟩) [6] rfl (by decide) rfl rfl rfl rfl (Nat.le_of_ble_eq_true rfl) dX0_setting_5 ⟨Nat.le_of_ble_eq_true rfl, Nat.le_of_ble_eq_true rfl⟩ ?_
  have hf := Option.some.inj hf
  subst hf
  exact q_iret C (Nat.le_of_ble_eq_true rfl) (Nat.le_of_ble_eq_true rfl) rfl dX0_setting_8
set_option maxRecDepth 100000 in
set_option maxHeartbeats 4000000 in
theorem c_X0_changeSetting (l : Launch) (D : va_G) (cI cJ cN : ClassId) (n0 n1 n2 n3 n4 n5 n6 : Nat)  (N : NS) (x1 : Int32) (x2 : Int32) (z : NS) (hf : f_X0_changeSetting N x1 x2 = some z) : MV l D cI cJ cN yX0_changeSetting (WS yX0_changeSetting cX0_changeSetting 3 none) { frames := 1, cells := 0, slots := 0, locals := 22 } [.ref n0, .int x1, .int x2] (wNet cI n0 n1 n2 n3 n4 n5 n6 N) (fun w => w = wNet cI n0 n1 n2 n3 n4 n5 n6 z) := by
  rw [f_X0_changeSetting] at hf
  refine q_startV (lv := [(0, .ref n0), (1, .int x1), (2, .int x2)]) (by decide +kernel) rfl (Nat.le_of_ble_eq_true rfl) ?_
  intro p e s m below meth c C hin
  refine q_aload_n C dX0_changeSetting_0 rfl 0 rfl ?_
  refine q_get C (uW uX0_in) 0 rfl rfl 8 (by decide) (ws_in xf_X0_27) rfl rfl dX0_changeSetting_1 ?_
  refine q_iload_n C dX0_changeSetting_4 rfl 1 rfl ?_
  refine q_iload_n C dX0_changeSetting_5 rfl 2 rfl ?_
  obtain ⟨z1, h_z1, hf⟩ := bnd hf
  refine q_cNV (ws' := wNet cI n0 n1 n2 n3 n4 n5 n6 (N.1, N.2.1, N.2.2.1, N.2.2.2.1, N.2.2.2.2.1, N.2.2.2.2.2.1, N.2.2.2.2.2.2.1, N.2.2.2.2.2.2.2.1, z1)) C (c_X2_putAt l D cI cJ cN n6 4 N.2.2.2.2.2.2.2.2 x1 x2 z1 h_z1) (mkN (fr := 0) (lo := 0) C 1 rfl xc_X2_putAt xs_X2_putAt xn_X2 hd_X2_putAt ⟨Nat.le_of_ble_eq_true rfl, Nat.le_of_ble_eq_true rfl⟩) [6] rfl (by decide) rfl rfl rfl rfl (Nat.le_of_ble_eq_true rfl) dX0_changeSetting_6 ⟨Nat.le_of_ble_eq_true rfl, Nat.le_of_ble_eq_true rfl⟩ ?_
  have hf := Option.some.inj hf
  subst hf
  exact q_vret C (Nat.le_of_ble_eq_true rfl) (Nat.le_of_ble_eq_true rfl) rfl dX0_changeSetting_9
set_option maxRecDepth 100000 in
set_option maxHeartbeats 4000000 in
theorem c_X0_draw (l : Launch) (D : va_G) (cI cJ cN : ClassId) (n0 n1 n2 n3 n4 n5 n6 : Nat)  (N : NS) (x1 : Int32) (z : Int32 × NS) (hf : f_X0_draw N x1 = some z) : MI l D cI cJ cN yX0_draw (WS yX0_draw cX0_draw 4 (some .int)) { frames := 2, cells := 0, slots := 0, locals := 44 } [.ref n0, .int x1] (wNet cI n0 n1 n2 n3 n4 n5 n6 N) z.1 (fun w => w = wNet cI n0 n1 n2 n3 n4 n5 n6 z.2) := by
  rw [f_X0_draw] at hf
  refine q_startI (lv := [(0, .ref n0), (1, .int x1)]) (by decide +kernel) rfl (Nat.le_of_ble_eq_true rfl) ?_
  intro p e s m below meth c C hin
  refine q_ldc2 (v := (1103515245)) C (ws_in xk_X0_86) dX0_draw_0 ?_
  refine q_aload_n C dX0_draw_3 rfl 0 rfl ?_
  refine q_iconst (v := 3) C dX0_draw_4 (by decide) ?_
  obtain ⟨z1, h_z1, hf⟩ := bnd hf
  refine q_cVIw C (c_X0_setting l D cI cJ cN n0 n1 n2 n3 n4 n5 n6 N (3 : Int32) z1 h_z1) (mkV (fr := 1) (lo := 21) C xc_X0_setting xm_X0_88 xi_X0_setting xe_X0_setting xn_X0 hd_X0_setting ⟨Nat.le_of_ble_eq_true rfl, Nat.le_of_ble_eq_true rfl⟩) 0 rfl rfl rfl rfl (Nat.le_of_ble_eq_true rfl) dX0_draw_5 ⟨Nat.le_of_ble_eq_true rfl, Nat.le_of_ble_eq_true rfl⟩ (fun w1 hp1 => ?_)
  subst hp1
  refine q_i2l C dX0_draw_8 ?_
  refine q_lmul C dX0_draw_9 ?_
  refine q_ldc2 (v := (12345)) C (ws_in xk_X0_92) dX0_draw_10 ?_
  refine q_ladd C dX0_draw_13 ?_
  refine q_ldc2 (v := (2147483648)) C (ws_in xk_X0_94) dX0_draw_14 ?_
  refine q_lrem C dX0_draw_17 (by decide) ?_
  obtain ⟨z2, e_z2, hf⟩ := bndv hf
  refine q_topl e_z2 ?_
  refine q_lstore_n (lv' := [(2, .long z2), (0, .ref n0), (1, .int x1)]) C dX0_draw_18 rfl (by decide) rfl ?_
  refine q_aload_n C dX0_draw_19 rfl 1 rfl ?_
  refine q_iconst (v := 3) C dX0_draw_20 (by decide) ?_
  refine q_lload_n C dX0_draw_21 rfl 0 rfl ?_
  refine q_l2i C dX0_draw_22 ?_
  obtain ⟨z3, h_z3, hf⟩ := bnd hf
  refine q_cVVw C (c_X0_changeSetting l D cI cJ cN n0 n1 n2 n3 n4 n5 n6 N (3 : Int32) (z2.toInt32) z3 h_z3) (mkV (fr := 1) (lo := 22) C xc_X0_changeSetting xm_X0_34 xi_X0_changeSetting xe_X0_changeSetting xn_X0 hd_X0_changeSetting ⟨Nat.le_of_ble_eq_true rfl, Nat.le_of_ble_eq_true rfl⟩) 0 rfl rfl rfl rfl (Nat.le_of_ble_eq_true rfl) dX0_draw_23 ⟨Nat.le_of_ble_eq_true rfl, Nat.le_of_ble_eq_true rfl⟩ (fun w1 hp1 => ?_)
  subst hp1
  refine q_iload_n C dX0_draw_26 rfl 2 rfl ?_
  refine q_iconst (v := 1) C dX0_draw_27 (by decide) ?_
  refine q_icmp_ge C 35 dX0_draw_28 (by decide) (fun h => ?_) (fun h => ?_)
  · have hf := ifT hf h
    refine q_lload_n C dX0_draw_35 rfl 0 rfl ?_
    refine q_ldc2 (v := (65536)) C (ws_in xk_X0_96) dX0_draw_36 ?_
    refine q_ldiv C dX0_draw_39 (by decide) ?_
    refine q_iload_n C dX0_draw_40 rfl 2 rfl ?_
    refine q_i2l C dX0_draw_41 ?_
    obtain ⟨hg, hf⟩ := gd_some hf
    refine q_lrem C dX0_draw_42 hg ?_
    refine q_l2i C dX0_draw_43 ?_
    have hf := Option.some.inj hf
    subst hf
    exact q_iret C (Nat.le_of_ble_eq_true rfl) (Nat.le_of_ble_eq_true rfl) rfl dX0_draw_44
  · have hf := ifF hf h
    refine q_iconst (v := 0) C dX0_draw_31 (by decide) ?_
    refine q_goto C 44 dX0_draw_32 (by decide) ?_
    have hf := Option.some.inj hf
    subst hf
    exact q_iret C (Nat.le_of_ble_eq_true rfl) (Nat.le_of_ble_eq_true rfl) rfl dX0_draw_44
set_option maxRecDepth 100000 in
set_option maxHeartbeats 4000000 in
theorem c_X0_placeOf (l : Launch) (D : va_G) (cI cJ cN : ClassId) (n0 n1 n2 n3 n4 n5 n6 : Nat)  (N : NS) (x1 : Int32) (z : Int32) (hf : f_X0_placeOf N x1 = some z) : MI l D cI cJ cN yX0_placeOf (WS yX0_placeOf cX0_placeOf 2 (some .int)) { frames := 1, cells := 0, slots := 0, locals := 21 } [.ref n0, .int x1] (wNet cI n0 n1 n2 n3 n4 n5 n6 N) z (fun w => w = wNet cI n0 n1 n2 n3 n4 n5 n6 N) := by
  rw [f_X0_placeOf] at hf
  refine q_startI (lv := [(0, .ref n0), (1, .int x1)]) (by decide +kernel) rfl (Nat.le_of_ble_eq_true rfl) ?_
  intro p e s m below meth c C hin
  refine q_aload_n C dX0_placeOf_0 rfl 0 rfl ?_
  refine q_get C (uW uX0_in) 0 rfl rfl 4 (by decide) (ws_in xf_X0_15) rfl rfl dX0_placeOf_1 ?_
  refine q_iload_n C dX0_placeOf_4 rfl 1 rfl ?_
  obtain ⟨z1, h_z1, hf⟩ := bnd hf
  refine q_cNI (ws' := wNet cI n0 n1 n2 n3 n4 n5 n6 N) C (c_X2_valueAt l D cI cJ cN n2 49 N.2.2.2.2.1 x1 z1 h_z1) (mkN (fr := 0) (lo := 0) C 4 rfl xc_X2_valueAt xs_X2_valueAt xn_X2 hd_X2_valueAt ⟨Nat.le_of_ble_eq_true rfl, Nat.le_of_ble_eq_true rfl⟩) [2] rfl (by decide) rfl rfl rfl rfl (Nat.le_of_ble_eq_true rfl) dX0_placeOf_5 ⟨Nat.le_of_ble_eq_true rfl, Nat.le_of_ble_eq_true rfl⟩ ?_
  refine q_aload_n C dX0_placeOf_8 rfl 0 rfl ?_
  refine q_get C (uW uX0_in) 0 rfl rfl 0 (by decide) (ws_in xf_X0_37) rfl rfl dX0_placeOf_9 ?_
  refine q_imul C dX0_placeOf_12 ?_
  refine q_aload_n C dX0_placeOf_13 rfl 0 rfl ?_
  refine q_get C (uW uX0_in) 0 rfl rfl 3 (by decide) (ws_in xf_X0_9) rfl rfl dX0_placeOf_14 ?_
  refine q_iload_n C dX0_placeOf_17 rfl 1 rfl ?_
  obtain ⟨z2, h_z2, hf⟩ := bnd hf
  refine q_cNI (ws' := wNet cI n0 n1 n2 n3 n4 n5 n6 N) C (c_X2_valueAt l D cI cJ cN n1 49 N.2.2.2.1 x1 z2 h_z2) (mkN (fr := 0) (lo := 0) C 4 rfl xc_X2_valueAt xs_X2_valueAt xn_X2 hd_X2_valueAt ⟨Nat.le_of_ble_eq_true rfl, Nat.le_of_ble_eq_true rfl⟩) [1] rfl (by decide) rfl rfl rfl rfl (Nat.le_of_ble_eq_true rfl) dX0_placeOf_18 ⟨Nat.le_of_ble_eq_true rfl, Nat.le_of_ble_eq_true rfl⟩ ?_
  refine q_iadd C dX0_placeOf_21 ?_
  have hf := Option.some.inj hf
  subst hf
  exact q_iret C (Nat.le_of_ble_eq_true rfl) (Nat.le_of_ble_eq_true rfl) rfl dX0_placeOf_22
set_option maxRecDepth 100000 in
set_option maxHeartbeats 4000000 in
theorem c_X0_spacing (l : Launch) (D : va_G) (cI cJ cN : ClassId) (n0 n1 n2 n3 n4 n5 n6 : Nat)  (N : NS) (x1 : Int32) (x2 : Int32) (z : Int32) (hf : f_X0_spacing N x1 x2 = some z) : MI l D cI cJ cN yX0_spacing (WS yX0_spacing cX0_spacing 3 (some .int)) { frames := 1, cells := 0, slots := 0, locals := 21 } [.ref n0, .int x1, .int x2] (wNet cI n0 n1 n2 n3 n4 n5 n6 N) z (fun w => w = wNet cI n0 n1 n2 n3 n4 n5 n6 N) := by
  rw [f_X0_spacing] at hf
  refine q_startI (lv := [(0, .ref n0), (1, .int x1), (2, .int x2)]) (by decide +kernel) rfl (Nat.le_of_ble_eq_true rfl) ?_
  intro p e s m below meth c C hin
  refine q_aload_n C dX0_spacing_0 rfl 0 rfl ?_
  refine q_get C (uW uX0_in) 0 rfl rfl 3 (by decide) (ws_in xf_X0_9) rfl rfl dX0_spacing_1 ?_
  refine q_iload_n C dX0_spacing_4 rfl 1 rfl ?_
  obtain ⟨z1, h_z1, hf⟩ := bnd hf
  refine q_cNI (ws' := wNet cI n0 n1 n2 n3 n4 n5 n6 N) C (c_X2_valueAt l D cI cJ cN n1 49 N.2.2.2.1 x1 z1 h_z1) (mkN (fr := 0) (lo := 0) C 4 rfl xc_X2_valueAt xs_X2_valueAt xn_X2 hd_X2_valueAt ⟨Nat.le_of_ble_eq_true rfl, Nat.le_of_ble_eq_true rfl⟩) [1] rfl (by decide) rfl rfl rfl rfl (Nat.le_of_ble_eq_true rfl) dX0_spacing_5 ⟨Nat.le_of_ble_eq_true rfl, Nat.le_of_ble_eq_true rfl⟩ ?_
  refine q_aload_n C dX0_spacing_8 rfl 0 rfl ?_
  refine q_get C (uW uX0_in) 0 rfl rfl 3 (by decide) (ws_in xf_X0_9) rfl rfl dX0_spacing_9 ?_
  refine q_iload_n C dX0_spacing_12 rfl 2 rfl ?_
  obtain ⟨z2, h_z2, hf⟩ := bnd hf
  refine q_cNI (ws' := wNet cI n0 n1 n2 n3 n4 n5 n6 N) C (c_X2_valueAt l D cI cJ cN n1 49 N.2.2.2.1 x2 z2 h_z2) (mkN (fr := 0) (lo := 0) C 4 rfl xc_X2_valueAt xs_X2_valueAt xn_X2 hd_X2_valueAt ⟨Nat.le_of_ble_eq_true rfl, Nat.le_of_ble_eq_true rfl⟩) [1] rfl (by decide) rfl rfl rfl rfl (Nat.le_of_ble_eq_true rfl) dX0_spacing_13 ⟨Nat.le_of_ble_eq_true rfl, Nat.le_of_ble_eq_true rfl⟩ ?_
  refine q_isub C dX0_spacing_16 ?_
  refine q_mabs C (ws_in xm_X0_98) (ws_in xs_abs) (ws_in xn_Math) (ws_in xc_abs) (Nat.le_of_ble_eq_true rfl) (Nat.le_of_ble_eq_true rfl) ⟨Nat.le_of_ble_eq_true rfl, Nat.le_of_ble_eq_true rfl⟩ dX0_spacing_17 ?_
  refine q_aload_n C dX0_spacing_20 rfl 0 rfl ?_
  refine q_get C (uW uX0_in) 0 rfl rfl 4 (by decide) (ws_in xf_X0_15) rfl rfl dX0_spacing_21 ?_
  refine q_iload_n C dX0_spacing_24 rfl 1 rfl ?_
  obtain ⟨z3, h_z3, hf⟩ := bnd hf
  refine q_cNI (ws' := wNet cI n0 n1 n2 n3 n4 n5 n6 N) C (c_X2_valueAt l D cI cJ cN n2 49 N.2.2.2.2.1 x1 z3 h_z3) (mkN (fr := 0) (lo := 0) C 4 rfl xc_X2_valueAt xs_X2_valueAt xn_X2 hd_X2_valueAt ⟨Nat.le_of_ble_eq_true rfl, Nat.le_of_ble_eq_true rfl⟩) [2] rfl (by decide) rfl rfl rfl rfl (Nat.le_of_ble_eq_true rfl) dX0_spacing_25 ⟨Nat.le_of_ble_eq_true rfl, Nat.le_of_ble_eq_true rfl⟩ ?_
  refine q_aload_n C dX0_spacing_28 rfl 0 rfl ?_
  refine q_get C (uW uX0_in) 0 rfl rfl 4 (by decide) (ws_in xf_X0_15) rfl rfl dX0_spacing_29 ?_
  refine q_iload_n C dX0_spacing_32 rfl 2 rfl ?_
  obtain ⟨z4, h_z4, hf⟩ := bnd hf
  refine q_cNI (ws' := wNet cI n0 n1 n2 n3 n4 n5 n6 N) C (c_X2_valueAt l D cI cJ cN n2 49 N.2.2.2.2.1 x2 z4 h_z4) (mkN (fr := 0) (lo := 0) C 4 rfl xc_X2_valueAt xs_X2_valueAt xn_X2 hd_X2_valueAt ⟨Nat.le_of_ble_eq_true rfl, Nat.le_of_ble_eq_true rfl⟩) [2] rfl (by decide) rfl rfl rfl rfl (Nat.le_of_ble_eq_true rfl) dX0_spacing_33 ⟨Nat.le_of_ble_eq_true rfl, Nat.le_of_ble_eq_true rfl⟩ ?_
  refine q_isub C dX0_spacing_36 ?_
  refine q_mabs C (ws_in xm_X0_98) (ws_in xs_abs) (ws_in xn_Math) (ws_in xc_abs) (Nat.le_of_ble_eq_true rfl) (Nat.le_of_ble_eq_true rfl) ⟨Nat.le_of_ble_eq_true rfl, Nat.le_of_ble_eq_true rfl⟩ dX0_spacing_37 ?_
  refine q_iadd C dX0_spacing_40 ?_
  have hf := Option.some.inj hf
  subst hf
  exact q_iret C (Nat.le_of_ble_eq_true rfl) (Nat.le_of_ble_eq_true rfl) rfl dX0_spacing_41
set_option maxRecDepth 100000 in
set_option maxHeartbeats 4000000 in
theorem c_X0_swapPlaces (l : Launch) (D : va_G) (cI cJ cN : ClassId) (n0 n1 n2 n3 n4 n5 n6 : Nat)  (N : NS) (x1 : Int32) (x2 : Int32) (z : NS) (hf : f_X0_swapPlaces N x1 x2 = some z) : MV l D cI cJ cN yX0_swapPlaces (WS yX0_swapPlaces cX0_swapPlaces 5 none) { frames := 2, cells := 0, slots := 0, locals := 45 } [.ref n0, .int x1, .int x2] (wNet cI n0 n1 n2 n3 n4 n5 n6 N) (fun w => w = wNet cI n0 n1 n2 n3 n4 n5 n6 z) := by
  rw [f_X0_swapPlaces] at hf
  refine q_startV (lv := [(0, .ref n0), (1, .int x1), (2, .int x2)]) (by decide +kernel) rfl (Nat.le_of_ble_eq_true rfl) ?_
  intro p e s m below meth c C hin
  refine q_aload_n C dX0_swapPlaces_0 rfl 0 rfl ?_
  refine q_get C (uW uX0_in) 0 rfl rfl 3 (by decide) (ws_in xf_X0_9) rfl rfl dX0_swapPlaces_1 ?_
  refine q_iload_n C dX0_swapPlaces_4 rfl 1 rfl ?_
  obtain ⟨z1, h_z1, hf⟩ := bnd hf
  refine q_cNI (ws' := wNet cI n0 n1 n2 n3 n4 n5 n6 N) C (c_X2_valueAt l D cI cJ cN n1 49 N.2.2.2.1 x1 z1 h_z1) (mkN (fr := 0) (lo := 0) C 4 rfl xc_X2_valueAt xs_X2_valueAt xn_X2 hd_X2_valueAt ⟨Nat.le_of_ble_eq_true rfl, Nat.le_of_ble_eq_true rfl⟩) [1] rfl (by decide) rfl rfl rfl rfl (Nat.le_of_ble_eq_true rfl) dX0_swapPlaces_5 ⟨Nat.le_of_ble_eq_true rfl, Nat.le_of_ble_eq_true rfl⟩ ?_
  refine q_istore_n (lv' := [(3, .int z1), (0, .ref n0), (1, .int x1), (2, .int x2)]) C dX0_swapPlaces_8 rfl (by decide) rfl ?_
  refine q_aload_n C dX0_swapPlaces_9 rfl 1 rfl ?_
  refine q_get C (uW uX0_in) 0 rfl rfl 4 (by decide) (ws_in xf_X0_15) rfl rfl dX0_swapPlaces_10 ?_
  refine q_iload_n C dX0_swapPlaces_13 rfl 2 rfl ?_
  obtain ⟨z2, h_z2, hf⟩ := bnd hf
  refine q_cNI (ws' := wNet cI n0 n1 n2 n3 n4 n5 n6 N) C (c_X2_valueAt l D cI cJ cN n2 49 N.2.2.2.2.1 x1 z2 h_z2) (mkN (fr := 0) (lo := 0) C 4 rfl xc_X2_valueAt xs_X2_valueAt xn_X2 hd_X2_valueAt ⟨Nat.le_of_ble_eq_true rfl, Nat.le_of_ble_eq_true rfl⟩) [2] rfl (by decide) rfl rfl rfl rfl (Nat.le_of_ble_eq_true rfl) dX0_swapPlaces_14 ⟨Nat.le_of_ble_eq_true rfl, Nat.le_of_ble_eq_true rfl⟩ ?_
  refine q_istore (lv' := [(4, .int z2), (3, .int z1), (0, .ref n0), (1, .int x1), (2, .int x2)]) C dX0_swapPlaces_17 (by decide) rfl ?_
  refine q_aload_n C dX0_swapPlaces_19 rfl 2 rfl ?_
  refine q_iload_n C dX0_swapPlaces_20 rfl 3 rfl ?_
  refine q_aload_n C dX0_swapPlaces_21 rfl 2 rfl ?_
  refine q_get C (uW uX0_in) 0 rfl rfl 3 (by decide) (ws_in xf_X0_9) rfl rfl dX0_swapPlaces_22 ?_
  refine q_iload_n C dX0_swapPlaces_25 rfl 4 rfl ?_
  obtain ⟨z3, h_z3, hf⟩ := bnd hf
  refine q_cNI (ws' := wNet cI n0 n1 n2 n3 n4 n5 n6 N) C (c_X2_valueAt l D cI cJ cN n1 49 N.2.2.2.1 x2 z3 h_z3) (mkN (fr := 0) (lo := 0) C 4 rfl xc_X2_valueAt xs_X2_valueAt xn_X2 hd_X2_valueAt ⟨Nat.le_of_ble_eq_true rfl, Nat.le_of_ble_eq_true rfl⟩) [1] rfl (by decide) rfl rfl rfl rfl (Nat.le_of_ble_eq_true rfl) dX0_swapPlaces_26 ⟨Nat.le_of_ble_eq_true rfl, Nat.le_of_ble_eq_true rfl⟩ ?_
  refine q_aload_n C dX0_swapPlaces_29 rfl 2 rfl ?_
  refine q_get C (uW uX0_in) 0 rfl rfl 4 (by decide) (ws_in xf_X0_15) rfl rfl dX0_swapPlaces_30 ?_
  refine q_iload_n C dX0_swapPlaces_33 rfl 4 rfl ?_
  obtain ⟨z4, h_z4, hf⟩ := bnd hf
  refine q_cNI (ws' := wNet cI n0 n1 n2 n3 n4 n5 n6 N) C (c_X2_valueAt l D cI cJ cN n2 49 N.2.2.2.2.1 x2 z4 h_z4) (mkN (fr := 0) (lo := 0) C 4 rfl xc_X2_valueAt xs_X2_valueAt xn_X2 hd_X2_valueAt ⟨Nat.le_of_ble_eq_true rfl, Nat.le_of_ble_eq_true rfl⟩) [2] rfl (by decide) rfl rfl rfl rfl (Nat.le_of_ble_eq_true rfl) dX0_swapPlaces_34 ⟨Nat.le_of_ble_eq_true rfl, Nat.le_of_ble_eq_true rfl⟩ ?_
  obtain ⟨z5, h_z5, hf⟩ := bnd hf
  refine q_cVVw C (c_X0_settle l D cI cJ cN n0 n1 n2 n3 n4 n5 n6 N x1 z3 z4 z5 h_z5) (mkV (fr := 1) (lo := 22) C xc_X0_settle xm_X0_56 xi_X0_settle xe_X0_settle xn_X0 hd_X0_settle ⟨Nat.le_of_ble_eq_true rfl, Nat.le_of_ble_eq_true rfl⟩) 0 rfl rfl rfl rfl (Nat.le_of_ble_eq_true rfl) dX0_swapPlaces_37 ⟨Nat.le_of_ble_eq_true rfl, Nat.le_of_ble_eq_true rfl⟩ (fun w1 hp1 => ?_)
  subst hp1
  refine q_aload_n C dX0_swapPlaces_40 rfl 2 rfl ?_
  refine q_iload_n C dX0_swapPlaces_41 rfl 4 rfl ?_
  refine q_iload_n C dX0_swapPlaces_42 rfl 1 rfl ?_
  refine q_iload C dX0_swapPlaces_43 0 rfl ?_
  obtain ⟨z6, h_z6, hf⟩ := bnd hf
  refine q_cVVw C (c_X0_settle l D cI cJ cN n0 n1 n2 n3 n4 n5 n6 z5 x2 z1 z2 z6 h_z6) (mkV (fr := 1) (lo := 22) C xc_X0_settle xm_X0_56 xi_X0_settle xe_X0_settle xn_X0 hd_X0_settle ⟨Nat.le_of_ble_eq_true rfl, Nat.le_of_ble_eq_true rfl⟩) 0 rfl rfl rfl rfl (Nat.le_of_ble_eq_true rfl) dX0_swapPlaces_45 ⟨Nat.le_of_ble_eq_true rfl, Nat.le_of_ble_eq_true rfl⟩ (fun w1 hp1 => ?_)
  subst hp1
  have hf := Option.some.inj hf
  subst hf
  exact q_vret C (Nat.le_of_ble_eq_true rfl) (Nat.le_of_ble_eq_true rfl) rfl dX0_swapPlaces_48
set_option maxRecDepth 100000 in
set_option maxHeartbeats 4000000 in
theorem c_X0_linksOf (l : Launch) (D : va_G) (cI cJ cN : ClassId) (n0 n1 n2 n3 n4 n5 n6 : Nat)  (N : NS) (x1 : Int32) (z : Int32) (hf : f_X0_linksOf N x1 = some z) : MI l D cI cJ cN yX0_linksOf (WS yX0_linksOf cX0_linksOf 2 (some .int)) { frames := 1, cells := 0, slots := 0, locals := 21 } [.ref n0, .int x1] (wNet cI n0 n1 n2 n3 n4 n5 n6 N) z (fun w => w = wNet cI n0 n1 n2 n3 n4 n5 n6 N) := by
  rw [f_X0_linksOf] at hf
  refine q_startI (lv := [(0, .ref n0), (1, .int x1)]) (by decide +kernel) rfl (Nat.le_of_ble_eq_true rfl) ?_
  intro p e s m below meth c C hin
  refine q_aload_n C dX0_linksOf_0 rfl 0 rfl ?_
  refine q_get C (uW uX0_in) 0 rfl rfl 6 (by decide) (ws_in xf_X0_21) rfl rfl dX0_linksOf_1 ?_
  refine q_iload_n C dX0_linksOf_4 rfl 1 rfl ?_
  obtain ⟨z1, h_z1, hf⟩ := bnd hf
  refine q_cNI (ws' := wNet cI n0 n1 n2 n3 n4 n5 n6 N) C (c_X2_valueAt l D cI cJ cN n4 49 N.2.2.2.2.2.2.1 x1 z1 h_z1) (mkN (fr := 0) (lo := 0) C 4 rfl xc_X2_valueAt xs_X2_valueAt xn_X2 hd_X2_valueAt ⟨Nat.le_of_ble_eq_true rfl, Nat.le_of_ble_eq_true rfl⟩) [4] rfl (by decide) rfl rfl rfl rfl (Nat.le_of_ble_eq_true rfl) dX0_linksOf_5 ⟨Nat.le_of_ble_eq_true rfl, Nat.le_of_ble_eq_true rfl⟩ ?_
  have hf := Option.some.inj hf
  subst hf
  exact q_iret C (Nat.le_of_ble_eq_true rfl) (Nat.le_of_ble_eq_true rfl) rfl dX0_linksOf_8
set_option maxRecDepth 100000 in
set_option maxHeartbeats 4000000 in
theorem c_X0_linkAt (l : Launch) (D : va_G) (cI cJ cN : ClassId) (n0 n1 n2 n3 n4 n5 n6 : Nat)  (N : NS) (x1 : Int32) (x2 : Int32) (z : Int32) (hf : f_X0_linkAt N x1 x2 = some z) : MI l D cI cJ cN yX0_linkAt (WS yX0_linkAt cX0_linkAt 3 (some .int)) { frames := 1, cells := 0, slots := 0, locals := 21 } [.ref n0, .int x1, .int x2] (wNet cI n0 n1 n2 n3 n4 n5 n6 N) z (fun w => w = wNet cI n0 n1 n2 n3 n4 n5 n6 N) := by
  rw [f_X0_linkAt] at hf
  refine q_startI (lv := [(0, .ref n0), (1, .int x1), (2, .int x2)]) (by decide +kernel) rfl (Nat.le_of_ble_eq_true rfl) ?_
  intro p e s m below meth c C hin
  refine q_aload_n C dX0_linkAt_0 rfl 0 rfl ?_
  refine q_get C (uW uX0_in) 0 rfl rfl 7 (by decide) (ws_in xf_X0_24) rfl rfl dX0_linkAt_1 ?_
  refine q_iload_n C dX0_linkAt_4 rfl 1 rfl ?_
  refine q_iconst (v := 3) C dX0_linkAt_5 (by decide) ?_
  refine q_imul C dX0_linkAt_6 ?_
  refine q_iload_n C dX0_linkAt_7 rfl 2 rfl ?_
  refine q_iadd C dX0_linkAt_8 ?_
  obtain ⟨z1, h_z1, hf⟩ := bnd hf
  refine q_cNI (ws' := wNet cI n0 n1 n2 n3 n4 n5 n6 N) C (c_X2_valueAt l D cI cJ cN n5 147 N.2.2.2.2.2.2.2.1 ((x1 * (3 : Int32)) + x2) z1 h_z1) (mkN (fr := 0) (lo := 0) C 4 rfl xc_X2_valueAt xs_X2_valueAt xn_X2 hd_X2_valueAt ⟨Nat.le_of_ble_eq_true rfl, Nat.le_of_ble_eq_true rfl⟩) [5] rfl (by decide) rfl rfl rfl rfl (Nat.le_of_ble_eq_true rfl) dX0_linkAt_9 ⟨Nat.le_of_ble_eq_true rfl, Nat.le_of_ble_eq_true rfl⟩ ?_
  have hf := Option.some.inj hf
  subst hf
  exact q_iret C (Nat.le_of_ble_eq_true rfl) (Nat.le_of_ble_eq_true rfl) rfl dX0_linkAt_12
set_option maxRecDepth 100000 in
set_option maxHeartbeats 4000000 in
theorem l_X0_linkIndex_2 {p : Program} {l : Launch} {e : Env} {s : State} {m : MethodId} {args : Array Value} {below : List Frame} {meth : Method} {c : Code} {D : va_G} {cI cJ cN : ClassId} {W0 : va_W} {n0 n1 n2 n3 n4 n5 n6 : Nat} {z : Int32} (C : CX p l s m args meth c cX0_linkIndex 4 yX0_linkIndex.cls (WS yX0_linkIndex cX0_linkIndex 4 (some .int)) (some .int) D cI cJ cN (va_A W0 s.heap.size)) : ∀ (fu : Nat) (N : NS) (x1 : Int32) (x2 : Int32) (x3 : Int32), g_X0_linkIndex_2 fu N x1 x2 x3 = some z → WW p l e { frames := 2, cells := 0, slots := 0, locals := 43 } s m args below meth c D 4 (va_A W0 s.heap.size) 0 0 (QI below args s D W0 { frames := 2, cells := 0, slots := 0, locals := 43 } z (fun w => w = wNet cI n0 n1 n2 n3 n4 n5 n6 N)) 2 [(0, .ref n0), (1, .int x1), (2, .int x2), (3, .int x3)] [] (wNet cI n0 n1 n2 n3 n4 n5 n6 N) := by
  intro fu
  induction fu with
  | zero =>
    intro N x1 x2 x3 hf
    rw [g_X0_linkIndex_2] at hf
    cases hf
  | succ fu ih =>
    intro N x1 x2 x3 hf
    rw [g_X0_linkIndex_2] at hf
    refine q_iload_n C dX0_linkIndex_2 rfl 3 rfl ?_
    refine q_aload_n C dX0_linkIndex_3 rfl 0 rfl ?_
    refine q_iload_n C dX0_linkIndex_4 rfl 1 rfl ?_
    obtain ⟨z1, h_z1, hf⟩ := bnd hf
    refine q_cVIw C (c_X0_linksOf l D cI cJ cN n0 n1 n2 n3 n4 n5 n6 N x1 z1 h_z1) (mkV (fr := 1) (lo := 21) C xc_X0_linksOf xm_X0_103 xi_X0_linksOf xe_X0_linksOf xn_X0 hd_X0_linksOf ⟨Nat.le_of_ble_eq_true rfl, Nat.le_of_ble_eq_true rfl⟩) 0 rfl rfl rfl rfl (Nat.le_of_ble_eq_true rfl) dX0_linkIndex_5 ⟨Nat.le_of_ble_eq_true rfl, Nat.le_of_ble_eq_true rfl⟩ (fun w1 hp1 => ?_)
    subst hp1
    refine q_icmp_ge C 29 dX0_linkIndex_8 (by decide) (fun h => ?_) (fun h => ?_)
    · have hf := ifT hf h
      refine q_iconst (v := -1) C dX0_linkIndex_29 (by decide) ?_
      have hf := Option.some.inj hf
      subst hf
      exact q_iret C (Nat.le_of_ble_eq_true rfl) (Nat.le_of_ble_eq_true rfl) rfl dX0_linkIndex_30
    · have hf := ifF hf h
      refine q_aload_n C dX0_linkIndex_11 rfl 0 rfl ?_
      refine q_iload_n C dX0_linkIndex_12 rfl 1 rfl ?_
      refine q_iload_n C dX0_linkIndex_13 rfl 3 rfl ?_
      obtain ⟨z2, h_z2, hf⟩ := bnd hf
      refine q_cVIw C (c_X0_linkAt l D cI cJ cN n0 n1 n2 n3 n4 n5 n6 N x1 x3 z2 h_z2) (mkV (fr := 1) (lo := 21) C xc_X0_linkAt xm_X0_106 xi_X0_linkAt xe_X0_linkAt xn_X0 hd_X0_linkAt ⟨Nat.le_of_ble_eq_true rfl, Nat.le_of_ble_eq_true rfl⟩) 0 rfl rfl rfl rfl (Nat.le_of_ble_eq_true rfl) dX0_linkIndex_14 ⟨Nat.le_of_ble_eq_true rfl, Nat.le_of_ble_eq_true rfl⟩ (fun w1 hp1 => ?_)
      subst hp1
      refine q_iload_n C dX0_linkIndex_17 rfl 2 rfl ?_
      refine q_icmp_ne C 23 dX0_linkIndex_18 (by decide) (fun h => ?_) (fun h => ?_)
      · have hf := ifF hf h
        refine q_iinc (v := (x3 + (1 : Int32))) (lv' := [(3, .int (x3 + (1 : Int32))), (0, .ref n0), (1, .int x1), (2, .int x2)]) C dX0_linkIndex_23 3 rfl rfl (by decide) rfl ?_
        refine q_goto C 2 dX0_linkIndex_26 (by decide) ?_
        refine q_sub (lv' := [(0, .ref n0), (1, .int x1), (2, .int x2), (3, .int (x3 + (1 : Int32)))]) [1, 2, 3, 0] rfl ?_
        exact ih N x1 x2 (x3 + (1 : Int32)) hf
      · have hf := ifT hf h
        refine q_iload_n C dX0_linkIndex_21 rfl 3 rfl ?_
        have hf := Option.some.inj hf
        subst hf
        exact q_iret C (Nat.le_of_ble_eq_true rfl) (Nat.le_of_ble_eq_true rfl) rfl dX0_linkIndex_22
set_option maxRecDepth 100000 in
set_option maxHeartbeats 4000000 in
theorem c_X0_linkIndex (l : Launch) (D : va_G) (cI cJ cN : ClassId) (n0 n1 n2 n3 n4 n5 n6 : Nat)  (N : NS) (x1 : Int32) (x2 : Int32) (z : Int32) (hf : f_X0_linkIndex N x1 x2 = some z) : MI l D cI cJ cN yX0_linkIndex (WS yX0_linkIndex cX0_linkIndex 4 (some .int)) { frames := 2, cells := 0, slots := 0, locals := 43 } [.ref n0, .int x1, .int x2] (wNet cI n0 n1 n2 n3 n4 n5 n6 N) z (fun w => w = wNet cI n0 n1 n2 n3 n4 n5 n6 N) := by
  rw [f_X0_linkIndex] at hf
  refine q_startI (lv := [(0, .ref n0), (1, .int x1), (2, .int x2)]) (by decide +kernel) rfl (Nat.le_of_ble_eq_true rfl) ?_
  intro p e s m below meth c C hin
  refine q_iconst (v := 0) C dX0_linkIndex_0 (by decide) ?_
  refine q_istore_n (lv' := [(3, .int (0 : Int32)), (0, .ref n0), (1, .int x1), (2, .int x2)]) C dX0_linkIndex_1 rfl (by decide) rfl ?_
  refine q_sub (lv' := [(0, .ref n0), (1, .int x1), (2, .int x2), (3, .int (0 : Int32))]) [1, 2, 3, 0] rfl ?_
  exact l_X0_linkIndex_2 C FU N x1 x2 (0 : Int32) hf
set_option maxRecDepth 100000 in
set_option maxHeartbeats 4000000 in
theorem l_X0_takeLink_4 {p : Program} {l : Launch} {e : Env} {s : State} {m : MethodId} {args : Array Value} {below : List Frame} {meth : Method} {c : Code} {D : va_G} {cI cJ cN : ClassId} {W0 : va_W} {n0 n1 n2 n3 n4 n5 n6 : Nat} {z : NS} (C : CX p l s m args meth c cX0_takeLink 4 yX0_takeLink.cls (WS yX0_takeLink cX0_takeLink 4 none) none D cI cJ cN (va_A W0 s.heap.size)) : ∀ (fu : Nat) (N : NS) (x1 : Int32) (x3 : Int32), g_X0_takeLink_4 fu N x1 x3 = some z → WW p l e { frames := 2, cells := 0, slots := 0, locals := 43 } s m args below meth c D 4 (va_A W0 s.heap.size) 0 0 (QV below args s D W0 { frames := 2, cells := 0, slots := 0, locals := 43 } (fun w => w = wNet cI n0 n1 n2 n3 n4 n5 n6 z)) 4 [(0, .ref n0), (1, .int x1), (3, .int x3)] [] (wNet cI n0 n1 n2 n3 n4 n5 n6 N) := by
  intro fu
  induction fu with
  | zero =>
    intro N x1 x3 hf
    rw [g_X0_takeLink_4] at hf
    cases hf
  | succ fu ih =>
    intro N x1 x3 hf
    rw [g_X0_takeLink_4] at hf
    refine q_iload_n C dX0_takeLink_4 rfl 2 rfl ?_
    refine q_aload_n C dX0_takeLink_5 rfl 0 rfl ?_
    refine q_iload_n C dX0_takeLink_6 rfl 1 rfl ?_
    obtain ⟨z1, h_z1, hf⟩ := bnd hf
    refine q_cVIw C (c_X0_linksOf l D cI cJ cN n0 n1 n2 n3 n4 n5 n6 N x1 z1 h_z1) (mkV (fr := 1) (lo := 21) C xc_X0_linksOf xm_X0_103 xi_X0_linksOf xe_X0_linksOf xn_X0 hd_X0_linksOf ⟨Nat.le_of_ble_eq_true rfl, Nat.le_of_ble_eq_true rfl⟩) 0 rfl rfl rfl rfl (Nat.le_of_ble_eq_true rfl) dX0_takeLink_7 ⟨Nat.le_of_ble_eq_true rfl, Nat.le_of_ble_eq_true rfl⟩ (fun w1 hp1 => ?_)
    subst hp1
    refine q_icmp_ge C 39 dX0_takeLink_10 (by decide) (fun h => ?_) (fun h => ?_)
    · have hf := ifT hf h
      refine q_aload_n C dX0_takeLink_39 rfl 0 rfl ?_
      refine q_get C (uW uX0_in) 0 rfl rfl 6 (by decide) (ws_in xf_X0_21) rfl rfl dX0_takeLink_40 ?_
      refine q_iload_n C dX0_takeLink_43 rfl 1 rfl ?_
      refine q_aload_n C dX0_takeLink_44 rfl 0 rfl ?_
      refine q_iload_n C dX0_takeLink_45 rfl 1 rfl ?_
      obtain ⟨z2, h_z2, hf⟩ := bnd hf
      refine q_cVIw C (c_X0_linksOf l D cI cJ cN n0 n1 n2 n3 n4 n5 n6 N x1 z2 h_z2) (mkV (fr := 1) (lo := 21) C xc_X0_linksOf xm_X0_103 xi_X0_linksOf xe_X0_linksOf xn_X0 hd_X0_linksOf ⟨Nat.le_of_ble_eq_true rfl, Nat.le_of_ble_eq_true rfl⟩) 0 rfl rfl rfl rfl (Nat.le_of_ble_eq_true rfl) dX0_takeLink_46 ⟨Nat.le_of_ble_eq_true rfl, Nat.le_of_ble_eq_true rfl⟩ (fun w1 hp1 => ?_)
      subst hp1
      refine q_iconst (v := 1) C dX0_takeLink_49 (by decide) ?_
      refine q_isub C dX0_takeLink_50 ?_
      obtain ⟨z3, h_z3, hf⟩ := bnd hf
      refine q_cNV (ws' := wNet cI n0 n1 n2 n3 n4 n5 n6 (N.1, N.2.1, N.2.2.1, N.2.2.2.1, N.2.2.2.2.1, N.2.2.2.2.2.1, z3, N.2.2.2.2.2.2.2.1, N.2.2.2.2.2.2.2.2)) C (c_X2_putAt l D cI cJ cN n4 49 N.2.2.2.2.2.2.1 x1 (z2 - (1 : Int32)) z3 h_z3) (mkN (fr := 0) (lo := 0) C 1 rfl xc_X2_putAt xs_X2_putAt xn_X2 hd_X2_putAt ⟨Nat.le_of_ble_eq_true rfl, Nat.le_of_ble_eq_true rfl⟩) [4] rfl (by decide) rfl rfl rfl rfl (Nat.le_of_ble_eq_true rfl) dX0_takeLink_51 ⟨Nat.le_of_ble_eq_true rfl, Nat.le_of_ble_eq_true rfl⟩ ?_
      have hf := Option.some.inj hf
      subst hf
      exact q_vret C (Nat.le_of_ble_eq_true rfl) (Nat.le_of_ble_eq_true rfl) rfl dX0_takeLink_54
    · have hf := ifF hf h
      refine q_aload_n C dX0_takeLink_13 rfl 0 rfl ?_
      refine q_get C (uW uX0_in) 0 rfl rfl 7 (by decide) (ws_in xf_X0_24) rfl rfl dX0_takeLink_14 ?_
      refine q_iload_n C dX0_takeLink_17 rfl 1 rfl ?_
      refine q_iconst (v := 3) C dX0_takeLink_18 (by decide) ?_
      refine q_imul C dX0_takeLink_19 ?_
      refine q_iload_n C dX0_takeLink_20 rfl 2 rfl ?_
      refine q_iadd C dX0_takeLink_21 ?_
      refine q_iconst (v := 1) C dX0_takeLink_22 (by decide) ?_
      refine q_isub C dX0_takeLink_23 ?_
      refine q_aload_n C dX0_takeLink_24 rfl 0 rfl ?_
      refine q_iload_n C dX0_takeLink_25 rfl 1 rfl ?_
      refine q_iload_n C dX0_takeLink_26 rfl 2 rfl ?_
      obtain ⟨z4, h_z4, hf⟩ := bnd hf
      refine q_cVIw C (c_X0_linkAt l D cI cJ cN n0 n1 n2 n3 n4 n5 n6 N x1 x3 z4 h_z4) (mkV (fr := 1) (lo := 21) C xc_X0_linkAt xm_X0_106 xi_X0_linkAt xe_X0_linkAt xn_X0 hd_X0_linkAt ⟨Nat.le_of_ble_eq_true rfl, Nat.le_of_ble_eq_true rfl⟩) 0 rfl rfl rfl rfl (Nat.le_of_ble_eq_true rfl) dX0_takeLink_27 ⟨Nat.le_of_ble_eq_true rfl, Nat.le_of_ble_eq_true rfl⟩ (fun w1 hp1 => ?_)
      subst hp1
      obtain ⟨z5, h_z5, hf⟩ := bnd hf
      refine q_cNV (ws' := wNet cI n0 n1 n2 n3 n4 n5 n6 (N.1, N.2.1, N.2.2.1, N.2.2.2.1, N.2.2.2.2.1, N.2.2.2.2.2.1, N.2.2.2.2.2.2.1, z5, N.2.2.2.2.2.2.2.2)) C (c_X2_putAt l D cI cJ cN n5 147 N.2.2.2.2.2.2.2.1 (((x1 * (3 : Int32)) + x3) - (1 : Int32)) z4 z5 h_z5) (mkN (fr := 0) (lo := 0) C 1 rfl xc_X2_putAt xs_X2_putAt xn_X2 hd_X2_putAt ⟨Nat.le_of_ble_eq_true rfl, Nat.le_of_ble_eq_true rfl⟩) [5] rfl (by decide) rfl rfl rfl rfl (Nat.le_of_ble_eq_true rfl) dX0_takeLink_30 ⟨Nat.le_of_ble_eq_true rfl, Nat.le_of_ble_eq_true rfl⟩ ?_
      refine q_iinc (v := (x3 + (1 : Int32))) (lv' := [(3, .int (x3 + (1 : Int32))), (0, .ref n0), (1, .int x1)]) C dX0_takeLink_33 2 rfl rfl (by decide) rfl ?_
      refine q_goto C 4 dX0_takeLink_36 (by decide) ?_
      refine q_sub (lv' := [(0, .ref n0), (1, .int x1), (3, .int (x3 + (1 : Int32)))]) [1, 2, 0] rfl ?_
      exact ih (N.1, N.2.1, N.2.2.1, N.2.2.2.1, N.2.2.2.2.1, N.2.2.2.2.2.1, N.2.2.2.2.2.2.1, z5, N.2.2.2.2.2.2.2.2) x1 (x3 + (1 : Int32)) hf
set_option maxRecDepth 100000 in
set_option maxHeartbeats 4000000 in
theorem c_X0_takeLink (l : Launch) (D : va_G) (cI cJ cN : ClassId) (n0 n1 n2 n3 n4 n5 n6 : Nat)  (N : NS) (x1 : Int32) (x2 : Int32) (z : NS) (hf : f_X0_takeLink N x1 x2 = some z) : MV l D cI cJ cN yX0_takeLink (WS yX0_takeLink cX0_takeLink 4 none) { frames := 2, cells := 0, slots := 0, locals := 43 } [.ref n0, .int x1, .int x2] (wNet cI n0 n1 n2 n3 n4 n5 n6 N) (fun w => w = wNet cI n0 n1 n2 n3 n4 n5 n6 z) := by
  rw [f_X0_takeLink] at hf
  refine q_startV (lv := [(0, .ref n0), (1, .int x1), (2, .int x2)]) (by decide +kernel) rfl (Nat.le_of_ble_eq_true rfl) ?_
  intro p e s m below meth c C hin
  refine q_iload_n C dX0_takeLink_0 rfl 2 rfl ?_
  refine q_iconst (v := 1) C dX0_takeLink_1 (by decide) ?_
  refine q_iadd C dX0_takeLink_2 ?_
  refine q_istore_n (lv' := [(3, .int (x2 + (1 : Int32))), (0, .ref n0), (1, .int x1), (2, .int x2)]) C dX0_takeLink_3 rfl (by decide) rfl ?_
  refine q_sub (lv' := [(0, .ref n0), (1, .int x1), (3, .int (x2 + (1 : Int32)))]) [1, 2, 0] rfl ?_
  exact l_X0_takeLink_4 C FU N x1 (x2 + (1 : Int32)) hf
set_option maxRecDepth 100000 in
set_option maxHeartbeats 4000000 in
theorem l_X0_giveLink_35 {p : Program} {l : Launch} {e : Env} {s : State} {m : MethodId} {args : Array Value} {below : List Frame} {meth : Method} {c : Code} {D : va_G} {cI cJ cN : ClassId} {W0 : va_W} {n0 n1 n2 n3 n4 n5 n6 : Nat} {z : NS} (C : CX p l s m args meth c cX0_giveLink 3 yX0_giveLink.cls (WS yX0_giveLink cX0_giveLink 3 none) none D cI cJ cN (va_A W0 s.heap.size)) : ∀ (N : NS) (x1 : Int32) (x2 : Int32), g_X0_giveLink_35 N x1 x2 = some z → WW p l e { frames := 3, cells := 0, slots := 0, locals := 66 } s m args below meth c D 3 (va_A W0 s.heap.size) 0 0 (QV below args s D W0 { frames := 3, cells := 0, slots := 0, locals := 66 } (fun w => w = wNet cI n0 n1 n2 n3 n4 n5 n6 z)) 35 [(0, .ref n0), (1, .int x1), (2, .int x2)] [] (wNet cI n0 n1 n2 n3 n4 n5 n6 N) := by
  intro N x1 x2 hf
  rw [g_X0_giveLink_35] at hf
  refine q_aload_n C dX0_giveLink_35 rfl 0 rfl ?_
  refine q_get C (uW uX0_in) 0 rfl rfl 7 (by decide) (ws_in xf_X0_24) rfl rfl dX0_giveLink_36 ?_
  refine q_iload_n C dX0_giveLink_39 rfl 1 rfl ?_
  refine q_iconst (v := 3) C dX0_giveLink_40 (by decide) ?_
  refine q_imul C dX0_giveLink_41 ?_
  refine q_aload_n C dX0_giveLink_42 rfl 0 rfl ?_
  refine q_iload_n C dX0_giveLink_43 rfl 1 rfl ?_
  obtain ⟨z1, h_z1, hf⟩ := bnd hf
  refine q_cVIw C (c_X0_linksOf l D cI cJ cN n0 n1 n2 n3 n4 n5 n6 N x1 z1 h_z1) (mkV (fr := 1) (lo := 21) C xc_X0_linksOf xm_X0_103 xi_X0_linksOf xe_X0_linksOf xn_X0 hd_X0_linksOf ⟨Nat.le_of_ble_eq_true rfl, Nat.le_of_ble_eq_true rfl⟩) 0 rfl rfl rfl rfl (Nat.le_of_ble_eq_true rfl) dX0_giveLink_44 ⟨Nat.le_of_ble_eq_true rfl, Nat.le_of_ble_eq_true rfl⟩ (fun w1 hp1 => ?_)
  subst hp1
  refine q_iadd C dX0_giveLink_47 ?_
  refine q_iload_n C dX0_giveLink_48 rfl 2 rfl ?_
  obtain ⟨z2, h_z2, hf⟩ := bnd hf
  refine q_cNV (ws' := wNet cI n0 n1 n2 n3 n4 n5 n6 (N.1, N.2.1, N.2.2.1, N.2.2.2.1, N.2.2.2.2.1, N.2.2.2.2.2.1, N.2.2.2.2.2.2.1, z2, N.2.2.2.2.2.2.2.2)) C (c_X2_putAt l D cI cJ cN n5 147 N.2.2.2.2.2.2.2.1 ((x1 * (3 : Int32)) + z1) x2 z2 h_z2) (mkN (fr := 0) (lo := 0) C 1 rfl xc_X2_putAt xs_X2_putAt xn_X2 hd_X2_putAt ⟨Nat.le_of_ble_eq_true rfl, Nat.le_of_ble_eq_true rfl⟩) [5] rfl (by decide) rfl rfl rfl rfl (Nat.le_of_ble_eq_true rfl) dX0_giveLink_49 ⟨Nat.le_of_ble_eq_true rfl, Nat.le_of_ble_eq_true rfl⟩ ?_
  refine q_aload_n C dX0_giveLink_52 rfl 0 rfl ?_
  refine q_get C (uW uX0_in) 0 rfl rfl 6 (by decide) (ws_in xf_X0_21) rfl rfl dX0_giveLink_53 ?_
  refine q_iload_n C dX0_giveLink_56 rfl 1 rfl ?_
  refine q_aload_n C dX0_giveLink_57 rfl 0 rfl ?_
  refine q_iload_n C dX0_giveLink_58 rfl 1 rfl ?_
  obtain ⟨z3, h_z3, hf⟩ := bnd hf
  refine q_cVIw C (c_X0_linksOf l D cI cJ cN n0 n1 n2 n3 n4 n5 n6 (N.1, N.2.1, N.2.2.1, N.2.2.2.1, N.2.2.2.2.1, N.2.2.2.2.2.1, N.2.2.2.2.2.2.1, z2, N.2.2.2.2.2.2.2.2) x1 z3 h_z3) (mkV (fr := 1) (lo := 21) C xc_X0_linksOf xm_X0_103 xi_X0_linksOf xe_X0_linksOf xn_X0 hd_X0_linksOf ⟨Nat.le_of_ble_eq_true rfl, Nat.le_of_ble_eq_true rfl⟩) 0 rfl rfl rfl rfl (Nat.le_of_ble_eq_true rfl) dX0_giveLink_59 ⟨Nat.le_of_ble_eq_true rfl, Nat.le_of_ble_eq_true rfl⟩ (fun w1 hp1 => ?_)
  subst hp1
  refine q_iconst (v := 1) C dX0_giveLink_62 (by decide) ?_
  refine q_iadd C dX0_giveLink_63 ?_
  obtain ⟨z4, h_z4, hf⟩ := bnd hf
  refine q_cNV (ws' := wNet cI n0 n1 n2 n3 n4 n5 n6 (N.1, N.2.1, N.2.2.1, N.2.2.2.1, N.2.2.2.2.1, N.2.2.2.2.2.1, z4, z2, N.2.2.2.2.2.2.2.2)) C (c_X2_putAt l D cI cJ cN n4 49 N.2.2.2.2.2.2.1 x1 (z3 + (1 : Int32)) z4 h_z4) (mkN (fr := 0) (lo := 0) C 1 rfl xc_X2_putAt xs_X2_putAt xn_X2 hd_X2_putAt ⟨Nat.le_of_ble_eq_true rfl, Nat.le_of_ble_eq_true rfl⟩) [4] rfl (by decide) rfl rfl rfl rfl (Nat.le_of_ble_eq_true rfl) dX0_giveLink_64 ⟨Nat.le_of_ble_eq_true rfl, Nat.le_of_ble_eq_true rfl⟩ ?_
  have hf := Option.some.inj hf
  subst hf
  exact q_vret C (Nat.le_of_ble_eq_true rfl) (Nat.le_of_ble_eq_true rfl) rfl dX0_giveLink_67
set_option maxRecDepth 100000 in
set_option maxHeartbeats 4000000 in
theorem c_X0_giveLink (l : Launch) (D : va_G) (cI cJ cN : ClassId) (n0 n1 n2 n3 n4 n5 n6 : Nat)  (N : NS) (x1 : Int32) (x2 : Int32) (z : NS) (hf : f_X0_giveLink N x1 x2 = some z) : MV l D cI cJ cN yX0_giveLink (WS yX0_giveLink cX0_giveLink 3 none) { frames := 3, cells := 0, slots := 0, locals := 66 } [.ref n0, .int x1, .int x2] (wNet cI n0 n1 n2 n3 n4 n5 n6 N) (fun w => w = wNet cI n0 n1 n2 n3 n4 n5 n6 z) := by
  rw [f_X0_giveLink] at hf
  refine q_startV (lv := [(0, .ref n0), (1, .int x1), (2, .int x2)]) (by decide +kernel) rfl (Nat.le_of_ble_eq_true rfl) ?_
  intro p e s m below meth c C hin
  refine q_iload_n C dX0_giveLink_0 rfl 1 rfl ?_
  refine q_iload_n C dX0_giveLink_1 rfl 2 rfl ?_
  refine q_icmp_eq C 15 dX0_giveLink_2 (by decide) (fun h => ?_) (fun h => ?_)
  · have hf := ifT hf h
    have hf := Option.some.inj hf
    subst hf
    exact q_vret C (Nat.le_of_ble_eq_true rfl) (Nat.le_of_ble_eq_true rfl) rfl dX0_giveLink_15
  · have hf := ifF hf h
    refine q_aload_n C dX0_giveLink_5 rfl 0 rfl ?_
    refine q_iload_n C dX0_giveLink_6 rfl 1 rfl ?_
    refine q_iload_n C dX0_giveLink_7 rfl 2 rfl ?_
    obtain ⟨z1, h_z1, hf⟩ := bnd hf
    refine q_cVIw C (c_X0_linkIndex l D cI cJ cN n0 n1 n2 n3 n4 n5 n6 N x1 x2 z1 h_z1) (mkV (fr := 2) (lo := 43) C xc_X0_linkIndex xm_X0_110 xi_X0_linkIndex xe_X0_linkIndex xn_X0 hd_X0_linkIndex ⟨Nat.le_of_ble_eq_true rfl, Nat.le_of_ble_eq_true rfl⟩) 0 rfl rfl rfl rfl (Nat.le_of_ble_eq_true rfl) dX0_giveLink_8 ⟨Nat.le_of_ble_eq_true rfl, Nat.le_of_ble_eq_true rfl⟩ (fun w1 hp1 => ?_)
    subst hp1
    refine q_iconst (v := -1) C dX0_giveLink_11 (by decide) ?_
    refine q_icmp_eq C 16 dX0_giveLink_12 (by decide) (fun h => ?_) (fun h => ?_)
    · have hf := ifT hf h
      refine q_aload_n C dX0_giveLink_16 rfl 0 rfl ?_
      refine q_iload_n C dX0_giveLink_17 rfl 1 rfl ?_
      obtain ⟨z2, h_z2, hf⟩ := bnd hf
      refine q_cVIw C (c_X0_linksOf l D cI cJ cN n0 n1 n2 n3 n4 n5 n6 N x1 z2 h_z2) (mkV (fr := 1) (lo := 21) C xc_X0_linksOf xm_X0_103 xi_X0_linksOf xe_X0_linksOf xn_X0 hd_X0_linksOf ⟨Nat.le_of_ble_eq_true rfl, Nat.le_of_ble_eq_true rfl⟩) 0 rfl rfl rfl rfl (Nat.le_of_ble_eq_true rfl) dX0_giveLink_18 ⟨Nat.le_of_ble_eq_true rfl, Nat.le_of_ble_eq_true rfl⟩ (fun w1 hp1 => ?_)
      subst hp1
      refine q_aload_n C dX0_giveLink_21 rfl 0 rfl ?_
      refine q_iconst (v := 0) C dX0_giveLink_22 (by decide) ?_
      obtain ⟨z3, h_z3, hf⟩ := bnd hf
      refine q_cVIw C (c_X0_setting l D cI cJ cN n0 n1 n2 n3 n4 n5 n6 N (0 : Int32) z3 h_z3) (mkV (fr := 1) (lo := 21) C xc_X0_setting xm_X0_88 xi_X0_setting xe_X0_setting xn_X0 hd_X0_setting ⟨Nat.le_of_ble_eq_true rfl, Nat.le_of_ble_eq_true rfl⟩) 0 rfl rfl rfl rfl (Nat.le_of_ble_eq_true rfl) dX0_giveLink_23 ⟨Nat.le_of_ble_eq_true rfl, Nat.le_of_ble_eq_true rfl⟩ (fun w1 hp1 => ?_)
      subst hp1
      refine q_icmp_lt C 35 dX0_giveLink_26 (by decide) (fun h => ?_) (fun h => ?_)
      · have hf := ifT hf h
        exact l_X0_giveLink_35 C N x1 x2 hf
      · have hf := ifF hf h
        refine q_aload_n C dX0_giveLink_29 rfl 0 rfl ?_
        refine q_iload_n C dX0_giveLink_30 rfl 1 rfl ?_
        refine q_iconst (v := 0) C dX0_giveLink_31 (by decide) ?_
        obtain ⟨z4, h_z4, hf⟩ := bnd hf
        refine q_cVVw C (c_X0_takeLink l D cI cJ cN n0 n1 n2 n3 n4 n5 n6 N x1 (0 : Int32) z4 h_z4) (mkV (fr := 2) (lo := 43) C xc_X0_takeLink xm_X0_113 xi_X0_takeLink xe_X0_takeLink xn_X0 hd_X0_takeLink ⟨Nat.le_of_ble_eq_true rfl, Nat.le_of_ble_eq_true rfl⟩) 0 rfl rfl rfl rfl (Nat.le_of_ble_eq_true rfl) dX0_giveLink_32 ⟨Nat.le_of_ble_eq_true rfl, Nat.le_of_ble_eq_true rfl⟩ (fun w1 hp1 => ?_)
        subst hp1
        exact l_X0_giveLink_35 C z4 x1 x2 hf
    · have hf := ifF hf h
      have hf := Option.some.inj hf
      subst hf
      exact q_vret C (Nat.le_of_ble_eq_true rfl) (Nat.le_of_ble_eq_true rfl) rfl dX0_giveLink_15
set_option maxRecDepth 100000 in
set_option maxHeartbeats 4000000 in
theorem l_X0_linksTo_4 {p : Program} {l : Launch} {e : Env} {s : State} {m : MethodId} {args : Array Value} {below : List Frame} {meth : Method} {c : Code} {D : va_G} {cI cJ cN : ClassId} {W0 : va_W} {n0 n1 n2 n3 n4 n5 n6 : Nat} {z : Int32} (C : CX p l s m args meth c cX0_linksTo 4 yX0_linksTo.cls (WS yX0_linksTo cX0_linksTo 4 (some .int)) (some .int) D cI cJ cN (va_A W0 s.heap.size)) : ∀ (fu : Nat) (N : NS) (x1 : Int32) (x2 : Int32) (x3 : Int32), g_X0_linksTo_4 fu N x1 x2 x3 = some z → WW p l e { frames := 3, cells := 0, slots := 0, locals := 66 } s m args below meth c D 4 (va_A W0 s.heap.size) 0 0 (QI below args s D W0 { frames := 3, cells := 0, slots := 0, locals := 66 } z (fun w => w = wNet cI n0 n1 n2 n3 n4 n5 n6 N)) 4 [(0, .ref n0), (1, .int x1), (2, .int x2), (3, .int x3)] [] (wNet cI n0 n1 n2 n3 n4 n5 n6 N) := by
  intro fu
  induction fu with
  | zero =>
    intro N x1 x2 x3 hf
    rw [g_X0_linksTo_4] at hf
    cases hf
  | succ fu ih =>
    intro N x1 x2 x3 hf
    rw [g_X0_linksTo_4] at hf
    refine q_iload_n C dX0_linksTo_4 rfl 3 rfl ?_
    refine q_aload_n C dX0_linksTo_5 rfl 0 rfl ?_
    obtain ⟨z1, h_z1, hf⟩ := bnd hf
    refine q_cVIw C (c_X0_nodes l D cI cJ cN n0 n1 n2 n3 n4 n5 n6 N z1 h_z1) (mkV (fr := 0) (lo := 0) C xc_X0_nodes xm_X0_44 xi_X0_nodes xe_X0_nodes xn_X0 hd_X0_nodes ⟨Nat.le_of_ble_eq_true rfl, Nat.le_of_ble_eq_true rfl⟩) 0 rfl rfl rfl rfl (Nat.le_of_ble_eq_true rfl) dX0_linksTo_6 ⟨Nat.le_of_ble_eq_true rfl, Nat.le_of_ble_eq_true rfl⟩ (fun w1 hp1 => ?_)
    subst hp1
    refine q_icmp_ge C 31 dX0_linksTo_9 (by decide) (fun h => ?_) (fun h => ?_)
    · have hf := ifT hf h
      refine q_iload_n C dX0_linksTo_31 rfl 2 rfl ?_
      have hf := Option.some.inj hf
      subst hf
      exact q_iret C (Nat.le_of_ble_eq_true rfl) (Nat.le_of_ble_eq_true rfl) rfl dX0_linksTo_32
    · have hf := ifF hf h
      refine q_aload_n C dX0_linksTo_12 rfl 0 rfl ?_
      refine q_iload_n C dX0_linksTo_13 rfl 3 rfl ?_
      refine q_iload_n C dX0_linksTo_14 rfl 1 rfl ?_
      obtain ⟨z2, h_z2, hf⟩ := bnd hf
      refine q_cVIw C (c_X0_linkIndex l D cI cJ cN n0 n1 n2 n3 n4 n5 n6 N x3 x1 z2 h_z2) (mkV (fr := 2) (lo := 43) C xc_X0_linkIndex xm_X0_110 xi_X0_linkIndex xe_X0_linkIndex xn_X0 hd_X0_linkIndex ⟨Nat.le_of_ble_eq_true rfl, Nat.le_of_ble_eq_true rfl⟩) 0 rfl rfl rfl rfl (Nat.le_of_ble_eq_true rfl) dX0_linksTo_15 ⟨Nat.le_of_ble_eq_true rfl, Nat.le_of_ble_eq_true rfl⟩ (fun w1 hp1 => ?_)
      subst hp1
      refine q_iconst (v := -1) C dX0_linksTo_18 (by decide) ?_
      refine q_icmp_eq C 25 dX0_linksTo_19 (by decide) (fun h => ?_) (fun h => ?_)
      · have hf := ifT hf h
        refine q_iinc (v := (x3 + (1 : Int32))) (lv' := [(3, .int (x3 + (1 : Int32))), (0, .ref n0), (1, .int x1), (2, .int x2)]) C dX0_linksTo_25 3 rfl rfl (by decide) rfl ?_
        refine q_goto C 4 dX0_linksTo_28 (by decide) ?_
        refine q_sub (lv' := [(0, .ref n0), (1, .int x1), (2, .int x2), (3, .int (x3 + (1 : Int32)))]) [1, 2, 3, 0] rfl ?_
        exact ih N x1 x2 (x3 + (1 : Int32)) hf
      · have hf := ifF hf h
        refine q_iinc (v := (x2 + (1 : Int32))) (lv' := [(2, .int (x2 + (1 : Int32))), (0, .ref n0), (1, .int x1), (3, .int x3)]) C dX0_linksTo_22 2 rfl rfl (by decide) rfl ?_
        refine q_iinc (v := (x3 + (1 : Int32))) (lv' := [(3, .int (x3 + (1 : Int32))), (2, .int (x2 + (1 : Int32))), (0, .ref n0), (1, .int x1)]) C dX0_linksTo_25 3 rfl rfl (by decide) rfl ?_
        refine q_goto C 4 dX0_linksTo_28 (by decide) ?_
        refine q_sub (lv' := [(0, .ref n0), (1, .int x1), (2, .int (x2 + (1 : Int32))), (3, .int (x3 + (1 : Int32)))]) [2, 3, 1, 0] rfl ?_
        exact ih N x1 (x2 + (1 : Int32)) (x3 + (1 : Int32)) hf
set_option maxRecDepth 100000 in
set_option maxHeartbeats 4000000 in
theorem c_X0_linksTo (l : Launch) (D : va_G) (cI cJ cN : ClassId) (n0 n1 n2 n3 n4 n5 n6 : Nat)  (N : NS) (x1 : Int32) (z : Int32) (hf : f_X0_linksTo N x1 = some z) : MI l D cI cJ cN yX0_linksTo (WS yX0_linksTo cX0_linksTo 4 (some .int)) { frames := 3, cells := 0, slots := 0, locals := 66 } [.ref n0, .int x1] (wNet cI n0 n1 n2 n3 n4 n5 n6 N) z (fun w => w = wNet cI n0 n1 n2 n3 n4 n5 n6 N) := by
  rw [f_X0_linksTo] at hf
  refine q_startI (lv := [(0, .ref n0), (1, .int x1)]) (by decide +kernel) rfl (Nat.le_of_ble_eq_true rfl) ?_
  intro p e s m below meth c C hin
  refine q_iconst (v := 0) C dX0_linksTo_0 (by decide) ?_
  refine q_istore_n (lv' := [(2, .int (0 : Int32)), (0, .ref n0), (1, .int x1)]) C dX0_linksTo_1 rfl (by decide) rfl ?_
  refine q_iconst (v := 0) C dX0_linksTo_2 (by decide) ?_
  refine q_istore_n (lv' := [(3, .int (0 : Int32)), (2, .int (0 : Int32)), (0, .ref n0), (1, .int x1)]) C dX0_linksTo_3 rfl (by decide) rfl ?_
  refine q_sub (lv' := [(0, .ref n0), (1, .int x1), (2, .int (0 : Int32)), (3, .int (0 : Int32))]) [2, 3, 1, 0] rfl ?_
  exact l_X0_linksTo_4 C FU N x1 (0 : Int32) (0 : Int32) hf
set_option maxRecDepth 100000 in
set_option maxHeartbeats 4000000 in
theorem l_X0_countOfLinks_4 {p : Program} {l : Launch} {e : Env} {s : State} {m : MethodId} {args : Array Value} {below : List Frame} {meth : Method} {c : Code} {D : va_G} {cI cJ cN : ClassId} {W0 : va_W} {n0 n1 n2 n3 n4 n5 n6 : Nat} {z : Int32} (C : CX p l s m args meth c cX0_countOfLinks 3 yX0_countOfLinks.cls (WS yX0_countOfLinks cX0_countOfLinks 3 (some .int)) (some .int) D cI cJ cN (va_A W0 s.heap.size)) : ∀ (fu : Nat) (N : NS) (x1 : Int32) (x2 : Int32), g_X0_countOfLinks_4 fu N x1 x2 = some z → WW p l e { frames := 2, cells := 0, slots := 0, locals := 42 } s m args below meth c D 3 (va_A W0 s.heap.size) 0 0 (QI below args s D W0 { frames := 2, cells := 0, slots := 0, locals := 42 } z (fun w => w = wNet cI n0 n1 n2 n3 n4 n5 n6 N)) 4 [(0, .ref n0), (1, .int x1), (2, .int x2)] [] (wNet cI n0 n1 n2 n3 n4 n5 n6 N) := by
  intro fu
  induction fu with
  | zero =>
    intro N x1 x2 hf
    rw [g_X0_countOfLinks_4] at hf
    cases hf
  | succ fu ih =>
    intro N x1 x2 hf
    rw [g_X0_countOfLinks_4] at hf
    refine q_iload_n C dX0_countOfLinks_4 rfl 2 rfl ?_
    refine q_aload_n C dX0_countOfLinks_5 rfl 0 rfl ?_
    obtain ⟨z1, h_z1, hf⟩ := bnd hf
    refine q_cVIw C (c_X0_nodes l D cI cJ cN n0 n1 n2 n3 n4 n5 n6 N z1 h_z1) (mkV (fr := 0) (lo := 0) C xc_X0_nodes xm_X0_44 xi_X0_nodes xe_X0_nodes xn_X0 hd_X0_nodes ⟨Nat.le_of_ble_eq_true rfl, Nat.le_of_ble_eq_true rfl⟩) 0 rfl rfl rfl rfl (Nat.le_of_ble_eq_true rfl) dX0_countOfLinks_6 ⟨Nat.le_of_ble_eq_true rfl, Nat.le_of_ble_eq_true rfl⟩ (fun w1 hp1 => ?_)
    subst hp1
    refine q_icmp_ge C 26 dX0_countOfLinks_9 (by decide) (fun h => ?_) (fun h => ?_)
    · have hf := ifT hf h
      refine q_iload_n C dX0_countOfLinks_26 rfl 1 rfl ?_
      have hf := Option.some.inj hf
      subst hf
      exact q_iret C (Nat.le_of_ble_eq_true rfl) (Nat.le_of_ble_eq_true rfl) rfl dX0_countOfLinks_27
    · have hf := ifF hf h
      refine q_iload_n C dX0_countOfLinks_12 rfl 1 rfl ?_
      refine q_aload_n C dX0_countOfLinks_13 rfl 0 rfl ?_
      refine q_iload_n C dX0_countOfLinks_14 rfl 2 rfl ?_
      obtain ⟨z2, h_z2, hf⟩ := bnd hf
      refine q_cVIw C (c_X0_linksOf l D cI cJ cN n0 n1 n2 n3 n4 n5 n6 N x2 z2 h_z2) (mkV (fr := 1) (lo := 21) C xc_X0_linksOf xm_X0_103 xi_X0_linksOf xe_X0_linksOf xn_X0 hd_X0_linksOf ⟨Nat.le_of_ble_eq_true rfl, Nat.le_of_ble_eq_true rfl⟩) 0 rfl rfl rfl rfl (Nat.le_of_ble_eq_true rfl) dX0_countOfLinks_15 ⟨Nat.le_of_ble_eq_true rfl, Nat.le_of_ble_eq_true rfl⟩ (fun w1 hp1 => ?_)
      subst hp1
      refine q_iadd C dX0_countOfLinks_18 ?_
      refine q_istore_n (lv' := [(1, .int (x1 + z2)), (0, .ref n0), (2, .int x2)]) C dX0_countOfLinks_19 rfl (by decide) rfl ?_
      refine q_iinc (v := (x2 + (1 : Int32))) (lv' := [(2, .int (x2 + (1 : Int32))), (1, .int (x1 + z2)), (0, .ref n0)]) C dX0_countOfLinks_20 2 rfl rfl (by decide) rfl ?_
      refine q_goto C 4 dX0_countOfLinks_23 (by decide) ?_
      refine q_sub (lv' := [(0, .ref n0), (1, .int (x1 + z2)), (2, .int (x2 + (1 : Int32)))]) [2, 1, 0] rfl ?_
      exact ih N (x1 + z2) (x2 + (1 : Int32)) hf
set_option maxRecDepth 100000 in
set_option maxHeartbeats 4000000 in
theorem c_X0_countOfLinks (l : Launch) (D : va_G) (cI cJ cN : ClassId) (n0 n1 n2 n3 n4 n5 n6 : Nat)  (N : NS)  (z : Int32) (hf : f_X0_countOfLinks N = some z) : MI l D cI cJ cN yX0_countOfLinks (WS yX0_countOfLinks cX0_countOfLinks 3 (some .int)) { frames := 2, cells := 0, slots := 0, locals := 42 } [.ref n0] (wNet cI n0 n1 n2 n3 n4 n5 n6 N) z (fun w => w = wNet cI n0 n1 n2 n3 n4 n5 n6 N) := by
  rw [f_X0_countOfLinks] at hf
  refine q_startI (lv := [(0, .ref n0)]) (by decide +kernel) rfl (Nat.le_of_ble_eq_true rfl) ?_
  intro p e s m below meth c C hin
  refine q_iconst (v := 0) C dX0_countOfLinks_0 (by decide) ?_
  refine q_istore_n (lv' := [(1, .int (0 : Int32)), (0, .ref n0)]) C dX0_countOfLinks_1 rfl (by decide) rfl ?_
  refine q_iconst (v := 0) C dX0_countOfLinks_2 (by decide) ?_
  refine q_istore_n (lv' := [(2, .int (0 : Int32)), (1, .int (0 : Int32)), (0, .ref n0)]) C dX0_countOfLinks_3 rfl (by decide) rfl ?_
  refine q_sub (lv' := [(0, .ref n0), (1, .int (0 : Int32)), (2, .int (0 : Int32))]) [2, 1, 0] rfl ?_
  exact l_X0_countOfLinks_4 C FU N (0 : Int32) (0 : Int32) hf
set_option maxRecDepth 100000 in
set_option maxHeartbeats 4000000 in
theorem l_X0_lengthOfLinks_14 {p : Program} {l : Launch} {e : Env} {s : State} {m : MethodId} {args : Array Value} {below : List Frame} {meth : Method} {c : Code} {D : va_G} {cI cJ cN : ClassId} {W0 : va_W} {n0 n1 n2 n3 n4 n5 n6 : Nat} {z : Int32} (C : CX p l s m args meth c cX0_lengthOfLinks 4 yX0_lengthOfLinks.cls (WS yX0_lengthOfLinks cX0_lengthOfLinks 4 (some .int)) (some .int) D cI cJ cN (va_A W0 s.heap.size)) {K4 : NS → Int32 → Int32 → Option (Int32)} (hK4 : ∀ (N : NS) (x1 : Int32) (x2 : Int32), K4 N x1 x2 = some z → WW p l e { frames := 2, cells := 0, slots := 0, locals := 43 } s m args below meth c D 4 (va_A W0 s.heap.size) 0 0 (QI below args s D W0 { frames := 2, cells := 0, slots := 0, locals := 43 } z (fun w => w = wNet cI n0 n1 n2 n3 n4 n5 n6 N)) 4 [(0, .ref n0), (1, .int x1), (2, .int x2)] [] (wNet cI n0 n1 n2 n3 n4 n5 n6 N)) : ∀ (fu : Nat) (N : NS) (x1 : Int32) (x2 : Int32) (x3 : Int32), g_X0_lengthOfLinks_14 K4 fu N x1 x2 x3 = some z → WW p l e { frames := 2, cells := 0, slots := 0, locals := 43 } s m args below meth c D 4 (va_A W0 s.heap.size) 0 0 (QI below args s D W0 { frames := 2, cells := 0, slots := 0, locals := 43 } z (fun w => w = wNet cI n0 n1 n2 n3 n4 n5 n6 N)) 14 [(0, .ref n0), (1, .int x1), (2, .int x2), (3, .int x3)] [] (wNet cI n0 n1 n2 n3 n4 n5 n6 N) := by
  intro fu
  induction fu with
  | zero =>
    intro N x1 x2 x3 hf
    rw [g_X0_lengthOfLinks_14] at hf
    cases hf
  | succ fu ih =>
    intro N x1 x2 x3 hf
    rw [g_X0_lengthOfLinks_14] at hf
    refine q_iload_n C dX0_lengthOfLinks_14 rfl 3 rfl ?_
    refine q_aload_n C dX0_lengthOfLinks_15 rfl 0 rfl ?_
    refine q_iload_n C dX0_lengthOfLinks_16 rfl 2 rfl ?_
    obtain ⟨z1, h_z1, hf⟩ := bnd hf
    refine q_cVIw C (c_X0_linksOf l D cI cJ cN n0 n1 n2 n3 n4 n5 n6 N x2 z1 h_z1) (mkV (fr := 1) (lo := 21) C xc_X0_linksOf xm_X0_103 xi_X0_linksOf xe_X0_linksOf xn_X0 hd_X0_linksOf ⟨Nat.le_of_ble_eq_true rfl, Nat.le_of_ble_eq_true rfl⟩) 0 rfl rfl rfl rfl (Nat.le_of_ble_eq_true rfl) dX0_lengthOfLinks_17 ⟨Nat.le_of_ble_eq_true rfl, Nat.le_of_ble_eq_true rfl⟩ (fun w1 hp1 => ?_)
    subst hp1
    refine q_icmp_ge C 43 dX0_lengthOfLinks_20 (by decide) (fun h => ?_) (fun h => ?_)
    · have hf := ifT hf h
      refine q_iinc (v := (x2 + (1 : Int32))) (lv' := [(2, .int (x2 + (1 : Int32))), (0, .ref n0), (1, .int x1), (3, .int x3)]) C dX0_lengthOfLinks_43 2 rfl rfl (by decide) rfl ?_
      refine q_goto C 4 dX0_lengthOfLinks_46 (by decide) ?_
      refine q_sub (lv' := [(0, .ref n0), (1, .int x1), (2, .int (x2 + (1 : Int32)))]) [1, 2, 0] rfl ?_
      exact hK4 N x1 (x2 + (1 : Int32)) hf
    · have hf := ifF hf h
      refine q_iload_n C dX0_lengthOfLinks_23 rfl 1 rfl ?_
      refine q_aload_n C dX0_lengthOfLinks_24 rfl 0 rfl ?_
      refine q_iload_n C dX0_lengthOfLinks_25 rfl 2 rfl ?_
      refine q_aload_n C dX0_lengthOfLinks_26 rfl 0 rfl ?_
      refine q_iload_n C dX0_lengthOfLinks_27 rfl 2 rfl ?_
      refine q_iload_n C dX0_lengthOfLinks_28 rfl 3 rfl ?_
      obtain ⟨z2, h_z2, hf⟩ := bnd hf
      refine q_cVIw C (c_X0_linkAt l D cI cJ cN n0 n1 n2 n3 n4 n5 n6 N x2 x3 z2 h_z2) (mkV (fr := 1) (lo := 21) C xc_X0_linkAt xm_X0_106 xi_X0_linkAt xe_X0_linkAt xn_X0 hd_X0_linkAt ⟨Nat.le_of_ble_eq_true rfl, Nat.le_of_ble_eq_true rfl⟩) 0 rfl rfl rfl rfl (Nat.le_of_ble_eq_true rfl) dX0_lengthOfLinks_29 ⟨Nat.le_of_ble_eq_true rfl, Nat.le_of_ble_eq_true rfl⟩ (fun w1 hp1 => ?_)
      subst hp1
      obtain ⟨z3, h_z3, hf⟩ := bnd hf
      refine q_cVIw C (c_X0_spacing l D cI cJ cN n0 n1 n2 n3 n4 n5 n6 N x2 z2 z3 h_z3) (mkV (fr := 1) (lo := 21) C xc_X0_spacing xm_X0_116 xi_X0_spacing xe_X0_spacing xn_X0 hd_X0_spacing ⟨Nat.le_of_ble_eq_true rfl, Nat.le_of_ble_eq_true rfl⟩) 0 rfl rfl rfl rfl (Nat.le_of_ble_eq_true rfl) dX0_lengthOfLinks_32 ⟨Nat.le_of_ble_eq_true rfl, Nat.le_of_ble_eq_true rfl⟩ (fun w1 hp1 => ?_)
      subst hp1
      refine q_iadd C dX0_lengthOfLinks_35 ?_
      refine q_istore_n (lv' := [(1, .int (x1 + z3)), (0, .ref n0), (2, .int x2), (3, .int x3)]) C dX0_lengthOfLinks_36 rfl (by decide) rfl ?_
      refine q_iinc (v := (x3 + (1 : Int32))) (lv' := [(3, .int (x3 + (1 : Int32))), (1, .int (x1 + z3)), (0, .ref n0), (2, .int x2)]) C dX0_lengthOfLinks_37 3 rfl rfl (by decide) rfl ?_
      refine q_goto C 14 dX0_lengthOfLinks_40 (by decide) ?_
      refine q_sub (lv' := [(0, .ref n0), (1, .int (x1 + z3)), (2, .int x2), (3, .int (x3 + (1 : Int32)))]) [2, 1, 3, 0] rfl ?_
      exact ih N (x1 + z3) x2 (x3 + (1 : Int32)) hf
set_option maxRecDepth 100000 in
set_option maxHeartbeats 4000000 in
theorem l_X0_lengthOfLinks_4 {p : Program} {l : Launch} {e : Env} {s : State} {m : MethodId} {args : Array Value} {below : List Frame} {meth : Method} {c : Code} {D : va_G} {cI cJ cN : ClassId} {W0 : va_W} {n0 n1 n2 n3 n4 n5 n6 : Nat} {z : Int32} (C : CX p l s m args meth c cX0_lengthOfLinks 4 yX0_lengthOfLinks.cls (WS yX0_lengthOfLinks cX0_lengthOfLinks 4 (some .int)) (some .int) D cI cJ cN (va_A W0 s.heap.size)) : ∀ (fu : Nat) (N : NS) (x1 : Int32) (x2 : Int32), g_X0_lengthOfLinks_4 fu N x1 x2 = some z → WW p l e { frames := 2, cells := 0, slots := 0, locals := 43 } s m args below meth c D 4 (va_A W0 s.heap.size) 0 0 (QI below args s D W0 { frames := 2, cells := 0, slots := 0, locals := 43 } z (fun w => w = wNet cI n0 n1 n2 n3 n4 n5 n6 N)) 4 [(0, .ref n0), (1, .int x1), (2, .int x2)] [] (wNet cI n0 n1 n2 n3 n4 n5 n6 N) := by
  intro fu
  induction fu with
  | zero =>
    intro N x1 x2 hf
    rw [g_X0_lengthOfLinks_4] at hf
    cases hf
  | succ fu ih =>
    intro N x1 x2 hf
    rw [g_X0_lengthOfLinks_4] at hf
    refine q_iload_n C dX0_lengthOfLinks_4 rfl 2 rfl ?_
    refine q_aload_n C dX0_lengthOfLinks_5 rfl 0 rfl ?_
    obtain ⟨z1, h_z1, hf⟩ := bnd hf
    refine q_cVIw C (c_X0_nodes l D cI cJ cN n0 n1 n2 n3 n4 n5 n6 N z1 h_z1) (mkV (fr := 0) (lo := 0) C xc_X0_nodes xm_X0_44 xi_X0_nodes xe_X0_nodes xn_X0 hd_X0_nodes ⟨Nat.le_of_ble_eq_true rfl, Nat.le_of_ble_eq_true rfl⟩) 0 rfl rfl rfl rfl (Nat.le_of_ble_eq_true rfl) dX0_lengthOfLinks_6 ⟨Nat.le_of_ble_eq_true rfl, Nat.le_of_ble_eq_true rfl⟩ (fun w1 hp1 => ?_)
    subst hp1
    refine q_icmp_ge C 49 dX0_lengthOfLinks_9 (by decide) (fun h => ?_) (fun h => ?_)
    · have hf := ifT hf h
      refine q_iload_n C dX0_lengthOfLinks_49 rfl 1 rfl ?_
      have hf := Option.some.inj hf
      subst hf
      exact q_iret C (Nat.le_of_ble_eq_true rfl) (Nat.le_of_ble_eq_true rfl) rfl dX0_lengthOfLinks_50
    · have hf := ifF hf h
      refine q_iconst (v := 0) C dX0_lengthOfLinks_12 (by decide) ?_
      refine q_istore_n (lv' := [(3, .int (0 : Int32)), (0, .ref n0), (1, .int x1), (2, .int x2)]) C dX0_lengthOfLinks_13 rfl (by decide) rfl ?_
      refine q_sub (lv' := [(0, .ref n0), (1, .int x1), (2, .int x2), (3, .int (0 : Int32))]) [1, 2, 3, 0] rfl ?_
      exact l_X0_lengthOfLinks_14 C ih FU N x1 x2 (0 : Int32) hf
set_option maxRecDepth 100000 in
set_option maxHeartbeats 4000000 in
theorem c_X0_lengthOfLinks (l : Launch) (D : va_G) (cI cJ cN : ClassId) (n0 n1 n2 n3 n4 n5 n6 : Nat)  (N : NS)  (z : Int32) (hf : f_X0_lengthOfLinks N = some z) : MI l D cI cJ cN yX0_lengthOfLinks (WS yX0_lengthOfLinks cX0_lengthOfLinks 4 (some .int)) { frames := 2, cells := 0, slots := 0, locals := 43 } [.ref n0] (wNet cI n0 n1 n2 n3 n4 n5 n6 N) z (fun w => w = wNet cI n0 n1 n2 n3 n4 n5 n6 N) := by
  rw [f_X0_lengthOfLinks] at hf
  refine q_startI (lv := [(0, .ref n0)]) (by decide +kernel) rfl (Nat.le_of_ble_eq_true rfl) ?_
  intro p e s m below meth c C hin
  refine q_iconst (v := 0) C dX0_lengthOfLinks_0 (by decide) ?_
  refine q_istore_n (lv' := [(1, .int (0 : Int32)), (0, .ref n0)]) C dX0_lengthOfLinks_1 rfl (by decide) rfl ?_
  refine q_iconst (v := 0) C dX0_lengthOfLinks_2 (by decide) ?_
  refine q_istore_n (lv' := [(2, .int (0 : Int32)), (1, .int (0 : Int32)), (0, .ref n0)]) C dX0_lengthOfLinks_3 rfl (by decide) rfl ?_
  refine q_sub (lv' := [(0, .ref n0), (1, .int (0 : Int32)), (2, .int (0 : Int32))]) [2, 1, 0] rfl ?_
  exact l_X0_lengthOfLinks_4 C FU N (0 : Int32) (0 : Int32) hf
set_option maxRecDepth 100000 in
set_option maxHeartbeats 4000000 in
theorem l_X0_putAway_17 {p : Program} {l : Launch} {e : Env} {s : State} {m : MethodId} {args : Array Value} {below : List Frame} {meth : Method} {c : Code} {D : va_G} {cI cJ cN : ClassId} {W0 : va_W} {n0 n1 n2 n3 n4 n5 n6 : Nat} {z : Int32 × NS} (C : CX p l s m args meth c cX0_putAway 5 yX0_putAway.cls (WS yX0_putAway cX0_putAway 5 (some .int)) (some .int) D cI cJ cN (va_A W0 s.heap.size)) : ∀ (fu : Nat) (N : NS) (x1 : Int32) (x2 : Int32) (x3 : Int32), g_X0_putAway_17 fu N x1 x2 x3 = some z → WW p l e { frames := 3, cells := 0, slots := 0, locals := 66 } s m args below meth c D 5 (va_A W0 s.heap.size) 0 0 (QI below args s D W0 { frames := 3, cells := 0, slots := 0, locals := 66 } z.1 (fun w => w = wNet cI n0 n1 n2 n3 n4 n5 n6 z.2)) 17 [(0, .ref n0), (1, .int x1), (2, .int x2), (3, .int x3)] [] (wNet cI n0 n1 n2 n3 n4 n5 n6 N) := by
  intro fu
  induction fu with
  | zero =>
    intro N x1 x2 x3 hf
    rw [g_X0_putAway_17] at hf
    cases hf
  | succ fu ih =>
    intro N x1 x2 x3 hf
    rw [g_X0_putAway_17] at hf
    refine q_iload_n C dX0_putAway_17 rfl 3 rfl ?_
    refine q_aload_n C dX0_putAway_18 rfl 0 rfl ?_
    obtain ⟨z1, h_z1, hf⟩ := bnd hf
    refine q_cVIw C (c_X0_nodes l D cI cJ cN n0 n1 n2 n3 n4 n5 n6 N z1 h_z1) (mkV (fr := 0) (lo := 0) C xc_X0_nodes xm_X0_44 xi_X0_nodes xe_X0_nodes xn_X0 hd_X0_nodes ⟨Nat.le_of_ble_eq_true rfl, Nat.le_of_ble_eq_true rfl⟩) 0 rfl rfl rfl rfl (Nat.le_of_ble_eq_true rfl) dX0_putAway_19 ⟨Nat.le_of_ble_eq_true rfl, Nat.le_of_ble_eq_true rfl⟩ (fun w1 hp1 => ?_)
    subst hp1
    refine q_icmp_ge C 55 dX0_putAway_22 (by decide) (fun h => ?_) (fun h => ?_)
    · have hf := ifT hf h
      refine q_aload_n C dX0_putAway_55 rfl 0 rfl ?_
      refine q_dup C dX0_putAway_56 rfl ?_
      refine q_get C (uW uX0_in) 0 rfl rfl 2 (by decide) (ws_in xf_X0_52) rfl rfl dX0_putAway_57 ?_
      refine q_iload_n C dX0_putAway_60 rfl 1 rfl ?_
      obtain ⟨z2, h_z2, hf⟩ := bnd hf
      refine q_cNL (ws' := wNet cI n0 n1 n2 n3 n4 n5 n6 N) C (c_X2_only l D cI cJ cN x1 z2 h_z2) (mkN (fr := 0) (lo := 0) C 0 rfl xc_X2_only xs_X2_only xn_X2 hd_X2_only ⟨Nat.le_of_ble_eq_true rfl, Nat.le_of_ble_eq_true rfl⟩) [] rfl (by decide) rfl rfl rfl rfl (Nat.le_of_ble_eq_true rfl) dX0_putAway_61 ⟨Nat.le_of_ble_eq_true rfl, Nat.le_of_ble_eq_true rfl⟩ ?_
      refine q_ldc2 (v := (-1)) C (ws_in xk_X0_119) dX0_putAway_64 ?_
      refine q_lxor C dX0_putAway_67 ?_
      refine q_land C dX0_putAway_68 ?_
      refine q_put (ws' := wNet cI n0 n1 n2 n3 n4 n5 n6 (N.1, N.2.1, (N.2.2.1 &&& (z2 ^^^ (-1 : Int64))), N.2.2.2.1, N.2.2.2.2.1, N.2.2.2.2.2.1, N.2.2.2.2.2.2.1, N.2.2.2.2.2.2.2.1, N.2.2.2.2.2.2.2.2)) (ty := .long) C (uW uX0_in) tyX0 tyX0_ok nmX0 0 rfl rfl 2 (by decide) (ws_in xf_X0_52) rfl rfl (by decide +kernel) rfl rfl (Nat.le_of_ble_eq_true rfl) dX0_putAway_69 rfl ?_
      refine q_iload_n C dX0_putAway_72 rfl 2 rfl ?_
      have hf := Option.some.inj hf
      subst hf
      exact q_iret C (Nat.le_of_ble_eq_true rfl) (Nat.le_of_ble_eq_true rfl) rfl dX0_putAway_73
    · have hf := ifF hf h
      refine q_aload_n C dX0_putAway_25 rfl 0 rfl ?_
      refine q_iload_n C dX0_putAway_26 rfl 3 rfl ?_
      refine q_iload_n C dX0_putAway_27 rfl 1 rfl ?_
      obtain ⟨z3, h_z3, hf⟩ := bnd hf
      refine q_cVIw C (c_X0_linkIndex l D cI cJ cN n0 n1 n2 n3 n4 n5 n6 N x3 x1 z3 h_z3) (mkV (fr := 2) (lo := 43) C xc_X0_linkIndex xm_X0_110 xi_X0_linkIndex xe_X0_linkIndex xn_X0 hd_X0_linkIndex ⟨Nat.le_of_ble_eq_true rfl, Nat.le_of_ble_eq_true rfl⟩) 0 rfl rfl rfl rfl (Nat.le_of_ble_eq_true rfl) dX0_putAway_28 ⟨Nat.le_of_ble_eq_true rfl, Nat.le_of_ble_eq_true rfl⟩ (fun w1 hp1 => ?_)
      subst hp1
      refine q_istore (lv' := [(4, .int z3), (0, .ref n0), (1, .int x1), (2, .int x2), (3, .int x3)]) C dX0_putAway_31 (by decide) rfl ?_
      refine q_iload C dX0_putAway_33 0 rfl ?_
      refine q_iconst (v := -1) C dX0_putAway_35 (by decide) ?_
      refine q_icmp_eq C 49 dX0_putAway_36 (by decide) (fun h => ?_) (fun h => ?_)
      · have hf := ifT hf h
        refine q_iinc (v := (x3 + (1 : Int32))) (lv' := [(3, .int (x3 + (1 : Int32))), (4, .int z3), (0, .ref n0), (1, .int x1), (2, .int x2)]) C dX0_putAway_49 4 rfl rfl (by decide) rfl ?_
        refine q_goto C 17 dX0_putAway_52 (by decide) ?_
        refine q_sub (lv' := [(0, .ref n0), (1, .int x1), (2, .int x2), (3, .int (x3 + (1 : Int32)))]) [2, 3, 4, 0] rfl ?_
        exact ih N x1 x2 (x3 + (1 : Int32)) hf
      · have hf := ifF hf h
        refine q_aload_n C dX0_putAway_39 rfl 1 rfl ?_
        refine q_iload_n C dX0_putAway_40 rfl 4 rfl ?_
        refine q_iload C dX0_putAway_41 0 rfl ?_
        obtain ⟨z4, h_z4, hf⟩ := bnd hf
        refine q_cVVw C (c_X0_takeLink l D cI cJ cN n0 n1 n2 n3 n4 n5 n6 N x3 z3 z4 h_z4) (mkV (fr := 2) (lo := 43) C xc_X0_takeLink xm_X0_113 xi_X0_takeLink xe_X0_takeLink xn_X0 hd_X0_takeLink ⟨Nat.le_of_ble_eq_true rfl, Nat.le_of_ble_eq_true rfl⟩) 0 rfl rfl rfl rfl (Nat.le_of_ble_eq_true rfl) dX0_putAway_43 ⟨Nat.le_of_ble_eq_true rfl, Nat.le_of_ble_eq_true rfl⟩ (fun w1 hp1 => ?_)
        subst hp1
        refine q_iinc (v := (x2 + (1 : Int32))) (lv' := [(2, .int (x2 + (1 : Int32))), (4, .int z3), (0, .ref n0), (1, .int x1), (3, .int x3)]) C dX0_putAway_46 3 rfl rfl (by decide) rfl ?_
        refine q_iinc (v := (x3 + (1 : Int32))) (lv' := [(3, .int (x3 + (1 : Int32))), (2, .int (x2 + (1 : Int32))), (4, .int z3), (0, .ref n0), (1, .int x1)]) C dX0_putAway_49 4 rfl rfl (by decide) rfl ?_
        refine q_goto C 17 dX0_putAway_52 (by decide) ?_
        refine q_sub (lv' := [(0, .ref n0), (1, .int x1), (2, .int (x2 + (1 : Int32))), (3, .int (x3 + (1 : Int32)))]) [3, 4, 1, 0] rfl ?_
        exact ih z4 x1 (x2 + (1 : Int32)) (x3 + (1 : Int32)) hf
set_option maxRecDepth 100000 in
set_option maxHeartbeats 4000000 in
theorem c_X0_putAway (l : Launch) (D : va_G) (cI cJ cN : ClassId) (n0 n1 n2 n3 n4 n5 n6 : Nat)  (N : NS) (x1 : Int32) (z : Int32 × NS) (hf : f_X0_putAway N x1 = some z) : MI l D cI cJ cN yX0_putAway (WS yX0_putAway cX0_putAway 5 (some .int)) { frames := 3, cells := 0, slots := 0, locals := 66 } [.ref n0, .int x1] (wNet cI n0 n1 n2 n3 n4 n5 n6 N) z.1 (fun w => w = wNet cI n0 n1 n2 n3 n4 n5 n6 z.2) := by
  rw [f_X0_putAway] at hf
  refine q_startI (lv := [(0, .ref n0), (1, .int x1)]) (by decide +kernel) rfl (Nat.le_of_ble_eq_true rfl) ?_
  intro p e s m below meth c C hin
  refine q_aload_n C dX0_putAway_0 rfl 0 rfl ?_
  refine q_iload_n C dX0_putAway_1 rfl 1 rfl ?_
  obtain ⟨z1, h_z1, hf⟩ := bnd hf
  refine q_cVIw C (c_X0_linksOf l D cI cJ cN n0 n1 n2 n3 n4 n5 n6 N x1 z1 h_z1) (mkV (fr := 1) (lo := 21) C xc_X0_linksOf xm_X0_103 xi_X0_linksOf xe_X0_linksOf xn_X0 hd_X0_linksOf ⟨Nat.le_of_ble_eq_true rfl, Nat.le_of_ble_eq_true rfl⟩) 0 rfl rfl rfl rfl (Nat.le_of_ble_eq_true rfl) dX0_putAway_2 ⟨Nat.le_of_ble_eq_true rfl, Nat.le_of_ble_eq_true rfl⟩ (fun w1 hp1 => ?_)
  subst hp1
  refine q_istore_n (lv' := [(2, .int z1), (0, .ref n0), (1, .int x1)]) C dX0_putAway_5 rfl (by decide) rfl ?_
  refine q_aload_n C dX0_putAway_6 rfl 1 rfl ?_
  refine q_get C (uW uX0_in) 0 rfl rfl 6 (by decide) (ws_in xf_X0_21) rfl rfl dX0_putAway_7 ?_
  refine q_iload_n C dX0_putAway_10 rfl 2 rfl ?_
  refine q_iconst (v := 0) C dX0_putAway_11 (by decide) ?_
  obtain ⟨z2, h_z2, hf⟩ := bnd hf
  refine q_cNV (ws' := wNet cI n0 n1 n2 n3 n4 n5 n6 (N.1, N.2.1, N.2.2.1, N.2.2.2.1, N.2.2.2.2.1, N.2.2.2.2.2.1, z2, N.2.2.2.2.2.2.2.1, N.2.2.2.2.2.2.2.2)) C (c_X2_putAt l D cI cJ cN n4 49 N.2.2.2.2.2.2.1 x1 (0 : Int32) z2 h_z2) (mkN (fr := 0) (lo := 0) C 1 rfl xc_X2_putAt xs_X2_putAt xn_X2 hd_X2_putAt ⟨Nat.le_of_ble_eq_true rfl, Nat.le_of_ble_eq_true rfl⟩) [4] rfl (by decide) rfl rfl rfl rfl (Nat.le_of_ble_eq_true rfl) dX0_putAway_12 ⟨Nat.le_of_ble_eq_true rfl, Nat.le_of_ble_eq_true rfl⟩ ?_
  refine q_iconst (v := 0) C dX0_putAway_15 (by decide) ?_
  refine q_istore_n (lv' := [(3, .int (0 : Int32)), (2, .int z1), (0, .ref n0), (1, .int x1)]) C dX0_putAway_16 rfl (by decide) rfl ?_
  refine q_sub (lv' := [(0, .ref n0), (1, .int x1), (2, .int z1), (3, .int (0 : Int32))]) [2, 3, 1, 0] rfl ?_
  exact l_X0_putAway_17 C FU (N.1, N.2.1, N.2.2.1, N.2.2.2.1, N.2.2.2.2.1, N.2.2.2.2.2.1, z2, N.2.2.2.2.2.2.2.1, N.2.2.2.2.2.2.2.2) x1 z1 (0 : Int32) hf
set_option maxRecDepth 100000 in
set_option maxHeartbeats 4000000 in
theorem c_X0_putIn (l : Launch) (D : va_G) (cI cJ cN : ClassId) (n0 n1 n2 n3 n4 n5 n6 : Nat)  (N : NS) (x1 : Int32) (z : NS) (hf : f_X0_putIn N x1 = some z) : MV l D cI cJ cN yX0_putIn (WS yX0_putIn cX0_putIn 2 none) { frames := 1, cells := 0, slots := 0, locals := 20 } [.ref n0, .int x1] (wNet cI n0 n1 n2 n3 n4 n5 n6 N) (fun w => w = wNet cI n0 n1 n2 n3 n4 n5 n6 z) := by
  rw [f_X0_putIn] at hf
  refine q_startV (lv := [(0, .ref n0), (1, .int x1)]) (by decide +kernel) rfl (Nat.le_of_ble_eq_true rfl) ?_
  intro p e s m below meth c C hin
  refine q_aload_n C dX0_putIn_0 rfl 0 rfl ?_
  refine q_dup C dX0_putIn_1 rfl ?_
  refine q_get C (uW uX0_in) 0 rfl rfl 2 (by decide) (ws_in xf_X0_52) rfl rfl dX0_putIn_2 ?_
  refine q_iload_n C dX0_putIn_5 rfl 1 rfl ?_
  obtain ⟨z1, h_z1, hf⟩ := bnd hf
  refine q_cNL (ws' := wNet cI n0 n1 n2 n3 n4 n5 n6 N) C (c_X2_only l D cI cJ cN x1 z1 h_z1) (mkN (fr := 0) (lo := 0) C 0 rfl xc_X2_only xs_X2_only xn_X2 hd_X2_only ⟨Nat.le_of_ble_eq_true rfl, Nat.le_of_ble_eq_true rfl⟩) [] rfl (by decide) rfl rfl rfl rfl (Nat.le_of_ble_eq_true rfl) dX0_putIn_6 ⟨Nat.le_of_ble_eq_true rfl, Nat.le_of_ble_eq_true rfl⟩ ?_
  refine q_lor C dX0_putIn_9 ?_
  refine q_put (ws' := wNet cI n0 n1 n2 n3 n4 n5 n6 (N.1, N.2.1, (N.2.2.1 ||| z1), N.2.2.2.1, N.2.2.2.2.1, N.2.2.2.2.2.1, N.2.2.2.2.2.2.1, N.2.2.2.2.2.2.2.1, N.2.2.2.2.2.2.2.2)) (ty := .long) C (uW uX0_in) tyX0 tyX0_ok nmX0 0 rfl rfl 2 (by decide) (ws_in xf_X0_52) rfl rfl (by decide +kernel) rfl rfl (Nat.le_of_ble_eq_true rfl) dX0_putIn_10 rfl ?_
  have hf := Option.some.inj hf
  subst hf
  exact q_vret C (Nat.le_of_ble_eq_true rfl) (Nat.le_of_ble_eq_true rfl) rfl dX0_putIn_13
set_option maxRecDepth 100000 in
set_option maxHeartbeats 4000000 in
theorem c_X0_standingAt (l : Launch) (D : va_G) (cI cJ cN : ClassId) (n0 n1 n2 n3 n4 n5 n6 : Nat)  (N : NS) (x1 : Int32) (x2 : Int32) (z : Int64) (hf : f_X0_standingAt N x1 x2 = some z) : ML l D cI cJ cN yX0_standingAt (WS yX0_standingAt cX0_standingAt 4 (some .long)) { frames := 0, cells := 0, slots := 0, locals := 0 } [.ref n0, .int x1, .int x2] (wNet cI n0 n1 n2 n3 n4 n5 n6 N) z (fun w => w = wNet cI n0 n1 n2 n3 n4 n5 n6 N) := by
  rw [f_X0_standingAt] at hf
  refine q_startL (lv := [(0, .ref n0), (1, .int x1), (2, .int x2)]) (by decide +kernel) rfl (Nat.le_of_ble_eq_true rfl) ?_
  intro p e s m below meth c C hin
  refine q_iload_n C dX0_standingAt_0 rfl 1 rfl ?_
  refine q_if_lt C 24 dX0_standingAt_1 (by decide) (fun h => ?_) (fun h => ?_)
  · have hf := ifT hf h
    refine q_lconst (v := 0) C dX0_standingAt_24 (by decide) ?_
    have hf := Option.some.inj hf
    subst hf
    exact q_lret C (Nat.le_of_ble_eq_true rfl) (Nat.le_of_ble_eq_true rfl) rfl dX0_standingAt_25
  · have hf := ifF hf h
    refine q_iload_n C dX0_standingAt_4 rfl 1 rfl ?_
    refine q_aload_n C dX0_standingAt_5 rfl 0 rfl ?_
    refine q_get C (uW uX0_in) 0 rfl rfl 0 (by decide) (ws_in xf_X0_37) rfl rfl dX0_standingAt_6 ?_
    refine q_icmp_ge C 24 dX0_standingAt_9 (by decide) (fun h => ?_) (fun h => ?_)
    · have hf := ifT hf h
      refine q_lconst (v := 0) C dX0_standingAt_24 (by decide) ?_
      have hf := Option.some.inj hf
      subst hf
      exact q_lret C (Nat.le_of_ble_eq_true rfl) (Nat.le_of_ble_eq_true rfl) rfl dX0_standingAt_25
    · have hf := ifF hf h
      refine q_iload_n C dX0_standingAt_12 rfl 2 rfl ?_
      refine q_if_lt C 24 dX0_standingAt_13 (by decide) (fun h => ?_) (fun h => ?_)
      · have hf := ifT hf h
        refine q_lconst (v := 0) C dX0_standingAt_24 (by decide) ?_
        have hf := Option.some.inj hf
        subst hf
        exact q_lret C (Nat.le_of_ble_eq_true rfl) (Nat.le_of_ble_eq_true rfl) rfl dX0_standingAt_25
      · have hf := ifF hf h
        refine q_iload_n C dX0_standingAt_16 rfl 2 rfl ?_
        refine q_aload_n C dX0_standingAt_17 rfl 0 rfl ?_
        refine q_get C (uW uX0_in) 0 rfl rfl 1 (by decide) (ws_in xf_X0_41) rfl rfl dX0_standingAt_18 ?_
        refine q_icmp_lt C 26 dX0_standingAt_21 (by decide) (fun h => ?_) (fun h => ?_)
        · have hf := ifT hf h
          refine q_iload_n C dX0_standingAt_26 rfl 2 rfl ?_
          refine q_aload_n C dX0_standingAt_27 rfl 0 rfl ?_
          refine q_get C (uW uX0_in) 0 rfl rfl 0 (by decide) (ws_in xf_X0_37) rfl rfl dX0_standingAt_28 ?_
          refine q_imul C dX0_standingAt_31 ?_
          refine q_iload_n C dX0_standingAt_32 rfl 1 rfl ?_
          refine q_iadd C dX0_standingAt_33 ?_
          refine q_istore_n (lv' := [(3, .int ((x2 * N.1) + x1)), (0, .ref n0), (1, .int x1), (2, .int x2)]) C dX0_standingAt_34 rfl (by decide) rfl ?_
          refine q_iload_n C dX0_standingAt_35 rfl 0 rfl ?_
          refine q_if_lt C 59 dX0_standingAt_36 (by decide) (fun h => ?_) (fun h => ?_)
          · have hf := ifT hf h
            refine q_lconst (v := 0) C dX0_standingAt_59 (by decide) ?_
            have hf := Option.some.inj hf
            subst hf
            exact q_lret C (Nat.le_of_ble_eq_true rfl) (Nat.le_of_ble_eq_true rfl) rfl dX0_standingAt_60
          · have hf := ifF hf h
            refine q_iload_n C dX0_standingAt_39 rfl 0 rfl ?_
            refine q_aload_n C dX0_standingAt_40 rfl 1 rfl ?_
            refine q_get C (uW uX0_in) 0 rfl rfl 5 (by decide) (ws_in xf_X0_18) rfl rfl dX0_standingAt_41 ?_
            refine q_alenI C 3 rfl dX0_standingAt_44 ?_
            refine q_icmp_ge C 59 dX0_standingAt_45 (by decide) (fun h => ?_) (fun h => ?_)
            · have hf := ifT hf h
              refine q_lconst (v := 0) C dX0_standingAt_59 (by decide) ?_
              have hf := Option.some.inj hf
              subst hf
              exact q_lret C (Nat.le_of_ble_eq_true rfl) (Nat.le_of_ble_eq_true rfl) rfl dX0_standingAt_60
            · have hf := ifF hf h
              refine q_lconst (v := 1) C dX0_standingAt_48 (by decide) ?_
              refine q_aload_n C dX0_standingAt_49 rfl 1 rfl ?_
              refine q_get C (uW uX0_in) 0 rfl rfl 5 (by decide) (ws_in xf_X0_18) rfl rfl dX0_standingAt_50 ?_
              refine q_iload_n C dX0_standingAt_53 rfl 0 rfl ?_
              obtain ⟨hg, hf⟩ := gd_some hf
              refine q_iald C 3 rfl hg dX0_standingAt_54 ?_
              refine q_lshl C dX0_standingAt_55 ?_
              refine q_goto C 60 dX0_standingAt_56 (by decide) ?_
              have hf := Option.some.inj hf
              subst hf
              exact q_lret C (Nat.le_of_ble_eq_true rfl) (Nat.le_of_ble_eq_true rfl) rfl dX0_standingAt_60
        · have hf := ifF hf h
          refine q_lconst (v := 0) C dX0_standingAt_24 (by decide) ?_
          have hf := Option.some.inj hf
          subst hf
          exact q_lret C (Nat.le_of_ble_eq_true rfl) (Nat.le_of_ble_eq_true rfl) rfl dX0_standingAt_25
set_option maxRecDepth 100000 in
set_option maxHeartbeats 4000000 in
theorem c_X0_neighborsOf (l : Launch) (D : va_G) (cI cJ cN : ClassId) (n0 n1 n2 n3 n4 n5 n6 : Nat)  (N : NS) (x1 : Int32) (z : Int64) (hf : f_X0_neighborsOf N x1 = some z) : ML l D cI cJ cN yX0_neighborsOf (WS yX0_neighborsOf cX0_neighborsOf 4 (some .long)) { frames := 1, cells := 0, slots := 0, locals := 23 } [.ref n0, .int x1] (wNet cI n0 n1 n2 n3 n4 n5 n6 N) z (fun w => w = wNet cI n0 n1 n2 n3 n4 n5 n6 N) := by
  rw [f_X0_neighborsOf] at hf
  refine q_startL (lv := [(0, .ref n0), (1, .int x1)]) (by decide +kernel) rfl (Nat.le_of_ble_eq_true rfl) ?_
  intro p e s m below meth c C hin
  refine q_aload_n C dX0_neighborsOf_0 rfl 0 rfl ?_
  refine q_get C (uW uX0_in) 0 rfl rfl 3 (by decide) (ws_in xf_X0_9) rfl rfl dX0_neighborsOf_1 ?_
  refine q_iload_n C dX0_neighborsOf_4 rfl 1 rfl ?_
  obtain ⟨z1, h_z1, hf⟩ := bnd hf
  refine q_cNI (ws' := wNet cI n0 n1 n2 n3 n4 n5 n6 N) C (c_X2_valueAt l D cI cJ cN n1 49 N.2.2.2.1 x1 z1 h_z1) (mkN (fr := 0) (lo := 0) C 4 rfl xc_X2_valueAt xs_X2_valueAt xn_X2 hd_X2_valueAt ⟨Nat.le_of_ble_eq_true rfl, Nat.le_of_ble_eq_true rfl⟩) [1] rfl (by decide) rfl rfl rfl rfl (Nat.le_of_ble_eq_true rfl) dX0_neighborsOf_5 ⟨Nat.le_of_ble_eq_true rfl, Nat.le_of_ble_eq_true rfl⟩ ?_
  refine q_istore_n (lv' := [(2, .int z1), (0, .ref n0), (1, .int x1)]) C dX0_neighborsOf_8 rfl (by decide) rfl ?_
  refine q_aload_n C dX0_neighborsOf_9 rfl 1 rfl ?_
  refine q_get C (uW uX0_in) 0 rfl rfl 4 (by decide) (ws_in xf_X0_15) rfl rfl dX0_neighborsOf_10 ?_
  refine q_iload_n C dX0_neighborsOf_13 rfl 2 rfl ?_
  obtain ⟨z2, h_z2, hf⟩ := bnd hf
  refine q_cNI (ws' := wNet cI n0 n1 n2 n3 n4 n5 n6 N) C (c_X2_valueAt l D cI cJ cN n2 49 N.2.2.2.2.1 x1 z2 h_z2) (mkN (fr := 0) (lo := 0) C 4 rfl xc_X2_valueAt xs_X2_valueAt xn_X2 hd_X2_valueAt ⟨Nat.le_of_ble_eq_true rfl, Nat.le_of_ble_eq_true rfl⟩) [2] rfl (by decide) rfl rfl rfl rfl (Nat.le_of_ble_eq_true rfl) dX0_neighborsOf_14 ⟨Nat.le_of_ble_eq_true rfl, Nat.le_of_ble_eq_true rfl⟩ ?_
  refine q_istore_n (lv' := [(3, .int z2), (2, .int z1), (0, .ref n0), (1, .int x1)]) C dX0_neighborsOf_17 rfl (by decide) rfl ?_
  refine q_aload_n C dX0_neighborsOf_18 rfl 2 rfl ?_
  refine q_get C (uW uX0_in) 0 rfl rfl 2 (by decide) (ws_in xf_X0_52) rfl rfl dX0_neighborsOf_19 ?_
  refine q_aload_n C dX0_neighborsOf_22 rfl 2 rfl ?_
  refine q_iload_n C dX0_neighborsOf_23 rfl 1 rfl ?_
  refine q_iconst (v := 1) C dX0_neighborsOf_24 (by decide) ?_
  refine q_isub C dX0_neighborsOf_25 ?_
  refine q_iload_n C dX0_neighborsOf_26 rfl 0 rfl ?_
  obtain ⟨z3, h_z3, hf⟩ := bnd hf
  refine q_cVLw C (c_X0_standingAt l D cI cJ cN n0 n1 n2 n3 n4 n5 n6 N (z1 - (1 : Int32)) z2 z3 h_z3) (mkV (fr := 0) (lo := 0) C xc_X0_standingAt xm_X0_121 xi_X0_standingAt xe_X0_standingAt xn_X0 hd_X0_standingAt ⟨Nat.le_of_ble_eq_true rfl, Nat.le_of_ble_eq_true rfl⟩) 0 rfl rfl rfl rfl (Nat.le_of_ble_eq_true rfl) dX0_neighborsOf_27 ⟨Nat.le_of_ble_eq_true rfl, Nat.le_of_ble_eq_true rfl⟩ (fun w1 hp1 => ?_)
  subst hp1
  refine q_aload_n C dX0_neighborsOf_30 rfl 2 rfl ?_
  refine q_iload_n C dX0_neighborsOf_31 rfl 1 rfl ?_
  refine q_iconst (v := 1) C dX0_neighborsOf_32 (by decide) ?_
  refine q_iadd C dX0_neighborsOf_33 ?_
  refine q_iload_n C dX0_neighborsOf_34 rfl 0 rfl ?_
  obtain ⟨z4, h_z4, hf⟩ := bnd hf
  refine q_cVLw C (c_X0_standingAt l D cI cJ cN n0 n1 n2 n3 n4 n5 n6 N (z1 + (1 : Int32)) z2 z4 h_z4) (mkV (fr := 0) (lo := 0) C xc_X0_standingAt xm_X0_121 xi_X0_standingAt xe_X0_standingAt xn_X0 hd_X0_standingAt ⟨Nat.le_of_ble_eq_true rfl, Nat.le_of_ble_eq_true rfl⟩) 0 rfl rfl rfl rfl (Nat.le_of_ble_eq_true rfl) dX0_neighborsOf_35 ⟨Nat.le_of_ble_eq_true rfl, Nat.le_of_ble_eq_true rfl⟩ (fun w1 hp1 => ?_)
  subst hp1
  refine q_lor C dX0_neighborsOf_38 ?_
  refine q_aload_n C dX0_neighborsOf_39 rfl 2 rfl ?_
  refine q_iload_n C dX0_neighborsOf_40 rfl 1 rfl ?_
  refine q_iload_n C dX0_neighborsOf_41 rfl 0 rfl ?_
  refine q_iconst (v := 1) C dX0_neighborsOf_42 (by decide) ?_
  refine q_isub C dX0_neighborsOf_43 ?_
  obtain ⟨z5, h_z5, hf⟩ := bnd hf
  refine q_cVLw C (c_X0_standingAt l D cI cJ cN n0 n1 n2 n3 n4 n5 n6 N z1 (z2 - (1 : Int32)) z5 h_z5) (mkV (fr := 0) (lo := 0) C xc_X0_standingAt xm_X0_121 xi_X0_standingAt xe_X0_standingAt xn_X0 hd_X0_standingAt ⟨Nat.le_of_ble_eq_true rfl, Nat.le_of_ble_eq_true rfl⟩) 0 rfl rfl rfl rfl (Nat.le_of_ble_eq_true rfl) dX0_neighborsOf_44 ⟨Nat.le_of_ble_eq_true rfl, Nat.le_of_ble_eq_true rfl⟩ (fun w1 hp1 => ?_)
  subst hp1
  refine q_lor C dX0_neighborsOf_47 ?_
  refine q_aload_n C dX0_neighborsOf_48 rfl 2 rfl ?_
  refine q_iload_n C dX0_neighborsOf_49 rfl 1 rfl ?_
  refine q_iload_n C dX0_neighborsOf_50 rfl 0 rfl ?_
  refine q_iconst (v := 1) C dX0_neighborsOf_51 (by decide) ?_
  refine q_iadd C dX0_neighborsOf_52 ?_
  obtain ⟨z6, h_z6, hf⟩ := bnd hf
  refine q_cVLw C (c_X0_standingAt l D cI cJ cN n0 n1 n2 n3 n4 n5 n6 N z1 (z2 + (1 : Int32)) z6 h_z6) (mkV (fr := 0) (lo := 0) C xc_X0_standingAt xm_X0_121 xi_X0_standingAt xe_X0_standingAt xn_X0 hd_X0_standingAt ⟨Nat.le_of_ble_eq_true rfl, Nat.le_of_ble_eq_true rfl⟩) 0 rfl rfl rfl rfl (Nat.le_of_ble_eq_true rfl) dX0_neighborsOf_53 ⟨Nat.le_of_ble_eq_true rfl, Nat.le_of_ble_eq_true rfl⟩ (fun w1 hp1 => ?_)
  subst hp1
  refine q_lor C dX0_neighborsOf_56 ?_
  refine q_land C dX0_neighborsOf_57 ?_
  have hf := Option.some.inj hf
  subst hf
  exact q_lret C (Nat.le_of_ble_eq_true rfl) (Nat.le_of_ble_eq_true rfl) rfl dX0_neighborsOf_58
set_option maxRecDepth 100000 in
set_option maxHeartbeats 4000000 in
theorem l_X0_contactsOf_9 {p : Program} {l : Launch} {e : Env} {s : State} {m : MethodId} {args : Array Value} {below : List Frame} {meth : Method} {c : Code} {D : va_G} {cI cJ cN : ClassId} {W0 : va_W} {n0 n1 n2 n3 n4 n5 n6 : Nat} {z : Int64} (C : CX p l s m args meth c cX0_contactsOf 5 yX0_contactsOf.cls (WS yX0_contactsOf cX0_contactsOf 5 (some .long)) (some .long) D cI cJ cN (va_A W0 s.heap.size)) : ∀ (fu : Nat) (N : NS) (x1 : Int32) (x2 : Int64) (x4 : Int32), g_X0_contactsOf_9 fu N x1 x2 x4 = some z → WW p l e { frames := 2, cells := 0, slots := 0, locals := 46 } s m args below meth c D 5 (va_A W0 s.heap.size) 0 0 (QL below args s D W0 { frames := 2, cells := 0, slots := 0, locals := 46 } z (fun w => w = wNet cI n0 n1 n2 n3 n4 n5 n6 N)) 9 [(0, .ref n0), (1, .int x1), (2, .long x2), (4, .int x4)] [] (wNet cI n0 n1 n2 n3 n4 n5 n6 N) := by
  intro fu
  induction fu with
  | zero =>
    intro N x1 x2 x4 hf
    rw [g_X0_contactsOf_9] at hf
    cases hf
  | succ fu ih =>
    intro N x1 x2 x4 hf
    rw [g_X0_contactsOf_9] at hf
    refine q_iload C dX0_contactsOf_9 3 rfl ?_
    refine q_aload_n C dX0_contactsOf_11 rfl 0 rfl ?_
    refine q_iload_n C dX0_contactsOf_12 rfl 1 rfl ?_
    obtain ⟨z1, h_z1, hf⟩ := bnd hf
    refine q_cVIw C (c_X0_linksOf l D cI cJ cN n0 n1 n2 n3 n4 n5 n6 N x1 z1 h_z1) (mkV (fr := 1) (lo := 21) C xc_X0_linksOf xm_X0_103 xi_X0_linksOf xe_X0_linksOf xn_X0 hd_X0_linksOf ⟨Nat.le_of_ble_eq_true rfl, Nat.le_of_ble_eq_true rfl⟩) 0 rfl rfl rfl rfl (Nat.le_of_ble_eq_true rfl) dX0_contactsOf_13 ⟨Nat.le_of_ble_eq_true rfl, Nat.le_of_ble_eq_true rfl⟩ (fun w1 hp1 => ?_)
    subst hp1
    refine q_icmp_ge C 38 dX0_contactsOf_16 (by decide) (fun h => ?_) (fun h => ?_)
    · have hf := ifT hf h
      refine q_lload_n C dX0_contactsOf_38 rfl 2 rfl ?_
      have hf := Option.some.inj hf
      subst hf
      exact q_lret C (Nat.le_of_ble_eq_true rfl) (Nat.le_of_ble_eq_true rfl) rfl dX0_contactsOf_39
    · have hf := ifF hf h
      refine q_lload_n C dX0_contactsOf_19 rfl 2 rfl ?_
      refine q_aload_n C dX0_contactsOf_20 rfl 0 rfl ?_
      refine q_iload_n C dX0_contactsOf_21 rfl 1 rfl ?_
      refine q_iload C dX0_contactsOf_22 3 rfl ?_
      obtain ⟨z2, h_z2, hf⟩ := bnd hf
      refine q_cVIw C (c_X0_linkAt l D cI cJ cN n0 n1 n2 n3 n4 n5 n6 N x1 x4 z2 h_z2) (mkV (fr := 1) (lo := 21) C xc_X0_linkAt xm_X0_106 xi_X0_linkAt xe_X0_linkAt xn_X0 hd_X0_linkAt ⟨Nat.le_of_ble_eq_true rfl, Nat.le_of_ble_eq_true rfl⟩) 0 rfl rfl rfl rfl (Nat.le_of_ble_eq_true rfl) dX0_contactsOf_24 ⟨Nat.le_of_ble_eq_true rfl, Nat.le_of_ble_eq_true rfl⟩ (fun w1 hp1 => ?_)
      subst hp1
      obtain ⟨z3, h_z3, hf⟩ := bnd hf
      refine q_cNL (ws' := wNet cI n0 n1 n2 n3 n4 n5 n6 N) C (c_X2_only l D cI cJ cN z2 z3 h_z3) (mkN (fr := 0) (lo := 0) C 0 rfl xc_X2_only xs_X2_only xn_X2 hd_X2_only ⟨Nat.le_of_ble_eq_true rfl, Nat.le_of_ble_eq_true rfl⟩) [] rfl (by decide) rfl rfl rfl rfl (Nat.le_of_ble_eq_true rfl) dX0_contactsOf_27 ⟨Nat.le_of_ble_eq_true rfl, Nat.le_of_ble_eq_true rfl⟩ ?_
      refine q_lor C dX0_contactsOf_30 ?_
      refine q_lstore_n (lv' := [(2, .long (x2 ||| z3)), (0, .ref n0), (1, .int x1), (4, .int x4)]) C dX0_contactsOf_31 rfl (by decide) rfl ?_
      refine q_iinc (v := (x4 + (1 : Int32))) (lv' := [(4, .int (x4 + (1 : Int32))), (2, .long (x2 ||| z3)), (0, .ref n0), (1, .int x1)]) C dX0_contactsOf_32 3 rfl rfl (by decide) rfl ?_
      refine q_goto C 9 dX0_contactsOf_35 (by decide) ?_
      refine q_sub (lv' := [(0, .ref n0), (1, .int x1), (2, .long (x2 ||| z3)), (4, .int (x4 + (1 : Int32)))]) [2, 3, 1, 0] rfl ?_
      exact ih N x1 (x2 ||| z3) (x4 + (1 : Int32)) hf
set_option maxRecDepth 100000 in
set_option maxHeartbeats 4000000 in
theorem c_X0_contactsOf (l : Launch) (D : va_G) (cI cJ cN : ClassId) (n0 n1 n2 n3 n4 n5 n6 : Nat)  (N : NS) (x1 : Int32) (z : Int64) (hf : f_X0_contactsOf N x1 = some z) : ML l D cI cJ cN yX0_contactsOf (WS yX0_contactsOf cX0_contactsOf 5 (some .long)) { frames := 2, cells := 0, slots := 0, locals := 46 } [.ref n0, .int x1] (wNet cI n0 n1 n2 n3 n4 n5 n6 N) z (fun w => w = wNet cI n0 n1 n2 n3 n4 n5 n6 N) := by
  rw [f_X0_contactsOf] at hf
  refine q_startL (lv := [(0, .ref n0), (1, .int x1)]) (by decide +kernel) rfl (Nat.le_of_ble_eq_true rfl) ?_
  intro p e s m below meth c C hin
  refine q_aload_n C dX0_contactsOf_0 rfl 0 rfl ?_
  refine q_iload_n C dX0_contactsOf_1 rfl 1 rfl ?_
  obtain ⟨z1, h_z1, hf⟩ := bnd hf
  refine q_cVLw C (c_X0_neighborsOf l D cI cJ cN n0 n1 n2 n3 n4 n5 n6 N x1 z1 h_z1) (mkV (fr := 1) (lo := 23) C xc_X0_neighborsOf xm_X0_125 xi_X0_neighborsOf xe_X0_neighborsOf xn_X0 hd_X0_neighborsOf ⟨Nat.le_of_ble_eq_true rfl, Nat.le_of_ble_eq_true rfl⟩) 0 rfl rfl rfl rfl (Nat.le_of_ble_eq_true rfl) dX0_contactsOf_2 ⟨Nat.le_of_ble_eq_true rfl, Nat.le_of_ble_eq_true rfl⟩ (fun w1 hp1 => ?_)
  subst hp1
  refine q_lstore_n (lv' := [(2, .long z1), (0, .ref n0), (1, .int x1)]) C dX0_contactsOf_5 rfl (by decide) rfl ?_
  refine q_iconst (v := 0) C dX0_contactsOf_6 (by decide) ?_
  refine q_istore (lv' := [(4, .int (0 : Int32)), (2, .long z1), (0, .ref n0), (1, .int x1)]) C dX0_contactsOf_7 (by decide) rfl ?_
  refine q_sub (lv' := [(0, .ref n0), (1, .int x1), (2, .long z1), (4, .int (0 : Int32))]) [2, 3, 1, 0] rfl ?_
  exact l_X0_contactsOf_9 C FU N x1 z1 (0 : Int32) hf
set_option maxRecDepth 100000 in
set_option maxHeartbeats 4000000 in
theorem c_X0_weight (l : Launch) (D : va_G) (cI cJ cN : ClassId)   (x0 : Int32) (x1 : Int32) (z : Int32) (hf : f_X0_weight x0 x1 = some z) : MI l D cI cJ cN yX0_weight (WS yX0_weight cX0_weight 2 (some .int)) { frames := 0, cells := 0, slots := 0, locals := 0 } [.int x0, .int x1] ([]) z (fun w => w = []) := by
  rw [f_X0_weight] at hf
  refine q_startI (lv := [(0, .int x0), (1, .int x1)]) (by decide +kernel) rfl (Nat.le_of_ble_eq_true rfl) ?_
  intro p e s m below meth c C hin
  refine q_iload_n C dX0_weight_0 rfl 0 rfl ?_
  refine q_iconst (v := 1) C dX0_weight_1 (by decide) ?_
  refine q_icmp_lt C 11 dX0_weight_2 (by decide) (fun h => ?_) (fun h => ?_)
  · have hf := ifT hf h
    refine q_iconst (v := 0) C dX0_weight_11 (by decide) ?_
    have hf := Option.some.inj hf
    subst hf
    exact q_iret C (Nat.le_of_ble_eq_true rfl) (Nat.le_of_ble_eq_true rfl) rfl dX0_weight_12
  · have hf := ifF hf h
    refine q_iload_n C dX0_weight_5 rfl 0 rfl ?_
    refine q_bipush (v := 14) C dX0_weight_6 (by decide) ?_
    refine q_icmp_le C 13 dX0_weight_8 (by decide) (fun h => ?_) (fun h => ?_)
    · have hf := ifT hf h
      refine q_iload_n C dX0_weight_13 rfl 1 rfl ?_
      by_cases h0 : x1 = (1 : Int32)
      · have hf := ifT hf h0
        refine q_lookup (off := 26) C 40 dX0_weight_14 (by decide) (by first | (rw [h0]; done) | (rw [h0]; decide)) (by decide) ?_
        refine q_bipush (v := 60) C dX0_weight_40 (by decide) ?_
        refine q_iload_n C dX0_weight_42 rfl 0 rfl ?_
        obtain ⟨hg, hf⟩ := gd_some hf
        refine q_idiv C dX0_weight_43 hg ?_
        have hf := Option.some.inj hf
        subst hf
        exact q_iret C (Nat.le_of_ble_eq_true rfl) (Nat.le_of_ble_eq_true rfl) rfl dX0_weight_44
      · have hf := ifF hf h0
        by_cases h1 : x1 = (2 : Int32)
        · have hf := ifT hf h1
          refine q_lookup (off := 31) C 45 dX0_weight_14 (by decide) (by first | (rw [h1]; done) | (rw [h1]; decide)) (by decide) ?_
          refine q_sipush (v := 3600) C dX0_weight_45 (by decide) ?_
          refine q_iload_n C dX0_weight_48 rfl 0 rfl ?_
          refine q_iload_n C dX0_weight_49 rfl 0 rfl ?_
          refine q_imul C dX0_weight_50 ?_
          obtain ⟨hg, hf⟩ := gd_some hf
          refine q_idiv C dX0_weight_51 hg ?_
          have hf := Option.some.inj hf
          subst hf
          exact q_iret C (Nat.le_of_ble_eq_true rfl) (Nat.le_of_ble_eq_true rfl) rfl dX0_weight_52
        · have hf := ifF hf h1
          refine q_lookup (off := 39) C 53 dX0_weight_14 (by decide) ((lv_osw h0 (by decide)).trans ((lv_osw h1 (by decide)).trans rfl)) (by decide) ?_
          refine q_iconst (v := 1) C dX0_weight_53 (by decide) ?_
          have hf := Option.some.inj hf
          subst hf
          exact q_iret C (Nat.le_of_ble_eq_true rfl) (Nat.le_of_ble_eq_true rfl) rfl dX0_weight_54
    · have hf := ifF hf h
      refine q_iconst (v := 0) C dX0_weight_11 (by decide) ?_
      have hf := Option.some.inj hf
      subst hf
      exact q_iret C (Nat.le_of_ble_eq_true rfl) (Nat.le_of_ble_eq_true rfl) rfl dX0_weight_12
set_option maxRecDepth 100000 in
set_option maxHeartbeats 4000000 in
theorem l_X0_drawTarget_97 {p : Program} {l : Launch} {e : Env} {s : State} {m : MethodId} {args : Array Value} {below : List Frame} {meth : Method} {c : Code} {D : va_G} {cI cJ cN : ClassId} {W0 : va_W} {n0 n1 n2 n3 n4 n5 n6 : Nat} {z : Int32 × NS} (C : CX p l s m args meth c cX0_drawTarget 9 yX0_drawTarget.cls (WS yX0_drawTarget cX0_drawTarget 9 (some .int)) (some .int) D cI cJ cN (va_A W0 s.heap.size)) : ∀ (fu : Nat) (N : NS) (x1 : Int32) (x2 : Int32) (x3 : Int64) (x6 : Int32) (x7 : Int32) (x8 : Int32), g_X0_drawTarget_97 fu N x1 x2 x3 x6 x7 x8 = some z → WW p l e { frames := 3, cells := 0, slots := 0, locals := 70 } s m args below meth c D 9 (va_A W0 s.heap.size) 0 0 (QI below args s D W0 { frames := 3, cells := 0, slots := 0, locals := 70 } z.1 (fun w => w = wNet cI n0 n1 n2 n3 n4 n5 n6 z.2)) 97 [(0, .ref n0), (1, .int x1), (2, .int x2), (3, .long x3), (6, .int x6), (7, .int x7), (8, .int x8)] [] (wNet cI n0 n1 n2 n3 n4 n5 n6 N) := by
  intro fu
  induction fu with
  | zero =>
    intro N x1 x2 x3 x6 x7 x8 hf
    rw [g_X0_drawTarget_97] at hf
    cases hf
  | succ fu ih =>
    intro N x1 x2 x3 x6 x7 x8 hf
    rw [g_X0_drawTarget_97] at hf
    refine q_iload C dX0_drawTarget_97 6 rfl ?_
    refine q_aload_n C dX0_drawTarget_99 rfl 0 rfl ?_
    obtain ⟨z1, h_z1, hf⟩ := bnd hf
    refine q_cVIw C (c_X0_nodes l D cI cJ cN n0 n1 n2 n3 n4 n5 n6 N z1 h_z1) (mkV (fr := 0) (lo := 0) C xc_X0_nodes xm_X0_44 xi_X0_nodes xe_X0_nodes xn_X0 hd_X0_nodes ⟨Nat.le_of_ble_eq_true rfl, Nat.le_of_ble_eq_true rfl⟩) 0 rfl rfl rfl rfl (Nat.le_of_ble_eq_true rfl) dX0_drawTarget_100 ⟨Nat.le_of_ble_eq_true rfl, Nat.le_of_ble_eq_true rfl⟩ (fun w1 hp1 => ?_)
    subst hp1
    refine q_icmp_ge C 151 dX0_drawTarget_103 (by decide) (fun h => ?_) (fun h => ?_)
    · have hf := ifT hf h
      refine q_bipush (v := -9) C dX0_drawTarget_151 (by decide) ?_
      have hf := Option.some.inj hf
      subst hf
      exact q_iret C (Nat.le_of_ble_eq_true rfl) (Nat.le_of_ble_eq_true rfl) rfl dX0_drawTarget_153
    · have hf := ifF hf h
      refine q_iload C dX0_drawTarget_106 5 rfl ?_
      refine q_lload_n C dX0_drawTarget_108 rfl 3 rfl ?_
      refine q_iload C dX0_drawTarget_109 6 rfl ?_
      obtain ⟨z2, h_z2, hf⟩ := bnd hf
      refine q_cNI (ws' := wNet cI n0 n1 n2 n3 n4 n5 n6 N) C (c_X2_isIn l D cI cJ cN x3 x8 z2 h_z2) (mkN (fr := 0) (lo := 0) C 3 rfl xc_X2_isIn xs_X2_isIn xn_X2 hd_X2_isIn ⟨Nat.le_of_ble_eq_true rfl, Nat.le_of_ble_eq_true rfl⟩) [] rfl (by decide) rfl rfl rfl rfl (Nat.le_of_ble_eq_true rfl) dX0_drawTarget_111 ⟨Nat.le_of_ble_eq_true rfl, Nat.le_of_ble_eq_true rfl⟩ ?_
      refine q_if_eq C 131 dX0_drawTarget_114 (by decide) (fun h => ?_) (fun h => ?_)
      · have hf := ifT hf h
        refine q_iconst (v := 0) C dX0_drawTarget_131 (by decide) ?_
        refine q_iadd C dX0_drawTarget_132 ?_
        refine q_istore (lv' := [(7, .int (x7 + (0 : Int32))), (0, .ref n0), (1, .int x1), (2, .int x2), (3, .long x3), (6, .int x6), (8, .int x8)]) C dX0_drawTarget_133 (by decide) rfl ?_
        refine q_iload C dX0_drawTarget_135 0 rfl ?_
        refine q_iload C dX0_drawTarget_137 5 rfl ?_
        refine q_icmp_le C 145 dX0_drawTarget_139 (by decide) (fun h => ?_) (fun h => ?_)
        · have hf := ifT hf h
          refine q_iinc (v := (x8 + (1 : Int32))) (lv' := [(8, .int (x8 + (1 : Int32))), (7, .int (x7 + (0 : Int32))), (0, .ref n0), (1, .int x1), (2, .int x2), (3, .long x3), (6, .int x6)]) C dX0_drawTarget_145 6 rfl rfl (by decide) rfl ?_
          refine q_goto C 97 dX0_drawTarget_148 (by decide) ?_
          refine q_sub (lv' := [(0, .ref n0), (1, .int x1), (2, .int x2), (3, .long x3), (6, .int x6), (7, .int (x7 + (0 : Int32))), (8, .int (x8 + (1 : Int32)))]) [2, 3, 4, 5, 6, 1, 0] rfl ?_
          exact ih N x1 x2 x3 x6 (x7 + (0 : Int32)) (x8 + (1 : Int32)) hf
        · have hf := ifF hf h
          refine q_iload C dX0_drawTarget_142 6 rfl ?_
          have hf := Option.some.inj hf
          subst hf
          exact q_iret C (Nat.le_of_ble_eq_true rfl) (Nat.le_of_ble_eq_true rfl) rfl dX0_drawTarget_144
      · have hf := ifF hf h
        refine q_aload_n C dX0_drawTarget_117 rfl 0 rfl ?_
        refine q_iload_n C dX0_drawTarget_118 rfl 1 rfl ?_
        refine q_iload C dX0_drawTarget_119 6 rfl ?_
        obtain ⟨z3, h_z3, hf⟩ := bnd hf
        refine q_cVIw C (c_X0_spacing l D cI cJ cN n0 n1 n2 n3 n4 n5 n6 N x1 x8 z3 h_z3) (mkV (fr := 1) (lo := 21) C xc_X0_spacing xm_X0_116 xi_X0_spacing xe_X0_spacing xn_X0 hd_X0_spacing ⟨Nat.le_of_ble_eq_true rfl, Nat.le_of_ble_eq_true rfl⟩) 0 rfl rfl rfl rfl (Nat.le_of_ble_eq_true rfl) dX0_drawTarget_121 ⟨Nat.le_of_ble_eq_true rfl, Nat.le_of_ble_eq_true rfl⟩ (fun w1 hp1 => ?_)
        subst hp1
        refine q_iload_n C dX0_drawTarget_124 rfl 2 rfl ?_
        obtain ⟨z4, h_z4, hf⟩ := bnd hf
        refine q_cSI (ws' := wNet cI n0 n1 n2 n3 n4 n5 n6 N) C (c_X0_weight l D cI cJ cN z3 x2 z4 h_z4) (mkS (fr := 0) (lo := 0) C xc_X0_weight xm_X0_131 xs_X0_weight xn_X0 hd_X0_weight ⟨Nat.le_of_ble_eq_true rfl, Nat.le_of_ble_eq_true rfl⟩) [] rfl (by decide) rfl rfl rfl rfl (Nat.le_of_ble_eq_true rfl) dX0_drawTarget_125 ⟨Nat.le_of_ble_eq_true rfl, Nat.le_of_ble_eq_true rfl⟩ ?_
        refine q_goto C 132 dX0_drawTarget_128 (by decide) ?_
        refine q_iadd C dX0_drawTarget_132 ?_
        refine q_istore (lv' := [(7, .int (x7 + z4)), (0, .ref n0), (1, .int x1), (2, .int x2), (3, .long x3), (6, .int x6), (8, .int x8)]) C dX0_drawTarget_133 (by decide) rfl ?_
        refine q_iload C dX0_drawTarget_135 0 rfl ?_
        refine q_iload C dX0_drawTarget_137 5 rfl ?_
        refine q_icmp_le C 145 dX0_drawTarget_139 (by decide) (fun h => ?_) (fun h => ?_)
        · have hf := ifT hf h
          refine q_iinc (v := (x8 + (1 : Int32))) (lv' := [(8, .int (x8 + (1 : Int32))), (7, .int (x7 + z4)), (0, .ref n0), (1, .int x1), (2, .int x2), (3, .long x3), (6, .int x6)]) C dX0_drawTarget_145 6 rfl rfl (by decide) rfl ?_
          refine q_goto C 97 dX0_drawTarget_148 (by decide) ?_
          refine q_sub (lv' := [(0, .ref n0), (1, .int x1), (2, .int x2), (3, .long x3), (6, .int x6), (7, .int (x7 + z4)), (8, .int (x8 + (1 : Int32)))]) [2, 3, 4, 5, 6, 1, 0] rfl ?_
          exact ih N x1 x2 x3 x6 (x7 + z4) (x8 + (1 : Int32)) hf
        · have hf := ifF hf h
          refine q_iload C dX0_drawTarget_142 6 rfl ?_
          have hf := Option.some.inj hf
          subst hf
          exact q_iret C (Nat.le_of_ble_eq_true rfl) (Nat.le_of_ble_eq_true rfl) rfl dX0_drawTarget_144
set_option maxRecDepth 100000 in
set_option maxHeartbeats 4000000 in
theorem l_X0_drawTarget_30 {p : Program} {l : Launch} {e : Env} {s : State} {m : MethodId} {args : Array Value} {below : List Frame} {meth : Method} {c : Code} {D : va_G} {cI cJ cN : ClassId} {W0 : va_W} {n0 n1 n2 n3 n4 n5 n6 : Nat} {z : Int32 × NS} (C : CX p l s m args meth c cX0_drawTarget 9 yX0_drawTarget.cls (WS yX0_drawTarget cX0_drawTarget 9 (some .int)) (some .int) D cI cJ cN (va_A W0 s.heap.size)) : ∀ (fu : Nat) (N : NS) (x1 : Int32) (x2 : Int32) (x3 : Int64) (x5 : Int32) (x6 : Int32), g_X0_drawTarget_30 fu N x1 x2 x3 x5 x6 = some z → WW p l e { frames := 3, cells := 0, slots := 0, locals := 70 } s m args below meth c D 9 (va_A W0 s.heap.size) 0 0 (QI below args s D W0 { frames := 3, cells := 0, slots := 0, locals := 70 } z.1 (fun w => w = wNet cI n0 n1 n2 n3 n4 n5 n6 z.2)) 30 [(0, .ref n0), (1, .int x1), (2, .int x2), (3, .long x3), (5, .int x5), (6, .int x6)] [] (wNet cI n0 n1 n2 n3 n4 n5 n6 N) := by
  intro fu
  induction fu with
  | zero =>
    intro N x1 x2 x3 x5 x6 hf
    rw [g_X0_drawTarget_30] at hf
    cases hf
  | succ fu ih =>
    intro N x1 x2 x3 x5 x6 hf
    rw [g_X0_drawTarget_30] at hf
    refine q_iload C dX0_drawTarget_30 5 rfl ?_
    refine q_aload_n C dX0_drawTarget_32 rfl 0 rfl ?_
    obtain ⟨z1, h_z1, hf⟩ := bnd hf
    refine q_cVIw C (c_X0_nodes l D cI cJ cN n0 n1 n2 n3 n4 n5 n6 N z1 h_z1) (mkV (fr := 0) (lo := 0) C xc_X0_nodes xm_X0_44 xi_X0_nodes xe_X0_nodes xn_X0 hd_X0_nodes ⟨Nat.le_of_ble_eq_true rfl, Nat.le_of_ble_eq_true rfl⟩) 0 rfl rfl rfl rfl (Nat.le_of_ble_eq_true rfl) dX0_drawTarget_33 ⟨Nat.le_of_ble_eq_true rfl, Nat.le_of_ble_eq_true rfl⟩ (fun w1 hp1 => ?_)
    subst hp1
    refine q_icmp_ge C 74 dX0_drawTarget_36 (by decide) (fun h => ?_) (fun h => ?_)
    · have hf := ifT hf h
      refine q_iload C dX0_drawTarget_74 4 rfl ?_
      refine q_iconst (v := 1) C dX0_drawTarget_76 (by decide) ?_
      refine q_icmp_ge C 83 dX0_drawTarget_77 (by decide) (fun h => ?_) (fun h => ?_)
      · have hf := ifT hf h
        refine q_aload_n C dX0_drawTarget_83 rfl 0 rfl ?_
        refine q_iload C dX0_drawTarget_84 4 rfl ?_
        obtain ⟨z2, h_z2, hf⟩ := bnd hf
        refine q_cVIw C (c_X0_draw l D cI cJ cN n0 n1 n2 n3 n4 n5 n6 N x5 z2 h_z2) (mkV (fr := 2) (lo := 44) C xc_X0_draw xm_X0_134 xi_X0_draw xe_X0_draw xn_X0 hd_X0_draw ⟨Nat.le_of_ble_eq_true rfl, Nat.le_of_ble_eq_true rfl⟩) 0 rfl rfl rfl rfl (Nat.le_of_ble_eq_true rfl) dX0_drawTarget_86 ⟨Nat.le_of_ble_eq_true rfl, Nat.le_of_ble_eq_true rfl⟩ (fun w1 hp1 => ?_)
        subst hp1
        refine q_istore (lv' := [(6, .int z2.1), (0, .ref n0), (1, .int x1), (2, .int x2), (3, .long x3), (5, .int x5)]) C dX0_drawTarget_89 (by decide) rfl ?_
        refine q_iconst (v := 0) C dX0_drawTarget_91 (by decide) ?_
        refine q_istore (lv' := [(7, .int (0 : Int32)), (6, .int z2.1), (0, .ref n0), (1, .int x1), (2, .int x2), (3, .long x3), (5, .int x5)]) C dX0_drawTarget_92 (by decide) rfl ?_
        refine q_iconst (v := 0) C dX0_drawTarget_94 (by decide) ?_
        refine q_istore (lv' := [(8, .int (0 : Int32)), (7, .int (0 : Int32)), (6, .int z2.1), (0, .ref n0), (1, .int x1), (2, .int x2), (3, .long x3), (5, .int x5)]) C dX0_drawTarget_95 (by decide) rfl ?_
        refine q_sub (lv' := [(0, .ref n0), (1, .int x1), (2, .int x2), (3, .long x3), (6, .int z2.1), (7, .int (0 : Int32)), (8, .int (0 : Int32))]) [3, 4, 5, 6, 2, 1, 0] rfl ?_
        exact l_X0_drawTarget_97 C FU z2.2 x1 x2 x3 z2.1 (0 : Int32) (0 : Int32) hf
      · have hf := ifF hf h
        refine q_bipush (v := -9) C dX0_drawTarget_80 (by decide) ?_
        have hf := Option.some.inj hf
        subst hf
        exact q_iret C (Nat.le_of_ble_eq_true rfl) (Nat.le_of_ble_eq_true rfl) rfl dX0_drawTarget_82
    · have hf := ifF hf h
      refine q_iload C dX0_drawTarget_39 4 rfl ?_
      refine q_lload_n C dX0_drawTarget_41 rfl 3 rfl ?_
      refine q_iload C dX0_drawTarget_42 5 rfl ?_
      obtain ⟨z3, h_z3, hf⟩ := bnd hf
      refine q_cNI (ws' := wNet cI n0 n1 n2 n3 n4 n5 n6 N) C (c_X2_isIn l D cI cJ cN x3 x6 z3 h_z3) (mkN (fr := 0) (lo := 0) C 3 rfl xc_X2_isIn xs_X2_isIn xn_X2 hd_X2_isIn ⟨Nat.le_of_ble_eq_true rfl, Nat.le_of_ble_eq_true rfl⟩) [] rfl (by decide) rfl rfl rfl rfl (Nat.le_of_ble_eq_true rfl) dX0_drawTarget_44 ⟨Nat.le_of_ble_eq_true rfl, Nat.le_of_ble_eq_true rfl⟩ ?_
      refine q_if_eq C 64 dX0_drawTarget_47 (by decide) (fun h => ?_) (fun h => ?_)
      · have hf := ifT hf h
        refine q_iconst (v := 0) C dX0_drawTarget_64 (by decide) ?_
        refine q_iadd C dX0_drawTarget_65 ?_
        refine q_istore (lv' := [(5, .int (x5 + (0 : Int32))), (0, .ref n0), (1, .int x1), (2, .int x2), (3, .long x3), (6, .int x6)]) C dX0_drawTarget_66 (by decide) rfl ?_
        refine q_iinc (v := (x6 + (1 : Int32))) (lv' := [(6, .int (x6 + (1 : Int32))), (5, .int (x5 + (0 : Int32))), (0, .ref n0), (1, .int x1), (2, .int x2), (3, .long x3)]) C dX0_drawTarget_68 5 rfl rfl (by decide) rfl ?_
        refine q_goto C 30 dX0_drawTarget_71 (by decide) ?_
        refine q_sub (lv' := [(0, .ref n0), (1, .int x1), (2, .int x2), (3, .long x3), (5, .int (x5 + (0 : Int32))), (6, .int (x6 + (1 : Int32)))]) [2, 3, 4, 5, 1, 0] rfl ?_
        exact ih N x1 x2 x3 (x5 + (0 : Int32)) (x6 + (1 : Int32)) hf
      · have hf := ifF hf h
        refine q_aload_n C dX0_drawTarget_50 rfl 0 rfl ?_
        refine q_iload_n C dX0_drawTarget_51 rfl 1 rfl ?_
        refine q_iload C dX0_drawTarget_52 5 rfl ?_
        obtain ⟨z4, h_z4, hf⟩ := bnd hf
        refine q_cVIw C (c_X0_spacing l D cI cJ cN n0 n1 n2 n3 n4 n5 n6 N x1 x6 z4 h_z4) (mkV (fr := 1) (lo := 21) C xc_X0_spacing xm_X0_116 xi_X0_spacing xe_X0_spacing xn_X0 hd_X0_spacing ⟨Nat.le_of_ble_eq_true rfl, Nat.le_of_ble_eq_true rfl⟩) 0 rfl rfl rfl rfl (Nat.le_of_ble_eq_true rfl) dX0_drawTarget_54 ⟨Nat.le_of_ble_eq_true rfl, Nat.le_of_ble_eq_true rfl⟩ (fun w1 hp1 => ?_)
        subst hp1
        refine q_iload_n C dX0_drawTarget_57 rfl 2 rfl ?_
        obtain ⟨z5, h_z5, hf⟩ := bnd hf
        refine q_cSI (ws' := wNet cI n0 n1 n2 n3 n4 n5 n6 N) C (c_X0_weight l D cI cJ cN z4 x2 z5 h_z5) (mkS (fr := 0) (lo := 0) C xc_X0_weight xm_X0_131 xs_X0_weight xn_X0 hd_X0_weight ⟨Nat.le_of_ble_eq_true rfl, Nat.le_of_ble_eq_true rfl⟩) [] rfl (by decide) rfl rfl rfl rfl (Nat.le_of_ble_eq_true rfl) dX0_drawTarget_58 ⟨Nat.le_of_ble_eq_true rfl, Nat.le_of_ble_eq_true rfl⟩ ?_
        refine q_goto C 65 dX0_drawTarget_61 (by decide) ?_
        refine q_iadd C dX0_drawTarget_65 ?_
        refine q_istore (lv' := [(5, .int (x5 + z5)), (0, .ref n0), (1, .int x1), (2, .int x2), (3, .long x3), (6, .int x6)]) C dX0_drawTarget_66 (by decide) rfl ?_
        refine q_iinc (v := (x6 + (1 : Int32))) (lv' := [(6, .int (x6 + (1 : Int32))), (5, .int (x5 + z5)), (0, .ref n0), (1, .int x1), (2, .int x2), (3, .long x3)]) C dX0_drawTarget_68 5 rfl rfl (by decide) rfl ?_
        refine q_goto C 30 dX0_drawTarget_71 (by decide) ?_
        refine q_sub (lv' := [(0, .ref n0), (1, .int x1), (2, .int x2), (3, .long x3), (5, .int (x5 + z5)), (6, .int (x6 + (1 : Int32)))]) [2, 3, 4, 5, 1, 0] rfl ?_
        exact ih N x1 x2 x3 (x5 + z5) (x6 + (1 : Int32)) hf
set_option maxRecDepth 100000 in
set_option maxHeartbeats 4000000 in
theorem c_X0_drawTarget (l : Launch) (D : va_G) (cI cJ cN : ClassId) (n0 n1 n2 n3 n4 n5 n6 : Nat)  (N : NS) (x1 : Int32) (x2 : Int32) (z : Int32 × NS) (hf : f_X0_drawTarget N x1 x2 = some z) : MI l D cI cJ cN yX0_drawTarget (WS yX0_drawTarget cX0_drawTarget 9 (some .int)) { frames := 3, cells := 0, slots := 0, locals := 70 } [.ref n0, .int x1, .int x2] (wNet cI n0 n1 n2 n3 n4 n5 n6 N) z.1 (fun w => w = wNet cI n0 n1 n2 n3 n4 n5 n6 z.2) := by
  rw [f_X0_drawTarget] at hf
  refine q_startI (lv := [(0, .ref n0), (1, .int x1), (2, .int x2)]) (by decide +kernel) rfl (Nat.le_of_ble_eq_true rfl) ?_
  intro p e s m below meth c C hin
  refine q_aload_n C dX0_drawTarget_0 rfl 0 rfl ?_
  refine q_get C (uW uX0_in) 0 rfl rfl 2 (by decide) (ws_in xf_X0_52) rfl rfl dX0_drawTarget_1 ?_
  refine q_aload_n C dX0_drawTarget_4 rfl 0 rfl ?_
  refine q_iload_n C dX0_drawTarget_5 rfl 1 rfl ?_
  obtain ⟨z1, h_z1, hf⟩ := bnd hf
  refine q_cVLw C (c_X0_contactsOf l D cI cJ cN n0 n1 n2 n3 n4 n5 n6 N x1 z1 h_z1) (mkV (fr := 2) (lo := 46) C xc_X0_contactsOf xm_X0_128 xi_X0_contactsOf xe_X0_contactsOf xn_X0 hd_X0_contactsOf ⟨Nat.le_of_ble_eq_true rfl, Nat.le_of_ble_eq_true rfl⟩) 0 rfl rfl rfl rfl (Nat.le_of_ble_eq_true rfl) dX0_drawTarget_6 ⟨Nat.le_of_ble_eq_true rfl, Nat.le_of_ble_eq_true rfl⟩ (fun w1 hp1 => ?_)
  subst hp1
  refine q_ldc2 (v := (-1)) C (ws_in xk_X0_119) dX0_drawTarget_9 ?_
  refine q_lxor C dX0_drawTarget_12 ?_
  refine q_land C dX0_drawTarget_13 ?_
  refine q_iload_n C dX0_drawTarget_14 rfl 1 rfl ?_
  obtain ⟨z2, h_z2, hf⟩ := bnd hf
  refine q_cNL (ws' := wNet cI n0 n1 n2 n3 n4 n5 n6 N) C (c_X2_only l D cI cJ cN x1 z2 h_z2) (mkN (fr := 0) (lo := 0) C 0 rfl xc_X2_only xs_X2_only xn_X2 hd_X2_only ⟨Nat.le_of_ble_eq_true rfl, Nat.le_of_ble_eq_true rfl⟩) [] rfl (by decide) rfl rfl rfl rfl (Nat.le_of_ble_eq_true rfl) dX0_drawTarget_15 ⟨Nat.le_of_ble_eq_true rfl, Nat.le_of_ble_eq_true rfl⟩ ?_
  refine q_ldc2 (v := (-1)) C (ws_in xk_X0_119) dX0_drawTarget_18 ?_
  refine q_lxor C dX0_drawTarget_21 ?_
  refine q_land C dX0_drawTarget_22 ?_
  obtain ⟨z3, e_z3, hf⟩ := bndv hf
  refine q_topl e_z3 ?_
  refine q_lstore_n (lv' := [(3, .long z3), (0, .ref n0), (1, .int x1), (2, .int x2)]) C dX0_drawTarget_23 rfl (by decide) rfl ?_
  refine q_iconst (v := 0) C dX0_drawTarget_24 (by decide) ?_
  refine q_istore (lv' := [(5, .int (0 : Int32)), (3, .long z3), (0, .ref n0), (1, .int x1), (2, .int x2)]) C dX0_drawTarget_25 (by decide) rfl ?_
  refine q_iconst (v := 0) C dX0_drawTarget_27 (by decide) ?_
  refine q_istore (lv' := [(6, .int (0 : Int32)), (5, .int (0 : Int32)), (3, .long z3), (0, .ref n0), (1, .int x1), (2, .int x2)]) C dX0_drawTarget_28 (by decide) rfl ?_
  refine q_sub (lv' := [(0, .ref n0), (1, .int x1), (2, .int x2), (3, .long z3), (5, .int (0 : Int32)), (6, .int (0 : Int32))]) [3, 4, 5, 2, 1, 0] rfl ?_
  exact l_X0_drawTarget_30 C FU N x1 x2 z3 (0 : Int32) (0 : Int32) hf
set_option maxRecDepth 100000 in
set_option maxHeartbeats 4000000 in
theorem c_X2_isSetting (l : Launch) (D : va_G) (cI cJ cN : ClassId)   (x0 : Int32) (x1 : Int32) (z : Int32) (hf : f_X2_isSetting x0 x1 = some z) : MI l D cI cJ cN yX2_isSetting (WS yX2_isSetting cX2_isSetting 2 (some .boolean)) { frames := 0, cells := 0, slots := 0, locals := 0 } [.int x0, .int x1] ([]) z (fun w => w = []) := by
  rw [f_X2_isSetting] at hf
  refine q_startI (lv := [(0, .int x0), (1, .int x1)]) (by decide +kernel) rfl (Nat.le_of_ble_eq_true rfl) ?_
  intro p e s m below meth c C hin
  refine q_iload_n C dX2_isSetting_0 rfl 0 rfl ?_
  by_cases h0 : x0 = (0 : Int32)
  · have hf := ifT hf h0
    refine q_tableIn (off := 31) C 32 dX2_isSetting_1 (by rw [h0]; decide) (by rw [h0]; decide) (by first | (rw [h0]; done) | (rw [h0]; decide)) (by decide) ?_
    refine q_iload_n C dX2_isSetting_32 rfl 1 rfl ?_
    refine q_iconst (v := 1) C dX2_isSetting_33 (by decide) ?_
    refine q_icmp_lt C 46 dX2_isSetting_34 (by decide) (fun h => ?_) (fun h => ?_)
    · have hf := ifT hf h
      refine q_iconst (v := 0) C dX2_isSetting_46 (by decide) ?_
      have hf := Option.some.inj hf
      subst hf
      exact q_zret (v := 0) C rfl (Nat.le_of_ble_eq_true rfl) (Nat.le_of_ble_eq_true rfl) rfl dX2_isSetting_47
    · have hf := ifF hf h
      refine q_iload_n C dX2_isSetting_37 rfl 1 rfl ?_
      refine q_iconst (v := 3) C dX2_isSetting_38 (by decide) ?_
      refine q_icmp_gt C 46 dX2_isSetting_39 (by decide) (fun h => ?_) (fun h => ?_)
      · have hf := ifT hf h
        refine q_iconst (v := 0) C dX2_isSetting_46 (by decide) ?_
        have hf := Option.some.inj hf
        subst hf
        exact q_zret (v := 0) C rfl (Nat.le_of_ble_eq_true rfl) (Nat.le_of_ble_eq_true rfl) rfl dX2_isSetting_47
      · have hf := ifF hf h
        refine q_iconst (v := 1) C dX2_isSetting_42 (by decide) ?_
        refine q_goto C 47 dX2_isSetting_43 (by decide) ?_
        have hf := Option.some.inj hf
        subst hf
        exact q_zret (v := 1) C rfl (Nat.le_of_ble_eq_true rfl) (Nat.le_of_ble_eq_true rfl) rfl dX2_isSetting_47
  · have hf := ifF hf h0
    by_cases h1 : x0 = (1 : Int32)
    · have hf := ifT hf h1
      refine q_tableIn (off := 47) C 48 dX2_isSetting_1 (by rw [h1]; decide) (by rw [h1]; decide) (by first | (rw [h1]; done) | (rw [h1]; decide)) (by decide) ?_
      refine q_iload_n C dX2_isSetting_48 rfl 1 rfl ?_
      refine q_if_lt C 61 dX2_isSetting_49 (by decide) (fun h => ?_) (fun h => ?_)
      · have hf := ifT hf h
        refine q_iconst (v := 0) C dX2_isSetting_61 (by decide) ?_
        have hf := Option.some.inj hf
        subst hf
        exact q_zret (v := 0) C rfl (Nat.le_of_ble_eq_true rfl) (Nat.le_of_ble_eq_true rfl) rfl dX2_isSetting_62
      · have hf := ifF hf h
        refine q_iload_n C dX2_isSetting_52 rfl 1 rfl ?_
        refine q_iconst (v := 3) C dX2_isSetting_53 (by decide) ?_
        refine q_icmp_gt C 61 dX2_isSetting_54 (by decide) (fun h => ?_) (fun h => ?_)
        · have hf := ifT hf h
          refine q_iconst (v := 0) C dX2_isSetting_61 (by decide) ?_
          have hf := Option.some.inj hf
          subst hf
          exact q_zret (v := 0) C rfl (Nat.le_of_ble_eq_true rfl) (Nat.le_of_ble_eq_true rfl) rfl dX2_isSetting_62
        · have hf := ifF hf h
          refine q_iconst (v := 1) C dX2_isSetting_57 (by decide) ?_
          refine q_goto C 62 dX2_isSetting_58 (by decide) ?_
          have hf := Option.some.inj hf
          subst hf
          exact q_zret (v := 1) C rfl (Nat.le_of_ble_eq_true rfl) (Nat.le_of_ble_eq_true rfl) rfl dX2_isSetting_62
    · have hf := ifF hf h1
      by_cases h2 : x0 = (2 : Int32)
      · have hf := ifT hf h2
        refine q_tableIn (off := 62) C 63 dX2_isSetting_1 (by rw [h2]; decide) (by rw [h2]; decide) (by first | (rw [h2]; done) | (rw [h2]; decide)) (by decide) ?_
        refine q_iload_n C dX2_isSetting_63 rfl 1 rfl ?_
        refine q_iconst (v := 1) C dX2_isSetting_64 (by decide) ?_
        refine q_icmp_lt C 78 dX2_isSetting_65 (by decide) (fun h => ?_) (fun h => ?_)
        · have hf := ifT hf h
          refine q_iconst (v := 0) C dX2_isSetting_78 (by decide) ?_
          have hf := Option.some.inj hf
          subst hf
          exact q_zret (v := 0) C rfl (Nat.le_of_ble_eq_true rfl) (Nat.le_of_ble_eq_true rfl) rfl dX2_isSetting_79
        · have hf := ifF hf h
          refine q_iload_n C dX2_isSetting_68 rfl 1 rfl ?_
          refine q_bipush (v := 9) C dX2_isSetting_69 (by decide) ?_
          refine q_icmp_gt C 78 dX2_isSetting_71 (by decide) (fun h => ?_) (fun h => ?_)
          · have hf := ifT hf h
            refine q_iconst (v := 0) C dX2_isSetting_78 (by decide) ?_
            have hf := Option.some.inj hf
            subst hf
            exact q_zret (v := 0) C rfl (Nat.le_of_ble_eq_true rfl) (Nat.le_of_ble_eq_true rfl) rfl dX2_isSetting_79
          · have hf := ifF hf h
            refine q_iconst (v := 1) C dX2_isSetting_74 (by decide) ?_
            refine q_goto C 79 dX2_isSetting_75 (by decide) ?_
            have hf := Option.some.inj hf
            subst hf
            exact q_zret (v := 1) C rfl (Nat.le_of_ble_eq_true rfl) (Nat.le_of_ble_eq_true rfl) rfl dX2_isSetting_79
      · have hf := ifF hf h2
        by_cases h3 : x0 = (3 : Int32)
        · have hf := ifT hf h3
          refine q_tableIn (off := 79) C 80 dX2_isSetting_1 (by rw [h3]; decide) (by rw [h3]; decide) (by first | (rw [h3]; done) | (rw [h3]; decide)) (by decide) ?_
          refine q_iload_n C dX2_isSetting_80 rfl 1 rfl ?_
          refine q_if_lt C 88 dX2_isSetting_81 (by decide) (fun h => ?_) (fun h => ?_)
          · have hf := ifT hf h
            refine q_iconst (v := 0) C dX2_isSetting_88 (by decide) ?_
            have hf := Option.some.inj hf
            subst hf
            exact q_zret (v := 0) C rfl (Nat.le_of_ble_eq_true rfl) (Nat.le_of_ble_eq_true rfl) rfl dX2_isSetting_89
          · have hf := ifF hf h
            refine q_iconst (v := 1) C dX2_isSetting_84 (by decide) ?_
            refine q_goto C 89 dX2_isSetting_85 (by decide) ?_
            have hf := Option.some.inj hf
            subst hf
            exact q_zret (v := 1) C rfl (Nat.le_of_ble_eq_true rfl) (Nat.le_of_ble_eq_true rfl) rfl dX2_isSetting_89
        · have hf := ifF hf h3
          refine q_tableOut C 90 dX2_isSetting_1 (by have a0 := lv_neT h0 (show ((0 : Int32)).toInt = 0 by decide); have a1 := lv_neT h1 (show ((1 : Int32)).toInt = 1 by decide); have a2 := lv_neT h2 (show ((2 : Int32)).toInt = 2 by decide); have a3 := lv_neT h3 (show ((3 : Int32)).toInt = 3 by decide); omega) (by decide) ?_
          refine q_iconst (v := 0) C dX2_isSetting_90 (by decide) ?_
          have hf := Option.some.inj hf
          subst hf
          exact q_zret (v := 0) C rfl (Nat.le_of_ble_eq_true rfl) (Nat.le_of_ble_eq_true rfl) rfl dX2_isSetting_91
