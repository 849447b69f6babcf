def f_X0_init : Option NS := (f_X0_layOut ((0 : Int32), (0 : Int32), (0 : Int64), (fun _ => (0 : Int32)), (fun _ => (0 : Int32)), (fun _ => (0 : Int32)), (fun _ => (0 : Int32)), (fun _ => (0 : Int32)), (fun _ => (0 : Int32))) (4 : Int32) (4 : Int32)).bind (fun z1 => (f_X0_changeSetting z1 (0 : Int32) (2 : Int32)).bind (fun z2 => (f_X0_changeSetting z2 (1 : Int32) (0 : Int32)).bind (fun z3 => (f_X0_changeSetting z3 (2 : Int32) (3 : Int32)).bind (fun z4 => (f_X0_changeSetting z4 (3 : Int32) (1 : Int32)).bind (fun z5 => some z5)))))
set_option maxRecDepth 100000 in
set_option maxHeartbeats 4000000 in
theorem c_X0_init (l : Launch) (D : va_G) (cI cJ cN : ClassId) (n0 : Nat) (z : NS) (hf : f_X0_init = some z) : MV l D cI cJ cN yX0_init (WS yX0_init cX0_init 1 none) { frames := 3, cells := 6, slots := 347, locals := 69 } [.ref n0] ([(n0, .inr (0, [.int 0, .int 0, .long 0, .null, .null, .null, .null, .null, .null]))]) (fun w => ∃ n1 n2 n3 n4 n5 n6 : Nat, w = wNet cI n0 n1 n2 n3 n4 n5 n6 z) := by
  rw [f_X0_init] at hf
  refine q_startV (lv := [(0, .ref n0)]) (by decide +kernel) rfl (Nat.le_of_ble_eq_true rfl) ?_
  intro p e s m below meth c C hin
  refine q_aload_n C dX0_init_0 rfl 0 rfl ?_
  refine q_objInit C (ws_in xo_X0) (ws_in xo_inst) (ws_in xo_code) (Nat.le_of_ble_eq_true rfl) (Nat.le_of_ble_eq_true rfl) dX0_init_1 ?_
  refine q_aload_n C dX0_init_4 rfl 0 rfl ?_
  refine q_bipush (v := 49) C dX0_init_5 (by decide) ?_
  refine q_newaI (N' := 49) C (ws_in xa_int) (by decide) (by decide) (Nat.le_of_ble_eq_true rfl) (Nat.le_of_ble_eq_true rfl) (Nat.le_of_ble_eq_true rfl) dX0_init_7 (fun n1 => ?_)
  refine q_putF (ws' := [(n0, .inr (0, [.int 0, .int 0, .long 0, .ref n1, .null, .null, .null, .null, .null])), (n1, .inl (cI, 49, .inl (fun _ => 0)))]) (ty := .array .int) C (uW uX0_in) tyX0 tyX0_ok nmX0 0 rfl rfl 3 (by decide) (ws_in xf_X0_9) rfl rfl (hin rfl) rfl (by decide +kernel) rfl rfl (Nat.le_of_ble_eq_true rfl) dX0_init_9 rfl ?_
  refine q_aload_n C dX0_init_12 rfl 0 rfl ?_
  refine q_bipush (v := 49) C dX0_init_13 (by decide) ?_
  refine q_newaI (N' := 49) C (ws_in xa_int) (by decide) (by decide) (Nat.le_of_ble_eq_true rfl) (Nat.le_of_ble_eq_true rfl) (Nat.le_of_ble_eq_true rfl) dX0_init_15 (fun n2 => ?_)
  refine q_putF (ws' := [(n0, .inr (0, [.int 0, .int 0, .long 0, .ref n1, .ref n2, .null, .null, .null, .null])), (n1, .inl (cI, 49, .inl (fun _ => 0))), (n2, .inl (cI, 49, .inl (fun _ => 0)))]) (ty := .array .int) C (uW uX0_in) tyX0 tyX0_ok nmX0 0 rfl rfl 4 (by decide) (ws_in xf_X0_15) rfl rfl (hin rfl) rfl (by decide +kernel) rfl rfl (Nat.le_of_ble_eq_true rfl) dX0_init_17 rfl ?_
  refine q_aload_n C dX0_init_20 rfl 0 rfl ?_
  refine q_bipush (v := 49) C dX0_init_21 (by decide) ?_
  refine q_newaI (N' := 49) C (ws_in xa_int) (by decide) (by decide) (Nat.le_of_ble_eq_true rfl) (Nat.le_of_ble_eq_true rfl) (Nat.le_of_ble_eq_true rfl) dX0_init_23 (fun n3 => ?_)
  refine q_putF (ws' := [(n0, .inr (0, [.int 0, .int 0, .long 0, .ref n1, .ref n2, .ref n3, .null, .null, .null])), (n1, .inl (cI, 49, .inl (fun _ => 0))), (n2, .inl (cI, 49, .inl (fun _ => 0))), (n3, .inl (cI, 49, .inl (fun _ => 0)))]) (ty := .array .int) C (uW uX0_in) tyX0 tyX0_ok nmX0 0 rfl rfl 5 (by decide) (ws_in xf_X0_18) rfl rfl (hin rfl) rfl (by decide +kernel) rfl rfl (Nat.le_of_ble_eq_true rfl) dX0_init_25 rfl ?_
  refine q_aload_n C dX0_init_28 rfl 0 rfl ?_
  refine q_bipush (v := 49) C dX0_init_29 (by decide) ?_
  refine q_newaI (N' := 49) C (ws_in xa_int) (by decide) (by decide) (Nat.le_of_ble_eq_true rfl) (Nat.le_of_ble_eq_true rfl) (Nat.le_of_ble_eq_true rfl) dX0_init_31 (fun n4 => ?_)
  refine q_putF (ws' := [(n0, .inr (0, [.int 0, .int 0, .long 0, .ref n1, .ref n2, .ref n3, .ref n4, .null, .null])), (n1, .inl (cI, 49, .inl (fun _ => 0))), (n2, .inl (cI, 49, .inl (fun _ => 0))), (n3, .inl (cI, 49, .inl (fun _ => 0))), (n4, .inl (cI, 49, .inl (fun _ => 0)))]) (ty := .array .int) C (uW uX0_in) tyX0 tyX0_ok nmX0 0 rfl rfl 6 (by decide) (ws_in xf_X0_21) rfl rfl (hin rfl) rfl (by decide +kernel) rfl rfl (Nat.le_of_ble_eq_true rfl) dX0_init_33 rfl ?_
  refine q_aload_n C dX0_init_36 rfl 0 rfl ?_
  refine q_sipush (v := 147) C dX0_init_37 (by decide) ?_
  refine q_newaI (N' := 147) C (ws_in xa_int) (by decide) (by decide) (Nat.le_of_ble_eq_true rfl) (Nat.le_of_ble_eq_true rfl) (Nat.le_of_ble_eq_true rfl) dX0_init_40 (fun n5 => ?_)
  refine q_putF (ws' := [(n0, .inr (0, [.int 0, .int 0, .long 0, .ref n1, .ref n2, .ref n3, .ref n4, .ref n5, .null])), (n1, .inl (cI, 49, .inl (fun _ => 0))), (n2, .inl (cI, 49, .inl (fun _ => 0))), (n3, .inl (cI, 49, .inl (fun _ => 0))), (n4, .inl (cI, 49, .inl (fun _ => 0))), (n5, .inl (cI, 147, .inl (fun _ => 0)))]) (ty := .array .int) C (uW uX0_in) tyX0 tyX0_ok nmX0 0 rfl rfl 7 (by decide) (ws_in xf_X0_24) rfl rfl (hin rfl) rfl (by decide +kernel) rfl rfl (Nat.le_of_ble_eq_true rfl) dX0_init_42 rfl ?_
  refine q_aload_n C dX0_init_45 rfl 0 rfl ?_
  refine q_iconst (v := 4) C dX0_init_46 (by decide) ?_
  refine q_newaI (N' := 4) C (ws_in xa_int) (by decide) (by decide) (Nat.le_of_ble_eq_true rfl) (Nat.le_of_ble_eq_true rfl) (Nat.le_of_ble_eq_true rfl) dX0_init_47 (fun n6 => ?_)
  refine q_putF (ws' := [(n0, .inr (0, [.int 0, .int 0, .long 0, .ref n1, .ref n2, .ref n3, .ref n4, .ref n5, .ref n6])), (n1, .inl (cI, 49, .inl (fun _ => 0))), (n2, .inl (cI, 49, .inl (fun _ => 0))), (n3, .inl (cI, 49, .inl (fun _ => 0))), (n4, .inl (cI, 49, .inl (fun _ => 0))), (n5, .inl (cI, 147, .inl (fun _ => 0))), (n6, .inl (cI, 4, .inl (fun _ => 0)))]) (ty := .array .int) C (uW uX0_in) tyX0 tyX0_ok nmX0 0 rfl rfl 8 (by decide) (ws_in xf_X0_27) rfl rfl (hin rfl) rfl (by decide +kernel) rfl rfl (Nat.le_of_ble_eq_true rfl) dX0_init_49 rfl ?_
  refine q_world (ws' := wNet cI n0 n1 n2 n3 n4 n5 n6 ((0 : Int32), (0 : Int32), (0 : Int64), (fun _ => (0 : Int32)), (fun _ => (0 : Int32)), (fun _ => (0 : Int32)), (fun _ => (0 : Int32)), (fun _ => (0 : Int32)), (fun _ => (0 : Int32)))) rfl ?_
  refine q_aload_n C dX0_init_52 rfl 0 rfl ?_
  refine q_iconst (v := 4) C dX0_init_53 (by decide) ?_
  refine q_iconst (v := 4) C dX0_init_54 (by decide) ?_
  obtain ⟨z1, h_z1, hf⟩ := bnd hf
  refine q_cVVw C (c_X0_layOut l D cI cJ cN n0 n1 n2 n3 n4 n5 n6 ((0 : Int32), (0 : Int32), (0 : Int64), (fun _ => (0 : Int32)), (fun _ => (0 : Int32)), (fun _ => (0 : Int32)), (fun _ => (0 : Int32)), (fun _ => (0 : Int32)), (fun _ => (0 : Int32))) (4 : Int32) (4 : Int32) z1 h_z1) (mkV (fr := 2) (lo := 45) C xc_X0_layOut xm_X0_30 xi_X0_layOut xe_X0_layOut xn_X0 hd_X0_layOut ⟨Nat.le_of_ble_eq_true rfl, Nat.le_of_ble_eq_true rfl⟩) 0 rfl rfl rfl rfl (Nat.le_of_ble_eq_true rfl) dX0_init_55 ⟨Nat.le_of_ble_eq_true rfl, Nat.le_of_ble_eq_true rfl⟩ (fun w1 hp1 => ?_)
  subst hp1
  refine q_aload_n C dX0_init_58 rfl 0 rfl ?_
  refine q_iconst (v := 0) C dX0_init_59 (by decide) ?_
  refine q_iconst (v := 2) C dX0_init_60 (by decide) ?_
  obtain ⟨z2, h_z2, hf⟩ := bnd hf
  refine q_cVVw C (c_X0_changeSetting l D cI cJ cN n0 n1 n2 n3 n4 n5 n6 z1 (0 : Int32) (2 : Int32) z2 h_z2) (mkV (fr := 1) (lo := 22) C xc_X0_changeSetting xm_X0_34 xi_X0_changeSetting xe_X0_changeSetting xn_X0 hd_X0_changeSetting ⟨Nat.le_of_ble_eq_true rfl, Nat.le_of_ble_eq_true rfl⟩) 0 rfl rfl rfl rfl (Nat.le_of_ble_eq_true rfl) dX0_init_61 ⟨Nat.le_of_ble_eq_true rfl, Nat.le_of_ble_eq_true rfl⟩ (fun w1 hp1 => ?_)
  subst hp1
  refine q_aload_n C dX0_init_64 rfl 0 rfl ?_
  refine q_iconst (v := 1) C dX0_init_65 (by decide) ?_
  refine q_iconst (v := 0) C dX0_init_66 (by decide) ?_
  obtain ⟨z3, h_z3, hf⟩ := bnd hf
  refine q_cVVw C (c_X0_changeSetting l D cI cJ cN n0 n1 n2 n3 n4 n5 n6 z2 (1 : Int32) (0 : Int32) z3 h_z3) (mkV (fr := 1) (lo := 22) C xc_X0_changeSetting xm_X0_34 xi_X0_changeSetting xe_X0_changeSetting xn_X0 hd_X0_changeSetting ⟨Nat.le_of_ble_eq_true rfl, Nat.le_of_ble_eq_true rfl⟩) 0 rfl rfl rfl rfl (Nat.le_of_ble_eq_true rfl) dX0_init_67 ⟨Nat.le_of_ble_eq_true rfl, Nat.le_of_ble_eq_true rfl⟩ (fun w1 hp1 => ?_)
  subst hp1
  refine q_aload_n C dX0_init_70 rfl 0 rfl ?_
  refine q_iconst (v := 2) C dX0_init_71 (by decide) ?_
  refine q_iconst (v := 3) C dX0_init_72 (by decide) ?_
  obtain ⟨z4, h_z4, hf⟩ := bnd hf
  refine q_cVVw C (c_X0_changeSetting l D cI cJ cN n0 n1 n2 n3 n4 n5 n6 z3 (2 : Int32) (3 : Int32) z4 h_z4) (mkV (fr := 1) (lo := 22) C xc_X0_changeSetting xm_X0_34 xi_X0_changeSetting xe_X0_changeSetting xn_X0 hd_X0_changeSetting ⟨Nat.le_of_ble_eq_true rfl, Nat.le_of_ble_eq_true rfl⟩) 0 rfl rfl rfl rfl (Nat.le_of_ble_eq_true rfl) dX0_init_73 ⟨Nat.le_of_ble_eq_true rfl, Nat.le_of_ble_eq_true rfl⟩ (fun w1 hp1 => ?_)
  subst hp1
  refine q_aload_n C dX0_init_76 rfl 0 rfl ?_
  refine q_iconst (v := 3) C dX0_init_77 (by decide) ?_
  refine q_iconst (v := 1) C dX0_init_78 (by decide) ?_
  obtain ⟨z5, h_z5, hf⟩ := bnd hf
  refine q_cVVw C (c_X0_changeSetting l D cI cJ cN n0 n1 n2 n3 n4 n5 n6 z4 (3 : Int32) (1 : Int32) z5 h_z5) (mkV (fr := 1) (lo := 22) C xc_X0_changeSetting xm_X0_34 xi_X0_changeSetting xe_X0_changeSetting xn_X0 hd_X0_changeSetting ⟨Nat.le_of_ble_eq_true rfl, Nat.le_of_ble_eq_true rfl⟩) 0 rfl rfl rfl rfl (Nat.le_of_ble_eq_true rfl) dX0_init_79 ⟨Nat.le_of_ble_eq_true rfl, Nat.le_of_ble_eq_true rfl⟩ (fun w1 hp1 => ?_)
  subst hp1
  have hf := Option.some.inj hf
  subst hf
  exact q_vret C (Nat.le_of_ble_eq_true rfl) (Nat.le_of_ble_eq_true rfl) ⟨_, _, _, _, _, _, rfl⟩ dX0_init_82
def f_X1_init : Option SS := some ((fun _ => (0 : Int64)), (fun _ => (0 : Int32)), (fun _ => (0 : Int64)), (fun _ => (0 : Int32)), (fun _ => (0 : Int32)), (fun _ => (0 : Int32)), (0 : Int32))
set_option maxRecDepth 100000 in
set_option maxHeartbeats 4000000 in
theorem c_X1_init (l : Launch) (D : va_G) (cI cJ cN : ClassId) (s0 : Nat) (z : SS) (hf : f_X1_init = some z) : MV l D cI cJ cN yX1_init (WS yX1_init cX1_init 1 none) { frames := 1, cells := 6, slots := 253, locals := 13 } [.ref s0] ([(s0, .inr (1, [.null, .null, .null, .null, .null, .null, .int 0]))]) (fun w => ∃ s1 s2 s3 s4 s5 s6 : Nat, w = wSur cI cJ s0 s1 s2 s3 s4 s5 s6 z) := by
  rw [f_X1_init] at hf
  refine q_startV (lv := [(0, .ref s0)]) (by decide +kernel) rfl (Nat.le_of_ble_eq_true rfl) ?_
  intro p e s m below meth c C hin
  refine q_aload_n C dX1_init_0 rfl 0 rfl ?_
  refine q_objInit C (ws_in xo_X1) (ws_in xo_inst) (ws_in xo_code) (Nat.le_of_ble_eq_true rfl) (Nat.le_of_ble_eq_true rfl) dX1_init_1 ?_
  refine q_aload_n C dX1_init_4 rfl 0 rfl ?_
  refine q_bipush (v := 49) C dX1_init_5 (by decide) ?_
  refine q_newaJ (N' := 49) C (ws_in xa_long) (by decide) (by decide) (Nat.le_of_ble_eq_true rfl) (Nat.le_of_ble_eq_true rfl) (Nat.le_of_ble_eq_true rfl) dX1_init_7 (fun s1 => ?_)
  refine q_putF (ws' := [(s0, .inr (1, [.ref s1, .null, .null, .null, .null, .null, .int 0])), (s1, .inl (cJ, 49, .inr (.inl (fun _ => 0))))]) (ty := .array .long) C (uW uX1_in) tyX1 tyX1_ok nmX1 0 rfl rfl 0 (by decide) (ws_in xf_X1_9) rfl rfl (hin rfl) rfl (by decide +kernel) rfl rfl (Nat.le_of_ble_eq_true rfl) dX1_init_9 rfl ?_
  refine q_aload_n C dX1_init_12 rfl 0 rfl ?_
  refine q_bipush (v := 49) C dX1_init_13 (by decide) ?_
  refine q_newaI (N' := 49) C (ws_in xa_int) (by decide) (by decide) (Nat.le_of_ble_eq_true rfl) (Nat.le_of_ble_eq_true rfl) (Nat.le_of_ble_eq_true rfl) dX1_init_15 (fun s2 => ?_)
  refine q_putF (ws' := [(s0, .inr (1, [.ref s1, .ref s2, .null, .null, .null, .null, .int 0])), (s1, .inl (cJ, 49, .inr (.inl (fun _ => 0)))), (s2, .inl (cI, 49, .inl (fun _ => 0)))]) (ty := .array .int) C (uW uX1_in) tyX1 tyX1_ok nmX1 0 rfl rfl 1 (by decide) (ws_in xf_X1_15) rfl rfl (hin rfl) rfl (by decide +kernel) rfl rfl (Nat.le_of_ble_eq_true rfl) dX1_init_17 rfl ?_
  refine q_aload_n C dX1_init_20 rfl 0 rfl ?_
  refine q_bipush (v := 49) C dX1_init_21 (by decide) ?_
  refine q_newaJ (N' := 49) C (ws_in xa_long) (by decide) (by decide) (Nat.le_of_ble_eq_true rfl) (Nat.le_of_ble_eq_true rfl) (Nat.le_of_ble_eq_true rfl) dX1_init_23 (fun s3 => ?_)
  refine q_putF (ws' := [(s0, .inr (1, [.ref s1, .ref s2, .ref s3, .null, .null, .null, .int 0])), (s1, .inl (cJ, 49, .inr (.inl (fun _ => 0)))), (s2, .inl (cI, 49, .inl (fun _ => 0))), (s3, .inl (cJ, 49, .inr (.inl (fun _ => 0))))]) (ty := .array .long) C (uW uX1_in) tyX1 tyX1_ok nmX1 0 rfl rfl 2 (by decide) (ws_in xf_X1_19) rfl rfl (hin rfl) rfl (by decide +kernel) rfl rfl (Nat.le_of_ble_eq_true rfl) dX1_init_25 rfl ?_
  refine q_aload_n C dX1_init_28 rfl 0 rfl ?_
  refine q_bipush (v := 49) C dX1_init_29 (by decide) ?_
  refine q_newaI (N' := 49) C (ws_in xa_int) (by decide) (by decide) (Nat.le_of_ble_eq_true rfl) (Nat.le_of_ble_eq_true rfl) (Nat.le_of_ble_eq_true rfl) dX1_init_31 (fun s4 => ?_)
  refine q_putF (ws' := [(s0, .inr (1, [.ref s1, .ref s2, .ref s3, .ref s4, .null, .null, .int 0])), (s1, .inl (cJ, 49, .inr (.inl (fun _ => 0)))), (s2, .inl (cI, 49, .inl (fun _ => 0))), (s3, .inl (cJ, 49, .inr (.inl (fun _ => 0)))), (s4, .inl (cI, 49, .inl (fun _ => 0)))]) (ty := .array .int) C (uW uX1_in) tyX1 tyX1_ok nmX1 0 rfl rfl 3 (by decide) (ws_in xf_X1_22) rfl rfl (hin rfl) rfl (by decide +kernel) rfl rfl (Nat.le_of_ble_eq_true rfl) dX1_init_33 rfl ?_
  refine q_aload_n C dX1_init_36 rfl 0 rfl ?_
  refine q_bipush (v := 49) C dX1_init_37 (by decide) ?_
  refine q_newaI (N' := 49) C (ws_in xa_int) (by decide) (by decide) (Nat.le_of_ble_eq_true rfl) (Nat.le_of_ble_eq_true rfl) (Nat.le_of_ble_eq_true rfl) dX1_init_39 (fun s5 => ?_)
  refine q_putF (ws' := [(s0, .inr (1, [.ref s1, .ref s2, .ref s3, .ref s4, .ref s5, .null, .int 0])), (s1, .inl (cJ, 49, .inr (.inl (fun _ => 0)))), (s2, .inl (cI, 49, .inl (fun _ => 0))), (s3, .inl (cJ, 49, .inr (.inl (fun _ => 0)))), (s4, .inl (cI, 49, .inl (fun _ => 0))), (s5, .inl (cI, 49, .inl (fun _ => 0)))]) (ty := .array .int) C (uW uX1_in) tyX1 tyX1_ok nmX1 0 rfl rfl 4 (by decide) (ws_in xf_X1_25) rfl rfl (hin rfl) rfl (by decide +kernel) rfl rfl (Nat.le_of_ble_eq_true rfl) dX1_init_41 rfl ?_
  refine q_aload_n C dX1_init_44 rfl 0 rfl ?_
  refine q_bipush (v := 8) C dX1_init_45 (by decide) ?_
  refine q_newaI (N' := 8) C (ws_in xa_int) (by decide) (by decide) (Nat.le_of_ble_eq_true rfl) (Nat.le_of_ble_eq_true rfl) (Nat.le_of_ble_eq_true rfl) dX1_init_47 (fun s6 => ?_)
  refine q_putF (ws' := [(s0, .inr (1, [.ref s1, .ref s2, .ref s3, .ref s4, .ref s5, .ref s6, .int 0])), (s1, .inl (cJ, 49, .inr (.inl (fun _ => 0)))), (s2, .inl (cI, 49, .inl (fun _ => 0))), (s3, .inl (cJ, 49, .inr (.inl (fun _ => 0)))), (s4, .inl (cI, 49, .inl (fun _ => 0))), (s5, .inl (cI, 49, .inl (fun _ => 0))), (s6, .inl (cI, 8, .inl (fun _ => 0)))]) (ty := .array .int) C (uW uX1_in) tyX1 tyX1_ok nmX1 0 rfl rfl 5 (by decide) (ws_in xf_X1_28) rfl rfl (hin rfl) rfl (by decide +kernel) rfl rfl (Nat.le_of_ble_eq_true rfl) dX1_init_49 rfl ?_
  refine q_world (ws' := wSur cI cJ s0 s1 s2 s3 s4 s5 s6 ((fun _ => (0 : Int64)), (fun _ => (0 : Int32)), (fun _ => (0 : Int64)), (fun _ => (0 : Int32)), (fun _ => (0 : Int32)), (fun _ => (0 : Int32)), (0 : Int32))) rfl ?_
  refine q_aload_n C dX1_init_52 rfl 0 rfl ?_
  refine q_iconst (v := 0) C dX1_init_53 (by decide) ?_
  refine q_put (ws' := wSur cI cJ s0 s1 s2 s3 s4 s5 s6 ((fun _ => (0 : Int64)), (fun _ => (0 : Int32)), (fun _ => (0 : Int64)), (fun _ => (0 : Int32)), (fun _ => (0 : Int32)), (fun _ => (0 : Int32)), (0 : Int32))) (ty := .int) C (uW uX1_in) tyX1 tyX1_ok nmX1 0 rfl rfl 6 (by decide) (ws_in xf_X1_31) rfl rfl (by decide +kernel) rfl rfl (Nat.le_of_ble_eq_true rfl) dX1_init_54 rfl ?_
  have hf := Option.some.inj hf
  subst hf
  exact q_vret C (Nat.le_of_ble_eq_true rfl) (Nat.le_of_ble_eq_true rfl) ⟨_, _, _, _, _, _, rfl⟩ dX1_init_57
