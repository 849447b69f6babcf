set_option maxRecDepth 100000 in
set_option maxHeartbeats 4000000 in
theorem c_X3_isIn (l : Launch) (D : va_G) (cI cJ cN : ClassId)   (x0 : Int32) (x1 : Int32) (x2 : Int32) (z : Int32) (hf : f_X3_isIn x0 x1 x2 = some z) : MI l D cI cJ cN yX3_isIn (WS yX3_isIn cX3_isIn 3 (some .boolean)) { frames := 0, cells := 0, slots := 0, locals := 0 } [.int x0, .int x1, .int x2] ([]) z (fun w => w = []) := by
  rw [f_X3_isIn] at hf
  refine q_startI (lv := [(0, .int x0), (1, .int x1), (2, .int x2)]) (by decide +kernel) rfl (Nat.le_of_ble_eq_true rfl) ?_
  intro p e s m below meth c C hin
  refine q_iload_n C dX3_isIn_0 rfl 0 rfl ?_
  refine q_iload_n C dX3_isIn_1 rfl 1 rfl ?_
  refine q_icmp_lt C 14 dX3_isIn_2 (by decide) (fun h => ?_) (fun h => ?_)
  · have hf := ifT hf h
    refine q_iconst (v := 0) C dX3_isIn_14 (by decide) ?_
    have hf := Option.some.inj hf
    subst hf
    exact q_zret (v := 0) C rfl (Nat.le_of_ble_eq_true rfl) (Nat.le_of_ble_eq_true rfl) rfl dX3_isIn_15
  · have hf := ifF hf h
    refine q_iload_n C dX3_isIn_5 rfl 0 rfl ?_
    refine q_iload_n C dX3_isIn_6 rfl 2 rfl ?_
    refine q_icmp_gt C 14 dX3_isIn_7 (by decide) (fun h => ?_) (fun h => ?_)
    · have hf := ifT hf h
      refine q_iconst (v := 0) C dX3_isIn_14 (by decide) ?_
      have hf := Option.some.inj hf
      subst hf
      exact q_zret (v := 0) C rfl (Nat.le_of_ble_eq_true rfl) (Nat.le_of_ble_eq_true rfl) rfl dX3_isIn_15
    · have hf := ifF hf h
      refine q_iconst (v := 1) C dX3_isIn_10 (by decide) ?_
      refine q_goto C 15 dX3_isIn_11 (by decide) ?_
      have hf := Option.some.inj hf
      subst hf
      exact q_zret (v := 1) C rfl (Nat.le_of_ble_eq_true rfl) (Nat.le_of_ble_eq_true rfl) rfl dX3_isIn_15
set_option maxRecDepth 100000 in
set_option maxHeartbeats 4000000 in
theorem l_X3_lay_16 {p : Program} {l : Launch} {e : Env} {s : State} {m : MethodId} {args : Array Value} {below : List Frame} {meth : Method} {c : Code} {D : va_G} {cI cJ cN : ClassId} {W0 : va_W} {m0 m1 m2 m3 m4 m5 m6 m7 : Nat} {z : MS} (C : CX p l s m args meth c cX3_lay 4 yX3_lay.cls (WS yX3_lay cX3_lay 4 none) none D cI cJ cN (va_A W0 s.heap.size)) : ∀ (fu : Nat) (M : MS) (x1 : Int32) (x2 : Int32) (x3 : Int32), g_X3_lay_16 fu M x1 x2 x3 = some z → WW p l e { frames := 0, cells := 0, slots := 0, locals := 0 } s m args below meth c D 4 (va_A W0 s.heap.size) 0 0 (QV below args s D W0 { frames := 0, cells := 0, slots := 0, locals := 0 } (fun w => w = wMod cI cJ m0 m1 m2 m3 m4 m5 m6 m7 z)) 16 [(0, .ref m0), (1, .int x1), (2, .int x2), (3, .int x3)] [] (wMod cI cJ m0 m1 m2 m3 m4 m5 m6 m7 M) := by
  intro fu
  induction fu with
  | zero =>
    intro M x1 x2 x3 hf
    rw [g_X3_lay_16] at hf
    cases hf
  | succ fu ih =>
    intro M x1 x2 x3 hf
    rw [g_X3_lay_16] at hf
    refine q_iload_n C dX3_lay_16 rfl 3 rfl ?_
    refine q_bipush (v := 49) C dX3_lay_17 (by decide) ?_
    refine q_icmp_ge C 69 dX3_lay_19 (by decide) (fun h => ?_) (fun h => ?_)
    · have hf := ifT hf h
      have hf := Option.some.inj hf
      subst hf
      exact q_vret C (Nat.le_of_ble_eq_true rfl) (Nat.le_of_ble_eq_true rfl) rfl dX3_lay_69
    · have hf := ifF hf h
      refine q_aload_n C dX3_lay_22 rfl 0 rfl ?_
      refine q_get C (uW uX3_in) 0 rfl rfl 0 (by decide) (ws_in xf_X3_7) rfl rfl dX3_lay_23 ?_
      refine q_bipush (v := 6) C dX3_lay_26 (by decide) ?_
      refine q_iload_n C dX3_lay_28 rfl 3 rfl ?_
      refine q_iadd C dX3_lay_29 ?_
      refine q_iload_n C dX3_lay_30 rfl 3 rfl ?_
      obtain ⟨hg, hf⟩ := gd_some hf
      refine q_iast (ws' := wMod cI cJ m0 m1 m2 m3 m4 m5 m6 m7 ((upd M.1 ((6 : Int32) + x3).toNatClampNeg x3), M.2.1, M.2.2.1, M.2.2.2.1, M.2.2.2.2.1, M.2.2.2.2.2.1, M.2.2.2.2.2.2.1, M.2.2.2.2.2.2.2.1, M.2.2.2.2.2.2.2.2.1, M.2.2.2.2.2.2.2.2.2.1, M.2.2.2.2.2.2.2.2.2.2)) C 1 rfl hg dX3_lay_31 rfl ?_
      refine q_aload_n C dX3_lay_32 rfl 0 rfl ?_
      refine q_get C (uW uX3_in) 0 rfl rfl 0 (by decide) (ws_in xf_X3_7) rfl rfl dX3_lay_33 ?_
      refine q_bipush (v := 55) C dX3_lay_36 (by decide) ?_
      refine q_iload_n C dX3_lay_38 rfl 3 rfl ?_
      refine q_iadd C dX3_lay_39 ?_
      refine q_iload_n C dX3_lay_40 rfl 3 rfl ?_
      refine q_iload_n C dX3_lay_41 rfl 1 rfl ?_
      refine q_iload_n C dX3_lay_42 rfl 2 rfl ?_
      refine q_imul C dX3_lay_43 ?_
      refine q_icmp_ge C 51 dX3_lay_44 (by decide) (fun h => ?_) (fun h => ?_)
      · have hf := ifT hf h
        refine q_iconst (v := 0) C dX3_lay_51 (by decide) ?_
        obtain ⟨hg, hf⟩ := gd_some hf
        refine q_iast (ws' := wMod cI cJ m0 m1 m2 m3 m4 m5 m6 m7 ((upd (upd M.1 ((6 : Int32) + x3).toNatClampNeg x3) ((55 : Int32) + x3).toNatClampNeg (0 : Int32)), M.2.1, M.2.2.1, M.2.2.2.1, M.2.2.2.2.1, M.2.2.2.2.2.1, M.2.2.2.2.2.2.1, M.2.2.2.2.2.2.2.1, M.2.2.2.2.2.2.2.2.1, M.2.2.2.2.2.2.2.2.2.1, M.2.2.2.2.2.2.2.2.2.2)) C 1 rfl hg dX3_lay_52 rfl ?_
        refine q_aload_n C dX3_lay_53 rfl 0 rfl ?_
        refine q_get C (uW uX3_in) 0 rfl rfl 0 (by decide) (ws_in xf_X3_7) rfl rfl dX3_lay_54 ?_
        refine q_bipush (v := 104) C dX3_lay_57 (by decide) ?_
        refine q_iload_n C dX3_lay_59 rfl 3 rfl ?_
        refine q_iadd C dX3_lay_60 ?_
        refine q_iconst (v := 0) C dX3_lay_61 (by decide) ?_
        obtain ⟨hg, hf⟩ := gd_some hf
        refine q_iast (ws' := wMod cI cJ m0 m1 m2 m3 m4 m5 m6 m7 ((upd (upd (upd M.1 ((6 : Int32) + x3).toNatClampNeg x3) ((55 : Int32) + x3).toNatClampNeg (0 : Int32)) ((104 : Int32) + x3).toNatClampNeg (0 : Int32)), M.2.1, M.2.2.1, M.2.2.2.1, M.2.2.2.2.1, M.2.2.2.2.2.1, M.2.2.2.2.2.2.1, M.2.2.2.2.2.2.2.1, M.2.2.2.2.2.2.2.2.1, M.2.2.2.2.2.2.2.2.2.1, M.2.2.2.2.2.2.2.2.2.2)) C 1 rfl hg dX3_lay_62 rfl ?_
        refine q_iinc (v := (x3 + (1 : Int32))) (lv' := [(3, .int (x3 + (1 : Int32))), (0, .ref m0), (1, .int x1), (2, .int x2)]) C dX3_lay_63 3 rfl rfl (by decide) rfl ?_
        refine q_goto C 16 dX3_lay_66 (by decide) ?_
        refine q_sub (lv' := [(0, .ref m0), (1, .int x1), (2, .int x2), (3, .int (x3 + (1 : Int32)))]) [1, 2, 3, 0] rfl ?_
        exact ih ((upd (upd (upd M.1 ((6 : Int32) + x3).toNatClampNeg x3) ((55 : Int32) + x3).toNatClampNeg (0 : Int32)) ((104 : Int32) + x3).toNatClampNeg (0 : Int32)), M.2.1, M.2.2.1, M.2.2.2.1, M.2.2.2.2.1, M.2.2.2.2.2.1, M.2.2.2.2.2.2.1, M.2.2.2.2.2.2.2.1, M.2.2.2.2.2.2.2.2.1, M.2.2.2.2.2.2.2.2.2.1, M.2.2.2.2.2.2.2.2.2.2) x1 x2 (x3 + (1 : Int32)) hf
      · have hf := ifF hf h
        refine q_iconst (v := 1) C dX3_lay_47 (by decide) ?_
        refine q_goto C 52 dX3_lay_48 (by decide) ?_
        obtain ⟨hg, hf⟩ := gd_some hf
        refine q_iast (ws' := wMod cI cJ m0 m1 m2 m3 m4 m5 m6 m7 ((upd (upd M.1 ((6 : Int32) + x3).toNatClampNeg x3) ((55 : Int32) + x3).toNatClampNeg (1 : Int32)), M.2.1, M.2.2.1, M.2.2.2.1, M.2.2.2.2.1, M.2.2.2.2.2.1, M.2.2.2.2.2.2.1, M.2.2.2.2.2.2.2.1, M.2.2.2.2.2.2.2.2.1, M.2.2.2.2.2.2.2.2.2.1, M.2.2.2.2.2.2.2.2.2.2)) C 1 rfl hg dX3_lay_52 rfl ?_
        refine q_aload_n C dX3_lay_53 rfl 0 rfl ?_
        refine q_get C (uW uX3_in) 0 rfl rfl 0 (by decide) (ws_in xf_X3_7) rfl rfl dX3_lay_54 ?_
        refine q_bipush (v := 104) C dX3_lay_57 (by decide) ?_
        refine q_iload_n C dX3_lay_59 rfl 3 rfl ?_
        refine q_iadd C dX3_lay_60 ?_
        refine q_iconst (v := 0) C dX3_lay_61 (by decide) ?_
        obtain ⟨hg, hf⟩ := gd_some hf
        refine q_iast (ws' := wMod cI cJ m0 m1 m2 m3 m4 m5 m6 m7 ((upd (upd (upd M.1 ((6 : Int32) + x3).toNatClampNeg x3) ((55 : Int32) + x3).toNatClampNeg (1 : Int32)) ((104 : Int32) + x3).toNatClampNeg (0 : Int32)), M.2.1, M.2.2.1, M.2.2.2.1, M.2.2.2.2.1, M.2.2.2.2.2.1, M.2.2.2.2.2.2.1, M.2.2.2.2.2.2.2.1, M.2.2.2.2.2.2.2.2.1, M.2.2.2.2.2.2.2.2.2.1, M.2.2.2.2.2.2.2.2.2.2)) C 1 rfl hg dX3_lay_62 rfl ?_
        refine q_iinc (v := (x3 + (1 : Int32))) (lv' := [(3, .int (x3 + (1 : Int32))), (0, .ref m0), (1, .int x1), (2, .int x2)]) C dX3_lay_63 3 rfl rfl (by decide) rfl ?_
        refine q_goto C 16 dX3_lay_66 (by decide) ?_
        refine q_sub (lv' := [(0, .ref m0), (1, .int x1), (2, .int x2), (3, .int (x3 + (1 : Int32)))]) [1, 2, 3, 0] rfl ?_
        exact ih ((upd (upd (upd M.1 ((6 : Int32) + x3).toNatClampNeg x3) ((55 : Int32) + x3).toNatClampNeg (1 : Int32)) ((104 : Int32) + x3).toNatClampNeg (0 : Int32)), M.2.1, M.2.2.1, M.2.2.2.1, M.2.2.2.2.1, M.2.2.2.2.2.1, M.2.2.2.2.2.2.1, M.2.2.2.2.2.2.2.1, M.2.2.2.2.2.2.2.2.1, M.2.2.2.2.2.2.2.2.2.1, M.2.2.2.2.2.2.2.2.2.2) x1 x2 (x3 + (1 : Int32)) hf
set_option maxRecDepth 100000 in
set_option maxHeartbeats 4000000 in
theorem c_X3_lay (l : Launch) (D : va_G) (cI cJ cN : ClassId) (m0 m1 m2 m3 m4 m5 m6 m7 : Nat)  (M : MS) (x1 : Int32) (x2 : Int32) (z : MS) (hf : f_X3_lay M x1 x2 = some z) : MV l D cI cJ cN yX3_lay (WS yX3_lay cX3_lay 4 none) { frames := 0, cells := 0, slots := 0, locals := 0 } [.ref m0, .int x1, .int x2] (wMod cI cJ m0 m1 m2 m3 m4 m5 m6 m7 M) (fun w => w = wMod cI cJ m0 m1 m2 m3 m4 m5 m6 m7 z) := by
  rw [f_X3_lay] at hf
  refine q_startV (lv := [(0, .ref m0), (1, .int x1), (2, .int x2)]) (by decide +kernel) rfl (Nat.le_of_ble_eq_true rfl) ?_
  intro p e s m below meth c C hin
  refine q_aload_n C dX3_lay_0 rfl 0 rfl ?_
  refine q_get C (uW uX3_in) 0 rfl rfl 0 (by decide) (ws_in xf_X3_7) rfl rfl dX3_lay_1 ?_
  refine q_iconst (v := 0) C dX3_lay_4 (by decide) ?_
  refine q_iload_n C dX3_lay_5 rfl 1 rfl ?_
  refine q_iast (ws' := wMod cI cJ m0 m1 m2 m3 m4 m5 m6 m7 ((upd M.1 (0 : Int32).toNatClampNeg x1), M.2.1, M.2.2.1, M.2.2.2.1, M.2.2.2.2.1, M.2.2.2.2.2.1, M.2.2.2.2.2.2.1, M.2.2.2.2.2.2.2.1, M.2.2.2.2.2.2.2.2.1, M.2.2.2.2.2.2.2.2.2.1, M.2.2.2.2.2.2.2.2.2.2)) C 1 rfl (by decide) dX3_lay_6 rfl ?_
  refine q_aload_n C dX3_lay_7 rfl 0 rfl ?_
  refine q_get C (uW uX3_in) 0 rfl rfl 0 (by decide) (ws_in xf_X3_7) rfl rfl dX3_lay_8 ?_
  refine q_iconst (v := 1) C dX3_lay_11 (by decide) ?_
  refine q_iload_n C dX3_lay_12 rfl 2 rfl ?_
  refine q_iast (ws' := wMod cI cJ m0 m1 m2 m3 m4 m5 m6 m7 ((upd (upd M.1 (0 : Int32).toNatClampNeg x1) (1 : Int32).toNatClampNeg x2), M.2.1, M.2.2.1, M.2.2.2.1, M.2.2.2.2.1, M.2.2.2.2.2.1, M.2.2.2.2.2.2.1, M.2.2.2.2.2.2.2.1, M.2.2.2.2.2.2.2.2.1, M.2.2.2.2.2.2.2.2.2.1, M.2.2.2.2.2.2.2.2.2.2)) C 1 rfl (by decide) dX3_lay_13 rfl ?_
  refine q_iconst (v := 0) C dX3_lay_14 (by decide) ?_
  refine q_istore_n (lv' := [(3, .int (0 : Int32)), (0, .ref m0), (1, .int x1), (2, .int x2)]) C dX3_lay_15 rfl (by decide) rfl ?_
  refine q_sub (lv' := [(0, .ref m0), (1, .int x1), (2, .int x2), (3, .int (0 : Int32))]) [1, 2, 3, 0] rfl ?_
  exact l_X3_lay_16 C FU ((upd (upd M.1 (0 : Int32).toNatClampNeg x1) (1 : Int32).toNatClampNeg x2), M.2.1, M.2.2.1, M.2.2.2.1, M.2.2.2.2.1, M.2.2.2.2.2.1, M.2.2.2.2.2.2.1, M.2.2.2.2.2.2.2.1, M.2.2.2.2.2.2.2.2.1, M.2.2.2.2.2.2.2.2.2.1, M.2.2.2.2.2.2.2.2.2.2) x1 x2 (0 : Int32) hf
set_option maxRecDepth 100000 in
set_option maxHeartbeats 4000000 in
theorem l_X3_remember_52 {p : Program} {l : Launch} {e : Env} {s : State} {m : MethodId} {args : Array Value} {below : List Frame} {meth : Method} {c : Code} {D : va_G} {cI cJ cN : ClassId} {W0 : va_W} {m0 m1 m2 m3 m4 m5 m6 m7 : Nat} {z : MS} (C : CX p l s m args meth c cX3_remember 2 yX3_remember.cls (WS yX3_remember cX3_remember 2 none) none D cI cJ cN (va_A W0 s.heap.size)) : ∀ (fu : Nat) (M : MS) (x1 : Int32), g_X3_remember_52 fu M x1 = some z → WW p l e { frames := 0, cells := 0, slots := 0, locals := 0 } s m args below meth c D 2 (va_A W0 s.heap.size) 0 0 (QV below args s D W0 { frames := 0, cells := 0, slots := 0, locals := 0 } (fun w => w = wMod cI cJ m0 m1 m2 m3 m4 m5 m6 m7 z)) 52 [(0, .ref m0), (1, .int x1)] [] (wMod cI cJ m0 m1 m2 m3 m4 m5 m6 m7 M) := by
  intro fu
  induction fu with
  | zero =>
    intro M x1 hf
    rw [g_X3_remember_52] at hf
    cases hf
  | succ fu ih =>
    intro M x1 hf
    rw [g_X3_remember_52] at hf
    refine q_iload_n C dX3_remember_52 rfl 1 rfl ?_
    refine q_sipush (v := 300) C dX3_remember_53 (by decide) ?_
    refine q_icmp_ge C 86 dX3_remember_56 (by decide) (fun h => ?_) (fun h => ?_)
    · have hf := ifT hf h
      refine q_aload_n C dX3_remember_86 rfl 0 rfl ?_
      refine q_dup C dX3_remember_87 rfl ?_
      refine q_get C (uW uX3_in) 0 rfl rfl 2 (by decide) (ws_in xf_X3_36) rfl rfl dX3_remember_88 ?_
      refine q_iconst (v := 1) C dX3_remember_91 (by decide) ?_
      refine q_iadd C dX3_remember_92 ?_
      refine q_put (ws' := wMod cI cJ m0 m1 m2 m3 m4 m5 m6 m7 (M.1, M.2.1, (M.2.2.1 + (1 : Int32)), M.2.2.2.1, M.2.2.2.2.1, M.2.2.2.2.2.1, M.2.2.2.2.2.2.1, M.2.2.2.2.2.2.2.1, M.2.2.2.2.2.2.2.2.1, M.2.2.2.2.2.2.2.2.2.1, M.2.2.2.2.2.2.2.2.2.2)) (ty := .int) C (uW uX3_in) tyX3 tyX3_ok nmX3 0 rfl rfl 2 (by decide) (ws_in xf_X3_36) rfl rfl (by decide +kernel) rfl rfl (Nat.le_of_ble_eq_true rfl) dX3_remember_93 rfl ?_
      have hf := Option.some.inj hf
      subst hf
      exact q_vret C (Nat.le_of_ble_eq_true rfl) (Nat.le_of_ble_eq_true rfl) rfl dX3_remember_96
    · have hf := ifF hf h
      refine q_aload_n C dX3_remember_59 rfl 0 rfl ?_
      refine q_get C (uW uX3_in) 0 rfl rfl 1 (by decide) (ws_in xf_X3_13) rfl rfl dX3_remember_60 ?_
      refine q_sipush (v := 300) C dX3_remember_63 (by decide) ?_
      refine q_aload_n C dX3_remember_66 rfl 0 rfl ?_
      refine q_get C (uW uX3_in) 0 rfl rfl 2 (by decide) (ws_in xf_X3_36) rfl rfl dX3_remember_67 ?_
      refine q_imul C dX3_remember_70 ?_
      refine q_iload_n C dX3_remember_71 rfl 1 rfl ?_
      refine q_iadd C dX3_remember_72 ?_
      refine q_aload_n C dX3_remember_73 rfl 0 rfl ?_
      refine q_get C (uW uX3_in) 0 rfl rfl 0 (by decide) (ws_in xf_X3_7) rfl rfl dX3_remember_74 ?_
      refine q_iload_n C dX3_remember_77 rfl 1 rfl ?_
      obtain ⟨hg, hf⟩ := gd_some hf
      refine q_iald C 1 rfl hg dX3_remember_78 ?_
      obtain ⟨hg, hf⟩ := gd_some hf
      refine q_iast (ws' := wMod cI cJ m0 m1 m2 m3 m4 m5 m6 m7 (M.1, (upd M.2.1 (((300 : Int32) * M.2.2.1) + x1).toNatClampNeg (M.1 x1.toNatClampNeg)), M.2.2.1, M.2.2.2.1, M.2.2.2.2.1, M.2.2.2.2.2.1, M.2.2.2.2.2.2.1, M.2.2.2.2.2.2.2.1, M.2.2.2.2.2.2.2.2.1, M.2.2.2.2.2.2.2.2.2.1, M.2.2.2.2.2.2.2.2.2.2)) C 2 rfl hg dX3_remember_79 rfl ?_
      refine q_iinc (v := (x1 + (1 : Int32))) (lv' := [(1, .int (x1 + (1 : Int32))), (0, .ref m0)]) C dX3_remember_80 1 rfl rfl (by decide) rfl ?_
      refine q_goto C 52 dX3_remember_83 (by decide) ?_
      refine q_sub (lv' := [(0, .ref m0), (1, .int (x1 + (1 : Int32)))]) [1, 0] rfl ?_
      exact ih (M.1, (upd M.2.1 (((300 : Int32) * M.2.2.1) + x1).toNatClampNeg (M.1 x1.toNatClampNeg)), M.2.2.1, M.2.2.2.1, M.2.2.2.2.1, M.2.2.2.2.2.1, M.2.2.2.2.2.2.1, M.2.2.2.2.2.2.2.1, M.2.2.2.2.2.2.2.2.1, M.2.2.2.2.2.2.2.2.2.1, M.2.2.2.2.2.2.2.2.2.2) (x1 + (1 : Int32)) hf
set_option maxRecDepth 100000 in
set_option maxHeartbeats 4000000 in
theorem l_X3_remember_11 {p : Program} {l : Launch} {e : Env} {s : State} {m : MethodId} {args : Array Value} {below : List Frame} {meth : Method} {c : Code} {D : va_G} {cI cJ cN : ClassId} {W0 : va_W} {m0 m1 m2 m3 m4 m5 m6 m7 : Nat} {z : MS} (C : CX p l s m args meth c cX3_remember 2 yX3_remember.cls (WS yX3_remember cX3_remember 2 none) none D cI cJ cN (va_A W0 s.heap.size)) : ∀ (fu : Nat) (M : MS) (x1 : Int32), g_X3_remember_11 fu M x1 = some z → WW p l e { frames := 0, cells := 0, slots := 0, locals := 0 } s m args below meth c D 2 (va_A W0 s.heap.size) 0 0 (QV below args s D W0 { frames := 0, cells := 0, slots := 0, locals := 0 } (fun w => w = wMod cI cJ m0 m1 m2 m3 m4 m5 m6 m7 z)) 11 [(0, .ref m0), (1, .int x1)] [] (wMod cI cJ m0 m1 m2 m3 m4 m5 m6 m7 M) := by
  intro fu
  induction fu with
  | zero =>
    intro M x1 hf
    rw [g_X3_remember_11] at hf
    cases hf
  | succ fu ih =>
    intro M x1 hf
    rw [g_X3_remember_11] at hf
    refine q_iload_n C dX3_remember_11 rfl 1 rfl ?_
    refine q_sipush (v := 2100) C dX3_remember_12 (by decide) ?_
    refine q_icmp_ge C 40 dX3_remember_15 (by decide) (fun h => ?_) (fun h => ?_)
    · have hf := ifT hf h
      refine q_aload_n C dX3_remember_40 rfl 0 rfl ?_
      refine q_dup C dX3_remember_41 rfl ?_
      refine q_get C (uW uX3_in) 0 rfl rfl 2 (by decide) (ws_in xf_X3_36) rfl rfl dX3_remember_42 ?_
      refine q_iconst (v := 1) C dX3_remember_45 (by decide) ?_
      refine q_isub C dX3_remember_46 ?_
      refine q_put (ws' := wMod cI cJ m0 m1 m2 m3 m4 m5 m6 m7 (M.1, M.2.1, (M.2.2.1 - (1 : Int32)), M.2.2.2.1, M.2.2.2.2.1, M.2.2.2.2.2.1, M.2.2.2.2.2.2.1, M.2.2.2.2.2.2.2.1, M.2.2.2.2.2.2.2.2.1, M.2.2.2.2.2.2.2.2.2.1, M.2.2.2.2.2.2.2.2.2.2)) (ty := .int) C (uW uX3_in) tyX3 tyX3_ok nmX3 0 rfl rfl 2 (by decide) (ws_in xf_X3_36) rfl rfl (by decide +kernel) rfl rfl (Nat.le_of_ble_eq_true rfl) dX3_remember_47 rfl ?_
      refine q_iconst (v := 0) C dX3_remember_50 (by decide) ?_
      refine q_istore_n (lv' := [(1, .int (0 : Int32)), (0, .ref m0)]) C dX3_remember_51 rfl (by decide) rfl ?_
      refine q_sub (lv' := [(0, .ref m0), (1, .int (0 : Int32))]) [1, 0] rfl ?_
      exact l_X3_remember_52 C FU (M.1, M.2.1, (M.2.2.1 - (1 : Int32)), M.2.2.2.1, M.2.2.2.2.1, M.2.2.2.2.2.1, M.2.2.2.2.2.2.1, M.2.2.2.2.2.2.2.1, M.2.2.2.2.2.2.2.2.1, M.2.2.2.2.2.2.2.2.2.1, M.2.2.2.2.2.2.2.2.2.2) (0 : Int32) hf
    · have hf := ifF hf h
      refine q_aload_n C dX3_remember_18 rfl 0 rfl ?_
      refine q_get C (uW uX3_in) 0 rfl rfl 1 (by decide) (ws_in xf_X3_13) rfl rfl dX3_remember_19 ?_
      refine q_iload_n C dX3_remember_22 rfl 1 rfl ?_
      refine q_aload_n C dX3_remember_23 rfl 0 rfl ?_
      refine q_get C (uW uX3_in) 0 rfl rfl 1 (by decide) (ws_in xf_X3_13) rfl rfl dX3_remember_24 ?_
      refine q_iload_n C dX3_remember_27 rfl 1 rfl ?_
      refine q_sipush (v := 300) C dX3_remember_28 (by decide) ?_
      refine q_iadd C dX3_remember_31 ?_
      obtain ⟨hg, hf⟩ := gd_some hf
      refine q_iald C 2 rfl hg dX3_remember_32 ?_
      obtain ⟨hg, hf⟩ := gd_some hf
      refine q_iast (ws' := wMod cI cJ m0 m1 m2 m3 m4 m5 m6 m7 (M.1, (upd M.2.1 x1.toNatClampNeg (M.2.1 (x1 + (300 : Int32)).toNatClampNeg)), M.2.2.1, M.2.2.2.1, M.2.2.2.2.1, M.2.2.2.2.2.1, M.2.2.2.2.2.2.1, M.2.2.2.2.2.2.2.1, M.2.2.2.2.2.2.2.2.1, M.2.2.2.2.2.2.2.2.2.1, M.2.2.2.2.2.2.2.2.2.2)) C 2 rfl hg dX3_remember_33 rfl ?_
      refine q_iinc (v := (x1 + (1 : Int32))) (lv' := [(1, .int (x1 + (1 : Int32))), (0, .ref m0)]) C dX3_remember_34 1 rfl rfl (by decide) rfl ?_
      refine q_goto C 11 dX3_remember_37 (by decide) ?_
      refine q_sub (lv' := [(0, .ref m0), (1, .int (x1 + (1 : Int32)))]) [1, 0] rfl ?_
      exact ih (M.1, (upd M.2.1 x1.toNatClampNeg (M.2.1 (x1 + (300 : Int32)).toNatClampNeg)), M.2.2.1, M.2.2.2.1, M.2.2.2.2.1, M.2.2.2.2.2.1, M.2.2.2.2.2.2.1, M.2.2.2.2.2.2.2.1, M.2.2.2.2.2.2.2.2.1, M.2.2.2.2.2.2.2.2.2.1, M.2.2.2.2.2.2.2.2.2.2) (x1 + (1 : Int32)) hf
set_option maxRecDepth 100000 in
set_option maxHeartbeats 4000000 in
theorem c_X3_remember (l : Launch) (D : va_G) (cI cJ cN : ClassId) (m0 m1 m2 m3 m4 m5 m6 m7 : Nat)  (M : MS)  (z : MS) (hf : f_X3_remember M = some z) : MV l D cI cJ cN yX3_remember (WS yX3_remember cX3_remember 2 none) { frames := 0, cells := 0, slots := 0, locals := 0 } [.ref m0] (wMod cI cJ m0 m1 m2 m3 m4 m5 m6 m7 M) (fun w => w = wMod cI cJ m0 m1 m2 m3 m4 m5 m6 m7 z) := by
  rw [f_X3_remember] at hf
  refine q_startV (lv := [(0, .ref m0)]) (by decide +kernel) rfl (Nat.le_of_ble_eq_true rfl) ?_
  intro p e s m below meth c C hin
  refine q_aload_n C dX3_remember_0 rfl 0 rfl ?_
  refine q_get C (uW uX3_in) 0 rfl rfl 2 (by decide) (ws_in xf_X3_36) rfl rfl dX3_remember_1 ?_
  refine q_bipush (v := 8) C dX3_remember_4 (by decide) ?_
  refine q_icmp_ne C 50 dX3_remember_6 (by decide) (fun h => ?_) (fun h => ?_)
  · have hf := ifF hf h
    refine q_iconst (v := 0) C dX3_remember_50 (by decide) ?_
    refine q_istore_n (lv' := [(1, .int (0 : Int32)), (0, .ref m0)]) C dX3_remember_51 rfl (by decide) rfl ?_
    refine q_sub (lv' := [(0, .ref m0), (1, .int (0 : Int32))]) [1, 0] rfl ?_
    exact l_X3_remember_52 C FU M (0 : Int32) hf
  · have hf := ifT hf h
    refine q_iconst (v := 0) C dX3_remember_9 (by decide) ?_
    refine q_istore_n (lv' := [(1, .int (0 : Int32)), (0, .ref m0)]) C dX3_remember_10 rfl (by decide) rfl ?_
    refine q_sub (lv' := [(0, .ref m0), (1, .int (0 : Int32))]) [1, 0] rfl ?_
    exact l_X3_remember_11 C FU M (0 : Int32) hf
set_option maxRecDepth 100000 in
set_option maxHeartbeats 4000000 in
theorem c_X3_nodes (l : Launch) (D : va_G) (cI cJ cN : ClassId) (m0 m1 m2 m3 m4 m5 m6 m7 : Nat)  (M : MS)  (z : Int32) (hf : f_X3_nodes M = some z) : MI l D cI cJ cN yX3_nodes (WS yX3_nodes cX3_nodes 1 (some .int)) { frames := 0, cells := 0, slots := 0, locals := 0 } [.ref m0] (wMod cI cJ m0 m1 m2 m3 m4 m5 m6 m7 M) z (fun w => w = wMod cI cJ m0 m1 m2 m3 m4 m5 m6 m7 M) := by
  rw [f_X3_nodes] at hf
  refine q_startI (lv := [(0, .ref m0)]) (by decide +kernel) rfl (Nat.le_of_ble_eq_true rfl) ?_
  intro p e s m below meth c C hin
  refine q_aload_n C dX3_nodes_0 rfl 0 rfl ?_
  refine q_get C (uW uX3_in) 0 rfl rfl 0 (by decide) (ws_in xf_X3_7) rfl rfl dX3_nodes_1 ?_
  refine q_iconst (v := 0) C dX3_nodes_4 (by decide) ?_
  refine q_iald C 1 rfl (by decide) dX3_nodes_5 ?_
  refine q_aload_n C dX3_nodes_6 rfl 0 rfl ?_
  refine q_get C (uW uX3_in) 0 rfl rfl 0 (by decide) (ws_in xf_X3_7) rfl rfl dX3_nodes_7 ?_
  refine q_iconst (v := 1) C dX3_nodes_10 (by decide) ?_
  refine q_iald C 1 rfl (by decide) dX3_nodes_11 ?_
  refine q_imul C dX3_nodes_12 ?_
  have hf := Option.some.inj hf
  subst hf
  exact q_iret C (Nat.le_of_ble_eq_true rfl) (Nat.le_of_ble_eq_true rfl) rfl dX3_nodes_13
set_option maxRecDepth 100000 in
set_option maxHeartbeats 4000000 in
theorem c_X3_isNode (l : Launch) (D : va_G) (cI cJ cN : ClassId) (m0 m1 m2 m3 m4 m5 m6 m7 : Nat)  (M : MS) (x1 : Int32) (z : Int32) (hf : f_X3_isNode M x1 = some z) : MI l D cI cJ cN yX3_isNode (WS yX3_isNode cX3_isNode 2 (some .boolean)) { frames := 1, cells := 0, slots := 0, locals := 22 } [.ref m0, .int x1] (wMod cI cJ m0 m1 m2 m3 m4 m5 m6 m7 M) z (fun w => w = wMod cI cJ m0 m1 m2 m3 m4 m5 m6 m7 M) := by
  rw [f_X3_isNode] at hf
  refine q_startI (lv := [(0, .ref m0), (1, .int x1)]) (by decide +kernel) rfl (Nat.le_of_ble_eq_true rfl) ?_
  intro p e s m below meth c C hin
  refine q_iload_n C dX3_isNode_0 rfl 1 rfl ?_
  refine q_iconst (v := 0) C dX3_isNode_1 (by decide) ?_
  refine q_aload_n C dX3_isNode_2 rfl 0 rfl ?_
  obtain ⟨z1, h_z1, hf⟩ := bnd hf
  refine q_cVIw C (c_X3_nodes l D cI cJ cN m0 m1 m2 m3 m4 m5 m6 m7 M z1 h_z1) (mkV (fr := 0) (lo := 0) C xc_X3_nodes xm_X3_40 xi_X3_nodes xe_X3_nodes xn_X3 hd_X3_nodes ⟨Nat.le_of_ble_eq_true rfl, Nat.le_of_ble_eq_true rfl⟩) 0 rfl rfl rfl rfl (Nat.le_of_ble_eq_true rfl) dX3_isNode_3 ⟨Nat.le_of_ble_eq_true rfl, Nat.le_of_ble_eq_true rfl⟩ (fun w1 hp1 => ?_)
  subst hp1
  refine q_iconst (v := 1) C dX3_isNode_6 (by decide) ?_
  refine q_isub C dX3_isNode_7 ?_
  obtain ⟨z2, h_z2, hf⟩ := bnd hf
  refine q_cSI (ws' := wMod cI cJ m0 m1 m2 m3 m4 m5 m6 m7 M) C (c_X3_isIn l D cI cJ cN x1 (0 : Int32) (z1 - (1 : Int32)) z2 h_z2) (mkS (fr := 0) (lo := 0) C xc_X3_isIn xm_X3_44 xs_X3_isIn xn_X3 hd_X3_isIn ⟨Nat.le_of_ble_eq_true rfl, Nat.le_of_ble_eq_true rfl⟩) [] rfl (by decide) rfl rfl rfl rfl (Nat.le_of_ble_eq_true rfl) dX3_isNode_8 ⟨Nat.le_of_ble_eq_true rfl, Nat.le_of_ble_eq_true rfl⟩ ?_
  obtain ⟨hg, hf⟩ := gd_some hf
  have hf := Option.some.inj hf
  subst hf
  exact q_zret C (bB_nar hg) (Nat.le_of_ble_eq_true rfl) (Nat.le_of_ble_eq_true rfl) rfl dX3_isNode_11
set_option maxRecDepth 100000 in
set_option maxHeartbeats 4000000 in
theorem c_X3_isPresent (l : Launch) (D : va_G) (cI cJ cN : ClassId) (m0 m1 m2 m3 m4 m5 m6 m7 : Nat)  (M : MS) (x1 : Int32) (z : Int32) (hf : f_X3_isPresent M x1 = some z) : MI l D cI cJ cN yX3_isPresent (WS yX3_isPresent cX3_isPresent 2 (some .boolean)) { frames := 0, cells := 0, slots := 0, locals := 0 } [.ref m0, .int x1] (wMod cI cJ m0 m1 m2 m3 m4 m5 m6 m7 M) z (fun w => w = wMod cI cJ m0 m1 m2 m3 m4 m5 m6 m7 M) := by
  rw [f_X3_isPresent] at hf
  refine q_startI (lv := [(0, .ref m0), (1, .int x1)]) (by decide +kernel) rfl (Nat.le_of_ble_eq_true rfl) ?_
  intro p e s m below meth c C hin
  refine q_aload_n C dX3_isPresent_0 rfl 0 rfl ?_
  refine q_get C (uW uX3_in) 0 rfl rfl 0 (by decide) (ws_in xf_X3_7) rfl rfl dX3_isPresent_1 ?_
  refine q_bipush (v := 55) C dX3_isPresent_4 (by decide) ?_
  refine q_iload_n C dX3_isPresent_6 rfl 1 rfl ?_
  refine q_iadd C dX3_isPresent_7 ?_
  obtain ⟨hg, hf⟩ := gd_some hf
  refine q_iald C 1 rfl hg dX3_isPresent_8 ?_
  refine q_iconst (v := 1) C dX3_isPresent_9 (by decide) ?_
  refine q_icmp_ne C 17 dX3_isPresent_10 (by decide) (fun h => ?_) (fun h => ?_)
  · have hf := ifF hf h
    refine q_iconst (v := 0) C dX3_isPresent_17 (by decide) ?_
    have hf := Option.some.inj hf
    subst hf
    exact q_zret (v := 0) C rfl (Nat.le_of_ble_eq_true rfl) (Nat.le_of_ble_eq_true rfl) rfl dX3_isPresent_18
  · have hf := ifT hf h
    refine q_iconst (v := 1) C dX3_isPresent_13 (by decide) ?_
    refine q_goto C 18 dX3_isPresent_14 (by decide) ?_
    have hf := Option.some.inj hf
    subst hf
    exact q_zret (v := 1) C rfl (Nat.le_of_ble_eq_true rfl) (Nat.le_of_ble_eq_true rfl) rfl dX3_isPresent_18
set_option maxRecDepth 100000 in
set_option maxHeartbeats 4000000 in
theorem c_X3_apart (l : Launch) (D : va_G) (cI cJ cN : ClassId)   (x0 : Int32) (x1 : Int32) (z : Int32) (hf : f_X3_apart x0 x1 = some z) : MI l D cI cJ cN yX3_apart (WS yX3_apart cX3_apart 2 (some .int)) { frames := 0, cells := 0, slots := 0, locals := 0 } [.int x0, .int x1] ([]) z (fun w => w = []) := by
  rw [f_X3_apart] at hf
  refine q_startI (lv := [(0, .int x0), (1, .int x1)]) (by decide +kernel) rfl (Nat.le_of_ble_eq_true rfl) ?_
  intro p e s m below meth c C hin
  refine q_iload_n C dX3_apart_0 rfl 0 rfl ?_
  refine q_iload_n C dX3_apart_1 rfl 1 rfl ?_
  refine q_icmp_ge C 11 dX3_apart_2 (by decide) (fun h => ?_) (fun h => ?_)
  · have hf := ifT hf h
    refine q_iload_n C dX3_apart_11 rfl 0 rfl ?_
    refine q_iload_n C dX3_apart_12 rfl 1 rfl ?_
    refine q_isub C dX3_apart_13 ?_
    have hf := Option.some.inj hf
    subst hf
    exact q_iret C (Nat.le_of_ble_eq_true rfl) (Nat.le_of_ble_eq_true rfl) rfl dX3_apart_14
  · have hf := ifF hf h
    refine q_iload_n C dX3_apart_5 rfl 1 rfl ?_
    refine q_iload_n C dX3_apart_6 rfl 0 rfl ?_
    refine q_isub C dX3_apart_7 ?_
    refine q_goto C 14 dX3_apart_8 (by decide) ?_
    have hf := Option.some.inj hf
    subst hf
    exact q_iret C (Nat.le_of_ble_eq_true rfl) (Nat.le_of_ble_eq_true rfl) rfl dX3_apart_14
set_option maxRecDepth 100000 in
set_option maxHeartbeats 4000000 in
theorem c_X3_far (l : Launch) (D : va_G) (cI cJ cN : ClassId) (m0 m1 m2 m3 m4 m5 m6 m7 : Nat)  (M : MS) (x1 : Int32) (x2 : Int32) (z : Int32) (hf : f_X3_far M x1 x2 = some z) : MI l D cI cJ cN yX3_far (WS yX3_far cX3_far 5 (some .int)) { frames := 1, cells := 0, slots := 0, locals := 21 } [.ref m0, .int x1, .int x2] (wMod cI cJ m0 m1 m2 m3 m4 m5 m6 m7 M) z (fun w => w = wMod cI cJ m0 m1 m2 m3 m4 m5 m6 m7 M) := by
  rw [f_X3_far] at hf
  refine q_startI (lv := [(0, .ref m0), (1, .int x1), (2, .int x2)]) (by decide +kernel) rfl (Nat.le_of_ble_eq_true rfl) ?_
  intro p e s m below meth c C hin
  refine q_aload_n C dX3_far_0 rfl 0 rfl ?_
  refine q_get C (uW uX3_in) 0 rfl rfl 0 (by decide) (ws_in xf_X3_7) rfl rfl dX3_far_1 ?_
  refine q_bipush (v := 6) C dX3_far_4 (by decide) ?_
  refine q_iload_n C dX3_far_6 rfl 1 rfl ?_
  refine q_iadd C dX3_far_7 ?_
  obtain ⟨hg, hf⟩ := gd_some hf
  refine q_iald C 1 rfl hg dX3_far_8 ?_
  obtain ⟨z1, e_z1, hf⟩ := bndv hf
  refine q_topi e_z1 ?_
  refine q_istore_n (lv' := [(3, .int z1), (0, .ref m0), (1, .int x1), (2, .int x2)]) C dX3_far_9 rfl (by decide) rfl ?_
  refine q_aload_n C dX3_far_10 rfl 1 rfl ?_
  refine q_get C (uW uX3_in) 0 rfl rfl 0 (by decide) (ws_in xf_X3_7) rfl rfl dX3_far_11 ?_
  refine q_bipush (v := 6) C dX3_far_14 (by decide) ?_
  refine q_iload_n C dX3_far_16 rfl 3 rfl ?_
  refine q_iadd C dX3_far_17 ?_
  obtain ⟨hg, hf⟩ := gd_some hf
  refine q_iald C 1 rfl hg dX3_far_18 ?_
  obtain ⟨z2, e_z2, hf⟩ := bndv hf
  refine q_topi e_z2 ?_
  refine q_istore (lv' := [(4, .int z2), (3, .int z1), (0, .ref m0), (1, .int x1), (2, .int x2)]) C dX3_far_19 (by decide) rfl ?_
  refine q_iload_n C dX3_far_21 rfl 1 rfl ?_
  refine q_aload_n C dX3_far_22 rfl 2 rfl ?_
  refine q_get C (uW uX3_in) 0 rfl rfl 0 (by decide) (ws_in xf_X3_7) rfl rfl dX3_far_23 ?_
  refine q_iconst (v := 0) C dX3_far_26 (by decide) ?_
  refine q_iald C 1 rfl (by decide) dX3_far_27 ?_
  obtain ⟨hg, hf⟩ := gd_some hf
  refine q_irem C dX3_far_28 hg ?_
  refine q_iload C dX3_far_29 0 rfl ?_
  refine q_aload_n C dX3_far_31 rfl 2 rfl ?_
  refine q_get C (uW uX3_in) 0 rfl rfl 0 (by decide) (ws_in xf_X3_7) rfl rfl dX3_far_32 ?_
  refine q_iconst (v := 0) C dX3_far_35 (by decide) ?_
  refine q_iald C 1 rfl (by decide) dX3_far_36 ?_
  obtain ⟨hg, hf⟩ := gd_some hf
  refine q_irem C dX3_far_37 hg ?_
  obtain ⟨z3, h_z3, hf⟩ := bnd hf
  refine q_cSI (ws' := wMod cI cJ m0 m1 m2 m3 m4 m5 m6 m7 M) C (c_X3_apart l D cI cJ cN (z1 - z1 / (M.1 (0 : Int32).toNatClampNeg) * (M.1 (0 : Int32).toNatClampNeg)) (z2 - z2 / (M.1 (0 : Int32).toNatClampNeg) * (M.1 (0 : Int32).toNatClampNeg)) z3 h_z3) (mkS (fr := 0) (lo := 0) C xc_X3_apart xm_X3_48 xs_X3_apart xn_X3 hd_X3_apart ⟨Nat.le_of_ble_eq_true rfl, Nat.le_of_ble_eq_true rfl⟩) [] rfl (by decide) rfl rfl rfl rfl (Nat.le_of_ble_eq_true rfl) dX3_far_38 ⟨Nat.le_of_ble_eq_true rfl, Nat.le_of_ble_eq_true rfl⟩ ?_
  refine q_iload_n C dX3_far_41 rfl 1 rfl ?_
  refine q_aload_n C dX3_far_42 rfl 2 rfl ?_
  refine q_get C (uW uX3_in) 0 rfl rfl 0 (by decide) (ws_in xf_X3_7) rfl rfl dX3_far_43 ?_
  refine q_iconst (v := 0) C dX3_far_46 (by decide) ?_
  refine q_iald C 1 rfl (by decide) dX3_far_47 ?_
  obtain ⟨hg, hf⟩ := gd_some hf
  refine q_idiv C dX3_far_48 hg ?_
  refine q_iload C dX3_far_49 0 rfl ?_
  refine q_aload_n C dX3_far_51 rfl 2 rfl ?_
  refine q_get C (uW uX3_in) 0 rfl rfl 0 (by decide) (ws_in xf_X3_7) rfl rfl dX3_far_52 ?_
  refine q_iconst (v := 0) C dX3_far_55 (by decide) ?_
  refine q_iald C 1 rfl (by decide) dX3_far_56 ?_
  obtain ⟨hg, hf⟩ := gd_some hf
  refine q_idiv C dX3_far_57 hg ?_
  obtain ⟨z4, h_z4, hf⟩ := bnd hf
  refine q_cSI (ws' := wMod cI cJ m0 m1 m2 m3 m4 m5 m6 m7 M) C (c_X3_apart l D cI cJ cN (z1 / (M.1 (0 : Int32).toNatClampNeg)) (z2 / (M.1 (0 : Int32).toNatClampNeg)) z4 h_z4) (mkS (fr := 0) (lo := 0) C xc_X3_apart xm_X3_48 xs_X3_apart xn_X3 hd_X3_apart ⟨Nat.le_of_ble_eq_true rfl, Nat.le_of_ble_eq_true rfl⟩) [] rfl (by decide) rfl rfl rfl rfl (Nat.le_of_ble_eq_true rfl) dX3_far_58 ⟨Nat.le_of_ble_eq_true rfl, Nat.le_of_ble_eq_true rfl⟩ ?_
  refine q_iadd C dX3_far_61 ?_
  have hf := Option.some.inj hf
  subst hf
  exact q_iret C (Nat.le_of_ble_eq_true rfl) (Nat.le_of_ble_eq_true rfl) rfl dX3_far_62
set_option maxRecDepth 100000 in
set_option maxHeartbeats 4000000 in
theorem c_X3_at (l : Launch) (D : va_G) (cI cJ cN : ClassId) (m0 m1 m2 m3 m4 m5 m6 m7 : Nat)  (M : MS) (x1 : Int32) (x2 : Int32) (z : Int32) (hf : f_X3_at M x1 x2 = some z) : MI l D cI cJ cN yX3_at (WS yX3_at cX3_at 3 (some .int)) { frames := 0, cells := 0, slots := 0, locals := 0 } [.ref m0, .int x1, .int x2] (wMod cI cJ m0 m1 m2 m3 m4 m5 m6 m7 M) z (fun w => w = wMod cI cJ m0 m1 m2 m3 m4 m5 m6 m7 M) := by
  rw [f_X3_at] at hf
  refine q_startI (lv := [(0, .ref m0), (1, .int x1), (2, .int x2)]) (by decide +kernel) rfl (Nat.le_of_ble_eq_true rfl) ?_
  intro p e s m below meth c C hin
  refine q_aload_n C dX3_at_0 rfl 0 rfl ?_
  refine q_get C (uW uX3_in) 0 rfl rfl 0 (by decide) (ws_in xf_X3_7) rfl rfl dX3_at_1 ?_
  refine q_sipush (v := 153) C dX3_at_4 (by decide) ?_
  refine q_iconst (v := 3) C dX3_at_7 (by decide) ?_
  refine q_iload_n C dX3_at_8 rfl 1 rfl ?_
  refine q_imul C dX3_at_9 ?_
  refine q_iadd C dX3_at_10 ?_
  refine q_iload_n C dX3_at_11 rfl 2 rfl ?_
  refine q_iadd C dX3_at_12 ?_
  obtain ⟨hg, hf⟩ := gd_some hf
  refine q_iald C 1 rfl hg dX3_at_13 ?_
  have hf := Option.some.inj hf
  subst hf
  exact q_iret C (Nat.le_of_ble_eq_true rfl) (Nat.le_of_ble_eq_true rfl) rfl dX3_at_14
set_option maxRecDepth 100000 in
set_option maxHeartbeats 4000000 in
theorem l_X3_hasLink_2 {p : Program} {l : Launch} {e : Env} {s : State} {m : MethodId} {args : Array Value} {below : List Frame} {meth : Method} {c : Code} {D : va_G} {cI cJ cN : ClassId} {W0 : va_W} {m0 m1 m2 m3 m4 m5 m6 m7 : Nat} {z : Int32} (C : CX p l s m args meth c cX3_hasLink 4 yX3_hasLink.cls (WS yX3_hasLink cX3_hasLink 4 (some .boolean)) (some .boolean) D cI cJ cN (va_A W0 s.heap.size)) : ∀ (fu : Nat) (M : MS) (x1 : Int32) (x2 : Int32) (x3 : Int32), g_X3_hasLink_2 fu M x1 x2 x3 = some z → WW p l e { frames := 1, cells := 0, slots := 0, locals := 22 } s m args below meth c D 4 (va_A W0 s.heap.size) 0 0 (QI below args s D W0 { frames := 1, cells := 0, slots := 0, locals := 22 } z (fun w => w = wMod cI cJ m0 m1 m2 m3 m4 m5 m6 m7 M)) 2 [(0, .ref m0), (1, .int x1), (2, .int x2), (3, .int x3)] [] (wMod cI cJ m0 m1 m2 m3 m4 m5 m6 m7 M) := by
  intro fu
  induction fu with
  | zero =>
    intro M x1 x2 x3 hf
    rw [g_X3_hasLink_2] at hf
    cases hf
  | succ fu ih =>
    intro M x1 x2 x3 hf
    rw [g_X3_hasLink_2] at hf
    refine q_iload_n C dX3_hasLink_2 rfl 3 rfl ?_
    refine q_aload_n C dX3_hasLink_3 rfl 0 rfl ?_
    refine q_get C (uW uX3_in) 0 rfl rfl 0 (by decide) (ws_in xf_X3_7) rfl rfl dX3_hasLink_4 ?_
    refine q_bipush (v := 104) C dX3_hasLink_7 (by decide) ?_
    refine q_iload_n C dX3_hasLink_9 rfl 1 rfl ?_
    refine q_iadd C dX3_hasLink_10 ?_
    obtain ⟨hg, hf⟩ := gd_some hf
    refine q_iald C 1 rfl hg dX3_hasLink_11 ?_
    refine q_icmp_ge C 33 dX3_hasLink_12 (by decide) (fun h => ?_) (fun h => ?_)
    · have hf := ifT hf h
      refine q_iconst (v := 0) C dX3_hasLink_33 (by decide) ?_
      have hf := Option.some.inj hf
      subst hf
      exact q_zret (v := 0) C rfl (Nat.le_of_ble_eq_true rfl) (Nat.le_of_ble_eq_true rfl) rfl dX3_hasLink_34
    · have hf := ifF hf h
      refine q_aload_n C dX3_hasLink_15 rfl 0 rfl ?_
      refine q_iload_n C dX3_hasLink_16 rfl 1 rfl ?_
      refine q_iload_n C dX3_hasLink_17 rfl 3 rfl ?_
      obtain ⟨z1, h_z1, hf⟩ := bnd hf
      refine q_cVIw C (c_X3_at l D cI cJ cN m0 m1 m2 m3 m4 m5 m6 m7 M x1 x3 z1 h_z1) (mkV (fr := 0) (lo := 0) C xc_X3_at xm_X3_52 xi_X3_at xe_X3_at xn_X3 hd_X3_at ⟨Nat.le_of_ble_eq_true rfl, Nat.le_of_ble_eq_true rfl⟩) 0 rfl rfl rfl rfl (Nat.le_of_ble_eq_true rfl) dX3_hasLink_18 ⟨Nat.le_of_ble_eq_true rfl, Nat.le_of_ble_eq_true rfl⟩ (fun w1 hp1 => ?_)
      subst hp1
      refine q_iload_n C dX3_hasLink_21 rfl 2 rfl ?_
      refine q_icmp_ne C 27 dX3_hasLink_22 (by decide) (fun h => ?_) (fun h => ?_)
      · have hf := ifF hf h
        refine q_iinc (v := (x3 + (1 : Int32))) (lv' := [(3, .int (x3 + (1 : Int32))), (0, .ref m0), (1, .int x1), (2, .int x2)]) C dX3_hasLink_27 3 rfl rfl (by decide) rfl ?_
        refine q_goto C 2 dX3_hasLink_30 (by decide) ?_
        refine q_sub (lv' := [(0, .ref m0), (1, .int x1), (2, .int x2), (3, .int (x3 + (1 : Int32)))]) [1, 2, 3, 0] rfl ?_
        exact ih M x1 x2 (x3 + (1 : Int32)) hf
      · have hf := ifT hf h
        refine q_iconst (v := 1) C dX3_hasLink_25 (by decide) ?_
        have hf := Option.some.inj hf
        subst hf
        exact q_zret (v := 1) C rfl (Nat.le_of_ble_eq_true rfl) (Nat.le_of_ble_eq_true rfl) rfl dX3_hasLink_26
set_option maxRecDepth 100000 in
set_option maxHeartbeats 4000000 in
theorem c_X3_hasLink (l : Launch) (D : va_G) (cI cJ cN : ClassId) (m0 m1 m2 m3 m4 m5 m6 m7 : Nat)  (M : MS) (x1 : Int32) (x2 : Int32) (z : Int32) (hf : f_X3_hasLink M x1 x2 = some z) : MI l D cI cJ cN yX3_hasLink (WS yX3_hasLink cX3_hasLink 4 (some .boolean)) { frames := 1, cells := 0, slots := 0, locals := 22 } [.ref m0, .int x1, .int x2] (wMod cI cJ m0 m1 m2 m3 m4 m5 m6 m7 M) z (fun w => w = wMod cI cJ m0 m1 m2 m3 m4 m5 m6 m7 M) := by
  rw [f_X3_hasLink] at hf
  refine q_startI (lv := [(0, .ref m0), (1, .int x1), (2, .int x2)]) (by decide +kernel) rfl (Nat.le_of_ble_eq_true rfl) ?_
  intro p e s m below meth c C hin
  refine q_iconst (v := 0) C dX3_hasLink_0 (by decide) ?_
  refine q_istore_n (lv' := [(3, .int (0 : Int32)), (0, .ref m0), (1, .int x1), (2, .int x2)]) C dX3_hasLink_1 rfl (by decide) rfl ?_
  refine q_sub (lv' := [(0, .ref m0), (1, .int x1), (2, .int x2), (3, .int (0 : Int32))]) [1, 2, 3, 0] rfl ?_
  exact l_X3_hasLink_2 C FU M x1 x2 (0 : Int32) hf
set_option maxRecDepth 100000 in
set_option maxHeartbeats 4000000 in
theorem c_X3_isContact (l : Launch) (D : va_G) (cI cJ cN : ClassId) (m0 m1 m2 m3 m4 m5 m6 m7 : Nat)  (M : MS) (x1 : Int32) (x2 : Int32) (z : Int32) (hf : f_X3_isContact M x1 x2 = some z) : MI l D cI cJ cN yX3_isContact (WS yX3_isContact cX3_isContact 3 (some .boolean)) { frames := 2, cells := 0, slots := 0, locals := 45 } [.ref m0, .int x1, .int x2] (wMod cI cJ m0 m1 m2 m3 m4 m5 m6 m7 M) z (fun w => w = wMod cI cJ m0 m1 m2 m3 m4 m5 m6 m7 M) := by
  rw [f_X3_isContact] at hf
  refine q_startI (lv := [(0, .ref m0), (1, .int x1), (2, .int x2)]) (by decide +kernel) rfl (Nat.le_of_ble_eq_true rfl) ?_
  intro p e s m below meth c C hin
  refine q_iload_n C dX3_isContact_0 rfl 1 rfl ?_
  refine q_iload_n C dX3_isContact_1 rfl 2 rfl ?_
  refine q_icmp_eq C 36 dX3_isContact_2 (by decide) (fun h => ?_) (fun h => ?_)
  · have hf := ifT hf h
    refine q_iconst (v := 0) C dX3_isContact_36 (by decide) ?_
    have hf := Option.some.inj hf
    subst hf
    exact q_zret (v := 0) C rfl (Nat.le_of_ble_eq_true rfl) (Nat.le_of_ble_eq_true rfl) rfl dX3_isContact_37
  · have hf := ifF hf h
    refine q_aload_n C dX3_isContact_5 rfl 0 rfl ?_
    refine q_iload_n C dX3_isContact_6 rfl 2 rfl ?_
    obtain ⟨z1, h_z1, hf⟩ := bnd hf
    refine q_cVIw C (c_X3_isPresent l D cI cJ cN m0 m1 m2 m3 m4 m5 m6 m7 M x2 z1 h_z1) (mkV (fr := 0) (lo := 0) C xc_X3_isPresent xm_X3_55 xi_X3_isPresent xe_X3_isPresent xn_X3 hd_X3_isPresent ⟨Nat.le_of_ble_eq_true rfl, Nat.le_of_ble_eq_true rfl⟩) 0 rfl rfl rfl rfl (Nat.le_of_ble_eq_true rfl) dX3_isContact_7 ⟨Nat.le_of_ble_eq_true rfl, Nat.le_of_ble_eq_true rfl⟩ (fun w1 hp1 => ?_)
    subst hp1
    refine q_if_eq C 36 dX3_isContact_10 (by decide) (fun h => ?_) (fun h => ?_)
    · have hf := ifT hf h
      refine q_iconst (v := 0) C dX3_isContact_36 (by decide) ?_
      have hf := Option.some.inj hf
      subst hf
      exact q_zret (v := 0) C rfl (Nat.le_of_ble_eq_true rfl) (Nat.le_of_ble_eq_true rfl) rfl dX3_isContact_37
    · have hf := ifF hf h
      refine q_aload_n C dX3_isContact_13 rfl 0 rfl ?_
      refine q_iload_n C dX3_isContact_14 rfl 1 rfl ?_
      refine q_iload_n C dX3_isContact_15 rfl 2 rfl ?_
      obtain ⟨z2, h_z2, hf⟩ := bnd hf
      refine q_cVIw C (c_X3_far l D cI cJ cN m0 m1 m2 m3 m4 m5 m6 m7 M x1 x2 z2 h_z2) (mkV (fr := 1) (lo := 21) C xc_X3_far xm_X3_59 xi_X3_far xe_X3_far xn_X3 hd_X3_far ⟨Nat.le_of_ble_eq_true rfl, Nat.le_of_ble_eq_true rfl⟩) 0 rfl rfl rfl rfl (Nat.le_of_ble_eq_true rfl) dX3_isContact_16 ⟨Nat.le_of_ble_eq_true rfl, Nat.le_of_ble_eq_true rfl⟩ (fun w1 hp1 => ?_)
      subst hp1
      refine q_iconst (v := 1) C dX3_isContact_19 (by decide) ?_
      refine q_icmp_eq C 32 dX3_isContact_20 (by decide) (fun h => ?_) (fun h => ?_)
      · have hf := ifT hf h
        refine q_iconst (v := 1) C dX3_isContact_32 (by decide) ?_
        refine q_goto C 37 dX3_isContact_33 (by decide) ?_
        have hf := Option.some.inj hf
        subst hf
        exact q_zret (v := 1) C rfl (Nat.le_of_ble_eq_true rfl) (Nat.le_of_ble_eq_true rfl) rfl dX3_isContact_37
      · have hf := ifF hf h
        refine q_aload_n C dX3_isContact_23 rfl 0 rfl ?_
        refine q_iload_n C dX3_isContact_24 rfl 1 rfl ?_
        refine q_iload_n C dX3_isContact_25 rfl 2 rfl ?_
        obtain ⟨z3, h_z3, hf⟩ := bnd hf
        refine q_cVIw C (c_X3_hasLink l D cI cJ cN m0 m1 m2 m3 m4 m5 m6 m7 M x1 x2 z3 h_z3) (mkV (fr := 1) (lo := 22) C xc_X3_hasLink xm_X3_62 xi_X3_hasLink xe_X3_hasLink xn_X3 hd_X3_hasLink ⟨Nat.le_of_ble_eq_true rfl, Nat.le_of_ble_eq_true rfl⟩) 0 rfl rfl rfl rfl (Nat.le_of_ble_eq_true rfl) dX3_isContact_26 ⟨Nat.le_of_ble_eq_true rfl, Nat.le_of_ble_eq_true rfl⟩ (fun w1 hp1 => ?_)
        subst hp1
        refine q_if_eq C 36 dX3_isContact_29 (by decide) (fun h => ?_) (fun h => ?_)
        · have hf := ifT hf h
          refine q_iconst (v := 0) C dX3_isContact_36 (by decide) ?_
          have hf := Option.some.inj hf
          subst hf
          exact q_zret (v := 0) C rfl (Nat.le_of_ble_eq_true rfl) (Nat.le_of_ble_eq_true rfl) rfl dX3_isContact_37
        · have hf := ifF hf h
          refine q_iconst (v := 1) C dX3_isContact_32 (by decide) ?_
          refine q_goto C 37 dX3_isContact_33 (by decide) ?_
          have hf := Option.some.inj hf
          subst hf
          exact q_zret (v := 1) C rfl (Nat.le_of_ble_eq_true rfl) (Nat.le_of_ble_eq_true rfl) rfl dX3_isContact_37
set_option maxRecDepth 100000 in
set_option maxHeartbeats 4000000 in
theorem l_X3_drop_2 {p : Program} {l : Launch} {e : Env} {s : State} {m : MethodId} {args : Array Value} {below : List Frame} {meth : Method} {c : Code} {D : va_G} {cI cJ cN : ClassId} {W0 : va_W} {m0 m1 m2 m3 m4 m5 m6 m7 : Nat} {z : MS} (C : CX p l s m args meth c cX3_drop 4 yX3_drop.cls (WS yX3_drop cX3_drop 4 none) none D cI cJ cN (va_A W0 s.heap.size)) : ∀ (fu : Nat) (M : MS) (x1 : Int32) (x3 : Int32), g_X3_drop_2 fu M x1 x3 = some z → WW p l e { frames := 1, cells := 0, slots := 0, locals := 22 } s m args below meth c D 4 (va_A W0 s.heap.size) 0 0 (QV below args s D W0 { frames := 1, cells := 0, slots := 0, locals := 22 } (fun w => w = wMod cI cJ m0 m1 m2 m3 m4 m5 m6 m7 z)) 2 [(0, .ref m0), (1, .int x1), (3, .int x3)] [] (wMod cI cJ m0 m1 m2 m3 m4 m5 m6 m7 M) := by
  intro fu
  induction fu with
  | zero =>
    intro M x1 x3 hf
    rw [g_X3_drop_2] at hf
    cases hf
  | succ fu ih =>
    intro M x1 x3 hf
    rw [g_X3_drop_2] at hf
    refine q_iload_n C dX3_drop_2 rfl 2 rfl ?_
    refine q_aload_n C dX3_drop_3 rfl 0 rfl ?_
    refine q_get C (uW uX3_in) 0 rfl rfl 0 (by decide) (ws_in xf_X3_7) rfl rfl dX3_drop_4 ?_
    refine q_bipush (v := 104) C dX3_drop_7 (by decide) ?_
    refine q_iload_n C dX3_drop_9 rfl 1 rfl ?_
    refine q_iadd C dX3_drop_10 ?_
    obtain ⟨hg, hf⟩ := gd_some hf
    refine q_iald C 1 rfl hg dX3_drop_11 ?_
    refine q_iconst (v := 1) C dX3_drop_12 (by decide) ?_
    refine q_isub C dX3_drop_13 ?_
    refine q_icmp_ge C 45 dX3_drop_14 (by decide) (fun h => ?_) (fun h => ?_)
    · have hf := ifT hf h
      refine q_aload_n C dX3_drop_45 rfl 0 rfl ?_
      refine q_get C (uW uX3_in) 0 rfl rfl 0 (by decide) (ws_in xf_X3_7) rfl rfl dX3_drop_46 ?_
      refine q_bipush (v := 104) C dX3_drop_49 (by decide) ?_
      refine q_iload_n C dX3_drop_51 rfl 1 rfl ?_
      refine q_iadd C dX3_drop_52 ?_
      refine q_dup2 C dX3_drop_53 rfl rfl ?_
      obtain ⟨hg, hf⟩ := gd_some hf
      refine q_iald C 1 rfl hg dX3_drop_54 ?_
      refine q_iconst (v := 1) C dX3_drop_55 (by decide) ?_
      refine q_isub C dX3_drop_56 ?_
      obtain ⟨hg, hf⟩ := gd_some hf
      refine q_iast (ws' := wMod cI cJ m0 m1 m2 m3 m4 m5 m6 m7 ((upd M.1 ((104 : Int32) + x1).toNatClampNeg ((M.1 ((104 : Int32) + x1).toNatClampNeg) - (1 : Int32))), M.2.1, M.2.2.1, M.2.2.2.1, M.2.2.2.2.1, M.2.2.2.2.2.1, M.2.2.2.2.2.2.1, M.2.2.2.2.2.2.2.1, M.2.2.2.2.2.2.2.2.1, M.2.2.2.2.2.2.2.2.2.1, M.2.2.2.2.2.2.2.2.2.2)) C 1 rfl hg dX3_drop_57 rfl ?_
      have hf := Option.some.inj hf
      subst hf
      exact q_vret C (Nat.le_of_ble_eq_true rfl) (Nat.le_of_ble_eq_true rfl) rfl dX3_drop_58
    · have hf := ifF hf h
      refine q_aload_n C dX3_drop_17 rfl 0 rfl ?_
      refine q_get C (uW uX3_in) 0 rfl rfl 0 (by decide) (ws_in xf_X3_7) rfl rfl dX3_drop_18 ?_
      refine q_sipush (v := 153) C dX3_drop_21 (by decide) ?_
      refine q_iconst (v := 3) C dX3_drop_24 (by decide) ?_
      refine q_iload_n C dX3_drop_25 rfl 1 rfl ?_
      refine q_imul C dX3_drop_26 ?_
      refine q_iadd C dX3_drop_27 ?_
      refine q_iload_n C dX3_drop_28 rfl 2 rfl ?_
      refine q_iadd C dX3_drop_29 ?_
      refine q_aload_n C dX3_drop_30 rfl 0 rfl ?_
      refine q_iload_n C dX3_drop_31 rfl 1 rfl ?_
      refine q_iload_n C dX3_drop_32 rfl 2 rfl ?_
      refine q_iconst (v := 1) C dX3_drop_33 (by decide) ?_
      refine q_iadd C dX3_drop_34 ?_
      obtain ⟨z1, h_z1, hf⟩ := bnd hf
      refine q_cVIw C (c_X3_at l D cI cJ cN m0 m1 m2 m3 m4 m5 m6 m7 M x1 (x3 + (1 : Int32)) z1 h_z1) (mkV (fr := 0) (lo := 0) C xc_X3_at xm_X3_52 xi_X3_at xe_X3_at xn_X3 hd_X3_at ⟨Nat.le_of_ble_eq_true rfl, Nat.le_of_ble_eq_true rfl⟩) 0 rfl rfl rfl rfl (Nat.le_of_ble_eq_true rfl) dX3_drop_35 ⟨Nat.le_of_ble_eq_true rfl, Nat.le_of_ble_eq_true rfl⟩ (fun w1 hp1 => ?_)
      subst hp1
      obtain ⟨hg, hf⟩ := gd_some hf
      refine q_iast (ws' := wMod cI cJ m0 m1 m2 m3 m4 m5 m6 m7 ((upd M.1 (((153 : Int32) + ((3 : Int32) * x1)) + x3).toNatClampNeg z1), M.2.1, M.2.2.1, M.2.2.2.1, M.2.2.2.2.1, M.2.2.2.2.2.1, M.2.2.2.2.2.2.1, M.2.2.2.2.2.2.2.1, M.2.2.2.2.2.2.2.2.1, M.2.2.2.2.2.2.2.2.2.1, M.2.2.2.2.2.2.2.2.2.2)) C 1 rfl hg dX3_drop_38 rfl ?_
      refine q_iinc (v := (x3 + (1 : Int32))) (lv' := [(3, .int (x3 + (1 : Int32))), (0, .ref m0), (1, .int x1)]) C dX3_drop_39 2 rfl rfl (by decide) rfl ?_
      refine q_goto C 2 dX3_drop_42 (by decide) ?_
      refine q_sub (lv' := [(0, .ref m0), (1, .int x1), (3, .int (x3 + (1 : Int32)))]) [1, 2, 0] rfl ?_
      exact ih ((upd M.1 (((153 : Int32) + ((3 : Int32) * x1)) + x3).toNatClampNeg z1), M.2.1, M.2.2.1, M.2.2.2.1, M.2.2.2.2.1, M.2.2.2.2.2.1, M.2.2.2.2.2.2.1, M.2.2.2.2.2.2.2.1, M.2.2.2.2.2.2.2.2.1, M.2.2.2.2.2.2.2.2.2.1, M.2.2.2.2.2.2.2.2.2.2) x1 (x3 + (1 : Int32)) hf
set_option maxRecDepth 100000 in
set_option maxHeartbeats 4000000 in
theorem c_X3_drop (l : Launch) (D : va_G) (cI cJ cN : ClassId) (m0 m1 m2 m3 m4 m5 m6 m7 : Nat)  (M : MS) (x1 : Int32) (x2 : Int32) (z : MS) (hf : f_X3_drop M x1 x2 = some z) : MV l D cI cJ cN yX3_drop (WS yX3_drop cX3_drop 4 none) { frames := 1, cells := 0, slots := 0, locals := 22 } [.ref m0, .int x1, .int x2] (wMod cI cJ m0 m1 m2 m3 m4 m5 m6 m7 M) (fun w => w = wMod cI cJ m0 m1 m2 m3 m4 m5 m6 m7 z) := by
  rw [f_X3_drop] at hf
  refine q_startV (lv := [(0, .ref m0), (1, .int x1), (2, .int x2)]) (by decide +kernel) rfl (Nat.le_of_ble_eq_true rfl) ?_
  intro p e s m below meth c C hin
  refine q_iload_n C dX3_drop_0 rfl 2 rfl ?_
  refine q_istore_n (lv' := [(3, .int x2), (0, .ref m0), (1, .int x1), (2, .int x2)]) C dX3_drop_1 rfl (by decide) rfl ?_
  refine q_sub (lv' := [(0, .ref m0), (1, .int x1), (3, .int x2)]) [1, 2, 0] rfl ?_
  exact l_X3_drop_2 C FU M x1 x2 hf
set_option maxRecDepth 100000 in
set_option maxHeartbeats 4000000 in
theorem l_X3_give_39 {p : Program} {l : Launch} {e : Env} {s : State} {m : MethodId} {args : Array Value} {below : List Frame} {meth : Method} {c : Code} {D : va_G} {cI cJ cN : ClassId} {W0 : va_W} {m0 m1 m2 m3 m4 m5 m6 m7 : Nat} {z : MS} (C : CX p l s m args meth c cX3_give 3 yX3_give.cls (WS yX3_give cX3_give 3 none) none D cI cJ cN (va_A W0 s.heap.size)) : ∀ (M : MS) (x1 : Int32) (x2 : Int32), g_X3_give_39 M x1 x2 = some z → WW p l e { frames := 2, cells := 0, slots := 0, locals := 45 } s m args below meth c D 3 (va_A W0 s.heap.size) 0 0 (QV below args s D W0 { frames := 2, cells := 0, slots := 0, locals := 45 } (fun w => w = wMod cI cJ m0 m1 m2 m3 m4 m5 m6 m7 z)) 39 [(0, .ref m0), (1, .int x1), (2, .int x2)] [] (wMod cI cJ m0 m1 m2 m3 m4 m5 m6 m7 M) := by
  intro M x1 x2 hf
  rw [g_X3_give_39] at hf
  refine q_aload_n C dX3_give_39 rfl 0 rfl ?_
  refine q_get C (uW uX3_in) 0 rfl rfl 0 (by decide) (ws_in xf_X3_7) rfl rfl dX3_give_40 ?_
  refine q_sipush (v := 153) C dX3_give_43 (by decide) ?_
  refine q_iconst (v := 3) C dX3_give_46 (by decide) ?_
  refine q_iload_n C dX3_give_47 rfl 1 rfl ?_
  refine q_imul C dX3_give_48 ?_
  refine q_iadd C dX3_give_49 ?_
  refine q_aload_n C dX3_give_50 rfl 0 rfl ?_
  refine q_get C (uW uX3_in) 0 rfl rfl 0 (by decide) (ws_in xf_X3_7) rfl rfl dX3_give_51 ?_
  refine q_bipush (v := 104) C dX3_give_54 (by decide) ?_
  refine q_iload_n C dX3_give_56 rfl 1 rfl ?_
  refine q_iadd C dX3_give_57 ?_
  obtain ⟨hg, hf⟩ := gd_some hf
  refine q_iald C 1 rfl hg dX3_give_58 ?_
  refine q_iadd C dX3_give_59 ?_
  refine q_iload_n C dX3_give_60 rfl 2 rfl ?_
  obtain ⟨hg, hf⟩ := gd_some hf
  refine q_iast (ws' := wMod cI cJ m0 m1 m2 m3 m4 m5 m6 m7 ((upd M.1 (((153 : Int32) + ((3 : Int32) * x1)) + (M.1 ((104 : Int32) + x1).toNatClampNeg)).toNatClampNeg x2), M.2.1, M.2.2.1, M.2.2.2.1, M.2.2.2.2.1, M.2.2.2.2.2.1, M.2.2.2.2.2.2.1, M.2.2.2.2.2.2.2.1, M.2.2.2.2.2.2.2.2.1, M.2.2.2.2.2.2.2.2.2.1, M.2.2.2.2.2.2.2.2.2.2)) C 1 rfl hg dX3_give_61 rfl ?_
  refine q_aload_n C dX3_give_62 rfl 0 rfl ?_
  refine q_get C (uW uX3_in) 0 rfl rfl 0 (by decide) (ws_in xf_X3_7) rfl rfl dX3_give_63 ?_
  refine q_bipush (v := 104) C dX3_give_66 (by decide) ?_
  refine q_iload_n C dX3_give_68 rfl 1 rfl ?_
  refine q_iadd C dX3_give_69 ?_
  refine q_dup2 C dX3_give_70 rfl rfl ?_
  obtain ⟨hg, hf⟩ := gd_some hf
  refine q_iald C 1 rfl hg dX3_give_71 ?_
  refine q_iconst (v := 1) C dX3_give_72 (by decide) ?_
  refine q_iadd C dX3_give_73 ?_
  obtain ⟨hg, hf⟩ := gd_some hf
  refine q_iast (ws' := wMod cI cJ m0 m1 m2 m3 m4 m5 m6 m7 ((upd (upd M.1 (((153 : Int32) + ((3 : Int32) * x1)) + (M.1 ((104 : Int32) + x1).toNatClampNeg)).toNatClampNeg x2) ((104 : Int32) + x1).toNatClampNeg (((upd M.1 (((153 : Int32) + ((3 : Int32) * x1)) + (M.1 ((104 : Int32) + x1).toNatClampNeg)).toNatClampNeg x2) ((104 : Int32) + x1).toNatClampNeg) + (1 : Int32))), M.2.1, M.2.2.1, M.2.2.2.1, M.2.2.2.2.1, M.2.2.2.2.2.1, M.2.2.2.2.2.2.1, M.2.2.2.2.2.2.2.1, M.2.2.2.2.2.2.2.2.1, M.2.2.2.2.2.2.2.2.2.1, M.2.2.2.2.2.2.2.2.2.2)) C 1 rfl hg dX3_give_74 rfl ?_
  have hf := Option.some.inj hf
  subst hf
  exact q_vret C (Nat.le_of_ble_eq_true rfl) (Nat.le_of_ble_eq_true rfl) rfl dX3_give_75
set_option maxRecDepth 100000 in
set_option maxHeartbeats 4000000 in
theorem c_X3_give (l : Launch) (D : va_G) (cI cJ cN : ClassId) (m0 m1 m2 m3 m4 m5 m6 m7 : Nat)  (M : MS) (x1 : Int32) (x2 : Int32) (z : MS) (hf : f_X3_give M x1 x2 = some z) : MV l D cI cJ cN yX3_give (WS yX3_give cX3_give 3 none) { frames := 2, cells := 0, slots := 0, locals := 45 } [.ref m0, .int x1, .int x2] (wMod cI cJ m0 m1 m2 m3 m4 m5 m6 m7 M) (fun w => w = wMod cI cJ m0 m1 m2 m3 m4 m5 m6 m7 z) := by
  rw [f_X3_give] at hf
  refine q_startV (lv := [(0, .ref m0), (1, .int x1), (2, .int x2)]) (by decide +kernel) rfl (Nat.le_of_ble_eq_true rfl) ?_
  intro p e s m below meth c C hin
  refine q_iload_n C dX3_give_0 rfl 1 rfl ?_
  refine q_iload_n C dX3_give_1 rfl 2 rfl ?_
  refine q_icmp_eq C 14 dX3_give_2 (by decide) (fun h => ?_) (fun h => ?_)
  · have hf := ifT hf h
    have hf := Option.some.inj hf
    subst hf
    exact q_vret C (Nat.le_of_ble_eq_true rfl) (Nat.le_of_ble_eq_true rfl) rfl dX3_give_14
  · have hf := ifF hf h
    refine q_aload_n C dX3_give_5 rfl 0 rfl ?_
    refine q_iload_n C dX3_give_6 rfl 1 rfl ?_
    refine q_iload_n C dX3_give_7 rfl 2 rfl ?_
    obtain ⟨z1, h_z1, hf⟩ := bnd hf
    refine q_cVIw C (c_X3_hasLink l D cI cJ cN m0 m1 m2 m3 m4 m5 m6 m7 M x1 x2 z1 h_z1) (mkV (fr := 1) (lo := 22) C xc_X3_hasLink xm_X3_62 xi_X3_hasLink xe_X3_hasLink xn_X3 hd_X3_hasLink ⟨Nat.le_of_ble_eq_true rfl, Nat.le_of_ble_eq_true rfl⟩) 0 rfl rfl rfl rfl (Nat.le_of_ble_eq_true rfl) dX3_give_8 ⟨Nat.le_of_ble_eq_true rfl, Nat.le_of_ble_eq_true rfl⟩ (fun w1 hp1 => ?_)
    subst hp1
    refine q_if_eq C 15 dX3_give_11 (by decide) (fun h => ?_) (fun h => ?_)
    · have hf := ifT hf h
      refine q_aload_n C dX3_give_15 rfl 0 rfl ?_
      refine q_get C (uW uX3_in) 0 rfl rfl 0 (by decide) (ws_in xf_X3_7) rfl rfl dX3_give_16 ?_
      refine q_bipush (v := 104) C dX3_give_19 (by decide) ?_
      refine q_iload_n C dX3_give_21 rfl 1 rfl ?_
      refine q_iadd C dX3_give_22 ?_
      obtain ⟨hg, hf⟩ := gd_some hf
      refine q_iald C 1 rfl hg dX3_give_23 ?_
      refine q_aload_n C dX3_give_24 rfl 0 rfl ?_
      refine q_get C (uW uX3_in) 0 rfl rfl 0 (by decide) (ws_in xf_X3_7) rfl rfl dX3_give_25 ?_
      refine q_iconst (v := 2) C dX3_give_28 (by decide) ?_
      refine q_iald C 1 rfl (by decide) dX3_give_29 ?_
      refine q_icmp_lt C 39 dX3_give_30 (by decide) (fun h => ?_) (fun h => ?_)
      · have hf := ifT hf h
        exact l_X3_give_39 C M x1 x2 hf
      · have hf := ifF hf h
        refine q_aload_n C dX3_give_33 rfl 0 rfl ?_
        refine q_iload_n C dX3_give_34 rfl 1 rfl ?_
        refine q_iconst (v := 0) C dX3_give_35 (by decide) ?_
        obtain ⟨z2, h_z2, hf⟩ := bnd hf
        refine q_cVVw C (c_X3_drop l D cI cJ cN m0 m1 m2 m3 m4 m5 m6 m7 M x1 (0 : Int32) z2 h_z2) (mkV (fr := 1) (lo := 22) C xc_X3_drop xm_X3_66 xi_X3_drop xe_X3_drop xn_X3 hd_X3_drop ⟨Nat.le_of_ble_eq_true rfl, Nat.le_of_ble_eq_true rfl⟩) 0 rfl rfl rfl rfl (Nat.le_of_ble_eq_true rfl) dX3_give_36 ⟨Nat.le_of_ble_eq_true rfl, Nat.le_of_ble_eq_true rfl⟩ (fun w1 hp1 => ?_)
        subst hp1
        exact l_X3_give_39 C z2 x1 x2 hf
    · have hf := ifF hf h
      have hf := Option.some.inj hf
      subst hf
      exact q_vret C (Nat.le_of_ble_eq_true rfl) (Nat.le_of_ble_eq_true rfl) rfl dX3_give_14
set_option maxRecDepth 100000 in
set_option maxHeartbeats 4000000 in
theorem c_X3_draw (l : Launch) (D : va_G) (cI cJ cN : ClassId) (m0 m1 m2 m3 m4 m5 m6 m7 : Nat)  (M : MS) (x1 : Int32) (z : Int32 × MS) (hf : f_X3_draw M x1 = some z) : MI l D cI cJ cN yX3_draw (WS yX3_draw cX3_draw 4 (some .int)) { frames := 0, cells := 0, slots := 0, locals := 0 } [.ref m0, .int x1] (wMod cI cJ m0 m1 m2 m3 m4 m5 m6 m7 M) z.1 (fun w => w = wMod cI cJ m0 m1 m2 m3 m4 m5 m6 m7 z.2) := by
  rw [f_X3_draw] at hf
  refine q_startI (lv := [(0, .ref m0), (1, .int x1)]) (by decide +kernel) rfl (Nat.le_of_ble_eq_true rfl) ?_
  intro p e s m below meth c C hin
  refine q_ldc2 (v := (1103515245)) C (ws_in xk_X3_69) dX3_draw_0 ?_
  refine q_aload_n C dX3_draw_3 rfl 0 rfl ?_
  refine q_get C (uW uX3_in) 0 rfl rfl 0 (by decide) (ws_in xf_X3_7) rfl rfl dX3_draw_4 ?_
  refine q_iconst (v := 5) C dX3_draw_7 (by decide) ?_
  refine q_iald C 1 rfl (by decide) dX3_draw_8 ?_
  refine q_i2l C dX3_draw_9 ?_
  refine q_lmul C dX3_draw_10 ?_
  refine q_ldc2 (v := (12345)) C (ws_in xk_X3_71) dX3_draw_11 ?_
  refine q_ladd C dX3_draw_14 ?_
  refine q_ldc2 (v := (2147483648)) C (ws_in xk_X3_73) dX3_draw_15 ?_
  refine q_lrem C dX3_draw_18 (by decide) ?_
  obtain ⟨z1, e_z1, hf⟩ := bndv hf
  refine q_topl e_z1 ?_
  refine q_lstore_n (lv' := [(2, .long z1), (0, .ref m0), (1, .int x1)]) C dX3_draw_19 rfl (by decide) rfl ?_
  refine q_aload_n C dX3_draw_20 rfl 1 rfl ?_
  refine q_get C (uW uX3_in) 0 rfl rfl 0 (by decide) (ws_in xf_X3_7) rfl rfl dX3_draw_21 ?_
  refine q_iconst (v := 5) C dX3_draw_24 (by decide) ?_
  refine q_lload_n C dX3_draw_25 rfl 0 rfl ?_
  refine q_l2i C dX3_draw_26 ?_
  refine q_iast (ws' := wMod cI cJ m0 m1 m2 m3 m4 m5 m6 m7 ((upd M.1 (5 : Int32).toNatClampNeg (z1.toInt32)), M.2.1, M.2.2.1, M.2.2.2.1, M.2.2.2.2.1, M.2.2.2.2.2.1, M.2.2.2.2.2.2.1, M.2.2.2.2.2.2.2.1, M.2.2.2.2.2.2.2.2.1, M.2.2.2.2.2.2.2.2.2.1, M.2.2.2.2.2.2.2.2.2.2)) C 1 rfl (by decide) dX3_draw_27 rfl ?_
  refine q_aload_n C dX3_draw_28 rfl 1 rfl ?_
  refine q_get C (uW uX3_in) 0 rfl rfl 0 (by decide) (ws_in xf_X3_7) rfl rfl dX3_draw_29 ?_
  refine q_iconst (v := 5) C dX3_draw_32 (by decide) ?_
  refine q_iald C 1 rfl (by decide) dX3_draw_33 ?_
  refine q_ldc (v := (65536)) C (ws_in xk_X3_75) dX3_draw_34 ?_
  refine q_idiv C dX3_draw_36 (by decide) ?_
  refine q_iload_n C dX3_draw_37 rfl 2 rfl ?_
  obtain ⟨hg, hf⟩ := gd_some hf
  refine q_irem C dX3_draw_38 hg ?_
  have hf := Option.some.inj hf
  subst hf
  exact q_iret C (Nat.le_of_ble_eq_true rfl) (Nat.le_of_ble_eq_true rfl) rfl dX3_draw_39
set_option maxRecDepth 100000 in
set_option maxHeartbeats 4000000 in
theorem l_X3_nextTo_6 {p : Program} {l : Launch} {e : Env} {s : State} {m : MethodId} {args : Array Value} {below : List Frame} {meth : Method} {c : Code} {D : va_G} {cI cJ cN : ClassId} {W0 : va_W} {m0 m1 m2 m3 m4 m5 m6 m7 : Nat} {z : Int32} (C : CX p l s m args meth c cX3_nextTo 5 yX3_nextTo.cls (WS yX3_nextTo cX3_nextTo 5 (some .int)) (some .int) D cI cJ cN (va_A W0 s.heap.size)) : ∀ (fu : Nat) (M : MS) (x1 : Int32) (x2 : Int32) (x3 : Int32) (x4 : Int32), g_X3_nextTo_6 fu M x1 x2 x3 x4 = some z → WW p l e { frames := 3, cells := 0, slots := 0, locals := 67 } s m args below meth c D 5 (va_A W0 s.heap.size) 0 0 (QI below args s D W0 { frames := 3, cells := 0, slots := 0, locals := 67 } z (fun w => w = wMod cI cJ m0 m1 m2 m3 m4 m5 m6 m7 M)) 6 [(0, .ref m0), (1, .int x1), (2, .int x2), (3, .int x3), (4, .int x4)] [] (wMod cI cJ m0 m1 m2 m3 m4 m5 m6 m7 M) := by
  intro fu
  induction fu with
  | zero =>
    intro M x1 x2 x3 x4 hf
    rw [g_X3_nextTo_6] at hf
    cases hf
  | succ fu ih =>
    intro M x1 x2 x3 x4 hf
    rw [g_X3_nextTo_6] at hf
    refine q_iload C dX3_nextTo_6 4 rfl ?_
    refine q_aload_n C dX3_nextTo_8 rfl 0 rfl ?_
    obtain ⟨z1, h_z1, hf⟩ := bnd hf
    refine q_cVIw C (c_X3_nodes l D cI cJ cN m0 m1 m2 m3 m4 m5 m6 m7 M z1 h_z1) (mkV (fr := 0) (lo := 0) C xc_X3_nodes xm_X3_40 xi_X3_nodes xe_X3_nodes xn_X3 hd_X3_nodes ⟨Nat.le_of_ble_eq_true rfl, Nat.le_of_ble_eq_true rfl⟩) 0 rfl rfl rfl rfl (Nat.le_of_ble_eq_true rfl) dX3_nextTo_9 ⟨Nat.le_of_ble_eq_true rfl, Nat.le_of_ble_eq_true rfl⟩ (fun w1 hp1 => ?_)
    subst hp1
    refine q_icmp_ge C 65 dX3_nextTo_12 (by decide) (fun h => ?_) (fun h => ?_)
    · have hf := ifT hf h
      refine q_iload_n C dX3_nextTo_65 rfl 3 rfl ?_
      have hf := Option.some.inj hf
      subst hf
      exact q_iret C (Nat.le_of_ble_eq_true rfl) (Nat.le_of_ble_eq_true rfl) rfl dX3_nextTo_66
    · have hf := ifF hf h
      refine q_aload_n C dX3_nextTo_15 rfl 0 rfl ?_
      refine q_iload_n C dX3_nextTo_16 rfl 1 rfl ?_
      refine q_iload C dX3_nextTo_17 4 rfl ?_
      obtain ⟨z2, h_z2, hf⟩ := bnd hf
      refine q_cVIw C (c_X3_isContact l D cI cJ cN m0 m1 m2 m3 m4 m5 m6 m7 M x1 x4 z2 h_z2) (mkV (fr := 2) (lo := 45) C xc_X3_isContact xm_X3_76 xi_X3_isContact xe_X3_isContact xn_X3 hd_X3_isContact ⟨Nat.le_of_ble_eq_true rfl, Nat.le_of_ble_eq_true rfl⟩) 0 rfl rfl rfl rfl (Nat.le_of_ble_eq_true rfl) dX3_nextTo_19 ⟨Nat.le_of_ble_eq_true rfl, Nat.le_of_ble_eq_true rfl⟩ (fun w1 hp1 => ?_)
      subst hp1
      refine q_if_eq C 59 dX3_nextTo_22 (by decide) (fun h => ?_) (fun h => ?_)
      · have hf := ifT hf h
        refine q_iinc (v := (x4 + (1 : Int32))) (lv' := [(4, .int (x4 + (1 : Int32))), (0, .ref m0), (1, .int x1), (2, .int x2), (3, .int x3)]) C dX3_nextTo_59 4 rfl rfl (by decide) rfl ?_
        refine q_goto C 6 dX3_nextTo_62 (by decide) ?_
        refine q_sub (lv' := [(0, .ref m0), (1, .int x1), (2, .int x2), (3, .int x3), (4, .int (x4 + (1 : Int32)))]) [1, 2, 3, 4, 0] rfl ?_
        exact ih M x1 x2 x3 (x4 + (1 : Int32)) hf
      · have hf := ifF hf h
        refine q_aload_n C dX3_nextTo_25 rfl 0 rfl ?_
        refine q_iload C dX3_nextTo_26 4 rfl ?_
        refine q_iload_n C dX3_nextTo_28 rfl 2 rfl ?_
        obtain ⟨z3, h_z3, hf⟩ := bnd hf
        refine q_cVIw C (c_X3_far l D cI cJ cN m0 m1 m2 m3 m4 m5 m6 m7 M x4 x2 z3 h_z3) (mkV (fr := 1) (lo := 21) C xc_X3_far xm_X3_59 xi_X3_far xe_X3_far xn_X3 hd_X3_far ⟨Nat.le_of_ble_eq_true rfl, Nat.le_of_ble_eq_true rfl⟩) 0 rfl rfl rfl rfl (Nat.le_of_ble_eq_true rfl) dX3_nextTo_29 ⟨Nat.le_of_ble_eq_true rfl, Nat.le_of_ble_eq_true rfl⟩ (fun w1 hp1 => ?_)
        subst hp1
        refine q_iload_n C dX3_nextTo_32 rfl 3 rfl ?_
        refine q_bipush (v := -9) C dX3_nextTo_33 (by decide) ?_
        refine q_icmp_ne C 47 dX3_nextTo_35 (by decide) (fun h => ?_) (fun h => ?_)
        · have hf := ifF hf h
          refine q_aload_n C dX3_nextTo_47 rfl 0 rfl ?_
          refine q_iload_n C dX3_nextTo_48 rfl 3 rfl ?_
          refine q_iload_n C dX3_nextTo_49 rfl 2 rfl ?_
          obtain ⟨z4, h_z4, hf⟩ := bnd hf
          refine q_cVIw C (c_X3_far l D cI cJ cN m0 m1 m2 m3 m4 m5 m6 m7 M x3 x2 z4 h_z4) (mkV (fr := 1) (lo := 21) C xc_X3_far xm_X3_59 xi_X3_far xe_X3_far xn_X3 hd_X3_far ⟨Nat.le_of_ble_eq_true rfl, Nat.le_of_ble_eq_true rfl⟩) 0 rfl rfl rfl rfl (Nat.le_of_ble_eq_true rfl) dX3_nextTo_50 ⟨Nat.le_of_ble_eq_true rfl, Nat.le_of_ble_eq_true rfl⟩ (fun w1 hp1 => ?_)
          subst hp1
          refine q_icmp_ge C 59 dX3_nextTo_53 (by decide) (fun h => ?_) (fun h => ?_)
          · have hf := ifT hf h
            refine q_iinc (v := (x4 + (1 : Int32))) (lv' := [(4, .int (x4 + (1 : Int32))), (0, .ref m0), (1, .int x1), (2, .int x2), (3, .int x3)]) C dX3_nextTo_59 4 rfl rfl (by decide) rfl ?_
            refine q_goto C 6 dX3_nextTo_62 (by decide) ?_
            refine q_sub (lv' := [(0, .ref m0), (1, .int x1), (2, .int x2), (3, .int x3), (4, .int (x4 + (1 : Int32)))]) [1, 2, 3, 4, 0] rfl ?_
            exact ih M x1 x2 x3 (x4 + (1 : Int32)) hf
          · have hf := ifF hf h
            refine q_iload C dX3_nextTo_56 4 rfl ?_
            refine q_istore_n (lv' := [(3, .int x4), (0, .ref m0), (1, .int x1), (2, .int x2), (4, .int x4)]) C dX3_nextTo_58 rfl (by decide) rfl ?_
            refine q_iinc (v := (x4 + (1 : Int32))) (lv' := [(4, .int (x4 + (1 : Int32))), (3, .int x4), (0, .ref m0), (1, .int x1), (2, .int x2)]) C dX3_nextTo_59 4 rfl rfl (by decide) rfl ?_
            refine q_goto C 6 dX3_nextTo_62 (by decide) ?_
            refine q_sub (lv' := [(0, .ref m0), (1, .int x1), (2, .int x2), (3, .int x4), (4, .int (x4 + (1 : Int32)))]) [2, 3, 4, 1, 0] rfl ?_
            exact ih M x1 x2 x4 (x4 + (1 : Int32)) hf
        · have hf := ifT hf h
          refine q_aload_n C dX3_nextTo_38 rfl 0 rfl ?_
          refine q_iload_n C dX3_nextTo_39 rfl 1 rfl ?_
          refine q_iload_n C dX3_nextTo_40 rfl 2 rfl ?_
          obtain ⟨z5, h_z5, hf⟩ := bnd hf
          refine q_cVIw C (c_X3_far l D cI cJ cN m0 m1 m2 m3 m4 m5 m6 m7 M x1 x2 z5 h_z5) (mkV (fr := 1) (lo := 21) C xc_X3_far xm_X3_59 xi_X3_far xe_X3_far xn_X3 hd_X3_far ⟨Nat.le_of_ble_eq_true rfl, Nat.le_of_ble_eq_true rfl⟩) 0 rfl rfl rfl rfl (Nat.le_of_ble_eq_true rfl) dX3_nextTo_41 ⟨Nat.le_of_ble_eq_true rfl, Nat.le_of_ble_eq_true rfl⟩ (fun w1 hp1 => ?_)
          subst hp1
          refine q_goto C 53 dX3_nextTo_44 (by decide) ?_
          refine q_icmp_ge C 59 dX3_nextTo_53 (by decide) (fun h => ?_) (fun h => ?_)
          · have hf := ifT hf h
            refine q_iinc (v := (x4 + (1 : Int32))) (lv' := [(4, .int (x4 + (1 : Int32))), (0, .ref m0), (1, .int x1), (2, .int x2), (3, .int x3)]) C dX3_nextTo_59 4 rfl rfl (by decide) rfl ?_
            refine q_goto C 6 dX3_nextTo_62 (by decide) ?_
            refine q_sub (lv' := [(0, .ref m0), (1, .int x1), (2, .int x2), (3, .int x3), (4, .int (x4 + (1 : Int32)))]) [1, 2, 3, 4, 0] rfl ?_
            exact ih M x1 x2 x3 (x4 + (1 : Int32)) hf
          · have hf := ifF hf h
            refine q_iload C dX3_nextTo_56 4 rfl ?_
            refine q_istore_n (lv' := [(3, .int x4), (0, .ref m0), (1, .int x1), (2, .int x2), (4, .int x4)]) C dX3_nextTo_58 rfl (by decide) rfl ?_
            refine q_iinc (v := (x4 + (1 : Int32))) (lv' := [(4, .int (x4 + (1 : Int32))), (3, .int x4), (0, .ref m0), (1, .int x1), (2, .int x2)]) C dX3_nextTo_59 4 rfl rfl (by decide) rfl ?_
            refine q_goto C 6 dX3_nextTo_62 (by decide) ?_
            refine q_sub (lv' := [(0, .ref m0), (1, .int x1), (2, .int x2), (3, .int x4), (4, .int (x4 + (1 : Int32)))]) [2, 3, 4, 1, 0] rfl ?_
            exact ih M x1 x2 x4 (x4 + (1 : Int32)) hf
set_option maxRecDepth 100000 in
set_option maxHeartbeats 4000000 in
theorem c_X3_nextTo (l : Launch) (D : va_G) (cI cJ cN : ClassId) (m0 m1 m2 m3 m4 m5 m6 m7 : Nat)  (M : MS) (x1 : Int32) (x2 : Int32) (z : Int32) (hf : f_X3_nextTo M x1 x2 = some z) : MI l D cI cJ cN yX3_nextTo (WS yX3_nextTo cX3_nextTo 5 (some .int)) { frames := 3, cells := 0, slots := 0, locals := 67 } [.ref m0, .int x1, .int x2] (wMod cI cJ m0 m1 m2 m3 m4 m5 m6 m7 M) z (fun w => w = wMod cI cJ m0 m1 m2 m3 m4 m5 m6 m7 M) := by
  rw [f_X3_nextTo] at hf
  refine q_startI (lv := [(0, .ref m0), (1, .int x1), (2, .int x2)]) (by decide +kernel) rfl (Nat.le_of_ble_eq_true rfl) ?_
  intro p e s m below meth c C hin
  refine q_bipush (v := -9) C dX3_nextTo_0 (by decide) ?_
  refine q_istore_n (lv' := [(3, .int (-9 : Int32)), (0, .ref m0), (1, .int x1), (2, .int x2)]) C dX3_nextTo_2 rfl (by decide) rfl ?_
  refine q_iconst (v := 0) C dX3_nextTo_3 (by decide) ?_
  refine q_istore (lv' := [(4, .int (0 : Int32)), (3, .int (-9 : Int32)), (0, .ref m0), (1, .int x1), (2, .int x2)]) C dX3_nextTo_4 (by decide) rfl ?_
  refine q_sub (lv' := [(0, .ref m0), (1, .int x1), (2, .int x2), (3, .int (-9 : Int32)), (4, .int (0 : Int32))]) [2, 3, 4, 1, 0] rfl ?_
  exact l_X3_nextTo_6 C FU M x1 x2 (-9 : Int32) (0 : Int32) hf
set_option maxRecDepth 100000 in
set_option maxHeartbeats 4000000 in
theorem l_X3_layRoute_14 {p : Program} {l : Launch} {e : Env} {s : State} {m : MethodId} {args : Array Value} {below : List Frame} {meth : Method} {c : Code} {D : va_G} {cI cJ cN : ClassId} {W0 : va_W} {m0 m1 m2 m3 m4 m5 m6 m7 : Nat} {z : MS} (C : CX p l s m args meth c cX3_layRoute 4 yX3_layRoute.cls (WS yX3_layRoute cX3_layRoute 4 none) none D cI cJ cN (va_A W0 s.heap.size)) : ∀ (fu : Nat) (M : MS) (x2 : Int32) (x3 : Int32), g_X3_layRoute_14 fu M x2 x3 = some z → WW p l e { frames := 4, cells := 0, slots := 0, locals := 91 } s m args below meth c D 4 (va_A W0 s.heap.size) 0 0 (QV below args s D W0 { frames := 4, cells := 0, slots := 0, locals := 91 } (fun w => w = wMod cI cJ m0 m1 m2 m3 m4 m5 m6 m7 z)) 14 [(0, .ref m0), (2, .int x2), (3, .int x3)] [] (wMod cI cJ m0 m1 m2 m3 m4 m5 m6 m7 M) := by
  intro fu
  induction fu with
  | zero =>
    intro M x2 x3 hf
    rw [g_X3_layRoute_14] at hf
    cases hf
  | succ fu ih =>
    intro M x2 x3 hf
    rw [g_X3_layRoute_14] at hf
    refine q_iload_n C dX3_layRoute_14 rfl 2 rfl ?_
    refine q_bipush (v := -9) C dX3_layRoute_15 (by decide) ?_
    refine q_icmp_eq C 69 dX3_layRoute_17 (by decide) (fun h => ?_) (fun h => ?_)
    · have hf := ifT hf h
      refine q_aload_n C dX3_layRoute_69 rfl 0 rfl ?_
      refine q_iload_n C dX3_layRoute_70 rfl 2 rfl ?_
      refine q_iload_n C dX3_layRoute_71 rfl 1 rfl ?_
      refine q_icmp_ne C 79 dX3_layRoute_72 (by decide) (fun h => ?_) (fun h => ?_)
      · have hf := ifF hf h
        refine q_iconst (v := 0) C dX3_layRoute_79 (by decide) ?_
        refine q_put (ws' := wMod cI cJ m0 m1 m2 m3 m4 m5 m6 m7 (M.1, M.2.1, M.2.2.1, M.2.2.2.1, M.2.2.2.2.1, M.2.2.2.2.2.1, M.2.2.2.2.2.2.1, (0 : Int32), M.2.2.2.2.2.2.2.2.1, M.2.2.2.2.2.2.2.2.2.1, M.2.2.2.2.2.2.2.2.2.2)) (ty := .boolean) C (uW uX3_in) tyX3 tyX3_ok nmX3 0 rfl rfl 7 (by decide) (ws_in xf_X3_85) rfl rfl (by decide +kernel) rfl rfl (Nat.le_of_ble_eq_true rfl) dX3_layRoute_80 rfl ?_
        have hf := Option.some.inj hf
        subst hf
        exact q_vret C (Nat.le_of_ble_eq_true rfl) (Nat.le_of_ble_eq_true rfl) rfl dX3_layRoute_83
      · have hf := ifT hf h
        refine q_iconst (v := 1) C dX3_layRoute_75 (by decide) ?_
        refine q_goto C 80 dX3_layRoute_76 (by decide) ?_
        refine q_put (ws' := wMod cI cJ m0 m1 m2 m3 m4 m5 m6 m7 (M.1, M.2.1, M.2.2.1, M.2.2.2.1, M.2.2.2.2.1, M.2.2.2.2.2.1, M.2.2.2.2.2.2.1, (1 : Int32), M.2.2.2.2.2.2.2.2.1, M.2.2.2.2.2.2.2.2.2.1, M.2.2.2.2.2.2.2.2.2.2)) (ty := .boolean) C (uW uX3_in) tyX3 tyX3_ok nmX3 0 rfl rfl 7 (by decide) (ws_in xf_X3_85) rfl rfl (by decide +kernel) rfl rfl (Nat.le_of_ble_eq_true rfl) dX3_layRoute_80 rfl ?_
        have hf := Option.some.inj hf
        subst hf
        exact q_vret C (Nat.le_of_ble_eq_true rfl) (Nat.le_of_ble_eq_true rfl) rfl dX3_layRoute_83
    · have hf := ifF hf h
      refine q_iload_n C dX3_layRoute_20 rfl 2 rfl ?_
      refine q_iload_n C dX3_layRoute_21 rfl 1 rfl ?_
      refine q_icmp_eq C 69 dX3_layRoute_22 (by decide) (fun h => ?_) (fun h => ?_)
      · have hf := ifT hf h
        refine q_aload_n C dX3_layRoute_69 rfl 0 rfl ?_
        refine q_iload_n C dX3_layRoute_70 rfl 2 rfl ?_
        refine q_iload_n C dX3_layRoute_71 rfl 1 rfl ?_
        refine q_icmp_ne C 79 dX3_layRoute_72 (by decide) (fun h => ?_) (fun h => ?_)
        · have hf := ifF hf h
          refine q_iconst (v := 0) C dX3_layRoute_79 (by decide) ?_
          refine q_put (ws' := wMod cI cJ m0 m1 m2 m3 m4 m5 m6 m7 (M.1, M.2.1, M.2.2.1, M.2.2.2.1, M.2.2.2.2.1, M.2.2.2.2.2.1, M.2.2.2.2.2.2.1, (0 : Int32), M.2.2.2.2.2.2.2.2.1, M.2.2.2.2.2.2.2.2.2.1, M.2.2.2.2.2.2.2.2.2.2)) (ty := .boolean) C (uW uX3_in) tyX3 tyX3_ok nmX3 0 rfl rfl 7 (by decide) (ws_in xf_X3_85) rfl rfl (by decide +kernel) rfl rfl (Nat.le_of_ble_eq_true rfl) dX3_layRoute_80 rfl ?_
          have hf := Option.some.inj hf
          subst hf
          exact q_vret C (Nat.le_of_ble_eq_true rfl) (Nat.le_of_ble_eq_true rfl) rfl dX3_layRoute_83
        · have hf := ifT hf h
          refine q_iconst (v := 1) C dX3_layRoute_75 (by decide) ?_
          refine q_goto C 80 dX3_layRoute_76 (by decide) ?_
          refine q_put (ws' := wMod cI cJ m0 m1 m2 m3 m4 m5 m6 m7 (M.1, M.2.1, M.2.2.1, M.2.2.2.1, M.2.2.2.2.1, M.2.2.2.2.2.1, M.2.2.2.2.2.2.1, (1 : Int32), M.2.2.2.2.2.2.2.2.1, M.2.2.2.2.2.2.2.2.2.1, M.2.2.2.2.2.2.2.2.2.2)) (ty := .boolean) C (uW uX3_in) tyX3 tyX3_ok nmX3 0 rfl rfl 7 (by decide) (ws_in xf_X3_85) rfl rfl (by decide +kernel) rfl rfl (Nat.le_of_ble_eq_true rfl) dX3_layRoute_80 rfl ?_
          have hf := Option.some.inj hf
          subst hf
          exact q_vret C (Nat.le_of_ble_eq_true rfl) (Nat.le_of_ble_eq_true rfl) rfl dX3_layRoute_83
      · have hf := ifF hf h
        refine q_aload_n C dX3_layRoute_25 rfl 0 rfl ?_
        refine q_aload_n C dX3_layRoute_26 rfl 0 rfl ?_
        refine q_get C (uW uX3_in) 0 rfl rfl 5 (by decide) (ws_in xf_X3_19) rfl rfl dX3_layRoute_27 ?_
        refine q_aload_n C dX3_layRoute_30 rfl 0 rfl ?_
        refine q_get C (uW uX3_in) 0 rfl rfl 6 (by decide) (ws_in xf_X3_79) rfl rfl dX3_layRoute_31 ?_
        obtain ⟨hg, hf⟩ := gd_some hf
        refine q_iald C 4 rfl hg dX3_layRoute_34 ?_
        refine q_iload_n C dX3_layRoute_35 rfl 1 rfl ?_
        obtain ⟨z1, h_z1, hf⟩ := bnd hf
        refine q_cVIw C (c_X3_nextTo l D cI cJ cN m0 m1 m2 m3 m4 m5 m6 m7 M (M.2.2.2.2.2.1 M.2.2.2.2.2.2.1.toNatClampNeg) x2 z1 h_z1) (mkV (fr := 3) (lo := 67) C xc_X3_nextTo xm_X3_82 xi_X3_nextTo xe_X3_nextTo xn_X3 hd_X3_nextTo ⟨Nat.le_of_ble_eq_true rfl, Nat.le_of_ble_eq_true rfl⟩) 0 rfl rfl rfl rfl (Nat.le_of_ble_eq_true rfl) dX3_layRoute_36 ⟨Nat.le_of_ble_eq_true rfl, Nat.le_of_ble_eq_true rfl⟩ (fun w1 hp1 => ?_)
        subst hp1
        refine q_istore_n (lv' := [(3, .int z1), (0, .ref m0), (2, .int x2)]) C dX3_layRoute_39 rfl (by decide) rfl ?_
        refine q_iload_n C dX3_layRoute_40 rfl 0 rfl ?_
        refine q_bipush (v := -9) C dX3_layRoute_41 (by decide) ?_
        refine q_icmp_eq C 14 dX3_layRoute_43 (by decide) (fun h => ?_) (fun h => ?_)
        · have hf := ifT hf h
          refine q_sub (lv' := [(0, .ref m0), (2, .int x2), (3, .int z1)]) [1, 2, 0] rfl ?_
          exact ih M x2 z1 hf
        · have hf := ifF hf h
          refine q_aload_n C dX3_layRoute_46 rfl 1 rfl ?_
          refine q_dup C dX3_layRoute_47 rfl ?_
          refine q_get C (uW uX3_in) 0 rfl rfl 6 (by decide) (ws_in xf_X3_79) rfl rfl dX3_layRoute_48 ?_
          refine q_iconst (v := 1) C dX3_layRoute_51 (by decide) ?_
          refine q_iadd C dX3_layRoute_52 ?_
          refine q_put (ws' := wMod cI cJ m0 m1 m2 m3 m4 m5 m6 m7 (M.1, M.2.1, M.2.2.1, M.2.2.2.1, M.2.2.2.2.1, M.2.2.2.2.2.1, (M.2.2.2.2.2.2.1 + (1 : Int32)), M.2.2.2.2.2.2.2.1, M.2.2.2.2.2.2.2.2.1, M.2.2.2.2.2.2.2.2.2.1, M.2.2.2.2.2.2.2.2.2.2)) (ty := .int) C (uW uX3_in) tyX3 tyX3_ok nmX3 0 rfl rfl 6 (by decide) (ws_in xf_X3_79) rfl rfl (by decide +kernel) rfl rfl (Nat.le_of_ble_eq_true rfl) dX3_layRoute_53 rfl ?_
          refine q_aload_n C dX3_layRoute_56 rfl 1 rfl ?_
          refine q_get C (uW uX3_in) 0 rfl rfl 5 (by decide) (ws_in xf_X3_19) rfl rfl dX3_layRoute_57 ?_
          refine q_aload_n C dX3_layRoute_60 rfl 1 rfl ?_
          refine q_get C (uW uX3_in) 0 rfl rfl 6 (by decide) (ws_in xf_X3_79) rfl rfl dX3_layRoute_61 ?_
          refine q_iload_n C dX3_layRoute_64 rfl 0 rfl ?_
          obtain ⟨hg, hf⟩ := gd_some hf
          refine q_iast (ws' := wMod cI cJ m0 m1 m2 m3 m4 m5 m6 m7 (M.1, M.2.1, M.2.2.1, M.2.2.2.1, M.2.2.2.2.1, (upd M.2.2.2.2.2.1 (M.2.2.2.2.2.2.1 + (1 : Int32)).toNatClampNeg z1), (M.2.2.2.2.2.2.1 + (1 : Int32)), M.2.2.2.2.2.2.2.1, M.2.2.2.2.2.2.2.2.1, M.2.2.2.2.2.2.2.2.2.1, M.2.2.2.2.2.2.2.2.2.2)) C 4 rfl hg dX3_layRoute_65 rfl ?_
          refine q_goto C 14 dX3_layRoute_66 (by decide) ?_
          refine q_sub (lv' := [(0, .ref m0), (2, .int x2), (3, .int z1)]) [1, 2, 0] rfl ?_
          exact ih (M.1, M.2.1, M.2.2.1, M.2.2.2.1, M.2.2.2.2.1, (upd M.2.2.2.2.2.1 (M.2.2.2.2.2.2.1 + (1 : Int32)).toNatClampNeg z1), (M.2.2.2.2.2.2.1 + (1 : Int32)), M.2.2.2.2.2.2.2.1, M.2.2.2.2.2.2.2.2.1, M.2.2.2.2.2.2.2.2.2.1, M.2.2.2.2.2.2.2.2.2.2) x2 z1 hf
set_option maxRecDepth 100000 in
set_option maxHeartbeats 4000000 in
theorem c_X3_layRoute (l : Launch) (D : va_G) (cI cJ cN : ClassId) (m0 m1 m2 m3 m4 m5 m6 m7 : Nat)  (M : MS) (x1 : Int32) (x2 : Int32) (z : MS) (hf : f_X3_layRoute M x1 x2 = some z) : MV l D cI cJ cN yX3_layRoute (WS yX3_layRoute cX3_layRoute 4 none) { frames := 4, cells := 0, slots := 0, locals := 91 } [.ref m0, .int x1, .int x2] (wMod cI cJ m0 m1 m2 m3 m4 m5 m6 m7 M) (fun w => w = wMod cI cJ m0 m1 m2 m3 m4 m5 m6 m7 z) := by
  rw [f_X3_layRoute] at hf
  refine q_startV (lv := [(0, .ref m0), (1, .int x1), (2, .int x2)]) (by decide +kernel) rfl (Nat.le_of_ble_eq_true rfl) ?_
  intro p e s m below meth c C hin
  refine q_aload_n C dX3_layRoute_0 rfl 0 rfl ?_
  refine q_get C (uW uX3_in) 0 rfl rfl 5 (by decide) (ws_in xf_X3_19) rfl rfl dX3_layRoute_1 ?_
  refine q_iconst (v := 0) C dX3_layRoute_4 (by decide) ?_
  refine q_iload_n C dX3_layRoute_5 rfl 1 rfl ?_
  refine q_iast (ws' := wMod cI cJ m0 m1 m2 m3 m4 m5 m6 m7 (M.1, M.2.1, M.2.2.1, M.2.2.2.1, M.2.2.2.2.1, (upd M.2.2.2.2.2.1 (0 : Int32).toNatClampNeg x1), M.2.2.2.2.2.2.1, M.2.2.2.2.2.2.2.1, M.2.2.2.2.2.2.2.2.1, M.2.2.2.2.2.2.2.2.2.1, M.2.2.2.2.2.2.2.2.2.2)) C 4 rfl (by decide) dX3_layRoute_6 rfl ?_
  refine q_aload_n C dX3_layRoute_7 rfl 0 rfl ?_
  refine q_iconst (v := 0) C dX3_layRoute_8 (by decide) ?_
  refine q_put (ws' := wMod cI cJ m0 m1 m2 m3 m4 m5 m6 m7 (M.1, M.2.1, M.2.2.1, M.2.2.2.1, M.2.2.2.2.1, (upd M.2.2.2.2.2.1 (0 : Int32).toNatClampNeg x1), (0 : Int32), M.2.2.2.2.2.2.2.1, M.2.2.2.2.2.2.2.2.1, M.2.2.2.2.2.2.2.2.2.1, M.2.2.2.2.2.2.2.2.2.2)) (ty := .int) C (uW uX3_in) tyX3 tyX3_ok nmX3 0 rfl rfl 6 (by decide) (ws_in xf_X3_79) rfl rfl (by decide +kernel) rfl rfl (Nat.le_of_ble_eq_true rfl) dX3_layRoute_9 rfl ?_
  refine q_iload_n C dX3_layRoute_12 rfl 1 rfl ?_
  refine q_istore_n (lv' := [(3, .int x1), (0, .ref m0), (1, .int x1), (2, .int x2)]) C dX3_layRoute_13 rfl (by decide) rfl ?_
  refine q_sub (lv' := [(0, .ref m0), (2, .int x2), (3, .int x1)]) [1, 3, 0] rfl ?_
  exact l_X3_layRoute_14 C FU (M.1, M.2.1, M.2.2.1, M.2.2.2.1, M.2.2.2.2.1, (upd M.2.2.2.2.2.1 (0 : Int32).toNatClampNeg x1), (0 : Int32), M.2.2.2.2.2.2.2.1, M.2.2.2.2.2.2.2.2.1, M.2.2.2.2.2.2.2.2.2.1, M.2.2.2.2.2.2.2.2.2.2) x2 x1 hf
set_option maxRecDepth 100000 in
set_option maxHeartbeats 4000000 in
theorem l_X3_rewire_71 {p : Program} {l : Launch} {e : Env} {s : State} {m : MethodId} {args : Array Value} {below : List Frame} {meth : Method} {c : Code} {D : va_G} {cI cJ cN : ClassId} {W0 : va_W} {m0 m1 m2 m3 m4 m5 m6 m7 : Nat} {z : MS} (C : CX p l s m args meth c cX3_rewire 3 yX3_rewire.cls (WS yX3_rewire cX3_rewire 3 none) none D cI cJ cN (va_A W0 s.heap.size)) : ∀ (M : MS) (x1 : Int32), g_X3_rewire_71 M x1 = some z → WW p l e { frames := 3, cells := 0, slots := 0, locals := 67 } s m args below meth c D 3 (va_A W0 s.heap.size) 0 0 (QV below args s D W0 { frames := 3, cells := 0, slots := 0, locals := 67 } (fun w => w = wMod cI cJ m0 m1 m2 m3 m4 m5 m6 m7 z)) 71 [(0, .ref m0), (1, .int x1)] [] (wMod cI cJ m0 m1 m2 m3 m4 m5 m6 m7 M) := by
  intro M x1 hf
  rw [g_X3_rewire_71] at hf
  refine q_aload_n C dX3_rewire_71 rfl 0 rfl ?_
  refine q_get C (uW uX3_in) 0 rfl rfl 0 (by decide) (ws_in xf_X3_7) rfl rfl dX3_rewire_72 ?_
  refine q_iconst (v := 3) C dX3_rewire_75 (by decide) ?_
  refine q_iald C 1 rfl (by decide) dX3_rewire_76 ?_
  refine q_iconst (v := 3) C dX3_rewire_77 (by decide) ?_
  refine q_icmp_ne C 105 dX3_rewire_78 (by decide) (fun h => ?_) (fun h => ?_)
  · have hf := ifF hf h
    have hf := Option.some.inj hf
    subst hf
    exact q_vret C (Nat.le_of_ble_eq_true rfl) (Nat.le_of_ble_eq_true rfl) rfl dX3_rewire_105
  · have hf := ifT hf h
    refine q_aload_n C dX3_rewire_81 rfl 0 rfl ?_
    refine q_get C (uW uX3_in) 0 rfl rfl 6 (by decide) (ws_in xf_X3_79) rfl rfl dX3_rewire_82 ?_
    refine q_iconst (v := 1) C dX3_rewire_85 (by decide) ?_
    refine q_icmp_le C 105 dX3_rewire_86 (by decide) (fun h => ?_) (fun h => ?_)
    · have hf := ifT hf h
      have hf := Option.some.inj hf
      subst hf
      exact q_vret C (Nat.le_of_ble_eq_true rfl) (Nat.le_of_ble_eq_true rfl) rfl dX3_rewire_105
    · have hf := ifF hf h
      refine q_aload_n C dX3_rewire_89 rfl 0 rfl ?_
      refine q_aload_n C dX3_rewire_90 rfl 0 rfl ?_
      refine q_get C (uW uX3_in) 0 rfl rfl 5 (by decide) (ws_in xf_X3_19) rfl rfl dX3_rewire_91 ?_
      refine q_aload_n C dX3_rewire_94 rfl 0 rfl ?_
      refine q_get C (uW uX3_in) 0 rfl rfl 6 (by decide) (ws_in xf_X3_79) rfl rfl dX3_rewire_95 ?_
      refine q_iconst (v := 2) C dX3_rewire_98 (by decide) ?_
      refine q_idiv C dX3_rewire_99 (by decide) ?_
      obtain ⟨hg, hf⟩ := gd_some hf
      refine q_iald C 4 rfl hg dX3_rewire_100 ?_
      refine q_iload_n C dX3_rewire_101 rfl 1 rfl ?_
      obtain ⟨z1, h_z1, hf⟩ := bnd hf
      refine q_cVVw C (c_X3_give l D cI cJ cN m0 m1 m2 m3 m4 m5 m6 m7 M (M.2.2.2.2.2.1 (M.2.2.2.2.2.2.1 / (2 : Int32)).toNatClampNeg) x1 z1 h_z1) (mkV (fr := 2) (lo := 45) C xc_X3_give xm_X3_89 xi_X3_give xe_X3_give xn_X3 hd_X3_give ⟨Nat.le_of_ble_eq_true rfl, Nat.le_of_ble_eq_true rfl⟩) 0 rfl rfl rfl rfl (Nat.le_of_ble_eq_true rfl) dX3_rewire_102 ⟨Nat.le_of_ble_eq_true rfl, Nat.le_of_ble_eq_true rfl⟩ (fun w1 hp1 => ?_)
      subst hp1
      have hf := Option.some.inj hf
      subst hf
      exact q_vret C (Nat.le_of_ble_eq_true rfl) (Nat.le_of_ble_eq_true rfl) rfl dX3_rewire_105
set_option maxRecDepth 100000 in
set_option maxHeartbeats 4000000 in
theorem l_X3_rewire_33 {p : Program} {l : Launch} {e : Env} {s : State} {m : MethodId} {args : Array Value} {below : List Frame} {meth : Method} {c : Code} {D : va_G} {cI cJ cN : ClassId} {W0 : va_W} {m0 m1 m2 m3 m4 m5 m6 m7 : Nat} {z : MS} (C : CX p l s m args meth c cX3_rewire 3 yX3_rewire.cls (WS yX3_rewire cX3_rewire 3 none) none D cI cJ cN (va_A W0 s.heap.size)) : ∀ (fu : Nat) (M : MS) (x1 : Int32) (x2 : Int32), g_X3_rewire_33 fu M x1 x2 = some z → WW p l e { frames := 3, cells := 0, slots := 0, locals := 67 } s m args below meth c D 3 (va_A W0 s.heap.size) 0 0 (QV below args s D W0 { frames := 3, cells := 0, slots := 0, locals := 67 } (fun w => w = wMod cI cJ m0 m1 m2 m3 m4 m5 m6 m7 z)) 33 [(0, .ref m0), (1, .int x1), (2, .int x2)] [] (wMod cI cJ m0 m1 m2 m3 m4 m5 m6 m7 M) := by
  intro fu
  induction fu with
  | zero =>
    intro M x1 x2 hf
    rw [g_X3_rewire_33] at hf
    cases hf
  | succ fu ih =>
    intro M x1 x2 hf
    rw [g_X3_rewire_33] at hf
    refine q_iload_n C dX3_rewire_33 rfl 2 rfl ?_
    refine q_aload_n C dX3_rewire_34 rfl 0 rfl ?_
    refine q_get C (uW uX3_in) 0 rfl rfl 6 (by decide) (ws_in xf_X3_79) rfl rfl dX3_rewire_35 ?_
    refine q_icmp_ge C 71 dX3_rewire_38 (by decide) (fun h => ?_) (fun h => ?_)
    · have hf := ifT hf h
      refine q_sub (lv' := [(0, .ref m0), (1, .int x1)]) [0, 1] rfl ?_
      exact l_X3_rewire_71 C M x1 hf
    · have hf := ifF hf h
      refine q_aload_n C dX3_rewire_41 rfl 0 rfl ?_
      refine q_aload_n C dX3_rewire_42 rfl 0 rfl ?_
      refine q_get C (uW uX3_in) 0 rfl rfl 0 (by decide) (ws_in xf_X3_7) rfl rfl dX3_rewire_43 ?_
      refine q_iconst (v := 4) C dX3_rewire_46 (by decide) ?_
      refine q_iald C 1 rfl (by decide) dX3_rewire_47 ?_
      obtain ⟨z1, h_z1, hf⟩ := bnd hf
      refine q_cVIw C (c_X3_draw l D cI cJ cN m0 m1 m2 m3 m4 m5 m6 m7 M (M.1 (4 : Int32).toNatClampNeg) z1 h_z1) (mkV (fr := 0) (lo := 0) C xc_X3_draw xm_X3_92 xi_X3_draw xe_X3_draw xn_X3 hd_X3_draw ⟨Nat.le_of_ble_eq_true rfl, Nat.le_of_ble_eq_true rfl⟩) 0 rfl rfl rfl rfl (Nat.le_of_ble_eq_true rfl) dX3_rewire_48 ⟨Nat.le_of_ble_eq_true rfl, Nat.le_of_ble_eq_true rfl⟩ (fun w1 hp1 => ?_)
      subst hp1
      refine q_if_ne C 65 dX3_rewire_51 (by decide) (fun h => ?_) (fun h => ?_)
      · have hf := ifF hf h
        refine q_iinc (v := (x2 + (1 : Int32))) (lv' := [(2, .int (x2 + (1 : Int32))), (0, .ref m0), (1, .int x1)]) C dX3_rewire_65 2 rfl rfl (by decide) rfl ?_
        refine q_goto C 33 dX3_rewire_68 (by decide) ?_
        refine q_sub (lv' := [(0, .ref m0), (1, .int x1), (2, .int (x2 + (1 : Int32)))]) [1, 2, 0] rfl ?_
        exact ih z1.2 x1 (x2 + (1 : Int32)) hf
      · have hf := ifT hf h
        refine q_aload_n C dX3_rewire_54 rfl 0 rfl ?_
        refine q_aload_n C dX3_rewire_55 rfl 0 rfl ?_
        refine q_get C (uW uX3_in) 0 rfl rfl 5 (by decide) (ws_in xf_X3_19) rfl rfl dX3_rewire_56 ?_
        refine q_iload_n C dX3_rewire_59 rfl 2 rfl ?_
        obtain ⟨hg, hf⟩ := gd_some hf
        refine q_iald C 4 rfl hg dX3_rewire_60 ?_
        refine q_iload_n C dX3_rewire_61 rfl 1 rfl ?_
        obtain ⟨z2, h_z2, hf⟩ := bnd hf
        refine q_cVVw C (c_X3_give l D cI cJ cN m0 m1 m2 m3 m4 m5 m6 m7 z1.2 (z1.2.2.2.2.2.2.1 x2.toNatClampNeg) x1 z2 h_z2) (mkV (fr := 2) (lo := 45) C xc_X3_give xm_X3_89 xi_X3_give xe_X3_give xn_X3 hd_X3_give ⟨Nat.le_of_ble_eq_true rfl, Nat.le_of_ble_eq_true rfl⟩) 0 rfl rfl rfl rfl (Nat.le_of_ble_eq_true rfl) dX3_rewire_62 ⟨Nat.le_of_ble_eq_true rfl, Nat.le_of_ble_eq_true rfl⟩ (fun w1 hp1 => ?_)
        subst hp1
        refine q_iinc (v := (x2 + (1 : Int32))) (lv' := [(2, .int (x2 + (1 : Int32))), (0, .ref m0), (1, .int x1)]) C dX3_rewire_65 2 rfl rfl (by decide) rfl ?_
        refine q_goto C 33 dX3_rewire_68 (by decide) ?_
        refine q_sub (lv' := [(0, .ref m0), (1, .int x1), (2, .int (x2 + (1 : Int32)))]) [1, 2, 0] rfl ?_
        exact ih z2 x1 (x2 + (1 : Int32)) hf
set_option maxRecDepth 100000 in
set_option maxHeartbeats 4000000 in
theorem c_X3_rewire (l : Launch) (D : va_G) (cI cJ cN : ClassId) (m0 m1 m2 m3 m4 m5 m6 m7 : Nat)  (M : MS) (x1 : Int32) (z : MS) (hf : f_X3_rewire M x1 = some z) : MV l D cI cJ cN yX3_rewire (WS yX3_rewire cX3_rewire 3 none) { frames := 3, cells := 0, slots := 0, locals := 67 } [.ref m0, .int x1] (wMod cI cJ m0 m1 m2 m3 m4 m5 m6 m7 M) (fun w => w = wMod cI cJ m0 m1 m2 m3 m4 m5 m6 m7 z) := by
  rw [f_X3_rewire] at hf
  refine q_startV (lv := [(0, .ref m0), (1, .int x1)]) (by decide +kernel) rfl (Nat.le_of_ble_eq_true rfl) ?_
  intro p e s m below meth c C hin
  refine q_aload_n C dX3_rewire_0 rfl 0 rfl ?_
  refine q_get C (uW uX3_in) 0 rfl rfl 0 (by decide) (ws_in xf_X3_7) rfl rfl dX3_rewire_1 ?_
  refine q_iconst (v := 3) C dX3_rewire_4 (by decide) ?_
  refine q_iald C 1 rfl (by decide) dX3_rewire_5 ?_
  refine q_iconst (v := 1) C dX3_rewire_6 (by decide) ?_
  refine q_icmp_ne C 21 dX3_rewire_7 (by decide) (fun h => ?_) (fun h => ?_)
  · have hf := ifF hf h
    refine q_aload_n C dX3_rewire_21 rfl 0 rfl ?_
    refine q_get C (uW uX3_in) 0 rfl rfl 0 (by decide) (ws_in xf_X3_7) rfl rfl dX3_rewire_22 ?_
    refine q_iconst (v := 3) C dX3_rewire_25 (by decide) ?_
    refine q_iald C 1 rfl (by decide) dX3_rewire_26 ?_
    refine q_iconst (v := 2) C dX3_rewire_27 (by decide) ?_
    refine q_icmp_ne C 71 dX3_rewire_28 (by decide) (fun h => ?_) (fun h => ?_)
    · have hf := ifF hf h
      exact l_X3_rewire_71 C M x1 hf
    · have hf := ifT hf h
      refine q_iconst (v := 0) C dX3_rewire_31 (by decide) ?_
      refine q_istore_n (lv' := [(2, .int (0 : Int32)), (0, .ref m0), (1, .int x1)]) C dX3_rewire_32 rfl (by decide) rfl ?_
      refine q_sub (lv' := [(0, .ref m0), (1, .int x1), (2, .int (0 : Int32))]) [1, 2, 0] rfl ?_
      exact l_X3_rewire_33 C FU M x1 (0 : Int32) hf
  · have hf := ifT hf h
    refine q_aload_n C dX3_rewire_10 rfl 0 rfl ?_
    refine q_aload_n C dX3_rewire_11 rfl 0 rfl ?_
    refine q_get C (uW uX3_in) 0 rfl rfl 5 (by decide) (ws_in xf_X3_19) rfl rfl dX3_rewire_12 ?_
    refine q_iconst (v := 0) C dX3_rewire_15 (by decide) ?_
    refine q_iald C 4 rfl (by decide) dX3_rewire_16 ?_
    refine q_iload_n C dX3_rewire_17 rfl 1 rfl ?_
    obtain ⟨z1, h_z1, hf⟩ := bnd hf
    refine q_cVVw C (c_X3_give l D cI cJ cN m0 m1 m2 m3 m4 m5 m6 m7 M (M.2.2.2.2.2.1 (0 : Int32).toNatClampNeg) x1 z1 h_z1) (mkV (fr := 2) (lo := 45) C xc_X3_give xm_X3_89 xi_X3_give xe_X3_give xn_X3 hd_X3_give ⟨Nat.le_of_ble_eq_true rfl, Nat.le_of_ble_eq_true rfl⟩) 0 rfl rfl rfl rfl (Nat.le_of_ble_eq_true rfl) dX3_rewire_18 ⟨Nat.le_of_ble_eq_true rfl, Nat.le_of_ble_eq_true rfl⟩ (fun w1 hp1 => ?_)
    subst hp1
    refine q_aload_n C dX3_rewire_21 rfl 0 rfl ?_
    refine q_get C (uW uX3_in) 0 rfl rfl 0 (by decide) (ws_in xf_X3_7) rfl rfl dX3_rewire_22 ?_
    refine q_iconst (v := 3) C dX3_rewire_25 (by decide) ?_
    refine q_iald C 1 rfl (by decide) dX3_rewire_26 ?_
    refine q_iconst (v := 2) C dX3_rewire_27 (by decide) ?_
    refine q_icmp_ne C 71 dX3_rewire_28 (by decide) (fun h => ?_) (fun h => ?_)
    · have hf := ifF hf h
      exact l_X3_rewire_71 C z1 x1 hf
    · have hf := ifT hf h
      refine q_iconst (v := 0) C dX3_rewire_31 (by decide) ?_
      refine q_istore_n (lv' := [(2, .int (0 : Int32)), (0, .ref m0), (1, .int x1)]) C dX3_rewire_32 rfl (by decide) rfl ?_
      refine q_sub (lv' := [(0, .ref m0), (1, .int x1), (2, .int (0 : Int32))]) [1, 2, 0] rfl ?_
      exact l_X3_rewire_33 C FU z1 x1 (0 : Int32) hf
set_option maxRecDepth 100000 in
set_option maxHeartbeats 4000000 in
theorem c_X3_lookUp (l : Launch) (D : va_G) (cI cJ cN : ClassId) (m0 m1 m2 m3 m4 m5 m6 m7 : Nat)  (M : MS) (x1 : Int32) (x2 : Int32) (z : MS) (hf : f_X3_lookUp M x1 x2 = some z) : MV l D cI cJ cN yX3_lookUp (WS yX3_lookUp cX3_lookUp 3 none) { frames := 5, cells := 0, slots := 0, locals := 114 } [.ref m0, .int x1, .int x2] (wMod cI cJ m0 m1 m2 m3 m4 m5 m6 m7 M) (fun w => w = wMod cI cJ m0 m1 m2 m3 m4 m5 m6 m7 z) := by
  rw [f_X3_lookUp] at hf
  refine q_startV (lv := [(0, .ref m0), (1, .int x1), (2, .int x2)]) (by decide +kernel) rfl (Nat.le_of_ble_eq_true rfl) ?_
  intro p e s m below meth c C hin
  refine q_aload_n C dX3_lookUp_0 rfl 0 rfl ?_
  refine q_iload_n C dX3_lookUp_1 rfl 1 rfl ?_
  refine q_iload_n C dX3_lookUp_2 rfl 2 rfl ?_
  obtain ⟨z1, h_z1, hf⟩ := bnd hf
  refine q_cVVw C (c_X3_layRoute l D cI cJ cN m0 m1 m2 m3 m4 m5 m6 m7 M x1 x2 z1 h_z1) (mkV (fr := 4) (lo := 91) C xc_X3_layRoute xm_X3_96 xi_X3_layRoute xe_X3_layRoute xn_X3 hd_X3_layRoute ⟨Nat.le_of_ble_eq_true rfl, Nat.le_of_ble_eq_true rfl⟩) 0 rfl rfl rfl rfl (Nat.le_of_ble_eq_true rfl) dX3_lookUp_3 ⟨Nat.le_of_ble_eq_true rfl, Nat.le_of_ble_eq_true rfl⟩ (fun w1 hp1 => ?_)
  subst hp1
  refine q_aload_n C dX3_lookUp_6 rfl 0 rfl ?_
  refine q_get C (uW uX3_in) 0 rfl rfl 7 (by decide) (ws_in xf_X3_85) rfl rfl dX3_lookUp_7 ?_
  refine q_if_eq C 18 dX3_lookUp_10 (by decide) (fun h => ?_) (fun h => ?_)
  · have hf := ifT hf h
    have hf := Option.some.inj hf
    subst hf
    exact q_vret C (Nat.le_of_ble_eq_true rfl) (Nat.le_of_ble_eq_true rfl) rfl dX3_lookUp_18
  · have hf := ifF hf h
    refine q_aload_n C dX3_lookUp_13 rfl 0 rfl ?_
    refine q_iload_n C dX3_lookUp_14 rfl 2 rfl ?_
    obtain ⟨z2, h_z2, hf⟩ := bnd hf
    refine q_cVVw C (c_X3_rewire l D cI cJ cN m0 m1 m2 m3 m4 m5 m6 m7 z1 x2 z2 h_z2) (mkV (fr := 3) (lo := 67) C xc_X3_rewire xm_X3_99 xi_X3_rewire xe_X3_rewire xn_X3 hd_X3_rewire ⟨Nat.le_of_ble_eq_true rfl, Nat.le_of_ble_eq_true rfl⟩) 0 rfl rfl rfl rfl (Nat.le_of_ble_eq_true rfl) dX3_lookUp_15 ⟨Nat.le_of_ble_eq_true rfl, Nat.le_of_ble_eq_true rfl⟩ (fun w1 hp1 => ?_)
    subst hp1
    have hf := Option.some.inj hf
    subst hf
    exact q_vret C (Nat.le_of_ble_eq_true rfl) (Nat.le_of_ble_eq_true rfl) rfl dX3_lookUp_18
set_option maxRecDepth 100000 in
set_option maxHeartbeats 4000000 in
theorem c_X3_begin (l : Launch) (D : va_G) (cI cJ cN : ClassId) (m0 m1 m2 m3 m4 m5 m6 m7 : Nat)  (M : MS) (x1 : Int32) (x2 : Int32) (z : Int32 × MS) (hf : f_X3_begin M x1 x2 = some z) : MI l D cI cJ cN yX3_begin (WS yX3_begin cX3_begin 4 (some .int)) { frames := 1, cells := 0, slots := 0, locals := 23 } [.ref m0, .int x1, .int x2] (wMod cI cJ m0 m1 m2 m3 m4 m5 m6 m7 M) z.1 (fun w => w = wMod cI cJ m0 m1 m2 m3 m4 m5 m6 m7 z.2) := by
  rw [f_X3_begin] at hf
  refine q_startI (lv := [(0, .ref m0), (1, .int x1), (2, .int x2)]) (by decide +kernel) rfl (Nat.le_of_ble_eq_true rfl) ?_
  intro p e s m below meth c C hin
  refine q_iload_n C dX3_begin_0 rfl 1 rfl ?_
  refine q_iconst (v := 1) C dX3_begin_1 (by decide) ?_
  refine q_bipush (v := 7) C dX3_begin_2 (by decide) ?_
  obtain ⟨z1, h_z1, hf⟩ := bnd hf
  refine q_cSI (ws' := wMod cI cJ m0 m1 m2 m3 m4 m5 m6 m7 M) C (c_X3_isIn l D cI cJ cN x1 (1 : Int32) (7 : Int32) z1 h_z1) (mkS (fr := 0) (lo := 0) C xc_X3_isIn xm_X3_44 xs_X3_isIn xn_X3 hd_X3_isIn ⟨Nat.le_of_ble_eq_true rfl, Nat.le_of_ble_eq_true rfl⟩) [] rfl (by decide) rfl rfl rfl rfl (Nat.le_of_ble_eq_true rfl) dX3_begin_4 ⟨Nat.le_of_ble_eq_true rfl, Nat.le_of_ble_eq_true rfl⟩ ?_
  refine q_if_eq C 20 dX3_begin_7 (by decide) (fun h => ?_) (fun h => ?_)
  · have hf := ifT hf h
    refine q_iconst (v := -1) C dX3_begin_20 (by decide) ?_
    have hf := Option.some.inj hf
    subst hf
    exact q_iret C (Nat.le_of_ble_eq_true rfl) (Nat.le_of_ble_eq_true rfl) rfl dX3_begin_21
  · have hf := ifF hf h
    refine q_iload_n C dX3_begin_10 rfl 2 rfl ?_
    refine q_iconst (v := 1) C dX3_begin_11 (by decide) ?_
    refine q_bipush (v := 7) C dX3_begin_12 (by decide) ?_
    obtain ⟨z2, h_z2, hf⟩ := bnd hf
    refine q_cSI (ws' := wMod cI cJ m0 m1 m2 m3 m4 m5 m6 m7 M) C (c_X3_isIn l D cI cJ cN x2 (1 : Int32) (7 : Int32) z2 h_z2) (mkS (fr := 0) (lo := 0) C xc_X3_isIn xm_X3_44 xs_X3_isIn xn_X3 hd_X3_isIn ⟨Nat.le_of_ble_eq_true rfl, Nat.le_of_ble_eq_true rfl⟩) [] rfl (by decide) rfl rfl rfl rfl (Nat.le_of_ble_eq_true rfl) dX3_begin_14 ⟨Nat.le_of_ble_eq_true rfl, Nat.le_of_ble_eq_true rfl⟩ ?_
    refine q_if_ne C 22 dX3_begin_17 (by decide) (fun h => ?_) (fun h => ?_)
    · have hf := ifF hf h
      refine q_aload_n C dX3_begin_22 rfl 0 rfl ?_
      obtain ⟨z3, h_z3, hf⟩ := bnd hf
      refine q_cVIw C (c_X3_nodes l D cI cJ cN m0 m1 m2 m3 m4 m5 m6 m7 M z3 h_z3) (mkV (fr := 0) (lo := 0) C xc_X3_nodes xm_X3_40 xi_X3_nodes xe_X3_nodes xn_X3 hd_X3_nodes ⟨Nat.le_of_ble_eq_true rfl, Nat.le_of_ble_eq_true rfl⟩) 0 rfl rfl rfl rfl (Nat.le_of_ble_eq_true rfl) dX3_begin_23 ⟨Nat.le_of_ble_eq_true rfl, Nat.le_of_ble_eq_true rfl⟩ (fun w1 hp1 => ?_)
      subst hp1
      refine q_istore_n (lv' := [(3, .int z3), (0, .ref m0), (1, .int x1), (2, .int x2)]) C dX3_begin_26 rfl (by decide) rfl ?_
      refine q_aload_n C dX3_begin_27 rfl 1 rfl ?_
      obtain ⟨z4, h_z4, hf⟩ := bnd hf
      refine q_cVVw C (c_X3_remember l D cI cJ cN m0 m1 m2 m3 m4 m5 m6 m7 M z4 h_z4) (mkV (fr := 0) (lo := 0) C xc_X3_remember xm_X3_103 xi_X3_remember xe_X3_remember xn_X3 hd_X3_remember ⟨Nat.le_of_ble_eq_true rfl, Nat.le_of_ble_eq_true rfl⟩) 0 rfl rfl rfl rfl (Nat.le_of_ble_eq_true rfl) dX3_begin_28 ⟨Nat.le_of_ble_eq_true rfl, Nat.le_of_ble_eq_true rfl⟩ (fun w1 hp1 => ?_)
      subst hp1
      refine q_aload_n C dX3_begin_31 rfl 1 rfl ?_
      refine q_iload_n C dX3_begin_32 rfl 2 rfl ?_
      refine q_iload_n C dX3_begin_33 rfl 3 rfl ?_
      obtain ⟨z5, h_z5, hf⟩ := bnd hf
      refine q_cVVw C (c_X3_lay l D cI cJ cN m0 m1 m2 m3 m4 m5 m6 m7 z4 x1 x2 z5 h_z5) (mkV (fr := 0) (lo := 0) C xc_X3_lay xm_X3_32 xi_X3_lay xe_X3_lay xn_X3 hd_X3_lay ⟨Nat.le_of_ble_eq_true rfl, Nat.le_of_ble_eq_true rfl⟩) 0 rfl rfl rfl rfl (Nat.le_of_ble_eq_true rfl) dX3_begin_34 ⟨Nat.le_of_ble_eq_true rfl, Nat.le_of_ble_eq_true rfl⟩ (fun w1 hp1 => ?_)
      subst hp1
      refine q_iload_n C dX3_begin_37 rfl 0 rfl ?_
      have hf := Option.some.inj hf
      subst hf
      exact q_iret C (Nat.le_of_ble_eq_true rfl) (Nat.le_of_ble_eq_true rfl) rfl dX3_begin_38
    · have hf := ifT hf h
      refine q_iconst (v := -1) C dX3_begin_20 (by decide) ?_
      have hf := Option.some.inj hf
      subst hf
      exact q_iret C (Nat.le_of_ble_eq_true rfl) (Nat.le_of_ble_eq_true rfl) rfl dX3_begin_21
set_option maxRecDepth 100000 in
set_option maxHeartbeats 4000000 in
theorem c_X3_link (l : Launch) (D : va_G) (cI cJ cN : ClassId) (m0 m1 m2 m3 m4 m5 m6 m7 : Nat)  (M : MS) (x1 : Int32) (x2 : Int32) (z : Int32 × MS) (hf : f_X3_link M x1 x2 = some z) : MI l D cI cJ cN yX3_link (WS yX3_link cX3_link 3 (some .int)) { frames := 3, cells := 0, slots := 0, locals := 67 } [.ref m0, .int x1, .int x2] (wMod cI cJ m0 m1 m2 m3 m4 m5 m6 m7 M) z.1 (fun w => w = wMod cI cJ m0 m1 m2 m3 m4 m5 m6 m7 z.2) := by
  rw [f_X3_link] at hf
  refine q_startI (lv := [(0, .ref m0), (1, .int x1), (2, .int x2)]) (by decide +kernel) rfl (Nat.le_of_ble_eq_true rfl) ?_
  intro p e s m below meth c C hin
  refine q_aload_n C dX3_link_0 rfl 0 rfl ?_
  refine q_iload_n C dX3_link_1 rfl 1 rfl ?_
  obtain ⟨z1, h_z1, hf⟩ := bnd hf
  refine q_cVIw C (c_X3_isNode l D cI cJ cN m0 m1 m2 m3 m4 m5 m6 m7 M x1 z1 h_z1) (mkV (fr := 1) (lo := 22) C xc_X3_isNode xm_X3_106 xi_X3_isNode xe_X3_isNode xn_X3 hd_X3_isNode ⟨Nat.le_of_ble_eq_true rfl, Nat.le_of_ble_eq_true rfl⟩) 0 rfl rfl rfl rfl (Nat.le_of_ble_eq_true rfl) dX3_link_2 ⟨Nat.le_of_ble_eq_true rfl, Nat.le_of_ble_eq_true rfl⟩ (fun w1 hp1 => ?_)
  subst hp1
  refine q_if_eq C 21 dX3_link_5 (by decide) (fun h => ?_) (fun h => ?_)
  · have hf := ifT hf h
    refine q_iconst (v := -1) C dX3_link_21 (by decide) ?_
    have hf := Option.some.inj hf
    subst hf
    exact q_iret C (Nat.le_of_ble_eq_true rfl) (Nat.le_of_ble_eq_true rfl) rfl dX3_link_22
  · have hf := ifF hf h
    refine q_aload_n C dX3_link_8 rfl 0 rfl ?_
    refine q_iload_n C dX3_link_9 rfl 2 rfl ?_
    obtain ⟨z2, h_z2, hf⟩ := bnd hf
    refine q_cVIw C (c_X3_isNode l D cI cJ cN m0 m1 m2 m3 m4 m5 m6 m7 M x2 z2 h_z2) (mkV (fr := 1) (lo := 22) C xc_X3_isNode xm_X3_106 xi_X3_isNode xe_X3_isNode xn_X3 hd_X3_isNode ⟨Nat.le_of_ble_eq_true rfl, Nat.le_of_ble_eq_true rfl⟩) 0 rfl rfl rfl rfl (Nat.le_of_ble_eq_true rfl) dX3_link_10 ⟨Nat.le_of_ble_eq_true rfl, Nat.le_of_ble_eq_true rfl⟩ (fun w1 hp1 => ?_)
    subst hp1
    refine q_if_eq C 21 dX3_link_13 (by decide) (fun h => ?_) (fun h => ?_)
    · have hf := ifT hf h
      refine q_iconst (v := -1) C dX3_link_21 (by decide) ?_
      have hf := Option.some.inj hf
      subst hf
      exact q_iret C (Nat.le_of_ble_eq_true rfl) (Nat.le_of_ble_eq_true rfl) rfl dX3_link_22
    · have hf := ifF hf h
      refine q_iload_n C dX3_link_16 rfl 1 rfl ?_
      refine q_iload_n C dX3_link_17 rfl 2 rfl ?_
      refine q_icmp_ne C 23 dX3_link_18 (by decide) (fun h => ?_) (fun h => ?_)
      · have hf := ifF hf h
        refine q_aload_n C dX3_link_23 rfl 0 rfl ?_
        refine q_iload_n C dX3_link_24 rfl 1 rfl ?_
        obtain ⟨z3, h_z3, hf⟩ := bnd hf
        refine q_cVIw C (c_X3_isPresent l D cI cJ cN m0 m1 m2 m3 m4 m5 m6 m7 M x1 z3 h_z3) (mkV (fr := 0) (lo := 0) C xc_X3_isPresent xm_X3_55 xi_X3_isPresent xe_X3_isPresent xn_X3 hd_X3_isPresent ⟨Nat.le_of_ble_eq_true rfl, Nat.le_of_ble_eq_true rfl⟩) 0 rfl rfl rfl rfl (Nat.le_of_ble_eq_true rfl) dX3_link_25 ⟨Nat.le_of_ble_eq_true rfl, Nat.le_of_ble_eq_true rfl⟩ (fun w1 hp1 => ?_)
        subst hp1
        refine q_if_eq C 39 dX3_link_28 (by decide) (fun h => ?_) (fun h => ?_)
        · have hf := ifT hf h
          refine q_bipush (v := -2) C dX3_link_39 (by decide) ?_
          have hf := Option.some.inj hf
          subst hf
          exact q_iret C (Nat.le_of_ble_eq_true rfl) (Nat.le_of_ble_eq_true rfl) rfl dX3_link_41
        · have hf := ifF hf h
          refine q_aload_n C dX3_link_31 rfl 0 rfl ?_
          refine q_iload_n C dX3_link_32 rfl 2 rfl ?_
          obtain ⟨z4, h_z4, hf⟩ := bnd hf
          refine q_cVIw C (c_X3_isPresent l D cI cJ cN m0 m1 m2 m3 m4 m5 m6 m7 M x2 z4 h_z4) (mkV (fr := 0) (lo := 0) C xc_X3_isPresent xm_X3_55 xi_X3_isPresent xe_X3_isPresent xn_X3 hd_X3_isPresent ⟨Nat.le_of_ble_eq_true rfl, Nat.le_of_ble_eq_true rfl⟩) 0 rfl rfl rfl rfl (Nat.le_of_ble_eq_true rfl) dX3_link_33 ⟨Nat.le_of_ble_eq_true rfl, Nat.le_of_ble_eq_true rfl⟩ (fun w1 hp1 => ?_)
          subst hp1
          refine q_if_ne C 42 dX3_link_36 (by decide) (fun h => ?_) (fun h => ?_)
          · have hf := ifF hf h
            refine q_aload_n C dX3_link_42 rfl 0 rfl ?_
            obtain ⟨z5, h_z5, hf⟩ := bnd hf
            refine q_cVVw C (c_X3_remember l D cI cJ cN m0 m1 m2 m3 m4 m5 m6 m7 M z5 h_z5) (mkV (fr := 0) (lo := 0) C xc_X3_remember xm_X3_103 xi_X3_remember xe_X3_remember xn_X3 hd_X3_remember ⟨Nat.le_of_ble_eq_true rfl, Nat.le_of_ble_eq_true rfl⟩) 0 rfl rfl rfl rfl (Nat.le_of_ble_eq_true rfl) dX3_link_43 ⟨Nat.le_of_ble_eq_true rfl, Nat.le_of_ble_eq_true rfl⟩ (fun w1 hp1 => ?_)
            subst hp1
            refine q_aload_n C dX3_link_46 rfl 0 rfl ?_
            refine q_iload_n C dX3_link_47 rfl 1 rfl ?_
            refine q_iload_n C dX3_link_48 rfl 2 rfl ?_
            obtain ⟨z6, h_z6, hf⟩ := bnd hf
            refine q_cVVw C (c_X3_give l D cI cJ cN m0 m1 m2 m3 m4 m5 m6 m7 z5 x1 x2 z6 h_z6) (mkV (fr := 2) (lo := 45) C xc_X3_give xm_X3_89 xi_X3_give xe_X3_give xn_X3 hd_X3_give ⟨Nat.le_of_ble_eq_true rfl, Nat.le_of_ble_eq_true rfl⟩) 0 rfl rfl rfl rfl (Nat.le_of_ble_eq_true rfl) dX3_link_49 ⟨Nat.le_of_ble_eq_true rfl, Nat.le_of_ble_eq_true rfl⟩ (fun w1 hp1 => ?_)
            subst hp1
            refine q_aload_n C dX3_link_52 rfl 0 rfl ?_
            refine q_get C (uW uX3_in) 0 rfl rfl 0 (by decide) (ws_in xf_X3_7) rfl rfl dX3_link_53 ?_
            refine q_bipush (v := 104) C dX3_link_56 (by decide) ?_
            refine q_iload_n C dX3_link_58 rfl 1 rfl ?_
            refine q_iadd C dX3_link_59 ?_
            obtain ⟨hg, hf⟩ := gd_some hf
            refine q_iald C 1 rfl hg dX3_link_60 ?_
            have hf := Option.some.inj hf
            subst hf
            exact q_iret C (Nat.le_of_ble_eq_true rfl) (Nat.le_of_ble_eq_true rfl) rfl dX3_link_61
          · have hf := ifT hf h
            refine q_bipush (v := -2) C dX3_link_39 (by decide) ?_
            have hf := Option.some.inj hf
            subst hf
            exact q_iret C (Nat.le_of_ble_eq_true rfl) (Nat.le_of_ble_eq_true rfl) rfl dX3_link_41
      · have hf := ifT hf h
        refine q_iconst (v := -1) C dX3_link_21 (by decide) ?_
        have hf := Option.some.inj hf
        subst hf
        exact q_iret C (Nat.le_of_ble_eq_true rfl) (Nat.le_of_ble_eq_true rfl) rfl dX3_link_22
set_option maxRecDepth 100000 in
set_option maxHeartbeats 4000000 in
theorem c_X3_unlink (l : Launch) (D : va_G) (cI cJ cN : ClassId) (m0 m1 m2 m3 m4 m5 m6 m7 : Nat)  (M : MS) (x1 : Int32) (x2 : Int32) (z : Int32 × MS) (hf : f_X3_unlink M x1 x2 = some z) : MI l D cI cJ cN yX3_unlink (WS yX3_unlink cX3_unlink 4 (some .int)) { frames := 2, cells := 0, slots := 0, locals := 45 } [.ref m0, .int x1, .int x2] (wMod cI cJ m0 m1 m2 m3 m4 m5 m6 m7 M) z.1 (fun w => w = wMod cI cJ m0 m1 m2 m3 m4 m5 m6 m7 z.2) := by
  rw [f_X3_unlink] at hf
  refine q_startI (lv := [(0, .ref m0), (1, .int x1), (2, .int x2)]) (by decide +kernel) rfl (Nat.le_of_ble_eq_true rfl) ?_
  intro p e s m below meth c C hin
  refine q_aload_n C dX3_unlink_0 rfl 0 rfl ?_
  refine q_iload_n C dX3_unlink_1 rfl 1 rfl ?_
  obtain ⟨z1, h_z1, hf⟩ := bnd hf
  refine q_cVIw C (c_X3_isNode l D cI cJ cN m0 m1 m2 m3 m4 m5 m6 m7 M x1 z1 h_z1) (mkV (fr := 1) (lo := 22) C xc_X3_isNode xm_X3_106 xi_X3_isNode xe_X3_isNode xn_X3 hd_X3_isNode ⟨Nat.le_of_ble_eq_true rfl, Nat.le_of_ble_eq_true rfl⟩) 0 rfl rfl rfl rfl (Nat.le_of_ble_eq_true rfl) dX3_unlink_2 ⟨Nat.le_of_ble_eq_true rfl, Nat.le_of_ble_eq_true rfl⟩ (fun w1 hp1 => ?_)
  subst hp1
  refine q_if_eq C 27 dX3_unlink_5 (by decide) (fun h => ?_) (fun h => ?_)
  · have hf := ifT hf h
    refine q_iconst (v := -1) C dX3_unlink_27 (by decide) ?_
    have hf := Option.some.inj hf
    subst hf
    exact q_iret C (Nat.le_of_ble_eq_true rfl) (Nat.le_of_ble_eq_true rfl) rfl dX3_unlink_28
  · have hf := ifF hf h
    refine q_iload_n C dX3_unlink_8 rfl 2 rfl ?_
    refine q_iconst (v := 0) C dX3_unlink_9 (by decide) ?_
    refine q_aload_n C dX3_unlink_10 rfl 0 rfl ?_
    refine q_get C (uW uX3_in) 0 rfl rfl 0 (by decide) (ws_in xf_X3_7) rfl rfl dX3_unlink_11 ?_
    refine q_bipush (v := 104) C dX3_unlink_14 (by decide) ?_
    refine q_iload_n C dX3_unlink_16 rfl 1 rfl ?_
    refine q_iadd C dX3_unlink_17 ?_
    obtain ⟨hg, hf⟩ := gd_some hf
    refine q_iald C 1 rfl hg dX3_unlink_18 ?_
    refine q_iconst (v := 1) C dX3_unlink_19 (by decide) ?_
    refine q_isub C dX3_unlink_20 ?_
    obtain ⟨z2, h_z2, hf⟩ := bnd hf
    refine q_cSI (ws' := wMod cI cJ m0 m1 m2 m3 m4 m5 m6 m7 M) C (c_X3_isIn l D cI cJ cN x2 (0 : Int32) ((M.1 ((104 : Int32) + x1).toNatClampNeg) - (1 : Int32)) z2 h_z2) (mkS (fr := 0) (lo := 0) C xc_X3_isIn xm_X3_44 xs_X3_isIn xn_X3 hd_X3_isIn ⟨Nat.le_of_ble_eq_true rfl, Nat.le_of_ble_eq_true rfl⟩) [] rfl (by decide) rfl rfl rfl rfl (Nat.le_of_ble_eq_true rfl) dX3_unlink_21 ⟨Nat.le_of_ble_eq_true rfl, Nat.le_of_ble_eq_true rfl⟩ ?_
    refine q_if_ne C 29 dX3_unlink_24 (by decide) (fun h => ?_) (fun h => ?_)
    · have hf := ifF hf h
      refine q_aload_n C dX3_unlink_29 rfl 0 rfl ?_
      obtain ⟨z3, h_z3, hf⟩ := bnd hf
      refine q_cVVw C (c_X3_remember l D cI cJ cN m0 m1 m2 m3 m4 m5 m6 m7 M z3 h_z3) (mkV (fr := 0) (lo := 0) C xc_X3_remember xm_X3_103 xi_X3_remember xe_X3_remember xn_X3 hd_X3_remember ⟨Nat.le_of_ble_eq_true rfl, Nat.le_of_ble_eq_true rfl⟩) 0 rfl rfl rfl rfl (Nat.le_of_ble_eq_true rfl) dX3_unlink_30 ⟨Nat.le_of_ble_eq_true rfl, Nat.le_of_ble_eq_true rfl⟩ (fun w1 hp1 => ?_)
      subst hp1
      refine q_aload_n C dX3_unlink_33 rfl 0 rfl ?_
      refine q_iload_n C dX3_unlink_34 rfl 1 rfl ?_
      refine q_iload_n C dX3_unlink_35 rfl 2 rfl ?_
      obtain ⟨z4, h_z4, hf⟩ := bnd hf
      refine q_cVIw C (c_X3_at l D cI cJ cN m0 m1 m2 m3 m4 m5 m6 m7 z3 x1 x2 z4 h_z4) (mkV (fr := 0) (lo := 0) C xc_X3_at xm_X3_52 xi_X3_at xe_X3_at xn_X3 hd_X3_at ⟨Nat.le_of_ble_eq_true rfl, Nat.le_of_ble_eq_true rfl⟩) 0 rfl rfl rfl rfl (Nat.le_of_ble_eq_true rfl) dX3_unlink_36 ⟨Nat.le_of_ble_eq_true rfl, Nat.le_of_ble_eq_true rfl⟩ (fun w1 hp1 => ?_)
      subst hp1
      refine q_istore_n (lv' := [(3, .int z4), (0, .ref m0), (1, .int x1), (2, .int x2)]) C dX3_unlink_39 rfl (by decide) rfl ?_
      refine q_aload_n C dX3_unlink_40 rfl 1 rfl ?_
      refine q_iload_n C dX3_unlink_41 rfl 2 rfl ?_
      refine q_iload_n C dX3_unlink_42 rfl 3 rfl ?_
      obtain ⟨z5, h_z5, hf⟩ := bnd hf
      refine q_cVVw C (c_X3_drop l D cI cJ cN m0 m1 m2 m3 m4 m5 m6 m7 z3 x1 x2 z5 h_z5) (mkV (fr := 1) (lo := 22) C xc_X3_drop xm_X3_66 xi_X3_drop xe_X3_drop xn_X3 hd_X3_drop ⟨Nat.le_of_ble_eq_true rfl, Nat.le_of_ble_eq_true rfl⟩) 0 rfl rfl rfl rfl (Nat.le_of_ble_eq_true rfl) dX3_unlink_43 ⟨Nat.le_of_ble_eq_true rfl, Nat.le_of_ble_eq_true rfl⟩ (fun w1 hp1 => ?_)
      subst hp1
      refine q_iload_n C dX3_unlink_46 rfl 0 rfl ?_
      have hf := Option.some.inj hf
      subst hf
      exact q_iret C (Nat.le_of_ble_eq_true rfl) (Nat.le_of_ble_eq_true rfl) rfl dX3_unlink_47
    · have hf := ifT hf h
      refine q_iconst (v := -1) C dX3_unlink_27 (by decide) ?_
      have hf := Option.some.inj hf
      subst hf
      exact q_iret C (Nat.le_of_ble_eq_true rfl) (Nat.le_of_ble_eq_true rfl) rfl dX3_unlink_28
set_option maxRecDepth 100000 in
set_option maxHeartbeats 4000000 in
theorem c_X3_weight (l : Launch) (D : va_G) (cI cJ cN : ClassId) (m0 m1 m2 m3 m4 m5 m6 m7 : Nat)  (M : MS) (x1 : Int32) (x2 : Int32) (x3 : Int32) (z : Int32) (hf : f_X3_weight M x1 x2 x3 = some z) : MI l D cI cJ cN yX3_weight (WS yX3_weight cX3_weight 5 (some .int)) { frames := 3, cells := 0, slots := 0, locals := 67 } [.ref m0, .int x1, .int x2, .int x3] (wMod cI cJ m0 m1 m2 m3 m4 m5 m6 m7 M) z (fun w => w = wMod cI cJ m0 m1 m2 m3 m4 m5 m6 m7 M) := by
  rw [f_X3_weight] at hf
  refine q_startI (lv := [(0, .ref m0), (1, .int x1), (2, .int x2), (3, .int x3)]) (by decide +kernel) rfl (Nat.le_of_ble_eq_true rfl) ?_
  intro p e s m below meth c C hin
  refine q_iload_n C dX3_weight_0 rfl 1 rfl ?_
  refine q_iload_n C dX3_weight_1 rfl 2 rfl ?_
  refine q_icmp_eq C 22 dX3_weight_2 (by decide) (fun h => ?_) (fun h => ?_)
  · have hf := ifT hf h
    refine q_iconst (v := 0) C dX3_weight_22 (by decide) ?_
    have hf := Option.some.inj hf
    subst hf
    exact q_iret C (Nat.le_of_ble_eq_true rfl) (Nat.le_of_ble_eq_true rfl) rfl dX3_weight_23
  · have hf := ifF hf h
    refine q_aload_n C dX3_weight_5 rfl 0 rfl ?_
    refine q_iload_n C dX3_weight_6 rfl 2 rfl ?_
    obtain ⟨z1, h_z1, hf⟩ := bnd hf
    refine q_cVIw C (c_X3_isPresent l D cI cJ cN m0 m1 m2 m3 m4 m5 m6 m7 M x2 z1 h_z1) (mkV (fr := 0) (lo := 0) C xc_X3_isPresent xm_X3_55 xi_X3_isPresent xe_X3_isPresent xn_X3 hd_X3_isPresent ⟨Nat.le_of_ble_eq_true rfl, Nat.le_of_ble_eq_true rfl⟩) 0 rfl rfl rfl rfl (Nat.le_of_ble_eq_true rfl) dX3_weight_7 ⟨Nat.le_of_ble_eq_true rfl, Nat.le_of_ble_eq_true rfl⟩ (fun w1 hp1 => ?_)
    subst hp1
    refine q_if_eq C 22 dX3_weight_10 (by decide) (fun h => ?_) (fun h => ?_)
    · have hf := ifT hf h
      refine q_iconst (v := 0) C dX3_weight_22 (by decide) ?_
      have hf := Option.some.inj hf
      subst hf
      exact q_iret C (Nat.le_of_ble_eq_true rfl) (Nat.le_of_ble_eq_true rfl) rfl dX3_weight_23
    · have hf := ifF hf h
      refine q_aload_n C dX3_weight_13 rfl 0 rfl ?_
      refine q_iload_n C dX3_weight_14 rfl 1 rfl ?_
      refine q_iload_n C dX3_weight_15 rfl 2 rfl ?_
      obtain ⟨z2, h_z2, hf⟩ := bnd hf
      refine q_cVIw C (c_X3_isContact l D cI cJ cN m0 m1 m2 m3 m4 m5 m6 m7 M x1 x2 z2 h_z2) (mkV (fr := 2) (lo := 45) C xc_X3_isContact xm_X3_76 xi_X3_isContact xe_X3_isContact xn_X3 hd_X3_isContact ⟨Nat.le_of_ble_eq_true rfl, Nat.le_of_ble_eq_true rfl⟩) 0 rfl rfl rfl rfl (Nat.le_of_ble_eq_true rfl) dX3_weight_16 ⟨Nat.le_of_ble_eq_true rfl, Nat.le_of_ble_eq_true rfl⟩ (fun w1 hp1 => ?_)
      subst hp1
      refine q_if_eq C 24 dX3_weight_19 (by decide) (fun h => ?_) (fun h => ?_)
      · have hf := ifT hf h
        refine q_aload_n C dX3_weight_24 rfl 0 rfl ?_
        refine q_iload_n C dX3_weight_25 rfl 1 rfl ?_
        refine q_iload_n C dX3_weight_26 rfl 2 rfl ?_
        obtain ⟨z3, h_z3, hf⟩ := bnd hf
        refine q_cVIw C (c_X3_far l D cI cJ cN m0 m1 m2 m3 m4 m5 m6 m7 M x1 x2 z3 h_z3) (mkV (fr := 1) (lo := 21) C xc_X3_far xm_X3_59 xi_X3_far xe_X3_far xn_X3 hd_X3_far ⟨Nat.le_of_ble_eq_true rfl, Nat.le_of_ble_eq_true rfl⟩) 0 rfl rfl rfl rfl (Nat.le_of_ble_eq_true rfl) dX3_weight_27 ⟨Nat.le_of_ble_eq_true rfl, Nat.le_of_ble_eq_true rfl⟩ (fun w1 hp1 => ?_)
        subst hp1
        refine q_istore (lv' := [(4, .int z3), (0, .ref m0), (1, .int x1), (2, .int x2), (3, .int x3)]) C dX3_weight_30 (by decide) rfl ?_
        refine q_iload_n C dX3_weight_32 rfl 4 rfl ?_
        refine q_if_ne C 40 dX3_weight_33 (by decide) (fun h => ?_) (fun h => ?_)
        · have hf := ifF hf h
          refine q_iload_n C dX3_weight_40 rfl 4 rfl ?_
          refine q_iconst (v := 1) C dX3_weight_41 (by decide) ?_
          refine q_icmp_ne C 53 dX3_weight_42 (by decide) (fun h => ?_) (fun h => ?_)
          · have hf := ifF hf h
            refine q_sipush (v := 3600) C dX3_weight_53 (by decide) ?_
            refine q_iload C dX3_weight_56 0 rfl ?_
            refine q_iload C dX3_weight_58 0 rfl ?_
            refine q_imul C dX3_weight_60 ?_
            obtain ⟨hg, hf⟩ := gd_some hf
            refine q_idiv C dX3_weight_61 hg ?_
            have hf := Option.some.inj hf
            subst hf
            exact q_iret C (Nat.le_of_ble_eq_true rfl) (Nat.le_of_ble_eq_true rfl) rfl dX3_weight_62
          · have hf := ifT hf h
            refine q_bipush (v := 60) C dX3_weight_45 (by decide) ?_
            refine q_iload C dX3_weight_47 0 rfl ?_
            obtain ⟨hg, hf⟩ := gd_some hf
            refine q_idiv C dX3_weight_49 hg ?_
            refine q_goto C 62 dX3_weight_50 (by decide) ?_
            have hf := Option.some.inj hf
            subst hf
            exact q_iret C (Nat.le_of_ble_eq_true rfl) (Nat.le_of_ble_eq_true rfl) rfl dX3_weight_62
        · have hf := ifT hf h
          refine q_iconst (v := 1) C dX3_weight_36 (by decide) ?_
          refine q_goto C 62 dX3_weight_37 (by decide) ?_
          have hf := Option.some.inj hf
          subst hf
          exact q_iret C (Nat.le_of_ble_eq_true rfl) (Nat.le_of_ble_eq_true rfl) rfl dX3_weight_62
      · have hf := ifF hf h
        refine q_iconst (v := 0) C dX3_weight_22 (by decide) ?_
        have hf := Option.some.inj hf
        subst hf
        exact q_iret C (Nat.le_of_ble_eq_true rfl) (Nat.le_of_ble_eq_true rfl) rfl dX3_weight_23
set_option maxRecDepth 100000 in
set_option maxHeartbeats 4000000 in
theorem l_X3_drawLink_82 {p : Program} {l : Launch} {e : Env} {s : State} {m : MethodId} {args : Array Value} {below : List Frame} {meth : Method} {c : Code} {D : va_G} {cI cJ cN : ClassId} {W0 : va_W} {m0 m1 m2 m3 m4 m5 m6 m7 : Nat} {z : Int32 × MS} (C : CX p l s m args meth c cX3_drawLink 6 yX3_drawLink.cls (WS yX3_drawLink cX3_drawLink 6 (some .int)) (some .int) D cI cJ cN (va_A W0 s.heap.size)) : ∀ (fu : Nat) (M : MS) (x1 : Int32) (x2 : Int32) (x4 : Int32) (x5 : Int32), g_X3_drawLink_82 fu M x1 x2 x4 x5 = some z → WW p l e { frames := 4, cells := 0, slots := 0, locals := 91 } s m args below meth c D 6 (va_A W0 s.heap.size) 0 0 (QI below args s D W0 { frames := 4, cells := 0, slots := 0, locals := 91 } z.1 (fun w => w = wMod cI cJ m0 m1 m2 m3 m4 m5 m6 m7 z.2)) 82 [(0, .ref m0), (1, .int x1), (2, .int x2), (4, .int x4), (5, .int x5)] [] (wMod cI cJ m0 m1 m2 m3 m4 m5 m6 m7 M) := by
  intro fu
  induction fu with
  | zero =>
    intro M x1 x2 x4 x5 hf
    rw [g_X3_drawLink_82] at hf
    cases hf
  | succ fu ih =>
    intro M x1 x2 x4 x5 hf
    rw [g_X3_drawLink_82] at hf
    refine q_iload C dX3_drawLink_82 3 rfl ?_
    refine q_aload_n C dX3_drawLink_84 rfl 0 rfl ?_
    refine q_iload_n C dX3_drawLink_85 rfl 1 rfl ?_
    refine q_iload C dX3_drawLink_86 4 rfl ?_
    refine q_iload_n C dX3_drawLink_88 rfl 2 rfl ?_
    obtain ⟨z1, h_z1, hf⟩ := bnd hf
    refine q_cVIw C (c_X3_weight l D cI cJ cN m0 m1 m2 m3 m4 m5 m6 m7 M x1 x5 x2 z1 h_z1) (mkV (fr := 3) (lo := 67) C xc_X3_weight xm_X3_109 xi_X3_weight xe_X3_weight xn_X3 hd_X3_weight ⟨Nat.le_of_ble_eq_true rfl, Nat.le_of_ble_eq_true rfl⟩) 0 rfl rfl rfl rfl (Nat.le_of_ble_eq_true rfl) dX3_drawLink_89 ⟨Nat.le_of_ble_eq_true rfl, Nat.le_of_ble_eq_true rfl⟩ (fun w1 hp1 => ?_)
    subst hp1
    refine q_icmp_lt C 114 dX3_drawLink_92 (by decide) (fun h => ?_) (fun h => ?_)
    · have hf := ifT hf h
      refine q_aload_n C dX3_drawLink_114 rfl 0 rfl ?_
      refine q_iload_n C dX3_drawLink_115 rfl 1 rfl ?_
      refine q_iload C dX3_drawLink_116 4 rfl ?_
      obtain ⟨z2, h_z2, hf⟩ := bnd hf
      refine q_cVVw C (c_X3_give l D cI cJ cN m0 m1 m2 m3 m4 m5 m6 m7 M x1 x5 z2 h_z2) (mkV (fr := 2) (lo := 45) C xc_X3_give xm_X3_89 xi_X3_give xe_X3_give xn_X3 hd_X3_give ⟨Nat.le_of_ble_eq_true rfl, Nat.le_of_ble_eq_true rfl⟩) 0 rfl rfl rfl rfl (Nat.le_of_ble_eq_true rfl) dX3_drawLink_118 ⟨Nat.le_of_ble_eq_true rfl, Nat.le_of_ble_eq_true rfl⟩ (fun w1 hp1 => ?_)
      subst hp1
      refine q_iload C dX3_drawLink_121 4 rfl ?_
      have hf := Option.some.inj hf
      subst hf
      exact q_iret C (Nat.le_of_ble_eq_true rfl) (Nat.le_of_ble_eq_true rfl) rfl dX3_drawLink_123
    · have hf := ifF hf h
      refine q_iload C dX3_drawLink_95 3 rfl ?_
      refine q_aload_n C dX3_drawLink_97 rfl 0 rfl ?_
      refine q_iload_n C dX3_drawLink_98 rfl 1 rfl ?_
      refine q_iload C dX3_drawLink_99 4 rfl ?_
      refine q_iload_n C dX3_drawLink_101 rfl 2 rfl ?_
      obtain ⟨z3, h_z3, hf⟩ := bnd hf
      refine q_cVIw C (c_X3_weight l D cI cJ cN m0 m1 m2 m3 m4 m5 m6 m7 M x1 x5 x2 z3 h_z3) (mkV (fr := 3) (lo := 67) C xc_X3_weight xm_X3_109 xi_X3_weight xe_X3_weight xn_X3 hd_X3_weight ⟨Nat.le_of_ble_eq_true rfl, Nat.le_of_ble_eq_true rfl⟩) 0 rfl rfl rfl rfl (Nat.le_of_ble_eq_true rfl) dX3_drawLink_102 ⟨Nat.le_of_ble_eq_true rfl, Nat.le_of_ble_eq_true rfl⟩ (fun w1 hp1 => ?_)
      subst hp1
      refine q_isub C dX3_drawLink_105 ?_
      refine q_istore (lv' := [(4, .int (x4 - z3)), (0, .ref m0), (1, .int x1), (2, .int x2), (5, .int x5)]) C dX3_drawLink_106 (by decide) rfl ?_
      refine q_iinc (v := (x5 + (1 : Int32))) (lv' := [(5, .int (x5 + (1 : Int32))), (4, .int (x4 - z3)), (0, .ref m0), (1, .int x1), (2, .int x2)]) C dX3_drawLink_108 4 rfl rfl (by decide) rfl ?_
      refine q_goto C 82 dX3_drawLink_111 (by decide) ?_
      refine q_sub (lv' := [(0, .ref m0), (1, .int x1), (2, .int x2), (4, .int (x4 - z3)), (5, .int (x5 + (1 : Int32)))]) [2, 3, 4, 1, 0] rfl ?_
      exact ih M x1 x2 (x4 - z3) (x5 + (1 : Int32)) hf
set_option maxRecDepth 100000 in
set_option maxHeartbeats 4000000 in
theorem l_X3_drawLink_39 {p : Program} {l : Launch} {e : Env} {s : State} {m : MethodId} {args : Array Value} {below : List Frame} {meth : Method} {c : Code} {D : va_G} {cI cJ cN : ClassId} {W0 : va_W} {m0 m1 m2 m3 m4 m5 m6 m7 : Nat} {z : Int32 × MS} (C : CX p l s m args meth c cX3_drawLink 6 yX3_drawLink.cls (WS yX3_drawLink cX3_drawLink 6 (some .int)) (some .int) D cI cJ cN (va_A W0 s.heap.size)) : ∀ (fu : Nat) (M : MS) (x1 : Int32) (x2 : Int32) (x3 : Int32) (x4 : Int32), g_X3_drawLink_39 fu M x1 x2 x3 x4 = some z → WW p l e { frames := 4, cells := 0, slots := 0, locals := 91 } s m args below meth c D 6 (va_A W0 s.heap.size) 0 0 (QI below args s D W0 { frames := 4, cells := 0, slots := 0, locals := 91 } z.1 (fun w => w = wMod cI cJ m0 m1 m2 m3 m4 m5 m6 m7 z.2)) 39 [(0, .ref m0), (1, .int x1), (2, .int x2), (3, .int x3), (4, .int x4)] [] (wMod cI cJ m0 m1 m2 m3 m4 m5 m6 m7 M) := by
  intro fu
  induction fu with
  | zero =>
    intro M x1 x2 x3 x4 hf
    rw [g_X3_drawLink_39] at hf
    cases hf
  | succ fu ih =>
    intro M x1 x2 x3 x4 hf
    rw [g_X3_drawLink_39] at hf
    refine q_iload C dX3_drawLink_39 4 rfl ?_
    refine q_aload_n C dX3_drawLink_41 rfl 0 rfl ?_
    obtain ⟨z1, h_z1, hf⟩ := bnd hf
    refine q_cVIw C (c_X3_nodes l D cI cJ cN m0 m1 m2 m3 m4 m5 m6 m7 M z1 h_z1) (mkV (fr := 0) (lo := 0) C xc_X3_nodes xm_X3_40 xi_X3_nodes xe_X3_nodes xn_X3 hd_X3_nodes ⟨Nat.le_of_ble_eq_true rfl, Nat.le_of_ble_eq_true rfl⟩) 0 rfl rfl rfl rfl (Nat.le_of_ble_eq_true rfl) dX3_drawLink_42 ⟨Nat.le_of_ble_eq_true rfl, Nat.le_of_ble_eq_true rfl⟩ (fun w1 hp1 => ?_)
    subst hp1
    refine q_icmp_ge C 65 dX3_drawLink_45 (by decide) (fun h => ?_) (fun h => ?_)
    · have hf := ifT hf h
      refine q_iload_n C dX3_drawLink_65 rfl 3 rfl ?_
      refine q_if_ne C 72 dX3_drawLink_66 (by decide) (fun h => ?_) (fun h => ?_)
      · have hf := ifF hf h
        refine q_aload_n C dX3_drawLink_72 rfl 0 rfl ?_
        refine q_iload_n C dX3_drawLink_73 rfl 3 rfl ?_
        obtain ⟨z2, h_z2, hf⟩ := bnd hf
        refine q_cVIw C (c_X3_draw l D cI cJ cN m0 m1 m2 m3 m4 m5 m6 m7 M x3 z2 h_z2) (mkV (fr := 0) (lo := 0) C xc_X3_draw xm_X3_92 xi_X3_draw xe_X3_draw xn_X3 hd_X3_draw ⟨Nat.le_of_ble_eq_true rfl, Nat.le_of_ble_eq_true rfl⟩) 0 rfl rfl rfl rfl (Nat.le_of_ble_eq_true rfl) dX3_drawLink_74 ⟨Nat.le_of_ble_eq_true rfl, Nat.le_of_ble_eq_true rfl⟩ (fun w1 hp1 => ?_)
        subst hp1
        refine q_istore (lv' := [(4, .int z2.1), (0, .ref m0), (1, .int x1), (2, .int x2), (3, .int x3)]) C dX3_drawLink_77 (by decide) rfl ?_
        refine q_iconst (v := 0) C dX3_drawLink_79 (by decide) ?_
        refine q_istore (lv' := [(5, .int (0 : Int32)), (4, .int z2.1), (0, .ref m0), (1, .int x1), (2, .int x2), (3, .int x3)]) C dX3_drawLink_80 (by decide) rfl ?_
        refine q_sub (lv' := [(0, .ref m0), (1, .int x1), (2, .int x2), (4, .int z2.1), (5, .int (0 : Int32))]) [2, 3, 4, 1, 0] rfl ?_
        exact l_X3_drawLink_82 C FU z2.2 x1 x2 z2.1 (0 : Int32) hf
      · have hf := ifT hf h
        refine q_bipush (v := -9) C dX3_drawLink_69 (by decide) ?_
        have hf := Option.some.inj hf
        subst hf
        exact q_iret C (Nat.le_of_ble_eq_true rfl) (Nat.le_of_ble_eq_true rfl) rfl dX3_drawLink_71
    · have hf := ifF hf h
      refine q_iload_n C dX3_drawLink_48 rfl 3 rfl ?_
      refine q_aload_n C dX3_drawLink_49 rfl 0 rfl ?_
      refine q_iload_n C dX3_drawLink_50 rfl 1 rfl ?_
      refine q_iload C dX3_drawLink_51 4 rfl ?_
      refine q_iload_n C dX3_drawLink_53 rfl 2 rfl ?_
      obtain ⟨z3, h_z3, hf⟩ := bnd hf
      refine q_cVIw C (c_X3_weight l D cI cJ cN m0 m1 m2 m3 m4 m5 m6 m7 M x1 x4 x2 z3 h_z3) (mkV (fr := 3) (lo := 67) C xc_X3_weight xm_X3_109 xi_X3_weight xe_X3_weight xn_X3 hd_X3_weight ⟨Nat.le_of_ble_eq_true rfl, Nat.le_of_ble_eq_true rfl⟩) 0 rfl rfl rfl rfl (Nat.le_of_ble_eq_true rfl) dX3_drawLink_54 ⟨Nat.le_of_ble_eq_true rfl, Nat.le_of_ble_eq_true rfl⟩ (fun w1 hp1 => ?_)
      subst hp1
      refine q_iadd C dX3_drawLink_57 ?_
      refine q_istore_n (lv' := [(3, .int (x3 + z3)), (0, .ref m0), (1, .int x1), (2, .int x2), (4, .int x4)]) C dX3_drawLink_58 rfl (by decide) rfl ?_
      refine q_iinc (v := (x4 + (1 : Int32))) (lv' := [(4, .int (x4 + (1 : Int32))), (3, .int (x3 + z3)), (0, .ref m0), (1, .int x1), (2, .int x2)]) C dX3_drawLink_59 4 rfl rfl (by decide) rfl ?_
      refine q_goto C 39 dX3_drawLink_62 (by decide) ?_
      refine q_sub (lv' := [(0, .ref m0), (1, .int x1), (2, .int x2), (3, .int (x3 + z3)), (4, .int (x4 + (1 : Int32)))]) [2, 3, 4, 1, 0] rfl ?_
      exact ih M x1 x2 (x3 + z3) (x4 + (1 : Int32)) hf
set_option maxRecDepth 100000 in
set_option maxHeartbeats 4000000 in
theorem c_X3_drawLink (l : Launch) (D : va_G) (cI cJ cN : ClassId) (m0 m1 m2 m3 m4 m5 m6 m7 : Nat)  (M : MS) (x1 : Int32) (x2 : Int32) (z : Int32 × MS) (hf : f_X3_drawLink M x1 x2 = some z) : MI l D cI cJ cN yX3_drawLink (WS yX3_drawLink cX3_drawLink 6 (some .int)) { frames := 4, cells := 0, slots := 0, locals := 91 } [.ref m0, .int x1, .int x2] (wMod cI cJ m0 m1 m2 m3 m4 m5 m6 m7 M) z.1 (fun w => w = wMod cI cJ m0 m1 m2 m3 m4 m5 m6 m7 z.2) := by
  rw [f_X3_drawLink] at hf
  refine q_startI (lv := [(0, .ref m0), (1, .int x1), (2, .int x2)]) (by decide +kernel) rfl (Nat.le_of_ble_eq_true rfl) ?_
  intro p e s m below meth c C hin
  refine q_aload_n C dX3_drawLink_0 rfl 0 rfl ?_
  refine q_iload_n C dX3_drawLink_1 rfl 1 rfl ?_
  obtain ⟨z1, h_z1, hf⟩ := bnd hf
  refine q_cVIw C (c_X3_isNode l D cI cJ cN m0 m1 m2 m3 m4 m5 m6 m7 M x1 z1 h_z1) (mkV (fr := 1) (lo := 22) C xc_X3_isNode xm_X3_106 xi_X3_isNode xe_X3_isNode xn_X3 hd_X3_isNode ⟨Nat.le_of_ble_eq_true rfl, Nat.le_of_ble_eq_true rfl⟩) 0 rfl rfl rfl rfl (Nat.le_of_ble_eq_true rfl) dX3_drawLink_2 ⟨Nat.le_of_ble_eq_true rfl, Nat.le_of_ble_eq_true rfl⟩ (fun w1 hp1 => ?_)
  subst hp1
  refine q_if_eq C 17 dX3_drawLink_5 (by decide) (fun h => ?_) (fun h => ?_)
  · have hf := ifT hf h
    refine q_iconst (v := -1) C dX3_drawLink_17 (by decide) ?_
    have hf := Option.some.inj hf
    subst hf
    exact q_iret C (Nat.le_of_ble_eq_true rfl) (Nat.le_of_ble_eq_true rfl) rfl dX3_drawLink_18
  · have hf := ifF hf h
    refine q_iload_n C dX3_drawLink_8 rfl 2 rfl ?_
    refine q_iconst (v := 0) C dX3_drawLink_9 (by decide) ?_
    refine q_iconst (v := 2) C dX3_drawLink_10 (by decide) ?_
    obtain ⟨z2, h_z2, hf⟩ := bnd hf
    refine q_cSI (ws' := wMod cI cJ m0 m1 m2 m3 m4 m5 m6 m7 M) C (c_X3_isIn l D cI cJ cN x2 (0 : Int32) (2 : Int32) z2 h_z2) (mkS (fr := 0) (lo := 0) C xc_X3_isIn xm_X3_44 xs_X3_isIn xn_X3 hd_X3_isIn ⟨Nat.le_of_ble_eq_true rfl, Nat.le_of_ble_eq_true rfl⟩) [] rfl (by decide) rfl rfl rfl rfl (Nat.le_of_ble_eq_true rfl) dX3_drawLink_11 ⟨Nat.le_of_ble_eq_true rfl, Nat.le_of_ble_eq_true rfl⟩ ?_
    refine q_if_ne C 19 dX3_drawLink_14 (by decide) (fun h => ?_) (fun h => ?_)
    · have hf := ifF hf h
      refine q_aload_n C dX3_drawLink_19 rfl 0 rfl ?_
      refine q_iload_n C dX3_drawLink_20 rfl 1 rfl ?_
      obtain ⟨z3, h_z3, hf⟩ := bnd hf
      refine q_cVIw C (c_X3_isPresent l D cI cJ cN m0 m1 m2 m3 m4 m5 m6 m7 M x1 z3 h_z3) (mkV (fr := 0) (lo := 0) C xc_X3_isPresent xm_X3_55 xi_X3_isPresent xe_X3_isPresent xn_X3 hd_X3_isPresent ⟨Nat.le_of_ble_eq_true rfl, Nat.le_of_ble_eq_true rfl⟩) 0 rfl rfl rfl rfl (Nat.le_of_ble_eq_true rfl) dX3_drawLink_21 ⟨Nat.le_of_ble_eq_true rfl, Nat.le_of_ble_eq_true rfl⟩ (fun w1 hp1 => ?_)
      subst hp1
      refine q_if_ne C 30 dX3_drawLink_24 (by decide) (fun h => ?_) (fun h => ?_)
      · have hf := ifF hf h
        refine q_aload_n C dX3_drawLink_30 rfl 0 rfl ?_
        obtain ⟨z4, h_z4, hf⟩ := bnd hf
        refine q_cVVw C (c_X3_remember l D cI cJ cN m0 m1 m2 m3 m4 m5 m6 m7 M z4 h_z4) (mkV (fr := 0) (lo := 0) C xc_X3_remember xm_X3_103 xi_X3_remember xe_X3_remember xn_X3 hd_X3_remember ⟨Nat.le_of_ble_eq_true rfl, Nat.le_of_ble_eq_true rfl⟩) 0 rfl rfl rfl rfl (Nat.le_of_ble_eq_true rfl) dX3_drawLink_31 ⟨Nat.le_of_ble_eq_true rfl, Nat.le_of_ble_eq_true rfl⟩ (fun w1 hp1 => ?_)
        subst hp1
        refine q_iconst (v := 0) C dX3_drawLink_34 (by decide) ?_
        refine q_istore_n (lv' := [(3, .int (0 : Int32)), (0, .ref m0), (1, .int x1), (2, .int x2)]) C dX3_drawLink_35 rfl (by decide) rfl ?_
        refine q_iconst (v := 0) C dX3_drawLink_36 (by decide) ?_
        refine q_istore (lv' := [(4, .int (0 : Int32)), (3, .int (0 : Int32)), (0, .ref m0), (1, .int x1), (2, .int x2)]) C dX3_drawLink_37 (by decide) rfl ?_
        refine q_sub (lv' := [(0, .ref m0), (1, .int x1), (2, .int x2), (3, .int (0 : Int32)), (4, .int (0 : Int32))]) [2, 3, 4, 1, 0] rfl ?_
        exact l_X3_drawLink_39 C FU z4 x1 x2 (0 : Int32) (0 : Int32) hf
      · have hf := ifT hf h
        refine q_bipush (v := -2) C dX3_drawLink_27 (by decide) ?_
        have hf := Option.some.inj hf
        subst hf
        exact q_iret C (Nat.le_of_ble_eq_true rfl) (Nat.le_of_ble_eq_true rfl) rfl dX3_drawLink_29
    · have hf := ifT hf h
      refine q_iconst (v := -1) C dX3_drawLink_17 (by decide) ?_
      have hf := Option.some.inj hf
      subst hf
      exact q_iret C (Nat.le_of_ble_eq_true rfl) (Nat.le_of_ble_eq_true rfl) rfl dX3_drawLink_18
set_option maxRecDepth 100000 in
set_option maxHeartbeats 4000000 in
theorem c_X3_seek (l : Launch) (D : va_G) (cI cJ cN : ClassId) (m0 m1 m2 m3 m4 m5 m6 m7 : Nat)  (M : MS) (x1 : Int32) (x2 : Int32) (z : Int32 × MS) (hf : f_X3_seek M x1 x2 = some z) : MI l D cI cJ cN yX3_seek (WS yX3_seek cX3_seek 3 (some .int)) { frames := 6, cells := 0, slots := 0, locals := 136 } [.ref m0, .int x1, .int x2] (wMod cI cJ m0 m1 m2 m3 m4 m5 m6 m7 M) z.1 (fun w => w = wMod cI cJ m0 m1 m2 m3 m4 m5 m6 m7 z.2) := by
  rw [f_X3_seek] at hf
  refine q_startI (lv := [(0, .ref m0), (1, .int x1), (2, .int x2)]) (by decide +kernel) rfl (Nat.le_of_ble_eq_true rfl) ?_
  intro p e s m below meth c C hin
  refine q_aload_n C dX3_seek_0 rfl 0 rfl ?_
  refine q_iload_n C dX3_seek_1 rfl 1 rfl ?_
  obtain ⟨z1, h_z1, hf⟩ := bnd hf
  refine q_cVIw C (c_X3_isNode l D cI cJ cN m0 m1 m2 m3 m4 m5 m6 m7 M x1 z1 h_z1) (mkV (fr := 1) (lo := 22) C xc_X3_isNode xm_X3_106 xi_X3_isNode xe_X3_isNode xn_X3 hd_X3_isNode ⟨Nat.le_of_ble_eq_true rfl, Nat.le_of_ble_eq_true rfl⟩) 0 rfl rfl rfl rfl (Nat.le_of_ble_eq_true rfl) dX3_seek_2 ⟨Nat.le_of_ble_eq_true rfl, Nat.le_of_ble_eq_true rfl⟩ (fun w1 hp1 => ?_)
  subst hp1
  refine q_if_eq C 16 dX3_seek_5 (by decide) (fun h => ?_) (fun h => ?_)
  · have hf := ifT hf h
    refine q_iconst (v := -1) C dX3_seek_16 (by decide) ?_
    have hf := Option.some.inj hf
    subst hf
    exact q_iret C (Nat.le_of_ble_eq_true rfl) (Nat.le_of_ble_eq_true rfl) rfl dX3_seek_17
  · have hf := ifF hf h
    refine q_aload_n C dX3_seek_8 rfl 0 rfl ?_
    refine q_iload_n C dX3_seek_9 rfl 2 rfl ?_
    obtain ⟨z2, h_z2, hf⟩ := bnd hf
    refine q_cVIw C (c_X3_isNode l D cI cJ cN m0 m1 m2 m3 m4 m5 m6 m7 M x2 z2 h_z2) (mkV (fr := 1) (lo := 22) C xc_X3_isNode xm_X3_106 xi_X3_isNode xe_X3_isNode xn_X3 hd_X3_isNode ⟨Nat.le_of_ble_eq_true rfl, Nat.le_of_ble_eq_true rfl⟩) 0 rfl rfl rfl rfl (Nat.le_of_ble_eq_true rfl) dX3_seek_10 ⟨Nat.le_of_ble_eq_true rfl, Nat.le_of_ble_eq_true rfl⟩ (fun w1 hp1 => ?_)
    subst hp1
    refine q_if_ne C 18 dX3_seek_13 (by decide) (fun h => ?_) (fun h => ?_)
    · have hf := ifF hf h
      refine q_aload_n C dX3_seek_18 rfl 0 rfl ?_
      refine q_iload_n C dX3_seek_19 rfl 1 rfl ?_
      obtain ⟨z3, h_z3, hf⟩ := bnd hf
      refine q_cVIw C (c_X3_isPresent l D cI cJ cN m0 m1 m2 m3 m4 m5 m6 m7 M x1 z3 h_z3) (mkV (fr := 0) (lo := 0) C xc_X3_isPresent xm_X3_55 xi_X3_isPresent xe_X3_isPresent xn_X3 hd_X3_isPresent ⟨Nat.le_of_ble_eq_true rfl, Nat.le_of_ble_eq_true rfl⟩) 0 rfl rfl rfl rfl (Nat.le_of_ble_eq_true rfl) dX3_seek_20 ⟨Nat.le_of_ble_eq_true rfl, Nat.le_of_ble_eq_true rfl⟩ (fun w1 hp1 => ?_)
      subst hp1
      refine q_if_eq C 34 dX3_seek_23 (by decide) (fun h => ?_) (fun h => ?_)
      · have hf := ifT hf h
        refine q_bipush (v := -2) C dX3_seek_34 (by decide) ?_
        have hf := Option.some.inj hf
        subst hf
        exact q_iret C (Nat.le_of_ble_eq_true rfl) (Nat.le_of_ble_eq_true rfl) rfl dX3_seek_36
      · have hf := ifF hf h
        refine q_aload_n C dX3_seek_26 rfl 0 rfl ?_
        refine q_iload_n C dX3_seek_27 rfl 2 rfl ?_
        obtain ⟨z4, h_z4, hf⟩ := bnd hf
        refine q_cVIw C (c_X3_isPresent l D cI cJ cN m0 m1 m2 m3 m4 m5 m6 m7 M x2 z4 h_z4) (mkV (fr := 0) (lo := 0) C xc_X3_isPresent xm_X3_55 xi_X3_isPresent xe_X3_isPresent xn_X3 hd_X3_isPresent ⟨Nat.le_of_ble_eq_true rfl, Nat.le_of_ble_eq_true rfl⟩) 0 rfl rfl rfl rfl (Nat.le_of_ble_eq_true rfl) dX3_seek_28 ⟨Nat.le_of_ble_eq_true rfl, Nat.le_of_ble_eq_true rfl⟩ (fun w1 hp1 => ?_)
        subst hp1
        refine q_if_ne C 37 dX3_seek_31 (by decide) (fun h => ?_) (fun h => ?_)
        · have hf := ifF hf h
          refine q_aload_n C dX3_seek_37 rfl 0 rfl ?_
          obtain ⟨z5, h_z5, hf⟩ := bnd hf
          refine q_cVVw C (c_X3_remember l D cI cJ cN m0 m1 m2 m3 m4 m5 m6 m7 M z5 h_z5) (mkV (fr := 0) (lo := 0) C xc_X3_remember xm_X3_103 xi_X3_remember xe_X3_remember xn_X3 hd_X3_remember ⟨Nat.le_of_ble_eq_true rfl, Nat.le_of_ble_eq_true rfl⟩) 0 rfl rfl rfl rfl (Nat.le_of_ble_eq_true rfl) dX3_seek_38 ⟨Nat.le_of_ble_eq_true rfl, Nat.le_of_ble_eq_true rfl⟩ (fun w1 hp1 => ?_)
          subst hp1
          refine q_aload_n C dX3_seek_41 rfl 0 rfl ?_
          refine q_iload_n C dX3_seek_42 rfl 1 rfl ?_
          refine q_iload_n C dX3_seek_43 rfl 2 rfl ?_
          obtain ⟨z6, h_z6, hf⟩ := bnd hf
          refine q_cVVw C (c_X3_lookUp l D cI cJ cN m0 m1 m2 m3 m4 m5 m6 m7 z5 x1 x2 z6 h_z6) (mkV (fr := 5) (lo := 114) C xc_X3_lookUp xm_X3_113 xi_X3_lookUp xe_X3_lookUp xn_X3 hd_X3_lookUp ⟨Nat.le_of_ble_eq_true rfl, Nat.le_of_ble_eq_true rfl⟩) 0 rfl rfl rfl rfl (Nat.le_of_ble_eq_true rfl) dX3_seek_44 ⟨Nat.le_of_ble_eq_true rfl, Nat.le_of_ble_eq_true rfl⟩ (fun w1 hp1 => ?_)
          subst hp1
          refine q_aload_n C dX3_seek_47 rfl 0 rfl ?_
          refine q_get C (uW uX3_in) 0 rfl rfl 7 (by decide) (ws_in xf_X3_85) rfl rfl dX3_seek_48 ?_
          refine q_if_eq C 61 dX3_seek_51 (by decide) (fun h => ?_) (fun h => ?_)
          · have hf := ifT hf h
            refine q_bipush (v := -9) C dX3_seek_61 (by decide) ?_
            have hf := Option.some.inj hf
            subst hf
            exact q_iret C (Nat.le_of_ble_eq_true rfl) (Nat.le_of_ble_eq_true rfl) rfl dX3_seek_63
          · have hf := ifF hf h
            refine q_aload_n C dX3_seek_54 rfl 0 rfl ?_
            refine q_get C (uW uX3_in) 0 rfl rfl 6 (by decide) (ws_in xf_X3_79) rfl rfl dX3_seek_55 ?_
            refine q_goto C 63 dX3_seek_58 (by decide) ?_
            have hf := Option.some.inj hf
            subst hf
            exact q_iret C (Nat.le_of_ble_eq_true rfl) (Nat.le_of_ble_eq_true rfl) rfl dX3_seek_63
        · have hf := ifT hf h
          refine q_bipush (v := -2) C dX3_seek_34 (by decide) ?_
          have hf := Option.some.inj hf
          subst hf
          exact q_iret C (Nat.le_of_ble_eq_true rfl) (Nat.le_of_ble_eq_true rfl) rfl dX3_seek_36
    · have hf := ifT hf h
      refine q_iconst (v := -1) C dX3_seek_16 (by decide) ?_
      have hf := Option.some.inj hf
      subst hf
      exact q_iret C (Nat.le_of_ble_eq_true rfl) (Nat.le_of_ble_eq_true rfl) rfl dX3_seek_17
set_option maxRecDepth 100000 in
set_option maxHeartbeats 4000000 in
theorem l_X3_seekSome_20 {p : Program} {l : Launch} {e : Env} {s : State} {m : MethodId} {args : Array Value} {below : List Frame} {meth : Method} {c : Code} {D : va_G} {cI cJ cN : ClassId} {W0 : va_W} {m0 m1 m2 m3 m4 m5 m6 m7 : Nat} {z : Int32 × MS} (C : CX p l s m args meth c cX3_seekSome 6 yX3_seekSome.cls (WS yX3_seekSome cX3_seekSome 6 (some .int)) (some .int) D cI cJ cN (va_A W0 s.heap.size)) : ∀ (fu : Nat) (M : MS) (x1 : Int32) (x2 : Int32) (x3 : Int32), g_X3_seekSome_20 fu M x1 x2 x3 = some z → WW p l e { frames := 6, cells := 0, slots := 0, locals := 136 } s m args below meth c D 6 (va_A W0 s.heap.size) 0 0 (QI below args s D W0 { frames := 6, cells := 0, slots := 0, locals := 136 } z.1 (fun w => w = wMod cI cJ m0 m1 m2 m3 m4 m5 m6 m7 z.2)) 20 [(0, .ref m0), (1, .int x1), (2, .int x2), (3, .int x3)] [] (wMod cI cJ m0 m1 m2 m3 m4 m5 m6 m7 M) := by
  intro fu
  induction fu with
  | zero =>
    intro M x1 x2 x3 hf
    rw [g_X3_seekSome_20] at hf
    cases hf
  | succ fu ih =>
    intro M x1 x2 x3 hf
    rw [g_X3_seekSome_20] at hf
    refine q_iload_n C dX3_seekSome_20 rfl 3 rfl ?_
    refine q_iload_n C dX3_seekSome_21 rfl 1 rfl ?_
    refine q_icmp_ge C 92 dX3_seekSome_22 (by decide) (fun h => ?_) (fun h => ?_)
    · have hf := ifT hf h
      refine q_iload_n C dX3_seekSome_92 rfl 2 rfl ?_
      have hf := Option.some.inj hf
      subst hf
      exact q_iret C (Nat.le_of_ble_eq_true rfl) (Nat.le_of_ble_eq_true rfl) rfl dX3_seekSome_93
    · have hf := ifF hf h
      refine q_aload_n C dX3_seekSome_25 rfl 0 rfl ?_
      refine q_aload_n C dX3_seekSome_26 rfl 0 rfl ?_
      obtain ⟨z1, h_z1, hf⟩ := bnd hf
      refine q_cVIw C (c_X3_nodes l D cI cJ cN m0 m1 m2 m3 m4 m5 m6 m7 M z1 h_z1) (mkV (fr := 0) (lo := 0) C xc_X3_nodes xm_X3_40 xi_X3_nodes xe_X3_nodes xn_X3 hd_X3_nodes ⟨Nat.le_of_ble_eq_true rfl, Nat.le_of_ble_eq_true rfl⟩) 0 rfl rfl rfl rfl (Nat.le_of_ble_eq_true rfl) dX3_seekSome_27 ⟨Nat.le_of_ble_eq_true rfl, Nat.le_of_ble_eq_true rfl⟩ (fun w1 hp1 => ?_)
      subst hp1
      obtain ⟨z2, h_z2, hf⟩ := bnd hf
      refine q_cVIw C (c_X3_draw l D cI cJ cN m0 m1 m2 m3 m4 m5 m6 m7 M z1 z2 h_z2) (mkV (fr := 0) (lo := 0) C xc_X3_draw xm_X3_92 xi_X3_draw xe_X3_draw xn_X3 hd_X3_draw ⟨Nat.le_of_ble_eq_true rfl, Nat.le_of_ble_eq_true rfl⟩) 0 rfl rfl rfl rfl (Nat.le_of_ble_eq_true rfl) dX3_seekSome_30 ⟨Nat.le_of_ble_eq_true rfl, Nat.le_of_ble_eq_true rfl⟩ (fun w1 hp1 => ?_)
      subst hp1
      refine q_istore (lv' := [(4, .int z2.1), (0, .ref m0), (1, .int x1), (2, .int x2), (3, .int x3)]) C dX3_seekSome_33 (by decide) rfl ?_
      refine q_aload_n C dX3_seekSome_35 rfl 1 rfl ?_
      refine q_aload_n C dX3_seekSome_36 rfl 1 rfl ?_
      obtain ⟨z3, h_z3, hf⟩ := bnd hf
      refine q_cVIw C (c_X3_nodes l D cI cJ cN m0 m1 m2 m3 m4 m5 m6 m7 z2.2 z3 h_z3) (mkV (fr := 0) (lo := 0) C xc_X3_nodes xm_X3_40 xi_X3_nodes xe_X3_nodes xn_X3 hd_X3_nodes ⟨Nat.le_of_ble_eq_true rfl, Nat.le_of_ble_eq_true rfl⟩) 0 rfl rfl rfl rfl (Nat.le_of_ble_eq_true rfl) dX3_seekSome_37 ⟨Nat.le_of_ble_eq_true rfl, Nat.le_of_ble_eq_true rfl⟩ (fun w1 hp1 => ?_)
      subst hp1
      obtain ⟨z4, h_z4, hf⟩ := bnd hf
      refine q_cVIw C (c_X3_draw l D cI cJ cN m0 m1 m2 m3 m4 m5 m6 m7 z2.2 z3 z4 h_z4) (mkV (fr := 0) (lo := 0) C xc_X3_draw xm_X3_92 xi_X3_draw xe_X3_draw xn_X3 hd_X3_draw ⟨Nat.le_of_ble_eq_true rfl, Nat.le_of_ble_eq_true rfl⟩) 0 rfl rfl rfl rfl (Nat.le_of_ble_eq_true rfl) dX3_seekSome_40 ⟨Nat.le_of_ble_eq_true rfl, Nat.le_of_ble_eq_true rfl⟩ (fun w1 hp1 => ?_)
      subst hp1
      refine q_istore (lv' := [(5, .int z4.1), (4, .int z2.1), (0, .ref m0), (1, .int x1), (2, .int x2), (3, .int x3)]) C dX3_seekSome_43 (by decide) rfl ?_
      refine q_aload_n C dX3_seekSome_45 rfl 2 rfl ?_
      refine q_iload C dX3_seekSome_46 1 rfl ?_
      obtain ⟨z5, h_z5, hf⟩ := bnd hf
      refine q_cVIw C (c_X3_isPresent l D cI cJ cN m0 m1 m2 m3 m4 m5 m6 m7 z4.2 z2.1 z5 h_z5) (mkV (fr := 0) (lo := 0) C xc_X3_isPresent xm_X3_55 xi_X3_isPresent xe_X3_isPresent xn_X3 hd_X3_isPresent ⟨Nat.le_of_ble_eq_true rfl, Nat.le_of_ble_eq_true rfl⟩) 0 rfl rfl rfl rfl (Nat.le_of_ble_eq_true rfl) dX3_seekSome_48 ⟨Nat.le_of_ble_eq_true rfl, Nat.le_of_ble_eq_true rfl⟩ (fun w1 hp1 => ?_)
      subst hp1
      refine q_if_eq C 86 dX3_seekSome_51 (by decide) (fun h => ?_) (fun h => ?_)
      · have hf := ifT hf h
        refine q_iinc (v := (x3 + (1 : Int32))) (lv' := [(3, .int (x3 + (1 : Int32))), (5, .int z4.1), (4, .int z2.1), (0, .ref m0), (1, .int x1), (2, .int x2)]) C dX3_seekSome_86 5 rfl rfl (by decide) rfl ?_
        refine q_goto C 20 dX3_seekSome_89 (by decide) ?_
        refine q_sub (lv' := [(0, .ref m0), (1, .int x1), (2, .int x2), (3, .int (x3 + (1 : Int32)))]) [3, 4, 5, 0] rfl ?_
        exact ih z4.2 x1 x2 (x3 + (1 : Int32)) hf
      · have hf := ifF hf h
        refine q_aload_n C dX3_seekSome_54 rfl 2 rfl ?_
        refine q_iload C dX3_seekSome_55 0 rfl ?_
        obtain ⟨z6, h_z6, hf⟩ := bnd hf
        refine q_cVIw C (c_X3_isPresent l D cI cJ cN m0 m1 m2 m3 m4 m5 m6 m7 z4.2 z4.1 z6 h_z6) (mkV (fr := 0) (lo := 0) C xc_X3_isPresent xm_X3_55 xi_X3_isPresent xe_X3_isPresent xn_X3 hd_X3_isPresent ⟨Nat.le_of_ble_eq_true rfl, Nat.le_of_ble_eq_true rfl⟩) 0 rfl rfl rfl rfl (Nat.le_of_ble_eq_true rfl) dX3_seekSome_57 ⟨Nat.le_of_ble_eq_true rfl, Nat.le_of_ble_eq_true rfl⟩ (fun w1 hp1 => ?_)
        subst hp1
        refine q_if_eq C 86 dX3_seekSome_60 (by decide) (fun h => ?_) (fun h => ?_)
        · have hf := ifT hf h
          refine q_iinc (v := (x3 + (1 : Int32))) (lv' := [(3, .int (x3 + (1 : Int32))), (5, .int z4.1), (4, .int z2.1), (0, .ref m0), (1, .int x1), (2, .int x2)]) C dX3_seekSome_86 5 rfl rfl (by decide) rfl ?_
          refine q_goto C 20 dX3_seekSome_89 (by decide) ?_
          refine q_sub (lv' := [(0, .ref m0), (1, .int x1), (2, .int x2), (3, .int (x3 + (1 : Int32)))]) [3, 4, 5, 0] rfl ?_
          exact ih z4.2 x1 x2 (x3 + (1 : Int32)) hf
        · have hf := ifF hf h
          refine q_aload_n C dX3_seekSome_63 rfl 2 rfl ?_
          refine q_iload C dX3_seekSome_64 1 rfl ?_
          refine q_iload C dX3_seekSome_66 0 rfl ?_
          obtain ⟨z7, h_z7, hf⟩ := bnd hf
          refine q_cVVw C (c_X3_lookUp l D cI cJ cN m0 m1 m2 m3 m4 m5 m6 m7 z4.2 z2.1 z4.1 z7 h_z7) (mkV (fr := 5) (lo := 114) C xc_X3_lookUp xm_X3_113 xi_X3_lookUp xe_X3_lookUp xn_X3 hd_X3_lookUp ⟨Nat.le_of_ble_eq_true rfl, Nat.le_of_ble_eq_true rfl⟩) 0 rfl rfl rfl rfl (Nat.le_of_ble_eq_true rfl) dX3_seekSome_68 ⟨Nat.le_of_ble_eq_true rfl, Nat.le_of_ble_eq_true rfl⟩ (fun w1 hp1 => ?_)
          subst hp1
          refine q_iload_n C dX3_seekSome_71 rfl 4 rfl ?_
          refine q_aload_n C dX3_seekSome_72 rfl 2 rfl ?_
          refine q_get C (uW uX3_in) 0 rfl rfl 7 (by decide) (ws_in xf_X3_85) rfl rfl dX3_seekSome_73 ?_
          refine q_if_eq C 83 dX3_seekSome_76 (by decide) (fun h => ?_) (fun h => ?_)
          · have hf := ifT hf h
            refine q_iconst (v := 0) C dX3_seekSome_83 (by decide) ?_
            refine q_iadd C dX3_seekSome_84 ?_
            refine q_istore_n (lv' := [(2, .int (x2 + (0 : Int32))), (5, .int z4.1), (4, .int z2.1), (0, .ref m0), (1, .int x1), (3, .int x3)]) C dX3_seekSome_85 rfl (by decide) rfl ?_
            refine q_iinc (v := (x3 + (1 : Int32))) (lv' := [(3, .int (x3 + (1 : Int32))), (2, .int (x2 + (0 : Int32))), (5, .int z4.1), (4, .int z2.1), (0, .ref m0), (1, .int x1)]) C dX3_seekSome_86 5 rfl rfl (by decide) rfl ?_
            refine q_goto C 20 dX3_seekSome_89 (by decide) ?_
            refine q_sub (lv' := [(0, .ref m0), (1, .int x1), (2, .int (x2 + (0 : Int32))), (3, .int (x3 + (1 : Int32)))]) [4, 5, 1, 0] rfl ?_
            exact ih z7 x1 (x2 + (0 : Int32)) (x3 + (1 : Int32)) hf
          · have hf := ifF hf h
            refine q_iconst (v := 1) C dX3_seekSome_79 (by decide) ?_
            refine q_goto C 84 dX3_seekSome_80 (by decide) ?_
            refine q_iadd C dX3_seekSome_84 ?_
            refine q_istore_n (lv' := [(2, .int (x2 + (1 : Int32))), (5, .int z4.1), (4, .int z2.1), (0, .ref m0), (1, .int x1), (3, .int x3)]) C dX3_seekSome_85 rfl (by decide) rfl ?_
            refine q_iinc (v := (x3 + (1 : Int32))) (lv' := [(3, .int (x3 + (1 : Int32))), (2, .int (x2 + (1 : Int32))), (5, .int z4.1), (4, .int z2.1), (0, .ref m0), (1, .int x1)]) C dX3_seekSome_86 5 rfl rfl (by decide) rfl ?_
            refine q_goto C 20 dX3_seekSome_89 (by decide) ?_
            refine q_sub (lv' := [(0, .ref m0), (1, .int x1), (2, .int (x2 + (1 : Int32))), (3, .int (x3 + (1 : Int32)))]) [4, 5, 1, 0] rfl ?_
            exact ih z7 x1 (x2 + (1 : Int32)) (x3 + (1 : Int32)) hf
set_option maxRecDepth 100000 in
set_option maxHeartbeats 4000000 in
theorem c_X3_seekSome (l : Launch) (D : va_G) (cI cJ cN : ClassId) (m0 m1 m2 m3 m4 m5 m6 m7 : Nat)  (M : MS) (x1 : Int32) (z : Int32 × MS) (hf : f_X3_seekSome M x1 = some z) : MI l D cI cJ cN yX3_seekSome (WS yX3_seekSome cX3_seekSome 6 (some .int)) { frames := 6, cells := 0, slots := 0, locals := 136 } [.ref m0, .int x1] (wMod cI cJ m0 m1 m2 m3 m4 m5 m6 m7 M) z.1 (fun w => w = wMod cI cJ m0 m1 m2 m3 m4 m5 m6 m7 z.2) := by
  rw [f_X3_seekSome] at hf
  refine q_startI (lv := [(0, .ref m0), (1, .int x1)]) (by decide +kernel) rfl (Nat.le_of_ble_eq_true rfl) ?_
  intro p e s m below meth c C hin
  refine q_iload_n C dX3_seekSome_0 rfl 1 rfl ?_
  refine q_iconst (v := 1) C dX3_seekSome_1 (by decide) ?_
  refine q_bipush (v := 20) C dX3_seekSome_2 (by decide) ?_
  obtain ⟨z1, h_z1, hf⟩ := bnd hf
  refine q_cSI (ws' := wMod cI cJ m0 m1 m2 m3 m4 m5 m6 m7 M) C (c_X3_isIn l D cI cJ cN x1 (1 : Int32) (20 : Int32) z1 h_z1) (mkS (fr := 0) (lo := 0) C xc_X3_isIn xm_X3_44 xs_X3_isIn xn_X3 hd_X3_isIn ⟨Nat.le_of_ble_eq_true rfl, Nat.le_of_ble_eq_true rfl⟩) [] rfl (by decide) rfl rfl rfl rfl (Nat.le_of_ble_eq_true rfl) dX3_seekSome_4 ⟨Nat.le_of_ble_eq_true rfl, Nat.le_of_ble_eq_true rfl⟩ ?_
  refine q_if_ne C 12 dX3_seekSome_7 (by decide) (fun h => ?_) (fun h => ?_)
  · have hf := ifF hf h
    refine q_aload_n C dX3_seekSome_12 rfl 0 rfl ?_
    obtain ⟨z2, h_z2, hf⟩ := bnd hf
    refine q_cVVw C (c_X3_remember l D cI cJ cN m0 m1 m2 m3 m4 m5 m6 m7 M z2 h_z2) (mkV (fr := 0) (lo := 0) C xc_X3_remember xm_X3_103 xi_X3_remember xe_X3_remember xn_X3 hd_X3_remember ⟨Nat.le_of_ble_eq_true rfl, Nat.le_of_ble_eq_true rfl⟩) 0 rfl rfl rfl rfl (Nat.le_of_ble_eq_true rfl) dX3_seekSome_13 ⟨Nat.le_of_ble_eq_true rfl, Nat.le_of_ble_eq_true rfl⟩ (fun w1 hp1 => ?_)
    subst hp1
    refine q_iconst (v := 0) C dX3_seekSome_16 (by decide) ?_
    refine q_istore_n (lv' := [(2, .int (0 : Int32)), (0, .ref m0), (1, .int x1)]) C dX3_seekSome_17 rfl (by decide) rfl ?_
    refine q_iconst (v := 0) C dX3_seekSome_18 (by decide) ?_
    refine q_istore_n (lv' := [(3, .int (0 : Int32)), (2, .int (0 : Int32)), (0, .ref m0), (1, .int x1)]) C dX3_seekSome_19 rfl (by decide) rfl ?_
    refine q_sub (lv' := [(0, .ref m0), (1, .int x1), (2, .int (0 : Int32)), (3, .int (0 : Int32))]) [2, 3, 1, 0] rfl ?_
    exact l_X3_seekSome_20 C FU z2 x1 (0 : Int32) (0 : Int32) hf
  · have hf := ifT hf h
    refine q_iconst (v := -1) C dX3_seekSome_10 (by decide) ?_
    have hf := Option.some.inj hf
    subst hf
    exact q_iret C (Nat.le_of_ble_eq_true rfl) (Nat.le_of_ble_eq_true rfl) rfl dX3_seekSome_11
set_option maxRecDepth 100000 in
set_option maxHeartbeats 4000000 in
theorem l_X3_allLengths_14 {p : Program} {l : Launch} {e : Env} {s : State} {m : MethodId} {args : Array Value} {below : List Frame} {meth : Method} {c : Code} {D : va_G} {cI cJ cN : ClassId} {W0 : va_W} {m0 m1 m2 m3 m4 m5 m6 m7 : Nat} {z : Int32} (C : CX p l s m args meth c cX3_allLengths 4 yX3_allLengths.cls (WS yX3_allLengths cX3_allLengths 4 (some .int)) (some .int) D cI cJ cN (va_A W0 s.heap.size)) {K4 : MS → Int32 → Int32 → Option (Int32)} (hK4 : ∀ (M : MS) (x1 : Int32) (x2 : Int32), K4 M x1 x2 = some z → WW p l e { frames := 2, cells := 0, slots := 0, locals := 45 } s m args below meth c D 4 (va_A W0 s.heap.size) 0 0 (QI below args s D W0 { frames := 2, cells := 0, slots := 0, locals := 45 } z (fun w => w = wMod cI cJ m0 m1 m2 m3 m4 m5 m6 m7 M)) 4 [(0, .ref m0), (1, .int x1), (2, .int x2)] [] (wMod cI cJ m0 m1 m2 m3 m4 m5 m6 m7 M)) : ∀ (fu : Nat) (M : MS) (x1 : Int32) (x2 : Int32) (x3 : Int32), g_X3_allLengths_14 K4 fu M x1 x2 x3 = some z → WW p l e { frames := 2, cells := 0, slots := 0, locals := 45 } s m args below meth c D 4 (va_A W0 s.heap.size) 0 0 (QI below args s D W0 { frames := 2, cells := 0, slots := 0, locals := 45 } z (fun w => w = wMod cI cJ m0 m1 m2 m3 m4 m5 m6 m7 M)) 14 [(0, .ref m0), (1, .int x1), (2, .int x2), (3, .int x3)] [] (wMod cI cJ m0 m1 m2 m3 m4 m5 m6 m7 M) := by
  intro fu
  induction fu with
  | zero =>
    intro M x1 x2 x3 hf
    rw [g_X3_allLengths_14] at hf
    cases hf
  | succ fu ih =>
    intro M x1 x2 x3 hf
    rw [g_X3_allLengths_14] at hf
    refine q_iload_n C dX3_allLengths_14 rfl 3 rfl ?_
    refine q_aload_n C dX3_allLengths_15 rfl 0 rfl ?_
    refine q_get C (uW uX3_in) 0 rfl rfl 0 (by decide) (ws_in xf_X3_7) rfl rfl dX3_allLengths_16 ?_
    refine q_bipush (v := 104) C dX3_allLengths_19 (by decide) ?_
    refine q_iload_n C dX3_allLengths_21 rfl 2 rfl ?_
    refine q_iadd C dX3_allLengths_22 ?_
    obtain ⟨hg, hf⟩ := gd_some hf
    refine q_iald C 1 rfl hg dX3_allLengths_23 ?_
    refine q_icmp_ge C 47 dX3_allLengths_24 (by decide) (fun h => ?_) (fun h => ?_)
    · have hf := ifT hf h
      refine q_iinc (v := (x2 + (1 : Int32))) (lv' := [(2, .int (x2 + (1 : Int32))), (0, .ref m0), (1, .int x1), (3, .int x3)]) C dX3_allLengths_47 2 rfl rfl (by decide) rfl ?_
      refine q_goto C 4 dX3_allLengths_50 (by decide) ?_
      refine q_sub (lv' := [(0, .ref m0), (1, .int x1), (2, .int (x2 + (1 : Int32)))]) [1, 2, 0] rfl ?_
      exact hK4 M x1 (x2 + (1 : Int32)) hf
    · have hf := ifF hf h
      refine q_iload_n C dX3_allLengths_27 rfl 1 rfl ?_
      refine q_aload_n C dX3_allLengths_28 rfl 0 rfl ?_
      refine q_iload_n C dX3_allLengths_29 rfl 2 rfl ?_
      refine q_aload_n C dX3_allLengths_30 rfl 0 rfl ?_
      refine q_iload_n C dX3_allLengths_31 rfl 2 rfl ?_
      refine q_iload_n C dX3_allLengths_32 rfl 3 rfl ?_
      obtain ⟨z1, h_z1, hf⟩ := bnd hf
      refine q_cVIw C (c_X3_at l D cI cJ cN m0 m1 m2 m3 m4 m5 m6 m7 M x2 x3 z1 h_z1) (mkV (fr := 0) (lo := 0) C xc_X3_at xm_X3_52 xi_X3_at xe_X3_at xn_X3 hd_X3_at ⟨Nat.le_of_ble_eq_true rfl, Nat.le_of_ble_eq_true rfl⟩) 0 rfl rfl rfl rfl (Nat.le_of_ble_eq_true rfl) dX3_allLengths_33 ⟨Nat.le_of_ble_eq_true rfl, Nat.le_of_ble_eq_true rfl⟩ (fun w1 hp1 => ?_)
      subst hp1
      obtain ⟨z2, h_z2, hf⟩ := bnd hf
      refine q_cVIw C (c_X3_far l D cI cJ cN m0 m1 m2 m3 m4 m5 m6 m7 M x2 z1 z2 h_z2) (mkV (fr := 1) (lo := 21) C xc_X3_far xm_X3_59 xi_X3_far xe_X3_far xn_X3 hd_X3_far ⟨Nat.le_of_ble_eq_true rfl, Nat.le_of_ble_eq_true rfl⟩) 0 rfl rfl rfl rfl (Nat.le_of_ble_eq_true rfl) dX3_allLengths_36 ⟨Nat.le_of_ble_eq_true rfl, Nat.le_of_ble_eq_true rfl⟩ (fun w1 hp1 => ?_)
      subst hp1
      refine q_iadd C dX3_allLengths_39 ?_
      refine q_istore_n (lv' := [(1, .int (x1 + z2)), (0, .ref m0), (2, .int x2), (3, .int x3)]) C dX3_allLengths_40 rfl (by decide) rfl ?_
      refine q_iinc (v := (x3 + (1 : Int32))) (lv' := [(3, .int (x3 + (1 : Int32))), (1, .int (x1 + z2)), (0, .ref m0), (2, .int x2)]) C dX3_allLengths_41 3 rfl rfl (by decide) rfl ?_
      refine q_goto C 14 dX3_allLengths_44 (by decide) ?_
      refine q_sub (lv' := [(0, .ref m0), (1, .int (x1 + z2)), (2, .int x2), (3, .int (x3 + (1 : Int32)))]) [2, 1, 3, 0] rfl ?_
      exact ih M (x1 + z2) x2 (x3 + (1 : Int32)) hf
set_option maxRecDepth 100000 in
set_option maxHeartbeats 4000000 in
theorem l_X3_allLengths_4 {p : Program} {l : Launch} {e : Env} {s : State} {m : MethodId} {args : Array Value} {below : List Frame} {meth : Method} {c : Code} {D : va_G} {cI cJ cN : ClassId} {W0 : va_W} {m0 m1 m2 m3 m4 m5 m6 m7 : Nat} {z : Int32} (C : CX p l s m args meth c cX3_allLengths 4 yX3_allLengths.cls (WS yX3_allLengths cX3_allLengths 4 (some .int)) (some .int) D cI cJ cN (va_A W0 s.heap.size)) : ∀ (fu : Nat) (M : MS) (x1 : Int32) (x2 : Int32), g_X3_allLengths_4 fu M x1 x2 = some z → WW p l e { frames := 2, cells := 0, slots := 0, locals := 45 } s m args below meth c D 4 (va_A W0 s.heap.size) 0 0 (QI below args s D W0 { frames := 2, cells := 0, slots := 0, locals := 45 } z (fun w => w = wMod cI cJ m0 m1 m2 m3 m4 m5 m6 m7 M)) 4 [(0, .ref m0), (1, .int x1), (2, .int x2)] [] (wMod cI cJ m0 m1 m2 m3 m4 m5 m6 m7 M) := by
  intro fu
  induction fu with
  | zero =>
    intro M x1 x2 hf
    rw [g_X3_allLengths_4] at hf
    cases hf
  | succ fu ih =>
    intro M x1 x2 hf
    rw [g_X3_allLengths_4] at hf
    refine q_iload_n C dX3_allLengths_4 rfl 2 rfl ?_
    refine q_aload_n C dX3_allLengths_5 rfl 0 rfl ?_
    obtain ⟨z1, h_z1, hf⟩ := bnd hf
    refine q_cVIw C (c_X3_nodes l D cI cJ cN m0 m1 m2 m3 m4 m5 m6 m7 M z1 h_z1) (mkV (fr := 0) (lo := 0) C xc_X3_nodes xm_X3_40 xi_X3_nodes xe_X3_nodes xn_X3 hd_X3_nodes ⟨Nat.le_of_ble_eq_true rfl, Nat.le_of_ble_eq_true rfl⟩) 0 rfl rfl rfl rfl (Nat.le_of_ble_eq_true rfl) dX3_allLengths_6 ⟨Nat.le_of_ble_eq_true rfl, Nat.le_of_ble_eq_true rfl⟩ (fun w1 hp1 => ?_)
    subst hp1
    refine q_icmp_ge C 53 dX3_allLengths_9 (by decide) (fun h => ?_) (fun h => ?_)
    · have hf := ifT hf h
      refine q_iload_n C dX3_allLengths_53 rfl 1 rfl ?_
      have hf := Option.some.inj hf
      subst hf
      exact q_iret C (Nat.le_of_ble_eq_true rfl) (Nat.le_of_ble_eq_true rfl) rfl dX3_allLengths_54
    · have hf := ifF hf h
      refine q_iconst (v := 0) C dX3_allLengths_12 (by decide) ?_
      refine q_istore_n (lv' := [(3, .int (0 : Int32)), (0, .ref m0), (1, .int x1), (2, .int x2)]) C dX3_allLengths_13 rfl (by decide) rfl ?_
      refine q_sub (lv' := [(0, .ref m0), (1, .int x1), (2, .int x2), (3, .int (0 : Int32))]) [1, 2, 3, 0] rfl ?_
      exact l_X3_allLengths_14 C ih FU M x1 x2 (0 : Int32) hf
set_option maxRecDepth 100000 in
set_option maxHeartbeats 4000000 in
theorem c_X3_allLengths (l : Launch) (D : va_G) (cI cJ cN : ClassId) (m0 m1 m2 m3 m4 m5 m6 m7 : Nat)  (M : MS)  (z : Int32) (hf : f_X3_allLengths M = some z) : MI l D cI cJ cN yX3_allLengths (WS yX3_allLengths cX3_allLengths 4 (some .int)) { frames := 2, cells := 0, slots := 0, locals := 45 } [.ref m0] (wMod cI cJ m0 m1 m2 m3 m4 m5 m6 m7 M) z (fun w => w = wMod cI cJ m0 m1 m2 m3 m4 m5 m6 m7 M) := by
  rw [f_X3_allLengths] at hf
  refine q_startI (lv := [(0, .ref m0)]) (by decide +kernel) rfl (Nat.le_of_ble_eq_true rfl) ?_
  intro p e s m below meth c C hin
  refine q_iconst (v := 0) C dX3_allLengths_0 (by decide) ?_
  refine q_istore_n (lv' := [(1, .int (0 : Int32)), (0, .ref m0)]) C dX3_allLengths_1 rfl (by decide) rfl ?_
  refine q_iconst (v := 0) C dX3_allLengths_2 (by decide) ?_
  refine q_istore_n (lv' := [(2, .int (0 : Int32)), (1, .int (0 : Int32)), (0, .ref m0)]) C dX3_allLengths_3 rfl (by decide) rfl ?_
  refine q_sub (lv' := [(0, .ref m0), (1, .int (0 : Int32)), (2, .int (0 : Int32))]) [2, 1, 0] rfl ?_
  exact l_X3_allLengths_4 C FU M (0 : Int32) (0 : Int32) hf
set_option maxRecDepth 100000 in
set_option maxHeartbeats 4000000 in
theorem c_X3_swap (l : Launch) (D : va_G) (cI cJ cN : ClassId) (m0 m1 m2 m3 m4 m5 m6 m7 : Nat)  (M : MS) (x1 : Int32) (x2 : Int32) (z : MS) (hf : f_X3_swap M x1 x2 = some z) : MV l D cI cJ cN yX3_swap (WS yX3_swap cX3_swap 4 none) { frames := 0, cells := 0, slots := 0, locals := 0 } [.ref m0, .int x1, .int x2] (wMod cI cJ m0 m1 m2 m3 m4 m5 m6 m7 M) (fun w => w = wMod cI cJ m0 m1 m2 m3 m4 m5 m6 m7 z) := by
  rw [f_X3_swap] at hf
  refine q_startV (lv := [(0, .ref m0), (1, .int x1), (2, .int x2)]) (by decide +kernel) rfl (Nat.le_of_ble_eq_true rfl) ?_
  intro p e s m below meth c C hin
  refine q_aload_n C dX3_swap_0 rfl 0 rfl ?_
  refine q_get C (uW uX3_in) 0 rfl rfl 0 (by decide) (ws_in xf_X3_7) rfl rfl dX3_swap_1 ?_
  refine q_bipush (v := 6) C dX3_swap_4 (by decide) ?_
  refine q_iload_n C dX3_swap_6 rfl 1 rfl ?_
  refine q_iadd C dX3_swap_7 ?_
  obtain ⟨hg, hf⟩ := gd_some hf
  refine q_iald C 1 rfl hg dX3_swap_8 ?_
  obtain ⟨z1, e_z1, hf⟩ := bndv hf
  refine q_topi e_z1 ?_
  refine q_istore_n (lv' := [(3, .int z1), (0, .ref m0), (1, .int x1), (2, .int x2)]) C dX3_swap_9 rfl (by decide) rfl ?_
  refine q_aload_n C dX3_swap_10 rfl 1 rfl ?_
  refine q_get C (uW uX3_in) 0 rfl rfl 0 (by decide) (ws_in xf_X3_7) rfl rfl dX3_swap_11 ?_
  refine q_bipush (v := 6) C dX3_swap_14 (by decide) ?_
  refine q_iload_n C dX3_swap_16 rfl 2 rfl ?_
  refine q_iadd C dX3_swap_17 ?_
  refine q_aload_n C dX3_swap_18 rfl 1 rfl ?_
  refine q_get C (uW uX3_in) 0 rfl rfl 0 (by decide) (ws_in xf_X3_7) rfl rfl dX3_swap_19 ?_
  refine q_bipush (v := 6) C dX3_swap_22 (by decide) ?_
  refine q_iload_n C dX3_swap_24 rfl 3 rfl ?_
  refine q_iadd C dX3_swap_25 ?_
  obtain ⟨hg, hf⟩ := gd_some hf
  refine q_iald C 1 rfl hg dX3_swap_26 ?_
  obtain ⟨hg, hf⟩ := gd_some hf
  refine q_iast (ws' := wMod cI cJ m0 m1 m2 m3 m4 m5 m6 m7 ((upd M.1 ((6 : Int32) + x1).toNatClampNeg (M.1 ((6 : Int32) + x2).toNatClampNeg)), M.2.1, M.2.2.1, M.2.2.2.1, M.2.2.2.2.1, M.2.2.2.2.2.1, M.2.2.2.2.2.2.1, M.2.2.2.2.2.2.2.1, M.2.2.2.2.2.2.2.2.1, M.2.2.2.2.2.2.2.2.2.1, M.2.2.2.2.2.2.2.2.2.2)) C 1 rfl hg dX3_swap_27 rfl ?_
  refine q_aload_n C dX3_swap_28 rfl 1 rfl ?_
  refine q_get C (uW uX3_in) 0 rfl rfl 0 (by decide) (ws_in xf_X3_7) rfl rfl dX3_swap_29 ?_
  refine q_bipush (v := 6) C dX3_swap_32 (by decide) ?_
  refine q_iload_n C dX3_swap_34 rfl 3 rfl ?_
  refine q_iadd C dX3_swap_35 ?_
  refine q_iload_n C dX3_swap_36 rfl 0 rfl ?_
  obtain ⟨hg, hf⟩ := gd_some hf
  refine q_iast (ws' := wMod cI cJ m0 m1 m2 m3 m4 m5 m6 m7 ((upd (upd M.1 ((6 : Int32) + x1).toNatClampNeg (M.1 ((6 : Int32) + x2).toNatClampNeg)) ((6 : Int32) + x2).toNatClampNeg z1), M.2.1, M.2.2.1, M.2.2.2.1, M.2.2.2.2.1, M.2.2.2.2.2.1, M.2.2.2.2.2.2.1, M.2.2.2.2.2.2.2.1, M.2.2.2.2.2.2.2.2.1, M.2.2.2.2.2.2.2.2.2.1, M.2.2.2.2.2.2.2.2.2.2)) C 1 rfl hg dX3_swap_37 rfl ?_
  have hf := Option.some.inj hf
  subst hf
  exact q_vret C (Nat.le_of_ble_eq_true rfl) (Nat.le_of_ble_eq_true rfl) rfl dX3_swap_38
set_option maxRecDepth 100000 in
set_option maxHeartbeats 4000000 in
theorem c_X3_exchange (l : Launch) (D : va_G) (cI cJ cN : ClassId) (m0 m1 m2 m3 m4 m5 m6 m7 : Nat)  (M : MS) (x1 : Int32) (x2 : Int32) (z : Int32 × MS) (hf : f_X3_exchange M x1 x2 = some z) : MI l D cI cJ cN yX3_exchange (WS yX3_exchange cX3_exchange 4 (some .int)) { frames := 3, cells := 0, slots := 0, locals := 68 } [.ref m0, .int x1, .int x2] (wMod cI cJ m0 m1 m2 m3 m4 m5 m6 m7 M) z.1 (fun w => w = wMod cI cJ m0 m1 m2 m3 m4 m5 m6 m7 z.2) := by
  rw [f_X3_exchange] at hf
  refine q_startI (lv := [(0, .ref m0), (1, .int x1), (2, .int x2)]) (by decide +kernel) rfl (Nat.le_of_ble_eq_true rfl) ?_
  intro p e s m below meth c C hin
  refine q_aload_n C dX3_exchange_0 rfl 0 rfl ?_
  refine q_iload_n C dX3_exchange_1 rfl 1 rfl ?_
  obtain ⟨z1, h_z1, hf⟩ := bnd hf
  refine q_cVIw C (c_X3_isNode l D cI cJ cN m0 m1 m2 m3 m4 m5 m6 m7 M x1 z1 h_z1) (mkV (fr := 1) (lo := 22) C xc_X3_isNode xm_X3_106 xi_X3_isNode xe_X3_isNode xn_X3 hd_X3_isNode ⟨Nat.le_of_ble_eq_true rfl, Nat.le_of_ble_eq_true rfl⟩) 0 rfl rfl rfl rfl (Nat.le_of_ble_eq_true rfl) dX3_exchange_2 ⟨Nat.le_of_ble_eq_true rfl, Nat.le_of_ble_eq_true rfl⟩ (fun w1 hp1 => ?_)
  subst hp1
  refine q_if_eq C 21 dX3_exchange_5 (by decide) (fun h => ?_) (fun h => ?_)
  · have hf := ifT hf h
    refine q_iconst (v := -1) C dX3_exchange_21 (by decide) ?_
    have hf := Option.some.inj hf
    subst hf
    exact q_iret C (Nat.le_of_ble_eq_true rfl) (Nat.le_of_ble_eq_true rfl) rfl dX3_exchange_22
  · have hf := ifF hf h
    refine q_aload_n C dX3_exchange_8 rfl 0 rfl ?_
    refine q_iload_n C dX3_exchange_9 rfl 2 rfl ?_
    obtain ⟨z2, h_z2, hf⟩ := bnd hf
    refine q_cVIw C (c_X3_isNode l D cI cJ cN m0 m1 m2 m3 m4 m5 m6 m7 M x2 z2 h_z2) (mkV (fr := 1) (lo := 22) C xc_X3_isNode xm_X3_106 xi_X3_isNode xe_X3_isNode xn_X3 hd_X3_isNode ⟨Nat.le_of_ble_eq_true rfl, Nat.le_of_ble_eq_true rfl⟩) 0 rfl rfl rfl rfl (Nat.le_of_ble_eq_true rfl) dX3_exchange_10 ⟨Nat.le_of_ble_eq_true rfl, Nat.le_of_ble_eq_true rfl⟩ (fun w1 hp1 => ?_)
    subst hp1
    refine q_if_eq C 21 dX3_exchange_13 (by decide) (fun h => ?_) (fun h => ?_)
    · have hf := ifT hf h
      refine q_iconst (v := -1) C dX3_exchange_21 (by decide) ?_
      have hf := Option.some.inj hf
      subst hf
      exact q_iret C (Nat.le_of_ble_eq_true rfl) (Nat.le_of_ble_eq_true rfl) rfl dX3_exchange_22
    · have hf := ifF hf h
      refine q_iload_n C dX3_exchange_16 rfl 1 rfl ?_
      refine q_iload_n C dX3_exchange_17 rfl 2 rfl ?_
      refine q_icmp_ne C 23 dX3_exchange_18 (by decide) (fun h => ?_) (fun h => ?_)
      · have hf := ifF hf h
        refine q_aload_n C dX3_exchange_23 rfl 0 rfl ?_
        refine q_iload_n C dX3_exchange_24 rfl 1 rfl ?_
        obtain ⟨z3, h_z3, hf⟩ := bnd hf
        refine q_cVIw C (c_X3_isPresent l D cI cJ cN m0 m1 m2 m3 m4 m5 m6 m7 M x1 z3 h_z3) (mkV (fr := 0) (lo := 0) C xc_X3_isPresent xm_X3_55 xi_X3_isPresent xe_X3_isPresent xn_X3 hd_X3_isPresent ⟨Nat.le_of_ble_eq_true rfl, Nat.le_of_ble_eq_true rfl⟩) 0 rfl rfl rfl rfl (Nat.le_of_ble_eq_true rfl) dX3_exchange_25 ⟨Nat.le_of_ble_eq_true rfl, Nat.le_of_ble_eq_true rfl⟩ (fun w1 hp1 => ?_)
        subst hp1
        refine q_if_eq C 39 dX3_exchange_28 (by decide) (fun h => ?_) (fun h => ?_)
        · have hf := ifT hf h
          refine q_bipush (v := -2) C dX3_exchange_39 (by decide) ?_
          have hf := Option.some.inj hf
          subst hf
          exact q_iret C (Nat.le_of_ble_eq_true rfl) (Nat.le_of_ble_eq_true rfl) rfl dX3_exchange_41
        · have hf := ifF hf h
          refine q_aload_n C dX3_exchange_31 rfl 0 rfl ?_
          refine q_iload_n C dX3_exchange_32 rfl 2 rfl ?_
          obtain ⟨z4, h_z4, hf⟩ := bnd hf
          refine q_cVIw C (c_X3_isPresent l D cI cJ cN m0 m1 m2 m3 m4 m5 m6 m7 M x2 z4 h_z4) (mkV (fr := 0) (lo := 0) C xc_X3_isPresent xm_X3_55 xi_X3_isPresent xe_X3_isPresent xn_X3 hd_X3_isPresent ⟨Nat.le_of_ble_eq_true rfl, Nat.le_of_ble_eq_true rfl⟩) 0 rfl rfl rfl rfl (Nat.le_of_ble_eq_true rfl) dX3_exchange_33 ⟨Nat.le_of_ble_eq_true rfl, Nat.le_of_ble_eq_true rfl⟩ (fun w1 hp1 => ?_)
          subst hp1
          refine q_if_ne C 42 dX3_exchange_36 (by decide) (fun h => ?_) (fun h => ?_)
          · have hf := ifF hf h
            refine q_aload_n C dX3_exchange_42 rfl 0 rfl ?_
            obtain ⟨z5, h_z5, hf⟩ := bnd hf
            refine q_cVVw C (c_X3_remember l D cI cJ cN m0 m1 m2 m3 m4 m5 m6 m7 M z5 h_z5) (mkV (fr := 0) (lo := 0) C xc_X3_remember xm_X3_103 xi_X3_remember xe_X3_remember xn_X3 hd_X3_remember ⟨Nat.le_of_ble_eq_true rfl, Nat.le_of_ble_eq_true rfl⟩) 0 rfl rfl rfl rfl (Nat.le_of_ble_eq_true rfl) dX3_exchange_43 ⟨Nat.le_of_ble_eq_true rfl, Nat.le_of_ble_eq_true rfl⟩ (fun w1 hp1 => ?_)
            subst hp1
            refine q_aload_n C dX3_exchange_46 rfl 0 rfl ?_
            obtain ⟨z6, h_z6, hf⟩ := bnd hf
            refine q_cVIw C (c_X3_allLengths l D cI cJ cN m0 m1 m2 m3 m4 m5 m6 m7 z5 z6 h_z6) (mkV (fr := 2) (lo := 45) C xc_X3_allLengths xm_X3_116 xi_X3_allLengths xe_X3_allLengths xn_X3 hd_X3_allLengths ⟨Nat.le_of_ble_eq_true rfl, Nat.le_of_ble_eq_true rfl⟩) 0 rfl rfl rfl rfl (Nat.le_of_ble_eq_true rfl) dX3_exchange_47 ⟨Nat.le_of_ble_eq_true rfl, Nat.le_of_ble_eq_true rfl⟩ (fun w1 hp1 => ?_)
            subst hp1
            refine q_istore_n (lv' := [(3, .int z6), (0, .ref m0), (1, .int x1), (2, .int x2)]) C dX3_exchange_50 rfl (by decide) rfl ?_
            refine q_aload_n C dX3_exchange_51 rfl 1 rfl ?_
            refine q_iload_n C dX3_exchange_52 rfl 2 rfl ?_
            refine q_iload_n C dX3_exchange_53 rfl 3 rfl ?_
            obtain ⟨z7, h_z7, hf⟩ := bnd hf
            refine q_cVVw C (c_X3_swap l D cI cJ cN m0 m1 m2 m3 m4 m5 m6 m7 z5 x1 x2 z7 h_z7) (mkV (fr := 0) (lo := 0) C xc_X3_swap xm_X3_119 xi_X3_swap xe_X3_swap xn_X3 hd_X3_swap ⟨Nat.le_of_ble_eq_true rfl, Nat.le_of_ble_eq_true rfl⟩) 0 rfl rfl rfl rfl (Nat.le_of_ble_eq_true rfl) dX3_exchange_54 ⟨Nat.le_of_ble_eq_true rfl, Nat.le_of_ble_eq_true rfl⟩ (fun w1 hp1 => ?_)
            subst hp1
            refine q_aload_n C dX3_exchange_57 rfl 1 rfl ?_
            obtain ⟨z8, h_z8, hf⟩ := bnd hf
            refine q_cVIw C (c_X3_allLengths l D cI cJ cN m0 m1 m2 m3 m4 m5 m6 m7 z7 z8 h_z8) (mkV (fr := 2) (lo := 45) C xc_X3_allLengths xm_X3_116 xi_X3_allLengths xe_X3_allLengths xn_X3 hd_X3_allLengths ⟨Nat.le_of_ble_eq_true rfl, Nat.le_of_ble_eq_true rfl⟩) 0 rfl rfl rfl rfl (Nat.le_of_ble_eq_true rfl) dX3_exchange_58 ⟨Nat.le_of_ble_eq_true rfl, Nat.le_of_ble_eq_true rfl⟩ (fun w1 hp1 => ?_)
            subst hp1
            refine q_iload_n C dX3_exchange_61 rfl 0 rfl ?_
            refine q_icmp_le C 73 dX3_exchange_62 (by decide) (fun h => ?_) (fun h => ?_)
            · have hf := ifT hf h
              refine q_iconst (v := 1) C dX3_exchange_73 (by decide) ?_
              have hf := Option.some.inj hf
              subst hf
              exact q_iret C (Nat.le_of_ble_eq_true rfl) (Nat.le_of_ble_eq_true rfl) rfl dX3_exchange_74
            · have hf := ifF hf h
              refine q_aload_n C dX3_exchange_65 rfl 1 rfl ?_
              refine q_iload_n C dX3_exchange_66 rfl 2 rfl ?_
              refine q_iload_n C dX3_exchange_67 rfl 3 rfl ?_
              obtain ⟨z9, h_z9, hf⟩ := bnd hf
              refine q_cVVw C (c_X3_swap l D cI cJ cN m0 m1 m2 m3 m4 m5 m6 m7 z7 x1 x2 z9 h_z9) (mkV (fr := 0) (lo := 0) C xc_X3_swap xm_X3_119 xi_X3_swap xe_X3_swap xn_X3 hd_X3_swap ⟨Nat.le_of_ble_eq_true rfl, Nat.le_of_ble_eq_true rfl⟩) 0 rfl rfl rfl rfl (Nat.le_of_ble_eq_true rfl) dX3_exchange_68 ⟨Nat.le_of_ble_eq_true rfl, Nat.le_of_ble_eq_true rfl⟩ (fun w1 hp1 => ?_)
              subst hp1
              refine q_iconst (v := 0) C dX3_exchange_71 (by decide) ?_
              have hf := Option.some.inj hf
              subst hf
              exact q_iret C (Nat.le_of_ble_eq_true rfl) (Nat.le_of_ble_eq_true rfl) rfl dX3_exchange_72
          · have hf := ifT hf h
            refine q_bipush (v := -2) C dX3_exchange_39 (by decide) ?_
            have hf := Option.some.inj hf
            subst hf
            exact q_iret C (Nat.le_of_ble_eq_true rfl) (Nat.le_of_ble_eq_true rfl) rfl dX3_exchange_41
      · have hf := ifT hf h
        refine q_iconst (v := -1) C dX3_exchange_21 (by decide) ?_
        have hf := Option.some.inj hf
        subst hf
        exact q_iret C (Nat.le_of_ble_eq_true rfl) (Nat.le_of_ble_eq_true rfl) rfl dX3_exchange_22
set_option maxRecDepth 100000 in
set_option maxHeartbeats 4000000 in
theorem l_X3_present_4 {p : Program} {l : Launch} {e : Env} {s : State} {m : MethodId} {args : Array Value} {below : List Frame} {meth : Method} {c : Code} {D : va_G} {cI cJ cN : ClassId} {W0 : va_W} {m0 m1 m2 m3 m4 m5 m6 m7 : Nat} {z : Int32} (C : CX p l s m args meth c cX3_present 3 yX3_present.cls (WS yX3_present cX3_present 3 (some .int)) (some .int) D cI cJ cN (va_A W0 s.heap.size)) : ∀ (fu : Nat) (M : MS) (x1 : Int32) (x2 : Int32), g_X3_present_4 fu M x1 x2 = some z → WW p l e { frames := 1, cells := 0, slots := 0, locals := 20 } s m args below meth c D 3 (va_A W0 s.heap.size) 0 0 (QI below args s D W0 { frames := 1, cells := 0, slots := 0, locals := 20 } z (fun w => w = wMod cI cJ m0 m1 m2 m3 m4 m5 m6 m7 M)) 4 [(0, .ref m0), (1, .int x1), (2, .int x2)] [] (wMod cI cJ m0 m1 m2 m3 m4 m5 m6 m7 M) := by
  intro fu
  induction fu with
  | zero =>
    intro M x1 x2 hf
    rw [g_X3_present_4] at hf
    cases hf
  | succ fu ih =>
    intro M x1 x2 hf
    rw [g_X3_present_4] at hf
    refine q_iload_n C dX3_present_4 rfl 2 rfl ?_
    refine q_aload_n C dX3_present_5 rfl 0 rfl ?_
    obtain ⟨z1, h_z1, hf⟩ := bnd hf
    refine q_cVIw C (c_X3_nodes l D cI cJ cN m0 m1 m2 m3 m4 m5 m6 m7 M z1 h_z1) (mkV (fr := 0) (lo := 0) C xc_X3_nodes xm_X3_40 xi_X3_nodes xe_X3_nodes xn_X3 hd_X3_nodes ⟨Nat.le_of_ble_eq_true rfl, Nat.le_of_ble_eq_true rfl⟩) 0 rfl rfl rfl rfl (Nat.le_of_ble_eq_true rfl) dX3_present_6 ⟨Nat.le_of_ble_eq_true rfl, Nat.le_of_ble_eq_true rfl⟩ (fun w1 hp1 => ?_)
    subst hp1
    refine q_icmp_ge C 30 dX3_present_9 (by decide) (fun h => ?_) (fun h => ?_)
    · have hf := ifT hf h
      refine q_iload_n C dX3_present_30 rfl 1 rfl ?_
      have hf := Option.some.inj hf
      subst hf
      exact q_iret C (Nat.le_of_ble_eq_true rfl) (Nat.le_of_ble_eq_true rfl) rfl dX3_present_31
    · have hf := ifF hf h
      refine q_iload_n C dX3_present_12 rfl 1 rfl ?_
      refine q_aload_n C dX3_present_13 rfl 0 rfl ?_
      refine q_get C (uW uX3_in) 0 rfl rfl 0 (by decide) (ws_in xf_X3_7) rfl rfl dX3_present_14 ?_
      refine q_bipush (v := 55) C dX3_present_17 (by decide) ?_
      refine q_iload_n C dX3_present_19 rfl 2 rfl ?_
      refine q_iadd C dX3_present_20 ?_
      obtain ⟨hg, hf⟩ := gd_some hf
      refine q_iald C 1 rfl hg dX3_present_21 ?_
      refine q_iadd C dX3_present_22 ?_
      obtain ⟨z2, e_z2, hf⟩ := bndv hf
      refine q_topi e_z2 ?_
      refine q_istore_n (lv' := [(1, .int z2), (0, .ref m0), (2, .int x2)]) C dX3_present_23 rfl (by decide) rfl ?_
      refine q_iinc (v := (x2 + (1 : Int32))) (lv' := [(2, .int (x2 + (1 : Int32))), (1, .int z2), (0, .ref m0)]) C dX3_present_24 2 rfl rfl (by decide) rfl ?_
      refine q_goto C 4 dX3_present_27 (by decide) ?_
      refine q_sub (lv' := [(0, .ref m0), (1, .int z2), (2, .int (x2 + (1 : Int32)))]) [2, 1, 0] rfl ?_
      exact ih M z2 (x2 + (1 : Int32)) hf
set_option maxRecDepth 100000 in
set_option maxHeartbeats 4000000 in
theorem c_X3_present (l : Launch) (D : va_G) (cI cJ cN : ClassId) (m0 m1 m2 m3 m4 m5 m6 m7 : Nat)  (M : MS)  (z : Int32) (hf : f_X3_present M = some z) : MI l D cI cJ cN yX3_present (WS yX3_present cX3_present 3 (some .int)) { frames := 1, cells := 0, slots := 0, locals := 20 } [.ref m0] (wMod cI cJ m0 m1 m2 m3 m4 m5 m6 m7 M) z (fun w => w = wMod cI cJ m0 m1 m2 m3 m4 m5 m6 m7 M) := by
  rw [f_X3_present] at hf
  refine q_startI (lv := [(0, .ref m0)]) (by decide +kernel) rfl (Nat.le_of_ble_eq_true rfl) ?_
  intro p e s m below meth c C hin
  refine q_iconst (v := 0) C dX3_present_0 (by decide) ?_
  refine q_istore_n (lv' := [(1, .int (0 : Int32)), (0, .ref m0)]) C dX3_present_1 rfl (by decide) rfl ?_
  refine q_iconst (v := 0) C dX3_present_2 (by decide) ?_
  refine q_istore_n (lv' := [(2, .int (0 : Int32)), (1, .int (0 : Int32)), (0, .ref m0)]) C dX3_present_3 rfl (by decide) rfl ?_
  refine q_sub (lv' := [(0, .ref m0), (1, .int (0 : Int32)), (2, .int (0 : Int32))]) [2, 1, 0] rfl ?_
  exact l_X3_present_4 C FU M (0 : Int32) (0 : Int32) hf
set_option maxRecDepth 100000 in
set_option maxHeartbeats 4000000 in
theorem l_X3_leave_86 {p : Program} {l : Launch} {e : Env} {s : State} {m : MethodId} {args : Array Value} {below : List Frame} {meth : Method} {c : Code} {D : va_G} {cI cJ cN : ClassId} {W0 : va_W} {m0 m1 m2 m3 m4 m5 m6 m7 : Nat} {z : Int32 × MS} (C : CX p l s m args meth c cX3_leave 5 yX3_leave.cls (WS yX3_leave cX3_leave 5 (some .int)) (some .int) D cI cJ cN (va_A W0 s.heap.size)) {K65 : MS → Int32 → Int32 → Int32 → Option (Int32 × MS)} (hK65 : ∀ (M : MS) (x1 : Int32) (x2 : Int32) (x3 : Int32), K65 M x1 x2 x3 = some z → WW p l e { frames := 2, cells := 0, slots := 0, locals := 45 } s m args below meth c D 5 (va_A W0 s.heap.size) 0 0 (QI below args s D W0 { frames := 2, cells := 0, slots := 0, locals := 45 } z.1 (fun w => w = wMod cI cJ m0 m1 m2 m3 m4 m5 m6 m7 z.2)) 65 [(0, .ref m0), (1, .int x1), (2, .int x2), (3, .int x3)] [] (wMod cI cJ m0 m1 m2 m3 m4 m5 m6 m7 M)) : ∀ (fu : Nat) (M : MS) (x1 : Int32) (x2 : Int32) (x3 : Int32) (x4 : Int32), g_X3_leave_86 K65 fu M x1 x2 x3 x4 = some z → WW p l e { frames := 2, cells := 0, slots := 0, locals := 45 } s m args below meth c D 5 (va_A W0 s.heap.size) 0 0 (QI below args s D W0 { frames := 2, cells := 0, slots := 0, locals := 45 } z.1 (fun w => w = wMod cI cJ m0 m1 m2 m3 m4 m5 m6 m7 z.2)) 86 [(0, .ref m0), (1, .int x1), (2, .int x2), (3, .int x3), (4, .int x4)] [] (wMod cI cJ m0 m1 m2 m3 m4 m5 m6 m7 M) := by
  intro fu
  induction fu with
  | zero =>
    intro M x1 x2 x3 x4 hf
    rw [g_X3_leave_86] at hf
    cases hf
  | succ fu ih =>
    intro M x1 x2 x3 x4 hf
    rw [g_X3_leave_86] at hf
    refine q_iload C dX3_leave_86 4 rfl ?_
    refine q_if_lt C 118 dX3_leave_88 (by decide) (fun h => ?_) (fun h => ?_)
    · have hf := ifT hf h
      refine q_iinc (v := (x3 + (1 : Int32))) (lv' := [(3, .int (x3 + (1 : Int32))), (0, .ref m0), (1, .int x1), (2, .int x2), (4, .int x4)]) C dX3_leave_118 3 rfl rfl (by decide) rfl ?_
      refine q_goto C 65 dX3_leave_121 (by decide) ?_
      refine q_sub (lv' := [(0, .ref m0), (1, .int x1), (2, .int x2), (3, .int (x3 + (1 : Int32)))]) [1, 2, 3, 0] rfl ?_
      exact hK65 M x1 x2 (x3 + (1 : Int32)) hf
    · have hf := ifF hf h
      refine q_aload_n C dX3_leave_91 rfl 0 rfl ?_
      refine q_iload_n C dX3_leave_92 rfl 3 rfl ?_
      refine q_iload C dX3_leave_93 4 rfl ?_
      obtain ⟨z1, h_z1, hf⟩ := bnd hf
      refine q_cVIw C (c_X3_at l D cI cJ cN m0 m1 m2 m3 m4 m5 m6 m7 M x3 x4 z1 h_z1) (mkV (fr := 0) (lo := 0) C xc_X3_at xm_X3_52 xi_X3_at xe_X3_at xn_X3 hd_X3_at ⟨Nat.le_of_ble_eq_true rfl, Nat.le_of_ble_eq_true rfl⟩) 0 rfl rfl rfl rfl (Nat.le_of_ble_eq_true rfl) dX3_leave_95 ⟨Nat.le_of_ble_eq_true rfl, Nat.le_of_ble_eq_true rfl⟩ (fun w1 hp1 => ?_)
      subst hp1
      refine q_iload_n C dX3_leave_98 rfl 1 rfl ?_
      refine q_icmp_ne C 112 dX3_leave_99 (by decide) (fun h => ?_) (fun h => ?_)
      · have hf := ifF hf h
        refine q_iinc (v := (x4 + (-1 : Int32))) (lv' := [(4, .int (x4 + (-1 : Int32))), (0, .ref m0), (1, .int x1), (2, .int x2), (3, .int x3)]) C dX3_leave_112 4 rfl rfl (by decide) rfl ?_
        refine q_goto C 86 dX3_leave_115 (by decide) ?_
        refine q_sub (lv' := [(0, .ref m0), (1, .int x1), (2, .int x2), (3, .int x3), (4, .int (x4 + (-1 : Int32)))]) [1, 2, 3, 4, 0] rfl ?_
        exact ih M x1 x2 x3 (x4 + (-1 : Int32)) hf
      · have hf := ifT hf h
        refine q_aload_n C dX3_leave_102 rfl 0 rfl ?_
        refine q_iload_n C dX3_leave_103 rfl 3 rfl ?_
        refine q_iload C dX3_leave_104 4 rfl ?_
        obtain ⟨z2, h_z2, hf⟩ := bnd hf
        refine q_cVVw C (c_X3_drop l D cI cJ cN m0 m1 m2 m3 m4 m5 m6 m7 M x3 x4 z2 h_z2) (mkV (fr := 1) (lo := 22) C xc_X3_drop xm_X3_66 xi_X3_drop xe_X3_drop xn_X3 hd_X3_drop ⟨Nat.le_of_ble_eq_true rfl, Nat.le_of_ble_eq_true rfl⟩) 0 rfl rfl rfl rfl (Nat.le_of_ble_eq_true rfl) dX3_leave_106 ⟨Nat.le_of_ble_eq_true rfl, Nat.le_of_ble_eq_true rfl⟩ (fun w1 hp1 => ?_)
        subst hp1
        refine q_iinc (v := (x2 + (1 : Int32))) (lv' := [(2, .int (x2 + (1 : Int32))), (0, .ref m0), (1, .int x1), (3, .int x3), (4, .int x4)]) C dX3_leave_109 2 rfl rfl (by decide) rfl ?_
        refine q_iinc (v := (x4 + (-1 : Int32))) (lv' := [(4, .int (x4 + (-1 : Int32))), (2, .int (x2 + (1 : Int32))), (0, .ref m0), (1, .int x1), (3, .int x3)]) C dX3_leave_112 4 rfl rfl (by decide) rfl ?_
        refine q_goto C 86 dX3_leave_115 (by decide) ?_
        refine q_sub (lv' := [(0, .ref m0), (1, .int x1), (2, .int (x2 + (1 : Int32))), (3, .int x3), (4, .int (x4 + (-1 : Int32)))]) [2, 3, 1, 4, 0] rfl ?_
        exact ih z2 x1 (x2 + (1 : Int32)) x3 (x4 + (-1 : Int32)) hf
set_option maxRecDepth 100000 in
set_option maxHeartbeats 4000000 in
theorem l_X3_leave_65 {p : Program} {l : Launch} {e : Env} {s : State} {m : MethodId} {args : Array Value} {below : List Frame} {meth : Method} {c : Code} {D : va_G} {cI cJ cN : ClassId} {W0 : va_W} {m0 m1 m2 m3 m4 m5 m6 m7 : Nat} {z : Int32 × MS} (C : CX p l s m args meth c cX3_leave 5 yX3_leave.cls (WS yX3_leave cX3_leave 5 (some .int)) (some .int) D cI cJ cN (va_A W0 s.heap.size)) : ∀ (fu : Nat) (M : MS) (x1 : Int32) (x2 : Int32) (x3 : Int32), g_X3_leave_65 fu M x1 x2 x3 = some z → WW p l e { frames := 2, cells := 0, slots := 0, locals := 45 } s m args below meth c D 5 (va_A W0 s.heap.size) 0 0 (QI below args s D W0 { frames := 2, cells := 0, slots := 0, locals := 45 } z.1 (fun w => w = wMod cI cJ m0 m1 m2 m3 m4 m5 m6 m7 z.2)) 65 [(0, .ref m0), (1, .int x1), (2, .int x2), (3, .int x3)] [] (wMod cI cJ m0 m1 m2 m3 m4 m5 m6 m7 M) := by
  intro fu
  induction fu with
  | zero =>
    intro M x1 x2 x3 hf
    rw [g_X3_leave_65] at hf
    cases hf
  | succ fu ih =>
    intro M x1 x2 x3 hf
    rw [g_X3_leave_65] at hf
    refine q_iload_n C dX3_leave_65 rfl 3 rfl ?_
    refine q_aload_n C dX3_leave_66 rfl 0 rfl ?_
    obtain ⟨z1, h_z1, hf⟩ := bnd hf
    refine q_cVIw C (c_X3_nodes l D cI cJ cN m0 m1 m2 m3 m4 m5 m6 m7 M z1 h_z1) (mkV (fr := 0) (lo := 0) C xc_X3_nodes xm_X3_40 xi_X3_nodes xe_X3_nodes xn_X3 hd_X3_nodes ⟨Nat.le_of_ble_eq_true rfl, Nat.le_of_ble_eq_true rfl⟩) 0 rfl rfl rfl rfl (Nat.le_of_ble_eq_true rfl) dX3_leave_67 ⟨Nat.le_of_ble_eq_true rfl, Nat.le_of_ble_eq_true rfl⟩ (fun w1 hp1 => ?_)
    subst hp1
    refine q_icmp_ge C 124 dX3_leave_70 (by decide) (fun h => ?_) (fun h => ?_)
    · have hf := ifT hf h
      refine q_iload_n C dX3_leave_124 rfl 2 rfl ?_
      have hf := Option.some.inj hf
      subst hf
      exact q_iret C (Nat.le_of_ble_eq_true rfl) (Nat.le_of_ble_eq_true rfl) rfl dX3_leave_125
    · have hf := ifF hf h
      refine q_aload_n C dX3_leave_73 rfl 0 rfl ?_
      refine q_get C (uW uX3_in) 0 rfl rfl 0 (by decide) (ws_in xf_X3_7) rfl rfl dX3_leave_74 ?_
      refine q_bipush (v := 104) C dX3_leave_77 (by decide) ?_
      refine q_iload_n C dX3_leave_79 rfl 3 rfl ?_
      refine q_iadd C dX3_leave_80 ?_
      obtain ⟨hg, hf⟩ := gd_some hf
      refine q_iald C 1 rfl hg dX3_leave_81 ?_
      refine q_iconst (v := 1) C dX3_leave_82 (by decide) ?_
      refine q_isub C dX3_leave_83 ?_
      obtain ⟨z2, e_z2, hf⟩ := bndv hf
      refine q_topi e_z2 ?_
      refine q_istore (lv' := [(4, .int z2), (0, .ref m0), (1, .int x1), (2, .int x2), (3, .int x3)]) C dX3_leave_84 (by decide) rfl ?_
      refine q_sub (lv' := [(0, .ref m0), (1, .int x1), (2, .int x2), (3, .int x3), (4, .int z2)]) [1, 2, 3, 4, 0] rfl ?_
      exact l_X3_leave_86 C ih FU M x1 x2 x3 z2 hf
set_option maxRecDepth 100000 in
set_option maxHeartbeats 4000000 in
theorem c_X3_leave (l : Launch) (D : va_G) (cI cJ cN : ClassId) (m0 m1 m2 m3 m4 m5 m6 m7 : Nat)  (M : MS) (x1 : Int32) (z : Int32 × MS) (hf : f_X3_leave M x1 = some z) : MI l D cI cJ cN yX3_leave (WS yX3_leave cX3_leave 5 (some .int)) { frames := 2, cells := 0, slots := 0, locals := 45 } [.ref m0, .int x1] (wMod cI cJ m0 m1 m2 m3 m4 m5 m6 m7 M) z.1 (fun w => w = wMod cI cJ m0 m1 m2 m3 m4 m5 m6 m7 z.2) := by
  rw [f_X3_leave] at hf
  refine q_startI (lv := [(0, .ref m0), (1, .int x1)]) (by decide +kernel) rfl (Nat.le_of_ble_eq_true rfl) ?_
  intro p e s m below meth c C hin
  refine q_aload_n C dX3_leave_0 rfl 0 rfl ?_
  refine q_iload_n C dX3_leave_1 rfl 1 rfl ?_
  obtain ⟨z1, h_z1, hf⟩ := bnd hf
  refine q_cVIw C (c_X3_isNode l D cI cJ cN m0 m1 m2 m3 m4 m5 m6 m7 M x1 z1 h_z1) (mkV (fr := 1) (lo := 22) C xc_X3_isNode xm_X3_106 xi_X3_isNode xe_X3_isNode xn_X3 hd_X3_isNode ⟨Nat.le_of_ble_eq_true rfl, Nat.le_of_ble_eq_true rfl⟩) 0 rfl rfl rfl rfl (Nat.le_of_ble_eq_true rfl) dX3_leave_2 ⟨Nat.le_of_ble_eq_true rfl, Nat.le_of_ble_eq_true rfl⟩ (fun w1 hp1 => ?_)
  subst hp1
  refine q_if_ne C 10 dX3_leave_5 (by decide) (fun h => ?_) (fun h => ?_)
  · have hf := ifF hf h
    refine q_aload_n C dX3_leave_10 rfl 0 rfl ?_
    refine q_iload_n C dX3_leave_11 rfl 1 rfl ?_
    obtain ⟨z2, h_z2, hf⟩ := bnd hf
    refine q_cVIw C (c_X3_isPresent l D cI cJ cN m0 m1 m2 m3 m4 m5 m6 m7 M x1 z2 h_z2) (mkV (fr := 0) (lo := 0) C xc_X3_isPresent xm_X3_55 xi_X3_isPresent xe_X3_isPresent xn_X3 hd_X3_isPresent ⟨Nat.le_of_ble_eq_true rfl, Nat.le_of_ble_eq_true rfl⟩) 0 rfl rfl rfl rfl (Nat.le_of_ble_eq_true rfl) dX3_leave_12 ⟨Nat.le_of_ble_eq_true rfl, Nat.le_of_ble_eq_true rfl⟩ (fun w1 hp1 => ?_)
    subst hp1
    refine q_if_eq C 26 dX3_leave_15 (by decide) (fun h => ?_) (fun h => ?_)
    · have hf := ifT hf h
      refine q_bipush (v := -2) C dX3_leave_26 (by decide) ?_
      have hf := Option.some.inj hf
      subst hf
      exact q_iret C (Nat.le_of_ble_eq_true rfl) (Nat.le_of_ble_eq_true rfl) rfl dX3_leave_28
    · have hf := ifF hf h
      refine q_aload_n C dX3_leave_18 rfl 0 rfl ?_
      obtain ⟨z3, h_z3, hf⟩ := bnd hf
      refine q_cVIw C (c_X3_present l D cI cJ cN m0 m1 m2 m3 m4 m5 m6 m7 M z3 h_z3) (mkV (fr := 1) (lo := 20) C xc_X3_present xm_X3_122 xi_X3_present xe_X3_present xn_X3 hd_X3_present ⟨Nat.le_of_ble_eq_true rfl, Nat.le_of_ble_eq_true rfl⟩) 0 rfl rfl rfl rfl (Nat.le_of_ble_eq_true rfl) dX3_leave_19 ⟨Nat.le_of_ble_eq_true rfl, Nat.le_of_ble_eq_true rfl⟩ (fun w1 hp1 => ?_)
      subst hp1
      refine q_iconst (v := 1) C dX3_leave_22 (by decide) ?_
      refine q_icmp_ne C 29 dX3_leave_23 (by decide) (fun h => ?_) (fun h => ?_)
      · have hf := ifF hf h
        refine q_aload_n C dX3_leave_29 rfl 0 rfl ?_
        obtain ⟨z4, h_z4, hf⟩ := bnd hf
        refine q_cVVw C (c_X3_remember l D cI cJ cN m0 m1 m2 m3 m4 m5 m6 m7 M z4 h_z4) (mkV (fr := 0) (lo := 0) C xc_X3_remember xm_X3_103 xi_X3_remember xe_X3_remember xn_X3 hd_X3_remember ⟨Nat.le_of_ble_eq_true rfl, Nat.le_of_ble_eq_true rfl⟩) 0 rfl rfl rfl rfl (Nat.le_of_ble_eq_true rfl) dX3_leave_30 ⟨Nat.le_of_ble_eq_true rfl, Nat.le_of_ble_eq_true rfl⟩ (fun w1 hp1 => ?_)
        subst hp1
        refine q_aload_n C dX3_leave_33 rfl 0 rfl ?_
        refine q_get C (uW uX3_in) 0 rfl rfl 0 (by decide) (ws_in xf_X3_7) rfl rfl dX3_leave_34 ?_
        refine q_bipush (v := 104) C dX3_leave_37 (by decide) ?_
        refine q_iload_n C dX3_leave_39 rfl 1 rfl ?_
        refine q_iadd C dX3_leave_40 ?_
        obtain ⟨hg, hf⟩ := gd_some hf
        refine q_iald C 1 rfl hg dX3_leave_41 ?_
        obtain ⟨z5, e_z5, hf⟩ := bndv hf
        refine q_topi e_z5 ?_
        refine q_istore_n (lv' := [(2, .int z5), (0, .ref m0), (1, .int x1)]) C dX3_leave_42 rfl (by decide) rfl ?_
        refine q_aload_n C dX3_leave_43 rfl 1 rfl ?_
        refine q_get C (uW uX3_in) 0 rfl rfl 0 (by decide) (ws_in xf_X3_7) rfl rfl dX3_leave_44 ?_
        refine q_bipush (v := 104) C dX3_leave_47 (by decide) ?_
        refine q_iload_n C dX3_leave_49 rfl 2 rfl ?_
        refine q_iadd C dX3_leave_50 ?_
        refine q_iconst (v := 0) C dX3_leave_51 (by decide) ?_
        obtain ⟨hg, hf⟩ := gd_some hf
        refine q_iast (ws' := wMod cI cJ m0 m1 m2 m3 m4 m5 m6 m7 ((upd z4.1 ((104 : Int32) + x1).toNatClampNeg (0 : Int32)), z4.2.1, z4.2.2.1, z4.2.2.2.1, z4.2.2.2.2.1, z4.2.2.2.2.2.1, z4.2.2.2.2.2.2.1, z4.2.2.2.2.2.2.2.1, z4.2.2.2.2.2.2.2.2.1, z4.2.2.2.2.2.2.2.2.2.1, z4.2.2.2.2.2.2.2.2.2.2)) C 1 rfl hg dX3_leave_52 rfl ?_
        refine q_aload_n C dX3_leave_53 rfl 1 rfl ?_
        refine q_get C (uW uX3_in) 0 rfl rfl 0 (by decide) (ws_in xf_X3_7) rfl rfl dX3_leave_54 ?_
        refine q_bipush (v := 55) C dX3_leave_57 (by decide) ?_
        refine q_iload_n C dX3_leave_59 rfl 2 rfl ?_
        refine q_iadd C dX3_leave_60 ?_
        refine q_iconst (v := 0) C dX3_leave_61 (by decide) ?_
        obtain ⟨hg, hf⟩ := gd_some hf
        refine q_iast (ws' := wMod cI cJ m0 m1 m2 m3 m4 m5 m6 m7 ((upd (upd z4.1 ((104 : Int32) + x1).toNatClampNeg (0 : Int32)) ((55 : Int32) + x1).toNatClampNeg (0 : Int32)), z4.2.1, z4.2.2.1, z4.2.2.2.1, z4.2.2.2.2.1, z4.2.2.2.2.2.1, z4.2.2.2.2.2.2.1, z4.2.2.2.2.2.2.2.1, z4.2.2.2.2.2.2.2.2.1, z4.2.2.2.2.2.2.2.2.2.1, z4.2.2.2.2.2.2.2.2.2.2)) C 1 rfl hg dX3_leave_62 rfl ?_
        refine q_iconst (v := 0) C dX3_leave_63 (by decide) ?_
        refine q_istore_n (lv' := [(3, .int (0 : Int32)), (2, .int z5), (0, .ref m0), (1, .int x1)]) C dX3_leave_64 rfl (by decide) rfl ?_
        refine q_sub (lv' := [(0, .ref m0), (1, .int x1), (2, .int z5), (3, .int (0 : Int32))]) [2, 3, 1, 0] rfl ?_
        exact l_X3_leave_65 C FU ((upd (upd z4.1 ((104 : Int32) + x1).toNatClampNeg (0 : Int32)) ((55 : Int32) + x1).toNatClampNeg (0 : Int32)), z4.2.1, z4.2.2.1, z4.2.2.2.1, z4.2.2.2.2.1, z4.2.2.2.2.2.1, z4.2.2.2.2.2.2.1, z4.2.2.2.2.2.2.2.1, z4.2.2.2.2.2.2.2.2.1, z4.2.2.2.2.2.2.2.2.2.1, z4.2.2.2.2.2.2.2.2.2.2) x1 z5 (0 : Int32) hf
      · have hf := ifT hf h
        refine q_bipush (v := -2) C dX3_leave_26 (by decide) ?_
        have hf := Option.some.inj hf
        subst hf
        exact q_iret C (Nat.le_of_ble_eq_true rfl) (Nat.le_of_ble_eq_true rfl) rfl dX3_leave_28
  · have hf := ifT hf h
    refine q_iconst (v := -1) C dX3_leave_8 (by decide) ?_
    have hf := Option.some.inj hf
    subst hf
    exact q_iret C (Nat.le_of_ble_eq_true rfl) (Nat.le_of_ble_eq_true rfl) rfl dX3_leave_9
set_option maxRecDepth 100000 in
set_option maxHeartbeats 4000000 in
theorem l_X3_contacts_4 {p : Program} {l : Launch} {e : Env} {s : State} {m : MethodId} {args : Array Value} {below : List Frame} {meth : Method} {c : Code} {D : va_G} {cI cJ cN : ClassId} {W0 : va_W} {m0 m1 m2 m3 m4 m5 m6 m7 : Nat} {z : Int32} (C : CX p l s m args meth c cX3_contacts 4 yX3_contacts.cls (WS yX3_contacts cX3_contacts 4 (some .int)) (some .int) D cI cJ cN (va_A W0 s.heap.size)) : ∀ (fu : Nat) (M : MS) (x1 : Int32) (x2 : Int32) (x3 : Int32), g_X3_contacts_4 fu M x1 x2 x3 = some z → WW p l e { frames := 3, cells := 0, slots := 0, locals := 67 } s m args below meth c D 4 (va_A W0 s.heap.size) 0 0 (QI below args s D W0 { frames := 3, cells := 0, slots := 0, locals := 67 } z (fun w => w = wMod cI cJ m0 m1 m2 m3 m4 m5 m6 m7 M)) 4 [(0, .ref m0), (1, .int x1), (2, .int x2), (3, .int x3)] [] (wMod cI cJ m0 m1 m2 m3 m4 m5 m6 m7 M) := by
  intro fu
  induction fu with
  | zero =>
    intro M x1 x2 x3 hf
    rw [g_X3_contacts_4] at hf
    cases hf
  | succ fu ih =>
    intro M x1 x2 x3 hf
    rw [g_X3_contacts_4] at hf
    refine q_iload_n C dX3_contacts_4 rfl 3 rfl ?_
    refine q_aload_n C dX3_contacts_5 rfl 0 rfl ?_
    obtain ⟨z1, h_z1, hf⟩ := bnd hf
    refine q_cVIw C (c_X3_nodes l D cI cJ cN m0 m1 m2 m3 m4 m5 m6 m7 M z1 h_z1) (mkV (fr := 0) (lo := 0) C xc_X3_nodes xm_X3_40 xi_X3_nodes xe_X3_nodes xn_X3 hd_X3_nodes ⟨Nat.le_of_ble_eq_true rfl, Nat.le_of_ble_eq_true rfl⟩) 0 rfl rfl rfl rfl (Nat.le_of_ble_eq_true rfl) dX3_contacts_6 ⟨Nat.le_of_ble_eq_true rfl, Nat.le_of_ble_eq_true rfl⟩ (fun w1 hp1 => ?_)
    subst hp1
    refine q_icmp_ge C 35 dX3_contacts_9 (by decide) (fun h => ?_) (fun h => ?_)
    · have hf := ifT hf h
      refine q_iload_n C dX3_contacts_35 rfl 2 rfl ?_
      have hf := Option.some.inj hf
      subst hf
      exact q_iret C (Nat.le_of_ble_eq_true rfl) (Nat.le_of_ble_eq_true rfl) rfl dX3_contacts_36
    · have hf := ifF hf h
      refine q_iload_n C dX3_contacts_12 rfl 2 rfl ?_
      refine q_aload_n C dX3_contacts_13 rfl 0 rfl ?_
      refine q_iload_n C dX3_contacts_14 rfl 1 rfl ?_
      refine q_iload_n C dX3_contacts_15 rfl 3 rfl ?_
      obtain ⟨z2, h_z2, hf⟩ := bnd hf
      refine q_cVIw C (c_X3_isContact l D cI cJ cN m0 m1 m2 m3 m4 m5 m6 m7 M x1 x3 z2 h_z2) (mkV (fr := 2) (lo := 45) C xc_X3_isContact xm_X3_76 xi_X3_isContact xe_X3_isContact xn_X3 hd_X3_isContact ⟨Nat.le_of_ble_eq_true rfl, Nat.le_of_ble_eq_true rfl⟩) 0 rfl rfl rfl rfl (Nat.le_of_ble_eq_true rfl) dX3_contacts_16 ⟨Nat.le_of_ble_eq_true rfl, Nat.le_of_ble_eq_true rfl⟩ (fun w1 hp1 => ?_)
      subst hp1
      refine q_if_eq C 26 dX3_contacts_19 (by decide) (fun h => ?_) (fun h => ?_)
      · have hf := ifT hf h
        refine q_iconst (v := 0) C dX3_contacts_26 (by decide) ?_
        refine q_iadd C dX3_contacts_27 ?_
        refine q_istore_n (lv' := [(2, .int (x2 + (0 : Int32))), (0, .ref m0), (1, .int x1), (3, .int x3)]) C dX3_contacts_28 rfl (by decide) rfl ?_
        refine q_iinc (v := (x3 + (1 : Int32))) (lv' := [(3, .int (x3 + (1 : Int32))), (2, .int (x2 + (0 : Int32))), (0, .ref m0), (1, .int x1)]) C dX3_contacts_29 3 rfl rfl (by decide) rfl ?_
        refine q_goto C 4 dX3_contacts_32 (by decide) ?_
        refine q_sub (lv' := [(0, .ref m0), (1, .int x1), (2, .int (x2 + (0 : Int32))), (3, .int (x3 + (1 : Int32)))]) [2, 3, 1, 0] rfl ?_
        exact ih M x1 (x2 + (0 : Int32)) (x3 + (1 : Int32)) hf
      · have hf := ifF hf h
        refine q_iconst (v := 1) C dX3_contacts_22 (by decide) ?_
        refine q_goto C 27 dX3_contacts_23 (by decide) ?_
        refine q_iadd C dX3_contacts_27 ?_
        refine q_istore_n (lv' := [(2, .int (x2 + (1 : Int32))), (0, .ref m0), (1, .int x1), (3, .int x3)]) C dX3_contacts_28 rfl (by decide) rfl ?_
        refine q_iinc (v := (x3 + (1 : Int32))) (lv' := [(3, .int (x3 + (1 : Int32))), (2, .int (x2 + (1 : Int32))), (0, .ref m0), (1, .int x1)]) C dX3_contacts_29 3 rfl rfl (by decide) rfl ?_
        refine q_goto C 4 dX3_contacts_32 (by decide) ?_
        refine q_sub (lv' := [(0, .ref m0), (1, .int x1), (2, .int (x2 + (1 : Int32))), (3, .int (x3 + (1 : Int32)))]) [2, 3, 1, 0] rfl ?_
        exact ih M x1 (x2 + (1 : Int32)) (x3 + (1 : Int32)) hf
set_option maxRecDepth 100000 in
set_option maxHeartbeats 4000000 in
theorem c_X3_contacts (l : Launch) (D : va_G) (cI cJ cN : ClassId) (m0 m1 m2 m3 m4 m5 m6 m7 : Nat)  (M : MS) (x1 : Int32) (z : Int32) (hf : f_X3_contacts M x1 = some z) : MI l D cI cJ cN yX3_contacts (WS yX3_contacts cX3_contacts 4 (some .int)) { frames := 3, cells := 0, slots := 0, locals := 67 } [.ref m0, .int x1] (wMod cI cJ m0 m1 m2 m3 m4 m5 m6 m7 M) z (fun w => w = wMod cI cJ m0 m1 m2 m3 m4 m5 m6 m7 M) := by
  rw [f_X3_contacts] at hf
  refine q_startI (lv := [(0, .ref m0), (1, .int x1)]) (by decide +kernel) rfl (Nat.le_of_ble_eq_true rfl) ?_
  intro p e s m below meth c C hin
  refine q_iconst (v := 0) C dX3_contacts_0 (by decide) ?_
  refine q_istore_n (lv' := [(2, .int (0 : Int32)), (0, .ref m0), (1, .int x1)]) C dX3_contacts_1 rfl (by decide) rfl ?_
  refine q_iconst (v := 0) C dX3_contacts_2 (by decide) ?_
  refine q_istore_n (lv' := [(3, .int (0 : Int32)), (2, .int (0 : Int32)), (0, .ref m0), (1, .int x1)]) C dX3_contacts_3 rfl (by decide) rfl ?_
  refine q_sub (lv' := [(0, .ref m0), (1, .int x1), (2, .int (0 : Int32)), (3, .int (0 : Int32))]) [2, 3, 1, 0] rfl ?_
  exact l_X3_contacts_4 C FU M x1 (0 : Int32) (0 : Int32) hf
set_option maxRecDepth 100000 in
set_option maxHeartbeats 4000000 in
theorem c_X3_enter (l : Launch) (D : va_G) (cI cJ cN : ClassId) (m0 m1 m2 m3 m4 m5 m6 m7 : Nat)  (M : MS) (x1 : Int32) (z : Int32 × MS) (hf : f_X3_enter M x1 = some z) : MI l D cI cJ cN yX3_enter (WS yX3_enter cX3_enter 2 (some .int)) { frames := 4, cells := 0, slots := 0, locals := 90 } [.ref m0, .int x1] (wMod cI cJ m0 m1 m2 m3 m4 m5 m6 m7 M) z.1 (fun w => w = wMod cI cJ m0 m1 m2 m3 m4 m5 m6 m7 z.2) := by
  rw [f_X3_enter] at hf
  refine q_startI (lv := [(0, .ref m0), (1, .int x1)]) (by decide +kernel) rfl (Nat.le_of_ble_eq_true rfl) ?_
  intro p e s m below meth c C hin
  refine q_aload_n C dX3_enter_0 rfl 0 rfl ?_
  refine q_iload_n C dX3_enter_1 rfl 1 rfl ?_
  obtain ⟨z1, h_z1, hf⟩ := bnd hf
  refine q_cVIw C (c_X3_isNode l D cI cJ cN m0 m1 m2 m3 m4 m5 m6 m7 M x1 z1 h_z1) (mkV (fr := 1) (lo := 22) C xc_X3_isNode xm_X3_106 xi_X3_isNode xe_X3_isNode xn_X3 hd_X3_isNode ⟨Nat.le_of_ble_eq_true rfl, Nat.le_of_ble_eq_true rfl⟩) 0 rfl rfl rfl rfl (Nat.le_of_ble_eq_true rfl) dX3_enter_2 ⟨Nat.le_of_ble_eq_true rfl, Nat.le_of_ble_eq_true rfl⟩ (fun w1 hp1 => ?_)
  subst hp1
  refine q_if_ne C 10 dX3_enter_5 (by decide) (fun h => ?_) (fun h => ?_)
  · have hf := ifF hf h
    refine q_aload_n C dX3_enter_10 rfl 0 rfl ?_
    refine q_iload_n C dX3_enter_11 rfl 1 rfl ?_
    obtain ⟨z2, h_z2, hf⟩ := bnd hf
    refine q_cVIw C (c_X3_isPresent l D cI cJ cN m0 m1 m2 m3 m4 m5 m6 m7 M x1 z2 h_z2) (mkV (fr := 0) (lo := 0) C xc_X3_isPresent xm_X3_55 xi_X3_isPresent xe_X3_isPresent xn_X3 hd_X3_isPresent ⟨Nat.le_of_ble_eq_true rfl, Nat.le_of_ble_eq_true rfl⟩) 0 rfl rfl rfl rfl (Nat.le_of_ble_eq_true rfl) dX3_enter_12 ⟨Nat.le_of_ble_eq_true rfl, Nat.le_of_ble_eq_true rfl⟩ (fun w1 hp1 => ?_)
    subst hp1
    refine q_if_eq C 21 dX3_enter_15 (by decide) (fun h => ?_) (fun h => ?_)
    · have hf := ifT hf h
      refine q_aload_n C dX3_enter_21 rfl 0 rfl ?_
      obtain ⟨z3, h_z3, hf⟩ := bnd hf
      refine q_cVVw C (c_X3_remember l D cI cJ cN m0 m1 m2 m3 m4 m5 m6 m7 M z3 h_z3) (mkV (fr := 0) (lo := 0) C xc_X3_remember xm_X3_103 xi_X3_remember xe_X3_remember xn_X3 hd_X3_remember ⟨Nat.le_of_ble_eq_true rfl, Nat.le_of_ble_eq_true rfl⟩) 0 rfl rfl rfl rfl (Nat.le_of_ble_eq_true rfl) dX3_enter_22 ⟨Nat.le_of_ble_eq_true rfl, Nat.le_of_ble_eq_true rfl⟩ (fun w1 hp1 => ?_)
      subst hp1
      refine q_aload_n C dX3_enter_25 rfl 0 rfl ?_
      refine q_get C (uW uX3_in) 0 rfl rfl 0 (by decide) (ws_in xf_X3_7) rfl rfl dX3_enter_26 ?_
      refine q_bipush (v := 55) C dX3_enter_29 (by decide) ?_
      refine q_iload_n C dX3_enter_31 rfl 1 rfl ?_
      refine q_iadd C dX3_enter_32 ?_
      refine q_iconst (v := 1) C dX3_enter_33 (by decide) ?_
      obtain ⟨hg, hf⟩ := gd_some hf
      refine q_iast (ws' := wMod cI cJ m0 m1 m2 m3 m4 m5 m6 m7 ((upd z3.1 ((55 : Int32) + x1).toNatClampNeg (1 : Int32)), z3.2.1, z3.2.2.1, z3.2.2.2.1, z3.2.2.2.2.1, z3.2.2.2.2.2.1, z3.2.2.2.2.2.2.1, z3.2.2.2.2.2.2.2.1, z3.2.2.2.2.2.2.2.2.1, z3.2.2.2.2.2.2.2.2.2.1, z3.2.2.2.2.2.2.2.2.2.2)) C 1 rfl hg dX3_enter_34 rfl ?_
      refine q_aload_n C dX3_enter_35 rfl 0 rfl ?_
      refine q_iload_n C dX3_enter_36 rfl 1 rfl ?_
      obtain ⟨z4, h_z4, hf⟩ := bnd hf
      refine q_cVIw C (c_X3_contacts l D cI cJ cN m0 m1 m2 m3 m4 m5 m6 m7 ((upd z3.1 ((55 : Int32) + x1).toNatClampNeg (1 : Int32)), z3.2.1, z3.2.2.1, z3.2.2.2.1, z3.2.2.2.2.1, z3.2.2.2.2.2.1, z3.2.2.2.2.2.2.1, z3.2.2.2.2.2.2.2.1, z3.2.2.2.2.2.2.2.2.1, z3.2.2.2.2.2.2.2.2.2.1, z3.2.2.2.2.2.2.2.2.2.2) x1 z4 h_z4) (mkV (fr := 3) (lo := 67) C xc_X3_contacts xm_X3_125 xi_X3_contacts xe_X3_contacts xn_X3 hd_X3_contacts ⟨Nat.le_of_ble_eq_true rfl, Nat.le_of_ble_eq_true rfl⟩) 0 rfl rfl rfl rfl (Nat.le_of_ble_eq_true rfl) dX3_enter_37 ⟨Nat.le_of_ble_eq_true rfl, Nat.le_of_ble_eq_true rfl⟩ (fun w1 hp1 => ?_)
      subst hp1
      have hf := Option.some.inj hf
      subst hf
      exact q_iret C (Nat.le_of_ble_eq_true rfl) (Nat.le_of_ble_eq_true rfl) rfl dX3_enter_40
    · have hf := ifF hf h
      refine q_bipush (v := -2) C dX3_enter_18 (by decide) ?_
      have hf := Option.some.inj hf
      subst hf
      exact q_iret C (Nat.le_of_ble_eq_true rfl) (Nat.le_of_ble_eq_true rfl) rfl dX3_enter_20
  · have hf := ifT hf h
    refine q_iconst (v := -1) C dX3_enter_8 (by decide) ?_
    have hf := Option.some.inj hf
    subst hf
    exact q_iret C (Nat.le_of_ble_eq_true rfl) (Nat.le_of_ble_eq_true rfl) rfl dX3_enter_9
set_option maxRecDepth 100000 in
set_option maxHeartbeats 4000000 in
theorem l_X3_set_56 {p : Program} {l : Launch} {e : Env} {s : State} {m : MethodId} {args : Array Value} {below : List Frame} {meth : Method} {c : Code} {D : va_G} {cI cJ cN : ClassId} {W0 : va_W} {m0 m1 m2 m3 m4 m5 m6 m7 : Nat} {z : Int32 × MS} (C : CX p l s m args meth c cX3_set 5 yX3_set.cls (WS yX3_set cX3_set 5 (some .int)) (some .int) D cI cJ cN (va_A W0 s.heap.size)) : ∀ (M : MS) (x1 : Int32) (x2 : Int32) (y0 : Int32), g_X3_set_56 M x1 x2 y0 = some z → WW p l e { frames := 1, cells := 0, slots := 0, locals := 22 } s m args below meth c D 5 (va_A W0 s.heap.size) 0 0 (QI below args s D W0 { frames := 1, cells := 0, slots := 0, locals := 22 } z.1 (fun w => w = wMod cI cJ m0 m1 m2 m3 m4 m5 m6 m7 z.2)) 56 [(0, .ref m0), (1, .int x1), (2, .int x2)] [.int y0] (wMod cI cJ m0 m1 m2 m3 m4 m5 m6 m7 M) := by
  intro M x1 x2 y0 hf
  rw [g_X3_set_56] at hf
  refine q_istore_n (lv' := [(3, .int y0), (0, .ref m0), (1, .int x1), (2, .int x2)]) C dX3_set_56 rfl (by decide) rfl ?_
  refine q_iload_n C dX3_set_57 rfl 0 rfl ?_
  refine q_if_ne C 63 dX3_set_58 (by decide) (fun h => ?_) (fun h => ?_)
  · have hf := ifF hf h
    refine q_aload_n C dX3_set_63 rfl 1 rfl ?_
    obtain ⟨z1, h_z1, hf⟩ := bnd hf
    refine q_cVVw C (c_X3_remember l D cI cJ cN m0 m1 m2 m3 m4 m5 m6 m7 M z1 h_z1) (mkV (fr := 0) (lo := 0) C xc_X3_remember xm_X3_103 xi_X3_remember xe_X3_remember xn_X3 hd_X3_remember ⟨Nat.le_of_ble_eq_true rfl, Nat.le_of_ble_eq_true rfl⟩) 0 rfl rfl rfl rfl (Nat.le_of_ble_eq_true rfl) dX3_set_64 ⟨Nat.le_of_ble_eq_true rfl, Nat.le_of_ble_eq_true rfl⟩ (fun w1 hp1 => ?_)
    subst hp1
    refine q_aload_n C dX3_set_67 rfl 1 rfl ?_
    refine q_get C (uW uX3_in) 0 rfl rfl 0 (by decide) (ws_in xf_X3_7) rfl rfl dX3_set_68 ?_
    refine q_iconst (v := 2) C dX3_set_71 (by decide) ?_
    refine q_iload_n C dX3_set_72 rfl 2 rfl ?_
    refine q_iadd C dX3_set_73 ?_
    obtain ⟨hg, hf⟩ := gd_some hf
    refine q_iald C 1 rfl hg dX3_set_74 ?_
    obtain ⟨z2, e_z2, hf⟩ := bndv hf
    refine q_topi e_z2 ?_
    refine q_istore (lv' := [(4, .int z2), (3, .int y0), (0, .ref m0), (1, .int x1), (2, .int x2)]) C dX3_set_75 (by decide) rfl ?_
    refine q_aload_n C dX3_set_77 rfl 2 rfl ?_
    refine q_get C (uW uX3_in) 0 rfl rfl 0 (by decide) (ws_in xf_X3_7) rfl rfl dX3_set_78 ?_
    refine q_iconst (v := 2) C dX3_set_81 (by decide) ?_
    refine q_iload_n C dX3_set_82 rfl 3 rfl ?_
    refine q_iadd C dX3_set_83 ?_
    refine q_iload_n C dX3_set_84 rfl 4 rfl ?_
    obtain ⟨hg, hf⟩ := gd_some hf
    refine q_iast (ws' := wMod cI cJ m0 m1 m2 m3 m4 m5 m6 m7 ((upd z1.1 ((2 : Int32) + x1).toNatClampNeg x2), z1.2.1, z1.2.2.1, z1.2.2.2.1, z1.2.2.2.2.1, z1.2.2.2.2.2.1, z1.2.2.2.2.2.2.1, z1.2.2.2.2.2.2.2.1, z1.2.2.2.2.2.2.2.2.1, z1.2.2.2.2.2.2.2.2.2.1, z1.2.2.2.2.2.2.2.2.2.2)) C 1 rfl hg dX3_set_85 rfl ?_
    refine q_iload C dX3_set_86 0 rfl ?_
    have hf := Option.some.inj hf
    subst hf
    exact q_iret C (Nat.le_of_ble_eq_true rfl) (Nat.le_of_ble_eq_true rfl) rfl dX3_set_88
  · have hf := ifT hf h
    refine q_iconst (v := -1) C dX3_set_61 (by decide) ?_
    have hf := Option.some.inj hf
    subst hf
    exact q_iret C (Nat.le_of_ble_eq_true rfl) (Nat.le_of_ble_eq_true rfl) rfl dX3_set_62
set_option maxRecDepth 100000 in
set_option maxHeartbeats 4000000 in
theorem c_X3_set (l : Launch) (D : va_G) (cI cJ cN : ClassId) (m0 m1 m2 m3 m4 m5 m6 m7 : Nat)  (M : MS) (x1 : Int32) (x2 : Int32) (z : Int32 × MS) (hf : f_X3_set M x1 x2 = some z) : MI l D cI cJ cN yX3_set (WS yX3_set cX3_set 5 (some .int)) { frames := 1, cells := 0, slots := 0, locals := 22 } [.ref m0, .int x1, .int x2] (wMod cI cJ m0 m1 m2 m3 m4 m5 m6 m7 M) z.1 (fun w => w = wMod cI cJ m0 m1 m2 m3 m4 m5 m6 m7 z.2) := by
  rw [f_X3_set] at hf
  refine q_startI (lv := [(0, .ref m0), (1, .int x1), (2, .int x2)]) (by decide +kernel) rfl (Nat.le_of_ble_eq_true rfl) ?_
  intro p e s m below meth c C hin
  refine q_iload_n C dX3_set_0 rfl 1 rfl ?_
  refine q_if_ne C 13 dX3_set_1 (by decide) (fun h => ?_) (fun h => ?_)
  · have hf := ifF hf h
    refine q_iload_n C dX3_set_13 rfl 1 rfl ?_
    refine q_iconst (v := 1) C dX3_set_14 (by decide) ?_
    refine q_icmp_ne C 27 dX3_set_15 (by decide) (fun h => ?_) (fun h => ?_)
    · have hf := ifF hf h
      refine q_iload_n C dX3_set_27 rfl 1 rfl ?_
      refine q_iconst (v := 2) C dX3_set_28 (by decide) ?_
      refine q_icmp_ne C 42 dX3_set_29 (by decide) (fun h => ?_) (fun h => ?_)
      · have hf := ifF hf h
        refine q_iload_n C dX3_set_42 rfl 1 rfl ?_
        refine q_iconst (v := 3) C dX3_set_43 (by decide) ?_
        refine q_icmp_ne C 55 dX3_set_44 (by decide) (fun h => ?_) (fun h => ?_)
        · have hf := ifF hf h
          refine q_iconst (v := 0) C dX3_set_55 (by decide) ?_
          exact l_X3_set_56 C M x1 x2 (0 : Int32) hf
        · have hf := ifT hf h
          refine q_iload_n C dX3_set_47 rfl 2 rfl ?_
          refine q_if_lt C 55 dX3_set_48 (by decide) (fun h => ?_) (fun h => ?_)
          · have hf := ifT hf h
            refine q_iconst (v := 0) C dX3_set_55 (by decide) ?_
            exact l_X3_set_56 C M x1 x2 (0 : Int32) hf
          · have hf := ifF hf h
            refine q_iconst (v := 1) C dX3_set_51 (by decide) ?_
            refine q_goto C 56 dX3_set_52 (by decide) ?_
            exact l_X3_set_56 C M x1 x2 (1 : Int32) hf
      · have hf := ifT hf h
        refine q_iload_n C dX3_set_32 rfl 2 rfl ?_
        refine q_iconst (v := 1) C dX3_set_33 (by decide) ?_
        refine q_bipush (v := 9) C dX3_set_34 (by decide) ?_
        obtain ⟨z1, h_z1, hf⟩ := bnd hf
        refine q_cSI (ws' := wMod cI cJ m0 m1 m2 m3 m4 m5 m6 m7 M) C (c_X3_isIn l D cI cJ cN x2 (1 : Int32) (9 : Int32) z1 h_z1) (mkS (fr := 0) (lo := 0) C xc_X3_isIn xm_X3_44 xs_X3_isIn xn_X3 hd_X3_isIn ⟨Nat.le_of_ble_eq_true rfl, Nat.le_of_ble_eq_true rfl⟩) [] rfl (by decide) rfl rfl rfl rfl (Nat.le_of_ble_eq_true rfl) dX3_set_36 ⟨Nat.le_of_ble_eq_true rfl, Nat.le_of_ble_eq_true rfl⟩ ?_
        refine q_goto C 56 dX3_set_39 (by decide) ?_
        exact l_X3_set_56 C M x1 x2 z1 hf
    · have hf := ifT hf h
      refine q_iload_n C dX3_set_18 rfl 2 rfl ?_
      refine q_iconst (v := 0) C dX3_set_19 (by decide) ?_
      refine q_iconst (v := 3) C dX3_set_20 (by decide) ?_
      obtain ⟨z2, h_z2, hf⟩ := bnd hf
      refine q_cSI (ws' := wMod cI cJ m0 m1 m2 m3 m4 m5 m6 m7 M) C (c_X3_isIn l D cI cJ cN x2 (0 : Int32) (3 : Int32) z2 h_z2) (mkS (fr := 0) (lo := 0) C xc_X3_isIn xm_X3_44 xs_X3_isIn xn_X3 hd_X3_isIn ⟨Nat.le_of_ble_eq_true rfl, Nat.le_of_ble_eq_true rfl⟩) [] rfl (by decide) rfl rfl rfl rfl (Nat.le_of_ble_eq_true rfl) dX3_set_21 ⟨Nat.le_of_ble_eq_true rfl, Nat.le_of_ble_eq_true rfl⟩ ?_
      refine q_goto C 56 dX3_set_24 (by decide) ?_
      exact l_X3_set_56 C M x1 x2 z2 hf
  · have hf := ifT hf h
    refine q_iload_n C dX3_set_4 rfl 2 rfl ?_
    refine q_iconst (v := 1) C dX3_set_5 (by decide) ?_
    refine q_iconst (v := 3) C dX3_set_6 (by decide) ?_
    obtain ⟨z3, h_z3, hf⟩ := bnd hf
    refine q_cSI (ws' := wMod cI cJ m0 m1 m2 m3 m4 m5 m6 m7 M) C (c_X3_isIn l D cI cJ cN x2 (1 : Int32) (3 : Int32) z3 h_z3) (mkS (fr := 0) (lo := 0) C xc_X3_isIn xm_X3_44 xs_X3_isIn xn_X3 hd_X3_isIn ⟨Nat.le_of_ble_eq_true rfl, Nat.le_of_ble_eq_true rfl⟩) [] rfl (by decide) rfl rfl rfl rfl (Nat.le_of_ble_eq_true rfl) dX3_set_7 ⟨Nat.le_of_ble_eq_true rfl, Nat.le_of_ble_eq_true rfl⟩ ?_
    refine q_goto C 56 dX3_set_10 (by decide) ?_
    exact l_X3_set_56 C M x1 x2 z3 hf
set_option maxRecDepth 100000 in
set_option maxHeartbeats 4000000 in
theorem l_X3_undo_22 {p : Program} {l : Launch} {e : Env} {s : State} {m : MethodId} {args : Array Value} {below : List Frame} {meth : Method} {c : Code} {D : va_G} {cI cJ cN : ClassId} {W0 : va_W} {m0 m1 m2 m3 m4 m5 m6 m7 : Nat} {z : Int32 × MS} (C : CX p l s m args meth c cX3_undo 2 yX3_undo.cls (WS yX3_undo cX3_undo 2 (some .int)) (some .int) D cI cJ cN (va_A W0 s.heap.size)) : ∀ (fu : Nat) (M : MS) (x1 : Int32), g_X3_undo_22 fu M x1 = some z → WW p l e { frames := 0, cells := 0, slots := 0, locals := 0 } s m args below meth c D 2 (va_A W0 s.heap.size) 0 0 (QI below args s D W0 { frames := 0, cells := 0, slots := 0, locals := 0 } z.1 (fun w => w = wMod cI cJ m0 m1 m2 m3 m4 m5 m6 m7 z.2)) 22 [(0, .ref m0), (1, .int x1)] [] (wMod cI cJ m0 m1 m2 m3 m4 m5 m6 m7 M) := by
  intro fu
  induction fu with
  | zero =>
    intro M x1 hf
    rw [g_X3_undo_22] at hf
    cases hf
  | succ fu ih =>
    intro M x1 hf
    rw [g_X3_undo_22] at hf
    refine q_iload_n C dX3_undo_22 rfl 1 rfl ?_
    refine q_sipush (v := 300) C dX3_undo_23 (by decide) ?_
    refine q_icmp_ge C 56 dX3_undo_26 (by decide) (fun h => ?_) (fun h => ?_)
    · have hf := ifT hf h
      refine q_aload_n C dX3_undo_56 rfl 0 rfl ?_
      refine q_get C (uW uX3_in) 0 rfl rfl 2 (by decide) (ws_in xf_X3_36) rfl rfl dX3_undo_57 ?_
      have hf := Option.some.inj hf
      subst hf
      exact q_iret C (Nat.le_of_ble_eq_true rfl) (Nat.le_of_ble_eq_true rfl) rfl dX3_undo_60
    · have hf := ifF hf h
      refine q_aload_n C dX3_undo_29 rfl 0 rfl ?_
      refine q_get C (uW uX3_in) 0 rfl rfl 0 (by decide) (ws_in xf_X3_7) rfl rfl dX3_undo_30 ?_
      refine q_iload_n C dX3_undo_33 rfl 1 rfl ?_
      refine q_aload_n C dX3_undo_34 rfl 0 rfl ?_
      refine q_get C (uW uX3_in) 0 rfl rfl 1 (by decide) (ws_in xf_X3_13) rfl rfl dX3_undo_35 ?_
      refine q_sipush (v := 300) C dX3_undo_38 (by decide) ?_
      refine q_aload_n C dX3_undo_41 rfl 0 rfl ?_
      refine q_get C (uW uX3_in) 0 rfl rfl 2 (by decide) (ws_in xf_X3_36) rfl rfl dX3_undo_42 ?_
      refine q_imul C dX3_undo_45 ?_
      refine q_iload_n C dX3_undo_46 rfl 1 rfl ?_
      refine q_iadd C dX3_undo_47 ?_
      obtain ⟨hg, hf⟩ := gd_some hf
      refine q_iald C 2 rfl hg dX3_undo_48 ?_
      obtain ⟨hg, hf⟩ := gd_some hf
      refine q_iast (ws' := wMod cI cJ m0 m1 m2 m3 m4 m5 m6 m7 ((upd M.1 x1.toNatClampNeg (M.2.1 (((300 : Int32) * M.2.2.1) + x1).toNatClampNeg)), M.2.1, M.2.2.1, M.2.2.2.1, M.2.2.2.2.1, M.2.2.2.2.2.1, M.2.2.2.2.2.2.1, M.2.2.2.2.2.2.2.1, M.2.2.2.2.2.2.2.2.1, M.2.2.2.2.2.2.2.2.2.1, M.2.2.2.2.2.2.2.2.2.2)) C 1 rfl hg dX3_undo_49 rfl ?_
      refine q_iinc (v := (x1 + (1 : Int32))) (lv' := [(1, .int (x1 + (1 : Int32))), (0, .ref m0)]) C dX3_undo_50 1 rfl rfl (by decide) rfl ?_
      refine q_goto C 22 dX3_undo_53 (by decide) ?_
      refine q_sub (lv' := [(0, .ref m0), (1, .int (x1 + (1 : Int32)))]) [1, 0] rfl ?_
      exact ih ((upd M.1 x1.toNatClampNeg (M.2.1 (((300 : Int32) * M.2.2.1) + x1).toNatClampNeg)), M.2.1, M.2.2.1, M.2.2.2.1, M.2.2.2.2.1, M.2.2.2.2.2.1, M.2.2.2.2.2.2.1, M.2.2.2.2.2.2.2.1, M.2.2.2.2.2.2.2.2.1, M.2.2.2.2.2.2.2.2.2.1, M.2.2.2.2.2.2.2.2.2.2) (x1 + (1 : Int32)) hf
set_option maxRecDepth 100000 in
set_option maxHeartbeats 4000000 in
theorem c_X3_undo (l : Launch) (D : va_G) (cI cJ cN : ClassId) (m0 m1 m2 m3 m4 m5 m6 m7 : Nat)  (M : MS)  (z : Int32 × MS) (hf : f_X3_undo M = some z) : MI l D cI cJ cN yX3_undo (WS yX3_undo cX3_undo 2 (some .int)) { frames := 0, cells := 0, slots := 0, locals := 0 } [.ref m0] (wMod cI cJ m0 m1 m2 m3 m4 m5 m6 m7 M) z.1 (fun w => w = wMod cI cJ m0 m1 m2 m3 m4 m5 m6 m7 z.2) := by
  rw [f_X3_undo] at hf
  refine q_startI (lv := [(0, .ref m0)]) (by decide +kernel) rfl (Nat.le_of_ble_eq_true rfl) ?_
  intro p e s m below meth c C hin
  refine q_aload_n C dX3_undo_0 rfl 0 rfl ?_
  refine q_get C (uW uX3_in) 0 rfl rfl 2 (by decide) (ws_in xf_X3_36) rfl rfl dX3_undo_1 ?_
  refine q_if_ne C 10 dX3_undo_4 (by decide) (fun h => ?_) (fun h => ?_)
  · have hf := ifF hf h
    refine q_aload_n C dX3_undo_10 rfl 0 rfl ?_
    refine q_dup C dX3_undo_11 rfl ?_
    refine q_get C (uW uX3_in) 0 rfl rfl 2 (by decide) (ws_in xf_X3_36) rfl rfl dX3_undo_12 ?_
    refine q_iconst (v := 1) C dX3_undo_15 (by decide) ?_
    refine q_isub C dX3_undo_16 ?_
    refine q_put (ws' := wMod cI cJ m0 m1 m2 m3 m4 m5 m6 m7 (M.1, M.2.1, (M.2.2.1 - (1 : Int32)), M.2.2.2.1, M.2.2.2.2.1, M.2.2.2.2.2.1, M.2.2.2.2.2.2.1, M.2.2.2.2.2.2.2.1, M.2.2.2.2.2.2.2.2.1, M.2.2.2.2.2.2.2.2.2.1, M.2.2.2.2.2.2.2.2.2.2)) (ty := .int) C (uW uX3_in) tyX3 tyX3_ok nmX3 0 rfl rfl 2 (by decide) (ws_in xf_X3_36) rfl rfl (by decide +kernel) rfl rfl (Nat.le_of_ble_eq_true rfl) dX3_undo_17 rfl ?_
    refine q_iconst (v := 0) C dX3_undo_20 (by decide) ?_
    refine q_istore_n (lv' := [(1, .int (0 : Int32)), (0, .ref m0)]) C dX3_undo_21 rfl (by decide) rfl ?_
    refine q_sub (lv' := [(0, .ref m0), (1, .int (0 : Int32))]) [1, 0] rfl ?_
    exact l_X3_undo_22 C FU (M.1, M.2.1, (M.2.2.1 - (1 : Int32)), M.2.2.2.1, M.2.2.2.2.1, M.2.2.2.2.2.1, M.2.2.2.2.2.2.1, M.2.2.2.2.2.2.2.1, M.2.2.2.2.2.2.2.2.1, M.2.2.2.2.2.2.2.2.2.1, M.2.2.2.2.2.2.2.2.2.2) (0 : Int32) hf
  · have hf := ifT hf h
    refine q_bipush (v := -2) C dX3_undo_7 (by decide) ?_
    have hf := Option.some.inj hf
    subst hf
    exact q_iret C (Nat.le_of_ble_eq_true rfl) (Nat.le_of_ble_eq_true rfl) rfl dX3_undo_9
set_option maxRecDepth 100000 in
set_option maxHeartbeats 4000000 in
theorem l_X3_links_4 {p : Program} {l : Launch} {e : Env} {s : State} {m : MethodId} {args : Array Value} {below : List Frame} {meth : Method} {c : Code} {D : va_G} {cI cJ cN : ClassId} {W0 : va_W} {m0 m1 m2 m3 m4 m5 m6 m7 : Nat} {z : Int32} (C : CX p l s m args meth c cX3_links 3 yX3_links.cls (WS yX3_links cX3_links 3 (some .int)) (some .int) D cI cJ cN (va_A W0 s.heap.size)) : ∀ (fu : Nat) (M : MS) (x1 : Int32) (x2 : Int32), g_X3_links_4 fu M x1 x2 = some z → WW p l e { frames := 1, cells := 0, slots := 0, locals := 20 } s m args below meth c D 3 (va_A W0 s.heap.size) 0 0 (QI below args s D W0 { frames := 1, cells := 0, slots := 0, locals := 20 } z (fun w => w = wMod cI cJ m0 m1 m2 m3 m4 m5 m6 m7 M)) 4 [(0, .ref m0), (1, .int x1), (2, .int x2)] [] (wMod cI cJ m0 m1 m2 m3 m4 m5 m6 m7 M) := by
  intro fu
  induction fu with
  | zero =>
    intro M x1 x2 hf
    rw [g_X3_links_4] at hf
    cases hf
  | succ fu ih =>
    intro M x1 x2 hf
    rw [g_X3_links_4] at hf
    refine q_iload_n C dX3_links_4 rfl 2 rfl ?_
    refine q_aload_n C dX3_links_5 rfl 0 rfl ?_
    obtain ⟨z1, h_z1, hf⟩ := bnd hf
    refine q_cVIw C (c_X3_nodes l D cI cJ cN m0 m1 m2 m3 m4 m5 m6 m7 M z1 h_z1) (mkV (fr := 0) (lo := 0) C xc_X3_nodes xm_X3_40 xi_X3_nodes xe_X3_nodes xn_X3 hd_X3_nodes ⟨Nat.le_of_ble_eq_true rfl, Nat.le_of_ble_eq_true rfl⟩) 0 rfl rfl rfl rfl (Nat.le_of_ble_eq_true rfl) dX3_links_6 ⟨Nat.le_of_ble_eq_true rfl, Nat.le_of_ble_eq_true rfl⟩ (fun w1 hp1 => ?_)
    subst hp1
    refine q_icmp_ge C 30 dX3_links_9 (by decide) (fun h => ?_) (fun h => ?_)
    · have hf := ifT hf h
      refine q_iload_n C dX3_links_30 rfl 1 rfl ?_
      have hf := Option.some.inj hf
      subst hf
      exact q_iret C (Nat.le_of_ble_eq_true rfl) (Nat.le_of_ble_eq_true rfl) rfl dX3_links_31
    · have hf := ifF hf h
      refine q_iload_n C dX3_links_12 rfl 1 rfl ?_
      refine q_aload_n C dX3_links_13 rfl 0 rfl ?_
      refine q_get C (uW uX3_in) 0 rfl rfl 0 (by decide) (ws_in xf_X3_7) rfl rfl dX3_links_14 ?_
      refine q_bipush (v := 104) C dX3_links_17 (by decide) ?_
      refine q_iload_n C dX3_links_19 rfl 2 rfl ?_
      refine q_iadd C dX3_links_20 ?_
      obtain ⟨hg, hf⟩ := gd_some hf
      refine q_iald C 1 rfl hg dX3_links_21 ?_
      refine q_iadd C dX3_links_22 ?_
      obtain ⟨z2, e_z2, hf⟩ := bndv hf
      refine q_topi e_z2 ?_
      refine q_istore_n (lv' := [(1, .int z2), (0, .ref m0), (2, .int x2)]) C dX3_links_23 rfl (by decide) rfl ?_
      refine q_iinc (v := (x2 + (1 : Int32))) (lv' := [(2, .int (x2 + (1 : Int32))), (1, .int z2), (0, .ref m0)]) C dX3_links_24 2 rfl rfl (by decide) rfl ?_
      refine q_goto C 4 dX3_links_27 (by decide) ?_
      refine q_sub (lv' := [(0, .ref m0), (1, .int z2), (2, .int (x2 + (1 : Int32)))]) [2, 1, 0] rfl ?_
      exact ih M z2 (x2 + (1 : Int32)) hf
set_option maxRecDepth 100000 in
set_option maxHeartbeats 4000000 in
theorem c_X3_links (l : Launch) (D : va_G) (cI cJ cN : ClassId) (m0 m1 m2 m3 m4 m5 m6 m7 : Nat)  (M : MS)  (z : Int32) (hf : f_X3_links M = some z) : MI l D cI cJ cN yX3_links (WS yX3_links cX3_links 3 (some .int)) { frames := 1, cells := 0, slots := 0, locals := 20 } [.ref m0] (wMod cI cJ m0 m1 m2 m3 m4 m5 m6 m7 M) z (fun w => w = wMod cI cJ m0 m1 m2 m3 m4 m5 m6 m7 M) := by
  rw [f_X3_links] at hf
  refine q_startI (lv := [(0, .ref m0)]) (by decide +kernel) rfl (Nat.le_of_ble_eq_true rfl) ?_
  intro p e s m below meth c C hin
  refine q_iconst (v := 0) C dX3_links_0 (by decide) ?_
  refine q_istore_n (lv' := [(1, .int (0 : Int32)), (0, .ref m0)]) C dX3_links_1 rfl (by decide) rfl ?_
  refine q_iconst (v := 0) C dX3_links_2 (by decide) ?_
  refine q_istore_n (lv' := [(2, .int (0 : Int32)), (1, .int (0 : Int32)), (0, .ref m0)]) C dX3_links_3 rfl (by decide) rfl ?_
  refine q_sub (lv' := [(0, .ref m0), (1, .int (0 : Int32)), (2, .int (0 : Int32))]) [2, 1, 0] rfl ?_
  exact l_X3_links_4 C FU M (0 : Int32) (0 : Int32) hf
set_option maxRecDepth 100000 in
set_option maxHeartbeats 4000000 in
theorem c_X3_told (l : Launch) (D : va_G) (cI cJ cN : ClassId) (m0 m1 m2 m3 m4 m5 m6 m7 : Nat)  (M : MS) (x1 : Int32) (z : Int32) (hf : f_X3_told M x1 = some z) : MI l D cI cJ cN yX3_told (WS yX3_told cX3_told 2 (some .int)) { frames := 3, cells := 0, slots := 0, locals := 68 } [.ref m0, .int x1] (wMod cI cJ m0 m1 m2 m3 m4 m5 m6 m7 M) z (fun w => w = wMod cI cJ m0 m1 m2 m3 m4 m5 m6 m7 M) := by
  rw [f_X3_told] at hf
  refine q_startI (lv := [(0, .ref m0), (1, .int x1)]) (by decide +kernel) rfl (Nat.le_of_ble_eq_true rfl) ?_
  intro p e s m below meth c C hin
  refine q_iload_n C dX3_told_0 rfl 1 rfl ?_
  by_cases h0 : x1 = (0 : Int32)
  · have hf := ifT hf h0
    refine q_tableIn (off := 55) C 56 dX3_told_1 (by rw [h0]; decide) (by rw [h0]; decide) (by first | (rw [h0]; done) | (rw [h0]; decide)) (by decide) ?_
    refine q_aload_n C dX3_told_56 rfl 0 rfl ?_
    obtain ⟨z1, h_z1, hf⟩ := bnd hf
    refine q_cVIw C (c_X3_nodes l D cI cJ cN m0 m1 m2 m3 m4 m5 m6 m7 M z1 h_z1) (mkV (fr := 0) (lo := 0) C xc_X3_nodes xm_X3_40 xi_X3_nodes xe_X3_nodes xn_X3 hd_X3_nodes ⟨Nat.le_of_ble_eq_true rfl, Nat.le_of_ble_eq_true rfl⟩) 0 rfl rfl rfl rfl (Nat.le_of_ble_eq_true rfl) dX3_told_57 ⟨Nat.le_of_ble_eq_true rfl, Nat.le_of_ble_eq_true rfl⟩ (fun w1 hp1 => ?_)
    subst hp1
    have hf := Option.some.inj hf
    subst hf
    exact q_iret C (Nat.le_of_ble_eq_true rfl) (Nat.le_of_ble_eq_true rfl) rfl dX3_told_60
  · have hf := ifF hf h0
    by_cases h1 : x1 = (1 : Int32)
    · have hf := ifT hf h1
      refine q_tableIn (off := 60) C 61 dX3_told_1 (by rw [h1]; decide) (by rw [h1]; decide) (by first | (rw [h1]; done) | (rw [h1]; decide)) (by decide) ?_
      refine q_aload_n C dX3_told_61 rfl 0 rfl ?_
      refine q_get C (uW uX3_in) 0 rfl rfl 0 (by decide) (ws_in xf_X3_7) rfl rfl dX3_told_62 ?_
      refine q_iconst (v := 0) C dX3_told_65 (by decide) ?_
      refine q_iald C 1 rfl (by decide) dX3_told_66 ?_
      have hf := Option.some.inj hf
      subst hf
      exact q_iret C (Nat.le_of_ble_eq_true rfl) (Nat.le_of_ble_eq_true rfl) rfl dX3_told_67
    · have hf := ifF hf h1
      by_cases h2 : x1 = (2 : Int32)
      · have hf := ifT hf h2
        refine q_tableIn (off := 67) C 68 dX3_told_1 (by rw [h2]; decide) (by rw [h2]; decide) (by first | (rw [h2]; done) | (rw [h2]; decide)) (by decide) ?_
        refine q_aload_n C dX3_told_68 rfl 0 rfl ?_
        obtain ⟨z2, h_z2, hf⟩ := bnd hf
        refine q_cVIw C (c_X3_present l D cI cJ cN m0 m1 m2 m3 m4 m5 m6 m7 M z2 h_z2) (mkV (fr := 1) (lo := 20) C xc_X3_present xm_X3_122 xi_X3_present xe_X3_present xn_X3 hd_X3_present ⟨Nat.le_of_ble_eq_true rfl, Nat.le_of_ble_eq_true rfl⟩) 0 rfl rfl rfl rfl (Nat.le_of_ble_eq_true rfl) dX3_told_69 ⟨Nat.le_of_ble_eq_true rfl, Nat.le_of_ble_eq_true rfl⟩ (fun w1 hp1 => ?_)
        subst hp1
        have hf := Option.some.inj hf
        subst hf
        exact q_iret C (Nat.le_of_ble_eq_true rfl) (Nat.le_of_ble_eq_true rfl) rfl dX3_told_72
      · have hf := ifF hf h2
        by_cases h3 : x1 = (3 : Int32)
        · have hf := ifT hf h3
          refine q_tableIn (off := 72) C 73 dX3_told_1 (by rw [h3]; decide) (by rw [h3]; decide) (by first | (rw [h3]; done) | (rw [h3]; decide)) (by decide) ?_
          refine q_aload_n C dX3_told_73 rfl 0 rfl ?_
          obtain ⟨z3, h_z3, hf⟩ := bnd hf
          refine q_cVIw C (c_X3_links l D cI cJ cN m0 m1 m2 m3 m4 m5 m6 m7 M z3 h_z3) (mkV (fr := 1) (lo := 20) C xc_X3_links xm_X3_128 xi_X3_links xe_X3_links xn_X3 hd_X3_links ⟨Nat.le_of_ble_eq_true rfl, Nat.le_of_ble_eq_true rfl⟩) 0 rfl rfl rfl rfl (Nat.le_of_ble_eq_true rfl) dX3_told_74 ⟨Nat.le_of_ble_eq_true rfl, Nat.le_of_ble_eq_true rfl⟩ (fun w1 hp1 => ?_)
          subst hp1
          have hf := Option.some.inj hf
          subst hf
          exact q_iret C (Nat.le_of_ble_eq_true rfl) (Nat.le_of_ble_eq_true rfl) rfl dX3_told_77
        · have hf := ifF hf h3
          by_cases h4 : x1 = (4 : Int32)
          · have hf := ifT hf h4
            refine q_tableIn (off := 77) C 78 dX3_told_1 (by rw [h4]; decide) (by rw [h4]; decide) (by first | (rw [h4]; done) | (rw [h4]; decide)) (by decide) ?_
            refine q_aload_n C dX3_told_78 rfl 0 rfl ?_
            obtain ⟨z4, h_z4, hf⟩ := bnd hf
            refine q_cVIw C (c_X3_allLengths l D cI cJ cN m0 m1 m2 m3 m4 m5 m6 m7 M z4 h_z4) (mkV (fr := 2) (lo := 45) C xc_X3_allLengths xm_X3_116 xi_X3_allLengths xe_X3_allLengths xn_X3 hd_X3_allLengths ⟨Nat.le_of_ble_eq_true rfl, Nat.le_of_ble_eq_true rfl⟩) 0 rfl rfl rfl rfl (Nat.le_of_ble_eq_true rfl) dX3_told_79 ⟨Nat.le_of_ble_eq_true rfl, Nat.le_of_ble_eq_true rfl⟩ (fun w1 hp1 => ?_)
            subst hp1
            have hf := Option.some.inj hf
            subst hf
            exact q_iret C (Nat.le_of_ble_eq_true rfl) (Nat.le_of_ble_eq_true rfl) rfl dX3_told_82
          · have hf := ifF hf h4
            by_cases h5 : x1 = (5 : Int32)
            · have hf := ifT hf h5
              refine q_tableIn (off := 82) C 83 dX3_told_1 (by rw [h5]; decide) (by rw [h5]; decide) (by first | (rw [h5]; done) | (rw [h5]; decide)) (by decide) ?_
              refine q_aload_n C dX3_told_83 rfl 0 rfl ?_
              refine q_get C (uW uX3_in) 0 rfl rfl 0 (by decide) (ws_in xf_X3_7) rfl rfl dX3_told_84 ?_
              refine q_iconst (v := 2) C dX3_told_87 (by decide) ?_
              refine q_iald C 1 rfl (by decide) dX3_told_88 ?_
              have hf := Option.some.inj hf
              subst hf
              exact q_iret C (Nat.le_of_ble_eq_true rfl) (Nat.le_of_ble_eq_true rfl) rfl dX3_told_89
            · have hf := ifF hf h5
              by_cases h6 : x1 = (6 : Int32)
              · have hf := ifT hf h6
                refine q_tableIn (off := 89) C 90 dX3_told_1 (by rw [h6]; decide) (by rw [h6]; decide) (by first | (rw [h6]; done) | (rw [h6]; decide)) (by decide) ?_
                refine q_aload_n C dX3_told_90 rfl 0 rfl ?_
                refine q_get C (uW uX3_in) 0 rfl rfl 0 (by decide) (ws_in xf_X3_7) rfl rfl dX3_told_91 ?_
                refine q_iconst (v := 3) C dX3_told_94 (by decide) ?_
                refine q_iald C 1 rfl (by decide) dX3_told_95 ?_
                have hf := Option.some.inj hf
                subst hf
                exact q_iret C (Nat.le_of_ble_eq_true rfl) (Nat.le_of_ble_eq_true rfl) rfl dX3_told_96
              · have hf := ifF hf h6
                by_cases h7 : x1 = (7 : Int32)
                · have hf := ifT hf h7
                  refine q_tableIn (off := 96) C 97 dX3_told_1 (by rw [h7]; decide) (by rw [h7]; decide) (by first | (rw [h7]; done) | (rw [h7]; decide)) (by decide) ?_
                  refine q_aload_n C dX3_told_97 rfl 0 rfl ?_
                  refine q_get C (uW uX3_in) 0 rfl rfl 0 (by decide) (ws_in xf_X3_7) rfl rfl dX3_told_98 ?_
                  refine q_iconst (v := 4) C dX3_told_101 (by decide) ?_
                  refine q_iald C 1 rfl (by decide) dX3_told_102 ?_
                  have hf := Option.some.inj hf
                  subst hf
                  exact q_iret C (Nat.le_of_ble_eq_true rfl) (Nat.le_of_ble_eq_true rfl) rfl dX3_told_103
                · have hf := ifF hf h7
                  by_cases h8 : x1 = (8 : Int32)
                  · have hf := ifT hf h8
                    refine q_tableIn (off := 103) C 104 dX3_told_1 (by rw [h8]; decide) (by rw [h8]; decide) (by first | (rw [h8]; done) | (rw [h8]; decide)) (by decide) ?_
                    refine q_aload_n C dX3_told_104 rfl 0 rfl ?_
                    refine q_get C (uW uX3_in) 0 rfl rfl 0 (by decide) (ws_in xf_X3_7) rfl rfl dX3_told_105 ?_
                    refine q_iconst (v := 5) C dX3_told_108 (by decide) ?_
                    refine q_iald C 1 rfl (by decide) dX3_told_109 ?_
                    have hf := Option.some.inj hf
                    subst hf
                    exact q_iret C (Nat.le_of_ble_eq_true rfl) (Nat.le_of_ble_eq_true rfl) rfl dX3_told_110
                  · have hf := ifF hf h8
                    by_cases h9 : x1 = (9 : Int32)
                    · have hf := ifT hf h9
                      refine q_tableIn (off := 110) C 111 dX3_told_1 (by rw [h9]; decide) (by rw [h9]; decide) (by first | (rw [h9]; done) | (rw [h9]; decide)) (by decide) ?_
                      refine q_aload_n C dX3_told_111 rfl 0 rfl ?_
                      refine q_get C (uW uX3_in) 0 rfl rfl 2 (by decide) (ws_in xf_X3_36) rfl rfl dX3_told_112 ?_
                      have hf := Option.some.inj hf
                      subst hf
                      exact q_iret C (Nat.le_of_ble_eq_true rfl) (Nat.le_of_ble_eq_true rfl) rfl dX3_told_115
                    · have hf := ifF hf h9
                      refine q_tableOut C 116 dX3_told_1 (by have a0 := lv_neT h0 (show ((0 : Int32)).toInt = 0 by decide); have a1 := lv_neT h1 (show ((1 : Int32)).toInt = 1 by decide); have a2 := lv_neT h2 (show ((2 : Int32)).toInt = 2 by decide); have a3 := lv_neT h3 (show ((3 : Int32)).toInt = 3 by decide); have a4 := lv_neT h4 (show ((4 : Int32)).toInt = 4 by decide); have a5 := lv_neT h5 (show ((5 : Int32)).toInt = 5 by decide); have a6 := lv_neT h6 (show ((6 : Int32)).toInt = 6 by decide); have a7 := lv_neT h7 (show ((7 : Int32)).toInt = 7 by decide); have a8 := lv_neT h8 (show ((8 : Int32)).toInt = 8 by decide); have a9 := lv_neT h9 (show ((9 : Int32)).toInt = 9 by decide); omega) (by decide) ?_
                      refine q_iconst (v := -1) C dX3_told_116 (by decide) ?_
                      have hf := Option.some.inj hf
                      subst hf
                      exact q_iret C (Nat.le_of_ble_eq_true rfl) (Nat.le_of_ble_eq_true rfl) rfl dX3_told_117
set_option maxRecDepth 100000 in
set_option maxHeartbeats 4000000 in
theorem l_X3_linksTo_4 {p : Program} {l : Launch} {e : Env} {s : State} {m : MethodId} {args : Array Value} {below : List Frame} {meth : Method} {c : Code} {D : va_G} {cI cJ cN : ClassId} {W0 : va_W} {m0 m1 m2 m3 m4 m5 m6 m7 : Nat} {z : Int32} (C : CX p l s m args meth c cX3_linksTo 4 yX3_linksTo.cls (WS yX3_linksTo cX3_linksTo 4 (some .int)) (some .int) D cI cJ cN (va_A W0 s.heap.size)) : ∀ (fu : Nat) (M : MS) (x1 : Int32) (x2 : Int32) (x3 : Int32), g_X3_linksTo_4 fu M x1 x2 x3 = some z → WW p l e { frames := 2, cells := 0, slots := 0, locals := 45 } s m args below meth c D 4 (va_A W0 s.heap.size) 0 0 (QI below args s D W0 { frames := 2, cells := 0, slots := 0, locals := 45 } z (fun w => w = wMod cI cJ m0 m1 m2 m3 m4 m5 m6 m7 M)) 4 [(0, .ref m0), (1, .int x1), (2, .int x2), (3, .int x3)] [] (wMod cI cJ m0 m1 m2 m3 m4 m5 m6 m7 M) := by
  intro fu
  induction fu with
  | zero =>
    intro M x1 x2 x3 hf
    rw [g_X3_linksTo_4] at hf
    cases hf
  | succ fu ih =>
    intro M x1 x2 x3 hf
    rw [g_X3_linksTo_4] at hf
    refine q_iload_n C dX3_linksTo_4 rfl 3 rfl ?_
    refine q_aload_n C dX3_linksTo_5 rfl 0 rfl ?_
    obtain ⟨z1, h_z1, hf⟩ := bnd hf
    refine q_cVIw C (c_X3_nodes l D cI cJ cN m0 m1 m2 m3 m4 m5 m6 m7 M z1 h_z1) (mkV (fr := 0) (lo := 0) C xc_X3_nodes xm_X3_40 xi_X3_nodes xe_X3_nodes xn_X3 hd_X3_nodes ⟨Nat.le_of_ble_eq_true rfl, Nat.le_of_ble_eq_true rfl⟩) 0 rfl rfl rfl rfl (Nat.le_of_ble_eq_true rfl) dX3_linksTo_6 ⟨Nat.le_of_ble_eq_true rfl, Nat.le_of_ble_eq_true rfl⟩ (fun w1 hp1 => ?_)
    subst hp1
    refine q_icmp_ge C 35 dX3_linksTo_9 (by decide) (fun h => ?_) (fun h => ?_)
    · have hf := ifT hf h
      refine q_iload_n C dX3_linksTo_35 rfl 2 rfl ?_
      have hf := Option.some.inj hf
      subst hf
      exact q_iret C (Nat.le_of_ble_eq_true rfl) (Nat.le_of_ble_eq_true rfl) rfl dX3_linksTo_36
    · have hf := ifF hf h
      refine q_iload_n C dX3_linksTo_12 rfl 2 rfl ?_
      refine q_aload_n C dX3_linksTo_13 rfl 0 rfl ?_
      refine q_iload_n C dX3_linksTo_14 rfl 3 rfl ?_
      refine q_iload_n C dX3_linksTo_15 rfl 1 rfl ?_
      obtain ⟨z2, h_z2, hf⟩ := bnd hf
      refine q_cVIw C (c_X3_hasLink l D cI cJ cN m0 m1 m2 m3 m4 m5 m6 m7 M x3 x1 z2 h_z2) (mkV (fr := 1) (lo := 22) C xc_X3_hasLink xm_X3_62 xi_X3_hasLink xe_X3_hasLink xn_X3 hd_X3_hasLink ⟨Nat.le_of_ble_eq_true rfl, Nat.le_of_ble_eq_true rfl⟩) 0 rfl rfl rfl rfl (Nat.le_of_ble_eq_true rfl) dX3_linksTo_16 ⟨Nat.le_of_ble_eq_true rfl, Nat.le_of_ble_eq_true rfl⟩ (fun w1 hp1 => ?_)
      subst hp1
      refine q_if_eq C 26 dX3_linksTo_19 (by decide) (fun h => ?_) (fun h => ?_)
      · have hf := ifT hf h
        refine q_iconst (v := 0) C dX3_linksTo_26 (by decide) ?_
        refine q_iadd C dX3_linksTo_27 ?_
        refine q_istore_n (lv' := [(2, .int (x2 + (0 : Int32))), (0, .ref m0), (1, .int x1), (3, .int x3)]) C dX3_linksTo_28 rfl (by decide) rfl ?_
        refine q_iinc (v := (x3 + (1 : Int32))) (lv' := [(3, .int (x3 + (1 : Int32))), (2, .int (x2 + (0 : Int32))), (0, .ref m0), (1, .int x1)]) C dX3_linksTo_29 3 rfl rfl (by decide) rfl ?_
        refine q_goto C 4 dX3_linksTo_32 (by decide) ?_
        refine q_sub (lv' := [(0, .ref m0), (1, .int x1), (2, .int (x2 + (0 : Int32))), (3, .int (x3 + (1 : Int32)))]) [2, 3, 1, 0] rfl ?_
        exact ih M x1 (x2 + (0 : Int32)) (x3 + (1 : Int32)) hf
      · have hf := ifF hf h
        refine q_iconst (v := 1) C dX3_linksTo_22 (by decide) ?_
        refine q_goto C 27 dX3_linksTo_23 (by decide) ?_
        refine q_iadd C dX3_linksTo_27 ?_
        refine q_istore_n (lv' := [(2, .int (x2 + (1 : Int32))), (0, .ref m0), (1, .int x1), (3, .int x3)]) C dX3_linksTo_28 rfl (by decide) rfl ?_
        refine q_iinc (v := (x3 + (1 : Int32))) (lv' := [(3, .int (x3 + (1 : Int32))), (2, .int (x2 + (1 : Int32))), (0, .ref m0), (1, .int x1)]) C dX3_linksTo_29 3 rfl rfl (by decide) rfl ?_
        refine q_goto C 4 dX3_linksTo_32 (by decide) ?_
        refine q_sub (lv' := [(0, .ref m0), (1, .int x1), (2, .int (x2 + (1 : Int32))), (3, .int (x3 + (1 : Int32)))]) [2, 3, 1, 0] rfl ?_
        exact ih M x1 (x2 + (1 : Int32)) (x3 + (1 : Int32)) hf
set_option maxRecDepth 100000 in
set_option maxHeartbeats 4000000 in
theorem c_X3_linksTo (l : Launch) (D : va_G) (cI cJ cN : ClassId) (m0 m1 m2 m3 m4 m5 m6 m7 : Nat)  (M : MS) (x1 : Int32) (z : Int32) (hf : f_X3_linksTo M x1 = some z) : MI l D cI cJ cN yX3_linksTo (WS yX3_linksTo cX3_linksTo 4 (some .int)) { frames := 2, cells := 0, slots := 0, locals := 45 } [.ref m0, .int x1] (wMod cI cJ m0 m1 m2 m3 m4 m5 m6 m7 M) z (fun w => w = wMod cI cJ m0 m1 m2 m3 m4 m5 m6 m7 M) := by
  rw [f_X3_linksTo] at hf
  refine q_startI (lv := [(0, .ref m0), (1, .int x1)]) (by decide +kernel) rfl (Nat.le_of_ble_eq_true rfl) ?_
  intro p e s m below meth c C hin
  refine q_iconst (v := 0) C dX3_linksTo_0 (by decide) ?_
  refine q_istore_n (lv' := [(2, .int (0 : Int32)), (0, .ref m0), (1, .int x1)]) C dX3_linksTo_1 rfl (by decide) rfl ?_
  refine q_iconst (v := 0) C dX3_linksTo_2 (by decide) ?_
  refine q_istore_n (lv' := [(3, .int (0 : Int32)), (2, .int (0 : Int32)), (0, .ref m0), (1, .int x1)]) C dX3_linksTo_3 rfl (by decide) rfl ?_
  refine q_sub (lv' := [(0, .ref m0), (1, .int x1), (2, .int (0 : Int32)), (3, .int (0 : Int32))]) [2, 3, 1, 0] rfl ?_
  exact l_X3_linksTo_4 C FU M x1 (0 : Int32) (0 : Int32) hf
set_option maxRecDepth 100000 in
set_option maxHeartbeats 4000000 in
theorem l_X3_layWays_128 {p : Program} {l : Launch} {e : Env} {s : State} {m : MethodId} {args : Array Value} {below : List Frame} {meth : Method} {c : Code} {D : va_G} {cI cJ cN : ClassId} {W0 : va_W} {m0 m1 m2 m3 m4 m5 m6 m7 : Nat} {z : MS} (C : CX p l s m args meth c cX3_layWays 6 yX3_layWays.cls (WS yX3_layWays cX3_layWays 6 none) none D cI cJ cN (va_A W0 s.heap.size)) {K51 : MS → Int32 → Int32 → Option (MS)} (hK51 : ∀ (M : MS) (x2 : Int32) (x3 : Int32), K51 M x2 x3 = some z → WW p l e { frames := 3, cells := 0, slots := 0, locals := 67 } s m args below meth c D 6 (va_A W0 s.heap.size) 0 0 (QV below args s D W0 { frames := 3, cells := 0, slots := 0, locals := 67 } (fun w => w = wMod cI cJ m0 m1 m2 m3 m4 m5 m6 m7 z)) 51 [(0, .ref m0), (2, .int x2), (3, .int x3)] [] (wMod cI cJ m0 m1 m2 m3 m4 m5 m6 m7 M)) {K60 : MS → Int32 → Int32 → Int32 → Option (MS)} (hK60 : ∀ (M : MS) (x2 : Int32) (x3 : Int32) (x4 : Int32), K60 M x2 x3 x4 = some z → WW p l e { frames := 3, cells := 0, slots := 0, locals := 67 } s m args below meth c D 6 (va_A W0 s.heap.size) 0 0 (QV below args s D W0 { frames := 3, cells := 0, slots := 0, locals := 67 } (fun w => w = wMod cI cJ m0 m1 m2 m3 m4 m5 m6 m7 z)) 60 [(0, .ref m0), (2, .int x2), (3, .int x3), (4, .int x4)] [] (wMod cI cJ m0 m1 m2 m3 m4 m5 m6 m7 M)) {K72 : MS → Int32 → Int32 → Int32 → Int32 → Option (MS)} (hK72 : ∀ (M : MS) (x2 : Int32) (x3 : Int32) (x4 : Int32) (x5 : Int32), K72 M x2 x3 x4 x5 = some z → WW p l e { frames := 3, cells := 0, slots := 0, locals := 67 } s m args below meth c D 6 (va_A W0 s.heap.size) 0 0 (QV below args s D W0 { frames := 3, cells := 0, slots := 0, locals := 67 } (fun w => w = wMod cI cJ m0 m1 m2 m3 m4 m5 m6 m7 z)) 72 [(0, .ref m0), (2, .int x2), (3, .int x3), (4, .int x4), (5, .int x5)] [] (wMod cI cJ m0 m1 m2 m3 m4 m5 m6 m7 M)) : ∀ (M : MS) (x3 : Int32) (x4 : Int32) (x5 : Int32), g_X3_layWays_128 K51 K60 K72 M x3 x4 x5 = some z → WW p l e { frames := 3, cells := 0, slots := 0, locals := 67 } s m args below meth c D 6 (va_A W0 s.heap.size) 0 0 (QV below args s D W0 { frames := 3, cells := 0, slots := 0, locals := 67 } (fun w => w = wMod cI cJ m0 m1 m2 m3 m4 m5 m6 m7 z)) 128 [(0, .ref m0), (3, .int x3), (4, .int x4), (5, .int x5)] [] (wMod cI cJ m0 m1 m2 m3 m4 m5 m6 m7 M) := by
  intro M x3 x4 x5 hf
  rw [g_X3_layWays_128] at hf
  refine q_aload_n C dX3_layWays_128 rfl 0 rfl ?_
  refine q_get C (uW uX3_in) 0 rfl rfl 8 (by decide) (ws_in xf_X3_22) rfl rfl dX3_layWays_129 ?_
  refine q_iload C dX3_layWays_132 3 rfl ?_
  refine q_iload_n C dX3_layWays_134 rfl 1 rfl ?_
  refine q_iconst (v := 1) C dX3_layWays_135 (by decide) ?_
  refine q_iadd C dX3_layWays_136 ?_
  obtain ⟨hg, hf⟩ := gd_some hf
  refine q_iast (ws' := wMod cI cJ m0 m1 m2 m3 m4 m5 m6 m7 (M.1, M.2.1, M.2.2.1, M.2.2.2.1, M.2.2.2.2.1, M.2.2.2.2.2.1, M.2.2.2.2.2.2.1, M.2.2.2.2.2.2.2.1, (upd M.2.2.2.2.2.2.2.2.1 x5.toNatClampNeg (x3 + (1 : Int32))), M.2.2.2.2.2.2.2.2.2.1, M.2.2.2.2.2.2.2.2.2.2)) C 5 rfl hg dX3_layWays_137 rfl ?_
  refine q_aload_n C dX3_layWays_138 rfl 0 rfl ?_
  refine q_get C (uW uX3_in) 0 rfl rfl 9 (by decide) (ws_in xf_X3_25) rfl rfl dX3_layWays_139 ?_
  refine q_iload C dX3_layWays_142 3 rfl ?_
  refine q_dup2 C dX3_layWays_144 rfl rfl ?_
  obtain ⟨hg, hf⟩ := gd_some hf
  refine q_lald C 6 rfl hg dX3_layWays_145 ?_
  refine q_aload_n C dX3_layWays_146 rfl 0 rfl ?_
  refine q_get C (uW uX3_in) 0 rfl rfl 9 (by decide) (ws_in xf_X3_25) rfl rfl dX3_layWays_147 ?_
  refine q_iload C dX3_layWays_150 2 rfl ?_
  obtain ⟨hg, hf⟩ := gd_some hf
  refine q_lald C 6 rfl hg dX3_layWays_152 ?_
  refine q_ladd C dX3_layWays_153 ?_
  obtain ⟨hg, hf⟩ := gd_some hf
  refine q_last (ws' := wMod cI cJ m0 m1 m2 m3 m4 m5 m6 m7 (M.1, M.2.1, M.2.2.1, M.2.2.2.1, M.2.2.2.2.1, M.2.2.2.2.2.1, M.2.2.2.2.2.2.1, M.2.2.2.2.2.2.2.1, (upd M.2.2.2.2.2.2.2.2.1 x5.toNatClampNeg (x3 + (1 : Int32))), (vp_updL M.2.2.2.2.2.2.2.2.2.1 x5.toNatClampNeg ((M.2.2.2.2.2.2.2.2.2.1 x5.toNatClampNeg) + (M.2.2.2.2.2.2.2.2.2.1 x4.toNatClampNeg))), M.2.2.2.2.2.2.2.2.2.2)) C 6 rfl hg dX3_layWays_154 rfl ?_
  refine q_iconst (v := 1) C dX3_layWays_155 (by decide) ?_
  refine q_istore_n (lv' := [(2, .int (1 : Int32)), (0, .ref m0), (3, .int x3), (4, .int x4), (5, .int x5)]) C dX3_layWays_156 rfl (by decide) rfl ?_
  refine q_iinc (v := (x5 + (1 : Int32))) (lv' := [(5, .int (x5 + (1 : Int32))), (2, .int (1 : Int32)), (0, .ref m0), (3, .int x3), (4, .int x4)]) C dX3_layWays_157 4 rfl rfl (by decide) rfl ?_
  refine q_goto C 72 dX3_layWays_160 (by decide) ?_
  refine q_sub (lv' := [(0, .ref m0), (2, .int (1 : Int32)), (3, .int x3), (4, .int x4), (5, .int (x5 + (1 : Int32)))]) [2, 1, 3, 4, 0] rfl ?_
  exact hK72 (M.1, M.2.1, M.2.2.1, M.2.2.2.1, M.2.2.2.2.1, M.2.2.2.2.2.1, M.2.2.2.2.2.2.1, M.2.2.2.2.2.2.2.1, (upd M.2.2.2.2.2.2.2.2.1 x5.toNatClampNeg (x3 + (1 : Int32))), (vp_updL M.2.2.2.2.2.2.2.2.2.1 x5.toNatClampNeg ((M.2.2.2.2.2.2.2.2.2.1 x5.toNatClampNeg) + (M.2.2.2.2.2.2.2.2.2.1 x4.toNatClampNeg))), M.2.2.2.2.2.2.2.2.2.2) (1 : Int32) x3 x4 (x5 + (1 : Int32)) hf
set_option maxRecDepth 100000 in
set_option maxHeartbeats 4000000 in
theorem l_X3_layWays_72 {p : Program} {l : Launch} {e : Env} {s : State} {m : MethodId} {args : Array Value} {below : List Frame} {meth : Method} {c : Code} {D : va_G} {cI cJ cN : ClassId} {W0 : va_W} {m0 m1 m2 m3 m4 m5 m6 m7 : Nat} {z : MS} (C : CX p l s m args meth c cX3_layWays 6 yX3_layWays.cls (WS yX3_layWays cX3_layWays 6 none) none D cI cJ cN (va_A W0 s.heap.size)) {K51 : MS → Int32 → Int32 → Option (MS)} (hK51 : ∀ (M : MS) (x2 : Int32) (x3 : Int32), K51 M x2 x3 = some z → WW p l e { frames := 3, cells := 0, slots := 0, locals := 67 } s m args below meth c D 6 (va_A W0 s.heap.size) 0 0 (QV below args s D W0 { frames := 3, cells := 0, slots := 0, locals := 67 } (fun w => w = wMod cI cJ m0 m1 m2 m3 m4 m5 m6 m7 z)) 51 [(0, .ref m0), (2, .int x2), (3, .int x3)] [] (wMod cI cJ m0 m1 m2 m3 m4 m5 m6 m7 M)) {K60 : MS → Int32 → Int32 → Int32 → Option (MS)} (hK60 : ∀ (M : MS) (x2 : Int32) (x3 : Int32) (x4 : Int32), K60 M x2 x3 x4 = some z → WW p l e { frames := 3, cells := 0, slots := 0, locals := 67 } s m args below meth c D 6 (va_A W0 s.heap.size) 0 0 (QV below args s D W0 { frames := 3, cells := 0, slots := 0, locals := 67 } (fun w => w = wMod cI cJ m0 m1 m2 m3 m4 m5 m6 m7 z)) 60 [(0, .ref m0), (2, .int x2), (3, .int x3), (4, .int x4)] [] (wMod cI cJ m0 m1 m2 m3 m4 m5 m6 m7 M)) : ∀ (fu : Nat) (M : MS) (x2 : Int32) (x3 : Int32) (x4 : Int32) (x5 : Int32), g_X3_layWays_72 K51 K60 fu M x2 x3 x4 x5 = some z → WW p l e { frames := 3, cells := 0, slots := 0, locals := 67 } s m args below meth c D 6 (va_A W0 s.heap.size) 0 0 (QV below args s D W0 { frames := 3, cells := 0, slots := 0, locals := 67 } (fun w => w = wMod cI cJ m0 m1 m2 m3 m4 m5 m6 m7 z)) 72 [(0, .ref m0), (2, .int x2), (3, .int x3), (4, .int x4), (5, .int x5)] [] (wMod cI cJ m0 m1 m2 m3 m4 m5 m6 m7 M) := by
  intro fu
  induction fu with
  | zero =>
    intro M x2 x3 x4 x5 hf
    rw [g_X3_layWays_72] at hf
    cases hf
  | succ fu ih =>
    intro M x2 x3 x4 x5 hf
    rw [g_X3_layWays_72] at hf
    refine q_iload C dX3_layWays_72 4 rfl ?_
    refine q_aload_n C dX3_layWays_74 rfl 0 rfl ?_
    obtain ⟨z1, h_z1, hf⟩ := bnd hf
    refine q_cVIw C (c_X3_nodes l D cI cJ cN m0 m1 m2 m3 m4 m5 m6 m7 M z1 h_z1) (mkV (fr := 0) (lo := 0) C xc_X3_nodes xm_X3_40 xi_X3_nodes xe_X3_nodes xn_X3 hd_X3_nodes ⟨Nat.le_of_ble_eq_true rfl, Nat.le_of_ble_eq_true rfl⟩) 0 rfl rfl rfl rfl (Nat.le_of_ble_eq_true rfl) dX3_layWays_75 ⟨Nat.le_of_ble_eq_true rfl, Nat.le_of_ble_eq_true rfl⟩ (fun w1 hp1 => ?_)
    subst hp1
    refine q_icmp_ge C 163 dX3_layWays_78 (by decide) (fun h => ?_) (fun h => ?_)
    · have hf := ifT hf h
      refine q_iinc (v := (x4 + (1 : Int32))) (lv' := [(4, .int (x4 + (1 : Int32))), (0, .ref m0), (2, .int x2), (3, .int x3), (5, .int x5)]) C dX3_layWays_163 3 rfl rfl (by decide) rfl ?_
      refine q_goto C 60 dX3_layWays_166 (by decide) ?_
      refine q_sub (lv' := [(0, .ref m0), (2, .int x2), (3, .int x3), (4, .int (x4 + (1 : Int32)))]) [1, 2, 3, 0] rfl ?_
      exact hK60 M x2 x3 (x4 + (1 : Int32)) hf
    · have hf := ifF hf h
      refine q_aload_n C dX3_layWays_81 rfl 0 rfl ?_
      refine q_get C (uW uX3_in) 0 rfl rfl 8 (by decide) (ws_in xf_X3_22) rfl rfl dX3_layWays_82 ?_
      refine q_iload C dX3_layWays_85 3 rfl ?_
      obtain ⟨hg, hf⟩ := gd_some hf
      refine q_iald C 5 rfl hg dX3_layWays_87 ?_
      refine q_iload_n C dX3_layWays_88 rfl 2 rfl ?_
      refine q_icmp_ne C 163 dX3_layWays_89 (by decide) (fun h => ?_) (fun h => ?_)
      · have hf := ifF hf h
        refine q_iinc (v := (x4 + (1 : Int32))) (lv' := [(4, .int (x4 + (1 : Int32))), (0, .ref m0), (2, .int x2), (3, .int x3), (5, .int x5)]) C dX3_layWays_163 3 rfl rfl (by decide) rfl ?_
        refine q_goto C 60 dX3_layWays_166 (by decide) ?_
        refine q_sub (lv' := [(0, .ref m0), (2, .int x2), (3, .int x3), (4, .int (x4 + (1 : Int32)))]) [1, 2, 3, 0] rfl ?_
        exact hK60 M x2 x3 (x4 + (1 : Int32)) hf
      · have hf := ifT hf h
        refine q_aload_n C dX3_layWays_92 rfl 0 rfl ?_
        refine q_iload C dX3_layWays_93 3 rfl ?_
        refine q_iload C dX3_layWays_95 4 rfl ?_
        obtain ⟨z2, h_z2, hf⟩ := bnd hf
        refine q_cVIw C (c_X3_isContact l D cI cJ cN m0 m1 m2 m3 m4 m5 m6 m7 M x4 x5 z2 h_z2) (mkV (fr := 2) (lo := 45) C xc_X3_isContact xm_X3_76 xi_X3_isContact xe_X3_isContact xn_X3 hd_X3_isContact ⟨Nat.le_of_ble_eq_true rfl, Nat.le_of_ble_eq_true rfl⟩) 0 rfl rfl rfl rfl (Nat.le_of_ble_eq_true rfl) dX3_layWays_97 ⟨Nat.le_of_ble_eq_true rfl, Nat.le_of_ble_eq_true rfl⟩ (fun w1 hp1 => ?_)
        subst hp1
        refine q_if_eq C 157 dX3_layWays_100 (by decide) (fun h => ?_) (fun h => ?_)
        · have hf := ifT hf h
          refine q_iinc (v := (x5 + (1 : Int32))) (lv' := [(5, .int (x5 + (1 : Int32))), (0, .ref m0), (2, .int x2), (3, .int x3), (4, .int x4)]) C dX3_layWays_157 4 rfl rfl (by decide) rfl ?_
          refine q_goto C 72 dX3_layWays_160 (by decide) ?_
          refine q_sub (lv' := [(0, .ref m0), (2, .int x2), (3, .int x3), (4, .int x4), (5, .int (x5 + (1 : Int32)))]) [1, 2, 3, 4, 0] rfl ?_
          exact ih M x2 x3 x4 (x5 + (1 : Int32)) hf
        · have hf := ifF hf h
          refine q_aload_n C dX3_layWays_103 rfl 0 rfl ?_
          refine q_get C (uW uX3_in) 0 rfl rfl 8 (by decide) (ws_in xf_X3_22) rfl rfl dX3_layWays_104 ?_
          refine q_iload C dX3_layWays_107 4 rfl ?_
          obtain ⟨hg, hf⟩ := gd_some hf
          refine q_iald C 5 rfl hg dX3_layWays_109 ?_
          refine q_bipush (v := -9) C dX3_layWays_110 (by decide) ?_
          refine q_icmp_eq C 128 dX3_layWays_112 (by decide) (fun h => ?_) (fun h => ?_)
          · have hf := ifT hf h
            refine q_sub (lv' := [(0, .ref m0), (3, .int x3), (4, .int x4), (5, .int x5)]) [0, 2, 3, 4] rfl ?_
            exact l_X3_layWays_128 C hK51 hK60 ih M x3 x4 x5 hf
          · have hf := ifF hf h
            refine q_aload_n C dX3_layWays_115 rfl 0 rfl ?_
            refine q_get C (uW uX3_in) 0 rfl rfl 8 (by decide) (ws_in xf_X3_22) rfl rfl dX3_layWays_116 ?_
            refine q_iload C dX3_layWays_119 4 rfl ?_
            obtain ⟨hg, hf⟩ := gd_some hf
            refine q_iald C 5 rfl hg dX3_layWays_121 ?_
            refine q_iload_n C dX3_layWays_122 rfl 2 rfl ?_
            refine q_iconst (v := 1) C dX3_layWays_123 (by decide) ?_
            refine q_iadd C dX3_layWays_124 ?_
            refine q_icmp_ne C 157 dX3_layWays_125 (by decide) (fun h => ?_) (fun h => ?_)
            · have hf := ifF hf h
              refine q_iinc (v := (x5 + (1 : Int32))) (lv' := [(5, .int (x5 + (1 : Int32))), (0, .ref m0), (2, .int x2), (3, .int x3), (4, .int x4)]) C dX3_layWays_157 4 rfl rfl (by decide) rfl ?_
              refine q_goto C 72 dX3_layWays_160 (by decide) ?_
              refine q_sub (lv' := [(0, .ref m0), (2, .int x2), (3, .int x3), (4, .int x4), (5, .int (x5 + (1 : Int32)))]) [1, 2, 3, 4, 0] rfl ?_
              exact ih M x2 x3 x4 (x5 + (1 : Int32)) hf
            · have hf := ifT hf h
              refine q_sub (lv' := [(0, .ref m0), (3, .int x3), (4, .int x4), (5, .int x5)]) [0, 2, 3, 4] rfl ?_
              exact l_X3_layWays_128 C hK51 hK60 ih M x3 x4 x5 hf
set_option maxRecDepth 100000 in
set_option maxHeartbeats 4000000 in
theorem l_X3_layWays_60 {p : Program} {l : Launch} {e : Env} {s : State} {m : MethodId} {args : Array Value} {below : List Frame} {meth : Method} {c : Code} {D : va_G} {cI cJ cN : ClassId} {W0 : va_W} {m0 m1 m2 m3 m4 m5 m6 m7 : Nat} {z : MS} (C : CX p l s m args meth c cX3_layWays 6 yX3_layWays.cls (WS yX3_layWays cX3_layWays 6 none) none D cI cJ cN (va_A W0 s.heap.size)) {K51 : MS → Int32 → Int32 → Option (MS)} (hK51 : ∀ (M : MS) (x2 : Int32) (x3 : Int32), K51 M x2 x3 = some z → WW p l e { frames := 3, cells := 0, slots := 0, locals := 67 } s m args below meth c D 6 (va_A W0 s.heap.size) 0 0 (QV below args s D W0 { frames := 3, cells := 0, slots := 0, locals := 67 } (fun w => w = wMod cI cJ m0 m1 m2 m3 m4 m5 m6 m7 z)) 51 [(0, .ref m0), (2, .int x2), (3, .int x3)] [] (wMod cI cJ m0 m1 m2 m3 m4 m5 m6 m7 M)) : ∀ (fu : Nat) (M : MS) (x2 : Int32) (x3 : Int32) (x4 : Int32), g_X3_layWays_60 K51 fu M x2 x3 x4 = some z → WW p l e { frames := 3, cells := 0, slots := 0, locals := 67 } s m args below meth c D 6 (va_A W0 s.heap.size) 0 0 (QV below args s D W0 { frames := 3, cells := 0, slots := 0, locals := 67 } (fun w => w = wMod cI cJ m0 m1 m2 m3 m4 m5 m6 m7 z)) 60 [(0, .ref m0), (2, .int x2), (3, .int x3), (4, .int x4)] [] (wMod cI cJ m0 m1 m2 m3 m4 m5 m6 m7 M) := by
  intro fu
  induction fu with
  | zero =>
    intro M x2 x3 x4 hf
    rw [g_X3_layWays_60] at hf
    cases hf
  | succ fu ih =>
    intro M x2 x3 x4 hf
    rw [g_X3_layWays_60] at hf
    refine q_iload C dX3_layWays_60 3 rfl ?_
    refine q_aload_n C dX3_layWays_62 rfl 0 rfl ?_
    obtain ⟨z1, h_z1, hf⟩ := bnd hf
    refine q_cVIw C (c_X3_nodes l D cI cJ cN m0 m1 m2 m3 m4 m5 m6 m7 M z1 h_z1) (mkV (fr := 0) (lo := 0) C xc_X3_nodes xm_X3_40 xi_X3_nodes xe_X3_nodes xn_X3 hd_X3_nodes ⟨Nat.le_of_ble_eq_true rfl, Nat.le_of_ble_eq_true rfl⟩) 0 rfl rfl rfl rfl (Nat.le_of_ble_eq_true rfl) dX3_layWays_63 ⟨Nat.le_of_ble_eq_true rfl, Nat.le_of_ble_eq_true rfl⟩ (fun w1 hp1 => ?_)
    subst hp1
    refine q_icmp_ge C 169 dX3_layWays_66 (by decide) (fun h => ?_) (fun h => ?_)
    · have hf := ifT hf h
      refine q_iinc (v := (x3 + (1 : Int32))) (lv' := [(3, .int (x3 + (1 : Int32))), (0, .ref m0), (2, .int x2), (4, .int x4)]) C dX3_layWays_169 2 rfl rfl (by decide) rfl ?_
      refine q_goto C 51 dX3_layWays_172 (by decide) ?_
      refine q_sub (lv' := [(0, .ref m0), (2, .int x2), (3, .int (x3 + (1 : Int32)))]) [1, 2, 0] rfl ?_
      exact hK51 M x2 (x3 + (1 : Int32)) hf
    · have hf := ifF hf h
      refine q_iconst (v := 0) C dX3_layWays_69 (by decide) ?_
      refine q_istore (lv' := [(5, .int (0 : Int32)), (0, .ref m0), (2, .int x2), (3, .int x3), (4, .int x4)]) C dX3_layWays_70 (by decide) rfl ?_
      refine q_sub (lv' := [(0, .ref m0), (2, .int x2), (3, .int x3), (4, .int x4), (5, .int (0 : Int32))]) [1, 2, 3, 4, 0] rfl ?_
      exact l_X3_layWays_72 C hK51 ih FU M x2 x3 x4 (0 : Int32) hf
set_option maxRecDepth 100000 in
set_option maxHeartbeats 4000000 in
theorem l_X3_layWays_51 {p : Program} {l : Launch} {e : Env} {s : State} {m : MethodId} {args : Array Value} {below : List Frame} {meth : Method} {c : Code} {D : va_G} {cI cJ cN : ClassId} {W0 : va_W} {m0 m1 m2 m3 m4 m5 m6 m7 : Nat} {z : MS} (C : CX p l s m args meth c cX3_layWays 6 yX3_layWays.cls (WS yX3_layWays cX3_layWays 6 none) none D cI cJ cN (va_A W0 s.heap.size)) : ∀ (fu : Nat) (M : MS) (x2 : Int32) (x3 : Int32), g_X3_layWays_51 fu M x2 x3 = some z → WW p l e { frames := 3, cells := 0, slots := 0, locals := 67 } s m args below meth c D 6 (va_A W0 s.heap.size) 0 0 (QV below args s D W0 { frames := 3, cells := 0, slots := 0, locals := 67 } (fun w => w = wMod cI cJ m0 m1 m2 m3 m4 m5 m6 m7 z)) 51 [(0, .ref m0), (2, .int x2), (3, .int x3)] [] (wMod cI cJ m0 m1 m2 m3 m4 m5 m6 m7 M) := by
  intro fu
  induction fu with
  | zero =>
    intro M x2 x3 hf
    rw [g_X3_layWays_51] at hf
    cases hf
  | succ fu ih =>
    intro M x2 x3 hf
    rw [g_X3_layWays_51] at hf
    refine q_iload_n C dX3_layWays_51 rfl 1 rfl ?_
    refine q_if_eq C 175 dX3_layWays_52 (by decide) (fun h => ?_) (fun h => ?_)
    · have hf := ifT hf h
      have hf := Option.some.inj hf
      subst hf
      exact q_vret C (Nat.le_of_ble_eq_true rfl) (Nat.le_of_ble_eq_true rfl) rfl dX3_layWays_175
    · have hf := ifF hf h
      refine q_iconst (v := 0) C dX3_layWays_55 (by decide) ?_
      refine q_istore_n (lv' := [(2, .int (0 : Int32)), (0, .ref m0), (3, .int x3)]) C dX3_layWays_56 rfl (by decide) rfl ?_
      refine q_iconst (v := 0) C dX3_layWays_57 (by decide) ?_
      refine q_istore (lv' := [(4, .int (0 : Int32)), (2, .int (0 : Int32)), (0, .ref m0), (3, .int x3)]) C dX3_layWays_58 (by decide) rfl ?_
      refine q_sub (lv' := [(0, .ref m0), (2, .int (0 : Int32)), (3, .int x3), (4, .int (0 : Int32))]) [2, 1, 3, 0] rfl ?_
      exact l_X3_layWays_60 C ih FU M (0 : Int32) x3 (0 : Int32) hf
set_option maxRecDepth 100000 in
set_option maxHeartbeats 4000000 in
theorem l_X3_layWays_24 {p : Program} {l : Launch} {e : Env} {s : State} {m : MethodId} {args : Array Value} {below : List Frame} {meth : Method} {c : Code} {D : va_G} {cI cJ cN : ClassId} {W0 : va_W} {m0 m1 m2 m3 m4 m5 m6 m7 : Nat} {z : MS} (C : CX p l s m args meth c cX3_layWays 6 yX3_layWays.cls (WS yX3_layWays cX3_layWays 6 none) none D cI cJ cN (va_A W0 s.heap.size)) {K2 : MS → Int32 → Int32 → Option (MS)} (hK2 : ∀ (M : MS) (x1 : Int32) (x2 : Int32), K2 M x1 x2 = some z → WW p l e { frames := 3, cells := 0, slots := 0, locals := 67 } s m args below meth c D 6 (va_A W0 s.heap.size) 0 0 (QV below args s D W0 { frames := 3, cells := 0, slots := 0, locals := 67 } (fun w => w = wMod cI cJ m0 m1 m2 m3 m4 m5 m6 m7 z)) 2 [(0, .ref m0), (1, .int x1), (2, .int x2)] [] (wMod cI cJ m0 m1 m2 m3 m4 m5 m6 m7 M)) : ∀ (M : MS) (x1 : Int32) (x2 : Int32) (y0 : Int32) (y1 : Int32), g_X3_layWays_24 K2 M x1 x2 y0 y1 = some z → WW p l e { frames := 3, cells := 0, slots := 0, locals := 67 } s m args below meth c D 6 (va_A W0 s.heap.size) 0 0 (QV below args s D W0 { frames := 3, cells := 0, slots := 0, locals := 67 } (fun w => w = wMod cI cJ m0 m1 m2 m3 m4 m5 m6 m7 z)) 24 [(0, .ref m0), (1, .int x1), (2, .int x2)] [.int y0, .int y1, .ref m5] (wMod cI cJ m0 m1 m2 m3 m4 m5 m6 m7 M) := by
  intro M x1 x2 y0 y1 hf
  rw [g_X3_layWays_24] at hf
  obtain ⟨hg, hf⟩ := gd_some hf
  refine q_iast (ws' := wMod cI cJ m0 m1 m2 m3 m4 m5 m6 m7 (M.1, M.2.1, M.2.2.1, M.2.2.2.1, M.2.2.2.2.1, M.2.2.2.2.2.1, M.2.2.2.2.2.2.1, M.2.2.2.2.2.2.2.1, (upd M.2.2.2.2.2.2.2.2.1 y1.toNatClampNeg y0), M.2.2.2.2.2.2.2.2.2.1, M.2.2.2.2.2.2.2.2.2.2)) C 5 rfl hg dX3_layWays_24 rfl ?_
  refine q_aload_n C dX3_layWays_25 rfl 0 rfl ?_
  refine q_get C (uW uX3_in) 0 rfl rfl 9 (by decide) (ws_in xf_X3_25) rfl rfl dX3_layWays_26 ?_
  refine q_iload_n C dX3_layWays_29 rfl 2 rfl ?_
  refine q_iload_n C dX3_layWays_30 rfl 2 rfl ?_
  refine q_iload_n C dX3_layWays_31 rfl 1 rfl ?_
  refine q_icmp_ne C 39 dX3_layWays_32 (by decide) (fun h => ?_) (fun h => ?_)
  · have hf := ifF hf h
    refine q_lconst (v := 0) C dX3_layWays_39 (by decide) ?_
    obtain ⟨hg, hf⟩ := gd_some hf
    refine q_last (ws' := wMod cI cJ m0 m1 m2 m3 m4 m5 m6 m7 (M.1, M.2.1, M.2.2.1, M.2.2.2.1, M.2.2.2.2.1, M.2.2.2.2.2.1, M.2.2.2.2.2.2.1, M.2.2.2.2.2.2.2.1, (upd M.2.2.2.2.2.2.2.2.1 y1.toNatClampNeg y0), (vp_updL M.2.2.2.2.2.2.2.2.2.1 x2.toNatClampNeg (0 : Int64)), M.2.2.2.2.2.2.2.2.2.2)) C 6 rfl hg dX3_layWays_40 rfl ?_
    refine q_iinc (v := (x2 + (1 : Int32))) (lv' := [(2, .int (x2 + (1 : Int32))), (0, .ref m0), (1, .int x1)]) C dX3_layWays_41 2 rfl rfl (by decide) rfl ?_
    refine q_goto C 2 dX3_layWays_44 (by decide) ?_
    refine q_sub (lv' := [(0, .ref m0), (1, .int x1), (2, .int (x2 + (1 : Int32)))]) [1, 2, 0] rfl ?_
    exact hK2 (M.1, M.2.1, M.2.2.1, M.2.2.2.1, M.2.2.2.2.1, M.2.2.2.2.2.1, M.2.2.2.2.2.2.1, M.2.2.2.2.2.2.2.1, (upd M.2.2.2.2.2.2.2.2.1 y1.toNatClampNeg y0), (vp_updL M.2.2.2.2.2.2.2.2.2.1 x2.toNatClampNeg (0 : Int64)), M.2.2.2.2.2.2.2.2.2.2) x1 (x2 + (1 : Int32)) hf
  · have hf := ifT hf h
    refine q_lconst (v := 1) C dX3_layWays_35 (by decide) ?_
    refine q_goto C 40 dX3_layWays_36 (by decide) ?_
    obtain ⟨hg, hf⟩ := gd_some hf
    refine q_last (ws' := wMod cI cJ m0 m1 m2 m3 m4 m5 m6 m7 (M.1, M.2.1, M.2.2.1, M.2.2.2.1, M.2.2.2.2.1, M.2.2.2.2.2.1, M.2.2.2.2.2.2.1, M.2.2.2.2.2.2.2.1, (upd M.2.2.2.2.2.2.2.2.1 y1.toNatClampNeg y0), (vp_updL M.2.2.2.2.2.2.2.2.2.1 x2.toNatClampNeg (1 : Int64)), M.2.2.2.2.2.2.2.2.2.2)) C 6 rfl hg dX3_layWays_40 rfl ?_
    refine q_iinc (v := (x2 + (1 : Int32))) (lv' := [(2, .int (x2 + (1 : Int32))), (0, .ref m0), (1, .int x1)]) C dX3_layWays_41 2 rfl rfl (by decide) rfl ?_
    refine q_goto C 2 dX3_layWays_44 (by decide) ?_
    refine q_sub (lv' := [(0, .ref m0), (1, .int x1), (2, .int (x2 + (1 : Int32)))]) [1, 2, 0] rfl ?_
    exact hK2 (M.1, M.2.1, M.2.2.1, M.2.2.2.1, M.2.2.2.2.1, M.2.2.2.2.2.1, M.2.2.2.2.2.2.1, M.2.2.2.2.2.2.2.1, (upd M.2.2.2.2.2.2.2.2.1 y1.toNatClampNeg y0), (vp_updL M.2.2.2.2.2.2.2.2.2.1 x2.toNatClampNeg (1 : Int64)), M.2.2.2.2.2.2.2.2.2.2) x1 (x2 + (1 : Int32)) hf
set_option maxRecDepth 100000 in
set_option maxHeartbeats 4000000 in
theorem l_X3_layWays_2 {p : Program} {l : Launch} {e : Env} {s : State} {m : MethodId} {args : Array Value} {below : List Frame} {meth : Method} {c : Code} {D : va_G} {cI cJ cN : ClassId} {W0 : va_W} {m0 m1 m2 m3 m4 m5 m6 m7 : Nat} {z : MS} (C : CX p l s m args meth c cX3_layWays 6 yX3_layWays.cls (WS yX3_layWays cX3_layWays 6 none) none D cI cJ cN (va_A W0 s.heap.size)) : ∀ (fu : Nat) (M : MS) (x1 : Int32) (x2 : Int32), g_X3_layWays_2 fu M x1 x2 = some z → WW p l e { frames := 3, cells := 0, slots := 0, locals := 67 } s m args below meth c D 6 (va_A W0 s.heap.size) 0 0 (QV below args s D W0 { frames := 3, cells := 0, slots := 0, locals := 67 } (fun w => w = wMod cI cJ m0 m1 m2 m3 m4 m5 m6 m7 z)) 2 [(0, .ref m0), (1, .int x1), (2, .int x2)] [] (wMod cI cJ m0 m1 m2 m3 m4 m5 m6 m7 M) := by
  intro fu
  induction fu with
  | zero =>
    intro M x1 x2 hf
    rw [g_X3_layWays_2] at hf
    cases hf
  | succ fu ih =>
    intro M x1 x2 hf
    rw [g_X3_layWays_2] at hf
    refine q_iload_n C dX3_layWays_2 rfl 2 rfl ?_
    refine q_bipush (v := 49) C dX3_layWays_3 (by decide) ?_
    refine q_icmp_ge C 47 dX3_layWays_5 (by decide) (fun h => ?_) (fun h => ?_)
    · have hf := ifT hf h
      refine q_iconst (v := 1) C dX3_layWays_47 (by decide) ?_
      refine q_istore_n (lv' := [(2, .int (1 : Int32)), (0, .ref m0), (1, .int x1)]) C dX3_layWays_48 rfl (by decide) rfl ?_
      refine q_iconst (v := 0) C dX3_layWays_49 (by decide) ?_
      refine q_istore_n (lv' := [(3, .int (0 : Int32)), (2, .int (1 : Int32)), (0, .ref m0), (1, .int x1)]) C dX3_layWays_50 rfl (by decide) rfl ?_
      refine q_sub (lv' := [(0, .ref m0), (2, .int (1 : Int32)), (3, .int (0 : Int32))]) [2, 1, 0] rfl ?_
      exact l_X3_layWays_51 C FU M (1 : Int32) (0 : Int32) hf
    · have hf := ifF hf h
      refine q_aload_n C dX3_layWays_8 rfl 0 rfl ?_
      refine q_get C (uW uX3_in) 0 rfl rfl 8 (by decide) (ws_in xf_X3_22) rfl rfl dX3_layWays_9 ?_
      refine q_iload_n C dX3_layWays_12 rfl 2 rfl ?_
      refine q_iload_n C dX3_layWays_13 rfl 2 rfl ?_
      refine q_iload_n C dX3_layWays_14 rfl 1 rfl ?_
      refine q_icmp_ne C 22 dX3_layWays_15 (by decide) (fun h => ?_) (fun h => ?_)
      · have hf := ifF hf h
        refine q_bipush (v := -9) C dX3_layWays_22 (by decide) ?_
        exact l_X3_layWays_24 C ih M x1 x2 (-9 : Int32) x2 hf
      · have hf := ifT hf h
        refine q_iconst (v := 0) C dX3_layWays_18 (by decide) ?_
        refine q_goto C 24 dX3_layWays_19 (by decide) ?_
        exact l_X3_layWays_24 C ih M x1 x2 (0 : Int32) x2 hf
set_option maxRecDepth 100000 in
set_option maxHeartbeats 4000000 in
theorem c_X3_layWays (l : Launch) (D : va_G) (cI cJ cN : ClassId) (m0 m1 m2 m3 m4 m5 m6 m7 : Nat)  (M : MS) (x1 : Int32) (z : MS) (hf : f_X3_layWays M x1 = some z) : MV l D cI cJ cN yX3_layWays (WS yX3_layWays cX3_layWays 6 none) { frames := 3, cells := 0, slots := 0, locals := 67 } [.ref m0, .int x1] (wMod cI cJ m0 m1 m2 m3 m4 m5 m6 m7 M) (fun w => w = wMod cI cJ m0 m1 m2 m3 m4 m5 m6 m7 z) := by
  rw [f_X3_layWays] at hf
  refine q_startV (lv := [(0, .ref m0), (1, .int x1)]) (by decide +kernel) rfl (Nat.le_of_ble_eq_true rfl) ?_
  intro p e s m below meth c C hin
  refine q_iconst (v := 0) C dX3_layWays_0 (by decide) ?_
  refine q_istore_n (lv' := [(2, .int (0 : Int32)), (0, .ref m0), (1, .int x1)]) C dX3_layWays_1 rfl (by decide) rfl ?_
  refine q_sub (lv' := [(0, .ref m0), (1, .int x1), (2, .int (0 : Int32))]) [1, 2, 0] rfl ?_
  exact l_X3_layWays_2 C FU M x1 (0 : Int32) hf
set_option maxRecDepth 100000 in
set_option maxHeartbeats 4000000 in
theorem l_X3_reached_38 {p : Program} {l : Launch} {e : Env} {s : State} {m : MethodId} {args : Array Value} {below : List Frame} {meth : Method} {c : Code} {D : va_G} {cI cJ cN : ClassId} {W0 : va_W} {m0 m1 m2 m3 m4 m5 m6 m7 : Nat} {z : Int32 × MS} (C : CX p l s m args meth c cX3_reached 6 yX3_reached.cls (WS yX3_reached cX3_reached 6 (some .int)) (some .int) D cI cJ cN (va_A W0 s.heap.size)) {K13 : MS → Int32 → Int32 → Int32 → Int32 → Option (Int32 × MS)} (hK13 : ∀ (M : MS) (x2 : Int32) (x3 : Int32) (x4 : Int32) (x5 : Int32), K13 M x2 x3 x4 x5 = some z → WW p l e { frames := 4, cells := 0, slots := 0, locals := 92 } s m args below meth c D 6 (va_A W0 s.heap.size) 0 0 (QI below args s D W0 { frames := 4, cells := 0, slots := 0, locals := 92 } z.1 (fun w => w = wMod cI cJ m0 m1 m2 m3 m4 m5 m6 m7 z.2)) 13 [(0, .ref m0), (2, .int x2), (3, .int x3), (4, .int x4), (5, .int x5)] [] (wMod cI cJ m0 m1 m2 m3 m4 m5 m6 m7 M)) : ∀ (M : MS) (x2 : Int32) (x4 : Int32) (x5 : Int32) (y0 : Int32) (y1 : Int32), g_X3_reached_38 K13 M x2 x4 x5 y0 y1 = some z → WW p l e { frames := 4, cells := 0, slots := 0, locals := 92 } s m args below meth c D 6 (va_A W0 s.heap.size) 0 0 (QI below args s D W0 { frames := 4, cells := 0, slots := 0, locals := 92 } z.1 (fun w => w = wMod cI cJ m0 m1 m2 m3 m4 m5 m6 m7 z.2)) 38 [(0, .ref m0), (2, .int x2), (4, .int x4), (5, .int x5)] [.int y0, .int y1] (wMod cI cJ m0 m1 m2 m3 m4 m5 m6 m7 M) := by
  intro M x2 x4 x5 y0 y1 hf
  rw [g_X3_reached_38] at hf
  refine q_iadd C dX3_reached_38 ?_
  refine q_istore_n (lv' := [(3, .int (y1 + y0)), (0, .ref m0), (2, .int x2), (4, .int x4), (5, .int x5)]) C dX3_reached_39 rfl (by decide) rfl ?_
  refine q_aload_n C dX3_reached_40 rfl 1 rfl ?_
  refine q_get C (uW uX3_in) 0 rfl rfl 8 (by decide) (ws_in xf_X3_22) rfl rfl dX3_reached_41 ?_
  refine q_iload C dX3_reached_44 4 rfl ?_
  obtain ⟨hg, hf⟩ := gd_some hf
  refine q_iald C 5 rfl hg dX3_reached_46 ?_
  refine q_iload C dX3_reached_47 3 rfl ?_
  refine q_icmp_le C 62 dX3_reached_49 (by decide) (fun h => ?_) (fun h => ?_)
  · have hf := ifT hf h
    refine q_iload C dX3_reached_62 3 rfl ?_
    refine q_istore (lv' := [(4, .int x4), (3, .int (y1 + y0)), (0, .ref m0), (2, .int x2), (5, .int x5)]) C dX3_reached_64 (by decide) rfl ?_
    refine q_iinc (v := (x5 + (1 : Int32))) (lv' := [(5, .int (x5 + (1 : Int32))), (4, .int x4), (3, .int (y1 + y0)), (0, .ref m0), (2, .int x2)]) C dX3_reached_66 4 rfl rfl (by decide) rfl ?_
    refine q_goto C 13 dX3_reached_69 (by decide) ?_
    refine q_sub (lv' := [(0, .ref m0), (2, .int x2), (3, .int (y1 + y0)), (4, .int x4), (5, .int (x5 + (1 : Int32)))]) [3, 4, 2, 1, 0] rfl ?_
    exact hK13 M x2 (y1 + y0) x4 (x5 + (1 : Int32)) hf
  · have hf := ifF hf h
    refine q_aload_n C dX3_reached_52 rfl 1 rfl ?_
    refine q_get C (uW uX3_in) 0 rfl rfl 8 (by decide) (ws_in xf_X3_22) rfl rfl dX3_reached_53 ?_
    refine q_iload C dX3_reached_56 4 rfl ?_
    obtain ⟨hg, hf⟩ := gd_some hf
    refine q_iald C 5 rfl hg dX3_reached_58 ?_
    refine q_goto C 64 dX3_reached_59 (by decide) ?_
    obtain ⟨z1, e_z1, hf⟩ := bndv hf
    refine q_topi e_z1 ?_
    refine q_istore (lv' := [(4, .int z1), (3, .int (y1 + y0)), (0, .ref m0), (2, .int x2), (5, .int x5)]) C dX3_reached_64 (by decide) rfl ?_
    refine q_iinc (v := (x5 + (1 : Int32))) (lv' := [(5, .int (x5 + (1 : Int32))), (4, .int z1), (3, .int (y1 + y0)), (0, .ref m0), (2, .int x2)]) C dX3_reached_66 4 rfl rfl (by decide) rfl ?_
    refine q_goto C 13 dX3_reached_69 (by decide) ?_
    refine q_sub (lv' := [(0, .ref m0), (2, .int x2), (3, .int (y1 + y0)), (4, .int z1), (5, .int (x5 + (1 : Int32)))]) [3, 4, 2, 1, 0] rfl ?_
    exact hK13 M x2 (y1 + y0) z1 (x5 + (1 : Int32)) hf
set_option maxRecDepth 100000 in
set_option maxHeartbeats 4000000 in
theorem l_X3_reached_13 {p : Program} {l : Launch} {e : Env} {s : State} {m : MethodId} {args : Array Value} {below : List Frame} {meth : Method} {c : Code} {D : va_G} {cI cJ cN : ClassId} {W0 : va_W} {m0 m1 m2 m3 m4 m5 m6 m7 : Nat} {z : Int32 × MS} (C : CX p l s m args meth c cX3_reached 6 yX3_reached.cls (WS yX3_reached cX3_reached 6 (some .int)) (some .int) D cI cJ cN (va_A W0 s.heap.size)) : ∀ (fu : Nat) (M : MS) (x2 : Int32) (x3 : Int32) (x4 : Int32) (x5 : Int32), g_X3_reached_13 fu M x2 x3 x4 x5 = some z → WW p l e { frames := 4, cells := 0, slots := 0, locals := 92 } s m args below meth c D 6 (va_A W0 s.heap.size) 0 0 (QI below args s D W0 { frames := 4, cells := 0, slots := 0, locals := 92 } z.1 (fun w => w = wMod cI cJ m0 m1 m2 m3 m4 m5 m6 m7 z.2)) 13 [(0, .ref m0), (2, .int x2), (3, .int x3), (4, .int x4), (5, .int x5)] [] (wMod cI cJ m0 m1 m2 m3 m4 m5 m6 m7 M) := by
  intro fu
  induction fu with
  | zero =>
    intro M x2 x3 x4 x5 hf
    rw [g_X3_reached_13] at hf
    cases hf
  | succ fu ih =>
    intro M x2 x3 x4 x5 hf
    rw [g_X3_reached_13] at hf
    refine q_iload C dX3_reached_13 4 rfl ?_
    refine q_aload_n C dX3_reached_15 rfl 0 rfl ?_
    obtain ⟨z1, h_z1, hf⟩ := bnd hf
    refine q_cVIw C (c_X3_nodes l D cI cJ cN m0 m1 m2 m3 m4 m5 m6 m7 M z1 h_z1) (mkV (fr := 0) (lo := 0) C xc_X3_nodes xm_X3_40 xi_X3_nodes xe_X3_nodes xn_X3 hd_X3_nodes ⟨Nat.le_of_ble_eq_true rfl, Nat.le_of_ble_eq_true rfl⟩) 0 rfl rfl rfl rfl (Nat.le_of_ble_eq_true rfl) dX3_reached_16 ⟨Nat.le_of_ble_eq_true rfl, Nat.le_of_ble_eq_true rfl⟩ (fun w1 hp1 => ?_)
    subst hp1
    refine q_icmp_ge C 72 dX3_reached_19 (by decide) (fun h => ?_) (fun h => ?_)
    · have hf := ifT hf h
      refine q_iload_n C dX3_reached_72 rfl 1 rfl ?_
      refine q_if_eq C 81 dX3_reached_73 (by decide) (fun h => ?_) (fun h => ?_)
      · have hf := ifT hf h
        refine q_iload_n C dX3_reached_81 rfl 2 rfl ?_
        have hf := Option.some.inj hf
        subst hf
        exact q_iret C (Nat.le_of_ble_eq_true rfl) (Nat.le_of_ble_eq_true rfl) rfl dX3_reached_82
      · have hf := ifF hf h
        refine q_iload C dX3_reached_76 3 rfl ?_
        refine q_goto C 82 dX3_reached_78 (by decide) ?_
        have hf := Option.some.inj hf
        subst hf
        exact q_iret C (Nat.le_of_ble_eq_true rfl) (Nat.le_of_ble_eq_true rfl) rfl dX3_reached_82
    · have hf := ifF hf h
      refine q_iload_n C dX3_reached_22 rfl 2 rfl ?_
      refine q_aload_n C dX3_reached_23 rfl 0 rfl ?_
      refine q_get C (uW uX3_in) 0 rfl rfl 8 (by decide) (ws_in xf_X3_22) rfl rfl dX3_reached_24 ?_
      refine q_iload C dX3_reached_27 4 rfl ?_
      obtain ⟨hg, hf⟩ := gd_some hf
      refine q_iald C 5 rfl hg dX3_reached_29 ?_
      refine q_if_le C 37 dX3_reached_30 (by decide) (fun h => ?_) (fun h => ?_)
      · have hf := ifT hf h
        refine q_iconst (v := 0) C dX3_reached_37 (by decide) ?_
        refine q_sub (lv' := [(0, .ref m0), (2, .int x2), (4, .int x4), (5, .int x5)]) [0, 1, 3, 4] rfl ?_
        exact l_X3_reached_38 C ih M x2 x4 x5 (0 : Int32) x3 hf
      · have hf := ifF hf h
        refine q_iconst (v := 1) C dX3_reached_33 (by decide) ?_
        refine q_goto C 38 dX3_reached_34 (by decide) ?_
        refine q_sub (lv' := [(0, .ref m0), (2, .int x2), (4, .int x4), (5, .int x5)]) [0, 1, 3, 4] rfl ?_
        exact l_X3_reached_38 C ih M x2 x4 x5 (1 : Int32) x3 hf
set_option maxRecDepth 100000 in
set_option maxHeartbeats 4000000 in
theorem c_X3_reached (l : Launch) (D : va_G) (cI cJ cN : ClassId) (m0 m1 m2 m3 m4 m5 m6 m7 : Nat)  (M : MS) (x1 : Int32) (x2 : Int32) (z : Int32 × MS) (hf : f_X3_reached M x1 x2 = some z) : MI l D cI cJ cN yX3_reached (WS yX3_reached cX3_reached 6 (some .int)) { frames := 4, cells := 0, slots := 0, locals := 92 } [.ref m0, .int x1, .int x2] (wMod cI cJ m0 m1 m2 m3 m4 m5 m6 m7 M) z.1 (fun w => w = wMod cI cJ m0 m1 m2 m3 m4 m5 m6 m7 z.2) := by
  rw [f_X3_reached] at hf
  refine q_startI (lv := [(0, .ref m0), (1, .int x1), (2, .int x2)]) (by decide +kernel) rfl (Nat.le_of_ble_eq_true rfl) ?_
  intro p e s m below meth c C hin
  refine q_aload_n C dX3_reached_0 rfl 0 rfl ?_
  refine q_iload_n C dX3_reached_1 rfl 1 rfl ?_
  obtain ⟨z1, h_z1, hf⟩ := bnd hf
  refine q_cVVw C (c_X3_layWays l D cI cJ cN m0 m1 m2 m3 m4 m5 m6 m7 M x1 z1 h_z1) (mkV (fr := 3) (lo := 67) C xc_X3_layWays xm_X3_131 xi_X3_layWays xe_X3_layWays xn_X3 hd_X3_layWays ⟨Nat.le_of_ble_eq_true rfl, Nat.le_of_ble_eq_true rfl⟩) 0 rfl rfl rfl rfl (Nat.le_of_ble_eq_true rfl) dX3_reached_2 ⟨Nat.le_of_ble_eq_true rfl, Nat.le_of_ble_eq_true rfl⟩ (fun w1 hp1 => ?_)
  subst hp1
  refine q_iconst (v := 0) C dX3_reached_5 (by decide) ?_
  refine q_istore_n (lv' := [(3, .int (0 : Int32)), (0, .ref m0), (1, .int x1), (2, .int x2)]) C dX3_reached_6 rfl (by decide) rfl ?_
  refine q_iconst (v := 0) C dX3_reached_7 (by decide) ?_
  refine q_istore (lv' := [(4, .int (0 : Int32)), (3, .int (0 : Int32)), (0, .ref m0), (1, .int x1), (2, .int x2)]) C dX3_reached_8 (by decide) rfl ?_
  refine q_iconst (v := 0) C dX3_reached_10 (by decide) ?_
  refine q_istore (lv' := [(5, .int (0 : Int32)), (4, .int (0 : Int32)), (3, .int (0 : Int32)), (0, .ref m0), (1, .int x1), (2, .int x2)]) C dX3_reached_11 (by decide) rfl ?_
  refine q_sub (lv' := [(0, .ref m0), (2, .int x2), (3, .int (0 : Int32)), (4, .int (0 : Int32)), (5, .int (0 : Int32))]) [3, 5, 2, 1, 0] rfl ?_
  exact l_X3_reached_13 C FU z1 x2 (0 : Int32) (0 : Int32) (0 : Int32) hf
set_option maxRecDepth 100000 in
set_option maxHeartbeats 4000000 in
theorem c_X3_node (l : Launch) (D : va_G) (cI cJ cN : ClassId) (m0 m1 m2 m3 m4 m5 m6 m7 : Nat)  (M : MS) (x1 : Int32) (x2 : Int32) (z : Int32 × MS) (hf : f_X3_node M x1 x2 = some z) : MI l D cI cJ cN yX3_node (WS yX3_node cX3_node 3 (some .int)) { frames := 5, cells := 0, slots := 0, locals := 117 } [.ref m0, .int x1, .int x2] (wMod cI cJ m0 m1 m2 m3 m4 m5 m6 m7 M) z.1 (fun w => w = wMod cI cJ m0 m1 m2 m3 m4 m5 m6 m7 z.2) := by
  rw [f_X3_node] at hf
  refine q_startI (lv := [(0, .ref m0), (1, .int x1), (2, .int x2)]) (by decide +kernel) rfl (Nat.le_of_ble_eq_true rfl) ?_
  intro p e s m below meth c C hin
  refine q_aload_n C dX3_node_0 rfl 0 rfl ?_
  refine q_iload_n C dX3_node_1 rfl 1 rfl ?_
  obtain ⟨z1, h_z1, hf⟩ := bnd hf
  refine q_cVIw C (c_X3_isNode l D cI cJ cN m0 m1 m2 m3 m4 m5 m6 m7 M x1 z1 h_z1) (mkV (fr := 1) (lo := 22) C xc_X3_isNode xm_X3_106 xi_X3_isNode xe_X3_isNode xn_X3 hd_X3_isNode ⟨Nat.le_of_ble_eq_true rfl, Nat.le_of_ble_eq_true rfl⟩) 0 rfl rfl rfl rfl (Nat.le_of_ble_eq_true rfl) dX3_node_2 ⟨Nat.le_of_ble_eq_true rfl, Nat.le_of_ble_eq_true rfl⟩ (fun w1 hp1 => ?_)
  subst hp1
  refine q_if_eq C 18 dX3_node_5 (by decide) (fun h => ?_) (fun h => ?_)
  · have hf := ifT hf h
    refine q_iconst (v := -1) C dX3_node_18 (by decide) ?_
    have hf := Option.some.inj hf
    subst hf
    exact q_iret C (Nat.le_of_ble_eq_true rfl) (Nat.le_of_ble_eq_true rfl) rfl dX3_node_19
  · have hf := ifF hf h
    refine q_iload_n C dX3_node_8 rfl 2 rfl ?_
    refine q_iconst (v := 0) C dX3_node_9 (by decide) ?_
    refine q_bipush (v := 6) C dX3_node_10 (by decide) ?_
    obtain ⟨z2, h_z2, hf⟩ := bnd hf
    refine q_cSI (ws' := wMod cI cJ m0 m1 m2 m3 m4 m5 m6 m7 M) C (c_X3_isIn l D cI cJ cN x2 (0 : Int32) (6 : Int32) z2 h_z2) (mkS (fr := 0) (lo := 0) C xc_X3_isIn xm_X3_44 xs_X3_isIn xn_X3 hd_X3_isIn ⟨Nat.le_of_ble_eq_true rfl, Nat.le_of_ble_eq_true rfl⟩) [] rfl (by decide) rfl rfl rfl rfl (Nat.le_of_ble_eq_true rfl) dX3_node_12 ⟨Nat.le_of_ble_eq_true rfl, Nat.le_of_ble_eq_true rfl⟩ ?_
    refine q_if_ne C 20 dX3_node_15 (by decide) (fun h => ?_) (fun h => ?_)
    · have hf := ifF hf h
      refine q_iload_n C dX3_node_20 rfl 2 rfl ?_
      refine q_if_ne C 34 dX3_node_21 (by decide) (fun h => ?_) (fun h => ?_)
      · have hf := ifF hf h
        refine q_aload_n C dX3_node_34 rfl 0 rfl ?_
        refine q_iload_n C dX3_node_35 rfl 1 rfl ?_
        obtain ⟨z3, h_z3, hf⟩ := bnd hf
        refine q_cVIw C (c_X3_isPresent l D cI cJ cN m0 m1 m2 m3 m4 m5 m6 m7 M x1 z3 h_z3) (mkV (fr := 0) (lo := 0) C xc_X3_isPresent xm_X3_55 xi_X3_isPresent xe_X3_isPresent xn_X3 hd_X3_isPresent ⟨Nat.le_of_ble_eq_true rfl, Nat.le_of_ble_eq_true rfl⟩) 0 rfl rfl rfl rfl (Nat.le_of_ble_eq_true rfl) dX3_node_36 ⟨Nat.le_of_ble_eq_true rfl, Nat.le_of_ble_eq_true rfl⟩ (fun w1 hp1 => ?_)
        subst hp1
        refine q_if_ne C 44 dX3_node_39 (by decide) (fun h => ?_) (fun h => ?_)
        · have hf := ifF hf h
          refine q_iload_n C dX3_node_44 rfl 2 rfl ?_
          by_cases h0 : x2 = (1 : Int32)
          · have hf := ifT hf h0
            refine q_tableIn (off := 35) C 80 dX3_node_45 (by rw [h0]; decide) (by rw [h0]; decide) (by first | (rw [h0]; done) | (rw [h0]; decide)) (by decide) ?_
            refine q_iconst (v := 1) C dX3_node_80 (by decide) ?_
            have hf := Option.some.inj hf
            subst hf
            exact q_iret C (Nat.le_of_ble_eq_true rfl) (Nat.le_of_ble_eq_true rfl) rfl dX3_node_81
          · have hf := ifF hf h0
            by_cases h1 : x2 = (2 : Int32)
            · have hf := ifT hf h1
              refine q_tableIn (off := 37) C 82 dX3_node_45 (by rw [h1]; decide) (by rw [h1]; decide) (by first | (rw [h1]; done) | (rw [h1]; decide)) (by decide) ?_
              refine q_aload_n C dX3_node_82 rfl 0 rfl ?_
              refine q_iload_n C dX3_node_83 rfl 1 rfl ?_
              obtain ⟨z4, h_z4, hf⟩ := bnd hf
              refine q_cVIw C (c_X3_contacts l D cI cJ cN m0 m1 m2 m3 m4 m5 m6 m7 M x1 z4 h_z4) (mkV (fr := 3) (lo := 67) C xc_X3_contacts xm_X3_125 xi_X3_contacts xe_X3_contacts xn_X3 hd_X3_contacts ⟨Nat.le_of_ble_eq_true rfl, Nat.le_of_ble_eq_true rfl⟩) 0 rfl rfl rfl rfl (Nat.le_of_ble_eq_true rfl) dX3_node_84 ⟨Nat.le_of_ble_eq_true rfl, Nat.le_of_ble_eq_true rfl⟩ (fun w1 hp1 => ?_)
              subst hp1
              have hf := Option.some.inj hf
              subst hf
              exact q_iret C (Nat.le_of_ble_eq_true rfl) (Nat.le_of_ble_eq_true rfl) rfl dX3_node_87
            · have hf := ifF hf h1
              by_cases h2 : x2 = (3 : Int32)
              · have hf := ifT hf h2
                refine q_tableIn (off := 43) C 88 dX3_node_45 (by rw [h2]; decide) (by rw [h2]; decide) (by first | (rw [h2]; done) | (rw [h2]; decide)) (by decide) ?_
                refine q_aload_n C dX3_node_88 rfl 0 rfl ?_
                refine q_get C (uW uX3_in) 0 rfl rfl 0 (by decide) (ws_in xf_X3_7) rfl rfl dX3_node_89 ?_
                refine q_bipush (v := 104) C dX3_node_92 (by decide) ?_
                refine q_iload_n C dX3_node_94 rfl 1 rfl ?_
                refine q_iadd C dX3_node_95 ?_
                obtain ⟨hg, hf⟩ := gd_some hf
                refine q_iald C 1 rfl hg dX3_node_96 ?_
                have hf := Option.some.inj hf
                subst hf
                exact q_iret C (Nat.le_of_ble_eq_true rfl) (Nat.le_of_ble_eq_true rfl) rfl dX3_node_97
              · have hf := ifF hf h2
                by_cases h3 : x2 = (4 : Int32)
                · have hf := ifT hf h3
                  refine q_tableIn (off := 53) C 98 dX3_node_45 (by rw [h3]; decide) (by rw [h3]; decide) (by first | (rw [h3]; done) | (rw [h3]; decide)) (by decide) ?_
                  refine q_aload_n C dX3_node_98 rfl 0 rfl ?_
                  refine q_iload_n C dX3_node_99 rfl 1 rfl ?_
                  obtain ⟨z5, h_z5, hf⟩ := bnd hf
                  refine q_cVIw C (c_X3_linksTo l D cI cJ cN m0 m1 m2 m3 m4 m5 m6 m7 M x1 z5 h_z5) (mkV (fr := 2) (lo := 45) C xc_X3_linksTo xm_X3_134 xi_X3_linksTo xe_X3_linksTo xn_X3 hd_X3_linksTo ⟨Nat.le_of_ble_eq_true rfl, Nat.le_of_ble_eq_true rfl⟩) 0 rfl rfl rfl rfl (Nat.le_of_ble_eq_true rfl) dX3_node_100 ⟨Nat.le_of_ble_eq_true rfl, Nat.le_of_ble_eq_true rfl⟩ (fun w1 hp1 => ?_)
                  subst hp1
                  have hf := Option.some.inj hf
                  subst hf
                  exact q_iret C (Nat.le_of_ble_eq_true rfl) (Nat.le_of_ble_eq_true rfl) rfl dX3_node_103
                · have hf := ifF hf h3
                  by_cases h4 : x2 = (5 : Int32)
                  · have hf := ifT hf h4
                    refine q_tableIn (off := 59) C 104 dX3_node_45 (by rw [h4]; decide) (by rw [h4]; decide) (by first | (rw [h4]; done) | (rw [h4]; decide)) (by decide) ?_
                    refine q_aload_n C dX3_node_104 rfl 0 rfl ?_
                    refine q_iload_n C dX3_node_105 rfl 1 rfl ?_
                    refine q_iconst (v := 0) C dX3_node_106 (by decide) ?_
                    obtain ⟨z6, h_z6, hf⟩ := bnd hf
                    refine q_cVIw C (c_X3_reached l D cI cJ cN m0 m1 m2 m3 m4 m5 m6 m7 M x1 (0 : Int32) z6 h_z6) (mkV (fr := 4) (lo := 92) C xc_X3_reached xm_X3_137 xi_X3_reached xe_X3_reached xn_X3 hd_X3_reached ⟨Nat.le_of_ble_eq_true rfl, Nat.le_of_ble_eq_true rfl⟩) 0 rfl rfl rfl rfl (Nat.le_of_ble_eq_true rfl) dX3_node_107 ⟨Nat.le_of_ble_eq_true rfl, Nat.le_of_ble_eq_true rfl⟩ (fun w1 hp1 => ?_)
                    subst hp1
                    have hf := Option.some.inj hf
                    subst hf
                    exact q_iret C (Nat.le_of_ble_eq_true rfl) (Nat.le_of_ble_eq_true rfl) rfl dX3_node_110
                  · have hf := ifF hf h4
                    refine q_tableOut C 111 dX3_node_45 (by have a0 := lv_neT h0 (show ((1 : Int32)).toInt = 1 by decide); have a1 := lv_neT h1 (show ((2 : Int32)).toInt = 2 by decide); have a2 := lv_neT h2 (show ((3 : Int32)).toInt = 3 by decide); have a3 := lv_neT h3 (show ((4 : Int32)).toInt = 4 by decide); have a4 := lv_neT h4 (show ((5 : Int32)).toInt = 5 by decide); omega) (by decide) ?_
                    refine q_aload_n C dX3_node_111 rfl 0 rfl ?_
                    refine q_iload_n C dX3_node_112 rfl 1 rfl ?_
                    refine q_iconst (v := 1) C dX3_node_113 (by decide) ?_
                    obtain ⟨z7, h_z7, hf⟩ := bnd hf
                    refine q_cVIw C (c_X3_reached l D cI cJ cN m0 m1 m2 m3 m4 m5 m6 m7 M x1 (1 : Int32) z7 h_z7) (mkV (fr := 4) (lo := 92) C xc_X3_reached xm_X3_137 xi_X3_reached xe_X3_reached xn_X3 hd_X3_reached ⟨Nat.le_of_ble_eq_true rfl, Nat.le_of_ble_eq_true rfl⟩) 0 rfl rfl rfl rfl (Nat.le_of_ble_eq_true rfl) dX3_node_114 ⟨Nat.le_of_ble_eq_true rfl, Nat.le_of_ble_eq_true rfl⟩ (fun w1 hp1 => ?_)
                    subst hp1
                    have hf := Option.some.inj hf
                    subst hf
                    exact q_iret C (Nat.le_of_ble_eq_true rfl) (Nat.le_of_ble_eq_true rfl) rfl dX3_node_117
        · have hf := ifT hf h
          refine q_iconst (v := 0) C dX3_node_42 (by decide) ?_
          have hf := Option.some.inj hf
          subst hf
          exact q_iret C (Nat.le_of_ble_eq_true rfl) (Nat.le_of_ble_eq_true rfl) rfl dX3_node_43
      · have hf := ifT hf h
        refine q_aload_n C dX3_node_24 rfl 0 rfl ?_
        refine q_get C (uW uX3_in) 0 rfl rfl 0 (by decide) (ws_in xf_X3_7) rfl rfl dX3_node_25 ?_
        refine q_bipush (v := 6) C dX3_node_28 (by decide) ?_
        refine q_iload_n C dX3_node_30 rfl 1 rfl ?_
        refine q_iadd C dX3_node_31 ?_
        obtain ⟨hg, hf⟩ := gd_some hf
        refine q_iald C 1 rfl hg dX3_node_32 ?_
        have hf := Option.some.inj hf
        subst hf
        exact q_iret C (Nat.le_of_ble_eq_true rfl) (Nat.le_of_ble_eq_true rfl) rfl dX3_node_33
    · have hf := ifT hf h
      refine q_iconst (v := -1) C dX3_node_18 (by decide) ?_
      have hf := Option.some.inj hf
      subst hf
      exact q_iret C (Nat.le_of_ble_eq_true rfl) (Nat.le_of_ble_eq_true rfl) rfl dX3_node_19
set_option maxRecDepth 100000 in
set_option maxHeartbeats 4000000 in
theorem c_X3_target (l : Launch) (D : va_G) (cI cJ cN : ClassId) (m0 m1 m2 m3 m4 m5 m6 m7 : Nat)  (M : MS) (x1 : Int32) (x2 : Int32) (z : Int32) (hf : f_X3_target M x1 x2 = some z) : MI l D cI cJ cN yX3_target (WS yX3_target cX3_target 3 (some .int)) { frames := 2, cells := 0, slots := 0, locals := 43 } [.ref m0, .int x1, .int x2] (wMod cI cJ m0 m1 m2 m3 m4 m5 m6 m7 M) z (fun w => w = wMod cI cJ m0 m1 m2 m3 m4 m5 m6 m7 M) := by
  rw [f_X3_target] at hf
  refine q_startI (lv := [(0, .ref m0), (1, .int x1), (2, .int x2)]) (by decide +kernel) rfl (Nat.le_of_ble_eq_true rfl) ?_
  intro p e s m below meth c C hin
  refine q_aload_n C dX3_target_0 rfl 0 rfl ?_
  refine q_iload_n C dX3_target_1 rfl 1 rfl ?_
  obtain ⟨z1, h_z1, hf⟩ := bnd hf
  refine q_cVIw C (c_X3_isNode l D cI cJ cN m0 m1 m2 m3 m4 m5 m6 m7 M x1 z1 h_z1) (mkV (fr := 1) (lo := 22) C xc_X3_isNode xm_X3_106 xi_X3_isNode xe_X3_isNode xn_X3 hd_X3_isNode ⟨Nat.le_of_ble_eq_true rfl, Nat.le_of_ble_eq_true rfl⟩) 0 rfl rfl rfl rfl (Nat.le_of_ble_eq_true rfl) dX3_target_2 ⟨Nat.le_of_ble_eq_true rfl, Nat.le_of_ble_eq_true rfl⟩ (fun w1 hp1 => ?_)
  subst hp1
  refine q_if_eq C 12 dX3_target_5 (by decide) (fun h => ?_) (fun h => ?_)
  · have hf := ifT hf h
    refine q_iconst (v := -1) C dX3_target_12 (by decide) ?_
    have hf := Option.some.inj hf
    subst hf
    exact q_iret C (Nat.le_of_ble_eq_true rfl) (Nat.le_of_ble_eq_true rfl) rfl dX3_target_13
  · have hf := ifF hf h
    refine q_iload_n C dX3_target_8 rfl 2 rfl ?_
    refine q_if_ge C 14 dX3_target_9 (by decide) (fun h => ?_) (fun h => ?_)
    · have hf := ifT hf h
      refine q_iload_n C dX3_target_14 rfl 2 rfl ?_
      refine q_aload_n C dX3_target_15 rfl 0 rfl ?_
      refine q_get C (uW uX3_in) 0 rfl rfl 0 (by decide) (ws_in xf_X3_7) rfl rfl dX3_target_16 ?_
      refine q_bipush (v := 104) C dX3_target_19 (by decide) ?_
      refine q_iload_n C dX3_target_21 rfl 1 rfl ?_
      refine q_iadd C dX3_target_22 ?_
      obtain ⟨hg, hf⟩ := gd_some hf
      refine q_iald C 1 rfl hg dX3_target_23 ?_
      refine q_icmp_ge C 36 dX3_target_24 (by decide) (fun h => ?_) (fun h => ?_)
      · have hf := ifT hf h
        refine q_bipush (v := -9) C dX3_target_36 (by decide) ?_
        have hf := Option.some.inj hf
        subst hf
        exact q_iret C (Nat.le_of_ble_eq_true rfl) (Nat.le_of_ble_eq_true rfl) rfl dX3_target_38
      · have hf := ifF hf h
        refine q_aload_n C dX3_target_27 rfl 0 rfl ?_
        refine q_iload_n C dX3_target_28 rfl 1 rfl ?_
        refine q_iload_n C dX3_target_29 rfl 2 rfl ?_
        obtain ⟨z2, h_z2, hf⟩ := bnd hf
        refine q_cVIw C (c_X3_at l D cI cJ cN m0 m1 m2 m3 m4 m5 m6 m7 M x1 x2 z2 h_z2) (mkV (fr := 0) (lo := 0) C xc_X3_at xm_X3_52 xi_X3_at xe_X3_at xn_X3 hd_X3_at ⟨Nat.le_of_ble_eq_true rfl, Nat.le_of_ble_eq_true rfl⟩) 0 rfl rfl rfl rfl (Nat.le_of_ble_eq_true rfl) dX3_target_30 ⟨Nat.le_of_ble_eq_true rfl, Nat.le_of_ble_eq_true rfl⟩ (fun w1 hp1 => ?_)
        subst hp1
        refine q_goto C 38 dX3_target_33 (by decide) ?_
        have hf := Option.some.inj hf
        subst hf
        exact q_iret C (Nat.le_of_ble_eq_true rfl) (Nat.le_of_ble_eq_true rfl) rfl dX3_target_38
    · have hf := ifF hf h
      refine q_iconst (v := -1) C dX3_target_12 (by decide) ?_
      have hf := Option.some.inj hf
      subst hf
      exact q_iret C (Nat.le_of_ble_eq_true rfl) (Nat.le_of_ble_eq_true rfl) rfl dX3_target_13
set_option maxRecDepth 100000 in
set_option maxHeartbeats 4000000 in
theorem c_X3_distance (l : Launch) (D : va_G) (cI cJ cN : ClassId) (m0 m1 m2 m3 m4 m5 m6 m7 : Nat)  (M : MS) (x1 : Int32) (x2 : Int32) (z : Int32) (hf : f_X3_distance M x1 x2 = some z) : MI l D cI cJ cN yX3_distance (WS yX3_distance cX3_distance 3 (some .int)) { frames := 2, cells := 0, slots := 0, locals := 45 } [.ref m0, .int x1, .int x2] (wMod cI cJ m0 m1 m2 m3 m4 m5 m6 m7 M) z (fun w => w = wMod cI cJ m0 m1 m2 m3 m4 m5 m6 m7 M) := by
  rw [f_X3_distance] at hf
  refine q_startI (lv := [(0, .ref m0), (1, .int x1), (2, .int x2)]) (by decide +kernel) rfl (Nat.le_of_ble_eq_true rfl) ?_
  intro p e s m below meth c C hin
  refine q_aload_n C dX3_distance_0 rfl 0 rfl ?_
  refine q_iload_n C dX3_distance_1 rfl 1 rfl ?_
  obtain ⟨z1, h_z1, hf⟩ := bnd hf
  refine q_cVIw C (c_X3_isNode l D cI cJ cN m0 m1 m2 m3 m4 m5 m6 m7 M x1 z1 h_z1) (mkV (fr := 1) (lo := 22) C xc_X3_isNode xm_X3_106 xi_X3_isNode xe_X3_isNode xn_X3 hd_X3_isNode ⟨Nat.le_of_ble_eq_true rfl, Nat.le_of_ble_eq_true rfl⟩) 0 rfl rfl rfl rfl (Nat.le_of_ble_eq_true rfl) dX3_distance_2 ⟨Nat.le_of_ble_eq_true rfl, Nat.le_of_ble_eq_true rfl⟩ (fun w1 hp1 => ?_)
  subst hp1
  refine q_if_eq C 25 dX3_distance_5 (by decide) (fun h => ?_) (fun h => ?_)
  · have hf := ifT hf h
    refine q_iconst (v := -1) C dX3_distance_25 (by decide) ?_
    have hf := Option.some.inj hf
    subst hf
    exact q_iret C (Nat.le_of_ble_eq_true rfl) (Nat.le_of_ble_eq_true rfl) rfl dX3_distance_26
  · have hf := ifF hf h
    refine q_aload_n C dX3_distance_8 rfl 0 rfl ?_
    refine q_iload_n C dX3_distance_9 rfl 2 rfl ?_
    obtain ⟨z2, h_z2, hf⟩ := bnd hf
    refine q_cVIw C (c_X3_isNode l D cI cJ cN m0 m1 m2 m3 m4 m5 m6 m7 M x2 z2 h_z2) (mkV (fr := 1) (lo := 22) C xc_X3_isNode xm_X3_106 xi_X3_isNode xe_X3_isNode xn_X3 hd_X3_isNode ⟨Nat.le_of_ble_eq_true rfl, Nat.le_of_ble_eq_true rfl⟩) 0 rfl rfl rfl rfl (Nat.le_of_ble_eq_true rfl) dX3_distance_10 ⟨Nat.le_of_ble_eq_true rfl, Nat.le_of_ble_eq_true rfl⟩ (fun w1 hp1 => ?_)
    subst hp1
    refine q_if_eq C 25 dX3_distance_13 (by decide) (fun h => ?_) (fun h => ?_)
    · have hf := ifT hf h
      refine q_iconst (v := -1) C dX3_distance_25 (by decide) ?_
      have hf := Option.some.inj hf
      subst hf
      exact q_iret C (Nat.le_of_ble_eq_true rfl) (Nat.le_of_ble_eq_true rfl) rfl dX3_distance_26
    · have hf := ifF hf h
      refine q_aload_n C dX3_distance_16 rfl 0 rfl ?_
      refine q_iload_n C dX3_distance_17 rfl 1 rfl ?_
      refine q_iload_n C dX3_distance_18 rfl 2 rfl ?_
      obtain ⟨z3, h_z3, hf⟩ := bnd hf
      refine q_cVIw C (c_X3_far l D cI cJ cN m0 m1 m2 m3 m4 m5 m6 m7 M x1 x2 z3 h_z3) (mkV (fr := 1) (lo := 21) C xc_X3_far xm_X3_59 xi_X3_far xe_X3_far xn_X3 hd_X3_far ⟨Nat.le_of_ble_eq_true rfl, Nat.le_of_ble_eq_true rfl⟩) 0 rfl rfl rfl rfl (Nat.le_of_ble_eq_true rfl) dX3_distance_19 ⟨Nat.le_of_ble_eq_true rfl, Nat.le_of_ble_eq_true rfl⟩ (fun w1 hp1 => ?_)
      subst hp1
      refine q_goto C 26 dX3_distance_22 (by decide) ?_
      have hf := Option.some.inj hf
      subst hf
      exact q_iret C (Nat.le_of_ble_eq_true rfl) (Nat.le_of_ble_eq_true rfl) rfl dX3_distance_26
set_option maxRecDepth 100000 in
set_option maxHeartbeats 4000000 in
theorem c_X3_route (l : Launch) (D : va_G) (cI cJ cN : ClassId) (m0 m1 m2 m3 m4 m5 m6 m7 : Nat)  (M : MS) (x1 : Int32) (x2 : Int32) (x3 : Int32) (z : Int32 × MS) (hf : f_X3_route M x1 x2 x3 = some z) : MI l D cI cJ cN yX3_route (WS yX3_route cX3_route 4 (some .int)) { frames := 5, cells := 0, slots := 0, locals := 114 } [.ref m0, .int x1, .int x2, .int x3] (wMod cI cJ m0 m1 m2 m3 m4 m5 m6 m7 M) z.1 (fun w => w = wMod cI cJ m0 m1 m2 m3 m4 m5 m6 m7 z.2) := by
  rw [f_X3_route] at hf
  refine q_startI (lv := [(0, .ref m0), (1, .int x1), (2, .int x2), (3, .int x3)]) (by decide +kernel) rfl (Nat.le_of_ble_eq_true rfl) ?_
  intro p e s m below meth c C hin
  refine q_aload_n C dX3_route_0 rfl 0 rfl ?_
  refine q_iload_n C dX3_route_1 rfl 1 rfl ?_
  obtain ⟨z1, h_z1, hf⟩ := bnd hf
  refine q_cVIw C (c_X3_isNode l D cI cJ cN m0 m1 m2 m3 m4 m5 m6 m7 M x1 z1 h_z1) (mkV (fr := 1) (lo := 22) C xc_X3_isNode xm_X3_106 xi_X3_isNode xe_X3_isNode xn_X3 hd_X3_isNode ⟨Nat.le_of_ble_eq_true rfl, Nat.le_of_ble_eq_true rfl⟩) 0 rfl rfl rfl rfl (Nat.le_of_ble_eq_true rfl) dX3_route_2 ⟨Nat.le_of_ble_eq_true rfl, Nat.le_of_ble_eq_true rfl⟩ (fun w1 hp1 => ?_)
  subst hp1
  refine q_if_eq C 22 dX3_route_5 (by decide) (fun h => ?_) (fun h => ?_)
  · have hf := ifT hf h
    refine q_iconst (v := -1) C dX3_route_22 (by decide) ?_
    have hf := Option.some.inj hf
    subst hf
    exact q_iret C (Nat.le_of_ble_eq_true rfl) (Nat.le_of_ble_eq_true rfl) rfl dX3_route_23
  · have hf := ifF hf h
    refine q_aload_n C dX3_route_8 rfl 0 rfl ?_
    refine q_iload_n C dX3_route_9 rfl 2 rfl ?_
    obtain ⟨z2, h_z2, hf⟩ := bnd hf
    refine q_cVIw C (c_X3_isNode l D cI cJ cN m0 m1 m2 m3 m4 m5 m6 m7 M x2 z2 h_z2) (mkV (fr := 1) (lo := 22) C xc_X3_isNode xm_X3_106 xi_X3_isNode xe_X3_isNode xn_X3 hd_X3_isNode ⟨Nat.le_of_ble_eq_true rfl, Nat.le_of_ble_eq_true rfl⟩) 0 rfl rfl rfl rfl (Nat.le_of_ble_eq_true rfl) dX3_route_10 ⟨Nat.le_of_ble_eq_true rfl, Nat.le_of_ble_eq_true rfl⟩ (fun w1 hp1 => ?_)
    subst hp1
    refine q_if_eq C 22 dX3_route_13 (by decide) (fun h => ?_) (fun h => ?_)
    · have hf := ifT hf h
      refine q_iconst (v := -1) C dX3_route_22 (by decide) ?_
      have hf := Option.some.inj hf
      subst hf
      exact q_iret C (Nat.le_of_ble_eq_true rfl) (Nat.le_of_ble_eq_true rfl) rfl dX3_route_23
    · have hf := ifF hf h
      refine q_iload_n C dX3_route_16 rfl 3 rfl ?_
      refine q_bipush (v := -2) C dX3_route_17 (by decide) ?_
      refine q_icmp_ge C 24 dX3_route_19 (by decide) (fun h => ?_) (fun h => ?_)
      · have hf := ifT hf h
        refine q_aload_n C dX3_route_24 rfl 0 rfl ?_
        refine q_iload_n C dX3_route_25 rfl 1 rfl ?_
        obtain ⟨z3, h_z3, hf⟩ := bnd hf
        refine q_cVIw C (c_X3_isPresent l D cI cJ cN m0 m1 m2 m3 m4 m5 m6 m7 M x1 z3 h_z3) (mkV (fr := 0) (lo := 0) C xc_X3_isPresent xm_X3_55 xi_X3_isPresent xe_X3_isPresent xn_X3 hd_X3_isPresent ⟨Nat.le_of_ble_eq_true rfl, Nat.le_of_ble_eq_true rfl⟩) 0 rfl rfl rfl rfl (Nat.le_of_ble_eq_true rfl) dX3_route_26 ⟨Nat.le_of_ble_eq_true rfl, Nat.le_of_ble_eq_true rfl⟩ (fun w1 hp1 => ?_)
        subst hp1
        refine q_if_eq C 40 dX3_route_29 (by decide) (fun h => ?_) (fun h => ?_)
        · have hf := ifT hf h
          refine q_bipush (v := -2) C dX3_route_40 (by decide) ?_
          have hf := Option.some.inj hf
          subst hf
          exact q_iret C (Nat.le_of_ble_eq_true rfl) (Nat.le_of_ble_eq_true rfl) rfl dX3_route_42
        · have hf := ifF hf h
          refine q_aload_n C dX3_route_32 rfl 0 rfl ?_
          refine q_iload_n C dX3_route_33 rfl 2 rfl ?_
          obtain ⟨z4, h_z4, hf⟩ := bnd hf
          refine q_cVIw C (c_X3_isPresent l D cI cJ cN m0 m1 m2 m3 m4 m5 m6 m7 M x2 z4 h_z4) (mkV (fr := 0) (lo := 0) C xc_X3_isPresent xm_X3_55 xi_X3_isPresent xe_X3_isPresent xn_X3 hd_X3_isPresent ⟨Nat.le_of_ble_eq_true rfl, Nat.le_of_ble_eq_true rfl⟩) 0 rfl rfl rfl rfl (Nat.le_of_ble_eq_true rfl) dX3_route_34 ⟨Nat.le_of_ble_eq_true rfl, Nat.le_of_ble_eq_true rfl⟩ (fun w1 hp1 => ?_)
          subst hp1
          refine q_if_ne C 43 dX3_route_37 (by decide) (fun h => ?_) (fun h => ?_)
          · have hf := ifF hf h
            refine q_aload_n C dX3_route_43 rfl 0 rfl ?_
            refine q_iload_n C dX3_route_44 rfl 1 rfl ?_
            refine q_iload_n C dX3_route_45 rfl 2 rfl ?_
            obtain ⟨z5, h_z5, hf⟩ := bnd hf
            refine q_cVVw C (c_X3_layRoute l D cI cJ cN m0 m1 m2 m3 m4 m5 m6 m7 M x1 x2 z5 h_z5) (mkV (fr := 4) (lo := 91) C xc_X3_layRoute xm_X3_96 xi_X3_layRoute xe_X3_layRoute xn_X3 hd_X3_layRoute ⟨Nat.le_of_ble_eq_true rfl, Nat.le_of_ble_eq_true rfl⟩) 0 rfl rfl rfl rfl (Nat.le_of_ble_eq_true rfl) dX3_route_46 ⟨Nat.le_of_ble_eq_true rfl, Nat.le_of_ble_eq_true rfl⟩ (fun w1 hp1 => ?_)
            subst hp1
            refine q_iload_n C dX3_route_49 rfl 3 rfl ?_
            refine q_if_ge C 78 dX3_route_50 (by decide) (fun h => ?_) (fun h => ?_)
            · have hf := ifT hf h
              refine q_iload_n C dX3_route_78 rfl 3 rfl ?_
              refine q_aload_n C dX3_route_79 rfl 0 rfl ?_
              refine q_get C (uW uX3_in) 0 rfl rfl 6 (by decide) (ws_in xf_X3_79) rfl rfl dX3_route_80 ?_
              refine q_icmp_gt C 95 dX3_route_83 (by decide) (fun h => ?_) (fun h => ?_)
              · have hf := ifT hf h
                refine q_bipush (v := -9) C dX3_route_95 (by decide) ?_
                have hf := Option.some.inj hf
                subst hf
                exact q_iret C (Nat.le_of_ble_eq_true rfl) (Nat.le_of_ble_eq_true rfl) rfl dX3_route_97
              · have hf := ifF hf h
                refine q_aload_n C dX3_route_86 rfl 0 rfl ?_
                refine q_get C (uW uX3_in) 0 rfl rfl 5 (by decide) (ws_in xf_X3_19) rfl rfl dX3_route_87 ?_
                refine q_iload_n C dX3_route_90 rfl 3 rfl ?_
                obtain ⟨hg, hf⟩ := gd_some hf
                refine q_iald C 4 rfl hg dX3_route_91 ?_
                refine q_goto C 97 dX3_route_92 (by decide) ?_
                have hf := Option.some.inj hf
                subst hf
                exact q_iret C (Nat.le_of_ble_eq_true rfl) (Nat.le_of_ble_eq_true rfl) rfl dX3_route_97
            · have hf := ifF hf h
              refine q_iload_n C dX3_route_53 rfl 3 rfl ?_
              refine q_iconst (v := -1) C dX3_route_54 (by decide) ?_
              refine q_icmp_ne C 65 dX3_route_55 (by decide) (fun h => ?_) (fun h => ?_)
              · have hf := ifF hf h
                refine q_aload_n C dX3_route_65 rfl 0 rfl ?_
                refine q_get C (uW uX3_in) 0 rfl rfl 7 (by decide) (ws_in xf_X3_85) rfl rfl dX3_route_66 ?_
                refine q_if_eq C 76 dX3_route_69 (by decide) (fun h => ?_) (fun h => ?_)
                · have hf := ifT hf h
                  refine q_iconst (v := 0) C dX3_route_76 (by decide) ?_
                  have hf := Option.some.inj hf
                  subst hf
                  exact q_iret C (Nat.le_of_ble_eq_true rfl) (Nat.le_of_ble_eq_true rfl) rfl dX3_route_77
                · have hf := ifF hf h
                  refine q_iconst (v := 1) C dX3_route_72 (by decide) ?_
                  refine q_goto C 77 dX3_route_73 (by decide) ?_
                  have hf := Option.some.inj hf
                  subst hf
                  exact q_iret C (Nat.le_of_ble_eq_true rfl) (Nat.le_of_ble_eq_true rfl) rfl dX3_route_77
              · have hf := ifT hf h
                refine q_aload_n C dX3_route_58 rfl 0 rfl ?_
                refine q_get C (uW uX3_in) 0 rfl rfl 6 (by decide) (ws_in xf_X3_79) rfl rfl dX3_route_59 ?_
                refine q_goto C 77 dX3_route_62 (by decide) ?_
                have hf := Option.some.inj hf
                subst hf
                exact q_iret C (Nat.le_of_ble_eq_true rfl) (Nat.le_of_ble_eq_true rfl) rfl dX3_route_77
          · have hf := ifT hf h
            refine q_bipush (v := -2) C dX3_route_40 (by decide) ?_
            have hf := Option.some.inj hf
            subst hf
            exact q_iret C (Nat.le_of_ble_eq_true rfl) (Nat.le_of_ble_eq_true rfl) rfl dX3_route_42
      · have hf := ifF hf h
        refine q_iconst (v := -1) C dX3_route_22 (by decide) ?_
        have hf := Option.some.inj hf
        subst hf
        exact q_iret C (Nat.le_of_ble_eq_true rfl) (Nat.le_of_ble_eq_true rfl) rfl dX3_route_23
set_option maxRecDepth 100000 in
set_option maxHeartbeats 4000000 in
theorem c_X3_way (l : Launch) (D : va_G) (cI cJ cN : ClassId) (m0 m1 m2 m3 m4 m5 m6 m7 : Nat)  (M : MS) (x1 : Int32) (x2 : Int32) (z : Int32 × MS) (hf : f_X3_way M x1 x2 = some z) : MI l D cI cJ cN yX3_way (WS yX3_way cX3_way 3 (some .int)) { frames := 4, cells := 0, slots := 0, locals := 92 } [.ref m0, .int x1, .int x2] (wMod cI cJ m0 m1 m2 m3 m4 m5 m6 m7 M) z.1 (fun w => w = wMod cI cJ m0 m1 m2 m3 m4 m5 m6 m7 z.2) := by
  rw [f_X3_way] at hf
  refine q_startI (lv := [(0, .ref m0), (1, .int x1), (2, .int x2)]) (by decide +kernel) rfl (Nat.le_of_ble_eq_true rfl) ?_
  intro p e s m below meth c C hin
  refine q_aload_n C dX3_way_0 rfl 0 rfl ?_
  refine q_iload_n C dX3_way_1 rfl 1 rfl ?_
  obtain ⟨z1, h_z1, hf⟩ := bnd hf
  refine q_cVIw C (c_X3_isNode l D cI cJ cN m0 m1 m2 m3 m4 m5 m6 m7 M x1 z1 h_z1) (mkV (fr := 1) (lo := 22) C xc_X3_isNode xm_X3_106 xi_X3_isNode xe_X3_isNode xn_X3 hd_X3_isNode ⟨Nat.le_of_ble_eq_true rfl, Nat.le_of_ble_eq_true rfl⟩) 0 rfl rfl rfl rfl (Nat.le_of_ble_eq_true rfl) dX3_way_2 ⟨Nat.le_of_ble_eq_true rfl, Nat.le_of_ble_eq_true rfl⟩ (fun w1 hp1 => ?_)
  subst hp1
  refine q_if_eq C 16 dX3_way_5 (by decide) (fun h => ?_) (fun h => ?_)
  · have hf := ifT hf h
    refine q_iconst (v := -1) C dX3_way_16 (by decide) ?_
    have hf := Option.some.inj hf
    subst hf
    exact q_iret C (Nat.le_of_ble_eq_true rfl) (Nat.le_of_ble_eq_true rfl) rfl dX3_way_17
  · have hf := ifF hf h
    refine q_aload_n C dX3_way_8 rfl 0 rfl ?_
    refine q_iload_n C dX3_way_9 rfl 2 rfl ?_
    obtain ⟨z2, h_z2, hf⟩ := bnd hf
    refine q_cVIw C (c_X3_isNode l D cI cJ cN m0 m1 m2 m3 m4 m5 m6 m7 M x2 z2 h_z2) (mkV (fr := 1) (lo := 22) C xc_X3_isNode xm_X3_106 xi_X3_isNode xe_X3_isNode xn_X3 hd_X3_isNode ⟨Nat.le_of_ble_eq_true rfl, Nat.le_of_ble_eq_true rfl⟩) 0 rfl rfl rfl rfl (Nat.le_of_ble_eq_true rfl) dX3_way_10 ⟨Nat.le_of_ble_eq_true rfl, Nat.le_of_ble_eq_true rfl⟩ (fun w1 hp1 => ?_)
    subst hp1
    refine q_if_ne C 18 dX3_way_13 (by decide) (fun h => ?_) (fun h => ?_)
    · have hf := ifF hf h
      refine q_aload_n C dX3_way_18 rfl 0 rfl ?_
      refine q_iload_n C dX3_way_19 rfl 1 rfl ?_
      obtain ⟨z3, h_z3, hf⟩ := bnd hf
      refine q_cVIw C (c_X3_isPresent l D cI cJ cN m0 m1 m2 m3 m4 m5 m6 m7 M x1 z3 h_z3) (mkV (fr := 0) (lo := 0) C xc_X3_isPresent xm_X3_55 xi_X3_isPresent xe_X3_isPresent xn_X3 hd_X3_isPresent ⟨Nat.le_of_ble_eq_true rfl, Nat.le_of_ble_eq_true rfl⟩) 0 rfl rfl rfl rfl (Nat.le_of_ble_eq_true rfl) dX3_way_20 ⟨Nat.le_of_ble_eq_true rfl, Nat.le_of_ble_eq_true rfl⟩ (fun w1 hp1 => ?_)
      subst hp1
      refine q_if_eq C 34 dX3_way_23 (by decide) (fun h => ?_) (fun h => ?_)
      · have hf := ifT hf h
        refine q_bipush (v := -2) C dX3_way_34 (by decide) ?_
        have hf := Option.some.inj hf
        subst hf
        exact q_iret C (Nat.le_of_ble_eq_true rfl) (Nat.le_of_ble_eq_true rfl) rfl dX3_way_36
      · have hf := ifF hf h
        refine q_aload_n C dX3_way_26 rfl 0 rfl ?_
        refine q_iload_n C dX3_way_27 rfl 2 rfl ?_
        obtain ⟨z4, h_z4, hf⟩ := bnd hf
        refine q_cVIw C (c_X3_isPresent l D cI cJ cN m0 m1 m2 m3 m4 m5 m6 m7 M x2 z4 h_z4) (mkV (fr := 0) (lo := 0) C xc_X3_isPresent xm_X3_55 xi_X3_isPresent xe_X3_isPresent xn_X3 hd_X3_isPresent ⟨Nat.le_of_ble_eq_true rfl, Nat.le_of_ble_eq_true rfl⟩) 0 rfl rfl rfl rfl (Nat.le_of_ble_eq_true rfl) dX3_way_28 ⟨Nat.le_of_ble_eq_true rfl, Nat.le_of_ble_eq_true rfl⟩ (fun w1 hp1 => ?_)
        subst hp1
        refine q_if_ne C 37 dX3_way_31 (by decide) (fun h => ?_) (fun h => ?_)
        · have hf := ifF hf h
          refine q_aload_n C dX3_way_37 rfl 0 rfl ?_
          refine q_iload_n C dX3_way_38 rfl 1 rfl ?_
          obtain ⟨z5, h_z5, hf⟩ := bnd hf
          refine q_cVVw C (c_X3_layWays l D cI cJ cN m0 m1 m2 m3 m4 m5 m6 m7 M x1 z5 h_z5) (mkV (fr := 3) (lo := 67) C xc_X3_layWays xm_X3_131 xi_X3_layWays xe_X3_layWays xn_X3 hd_X3_layWays ⟨Nat.le_of_ble_eq_true rfl, Nat.le_of_ble_eq_true rfl⟩) 0 rfl rfl rfl rfl (Nat.le_of_ble_eq_true rfl) dX3_way_39 ⟨Nat.le_of_ble_eq_true rfl, Nat.le_of_ble_eq_true rfl⟩ (fun w1 hp1 => ?_)
          subst hp1
          refine q_aload_n C dX3_way_42 rfl 0 rfl ?_
          refine q_get C (uW uX3_in) 0 rfl rfl 8 (by decide) (ws_in xf_X3_22) rfl rfl dX3_way_43 ?_
          refine q_iload_n C dX3_way_46 rfl 2 rfl ?_
          obtain ⟨hg, hf⟩ := gd_some hf
          refine q_iald C 5 rfl hg dX3_way_47 ?_
          have hf := Option.some.inj hf
          subst hf
          exact q_iret C (Nat.le_of_ble_eq_true rfl) (Nat.le_of_ble_eq_true rfl) rfl dX3_way_48
        · have hf := ifT hf h
          refine q_bipush (v := -2) C dX3_way_34 (by decide) ?_
          have hf := Option.some.inj hf
          subst hf
          exact q_iret C (Nat.le_of_ble_eq_true rfl) (Nat.le_of_ble_eq_true rfl) rfl dX3_way_36
    · have hf := ifT hf h
      refine q_iconst (v := -1) C dX3_way_16 (by decide) ?_
      have hf := Option.some.inj hf
      subst hf
      exact q_iret C (Nat.le_of_ble_eq_true rfl) (Nat.le_of_ble_eq_true rfl) rfl dX3_way_17
set_option maxRecDepth 100000 in
set_option maxHeartbeats 4000000 in
theorem c_X3_paths (l : Launch) (D : va_G) (cI cJ cN : ClassId) (m0 m1 m2 m3 m4 m5 m6 m7 : Nat)  (M : MS) (x1 : Int32) (x2 : Int32) (z : Int64 × MS) (hf : f_X3_paths M x1 x2 = some z) : ML l D cI cJ cN yX3_paths (WS yX3_paths cX3_paths 3 (some .long)) { frames := 4, cells := 0, slots := 0, locals := 92 } [.ref m0, .int x1, .int x2] (wMod cI cJ m0 m1 m2 m3 m4 m5 m6 m7 M) z.1 (fun w => w = wMod cI cJ m0 m1 m2 m3 m4 m5 m6 m7 z.2) := by
  rw [f_X3_paths] at hf
  refine q_startL (lv := [(0, .ref m0), (1, .int x1), (2, .int x2)]) (by decide +kernel) rfl (Nat.le_of_ble_eq_true rfl) ?_
  intro p e s m below meth c C hin
  refine q_aload_n C dX3_paths_0 rfl 0 rfl ?_
  refine q_iload_n C dX3_paths_1 rfl 1 rfl ?_
  obtain ⟨z1, h_z1, hf⟩ := bnd hf
  refine q_cVIw C (c_X3_isNode l D cI cJ cN m0 m1 m2 m3 m4 m5 m6 m7 M x1 z1 h_z1) (mkV (fr := 1) (lo := 22) C xc_X3_isNode xm_X3_106 xi_X3_isNode xe_X3_isNode xn_X3 hd_X3_isNode ⟨Nat.le_of_ble_eq_true rfl, Nat.le_of_ble_eq_true rfl⟩) 0 rfl rfl rfl rfl (Nat.le_of_ble_eq_true rfl) dX3_paths_2 ⟨Nat.le_of_ble_eq_true rfl, Nat.le_of_ble_eq_true rfl⟩ (fun w1 hp1 => ?_)
  subst hp1
  refine q_if_eq C 16 dX3_paths_5 (by decide) (fun h => ?_) (fun h => ?_)
  · have hf := ifT hf h
    refine q_ldc2 (v := (-1)) C (ws_in xk_X3_141) dX3_paths_16 ?_
    have hf := Option.some.inj hf
    subst hf
    exact q_lret C (Nat.le_of_ble_eq_true rfl) (Nat.le_of_ble_eq_true rfl) rfl dX3_paths_19
  · have hf := ifF hf h
    refine q_aload_n C dX3_paths_8 rfl 0 rfl ?_
    refine q_iload_n C dX3_paths_9 rfl 2 rfl ?_
    obtain ⟨z2, h_z2, hf⟩ := bnd hf
    refine q_cVIw C (c_X3_isNode l D cI cJ cN m0 m1 m2 m3 m4 m5 m6 m7 M x2 z2 h_z2) (mkV (fr := 1) (lo := 22) C xc_X3_isNode xm_X3_106 xi_X3_isNode xe_X3_isNode xn_X3 hd_X3_isNode ⟨Nat.le_of_ble_eq_true rfl, Nat.le_of_ble_eq_true rfl⟩) 0 rfl rfl rfl rfl (Nat.le_of_ble_eq_true rfl) dX3_paths_10 ⟨Nat.le_of_ble_eq_true rfl, Nat.le_of_ble_eq_true rfl⟩ (fun w1 hp1 => ?_)
    subst hp1
    refine q_if_ne C 20 dX3_paths_13 (by decide) (fun h => ?_) (fun h => ?_)
    · have hf := ifF hf h
      refine q_aload_n C dX3_paths_20 rfl 0 rfl ?_
      refine q_iload_n C dX3_paths_21 rfl 1 rfl ?_
      obtain ⟨z3, h_z3, hf⟩ := bnd hf
      refine q_cVIw C (c_X3_isPresent l D cI cJ cN m0 m1 m2 m3 m4 m5 m6 m7 M x1 z3 h_z3) (mkV (fr := 0) (lo := 0) C xc_X3_isPresent xm_X3_55 xi_X3_isPresent xe_X3_isPresent xn_X3 hd_X3_isPresent ⟨Nat.le_of_ble_eq_true rfl, Nat.le_of_ble_eq_true rfl⟩) 0 rfl rfl rfl rfl (Nat.le_of_ble_eq_true rfl) dX3_paths_22 ⟨Nat.le_of_ble_eq_true rfl, Nat.le_of_ble_eq_true rfl⟩ (fun w1 hp1 => ?_)
      subst hp1
      refine q_if_eq C 36 dX3_paths_25 (by decide) (fun h => ?_) (fun h => ?_)
      · have hf := ifT hf h
        refine q_ldc2 (v := (-2)) C (ws_in xk_X3_143) dX3_paths_36 ?_
        have hf := Option.some.inj hf
        subst hf
        exact q_lret C (Nat.le_of_ble_eq_true rfl) (Nat.le_of_ble_eq_true rfl) rfl dX3_paths_39
      · have hf := ifF hf h
        refine q_aload_n C dX3_paths_28 rfl 0 rfl ?_
        refine q_iload_n C dX3_paths_29 rfl 2 rfl ?_
        obtain ⟨z4, h_z4, hf⟩ := bnd hf
        refine q_cVIw C (c_X3_isPresent l D cI cJ cN m0 m1 m2 m3 m4 m5 m6 m7 M x2 z4 h_z4) (mkV (fr := 0) (lo := 0) C xc_X3_isPresent xm_X3_55 xi_X3_isPresent xe_X3_isPresent xn_X3 hd_X3_isPresent ⟨Nat.le_of_ble_eq_true rfl, Nat.le_of_ble_eq_true rfl⟩) 0 rfl rfl rfl rfl (Nat.le_of_ble_eq_true rfl) dX3_paths_30 ⟨Nat.le_of_ble_eq_true rfl, Nat.le_of_ble_eq_true rfl⟩ (fun w1 hp1 => ?_)
        subst hp1
        refine q_if_ne C 40 dX3_paths_33 (by decide) (fun h => ?_) (fun h => ?_)
        · have hf := ifF hf h
          refine q_aload_n C dX3_paths_40 rfl 0 rfl ?_
          refine q_iload_n C dX3_paths_41 rfl 1 rfl ?_
          obtain ⟨z5, h_z5, hf⟩ := bnd hf
          refine q_cVVw C (c_X3_layWays l D cI cJ cN m0 m1 m2 m3 m4 m5 m6 m7 M x1 z5 h_z5) (mkV (fr := 3) (lo := 67) C xc_X3_layWays xm_X3_131 xi_X3_layWays xe_X3_layWays xn_X3 hd_X3_layWays ⟨Nat.le_of_ble_eq_true rfl, Nat.le_of_ble_eq_true rfl⟩) 0 rfl rfl rfl rfl (Nat.le_of_ble_eq_true rfl) dX3_paths_42 ⟨Nat.le_of_ble_eq_true rfl, Nat.le_of_ble_eq_true rfl⟩ (fun w1 hp1 => ?_)
          subst hp1
          refine q_aload_n C dX3_paths_45 rfl 0 rfl ?_
          refine q_get C (uW uX3_in) 0 rfl rfl 9 (by decide) (ws_in xf_X3_25) rfl rfl dX3_paths_46 ?_
          refine q_iload_n C dX3_paths_49 rfl 2 rfl ?_
          obtain ⟨hg, hf⟩ := gd_some hf
          refine q_lald C 6 rfl hg dX3_paths_50 ?_
          have hf := Option.some.inj hf
          subst hf
          exact q_lret C (Nat.le_of_ble_eq_true rfl) (Nat.le_of_ble_eq_true rfl) rfl dX3_paths_51
        · have hf := ifT hf h
          refine q_ldc2 (v := (-2)) C (ws_in xk_X3_143) dX3_paths_36 ?_
          have hf := Option.some.inj hf
          subst hf
          exact q_lret C (Nat.le_of_ble_eq_true rfl) (Nat.le_of_ble_eq_true rfl) rfl dX3_paths_39
    · have hf := ifT hf h
      refine q_ldc2 (v := (-1)) C (ws_in xk_X3_141) dX3_paths_16 ?_
      have hf := Option.some.inj hf
      subst hf
      exact q_lret C (Nat.le_of_ble_eq_true rfl) (Nat.le_of_ble_eq_true rfl) rfl dX3_paths_19
set_option maxRecDepth 100000 in
set_option maxHeartbeats 4000000 in
theorem c_X3_note (l : Launch) (D : va_G) (cI cJ cN : ClassId) (m0 m1 m2 m3 m4 m5 m6 m7 : Nat)  (M : MS) (x1 : Int32) (x2 : Int32) (z : MS) (hf : f_X3_note M x1 x2 = some z) : MV l D cI cJ cN yX3_note (WS yX3_note cX3_note 3 none) { frames := 0, cells := 0, slots := 0, locals := 0 } [.ref m0, .int x1, .int x2] (wMod cI cJ m0 m1 m2 m3 m4 m5 m6 m7 M) (fun w => w = wMod cI cJ m0 m1 m2 m3 m4 m5 m6 m7 z) := by
  rw [f_X3_note] at hf
  refine q_startV (lv := [(0, .ref m0), (1, .int x1), (2, .int x2)]) (by decide +kernel) rfl (Nat.le_of_ble_eq_true rfl) ?_
  intro p e s m below meth c C hin
  refine q_aload_n C dX3_note_0 rfl 0 rfl ?_
  refine q_get C (uW uX3_in) 0 rfl rfl 10 (by decide) (ws_in xf_X3_29) rfl rfl dX3_note_1 ?_
  refine q_iload_n C dX3_note_4 rfl 1 rfl ?_
  refine q_iload_n C dX3_note_5 rfl 2 rfl ?_
  refine q_aload_n C dX3_note_6 rfl 0 rfl ?_
  refine q_get C (uW uX3_in) 0 rfl rfl 10 (by decide) (ws_in xf_X3_29) rfl rfl dX3_note_7 ?_
  refine q_iload_n C dX3_note_10 rfl 1 rfl ?_
  obtain ⟨hg, hf⟩ := gd_some hf
  refine q_iald C 7 rfl hg dX3_note_11 ?_
  refine q_icmp_le C 19 dX3_note_12 (by decide) (fun h => ?_) (fun h => ?_)
  · have hf := ifT hf h
    refine q_aload_n C dX3_note_19 rfl 0 rfl ?_
    refine q_get C (uW uX3_in) 0 rfl rfl 10 (by decide) (ws_in xf_X3_29) rfl rfl dX3_note_20 ?_
    refine q_iload_n C dX3_note_23 rfl 1 rfl ?_
    obtain ⟨hg, hf⟩ := gd_some hf
    refine q_iald C 7 rfl hg dX3_note_24 ?_
    obtain ⟨hg, hf⟩ := gd_some hf
    refine q_iast (ws' := wMod cI cJ m0 m1 m2 m3 m4 m5 m6 m7 (M.1, M.2.1, M.2.2.1, M.2.2.2.1, M.2.2.2.2.1, M.2.2.2.2.2.1, M.2.2.2.2.2.2.1, M.2.2.2.2.2.2.2.1, M.2.2.2.2.2.2.2.2.1, M.2.2.2.2.2.2.2.2.2.1, (upd M.2.2.2.2.2.2.2.2.2.2 x1.toNatClampNeg (M.2.2.2.2.2.2.2.2.2.2 x1.toNatClampNeg)))) C 7 rfl hg dX3_note_25 rfl ?_
    have hf := Option.some.inj hf
    subst hf
    exact q_vret C (Nat.le_of_ble_eq_true rfl) (Nat.le_of_ble_eq_true rfl) rfl dX3_note_26
  · have hf := ifF hf h
    refine q_iload_n C dX3_note_15 rfl 2 rfl ?_
    refine q_goto C 25 dX3_note_16 (by decide) ?_
    obtain ⟨hg, hf⟩ := gd_some hf
    refine q_iast (ws' := wMod cI cJ m0 m1 m2 m3 m4 m5 m6 m7 (M.1, M.2.1, M.2.2.1, M.2.2.2.1, M.2.2.2.2.1, M.2.2.2.2.2.1, M.2.2.2.2.2.2.1, M.2.2.2.2.2.2.2.1, M.2.2.2.2.2.2.2.2.1, M.2.2.2.2.2.2.2.2.2.1, (upd M.2.2.2.2.2.2.2.2.2.2 x1.toNatClampNeg x2))) C 7 rfl hg dX3_note_25 rfl ?_
    have hf := Option.some.inj hf
    subst hf
    exact q_vret C (Nat.le_of_ble_eq_true rfl) (Nat.le_of_ble_eq_true rfl) rfl dX3_note_26
set_option maxRecDepth 100000 in
set_option maxHeartbeats 4000000 in
theorem l_X3_layPair_57 {p : Program} {l : Launch} {e : Env} {s : State} {m : MethodId} {args : Array Value} {below : List Frame} {meth : Method} {c : Code} {D : va_G} {cI cJ cN : ClassId} {W0 : va_W} {m0 m1 m2 m3 m4 m5 m6 m7 : Nat} {z : MS} (C : CX p l s m args meth c cX3_layPair 3 yX3_layPair.cls (WS yX3_layPair cX3_layPair 3 none) none D cI cJ cN (va_A W0 s.heap.size)) : ∀ (M : MS) (x1 : Int32) (x2 : Int32), g_X3_layPair_57 M x1 x2 = some z → WW p l e { frames := 5, cells := 0, slots := 0, locals := 114 } s m args below meth c D 3 (va_A W0 s.heap.size) 0 0 (QV below args s D W0 { frames := 5, cells := 0, slots := 0, locals := 114 } (fun w => w = wMod cI cJ m0 m1 m2 m3 m4 m5 m6 m7 z)) 57 [(0, .ref m0), (1, .int x1), (2, .int x2)] [] (wMod cI cJ m0 m1 m2 m3 m4 m5 m6 m7 M) := by
  intro M x1 x2 hf
  rw [g_X3_layPair_57] at hf
  refine q_aload_n C dX3_layPair_57 rfl 0 rfl ?_
  refine q_iload_n C dX3_layPair_58 rfl 1 rfl ?_
  refine q_iload_n C dX3_layPair_59 rfl 2 rfl ?_
  obtain ⟨z1, h_z1, hf⟩ := bnd hf
  refine q_cVVw C (c_X3_layRoute l D cI cJ cN m0 m1 m2 m3 m4 m5 m6 m7 M x1 x2 z1 h_z1) (mkV (fr := 4) (lo := 91) C xc_X3_layRoute xm_X3_96 xi_X3_layRoute xe_X3_layRoute xn_X3 hd_X3_layRoute ⟨Nat.le_of_ble_eq_true rfl, Nat.le_of_ble_eq_true rfl⟩) 0 rfl rfl rfl rfl (Nat.le_of_ble_eq_true rfl) dX3_layPair_60 ⟨Nat.le_of_ble_eq_true rfl, Nat.le_of_ble_eq_true rfl⟩ (fun w1 hp1 => ?_)
  subst hp1
  refine q_aload_n C dX3_layPair_63 rfl 0 rfl ?_
  refine q_get C (uW uX3_in) 0 rfl rfl 7 (by decide) (ws_in xf_X3_85) rfl rfl dX3_layPair_64 ?_
  refine q_if_eq C 131 dX3_layPair_67 (by decide) (fun h => ?_) (fun h => ?_)
  · have hf := ifT hf h
    have hf := Option.some.inj hf
    subst hf
    exact q_vret C (Nat.le_of_ble_eq_true rfl) (Nat.le_of_ble_eq_true rfl) rfl dX3_layPair_131
  · have hf := ifF hf h
    refine q_aload_n C dX3_layPair_70 rfl 0 rfl ?_
    refine q_get C (uW uX3_in) 0 rfl rfl 10 (by decide) (ws_in xf_X3_29) rfl rfl dX3_layPair_71 ?_
    refine q_iconst (v := 4) C dX3_layPair_74 (by decide) ?_
    refine q_dup2 C dX3_layPair_75 rfl rfl ?_
    refine q_iald C 7 rfl (by decide) dX3_layPair_76 ?_
    refine q_iconst (v := 1) C dX3_layPair_77 (by decide) ?_
    refine q_iadd C dX3_layPair_78 ?_
    refine q_iast (ws' := wMod cI cJ m0 m1 m2 m3 m4 m5 m6 m7 (z1.1, z1.2.1, z1.2.2.1, z1.2.2.2.1, z1.2.2.2.2.1, z1.2.2.2.2.2.1, z1.2.2.2.2.2.2.1, z1.2.2.2.2.2.2.2.1, z1.2.2.2.2.2.2.2.2.1, z1.2.2.2.2.2.2.2.2.2.1, (upd z1.2.2.2.2.2.2.2.2.2.2 (4 : Int32).toNatClampNeg ((z1.2.2.2.2.2.2.2.2.2.2 (4 : Int32).toNatClampNeg) + (1 : Int32))))) C 7 rfl (by decide) dX3_layPair_79 rfl ?_
    refine q_aload_n C dX3_layPair_80 rfl 0 rfl ?_
    refine q_iconst (v := 5) C dX3_layPair_81 (by decide) ?_
    refine q_aload_n C dX3_layPair_82 rfl 0 rfl ?_
    refine q_get C (uW uX3_in) 0 rfl rfl 6 (by decide) (ws_in xf_X3_79) rfl rfl dX3_layPair_83 ?_
    obtain ⟨z2, h_z2, hf⟩ := bnd hf
    refine q_cVVw C (c_X3_note l D cI cJ cN m0 m1 m2 m3 m4 m5 m6 m7 (z1.1, z1.2.1, z1.2.2.1, z1.2.2.2.1, z1.2.2.2.2.1, z1.2.2.2.2.2.1, z1.2.2.2.2.2.2.1, z1.2.2.2.2.2.2.2.1, z1.2.2.2.2.2.2.2.2.1, z1.2.2.2.2.2.2.2.2.2.1, (upd z1.2.2.2.2.2.2.2.2.2.2 (4 : Int32).toNatClampNeg ((z1.2.2.2.2.2.2.2.2.2.2 (4 : Int32).toNatClampNeg) + (1 : Int32)))) (5 : Int32) z1.2.2.2.2.2.2.1 z2 h_z2) (mkV (fr := 0) (lo := 0) C xc_X3_note xm_X3_148 xi_X3_note xe_X3_note xn_X3 hd_X3_note ⟨Nat.le_of_ble_eq_true rfl, Nat.le_of_ble_eq_true rfl⟩) 0 rfl rfl rfl rfl (Nat.le_of_ble_eq_true rfl) dX3_layPair_86 ⟨Nat.le_of_ble_eq_true rfl, Nat.le_of_ble_eq_true rfl⟩ (fun w1 hp1 => ?_)
    subst hp1
    refine q_aload_n C dX3_layPair_89 rfl 0 rfl ?_
    refine q_get C (uW uX3_in) 0 rfl rfl 10 (by decide) (ws_in xf_X3_29) rfl rfl dX3_layPair_90 ?_
    refine q_bipush (v := 6) C dX3_layPair_93 (by decide) ?_
    refine q_dup2 C dX3_layPair_95 rfl rfl ?_
    refine q_iald C 7 rfl (by decide) dX3_layPair_96 ?_
    refine q_aload_n C dX3_layPair_97 rfl 0 rfl ?_
    refine q_get C (uW uX3_in) 0 rfl rfl 6 (by decide) (ws_in xf_X3_79) rfl rfl dX3_layPair_98 ?_
    refine q_iadd C dX3_layPair_101 ?_
    refine q_iast (ws' := wMod cI cJ m0 m1 m2 m3 m4 m5 m6 m7 (z2.1, z2.2.1, z2.2.2.1, z2.2.2.2.1, z2.2.2.2.2.1, z2.2.2.2.2.2.1, z2.2.2.2.2.2.2.1, z2.2.2.2.2.2.2.2.1, z2.2.2.2.2.2.2.2.2.1, z2.2.2.2.2.2.2.2.2.2.1, (upd z2.2.2.2.2.2.2.2.2.2.2 (6 : Int32).toNatClampNeg ((z2.2.2.2.2.2.2.2.2.2.2 (6 : Int32).toNatClampNeg) + z2.2.2.2.2.2.2.1)))) C 7 rfl (by decide) dX3_layPair_102 rfl ?_
    refine q_aload_n C dX3_layPair_103 rfl 0 rfl ?_
    refine q_get C (uW uX3_in) 0 rfl rfl 10 (by decide) (ws_in xf_X3_29) rfl rfl dX3_layPair_104 ?_
    refine q_bipush (v := 7) C dX3_layPair_107 (by decide) ?_
    refine q_dup2 C dX3_layPair_109 rfl rfl ?_
    refine q_iald C 7 rfl (by decide) dX3_layPair_110 ?_
    refine q_aload_n C dX3_layPair_111 rfl 0 rfl ?_
    refine q_get C (uW uX3_in) 0 rfl rfl 6 (by decide) (ws_in xf_X3_79) rfl rfl dX3_layPair_112 ?_
    refine q_aload_n C dX3_layPair_115 rfl 0 rfl ?_
    refine q_get C (uW uX3_in) 0 rfl rfl 8 (by decide) (ws_in xf_X3_22) rfl rfl dX3_layPair_116 ?_
    refine q_iload_n C dX3_layPair_119 rfl 2 rfl ?_
    obtain ⟨hg, hf⟩ := gd_some hf
    refine q_iald C 5 rfl hg dX3_layPair_120 ?_
    refine q_icmp_ne C 128 dX3_layPair_121 (by decide) (fun h => ?_) (fun h => ?_)
    · have hf := ifF hf h
      refine q_iconst (v := 0) C dX3_layPair_128 (by decide) ?_
      refine q_iadd C dX3_layPair_129 ?_
      refine q_iast (ws' := wMod cI cJ m0 m1 m2 m3 m4 m5 m6 m7 (z2.1, z2.2.1, z2.2.2.1, z2.2.2.2.1, z2.2.2.2.2.1, z2.2.2.2.2.2.1, z2.2.2.2.2.2.2.1, z2.2.2.2.2.2.2.2.1, z2.2.2.2.2.2.2.2.2.1, z2.2.2.2.2.2.2.2.2.2.1, (upd (upd z2.2.2.2.2.2.2.2.2.2.2 (6 : Int32).toNatClampNeg ((z2.2.2.2.2.2.2.2.2.2.2 (6 : Int32).toNatClampNeg) + z2.2.2.2.2.2.2.1)) (7 : Int32).toNatClampNeg (((upd z2.2.2.2.2.2.2.2.2.2.2 (6 : Int32).toNatClampNeg ((z2.2.2.2.2.2.2.2.2.2.2 (6 : Int32).toNatClampNeg) + z2.2.2.2.2.2.2.1)) (7 : Int32).toNatClampNeg) + (0 : Int32))))) C 7 rfl (by decide) dX3_layPair_130 rfl ?_
      have hf := Option.some.inj hf
      subst hf
      exact q_vret C (Nat.le_of_ble_eq_true rfl) (Nat.le_of_ble_eq_true rfl) rfl dX3_layPair_131
    · have hf := ifT hf h
      refine q_iconst (v := 1) C dX3_layPair_124 (by decide) ?_
      refine q_goto C 129 dX3_layPair_125 (by decide) ?_
      refine q_iadd C dX3_layPair_129 ?_
      refine q_iast (ws' := wMod cI cJ m0 m1 m2 m3 m4 m5 m6 m7 (z2.1, z2.2.1, z2.2.2.1, z2.2.2.2.1, z2.2.2.2.2.1, z2.2.2.2.2.2.1, z2.2.2.2.2.2.2.1, z2.2.2.2.2.2.2.2.1, z2.2.2.2.2.2.2.2.2.1, z2.2.2.2.2.2.2.2.2.2.1, (upd (upd z2.2.2.2.2.2.2.2.2.2.2 (6 : Int32).toNatClampNeg ((z2.2.2.2.2.2.2.2.2.2.2 (6 : Int32).toNatClampNeg) + z2.2.2.2.2.2.2.1)) (7 : Int32).toNatClampNeg (((upd z2.2.2.2.2.2.2.2.2.2.2 (6 : Int32).toNatClampNeg ((z2.2.2.2.2.2.2.2.2.2.2 (6 : Int32).toNatClampNeg) + z2.2.2.2.2.2.2.1)) (7 : Int32).toNatClampNeg) + (1 : Int32))))) C 7 rfl (by decide) dX3_layPair_130 rfl ?_
      have hf := Option.some.inj hf
      subst hf
      exact q_vret C (Nat.le_of_ble_eq_true rfl) (Nat.le_of_ble_eq_true rfl) rfl dX3_layPair_131
set_option maxRecDepth 100000 in
set_option maxHeartbeats 4000000 in
theorem c_X3_layPair (l : Launch) (D : va_G) (cI cJ cN : ClassId) (m0 m1 m2 m3 m4 m5 m6 m7 : Nat)  (M : MS) (x1 : Int32) (x2 : Int32) (z : MS) (hf : f_X3_layPair M x1 x2 = some z) : MV l D cI cJ cN yX3_layPair (WS yX3_layPair cX3_layPair 3 none) { frames := 5, cells := 0, slots := 0, locals := 114 } [.ref m0, .int x1, .int x2] (wMod cI cJ m0 m1 m2 m3 m4 m5 m6 m7 M) (fun w => w = wMod cI cJ m0 m1 m2 m3 m4 m5 m6 m7 z) := by
  rw [f_X3_layPair] at hf
  refine q_startV (lv := [(0, .ref m0), (1, .int x1), (2, .int x2)]) (by decide +kernel) rfl (Nat.le_of_ble_eq_true rfl) ?_
  intro p e s m below meth c C hin
  refine q_aload_n C dX3_layPair_0 rfl 0 rfl ?_
  refine q_get C (uW uX3_in) 0 rfl rfl 10 (by decide) (ws_in xf_X3_29) rfl rfl dX3_layPair_1 ?_
  refine q_iconst (v := 0) C dX3_layPair_4 (by decide) ?_
  refine q_dup2 C dX3_layPair_5 rfl rfl ?_
  refine q_iald C 7 rfl (by decide) dX3_layPair_6 ?_
  refine q_iconst (v := 1) C dX3_layPair_7 (by decide) ?_
  refine q_iadd C dX3_layPair_8 ?_
  refine q_iast (ws' := wMod cI cJ m0 m1 m2 m3 m4 m5 m6 m7 (M.1, M.2.1, M.2.2.1, M.2.2.2.1, M.2.2.2.2.1, M.2.2.2.2.2.1, M.2.2.2.2.2.2.1, M.2.2.2.2.2.2.2.1, M.2.2.2.2.2.2.2.2.1, M.2.2.2.2.2.2.2.2.2.1, (upd M.2.2.2.2.2.2.2.2.2.2 (0 : Int32).toNatClampNeg ((M.2.2.2.2.2.2.2.2.2.2 (0 : Int32).toNatClampNeg) + (1 : Int32))))) C 7 rfl (by decide) dX3_layPair_9 rfl ?_
  refine q_aload_n C dX3_layPair_10 rfl 0 rfl ?_
  refine q_get C (uW uX3_in) 0 rfl rfl 8 (by decide) (ws_in xf_X3_22) rfl rfl dX3_layPair_11 ?_
  refine q_iload_n C dX3_layPair_14 rfl 2 rfl ?_
  obtain ⟨hg, hf⟩ := gd_some hf
  refine q_iald C 5 rfl hg dX3_layPair_15 ?_
  refine q_bipush (v := -9) C dX3_layPair_16 (by decide) ?_
  refine q_icmp_eq C 57 dX3_layPair_18 (by decide) (fun h => ?_) (fun h => ?_)
  · have hf := ifT hf h
    exact l_X3_layPair_57 C (M.1, M.2.1, M.2.2.1, M.2.2.2.1, M.2.2.2.2.1, M.2.2.2.2.2.1, M.2.2.2.2.2.2.1, M.2.2.2.2.2.2.2.1, M.2.2.2.2.2.2.2.2.1, M.2.2.2.2.2.2.2.2.2.1, (upd M.2.2.2.2.2.2.2.2.2.2 (0 : Int32).toNatClampNeg ((M.2.2.2.2.2.2.2.2.2.2 (0 : Int32).toNatClampNeg) + (1 : Int32)))) x1 x2 hf
  · have hf := ifF hf h
    refine q_aload_n C dX3_layPair_21 rfl 0 rfl ?_
    refine q_get C (uW uX3_in) 0 rfl rfl 10 (by decide) (ws_in xf_X3_29) rfl rfl dX3_layPair_22 ?_
    refine q_iconst (v := 1) C dX3_layPair_25 (by decide) ?_
    refine q_dup2 C dX3_layPair_26 rfl rfl ?_
    refine q_iald C 7 rfl (by decide) dX3_layPair_27 ?_
    refine q_iconst (v := 1) C dX3_layPair_28 (by decide) ?_
    refine q_iadd C dX3_layPair_29 ?_
    refine q_iast (ws' := wMod cI cJ m0 m1 m2 m3 m4 m5 m6 m7 (M.1, M.2.1, M.2.2.1, M.2.2.2.1, M.2.2.2.2.1, M.2.2.2.2.2.1, M.2.2.2.2.2.2.1, M.2.2.2.2.2.2.2.1, M.2.2.2.2.2.2.2.2.1, M.2.2.2.2.2.2.2.2.2.1, (upd (upd M.2.2.2.2.2.2.2.2.2.2 (0 : Int32).toNatClampNeg ((M.2.2.2.2.2.2.2.2.2.2 (0 : Int32).toNatClampNeg) + (1 : Int32))) (1 : Int32).toNatClampNeg (((upd M.2.2.2.2.2.2.2.2.2.2 (0 : Int32).toNatClampNeg ((M.2.2.2.2.2.2.2.2.2.2 (0 : Int32).toNatClampNeg) + (1 : Int32))) (1 : Int32).toNatClampNeg) + (1 : Int32))))) C 7 rfl (by decide) dX3_layPair_30 rfl ?_
    refine q_aload_n C dX3_layPair_31 rfl 0 rfl ?_
    refine q_iconst (v := 2) C dX3_layPair_32 (by decide) ?_
    refine q_aload_n C dX3_layPair_33 rfl 0 rfl ?_
    refine q_get C (uW uX3_in) 0 rfl rfl 8 (by decide) (ws_in xf_X3_22) rfl rfl dX3_layPair_34 ?_
    refine q_iload_n C dX3_layPair_37 rfl 2 rfl ?_
    obtain ⟨hg, hf⟩ := gd_some hf
    refine q_iald C 5 rfl hg dX3_layPair_38 ?_
    obtain ⟨z1, h_z1, hf⟩ := bnd hf
    refine q_cVVw C (c_X3_note l D cI cJ cN m0 m1 m2 m3 m4 m5 m6 m7 (M.1, M.2.1, M.2.2.1, M.2.2.2.1, M.2.2.2.2.1, M.2.2.2.2.2.1, M.2.2.2.2.2.2.1, M.2.2.2.2.2.2.2.1, M.2.2.2.2.2.2.2.2.1, M.2.2.2.2.2.2.2.2.2.1, (upd (upd M.2.2.2.2.2.2.2.2.2.2 (0 : Int32).toNatClampNeg ((M.2.2.2.2.2.2.2.2.2.2 (0 : Int32).toNatClampNeg) + (1 : Int32))) (1 : Int32).toNatClampNeg (((upd M.2.2.2.2.2.2.2.2.2.2 (0 : Int32).toNatClampNeg ((M.2.2.2.2.2.2.2.2.2.2 (0 : Int32).toNatClampNeg) + (1 : Int32))) (1 : Int32).toNatClampNeg) + (1 : Int32)))) (2 : Int32) (M.2.2.2.2.2.2.2.2.1 x2.toNatClampNeg) z1 h_z1) (mkV (fr := 0) (lo := 0) C xc_X3_note xm_X3_148 xi_X3_note xe_X3_note xn_X3 hd_X3_note ⟨Nat.le_of_ble_eq_true rfl, Nat.le_of_ble_eq_true rfl⟩) 0 rfl rfl rfl rfl (Nat.le_of_ble_eq_true rfl) dX3_layPair_39 ⟨Nat.le_of_ble_eq_true rfl, Nat.le_of_ble_eq_true rfl⟩ (fun w1 hp1 => ?_)
    subst hp1
    refine q_aload_n C dX3_layPair_42 rfl 0 rfl ?_
    refine q_get C (uW uX3_in) 0 rfl rfl 10 (by decide) (ws_in xf_X3_29) rfl rfl dX3_layPair_43 ?_
    refine q_iconst (v := 3) C dX3_layPair_46 (by decide) ?_
    refine q_dup2 C dX3_layPair_47 rfl rfl ?_
    refine q_iald C 7 rfl (by decide) dX3_layPair_48 ?_
    refine q_aload_n C dX3_layPair_49 rfl 0 rfl ?_
    refine q_get C (uW uX3_in) 0 rfl rfl 8 (by decide) (ws_in xf_X3_22) rfl rfl dX3_layPair_50 ?_
    refine q_iload_n C dX3_layPair_53 rfl 2 rfl ?_
    obtain ⟨hg, hf⟩ := gd_some hf
    refine q_iald C 5 rfl hg dX3_layPair_54 ?_
    refine q_iadd C dX3_layPair_55 ?_
    refine q_iast (ws' := wMod cI cJ m0 m1 m2 m3 m4 m5 m6 m7 (z1.1, z1.2.1, z1.2.2.1, z1.2.2.2.1, z1.2.2.2.2.1, z1.2.2.2.2.2.1, z1.2.2.2.2.2.2.1, z1.2.2.2.2.2.2.2.1, z1.2.2.2.2.2.2.2.2.1, z1.2.2.2.2.2.2.2.2.2.1, (upd z1.2.2.2.2.2.2.2.2.2.2 (3 : Int32).toNatClampNeg ((z1.2.2.2.2.2.2.2.2.2.2 (3 : Int32).toNatClampNeg) + (z1.2.2.2.2.2.2.2.2.1 x2.toNatClampNeg))))) C 7 rfl (by decide) dX3_layPair_56 rfl ?_
    exact l_X3_layPair_57 C (z1.1, z1.2.1, z1.2.2.1, z1.2.2.2.1, z1.2.2.2.2.1, z1.2.2.2.2.2.1, z1.2.2.2.2.2.2.1, z1.2.2.2.2.2.2.2.1, z1.2.2.2.2.2.2.2.2.1, z1.2.2.2.2.2.2.2.2.2.1, (upd z1.2.2.2.2.2.2.2.2.2.2 (3 : Int32).toNatClampNeg ((z1.2.2.2.2.2.2.2.2.2.2 (3 : Int32).toNatClampNeg) + (z1.2.2.2.2.2.2.2.2.1 x2.toNatClampNeg)))) x1 x2 hf
set_option maxRecDepth 100000 in
set_option maxHeartbeats 4000000 in
theorem l_X3_layMeasures_46 {p : Program} {l : Launch} {e : Env} {s : State} {m : MethodId} {args : Array Value} {below : List Frame} {meth : Method} {c : Code} {D : va_G} {cI cJ cN : ClassId} {W0 : va_W} {m0 m1 m2 m3 m4 m5 m6 m7 : Nat} {z : MS} (C : CX p l s m args meth c cX3_layMeasures 3 yX3_layMeasures.cls (WS yX3_layMeasures cX3_layMeasures 3 none) none D cI cJ cN (va_A W0 s.heap.size)) {K23 : MS → Int32 → Option (MS)} (hK23 : ∀ (M : MS) (x1 : Int32), K23 M x1 = some z → WW p l e { frames := 6, cells := 0, slots := 0, locals := 136 } s m args below meth c D 3 (va_A W0 s.heap.size) 0 0 (QV below args s D W0 { frames := 6, cells := 0, slots := 0, locals := 136 } (fun w => w = wMod cI cJ m0 m1 m2 m3 m4 m5 m6 m7 z)) 23 [(0, .ref m0), (1, .int x1)] [] (wMod cI cJ m0 m1 m2 m3 m4 m5 m6 m7 M)) : ∀ (fu : Nat) (M : MS) (x1 : Int32) (x2 : Int32), g_X3_layMeasures_46 K23 fu M x1 x2 = some z → WW p l e { frames := 6, cells := 0, slots := 0, locals := 136 } s m args below meth c D 3 (va_A W0 s.heap.size) 0 0 (QV below args s D W0 { frames := 6, cells := 0, slots := 0, locals := 136 } (fun w => w = wMod cI cJ m0 m1 m2 m3 m4 m5 m6 m7 z)) 46 [(0, .ref m0), (1, .int x1), (2, .int x2)] [] (wMod cI cJ m0 m1 m2 m3 m4 m5 m6 m7 M) := by
  intro fu
  induction fu with
  | zero =>
    intro M x1 x2 hf
    rw [g_X3_layMeasures_46] at hf
    cases hf
  | succ fu ih =>
    intro M x1 x2 hf
    rw [g_X3_layMeasures_46] at hf
    refine q_iload_n C dX3_layMeasures_46 rfl 2 rfl ?_
    refine q_aload_n C dX3_layMeasures_47 rfl 0 rfl ?_
    obtain ⟨z1, h_z1, hf⟩ := bnd hf
    refine q_cVIw C (c_X3_nodes l D cI cJ cN m0 m1 m2 m3 m4 m5 m6 m7 M z1 h_z1) (mkV (fr := 0) (lo := 0) C xc_X3_nodes xm_X3_40 xi_X3_nodes xe_X3_nodes xn_X3 hd_X3_nodes ⟨Nat.le_of_ble_eq_true rfl, Nat.le_of_ble_eq_true rfl⟩) 0 rfl rfl rfl rfl (Nat.le_of_ble_eq_true rfl) dX3_layMeasures_48 ⟨Nat.le_of_ble_eq_true rfl, Nat.le_of_ble_eq_true rfl⟩ (fun w1 hp1 => ?_)
    subst hp1
    refine q_icmp_ge C 79 dX3_layMeasures_51 (by decide) (fun h => ?_) (fun h => ?_)
    · have hf := ifT hf h
      refine q_iinc (v := (x1 + (1 : Int32))) (lv' := [(1, .int (x1 + (1 : Int32))), (0, .ref m0), (2, .int x2)]) C dX3_layMeasures_79 1 rfl rfl (by decide) rfl ?_
      refine q_goto C 23 dX3_layMeasures_82 (by decide) ?_
      refine q_sub (lv' := [(0, .ref m0), (1, .int (x1 + (1 : Int32)))]) [1, 0] rfl ?_
      exact hK23 M (x1 + (1 : Int32)) hf
    · have hf := ifF hf h
      refine q_iload_n C dX3_layMeasures_54 rfl 2 rfl ?_
      refine q_iload_n C dX3_layMeasures_55 rfl 1 rfl ?_
      refine q_icmp_eq C 73 dX3_layMeasures_56 (by decide) (fun h => ?_) (fun h => ?_)
      · have hf := ifT hf h
        refine q_iinc (v := (x2 + (1 : Int32))) (lv' := [(2, .int (x2 + (1 : Int32))), (0, .ref m0), (1, .int x1)]) C dX3_layMeasures_73 2 rfl rfl (by decide) rfl ?_
        refine q_goto C 46 dX3_layMeasures_76 (by decide) ?_
        refine q_sub (lv' := [(0, .ref m0), (1, .int x1), (2, .int (x2 + (1 : Int32)))]) [1, 2, 0] rfl ?_
        exact ih M x1 (x2 + (1 : Int32)) hf
      · have hf := ifF hf h
        refine q_aload_n C dX3_layMeasures_59 rfl 0 rfl ?_
        refine q_iload_n C dX3_layMeasures_60 rfl 2 rfl ?_
        obtain ⟨z2, h_z2, hf⟩ := bnd hf
        refine q_cVIw C (c_X3_isPresent l D cI cJ cN m0 m1 m2 m3 m4 m5 m6 m7 M x2 z2 h_z2) (mkV (fr := 0) (lo := 0) C xc_X3_isPresent xm_X3_55 xi_X3_isPresent xe_X3_isPresent xn_X3 hd_X3_isPresent ⟨Nat.le_of_ble_eq_true rfl, Nat.le_of_ble_eq_true rfl⟩) 0 rfl rfl rfl rfl (Nat.le_of_ble_eq_true rfl) dX3_layMeasures_61 ⟨Nat.le_of_ble_eq_true rfl, Nat.le_of_ble_eq_true rfl⟩ (fun w1 hp1 => ?_)
        subst hp1
        refine q_if_eq C 73 dX3_layMeasures_64 (by decide) (fun h => ?_) (fun h => ?_)
        · have hf := ifT hf h
          refine q_iinc (v := (x2 + (1 : Int32))) (lv' := [(2, .int (x2 + (1 : Int32))), (0, .ref m0), (1, .int x1)]) C dX3_layMeasures_73 2 rfl rfl (by decide) rfl ?_
          refine q_goto C 46 dX3_layMeasures_76 (by decide) ?_
          refine q_sub (lv' := [(0, .ref m0), (1, .int x1), (2, .int (x2 + (1 : Int32)))]) [1, 2, 0] rfl ?_
          exact ih M x1 (x2 + (1 : Int32)) hf
        · have hf := ifF hf h
          refine q_aload_n C dX3_layMeasures_67 rfl 0 rfl ?_
          refine q_iload_n C dX3_layMeasures_68 rfl 1 rfl ?_
          refine q_iload_n C dX3_layMeasures_69 rfl 2 rfl ?_
          obtain ⟨z3, h_z3, hf⟩ := bnd hf
          refine q_cVVw C (c_X3_layPair l D cI cJ cN m0 m1 m2 m3 m4 m5 m6 m7 M x1 x2 z3 h_z3) (mkV (fr := 5) (lo := 114) C xc_X3_layPair xm_X3_145 xi_X3_layPair xe_X3_layPair xn_X3 hd_X3_layPair ⟨Nat.le_of_ble_eq_true rfl, Nat.le_of_ble_eq_true rfl⟩) 0 rfl rfl rfl rfl (Nat.le_of_ble_eq_true rfl) dX3_layMeasures_70 ⟨Nat.le_of_ble_eq_true rfl, Nat.le_of_ble_eq_true rfl⟩ (fun w1 hp1 => ?_)
          subst hp1
          refine q_iinc (v := (x2 + (1 : Int32))) (lv' := [(2, .int (x2 + (1 : Int32))), (0, .ref m0), (1, .int x1)]) C dX3_layMeasures_73 2 rfl rfl (by decide) rfl ?_
          refine q_goto C 46 dX3_layMeasures_76 (by decide) ?_
          refine q_sub (lv' := [(0, .ref m0), (1, .int x1), (2, .int (x2 + (1 : Int32)))]) [1, 2, 0] rfl ?_
          exact ih z3 x1 (x2 + (1 : Int32)) hf
set_option maxRecDepth 100000 in
set_option maxHeartbeats 4000000 in
theorem l_X3_layMeasures_23 {p : Program} {l : Launch} {e : Env} {s : State} {m : MethodId} {args : Array Value} {below : List Frame} {meth : Method} {c : Code} {D : va_G} {cI cJ cN : ClassId} {W0 : va_W} {m0 m1 m2 m3 m4 m5 m6 m7 : Nat} {z : MS} (C : CX p l s m args meth c cX3_layMeasures 3 yX3_layMeasures.cls (WS yX3_layMeasures cX3_layMeasures 3 none) none D cI cJ cN (va_A W0 s.heap.size)) : ∀ (fu : Nat) (M : MS) (x1 : Int32), g_X3_layMeasures_23 fu M x1 = some z → WW p l e { frames := 6, cells := 0, slots := 0, locals := 136 } s m args below meth c D 3 (va_A W0 s.heap.size) 0 0 (QV below args s D W0 { frames := 6, cells := 0, slots := 0, locals := 136 } (fun w => w = wMod cI cJ m0 m1 m2 m3 m4 m5 m6 m7 z)) 23 [(0, .ref m0), (1, .int x1)] [] (wMod cI cJ m0 m1 m2 m3 m4 m5 m6 m7 M) := by
  intro fu
  induction fu with
  | zero =>
    intro M x1 hf
    rw [g_X3_layMeasures_23] at hf
    cases hf
  | succ fu ih =>
    intro M x1 hf
    rw [g_X3_layMeasures_23] at hf
    refine q_iload_n C dX3_layMeasures_23 rfl 1 rfl ?_
    refine q_aload_n C dX3_layMeasures_24 rfl 0 rfl ?_
    obtain ⟨z1, h_z1, hf⟩ := bnd hf
    refine q_cVIw C (c_X3_nodes l D cI cJ cN m0 m1 m2 m3 m4 m5 m6 m7 M z1 h_z1) (mkV (fr := 0) (lo := 0) C xc_X3_nodes xm_X3_40 xi_X3_nodes xe_X3_nodes xn_X3 hd_X3_nodes ⟨Nat.le_of_ble_eq_true rfl, Nat.le_of_ble_eq_true rfl⟩) 0 rfl rfl rfl rfl (Nat.le_of_ble_eq_true rfl) dX3_layMeasures_25 ⟨Nat.le_of_ble_eq_true rfl, Nat.le_of_ble_eq_true rfl⟩ (fun w1 hp1 => ?_)
    subst hp1
    refine q_icmp_ge C 85 dX3_layMeasures_28 (by decide) (fun h => ?_) (fun h => ?_)
    · have hf := ifT hf h
      have hf := Option.some.inj hf
      subst hf
      exact q_vret C (Nat.le_of_ble_eq_true rfl) (Nat.le_of_ble_eq_true rfl) rfl dX3_layMeasures_85
    · have hf := ifF hf h
      refine q_aload_n C dX3_layMeasures_31 rfl 0 rfl ?_
      refine q_iload_n C dX3_layMeasures_32 rfl 1 rfl ?_
      obtain ⟨z2, h_z2, hf⟩ := bnd hf
      refine q_cVIw C (c_X3_isPresent l D cI cJ cN m0 m1 m2 m3 m4 m5 m6 m7 M x1 z2 h_z2) (mkV (fr := 0) (lo := 0) C xc_X3_isPresent xm_X3_55 xi_X3_isPresent xe_X3_isPresent xn_X3 hd_X3_isPresent ⟨Nat.le_of_ble_eq_true rfl, Nat.le_of_ble_eq_true rfl⟩) 0 rfl rfl rfl rfl (Nat.le_of_ble_eq_true rfl) dX3_layMeasures_33 ⟨Nat.le_of_ble_eq_true rfl, Nat.le_of_ble_eq_true rfl⟩ (fun w1 hp1 => ?_)
      subst hp1
      refine q_if_eq C 79 dX3_layMeasures_36 (by decide) (fun h => ?_) (fun h => ?_)
      · have hf := ifT hf h
        refine q_iinc (v := (x1 + (1 : Int32))) (lv' := [(1, .int (x1 + (1 : Int32))), (0, .ref m0)]) C dX3_layMeasures_79 1 rfl rfl (by decide) rfl ?_
        refine q_goto C 23 dX3_layMeasures_82 (by decide) ?_
        refine q_sub (lv' := [(0, .ref m0), (1, .int (x1 + (1 : Int32)))]) [1, 0] rfl ?_
        exact ih M (x1 + (1 : Int32)) hf
      · have hf := ifF hf h
        refine q_aload_n C dX3_layMeasures_39 rfl 0 rfl ?_
        refine q_iload_n C dX3_layMeasures_40 rfl 1 rfl ?_
        obtain ⟨z3, h_z3, hf⟩ := bnd hf
        refine q_cVVw C (c_X3_layWays l D cI cJ cN m0 m1 m2 m3 m4 m5 m6 m7 M x1 z3 h_z3) (mkV (fr := 3) (lo := 67) C xc_X3_layWays xm_X3_131 xi_X3_layWays xe_X3_layWays xn_X3 hd_X3_layWays ⟨Nat.le_of_ble_eq_true rfl, Nat.le_of_ble_eq_true rfl⟩) 0 rfl rfl rfl rfl (Nat.le_of_ble_eq_true rfl) dX3_layMeasures_41 ⟨Nat.le_of_ble_eq_true rfl, Nat.le_of_ble_eq_true rfl⟩ (fun w1 hp1 => ?_)
        subst hp1
        refine q_iconst (v := 0) C dX3_layMeasures_44 (by decide) ?_
        refine q_istore_n (lv' := [(2, .int (0 : Int32)), (0, .ref m0), (1, .int x1)]) C dX3_layMeasures_45 rfl (by decide) rfl ?_
        refine q_sub (lv' := [(0, .ref m0), (1, .int x1), (2, .int (0 : Int32))]) [1, 2, 0] rfl ?_
        exact l_X3_layMeasures_46 C ih FU z3 x1 (0 : Int32) hf
set_option maxRecDepth 100000 in
set_option maxHeartbeats 4000000 in
theorem l_X3_layMeasures_2 {p : Program} {l : Launch} {e : Env} {s : State} {m : MethodId} {args : Array Value} {below : List Frame} {meth : Method} {c : Code} {D : va_G} {cI cJ cN : ClassId} {W0 : va_W} {m0 m1 m2 m3 m4 m5 m6 m7 : Nat} {z : MS} (C : CX p l s m args meth c cX3_layMeasures 3 yX3_layMeasures.cls (WS yX3_layMeasures cX3_layMeasures 3 none) none D cI cJ cN (va_A W0 s.heap.size)) : ∀ (fu : Nat) (M : MS) (x1 : Int32), g_X3_layMeasures_2 fu M x1 = some z → WW p l e { frames := 6, cells := 0, slots := 0, locals := 136 } s m args below meth c D 3 (va_A W0 s.heap.size) 0 0 (QV below args s D W0 { frames := 6, cells := 0, slots := 0, locals := 136 } (fun w => w = wMod cI cJ m0 m1 m2 m3 m4 m5 m6 m7 z)) 2 [(0, .ref m0), (1, .int x1)] [] (wMod cI cJ m0 m1 m2 m3 m4 m5 m6 m7 M) := by
  intro fu
  induction fu with
  | zero =>
    intro M x1 hf
    rw [g_X3_layMeasures_2] at hf
    cases hf
  | succ fu ih =>
    intro M x1 hf
    rw [g_X3_layMeasures_2] at hf
    refine q_iload_n C dX3_layMeasures_2 rfl 1 rfl ?_
    refine q_bipush (v := 8) C dX3_layMeasures_3 (by decide) ?_
    refine q_icmp_ge C 21 dX3_layMeasures_5 (by decide) (fun h => ?_) (fun h => ?_)
    · have hf := ifT hf h
      refine q_iconst (v := 0) C dX3_layMeasures_21 (by decide) ?_
      refine q_istore_n (lv' := [(1, .int (0 : Int32)), (0, .ref m0)]) C dX3_layMeasures_22 rfl (by decide) rfl ?_
      refine q_sub (lv' := [(0, .ref m0), (1, .int (0 : Int32))]) [1, 0] rfl ?_
      exact l_X3_layMeasures_23 C FU M (0 : Int32) hf
    · have hf := ifF hf h
      refine q_aload_n C dX3_layMeasures_8 rfl 0 rfl ?_
      refine q_get C (uW uX3_in) 0 rfl rfl 10 (by decide) (ws_in xf_X3_29) rfl rfl dX3_layMeasures_9 ?_
      refine q_iload_n C dX3_layMeasures_12 rfl 1 rfl ?_
      refine q_iconst (v := 0) C dX3_layMeasures_13 (by decide) ?_
      obtain ⟨hg, hf⟩ := gd_some hf
      refine q_iast (ws' := wMod cI cJ m0 m1 m2 m3 m4 m5 m6 m7 (M.1, M.2.1, M.2.2.1, M.2.2.2.1, M.2.2.2.2.1, M.2.2.2.2.2.1, M.2.2.2.2.2.2.1, M.2.2.2.2.2.2.2.1, M.2.2.2.2.2.2.2.2.1, M.2.2.2.2.2.2.2.2.2.1, (upd M.2.2.2.2.2.2.2.2.2.2 x1.toNatClampNeg (0 : Int32)))) C 7 rfl hg dX3_layMeasures_14 rfl ?_
      refine q_iinc (v := (x1 + (1 : Int32))) (lv' := [(1, .int (x1 + (1 : Int32))), (0, .ref m0)]) C dX3_layMeasures_15 1 rfl rfl (by decide) rfl ?_
      refine q_goto C 2 dX3_layMeasures_18 (by decide) ?_
      refine q_sub (lv' := [(0, .ref m0), (1, .int (x1 + (1 : Int32)))]) [1, 0] rfl ?_
      exact ih (M.1, M.2.1, M.2.2.1, M.2.2.2.1, M.2.2.2.2.1, M.2.2.2.2.2.1, M.2.2.2.2.2.2.1, M.2.2.2.2.2.2.2.1, M.2.2.2.2.2.2.2.2.1, M.2.2.2.2.2.2.2.2.2.1, (upd M.2.2.2.2.2.2.2.2.2.2 x1.toNatClampNeg (0 : Int32))) (x1 + (1 : Int32)) hf
set_option maxRecDepth 100000 in
set_option maxHeartbeats 4000000 in
theorem c_X3_layMeasures (l : Launch) (D : va_G) (cI cJ cN : ClassId) (m0 m1 m2 m3 m4 m5 m6 m7 : Nat)  (M : MS)  (z : MS) (hf : f_X3_layMeasures M = some z) : MV l D cI cJ cN yX3_layMeasures (WS yX3_layMeasures cX3_layMeasures 3 none) { frames := 6, cells := 0, slots := 0, locals := 136 } [.ref m0] (wMod cI cJ m0 m1 m2 m3 m4 m5 m6 m7 M) (fun w => w = wMod cI cJ m0 m1 m2 m3 m4 m5 m6 m7 z) := by
  rw [f_X3_layMeasures] at hf
  refine q_startV (lv := [(0, .ref m0)]) (by decide +kernel) rfl (Nat.le_of_ble_eq_true rfl) ?_
  intro p e s m below meth c C hin
  refine q_iconst (v := 0) C dX3_layMeasures_0 (by decide) ?_
  refine q_istore_n (lv' := [(1, .int (0 : Int32)), (0, .ref m0)]) C dX3_layMeasures_1 rfl (by decide) rfl ?_
  refine q_sub (lv' := [(0, .ref m0), (1, .int (0 : Int32))]) [1, 0] rfl ?_
  exact l_X3_layMeasures_2 C FU M (0 : Int32) hf
set_option maxRecDepth 100000 in
set_option maxHeartbeats 4000000 in
theorem c_X3_measure (l : Launch) (D : va_G) (cI cJ cN : ClassId) (m0 m1 m2 m3 m4 m5 m6 m7 : Nat)  (M : MS) (x1 : Int32) (z : Int32 × MS) (hf : f_X3_measure M x1 = some z) : MI l D cI cJ cN yX3_measure (WS yX3_measure cX3_measure 2 (some .int)) { frames := 7, cells := 0, slots := 0, locals := 158 } [.ref m0, .int x1] (wMod cI cJ m0 m1 m2 m3 m4 m5 m6 m7 M) z.1 (fun w => w = wMod cI cJ m0 m1 m2 m3 m4 m5 m6 m7 z.2) := by
  rw [f_X3_measure] at hf
  refine q_startI (lv := [(0, .ref m0), (1, .int x1)]) (by decide +kernel) rfl (Nat.le_of_ble_eq_true rfl) ?_
  intro p e s m below meth c C hin
  refine q_iload_n C dX3_measure_0 rfl 1 rfl ?_
  refine q_iconst (v := 0) C dX3_measure_1 (by decide) ?_
  refine q_bipush (v := 7) C dX3_measure_2 (by decide) ?_
  obtain ⟨z1, h_z1, hf⟩ := bnd hf
  refine q_cSI (ws' := wMod cI cJ m0 m1 m2 m3 m4 m5 m6 m7 M) C (c_X3_isIn l D cI cJ cN x1 (0 : Int32) (7 : Int32) z1 h_z1) (mkS (fr := 0) (lo := 0) C xc_X3_isIn xm_X3_44 xs_X3_isIn xn_X3 hd_X3_isIn ⟨Nat.le_of_ble_eq_true rfl, Nat.le_of_ble_eq_true rfl⟩) [] rfl (by decide) rfl rfl rfl rfl (Nat.le_of_ble_eq_true rfl) dX3_measure_4 ⟨Nat.le_of_ble_eq_true rfl, Nat.le_of_ble_eq_true rfl⟩ ?_
  refine q_if_ne C 12 dX3_measure_7 (by decide) (fun h => ?_) (fun h => ?_)
  · have hf := ifF hf h
    refine q_aload_n C dX3_measure_12 rfl 0 rfl ?_
    obtain ⟨z2, h_z2, hf⟩ := bnd hf
    refine q_cVVw C (c_X3_layMeasures l D cI cJ cN m0 m1 m2 m3 m4 m5 m6 m7 M z2 h_z2) (mkV (fr := 6) (lo := 136) C xc_X3_layMeasures xm_X3_151 xi_X3_layMeasures xe_X3_layMeasures xn_X3 hd_X3_layMeasures ⟨Nat.le_of_ble_eq_true rfl, Nat.le_of_ble_eq_true rfl⟩) 0 rfl rfl rfl rfl (Nat.le_of_ble_eq_true rfl) dX3_measure_13 ⟨Nat.le_of_ble_eq_true rfl, Nat.le_of_ble_eq_true rfl⟩ (fun w1 hp1 => ?_)
    subst hp1
    refine q_aload_n C dX3_measure_16 rfl 0 rfl ?_
    refine q_get C (uW uX3_in) 0 rfl rfl 10 (by decide) (ws_in xf_X3_29) rfl rfl dX3_measure_17 ?_
    refine q_iload_n C dX3_measure_20 rfl 1 rfl ?_
    obtain ⟨hg, hf⟩ := gd_some hf
    refine q_iald C 7 rfl hg dX3_measure_21 ?_
    have hf := Option.some.inj hf
    subst hf
    exact q_iret C (Nat.le_of_ble_eq_true rfl) (Nat.le_of_ble_eq_true rfl) rfl dX3_measure_22
  · have hf := ifT hf h
    refine q_iconst (v := -1) C dX3_measure_10 (by decide) ?_
    have hf := Option.some.inj hf
    subst hf
    exact q_iret C (Nat.le_of_ble_eq_true rfl) (Nat.le_of_ble_eq_true rfl) rfl dX3_measure_11
set_option maxRecDepth 100000 in
set_option maxHeartbeats 4000000 in
theorem c_X3_mean (l : Launch) (D : va_G) (cI cJ cN : ClassId) (m0 m1 m2 m3 m4 m5 m6 m7 : Nat)  (M : MS)  (z : UInt32 × MS) (hf : f_X3_mean M = some z) : MF l D cI cJ cN yX3_mean (WS yX3_mean cX3_mean 1 (some .float)) { frames := 7, cells := 0, slots := 0, locals := 158 } [.ref m0] (wMod cI cJ m0 m1 m2 m3 m4 m5 m6 m7 M) z.1 (fun w => w = wMod cI cJ m0 m1 m2 m3 m4 m5 m6 m7 z.2) := by
  rw [f_X3_mean] at hf
  refine q_startF (lv := [(0, .ref m0)]) (by decide +kernel) rfl (Nat.le_of_ble_eq_true rfl) ?_
  intro p e s m below meth c C hin
  refine q_aload_n C dX3_mean_0 rfl 0 rfl ?_
  obtain ⟨z1, h_z1, hf⟩ := bnd hf
  refine q_cVVw C (c_X3_layMeasures l D cI cJ cN m0 m1 m2 m3 m4 m5 m6 m7 M z1 h_z1) (mkV (fr := 6) (lo := 136) C xc_X3_layMeasures xm_X3_151 xi_X3_layMeasures xe_X3_layMeasures xn_X3 hd_X3_layMeasures ⟨Nat.le_of_ble_eq_true rfl, Nat.le_of_ble_eq_true rfl⟩) 0 rfl rfl rfl rfl (Nat.le_of_ble_eq_true rfl) dX3_mean_1 ⟨Nat.le_of_ble_eq_true rfl, Nat.le_of_ble_eq_true rfl⟩ (fun w1 hp1 => ?_)
  subst hp1
  refine q_aload_n C dX3_mean_4 rfl 0 rfl ?_
  refine q_get C (uW uX3_in) 0 rfl rfl 10 (by decide) (ws_in xf_X3_29) rfl rfl dX3_mean_5 ?_
  refine q_iconst (v := 4) C dX3_mean_8 (by decide) ?_
  refine q_iald C 7 rfl (by decide) dX3_mean_9 ?_
  refine q_if_ne C 17 dX3_mean_10 (by decide) (fun h => ?_) (fun h => ?_)
  · have hf := ifF hf h
    refine q_aload_n C dX3_mean_17 rfl 0 rfl ?_
    refine q_get C (uW uX3_in) 0 rfl rfl 10 (by decide) (ws_in xf_X3_29) rfl rfl dX3_mean_18 ?_
    refine q_bipush (v := 6) C dX3_mean_21 (by decide) ?_
    refine q_iald C 7 rfl (by decide) dX3_mean_23 ?_
    refine q_i2f C dX3_mean_24 ?_
    refine q_aload_n C dX3_mean_25 rfl 0 rfl ?_
    refine q_get C (uW uX3_in) 0 rfl rfl 10 (by decide) (ws_in xf_X3_29) rfl rfl dX3_mean_26 ?_
    refine q_iconst (v := 4) C dX3_mean_29 (by decide) ?_
    refine q_iald C 7 rfl (by decide) dX3_mean_30 ?_
    refine q_i2f C dX3_mean_31 ?_
    obtain ⟨hg, hf⟩ := gd_some hf
    refine q_fdiv C dX3_mean_32 (nfB_ok hg) ?_
    have hf := Option.some.inj hf
    subst hf
    exact q_fret C (Nat.le_of_ble_eq_true rfl) (Nat.le_of_ble_eq_true rfl) rfl dX3_mean_33
  · have hf := ifT hf h
    refine q_fconst0 C dX3_mean_13 ?_
    refine q_goto C 33 dX3_mean_14 (by decide) ?_
    have hf := Option.some.inj hf
    subst hf
    exact q_fret C (Nat.le_of_ble_eq_true rfl) (Nat.le_of_ble_eq_true rfl) rfl dX3_mean_33
set_option maxRecDepth 100000 in
set_option maxHeartbeats 4000000 in
theorem c_X3_isImage (l : Launch) (D : va_G) (cI cJ cN : ClassId)   (x0 : Int32) (z : Int32) (hf : f_X3_isImage x0 = some z) : MI l D cI cJ cN yX3_isImage (WS yX3_isImage cX3_isImage 1 (some .boolean)) { frames := 1, cells := 0, slots := 0, locals := 22 } [.int x0] ([]) z (fun w => w = []) := by
  rw [f_X3_isImage] at hf
  refine q_startI (lv := [(0, .int x0)]) (by decide +kernel) rfl (Nat.le_of_ble_eq_true rfl) ?_
  intro p e s m below meth c C hin
  refine q_iload_n C dX3_isImage_0 rfl 0 rfl ?_
  refine q_iconst (v := 0) C dX3_isImage_1 (by decide) ?_
  refine q_iconst (v := 1) C dX3_isImage_2 (by decide) ?_
  obtain ⟨z1, h_z1, hf⟩ := bnd hf
  refine q_cSI (ws' := []) C (c_X3_isIn l D cI cJ cN x0 (0 : Int32) (1 : Int32) z1 h_z1) (mkS (fr := 0) (lo := 0) C xc_X3_isIn xm_X3_44 xs_X3_isIn xn_X3 hd_X3_isIn ⟨Nat.le_of_ble_eq_true rfl, Nat.le_of_ble_eq_true rfl⟩) [] rfl (by decide) rfl rfl rfl rfl (Nat.le_of_ble_eq_true rfl) dX3_isImage_3 ⟨Nat.le_of_ble_eq_true rfl, Nat.le_of_ble_eq_true rfl⟩ ?_
  obtain ⟨hg, hf⟩ := gd_some hf
  have hf := Option.some.inj hf
  subst hf
  exact q_zret C (bB_nar hg) (Nat.le_of_ble_eq_true rfl) (Nat.le_of_ble_eq_true rfl) rfl dX3_isImage_6
set_option maxRecDepth 100000 in
set_option maxHeartbeats 4000000 in
theorem l_X3_keep_11 {p : Program} {l : Launch} {e : Env} {s : State} {m : MethodId} {args : Array Value} {below : List Frame} {meth : Method} {c : Code} {D : va_G} {cI cJ cN : ClassId} {W0 : va_W} {m0 m1 m2 m3 m4 m5 m6 m7 : Nat} {z : Int32 × MS} (C : CX p l s m args meth c cX3_keep 3 yX3_keep.cls (WS yX3_keep cX3_keep 3 (some .int)) (some .int) D cI cJ cN (va_A W0 s.heap.size)) : ∀ (fu : Nat) (M : MS) (x1 : Int32) (x2 : Int32), g_X3_keep_11 fu M x1 x2 = some z → WW p l e { frames := 2, cells := 0, slots := 0, locals := 42 } s m args below meth c D 3 (va_A W0 s.heap.size) 0 0 (QI below args s D W0 { frames := 2, cells := 0, slots := 0, locals := 42 } z.1 (fun w => w = wMod cI cJ m0 m1 m2 m3 m4 m5 m6 m7 z.2)) 11 [(0, .ref m0), (1, .int x1), (2, .int x2)] [] (wMod cI cJ m0 m1 m2 m3 m4 m5 m6 m7 M) := by
  intro fu
  induction fu with
  | zero =>
    intro M x1 x2 hf
    rw [g_X3_keep_11] at hf
    cases hf
  | succ fu ih =>
    intro M x1 x2 hf
    rw [g_X3_keep_11] at hf
    refine q_iload_n C dX3_keep_11 rfl 2 rfl ?_
    refine q_sipush (v := 300) C dX3_keep_12 (by decide) ?_
    refine q_icmp_ge C 42 dX3_keep_15 (by decide) (fun h => ?_) (fun h => ?_)
    · have hf := ifT hf h
      refine q_aload_n C dX3_keep_42 rfl 0 rfl ?_
      refine q_dup C dX3_keep_43 rfl ?_
      refine q_get C (uW uX3_in) 0 rfl rfl 4 (by decide) (ws_in xf_X3_157) rfl rfl dX3_keep_44 ?_
      refine q_iconst (v := 1) C dX3_keep_47 (by decide) ?_
      refine q_iload_n C dX3_keep_48 rfl 1 rfl ?_
      refine q_ishl C dX3_keep_49 ?_
      refine q_ior C dX3_keep_50 ?_
      refine q_put (ws' := wMod cI cJ m0 m1 m2 m3 m4 m5 m6 m7 (M.1, M.2.1, M.2.2.1, M.2.2.2.1, (M.2.2.2.2.1 ||| ((1 : Int32) <<< (x1 &&& 31))), M.2.2.2.2.2.1, M.2.2.2.2.2.2.1, M.2.2.2.2.2.2.2.1, M.2.2.2.2.2.2.2.2.1, M.2.2.2.2.2.2.2.2.2.1, M.2.2.2.2.2.2.2.2.2.2)) (ty := .int) C (uW uX3_in) tyX3 tyX3_ok nmX3 0 rfl rfl 4 (by decide) (ws_in xf_X3_157) rfl rfl (by decide +kernel) rfl rfl (Nat.le_of_ble_eq_true rfl) dX3_keep_51 rfl ?_
      refine q_aload_n C dX3_keep_54 rfl 0 rfl ?_
      obtain ⟨z1, h_z1, hf⟩ := bnd hf
      refine q_cVIw C (c_X3_links l D cI cJ cN m0 m1 m2 m3 m4 m5 m6 m7 (M.1, M.2.1, M.2.2.1, M.2.2.2.1, (M.2.2.2.2.1 ||| ((1 : Int32) <<< (x1 &&& 31))), M.2.2.2.2.2.1, M.2.2.2.2.2.2.1, M.2.2.2.2.2.2.2.1, M.2.2.2.2.2.2.2.2.1, M.2.2.2.2.2.2.2.2.2.1, M.2.2.2.2.2.2.2.2.2.2) z1 h_z1) (mkV (fr := 1) (lo := 20) C xc_X3_links xm_X3_128 xi_X3_links xe_X3_links xn_X3 hd_X3_links ⟨Nat.le_of_ble_eq_true rfl, Nat.le_of_ble_eq_true rfl⟩) 0 rfl rfl rfl rfl (Nat.le_of_ble_eq_true rfl) dX3_keep_55 ⟨Nat.le_of_ble_eq_true rfl, Nat.le_of_ble_eq_true rfl⟩ (fun w1 hp1 => ?_)
      subst hp1
      have hf := Option.some.inj hf
      subst hf
      exact q_iret C (Nat.le_of_ble_eq_true rfl) (Nat.le_of_ble_eq_true rfl) rfl dX3_keep_58
    · have hf := ifF hf h
      refine q_aload_n C dX3_keep_18 rfl 0 rfl ?_
      refine q_get C (uW uX3_in) 0 rfl rfl 3 (by decide) (ws_in xf_X3_16) rfl rfl dX3_keep_19 ?_
      refine q_sipush (v := 300) C dX3_keep_22 (by decide) ?_
      refine q_iload_n C dX3_keep_25 rfl 1 rfl ?_
      refine q_imul C dX3_keep_26 ?_
      refine q_iload_n C dX3_keep_27 rfl 2 rfl ?_
      refine q_iadd C dX3_keep_28 ?_
      refine q_aload_n C dX3_keep_29 rfl 0 rfl ?_
      refine q_get C (uW uX3_in) 0 rfl rfl 0 (by decide) (ws_in xf_X3_7) rfl rfl dX3_keep_30 ?_
      refine q_iload_n C dX3_keep_33 rfl 2 rfl ?_
      obtain ⟨hg, hf⟩ := gd_some hf
      refine q_iald C 1 rfl hg dX3_keep_34 ?_
      obtain ⟨hg, hf⟩ := gd_some hf
      refine q_iast (ws' := wMod cI cJ m0 m1 m2 m3 m4 m5 m6 m7 (M.1, M.2.1, M.2.2.1, (upd M.2.2.2.1 (((300 : Int32) * x1) + x2).toNatClampNeg (M.1 x2.toNatClampNeg)), M.2.2.2.2.1, M.2.2.2.2.2.1, M.2.2.2.2.2.2.1, M.2.2.2.2.2.2.2.1, M.2.2.2.2.2.2.2.2.1, M.2.2.2.2.2.2.2.2.2.1, M.2.2.2.2.2.2.2.2.2.2)) C 3 rfl hg dX3_keep_35 rfl ?_
      refine q_iinc (v := (x2 + (1 : Int32))) (lv' := [(2, .int (x2 + (1 : Int32))), (0, .ref m0), (1, .int x1)]) C dX3_keep_36 2 rfl rfl (by decide) rfl ?_
      refine q_goto C 11 dX3_keep_39 (by decide) ?_
      refine q_sub (lv' := [(0, .ref m0), (1, .int x1), (2, .int (x2 + (1 : Int32)))]) [1, 2, 0] rfl ?_
      exact ih (M.1, M.2.1, M.2.2.1, (upd M.2.2.2.1 (((300 : Int32) * x1) + x2).toNatClampNeg (M.1 x2.toNatClampNeg)), M.2.2.2.2.1, M.2.2.2.2.2.1, M.2.2.2.2.2.2.1, M.2.2.2.2.2.2.2.1, M.2.2.2.2.2.2.2.2.1, M.2.2.2.2.2.2.2.2.2.1, M.2.2.2.2.2.2.2.2.2.2) x1 (x2 + (1 : Int32)) hf
set_option maxRecDepth 100000 in
set_option maxHeartbeats 4000000 in
theorem c_X3_keep (l : Launch) (D : va_G) (cI cJ cN : ClassId) (m0 m1 m2 m3 m4 m5 m6 m7 : Nat)  (M : MS) (x1 : Int32) (z : Int32 × MS) (hf : f_X3_keep M x1 = some z) : MI l D cI cJ cN yX3_keep (WS yX3_keep cX3_keep 3 (some .int)) { frames := 2, cells := 0, slots := 0, locals := 42 } [.ref m0, .int x1] (wMod cI cJ m0 m1 m2 m3 m4 m5 m6 m7 M) z.1 (fun w => w = wMod cI cJ m0 m1 m2 m3 m4 m5 m6 m7 z.2) := by
  rw [f_X3_keep] at hf
  refine q_startI (lv := [(0, .ref m0), (1, .int x1)]) (by decide +kernel) rfl (Nat.le_of_ble_eq_true rfl) ?_
  intro p e s m below meth c C hin
  refine q_iload_n C dX3_keep_0 rfl 1 rfl ?_
  obtain ⟨z1, h_z1, hf⟩ := bnd hf
  refine q_cSI (ws' := wMod cI cJ m0 m1 m2 m3 m4 m5 m6 m7 M) C (c_X3_isImage l D cI cJ cN x1 z1 h_z1) (mkS (fr := 1) (lo := 22) C xc_X3_isImage xm_X3_154 xs_X3_isImage xn_X3 hd_X3_isImage ⟨Nat.le_of_ble_eq_true rfl, Nat.le_of_ble_eq_true rfl⟩) [] rfl (by decide) rfl rfl rfl rfl (Nat.le_of_ble_eq_true rfl) dX3_keep_1 ⟨Nat.le_of_ble_eq_true rfl, Nat.le_of_ble_eq_true rfl⟩ ?_
  refine q_if_ne C 9 dX3_keep_4 (by decide) (fun h => ?_) (fun h => ?_)
  · have hf := ifF hf h
    refine q_iconst (v := 0) C dX3_keep_9 (by decide) ?_
    refine q_istore_n (lv' := [(2, .int (0 : Int32)), (0, .ref m0), (1, .int x1)]) C dX3_keep_10 rfl (by decide) rfl ?_
    refine q_sub (lv' := [(0, .ref m0), (1, .int x1), (2, .int (0 : Int32))]) [1, 2, 0] rfl ?_
    exact l_X3_keep_11 C FU M x1 (0 : Int32) hf
  · have hf := ifT hf h
    refine q_iconst (v := -1) C dX3_keep_7 (by decide) ?_
    have hf := Option.some.inj hf
    subst hf
    exact q_iret C (Nat.le_of_ble_eq_true rfl) (Nat.le_of_ble_eq_true rfl) rfl dX3_keep_8
set_option maxRecDepth 100000 in
set_option maxHeartbeats 4000000 in
theorem l_X3_back_29 {p : Program} {l : Launch} {e : Env} {s : State} {m : MethodId} {args : Array Value} {below : List Frame} {meth : Method} {c : Code} {D : va_G} {cI cJ cN : ClassId} {W0 : va_W} {m0 m1 m2 m3 m4 m5 m6 m7 : Nat} {z : Int32 × MS} (C : CX p l s m args meth c cX3_back 3 yX3_back.cls (WS yX3_back cX3_back 3 (some .int)) (some .int) D cI cJ cN (va_A W0 s.heap.size)) : ∀ (fu : Nat) (M : MS) (x1 : Int32) (x2 : Int32), g_X3_back_29 fu M x1 x2 = some z → WW p l e { frames := 2, cells := 0, slots := 0, locals := 42 } s m args below meth c D 3 (va_A W0 s.heap.size) 0 0 (QI below args s D W0 { frames := 2, cells := 0, slots := 0, locals := 42 } z.1 (fun w => w = wMod cI cJ m0 m1 m2 m3 m4 m5 m6 m7 z.2)) 29 [(0, .ref m0), (1, .int x1), (2, .int x2)] [] (wMod cI cJ m0 m1 m2 m3 m4 m5 m6 m7 M) := by
  intro fu
  induction fu with
  | zero =>
    intro M x1 x2 hf
    rw [g_X3_back_29] at hf
    cases hf
  | succ fu ih =>
    intro M x1 x2 hf
    rw [g_X3_back_29] at hf
    refine q_iload_n C dX3_back_29 rfl 2 rfl ?_
    refine q_sipush (v := 300) C dX3_back_30 (by decide) ?_
    refine q_icmp_ge C 60 dX3_back_33 (by decide) (fun h => ?_) (fun h => ?_)
    · have hf := ifT hf h
      refine q_aload_n C dX3_back_60 rfl 0 rfl ?_
      obtain ⟨z1, h_z1, hf⟩ := bnd hf
      refine q_cVIw C (c_X3_links l D cI cJ cN m0 m1 m2 m3 m4 m5 m6 m7 M z1 h_z1) (mkV (fr := 1) (lo := 20) C xc_X3_links xm_X3_128 xi_X3_links xe_X3_links xn_X3 hd_X3_links ⟨Nat.le_of_ble_eq_true rfl, Nat.le_of_ble_eq_true rfl⟩) 0 rfl rfl rfl rfl (Nat.le_of_ble_eq_true rfl) dX3_back_61 ⟨Nat.le_of_ble_eq_true rfl, Nat.le_of_ble_eq_true rfl⟩ (fun w1 hp1 => ?_)
      subst hp1
      have hf := Option.some.inj hf
      subst hf
      exact q_iret C (Nat.le_of_ble_eq_true rfl) (Nat.le_of_ble_eq_true rfl) rfl dX3_back_64
    · have hf := ifF hf h
      refine q_aload_n C dX3_back_36 rfl 0 rfl ?_
      refine q_get C (uW uX3_in) 0 rfl rfl 0 (by decide) (ws_in xf_X3_7) rfl rfl dX3_back_37 ?_
      refine q_iload_n C dX3_back_40 rfl 2 rfl ?_
      refine q_aload_n C dX3_back_41 rfl 0 rfl ?_
      refine q_get C (uW uX3_in) 0 rfl rfl 3 (by decide) (ws_in xf_X3_16) rfl rfl dX3_back_42 ?_
      refine q_sipush (v := 300) C dX3_back_45 (by decide) ?_
      refine q_iload_n C dX3_back_48 rfl 1 rfl ?_
      refine q_imul C dX3_back_49 ?_
      refine q_iload_n C dX3_back_50 rfl 2 rfl ?_
      refine q_iadd C dX3_back_51 ?_
      obtain ⟨hg, hf⟩ := gd_some hf
      refine q_iald C 3 rfl hg dX3_back_52 ?_
      obtain ⟨hg, hf⟩ := gd_some hf
      refine q_iast (ws' := wMod cI cJ m0 m1 m2 m3 m4 m5 m6 m7 ((upd M.1 x2.toNatClampNeg (M.2.2.2.1 (((300 : Int32) * x1) + x2).toNatClampNeg)), M.2.1, M.2.2.1, M.2.2.2.1, M.2.2.2.2.1, M.2.2.2.2.2.1, M.2.2.2.2.2.2.1, M.2.2.2.2.2.2.2.1, M.2.2.2.2.2.2.2.2.1, M.2.2.2.2.2.2.2.2.2.1, M.2.2.2.2.2.2.2.2.2.2)) C 1 rfl hg dX3_back_53 rfl ?_
      refine q_iinc (v := (x2 + (1 : Int32))) (lv' := [(2, .int (x2 + (1 : Int32))), (0, .ref m0), (1, .int x1)]) C dX3_back_54 2 rfl rfl (by decide) rfl ?_
      refine q_goto C 29 dX3_back_57 (by decide) ?_
      refine q_sub (lv' := [(0, .ref m0), (1, .int x1), (2, .int (x2 + (1 : Int32)))]) [1, 2, 0] rfl ?_
      exact ih ((upd M.1 x2.toNatClampNeg (M.2.2.2.1 (((300 : Int32) * x1) + x2).toNatClampNeg)), M.2.1, M.2.2.1, M.2.2.2.1, M.2.2.2.2.1, M.2.2.2.2.2.1, M.2.2.2.2.2.2.1, M.2.2.2.2.2.2.2.1, M.2.2.2.2.2.2.2.2.1, M.2.2.2.2.2.2.2.2.2.1, M.2.2.2.2.2.2.2.2.2.2) x1 (x2 + (1 : Int32)) hf
set_option maxRecDepth 100000 in
set_option maxHeartbeats 4000000 in
theorem c_X3_back (l : Launch) (D : va_G) (cI cJ cN : ClassId) (m0 m1 m2 m3 m4 m5 m6 m7 : Nat)  (M : MS) (x1 : Int32) (z : Int32 × MS) (hf : f_X3_back M x1 = some z) : MI l D cI cJ cN yX3_back (WS yX3_back cX3_back 3 (some .int)) { frames := 2, cells := 0, slots := 0, locals := 42 } [.ref m0, .int x1] (wMod cI cJ m0 m1 m2 m3 m4 m5 m6 m7 M) z.1 (fun w => w = wMod cI cJ m0 m1 m2 m3 m4 m5 m6 m7 z.2) := by
  rw [f_X3_back] at hf
  refine q_startI (lv := [(0, .ref m0), (1, .int x1)]) (by decide +kernel) rfl (Nat.le_of_ble_eq_true rfl) ?_
  intro p e s m below meth c C hin
  refine q_iload_n C dX3_back_0 rfl 1 rfl ?_
  obtain ⟨z1, h_z1, hf⟩ := bnd hf
  refine q_cSI (ws' := wMod cI cJ m0 m1 m2 m3 m4 m5 m6 m7 M) C (c_X3_isImage l D cI cJ cN x1 z1 h_z1) (mkS (fr := 1) (lo := 22) C xc_X3_isImage xm_X3_154 xs_X3_isImage xn_X3 hd_X3_isImage ⟨Nat.le_of_ble_eq_true rfl, Nat.le_of_ble_eq_true rfl⟩) [] rfl (by decide) rfl rfl rfl rfl (Nat.le_of_ble_eq_true rfl) dX3_back_1 ⟨Nat.le_of_ble_eq_true rfl, Nat.le_of_ble_eq_true rfl⟩ ?_
  refine q_if_ne C 9 dX3_back_4 (by decide) (fun h => ?_) (fun h => ?_)
  · have hf := ifF hf h
    refine q_aload_n C dX3_back_9 rfl 0 rfl ?_
    refine q_get C (uW uX3_in) 0 rfl rfl 4 (by decide) (ws_in xf_X3_157) rfl rfl dX3_back_10 ?_
    refine q_iload_n C dX3_back_13 rfl 1 rfl ?_
    refine q_ishr C dX3_back_14 ?_
    refine q_iconst (v := 1) C dX3_back_15 (by decide) ?_
    refine q_iand C dX3_back_16 ?_
    refine q_if_ne C 23 dX3_back_17 (by decide) (fun h => ?_) (fun h => ?_)
    · have hf := ifF hf h
      refine q_aload_n C dX3_back_23 rfl 0 rfl ?_
      obtain ⟨z2, h_z2, hf⟩ := bnd hf
      refine q_cVVw C (c_X3_remember l D cI cJ cN m0 m1 m2 m3 m4 m5 m6 m7 M z2 h_z2) (mkV (fr := 0) (lo := 0) C xc_X3_remember xm_X3_103 xi_X3_remember xe_X3_remember xn_X3 hd_X3_remember ⟨Nat.le_of_ble_eq_true rfl, Nat.le_of_ble_eq_true rfl⟩) 0 rfl rfl rfl rfl (Nat.le_of_ble_eq_true rfl) dX3_back_24 ⟨Nat.le_of_ble_eq_true rfl, Nat.le_of_ble_eq_true rfl⟩ (fun w1 hp1 => ?_)
      subst hp1
      refine q_iconst (v := 0) C dX3_back_27 (by decide) ?_
      refine q_istore_n (lv' := [(2, .int (0 : Int32)), (0, .ref m0), (1, .int x1)]) C dX3_back_28 rfl (by decide) rfl ?_
      refine q_sub (lv' := [(0, .ref m0), (1, .int x1), (2, .int (0 : Int32))]) [1, 2, 0] rfl ?_
      exact l_X3_back_29 C FU z2 x1 (0 : Int32) hf
    · have hf := ifT hf h
      refine q_bipush (v := -2) C dX3_back_20 (by decide) ?_
      have hf := Option.some.inj hf
      subst hf
      exact q_iret C (Nat.le_of_ble_eq_true rfl) (Nat.le_of_ble_eq_true rfl) rfl dX3_back_22
  · have hf := ifT hf h
    refine q_iconst (v := -1) C dX3_back_7 (by decide) ?_
    have hf := Option.some.inj hf
    subst hf
    exact q_iret C (Nat.le_of_ble_eq_true rfl) (Nat.le_of_ble_eq_true rfl) rfl dX3_back_8
