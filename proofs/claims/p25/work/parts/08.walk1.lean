set_option maxRecDepth 100000 in
set_option maxHeartbeats 4000000 in
theorem l_X1_readContacts_2 {p : Program} {l : Launch} {e : Env} {s : State} {m : MethodId} {args : Array Value} {below : List Frame} {meth : Method} {c : Code} {D : va_G} {cI cJ cN : ClassId} {W0 : va_W} {s0 s1 s2 s3 s4 s5 s6 n0 n1 n2 n3 n4 n5 n6 : Nat} {z : SS} (C : CX p l s m args meth c cX1_readContacts 3 yX1_readContacts.cls (WS yX1_readContacts cX1_readContacts 3 none) none D cI cJ cN (va_A W0 s.heap.size)) : ∀ (fu : Nat) (S : SS) (N : NS) (x2 : Int32), g_X1_readContacts_2 fu S N x2 = some z → WW p l e { frames := 3, cells := 0, slots := 0, locals := 70 } s m args below meth c D 3 (va_A W0 s.heap.size) 0 0 (QV below args s D W0 { frames := 3, cells := 0, slots := 0, locals := 70 } (fun w => w = wSur cI cJ s0 s1 s2 s3 s4 s5 s6 z ++ wNet cI n0 n1 n2 n3 n4 n5 n6 N)) 2 [(0, .ref s0), (1, .ref n0), (2, .int x2)] [] (wSur cI cJ s0 s1 s2 s3 s4 s5 s6 S ++ wNet cI n0 n1 n2 n3 n4 n5 n6 N) := by
  intro fu
  induction fu with
  | zero =>
    intro S N x2 hf
    rw [g_X1_readContacts_2] at hf
    cases hf
  | succ fu ih =>
    intro S N x2 hf
    rw [g_X1_readContacts_2] at hf
    refine q_iload_n C dX1_readContacts_2 rfl 2 rfl ?_
    refine q_aload_n C dX1_readContacts_3 rfl 0 rfl ?_
    refine q_get C (uW uX1_in) 0 rfl rfl 0 (by decide) (ws_in xf_X1_9) rfl rfl dX1_readContacts_4 ?_
    refine q_alenJ C 1 rfl dX1_readContacts_7 ?_
    refine q_icmp_ge C 40 dX1_readContacts_8 (by decide) (fun h => ?_) (fun h => ?_)
    · have hf := ifT hf h
      have hf := Option.some.inj hf
      subst hf
      exact q_vret C (Nat.le_of_ble_eq_true rfl) (Nat.le_of_ble_eq_true rfl) rfl dX1_readContacts_40
    · have hf := ifF hf h
      refine q_aload_n C dX1_readContacts_11 rfl 0 rfl ?_
      refine q_get C (uW uX1_in) 0 rfl rfl 0 (by decide) (ws_in xf_X1_9) rfl rfl dX1_readContacts_12 ?_
      refine q_iload_n C dX1_readContacts_15 rfl 2 rfl ?_
      refine q_aload_n C dX1_readContacts_16 rfl 1 rfl ?_
      refine q_iload_n C dX1_readContacts_17 rfl 2 rfl ?_
      obtain ⟨z1, h_z1, hf⟩ := bnd hf
      refine q_cVI (ws' := wSur cI cJ s0 s1 s2 s3 s4 s5 s6 S ++ wNet cI n0 n1 n2 n3 n4 n5 n6 N) C (c_X0_isPresent l D cI cJ cN n0 n1 n2 n3 n4 n5 n6 N x2 z1 h_z1) (mkV (fr := 2) (lo := 41) C xc_X0_isPresent xm_X1_35 xi_X0_isPresent xe_X0_isPresent xn_X0 hd_X0_isPresent ⟨Nat.le_of_ble_eq_true rfl, Nat.le_of_ble_eq_true rfl⟩) 0 rfl rfl [7, 8, 9, 10, 11, 12, 13] rfl (by decide) rfl rfl rfl rfl (Nat.le_of_ble_eq_true rfl) dX1_readContacts_18 ⟨Nat.le_of_ble_eq_true rfl, Nat.le_of_ble_eq_true rfl⟩ ?_
      refine q_if_eq C 32 dX1_readContacts_21 (by decide) (fun h => ?_) (fun h => ?_)
      · have hf := ifT hf h
        refine q_lconst (v := 0) C dX1_readContacts_32 (by decide) ?_
        obtain ⟨hg, hf⟩ := gd_some hf
        refine q_last (ws' := wSur cI cJ s0 s1 s2 s3 s4 s5 s6 ((vp_updL S.1 x2.toNatClampNeg (0 : Int64)), S.2.1, S.2.2.1, S.2.2.2.1, S.2.2.2.2.1, S.2.2.2.2.2.1, S.2.2.2.2.2.2) ++ wNet cI n0 n1 n2 n3 n4 n5 n6 N) C 1 rfl hg dX1_readContacts_33 rfl ?_
        refine q_iinc (v := (x2 + (1 : Int32))) (lv' := [(2, .int (x2 + (1 : Int32))), (0, .ref s0), (1, .ref n0)]) C dX1_readContacts_34 2 rfl rfl (by decide) rfl ?_
        refine q_goto C 2 dX1_readContacts_37 (by decide) ?_
        refine q_sub (lv' := [(0, .ref s0), (1, .ref n0), (2, .int (x2 + (1 : Int32)))]) [1, 2, 0] rfl ?_
        exact ih ((vp_updL S.1 x2.toNatClampNeg (0 : Int64)), S.2.1, S.2.2.1, S.2.2.2.1, S.2.2.2.2.1, S.2.2.2.2.2.1, S.2.2.2.2.2.2) N (x2 + (1 : Int32)) hf
      · have hf := ifF hf h
        refine q_aload_n C dX1_readContacts_24 rfl 1 rfl ?_
        refine q_iload_n C dX1_readContacts_25 rfl 2 rfl ?_
        obtain ⟨z2, h_z2, hf⟩ := bnd hf
        refine q_cVL (ws' := wSur cI cJ s0 s1 s2 s3 s4 s5 s6 S ++ wNet cI n0 n1 n2 n3 n4 n5 n6 N) C (c_X0_contactsOf l D cI cJ cN n0 n1 n2 n3 n4 n5 n6 N x2 z2 h_z2) (mkV (fr := 2) (lo := 46) C xc_X0_contactsOf xm_X1_41 xi_X0_contactsOf xe_X0_contactsOf xn_X0 hd_X0_contactsOf ⟨Nat.le_of_ble_eq_true rfl, Nat.le_of_ble_eq_true rfl⟩) 0 rfl rfl [7, 8, 9, 10, 11, 12, 13] rfl (by decide) rfl rfl rfl rfl (Nat.le_of_ble_eq_true rfl) dX1_readContacts_26 ⟨Nat.le_of_ble_eq_true rfl, Nat.le_of_ble_eq_true rfl⟩ ?_
        refine q_goto C 33 dX1_readContacts_29 (by decide) ?_
        obtain ⟨hg, hf⟩ := gd_some hf
        refine q_last (ws' := wSur cI cJ s0 s1 s2 s3 s4 s5 s6 ((vp_updL S.1 x2.toNatClampNeg z2), S.2.1, S.2.2.1, S.2.2.2.1, S.2.2.2.2.1, S.2.2.2.2.2.1, S.2.2.2.2.2.2) ++ wNet cI n0 n1 n2 n3 n4 n5 n6 N) C 1 rfl hg dX1_readContacts_33 rfl ?_
        refine q_iinc (v := (x2 + (1 : Int32))) (lv' := [(2, .int (x2 + (1 : Int32))), (0, .ref s0), (1, .ref n0)]) C dX1_readContacts_34 2 rfl rfl (by decide) rfl ?_
        refine q_goto C 2 dX1_readContacts_37 (by decide) ?_
        refine q_sub (lv' := [(0, .ref s0), (1, .ref n0), (2, .int (x2 + (1 : Int32)))]) [1, 2, 0] rfl ?_
        exact ih ((vp_updL S.1 x2.toNatClampNeg z2), S.2.1, S.2.2.1, S.2.2.2.1, S.2.2.2.2.1, S.2.2.2.2.2.1, S.2.2.2.2.2.2) N (x2 + (1 : Int32)) hf
set_option maxRecDepth 100000 in
set_option maxHeartbeats 4000000 in
theorem c_X1_readContacts (l : Launch) (D : va_G) (cI cJ cN : ClassId) (s0 s1 s2 s3 s4 s5 s6 n0 n1 n2 n3 n4 n5 n6 : Nat)  (S : SS) (N : NS)  (z : SS) (hf : f_X1_readContacts S N = some z) : MV l D cI cJ cN yX1_readContacts (WS yX1_readContacts cX1_readContacts 3 none) { frames := 3, cells := 0, slots := 0, locals := 70 } [.ref s0, .ref n0] (wSur cI cJ s0 s1 s2 s3 s4 s5 s6 S ++ wNet cI n0 n1 n2 n3 n4 n5 n6 N) (fun w => w = wSur cI cJ s0 s1 s2 s3 s4 s5 s6 z ++ wNet cI n0 n1 n2 n3 n4 n5 n6 N) := by
  rw [f_X1_readContacts] at hf
  refine q_startV (lv := [(0, .ref s0), (1, .ref n0)]) (by decide +kernel) rfl (Nat.le_of_ble_eq_true rfl) ?_
  intro p e s m below meth c C hin
  refine q_iconst (v := 0) C dX1_readContacts_0 (by decide) ?_
  refine q_istore_n (lv' := [(2, .int (0 : Int32)), (0, .ref s0), (1, .ref n0)]) C dX1_readContacts_1 rfl (by decide) rfl ?_
  refine q_sub (lv' := [(0, .ref s0), (1, .ref n0), (2, .int (0 : Int32))]) [1, 2, 0] rfl ?_
  exact l_X1_readContacts_2 C FU S N (0 : Int32) hf
set_option maxRecDepth 100000 in
set_option maxHeartbeats 4000000 in
theorem l_X1_layerBefore_6 {p : Program} {l : Launch} {e : Env} {s : State} {m : MethodId} {args : Array Value} {below : List Frame} {meth : Method} {c : Code} {D : va_G} {cI cJ cN : ClassId} {W0 : va_W} {s0 s1 s2 s3 s4 s5 s6 : Nat} {z : Int64 × SS} (C : CX p l s m args meth c cX1_layerBefore 7 yX1_layerBefore.cls (WS yX1_layerBefore cX1_layerBefore 7 (some .long)) (some .long) D cI cJ cN (va_A W0 s.heap.size)) : ∀ (fu : Nat) (S : SS) (x1 : Int64) (x3 : Int32) (x4 : Int64) (x6 : Int32), g_X1_layerBefore_6 fu S x1 x3 x4 x6 = some z → WW p l e { frames := 1, cells := 0, slots := 0, locals := 20 } s m args below meth c D 7 (va_A W0 s.heap.size) 0 0 (QL below args s D W0 { frames := 1, cells := 0, slots := 0, locals := 20 } z.1 (fun w => w = wSur cI cJ s0 s1 s2 s3 s4 s5 s6 z.2)) 6 [(0, .ref s0), (1, .long x1), (3, .int x3), (4, .long x4), (6, .int x6)] [] (wSur cI cJ s0 s1 s2 s3 s4 s5 s6 S) := by
  intro fu
  induction fu with
  | zero =>
    intro S x1 x3 x4 x6 hf
    rw [g_X1_layerBefore_6] at hf
    cases hf
  | succ fu ih =>
    intro S x1 x3 x4 x6 hf
    rw [g_X1_layerBefore_6] at hf
    refine q_iload C dX1_layerBefore_6 4 rfl ?_
    refine q_aload_n C dX1_layerBefore_8 rfl 0 rfl ?_
    refine q_get C (uW uX1_in) 0 rfl rfl 1 (by decide) (ws_in xf_X1_15) rfl rfl dX1_layerBefore_9 ?_
    refine q_alenI C 2 rfl dX1_layerBefore_12 ?_
    refine q_icmp_ge C 75 dX1_layerBefore_13 (by decide) (fun h => ?_) (fun h => ?_)
    · have hf := ifT hf h
      refine q_lload C dX1_layerBefore_75 3 rfl ?_
      have hf := Option.some.inj hf
      subst hf
      exact q_lret C (Nat.le_of_ble_eq_true rfl) (Nat.le_of_ble_eq_true rfl) rfl dX1_layerBefore_77
    · have hf := ifF hf h
      refine q_iload C dX1_layerBefore_16 4 rfl ?_
      refine q_aload_n C dX1_layerBefore_18 rfl 0 rfl ?_
      refine q_get C (uW uX1_in) 0 rfl rfl 0 (by decide) (ws_in xf_X1_9) rfl rfl dX1_layerBefore_19 ?_
      refine q_alenJ C 1 rfl dX1_layerBefore_22 ?_
      refine q_icmp_ge C 75 dX1_layerBefore_23 (by decide) (fun h => ?_) (fun h => ?_)
      · have hf := ifT hf h
        refine q_lload C dX1_layerBefore_75 3 rfl ?_
        have hf := Option.some.inj hf
        subst hf
        exact q_lret C (Nat.le_of_ble_eq_true rfl) (Nat.le_of_ble_eq_true rfl) rfl dX1_layerBefore_77
      · have hf := ifF hf h
        refine q_aload_n C dX1_layerBefore_26 rfl 0 rfl ?_
        refine q_get C (uW uX1_in) 0 rfl rfl 1 (by decide) (ws_in xf_X1_15) rfl rfl dX1_layerBefore_27 ?_
        refine q_iload C dX1_layerBefore_30 4 rfl ?_
        obtain ⟨hg, hf⟩ := gd_some hf
        refine q_iald C 2 rfl hg dX1_layerBefore_32 ?_
        refine q_iconst (v := -1) C dX1_layerBefore_33 (by decide) ?_
        refine q_icmp_ne C 69 dX1_layerBefore_34 (by decide) (fun h => ?_) (fun h => ?_)
        · have hf := ifF hf h
          refine q_iinc (v := (x6 + (1 : Int32))) (lv' := [(6, .int (x6 + (1 : Int32))), (0, .ref s0), (1, .long x1), (3, .int x3), (4, .long x4)]) C dX1_layerBefore_69 4 rfl rfl (by decide) rfl ?_
          refine q_goto C 6 dX1_layerBefore_72 (by decide) ?_
          refine q_sub (lv' := [(0, .ref s0), (1, .long x1), (3, .int x3), (4, .long x4), (6, .int (x6 + (1 : Int32)))]) [1, 2, 3, 4, 0] rfl ?_
          exact ih S x1 x3 x4 (x6 + (1 : Int32)) hf
        · have hf := ifT hf h
          refine q_aload_n C dX1_layerBefore_37 rfl 0 rfl ?_
          refine q_get C (uW uX1_in) 0 rfl rfl 0 (by decide) (ws_in xf_X1_9) rfl rfl dX1_layerBefore_38 ?_
          refine q_iload C dX1_layerBefore_41 4 rfl ?_
          obtain ⟨hg, hf⟩ := gd_some hf
          refine q_lald C 1 rfl hg dX1_layerBefore_43 ?_
          refine q_lload_n C dX1_layerBefore_44 rfl 1 rfl ?_
          refine q_land C dX1_layerBefore_45 ?_
          refine q_lconst (v := 0) C dX1_layerBefore_46 (by decide) ?_
          refine q_lcmp C dX1_layerBefore_47 ?_
          refine q_if_eq C 69 dX1_layerBefore_48 (by decide) (fun h => ?_) (fun h => ?_)
          · have hf := ifT hf h
            refine q_iinc (v := (x6 + (1 : Int32))) (lv' := [(6, .int (x6 + (1 : Int32))), (0, .ref s0), (1, .long x1), (3, .int x3), (4, .long x4)]) C dX1_layerBefore_69 4 rfl rfl (by decide) rfl ?_
            refine q_goto C 6 dX1_layerBefore_72 (by decide) ?_
            refine q_sub (lv' := [(0, .ref s0), (1, .long x1), (3, .int x3), (4, .long x4), (6, .int (x6 + (1 : Int32)))]) [1, 2, 3, 4, 0] rfl ?_
            exact ih S x1 x3 x4 (x6 + (1 : Int32)) hf
          · have hf := ifF hf h
            refine q_aload_n C dX1_layerBefore_51 rfl 0 rfl ?_
            refine q_get C (uW uX1_in) 0 rfl rfl 1 (by decide) (ws_in xf_X1_15) rfl rfl dX1_layerBefore_52 ?_
            refine q_iload C dX1_layerBefore_55 4 rfl ?_
            refine q_iload_n C dX1_layerBefore_57 rfl 2 rfl ?_
            obtain ⟨hg, hf⟩ := gd_some hf
            refine q_iast (ws' := wSur cI cJ s0 s1 s2 s3 s4 s5 s6 (S.1, (upd S.2.1 x6.toNatClampNeg x3), S.2.2.1, S.2.2.2.1, S.2.2.2.2.1, S.2.2.2.2.2.1, S.2.2.2.2.2.2)) C 2 rfl hg dX1_layerBefore_58 rfl ?_
            refine q_lload C dX1_layerBefore_59 3 rfl ?_
            refine q_iload C dX1_layerBefore_61 4 rfl ?_
            obtain ⟨z1, h_z1, hf⟩ := bnd hf
            refine q_cNL (ws' := wSur cI cJ s0 s1 s2 s3 s4 s5 s6 (S.1, (upd S.2.1 x6.toNatClampNeg x3), S.2.2.1, S.2.2.2.1, S.2.2.2.2.1, S.2.2.2.2.2.1, S.2.2.2.2.2.2)) C (c_X2_only l D cI cJ cN x6 z1 h_z1) (mkN (fr := 0) (lo := 0) C 5 rfl xc_X2_only xs_X2_only xn_X2 hd_X2_only ⟨Nat.le_of_ble_eq_true rfl, Nat.le_of_ble_eq_true rfl⟩) [] rfl (by decide) rfl rfl rfl rfl (Nat.le_of_ble_eq_true rfl) dX1_layerBefore_63 ⟨Nat.le_of_ble_eq_true rfl, Nat.le_of_ble_eq_true rfl⟩ ?_
            refine q_lor C dX1_layerBefore_66 ?_
            refine q_lstore (lv' := [(4, .long (x4 ||| z1)), (0, .ref s0), (1, .long x1), (3, .int x3), (6, .int x6)]) C dX1_layerBefore_67 (by decide) rfl ?_
            refine q_iinc (v := (x6 + (1 : Int32))) (lv' := [(6, .int (x6 + (1 : Int32))), (4, .long (x4 ||| z1)), (0, .ref s0), (1, .long x1), (3, .int x3)]) C dX1_layerBefore_69 4 rfl rfl (by decide) rfl ?_
            refine q_goto C 6 dX1_layerBefore_72 (by decide) ?_
            refine q_sub (lv' := [(0, .ref s0), (1, .long x1), (3, .int x3), (4, .long (x4 ||| z1)), (6, .int (x6 + (1 : Int32)))]) [2, 3, 4, 1, 0] rfl ?_
            exact ih (S.1, (upd S.2.1 x6.toNatClampNeg x3), S.2.2.1, S.2.2.2.1, S.2.2.2.2.1, S.2.2.2.2.2.1, S.2.2.2.2.2.2) x1 x3 (x4 ||| z1) (x6 + (1 : Int32)) hf
set_option maxRecDepth 100000 in
set_option maxHeartbeats 4000000 in
theorem c_X1_layerBefore (l : Launch) (D : va_G) (cI cJ cN : ClassId) (s0 s1 s2 s3 s4 s5 s6 : Nat)  (S : SS) (x1 : Int64) (x3 : Int32) (z : Int64 × SS) (hf : f_X1_layerBefore S x1 x3 = some z) : ML l D cI cJ cN yX1_layerBefore (WS yX1_layerBefore cX1_layerBefore 7 (some .long)) { frames := 1, cells := 0, slots := 0, locals := 20 } [.ref s0, .long x1, .int x3] (wSur cI cJ s0 s1 s2 s3 s4 s5 s6 S) z.1 (fun w => w = wSur cI cJ s0 s1 s2 s3 s4 s5 s6 z.2) := by
  rw [f_X1_layerBefore] at hf
  refine q_startL (lv := [(0, .ref s0), (1, .long x1), (3, .int x3)]) (by decide +kernel) rfl (Nat.le_of_ble_eq_true rfl) ?_
  intro p e s m below meth c C hin
  refine q_lconst (v := 0) C dX1_layerBefore_0 (by decide) ?_
  refine q_lstore (lv' := [(4, .long (0 : Int64)), (0, .ref s0), (1, .long x1), (3, .int x3)]) C dX1_layerBefore_1 (by decide) rfl ?_
  refine q_iconst (v := 0) C dX1_layerBefore_3 (by decide) ?_
  refine q_istore (lv' := [(6, .int (0 : Int32)), (4, .long (0 : Int64)), (0, .ref s0), (1, .long x1), (3, .int x3)]) C dX1_layerBefore_4 (by decide) rfl ?_
  refine q_sub (lv' := [(0, .ref s0), (1, .long x1), (3, .int x3), (4, .long (0 : Int64)), (6, .int (0 : Int32))]) [2, 3, 4, 1, 0] rfl ?_
  exact l_X1_layerBefore_6 C FU S x1 x3 (0 : Int64) (0 : Int32) hf
set_option maxRecDepth 100000 in
set_option maxHeartbeats 4000000 in
theorem l_X1_findWaysTo_41 {p : Program} {l : Launch} {e : Env} {s : State} {m : MethodId} {args : Array Value} {below : List Frame} {meth : Method} {c : Code} {D : va_G} {cI cJ cN : ClassId} {W0 : va_W} {s0 s1 s2 s3 s4 s5 s6 : Nat} {z : SS} (C : CX p l s m args meth c cX1_findWaysTo 5 yX1_findWaysTo.cls (WS yX1_findWaysTo cX1_findWaysTo 5 none) none D cI cJ cN (va_A W0 s.heap.size)) : ∀ (fu : Nat) (S : SS) (x2 : Int64) (x4 : Int32), g_X1_findWaysTo_41 fu S x2 x4 = some z → WW p l e { frames := 2, cells := 0, slots := 0, locals := 46 } s m args below meth c D 5 (va_A W0 s.heap.size) 0 0 (QV below args s D W0 { frames := 2, cells := 0, slots := 0, locals := 46 } (fun w => w = wSur cI cJ s0 s1 s2 s3 s4 s5 s6 z)) 41 [(0, .ref s0), (2, .long x2), (4, .int x4)] [] (wSur cI cJ s0 s1 s2 s3 s4 s5 s6 S) := by
  intro fu
  induction fu with
  | zero =>
    intro S x2 x4 hf
    rw [g_X1_findWaysTo_41] at hf
    cases hf
  | succ fu ih =>
    intro S x2 x4 hf
    rw [g_X1_findWaysTo_41] at hf
    refine q_iload C dX1_findWaysTo_41 2 rfl ?_
    refine q_bipush (v := 49) C dX1_findWaysTo_43 (by decide) ?_
    refine q_icmp_ge C 68 dX1_findWaysTo_45 (by decide) (fun h => ?_) (fun h => ?_)
    · have hf := ifT hf h
      have hf := Option.some.inj hf
      subst hf
      exact q_vret C (Nat.le_of_ble_eq_true rfl) (Nat.le_of_ble_eq_true rfl) rfl dX1_findWaysTo_68
    · have hf := ifF hf h
      refine q_lload_n C dX1_findWaysTo_48 rfl 1 rfl ?_
      refine q_lconst (v := 0) C dX1_findWaysTo_49 (by decide) ?_
      refine q_lcmp C dX1_findWaysTo_50 ?_
      refine q_if_eq C 68 dX1_findWaysTo_51 (by decide) (fun h => ?_) (fun h => ?_)
      · have hf := ifT hf h
        have hf := Option.some.inj hf
        subst hf
        exact q_vret C (Nat.le_of_ble_eq_true rfl) (Nat.le_of_ble_eq_true rfl) rfl dX1_findWaysTo_68
      · have hf := ifF hf h
        refine q_aload_n C dX1_findWaysTo_54 rfl 0 rfl ?_
        refine q_lload_n C dX1_findWaysTo_55 rfl 1 rfl ?_
        refine q_iload C dX1_findWaysTo_56 2 rfl ?_
        obtain ⟨z1, h_z1, hf⟩ := bnd hf
        refine q_cVLw C (c_X1_layerBefore l D cI cJ cN s0 s1 s2 s3 s4 s5 s6 S x2 x4 z1 h_z1) (mkV (fr := 1) (lo := 20) C xc_X1_layerBefore xm_X1_48 xi_X1_layerBefore xe_X1_layerBefore xn_X1 hd_X1_layerBefore ⟨Nat.le_of_ble_eq_true rfl, Nat.le_of_ble_eq_true rfl⟩) 0 rfl rfl rfl rfl (Nat.le_of_ble_eq_true rfl) dX1_findWaysTo_58 ⟨Nat.le_of_ble_eq_true rfl, Nat.le_of_ble_eq_true rfl⟩ (fun w1 hp1 => ?_)
        subst hp1
        refine q_lstore_n (lv' := [(2, .long z1.1), (0, .ref s0), (4, .int x4)]) C dX1_findWaysTo_61 rfl (by decide) rfl ?_
        refine q_iinc (v := (x4 + (1 : Int32))) (lv' := [(4, .int (x4 + (1 : Int32))), (2, .long z1.1), (0, .ref s0)]) C dX1_findWaysTo_62 2 rfl rfl (by decide) rfl ?_
        refine q_goto C 41 dX1_findWaysTo_65 (by decide) ?_
        refine q_sub (lv' := [(0, .ref s0), (2, .long z1.1), (4, .int (x4 + (1 : Int32)))]) [2, 1, 0] rfl ?_
        exact ih z1.2 z1.1 (x4 + (1 : Int32)) hf
set_option maxRecDepth 100000 in
set_option maxHeartbeats 4000000 in
theorem l_X1_findWaysTo_2 {p : Program} {l : Launch} {e : Env} {s : State} {m : MethodId} {args : Array Value} {below : List Frame} {meth : Method} {c : Code} {D : va_G} {cI cJ cN : ClassId} {W0 : va_W} {s0 s1 s2 s3 s4 s5 s6 : Nat} {z : SS} (C : CX p l s m args meth c cX1_findWaysTo 5 yX1_findWaysTo.cls (WS yX1_findWaysTo cX1_findWaysTo 5 none) none D cI cJ cN (va_A W0 s.heap.size)) : ∀ (fu : Nat) (S : SS) (x1 : Int32) (x2 : Int32), g_X1_findWaysTo_2 fu S x1 x2 = some z → WW p l e { frames := 2, cells := 0, slots := 0, locals := 46 } s m args below meth c D 5 (va_A W0 s.heap.size) 0 0 (QV below args s D W0 { frames := 2, cells := 0, slots := 0, locals := 46 } (fun w => w = wSur cI cJ s0 s1 s2 s3 s4 s5 s6 z)) 2 [(0, .ref s0), (1, .int x1), (2, .int x2)] [] (wSur cI cJ s0 s1 s2 s3 s4 s5 s6 S) := by
  intro fu
  induction fu with
  | zero =>
    intro S x1 x2 hf
    rw [g_X1_findWaysTo_2] at hf
    cases hf
  | succ fu ih =>
    intro S x1 x2 hf
    rw [g_X1_findWaysTo_2] at hf
    refine q_iload_n C dX1_findWaysTo_2 rfl 2 rfl ?_
    refine q_aload_n C dX1_findWaysTo_3 rfl 0 rfl ?_
    refine q_get C (uW uX1_in) 0 rfl rfl 1 (by decide) (ws_in xf_X1_15) rfl rfl dX1_findWaysTo_4 ?_
    refine q_alenI C 2 rfl dX1_findWaysTo_7 ?_
    refine q_icmp_ge C 33 dX1_findWaysTo_8 (by decide) (fun h => ?_) (fun h => ?_)
    · have hf := ifT hf h
      refine q_iload_n C dX1_findWaysTo_33 rfl 1 rfl ?_
      obtain ⟨z1, h_z1, hf⟩ := bnd hf
      refine q_cNL (ws' := wSur cI cJ s0 s1 s2 s3 s4 s5 s6 S) C (c_X2_only l D cI cJ cN x1 z1 h_z1) (mkN (fr := 0) (lo := 0) C 5 rfl xc_X2_only xs_X2_only xn_X2 hd_X2_only ⟨Nat.le_of_ble_eq_true rfl, Nat.le_of_ble_eq_true rfl⟩) [] rfl (by decide) rfl rfl rfl rfl (Nat.le_of_ble_eq_true rfl) dX1_findWaysTo_34 ⟨Nat.le_of_ble_eq_true rfl, Nat.le_of_ble_eq_true rfl⟩ ?_
      refine q_lstore_n (lv' := [(2, .long z1), (0, .ref s0), (1, .int x1)]) C dX1_findWaysTo_37 rfl (by decide) rfl ?_
      refine q_iconst (v := 1) C dX1_findWaysTo_38 (by decide) ?_
      refine q_istore (lv' := [(4, .int (1 : Int32)), (2, .long z1), (0, .ref s0), (1, .int x1)]) C dX1_findWaysTo_39 (by decide) rfl ?_
      refine q_sub (lv' := [(0, .ref s0), (2, .long z1), (4, .int (1 : Int32))]) [2, 1, 0] rfl ?_
      exact l_X1_findWaysTo_41 C FU S z1 (1 : Int32) hf
    · have hf := ifF hf h
      refine q_aload_n C dX1_findWaysTo_11 rfl 0 rfl ?_
      refine q_get C (uW uX1_in) 0 rfl rfl 1 (by decide) (ws_in xf_X1_15) rfl rfl dX1_findWaysTo_12 ?_
      refine q_iload_n C dX1_findWaysTo_15 rfl 2 rfl ?_
      refine q_iload_n C dX1_findWaysTo_16 rfl 2 rfl ?_
      refine q_iload_n C dX1_findWaysTo_17 rfl 1 rfl ?_
      refine q_icmp_ne C 25 dX1_findWaysTo_18 (by decide) (fun h => ?_) (fun h => ?_)
      · have hf := ifF hf h
        refine q_iconst (v := -1) C dX1_findWaysTo_25 (by decide) ?_
        obtain ⟨hg, hf⟩ := gd_some hf
        refine q_iast (ws' := wSur cI cJ s0 s1 s2 s3 s4 s5 s6 (S.1, (upd S.2.1 x2.toNatClampNeg (-1 : Int32)), S.2.2.1, S.2.2.2.1, S.2.2.2.2.1, S.2.2.2.2.2.1, S.2.2.2.2.2.2)) C 2 rfl hg dX1_findWaysTo_26 rfl ?_
        refine q_iinc (v := (x2 + (1 : Int32))) (lv' := [(2, .int (x2 + (1 : Int32))), (0, .ref s0), (1, .int x1)]) C dX1_findWaysTo_27 2 rfl rfl (by decide) rfl ?_
        refine q_goto C 2 dX1_findWaysTo_30 (by decide) ?_
        refine q_sub (lv' := [(0, .ref s0), (1, .int x1), (2, .int (x2 + (1 : Int32)))]) [1, 2, 0] rfl ?_
        exact ih (S.1, (upd S.2.1 x2.toNatClampNeg (-1 : Int32)), S.2.2.1, S.2.2.2.1, S.2.2.2.2.1, S.2.2.2.2.2.1, S.2.2.2.2.2.2) x1 (x2 + (1 : Int32)) hf
      · have hf := ifT hf h
        refine q_iconst (v := 0) C dX1_findWaysTo_21 (by decide) ?_
        refine q_goto C 26 dX1_findWaysTo_22 (by decide) ?_
        obtain ⟨hg, hf⟩ := gd_some hf
        refine q_iast (ws' := wSur cI cJ s0 s1 s2 s3 s4 s5 s6 (S.1, (upd S.2.1 x2.toNatClampNeg (0 : Int32)), S.2.2.1, S.2.2.2.1, S.2.2.2.2.1, S.2.2.2.2.2.1, S.2.2.2.2.2.2)) C 2 rfl hg dX1_findWaysTo_26 rfl ?_
        refine q_iinc (v := (x2 + (1 : Int32))) (lv' := [(2, .int (x2 + (1 : Int32))), (0, .ref s0), (1, .int x1)]) C dX1_findWaysTo_27 2 rfl rfl (by decide) rfl ?_
        refine q_goto C 2 dX1_findWaysTo_30 (by decide) ?_
        refine q_sub (lv' := [(0, .ref s0), (1, .int x1), (2, .int (x2 + (1 : Int32)))]) [1, 2, 0] rfl ?_
        exact ih (S.1, (upd S.2.1 x2.toNatClampNeg (0 : Int32)), S.2.2.1, S.2.2.2.1, S.2.2.2.2.1, S.2.2.2.2.2.1, S.2.2.2.2.2.2) x1 (x2 + (1 : Int32)) hf
set_option maxRecDepth 100000 in
set_option maxHeartbeats 4000000 in
theorem c_X1_findWaysTo (l : Launch) (D : va_G) (cI cJ cN : ClassId) (s0 s1 s2 s3 s4 s5 s6 : Nat)  (S : SS) (x1 : Int32) (z : SS) (hf : f_X1_findWaysTo S x1 = some z) : MV l D cI cJ cN yX1_findWaysTo (WS yX1_findWaysTo cX1_findWaysTo 5 none) { frames := 2, cells := 0, slots := 0, locals := 46 } [.ref s0, .int x1] (wSur cI cJ s0 s1 s2 s3 s4 s5 s6 S) (fun w => w = wSur cI cJ s0 s1 s2 s3 s4 s5 s6 z) := by
  rw [f_X1_findWaysTo] at hf
  refine q_startV (lv := [(0, .ref s0), (1, .int x1)]) (by decide +kernel) rfl (Nat.le_of_ble_eq_true rfl) ?_
  intro p e s m below meth c C hin
  refine q_iconst (v := 0) C dX1_findWaysTo_0 (by decide) ?_
  refine q_istore_n (lv' := [(2, .int (0 : Int32)), (0, .ref s0), (1, .int x1)]) C dX1_findWaysTo_1 rfl (by decide) rfl ?_
  refine q_sub (lv' := [(0, .ref s0), (1, .int x1), (2, .int (0 : Int32))]) [1, 2, 0] rfl ?_
  exact l_X1_findWaysTo_2 C FU S x1 (0 : Int32) hf
set_option maxRecDepth 100000 in
set_option maxHeartbeats 4000000 in
theorem c_X1_wayFrom (l : Launch) (D : va_G) (cI cJ cN : ClassId) (s0 s1 s2 s3 s4 s5 s6 : Nat)  (S : SS) (x1 : Int32) (z : Int32) (hf : f_X1_wayFrom S x1 = some z) : MI l D cI cJ cN yX1_wayFrom (WS yX1_wayFrom cX1_wayFrom 2 (some .int)) { frames := 0, cells := 0, slots := 0, locals := 0 } [.ref s0, .int x1] (wSur cI cJ s0 s1 s2 s3 s4 s5 s6 S) z (fun w => w = wSur cI cJ s0 s1 s2 s3 s4 s5 s6 S) := by
  rw [f_X1_wayFrom] at hf
  refine q_startI (lv := [(0, .ref s0), (1, .int x1)]) (by decide +kernel) rfl (Nat.le_of_ble_eq_true rfl) ?_
  intro p e s m below meth c C hin
  refine q_iload_n C dX1_wayFrom_0 rfl 1 rfl ?_
  refine q_if_lt C 22 dX1_wayFrom_1 (by decide) (fun h => ?_) (fun h => ?_)
  · have hf := ifT hf h
    refine q_iconst (v := -1) C dX1_wayFrom_22 (by decide) ?_
    have hf := Option.some.inj hf
    subst hf
    exact q_iret C (Nat.le_of_ble_eq_true rfl) (Nat.le_of_ble_eq_true rfl) rfl dX1_wayFrom_23
  · have hf := ifF hf h
    refine q_iload_n C dX1_wayFrom_4 rfl 1 rfl ?_
    refine q_aload_n C dX1_wayFrom_5 rfl 0 rfl ?_
    refine q_get C (uW uX1_in) 0 rfl rfl 1 (by decide) (ws_in xf_X1_15) rfl rfl dX1_wayFrom_6 ?_
    refine q_alenI C 2 rfl dX1_wayFrom_9 ?_
    refine q_icmp_ge C 22 dX1_wayFrom_10 (by decide) (fun h => ?_) (fun h => ?_)
    · have hf := ifT hf h
      refine q_iconst (v := -1) C dX1_wayFrom_22 (by decide) ?_
      have hf := Option.some.inj hf
      subst hf
      exact q_iret C (Nat.le_of_ble_eq_true rfl) (Nat.le_of_ble_eq_true rfl) rfl dX1_wayFrom_23
    · have hf := ifF hf h
      refine q_aload_n C dX1_wayFrom_13 rfl 0 rfl ?_
      refine q_get C (uW uX1_in) 0 rfl rfl 1 (by decide) (ws_in xf_X1_15) rfl rfl dX1_wayFrom_14 ?_
      refine q_iload_n C dX1_wayFrom_17 rfl 1 rfl ?_
      obtain ⟨hg, hf⟩ := gd_some hf
      refine q_iald C 2 rfl hg dX1_wayFrom_18 ?_
      refine q_goto C 23 dX1_wayFrom_19 (by decide) ?_
      have hf := Option.some.inj hf
      subst hf
      exact q_iret C (Nat.le_of_ble_eq_true rfl) (Nat.le_of_ble_eq_true rfl) rfl dX1_wayFrom_23
set_option maxRecDepth 100000 in
set_option maxHeartbeats 4000000 in
theorem l_X1_pathsOverContacts_20 {p : Program} {l : Launch} {e : Env} {s : State} {m : MethodId} {args : Array Value} {below : List Frame} {meth : Method} {c : Code} {D : va_G} {cI cJ cN : ClassId} {W0 : va_W} {s0 s1 s2 s3 s4 s5 s6 : Nat} {z : Int64} (C : CX p l s m args meth c cX1_pathsOverContacts 6 yX1_pathsOverContacts.cls (WS yX1_pathsOverContacts cX1_pathsOverContacts 6 (some .long)) (some .long) D cI cJ cN (va_A W0 s.heap.size)) : ∀ (fu : Nat) (S : SS) (x1 : Int32) (x2 : Int32) (x3 : Int64) (x5 : Int32), g_X1_pathsOverContacts_20 fu S x1 x2 x3 x5 = some z → WW p l e { frames := 1, cells := 0, slots := 0, locals := 22 } s m args below meth c D 6 (va_A W0 s.heap.size) 0 0 (QL below args s D W0 { frames := 1, cells := 0, slots := 0, locals := 22 } z (fun w => w = wSur cI cJ s0 s1 s2 s3 s4 s5 s6 S)) 20 [(0, .ref s0), (1, .int x1), (2, .int x2), (3, .long x3), (5, .int x5)] [] (wSur cI cJ s0 s1 s2 s3 s4 s5 s6 S) := by
  intro fu
  induction fu with
  | zero =>
    intro S x1 x2 x3 x5 hf
    rw [g_X1_pathsOverContacts_20] at hf
    cases hf
  | succ fu ih =>
    intro S x1 x2 x3 x5 hf
    rw [g_X1_pathsOverContacts_20] at hf
    refine q_iload C dX1_pathsOverContacts_20 4 rfl ?_
    refine q_aload_n C dX1_pathsOverContacts_22 rfl 0 rfl ?_
    refine q_get C (uW uX1_in) 0 rfl rfl 1 (by decide) (ws_in xf_X1_15) rfl rfl dX1_pathsOverContacts_23 ?_
    refine q_alenI C 2 rfl dX1_pathsOverContacts_26 ?_
    refine q_icmp_ge C 81 dX1_pathsOverContacts_27 (by decide) (fun h => ?_) (fun h => ?_)
    · have hf := ifT hf h
      refine q_lload_n C dX1_pathsOverContacts_81 rfl 3 rfl ?_
      have hf := Option.some.inj hf
      subst hf
      exact q_lret C (Nat.le_of_ble_eq_true rfl) (Nat.le_of_ble_eq_true rfl) rfl dX1_pathsOverContacts_82
    · have hf := ifF hf h
      refine q_iload C dX1_pathsOverContacts_30 4 rfl ?_
      refine q_aload_n C dX1_pathsOverContacts_32 rfl 0 rfl ?_
      refine q_get C (uW uX1_in) 0 rfl rfl 2 (by decide) (ws_in xf_X1_19) rfl rfl dX1_pathsOverContacts_33 ?_
      refine q_alenJ C 3 rfl dX1_pathsOverContacts_36 ?_
      refine q_icmp_ge C 81 dX1_pathsOverContacts_37 (by decide) (fun h => ?_) (fun h => ?_)
      · have hf := ifT hf h
        refine q_lload_n C dX1_pathsOverContacts_81 rfl 3 rfl ?_
        have hf := Option.some.inj hf
        subst hf
        exact q_lret C (Nat.le_of_ble_eq_true rfl) (Nat.le_of_ble_eq_true rfl) rfl dX1_pathsOverContacts_82
      · have hf := ifF hf h
        refine q_aload_n C dX1_pathsOverContacts_40 rfl 0 rfl ?_
        refine q_get C (uW uX1_in) 0 rfl rfl 1 (by decide) (ws_in xf_X1_15) rfl rfl dX1_pathsOverContacts_41 ?_
        refine q_iload C dX1_pathsOverContacts_44 4 rfl ?_
        obtain ⟨hg, hf⟩ := gd_some hf
        refine q_iald C 2 rfl hg dX1_pathsOverContacts_46 ?_
        refine q_iload_n C dX1_pathsOverContacts_47 rfl 2 rfl ?_
        refine q_icmp_ne C 75 dX1_pathsOverContacts_48 (by decide) (fun h => ?_) (fun h => ?_)
        · have hf := ifF hf h
          refine q_iinc (v := (x5 + (1 : Int32))) (lv' := [(5, .int (x5 + (1 : Int32))), (0, .ref s0), (1, .int x1), (2, .int x2), (3, .long x3)]) C dX1_pathsOverContacts_75 4 rfl rfl (by decide) rfl ?_
          refine q_goto C 20 dX1_pathsOverContacts_78 (by decide) ?_
          refine q_sub (lv' := [(0, .ref s0), (1, .int x1), (2, .int x2), (3, .long x3), (5, .int (x5 + (1 : Int32)))]) [1, 2, 3, 4, 0] rfl ?_
          exact ih S x1 x2 x3 (x5 + (1 : Int32)) hf
        · have hf := ifT hf h
          refine q_aload_n C dX1_pathsOverContacts_51 rfl 0 rfl ?_
          refine q_get C (uW uX1_in) 0 rfl rfl 0 (by decide) (ws_in xf_X1_9) rfl rfl dX1_pathsOverContacts_52 ?_
          refine q_iload_n C dX1_pathsOverContacts_55 rfl 1 rfl ?_
          obtain ⟨hg, hf⟩ := gd_some hf
          refine q_lald C 1 rfl hg dX1_pathsOverContacts_56 ?_
          refine q_iload C dX1_pathsOverContacts_57 4 rfl ?_
          obtain ⟨z1, h_z1, hf⟩ := bnd hf
          refine q_cNI (ws' := wSur cI cJ s0 s1 s2 s3 s4 s5 s6 S) C (c_X2_isIn l D cI cJ cN (S.1 x1.toNatClampNeg) x5 z1 h_z1) (mkN (fr := 0) (lo := 0) C 6 rfl xc_X2_isIn xs_X2_isIn xn_X2 hd_X2_isIn ⟨Nat.le_of_ble_eq_true rfl, Nat.le_of_ble_eq_true rfl⟩) [] rfl (by decide) rfl rfl rfl rfl (Nat.le_of_ble_eq_true rfl) dX1_pathsOverContacts_59 ⟨Nat.le_of_ble_eq_true rfl, Nat.le_of_ble_eq_true rfl⟩ ?_
          refine q_if_eq C 75 dX1_pathsOverContacts_62 (by decide) (fun h => ?_) (fun h => ?_)
          · have hf := ifT hf h
            refine q_iinc (v := (x5 + (1 : Int32))) (lv' := [(5, .int (x5 + (1 : Int32))), (0, .ref s0), (1, .int x1), (2, .int x2), (3, .long x3)]) C dX1_pathsOverContacts_75 4 rfl rfl (by decide) rfl ?_
            refine q_goto C 20 dX1_pathsOverContacts_78 (by decide) ?_
            refine q_sub (lv' := [(0, .ref s0), (1, .int x1), (2, .int x2), (3, .long x3), (5, .int (x5 + (1 : Int32)))]) [1, 2, 3, 4, 0] rfl ?_
            exact ih S x1 x2 x3 (x5 + (1 : Int32)) hf
          · have hf := ifF hf h
            refine q_lload_n C dX1_pathsOverContacts_65 rfl 3 rfl ?_
            refine q_aload_n C dX1_pathsOverContacts_66 rfl 0 rfl ?_
            refine q_get C (uW uX1_in) 0 rfl rfl 2 (by decide) (ws_in xf_X1_19) rfl rfl dX1_pathsOverContacts_67 ?_
            refine q_iload C dX1_pathsOverContacts_70 4 rfl ?_
            obtain ⟨hg, hf⟩ := gd_some hf
            refine q_lald C 3 rfl hg dX1_pathsOverContacts_72 ?_
            refine q_ladd C dX1_pathsOverContacts_73 ?_
            obtain ⟨z2, e_z2, hf⟩ := bndv hf
            refine q_topl e_z2 ?_
            refine q_lstore_n (lv' := [(3, .long z2), (0, .ref s0), (1, .int x1), (2, .int x2), (5, .int x5)]) C dX1_pathsOverContacts_74 rfl (by decide) rfl ?_
            refine q_iinc (v := (x5 + (1 : Int32))) (lv' := [(5, .int (x5 + (1 : Int32))), (3, .long z2), (0, .ref s0), (1, .int x1), (2, .int x2)]) C dX1_pathsOverContacts_75 4 rfl rfl (by decide) rfl ?_
            refine q_goto C 20 dX1_pathsOverContacts_78 (by decide) ?_
            refine q_sub (lv' := [(0, .ref s0), (1, .int x1), (2, .int x2), (3, .long z2), (5, .int (x5 + (1 : Int32)))]) [2, 3, 4, 1, 0] rfl ?_
            exact ih S x1 x2 z2 (x5 + (1 : Int32)) hf
set_option maxRecDepth 100000 in
set_option maxHeartbeats 4000000 in
theorem c_X1_pathsOverContacts (l : Launch) (D : va_G) (cI cJ cN : ClassId) (s0 s1 s2 s3 s4 s5 s6 : Nat)  (S : SS) (x1 : Int32) (x2 : Int32) (z : Int64) (hf : f_X1_pathsOverContacts S x1 x2 = some z) : ML l D cI cJ cN yX1_pathsOverContacts (WS yX1_pathsOverContacts cX1_pathsOverContacts 6 (some .long)) { frames := 1, cells := 0, slots := 0, locals := 22 } [.ref s0, .int x1, .int x2] (wSur cI cJ s0 s1 s2 s3 s4 s5 s6 S) z (fun w => w = wSur cI cJ s0 s1 s2 s3 s4 s5 s6 S) := by
  rw [f_X1_pathsOverContacts] at hf
  refine q_startL (lv := [(0, .ref s0), (1, .int x1), (2, .int x2)]) (by decide +kernel) rfl (Nat.le_of_ble_eq_true rfl) ?_
  intro p e s m below meth c C hin
  refine q_iload_n C dX1_pathsOverContacts_0 rfl 1 rfl ?_
  refine q_if_lt C 13 dX1_pathsOverContacts_1 (by decide) (fun h => ?_) (fun h => ?_)
  · have hf := ifT hf h
    refine q_lconst (v := 0) C dX1_pathsOverContacts_13 (by decide) ?_
    have hf := Option.some.inj hf
    subst hf
    exact q_lret C (Nat.le_of_ble_eq_true rfl) (Nat.le_of_ble_eq_true rfl) rfl dX1_pathsOverContacts_14
  · have hf := ifF hf h
    refine q_iload_n C dX1_pathsOverContacts_4 rfl 1 rfl ?_
    refine q_aload_n C dX1_pathsOverContacts_5 rfl 0 rfl ?_
    refine q_get C (uW uX1_in) 0 rfl rfl 0 (by decide) (ws_in xf_X1_9) rfl rfl dX1_pathsOverContacts_6 ?_
    refine q_alenJ C 1 rfl dX1_pathsOverContacts_9 ?_
    refine q_icmp_lt C 15 dX1_pathsOverContacts_10 (by decide) (fun h => ?_) (fun h => ?_)
    · have hf := ifT hf h
      refine q_lconst (v := 0) C dX1_pathsOverContacts_15 (by decide) ?_
      refine q_lstore_n (lv' := [(3, .long (0 : Int64)), (0, .ref s0), (1, .int x1), (2, .int x2)]) C dX1_pathsOverContacts_16 rfl (by decide) rfl ?_
      refine q_iconst (v := 0) C dX1_pathsOverContacts_17 (by decide) ?_
      refine q_istore (lv' := [(5, .int (0 : Int32)), (3, .long (0 : Int64)), (0, .ref s0), (1, .int x1), (2, .int x2)]) C dX1_pathsOverContacts_18 (by decide) rfl ?_
      refine q_sub (lv' := [(0, .ref s0), (1, .int x1), (2, .int x2), (3, .long (0 : Int64)), (5, .int (0 : Int32))]) [2, 3, 4, 1, 0] rfl ?_
      exact l_X1_pathsOverContacts_20 C FU S x1 x2 (0 : Int64) (0 : Int32) hf
    · have hf := ifF hf h
      refine q_lconst (v := 0) C dX1_pathsOverContacts_13 (by decide) ?_
      have hf := Option.some.inj hf
      subst hf
      exact q_lret C (Nat.le_of_ble_eq_true rfl) (Nat.le_of_ble_eq_true rfl) rfl dX1_pathsOverContacts_14
set_option maxRecDepth 100000 in
set_option maxHeartbeats 4000000 in
theorem l_X1_countPaths_10 {p : Program} {l : Launch} {e : Env} {s : State} {m : MethodId} {args : Array Value} {below : List Frame} {meth : Method} {c : Code} {D : va_G} {cI cJ cN : ClassId} {W0 : va_W} {s0 s1 s2 s3 s4 s5 s6 : Nat} {z : SS} (C : CX p l s m args meth c cX1_countPaths 3 yX1_countPaths.cls (WS yX1_countPaths cX1_countPaths 3 none) none D cI cJ cN (va_A W0 s.heap.size)) {K2 : SS → Int32 → Option (SS)} (hK2 : ∀ (S : SS) (x1 : Int32), K2 S x1 = some z → WW p l e { frames := 2, cells := 0, slots := 0, locals := 47 } s m args below meth c D 3 (va_A W0 s.heap.size) 0 0 (QV below args s D W0 { frames := 2, cells := 0, slots := 0, locals := 47 } (fun w => w = wSur cI cJ s0 s1 s2 s3 s4 s5 s6 z)) 2 [(0, .ref s0), (1, .int x1)] [] (wSur cI cJ s0 s1 s2 s3 s4 s5 s6 S)) : ∀ (fu : Nat) (S : SS) (x1 : Int32) (x2 : Int32), g_X1_countPaths_10 K2 fu S x1 x2 = some z → WW p l e { frames := 2, cells := 0, slots := 0, locals := 47 } s m args below meth c D 3 (va_A W0 s.heap.size) 0 0 (QV below args s D W0 { frames := 2, cells := 0, slots := 0, locals := 47 } (fun w => w = wSur cI cJ s0 s1 s2 s3 s4 s5 s6 z)) 10 [(0, .ref s0), (1, .int x1), (2, .int x2)] [] (wSur cI cJ s0 s1 s2 s3 s4 s5 s6 S) := by
  intro fu
  induction fu with
  | zero =>
    intro S x1 x2 hf
    rw [g_X1_countPaths_10] at hf
    cases hf
  | succ fu ih =>
    intro S x1 x2 hf
    rw [g_X1_countPaths_10] at hf
    refine q_iload_n C dX1_countPaths_10 rfl 2 rfl ?_
    refine q_aload_n C dX1_countPaths_11 rfl 0 rfl ?_
    refine q_get C (uW uX1_in) 0 rfl rfl 1 (by decide) (ws_in xf_X1_15) rfl rfl dX1_countPaths_12 ?_
    refine q_alenI C 2 rfl dX1_countPaths_15 ?_
    refine q_icmp_ge C 66 dX1_countPaths_16 (by decide) (fun h => ?_) (fun h => ?_)
    · have hf := ifT hf h
      refine q_iinc (v := (x1 + (1 : Int32))) (lv' := [(1, .int (x1 + (1 : Int32))), (0, .ref s0), (2, .int x2)]) C dX1_countPaths_66 1 rfl rfl (by decide) rfl ?_
      refine q_goto C 2 dX1_countPaths_69 (by decide) ?_
      refine q_sub (lv' := [(0, .ref s0), (1, .int (x1 + (1 : Int32)))]) [1, 0] rfl ?_
      exact hK2 S (x1 + (1 : Int32)) hf
    · have hf := ifF hf h
      refine q_iload_n C dX1_countPaths_19 rfl 2 rfl ?_
      refine q_aload_n C dX1_countPaths_20 rfl 0 rfl ?_
      refine q_get C (uW uX1_in) 0 rfl rfl 2 (by decide) (ws_in xf_X1_19) rfl rfl dX1_countPaths_21 ?_
      refine q_alenJ C 3 rfl dX1_countPaths_24 ?_
      refine q_icmp_ge C 66 dX1_countPaths_25 (by decide) (fun h => ?_) (fun h => ?_)
      · have hf := ifT hf h
        refine q_iinc (v := (x1 + (1 : Int32))) (lv' := [(1, .int (x1 + (1 : Int32))), (0, .ref s0), (2, .int x2)]) C dX1_countPaths_66 1 rfl rfl (by decide) rfl ?_
        refine q_goto C 2 dX1_countPaths_69 (by decide) ?_
        refine q_sub (lv' := [(0, .ref s0), (1, .int (x1 + (1 : Int32)))]) [1, 0] rfl ?_
        exact hK2 S (x1 + (1 : Int32)) hf
      · have hf := ifF hf h
        refine q_aload_n C dX1_countPaths_28 rfl 0 rfl ?_
        refine q_get C (uW uX1_in) 0 rfl rfl 1 (by decide) (ws_in xf_X1_15) rfl rfl dX1_countPaths_29 ?_
        refine q_iload_n C dX1_countPaths_32 rfl 2 rfl ?_
        obtain ⟨hg, hf⟩ := gd_some hf
        refine q_iald C 2 rfl hg dX1_countPaths_33 ?_
        refine q_iload_n C dX1_countPaths_34 rfl 1 rfl ?_
        refine q_icmp_ne C 60 dX1_countPaths_35 (by decide) (fun h => ?_) (fun h => ?_)
        · have hf := ifF hf h
          refine q_iinc (v := (x2 + (1 : Int32))) (lv' := [(2, .int (x2 + (1 : Int32))), (0, .ref s0), (1, .int x1)]) C dX1_countPaths_60 2 rfl rfl (by decide) rfl ?_
          refine q_goto C 10 dX1_countPaths_63 (by decide) ?_
          refine q_sub (lv' := [(0, .ref s0), (1, .int x1), (2, .int (x2 + (1 : Int32)))]) [1, 2, 0] rfl ?_
          exact ih S x1 (x2 + (1 : Int32)) hf
        · have hf := ifT hf h
          refine q_aload_n C dX1_countPaths_38 rfl 0 rfl ?_
          refine q_get C (uW uX1_in) 0 rfl rfl 2 (by decide) (ws_in xf_X1_19) rfl rfl dX1_countPaths_39 ?_
          refine q_iload_n C dX1_countPaths_42 rfl 2 rfl ?_
          refine q_iload_n C dX1_countPaths_43 rfl 1 rfl ?_
          refine q_if_ne C 51 dX1_countPaths_44 (by decide) (fun h => ?_) (fun h => ?_)
          · have hf := ifF hf h
            refine q_aload_n C dX1_countPaths_51 rfl 0 rfl ?_
            refine q_iload_n C dX1_countPaths_52 rfl 2 rfl ?_
            refine q_iload_n C dX1_countPaths_53 rfl 1 rfl ?_
            refine q_iconst (v := 1) C dX1_countPaths_54 (by decide) ?_
            refine q_isub C dX1_countPaths_55 ?_
            obtain ⟨z1, h_z1, hf⟩ := bnd hf
            refine q_cVLw C (c_X1_pathsOverContacts l D cI cJ cN s0 s1 s2 s3 s4 s5 s6 S x2 (x1 - (1 : Int32)) z1 h_z1) (mkV (fr := 1) (lo := 22) C xc_X1_pathsOverContacts xm_X1_52 xi_X1_pathsOverContacts xe_X1_pathsOverContacts xn_X1 hd_X1_pathsOverContacts ⟨Nat.le_of_ble_eq_true rfl, Nat.le_of_ble_eq_true rfl⟩) 0 rfl rfl rfl rfl (Nat.le_of_ble_eq_true rfl) dX1_countPaths_56 ⟨Nat.le_of_ble_eq_true rfl, Nat.le_of_ble_eq_true rfl⟩ (fun w1 hp1 => ?_)
            subst hp1
            obtain ⟨hg, hf⟩ := gd_some hf
            refine q_last (ws' := wSur cI cJ s0 s1 s2 s3 s4 s5 s6 (S.1, S.2.1, (vp_updL S.2.2.1 x2.toNatClampNeg z1), S.2.2.2.1, S.2.2.2.2.1, S.2.2.2.2.2.1, S.2.2.2.2.2.2)) C 3 rfl hg dX1_countPaths_59 rfl ?_
            refine q_iinc (v := (x2 + (1 : Int32))) (lv' := [(2, .int (x2 + (1 : Int32))), (0, .ref s0), (1, .int x1)]) C dX1_countPaths_60 2 rfl rfl (by decide) rfl ?_
            refine q_goto C 10 dX1_countPaths_63 (by decide) ?_
            refine q_sub (lv' := [(0, .ref s0), (1, .int x1), (2, .int (x2 + (1 : Int32)))]) [1, 2, 0] rfl ?_
            exact ih (S.1, S.2.1, (vp_updL S.2.2.1 x2.toNatClampNeg z1), S.2.2.2.1, S.2.2.2.2.1, S.2.2.2.2.2.1, S.2.2.2.2.2.2) x1 (x2 + (1 : Int32)) hf
          · have hf := ifT hf h
            refine q_lconst (v := 1) C dX1_countPaths_47 (by decide) ?_
            refine q_goto C 59 dX1_countPaths_48 (by decide) ?_
            obtain ⟨hg, hf⟩ := gd_some hf
            refine q_last (ws' := wSur cI cJ s0 s1 s2 s3 s4 s5 s6 (S.1, S.2.1, (vp_updL S.2.2.1 x2.toNatClampNeg (1 : Int64)), S.2.2.2.1, S.2.2.2.2.1, S.2.2.2.2.2.1, S.2.2.2.2.2.2)) C 3 rfl hg dX1_countPaths_59 rfl ?_
            refine q_iinc (v := (x2 + (1 : Int32))) (lv' := [(2, .int (x2 + (1 : Int32))), (0, .ref s0), (1, .int x1)]) C dX1_countPaths_60 2 rfl rfl (by decide) rfl ?_
            refine q_goto C 10 dX1_countPaths_63 (by decide) ?_
            refine q_sub (lv' := [(0, .ref s0), (1, .int x1), (2, .int (x2 + (1 : Int32)))]) [1, 2, 0] rfl ?_
            exact ih (S.1, S.2.1, (vp_updL S.2.2.1 x2.toNatClampNeg (1 : Int64)), S.2.2.2.1, S.2.2.2.2.1, S.2.2.2.2.2.1, S.2.2.2.2.2.2) x1 (x2 + (1 : Int32)) hf
set_option maxRecDepth 100000 in
set_option maxHeartbeats 4000000 in
theorem l_X1_countPaths_2 {p : Program} {l : Launch} {e : Env} {s : State} {m : MethodId} {args : Array Value} {below : List Frame} {meth : Method} {c : Code} {D : va_G} {cI cJ cN : ClassId} {W0 : va_W} {s0 s1 s2 s3 s4 s5 s6 : Nat} {z : SS} (C : CX p l s m args meth c cX1_countPaths 3 yX1_countPaths.cls (WS yX1_countPaths cX1_countPaths 3 none) none D cI cJ cN (va_A W0 s.heap.size)) : ∀ (fu : Nat) (S : SS) (x1 : Int32), g_X1_countPaths_2 fu S x1 = some z → WW p l e { frames := 2, cells := 0, slots := 0, locals := 47 } s m args below meth c D 3 (va_A W0 s.heap.size) 0 0 (QV below args s D W0 { frames := 2, cells := 0, slots := 0, locals := 47 } (fun w => w = wSur cI cJ s0 s1 s2 s3 s4 s5 s6 z)) 2 [(0, .ref s0), (1, .int x1)] [] (wSur cI cJ s0 s1 s2 s3 s4 s5 s6 S) := by
  intro fu
  induction fu with
  | zero =>
    intro S x1 hf
    rw [g_X1_countPaths_2] at hf
    cases hf
  | succ fu ih =>
    intro S x1 hf
    rw [g_X1_countPaths_2] at hf
    refine q_iload_n C dX1_countPaths_2 rfl 1 rfl ?_
    refine q_bipush (v := 49) C dX1_countPaths_3 (by decide) ?_
    refine q_icmp_ge C 72 dX1_countPaths_5 (by decide) (fun h => ?_) (fun h => ?_)
    · have hf := ifT hf h
      have hf := Option.some.inj hf
      subst hf
      exact q_vret C (Nat.le_of_ble_eq_true rfl) (Nat.le_of_ble_eq_true rfl) rfl dX1_countPaths_72
    · have hf := ifF hf h
      refine q_iconst (v := 0) C dX1_countPaths_8 (by decide) ?_
      refine q_istore_n (lv' := [(2, .int (0 : Int32)), (0, .ref s0), (1, .int x1)]) C dX1_countPaths_9 rfl (by decide) rfl ?_
      refine q_sub (lv' := [(0, .ref s0), (1, .int x1), (2, .int (0 : Int32))]) [1, 2, 0] rfl ?_
      exact l_X1_countPaths_10 C ih FU S x1 (0 : Int32) hf
set_option maxRecDepth 100000 in
set_option maxHeartbeats 4000000 in
theorem c_X1_countPaths (l : Launch) (D : va_G) (cI cJ cN : ClassId) (s0 s1 s2 s3 s4 s5 s6 : Nat)  (S : SS)  (z : SS) (hf : f_X1_countPaths S = some z) : MV l D cI cJ cN yX1_countPaths (WS yX1_countPaths cX1_countPaths 3 none) { frames := 2, cells := 0, slots := 0, locals := 47 } [.ref s0] (wSur cI cJ s0 s1 s2 s3 s4 s5 s6 S) (fun w => w = wSur cI cJ s0 s1 s2 s3 s4 s5 s6 z) := by
  rw [f_X1_countPaths] at hf
  refine q_startV (lv := [(0, .ref s0)]) (by decide +kernel) rfl (Nat.le_of_ble_eq_true rfl) ?_
  intro p e s m below meth c C hin
  refine q_iconst (v := 0) C dX1_countPaths_0 (by decide) ?_
  refine q_istore_n (lv' := [(1, .int (0 : Int32)), (0, .ref s0)]) C dX1_countPaths_1 rfl (by decide) rfl ?_
  refine q_sub (lv' := [(0, .ref s0), (1, .int (0 : Int32))]) [1, 0] rfl ?_
  exact l_X1_countPaths_2 C FU S (0 : Int32) hf
set_option maxRecDepth 100000 in
set_option maxHeartbeats 4000000 in
theorem l_X1_pathsFrom_14 {p : Program} {l : Launch} {e : Env} {s : State} {m : MethodId} {args : Array Value} {below : List Frame} {meth : Method} {c : Code} {D : va_G} {cI cJ cN : ClassId} {W0 : va_W} {s0 s1 s2 s3 s4 s5 s6 : Nat} {z : Int64} (C : CX p l s m args meth c cX1_pathsFrom 3 yX1_pathsFrom.cls (WS yX1_pathsFrom cX1_pathsFrom 3 (some .long)) (some .long) D cI cJ cN (va_A W0 s.heap.size)) : ∀ (S : SS) (x1 : Int32) (y0 : Int32), g_X1_pathsFrom_14 S x1 y0 = some z → WW p l e { frames := 1, cells := 0, slots := 0, locals := 21 } s m args below meth c D 3 (va_A W0 s.heap.size) 0 0 (QL below args s D W0 { frames := 1, cells := 0, slots := 0, locals := 21 } z (fun w => w = wSur cI cJ s0 s1 s2 s3 s4 s5 s6 S)) 14 [(0, .ref s0), (1, .int x1)] [.int y0] (wSur cI cJ s0 s1 s2 s3 s4 s5 s6 S) := by
  intro S x1 y0 hf
  rw [g_X1_pathsFrom_14] at hf
  refine q_istore_n (lv' := [(2, .int y0), (0, .ref s0), (1, .int x1)]) C dX1_pathsFrom_14 rfl (by decide) rfl ?_
  refine q_iload_n C dX1_pathsFrom_15 rfl 0 rfl ?_
  refine q_if_eq C 41 dX1_pathsFrom_16 (by decide) (fun h => ?_) (fun h => ?_)
  · have hf := ifT hf h
    refine q_lconst (v := 0) C dX1_pathsFrom_41 (by decide) ?_
    have hf := Option.some.inj hf
    subst hf
    exact q_lret C (Nat.le_of_ble_eq_true rfl) (Nat.le_of_ble_eq_true rfl) rfl dX1_pathsFrom_42
  · have hf := ifF hf h
    refine q_iload_n C dX1_pathsFrom_19 rfl 2 rfl ?_
    refine q_if_lt C 41 dX1_pathsFrom_20 (by decide) (fun h => ?_) (fun h => ?_)
    · have hf := ifT hf h
      refine q_lconst (v := 0) C dX1_pathsFrom_41 (by decide) ?_
      have hf := Option.some.inj hf
      subst hf
      exact q_lret C (Nat.le_of_ble_eq_true rfl) (Nat.le_of_ble_eq_true rfl) rfl dX1_pathsFrom_42
    · have hf := ifF hf h
      refine q_iload_n C dX1_pathsFrom_23 rfl 2 rfl ?_
      refine q_aload_n C dX1_pathsFrom_24 rfl 1 rfl ?_
      refine q_get C (uW uX1_in) 0 rfl rfl 2 (by decide) (ws_in xf_X1_19) rfl rfl dX1_pathsFrom_25 ?_
      refine q_alenJ C 3 rfl dX1_pathsFrom_28 ?_
      refine q_icmp_ge C 41 dX1_pathsFrom_29 (by decide) (fun h => ?_) (fun h => ?_)
      · have hf := ifT hf h
        refine q_lconst (v := 0) C dX1_pathsFrom_41 (by decide) ?_
        have hf := Option.some.inj hf
        subst hf
        exact q_lret C (Nat.le_of_ble_eq_true rfl) (Nat.le_of_ble_eq_true rfl) rfl dX1_pathsFrom_42
      · have hf := ifF hf h
        refine q_aload_n C dX1_pathsFrom_32 rfl 1 rfl ?_
        refine q_get C (uW uX1_in) 0 rfl rfl 2 (by decide) (ws_in xf_X1_19) rfl rfl dX1_pathsFrom_33 ?_
        refine q_iload_n C dX1_pathsFrom_36 rfl 2 rfl ?_
        obtain ⟨hg, hf⟩ := gd_some hf
        refine q_lald C 3 rfl hg dX1_pathsFrom_37 ?_
        refine q_goto C 42 dX1_pathsFrom_38 (by decide) ?_
        have hf := Option.some.inj hf
        subst hf
        exact q_lret C (Nat.le_of_ble_eq_true rfl) (Nat.le_of_ble_eq_true rfl) rfl dX1_pathsFrom_42
set_option maxRecDepth 100000 in
set_option maxHeartbeats 4000000 in
theorem c_X1_pathsFrom (l : Launch) (D : va_G) (cI cJ cN : ClassId) (s0 s1 s2 s3 s4 s5 s6 : Nat)  (S : SS) (x1 : Int32) (z : Int64) (hf : f_X1_pathsFrom S x1 = some z) : ML l D cI cJ cN yX1_pathsFrom (WS yX1_pathsFrom cX1_pathsFrom 3 (some .long)) { frames := 1, cells := 0, slots := 0, locals := 21 } [.ref s0, .int x1] (wSur cI cJ s0 s1 s2 s3 s4 s5 s6 S) z (fun w => w = wSur cI cJ s0 s1 s2 s3 s4 s5 s6 S) := by
  rw [f_X1_pathsFrom] at hf
  refine q_startL (lv := [(0, .ref s0), (1, .int x1)]) (by decide +kernel) rfl (Nat.le_of_ble_eq_true rfl) ?_
  intro p e s m below meth c C hin
  refine q_aload_n C dX1_pathsFrom_0 rfl 0 rfl ?_
  refine q_iload_n C dX1_pathsFrom_1 rfl 1 rfl ?_
  obtain ⟨z1, h_z1, hf⟩ := bnd hf
  refine q_cVIw C (c_X1_wayFrom l D cI cJ cN s0 s1 s2 s3 s4 s5 s6 S x1 z1 h_z1) (mkV (fr := 0) (lo := 0) C xc_X1_wayFrom xm_X1_60 xi_X1_wayFrom xe_X1_wayFrom xn_X1 hd_X1_wayFrom ⟨Nat.le_of_ble_eq_true rfl, Nat.le_of_ble_eq_true rfl⟩) 0 rfl rfl rfl rfl (Nat.le_of_ble_eq_true rfl) dX1_pathsFrom_2 ⟨Nat.le_of_ble_eq_true rfl, Nat.le_of_ble_eq_true rfl⟩ (fun w1 hp1 => ?_)
  subst hp1
  refine q_iconst (v := -1) C dX1_pathsFrom_5 (by decide) ?_
  refine q_icmp_eq C 13 dX1_pathsFrom_6 (by decide) (fun h => ?_) (fun h => ?_)
  · have hf := ifT hf h
    refine q_iconst (v := 0) C dX1_pathsFrom_13 (by decide) ?_
    exact l_X1_pathsFrom_14 C S x1 (0 : Int32) hf
  · have hf := ifF hf h
    refine q_iconst (v := 1) C dX1_pathsFrom_9 (by decide) ?_
    refine q_goto C 14 dX1_pathsFrom_10 (by decide) ?_
    exact l_X1_pathsFrom_14 C S x1 (1 : Int32) hf
set_option maxRecDepth 100000 in
set_option maxHeartbeats 4000000 in
theorem l_X1_reachedFrom_10 {p : Program} {l : Launch} {e : Env} {s : State} {m : MethodId} {args : Array Value} {below : List Frame} {meth : Method} {c : Code} {D : va_G} {cI cJ cN : ClassId} {W0 : va_W} {s0 s1 s2 s3 s4 s5 s6 n0 n1 n2 n3 n4 n5 n6 : Nat} {z : Int32 × SS} (C : CX p l s m args meth c cX1_reachedFrom 5 yX1_reachedFrom.cls (WS yX1_reachedFrom cX1_reachedFrom 5 (some .int)) (some .int) D cI cJ cN (va_A W0 s.heap.size)) : ∀ (fu : Nat) (S : SS) (N : NS) (x2 : Int32) (x3 : Int32) (x4 : Int32), g_X1_reachedFrom_10 fu S N x2 x3 x4 = some z → WW p l e { frames := 4, cells := 0, slots := 0, locals := 92 } s m args below meth c D 5 (va_A W0 s.heap.size) 0 0 (QI below args s D W0 { frames := 4, cells := 0, slots := 0, locals := 92 } z.1 (fun w => w = wSur cI cJ s0 s1 s2 s3 s4 s5 s6 z.2 ++ wNet cI n0 n1 n2 n3 n4 n5 n6 N)) 10 [(0, .ref s0), (1, .ref n0), (2, .int x2), (3, .int x3), (4, .int x4)] [] (wSur cI cJ s0 s1 s2 s3 s4 s5 s6 S ++ wNet cI n0 n1 n2 n3 n4 n5 n6 N) := by
  intro fu
  induction fu with
  | zero =>
    intro S N x2 x3 x4 hf
    rw [g_X1_reachedFrom_10] at hf
    cases hf
  | succ fu ih =>
    intro S N x2 x3 x4 hf
    rw [g_X1_reachedFrom_10] at hf
    refine q_iload C dX1_reachedFrom_10 4 rfl ?_
    refine q_aload_n C dX1_reachedFrom_12 rfl 1 rfl ?_
    obtain ⟨z1, h_z1, hf⟩ := bnd hf
    refine q_cVI (ws' := wSur cI cJ s0 s1 s2 s3 s4 s5 s6 S ++ wNet cI n0 n1 n2 n3 n4 n5 n6 N) C (c_X0_nodes l D cI cJ cN n0 n1 n2 n3 n4 n5 n6 N z1 h_z1) (mkV (fr := 0) (lo := 0) C xc_X0_nodes xm_X1_68 xi_X0_nodes xe_X0_nodes xn_X0 hd_X0_nodes ⟨Nat.le_of_ble_eq_true rfl, Nat.le_of_ble_eq_true rfl⟩) 0 rfl rfl [7, 8, 9, 10, 11, 12, 13] rfl (by decide) rfl rfl rfl rfl (Nat.le_of_ble_eq_true rfl) dX1_reachedFrom_13 ⟨Nat.le_of_ble_eq_true rfl, Nat.le_of_ble_eq_true rfl⟩ ?_
    refine q_icmp_ge C 63 dX1_reachedFrom_16 (by decide) (fun h => ?_) (fun h => ?_)
    · have hf := ifT hf h
      refine q_iload_n C dX1_reachedFrom_63 rfl 3 rfl ?_
      have hf := Option.some.inj hf
      subst hf
      exact q_iret C (Nat.le_of_ble_eq_true rfl) (Nat.le_of_ble_eq_true rfl) rfl dX1_reachedFrom_64
    · have hf := ifF hf h
      refine q_iload C dX1_reachedFrom_19 4 rfl ?_
      refine q_iload_n C dX1_reachedFrom_21 rfl 2 rfl ?_
      refine q_icmp_eq C 57 dX1_reachedFrom_22 (by decide) (fun h => ?_) (fun h => ?_)
      · have hf := ifT hf h
        refine q_iinc (v := (x4 + (1 : Int32))) (lv' := [(4, .int (x4 + (1 : Int32))), (0, .ref s0), (1, .ref n0), (2, .int x2), (3, .int x3)]) C dX1_reachedFrom_57 4 rfl rfl (by decide) rfl ?_
        refine q_goto C 10 dX1_reachedFrom_60 (by decide) ?_
        refine q_sub (lv' := [(0, .ref s0), (1, .ref n0), (2, .int x2), (3, .int x3), (4, .int (x4 + (1 : Int32)))]) [1, 2, 3, 4, 0] rfl ?_
        exact ih S N x2 x3 (x4 + (1 : Int32)) hf
      · have hf := ifF hf h
        refine q_aload_n C dX1_reachedFrom_25 rfl 1 rfl ?_
        refine q_iload C dX1_reachedFrom_26 4 rfl ?_
        obtain ⟨z2, h_z2, hf⟩ := bnd hf
        refine q_cVI (ws' := wSur cI cJ s0 s1 s2 s3 s4 s5 s6 S ++ wNet cI n0 n1 n2 n3 n4 n5 n6 N) C (c_X0_isPresent l D cI cJ cN n0 n1 n2 n3 n4 n5 n6 N x4 z2 h_z2) (mkV (fr := 2) (lo := 41) C xc_X0_isPresent xm_X1_35 xi_X0_isPresent xe_X0_isPresent xn_X0 hd_X0_isPresent ⟨Nat.le_of_ble_eq_true rfl, Nat.le_of_ble_eq_true rfl⟩) 0 rfl rfl [7, 8, 9, 10, 11, 12, 13] rfl (by decide) rfl rfl rfl rfl (Nat.le_of_ble_eq_true rfl) dX1_reachedFrom_28 ⟨Nat.le_of_ble_eq_true rfl, Nat.le_of_ble_eq_true rfl⟩ ?_
        refine q_if_eq C 57 dX1_reachedFrom_31 (by decide) (fun h => ?_) (fun h => ?_)
        · have hf := ifT hf h
          refine q_iinc (v := (x4 + (1 : Int32))) (lv' := [(4, .int (x4 + (1 : Int32))), (0, .ref s0), (1, .ref n0), (2, .int x2), (3, .int x3)]) C dX1_reachedFrom_57 4 rfl rfl (by decide) rfl ?_
          refine q_goto C 10 dX1_reachedFrom_60 (by decide) ?_
          refine q_sub (lv' := [(0, .ref s0), (1, .ref n0), (2, .int x2), (3, .int x3), (4, .int (x4 + (1 : Int32)))]) [1, 2, 3, 4, 0] rfl ?_
          exact ih S N x2 x3 (x4 + (1 : Int32)) hf
        · have hf := ifF hf h
          refine q_aload_n C dX1_reachedFrom_34 rfl 0 rfl ?_
          refine q_iload C dX1_reachedFrom_35 4 rfl ?_
          obtain ⟨z3, h_z3, hf⟩ := bnd hf
          refine q_cVV (ws' := wSur cI cJ s0 s1 s2 s3 s4 s5 s6 z3 ++ wNet cI n0 n1 n2 n3 n4 n5 n6 N) C (c_X1_findWaysTo l D cI cJ cN s0 s1 s2 s3 s4 s5 s6 S x4 z3 h_z3) (mkV (fr := 2) (lo := 46) C xc_X1_findWaysTo xm_X1_72 xi_X1_findWaysTo xe_X1_findWaysTo xn_X1 hd_X1_findWaysTo ⟨Nat.le_of_ble_eq_true rfl, Nat.le_of_ble_eq_true rfl⟩) 0 rfl rfl [0, 1, 2, 3, 4, 5, 6] rfl (by decide) rfl rfl rfl rfl (Nat.le_of_ble_eq_true rfl) dX1_reachedFrom_37 ⟨Nat.le_of_ble_eq_true rfl, Nat.le_of_ble_eq_true rfl⟩ ?_
          refine q_iload_n C dX1_reachedFrom_40 rfl 3 rfl ?_
          refine q_aload_n C dX1_reachedFrom_41 rfl 0 rfl ?_
          refine q_iload_n C dX1_reachedFrom_42 rfl 2 rfl ?_
          obtain ⟨z4, h_z4, hf⟩ := bnd hf
          refine q_cVI (ws' := wSur cI cJ s0 s1 s2 s3 s4 s5 s6 z3 ++ wNet cI n0 n1 n2 n3 n4 n5 n6 N) C (c_X1_wayFrom l D cI cJ cN s0 s1 s2 s3 s4 s5 s6 z3 x2 z4 h_z4) (mkV (fr := 0) (lo := 0) C xc_X1_wayFrom xm_X1_60 xi_X1_wayFrom xe_X1_wayFrom xn_X1 hd_X1_wayFrom ⟨Nat.le_of_ble_eq_true rfl, Nat.le_of_ble_eq_true rfl⟩) 0 rfl rfl [0, 1, 2, 3, 4, 5, 6] rfl (by decide) rfl rfl rfl rfl (Nat.le_of_ble_eq_true rfl) dX1_reachedFrom_43 ⟨Nat.le_of_ble_eq_true rfl, Nat.le_of_ble_eq_true rfl⟩ ?_
          refine q_iconst (v := -1) C dX1_reachedFrom_46 (by decide) ?_
          refine q_icmp_ne C 54 dX1_reachedFrom_47 (by decide) (fun h => ?_) (fun h => ?_)
          · have hf := ifF hf h
            refine q_iconst (v := 1) C dX1_reachedFrom_54 (by decide) ?_
            refine q_iadd C dX1_reachedFrom_55 ?_
            refine q_istore_n (lv' := [(3, .int (x3 + (1 : Int32))), (0, .ref s0), (1, .ref n0), (2, .int x2), (4, .int x4)]) C dX1_reachedFrom_56 rfl (by decide) rfl ?_
            refine q_iinc (v := (x4 + (1 : Int32))) (lv' := [(4, .int (x4 + (1 : Int32))), (3, .int (x3 + (1 : Int32))), (0, .ref s0), (1, .ref n0), (2, .int x2)]) C dX1_reachedFrom_57 4 rfl rfl (by decide) rfl ?_
            refine q_goto C 10 dX1_reachedFrom_60 (by decide) ?_
            refine q_sub (lv' := [(0, .ref s0), (1, .ref n0), (2, .int x2), (3, .int (x3 + (1 : Int32))), (4, .int (x4 + (1 : Int32)))]) [2, 3, 4, 1, 0] rfl ?_
            exact ih z3 N x2 (x3 + (1 : Int32)) (x4 + (1 : Int32)) hf
          · have hf := ifT hf h
            refine q_iconst (v := 0) C dX1_reachedFrom_50 (by decide) ?_
            refine q_goto C 55 dX1_reachedFrom_51 (by decide) ?_
            refine q_iadd C dX1_reachedFrom_55 ?_
            refine q_istore_n (lv' := [(3, .int (x3 + (0 : Int32))), (0, .ref s0), (1, .ref n0), (2, .int x2), (4, .int x4)]) C dX1_reachedFrom_56 rfl (by decide) rfl ?_
            refine q_iinc (v := (x4 + (1 : Int32))) (lv' := [(4, .int (x4 + (1 : Int32))), (3, .int (x3 + (0 : Int32))), (0, .ref s0), (1, .ref n0), (2, .int x2)]) C dX1_reachedFrom_57 4 rfl rfl (by decide) rfl ?_
            refine q_goto C 10 dX1_reachedFrom_60 (by decide) ?_
            refine q_sub (lv' := [(0, .ref s0), (1, .ref n0), (2, .int x2), (3, .int (x3 + (0 : Int32))), (4, .int (x4 + (1 : Int32)))]) [2, 3, 4, 1, 0] rfl ?_
            exact ih z3 N x2 (x3 + (0 : Int32)) (x4 + (1 : Int32)) hf
set_option maxRecDepth 100000 in
set_option maxHeartbeats 4000000 in
theorem c_X1_reachedFrom (l : Launch) (D : va_G) (cI cJ cN : ClassId) (s0 s1 s2 s3 s4 s5 s6 n0 n1 n2 n3 n4 n5 n6 : Nat)  (S : SS) (N : NS) (x2 : Int32) (z : Int32 × SS) (hf : f_X1_reachedFrom S N x2 = some z) : MI l D cI cJ cN yX1_reachedFrom (WS yX1_reachedFrom cX1_reachedFrom 5 (some .int)) { frames := 4, cells := 0, slots := 0, locals := 92 } [.ref s0, .ref n0, .int x2] (wSur cI cJ s0 s1 s2 s3 s4 s5 s6 S ++ wNet cI n0 n1 n2 n3 n4 n5 n6 N) z.1 (fun w => w = wSur cI cJ s0 s1 s2 s3 s4 s5 s6 z.2 ++ wNet cI n0 n1 n2 n3 n4 n5 n6 N) := by
  rw [f_X1_reachedFrom] at hf
  refine q_startI (lv := [(0, .ref s0), (1, .ref n0), (2, .int x2)]) (by decide +kernel) rfl (Nat.le_of_ble_eq_true rfl) ?_
  intro p e s m below meth c C hin
  refine q_aload_n C dX1_reachedFrom_0 rfl 0 rfl ?_
  refine q_aload_n C dX1_reachedFrom_1 rfl 1 rfl ?_
  obtain ⟨z1, h_z1, hf⟩ := bnd hf
  refine q_cVVw C (c_X1_readContacts l D cI cJ cN s0 s1 s2 s3 s4 s5 s6 n0 n1 n2 n3 n4 n5 n6 S N z1 h_z1) (mkV (fr := 3) (lo := 70) C xc_X1_readContacts xm_X1_64 xi_X1_readContacts xe_X1_readContacts xn_X1 hd_X1_readContacts ⟨Nat.le_of_ble_eq_true rfl, Nat.le_of_ble_eq_true rfl⟩) 0 rfl rfl rfl rfl (Nat.le_of_ble_eq_true rfl) dX1_reachedFrom_2 ⟨Nat.le_of_ble_eq_true rfl, Nat.le_of_ble_eq_true rfl⟩ (fun w1 hp1 => ?_)
  subst hp1
  refine q_iconst (v := 0) C dX1_reachedFrom_5 (by decide) ?_
  refine q_istore_n (lv' := [(3, .int (0 : Int32)), (0, .ref s0), (1, .ref n0), (2, .int x2)]) C dX1_reachedFrom_6 rfl (by decide) rfl ?_
  refine q_iconst (v := 0) C dX1_reachedFrom_7 (by decide) ?_
  refine q_istore (lv' := [(4, .int (0 : Int32)), (3, .int (0 : Int32)), (0, .ref s0), (1, .ref n0), (2, .int x2)]) C dX1_reachedFrom_8 (by decide) rfl ?_
  refine q_sub (lv' := [(0, .ref s0), (1, .ref n0), (2, .int x2), (3, .int (0 : Int32)), (4, .int (0 : Int32))]) [2, 3, 4, 1, 0] rfl ?_
  exact l_X1_reachedFrom_10 C FU z1 N x2 (0 : Int32) (0 : Int32) hf
set_option maxRecDepth 100000 in
set_option maxHeartbeats 4000000 in
theorem l_X1_greatestWayFrom_10 {p : Program} {l : Launch} {e : Env} {s : State} {m : MethodId} {args : Array Value} {below : List Frame} {meth : Method} {c : Code} {D : va_G} {cI cJ cN : ClassId} {W0 : va_W} {s0 s1 s2 s3 s4 s5 s6 n0 n1 n2 n3 n4 n5 n6 : Nat} {z : Int32 × SS} (C : CX p l s m args meth c cX1_greatestWayFrom 5 yX1_greatestWayFrom.cls (WS yX1_greatestWayFrom cX1_greatestWayFrom 5 (some .int)) (some .int) D cI cJ cN (va_A W0 s.heap.size)) : ∀ (fu : Nat) (S : SS) (N : NS) (x2 : Int32) (x3 : Int32) (x4 : Int32), g_X1_greatestWayFrom_10 fu S N x2 x3 x4 = some z → WW p l e { frames := 4, cells := 0, slots := 0, locals := 92 } s m args below meth c D 5 (va_A W0 s.heap.size) 0 0 (QI below args s D W0 { frames := 4, cells := 0, slots := 0, locals := 92 } z.1 (fun w => w = wSur cI cJ s0 s1 s2 s3 s4 s5 s6 z.2 ++ wNet cI n0 n1 n2 n3 n4 n5 n6 N)) 10 [(0, .ref s0), (1, .ref n0), (2, .int x2), (3, .int x3), (4, .int x4)] [] (wSur cI cJ s0 s1 s2 s3 s4 s5 s6 S ++ wNet cI n0 n1 n2 n3 n4 n5 n6 N) := by
  intro fu
  induction fu with
  | zero =>
    intro S N x2 x3 x4 hf
    rw [g_X1_greatestWayFrom_10] at hf
    cases hf
  | succ fu ih =>
    intro S N x2 x3 x4 hf
    rw [g_X1_greatestWayFrom_10] at hf
    refine q_iload C dX1_greatestWayFrom_10 4 rfl ?_
    refine q_aload_n C dX1_greatestWayFrom_12 rfl 1 rfl ?_
    obtain ⟨z1, h_z1, hf⟩ := bnd hf
    refine q_cVI (ws' := wSur cI cJ s0 s1 s2 s3 s4 s5 s6 S ++ wNet cI n0 n1 n2 n3 n4 n5 n6 N) C (c_X0_nodes l D cI cJ cN n0 n1 n2 n3 n4 n5 n6 N z1 h_z1) (mkV (fr := 0) (lo := 0) C xc_X0_nodes xm_X1_68 xi_X0_nodes xe_X0_nodes xn_X0 hd_X0_nodes ⟨Nat.le_of_ble_eq_true rfl, Nat.le_of_ble_eq_true rfl⟩) 0 rfl rfl [7, 8, 9, 10, 11, 12, 13] rfl (by decide) rfl rfl rfl rfl (Nat.le_of_ble_eq_true rfl) dX1_greatestWayFrom_13 ⟨Nat.le_of_ble_eq_true rfl, Nat.le_of_ble_eq_true rfl⟩ ?_
    refine q_icmp_ge C 50 dX1_greatestWayFrom_16 (by decide) (fun h => ?_) (fun h => ?_)
    · have hf := ifT hf h
      refine q_iload_n C dX1_greatestWayFrom_50 rfl 3 rfl ?_
      have hf := Option.some.inj hf
      subst hf
      exact q_iret C (Nat.le_of_ble_eq_true rfl) (Nat.le_of_ble_eq_true rfl) rfl dX1_greatestWayFrom_51
    · have hf := ifF hf h
      refine q_aload_n C dX1_greatestWayFrom_19 rfl 1 rfl ?_
      refine q_iload C dX1_greatestWayFrom_20 4 rfl ?_
      obtain ⟨z2, h_z2, hf⟩ := bnd hf
      refine q_cVI (ws' := wSur cI cJ s0 s1 s2 s3 s4 s5 s6 S ++ wNet cI n0 n1 n2 n3 n4 n5 n6 N) C (c_X0_isPresent l D cI cJ cN n0 n1 n2 n3 n4 n5 n6 N x4 z2 h_z2) (mkV (fr := 2) (lo := 41) C xc_X0_isPresent xm_X1_35 xi_X0_isPresent xe_X0_isPresent xn_X0 hd_X0_isPresent ⟨Nat.le_of_ble_eq_true rfl, Nat.le_of_ble_eq_true rfl⟩) 0 rfl rfl [7, 8, 9, 10, 11, 12, 13] rfl (by decide) rfl rfl rfl rfl (Nat.le_of_ble_eq_true rfl) dX1_greatestWayFrom_22 ⟨Nat.le_of_ble_eq_true rfl, Nat.le_of_ble_eq_true rfl⟩ ?_
      refine q_if_eq C 44 dX1_greatestWayFrom_25 (by decide) (fun h => ?_) (fun h => ?_)
      · have hf := ifT hf h
        refine q_iinc (v := (x4 + (1 : Int32))) (lv' := [(4, .int (x4 + (1 : Int32))), (0, .ref s0), (1, .ref n0), (2, .int x2), (3, .int x3)]) C dX1_greatestWayFrom_44 4 rfl rfl (by decide) rfl ?_
        refine q_goto C 10 dX1_greatestWayFrom_47 (by decide) ?_
        refine q_sub (lv' := [(0, .ref s0), (1, .ref n0), (2, .int x2), (3, .int x3), (4, .int (x4 + (1 : Int32)))]) [1, 2, 3, 4, 0] rfl ?_
        exact ih S N x2 x3 (x4 + (1 : Int32)) hf
      · have hf := ifF hf h
        refine q_aload_n C dX1_greatestWayFrom_28 rfl 0 rfl ?_
        refine q_iload C dX1_greatestWayFrom_29 4 rfl ?_
        obtain ⟨z3, h_z3, hf⟩ := bnd hf
        refine q_cVV (ws' := wSur cI cJ s0 s1 s2 s3 s4 s5 s6 z3 ++ wNet cI n0 n1 n2 n3 n4 n5 n6 N) C (c_X1_findWaysTo l D cI cJ cN s0 s1 s2 s3 s4 s5 s6 S x4 z3 h_z3) (mkV (fr := 2) (lo := 46) C xc_X1_findWaysTo xm_X1_72 xi_X1_findWaysTo xe_X1_findWaysTo xn_X1 hd_X1_findWaysTo ⟨Nat.le_of_ble_eq_true rfl, Nat.le_of_ble_eq_true rfl⟩) 0 rfl rfl [0, 1, 2, 3, 4, 5, 6] rfl (by decide) rfl rfl rfl rfl (Nat.le_of_ble_eq_true rfl) dX1_greatestWayFrom_31 ⟨Nat.le_of_ble_eq_true rfl, Nat.le_of_ble_eq_true rfl⟩ ?_
        refine q_iload_n C dX1_greatestWayFrom_34 rfl 3 rfl ?_
        refine q_aload_n C dX1_greatestWayFrom_35 rfl 0 rfl ?_
        refine q_iload_n C dX1_greatestWayFrom_36 rfl 2 rfl ?_
        obtain ⟨z4, h_z4, hf⟩ := bnd hf
        refine q_cVI (ws' := wSur cI cJ s0 s1 s2 s3 s4 s5 s6 z3 ++ wNet cI n0 n1 n2 n3 n4 n5 n6 N) C (c_X1_wayFrom l D cI cJ cN s0 s1 s2 s3 s4 s5 s6 z3 x2 z4 h_z4) (mkV (fr := 0) (lo := 0) C xc_X1_wayFrom xm_X1_60 xi_X1_wayFrom xe_X1_wayFrom xn_X1 hd_X1_wayFrom ⟨Nat.le_of_ble_eq_true rfl, Nat.le_of_ble_eq_true rfl⟩) 0 rfl rfl [0, 1, 2, 3, 4, 5, 6] rfl (by decide) rfl rfl rfl rfl (Nat.le_of_ble_eq_true rfl) dX1_greatestWayFrom_37 ⟨Nat.le_of_ble_eq_true rfl, Nat.le_of_ble_eq_true rfl⟩ ?_
        refine q_mmax C (ws_in xm_X1_76) (ws_in xs_max) (ws_in xn_Math) (ws_in xc_max) (Nat.le_of_ble_eq_true rfl) (Nat.le_of_ble_eq_true rfl) ⟨Nat.le_of_ble_eq_true rfl, Nat.le_of_ble_eq_true rfl⟩ dX1_greatestWayFrom_40 ?_
        obtain ⟨z5, e_z5, hf⟩ := bndv hf
        refine q_topi e_z5 ?_
        refine q_istore_n (lv' := [(3, .int z5), (0, .ref s0), (1, .ref n0), (2, .int x2), (4, .int x4)]) C dX1_greatestWayFrom_43 rfl (by decide) rfl ?_
        refine q_iinc (v := (x4 + (1 : Int32))) (lv' := [(4, .int (x4 + (1 : Int32))), (3, .int z5), (0, .ref s0), (1, .ref n0), (2, .int x2)]) C dX1_greatestWayFrom_44 4 rfl rfl (by decide) rfl ?_
        refine q_goto C 10 dX1_greatestWayFrom_47 (by decide) ?_
        refine q_sub (lv' := [(0, .ref s0), (1, .ref n0), (2, .int x2), (3, .int z5), (4, .int (x4 + (1 : Int32)))]) [2, 3, 4, 1, 0] rfl ?_
        exact ih z3 N x2 z5 (x4 + (1 : Int32)) hf
set_option maxRecDepth 100000 in
set_option maxHeartbeats 4000000 in
theorem c_X1_greatestWayFrom (l : Launch) (D : va_G) (cI cJ cN : ClassId) (s0 s1 s2 s3 s4 s5 s6 n0 n1 n2 n3 n4 n5 n6 : Nat)  (S : SS) (N : NS) (x2 : Int32) (z : Int32 × SS) (hf : f_X1_greatestWayFrom S N x2 = some z) : MI l D cI cJ cN yX1_greatestWayFrom (WS yX1_greatestWayFrom cX1_greatestWayFrom 5 (some .int)) { frames := 4, cells := 0, slots := 0, locals := 92 } [.ref s0, .ref n0, .int x2] (wSur cI cJ s0 s1 s2 s3 s4 s5 s6 S ++ wNet cI n0 n1 n2 n3 n4 n5 n6 N) z.1 (fun w => w = wSur cI cJ s0 s1 s2 s3 s4 s5 s6 z.2 ++ wNet cI n0 n1 n2 n3 n4 n5 n6 N) := by
  rw [f_X1_greatestWayFrom] at hf
  refine q_startI (lv := [(0, .ref s0), (1, .ref n0), (2, .int x2)]) (by decide +kernel) rfl (Nat.le_of_ble_eq_true rfl) ?_
  intro p e s m below meth c C hin
  refine q_aload_n C dX1_greatestWayFrom_0 rfl 0 rfl ?_
  refine q_aload_n C dX1_greatestWayFrom_1 rfl 1 rfl ?_
  obtain ⟨z1, h_z1, hf⟩ := bnd hf
  refine q_cVVw C (c_X1_readContacts l D cI cJ cN s0 s1 s2 s3 s4 s5 s6 n0 n1 n2 n3 n4 n5 n6 S N z1 h_z1) (mkV (fr := 3) (lo := 70) C xc_X1_readContacts xm_X1_64 xi_X1_readContacts xe_X1_readContacts xn_X1 hd_X1_readContacts ⟨Nat.le_of_ble_eq_true rfl, Nat.le_of_ble_eq_true rfl⟩) 0 rfl rfl rfl rfl (Nat.le_of_ble_eq_true rfl) dX1_greatestWayFrom_2 ⟨Nat.le_of_ble_eq_true rfl, Nat.le_of_ble_eq_true rfl⟩ (fun w1 hp1 => ?_)
  subst hp1
  refine q_iconst (v := 0) C dX1_greatestWayFrom_5 (by decide) ?_
  refine q_istore_n (lv' := [(3, .int (0 : Int32)), (0, .ref s0), (1, .ref n0), (2, .int x2)]) C dX1_greatestWayFrom_6 rfl (by decide) rfl ?_
  refine q_iconst (v := 0) C dX1_greatestWayFrom_7 (by decide) ?_
  refine q_istore (lv' := [(4, .int (0 : Int32)), (3, .int (0 : Int32)), (0, .ref s0), (1, .ref n0), (2, .int x2)]) C dX1_greatestWayFrom_8 (by decide) rfl ?_
  refine q_sub (lv' := [(0, .ref s0), (1, .ref n0), (2, .int x2), (3, .int (0 : Int32)), (4, .int (0 : Int32))]) [2, 3, 4, 1, 0] rfl ?_
  exact l_X1_greatestWayFrom_10 C FU z1 N x2 (0 : Int32) (0 : Int32) hf
set_option maxRecDepth 100000 in
set_option maxHeartbeats 4000000 in
theorem l_X1_closest_37 {p : Program} {l : Launch} {e : Env} {s : State} {m : MethodId} {args : Array Value} {below : List Frame} {meth : Method} {c : Code} {D : va_G} {cI cJ cN : ClassId} {W0 : va_W} {s0 s1 s2 s3 s4 s5 s6 n0 n1 n2 n3 n4 n5 n6 : Nat} {z : Int32} (C : CX p l s m args meth c cX1_closest 9 yX1_closest.cls (WS yX1_closest cX1_closest 9 (some .int)) (some .int) D cI cJ cN (va_A W0 s.heap.size)) : ∀ (fu : Nat) (S : SS) (N : NS) (x3 : Int32) (x4 : Int64) (x6 : Int32) (x7 : Int32) (x8 : Int32), g_X1_closest_37 fu S N x3 x4 x6 x7 x8 = some z → WW p l e { frames := 2, cells := 0, slots := 0, locals := 43 } s m args below meth c D 9 (va_A W0 s.heap.size) 0 0 (QI below args s D W0 { frames := 2, cells := 0, slots := 0, locals := 43 } z (fun w => w = wSur cI cJ s0 s1 s2 s3 s4 s5 s6 S ++ wNet cI n0 n1 n2 n3 n4 n5 n6 N)) 37 [(1, .ref n0), (3, .int x3), (4, .long x4), (6, .int x6), (7, .int x7), (8, .int x8)] [] (wSur cI cJ s0 s1 s2 s3 s4 s5 s6 S ++ wNet cI n0 n1 n2 n3 n4 n5 n6 N) := by
  intro fu
  induction fu with
  | zero =>
    intro S N x3 x4 x6 x7 x8 hf
    rw [g_X1_closest_37] at hf
    cases hf
  | succ fu ih =>
    intro S N x3 x4 x6 x7 x8 hf
    rw [g_X1_closest_37] at hf
    refine q_iload C dX1_closest_37 5 rfl ?_
    refine q_bipush (v := 49) C dX1_closest_39 (by decide) ?_
    refine q_icmp_ge C 85 dX1_closest_41 (by decide) (fun h => ?_) (fun h => ?_)
    · have hf := ifT hf h
      refine q_iload C dX1_closest_85 3 rfl ?_
      have hf := Option.some.inj hf
      subst hf
      exact q_iret C (Nat.le_of_ble_eq_true rfl) (Nat.le_of_ble_eq_true rfl) rfl dX1_closest_87
    · have hf := ifF hf h
      refine q_lload C dX1_closest_44 2 rfl ?_
      refine q_iload C dX1_closest_46 5 rfl ?_
      obtain ⟨z1, h_z1, hf⟩ := bnd hf
      refine q_cNI (ws' := wSur cI cJ s0 s1 s2 s3 s4 s5 s6 S ++ wNet cI n0 n1 n2 n3 n4 n5 n6 N) C (c_X2_isIn l D cI cJ cN x4 x8 z1 h_z1) (mkN (fr := 0) (lo := 0) C 6 rfl xc_X2_isIn xs_X2_isIn xn_X2 hd_X2_isIn ⟨Nat.le_of_ble_eq_true rfl, Nat.le_of_ble_eq_true rfl⟩) [] rfl (by decide) rfl rfl rfl rfl (Nat.le_of_ble_eq_true rfl) dX1_closest_48 ⟨Nat.le_of_ble_eq_true rfl, Nat.le_of_ble_eq_true rfl⟩ ?_
      refine q_if_eq C 79 dX1_closest_51 (by decide) (fun h => ?_) (fun h => ?_)
      · have hf := ifT hf h
        refine q_iinc (v := (x8 + (1 : Int32))) (lv' := [(8, .int (x8 + (1 : Int32))), (1, .ref n0), (3, .int x3), (4, .long x4), (6, .int x6), (7, .int x7)]) C dX1_closest_79 5 rfl rfl (by decide) rfl ?_
        refine q_goto C 37 dX1_closest_82 (by decide) ?_
        refine q_sub (lv' := [(1, .ref n0), (3, .int x3), (4, .long x4), (6, .int x6), (7, .int x7), (8, .int (x8 + (1 : Int32)))]) [1, 2, 3, 4, 5, 0] rfl ?_
        exact ih S N x3 x4 x6 x7 (x8 + (1 : Int32)) hf
      · have hf := ifF hf h
        refine q_aload_n C dX1_closest_54 rfl 0 rfl ?_
        refine q_iload C dX1_closest_55 5 rfl ?_
        refine q_iload_n C dX1_closest_57 rfl 1 rfl ?_
        obtain ⟨z2, h_z2, hf⟩ := bnd hf
        refine q_cVI (ws' := wSur cI cJ s0 s1 s2 s3 s4 s5 s6 S ++ wNet cI n0 n1 n2 n3 n4 n5 n6 N) C (c_X0_spacing l D cI cJ cN n0 n1 n2 n3 n4 n5 n6 N x8 x3 z2 h_z2) (mkV (fr := 1) (lo := 21) C xc_X0_spacing xm_X1_94 xi_X0_spacing xe_X0_spacing xn_X0 hd_X0_spacing ⟨Nat.le_of_ble_eq_true rfl, Nat.le_of_ble_eq_true rfl⟩) 0 rfl rfl [7, 8, 9, 10, 11, 12, 13] rfl (by decide) rfl rfl rfl rfl (Nat.le_of_ble_eq_true rfl) dX1_closest_58 ⟨Nat.le_of_ble_eq_true rfl, Nat.le_of_ble_eq_true rfl⟩ ?_
        refine q_iload C dX1_closest_61 4 rfl ?_
        refine q_icmp_ge C 79 dX1_closest_63 (by decide) (fun h => ?_) (fun h => ?_)
        · have hf := ifT hf h
          refine q_iinc (v := (x8 + (1 : Int32))) (lv' := [(8, .int (x8 + (1 : Int32))), (1, .ref n0), (3, .int x3), (4, .long x4), (6, .int x6), (7, .int x7)]) C dX1_closest_79 5 rfl rfl (by decide) rfl ?_
          refine q_goto C 37 dX1_closest_82 (by decide) ?_
          refine q_sub (lv' := [(1, .ref n0), (3, .int x3), (4, .long x4), (6, .int x6), (7, .int x7), (8, .int (x8 + (1 : Int32)))]) [1, 2, 3, 4, 5, 0] rfl ?_
          exact ih S N x3 x4 x6 x7 (x8 + (1 : Int32)) hf
        · have hf := ifF hf h
          refine q_aload_n C dX1_closest_66 rfl 0 rfl ?_
          refine q_iload C dX1_closest_67 5 rfl ?_
          refine q_iload_n C dX1_closest_69 rfl 1 rfl ?_
          obtain ⟨z3, h_z3, hf⟩ := bnd hf
          refine q_cVI (ws' := wSur cI cJ s0 s1 s2 s3 s4 s5 s6 S ++ wNet cI n0 n1 n2 n3 n4 n5 n6 N) C (c_X0_spacing l D cI cJ cN n0 n1 n2 n3 n4 n5 n6 N x8 x3 z3 h_z3) (mkV (fr := 1) (lo := 21) C xc_X0_spacing xm_X1_94 xi_X0_spacing xe_X0_spacing xn_X0 hd_X0_spacing ⟨Nat.le_of_ble_eq_true rfl, Nat.le_of_ble_eq_true rfl⟩) 0 rfl rfl [7, 8, 9, 10, 11, 12, 13] rfl (by decide) rfl rfl rfl rfl (Nat.le_of_ble_eq_true rfl) dX1_closest_70 ⟨Nat.le_of_ble_eq_true rfl, Nat.le_of_ble_eq_true rfl⟩ ?_
          refine q_istore (lv' := [(7, .int z3), (1, .ref n0), (3, .int x3), (4, .long x4), (6, .int x6), (8, .int x8)]) C dX1_closest_73 (by decide) rfl ?_
          refine q_iload C dX1_closest_75 5 rfl ?_
          refine q_istore (lv' := [(6, .int x8), (7, .int z3), (1, .ref n0), (3, .int x3), (4, .long x4), (8, .int x8)]) C dX1_closest_77 (by decide) rfl ?_
          refine q_iinc (v := (x8 + (1 : Int32))) (lv' := [(8, .int (x8 + (1 : Int32))), (6, .int x8), (7, .int z3), (1, .ref n0), (3, .int x3), (4, .long x4)]) C dX1_closest_79 5 rfl rfl (by decide) rfl ?_
          refine q_goto C 37 dX1_closest_82 (by decide) ?_
          refine q_sub (lv' := [(1, .ref n0), (3, .int x3), (4, .long x4), (6, .int x8), (7, .int z3), (8, .int (x8 + (1 : Int32)))]) [3, 4, 5, 1, 2, 0] rfl ?_
          exact ih S N x3 x4 x8 z3 (x8 + (1 : Int32)) hf
set_option maxRecDepth 100000 in
set_option maxHeartbeats 4000000 in
theorem c_X1_closest (l : Launch) (D : va_G) (cI cJ cN : ClassId) (s0 s1 s2 s3 s4 s5 s6 n0 n1 n2 n3 n4 n5 n6 : Nat)  (S : SS) (N : NS) (x2 : Int32) (x3 : Int32) (z : Int32) (hf : f_X1_closest S N x2 x3 = some z) : MI l D cI cJ cN yX1_closest (WS yX1_closest cX1_closest 9 (some .int)) { frames := 2, cells := 0, slots := 0, locals := 43 } [.ref s0, .ref n0, .int x2, .int x3] (wSur cI cJ s0 s1 s2 s3 s4 s5 s6 S ++ wNet cI n0 n1 n2 n3 n4 n5 n6 N) z (fun w => w = wSur cI cJ s0 s1 s2 s3 s4 s5 s6 S ++ wNet cI n0 n1 n2 n3 n4 n5 n6 N) := by
  rw [f_X1_closest] at hf
  refine q_startI (lv := [(0, .ref s0), (1, .ref n0), (2, .int x2), (3, .int x3)]) (by decide +kernel) rfl (Nat.le_of_ble_eq_true rfl) ?_
  intro p e s m below meth c C hin
  refine q_iload_n C dX1_closest_0 rfl 2 rfl ?_
  refine q_if_lt C 13 dX1_closest_1 (by decide) (fun h => ?_) (fun h => ?_)
  · have hf := ifT hf h
    refine q_iconst (v := -1) C dX1_closest_13 (by decide) ?_
    have hf := Option.some.inj hf
    subst hf
    exact q_iret C (Nat.le_of_ble_eq_true rfl) (Nat.le_of_ble_eq_true rfl) rfl dX1_closest_14
  · have hf := ifF hf h
    refine q_iload_n C dX1_closest_4 rfl 2 rfl ?_
    refine q_aload_n C dX1_closest_5 rfl 0 rfl ?_
    refine q_get C (uW uX1_in) 0 rfl rfl 0 (by decide) (ws_in xf_X1_9) rfl rfl dX1_closest_6 ?_
    refine q_alenJ C 1 rfl dX1_closest_9 ?_
    refine q_icmp_lt C 15 dX1_closest_10 (by decide) (fun h => ?_) (fun h => ?_)
    · have hf := ifT hf h
      refine q_aload_n C dX1_closest_15 rfl 0 rfl ?_
      refine q_get C (uW uX1_in) 0 rfl rfl 0 (by decide) (ws_in xf_X1_9) rfl rfl dX1_closest_16 ?_
      refine q_iload_n C dX1_closest_19 rfl 2 rfl ?_
      obtain ⟨hg, hf⟩ := gd_some hf
      refine q_lald C 1 rfl hg dX1_closest_20 ?_
      obtain ⟨z1, e_z1, hf⟩ := bndv hf
      refine q_topl e_z1 ?_
      refine q_lstore (lv' := [(4, .long z1), (0, .ref s0), (1, .ref n0), (2, .int x2), (3, .int x3)]) C dX1_closest_21 (by decide) rfl ?_
      refine q_iconst (v := -1) C dX1_closest_23 (by decide) ?_
      refine q_istore (lv' := [(6, .int (-1 : Int32)), (4, .long z1), (0, .ref s0), (1, .ref n0), (2, .int x2), (3, .int x3)]) C dX1_closest_24 (by decide) rfl ?_
      refine q_aload_n C dX1_closest_26 rfl 3 rfl ?_
      refine q_iload_n C dX1_closest_27 rfl 4 rfl ?_
      refine q_iload_n C dX1_closest_28 rfl 5 rfl ?_
      obtain ⟨z2, h_z2, hf⟩ := bnd hf
      refine q_cVI (ws' := wSur cI cJ s0 s1 s2 s3 s4 s5 s6 S ++ wNet cI n0 n1 n2 n3 n4 n5 n6 N) C (c_X0_spacing l D cI cJ cN n0 n1 n2 n3 n4 n5 n6 N x2 x3 z2 h_z2) (mkV (fr := 1) (lo := 21) C xc_X0_spacing xm_X1_94 xi_X0_spacing xe_X0_spacing xn_X0 hd_X0_spacing ⟨Nat.le_of_ble_eq_true rfl, Nat.le_of_ble_eq_true rfl⟩) 0 rfl rfl [7, 8, 9, 10, 11, 12, 13] rfl (by decide) rfl rfl rfl rfl (Nat.le_of_ble_eq_true rfl) dX1_closest_29 ⟨Nat.le_of_ble_eq_true rfl, Nat.le_of_ble_eq_true rfl⟩ ?_
      refine q_istore (lv' := [(7, .int z2), (6, .int (-1 : Int32)), (4, .long z1), (0, .ref s0), (1, .ref n0), (2, .int x2), (3, .int x3)]) C dX1_closest_32 (by decide) rfl ?_
      refine q_iconst (v := 0) C dX1_closest_34 (by decide) ?_
      refine q_istore (lv' := [(8, .int (0 : Int32)), (7, .int z2), (6, .int (-1 : Int32)), (4, .long z1), (0, .ref s0), (1, .ref n0), (2, .int x2), (3, .int x3)]) C dX1_closest_35 (by decide) rfl ?_
      refine q_sub (lv' := [(1, .ref n0), (3, .int x3), (4, .long z1), (6, .int (-1 : Int32)), (7, .int z2), (8, .int (0 : Int32))]) [5, 7, 3, 2, 1, 0] rfl ?_
      exact l_X1_closest_37 C FU S N x3 z1 (-1 : Int32) z2 (0 : Int32) hf
    · have hf := ifF hf h
      refine q_iconst (v := -1) C dX1_closest_13 (by decide) ?_
      have hf := Option.some.inj hf
      subst hf
      exact q_iret C (Nat.le_of_ble_eq_true rfl) (Nat.le_of_ble_eq_true rfl) rfl dX1_closest_14
set_option maxRecDepth 100000 in
set_option maxHeartbeats 4000000 in
theorem l_X1_aimAt_2 {p : Program} {l : Launch} {e : Env} {s : State} {m : MethodId} {args : Array Value} {below : List Frame} {meth : Method} {c : Code} {D : va_G} {cI cJ cN : ClassId} {W0 : va_W} {s0 s1 s2 s3 s4 s5 s6 n0 n1 n2 n3 n4 n5 n6 : Nat} {z : SS} (C : CX p l s m args meth c cX1_aimAt 4 yX1_aimAt.cls (WS yX1_aimAt cX1_aimAt 4 none) none D cI cJ cN (va_A W0 s.heap.size)) : ∀ (fu : Nat) (S : SS) (N : NS) (x2 : Int32) (x3 : Int32), g_X1_aimAt_2 fu S N x2 x3 = some z → WW p l e { frames := 3, cells := 0, slots := 0, locals := 71 } s m args below meth c D 4 (va_A W0 s.heap.size) 0 0 (QV below args s D W0 { frames := 3, cells := 0, slots := 0, locals := 71 } (fun w => w = wSur cI cJ s0 s1 s2 s3 s4 s5 s6 z ++ wNet cI n0 n1 n2 n3 n4 n5 n6 N)) 2 [(0, .ref s0), (1, .ref n0), (2, .int x2), (3, .int x3)] [] (wSur cI cJ s0 s1 s2 s3 s4 s5 s6 S ++ wNet cI n0 n1 n2 n3 n4 n5 n6 N) := by
  intro fu
  induction fu with
  | zero =>
    intro S N x2 x3 hf
    rw [g_X1_aimAt_2] at hf
    cases hf
  | succ fu ih =>
    intro S N x2 x3 hf
    rw [g_X1_aimAt_2] at hf
    refine q_iload_n C dX1_aimAt_2 rfl 3 rfl ?_
    refine q_aload_n C dX1_aimAt_3 rfl 0 rfl ?_
    refine q_get C (uW uX1_in) 0 rfl rfl 3 (by decide) (ws_in xf_X1_22) rfl rfl dX1_aimAt_4 ?_
    refine q_alenI C 4 rfl dX1_aimAt_7 ?_
    refine q_icmp_ge C 30 dX1_aimAt_8 (by decide) (fun h => ?_) (fun h => ?_)
    · have hf := ifT hf h
      have hf := Option.some.inj hf
      subst hf
      exact q_vret C (Nat.le_of_ble_eq_true rfl) (Nat.le_of_ble_eq_true rfl) rfl dX1_aimAt_30
    · have hf := ifF hf h
      refine q_aload_n C dX1_aimAt_11 rfl 0 rfl ?_
      refine q_get C (uW uX1_in) 0 rfl rfl 3 (by decide) (ws_in xf_X1_22) rfl rfl dX1_aimAt_12 ?_
      refine q_iload_n C dX1_aimAt_15 rfl 3 rfl ?_
      refine q_aload_n C dX1_aimAt_16 rfl 0 rfl ?_
      refine q_aload_n C dX1_aimAt_17 rfl 1 rfl ?_
      refine q_iload_n C dX1_aimAt_18 rfl 3 rfl ?_
      refine q_iload_n C dX1_aimAt_19 rfl 2 rfl ?_
      obtain ⟨z1, h_z1, hf⟩ := bnd hf
      refine q_cVIw C (c_X1_closest l D cI cJ cN s0 s1 s2 s3 s4 s5 s6 n0 n1 n2 n3 n4 n5 n6 S N x3 x2 z1 h_z1) (mkV (fr := 2) (lo := 43) C xc_X1_closest xm_X1_90 xi_X1_closest xe_X1_closest xn_X1 hd_X1_closest ⟨Nat.le_of_ble_eq_true rfl, Nat.le_of_ble_eq_true rfl⟩) 0 rfl rfl rfl rfl (Nat.le_of_ble_eq_true rfl) dX1_aimAt_20 ⟨Nat.le_of_ble_eq_true rfl, Nat.le_of_ble_eq_true rfl⟩ (fun w1 hp1 => ?_)
      subst hp1
      obtain ⟨hg, hf⟩ := gd_some hf
      refine q_iast (ws' := wSur cI cJ s0 s1 s2 s3 s4 s5 s6 (S.1, S.2.1, S.2.2.1, (upd S.2.2.2.1 x3.toNatClampNeg z1), S.2.2.2.2.1, S.2.2.2.2.2.1, S.2.2.2.2.2.2) ++ wNet cI n0 n1 n2 n3 n4 n5 n6 N) C 4 rfl hg dX1_aimAt_23 rfl ?_
      refine q_iinc (v := (x3 + (1 : Int32))) (lv' := [(3, .int (x3 + (1 : Int32))), (0, .ref s0), (1, .ref n0), (2, .int x2)]) C dX1_aimAt_24 3 rfl rfl (by decide) rfl ?_
      refine q_goto C 2 dX1_aimAt_27 (by decide) ?_
      refine q_sub (lv' := [(0, .ref s0), (1, .ref n0), (2, .int x2), (3, .int (x3 + (1 : Int32)))]) [1, 2, 3, 0] rfl ?_
      exact ih (S.1, S.2.1, S.2.2.1, (upd S.2.2.2.1 x3.toNatClampNeg z1), S.2.2.2.2.1, S.2.2.2.2.2.1, S.2.2.2.2.2.2) N x2 (x3 + (1 : Int32)) hf
set_option maxRecDepth 100000 in
set_option maxHeartbeats 4000000 in
theorem c_X1_aimAt (l : Launch) (D : va_G) (cI cJ cN : ClassId) (s0 s1 s2 s3 s4 s5 s6 n0 n1 n2 n3 n4 n5 n6 : Nat)  (S : SS) (N : NS) (x2 : Int32) (z : SS) (hf : f_X1_aimAt S N x2 = some z) : MV l D cI cJ cN yX1_aimAt (WS yX1_aimAt cX1_aimAt 4 none) { frames := 3, cells := 0, slots := 0, locals := 71 } [.ref s0, .ref n0, .int x2] (wSur cI cJ s0 s1 s2 s3 s4 s5 s6 S ++ wNet cI n0 n1 n2 n3 n4 n5 n6 N) (fun w => w = wSur cI cJ s0 s1 s2 s3 s4 s5 s6 z ++ wNet cI n0 n1 n2 n3 n4 n5 n6 N) := by
  rw [f_X1_aimAt] at hf
  refine q_startV (lv := [(0, .ref s0), (1, .ref n0), (2, .int x2)]) (by decide +kernel) rfl (Nat.le_of_ble_eq_true rfl) ?_
  intro p e s m below meth c C hin
  refine q_iconst (v := 0) C dX1_aimAt_0 (by decide) ?_
  refine q_istore_n (lv' := [(3, .int (0 : Int32)), (0, .ref s0), (1, .ref n0), (2, .int x2)]) C dX1_aimAt_1 rfl (by decide) rfl ?_
  refine q_sub (lv' := [(0, .ref s0), (1, .ref n0), (2, .int x2), (3, .int (0 : Int32))]) [1, 2, 3, 0] rfl ?_
  exact l_X1_aimAt_2 C FU S N x2 (0 : Int32) hf
set_option maxRecDepth 100000 in
set_option maxHeartbeats 4000000 in
theorem l_X1_follow_7 {p : Program} {l : Launch} {e : Env} {s : State} {m : MethodId} {args : Array Value} {below : List Frame} {meth : Method} {c : Code} {D : va_G} {cI cJ cN : ClassId} {W0 : va_W} {s0 s1 s2 s3 s4 s5 s6 : Nat} {z : Int32 × SS} (C : CX p l s m args meth c cX1_follow 4 yX1_follow.cls (WS yX1_follow cX1_follow 4 (some .boolean)) (some .boolean) D cI cJ cN (va_A W0 s.heap.size)) : ∀ (fu : Nat) (S : SS) (x2 : Int32) (x3 : Int32), g_X1_follow_7 fu S x2 x3 = some z → WW p l e { frames := 0, cells := 0, slots := 0, locals := 0 } s m args below meth c D 4 (va_A W0 s.heap.size) 0 0 (QI below args s D W0 { frames := 0, cells := 0, slots := 0, locals := 0 } z.1 (fun w => w = wSur cI cJ s0 s1 s2 s3 s4 s5 s6 z.2)) 7 [(0, .ref s0), (2, .int x2), (3, .int x3)] [] (wSur cI cJ s0 s1 s2 s3 s4 s5 s6 S) := by
  intro fu
  induction fu with
  | zero =>
    intro S x2 x3 hf
    rw [g_X1_follow_7] at hf
    cases hf
  | succ fu ih =>
    intro S x2 x3 hf
    rw [g_X1_follow_7] at hf
    refine q_aload_n C dX1_follow_7 rfl 0 rfl ?_
    refine q_get C (uW uX1_in) 0 rfl rfl 6 (by decide) (ws_in xf_X1_31) rfl rfl dX1_follow_8 ?_
    refine q_aload_n C dX1_follow_11 rfl 0 rfl ?_
    refine q_get C (uW uX1_in) 0 rfl rfl 4 (by decide) (ws_in xf_X1_25) rfl rfl dX1_follow_12 ?_
    refine q_alenI C 5 rfl dX1_follow_15 ?_
    refine q_icmp_ge C 69 dX1_follow_16 (by decide) (fun h => ?_) (fun h => ?_)
    · have hf := ifT hf h
      refine q_iconst (v := 0) C dX1_follow_69 (by decide) ?_
      have hf := Option.some.inj hf
      subst hf
      exact q_zret (v := 0) C rfl (Nat.le_of_ble_eq_true rfl) (Nat.le_of_ble_eq_true rfl) rfl dX1_follow_70
    · have hf := ifF hf h
      refine q_iload_n C dX1_follow_19 rfl 2 rfl ?_
      refine q_if_lt C 69 dX1_follow_20 (by decide) (fun h => ?_) (fun h => ?_)
      · have hf := ifT hf h
        refine q_iconst (v := 0) C dX1_follow_69 (by decide) ?_
        have hf := Option.some.inj hf
        subst hf
        exact q_zret (v := 0) C rfl (Nat.le_of_ble_eq_true rfl) (Nat.le_of_ble_eq_true rfl) rfl dX1_follow_70
      · have hf := ifF hf h
        refine q_iload_n C dX1_follow_23 rfl 2 rfl ?_
        refine q_aload_n C dX1_follow_24 rfl 0 rfl ?_
        refine q_get C (uW uX1_in) 0 rfl rfl 3 (by decide) (ws_in xf_X1_22) rfl rfl dX1_follow_25 ?_
        refine q_alenI C 4 rfl dX1_follow_28 ?_
        refine q_icmp_ge C 69 dX1_follow_29 (by decide) (fun h => ?_) (fun h => ?_)
        · have hf := ifT hf h
          refine q_iconst (v := 0) C dX1_follow_69 (by decide) ?_
          have hf := Option.some.inj hf
          subst hf
          exact q_zret (v := 0) C rfl (Nat.le_of_ble_eq_true rfl) (Nat.le_of_ble_eq_true rfl) rfl dX1_follow_70
        · have hf := ifF hf h
          refine q_aload_n C dX1_follow_32 rfl 0 rfl ?_
          refine q_get C (uW uX1_in) 0 rfl rfl 4 (by decide) (ws_in xf_X1_25) rfl rfl dX1_follow_33 ?_
          refine q_aload_n C dX1_follow_36 rfl 0 rfl ?_
          refine q_get C (uW uX1_in) 0 rfl rfl 6 (by decide) (ws_in xf_X1_31) rfl rfl dX1_follow_37 ?_
          refine q_iload_n C dX1_follow_40 rfl 2 rfl ?_
          obtain ⟨hg, hf⟩ := gd_some hf
          refine q_iast (ws' := wSur cI cJ s0 s1 s2 s3 s4 s5 s6 (S.1, S.2.1, S.2.2.1, S.2.2.2.1, (upd S.2.2.2.2.1 S.2.2.2.2.2.2.toNatClampNeg x3), S.2.2.2.2.2.1, S.2.2.2.2.2.2)) C 5 rfl hg dX1_follow_41 rfl ?_
          refine q_aload_n C dX1_follow_42 rfl 0 rfl ?_
          refine q_dup C dX1_follow_43 rfl ?_
          refine q_get C (uW uX1_in) 0 rfl rfl 6 (by decide) (ws_in xf_X1_31) rfl rfl dX1_follow_44 ?_
          refine q_iconst (v := 1) C dX1_follow_47 (by decide) ?_
          refine q_iadd C dX1_follow_48 ?_
          refine q_put (ws' := wSur cI cJ s0 s1 s2 s3 s4 s5 s6 (S.1, S.2.1, S.2.2.1, S.2.2.2.1, (upd S.2.2.2.2.1 S.2.2.2.2.2.2.toNatClampNeg x3), S.2.2.2.2.2.1, (S.2.2.2.2.2.2 + (1 : Int32)))) (ty := .int) C (uW uX1_in) tyX1 tyX1_ok nmX1 0 rfl rfl 6 (by decide) (ws_in xf_X1_31) rfl rfl (by decide +kernel) rfl rfl (Nat.le_of_ble_eq_true rfl) dX1_follow_49 rfl ?_
          refine q_iload_n C dX1_follow_52 rfl 2 rfl ?_
          refine q_iload_n C dX1_follow_53 rfl 1 rfl ?_
          refine q_icmp_ne C 59 dX1_follow_54 (by decide) (fun h => ?_) (fun h => ?_)
          · have hf := ifF hf h
            refine q_aload_n C dX1_follow_59 rfl 0 rfl ?_
            refine q_get C (uW uX1_in) 0 rfl rfl 3 (by decide) (ws_in xf_X1_22) rfl rfl dX1_follow_60 ?_
            refine q_iload_n C dX1_follow_63 rfl 2 rfl ?_
            obtain ⟨hg, hf⟩ := gd_some hf
            refine q_iald C 4 rfl hg dX1_follow_64 ?_
            obtain ⟨z1, e_z1, hf⟩ := bndv hf
            refine q_topi e_z1 ?_
            refine q_istore_n (lv' := [(3, .int z1), (0, .ref s0), (2, .int x2)]) C dX1_follow_65 rfl (by decide) rfl ?_
            refine q_goto C 7 dX1_follow_66 (by decide) ?_
            refine q_sub (lv' := [(0, .ref s0), (2, .int x2), (3, .int z1)]) [1, 2, 0] rfl ?_
            exact ih (S.1, S.2.1, S.2.2.1, S.2.2.2.1, (upd S.2.2.2.2.1 S.2.2.2.2.2.2.toNatClampNeg x3), S.2.2.2.2.2.1, (S.2.2.2.2.2.2 + (1 : Int32))) x2 z1 hf
          · have hf := ifT hf h
            refine q_iconst (v := 1) C dX1_follow_57 (by decide) ?_
            have hf := Option.some.inj hf
            subst hf
            exact q_zret (v := 1) C rfl (Nat.le_of_ble_eq_true rfl) (Nat.le_of_ble_eq_true rfl) rfl dX1_follow_58
set_option maxRecDepth 100000 in
set_option maxHeartbeats 4000000 in
theorem c_X1_follow (l : Launch) (D : va_G) (cI cJ cN : ClassId) (s0 s1 s2 s3 s4 s5 s6 : Nat)  (S : SS) (x1 : Int32) (x2 : Int32) (z : Int32 × SS) (hf : f_X1_follow S x1 x2 = some z) : MI l D cI cJ cN yX1_follow (WS yX1_follow cX1_follow 4 (some .boolean)) { frames := 0, cells := 0, slots := 0, locals := 0 } [.ref s0, .int x1, .int x2] (wSur cI cJ s0 s1 s2 s3 s4 s5 s6 S) z.1 (fun w => w = wSur cI cJ s0 s1 s2 s3 s4 s5 s6 z.2) := by
  rw [f_X1_follow] at hf
  refine q_startI (lv := [(0, .ref s0), (1, .int x1), (2, .int x2)]) (by decide +kernel) rfl (Nat.le_of_ble_eq_true rfl) ?_
  intro p e s m below meth c C hin
  refine q_iload_n C dX1_follow_0 rfl 1 rfl ?_
  refine q_istore_n (lv' := [(3, .int x1), (0, .ref s0), (1, .int x1), (2, .int x2)]) C dX1_follow_1 rfl (by decide) rfl ?_
  refine q_aload_n C dX1_follow_2 rfl 1 rfl ?_
  refine q_iconst (v := 0) C dX1_follow_3 (by decide) ?_
  refine q_put (ws' := wSur cI cJ s0 s1 s2 s3 s4 s5 s6 (S.1, S.2.1, S.2.2.1, S.2.2.2.1, S.2.2.2.2.1, S.2.2.2.2.2.1, (0 : Int32))) (ty := .int) C (uW uX1_in) tyX1 tyX1_ok nmX1 0 rfl rfl 6 (by decide) (ws_in xf_X1_31) rfl rfl (by decide +kernel) rfl rfl (Nat.le_of_ble_eq_true rfl) dX1_follow_4 rfl ?_
  refine q_sub (lv' := [(0, .ref s0), (2, .int x2), (3, .int x1)]) [1, 3, 0] rfl ?_
  exact l_X1_follow_7 C FU (S.1, S.2.1, S.2.2.1, S.2.2.2.1, S.2.2.2.2.1, S.2.2.2.2.2.1, (0 : Int32)) x2 x1 hf
set_option maxRecDepth 100000 in
set_option maxHeartbeats 4000000 in
theorem c_X1_lookUp (l : Launch) (D : va_G) (cI cJ cN : ClassId) (s0 s1 s2 s3 s4 s5 s6 n0 n1 n2 n3 n4 n5 n6 : Nat)  (S : SS) (N : NS) (x2 : Int32) (x3 : Int32) (z : Int32 × SS) (hf : f_X1_lookUp S N x2 x3 = some z) : MI l D cI cJ cN yX1_lookUp (WS yX1_lookUp cX1_lookUp 4 (some .boolean)) { frames := 4, cells := 0, slots := 0, locals := 94 } [.ref s0, .ref n0, .int x2, .int x3] (wSur cI cJ s0 s1 s2 s3 s4 s5 s6 S ++ wNet cI n0 n1 n2 n3 n4 n5 n6 N) z.1 (fun w => w = wSur cI cJ s0 s1 s2 s3 s4 s5 s6 z.2 ++ wNet cI n0 n1 n2 n3 n4 n5 n6 N) := by
  rw [f_X1_lookUp] at hf
  refine q_startI (lv := [(0, .ref s0), (1, .ref n0), (2, .int x2), (3, .int x3)]) (by decide +kernel) rfl (Nat.le_of_ble_eq_true rfl) ?_
  intro p e s m below meth c C hin
  refine q_aload_n C dX1_lookUp_0 rfl 0 rfl ?_
  refine q_aload_n C dX1_lookUp_1 rfl 1 rfl ?_
  obtain ⟨z1, h_z1, hf⟩ := bnd hf
  refine q_cVVw C (c_X1_readContacts l D cI cJ cN s0 s1 s2 s3 s4 s5 s6 n0 n1 n2 n3 n4 n5 n6 S N z1 h_z1) (mkV (fr := 3) (lo := 70) C xc_X1_readContacts xm_X1_64 xi_X1_readContacts xe_X1_readContacts xn_X1 hd_X1_readContacts ⟨Nat.le_of_ble_eq_true rfl, Nat.le_of_ble_eq_true rfl⟩) 0 rfl rfl rfl rfl (Nat.le_of_ble_eq_true rfl) dX1_lookUp_2 ⟨Nat.le_of_ble_eq_true rfl, Nat.le_of_ble_eq_true rfl⟩ (fun w1 hp1 => ?_)
  subst hp1
  refine q_aload_n C dX1_lookUp_5 rfl 0 rfl ?_
  refine q_aload_n C dX1_lookUp_6 rfl 1 rfl ?_
  refine q_iload_n C dX1_lookUp_7 rfl 3 rfl ?_
  obtain ⟨z2, h_z2, hf⟩ := bnd hf
  refine q_cVVw C (c_X1_aimAt l D cI cJ cN s0 s1 s2 s3 s4 s5 s6 n0 n1 n2 n3 n4 n5 n6 z1 N x3 z2 h_z2) (mkV (fr := 3) (lo := 71) C xc_X1_aimAt xm_X1_82 xi_X1_aimAt xe_X1_aimAt xn_X1 hd_X1_aimAt ⟨Nat.le_of_ble_eq_true rfl, Nat.le_of_ble_eq_true rfl⟩) 0 rfl rfl rfl rfl (Nat.le_of_ble_eq_true rfl) dX1_lookUp_8 ⟨Nat.le_of_ble_eq_true rfl, Nat.le_of_ble_eq_true rfl⟩ (fun w1 hp1 => ?_)
  subst hp1
  refine q_aload_n C dX1_lookUp_11 rfl 0 rfl ?_
  refine q_iload_n C dX1_lookUp_12 rfl 2 rfl ?_
  refine q_iload_n C dX1_lookUp_13 rfl 3 rfl ?_
  obtain ⟨z3, h_z3, hf⟩ := bnd hf
  refine q_cVI (ws' := wSur cI cJ s0 s1 s2 s3 s4 s5 s6 z3.2 ++ wNet cI n0 n1 n2 n3 n4 n5 n6 N) C (c_X1_follow l D cI cJ cN s0 s1 s2 s3 s4 s5 s6 z2 x2 x3 z3 h_z3) (mkV (fr := 0) (lo := 0) C xc_X1_follow xm_X1_86 xi_X1_follow xe_X1_follow xn_X1 hd_X1_follow ⟨Nat.le_of_ble_eq_true rfl, Nat.le_of_ble_eq_true rfl⟩) 0 rfl rfl [0, 1, 2, 3, 4, 5, 6] rfl (by decide) rfl rfl rfl rfl (Nat.le_of_ble_eq_true rfl) dX1_lookUp_14 ⟨Nat.le_of_ble_eq_true rfl, Nat.le_of_ble_eq_true rfl⟩ ?_
  obtain ⟨hg, hf⟩ := gd_some hf
  have hf := Option.some.inj hf
  subst hf
  exact q_zret C (bB_nar hg) (Nat.le_of_ble_eq_true rfl) (Nat.le_of_ble_eq_true rfl) rfl dX1_lookUp_17
set_option maxRecDepth 100000 in
set_option maxHeartbeats 4000000 in
theorem c_X1_steps (l : Launch) (D : va_G) (cI cJ cN : ClassId) (s0 s1 s2 s3 s4 s5 s6 : Nat)  (S : SS)  (z : Int32) (hf : f_X1_steps S = some z) : MI l D cI cJ cN yX1_steps (WS yX1_steps cX1_steps 1 (some .int)) { frames := 0, cells := 0, slots := 0, locals := 0 } [.ref s0] (wSur cI cJ s0 s1 s2 s3 s4 s5 s6 S) z (fun w => w = wSur cI cJ s0 s1 s2 s3 s4 s5 s6 S) := by
  rw [f_X1_steps] at hf
  refine q_startI (lv := [(0, .ref s0)]) (by decide +kernel) rfl (Nat.le_of_ble_eq_true rfl) ?_
  intro p e s m below meth c C hin
  refine q_aload_n C dX1_steps_0 rfl 0 rfl ?_
  refine q_get C (uW uX1_in) 0 rfl rfl 6 (by decide) (ws_in xf_X1_31) rfl rfl dX1_steps_1 ?_
  refine q_iconst (v := 1) C dX1_steps_4 (by decide) ?_
  refine q_isub C dX1_steps_5 ?_
  have hf := Option.some.inj hf
  subst hf
  exact q_iret C (Nat.le_of_ble_eq_true rfl) (Nat.le_of_ble_eq_true rfl) rfl dX1_steps_6
set_option maxRecDepth 100000 in
set_option maxHeartbeats 4000000 in
theorem c_X1_trailAt (l : Launch) (D : va_G) (cI cJ cN : ClassId) (s0 s1 s2 s3 s4 s5 s6 : Nat)  (S : SS) (x1 : Int32) (z : Int32) (hf : f_X1_trailAt S x1 = some z) : MI l D cI cJ cN yX1_trailAt (WS yX1_trailAt cX1_trailAt 2 (some .int)) { frames := 1, cells := 0, slots := 0, locals := 21 } [.ref s0, .int x1] (wSur cI cJ s0 s1 s2 s3 s4 s5 s6 S) z (fun w => w = wSur cI cJ s0 s1 s2 s3 s4 s5 s6 S) := by
  rw [f_X1_trailAt] at hf
  refine q_startI (lv := [(0, .ref s0), (1, .int x1)]) (by decide +kernel) rfl (Nat.le_of_ble_eq_true rfl) ?_
  intro p e s m below meth c C hin
  refine q_aload_n C dX1_trailAt_0 rfl 0 rfl ?_
  refine q_get C (uW uX1_in) 0 rfl rfl 4 (by decide) (ws_in xf_X1_25) rfl rfl dX1_trailAt_1 ?_
  refine q_iload_n C dX1_trailAt_4 rfl 1 rfl ?_
  obtain ⟨z1, h_z1, hf⟩ := bnd hf
  refine q_cNI (ws' := wSur cI cJ s0 s1 s2 s3 s4 s5 s6 S) C (c_X2_valueAt l D cI cJ cN s5 49 S.2.2.2.2.1 x1 z1 h_z1) (mkN (fr := 0) (lo := 0) C 7 rfl xc_X2_valueAt xs_X2_valueAt xn_X2 hd_X2_valueAt ⟨Nat.le_of_ble_eq_true rfl, Nat.le_of_ble_eq_true rfl⟩) [5] rfl (by decide) rfl rfl rfl rfl (Nat.le_of_ble_eq_true rfl) dX1_trailAt_5 ⟨Nat.le_of_ble_eq_true rfl, Nat.le_of_ble_eq_true rfl⟩ ?_
  have hf := Option.some.inj hf
  subst hf
  exact q_iret C (Nat.le_of_ble_eq_true rfl) (Nat.le_of_ble_eq_true rfl) rfl dX1_trailAt_8
set_option maxRecDepth 100000 in
set_option maxHeartbeats 4000000 in
theorem c_X1_measured (l : Launch) (D : va_G) (cI cJ cN : ClassId) (s0 s1 s2 s3 s4 s5 s6 : Nat)  (S : SS) (x1 : Int32) (z : Int32) (hf : f_X1_measured S x1 = some z) : MI l D cI cJ cN yX1_measured (WS yX1_measured cX1_measured 2 (some .int)) { frames := 1, cells := 0, slots := 0, locals := 21 } [.ref s0, .int x1] (wSur cI cJ s0 s1 s2 s3 s4 s5 s6 S) z (fun w => w = wSur cI cJ s0 s1 s2 s3 s4 s5 s6 S) := by
  rw [f_X1_measured] at hf
  refine q_startI (lv := [(0, .ref s0), (1, .int x1)]) (by decide +kernel) rfl (Nat.le_of_ble_eq_true rfl) ?_
  intro p e s m below meth c C hin
  refine q_aload_n C dX1_measured_0 rfl 0 rfl ?_
  refine q_get C (uW uX1_in) 0 rfl rfl 5 (by decide) (ws_in xf_X1_28) rfl rfl dX1_measured_1 ?_
  refine q_iload_n C dX1_measured_4 rfl 1 rfl ?_
  obtain ⟨z1, h_z1, hf⟩ := bnd hf
  refine q_cNI (ws' := wSur cI cJ s0 s1 s2 s3 s4 s5 s6 S) C (c_X2_valueAt l D cI cJ cN s6 8 S.2.2.2.2.2.1 x1 z1 h_z1) (mkN (fr := 0) (lo := 0) C 7 rfl xc_X2_valueAt xs_X2_valueAt xn_X2 hd_X2_valueAt ⟨Nat.le_of_ble_eq_true rfl, Nat.le_of_ble_eq_true rfl⟩) [6] rfl (by decide) rfl rfl rfl rfl (Nat.le_of_ble_eq_true rfl) dX1_measured_5 ⟨Nat.le_of_ble_eq_true rfl, Nat.le_of_ble_eq_true rfl⟩ ?_
  have hf := Option.some.inj hf
  subst hf
  exact q_iret C (Nat.le_of_ble_eq_true rfl) (Nat.le_of_ble_eq_true rfl) rfl dX1_measured_8
set_option maxRecDepth 100000 in
set_option maxHeartbeats 4000000 in
theorem c_X1_add (l : Launch) (D : va_G) (cI cJ cN : ClassId) (s0 s1 s2 s3 s4 s5 s6 : Nat)  (S : SS) (x1 : Int32) (x2 : Int32) (z : SS) (hf : f_X1_add S x1 x2 = some z) : MV l D cI cJ cN yX1_add (WS yX1_add cX1_add 3 none) { frames := 2, cells := 0, slots := 0, locals := 42 } [.ref s0, .int x1, .int x2] (wSur cI cJ s0 s1 s2 s3 s4 s5 s6 S) (fun w => w = wSur cI cJ s0 s1 s2 s3 s4 s5 s6 z) := by
  rw [f_X1_add] at hf
  refine q_startV (lv := [(0, .ref s0), (1, .int x1), (2, .int x2)]) (by decide +kernel) rfl (Nat.le_of_ble_eq_true rfl) ?_
  intro p e s m below meth c C hin
  refine q_aload_n C dX1_add_0 rfl 0 rfl ?_
  refine q_get C (uW uX1_in) 0 rfl rfl 5 (by decide) (ws_in xf_X1_28) rfl rfl dX1_add_1 ?_
  refine q_iload_n C dX1_add_4 rfl 1 rfl ?_
  refine q_aload_n C dX1_add_5 rfl 0 rfl ?_
  refine q_iload_n C dX1_add_6 rfl 1 rfl ?_
  obtain ⟨z1, h_z1, hf⟩ := bnd hf
  refine q_cVIw C (c_X1_measured l D cI cJ cN s0 s1 s2 s3 s4 s5 s6 S x1 z1 h_z1) (mkV (fr := 1) (lo := 21) C xc_X1_measured xm_X1_117 xi_X1_measured xe_X1_measured xn_X1 hd_X1_measured ⟨Nat.le_of_ble_eq_true rfl, Nat.le_of_ble_eq_true rfl⟩) 0 rfl rfl rfl rfl (Nat.le_of_ble_eq_true rfl) dX1_add_7 ⟨Nat.le_of_ble_eq_true rfl, Nat.le_of_ble_eq_true rfl⟩ (fun w1 hp1 => ?_)
  subst hp1
  refine q_iload_n C dX1_add_10 rfl 2 rfl ?_
  refine q_iadd C dX1_add_11 ?_
  obtain ⟨z2, h_z2, hf⟩ := bnd hf
  refine q_cNV (ws' := wSur cI cJ s0 s1 s2 s3 s4 s5 s6 (S.1, S.2.1, S.2.2.1, S.2.2.2.1, S.2.2.2.2.1, z2, S.2.2.2.2.2.2)) C (c_X2_putAt l D cI cJ cN s6 8 S.2.2.2.2.2.1 x1 (z1 + x2) z2 h_z2) (mkN (fr := 0) (lo := 0) C 8 rfl xc_X2_putAt xs_X2_putAt xn_X2 hd_X2_putAt ⟨Nat.le_of_ble_eq_true rfl, Nat.le_of_ble_eq_true rfl⟩) [6] rfl (by decide) rfl rfl rfl rfl (Nat.le_of_ble_eq_true rfl) dX1_add_12 ⟨Nat.le_of_ble_eq_true rfl, Nat.le_of_ble_eq_true rfl⟩ ?_
  have hf := Option.some.inj hf
  subst hf
  exact q_vret C (Nat.le_of_ble_eq_true rfl) (Nat.le_of_ble_eq_true rfl) rfl dX1_add_15
set_option maxRecDepth 100000 in
set_option maxHeartbeats 4000000 in
theorem c_X1_raise (l : Launch) (D : va_G) (cI cJ cN : ClassId) (s0 s1 s2 s3 s4 s5 s6 : Nat)  (S : SS) (x1 : Int32) (x2 : Int32) (z : SS) (hf : f_X1_raise S x1 x2 = some z) : MV l D cI cJ cN yX1_raise (WS yX1_raise cX1_raise 3 none) { frames := 2, cells := 0, slots := 0, locals := 42 } [.ref s0, .int x1, .int x2] (wSur cI cJ s0 s1 s2 s3 s4 s5 s6 S) (fun w => w = wSur cI cJ s0 s1 s2 s3 s4 s5 s6 z) := by
  rw [f_X1_raise] at hf
  refine q_startV (lv := [(0, .ref s0), (1, .int x1), (2, .int x2)]) (by decide +kernel) rfl (Nat.le_of_ble_eq_true rfl) ?_
  intro p e s m below meth c C hin
  refine q_aload_n C dX1_raise_0 rfl 0 rfl ?_
  refine q_get C (uW uX1_in) 0 rfl rfl 5 (by decide) (ws_in xf_X1_28) rfl rfl dX1_raise_1 ?_
  refine q_iload_n C dX1_raise_4 rfl 1 rfl ?_
  refine q_aload_n C dX1_raise_5 rfl 0 rfl ?_
  refine q_iload_n C dX1_raise_6 rfl 1 rfl ?_
  obtain ⟨z1, h_z1, hf⟩ := bnd hf
  refine q_cVIw C (c_X1_measured l D cI cJ cN s0 s1 s2 s3 s4 s5 s6 S x1 z1 h_z1) (mkV (fr := 1) (lo := 21) C xc_X1_measured xm_X1_117 xi_X1_measured xe_X1_measured xn_X1 hd_X1_measured ⟨Nat.le_of_ble_eq_true rfl, Nat.le_of_ble_eq_true rfl⟩) 0 rfl rfl rfl rfl (Nat.le_of_ble_eq_true rfl) dX1_raise_7 ⟨Nat.le_of_ble_eq_true rfl, Nat.le_of_ble_eq_true rfl⟩ (fun w1 hp1 => ?_)
  subst hp1
  refine q_iload_n C dX1_raise_10 rfl 2 rfl ?_
  refine q_mmax C (ws_in xm_X1_76) (ws_in xs_max) (ws_in xn_Math) (ws_in xc_max) (Nat.le_of_ble_eq_true rfl) (Nat.le_of_ble_eq_true rfl) ⟨Nat.le_of_ble_eq_true rfl, Nat.le_of_ble_eq_true rfl⟩ dX1_raise_11 ?_
  obtain ⟨z2, h_z2, hf⟩ := bnd hf
  refine q_cNV (ws' := wSur cI cJ s0 s1 s2 s3 s4 s5 s6 (S.1, S.2.1, S.2.2.1, S.2.2.2.1, S.2.2.2.2.1, z2, S.2.2.2.2.2.2)) C (c_X2_putAt l D cI cJ cN s6 8 S.2.2.2.2.2.1 x1 (if z1 < x2 then x2 else z1) z2 h_z2) (mkN (fr := 0) (lo := 0) C 8 rfl xc_X2_putAt xs_X2_putAt xn_X2 hd_X2_putAt ⟨Nat.le_of_ble_eq_true rfl, Nat.le_of_ble_eq_true rfl⟩) [6] rfl (by decide) rfl rfl rfl rfl (Nat.le_of_ble_eq_true rfl) dX1_raise_14 ⟨Nat.le_of_ble_eq_true rfl, Nat.le_of_ble_eq_true rfl⟩ ?_
  have hf := Option.some.inj hf
  subst hf
  exact q_vret C (Nat.le_of_ble_eq_true rfl) (Nat.le_of_ble_eq_true rfl) rfl dX1_raise_17
set_option maxRecDepth 100000 in
set_option maxHeartbeats 4000000 in
theorem l_X1_addPair_35 {p : Program} {l : Launch} {e : Env} {s : State} {m : MethodId} {args : Array Value} {below : List Frame} {meth : Method} {c : Code} {D : va_G} {cI cJ cN : ClassId} {W0 : va_W} {s0 s1 s2 s3 s4 s5 s6 : Nat} {z : SS} (C : CX p l s m args meth c cX1_addPair 4 yX1_addPair.cls (WS yX1_addPair cX1_addPair 4 none) none D cI cJ cN (va_A W0 s.heap.size)) : ∀ (S : SS) (x1 : Int32) (x2 : Int32) (x3 : Int32), g_X1_addPair_35 S x1 x2 x3 = some z → WW p l e { frames := 3, cells := 0, slots := 0, locals := 64 } s m args below meth c D 4 (va_A W0 s.heap.size) 0 0 (QV below args s D W0 { frames := 3, cells := 0, slots := 0, locals := 64 } (fun w => w = wSur cI cJ s0 s1 s2 s3 s4 s5 s6 z)) 35 [(0, .ref s0), (1, .int x1), (2, .int x2), (3, .int x3)] [] (wSur cI cJ s0 s1 s2 s3 s4 s5 s6 S) := by
  intro S x1 x2 x3 hf
  rw [g_X1_addPair_35] at hf
  refine q_aload_n C dX1_addPair_35 rfl 0 rfl ?_
  refine q_iload_n C dX1_addPair_36 rfl 1 rfl ?_
  refine q_iload_n C dX1_addPair_37 rfl 2 rfl ?_
  obtain ⟨z1, h_z1, hf⟩ := bnd hf
  refine q_cVIw C (c_X1_follow l D cI cJ cN s0 s1 s2 s3 s4 s5 s6 S x1 x2 z1 h_z1) (mkV (fr := 0) (lo := 0) C xc_X1_follow xm_X1_86 xi_X1_follow xe_X1_follow xn_X1 hd_X1_follow ⟨Nat.le_of_ble_eq_true rfl, Nat.le_of_ble_eq_true rfl⟩) 0 rfl rfl rfl rfl (Nat.le_of_ble_eq_true rfl) dX1_addPair_38 ⟨Nat.le_of_ble_eq_true rfl, Nat.le_of_ble_eq_true rfl⟩ (fun w1 hp1 => ?_)
  subst hp1
  refine q_if_eq C 88 dX1_addPair_41 (by decide) (fun h => ?_) (fun h => ?_)
  · have hf := ifT hf h
    have hf := Option.some.inj hf
    subst hf
    exact q_vret C (Nat.le_of_ble_eq_true rfl) (Nat.le_of_ble_eq_true rfl) rfl dX1_addPair_88
  · have hf := ifF hf h
    refine q_aload_n C dX1_addPair_44 rfl 0 rfl ?_
    refine q_iconst (v := 4) C dX1_addPair_45 (by decide) ?_
    refine q_iconst (v := 1) C dX1_addPair_46 (by decide) ?_
    obtain ⟨z2, h_z2, hf⟩ := bnd hf
    refine q_cVVw C (c_X1_add l D cI cJ cN s0 s1 s2 s3 s4 s5 s6 z1.2 (4 : Int32) (1 : Int32) z2 h_z2) (mkV (fr := 2) (lo := 42) C xc_X1_add xm_X1_108 xi_X1_add xe_X1_add xn_X1 hd_X1_add ⟨Nat.le_of_ble_eq_true rfl, Nat.le_of_ble_eq_true rfl⟩) 0 rfl rfl rfl rfl (Nat.le_of_ble_eq_true rfl) dX1_addPair_47 ⟨Nat.le_of_ble_eq_true rfl, Nat.le_of_ble_eq_true rfl⟩ (fun w1 hp1 => ?_)
    subst hp1
    refine q_aload_n C dX1_addPair_50 rfl 0 rfl ?_
    refine q_iconst (v := 5) C dX1_addPair_51 (by decide) ?_
    refine q_aload_n C dX1_addPair_52 rfl 0 rfl ?_
    obtain ⟨z3, h_z3, hf⟩ := bnd hf
    refine q_cVIw C (c_X1_steps l D cI cJ cN s0 s1 s2 s3 s4 s5 s6 z2 z3 h_z3) (mkV (fr := 0) (lo := 0) C xc_X1_steps xm_X1_114 xi_X1_steps xe_X1_steps xn_X1 hd_X1_steps ⟨Nat.le_of_ble_eq_true rfl, Nat.le_of_ble_eq_true rfl⟩) 0 rfl rfl rfl rfl (Nat.le_of_ble_eq_true rfl) dX1_addPair_53 ⟨Nat.le_of_ble_eq_true rfl, Nat.le_of_ble_eq_true rfl⟩ (fun w1 hp1 => ?_)
    subst hp1
    obtain ⟨z4, h_z4, hf⟩ := bnd hf
    refine q_cVVw C (c_X1_raise l D cI cJ cN s0 s1 s2 s3 s4 s5 s6 z2 (5 : Int32) z3 z4 h_z4) (mkV (fr := 2) (lo := 42) C xc_X1_raise xm_X1_111 xi_X1_raise xe_X1_raise xn_X1 hd_X1_raise ⟨Nat.le_of_ble_eq_true rfl, Nat.le_of_ble_eq_true rfl⟩) 0 rfl rfl rfl rfl (Nat.le_of_ble_eq_true rfl) dX1_addPair_56 ⟨Nat.le_of_ble_eq_true rfl, Nat.le_of_ble_eq_true rfl⟩ (fun w1 hp1 => ?_)
    subst hp1
    refine q_aload_n C dX1_addPair_59 rfl 0 rfl ?_
    refine q_bipush (v := 6) C dX1_addPair_60 (by decide) ?_
    refine q_aload_n C dX1_addPair_62 rfl 0 rfl ?_
    obtain ⟨z5, h_z5, hf⟩ := bnd hf
    refine q_cVIw C (c_X1_steps l D cI cJ cN s0 s1 s2 s3 s4 s5 s6 z4 z5 h_z5) (mkV (fr := 0) (lo := 0) C xc_X1_steps xm_X1_114 xi_X1_steps xe_X1_steps xn_X1 hd_X1_steps ⟨Nat.le_of_ble_eq_true rfl, Nat.le_of_ble_eq_true rfl⟩) 0 rfl rfl rfl rfl (Nat.le_of_ble_eq_true rfl) dX1_addPair_63 ⟨Nat.le_of_ble_eq_true rfl, Nat.le_of_ble_eq_true rfl⟩ (fun w1 hp1 => ?_)
    subst hp1
    obtain ⟨z6, h_z6, hf⟩ := bnd hf
    refine q_cVVw C (c_X1_add l D cI cJ cN s0 s1 s2 s3 s4 s5 s6 z4 (6 : Int32) z5 z6 h_z6) (mkV (fr := 2) (lo := 42) C xc_X1_add xm_X1_108 xi_X1_add xe_X1_add xn_X1 hd_X1_add ⟨Nat.le_of_ble_eq_true rfl, Nat.le_of_ble_eq_true rfl⟩) 0 rfl rfl rfl rfl (Nat.le_of_ble_eq_true rfl) dX1_addPair_66 ⟨Nat.le_of_ble_eq_true rfl, Nat.le_of_ble_eq_true rfl⟩ (fun w1 hp1 => ?_)
    subst hp1
    refine q_aload_n C dX1_addPair_69 rfl 0 rfl ?_
    refine q_bipush (v := 7) C dX1_addPair_70 (by decide) ?_
    refine q_aload_n C dX1_addPair_72 rfl 0 rfl ?_
    obtain ⟨z7, h_z7, hf⟩ := bnd hf
    refine q_cVIw C (c_X1_steps l D cI cJ cN s0 s1 s2 s3 s4 s5 s6 z6 z7 h_z7) (mkV (fr := 0) (lo := 0) C xc_X1_steps xm_X1_114 xi_X1_steps xe_X1_steps xn_X1 hd_X1_steps ⟨Nat.le_of_ble_eq_true rfl, Nat.le_of_ble_eq_true rfl⟩) 0 rfl rfl rfl rfl (Nat.le_of_ble_eq_true rfl) dX1_addPair_73 ⟨Nat.le_of_ble_eq_true rfl, Nat.le_of_ble_eq_true rfl⟩ (fun w1 hp1 => ?_)
    subst hp1
    refine q_iload_n C dX1_addPair_76 rfl 3 rfl ?_
    refine q_icmp_ne C 84 dX1_addPair_77 (by decide) (fun h => ?_) (fun h => ?_)
    · have hf := ifF hf h
      refine q_iconst (v := 0) C dX1_addPair_84 (by decide) ?_
      obtain ⟨z8, h_z8, hf⟩ := bnd hf
      refine q_cVVw C (c_X1_add l D cI cJ cN s0 s1 s2 s3 s4 s5 s6 z6 (7 : Int32) (0 : Int32) z8 h_z8) (mkV (fr := 2) (lo := 42) C xc_X1_add xm_X1_108 xi_X1_add xe_X1_add xn_X1 hd_X1_add ⟨Nat.le_of_ble_eq_true rfl, Nat.le_of_ble_eq_true rfl⟩) 0 rfl rfl rfl rfl (Nat.le_of_ble_eq_true rfl) dX1_addPair_85 ⟨Nat.le_of_ble_eq_true rfl, Nat.le_of_ble_eq_true rfl⟩ (fun w1 hp1 => ?_)
      subst hp1
      have hf := Option.some.inj hf
      subst hf
      exact q_vret C (Nat.le_of_ble_eq_true rfl) (Nat.le_of_ble_eq_true rfl) rfl dX1_addPair_88
    · have hf := ifT hf h
      refine q_iconst (v := 1) C dX1_addPair_80 (by decide) ?_
      refine q_goto C 85 dX1_addPair_81 (by decide) ?_
      obtain ⟨z9, h_z9, hf⟩ := bnd hf
      refine q_cVVw C (c_X1_add l D cI cJ cN s0 s1 s2 s3 s4 s5 s6 z6 (7 : Int32) (1 : Int32) z9 h_z9) (mkV (fr := 2) (lo := 42) C xc_X1_add xm_X1_108 xi_X1_add xe_X1_add xn_X1 hd_X1_add ⟨Nat.le_of_ble_eq_true rfl, Nat.le_of_ble_eq_true rfl⟩) 0 rfl rfl rfl rfl (Nat.le_of_ble_eq_true rfl) dX1_addPair_85 ⟨Nat.le_of_ble_eq_true rfl, Nat.le_of_ble_eq_true rfl⟩ (fun w1 hp1 => ?_)
      subst hp1
      have hf := Option.some.inj hf
      subst hf
      exact q_vret C (Nat.le_of_ble_eq_true rfl) (Nat.le_of_ble_eq_true rfl) rfl dX1_addPair_88
set_option maxRecDepth 100000 in
set_option maxHeartbeats 4000000 in
theorem c_X1_addPair (l : Launch) (D : va_G) (cI cJ cN : ClassId) (s0 s1 s2 s3 s4 s5 s6 : Nat)  (S : SS) (x1 : Int32) (x2 : Int32) (z : SS) (hf : f_X1_addPair S x1 x2 = some z) : MV l D cI cJ cN yX1_addPair (WS yX1_addPair cX1_addPair 4 none) { frames := 3, cells := 0, slots := 0, locals := 64 } [.ref s0, .int x1, .int x2] (wSur cI cJ s0 s1 s2 s3 s4 s5 s6 S) (fun w => w = wSur cI cJ s0 s1 s2 s3 s4 s5 s6 z) := by
  rw [f_X1_addPair] at hf
  refine q_startV (lv := [(0, .ref s0), (1, .int x1), (2, .int x2)]) (by decide +kernel) rfl (Nat.le_of_ble_eq_true rfl) ?_
  intro p e s m below meth c C hin
  refine q_aload_n C dX1_addPair_0 rfl 0 rfl ?_
  refine q_iload_n C dX1_addPair_1 rfl 1 rfl ?_
  obtain ⟨z1, h_z1, hf⟩ := bnd hf
  refine q_cVIw C (c_X1_wayFrom l D cI cJ cN s0 s1 s2 s3 s4 s5 s6 S x1 z1 h_z1) (mkV (fr := 0) (lo := 0) C xc_X1_wayFrom xm_X1_60 xi_X1_wayFrom xe_X1_wayFrom xn_X1 hd_X1_wayFrom ⟨Nat.le_of_ble_eq_true rfl, Nat.le_of_ble_eq_true rfl⟩) 0 rfl rfl rfl rfl (Nat.le_of_ble_eq_true rfl) dX1_addPair_2 ⟨Nat.le_of_ble_eq_true rfl, Nat.le_of_ble_eq_true rfl⟩ (fun w1 hp1 => ?_)
  subst hp1
  refine q_istore_n (lv' := [(3, .int z1), (0, .ref s0), (1, .int x1), (2, .int x2)]) C dX1_addPair_5 rfl (by decide) rfl ?_
  refine q_aload_n C dX1_addPair_6 rfl 1 rfl ?_
  refine q_iconst (v := 0) C dX1_addPair_7 (by decide) ?_
  refine q_iconst (v := 1) C dX1_addPair_8 (by decide) ?_
  obtain ⟨z2, h_z2, hf⟩ := bnd hf
  refine q_cVVw C (c_X1_add l D cI cJ cN s0 s1 s2 s3 s4 s5 s6 S (0 : Int32) (1 : Int32) z2 h_z2) (mkV (fr := 2) (lo := 42) C xc_X1_add xm_X1_108 xi_X1_add xe_X1_add xn_X1 hd_X1_add ⟨Nat.le_of_ble_eq_true rfl, Nat.le_of_ble_eq_true rfl⟩) 0 rfl rfl rfl rfl (Nat.le_of_ble_eq_true rfl) dX1_addPair_9 ⟨Nat.le_of_ble_eq_true rfl, Nat.le_of_ble_eq_true rfl⟩ (fun w1 hp1 => ?_)
  subst hp1
  refine q_iload_n C dX1_addPair_12 rfl 0 rfl ?_
  refine q_iconst (v := -1) C dX1_addPair_13 (by decide) ?_
  refine q_icmp_eq C 35 dX1_addPair_14 (by decide) (fun h => ?_) (fun h => ?_)
  · have hf := ifT hf h
    refine q_sub (lv' := [(0, .ref s0), (1, .int x1), (2, .int x2), (3, .int z1)]) [1, 2, 3, 0] rfl ?_
    exact l_X1_addPair_35 C z2 x1 x2 z1 hf
  · have hf := ifF hf h
    refine q_aload_n C dX1_addPair_17 rfl 1 rfl ?_
    refine q_iconst (v := 1) C dX1_addPair_18 (by decide) ?_
    refine q_iconst (v := 1) C dX1_addPair_19 (by decide) ?_
    obtain ⟨z3, h_z3, hf⟩ := bnd hf
    refine q_cVVw C (c_X1_add l D cI cJ cN s0 s1 s2 s3 s4 s5 s6 z2 (1 : Int32) (1 : Int32) z3 h_z3) (mkV (fr := 2) (lo := 42) C xc_X1_add xm_X1_108 xi_X1_add xe_X1_add xn_X1 hd_X1_add ⟨Nat.le_of_ble_eq_true rfl, Nat.le_of_ble_eq_true rfl⟩) 0 rfl rfl rfl rfl (Nat.le_of_ble_eq_true rfl) dX1_addPair_20 ⟨Nat.le_of_ble_eq_true rfl, Nat.le_of_ble_eq_true rfl⟩ (fun w1 hp1 => ?_)
    subst hp1
    refine q_aload_n C dX1_addPair_23 rfl 1 rfl ?_
    refine q_iconst (v := 2) C dX1_addPair_24 (by decide) ?_
    refine q_iload_n C dX1_addPair_25 rfl 0 rfl ?_
    obtain ⟨z4, h_z4, hf⟩ := bnd hf
    refine q_cVVw C (c_X1_raise l D cI cJ cN s0 s1 s2 s3 s4 s5 s6 z3 (2 : Int32) z1 z4 h_z4) (mkV (fr := 2) (lo := 42) C xc_X1_raise xm_X1_111 xi_X1_raise xe_X1_raise xn_X1 hd_X1_raise ⟨Nat.le_of_ble_eq_true rfl, Nat.le_of_ble_eq_true rfl⟩) 0 rfl rfl rfl rfl (Nat.le_of_ble_eq_true rfl) dX1_addPair_26 ⟨Nat.le_of_ble_eq_true rfl, Nat.le_of_ble_eq_true rfl⟩ (fun w1 hp1 => ?_)
    subst hp1
    refine q_aload_n C dX1_addPair_29 rfl 1 rfl ?_
    refine q_iconst (v := 3) C dX1_addPair_30 (by decide) ?_
    refine q_iload_n C dX1_addPair_31 rfl 0 rfl ?_
    obtain ⟨z5, h_z5, hf⟩ := bnd hf
    refine q_cVVw C (c_X1_add l D cI cJ cN s0 s1 s2 s3 s4 s5 s6 z4 (3 : Int32) z1 z5 h_z5) (mkV (fr := 2) (lo := 42) C xc_X1_add xm_X1_108 xi_X1_add xe_X1_add xn_X1 hd_X1_add ⟨Nat.le_of_ble_eq_true rfl, Nat.le_of_ble_eq_true rfl⟩) 0 rfl rfl rfl rfl (Nat.le_of_ble_eq_true rfl) dX1_addPair_32 ⟨Nat.le_of_ble_eq_true rfl, Nat.le_of_ble_eq_true rfl⟩ (fun w1 hp1 => ?_)
    subst hp1
    refine q_sub (lv' := [(0, .ref s0), (1, .int x1), (2, .int x2), (3, .int z1)]) [1, 2, 3, 0] rfl ?_
    exact l_X1_addPair_35 C z5 x1 x2 z1 hf
set_option maxRecDepth 100000 in
set_option maxHeartbeats 4000000 in
theorem l_X1_addPairsWithEnd_2 {p : Program} {l : Launch} {e : Env} {s : State} {m : MethodId} {args : Array Value} {below : List Frame} {meth : Method} {c : Code} {D : va_G} {cI cJ cN : ClassId} {W0 : va_W} {s0 s1 s2 s3 s4 s5 s6 n0 n1 n2 n3 n4 n5 n6 : Nat} {z : SS} (C : CX p l s m args meth c cX1_addPairsWithEnd 4 yX1_addPairsWithEnd.cls (WS yX1_addPairsWithEnd cX1_addPairsWithEnd 4 none) none D cI cJ cN (va_A W0 s.heap.size)) : ∀ (fu : Nat) (S : SS) (N : NS) (x2 : Int32) (x3 : Int32), g_X1_addPairsWithEnd_2 fu S N x2 x3 = some z → WW p l e { frames := 4, cells := 0, slots := 0, locals := 87 } s m args below meth c D 4 (va_A W0 s.heap.size) 0 0 (QV below args s D W0 { frames := 4, cells := 0, slots := 0, locals := 87 } (fun w => w = wSur cI cJ s0 s1 s2 s3 s4 s5 s6 z ++ wNet cI n0 n1 n2 n3 n4 n5 n6 N)) 2 [(0, .ref s0), (1, .ref n0), (2, .int x2), (3, .int x3)] [] (wSur cI cJ s0 s1 s2 s3 s4 s5 s6 S ++ wNet cI n0 n1 n2 n3 n4 n5 n6 N) := by
  intro fu
  induction fu with
  | zero =>
    intro S N x2 x3 hf
    rw [g_X1_addPairsWithEnd_2] at hf
    cases hf
  | succ fu ih =>
    intro S N x2 x3 hf
    rw [g_X1_addPairsWithEnd_2] at hf
    refine q_iload_n C dX1_addPairsWithEnd_2 rfl 3 rfl ?_
    refine q_aload_n C dX1_addPairsWithEnd_3 rfl 1 rfl ?_
    obtain ⟨z1, h_z1, hf⟩ := bnd hf
    refine q_cVI (ws' := wSur cI cJ s0 s1 s2 s3 s4 s5 s6 S ++ wNet cI n0 n1 n2 n3 n4 n5 n6 N) C (c_X0_nodes l D cI cJ cN n0 n1 n2 n3 n4 n5 n6 N z1 h_z1) (mkV (fr := 0) (lo := 0) C xc_X0_nodes xm_X1_68 xi_X0_nodes xe_X0_nodes xn_X0 hd_X0_nodes ⟨Nat.le_of_ble_eq_true rfl, Nat.le_of_ble_eq_true rfl⟩) 0 rfl rfl [7, 8, 9, 10, 11, 12, 13] rfl (by decide) rfl rfl rfl rfl (Nat.le_of_ble_eq_true rfl) dX1_addPairsWithEnd_4 ⟨Nat.le_of_ble_eq_true rfl, Nat.le_of_ble_eq_true rfl⟩ ?_
    refine q_icmp_ge C 35 dX1_addPairsWithEnd_7 (by decide) (fun h => ?_) (fun h => ?_)
    · have hf := ifT hf h
      have hf := Option.some.inj hf
      subst hf
      exact q_vret C (Nat.le_of_ble_eq_true rfl) (Nat.le_of_ble_eq_true rfl) rfl dX1_addPairsWithEnd_35
    · have hf := ifF hf h
      refine q_iload_n C dX1_addPairsWithEnd_10 rfl 3 rfl ?_
      refine q_iload_n C dX1_addPairsWithEnd_11 rfl 2 rfl ?_
      refine q_icmp_eq C 29 dX1_addPairsWithEnd_12 (by decide) (fun h => ?_) (fun h => ?_)
      · have hf := ifT hf h
        refine q_iinc (v := (x3 + (1 : Int32))) (lv' := [(3, .int (x3 + (1 : Int32))), (0, .ref s0), (1, .ref n0), (2, .int x2)]) C dX1_addPairsWithEnd_29 3 rfl rfl (by decide) rfl ?_
        refine q_goto C 2 dX1_addPairsWithEnd_32 (by decide) ?_
        refine q_sub (lv' := [(0, .ref s0), (1, .ref n0), (2, .int x2), (3, .int (x3 + (1 : Int32)))]) [1, 2, 3, 0] rfl ?_
        exact ih S N x2 (x3 + (1 : Int32)) hf
      · have hf := ifF hf h
        refine q_aload_n C dX1_addPairsWithEnd_15 rfl 1 rfl ?_
        refine q_iload_n C dX1_addPairsWithEnd_16 rfl 3 rfl ?_
        obtain ⟨z2, h_z2, hf⟩ := bnd hf
        refine q_cVI (ws' := wSur cI cJ s0 s1 s2 s3 s4 s5 s6 S ++ wNet cI n0 n1 n2 n3 n4 n5 n6 N) C (c_X0_isPresent l D cI cJ cN n0 n1 n2 n3 n4 n5 n6 N x3 z2 h_z2) (mkV (fr := 2) (lo := 41) C xc_X0_isPresent xm_X1_35 xi_X0_isPresent xe_X0_isPresent xn_X0 hd_X0_isPresent ⟨Nat.le_of_ble_eq_true rfl, Nat.le_of_ble_eq_true rfl⟩) 0 rfl rfl [7, 8, 9, 10, 11, 12, 13] rfl (by decide) rfl rfl rfl rfl (Nat.le_of_ble_eq_true rfl) dX1_addPairsWithEnd_17 ⟨Nat.le_of_ble_eq_true rfl, Nat.le_of_ble_eq_true rfl⟩ ?_
        refine q_if_eq C 29 dX1_addPairsWithEnd_20 (by decide) (fun h => ?_) (fun h => ?_)
        · have hf := ifT hf h
          refine q_iinc (v := (x3 + (1 : Int32))) (lv' := [(3, .int (x3 + (1 : Int32))), (0, .ref s0), (1, .ref n0), (2, .int x2)]) C dX1_addPairsWithEnd_29 3 rfl rfl (by decide) rfl ?_
          refine q_goto C 2 dX1_addPairsWithEnd_32 (by decide) ?_
          refine q_sub (lv' := [(0, .ref s0), (1, .ref n0), (2, .int x2), (3, .int (x3 + (1 : Int32)))]) [1, 2, 3, 0] rfl ?_
          exact ih S N x2 (x3 + (1 : Int32)) hf
        · have hf := ifF hf h
          refine q_aload_n C dX1_addPairsWithEnd_23 rfl 0 rfl ?_
          refine q_iload_n C dX1_addPairsWithEnd_24 rfl 3 rfl ?_
          refine q_iload_n C dX1_addPairsWithEnd_25 rfl 2 rfl ?_
          obtain ⟨z3, h_z3, hf⟩ := bnd hf
          refine q_cVV (ws' := wSur cI cJ s0 s1 s2 s3 s4 s5 s6 z3 ++ wNet cI n0 n1 n2 n3 n4 n5 n6 N) C (c_X1_addPair l D cI cJ cN s0 s1 s2 s3 s4 s5 s6 S x3 x2 z3 h_z3) (mkV (fr := 3) (lo := 64) C xc_X1_addPair xm_X1_104 xi_X1_addPair xe_X1_addPair xn_X1 hd_X1_addPair ⟨Nat.le_of_ble_eq_true rfl, Nat.le_of_ble_eq_true rfl⟩) 0 rfl rfl [0, 1, 2, 3, 4, 5, 6] rfl (by decide) rfl rfl rfl rfl (Nat.le_of_ble_eq_true rfl) dX1_addPairsWithEnd_26 ⟨Nat.le_of_ble_eq_true rfl, Nat.le_of_ble_eq_true rfl⟩ ?_
          refine q_iinc (v := (x3 + (1 : Int32))) (lv' := [(3, .int (x3 + (1 : Int32))), (0, .ref s0), (1, .ref n0), (2, .int x2)]) C dX1_addPairsWithEnd_29 3 rfl rfl (by decide) rfl ?_
          refine q_goto C 2 dX1_addPairsWithEnd_32 (by decide) ?_
          refine q_sub (lv' := [(0, .ref s0), (1, .ref n0), (2, .int x2), (3, .int (x3 + (1 : Int32)))]) [1, 2, 3, 0] rfl ?_
          exact ih z3 N x2 (x3 + (1 : Int32)) hf
set_option maxRecDepth 100000 in
set_option maxHeartbeats 4000000 in
theorem c_X1_addPairsWithEnd (l : Launch) (D : va_G) (cI cJ cN : ClassId) (s0 s1 s2 s3 s4 s5 s6 n0 n1 n2 n3 n4 n5 n6 : Nat)  (S : SS) (N : NS) (x2 : Int32) (z : SS) (hf : f_X1_addPairsWithEnd S N x2 = some z) : MV l D cI cJ cN yX1_addPairsWithEnd (WS yX1_addPairsWithEnd cX1_addPairsWithEnd 4 none) { frames := 4, cells := 0, slots := 0, locals := 87 } [.ref s0, .ref n0, .int x2] (wSur cI cJ s0 s1 s2 s3 s4 s5 s6 S ++ wNet cI n0 n1 n2 n3 n4 n5 n6 N) (fun w => w = wSur cI cJ s0 s1 s2 s3 s4 s5 s6 z ++ wNet cI n0 n1 n2 n3 n4 n5 n6 N) := by
  rw [f_X1_addPairsWithEnd] at hf
  refine q_startV (lv := [(0, .ref s0), (1, .ref n0), (2, .int x2)]) (by decide +kernel) rfl (Nat.le_of_ble_eq_true rfl) ?_
  intro p e s m below meth c C hin
  refine q_iconst (v := 0) C dX1_addPairsWithEnd_0 (by decide) ?_
  refine q_istore_n (lv' := [(3, .int (0 : Int32)), (0, .ref s0), (1, .ref n0), (2, .int x2)]) C dX1_addPairsWithEnd_1 rfl (by decide) rfl ?_
  refine q_sub (lv' := [(0, .ref s0), (1, .ref n0), (2, .int x2), (3, .int (0 : Int32))]) [1, 2, 3, 0] rfl ?_
  exact l_X1_addPairsWithEnd_2 C FU S N x2 (0 : Int32) hf
set_option maxRecDepth 100000 in
set_option maxHeartbeats 4000000 in
theorem l_X1_takeMeasures_31 {p : Program} {l : Launch} {e : Env} {s : State} {m : MethodId} {args : Array Value} {below : List Frame} {meth : Method} {c : Code} {D : va_G} {cI cJ cN : ClassId} {W0 : va_W} {s0 s1 s2 s3 s4 s5 s6 n0 n1 n2 n3 n4 n5 n6 : Nat} {z : SS} (C : CX p l s m args meth c cX1_takeMeasures 3 yX1_takeMeasures.cls (WS yX1_takeMeasures cX1_takeMeasures 3 none) none D cI cJ cN (va_A W0 s.heap.size)) : ∀ (fu : Nat) (S : SS) (N : NS) (x2 : Int32), g_X1_takeMeasures_31 fu S N x2 = some z → WW p l e { frames := 5, cells := 0, slots := 0, locals := 110 } s m args below meth c D 3 (va_A W0 s.heap.size) 0 0 (QV below args s D W0 { frames := 5, cells := 0, slots := 0, locals := 110 } (fun w => w = wSur cI cJ s0 s1 s2 s3 s4 s5 s6 z ++ wNet cI n0 n1 n2 n3 n4 n5 n6 N)) 31 [(0, .ref s0), (1, .ref n0), (2, .int x2)] [] (wSur cI cJ s0 s1 s2 s3 s4 s5 s6 S ++ wNet cI n0 n1 n2 n3 n4 n5 n6 N) := by
  intro fu
  induction fu with
  | zero =>
    intro S N x2 hf
    rw [g_X1_takeMeasures_31] at hf
    cases hf
  | succ fu ih =>
    intro S N x2 hf
    rw [g_X1_takeMeasures_31] at hf
    refine q_iload_n C dX1_takeMeasures_31 rfl 2 rfl ?_
    refine q_aload_n C dX1_takeMeasures_32 rfl 1 rfl ?_
    obtain ⟨z1, h_z1, hf⟩ := bnd hf
    refine q_cVI (ws' := wSur cI cJ s0 s1 s2 s3 s4 s5 s6 S ++ wNet cI n0 n1 n2 n3 n4 n5 n6 N) C (c_X0_nodes l D cI cJ cN n0 n1 n2 n3 n4 n5 n6 N z1 h_z1) (mkV (fr := 0) (lo := 0) C xc_X0_nodes xm_X1_68 xi_X0_nodes xe_X0_nodes xn_X0 hd_X0_nodes ⟨Nat.le_of_ble_eq_true rfl, Nat.le_of_ble_eq_true rfl⟩) 0 rfl rfl [7, 8, 9, 10, 11, 12, 13] rfl (by decide) rfl rfl rfl rfl (Nat.le_of_ble_eq_true rfl) dX1_takeMeasures_33 ⟨Nat.le_of_ble_eq_true rfl, Nat.le_of_ble_eq_true rfl⟩ ?_
    refine q_icmp_ge C 70 dX1_takeMeasures_36 (by decide) (fun h => ?_) (fun h => ?_)
    · have hf := ifT hf h
      have hf := Option.some.inj hf
      subst hf
      exact q_vret C (Nat.le_of_ble_eq_true rfl) (Nat.le_of_ble_eq_true rfl) rfl dX1_takeMeasures_70
    · have hf := ifF hf h
      refine q_aload_n C dX1_takeMeasures_39 rfl 1 rfl ?_
      refine q_iload_n C dX1_takeMeasures_40 rfl 2 rfl ?_
      obtain ⟨z2, h_z2, hf⟩ := bnd hf
      refine q_cVI (ws' := wSur cI cJ s0 s1 s2 s3 s4 s5 s6 S ++ wNet cI n0 n1 n2 n3 n4 n5 n6 N) C (c_X0_isPresent l D cI cJ cN n0 n1 n2 n3 n4 n5 n6 N x2 z2 h_z2) (mkV (fr := 2) (lo := 41) C xc_X0_isPresent xm_X1_35 xi_X0_isPresent xe_X0_isPresent xn_X0 hd_X0_isPresent ⟨Nat.le_of_ble_eq_true rfl, Nat.le_of_ble_eq_true rfl⟩) 0 rfl rfl [7, 8, 9, 10, 11, 12, 13] rfl (by decide) rfl rfl rfl rfl (Nat.le_of_ble_eq_true rfl) dX1_takeMeasures_41 ⟨Nat.le_of_ble_eq_true rfl, Nat.le_of_ble_eq_true rfl⟩ ?_
      refine q_if_eq C 64 dX1_takeMeasures_44 (by decide) (fun h => ?_) (fun h => ?_)
      · have hf := ifT hf h
        refine q_iinc (v := (x2 + (1 : Int32))) (lv' := [(2, .int (x2 + (1 : Int32))), (0, .ref s0), (1, .ref n0)]) C dX1_takeMeasures_64 2 rfl rfl (by decide) rfl ?_
        refine q_goto C 31 dX1_takeMeasures_67 (by decide) ?_
        refine q_sub (lv' := [(0, .ref s0), (1, .ref n0), (2, .int (x2 + (1 : Int32)))]) [1, 2, 0] rfl ?_
        exact ih S N (x2 + (1 : Int32)) hf
      · have hf := ifF hf h
        refine q_aload_n C dX1_takeMeasures_47 rfl 0 rfl ?_
        refine q_iload_n C dX1_takeMeasures_48 rfl 2 rfl ?_
        obtain ⟨z3, h_z3, hf⟩ := bnd hf
        refine q_cVV (ws' := wSur cI cJ s0 s1 s2 s3 s4 s5 s6 z3 ++ wNet cI n0 n1 n2 n3 n4 n5 n6 N) C (c_X1_findWaysTo l D cI cJ cN s0 s1 s2 s3 s4 s5 s6 S x2 z3 h_z3) (mkV (fr := 2) (lo := 46) C xc_X1_findWaysTo xm_X1_72 xi_X1_findWaysTo xe_X1_findWaysTo xn_X1 hd_X1_findWaysTo ⟨Nat.le_of_ble_eq_true rfl, Nat.le_of_ble_eq_true rfl⟩) 0 rfl rfl [0, 1, 2, 3, 4, 5, 6] rfl (by decide) rfl rfl rfl rfl (Nat.le_of_ble_eq_true rfl) dX1_takeMeasures_49 ⟨Nat.le_of_ble_eq_true rfl, Nat.le_of_ble_eq_true rfl⟩ ?_
        refine q_aload_n C dX1_takeMeasures_52 rfl 0 rfl ?_
        refine q_aload_n C dX1_takeMeasures_53 rfl 1 rfl ?_
        refine q_iload_n C dX1_takeMeasures_54 rfl 2 rfl ?_
        obtain ⟨z4, h_z4, hf⟩ := bnd hf
        refine q_cVVw C (c_X1_aimAt l D cI cJ cN s0 s1 s2 s3 s4 s5 s6 n0 n1 n2 n3 n4 n5 n6 z3 N x2 z4 h_z4) (mkV (fr := 3) (lo := 71) C xc_X1_aimAt xm_X1_82 xi_X1_aimAt xe_X1_aimAt xn_X1 hd_X1_aimAt ⟨Nat.le_of_ble_eq_true rfl, Nat.le_of_ble_eq_true rfl⟩) 0 rfl rfl rfl rfl (Nat.le_of_ble_eq_true rfl) dX1_takeMeasures_55 ⟨Nat.le_of_ble_eq_true rfl, Nat.le_of_ble_eq_true rfl⟩ (fun w1 hp1 => ?_)
        subst hp1
        refine q_aload_n C dX1_takeMeasures_58 rfl 0 rfl ?_
        refine q_aload_n C dX1_takeMeasures_59 rfl 1 rfl ?_
        refine q_iload_n C dX1_takeMeasures_60 rfl 2 rfl ?_
        obtain ⟨z5, h_z5, hf⟩ := bnd hf
        refine q_cVVw C (c_X1_addPairsWithEnd l D cI cJ cN s0 s1 s2 s3 s4 s5 s6 n0 n1 n2 n3 n4 n5 n6 z4 N x2 z5 h_z5) (mkV (fr := 4) (lo := 87) C xc_X1_addPairsWithEnd xm_X1_101 xi_X1_addPairsWithEnd xe_X1_addPairsWithEnd xn_X1 hd_X1_addPairsWithEnd ⟨Nat.le_of_ble_eq_true rfl, Nat.le_of_ble_eq_true rfl⟩) 0 rfl rfl rfl rfl (Nat.le_of_ble_eq_true rfl) dX1_takeMeasures_61 ⟨Nat.le_of_ble_eq_true rfl, Nat.le_of_ble_eq_true rfl⟩ (fun w1 hp1 => ?_)
        subst hp1
        refine q_iinc (v := (x2 + (1 : Int32))) (lv' := [(2, .int (x2 + (1 : Int32))), (0, .ref s0), (1, .ref n0)]) C dX1_takeMeasures_64 2 rfl rfl (by decide) rfl ?_
        refine q_goto C 31 dX1_takeMeasures_67 (by decide) ?_
        refine q_sub (lv' := [(0, .ref s0), (1, .ref n0), (2, .int (x2 + (1 : Int32)))]) [1, 2, 0] rfl ?_
        exact ih z5 N (x2 + (1 : Int32)) hf
set_option maxRecDepth 100000 in
set_option maxHeartbeats 4000000 in
theorem l_X1_takeMeasures_7 {p : Program} {l : Launch} {e : Env} {s : State} {m : MethodId} {args : Array Value} {below : List Frame} {meth : Method} {c : Code} {D : va_G} {cI cJ cN : ClassId} {W0 : va_W} {s0 s1 s2 s3 s4 s5 s6 n0 n1 n2 n3 n4 n5 n6 : Nat} {z : SS} (C : CX p l s m args meth c cX1_takeMeasures 3 yX1_takeMeasures.cls (WS yX1_takeMeasures cX1_takeMeasures 3 none) none D cI cJ cN (va_A W0 s.heap.size)) : ∀ (fu : Nat) (S : SS) (N : NS) (x2 : Int32), g_X1_takeMeasures_7 fu S N x2 = some z → WW p l e { frames := 5, cells := 0, slots := 0, locals := 110 } s m args below meth c D 3 (va_A W0 s.heap.size) 0 0 (QV below args s D W0 { frames := 5, cells := 0, slots := 0, locals := 110 } (fun w => w = wSur cI cJ s0 s1 s2 s3 s4 s5 s6 z ++ wNet cI n0 n1 n2 n3 n4 n5 n6 N)) 7 [(0, .ref s0), (1, .ref n0), (2, .int x2)] [] (wSur cI cJ s0 s1 s2 s3 s4 s5 s6 S ++ wNet cI n0 n1 n2 n3 n4 n5 n6 N) := by
  intro fu
  induction fu with
  | zero =>
    intro S N x2 hf
    rw [g_X1_takeMeasures_7] at hf
    cases hf
  | succ fu ih =>
    intro S N x2 hf
    rw [g_X1_takeMeasures_7] at hf
    refine q_iload_n C dX1_takeMeasures_7 rfl 2 rfl ?_
    refine q_aload_n C dX1_takeMeasures_8 rfl 0 rfl ?_
    refine q_get C (uW uX1_in) 0 rfl rfl 5 (by decide) (ws_in xf_X1_28) rfl rfl dX1_takeMeasures_9 ?_
    refine q_alenI C 6 rfl dX1_takeMeasures_12 ?_
    refine q_icmp_ge C 29 dX1_takeMeasures_13 (by decide) (fun h => ?_) (fun h => ?_)
    · have hf := ifT hf h
      refine q_iconst (v := 0) C dX1_takeMeasures_29 (by decide) ?_
      refine q_istore_n (lv' := [(2, .int (0 : Int32)), (0, .ref s0), (1, .ref n0)]) C dX1_takeMeasures_30 rfl (by decide) rfl ?_
      refine q_sub (lv' := [(0, .ref s0), (1, .ref n0), (2, .int (0 : Int32))]) [1, 2, 0] rfl ?_
      exact l_X1_takeMeasures_31 C FU S N (0 : Int32) hf
    · have hf := ifF hf h
      refine q_aload_n C dX1_takeMeasures_16 rfl 0 rfl ?_
      refine q_get C (uW uX1_in) 0 rfl rfl 5 (by decide) (ws_in xf_X1_28) rfl rfl dX1_takeMeasures_17 ?_
      refine q_iload_n C dX1_takeMeasures_20 rfl 2 rfl ?_
      refine q_iconst (v := 0) C dX1_takeMeasures_21 (by decide) ?_
      obtain ⟨hg, hf⟩ := gd_some hf
      refine q_iast (ws' := wSur cI cJ s0 s1 s2 s3 s4 s5 s6 (S.1, S.2.1, S.2.2.1, S.2.2.2.1, S.2.2.2.2.1, (upd S.2.2.2.2.2.1 x2.toNatClampNeg (0 : Int32)), S.2.2.2.2.2.2) ++ wNet cI n0 n1 n2 n3 n4 n5 n6 N) C 6 rfl hg dX1_takeMeasures_22 rfl ?_
      refine q_iinc (v := (x2 + (1 : Int32))) (lv' := [(2, .int (x2 + (1 : Int32))), (0, .ref s0), (1, .ref n0)]) C dX1_takeMeasures_23 2 rfl rfl (by decide) rfl ?_
      refine q_goto C 7 dX1_takeMeasures_26 (by decide) ?_
      refine q_sub (lv' := [(0, .ref s0), (1, .ref n0), (2, .int (x2 + (1 : Int32)))]) [1, 2, 0] rfl ?_
      exact ih (S.1, S.2.1, S.2.2.1, S.2.2.2.1, S.2.2.2.2.1, (upd S.2.2.2.2.2.1 x2.toNatClampNeg (0 : Int32)), S.2.2.2.2.2.2) N (x2 + (1 : Int32)) hf
set_option maxRecDepth 100000 in
set_option maxHeartbeats 4000000 in
theorem c_X1_takeMeasures (l : Launch) (D : va_G) (cI cJ cN : ClassId) (s0 s1 s2 s3 s4 s5 s6 n0 n1 n2 n3 n4 n5 n6 : Nat)  (S : SS) (N : NS)  (z : SS) (hf : f_X1_takeMeasures S N = some z) : MV l D cI cJ cN yX1_takeMeasures (WS yX1_takeMeasures cX1_takeMeasures 3 none) { frames := 5, cells := 0, slots := 0, locals := 110 } [.ref s0, .ref n0] (wSur cI cJ s0 s1 s2 s3 s4 s5 s6 S ++ wNet cI n0 n1 n2 n3 n4 n5 n6 N) (fun w => w = wSur cI cJ s0 s1 s2 s3 s4 s5 s6 z ++ wNet cI n0 n1 n2 n3 n4 n5 n6 N) := by
  rw [f_X1_takeMeasures] at hf
  refine q_startV (lv := [(0, .ref s0), (1, .ref n0)]) (by decide +kernel) rfl (Nat.le_of_ble_eq_true rfl) ?_
  intro p e s m below meth c C hin
  refine q_aload_n C dX1_takeMeasures_0 rfl 0 rfl ?_
  refine q_aload_n C dX1_takeMeasures_1 rfl 1 rfl ?_
  obtain ⟨z1, h_z1, hf⟩ := bnd hf
  refine q_cVVw C (c_X1_readContacts l D cI cJ cN s0 s1 s2 s3 s4 s5 s6 n0 n1 n2 n3 n4 n5 n6 S N z1 h_z1) (mkV (fr := 3) (lo := 70) C xc_X1_readContacts xm_X1_64 xi_X1_readContacts xe_X1_readContacts xn_X1 hd_X1_readContacts ⟨Nat.le_of_ble_eq_true rfl, Nat.le_of_ble_eq_true rfl⟩) 0 rfl rfl rfl rfl (Nat.le_of_ble_eq_true rfl) dX1_takeMeasures_2 ⟨Nat.le_of_ble_eq_true rfl, Nat.le_of_ble_eq_true rfl⟩ (fun w1 hp1 => ?_)
  subst hp1
  refine q_iconst (v := 0) C dX1_takeMeasures_5 (by decide) ?_
  refine q_istore_n (lv' := [(2, .int (0 : Int32)), (0, .ref s0), (1, .ref n0)]) C dX1_takeMeasures_6 rfl (by decide) rfl ?_
  refine q_sub (lv' := [(0, .ref s0), (1, .ref n0), (2, .int (0 : Int32))]) [1, 2, 0] rfl ?_
  exact l_X1_takeMeasures_7 C FU z1 N (0 : Int32) hf
