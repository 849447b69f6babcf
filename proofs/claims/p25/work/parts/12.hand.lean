set_option maxRecDepth 100000 in
set_option maxHeartbeats 4000000 in
theorem c_X2_undo (l : Launch) (D : va_G) (cI cJ cN : ClassId) (x0 p0 i0 n0 n1 n2 n3 n4 n5 n6 s0 s1 s2 s3 s4 s5 s6 : Nat) (rp ri : Nat → Option Nat) (pl : va_W) (V : HS) (N : NS) (S : SS) (z : Int32 × HS × NS) (hpool : PoolOK cI V rp ri pl) (hf : f_X2_undo V N S = some z) : MI l D cI cJ cN yX2_undo (WS yX2_undo cX2_undo 1 (some .int)) { frames := 2, cells := 0, slots := 0, locals := 43 } [.ref x0] (wXX cI cJ cN x0 p0 i0 n0 n1 n2 n3 n4 n5 n6 s0 s1 s2 s3 s4 s5 s6 rp ri pl V N S) z.1 (XP cI cJ cN x0 p0 i0 n0 n1 n2 n3 n4 n5 n6 s0 s1 s2 s3 s4 s5 s6 z.2.1 z.2.2 S) := by
  unfold f_X2_undo at hf
  refine q_startI (lv := [(0, .ref x0)]) (by decide +kernel) rfl (Nat.le_of_ble_eq_true rfl) ?_
  intro p e s m below meth c C hin
  refine q_aload_n C dX2_undo_0 rfl 0 rfl ?_
  refine q_get C (uW uX2_in) 0 rfl rfl 4 (by decide) (ws_in xf_X2_30) rfl rfl dX2_undo_1 ?_
  refine q_iconst (v := 1) C dX2_undo_4 (by decide) ?_
  refine q_icmp_lt C 20 dX2_undo_5 (by decide) (fun h => ?_) (fun h => ?_)
  · have hf := ifT hf h
    have hf := Option.some.inj hf
    subst hf
    refine q_bipush (v := -2) C dX2_undo_20 (by decide) ?_
    exact q_iret C (Nat.le_of_ble_eq_true rfl) (Nat.le_of_ble_eq_true rfl) ⟨_, _, _, hpool, rfl⟩ dX2_undo_22
  · have hf := ifF hf h
    refine q_aload_n C dX2_undo_8 rfl 0 rfl ?_
    refine q_get C (uW uX2_in) 0 rfl rfl 4 (by decide) (ws_in xf_X2_30) rfl rfl dX2_undo_9 ?_
    refine q_aload_n C dX2_undo_12 rfl 0 rfl ?_
    refine q_get C (uW uX2_in) 0 rfl rfl 2 (by decide) (ws_in xf_X2_23) rfl rfl dX2_undo_13 ?_
    refine q_alenN C 1 rfl dX2_undo_16 ?_
    refine q_icmp_le C 23 dX2_undo_17 (by decide) (fun h2 => ?_) (fun h2 => ?_)
    · have hf := ifT hf h2
      obtain ⟨N', hN', hf⟩ := bnd hf
      have hf := Option.some.inj hf
      subst hf
      obtain ⟨v, vp, vi⟩ := V
      dsimp only at h h2 hN'
      obtain ⟨k, hk, hvk⟩ : ∃ k, k < 8 ∧ v = nI (k + 1) := by
        have h1 : ¬ v < 0 := fun h3 => h (by
          rw [Int32.lt_iff_toInt_lt] at h3 ⊢
          have : (1 : Int32).toInt = 1 := by decide
          have : (0 : Int32).toInt = 0 := by decide
          omega)
        obtain ⟨j, hj, rfl⟩ := nI_of h1
        have h5 := (nI_leI (by omega) (by omega)).mp h2
        have h6 : ¬ j < 1 := fun h7 => h (by have h8 := nI_lt h7 (show 1 < 2 ^ 31 by decide); rw [show nI 1 = 1 from by decide] at h8; exact h8)
        exact ⟨j - 1, by omega, by congr 1; omega⟩
      subst hvk
      have eI : nI (k + 1) - 1 = nI k := nI_pred k
      rw [eI, nI_clamp (by omega)] at hN'
      have hsv : slotVal (nI (k + 1), vp, vi) k = some N' := by unfold slotVal; rw [if_pos (by omega)]; exact hN'
      obtain ⟨r, hr⟩ := pool_some (by omega) hpool hsv
      have hrp : rp k = some r := (slotRef_p (by omega)).symm.trans hr
      refine q_aload_n C dX2_undo_23 rfl 0 rfl ?_
      refine q_dup C dX2_undo_24 rfl ?_
      refine q_get C (uW uX2_in) 0 rfl rfl 4 (by decide) (ws_in xf_X2_30) rfl rfl dX2_undo_25 ?_
      refine q_iconst (v := 1) C dX2_undo_28 (by decide) ?_
      refine q_isub C dX2_undo_29 ?_
      refine q_put (ws' := wXX cI cJ cN x0 p0 i0 n0 n1 n2 n3 n4 n5 n6 s0 s1 s2 s3 s4 s5 s6 rp ri pl (nI (k + 1) - 1, vp, vi) N S) (ty := .int) C (uW uX2_in) tyX2 tyX2_ok nmX2 0 rfl rfl 4 (by decide) (ws_in xf_X2_30) rfl rfl (by decide +kernel) rfl rfl (Nat.le_of_ble_eq_true rfl) dX2_undo_30 rfl ?_
      refine q_aload_n C dX2_undo_33 rfl 0 rfl ?_
      refine q_get C (uW uX2_in) 0 rfl rfl 0 (by decide) (ws_in xf_X2_10) rfl rfl dX2_undo_34 ?_
      refine q_aload_n C dX2_undo_37 rfl 0 rfl ?_
      refine q_get C (uW uX2_in) 0 rfl rfl 2 (by decide) (ws_in xf_X2_23) rfl rfl dX2_undo_38 ?_
      refine q_aload_n C dX2_undo_41 rfl 0 rfl ?_
      refine q_get C (uW uX2_in) 0 rfl rfl 4 (by decide) (ws_in xf_X2_30) rfl rfl dX2_undo_42 ?_
      refine q_aaldS (r := r) C 1 rfl (by rw [eI]; exact inB_nI hk (by omega)) (by rw [eI, nI_clamp (by omega)]; exact hrp) dX2_undo_45 ?_
      obtain ⟨L1, L2, ad, N1, rfl, rfl, hv, hnd, hns, hL, hno⟩ := pool_split (k := k) (by omega) hpool hr
      have eN : N1 = N' := Option.some.inj (hv.symm.trans hsv)
      subst eN
      refine q_perm (wXX_perm (poolW_mid cI _ L1 L2)) ?_
      obtain ⟨z, hz, hzN⟩ := copyFrom_ok N N1
      refine q_cVV (ws' := wNetA cI ad N1 ++ wXX cI cJ cN x0 p0 i0 n0 n1 n2 n3 n4 n5 n6 s0 s1 s2 s3 s4 s5 s6 rp ri (poolW cI (L1 ++ L2)) (nI (k + 1) - 1, vp, vi) z S) C (c_X0_copyFrom l D cI cJ cN n0 n1 n2 n3 n4 n5 n6 (ad 0) (ad 1) (ad 2) (ad 3) (ad 4) (ad 5) (ad 6) N N1 z hz) (mkV (fr := 1) (lo := 22) C xc_X0_copyFrom xm_X2_120 xi_X0_copyFrom xe_X0_copyFrom xn_X0 hd_X0_copyFrom ⟨Nat.le_of_ble_eq_true rfl, Nat.le_of_ble_eq_true rfl⟩) 0 rfl rfl [10, 11, 12, 13, 14, 15, 16, 0, 1, 2, 3, 4, 5, 6] rfl (by decide) rfl rfl rfl rfl (Nat.le_of_ble_eq_true rfl) dX2_undo_46 ⟨Nat.le_of_ble_eq_true rfl, Nat.le_of_ble_eq_true rfl⟩ ?_
      refine q_congr (ws' := wNetA cI ad N1 ++ wXX cI cJ cN x0 p0 i0 n0 n1 n2 n3 n4 n5 n6 s0 s1 s2 s3 s4 s5 s6 rp ri (poolW cI (L1 ++ L2)) (nI (k + 1) - 1, vp, vi) N1 S) (wNet_congr (wl := wNetA cI ad N1 ++ [(x0, .inr (2, [.ref n0, .ref s0, .ref p0, .ref i0, .int (((nI (k + 1) - 1, vp, vi) : HS)).1])), (p0, .inl (cN, 8, .inr (.inr (.inr (.inr rp))))), (i0, .inl (cN, 2, .inr (.inr (.inr (.inr ri)))))]) (wr := wSur cI cJ s0 s1 s2 s3 s4 s5 s6 S ++ poolW cI (L1 ++ L2)) hzN) rfl ?_
      refine q_perm (ws' := wXX cI cJ cN x0 p0 i0 n0 n1 n2 n3 n4 n5 n6 s0 s1 s2 s3 s4 s5 s6 rp ri (poolW cI (L1 ++ (k, ad, N1) :: L2)) (nI (k + 1) - 1, vp, vi) N1 S) (wXX_perm (poolW_mid cI (k, ad, N1) L1 L2)).symm ?_
      refine q_aload_n C dX2_undo_49 rfl 0 rfl ?_
      refine q_get C (uW uX2_in) 0 rfl rfl 4 (by decide) (ws_in xf_X2_30) rfl rfl dX2_undo_50 ?_
      have hpool2 : PoolOK cI (nI (k + 1) - 1, vp, vi) rp ri (poolW cI (L1 ++ (k, ad, N1) :: L2)) := hpool
      exact q_iret C (Nat.le_of_ble_eq_true rfl) (Nat.le_of_ble_eq_true rfl) ⟨_, _, _, hpool2, rfl⟩ dX2_undo_53
    · have hf := ifF hf h2
      have hf := Option.some.inj hf
      subst hf
      refine q_bipush (v := -2) C dX2_undo_20 (by decide) ?_
      exact q_iret C (Nat.le_of_ble_eq_true rfl) (Nat.le_of_ble_eq_true rfl) ⟨_, _, _, hpool, rfl⟩ dX2_undo_22
set_option maxRecDepth 100000 in
set_option maxHeartbeats 4000000 in
theorem c_X2_keep (l : Launch) (D : va_G) (cI cJ cN : ClassId) (x0 p0 i0 n0 n1 n2 n3 n4 n5 n6 s0 s1 s2 s3 s4 s5 s6 : Nat) (rp ri : Nat → Option Nat) (pl : va_W) (V : HS) (N : NS) (S : SS) (x1 : Int32) (z : Int32 × HS) (hpool : PoolOK cI V rp ri pl) (hf : f_X2_keep V N S x1 = some z) : MI l D cI cJ cN yX2_keep (WS yX2_keep cX2_keep 2 (some .int)) { frames := 5, cells := 7, slots := 356, locals := 112 } [.ref x0, .int x1] (wXX cI cJ cN x0 p0 i0 n0 n1 n2 n3 n4 n5 n6 s0 s1 s2 s3 s4 s5 s6 rp ri pl V N S) z.1 (XP cI cJ cN x0 p0 i0 n0 n1 n2 n3 n4 n5 n6 s0 s1 s2 s3 s4 s5 s6 z.2 N S) := by
  unfold f_X2_keep at hf
  refine q_startI (lv := [(0, .ref x0), (1, .int x1)]) (by decide +kernel) rfl (Nat.le_of_ble_eq_true rfl) ?_
  intro p e s m below meth c C hin
  refine q_iload_n C dX2_keep_0 rfl 1 rfl ?_
  refine q_if_lt C 13 dX2_keep_1 (by decide) (fun h => ?_) (fun h => ?_)
  · have hf := ifT hf h
    have hf := Option.some.inj hf
    subst hf
    refine q_iconst (v := -1) C dX2_keep_13 (by decide) ?_
    exact q_iret C (Nat.le_of_ble_eq_true rfl) (Nat.le_of_ble_eq_true rfl) ⟨_, _, _, hpool, rfl⟩ dX2_keep_14
  · have hf := ifF hf h
    refine q_iload_n C dX2_keep_4 rfl 1 rfl ?_
    refine q_aload_n C dX2_keep_5 rfl 0 rfl ?_
    refine q_get C (uW uX2_in) 0 rfl rfl 3 (by decide) (ws_in xf_X2_27) rfl rfl dX2_keep_6 ?_
    refine q_alenN C 2 rfl dX2_keep_9 ?_
    refine q_icmp_lt C 15 dX2_keep_10 (by decide) (fun h2 => ?_) (fun h2 => ?_)
    · have hf := ifT hf h2
      obtain ⟨j, hj, rfl⟩ := nI_of h
      have hj2 : j < 2 := (nI_ltI (by omega) (by omega)).mp h2
      obtain ⟨z1, h_z1, hf⟩ := bnd hf
      have hf := Option.some.inj hf
      rw [nI_clamp (by omega)] at hf
      subst hf
      refine q_aload_n C dX2_keep_15 rfl 0 rfl ?_
      refine q_aload_n C dX2_keep_16 rfl 0 rfl ?_
      refine q_get C (uW uX2_in) 0 rfl rfl 3 (by decide) (ws_in xf_X2_27) rfl rfl dX2_keep_17 ?_
      refine q_iload_n C dX2_keep_20 rfl 1 rfl ?_
      refine q_cVVw C (c_X2_storeNow_i l D cI cJ cN x0 p0 i0 n0 n1 n2 n3 n4 n5 n6 s0 s1 s2 s3 s4 s5 s6 rp ri pl V N S j hj2 hpool) (mkV (fr := 4) (ce := 7) (sl := 356) (lo := 89) C xc_X2_storeNow xm_X2_177 xi_X2_storeNow xe_X2_storeNow xn_X2 hd_X2_storeNow ⟨Nat.le_of_ble_eq_true rfl, Nat.le_of_ble_eq_true rfl⟩) 0 rfl rfl rfl rfl (Nat.le_of_ble_eq_true rfl) dX2_keep_21 ⟨Nat.le_of_ble_eq_true rfl, Nat.le_of_ble_eq_true rfl⟩ (fun w1 hp1 => ?_)
      obtain ⟨rp1, ri1, pl1, hpool1, rfl⟩ := hp1
      refine q_aload_n C dX2_keep_24 rfl 0 rfl ?_
      refine q_get C (uW uX2_in) 0 rfl rfl 0 (by decide) (ws_in xf_X2_10) rfl rfl dX2_keep_25 ?_
      refine q_cVI (ws' := wXX cI cJ cN x0 p0 i0 n0 n1 n2 n3 n4 n5 n6 s0 s1 s2 s3 s4 s5 s6 rp1 ri1 pl1 (V.1, V.2.1, (fun k => if k = j then some N else V.2.2 k)) N S) C (c_X0_countOfLinks l D cI cJ cN n0 n1 n2 n3 n4 n5 n6 N z1 h_z1) (mkV (fr := 2) (lo := 42) C xc_X0_countOfLinks xm_X2_127 xi_X0_countOfLinks xe_X0_countOfLinks xn_X0 hd_X0_countOfLinks ⟨Nat.le_of_ble_eq_true rfl, Nat.le_of_ble_eq_true rfl⟩) 0 rfl rfl [3, 4, 5, 6, 7, 8, 9] rfl (by decide) rfl rfl rfl rfl (Nat.le_of_ble_eq_true rfl) dX2_keep_28 ⟨Nat.le_of_ble_eq_true rfl, Nat.le_of_ble_eq_true rfl⟩ ?_
      exact q_iret C (Nat.le_of_ble_eq_true rfl) (Nat.le_of_ble_eq_true rfl) ⟨_, _, _, hpool1, rfl⟩ dX2_keep_31
    · have hf := ifF hf h2
      have hf := Option.some.inj hf
      subst hf
      refine q_iconst (v := -1) C dX2_keep_13 (by decide) ?_
      exact q_iret C (Nat.le_of_ble_eq_true rfl) (Nat.le_of_ble_eq_true rfl) ⟨_, _, _, hpool, rfl⟩ dX2_keep_14
theorem record_img {V : HS} {N : NS} {S : SS} {z : HS} (h : f_X2_record V N S = some z) : z.2.2 = V.2.2 := by
  unfold f_X2_record at h
  obtain ⟨-, h⟩ := gd_some h
  by_cases h8 : (8 : Int32) ≤ V.1
  · rw [if_pos h8] at h
    obtain ⟨-, h⟩ := gd_some h
    have h := Option.some.inj h
    subst h
    rfl
  · rw [if_neg h8] at h
    have h := Option.some.inj h
    subst h
    rfl
set_option maxRecDepth 100000 in
set_option maxHeartbeats 4000000 in
theorem c_X2_back (l : Launch) (D : va_G) (cI cJ cN : ClassId) (x0 p0 i0 n0 n1 n2 n3 n4 n5 n6 s0 s1 s2 s3 s4 s5 s6 : Nat) (rp ri : Nat → Option Nat) (pl : va_W) (V : HS) (N : NS) (S : SS) (x1 : Int32) (z : Int32 × HS × NS) (hpool : PoolOK cI V rp ri pl) (hf : f_X2_back V N S x1 = some z) : MI l D cI cJ cN yX2_back (WS yX2_back cX2_back 3 (some .int)) { frames := 6, cells := 7, slots := 356, locals := 132 } [.ref x0, .int x1] (wXX cI cJ cN x0 p0 i0 n0 n1 n2 n3 n4 n5 n6 s0 s1 s2 s3 s4 s5 s6 rp ri pl V N S) z.1 (XP cI cJ cN x0 p0 i0 n0 n1 n2 n3 n4 n5 n6 s0 s1 s2 s3 s4 s5 s6 z.2.1 z.2.2 S) := by
  unfold f_X2_back at hf
  refine q_startI (lv := [(0, .ref x0), (1, .int x1)]) (by decide +kernel) rfl (Nat.le_of_ble_eq_true rfl) ?_
  intro p e s m below meth c C hin
  refine q_iload_n C dX2_back_0 rfl 1 rfl ?_
  refine q_if_lt C 13 dX2_back_1 (by decide) (fun h => ?_) (fun h => ?_)
  · have hf := ifT hf h
    have hf := Option.some.inj hf
    subst hf
    refine q_iconst (v := -1) C dX2_back_13 (by decide) ?_
    exact q_iret C (Nat.le_of_ble_eq_true rfl) (Nat.le_of_ble_eq_true rfl) ⟨_, _, _, hpool, rfl⟩ dX2_back_14
  · have hf := ifF hf h
    refine q_iload_n C dX2_back_4 rfl 1 rfl ?_
    refine q_aload_n C dX2_back_5 rfl 0 rfl ?_
    refine q_get C (uW uX2_in) 0 rfl rfl 3 (by decide) (ws_in xf_X2_27) rfl rfl dX2_back_6 ?_
    refine q_alenN C 2 rfl dX2_back_9 ?_
    refine q_icmp_lt C 15 dX2_back_10 (by decide) (fun h2 => ?_) (fun h2 => ?_)
    · have hf := ifT hf h2
      obtain ⟨j, hj, rfl⟩ := nI_of h
      have hj2 : j < 2 := (nI_ltI (by omega) (by omega)).mp h2
      have hj31 : j < 2 ^ 31 := hj
      rw [nI_clamp hj31] at hf
      have hsr : slotRef rp ri (8 + j) = ri j := by unfold slotRef; rw [if_neg (by omega), show 8 + j - 8 = j by omega]
      have hsv : slotVal V (8 + j) = V.2.2 j := by unfold slotVal; rw [if_neg (by omega), show 8 + j - 8 = j by omega]
      refine q_aload_n C dX2_back_15 rfl 0 rfl ?_
      refine q_get C (uW uX2_in) 0 rfl rfl 3 (by decide) (ws_in xf_X2_27) rfl rfl dX2_back_16 ?_
      refine q_iload_n C dX2_back_19 rfl 1 rfl ?_
      cases hv : V.2.2 j with
      | none =>
        rw [hv] at hf
        have hf := Option.some.inj hf
        subst hf
        have hr : ri j = none := by
          cases hr : ri j with
          | none => rfl
          | some r =>
            obtain ⟨_, _, _, N1, _, _, h5, _⟩ := pool_split (k := 8 + j) (by omega) hpool (hsr.trans hr)
            rw [hsv, hv] at h5
            cases h5
        refine q_aaldN C 2 rfl (inB_nI hj2 (by omega)) (by rw [nI_clamp hj31]; exact hr) dX2_back_20 ?_
        refine q_astore_nN (lv' := [(2, .null), (0, .ref x0), (1, .int (nI j))]) C dX2_back_21 rfl (by decide) rfl ?_
        refine q_aload_nN C dX2_back_22 rfl 0 rfl ?_
        refine q_ifnonnullN C dX2_back_23 ?_
        refine q_bipush (v := -2) C dX2_back_26 (by decide) ?_
        exact q_iret C (Nat.le_of_ble_eq_true rfl) (Nat.le_of_ble_eq_true rfl) ⟨_, _, _, hpool, rfl⟩ dX2_back_28
      | some N' =>
        rw [hv] at hf
        obtain ⟨V1, hV1, hf⟩ := bnd hf
        obtain ⟨z1, h_z1, hf⟩ := bnd hf
        have hf := Option.some.inj hf
        subst hf
        obtain ⟨r, hr⟩ := pool_some (by omega) hpool (hsv.trans hv)
        refine q_aaldS (r := r) C 2 rfl (inB_nI hj2 (by omega)) (by rw [nI_clamp hj31]; exact hsr.symm.trans hr) dX2_back_20 ?_
        refine q_astore_n (lv' := [(2, .ref r), (0, .ref x0), (1, .int (nI j))]) C dX2_back_21 rfl (by decide) rfl ?_
        refine q_aload_n C dX2_back_22 rfl 0 rfl ?_
        refine q_ifnonnull C 29 dX2_back_23 (by decide) ?_
        refine q_aload_n C dX2_back_29 rfl 1 rfl ?_
        refine q_cVVw C (c_X2_record l D cI cJ cN x0 p0 i0 n0 n1 n2 n3 n4 n5 n6 s0 s1 s2 s3 s4 s5 s6 rp ri pl V N S V1 hpool hV1) (mkV (fr := 5) (ce := 7) (sl := 356) (lo := 112) C xc_X2_record xm_X2_34 xi_X2_record xe_X2_record xn_X2 hd_X2_record ⟨Nat.le_of_ble_eq_true rfl, Nat.le_of_ble_eq_true rfl⟩) 0 rfl rfl rfl rfl (Nat.le_of_ble_eq_true rfl) dX2_back_30 ⟨Nat.le_of_ble_eq_true rfl, Nat.le_of_ble_eq_true rfl⟩ (fun w1 hp1 => ?_)
        obtain ⟨rp1, pl1, hpool1, rfl⟩ := hp1
        have hsr1 : slotRef rp1 ri (8 + j) = some r := by
          have : slotRef rp1 ri (8 + j) = ri j := by unfold slotRef; rw [if_neg (by omega), show 8 + j - 8 = j by omega]
          rw [this, ← hsr]; exact hr
        have hsv1 : slotVal V1 (8 + j) = some N' := by
          have : slotVal V1 (8 + j) = V1.2.2 j := by unfold slotVal; rw [if_neg (by omega), show 8 + j - 8 = j by omega]
          rw [this, record_img hV1, hv]
        refine q_aload_n C dX2_back_33 rfl 1 rfl ?_
        refine q_get C (uW uX2_in) 0 rfl rfl 0 (by decide) (ws_in xf_X2_10) rfl rfl dX2_back_34 ?_
        refine q_aload_n C dX2_back_37 rfl 0 rfl ?_
        obtain ⟨L1, L2, ad, N1, rfl, rfl, hv5, -⟩ := pool_split (k := 8 + j) (by omega) hpool1 hsr1
        have eN : N1 = N' := Option.some.inj (hv5.symm.trans hsv1)
        subst eN
        refine q_perm (wXX_perm (poolW_mid cI _ L1 L2)) ?_
        obtain ⟨z, hz, hzN⟩ := copyFrom_ok N N1
        refine q_cVV (ws' := wNetA cI ad N1 ++ wXX cI cJ cN x0 p0 i0 n0 n1 n2 n3 n4 n5 n6 s0 s1 s2 s3 s4 s5 s6 rp1 ri (poolW cI (L1 ++ L2)) V1 z S) C (c_X0_copyFrom l D cI cJ cN n0 n1 n2 n3 n4 n5 n6 (ad 0) (ad 1) (ad 2) (ad 3) (ad 4) (ad 5) (ad 6) N N1 z hz) (mkV (fr := 1) (lo := 22) C xc_X0_copyFrom xm_X2_120 xi_X0_copyFrom xe_X0_copyFrom xn_X0 hd_X0_copyFrom ⟨Nat.le_of_ble_eq_true rfl, Nat.le_of_ble_eq_true rfl⟩) 0 rfl rfl [10, 11, 12, 13, 14, 15, 16, 0, 1, 2, 3, 4, 5, 6] rfl (by decide) rfl rfl rfl rfl (Nat.le_of_ble_eq_true rfl) dX2_back_38 ⟨Nat.le_of_ble_eq_true rfl, Nat.le_of_ble_eq_true rfl⟩ ?_
        refine q_congr (ws' := wNetA cI ad N1 ++ wXX cI cJ cN x0 p0 i0 n0 n1 n2 n3 n4 n5 n6 s0 s1 s2 s3 s4 s5 s6 rp1 ri (poolW cI (L1 ++ L2)) V1 N1 S) (wNet_congr (wl := wNetA cI ad N1 ++ [(x0, .inr (2, [.ref n0, .ref s0, .ref p0, .ref i0, .int (V1).1])), (p0, .inl (cN, 8, .inr (.inr (.inr (.inr rp1))))), (i0, .inl (cN, 2, .inr (.inr (.inr (.inr ri)))))]) (wr := wSur cI cJ s0 s1 s2 s3 s4 s5 s6 S ++ poolW cI (L1 ++ L2)) hzN) rfl ?_
        refine q_perm (ws' := wXX cI cJ cN x0 p0 i0 n0 n1 n2 n3 n4 n5 n6 s0 s1 s2 s3 s4 s5 s6 rp1 ri (poolW cI (L1 ++ (8 + j, ad, N1) :: L2)) V1 N1 S) (wXX_perm (poolW_mid cI (8 + j, ad, N1) L1 L2)).symm ?_
        refine q_aload_n C dX2_back_41 rfl 1 rfl ?_
        refine q_get C (uW uX2_in) 0 rfl rfl 0 (by decide) (ws_in xf_X2_10) rfl rfl dX2_back_42 ?_
        refine q_cVI (ws' := wXX cI cJ cN x0 p0 i0 n0 n1 n2 n3 n4 n5 n6 s0 s1 s2 s3 s4 s5 s6 rp1 ri (poolW cI (L1 ++ (8 + j, ad, N1) :: L2)) V1 N1 S) C (c_X0_countOfLinks l D cI cJ cN n0 n1 n2 n3 n4 n5 n6 N1 z1 h_z1) (mkV (fr := 2) (lo := 42) C xc_X0_countOfLinks xm_X2_127 xi_X0_countOfLinks xe_X0_countOfLinks xn_X0 hd_X0_countOfLinks ⟨Nat.le_of_ble_eq_true rfl, Nat.le_of_ble_eq_true rfl⟩) 0 rfl rfl [3, 4, 5, 6, 7, 8, 9] rfl (by decide) rfl rfl rfl rfl (Nat.le_of_ble_eq_true rfl) dX2_back_45 ⟨Nat.le_of_ble_eq_true rfl, Nat.le_of_ble_eq_true rfl⟩ ?_
        exact q_iret C (Nat.le_of_ble_eq_true rfl) (Nat.le_of_ble_eq_true rfl) ⟨_, _, _, hpool1, rfl⟩ dX2_back_48
    · have hf := ifF hf h2
      have hf := Option.some.inj hf
      subst hf
      refine q_iconst (v := -1) C dX2_back_13 (by decide) ?_
      exact q_iret C (Nat.le_of_ble_eq_true rfl) (Nat.le_of_ble_eq_true rfl) ⟨_, _, _, hpool, rfl⟩ dX2_back_14
set_option maxRecDepth 100000 in
set_option maxHeartbeats 4000000 in
theorem c_X2_init (l : Launch) (D : va_G) (cI cJ cN : ClassId) (x0 : Nat) (N : NS) (S : SS) (hN : f_X0_init = some N) (hS0 : f_X1_init = some S) : MV l D cI cJ cN yX2_init (WS yX2_init cX2_init 1 none) { frames := 4, cells := 16, slots := 626, locals := 89 } [.ref x0] [(x0, .inr (2, [.null, .null, .null, .null, .int 0]))] (fun w => ∃ p0 i0 n0 n1 n2 n3 n4 n5 n6 s0 s1 s2 s3 s4 s5 s6 : Nat, XP cI cJ cN x0 p0 i0 n0 n1 n2 n3 n4 n5 n6 s0 s1 s2 s3 s4 s5 s6 (0, (fun _ => none), (fun _ => none)) N S w) := by
  refine q_startV (lv := [(0, .ref x0)]) (by decide +kernel) rfl (Nat.le_of_ble_eq_true rfl) ?_
  intro p e s m below meth c C hin
  refine q_aload_n C dX2_init_0 rfl 0 rfl ?_
  refine q_objInit C (ws_in xo_X2) (ws_in xo_inst) (ws_in xo_code) (Nat.le_of_ble_eq_true rfl) (Nat.le_of_ble_eq_true rfl) dX2_init_1 ?_
  refine q_aload_n C dX2_init_4 rfl 0 rfl ?_
  refine q_new (ci := 0) (fs := [.int 0, .int 0, .long 0, .null, .null, .null, .null, .null, .null]) C (uW uX0_in) tyX0 tyX0_ok (ws_in xl_X2_7) (ws_in xt_X0) (ws_in xn_X0) rfl (fun j hj => by rcases (show j = 0 ∨ j = 1 ∨ j = 2 ∨ j = 3 ∨ j = 4 ∨ j = 5 ∨ j = 6 ∨ j = 7 ∨ j = 8 by omega) with rfl | rfl | rfl | rfl | rfl | rfl | rfl | rfl | rfl <;> rfl) (Nat.le_of_ble_eq_true rfl) (Nat.le_of_ble_eq_true rfl) dX2_init_5 (fun n0 => ?_)
  refine q_dup C dX2_init_8 rfl ?_
  refine q_cI (wr := [(x0, .inr (2, [.null, .null, .null, .null, .int 0]))]) (wc := [(n0, .inr (0, [.int 0, .int 0, .long 0, .null, .null, .null, .null, .null, .null]))]) C (c_X0_init l D cI cJ cN n0 N hN) (mkI (rt := none) (fr := 3) (lo := 69) C xc_X0_init xm_X2_9 xi_X0_init xn_X0 rfl hd_X0_init ⟨Nat.le_of_ble_eq_true rfl, Nat.le_of_ble_eq_true rfl⟩) rfl rfl rfl (Nat.le_of_ble_eq_true rfl) dX2_init_9 ⟨Nat.le_of_ble_eq_true rfl, Nat.le_of_ble_eq_true rfl⟩ (fun w1 hp1 => ?_)
  obtain ⟨n1, n2, n3, n4, n5, n6, rfl⟩ := hp1
  refine q_putF (ws' := [(x0, .inr (2, [.ref n0, .null, .null, .null, .int 0]))] ++ wNet cI n0 n1 n2 n3 n4 n5 n6 N) (ty := .object "LinkRewirer$Network") C (uW uX2_in) tyX2 tyX2_ok nmX2 0 rfl rfl 0 (by decide) (ws_in xf_X2_10) rfl rfl (hin rfl) rfl (by decide +kernel) rfl rfl (Nat.le_of_ble_eq_true rfl) dX2_init_12 rfl ?_
  refine q_aload_n C dX2_init_15 rfl 0 rfl ?_
  refine q_new (ci := 1) (fs := [.null, .null, .null, .null, .null, .null, .int 0]) C (uW uX1_in) tyX1 tyX1_ok (ws_in xl_X2_16) (ws_in xt_X1) (ws_in xn_X1) rfl (fun j hj => by rcases (show j = 0 ∨ j = 1 ∨ j = 2 ∨ j = 3 ∨ j = 4 ∨ j = 5 ∨ j = 6 by omega) with rfl | rfl | rfl | rfl | rfl | rfl | rfl <;> rfl) (Nat.le_of_ble_eq_true rfl) (Nat.le_of_ble_eq_true rfl) dX2_init_16 (fun s0 => ?_)
  refine q_dup C dX2_init_19 rfl ?_
  refine q_cI (wr := (x0, .inr (2, [.ref n0, .null, .null, .null, .int 0])) :: wNet cI n0 n1 n2 n3 n4 n5 n6 N) (wc := [(s0, .inr (1, [.null, .null, .null, .null, .null, .null, .int 0]))]) C (c_X1_init l D cI cJ cN s0 S hS0) (mkI (rt := none) (fr := 1) (lo := 13) C xc_X1_init xm_X2_18 xi_X1_init xn_X1 rfl hd_X1_init ⟨Nat.le_of_ble_eq_true rfl, Nat.le_of_ble_eq_true rfl⟩) rfl rfl rfl (Nat.le_of_ble_eq_true rfl) dX2_init_20 ⟨Nat.le_of_ble_eq_true rfl, Nat.le_of_ble_eq_true rfl⟩ (fun w1 hp1 => ?_)
  obtain ⟨s1, s2, s3, s4, s5, s6, rfl⟩ := hp1
  refine q_putF (ws' := (x0, .inr (2, [.ref n0, .ref s0, .null, .null, .int 0])) :: (wNet cI n0 n1 n2 n3 n4 n5 n6 N ++ wSur cI cJ s0 s1 s2 s3 s4 s5 s6 S)) (ty := .object "LinkRewirer$Survey") C (uW uX2_in) tyX2 tyX2_ok nmX2 0 rfl rfl 1 (by decide) (ws_in xf_X2_19) rfl rfl (hin rfl) rfl (by decide +kernel) rfl rfl (Nat.le_of_ble_eq_true rfl) dX2_init_23 rfl ?_
  refine q_aload_n C dX2_init_26 rfl 0 rfl ?_
  refine q_bipush (v := 8) C dX2_init_27 (by decide) ?_
  refine q_newq (N' := 8) C (ws_in xl_X2_7) (by decide) (by decide) (Nat.le_of_ble_eq_true rfl) (Nat.le_of_ble_eq_true rfl) (Nat.le_of_ble_eq_true rfl) dX2_init_29 (fun p0 => ?_)
  refine q_putF (ws' := (x0, .inr (2, [.ref n0, .ref s0, .ref p0, .null, .int 0])) :: (wNet cI n0 n1 n2 n3 n4 n5 n6 N ++ (wSur cI cJ s0 s1 s2 s3 s4 s5 s6 S ++ [(p0, .inl (cN, 8, .inr (.inr (.inr (.inr (fun _ => none))))))]))) (ty := .array (.object "LinkRewirer$Network")) C (uW uX2_in) tyX2 tyX2_ok nmX2 0 rfl rfl 2 (by decide) (ws_in xf_X2_23) rfl rfl (hin rfl) rfl (by decide +kernel) rfl rfl (Nat.le_of_ble_eq_true rfl) dX2_init_32 rfl ?_
  refine q_aload_n C dX2_init_35 rfl 0 rfl ?_
  refine q_iconst (v := 2) C dX2_init_36 (by decide) ?_
  refine q_newq (N' := 2) C (ws_in xl_X2_7) (by decide) (by decide) (Nat.le_of_ble_eq_true rfl) (Nat.le_of_ble_eq_true rfl) (Nat.le_of_ble_eq_true rfl) dX2_init_37 (fun i0 => ?_)
  refine q_putF (ws' := (x0, .inr (2, [.ref n0, .ref s0, .ref p0, .ref i0, .int 0])) :: (wNet cI n0 n1 n2 n3 n4 n5 n6 N ++ (wSur cI cJ s0 s1 s2 s3 s4 s5 s6 S ++ [(p0, .inl (cN, 8, .inr (.inr (.inr (.inr (fun _ => none)))))), (i0, .inl (cN, 2, .inr (.inr (.inr (.inr (fun _ => none))))))]))) (ty := .array (.object "LinkRewirer$Network")) C (uW uX2_in) tyX2 tyX2_ok nmX2 0 rfl rfl 3 (by decide) (ws_in xf_X2_27) rfl rfl (hin rfl) rfl (by decide +kernel) rfl rfl (Nat.le_of_ble_eq_true rfl) dX2_init_40 rfl ?_
  refine q_aload_n C dX2_init_43 rfl 0 rfl ?_
  refine q_iconst (v := 0) C dX2_init_44 (by decide) ?_
  refine q_put (ws' := (x0, .inr (2, [.ref n0, .ref s0, .ref p0, .ref i0, .int 0])) :: (wNet cI n0 n1 n2 n3 n4 n5 n6 N ++ (wSur cI cJ s0 s1 s2 s3 s4 s5 s6 S ++ [(p0, .inl (cN, 8, .inr (.inr (.inr (.inr (fun _ => none)))))), (i0, .inl (cN, 2, .inr (.inr (.inr (.inr (fun _ => none))))))]))) (ty := .int) C (uW uX2_in) tyX2 tyX2_ok nmX2 0 rfl rfl 4 (by decide) (ws_in xf_X2_30) rfl rfl (by decide +kernel) rfl rfl (Nat.le_of_ble_eq_true rfl) dX2_init_45 rfl ?_
  refine q_perm (ws' := wXX cI cJ cN x0 p0 i0 n0 n1 n2 n3 n4 n5 n6 s0 s1 s2 s3 s4 s5 s6 (fun _ => none) (fun _ => none) [] (0, (fun _ => none), (fun _ => none)) N S) (show ((x0, .inr (2, [.ref n0, .ref s0, .ref p0, .ref i0, .int 0])) :: (wNet cI n0 n1 n2 n3 n4 n5 n6 N ++ (wSur cI cJ s0 s1 s2 s3 s4 s5 s6 S ++ [(p0, .inl (cN, 8, .inr (.inr (.inr (.inr (fun _ => none)))))), (i0, .inl (cN, 2, .inr (.inr (.inr (.inr (fun _ => none))))))]))).Perm ((x0, .inr (2, [.ref n0, .ref s0, .ref p0, .ref i0, .int 0])) :: ([(p0, .inl (cN, 8, .inr (.inr (.inr (.inr (fun _ => none)))))), (i0, .inl (cN, 2, .inr (.inr (.inr (.inr (fun _ => none))))))] ++ (wNet cI n0 n1 n2 n3 n4 n5 n6 N ++ wSur cI cJ s0 s1 s2 s3 s4 s5 s6 S))) from List.Perm.cons _ (by rw [← List.append_assoc]; exact List.perm_append_comm)) ?_
  have hpool : PoolOK cI (0, (fun _ => none), (fun _ => none)) (fun _ => none) (fun _ => none) [] := ⟨[], rfl, List.nodup_nil, (fun q hq => absurd hq List.not_mem_nil), fun k hk _ => ⟨by unfold slotRef; split <;> rfl, by unfold slotVal; split <;> rfl⟩⟩
  exact q_vret C (Nat.le_of_ble_eq_true rfl) (Nat.le_of_ble_eq_true rfl) ⟨p0, i0, n0, n1, n2, n3, n4, n5, n6, s0, s1, s2, s3, s4, s5, s6, _, _, _, hpool, rfl⟩ dX2_init_48
