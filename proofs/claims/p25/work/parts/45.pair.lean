/-! ===== two networks, changed alike: one reference stands for both ===== -/
section PAIR
variable {V Vq : HS} {N Nq : NS} {M : MS}
theorem pr_begin (h : Rel V N M) (k : Rel Vq Nq M) (S Sq : SS) (a1 a2 : Int32) : ∃ (r : Int32) (V1 : HS) (N1 : NS) (S1 : SS) (V2 : HS) (N2 : NS) (S2 : SS) (M1 : MS), (f_X2_begin V N S a1 a2).bind (fun z => some (z.1, z.2.1, z.2.2, S)) = some (r, V1, N1, S1) ∧ (f_X2_begin Vq Nq Sq a1 a2).bind (fun z => some (z.1, z.2.1, z.2.2, Sq)) = some (r, V2, N2, S2) ∧ Rel V1 N1 M1 ∧ Rel V2 N2 M1 := by
  obtain ⟨r, V', N', M', e1, e2, e3⟩ := st_begin S h a1 a2
  obtain ⟨r2, V2, N2, M2, g1, g2, g3⟩ := st_begin Sq k a1 a2
  rw [e2] at g2
  obtain ⟨q1, q2⟩ := Prod.mk.inj (Option.some.inj g2)
  subst q1
  subst q2
  rw [e1, g1, Option.bind_some, Option.bind_some]
  exact ⟨_, _, _, _, _, _, _, _, rfl, rfl, e3, g3⟩
theorem pr_link (h : Rel V N M) (k : Rel Vq Nq M) (S Sq : SS) (a1 a2 : Int32) : ∃ (r : Int32) (V1 : HS) (N1 : NS) (S1 : SS) (V2 : HS) (N2 : NS) (S2 : SS) (M1 : MS), (f_X2_link V N S a1 a2).bind (fun z => some (z.1, z.2.1, z.2.2, S)) = some (r, V1, N1, S1) ∧ (f_X2_link Vq Nq Sq a1 a2).bind (fun z => some (z.1, z.2.1, z.2.2, Sq)) = some (r, V2, N2, S2) ∧ Rel V1 N1 M1 ∧ Rel V2 N2 M1 := by
  obtain ⟨r, V', N', M', e1, e2, e3⟩ := st_link S h a1 a2
  obtain ⟨r2, V2, N2, M2, g1, g2, g3⟩ := st_link Sq k a1 a2
  rw [e2] at g2
  obtain ⟨q1, q2⟩ := Prod.mk.inj (Option.some.inj g2)
  subst q1
  subst q2
  rw [e1, g1, Option.bind_some, Option.bind_some]
  exact ⟨_, _, _, _, _, _, _, _, rfl, rfl, e3, g3⟩
theorem pr_unlink (h : Rel V N M) (k : Rel Vq Nq M) (S Sq : SS) (a1 a2 : Int32) : ∃ (r : Int32) (V1 : HS) (N1 : NS) (S1 : SS) (V2 : HS) (N2 : NS) (S2 : SS) (M1 : MS), (f_X2_unlink V N S a1 a2).bind (fun z => some (z.1, z.2.1, z.2.2, S)) = some (r, V1, N1, S1) ∧ (f_X2_unlink Vq Nq Sq a1 a2).bind (fun z => some (z.1, z.2.1, z.2.2, Sq)) = some (r, V2, N2, S2) ∧ Rel V1 N1 M1 ∧ Rel V2 N2 M1 := by
  obtain ⟨r, V', N', M', e1, e2, e3⟩ := st_unlink S h a1 a2
  obtain ⟨r2, V2, N2, M2, g1, g2, g3⟩ := st_unlink Sq k a1 a2
  rw [e2] at g2
  obtain ⟨q1, q2⟩ := Prod.mk.inj (Option.some.inj g2)
  subst q1
  subst q2
  rw [e1, g1, Option.bind_some, Option.bind_some]
  exact ⟨_, _, _, _, _, _, _, _, rfl, rfl, e3, g3⟩
theorem pr_drawLink (h : Rel V N M) (k : Rel Vq Nq M) (S Sq : SS) (a1 a2 : Int32) : ∃ (r : Int32) (V1 : HS) (N1 : NS) (S1 : SS) (V2 : HS) (N2 : NS) (S2 : SS) (M1 : MS), (f_X2_drawLink V N S a1 a2).bind (fun z => some (z.1, z.2.1, z.2.2, S)) = some (r, V1, N1, S1) ∧ (f_X2_drawLink Vq Nq Sq a1 a2).bind (fun z => some (z.1, z.2.1, z.2.2, Sq)) = some (r, V2, N2, S2) ∧ Rel V1 N1 M1 ∧ Rel V2 N2 M1 := by
  obtain ⟨r, V', N', M', e1, e2, e3⟩ := st_drawLink S h a1 a2
  obtain ⟨r2, V2, N2, M2, g1, g2, g3⟩ := st_drawLink Sq k a1 a2
  rw [e2] at g2
  obtain ⟨q1, q2⟩ := Prod.mk.inj (Option.some.inj g2)
  subst q1
  subst q2
  rw [e1, g1, Option.bind_some, Option.bind_some]
  exact ⟨_, _, _, _, _, _, _, _, rfl, rfl, e3, g3⟩
theorem pr_seek (h : Rel V N M) (k : Rel Vq Nq M) (S Sq : SS) (a1 a2 : Int32) : ∃ (r : Int32) (V1 : HS) (N1 : NS) (S1 : SS) (V2 : HS) (N2 : NS) (S2 : SS) (M1 : MS), (f_X2_seek V N S a1 a2).bind (fun z => some (z.1, z.2.1, z.2.2.1, z.2.2.2)) = some (r, V1, N1, S1) ∧ (f_X2_seek Vq Nq Sq a1 a2).bind (fun z => some (z.1, z.2.1, z.2.2.1, z.2.2.2)) = some (r, V2, N2, S2) ∧ Rel V1 N1 M1 ∧ Rel V2 N2 M1 := by
  obtain ⟨r, V', N', S', M', e1, e2, e3⟩ := st_seek S h a1 a2
  obtain ⟨r2, V2, N2, S2, M2, g1, g2, g3⟩ := st_seek Sq k a1 a2
  rw [e2] at g2
  obtain ⟨q1, q2⟩ := Prod.mk.inj (Option.some.inj g2)
  subst q1
  subst q2
  rw [e1, g1, Option.bind_some, Option.bind_some]
  exact ⟨_, _, _, _, _, _, _, _, rfl, rfl, e3, g3⟩
theorem pr_seekSome (h : Rel V N M) (k : Rel Vq Nq M) (S Sq : SS) (a1 : Int32) : ∃ (r : Int32) (V1 : HS) (N1 : NS) (S1 : SS) (V2 : HS) (N2 : NS) (S2 : SS) (M1 : MS), (f_X2_seekSome V N S a1).bind (fun z => some (z.1, z.2.1, z.2.2.1, z.2.2.2)) = some (r, V1, N1, S1) ∧ (f_X2_seekSome Vq Nq Sq a1).bind (fun z => some (z.1, z.2.1, z.2.2.1, z.2.2.2)) = some (r, V2, N2, S2) ∧ Rel V1 N1 M1 ∧ Rel V2 N2 M1 := by
  obtain ⟨r, V', N', S', M', e1, e2, e3⟩ := st_seekSome S h a1
  obtain ⟨r2, V2, N2, S2, M2, g1, g2, g3⟩ := st_seekSome Sq k a1
  rw [e2] at g2
  obtain ⟨q1, q2⟩ := Prod.mk.inj (Option.some.inj g2)
  subst q1
  subst q2
  rw [e1, g1, Option.bind_some, Option.bind_some]
  exact ⟨_, _, _, _, _, _, _, _, rfl, rfl, e3, g3⟩
theorem pr_exchange (h : Rel V N M) (k : Rel Vq Nq M) (S Sq : SS) (a1 a2 : Int32) : ∃ (r : Int32) (V1 : HS) (N1 : NS) (S1 : SS) (V2 : HS) (N2 : NS) (S2 : SS) (M1 : MS), (f_X2_exchange V N S a1 a2).bind (fun z => some (z.1, z.2.1, z.2.2, S)) = some (r, V1, N1, S1) ∧ (f_X2_exchange Vq Nq Sq a1 a2).bind (fun z => some (z.1, z.2.1, z.2.2, Sq)) = some (r, V2, N2, S2) ∧ Rel V1 N1 M1 ∧ Rel V2 N2 M1 := by
  obtain ⟨r, V', N', M', e1, e2, e3⟩ := st_exchange S h a1 a2
  obtain ⟨r2, V2, N2, M2, g1, g2, g3⟩ := st_exchange Sq k a1 a2
  rw [e2] at g2
  obtain ⟨q1, q2⟩ := Prod.mk.inj (Option.some.inj g2)
  subst q1
  subst q2
  rw [e1, g1, Option.bind_some, Option.bind_some]
  exact ⟨_, _, _, _, _, _, _, _, rfl, rfl, e3, g3⟩
theorem pr_leave (h : Rel V N M) (k : Rel Vq Nq M) (S Sq : SS) (a1 : Int32) : ∃ (r : Int32) (V1 : HS) (N1 : NS) (S1 : SS) (V2 : HS) (N2 : NS) (S2 : SS) (M1 : MS), (f_X2_leave V N S a1).bind (fun z => some (z.1, z.2.1, z.2.2, S)) = some (r, V1, N1, S1) ∧ (f_X2_leave Vq Nq Sq a1).bind (fun z => some (z.1, z.2.1, z.2.2, Sq)) = some (r, V2, N2, S2) ∧ Rel V1 N1 M1 ∧ Rel V2 N2 M1 := by
  obtain ⟨r, V', N', M', e1, e2, e3⟩ := st_leave S h a1
  obtain ⟨r2, V2, N2, M2, g1, g2, g3⟩ := st_leave Sq k a1
  rw [e2] at g2
  obtain ⟨q1, q2⟩ := Prod.mk.inj (Option.some.inj g2)
  subst q1
  subst q2
  rw [e1, g1, Option.bind_some, Option.bind_some]
  exact ⟨_, _, _, _, _, _, _, _, rfl, rfl, e3, g3⟩
theorem pr_enter (h : Rel V N M) (k : Rel Vq Nq M) (S Sq : SS) (a1 : Int32) : ∃ (r : Int32) (V1 : HS) (N1 : NS) (S1 : SS) (V2 : HS) (N2 : NS) (S2 : SS) (M1 : MS), (f_X2_enter V N S a1).bind (fun z => some (z.1, z.2.1, z.2.2, S)) = some (r, V1, N1, S1) ∧ (f_X2_enter Vq Nq Sq a1).bind (fun z => some (z.1, z.2.1, z.2.2, Sq)) = some (r, V2, N2, S2) ∧ Rel V1 N1 M1 ∧ Rel V2 N2 M1 := by
  obtain ⟨r, V', N', M', e1, e2, e3⟩ := st_enter S h a1
  obtain ⟨r2, V2, N2, M2, g1, g2, g3⟩ := st_enter Sq k a1
  rw [e2] at g2
  obtain ⟨q1, q2⟩ := Prod.mk.inj (Option.some.inj g2)
  subst q1
  subst q2
  rw [e1, g1, Option.bind_some, Option.bind_some]
  exact ⟨_, _, _, _, _, _, _, _, rfl, rfl, e3, g3⟩
theorem pr_set (h : Rel V N M) (k : Rel Vq Nq M) (S Sq : SS) (a1 a2 : Int32) : ∃ (r : Int32) (V1 : HS) (N1 : NS) (S1 : SS) (V2 : HS) (N2 : NS) (S2 : SS) (M1 : MS), (f_X2_set V N S a1 a2).bind (fun z => some (z.1, z.2.1, z.2.2, S)) = some (r, V1, N1, S1) ∧ (f_X2_set Vq Nq Sq a1 a2).bind (fun z => some (z.1, z.2.1, z.2.2, Sq)) = some (r, V2, N2, S2) ∧ Rel V1 N1 M1 ∧ Rel V2 N2 M1 := by
  obtain ⟨r, V', N', M', e1, e2, e3⟩ := st_set S h a1 a2
  obtain ⟨r2, V2, N2, M2, g1, g2, g3⟩ := st_set Sq k a1 a2
  rw [e2] at g2
  obtain ⟨q1, q2⟩ := Prod.mk.inj (Option.some.inj g2)
  subst q1
  subst q2
  rw [e1, g1, Option.bind_some, Option.bind_some]
  exact ⟨_, _, _, _, _, _, _, _, rfl, rfl, e3, g3⟩
theorem pr_undo (h : Rel V N M) (k : Rel Vq Nq M) (S Sq : SS) : ∃ (r : Int32) (V1 : HS) (N1 : NS) (S1 : SS) (V2 : HS) (N2 : NS) (S2 : SS) (M1 : MS), (f_X2_undo V N S ).bind (fun z => some (z.1, z.2.1, z.2.2, S)) = some (r, V1, N1, S1) ∧ (f_X2_undo Vq Nq Sq ).bind (fun z => some (z.1, z.2.1, z.2.2, Sq)) = some (r, V2, N2, S2) ∧ Rel V1 N1 M1 ∧ Rel V2 N2 M1 := by
  obtain ⟨r, V', N', M', e1, e2, e3⟩ := st_undo S h 
  obtain ⟨r2, V2, N2, M2, g1, g2, g3⟩ := st_undo Sq k 
  rw [e2] at g2
  obtain ⟨q1, q2⟩ := Prod.mk.inj (Option.some.inj g2)
  subst q1
  subst q2
  rw [e1, g1, Option.bind_some, Option.bind_some]
  exact ⟨_, _, _, _, _, _, _, _, rfl, rfl, e3, g3⟩
theorem pr_keep (h : Rel V N M) (k : Rel Vq Nq M) (S Sq : SS) (a1 : Int32) : ∃ (r : Int32) (V1 : HS) (N1 : NS) (S1 : SS) (V2 : HS) (N2 : NS) (S2 : SS) (M1 : MS), (f_X2_keep V N S a1).bind (fun z => some (z.1, z.2, N, S)) = some (r, V1, N1, S1) ∧ (f_X2_keep Vq Nq Sq a1).bind (fun z => some (z.1, z.2, Nq, Sq)) = some (r, V2, N2, S2) ∧ Rel V1 N1 M1 ∧ Rel V2 N2 M1 := by
  obtain ⟨r, V', M', e1, e2, e3⟩ := st_keep S h a1
  obtain ⟨r2, V2, M2, g1, g2, g3⟩ := st_keep Sq k a1
  rw [e2] at g2
  obtain ⟨q1, q2⟩ := Prod.mk.inj (Option.some.inj g2)
  subst q1
  subst q2
  rw [e1, g1, Option.bind_some, Option.bind_some]
  exact ⟨_, _, _, _, _, _, _, _, rfl, rfl, e3, g3⟩
theorem pr_back (h : Rel V N M) (k : Rel Vq Nq M) (S Sq : SS) (a1 : Int32) : ∃ (r : Int32) (V1 : HS) (N1 : NS) (S1 : SS) (V2 : HS) (N2 : NS) (S2 : SS) (M1 : MS), (f_X2_back V N S a1).bind (fun z => some (z.1, z.2.1, z.2.2, S)) = some (r, V1, N1, S1) ∧ (f_X2_back Vq Nq Sq a1).bind (fun z => some (z.1, z.2.1, z.2.2, Sq)) = some (r, V2, N2, S2) ∧ Rel V1 N1 M1 ∧ Rel V2 N2 M1 := by
  obtain ⟨r, V', N', M', e1, e2, e3⟩ := st_back S h a1
  obtain ⟨r2, V2, N2, M2, g1, g2, g3⟩ := st_back Sq k a1
  rw [e2] at g2
  obtain ⟨q1, q2⟩ := Prod.mk.inj (Option.some.inj g2)
  subst q1
  subst q2
  rw [e1, g1, Option.bind_some, Option.bind_some]
  exact ⟨_, _, _, _, _, _, _, _, rfl, rfl, e3, g3⟩
theorem pr_told (h : Rel V N M) (k : Rel Vq Nq M) (S Sq : SS) (a1 : Int32) : ∃ r, f_X2_told V N S a1 = some r ∧ f_X2_told Vq Nq Sq a1 = some r := by
  obtain ⟨r, e1, e2, -⟩ := st_told S h a1
  obtain ⟨r2, g1, g2, -⟩ := st_told Sq k a1
  rw [e2] at g2
  exact ⟨r, e1, by rw [g1, Option.some.inj g2]⟩
theorem pr_target (h : Rel V N M) (k : Rel Vq Nq M) (S Sq : SS) (a1 a2 : Int32) : ∃ r, f_X2_target V N S a1 a2 = some r ∧ f_X2_target Vq Nq Sq a1 a2 = some r := by
  obtain ⟨r, e1, e2, -⟩ := st_target S h a1 a2
  obtain ⟨r2, g1, g2, -⟩ := st_target Sq k a1 a2
  rw [e2] at g2
  exact ⟨r, e1, by rw [g1, Option.some.inj g2]⟩
theorem pr_node (h : Rel V N M) (k : Rel Vq Nq M) (S Sq : SS) (a1 a2 : Int32) : ∃ r S1 S2, f_X2_node V N S a1 a2 = some (r, S1) ∧ f_X2_node Vq Nq Sq a1 a2 = some (r, S2) := by
  obtain ⟨r, S1, M1, e1, e2, -⟩ := st_node S h a1 a2
  obtain ⟨r2, S2, M2, g1, g2, -⟩ := st_node Sq k a1 a2
  rw [e2] at g2
  obtain ⟨q1, -⟩ := Prod.mk.inj (Option.some.inj g2)
  exact ⟨r, S1, S2, e1, by rw [g1, q1]⟩
/-- low(x, n) is below n -/
theorem low_ok (x : Int32) {n : Nat} (h0 : 0 < n) (hn : n < 2 ^ 31) : ∃ j, j < n ∧ f_L_low x (nI n) = some (nI j) := by
  have hx : ¬ (x &&& (2147483647 : Int32)) < 0 := by
    have hm : (x &&& (2147483647 : Int32)).toBitVec.msb = false := by
      rw [Int32.toBitVec_and, BitVec.msb_and, show (2147483647 : Int32).toBitVec.msb = false by decide, Bool.and_false]
    rw [BitVec.msb_eq_toInt] at hm
    have hm := of_decide_eq_false hm
    intro h
    rw [Int32.lt_iff_toInt_lt] at h
    exact hm h
  obtain ⟨y, hy, ey⟩ := nI_of hx
  rw [f_L_low, gd_t (nz_nI h0 hn), ey, pk_div hy h0 hn, pk_mul, pk_sub (Nat.div_mul_le_self y n)]
  refine ⟨y % n, Nat.mod_lt _ h0, ?_⟩
  have := Nat.div_add_mod y n
  rw [Nat.mul_comm] at this
  rw [show y - y / n * n = y % n by omega]
theorem low_c (x : Int32) (n : Nat) (h0 : 0 < n) (hn : n < 2 ^ 31) : ∃ z, f_L_low x (nI n) = some z := by
  obtain ⟨j, -, h⟩ := low_ok x h0 hn
  exact ⟨_, h⟩
theorem st_change (h : Rel V N M) (k : Rel Vq Nq M) (S Sq : SS) (x1 x2 : Int32) : ∃ (r : Int32) (V1 : HS) (N1 : NS) (S1 : SS) (V2 : HS) (N2 : NS) (S2 : SS) (M1 : MS), f_L_change V N S x1 x2 = some (r, V1, N1, S1) ∧ f_L_change Vq Nq Sq x1 x2 = some (r, V2, N2, S2) ∧ Rel V1 N1 M1 ∧ Rel V2 N2 M1 := by
  obtain ⟨n, t1, t2⟩ := pr_told h k S Sq 0
  obtain ⟨c, hc0, hcn, rfl⟩ : ∃ c : Nat, 0 < c ∧ c < 2 ^ 31 ∧ n = nI c := by
    obtain ⟨⟨t, ok, rN, rW⟩, hH⟩ := h
    have h49 := n49 ok
    rw [v_told0 rN] at t1
    exact ⟨tN t, by omega, by omega, (Option.some.inj t1).symm⟩
  obtain ⟨z2, l2⟩ := low_c (x1 >>> ((5 : Int32) &&& 31)) c hc0 hcn
  obtain ⟨z3, l3⟩ := low_c (x1 >>> ((12 : Int32) &&& 31)) c hc0 hcn
  obtain ⟨z4, l4⟩ : ∃ z, f_L_low x1 (18 : Int32) = some z := low_c x1 18 (by omega) (by omega)
  obtain ⟨a1, la1⟩ : ∃ z, f_L_low x2 (4 : Int32) = some z := low_c x2 4 (by omega) (by omega)
  obtain ⟨a2, la2⟩ : ∃ z, f_L_low (x2 >>> ((2 : Int32) &&& 31)) (7 : Int32) = some z := low_c _ 7 (by omega) (by omega)
  obtain ⟨a3, la3⟩ : ∃ z, f_L_low (x2 >>> ((5 : Int32) &&& 31)) (7 : Int32) = some z := low_c _ 7 (by omega) (by omega)
  obtain ⟨a4, la4⟩ : ∃ z, f_L_low x2 (3 : Int32) = some z := low_c x2 3 (by omega) (by omega)
  obtain ⟨a5, la5⟩ : ∃ z, f_L_low x2 (20 : Int32) = some z := low_c x2 20 (by omega) (by omega)
  obtain ⟨a6, la6⟩ : ∃ z, f_L_low (x2 >>> ((2 : Int32) &&& 31)) (3 : Int32) = some z := low_c _ 3 (by omega) (by omega)
  obtain ⟨a7, la7⟩ : ∃ z, f_L_low x2 (2 : Int32) = some z := low_c x2 2 (by omega) (by omega)
  obtain ⟨a8, la8⟩ : ∃ z, f_L_low (x2 >>> ((1 : Int32) &&& 31)) (2 : Int32) = some z := low_c _ 2 (by omega) (by omega)
  rw [f_L_change, f_L_change, t1, t2, Option.bind_some, Option.bind_some, l2, Option.bind_some, Option.bind_some, l3, Option.bind_some, Option.bind_some, l4, Option.bind_some, Option.bind_some]
  by_cases c0 : z4 = 0
  · rw [if_pos c0, if_pos c0, la1, Option.bind_some, Option.bind_some]
    by_cases d0 : a1 = 0
    · rw [if_pos d0, if_pos d0, la2, Option.bind_some, Option.bind_some, la3, Option.bind_some, Option.bind_some]
      exact pr_begin h k S Sq _ _
    · rw [if_neg d0, if_neg d0]
      exact ⟨_, _, _, _, _, _, _, M, rfl, rfl, h, k⟩
  rw [if_neg c0, if_neg c0]
  by_cases c1 : z4 = 1
  · rw [if_pos c1, if_pos c1]
    exact pr_link h k S Sq _ _
  rw [if_neg c1, if_neg c1]
  by_cases c2 : z4 = 2
  · rw [if_pos c2, if_pos c2]
    exact pr_link h k S Sq _ _
  rw [if_neg c2, if_neg c2]
  by_cases c3 : z4 = 3
  · rw [if_pos c3, if_pos c3]
    exact pr_link h k S Sq _ _
  rw [if_neg c3, if_neg c3]
  by_cases c4 : z4 = 4
  · rw [if_pos c4, if_pos c4, la4, Option.bind_some, Option.bind_some]
    exact pr_unlink h k S Sq _ _
  rw [if_neg c4, if_neg c4]
  by_cases c5 : z4 = 5
  · rw [if_pos c5, if_pos c5, la4, Option.bind_some, Option.bind_some]
    exact pr_drawLink h k S Sq _ _
  rw [if_neg c5, if_neg c5]
  by_cases c6 : z4 = 6
  · rw [if_pos c6, if_pos c6, la4, Option.bind_some, Option.bind_some]
    exact pr_drawLink h k S Sq _ _
  rw [if_neg c6, if_neg c6]
  by_cases c7 : z4 = 7
  · rw [if_pos c7, if_pos c7, la4, Option.bind_some, Option.bind_some]
    exact pr_drawLink h k S Sq _ _
  rw [if_neg c7, if_neg c7]
  by_cases c8 : z4 = 8
  · rw [if_pos c8, if_pos c8]
    exact pr_seek h k S Sq _ _
  rw [if_neg c8, if_neg c8]
  by_cases c9 : z4 = 9
  · rw [if_pos c9, if_pos c9]
    exact pr_seek h k S Sq _ _
  rw [if_neg c9, if_neg c9]
  by_cases c10 : z4 = 10
  · rw [if_pos c10, if_pos c10, la5, Option.bind_some, Option.bind_some]
    exact pr_seekSome h k S Sq _
  rw [if_neg c10, if_neg c10]
  by_cases c11 : z4 = 11
  · rw [if_pos c11, if_pos c11]
    exact pr_exchange h k S Sq _ _
  rw [if_neg c11, if_neg c11]
  by_cases c12 : z4 = 12
  · rw [if_pos c12, if_pos c12]
    exact pr_leave h k S Sq _
  rw [if_neg c12, if_neg c12]
  by_cases c13 : z4 = 13
  · rw [if_pos c13, if_pos c13]
    exact pr_enter h k S Sq _
  rw [if_neg c13, if_neg c13]
  by_cases c14 : z4 = 14
  · rw [if_pos c14, if_pos c14, la1, Option.bind_some, Option.bind_some, la6, Option.bind_some, Option.bind_some]
    exact pr_set h k S Sq _ _
  rw [if_neg c14, if_neg c14]
  by_cases c15 : z4 = 15
  · rw [if_pos c15, if_pos c15, la7, Option.bind_some, Option.bind_some]
    by_cases d0 : a7 = 0
    · rw [if_pos d0, if_pos d0, la8, Option.bind_some, Option.bind_some]
      exact pr_keep h k S Sq _
    · rw [if_neg d0, if_neg d0, la8, Option.bind_some, Option.bind_some]
      exact pr_back h k S Sq _
  rw [if_neg c15, if_neg c15]
  exact pr_undo h k S Sq
theorem a_93 (h : Rel V N M) (k : Rel Vq Nq M) {K : HS → NS → SS → HS → NS → SS → Int32 → Int32 → Option (Int32 × SS × SS)} {S Sq : SS} {x3 : Int32} : ∀ (fu j : Nat), j ≤ 3 → 3 - j < fu → g_L_areAlike_93 K fu V N S Vq Nq Sq 1 x3 (nI j) = K V N S Vq Nq Sq 1 (x3 + 1) := by
  intro fu
  induction fu with
  | zero => intro j h1 h2; omega
  | succ fu ih =>
    intro j h1 h2
    rw [g_L_areAlike_93]
    by_cases hj : 3 ≤ j
    · rw [if_pos (show (3 : Int32) ≤ nI j from nI_le (a := 3) hj (by omega))]
    · obtain ⟨r, e1, e2⟩ := pr_target h k S Sq x3 (nI j)
      rw [if_neg (show ¬ (3 : Int32) ≤ nI j from fun h => hj ((nI_leI (a := 3) (by omega) (by omega)).mp h)), if_neg n10, e1, Option.bind_some, e2, Option.bind_some, if_pos rfl, nI_1]
      exact ih (j + 1) (by omega) (by omega)
theorem a_41 (h : Rel V N M) (k : Rel Vq Nq M) {c : Nat} (hc : c < 2 ^ 31) (hcF : c < 4000) (ht : ∀ S, f_X2_told V N S 0 = some (nI c)) : ∀ (fu i : Nat) (S Sq : SS), i ≤ c → c - i < fu → ∃ S1 S2, g_L_areAlike_41 fu V N S Vq Nq Sq 1 (nI i) = some (1, S1, S2) := by
  intro fu
  induction fu with
  | zero => intro i S Sq h1 h2; omega
  | succ fu ih =>
    intro i S Sq h1 h2
    rw [g_L_areAlike_41, ht S, Option.bind_some]
    by_cases hi : c ≤ i
    · rw [if_pos (nI_le hi (by omega)), gd_t (show bB 1 = true by decide)]
      exact ⟨_, _, rfl⟩
    · obtain ⟨r1, S1, Q1, e1, e2⟩ := pr_node h k S Sq (nI i) 0
      obtain ⟨r2, S2, Q2, e3, e4⟩ := pr_node h k S1 Q1 (nI i) 1
      obtain ⟨S3, Q3, e5⟩ := ih (i + 1) S2 Q2 (by omega) (by omega)
      rw [if_neg (fun h => hi ((nI_leI (by omega) (by omega)).mp h)), if_neg n10, e1, Option.bind_some, e2, Option.bind_some]
      dsimp only
      rw [if_pos rfl, e3, Option.bind_some, e4, Option.bind_some]
      dsimp only
      rw [if_pos rfl]
      refine ⟨S3, Q3, ?_⟩
      have e6 := a_93 h k (K := fun V' N' S' Vq' Nq' Sq' x2' x3' => g_L_areAlike_41 fu V' N' S' Vq' Nq' Sq' x2' x3') (S := S2) (Sq := Q2) (x3 := nI i) FU 0 (by omega) (by unfold FU; omega)
      refine e6.trans ?_
      rw [nI_1]
      exact e5
theorem a_4 (h : Rel V N M) (k : Rel Vq Nq M) {c : Nat} (hcF : c < 4000) (ht : ∀ S, f_X2_told V N S 0 = some (nI c)) {S Sq : SS} : ∀ (fu j : Nat), j ≤ 10 → 10 - j < fu → ∃ S1 S2, g_L_areAlike_4 fu V N S Vq Nq Sq 1 (nI j) = some (1, S1, S2) := by
  intro fu
  induction fu with
  | zero => intro j h1 h2; omega
  | succ fu ih =>
    intro j h1 h2
    rw [g_L_areAlike_4]
    by_cases hj : 10 ≤ j
    · rw [if_pos (show (10 : Int32) ≤ nI j from nI_le (a := 10) hj (by omega))]
      exact a_41 h k (by omega) hcF ht FU 0 S Sq (by omega) (by unfold FU; omega)
    · obtain ⟨r, e1, e2⟩ := pr_told h k S Sq (nI j)
      rw [if_neg (show ¬ (10 : Int32) ≤ nI j from fun h => hj ((nI_leI (a := 10) (by omega) (by omega)).mp h)), if_neg n10, e1, Option.bind_some, e2, Option.bind_some, if_pos rfl, nI_1]
      exact ih (j + 1) (by omega) (by omega)
theorem s_areAlike (h : Rel V N M) (k : Rel Vq Nq M) (S Sq : SS) : ∃ S1 S2, f_L_areAlike V N S Vq Nq Sq = some (1, S1, S2) := by
  obtain ⟨⟨t, ok, rN, rW⟩, hH⟩ := id h
  have h49 := n49 ok
  rw [f_L_areAlike]
  exact a_4 h k (c := tN t) (by omega) (fun S => v_told0 rN) FU 0 (by omega) (by unfold FU; omega)
end PAIR
