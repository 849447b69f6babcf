-- ===== end of PART A; then your names; then what follows =====
/-! THE CLAIM OUT OF ONE WALK OF THE LAW'S BODY. Your part is whole_start (and what it stands on); all else here is the same for every law, but numbers. -/
def R_law : String := "LinkRewirerLaw"
def lw_P (b : Addr) (xs : List Int32) (args : Array Value) (s : State) : Prop := args = #[.ref b] ∧ s.IntsAt b xs ∧ xs.length ≤ 260 ∧ (Jvm.Cond.and given_1 narrow_1).before args s = true
/-- what a walk over the start with the record d0 says of its end, said of the start itself -/
theorem lw_closed {s t : State} {o : Outcome} {d0 : Drawn} {L : List Loc} {k n : Nat} (hd0 : s.drawn.sameBut d0 lw_cs) (hv : ∃ v, o = .returned v) (hW : (s.setDrawn d0).WarmedH t.vm) (hs : (s.setDrawn d0).sameButNew ({ t with vm := s.vm } : State) L k n) : State.butDraws s t lw_cs (fun t1 => Framed s o t1 L k n) := by
  have h2 : t.drawn = d0 := congrArg State.drawn hs.1
  refine ⟨⟨hv, hW, State.sameButNew.setDrawn hs s.drawn⟩, ?_, by decide⟩
  rw [h2]
  exact hd0
def lw_Q (_ : Array Value) (s : State) (o : Outcome) (t : State) : Prop := o = .returned (some (.int 1)) ∧ State.butDraws s t lw_cs (fun t1 => Framed s o t1 [] room_1.cells room_1.slots)
def lw_Z (below : List Frame) (a : Array Value) (s : State) : State → Prop := fun t => ∃ o, t.status = .running ∧ Ended t below o ∧ lw_Q a s o t
/-- the law's own end, with 1 on the stack, nothing written that was there before, its room as the claim has it; d0: the record of draws at this point (at the entry s.drawn: begin with 'refine W.base ?_' and 'have hd0 := Drawn.sameBut.refl s.drawn lw_cs') -/
theorem lw_ret {p : Program} {l : Launch} {e : Env} {s : State} {m : MethodId} {below : List Frame} {meth : Method} {c : Code} {b : Nat} {d0 : Drawn} (hd0 : s.drawn.sameBut d0 lw_cs) (hx : p.tables.exec = Jvm.exec) (hb : c.code = code) (hr : meth.sig.returnType = ret) (hlocks : meth.locks = false) {pc : Nat} {H : Heap} {ls : Array Slot} (hdg : decode code pc = .ok (.ireturn, 1)) : W p l e room_1 (s.setDrawn d0) m #[Value.ref b] below meth c H [] room_1.cells room_1.slots (lw_Z below #[Value.ref b] s) (F0 m pc ls [.int 1]) := by
  intro T hT X
  obtain ⟨fs, hret, hrun, hended, hW, hframe⟩ := X.leave (v := some (.int 1)) (hlocks := hlocks) (fun h => by rw [hr] at h; cases h)
  have hmeth' : T.vm.method? m = some meth := X.method'
  refine ⟨T.setFrames fs, ?_, .returned (some (.int 1)), hrun, hended, rfl, lw_closed hd0 ⟨_, rfl⟩ hW hframe⟩
  jvm_step X.here [X.here.top, hx, hb, hdg, hmeth', hr, ret, narrow_b1]
  (try refine ⟨rfl, ?_⟩); (try refine ⟨rfl, ?_⟩)
  first | (intro acts; rw [hret _ acts rfl rfl rfl]) | rw [hret _ _ rfl rfl rfl]
  exact Steps.refl _
/-- what holds at the law's entry: the machine, the code, the tables' words (any of lw_tbl by 'hts w (by decide +kernel)'), the script of L ints xs at the cell b, what the Statement gives of the start (any of its parts by flat_of_before) -/
def lw_At (p : Program) (s : State) (m : MethodId) (meth : Method) (c : Code) (b L : Nat) (xs : Nat → Int32) : Prop :=
  p.tables.exec = Jvm.exec ∧ c.code = code ∧ meth.sig.returnType = ret ∧ c.maxLocals = 7 ∧ s.vm.findClass R_law = some m.cls ∧ (∀ w ∈ lw_tbl, w.before #[Value.ref b] s = true) ∧ va_X b L xs s s.heap ∧ b < s.heap.size ∧ meth.locks = false ∧ (Jvm.Cond.and given_1 narrow_1).before #[Value.ref b] s = true
set_option maxRecDepth 100000 in
set_option maxHeartbeats 4000000 in
theorem law_loop {p : Program} {l : Launch} {e : Env} {s : State} {m : MethodId} {below : List Frame} {meth : Method} {c : Code} {D : va_G} {cI cJ cN : ClassId} {b L : Nat} {xs : Nat → Int32} (hL : L ≤ 260) (hX : va_X b L xs s s.heap) (hbl : b < s.heap.size) (C : CX p l s m #[Value.ref b] meth c code 7 R_law lw_tbl ret D cI cJ cN (fun q => s.heap.size ≤ q)) {x0 p0 i0 n0 n1 n2 n3 n4 n5 n6 s0 s1 s2 s3 s4 s5 s6 b0 r0 j0 k0 k1 k2 k3 k4 k5 k6 t0 t1 t2 t3 t4 t5 t6 : Nat} : ∀ (n i : Nat), i ≤ 24 → 24 < i + n → ∀ (V : HS) (N : NS) (S : SS) (Vq : HS) (Nq : NS) (Sq : SS) (M : MS) (rp ri : Nat → Option Nat) (pl : va_W) (rq rj : Nat → Option Nat) (pm : va_W) (ce sl : Nat), Rel V N M → Rel Vq Nq M → PoolOK cI V rp ri pl → PoolOK cI Vq rq rj pm → ce ≤ 100 + 14 * i → sl ≤ 10000 + 712 * i → WW p l e room_1 s m #[Value.ref b] below meth c D 7 (fun q => s.heap.size ≤ q) (ce) (sl) (lw_Z below #[Value.ref b] s) 18 [(0, .ref b), (1, .ref x0), (2, .ref b0), (3, .int (nI i))] [] (wXX cI cJ cN x0 p0 i0 n0 n1 n2 n3 n4 n5 n6 s0 s1 s2 s3 s4 s5 s6 rp ri pl V N S ++ wXX cI cJ cN b0 r0 j0 k0 k1 k2 k3 k4 k5 k6 t0 t1 t2 t3 t4 t5 t6 rq rj pm Vq Nq Sq) := by
  intro n
  induction n with
  | zero => intro i h1 h2; omega
  | succ n ih =>
    intro i h1 h2 V N S Vq Nq Sq M rp ri pl rq rj pm ce sl hRel hRelq hpool hpoolq hce hsl
    have hRc : 20000 ≤ room_1.cells := Nat.le_of_ble_eq_true rfl
    have hRs : 300000 ≤ room_1.slots := Nat.le_of_ble_eq_true rfl
    have hbA : ¬ (fun q => s.heap.size ≤ q) b := Nat.not_le.mpr hbl
    refine q_iload_n C dL_law_18 rfl 3 rfl ?_
    refine q_bipush (v := nI 24) C dL_law_19 (by decide) ?_
    refine q_icmp_ge C 129 dL_law_21 (by decide) (fun h => ?_) (fun h => ?_)
    · obtain ⟨S1, S2, g⟩ := s_areAlike hRel hRelq S Sq
      refine q_aload_n C dL_law_129 rfl 1 rfl ?_
      refine q_aload_n C dL_law_130 rfl 2 rfl ?_
      refine q_cSIw C (c_L_areAlike l D cI cJ cN x0 p0 i0 n0 n1 n2 n3 n4 n5 n6 s0 s1 s2 s3 s4 s5 s6 b0 r0 j0 k0 k1 k2 k3 k4 k5 k6 t0 t1 t2 t3 t4 t5 t6 rp ri rq rj pl pm V N S Vq Nq Sq (1, S1, S2) g) (mkSL (fr := 6) (ce := 0) (sl := 0) (lo := 138) C xc_L_areAlike xm_L_110 xs_L_areAlike xn_L hd_L_areAlike ⟨Nat.le_of_ble_eq_true rfl, Nat.le_of_ble_eq_true rfl⟩) rfl rfl (Nat.le_of_ble_eq_true rfl) dL_law_131 ⟨(show ce + 0 ≤ room_1.cells by omega), (show sl + 0 ≤ room_1.slots by omega)⟩ (fun w1 hp1 => ?_)
      subst hp1
      refine q_widen (k0 := ce) (n0 := sl) (Nat.le_refl _) (Nat.le_refl _) ?_
      intro H locs ls hP hD hS hl
      refine va_forget (fun q hq => hS.2.2 q hq) ?_
      refine W.widen (k := room_1.cells) (n := room_1.slots) (by omega) (by omega) ?_
      refine W.base ?_
      exact lw_ret (Drawn.sameBut.refl s.drawn lw_cs) C.1 C.2.1 C.2.2.2.2.2.2.2.2.1 C.2.2.2.2.2.2.2.2.2 dL_law_134
    · have hi : i < 24 := by
        rcases Nat.lt_or_ge i 24 with h3 | h3
        · exact h3
        · exact absurd (nI_le (a := 24) h3 (by omega)) h
      have fin : ∀ (V : HS) (N : NS) (S : SS) (Vq : HS) (Nq : NS) (Sq : SS) (M : MS) (rp ri : Nat → Option Nat) (pl : va_W) (rq rj : Nat → Option Nat) (pm : va_W) (ce sl : Nat) (v mo nn : Int32), Rel V N M → Rel Vq Nq M → PoolOK cI V rp ri pl → PoolOK cI Vq rq rj pm → ce ≤ 100 + 14 * (i + 1) → sl ≤ 10000 + 712 * (i + 1) → WW p l e room_1 s m #[Value.ref b] below meth c D 7 (fun q => s.heap.size ≤ q) (ce) (sl) (lw_Z below #[Value.ref b] s) 123 [(6, .int nn), (5, .int mo), (4, .int v), (0, .ref b), (1, .ref x0), (2, .ref b0), (3, .int (nI i))] [] (wXX cI cJ cN x0 p0 i0 n0 n1 n2 n3 n4 n5 n6 s0 s1 s2 s3 s4 s5 s6 rp ri pl V N S ++ wXX cI cJ cN b0 r0 j0 k0 k1 k2 k3 k4 k5 k6 t0 t1 t2 t3 t4 t5 t6 rq rj pm Vq Nq Sq) := by
        intro V N S Vq Nq Sq M rp ri pl rq rj pm ce sl v mo nn hRel hRelq hpool hpoolq hce hsl
        refine q_iinc (v := nI (i + 1)) (lv' := [(3, .int (nI (i + 1))), (6, .int nn), (5, .int mo), (4, .int v), (0, .ref b), (1, .ref x0), (2, .ref b0)]) C dL_law_123 6 rfl (by rw [show Int32.ofInt 1 = 1 from by decide, nI_1]) (by decide) rfl ?_
        refine q_goto C 18 dL_law_126 (by decide) ?_
        refine q_sub (lv' := [(0, .ref b), (1, .ref x0), (2, .ref b0), (3, .int (nI (i + 1)))]) [4, 5, 6, 0] rfl ?_
        exact ih (i + 1) (by omega) (by omega) V N S Vq Nq Sq M rp ri pl rq rj pm ce sl hRel hRelq hpool hpoolq hce hsl
      refine q_aload_n C dL_law_24 rfl 0 rfl ?_
      refine q_iconst (v := 2) C dL_law_25 (by decide) ?_
      refine q_iload_n C dL_law_26 rfl 3 rfl ?_
      refine q_imul C dL_law_27 ?_
      refine q_topi (y := nI (2 * i)) (by rw [show (2 : Int32) = nI 2 from rfl, pk_mul]) ?_
      refine q_cX (As := [.ref b, .int (nI (2 * i))]) C hX hbl hbA (c_L_cell l D cI cJ cN b L xs (nI (2 * i)) hL (nI_pos (by omega))) (mkSL (fr := 0) (ce := 0) (sl := 0) (lo := 0) C xc_L_cell xm_L_91 xs_L_cell xn_L hd_L_cell ⟨Nat.le_of_ble_eq_true rfl, Nat.le_of_ble_eq_true rfl⟩) rfl rfl (Nat.le_of_ble_eq_true rfl) dL_law_28 ⟨(show ce + 0 ≤ room_1.cells by omega), (show sl + 0 ≤ room_1.slots by omega)⟩ ?_
      refine q_widen (k0 := ce) (n0 := sl) (Nat.le_refl _) (Nat.le_refl _) ?_
      generalize cellv L xs (nI (2 * i)) = v
      refine q_istore (lv' := [(4, .int v), (0, .ref b), (1, .ref x0), (2, .ref b0), (3, .int (nI i))]) C dL_law_31 (by decide) rfl ?_
      refine q_aload_n C dL_law_33 rfl 1 rfl ?_
      refine q_iconst (v := 2) C dL_law_34 (by decide) ?_
      refine q_iload_n C dL_law_35 rfl 4 rfl ?_
      refine q_imul C dL_law_36 ?_
      refine q_iconst (v := 1) C dL_law_37 (by decide) ?_
      refine q_iadd C dL_law_38 ?_
      refine q_topi (y := nI (2 * i + 1)) (by rw [show (2 : Int32) = nI 2 from rfl, pk_mul, nI_1]) ?_
      refine q_cX (As := [.ref b, .int (nI (2 * i + 1))]) C hX hbl hbA (c_L_cell l D cI cJ cN b L xs (nI (2 * i + 1)) hL (nI_pos (by omega))) (mkSL (fr := 0) (ce := 0) (sl := 0) (lo := 0) C xc_L_cell xm_L_91 xs_L_cell xn_L hd_L_cell ⟨Nat.le_of_ble_eq_true rfl, Nat.le_of_ble_eq_true rfl⟩) rfl rfl (Nat.le_of_ble_eq_true rfl) dL_law_39 ⟨(show ce + 0 ≤ room_1.cells by omega), (show sl + 0 ≤ room_1.slots by omega)⟩ ?_
      refine q_widen (k0 := ce) (n0 := sl) (Nat.le_refl _) (Nat.le_refl _) ?_
      generalize cellv L xs (nI (2 * i + 1)) = mo
      refine q_istore (lv' := [(5, .int mo), (4, .int v), (0, .ref b), (1, .ref x0), (2, .ref b0), (3, .int (nI i))]) C dL_law_42 (by decide) rfl ?_
      obtain ⟨r, V1, N1, S1, V2, N2, S2, M1, f1, f2, hR1, hR2⟩ := st_change hRel hRelq S Sq v mo
      refine q_aload_n C dL_law_44 rfl 3 rfl ?_
      refine q_iload C dL_law_45 1 rfl ?_
      refine q_iload C dL_law_47 0 rfl ?_
      refine q_cSIa (wr := wXX cI cJ cN b0 r0 j0 k0 k1 k2 k3 k4 k5 k6 t0 t1 t2 t3 t4 t5 t6 rq rj pm Vq Nq Sq) C (c_L_change l D cI cJ cN x0 p0 i0 n0 n1 n2 n3 n4 n5 n6 s0 s1 s2 s3 s4 s5 s6 rp ri pl V N S v mo (r, V1, N1, S1) hpool f1) (mkSL (fr := 7) (ce := 7) (sl := 356) (lo := 165) C xc_L_change xm_L_95 xs_L_change xn_L hd_L_change ⟨Nat.le_of_ble_eq_true rfl, Nat.le_of_ble_eq_true rfl⟩) rfl rfl rfl (Nat.le_of_ble_eq_true rfl) dL_law_49 ⟨(show ce + 7 ≤ room_1.cells by omega), (show sl + 356 ≤ room_1.slots by omega)⟩ (fun w1 hp1 => ?_)
      obtain ⟨rp1, ri1, pl1, hpool1, rfl⟩ := hp1
      refine q_widen (k0 := ce + 7) (n0 := sl + 356) (Nat.le_refl _) (Nat.le_refl _) ?_
      refine q_aload_n C dL_law_52 rfl 4 rfl ?_
      refine q_iload C dL_law_53 1 rfl ?_
      refine q_iload C dL_law_55 0 rfl ?_
      refine q_cSIs (wr := wXX cI cJ cN x0 p0 i0 n0 n1 n2 n3 n4 n5 n6 s0 s1 s2 s3 s4 s5 s6 rp1 ri1 pl1 V1 N1 S1) C (c_L_change l D cI cJ cN b0 r0 j0 k0 k1 k2 k3 k4 k5 k6 t0 t1 t2 t3 t4 t5 t6 rq rj pm Vq Nq Sq v mo (r, V2, N2, S2) hpoolq f2) (mkSL (fr := 7) (ce := 7) (sl := 356) (lo := 165) C xc_L_change xm_L_95 xs_L_change xn_L hd_L_change ⟨Nat.le_of_ble_eq_true rfl, Nat.le_of_ble_eq_true rfl⟩) rfl rfl rfl (Nat.le_of_ble_eq_true rfl) dL_law_57 ⟨(show ce + 7 + 7 ≤ room_1.cells by omega), (show sl + 356 + 356 ≤ room_1.slots by omega)⟩ (fun w1 hp1 => ?_)
      obtain ⟨rq1, rj1, pm1, hpoolq1, rfl⟩ := hp1
      refine q_widen (k0 := ce + 14) (n0 := sl + 712) (Nat.le_refl _) (Nat.le_refl _) ?_
      refine q_icmp_ne C 70 dL_law_60 (by decide) (fun h => absurd rfl h) (fun _ => ?_)
      obtain ⟨⟨tt, ok, rN, rW⟩, hH⟩ := id hR1
      have h49 := n49 ok
      have g1 := s_isSound (V := V1) (S := S1) rN ok
      refine q_aload_n C dL_law_63 rfl 3 rfl ?_
      refine q_cSIa (wr := wXX cI cJ cN b0 r0 j0 k0 k1 k2 k3 k4 k5 k6 t0 t1 t2 t3 t4 t5 t6 rq1 rj1 pm1 V2 N2 S2) C (c_L_isSound l D cI cJ cN x0 p0 i0 n0 n1 n2 n3 n4 n5 n6 s0 s1 s2 s3 s4 s5 s6 rp1 ri1 pl1 V1 N1 S1 (1, S1) g1) (mkSL (fr := 6) (ce := 0) (sl := 0) (lo := 138) C xc_L_isSound xm_L_99 xs_L_isSound xn_L hd_L_isSound ⟨Nat.le_of_ble_eq_true rfl, Nat.le_of_ble_eq_true rfl⟩) rfl rfl rfl (Nat.le_of_ble_eq_true rfl) dL_law_64 ⟨(show ce + 14 + 0 ≤ room_1.cells by omega), (show sl + 712 + 0 ≤ room_1.slots by omega)⟩ (fun w1 hp1 => ?_)
      subst hp1
      refine q_widen (k0 := ce + 14) (n0 := sl + 712) (Nat.le_refl _) (Nat.le_refl _) ?_
      refine q_if_ne C 72 dL_law_67 (by decide) (fun _ => ?_) (fun h => absurd h n10)
      refine q_aload_n C dL_law_72 rfl 3 rfl ?_
      refine q_iconst (v := 0) C dL_law_73 (by decide) ?_
      refine q_cVIa (wr := wXX cI cJ cN b0 r0 j0 k0 k1 k2 k3 k4 k5 k6 t0 t1 t2 t3 t4 t5 t6 rq1 rj1 pm1 V2 N2 S2) C (c_X2_told l D cI cJ cN x0 p0 i0 n0 n1 n2 n3 n4 n5 n6 s0 s1 s2 s3 s4 s5 s6 rp1 ri1 pl1 V1 N1 S1 0 (nI (tN tt)) (v_told0 rN)) (mkVL (fr := 3) (ce := 0) (sl := 0) (lo := 66) C xc_X2_told xm_L_9 xi_X2_told xe_X2_told xn_X2 hd_X2_told ⟨Nat.le_of_ble_eq_true rfl, Nat.le_of_ble_eq_true rfl⟩) 0 rfl rfl rfl rfl rfl (Nat.le_of_ble_eq_true rfl) dL_law_74 ⟨(show ce + 14 + 0 ≤ room_1.cells by omega), (show sl + 712 + 0 ≤ room_1.slots by omega)⟩ (fun w1 hp1 => ?_)
      subst hp1
      refine q_widen (k0 := ce + 14) (n0 := sl + 712) (Nat.le_refl _) (Nat.le_refl _) ?_
      refine q_istore (lv' := [(6, .int (nI (tN tt))), (5, .int mo), (4, .int v), (0, .ref b), (1, .ref x0), (2, .ref b0), (3, .int (nI i))]) C dL_law_77 (by decide) rfl ?_
      obtain ⟨u, hu, lu⟩ := low_ok (mo >>> ((3 : Int32) &&& 31)) (n := tN tt) (by omega) (by omega)
      obtain ⟨d, hd, ld⟩ := low_ok (mo >>> ((9 : Int32) &&& 31)) (n := tN tt) (by omega) (by omega)
      obtain ⟨S3, g2⟩ := s_isRoute (V := V1) (S := S1) rN ok (u := u) (d := d) (by omega) (by omega)
      refine q_aload_n C dL_law_79 rfl 4 rfl ?_
      refine q_iload C dL_law_80 1 rfl ?_
      refine q_iconst (v := 3) C dL_law_82 (by decide) ?_
      refine q_ishr C dL_law_83 ?_
      refine q_iload C dL_law_84 0 rfl ?_
      refine q_cSI (ws' := wXX cI cJ cN x0 p0 i0 n0 n1 n2 n3 n4 n5 n6 s0 s1 s2 s3 s4 s5 s6 rp1 ri1 pl1 V1 N1 S1 ++ wXX cI cJ cN b0 r0 j0 k0 k1 k2 k3 k4 k5 k6 t0 t1 t2 t3 t4 t5 t6 rq1 rj1 pm1 V2 N2 S2) C (c_L_low l D cI cJ cN (mo >>> ((3 : Int32) &&& 31)) (nI (tN tt)) (nI u) lu) (mkSL (fr := 0) (ce := 0) (sl := 0) (lo := 0) C xc_L_low xm_L_15 xs_L_low xn_L hd_L_low ⟨Nat.le_of_ble_eq_true rfl, Nat.le_of_ble_eq_true rfl⟩) [] rfl (by decide) rfl rfl rfl rfl (Nat.le_of_ble_eq_true rfl) dL_law_86 ⟨(show ce + 14 ≤ room_1.cells by omega), (show sl + 712 ≤ room_1.slots by omega)⟩ ?_
      refine q_iload C dL_law_89 1 rfl ?_
      refine q_bipush (v := 9) C dL_law_91 (by decide) ?_
      refine q_ishr C dL_law_93 ?_
      refine q_iload C dL_law_94 0 rfl ?_
      refine q_cSI (ws' := wXX cI cJ cN x0 p0 i0 n0 n1 n2 n3 n4 n5 n6 s0 s1 s2 s3 s4 s5 s6 rp1 ri1 pl1 V1 N1 S1 ++ wXX cI cJ cN b0 r0 j0 k0 k1 k2 k3 k4 k5 k6 t0 t1 t2 t3 t4 t5 t6 rq1 rj1 pm1 V2 N2 S2) C (c_L_low l D cI cJ cN (mo >>> ((9 : Int32) &&& 31)) (nI (tN tt)) (nI d) ld) (mkSL (fr := 0) (ce := 0) (sl := 0) (lo := 0) C xc_L_low xm_L_15 xs_L_low xn_L hd_L_low ⟨Nat.le_of_ble_eq_true rfl, Nat.le_of_ble_eq_true rfl⟩) [] rfl (by decide) rfl rfl rfl rfl (Nat.le_of_ble_eq_true rfl) dL_law_96 ⟨(show ce + 14 ≤ room_1.cells by omega), (show sl + 712 ≤ room_1.slots by omega)⟩ ?_
      refine q_cSIa (wr := wXX cI cJ cN b0 r0 j0 k0 k1 k2 k3 k4 k5 k6 t0 t1 t2 t3 t4 t5 t6 rq1 rj1 pm1 V2 N2 S2) C (c_L_isRoute l D cI cJ cN x0 p0 i0 n0 n1 n2 n3 n4 n5 n6 s0 s1 s2 s3 s4 s5 s6 rp1 ri1 pl1 V1 N1 S1 (nI u) (nI d) (1, S3) g2) (mkSL (fr := 6) (ce := 0) (sl := 0) (lo := 142) C xc_L_isRoute xm_L_103 xs_L_isRoute xn_L hd_L_isRoute ⟨Nat.le_of_ble_eq_true rfl, Nat.le_of_ble_eq_true rfl⟩) rfl rfl rfl (Nat.le_of_ble_eq_true rfl) dL_law_99 ⟨(show ce + 14 + 0 ≤ room_1.cells by omega), (show sl + 712 + 0 ≤ room_1.slots by omega)⟩ (fun w1 hp1 => ?_)
      subst hp1
      refine q_widen (k0 := ce + 14) (n0 := sl + 712) (Nat.le_refl _) (Nat.le_refl _) ?_
      refine q_if_eq C 121 dL_law_102 (by decide) (fun h => absurd h n10) (fun _ => ?_)
      refine q_iload_n C dL_law_105 rfl 6 rfl ?_
      refine q_bipush (v := 8) C dL_law_106 (by decide) ?_
      refine q_irem C dL_law_108 (by decide) ?_
      refine q_bipush (v := 7) C dL_law_109 (by decide) ?_
      refine q_icmp_ne C 123 dL_law_111 (by decide) (fun _ => fin _ _ _ _ _ _ _ _ _ _ _ _ _ (ce + 14) (sl + 712) _ _ _ hR1 hR2 hpool1 hpoolq1 (by omega) (by omega)) (fun _ => ?_)
      obtain ⟨S4, g3⟩ := s_areMeasures (V := V1) (S := S3) rN ok
      refine q_aload_n C dL_law_114 rfl 4 rfl ?_
      refine q_cSIa (wr := wXX cI cJ cN b0 r0 j0 k0 k1 k2 k3 k4 k5 k6 t0 t1 t2 t3 t4 t5 t6 rq1 rj1 pm1 V2 N2 S2) C (c_L_areMeasures l D cI cJ cN x0 p0 i0 n0 n1 n2 n3 n4 n5 n6 s0 s1 s2 s3 s4 s5 s6 rp1 ri1 pl1 V1 N1 S3 (1, S4) g3) (mkSL (fr := 7) (ce := 0) (sl := 0) (lo := 153) C xc_L_areMeasures xm_L_107 xs_L_areMeasures xn_L hd_L_areMeasures ⟨Nat.le_of_ble_eq_true rfl, Nat.le_of_ble_eq_true rfl⟩) rfl rfl rfl (Nat.le_of_ble_eq_true rfl) dL_law_115 ⟨(show ce + 14 + 0 ≤ room_1.cells by omega), (show sl + 712 + 0 ≤ room_1.slots by omega)⟩ (fun w1 hp1 => ?_)
      subst hp1
      refine q_widen (k0 := ce + 14) (n0 := sl + 712) (Nat.le_refl _) (Nat.le_refl _) ?_
      refine q_if_ne C 123 dL_law_118 (by decide) (fun _ => fin _ _ _ _ _ _ _ _ _ _ _ _ _ (ce + 14) (sl + 712) _ _ _ hR1 hR2 hpool1 hpoolq1 (by omega) (by omega)) (fun h => absurd h n10)
