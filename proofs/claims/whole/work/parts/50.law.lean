-- ===== end of PART A; then your names; then what follows =====
/-! THE CLAIM OUT OF ONE WALK OF THE LAW'S BODY. Your part is whole_start (and what it stands on); all else here is the same for every law, but numbers. -/
def R_law : String := "LinkRewirerLaw"
def lw_P (b : Addr) (xs : List Int32) (args : Array Value) (s : State) : Prop := args = #[.ref b] ∧ s.IntsAt b xs ∧ xs.length ≤ 2048 ∧ (Jvm.Cond.and given_1 narrow_1).before args s = true
/-- what a walk over the start with the record d0 says of its end, said of the start itself -/
theorem lw_closed {s t : State} {o : Outcome} {d0 : Drawn} {L : List Loc} {k n : Nat} (hd0 : s.drawn.sameBut d0 lw_cs) (hv : ∃ v, o = .returned v) (hW : (s.setDrawn d0).WarmedH t.vm) (hs : (s.setDrawn d0).sameButNew ({ t with vm := s.vm } : State) L k n) : State.butDraws s t lw_cs (fun t1 => Framed s o t1 L k n) := by
  have h2 : t.drawn = d0 := congrArg State.drawn hs.1
  refine ⟨⟨hv, hW, State.sameButNew.setDrawn hs s.drawn⟩, ?_, by decide⟩
  rw [h2]
  exact hd0
def lw_Q (_ : Array Value) (s : State) (o : Outcome) (t : State) : Prop := o = .returned (some (.int 1)) ∧ State.butDraws s t lw_cs (fun t1 => Framed s o t1 [] room_1.cells room_1.slots)
def lw_Z (below : List Frame) (a : Array Value) (s : State) : State → Prop := fun t => ∃ o, t.status = .running ∧ Ended t below o ∧ lw_Q a s o t
/-- the law's own end, with 1 on the stack, nothing written that was there before, its room as the claim has it; d0: the record of draws at this point (at the entry s.drawn: begin with 'refine W.base ?_' and 'have hd0 := Drawn.sameBut.refl s.drawn lw_cs') -/
theorem lw_ret {p : Program} {l : Launch} {e : Env} {s : State} {m : MethodId} {below : List Frame} {meth : Method} {c : Code} {b : Nat} {d0 : Drawn} (hd0 : s.drawn.sameBut d0 lw_cs) (hx : p.tables.exec = Jvm.exec) (hb : c.code = code) (hr : meth.sig.returnType = ret) (hlocks : meth.locks = false) {pc : Nat} {H : Heap} {ls : Array Slot} (hdg : decode code pc = .ok (.ireturn, 1)) : W p l e room_1 (s.setDrawn d0) m #[Value.ref b] below meth c H [] room_1.cells room_1.slots (lw_Z below #[Value.ref b] s) (F0 m pc ls [.int 1]) := by
  intro T hT X
  obtain ⟨fs, hret, hrun, hended, hW, hframe⟩ := X.leave (v := some (.int 1)) (hlocks := hlocks) (fun h => by rw [hr] at h; cases h)
  have hmeth' : T.vm.method? m = some meth := X.method'
  refine ⟨T.setFrames fs, ?_, .returned (some (.int 1)), hrun, hended, rfl, lw_closed hd0 ⟨_, rfl⟩ hW hframe⟩
  jvm_step X.here [X.here.top, hx, hb, hdg, hmeth', hr, ret, narrow_b1]
  (try refine ⟨rfl, ?_⟩); (try refine ⟨rfl, ?_⟩)
  first | (intro acts; rw [hret _ acts rfl rfl rfl]) | rw [hret _ _ rfl rfl rfl]
  exact Steps.refl _
/-- what holds at the law's entry: the machine, the code, the tables' words (any of lw_tbl by 'hts w (by decide +kernel)'), the script of L ints xs at the cell b, what the Statement gives of the start (any of its parts by flat_of_before) -/
def lw_At (p : Program) (s : State) (m : MethodId) (meth : Method) (c : Code) (b L : Nat) (xs : Nat → Int32) : Prop :=
  p.tables.exec = Jvm.exec ∧ c.code = code ∧ meth.sig.returnType = ret ∧ c.maxLocals = 8 ∧ s.vm.findClass R_law = some m.cls ∧ (∀ w ∈ lw_tbl, w.before #[Value.ref b] s = true) ∧ va_X b L xs s s.heap ∧ b < s.heap.size ∧ meth.locks = false ∧ (Jvm.Cond.and given_1 narrow_1).before #[Value.ref b] s = true
section QLAW
variable {p : Program} {l : Launch} {e : Env} {R : Room} {s : State} {m : MethodId} {args : Array Value} {below : List Frame} {meth : Method} {c : Code} {cc : ByteArray} {n : Nat} {own : String} {Ts : List Cond} {ret : Option FieldType} {D : va_G} {cI cJ cN : ClassId} {A : Nat → Prop} {cells slots : Nat} {Q : State → Prop} {pc : Nat} {lv lv' : List (Nat × Value)} {st : List Value} {ws ws' : va_W}
theorem wt_tbl {w : Cond} (h : w ∈ WT) : w ∈ lw_tbl := (List.mem_filter.mp h).1
theorem q_sld (C : CX p l s m args meth c cc n own Ts ret D cI cJ cN A) {b L0 : Nat} {xs : Nat → Int32} (hX : va_X b L0 xs s s.heap) (hbl : b < s.heap.size) (hbA : ¬ A b) {i : Int32} (hin : inB i L0 = true) (hd : decode cc pc = .ok (.iaload, 1)) (k : WW p l e R s m args below meth c D n A cells slots Q (pc + 1) lv (.int (xs i.toNatClampNeg) :: st) ws) : WW p l e R s m args below meth c D n A cells slots Q pc lv (.int i :: .ref b :: st) ws := fun H locs ls hP hD hS hl => va_sld C.1 C.2.1 hX hbl hbA hS (inB_in hin) hd (k H locs ls hP hD hS hl)
theorem q_slen (C : CX p l s m args meth c cc n own Ts ret D cI cJ cN A) {b L0 : Nat} {xs : Nat → Int32} (hX : va_X b L0 xs s s.heap) (hbl : b < s.heap.size) (hbA : ¬ A b) (hd : decode cc pc = .ok (.arraylength, 1)) (k : WW p l e R s m args below meth c D n A cells slots Q (pc + 1) lv (.int (nI L0) :: st) ws) : WW p l e R s m args below meth c D n A cells slots Q pc lv (.ref b :: st) ws := fun H locs ls hP hD hS hl => va_slen C.1 C.2.1 hX hbl hbA hS hd (k H locs ls hP hD hS hl)
theorem q_dload (C : CX p l s m args meth c cc n own Ts ret D cI cJ cN A) {i : Nat} {x : UInt64} (hd : decode cc pc = .ok (.dload i, 2)) (q : Nat) (hq : lv[q]? = some (i, .double x)) (k : WW p l e R s m args below meth c D n A cells slots Q (pc + 2) lv (.double x :: st) ws) : WW p l e R s m args below meth c D n A cells slots Q pc lv st ws := fun H locs ls hP hD hS hl => lv_dload C.1 C.2.1 hd (lv_at hl q hq) (k H locs ls hP hD hS hl)
theorem q_dstore (C : CX p l s m args meth c cc n own Ts ret D cI cJ cN A) {i : Nat} {x : UInt64} (hd : decode cc pc = .ok (.dstore i, 2)) (hn : i + 1 < n) (hl1 : (i, Value.double x) :: lv.filter (fun q => !(q.1 == i) && (!(q.1 == i + 1) && !(q.1 + 1 == i && q.2.category == 2))) = lv') (k : WW p l e R s m args below meth c D n A cells slots Q (pc + 2) lv' st ws) : WW p l e R s m args below meth c D n A cells slots Q pc lv (.double x :: st) ws := fun H locs ls hP hD hS hl => lv_dstore C.1 C.2.1 hd hl hn hl1 (fun ls2 hl2 => k H locs ls2 hP hD hS hl2)
theorem q_f2d (C : CX p l s m args meth c cc n own Ts ret D cI cJ cN A) {x : UInt32} (hd : decode cc pc = .ok (.f2d, 1)) (hne : vf_n64 (FP.f2d x)) (k : WW p l e R s m args below meth c D n A cells slots Q (pc + 1) lv (.double (FP.f2d x) :: st) ws) : WW p l e R s m args below meth c D n A cells slots Q pc lv (.float x :: st) ws := fun H locs ls hP hD hS hl => lv_f2d C.1 C.2.1 hd hne (k H locs ls hP hD hS hl)
theorem q_dcmp (C : CX p l s m args meth c cc n own Ts ret D cI cJ cN A) {x y : UInt64} {op : CmpOp} (hd : decode cc pc = .ok (.dcmp op, 1)) (k : WW p l e R s m args below meth c D n A cells slots Q (pc + 1) lv (.int (Op.cmpValue (FP.dcmp x y) op) :: st) ws) : WW p l e R s m args below meth c D n A cells slots Q pc lv (.double y :: .double x :: st) ws := fun H locs ls hP hD hS hl => lv_dcmp C.1 C.2.1 hd (k H locs ls hP hD hS hl)
theorem mkVL {y : MethodName} {bytes : ByteArray} {maxL i nA fr ce sl lo : Nat} {rt : Option FieldType} (C : CX p l s m args meth c cc n own lw_tbl ret D cI cJ cN A) {Cn : String} (hc : Cond.code y bytes maxL rt ∈ WT) (hm : Cond.methodLink own i y ∈ WT) (hi : Cond.instanceMethod y ∈ WT) (he : Cond.selects Cn y y ∈ WT) (hn : Cond.initialized y.cls ∈ WT) (hd : y.cls ≠ "java/lang/invoke/MethodHandle" ∧ y.cls ≠ "java/lang/invoke/VarHandle" ∧ (parseMethodDescriptor y.desc).map (fun d => d.parameters.length) = some nA) (hR : fr + 1 ≤ R.frames ∧ 8 + (maxL + 11) + lo ≤ R.locals) : CallW R s args own Cn i y bytes maxL rt (WS y bytes maxL rt) { frames := fr, cells := ce, slots := sl, locals := lo } ce sl nA := ⟨callB_of nA C.2.2.2.2.1 (ws_goodL hc) rfl rfl rfl (C.2.2.2.2.1 _ (wt_tbl hn)) (C.2.2.2.2.1 _ (wt_tbl hm)) hd hR, C.2.2.2.2.1 _ (wt_tbl hi), C.2.2.2.2.1 _ (wt_tbl he)⟩
theorem mkIL {y : MethodName} {bytes : ByteArray} {maxL i nA fr ce sl lo : Nat} {rt : Option FieldType} (C : CX p l s m args meth c cc n own lw_tbl ret D cI cJ cN A) (hc : Cond.code y bytes maxL none ∈ WT) (hm : Cond.methodLink own i y ∈ WT) (hi : Cond.instanceMethod y ∈ WT) (hn : Cond.initialized y.cls ∈ WT) (hy1 : y.name = "<init>") (hd : y.cls ≠ "java/lang/invoke/MethodHandle" ∧ y.cls ≠ "java/lang/invoke/VarHandle" ∧ (parseMethodDescriptor y.desc).map (fun d => d.parameters.length) = some nA) (hR : fr + 1 ≤ R.frames ∧ 8 + (maxL + 11) + lo ≤ R.locals) : CallB R s args own i y bytes maxL none (WS y bytes maxL none) { frames := fr, cells := ce, slots := sl, locals := lo } ce sl nA ∧ y.name = "<init>" ∧ (Cond.instanceMethod y).before args s = true := ⟨callB_of nA C.2.2.2.2.1 (ws_goodL hc) rfl rfl rfl (C.2.2.2.2.1 _ (wt_tbl hn)) (C.2.2.2.2.1 _ (wt_tbl hm)) hd hR, hy1, C.2.2.2.2.1 _ (wt_tbl hi)⟩
theorem uWL {C : String} {T : u_T} {N : Nat} (h : ∀ w ∈ u_ws C T N, w ∈ WT) : ∀ w ∈ u_ws C T N, w ∈ lw_tbl := fun w hw => wt_tbl (h w hw)
theorem q_cVIs (C : CX p l s m args meth c cc n own Ts ret D cI cJ cN A) {y : MethodName} {wsy : List Cond} {rm : Room} {b : Nat} {As : List Value} {wr wc : va_W} {P1 : va_W → Prop} {r : Int32} {bytes : ByteArray} {maxL : Nat} {rt : Option FieldType} {index nA : Nat} {Cn : String} (hM : MI l D cI cJ cN y wsy rm (.ref b :: As) wc r P1) (cw : CallW R s args own Cn index y bytes maxL rt wsy rm rm.cells rm.slots nA) (q0 : Nat) {ci : Nat} {fs : List Value} (hq : wc[q0]? = some (b, .inr (ci, fs))) {T : u_T} {N : Nat} (hcl : vwCl[ci]? = some (Cn, T, N)) (hw : ws = wr ++ wc) (hnA : As.length = nA) {st0 : List Value} (hst : st0 = As.reverse ++ .ref b :: st) (hroom : (st.map fun v => v.category).sum ≤ 8) (hd : decode cc pc = .ok (.invokevirtual index, 3)) (hf : cells + rm.cells ≤ R.cells ∧ slots + rm.slots ≤ R.slots) (k : ∀ w1, P1 w1 → WW p l e R s m args below meth c D n A (cells + rm.cells) (slots + rm.slots) Q (pc + 3) lv (.int r :: st) (wr ++ w1)) : WW p l e R s m args below meth c D n A cells slots Q pc lv st0 ws := by
  subst hw
  intro H locs ls hP hD hS hl
  have hPc := va_P_r hP
  have hDc := va_D_r hD
  have hA0 : ∀ q, H.size ≤ q → A q := fun q h => C.2.2.2.2.2.2.2.1 q (Nat.le_trans hS.1 h)
  have hF : ∀ q, va_A wc H.size q → A q := by
    intro q hq
    rcases va_A_mem.mp hq with ⟨x, hx, rfl⟩ | hq
    · exact (va_D_iff.mp hDc).2 x hx
    · exact hA0 q hq
  refine va_calli (va_runV (As := As) (rest := st) ⟨C.1, C.2.1, C.2.2.1, C.2.2.2.1, C.2.2.2.2.1⟩ (hM H.size) cw ⟨preB_blind, va_recv C.2.2.2.2.2.1 hPc hcl hq, preB_mk C.2.2.2.2.2.1 C.2.2.2.2.2.2.1 hPc hDc⟩ rfl hnA hl.1 hst (lv_room hroom) hd hf) hS (fun q _ h => hF q h) hF (fun r0 u t H1 locs1 ht hvm hw hB hz1 hk1 hS1 => ?_)
  obtain ⟨w1x, hp1, hP1, hD1⟩ := hB
  rw [ht] at hP1
  subst hw
  obtain ⟨hPn, hDn⟩ := join_app hP hD hA0 hk1 hP1 hD1
  exact k w1x hp1 H1 locs1 ls hPn hDn hS1 hl
theorem q_cVLs (C : CX p l s m args meth c cc n own Ts ret D cI cJ cN A) {y : MethodName} {wsy : List Cond} {rm : Room} {b : Nat} {As : List Value} {wr wc : va_W} {P1 : va_W → Prop} {r : Int64} {bytes : ByteArray} {maxL : Nat} {rt : Option FieldType} {index nA : Nat} {Cn : String} (hM : ML l D cI cJ cN y wsy rm (.ref b :: As) wc r P1) (cw : CallW R s args own Cn index y bytes maxL rt wsy rm rm.cells rm.slots nA) (q0 : Nat) {ci : Nat} {fs : List Value} (hq : wc[q0]? = some (b, .inr (ci, fs))) {T : u_T} {N : Nat} (hcl : vwCl[ci]? = some (Cn, T, N)) (hw : ws = wr ++ wc) (hnA : As.length = nA) {st0 : List Value} (hst : st0 = As.reverse ++ .ref b :: st) (hroom : (st.map fun v => v.category).sum ≤ 8) (hd : decode cc pc = .ok (.invokevirtual index, 3)) (hf : cells + rm.cells ≤ R.cells ∧ slots + rm.slots ≤ R.slots) (k : ∀ w1, P1 w1 → WW p l e R s m args below meth c D n A (cells + rm.cells) (slots + rm.slots) Q (pc + 3) lv (.long r :: st) (wr ++ w1)) : WW p l e R s m args below meth c D n A cells slots Q pc lv st0 ws := by
  subst hw
  intro H locs ls hP hD hS hl
  have hPc := va_P_r hP
  have hDc := va_D_r hD
  have hA0 : ∀ q, H.size ≤ q → A q := fun q h => C.2.2.2.2.2.2.2.1 q (Nat.le_trans hS.1 h)
  have hF : ∀ q, va_A wc H.size q → A q := by
    intro q hq
    rcases va_A_mem.mp hq with ⟨x, hx, rfl⟩ | hq
    · exact (va_D_iff.mp hDc).2 x hx
    · exact hA0 q hq
  refine va_calll (va_runV (As := As) (rest := st) ⟨C.1, C.2.1, C.2.2.1, C.2.2.2.1, C.2.2.2.2.1⟩ (hM H.size) cw ⟨preB_blind, va_recv C.2.2.2.2.2.1 hPc hcl hq, preB_mk C.2.2.2.2.2.1 C.2.2.2.2.2.2.1 hPc hDc⟩ rfl hnA hl.1 hst (lv_room hroom) hd hf) hS (fun q _ h => hF q h) hF (fun r0 u t H1 locs1 ht hvm hw hB hz1 hk1 hS1 => ?_)
  obtain ⟨w1x, hp1, hP1, hD1⟩ := hB
  rw [ht] at hP1
  subst hw
  obtain ⟨hPn, hDn⟩ := join_app hP hD hA0 hk1 hP1 hD1
  exact k w1x hp1 H1 locs1 ls hPn hDn hS1 hl
theorem q_cVFs (C : CX p l s m args meth c cc n own Ts ret D cI cJ cN A) {y : MethodName} {wsy : List Cond} {rm : Room} {b : Nat} {As : List Value} {wr wc : va_W} {P1 : va_W → Prop} {r : UInt32} {bytes : ByteArray} {maxL : Nat} {rt : Option FieldType} {index nA : Nat} {Cn : String} (hM : MF l D cI cJ cN y wsy rm (.ref b :: As) wc r P1) (cw : CallW R s args own Cn index y bytes maxL rt wsy rm rm.cells rm.slots nA) (q0 : Nat) {ci : Nat} {fs : List Value} (hq : wc[q0]? = some (b, .inr (ci, fs))) {T : u_T} {N : Nat} (hcl : vwCl[ci]? = some (Cn, T, N)) (hw : ws = wr ++ wc) (hnA : As.length = nA) {st0 : List Value} (hst : st0 = As.reverse ++ .ref b :: st) (hroom : (st.map fun v => v.category).sum ≤ 8) (hd : decode cc pc = .ok (.invokevirtual index, 3)) (hf : cells + rm.cells ≤ R.cells ∧ slots + rm.slots ≤ R.slots) (k : ∀ w1, P1 w1 → WW p l e R s m args below meth c D n A (cells + rm.cells) (slots + rm.slots) Q (pc + 3) lv (.float r :: st) (wr ++ w1)) : WW p l e R s m args below meth c D n A cells slots Q pc lv st0 ws := by
  subst hw
  intro H locs ls hP hD hS hl
  have hPc := va_P_r hP
  have hDc := va_D_r hD
  have hA0 : ∀ q, H.size ≤ q → A q := fun q h => C.2.2.2.2.2.2.2.1 q (Nat.le_trans hS.1 h)
  have hF : ∀ q, va_A wc H.size q → A q := by
    intro q hq
    rcases va_A_mem.mp hq with ⟨x, hx, rfl⟩ | hq
    · exact (va_D_iff.mp hDc).2 x hx
    · exact hA0 q hq
  refine va_callf (va_runV (As := As) (rest := st) ⟨C.1, C.2.1, C.2.2.1, C.2.2.2.1, C.2.2.2.2.1⟩ (hM H.size) cw ⟨preB_blind, va_recv C.2.2.2.2.2.1 hPc hcl hq, preB_mk C.2.2.2.2.2.1 C.2.2.2.2.2.2.1 hPc hDc⟩ rfl hnA hl.1 hst (lv_room hroom) hd hf) hS (fun q _ h => hF q h) hF (fun r0 u t H1 locs1 ht hvm hw hB hz1 hk1 hS1 => ?_)
  obtain ⟨w1x, hp1, hP1, hD1⟩ := hB
  rw [ht] at hP1
  subst hw
  obtain ⟨hPn, hDn⟩ := join_app hP hD hA0 hk1 hP1 hD1
  exact k w1x hp1 H1 locs1 ls hPn hDn hS1 hl
end QLAW
theorem lg_cmp_rf (r : Int64) : lg_cmp r r = 0 := by unfold lg_cmp; simp
set_option maxRecDepth 100000 in
set_option maxHeartbeats 4000000 in
theorem law_loop {p : Program} {l : Launch} {e : Env} {s : State} {m : MethodId} {below : List Frame} {meth : Method} {c : Code} {D : va_G} {cI cJ cN : ClassId} {b L : Nat} {xs : Nat → Int32} (hL : L ≤ 2048) (hX : va_X b L xs s s.heap) (hbl : b < s.heap.size) (C : CX p l s m #[Value.ref b] meth c code 8 R_law lw_tbl ret D cI cJ cN (fun q => s.heap.size ≤ q)) {x0 m0 : Nat} : ∀ (n i : Nat), 4 * i ≤ L → L + 4 ≤ 4 * (i + n) → ∀ (V : HS) (N : NS) (S : SS) (M : MS) {p0 i0 n0 n1 n2 n3 n4 n5 n6 s0 s1 s2 s3 s4 s5 s6 m1 m2 m3 m4 m5 m6 m7 : Nat} (rp ri : Nat → Option Nat) (pl : va_W) (ce sl : Nat), Rel V N M → PoolOK cI V rp ri pl → ce ≤ 100 + 7 * i → sl ≤ 10000 + 356 * i → WW p l e room_1 s m #[Value.ref b] below meth c D 8 (fun q => s.heap.size ≤ q) ce sl (lw_Z below #[Value.ref b] s) 18 [(0, .ref b), (1, .ref x0), (2, .ref m0), (3, .int (nI (4 * i)))] [] (wMod cI cJ m0 m1 m2 m3 m4 m5 m6 m7 M ++ wXX cI cJ cN x0 p0 i0 n0 n1 n2 n3 n4 n5 n6 s0 s1 s2 s3 s4 s5 s6 rp ri pl V N S) := by
  intro n
  induction n with
  | zero => intro i h1 h2; omega
  | succ n ih =>
    intro i h1 h2 V N S M p0 i0 n0 n1 n2 n3 n4 n5 n6 s0 s1 s2 s3 s4 s5 s6 m1 m2 m3 m4 m5 m6 m7 rp ri pl ce sl hRel hpool hce hsl
    have hRc : 20000 ≤ room_1.cells := Nat.le_of_ble_eq_true rfl
    have hRs : 300000 ≤ room_1.slots := Nat.le_of_ble_eq_true rfl
    have hbA : ¬ (fun q => s.heap.size ≤ q) b := Nat.not_le.mpr hbl
    have hi512 : i ≤ 512 := by omega
    refine q_iload_n C dL_law_18 rfl 3 rfl ?_
    refine q_aload_n C dL_law_19 rfl 0 rfl ?_
    refine q_slen C hX hbl hbA dL_law_20 ?_
    refine q_iconst (v := nI 4) C dL_law_21 (by decide) ?_
    refine q_isub C dL_law_22 ?_
    refine q_icmp_gt C 799 dL_law_23 (by decide) (fun h => ?_) (fun h => ?_)
    · refine q_iconst (v := 1) C dL_law_799 (by decide) ?_
      intro H locs ls hP hD hS hl
      refine va_forget (fun q hq => hS.2.2 q hq) ?_
      refine W.widen (k := room_1.cells) (n := room_1.slots) (by omega) (by omega) ?_
      refine W.base ?_
      exact lw_ret (Drawn.sameBut.refl s.drawn lw_cs) C.1 C.2.1 C.2.2.2.2.2.2.2.2.1 C.2.2.2.2.2.2.2.2.2 dL_law_800
    · have hi4 : 4 * i + 4 ≤ L := by
        have e1 := pk_sub_toInt (a := L) (b := 4) (by omega) (by omega)
        have e2 : (nI (4 * i)).toInt = (4 * i : Nat) := nI_toInt (by omega)
        rw [Int32.lt_iff_toInt_lt] at h
        omega
      have hi0 : inB (nI (4 * i)) L = true := inB_nI (by omega) (by omega)
      have hi1 : inB (nI (4 * i) + 1) L = true := by rw [nI_1]; exact inB_nI (by omega) (by omega)
      have hi2 : inB (nI (4 * i) + 2) L = true := by rw [show (2 : Int32) = nI 2 from by decide, nI_add]; exact inB_nI (by omega) (by omega)
      have hi3 : inB (nI (4 * i) + 3) L = true := by rw [show (3 : Int32) = nI 3 from by decide, nI_add]; exact inB_nI (by omega) (by omega)
      have fin : ∀ (V : HS) (N : NS) (S : SS) (M : MS) (rp ri : Nat → Option Nat) (pl : va_W) (ce sl : Nat), Rel V N M → PoolOK cI V rp ri pl → ce ≤ 100 + 7 * (i + 1) → sl ≤ 10000 + 356 * (i + 1) → WW p l e room_1 s m #[Value.ref b] below meth c D 8 (fun q => s.heap.size ≤ q) ce sl (lw_Z below #[Value.ref b] s) 793 [(0, .ref b), (1, .ref x0), (2, .ref m0), (3, .int (nI (4 * i)))] [] (wMod cI cJ m0 m1 m2 m3 m4 m5 m6 m7 M ++ wXX cI cJ cN x0 p0 i0 n0 n1 n2 n3 n4 n5 n6 s0 s1 s2 s3 s4 s5 s6 rp ri pl V N S) := by
        intro V N S M rp ri pl ce sl hRel hpool hce hsl
        refine q_iinc (v := nI (4 * (i + 1))) (lv' := [(3, .int (nI (4 * (i + 1)))), (0, .ref b), (1, .ref x0), (2, .ref m0)]) C dL_law_793 3 rfl (by rw [show Int32.ofInt 4 = nI 4 from by decide, nI_add]; congr 1) (by decide) rfl ?_
        refine q_goto C 18 dL_law_796 (by decide) ?_
        refine q_sub (lv' := [(0, .ref b), (1, .ref x0), (2, .ref m0), (3, .int (nI (4 * (i + 1))))]) [1, 2, 3, 0] rfl ?_
        exact ih (i + 1) (by omega) (by omega) V N S M rp ri pl ce sl hRel hpool hce hsl
      refine q_aload_n C dL_law_26 rfl 0 rfl ?_
      refine q_iload_n C dL_law_27 rfl 3 rfl ?_
      refine q_sld C hX hbl hbA hi0 dL_law_28 ?_
      refine q_bipush (v := 31) C dL_law_29 (by decide) ?_
      refine q_iand C dL_law_31 ?_
      by_cases h0 : (xs (nI (4 * i)).toNatClampNeg &&& 31) = (0 : Int32)
      · refine q_tableIn (off := 104) C 136 dL_law_32 (by rw [h0]; decide) (by rw [h0]; decide) (by first | (rw [h0]; done) | (rw [h0]; decide)) (by decide) ?_
        obtain ⟨r, V', N', M', hx, hm, hR⟩ := st_begin S hRel (xs (nI (4 * i) + 1).toNatClampNeg) (xs (nI (4 * i) + 2).toNatClampNeg)
        refine q_aload_n C dL_law_136 rfl 1 rfl ?_
        refine q_aload_n C dL_law_137 rfl 0 rfl ?_
        refine q_iload_n C dL_law_138 rfl 3 rfl ?_
        refine q_iconst (v := 1) C dL_law_139 (by decide) ?_
        refine q_iadd C dL_law_140 ?_
        refine q_sld C hX hbl hbA hi1 dL_law_141 ?_
        refine q_aload_n C dL_law_142 rfl 0 rfl ?_
        refine q_iload_n C dL_law_143 rfl 3 rfl ?_
        refine q_iconst (v := 2) C dL_law_144 (by decide) ?_
        refine q_iadd C dL_law_145 ?_
        refine q_sld C hX hbl hbA hi2 dL_law_146 ?_
        refine q_cVIs (wr := wMod cI cJ m0 m1 m2 m3 m4 m5 m6 m7 M) C (c_X2_begin l D cI cJ cN x0 p0 i0 n0 n1 n2 n3 n4 n5 n6 s0 s1 s2 s3 s4 s5 s6 rp ri pl V N S (xs (nI (4 * i) + 1).toNatClampNeg) (xs (nI (4 * i) + 2).toNatClampNeg) (r, V', N') hpool hx) (mkVL (fr := 6) (ce := 7) (sl := 356) (lo := 132) C xc_X2_begin xm_L_13 xi_X2_begin xe_X2_begin xn_X2 hd_X2_begin ⟨Nat.le_of_ble_eq_true rfl, Nat.le_of_ble_eq_true rfl⟩) 0 rfl rfl rfl rfl rfl (Nat.le_of_ble_eq_true rfl) dL_law_147 ⟨by show _ + 7 ≤ room_1.cells; omega, by show _ + 356 ≤ room_1.slots; omega⟩ (fun w1 hp1 => ?_)
        obtain ⟨rp1, ri1, pl1, hpool1, rfl⟩ := hp1
        refine q_aload_n C dL_law_150 rfl 2 rfl ?_
        refine q_aload_n C dL_law_151 rfl 0 rfl ?_
        refine q_iload_n C dL_law_152 rfl 3 rfl ?_
        refine q_iconst (v := 1) C dL_law_153 (by decide) ?_
        refine q_iadd C dL_law_154 ?_
        refine q_sld C hX hbl hbA hi1 dL_law_155 ?_
        refine q_aload_n C dL_law_156 rfl 0 rfl ?_
        refine q_iload_n C dL_law_157 rfl 3 rfl ?_
        refine q_iconst (v := 2) C dL_law_158 (by decide) ?_
        refine q_iadd C dL_law_159 ?_
        refine q_sld C hX hbl hbA hi2 dL_law_160 ?_
        refine q_cVI (ws' := wMod cI cJ m0 m1 m2 m3 m4 m5 m6 m7 M' ++ wXX cI cJ cN x0 p0 i0 n0 n1 n2 n3 n4 n5 n6 s0 s1 s2 s3 s4 s5 s6 rp1 ri1 pl1 V' N' S) C (c_X3_begin l D cI cJ cN m0 m1 m2 m3 m4 m5 m6 m7 M (xs (nI (4 * i) + 1).toNatClampNeg) (xs (nI (4 * i) + 2).toNatClampNeg) (r, M') hm) (mkVL (fr := 1) (ce := 0) (sl := 0) (lo := 23) C xc_X3_begin xm_L_17 xi_X3_begin xe_X3_begin xn_X3 hd_X3_begin ⟨Nat.le_of_ble_eq_true rfl, Nat.le_of_ble_eq_true rfl⟩) 0 rfl rfl [0, 1, 2, 3, 4, 5, 6, 7] rfl (by decide) rfl rfl rfl rfl (Nat.le_of_ble_eq_true rfl) dL_law_161 ⟨by show _ + 7 ≤ room_1.cells; omega, by show _ + 356 ≤ room_1.slots; omega⟩ ?_
        refine q_icmp_eq C 793 dL_law_164 (by decide) (fun _ => fin _ _ _ _ _ _ _ _ _ hR hpool1 (by show _ + 7 ≤ _; omega) (by show _ + 356 ≤ _; omega)) (fun h => absurd rfl h)
      · skip
        by_cases h1 : (xs (nI (4 * i)).toNatClampNeg &&& 31) = (1 : Int32)
        · refine q_tableIn (off := 137) C 169 dL_law_32 (by rw [h1]; decide) (by rw [h1]; decide) (by first | (rw [h1]; done) | (rw [h1]; decide)) (by decide) ?_
          obtain ⟨r, V', N', M', hx, hm, hR⟩ := st_link S hRel (xs (nI (4 * i) + 1).toNatClampNeg) (xs (nI (4 * i) + 2).toNatClampNeg)
          refine q_aload_n C dL_law_169 rfl 1 rfl ?_
          refine q_aload_n C dL_law_170 rfl 0 rfl ?_
          refine q_iload_n C dL_law_171 rfl 3 rfl ?_
          refine q_iconst (v := 1) C dL_law_172 (by decide) ?_
          refine q_iadd C dL_law_173 ?_
          refine q_sld C hX hbl hbA hi1 dL_law_174 ?_
          refine q_aload_n C dL_law_175 rfl 0 rfl ?_
          refine q_iload_n C dL_law_176 rfl 3 rfl ?_
          refine q_iconst (v := 2) C dL_law_177 (by decide) ?_
          refine q_iadd C dL_law_178 ?_
          refine q_sld C hX hbl hbA hi2 dL_law_179 ?_
          refine q_cVIs (wr := wMod cI cJ m0 m1 m2 m3 m4 m5 m6 m7 M) C (c_X2_link l D cI cJ cN x0 p0 i0 n0 n1 n2 n3 n4 n5 n6 s0 s1 s2 s3 s4 s5 s6 rp ri pl V N S (xs (nI (4 * i) + 1).toNatClampNeg) (xs (nI (4 * i) + 2).toNatClampNeg) (r, V', N') hpool hx) (mkVL (fr := 6) (ce := 7) (sl := 356) (lo := 132) C xc_X2_link xm_L_18 xi_X2_link xe_X2_link xn_X2 hd_X2_link ⟨Nat.le_of_ble_eq_true rfl, Nat.le_of_ble_eq_true rfl⟩) 0 rfl rfl rfl rfl rfl (Nat.le_of_ble_eq_true rfl) dL_law_180 ⟨by show _ + 7 ≤ room_1.cells; omega, by show _ + 356 ≤ room_1.slots; omega⟩ (fun w1 hp1 => ?_)
          obtain ⟨rp1, ri1, pl1, hpool1, rfl⟩ := hp1
          refine q_aload_n C dL_law_183 rfl 2 rfl ?_
          refine q_aload_n C dL_law_184 rfl 0 rfl ?_
          refine q_iload_n C dL_law_185 rfl 3 rfl ?_
          refine q_iconst (v := 1) C dL_law_186 (by decide) ?_
          refine q_iadd C dL_law_187 ?_
          refine q_sld C hX hbl hbA hi1 dL_law_188 ?_
          refine q_aload_n C dL_law_189 rfl 0 rfl ?_
          refine q_iload_n C dL_law_190 rfl 3 rfl ?_
          refine q_iconst (v := 2) C dL_law_191 (by decide) ?_
          refine q_iadd C dL_law_192 ?_
          refine q_sld C hX hbl hbA hi2 dL_law_193 ?_
          refine q_cVI (ws' := wMod cI cJ m0 m1 m2 m3 m4 m5 m6 m7 M' ++ wXX cI cJ cN x0 p0 i0 n0 n1 n2 n3 n4 n5 n6 s0 s1 s2 s3 s4 s5 s6 rp1 ri1 pl1 V' N' S) C (c_X3_link l D cI cJ cN m0 m1 m2 m3 m4 m5 m6 m7 M (xs (nI (4 * i) + 1).toNatClampNeg) (xs (nI (4 * i) + 2).toNatClampNeg) (r, M') hm) (mkVL (fr := 3) (ce := 0) (sl := 0) (lo := 67) C xc_X3_link xm_L_21 xi_X3_link xe_X3_link xn_X3 hd_X3_link ⟨Nat.le_of_ble_eq_true rfl, Nat.le_of_ble_eq_true rfl⟩) 0 rfl rfl [0, 1, 2, 3, 4, 5, 6, 7] rfl (by decide) rfl rfl rfl rfl (Nat.le_of_ble_eq_true rfl) dL_law_194 ⟨by show _ + 7 ≤ room_1.cells; omega, by show _ + 356 ≤ room_1.slots; omega⟩ ?_
          refine q_icmp_eq C 793 dL_law_197 (by decide) (fun _ => fin _ _ _ _ _ _ _ _ _ hR hpool1 (by show _ + 7 ≤ _; omega) (by show _ + 356 ≤ _; omega)) (fun h => absurd rfl h)
        · skip
          by_cases h2 : (xs (nI (4 * i)).toNatClampNeg &&& 31) = (2 : Int32)
          · refine q_tableIn (off := 170) C 202 dL_law_32 (by rw [h2]; decide) (by rw [h2]; decide) (by first | (rw [h2]; done) | (rw [h2]; decide)) (by decide) ?_
            obtain ⟨r, V', N', M', hx, hm, hR⟩ := st_unlink S hRel (xs (nI (4 * i) + 1).toNatClampNeg) (xs (nI (4 * i) + 2).toNatClampNeg)
            refine q_aload_n C dL_law_202 rfl 1 rfl ?_
            refine q_aload_n C dL_law_203 rfl 0 rfl ?_
            refine q_iload_n C dL_law_204 rfl 3 rfl ?_
            refine q_iconst (v := 1) C dL_law_205 (by decide) ?_
            refine q_iadd C dL_law_206 ?_
            refine q_sld C hX hbl hbA hi1 dL_law_207 ?_
            refine q_aload_n C dL_law_208 rfl 0 rfl ?_
            refine q_iload_n C dL_law_209 rfl 3 rfl ?_
            refine q_iconst (v := 2) C dL_law_210 (by decide) ?_
            refine q_iadd C dL_law_211 ?_
            refine q_sld C hX hbl hbA hi2 dL_law_212 ?_
            refine q_cVIs (wr := wMod cI cJ m0 m1 m2 m3 m4 m5 m6 m7 M) C (c_X2_unlink l D cI cJ cN x0 p0 i0 n0 n1 n2 n3 n4 n5 n6 s0 s1 s2 s3 s4 s5 s6 rp ri pl V N S (xs (nI (4 * i) + 1).toNatClampNeg) (xs (nI (4 * i) + 2).toNatClampNeg) (r, V', N') hpool hx) (mkVL (fr := 6) (ce := 7) (sl := 356) (lo := 132) C xc_X2_unlink xm_L_22 xi_X2_unlink xe_X2_unlink xn_X2 hd_X2_unlink ⟨Nat.le_of_ble_eq_true rfl, Nat.le_of_ble_eq_true rfl⟩) 0 rfl rfl rfl rfl rfl (Nat.le_of_ble_eq_true rfl) dL_law_213 ⟨by show _ + 7 ≤ room_1.cells; omega, by show _ + 356 ≤ room_1.slots; omega⟩ (fun w1 hp1 => ?_)
            obtain ⟨rp1, ri1, pl1, hpool1, rfl⟩ := hp1
            refine q_aload_n C dL_law_216 rfl 2 rfl ?_
            refine q_aload_n C dL_law_217 rfl 0 rfl ?_
            refine q_iload_n C dL_law_218 rfl 3 rfl ?_
            refine q_iconst (v := 1) C dL_law_219 (by decide) ?_
            refine q_iadd C dL_law_220 ?_
            refine q_sld C hX hbl hbA hi1 dL_law_221 ?_
            refine q_aload_n C dL_law_222 rfl 0 rfl ?_
            refine q_iload_n C dL_law_223 rfl 3 rfl ?_
            refine q_iconst (v := 2) C dL_law_224 (by decide) ?_
            refine q_iadd C dL_law_225 ?_
            refine q_sld C hX hbl hbA hi2 dL_law_226 ?_
            refine q_cVI (ws' := wMod cI cJ m0 m1 m2 m3 m4 m5 m6 m7 M' ++ wXX cI cJ cN x0 p0 i0 n0 n1 n2 n3 n4 n5 n6 s0 s1 s2 s3 s4 s5 s6 rp1 ri1 pl1 V' N' S) C (c_X3_unlink l D cI cJ cN m0 m1 m2 m3 m4 m5 m6 m7 M (xs (nI (4 * i) + 1).toNatClampNeg) (xs (nI (4 * i) + 2).toNatClampNeg) (r, M') hm) (mkVL (fr := 2) (ce := 0) (sl := 0) (lo := 45) C xc_X3_unlink xm_L_25 xi_X3_unlink xe_X3_unlink xn_X3 hd_X3_unlink ⟨Nat.le_of_ble_eq_true rfl, Nat.le_of_ble_eq_true rfl⟩) 0 rfl rfl [0, 1, 2, 3, 4, 5, 6, 7] rfl (by decide) rfl rfl rfl rfl (Nat.le_of_ble_eq_true rfl) dL_law_227 ⟨by show _ + 7 ≤ room_1.cells; omega, by show _ + 356 ≤ room_1.slots; omega⟩ ?_
            refine q_icmp_eq C 793 dL_law_230 (by decide) (fun _ => fin _ _ _ _ _ _ _ _ _ hR hpool1 (by show _ + 7 ≤ _; omega) (by show _ + 356 ≤ _; omega)) (fun h => absurd rfl h)
          · skip
            by_cases h3 : (xs (nI (4 * i)).toNatClampNeg &&& 31) = (3 : Int32)
            · refine q_tableIn (off := 203) C 235 dL_law_32 (by rw [h3]; decide) (by rw [h3]; decide) (by first | (rw [h3]; done) | (rw [h3]; decide)) (by decide) ?_
              obtain ⟨r, V', N', M', hx, hm, hR⟩ := st_drawLink S hRel (xs (nI (4 * i) + 1).toNatClampNeg) (xs (nI (4 * i) + 2).toNatClampNeg)
              refine q_aload_n C dL_law_235 rfl 1 rfl ?_
              refine q_aload_n C dL_law_236 rfl 0 rfl ?_
              refine q_iload_n C dL_law_237 rfl 3 rfl ?_
              refine q_iconst (v := 1) C dL_law_238 (by decide) ?_
              refine q_iadd C dL_law_239 ?_
              refine q_sld C hX hbl hbA hi1 dL_law_240 ?_
              refine q_aload_n C dL_law_241 rfl 0 rfl ?_
              refine q_iload_n C dL_law_242 rfl 3 rfl ?_
              refine q_iconst (v := 2) C dL_law_243 (by decide) ?_
              refine q_iadd C dL_law_244 ?_
              refine q_sld C hX hbl hbA hi2 dL_law_245 ?_
              refine q_cVIs (wr := wMod cI cJ m0 m1 m2 m3 m4 m5 m6 m7 M) C (c_X2_drawLink l D cI cJ cN x0 p0 i0 n0 n1 n2 n3 n4 n5 n6 s0 s1 s2 s3 s4 s5 s6 rp ri pl V N S (xs (nI (4 * i) + 1).toNatClampNeg) (xs (nI (4 * i) + 2).toNatClampNeg) (r, V', N') hpool hx) (mkVL (fr := 6) (ce := 7) (sl := 356) (lo := 132) C xc_X2_drawLink xm_L_26 xi_X2_drawLink xe_X2_drawLink xn_X2 hd_X2_drawLink ⟨Nat.le_of_ble_eq_true rfl, Nat.le_of_ble_eq_true rfl⟩) 0 rfl rfl rfl rfl rfl (Nat.le_of_ble_eq_true rfl) dL_law_246 ⟨by show _ + 7 ≤ room_1.cells; omega, by show _ + 356 ≤ room_1.slots; omega⟩ (fun w1 hp1 => ?_)
              obtain ⟨rp1, ri1, pl1, hpool1, rfl⟩ := hp1
              refine q_aload_n C dL_law_249 rfl 2 rfl ?_
              refine q_aload_n C dL_law_250 rfl 0 rfl ?_
              refine q_iload_n C dL_law_251 rfl 3 rfl ?_
              refine q_iconst (v := 1) C dL_law_252 (by decide) ?_
              refine q_iadd C dL_law_253 ?_
              refine q_sld C hX hbl hbA hi1 dL_law_254 ?_
              refine q_aload_n C dL_law_255 rfl 0 rfl ?_
              refine q_iload_n C dL_law_256 rfl 3 rfl ?_
              refine q_iconst (v := 2) C dL_law_257 (by decide) ?_
              refine q_iadd C dL_law_258 ?_
              refine q_sld C hX hbl hbA hi2 dL_law_259 ?_
              refine q_cVI (ws' := wMod cI cJ m0 m1 m2 m3 m4 m5 m6 m7 M' ++ wXX cI cJ cN x0 p0 i0 n0 n1 n2 n3 n4 n5 n6 s0 s1 s2 s3 s4 s5 s6 rp1 ri1 pl1 V' N' S) C (c_X3_drawLink l D cI cJ cN m0 m1 m2 m3 m4 m5 m6 m7 M (xs (nI (4 * i) + 1).toNatClampNeg) (xs (nI (4 * i) + 2).toNatClampNeg) (r, M') hm) (mkVL (fr := 4) (ce := 0) (sl := 0) (lo := 91) C xc_X3_drawLink xm_L_29 xi_X3_drawLink xe_X3_drawLink xn_X3 hd_X3_drawLink ⟨Nat.le_of_ble_eq_true rfl, Nat.le_of_ble_eq_true rfl⟩) 0 rfl rfl [0, 1, 2, 3, 4, 5, 6, 7] rfl (by decide) rfl rfl rfl rfl (Nat.le_of_ble_eq_true rfl) dL_law_260 ⟨by show _ + 7 ≤ room_1.cells; omega, by show _ + 356 ≤ room_1.slots; omega⟩ ?_
              refine q_icmp_eq C 793 dL_law_263 (by decide) (fun _ => fin _ _ _ _ _ _ _ _ _ hR hpool1 (by show _ + 7 ≤ _; omega) (by show _ + 356 ≤ _; omega)) (fun h => absurd rfl h)
            · skip
              by_cases h4 : (xs (nI (4 * i)).toNatClampNeg &&& 31) = (4 : Int32)
              · refine q_tableIn (off := 236) C 268 dL_law_32 (by rw [h4]; decide) (by rw [h4]; decide) (by first | (rw [h4]; done) | (rw [h4]; decide)) (by decide) ?_
                obtain ⟨r, V', N', S', M', hx, hm, hR⟩ := st_seek S hRel (xs (nI (4 * i) + 1).toNatClampNeg) (xs (nI (4 * i) + 2).toNatClampNeg)
                refine q_aload_n C dL_law_268 rfl 1 rfl ?_
                refine q_aload_n C dL_law_269 rfl 0 rfl ?_
                refine q_iload_n C dL_law_270 rfl 3 rfl ?_
                refine q_iconst (v := 1) C dL_law_271 (by decide) ?_
                refine q_iadd C dL_law_272 ?_
                refine q_sld C hX hbl hbA hi1 dL_law_273 ?_
                refine q_aload_n C dL_law_274 rfl 0 rfl ?_
                refine q_iload_n C dL_law_275 rfl 3 rfl ?_
                refine q_iconst (v := 2) C dL_law_276 (by decide) ?_
                refine q_iadd C dL_law_277 ?_
                refine q_sld C hX hbl hbA hi2 dL_law_278 ?_
                refine q_cVIs (wr := wMod cI cJ m0 m1 m2 m3 m4 m5 m6 m7 M) C (c_X2_seek l D cI cJ cN x0 p0 i0 n0 n1 n2 n3 n4 n5 n6 s0 s1 s2 s3 s4 s5 s6 rp ri pl V N S (xs (nI (4 * i) + 1).toNatClampNeg) (xs (nI (4 * i) + 2).toNatClampNeg) (r, V', N', S') hpool hx) (mkVL (fr := 6) (ce := 7) (sl := 356) (lo := 140) C xc_X2_seek xm_L_30 xi_X2_seek xe_X2_seek xn_X2 hd_X2_seek ⟨Nat.le_of_ble_eq_true rfl, Nat.le_of_ble_eq_true rfl⟩) 0 rfl rfl rfl rfl rfl (Nat.le_of_ble_eq_true rfl) dL_law_279 ⟨by show _ + 7 ≤ room_1.cells; omega, by show _ + 356 ≤ room_1.slots; omega⟩ (fun w1 hp1 => ?_)
                obtain ⟨rp1, ri1, pl1, hpool1, rfl⟩ := hp1
                refine q_aload_n C dL_law_282 rfl 2 rfl ?_
                refine q_aload_n C dL_law_283 rfl 0 rfl ?_
                refine q_iload_n C dL_law_284 rfl 3 rfl ?_
                refine q_iconst (v := 1) C dL_law_285 (by decide) ?_
                refine q_iadd C dL_law_286 ?_
                refine q_sld C hX hbl hbA hi1 dL_law_287 ?_
                refine q_aload_n C dL_law_288 rfl 0 rfl ?_
                refine q_iload_n C dL_law_289 rfl 3 rfl ?_
                refine q_iconst (v := 2) C dL_law_290 (by decide) ?_
                refine q_iadd C dL_law_291 ?_
                refine q_sld C hX hbl hbA hi2 dL_law_292 ?_
                refine q_cVI (ws' := wMod cI cJ m0 m1 m2 m3 m4 m5 m6 m7 M' ++ wXX cI cJ cN x0 p0 i0 n0 n1 n2 n3 n4 n5 n6 s0 s1 s2 s3 s4 s5 s6 rp1 ri1 pl1 V' N' S') C (c_X3_seek l D cI cJ cN m0 m1 m2 m3 m4 m5 m6 m7 M (xs (nI (4 * i) + 1).toNatClampNeg) (xs (nI (4 * i) + 2).toNatClampNeg) (r, M') hm) (mkVL (fr := 6) (ce := 0) (sl := 0) (lo := 136) C xc_X3_seek xm_L_33 xi_X3_seek xe_X3_seek xn_X3 hd_X3_seek ⟨Nat.le_of_ble_eq_true rfl, Nat.le_of_ble_eq_true rfl⟩) 0 rfl rfl [0, 1, 2, 3, 4, 5, 6, 7] rfl (by decide) rfl rfl rfl rfl (Nat.le_of_ble_eq_true rfl) dL_law_293 ⟨by show _ + 7 ≤ room_1.cells; omega, by show _ + 356 ≤ room_1.slots; omega⟩ ?_
                refine q_icmp_eq C 793 dL_law_296 (by decide) (fun _ => fin _ _ _ _ _ _ _ _ _ hR hpool1 (by show _ + 7 ≤ _; omega) (by show _ + 356 ≤ _; omega)) (fun h => absurd rfl h)
              · skip
                by_cases h5 : (xs (nI (4 * i)).toNatClampNeg &&& 31) = (5 : Int32)
                · refine q_tableIn (off := 269) C 301 dL_law_32 (by rw [h5]; decide) (by rw [h5]; decide) (by first | (rw [h5]; done) | (rw [h5]; decide)) (by decide) ?_
                  obtain ⟨r, V', N', S', M', hx, hm, hR⟩ := st_seekSome S hRel (xs (nI (4 * i) + 1).toNatClampNeg)
                  refine q_aload_n C dL_law_301 rfl 1 rfl ?_
                  refine q_aload_n C dL_law_302 rfl 0 rfl ?_
                  refine q_iload_n C dL_law_303 rfl 3 rfl ?_
                  refine q_iconst (v := 1) C dL_law_304 (by decide) ?_
                  refine q_iadd C dL_law_305 ?_
                  refine q_sld C hX hbl hbA hi1 dL_law_306 ?_
                  refine q_cVIs (wr := wMod cI cJ m0 m1 m2 m3 m4 m5 m6 m7 M) C (c_X2_seekSome l D cI cJ cN x0 p0 i0 n0 n1 n2 n3 n4 n5 n6 s0 s1 s2 s3 s4 s5 s6 rp ri pl V N S (xs (nI (4 * i) + 1).toNatClampNeg) (r, V', N', S') hpool hx) (mkVL (fr := 6) (ce := 7) (sl := 356) (lo := 140) C xc_X2_seekSome xm_L_34 xi_X2_seekSome xe_X2_seekSome xn_X2 hd_X2_seekSome ⟨Nat.le_of_ble_eq_true rfl, Nat.le_of_ble_eq_true rfl⟩) 0 rfl rfl rfl rfl rfl (Nat.le_of_ble_eq_true rfl) dL_law_307 ⟨by show _ + 7 ≤ room_1.cells; omega, by show _ + 356 ≤ room_1.slots; omega⟩ (fun w1 hp1 => ?_)
                  obtain ⟨rp1, ri1, pl1, hpool1, rfl⟩ := hp1
                  refine q_aload_n C dL_law_310 rfl 2 rfl ?_
                  refine q_aload_n C dL_law_311 rfl 0 rfl ?_
                  refine q_iload_n C dL_law_312 rfl 3 rfl ?_
                  refine q_iconst (v := 1) C dL_law_313 (by decide) ?_
                  refine q_iadd C dL_law_314 ?_
                  refine q_sld C hX hbl hbA hi1 dL_law_315 ?_
                  refine q_cVI (ws' := wMod cI cJ m0 m1 m2 m3 m4 m5 m6 m7 M' ++ wXX cI cJ cN x0 p0 i0 n0 n1 n2 n3 n4 n5 n6 s0 s1 s2 s3 s4 s5 s6 rp1 ri1 pl1 V' N' S') C (c_X3_seekSome l D cI cJ cN m0 m1 m2 m3 m4 m5 m6 m7 M (xs (nI (4 * i) + 1).toNatClampNeg) (r, M') hm) (mkVL (fr := 6) (ce := 0) (sl := 0) (lo := 136) C xc_X3_seekSome xm_L_38 xi_X3_seekSome xe_X3_seekSome xn_X3 hd_X3_seekSome ⟨Nat.le_of_ble_eq_true rfl, Nat.le_of_ble_eq_true rfl⟩) 0 rfl rfl [0, 1, 2, 3, 4, 5, 6, 7] rfl (by decide) rfl rfl rfl rfl (Nat.le_of_ble_eq_true rfl) dL_law_316 ⟨by show _ + 7 ≤ room_1.cells; omega, by show _ + 356 ≤ room_1.slots; omega⟩ ?_
                  refine q_icmp_eq C 793 dL_law_319 (by decide) (fun _ => fin _ _ _ _ _ _ _ _ _ hR hpool1 (by show _ + 7 ≤ _; omega) (by show _ + 356 ≤ _; omega)) (fun h => absurd rfl h)
                · skip
                  by_cases h6 : (xs (nI (4 * i)).toNatClampNeg &&& 31) = (6 : Int32)
                  · refine q_tableIn (off := 292) C 324 dL_law_32 (by rw [h6]; decide) (by rw [h6]; decide) (by first | (rw [h6]; done) | (rw [h6]; decide)) (by decide) ?_
                    obtain ⟨r, V', N', M', hx, hm, hR⟩ := st_exchange S hRel (xs (nI (4 * i) + 1).toNatClampNeg) (xs (nI (4 * i) + 2).toNatClampNeg)
                    refine q_aload_n C dL_law_324 rfl 1 rfl ?_
                    refine q_aload_n C dL_law_325 rfl 0 rfl ?_
                    refine q_iload_n C dL_law_326 rfl 3 rfl ?_
                    refine q_iconst (v := 1) C dL_law_327 (by decide) ?_
                    refine q_iadd C dL_law_328 ?_
                    refine q_sld C hX hbl hbA hi1 dL_law_329 ?_
                    refine q_aload_n C dL_law_330 rfl 0 rfl ?_
                    refine q_iload_n C dL_law_331 rfl 3 rfl ?_
                    refine q_iconst (v := 2) C dL_law_332 (by decide) ?_
                    refine q_iadd C dL_law_333 ?_
                    refine q_sld C hX hbl hbA hi2 dL_law_334 ?_
                    refine q_cVIs (wr := wMod cI cJ m0 m1 m2 m3 m4 m5 m6 m7 M) C (c_X2_exchange l D cI cJ cN x0 p0 i0 n0 n1 n2 n3 n4 n5 n6 s0 s1 s2 s3 s4 s5 s6 rp ri pl V N S (xs (nI (4 * i) + 1).toNatClampNeg) (xs (nI (4 * i) + 2).toNatClampNeg) (r, V', N') hpool hx) (mkVL (fr := 6) (ce := 7) (sl := 356) (lo := 132) C xc_X2_exchange xm_L_39 xi_X2_exchange xe_X2_exchange xn_X2 hd_X2_exchange ⟨Nat.le_of_ble_eq_true rfl, Nat.le_of_ble_eq_true rfl⟩) 0 rfl rfl rfl rfl rfl (Nat.le_of_ble_eq_true rfl) dL_law_335 ⟨by show _ + 7 ≤ room_1.cells; omega, by show _ + 356 ≤ room_1.slots; omega⟩ (fun w1 hp1 => ?_)
                    obtain ⟨rp1, ri1, pl1, hpool1, rfl⟩ := hp1
                    refine q_aload_n C dL_law_338 rfl 2 rfl ?_
                    refine q_aload_n C dL_law_339 rfl 0 rfl ?_
                    refine q_iload_n C dL_law_340 rfl 3 rfl ?_
                    refine q_iconst (v := 1) C dL_law_341 (by decide) ?_
                    refine q_iadd C dL_law_342 ?_
                    refine q_sld C hX hbl hbA hi1 dL_law_343 ?_
                    refine q_aload_n C dL_law_344 rfl 0 rfl ?_
                    refine q_iload_n C dL_law_345 rfl 3 rfl ?_
                    refine q_iconst (v := 2) C dL_law_346 (by decide) ?_
                    refine q_iadd C dL_law_347 ?_
                    refine q_sld C hX hbl hbA hi2 dL_law_348 ?_
                    refine q_cVI (ws' := wMod cI cJ m0 m1 m2 m3 m4 m5 m6 m7 M' ++ wXX cI cJ cN x0 p0 i0 n0 n1 n2 n3 n4 n5 n6 s0 s1 s2 s3 s4 s5 s6 rp1 ri1 pl1 V' N' S) C (c_X3_exchange l D cI cJ cN m0 m1 m2 m3 m4 m5 m6 m7 M (xs (nI (4 * i) + 1).toNatClampNeg) (xs (nI (4 * i) + 2).toNatClampNeg) (r, M') hm) (mkVL (fr := 3) (ce := 0) (sl := 0) (lo := 68) C xc_X3_exchange xm_L_42 xi_X3_exchange xe_X3_exchange xn_X3 hd_X3_exchange ⟨Nat.le_of_ble_eq_true rfl, Nat.le_of_ble_eq_true rfl⟩) 0 rfl rfl [0, 1, 2, 3, 4, 5, 6, 7] rfl (by decide) rfl rfl rfl rfl (Nat.le_of_ble_eq_true rfl) dL_law_349 ⟨by show _ + 7 ≤ room_1.cells; omega, by show _ + 356 ≤ room_1.slots; omega⟩ ?_
                    refine q_icmp_eq C 793 dL_law_352 (by decide) (fun _ => fin _ _ _ _ _ _ _ _ _ hR hpool1 (by show _ + 7 ≤ _; omega) (by show _ + 356 ≤ _; omega)) (fun h => absurd rfl h)
                  · skip
                    by_cases h7 : (xs (nI (4 * i)).toNatClampNeg &&& 31) = (7 : Int32)
                    · refine q_tableIn (off := 325) C 357 dL_law_32 (by rw [h7]; decide) (by rw [h7]; decide) (by first | (rw [h7]; done) | (rw [h7]; decide)) (by decide) ?_
                      obtain ⟨r, V', N', M', hx, hm, hR⟩ := st_leave S hRel (xs (nI (4 * i) + 1).toNatClampNeg)
                      refine q_aload_n C dL_law_357 rfl 1 rfl ?_
                      refine q_aload_n C dL_law_358 rfl 0 rfl ?_
                      refine q_iload_n C dL_law_359 rfl 3 rfl ?_
                      refine q_iconst (v := 1) C dL_law_360 (by decide) ?_
                      refine q_iadd C dL_law_361 ?_
                      refine q_sld C hX hbl hbA hi1 dL_law_362 ?_
                      refine q_cVIs (wr := wMod cI cJ m0 m1 m2 m3 m4 m5 m6 m7 M) C (c_X2_leave l D cI cJ cN x0 p0 i0 n0 n1 n2 n3 n4 n5 n6 s0 s1 s2 s3 s4 s5 s6 rp ri pl V N S (xs (nI (4 * i) + 1).toNatClampNeg) (r, V', N') hpool hx) (mkVL (fr := 6) (ce := 7) (sl := 356) (lo := 132) C xc_X2_leave xm_L_43 xi_X2_leave xe_X2_leave xn_X2 hd_X2_leave ⟨Nat.le_of_ble_eq_true rfl, Nat.le_of_ble_eq_true rfl⟩) 0 rfl rfl rfl rfl rfl (Nat.le_of_ble_eq_true rfl) dL_law_363 ⟨by show _ + 7 ≤ room_1.cells; omega, by show _ + 356 ≤ room_1.slots; omega⟩ (fun w1 hp1 => ?_)
                      obtain ⟨rp1, ri1, pl1, hpool1, rfl⟩ := hp1
                      refine q_aload_n C dL_law_366 rfl 2 rfl ?_
                      refine q_aload_n C dL_law_367 rfl 0 rfl ?_
                      refine q_iload_n C dL_law_368 rfl 3 rfl ?_
                      refine q_iconst (v := 1) C dL_law_369 (by decide) ?_
                      refine q_iadd C dL_law_370 ?_
                      refine q_sld C hX hbl hbA hi1 dL_law_371 ?_
                      refine q_cVI (ws' := wMod cI cJ m0 m1 m2 m3 m4 m5 m6 m7 M' ++ wXX cI cJ cN x0 p0 i0 n0 n1 n2 n3 n4 n5 n6 s0 s1 s2 s3 s4 s5 s6 rp1 ri1 pl1 V' N' S) C (c_X3_leave l D cI cJ cN m0 m1 m2 m3 m4 m5 m6 m7 M (xs (nI (4 * i) + 1).toNatClampNeg) (r, M') hm) (mkVL (fr := 2) (ce := 0) (sl := 0) (lo := 45) C xc_X3_leave xm_L_46 xi_X3_leave xe_X3_leave xn_X3 hd_X3_leave ⟨Nat.le_of_ble_eq_true rfl, Nat.le_of_ble_eq_true rfl⟩) 0 rfl rfl [0, 1, 2, 3, 4, 5, 6, 7] rfl (by decide) rfl rfl rfl rfl (Nat.le_of_ble_eq_true rfl) dL_law_372 ⟨by show _ + 7 ≤ room_1.cells; omega, by show _ + 356 ≤ room_1.slots; omega⟩ ?_
                      refine q_icmp_eq C 793 dL_law_375 (by decide) (fun _ => fin _ _ _ _ _ _ _ _ _ hR hpool1 (by show _ + 7 ≤ _; omega) (by show _ + 356 ≤ _; omega)) (fun h => absurd rfl h)
                    · skip
                      by_cases h8 : (xs (nI (4 * i)).toNatClampNeg &&& 31) = (8 : Int32)
                      · refine q_tableIn (off := 348) C 380 dL_law_32 (by rw [h8]; decide) (by rw [h8]; decide) (by first | (rw [h8]; done) | (rw [h8]; decide)) (by decide) ?_
                        obtain ⟨r, V', N', M', hx, hm, hR⟩ := st_enter S hRel (xs (nI (4 * i) + 1).toNatClampNeg)
                        refine q_aload_n C dL_law_380 rfl 1 rfl ?_
                        refine q_aload_n C dL_law_381 rfl 0 rfl ?_
                        refine q_iload_n C dL_law_382 rfl 3 rfl ?_
                        refine q_iconst (v := 1) C dL_law_383 (by decide) ?_
                        refine q_iadd C dL_law_384 ?_
                        refine q_sld C hX hbl hbA hi1 dL_law_385 ?_
                        refine q_cVIs (wr := wMod cI cJ m0 m1 m2 m3 m4 m5 m6 m7 M) C (c_X2_enter l D cI cJ cN x0 p0 i0 n0 n1 n2 n3 n4 n5 n6 s0 s1 s2 s3 s4 s5 s6 rp ri pl V N S (xs (nI (4 * i) + 1).toNatClampNeg) (r, V', N') hpool hx) (mkVL (fr := 6) (ce := 7) (sl := 356) (lo := 132) C xc_X2_enter xm_L_47 xi_X2_enter xe_X2_enter xn_X2 hd_X2_enter ⟨Nat.le_of_ble_eq_true rfl, Nat.le_of_ble_eq_true rfl⟩) 0 rfl rfl rfl rfl rfl (Nat.le_of_ble_eq_true rfl) dL_law_386 ⟨by show _ + 7 ≤ room_1.cells; omega, by show _ + 356 ≤ room_1.slots; omega⟩ (fun w1 hp1 => ?_)
                        obtain ⟨rp1, ri1, pl1, hpool1, rfl⟩ := hp1
                        refine q_aload_n C dL_law_389 rfl 2 rfl ?_
                        refine q_aload_n C dL_law_390 rfl 0 rfl ?_
                        refine q_iload_n C dL_law_391 rfl 3 rfl ?_
                        refine q_iconst (v := 1) C dL_law_392 (by decide) ?_
                        refine q_iadd C dL_law_393 ?_
                        refine q_sld C hX hbl hbA hi1 dL_law_394 ?_
                        refine q_cVI (ws' := wMod cI cJ m0 m1 m2 m3 m4 m5 m6 m7 M' ++ wXX cI cJ cN x0 p0 i0 n0 n1 n2 n3 n4 n5 n6 s0 s1 s2 s3 s4 s5 s6 rp1 ri1 pl1 V' N' S) C (c_X3_enter l D cI cJ cN m0 m1 m2 m3 m4 m5 m6 m7 M (xs (nI (4 * i) + 1).toNatClampNeg) (r, M') hm) (mkVL (fr := 4) (ce := 0) (sl := 0) (lo := 90) C xc_X3_enter xm_L_50 xi_X3_enter xe_X3_enter xn_X3 hd_X3_enter ⟨Nat.le_of_ble_eq_true rfl, Nat.le_of_ble_eq_true rfl⟩) 0 rfl rfl [0, 1, 2, 3, 4, 5, 6, 7] rfl (by decide) rfl rfl rfl rfl (Nat.le_of_ble_eq_true rfl) dL_law_395 ⟨by show _ + 7 ≤ room_1.cells; omega, by show _ + 356 ≤ room_1.slots; omega⟩ ?_
                        refine q_icmp_eq C 793 dL_law_398 (by decide) (fun _ => fin _ _ _ _ _ _ _ _ _ hR hpool1 (by show _ + 7 ≤ _; omega) (by show _ + 356 ≤ _; omega)) (fun h => absurd rfl h)
                      · skip
                        by_cases h9 : (xs (nI (4 * i)).toNatClampNeg &&& 31) = (9 : Int32)
                        · refine q_tableIn (off := 371) C 403 dL_law_32 (by rw [h9]; decide) (by rw [h9]; decide) (by first | (rw [h9]; done) | (rw [h9]; decide)) (by decide) ?_
                          obtain ⟨r, V', N', M', hx, hm, hR⟩ := st_set S hRel (xs (nI (4 * i) + 1).toNatClampNeg) (xs (nI (4 * i) + 2).toNatClampNeg)
                          refine q_aload_n C dL_law_403 rfl 1 rfl ?_
                          refine q_aload_n C dL_law_404 rfl 0 rfl ?_
                          refine q_iload_n C dL_law_405 rfl 3 rfl ?_
                          refine q_iconst (v := 1) C dL_law_406 (by decide) ?_
                          refine q_iadd C dL_law_407 ?_
                          refine q_sld C hX hbl hbA hi1 dL_law_408 ?_
                          refine q_aload_n C dL_law_409 rfl 0 rfl ?_
                          refine q_iload_n C dL_law_410 rfl 3 rfl ?_
                          refine q_iconst (v := 2) C dL_law_411 (by decide) ?_
                          refine q_iadd C dL_law_412 ?_
                          refine q_sld C hX hbl hbA hi2 dL_law_413 ?_
                          refine q_cVIs (wr := wMod cI cJ m0 m1 m2 m3 m4 m5 m6 m7 M) C (c_X2_set l D cI cJ cN x0 p0 i0 n0 n1 n2 n3 n4 n5 n6 s0 s1 s2 s3 s4 s5 s6 rp ri pl V N S (xs (nI (4 * i) + 1).toNatClampNeg) (xs (nI (4 * i) + 2).toNatClampNeg) (r, V', N') hpool hx) (mkVL (fr := 6) (ce := 7) (sl := 356) (lo := 132) C xc_X2_set xm_L_51 xi_X2_set xe_X2_set xn_X2 hd_X2_set ⟨Nat.le_of_ble_eq_true rfl, Nat.le_of_ble_eq_true rfl⟩) 0 rfl rfl rfl rfl rfl (Nat.le_of_ble_eq_true rfl) dL_law_414 ⟨by show _ + 7 ≤ room_1.cells; omega, by show _ + 356 ≤ room_1.slots; omega⟩ (fun w1 hp1 => ?_)
                          obtain ⟨rp1, ri1, pl1, hpool1, rfl⟩ := hp1
                          refine q_aload_n C dL_law_417 rfl 2 rfl ?_
                          refine q_aload_n C dL_law_418 rfl 0 rfl ?_
                          refine q_iload_n C dL_law_419 rfl 3 rfl ?_
                          refine q_iconst (v := 1) C dL_law_420 (by decide) ?_
                          refine q_iadd C dL_law_421 ?_
                          refine q_sld C hX hbl hbA hi1 dL_law_422 ?_
                          refine q_aload_n C dL_law_423 rfl 0 rfl ?_
                          refine q_iload_n C dL_law_424 rfl 3 rfl ?_
                          refine q_iconst (v := 2) C dL_law_425 (by decide) ?_
                          refine q_iadd C dL_law_426 ?_
                          refine q_sld C hX hbl hbA hi2 dL_law_427 ?_
                          refine q_cVI (ws' := wMod cI cJ m0 m1 m2 m3 m4 m5 m6 m7 M' ++ wXX cI cJ cN x0 p0 i0 n0 n1 n2 n3 n4 n5 n6 s0 s1 s2 s3 s4 s5 s6 rp1 ri1 pl1 V' N' S) C (c_X3_set l D cI cJ cN m0 m1 m2 m3 m4 m5 m6 m7 M (xs (nI (4 * i) + 1).toNatClampNeg) (xs (nI (4 * i) + 2).toNatClampNeg) (r, M') hm) (mkVL (fr := 1) (ce := 0) (sl := 0) (lo := 22) C xc_X3_set xm_L_54 xi_X3_set xe_X3_set xn_X3 hd_X3_set ⟨Nat.le_of_ble_eq_true rfl, Nat.le_of_ble_eq_true rfl⟩) 0 rfl rfl [0, 1, 2, 3, 4, 5, 6, 7] rfl (by decide) rfl rfl rfl rfl (Nat.le_of_ble_eq_true rfl) dL_law_428 ⟨by show _ + 7 ≤ room_1.cells; omega, by show _ + 356 ≤ room_1.slots; omega⟩ ?_
                          refine q_icmp_eq C 793 dL_law_431 (by decide) (fun _ => fin _ _ _ _ _ _ _ _ _ hR hpool1 (by show _ + 7 ≤ _; omega) (by show _ + 356 ≤ _; omega)) (fun h => absurd rfl h)
                        · skip
                          by_cases h10 : (xs (nI (4 * i)).toNatClampNeg &&& 31) = (10 : Int32)
                          · refine q_tableIn (off := 404) C 436 dL_law_32 (by rw [h10]; decide) (by rw [h10]; decide) (by first | (rw [h10]; done) | (rw [h10]; decide)) (by decide) ?_
                            obtain ⟨r, V', N', M', hx, hm, hR⟩ := st_undo S hRel
                            refine q_aload_n C dL_law_436 rfl 1 rfl ?_
                            refine q_cVIs (wr := wMod cI cJ m0 m1 m2 m3 m4 m5 m6 m7 M) C (c_X2_undo l D cI cJ cN x0 p0 i0 n0 n1 n2 n3 n4 n5 n6 s0 s1 s2 s3 s4 s5 s6 rp ri pl V N S  (r, V', N') hpool hx) (mkVL (fr := 2) (ce := 0) (sl := 0) (lo := 43) C xc_X2_undo xm_L_55 xi_X2_undo xe_X2_undo xn_X2 hd_X2_undo ⟨Nat.le_of_ble_eq_true rfl, Nat.le_of_ble_eq_true rfl⟩) 0 rfl rfl rfl rfl rfl (Nat.le_of_ble_eq_true rfl) dL_law_437 ⟨by show _ + 0 ≤ room_1.cells; omega, by show _ + 0 ≤ room_1.slots; omega⟩ (fun w1 hp1 => ?_)
                            obtain ⟨rp1, ri1, pl1, hpool1, rfl⟩ := hp1
                            refine q_aload_n C dL_law_440 rfl 2 rfl ?_
                            refine q_cVI (ws' := wMod cI cJ m0 m1 m2 m3 m4 m5 m6 m7 M' ++ wXX cI cJ cN x0 p0 i0 n0 n1 n2 n3 n4 n5 n6 s0 s1 s2 s3 s4 s5 s6 rp1 ri1 pl1 V' N' S) C (c_X3_undo l D cI cJ cN m0 m1 m2 m3 m4 m5 m6 m7 M  (r, M') hm) (mkVL (fr := 0) (ce := 0) (sl := 0) (lo := 0) C xc_X3_undo xm_L_59 xi_X3_undo xe_X3_undo xn_X3 hd_X3_undo ⟨Nat.le_of_ble_eq_true rfl, Nat.le_of_ble_eq_true rfl⟩) 0 rfl rfl [0, 1, 2, 3, 4, 5, 6, 7] rfl (by decide) rfl rfl rfl rfl (Nat.le_of_ble_eq_true rfl) dL_law_441 ⟨by show _ + 0 ≤ room_1.cells; omega, by show _ + 0 ≤ room_1.slots; omega⟩ ?_
                            refine q_icmp_eq C 793 dL_law_444 (by decide) (fun _ => fin _ _ _ _ _ _ _ _ _ hR hpool1 (by show _ + 0 ≤ _; omega) (by show _ + 0 ≤ _; omega)) (fun h => absurd rfl h)
                          · skip
                            by_cases h11 : (xs (nI (4 * i)).toNatClampNeg &&& 31) = (11 : Int32)
                            · refine q_tableIn (off := 417) C 449 dL_law_32 (by rw [h11]; decide) (by rw [h11]; decide) (by first | (rw [h11]; done) | (rw [h11]; decide)) (by decide) ?_
                              obtain ⟨r, hx, hm, hR⟩ := st_told S hRel (xs (nI (4 * i) + 1).toNatClampNeg)
                              refine q_aload_n C dL_law_449 rfl 1 rfl ?_
                              refine q_aload_n C dL_law_450 rfl 0 rfl ?_
                              refine q_iload_n C dL_law_451 rfl 3 rfl ?_
                              refine q_iconst (v := 1) C dL_law_452 (by decide) ?_
                              refine q_iadd C dL_law_453 ?_
                              refine q_sld C hX hbl hbA hi1 dL_law_454 ?_
                              refine q_cVIs (wr := wMod cI cJ m0 m1 m2 m3 m4 m5 m6 m7 M) C (c_X2_told l D cI cJ cN x0 p0 i0 n0 n1 n2 n3 n4 n5 n6 s0 s1 s2 s3 s4 s5 s6 rp ri pl V N S (xs (nI (4 * i) + 1).toNatClampNeg) r hx) (mkVL (fr := 3) (ce := 0) (sl := 0) (lo := 66) C xc_X2_told xm_L_60 xi_X2_told xe_X2_told xn_X2 hd_X2_told ⟨Nat.le_of_ble_eq_true rfl, Nat.le_of_ble_eq_true rfl⟩) 0 rfl rfl rfl rfl rfl (Nat.le_of_ble_eq_true rfl) dL_law_455 ⟨by show _ + 0 ≤ room_1.cells; omega, by show _ + 0 ≤ room_1.slots; omega⟩ (fun w1 hp1 => ?_)
                              subst hp1
                              refine q_aload_n C dL_law_458 rfl 2 rfl ?_
                              refine q_aload_n C dL_law_459 rfl 0 rfl ?_
                              refine q_iload_n C dL_law_460 rfl 3 rfl ?_
                              refine q_iconst (v := 1) C dL_law_461 (by decide) ?_
                              refine q_iadd C dL_law_462 ?_
                              refine q_sld C hX hbl hbA hi1 dL_law_463 ?_
                              refine q_cVI (ws' := wMod cI cJ m0 m1 m2 m3 m4 m5 m6 m7 M ++ wXX cI cJ cN x0 p0 i0 n0 n1 n2 n3 n4 n5 n6 s0 s1 s2 s3 s4 s5 s6 rp ri pl V N S) C (c_X3_told l D cI cJ cN m0 m1 m2 m3 m4 m5 m6 m7 M (xs (nI (4 * i) + 1).toNatClampNeg) r hm) (mkVL (fr := 3) (ce := 0) (sl := 0) (lo := 68) C xc_X3_told xm_L_63 xi_X3_told xe_X3_told xn_X3 hd_X3_told ⟨Nat.le_of_ble_eq_true rfl, Nat.le_of_ble_eq_true rfl⟩) 0 rfl rfl [0, 1, 2, 3, 4, 5, 6, 7] rfl (by decide) rfl rfl rfl rfl (Nat.le_of_ble_eq_true rfl) dL_law_464 ⟨by show _ + 0 ≤ room_1.cells; omega, by show _ + 0 ≤ room_1.slots; omega⟩ ?_
                              refine q_icmp_eq C 793 dL_law_467 (by decide) (fun _ => fin _ _ _ _ _ _ _ _ _ hR hpool (by show _ + 0 ≤ _; omega) (by show _ + 0 ≤ _; omega)) (fun h => absurd rfl h)
                            · skip
                              by_cases h12 : (xs (nI (4 * i)).toNatClampNeg &&& 31) = (12 : Int32)
                              · refine q_tableIn (off := 440) C 472 dL_law_32 (by rw [h12]; decide) (by rw [h12]; decide) (by first | (rw [h12]; done) | (rw [h12]; decide)) (by decide) ?_
                                obtain ⟨r, S', M', hx, hm, hR⟩ := st_node S hRel (xs (nI (4 * i) + 1).toNatClampNeg) (xs (nI (4 * i) + 2).toNatClampNeg)
                                refine q_aload_n C dL_law_472 rfl 1 rfl ?_
                                refine q_aload_n C dL_law_473 rfl 0 rfl ?_
                                refine q_iload_n C dL_law_474 rfl 3 rfl ?_
                                refine q_iconst (v := 1) C dL_law_475 (by decide) ?_
                                refine q_iadd C dL_law_476 ?_
                                refine q_sld C hX hbl hbA hi1 dL_law_477 ?_
                                refine q_aload_n C dL_law_478 rfl 0 rfl ?_
                                refine q_iload_n C dL_law_479 rfl 3 rfl ?_
                                refine q_iconst (v := 2) C dL_law_480 (by decide) ?_
                                refine q_iadd C dL_law_481 ?_
                                refine q_sld C hX hbl hbA hi2 dL_law_482 ?_
                                refine q_cVIs (wr := wMod cI cJ m0 m1 m2 m3 m4 m5 m6 m7 M) C (c_X2_node l D cI cJ cN x0 p0 i0 n0 n1 n2 n3 n4 n5 n6 s0 s1 s2 s3 s4 s5 s6 rp ri pl V N S (xs (nI (4 * i) + 1).toNatClampNeg) (xs (nI (4 * i) + 2).toNatClampNeg) (r, S') hx) (mkVL (fr := 5) (ce := 0) (sl := 0) (lo := 116) C xc_X2_node xm_L_64 xi_X2_node xe_X2_node xn_X2 hd_X2_node ⟨Nat.le_of_ble_eq_true rfl, Nat.le_of_ble_eq_true rfl⟩) 0 rfl rfl rfl rfl rfl (Nat.le_of_ble_eq_true rfl) dL_law_483 ⟨by show _ + 0 ≤ room_1.cells; omega, by show _ + 0 ≤ room_1.slots; omega⟩ (fun w1 hp1 => ?_)
                                subst hp1
                                refine q_aload_n C dL_law_486 rfl 2 rfl ?_
                                refine q_aload_n C dL_law_487 rfl 0 rfl ?_
                                refine q_iload_n C dL_law_488 rfl 3 rfl ?_
                                refine q_iconst (v := 1) C dL_law_489 (by decide) ?_
                                refine q_iadd C dL_law_490 ?_
                                refine q_sld C hX hbl hbA hi1 dL_law_491 ?_
                                refine q_aload_n C dL_law_492 rfl 0 rfl ?_
                                refine q_iload_n C dL_law_493 rfl 3 rfl ?_
                                refine q_iconst (v := 2) C dL_law_494 (by decide) ?_
                                refine q_iadd C dL_law_495 ?_
                                refine q_sld C hX hbl hbA hi2 dL_law_496 ?_
                                refine q_cVI (ws' := wMod cI cJ m0 m1 m2 m3 m4 m5 m6 m7 M' ++ wXX cI cJ cN x0 p0 i0 n0 n1 n2 n3 n4 n5 n6 s0 s1 s2 s3 s4 s5 s6 rp ri pl V N S') C (c_X3_node l D cI cJ cN m0 m1 m2 m3 m4 m5 m6 m7 M (xs (nI (4 * i) + 1).toNatClampNeg) (xs (nI (4 * i) + 2).toNatClampNeg) (r, M') hm) (mkVL (fr := 5) (ce := 0) (sl := 0) (lo := 117) C xc_X3_node xm_L_67 xi_X3_node xe_X3_node xn_X3 hd_X3_node ⟨Nat.le_of_ble_eq_true rfl, Nat.le_of_ble_eq_true rfl⟩) 0 rfl rfl [0, 1, 2, 3, 4, 5, 6, 7] rfl (by decide) rfl rfl rfl rfl (Nat.le_of_ble_eq_true rfl) dL_law_497 ⟨by show _ + 0 ≤ room_1.cells; omega, by show _ + 0 ≤ room_1.slots; omega⟩ ?_
                                refine q_icmp_eq C 793 dL_law_500 (by decide) (fun _ => fin _ _ _ _ _ _ _ _ _ hR hpool (by show _ + 0 ≤ _; omega) (by show _ + 0 ≤ _; omega)) (fun h => absurd rfl h)
                              · skip
                                by_cases h13 : (xs (nI (4 * i)).toNatClampNeg &&& 31) = (13 : Int32)
                                · refine q_tableIn (off := 473) C 505 dL_law_32 (by rw [h13]; decide) (by rw [h13]; decide) (by first | (rw [h13]; done) | (rw [h13]; decide)) (by decide) ?_
                                  obtain ⟨r, hx, hm, hR⟩ := st_target S hRel (xs (nI (4 * i) + 1).toNatClampNeg) (xs (nI (4 * i) + 2).toNatClampNeg)
                                  refine q_aload_n C dL_law_505 rfl 1 rfl ?_
                                  refine q_aload_n C dL_law_506 rfl 0 rfl ?_
                                  refine q_iload_n C dL_law_507 rfl 3 rfl ?_
                                  refine q_iconst (v := 1) C dL_law_508 (by decide) ?_
                                  refine q_iadd C dL_law_509 ?_
                                  refine q_sld C hX hbl hbA hi1 dL_law_510 ?_
                                  refine q_aload_n C dL_law_511 rfl 0 rfl ?_
                                  refine q_iload_n C dL_law_512 rfl 3 rfl ?_
                                  refine q_iconst (v := 2) C dL_law_513 (by decide) ?_
                                  refine q_iadd C dL_law_514 ?_
                                  refine q_sld C hX hbl hbA hi2 dL_law_515 ?_
                                  refine q_cVIs (wr := wMod cI cJ m0 m1 m2 m3 m4 m5 m6 m7 M) C (c_X2_target l D cI cJ cN x0 p0 i0 n0 n1 n2 n3 n4 n5 n6 s0 s1 s2 s3 s4 s5 s6 rp ri pl V N S (xs (nI (4 * i) + 1).toNatClampNeg) (xs (nI (4 * i) + 2).toNatClampNeg) r hx) (mkVL (fr := 2) (ce := 0) (sl := 0) (lo := 43) C xc_X2_target xm_L_68 xi_X2_target xe_X2_target xn_X2 hd_X2_target ⟨Nat.le_of_ble_eq_true rfl, Nat.le_of_ble_eq_true rfl⟩) 0 rfl rfl rfl rfl rfl (Nat.le_of_ble_eq_true rfl) dL_law_516 ⟨by show _ + 0 ≤ room_1.cells; omega, by show _ + 0 ≤ room_1.slots; omega⟩ (fun w1 hp1 => ?_)
                                  subst hp1
                                  refine q_aload_n C dL_law_519 rfl 2 rfl ?_
                                  refine q_aload_n C dL_law_520 rfl 0 rfl ?_
                                  refine q_iload_n C dL_law_521 rfl 3 rfl ?_
                                  refine q_iconst (v := 1) C dL_law_522 (by decide) ?_
                                  refine q_iadd C dL_law_523 ?_
                                  refine q_sld C hX hbl hbA hi1 dL_law_524 ?_
                                  refine q_aload_n C dL_law_525 rfl 0 rfl ?_
                                  refine q_iload_n C dL_law_526 rfl 3 rfl ?_
                                  refine q_iconst (v := 2) C dL_law_527 (by decide) ?_
                                  refine q_iadd C dL_law_528 ?_
                                  refine q_sld C hX hbl hbA hi2 dL_law_529 ?_
                                  refine q_cVI (ws' := wMod cI cJ m0 m1 m2 m3 m4 m5 m6 m7 M ++ wXX cI cJ cN x0 p0 i0 n0 n1 n2 n3 n4 n5 n6 s0 s1 s2 s3 s4 s5 s6 rp ri pl V N S) C (c_X3_target l D cI cJ cN m0 m1 m2 m3 m4 m5 m6 m7 M (xs (nI (4 * i) + 1).toNatClampNeg) (xs (nI (4 * i) + 2).toNatClampNeg) r hm) (mkVL (fr := 2) (ce := 0) (sl := 0) (lo := 43) C xc_X3_target xm_L_71 xi_X3_target xe_X3_target xn_X3 hd_X3_target ⟨Nat.le_of_ble_eq_true rfl, Nat.le_of_ble_eq_true rfl⟩) 0 rfl rfl [0, 1, 2, 3, 4, 5, 6, 7] rfl (by decide) rfl rfl rfl rfl (Nat.le_of_ble_eq_true rfl) dL_law_530 ⟨by show _ + 0 ≤ room_1.cells; omega, by show _ + 0 ≤ room_1.slots; omega⟩ ?_
                                  refine q_icmp_eq C 793 dL_law_533 (by decide) (fun _ => fin _ _ _ _ _ _ _ _ _ hR hpool (by show _ + 0 ≤ _; omega) (by show _ + 0 ≤ _; omega)) (fun h => absurd rfl h)
                                · skip
                                  by_cases h14 : (xs (nI (4 * i)).toNatClampNeg &&& 31) = (14 : Int32)
                                  · refine q_tableIn (off := 506) C 538 dL_law_32 (by rw [h14]; decide) (by rw [h14]; decide) (by first | (rw [h14]; done) | (rw [h14]; decide)) (by decide) ?_
                                    obtain ⟨r, hx, hm, hR⟩ := st_distance S hRel (xs (nI (4 * i) + 1).toNatClampNeg) (xs (nI (4 * i) + 2).toNatClampNeg)
                                    refine q_aload_n C dL_law_538 rfl 1 rfl ?_
                                    refine q_aload_n C dL_law_539 rfl 0 rfl ?_
                                    refine q_iload_n C dL_law_540 rfl 3 rfl ?_
                                    refine q_iconst (v := 1) C dL_law_541 (by decide) ?_
                                    refine q_iadd C dL_law_542 ?_
                                    refine q_sld C hX hbl hbA hi1 dL_law_543 ?_
                                    refine q_aload_n C dL_law_544 rfl 0 rfl ?_
                                    refine q_iload_n C dL_law_545 rfl 3 rfl ?_
                                    refine q_iconst (v := 2) C dL_law_546 (by decide) ?_
                                    refine q_iadd C dL_law_547 ?_
                                    refine q_sld C hX hbl hbA hi2 dL_law_548 ?_
                                    refine q_cVIs (wr := wMod cI cJ m0 m1 m2 m3 m4 m5 m6 m7 M) C (c_X2_distance l D cI cJ cN x0 p0 i0 n0 n1 n2 n3 n4 n5 n6 s0 s1 s2 s3 s4 s5 s6 rp ri pl V N S (xs (nI (4 * i) + 1).toNatClampNeg) (xs (nI (4 * i) + 2).toNatClampNeg) r hx) (mkVL (fr := 2) (ce := 0) (sl := 0) (lo := 43) C xc_X2_distance xm_L_72 xi_X2_distance xe_X2_distance xn_X2 hd_X2_distance ⟨Nat.le_of_ble_eq_true rfl, Nat.le_of_ble_eq_true rfl⟩) 0 rfl rfl rfl rfl rfl (Nat.le_of_ble_eq_true rfl) dL_law_549 ⟨by show _ + 0 ≤ room_1.cells; omega, by show _ + 0 ≤ room_1.slots; omega⟩ (fun w1 hp1 => ?_)
                                    subst hp1
                                    refine q_aload_n C dL_law_552 rfl 2 rfl ?_
                                    refine q_aload_n C dL_law_553 rfl 0 rfl ?_
                                    refine q_iload_n C dL_law_554 rfl 3 rfl ?_
                                    refine q_iconst (v := 1) C dL_law_555 (by decide) ?_
                                    refine q_iadd C dL_law_556 ?_
                                    refine q_sld C hX hbl hbA hi1 dL_law_557 ?_
                                    refine q_aload_n C dL_law_558 rfl 0 rfl ?_
                                    refine q_iload_n C dL_law_559 rfl 3 rfl ?_
                                    refine q_iconst (v := 2) C dL_law_560 (by decide) ?_
                                    refine q_iadd C dL_law_561 ?_
                                    refine q_sld C hX hbl hbA hi2 dL_law_562 ?_
                                    refine q_cVI (ws' := wMod cI cJ m0 m1 m2 m3 m4 m5 m6 m7 M ++ wXX cI cJ cN x0 p0 i0 n0 n1 n2 n3 n4 n5 n6 s0 s1 s2 s3 s4 s5 s6 rp ri pl V N S) C (c_X3_distance l D cI cJ cN m0 m1 m2 m3 m4 m5 m6 m7 M (xs (nI (4 * i) + 1).toNatClampNeg) (xs (nI (4 * i) + 2).toNatClampNeg) r hm) (mkVL (fr := 2) (ce := 0) (sl := 0) (lo := 45) C xc_X3_distance xm_L_75 xi_X3_distance xe_X3_distance xn_X3 hd_X3_distance ⟨Nat.le_of_ble_eq_true rfl, Nat.le_of_ble_eq_true rfl⟩) 0 rfl rfl [0, 1, 2, 3, 4, 5, 6, 7] rfl (by decide) rfl rfl rfl rfl (Nat.le_of_ble_eq_true rfl) dL_law_563 ⟨by show _ + 0 ≤ room_1.cells; omega, by show _ + 0 ≤ room_1.slots; omega⟩ ?_
                                    refine q_icmp_eq C 793 dL_law_566 (by decide) (fun _ => fin _ _ _ _ _ _ _ _ _ hR hpool (by show _ + 0 ≤ _; omega) (by show _ + 0 ≤ _; omega)) (fun h => absurd rfl h)
                                  · skip
                                    by_cases h15 : (xs (nI (4 * i)).toNatClampNeg &&& 31) = (15 : Int32)
                                    · refine q_tableIn (off := 539) C 571 dL_law_32 (by rw [h15]; decide) (by rw [h15]; decide) (by first | (rw [h15]; done) | (rw [h15]; decide)) (by decide) ?_
                                      obtain ⟨r, S', M', hx, hm, hR⟩ := st_route S hRel (xs (nI (4 * i) + 1).toNatClampNeg) (xs (nI (4 * i) + 2).toNatClampNeg) (xs (nI (4 * i) + 3).toNatClampNeg)
                                      refine q_aload_n C dL_law_571 rfl 1 rfl ?_
                                      refine q_aload_n C dL_law_572 rfl 0 rfl ?_
                                      refine q_iload_n C dL_law_573 rfl 3 rfl ?_
                                      refine q_iconst (v := 1) C dL_law_574 (by decide) ?_
                                      refine q_iadd C dL_law_575 ?_
                                      refine q_sld C hX hbl hbA hi1 dL_law_576 ?_
                                      refine q_aload_n C dL_law_577 rfl 0 rfl ?_
                                      refine q_iload_n C dL_law_578 rfl 3 rfl ?_
                                      refine q_iconst (v := 2) C dL_law_579 (by decide) ?_
                                      refine q_iadd C dL_law_580 ?_
                                      refine q_sld C hX hbl hbA hi2 dL_law_581 ?_
                                      refine q_aload_n C dL_law_582 rfl 0 rfl ?_
                                      refine q_iload_n C dL_law_583 rfl 3 rfl ?_
                                      refine q_iconst (v := 3) C dL_law_584 (by decide) ?_
                                      refine q_iadd C dL_law_585 ?_
                                      refine q_sld C hX hbl hbA hi3 dL_law_586 ?_
                                      refine q_cVIs (wr := wMod cI cJ m0 m1 m2 m3 m4 m5 m6 m7 M) C (c_X2_route l D cI cJ cN x0 p0 i0 n0 n1 n2 n3 n4 n5 n6 s0 s1 s2 s3 s4 s5 s6 rp ri pl V N S (xs (nI (4 * i) + 1).toNatClampNeg) (xs (nI (4 * i) + 2).toNatClampNeg) (xs (nI (4 * i) + 3).toNatClampNeg) (r, S') hx) (mkVL (fr := 5) (ce := 0) (sl := 0) (lo := 117) C xc_X2_route xm_L_76 xi_X2_route xe_X2_route xn_X2 hd_X2_route ⟨Nat.le_of_ble_eq_true rfl, Nat.le_of_ble_eq_true rfl⟩) 0 rfl rfl rfl rfl rfl (Nat.le_of_ble_eq_true rfl) dL_law_587 ⟨by show _ + 0 ≤ room_1.cells; omega, by show _ + 0 ≤ room_1.slots; omega⟩ (fun w1 hp1 => ?_)
                                      subst hp1
                                      refine q_aload_n C dL_law_590 rfl 2 rfl ?_
                                      refine q_aload_n C dL_law_591 rfl 0 rfl ?_
                                      refine q_iload_n C dL_law_592 rfl 3 rfl ?_
                                      refine q_iconst (v := 1) C dL_law_593 (by decide) ?_
                                      refine q_iadd C dL_law_594 ?_
                                      refine q_sld C hX hbl hbA hi1 dL_law_595 ?_
                                      refine q_aload_n C dL_law_596 rfl 0 rfl ?_
                                      refine q_iload_n C dL_law_597 rfl 3 rfl ?_
                                      refine q_iconst (v := 2) C dL_law_598 (by decide) ?_
                                      refine q_iadd C dL_law_599 ?_
                                      refine q_sld C hX hbl hbA hi2 dL_law_600 ?_
                                      refine q_aload_n C dL_law_601 rfl 0 rfl ?_
                                      refine q_iload_n C dL_law_602 rfl 3 rfl ?_
                                      refine q_iconst (v := 3) C dL_law_603 (by decide) ?_
                                      refine q_iadd C dL_law_604 ?_
                                      refine q_sld C hX hbl hbA hi3 dL_law_605 ?_
                                      refine q_cVI (ws' := wMod cI cJ m0 m1 m2 m3 m4 m5 m6 m7 M' ++ wXX cI cJ cN x0 p0 i0 n0 n1 n2 n3 n4 n5 n6 s0 s1 s2 s3 s4 s5 s6 rp ri pl V N S') C (c_X3_route l D cI cJ cN m0 m1 m2 m3 m4 m5 m6 m7 M (xs (nI (4 * i) + 1).toNatClampNeg) (xs (nI (4 * i) + 2).toNatClampNeg) (xs (nI (4 * i) + 3).toNatClampNeg) (r, M') hm) (mkVL (fr := 5) (ce := 0) (sl := 0) (lo := 114) C xc_X3_route xm_L_80 xi_X3_route xe_X3_route xn_X3 hd_X3_route ⟨Nat.le_of_ble_eq_true rfl, Nat.le_of_ble_eq_true rfl⟩) 0 rfl rfl [0, 1, 2, 3, 4, 5, 6, 7] rfl (by decide) rfl rfl rfl rfl (Nat.le_of_ble_eq_true rfl) dL_law_606 ⟨by show _ + 0 ≤ room_1.cells; omega, by show _ + 0 ≤ room_1.slots; omega⟩ ?_
                                      refine q_icmp_eq C 793 dL_law_609 (by decide) (fun _ => fin _ _ _ _ _ _ _ _ _ hR hpool (by show _ + 0 ≤ _; omega) (by show _ + 0 ≤ _; omega)) (fun h => absurd rfl h)
                                    · skip
                                      by_cases h16 : (xs (nI (4 * i)).toNatClampNeg &&& 31) = (16 : Int32)
                                      · refine q_tableIn (off := 582) C 614 dL_law_32 (by rw [h16]; decide) (by rw [h16]; decide) (by first | (rw [h16]; done) | (rw [h16]; decide)) (by decide) ?_
                                        obtain ⟨r, S', M', hx, hm, hR⟩ := st_way S hRel (xs (nI (4 * i) + 1).toNatClampNeg) (xs (nI (4 * i) + 2).toNatClampNeg)
                                        refine q_aload_n C dL_law_614 rfl 1 rfl ?_
                                        refine q_aload_n C dL_law_615 rfl 0 rfl ?_
                                        refine q_iload_n C dL_law_616 rfl 3 rfl ?_
                                        refine q_iconst (v := 1) C dL_law_617 (by decide) ?_
                                        refine q_iadd C dL_law_618 ?_
                                        refine q_sld C hX hbl hbA hi1 dL_law_619 ?_
                                        refine q_aload_n C dL_law_620 rfl 0 rfl ?_
                                        refine q_iload_n C dL_law_621 rfl 3 rfl ?_
                                        refine q_iconst (v := 2) C dL_law_622 (by decide) ?_
                                        refine q_iadd C dL_law_623 ?_
                                        refine q_sld C hX hbl hbA hi2 dL_law_624 ?_
                                        refine q_cVIs (wr := wMod cI cJ m0 m1 m2 m3 m4 m5 m6 m7 M) C (c_X2_way l D cI cJ cN x0 p0 i0 n0 n1 n2 n3 n4 n5 n6 s0 s1 s2 s3 s4 s5 s6 rp ri pl V N S (xs (nI (4 * i) + 1).toNatClampNeg) (xs (nI (4 * i) + 2).toNatClampNeg) (r, S') hx) (mkVL (fr := 4) (ce := 0) (sl := 0) (lo := 92) C xc_X2_way xm_L_81 xi_X2_way xe_X2_way xn_X2 hd_X2_way ⟨Nat.le_of_ble_eq_true rfl, Nat.le_of_ble_eq_true rfl⟩) 0 rfl rfl rfl rfl rfl (Nat.le_of_ble_eq_true rfl) dL_law_625 ⟨by show _ + 0 ≤ room_1.cells; omega, by show _ + 0 ≤ room_1.slots; omega⟩ (fun w1 hp1 => ?_)
                                        subst hp1
                                        refine q_aload_n C dL_law_628 rfl 2 rfl ?_
                                        refine q_aload_n C dL_law_629 rfl 0 rfl ?_
                                        refine q_iload_n C dL_law_630 rfl 3 rfl ?_
                                        refine q_iconst (v := 1) C dL_law_631 (by decide) ?_
                                        refine q_iadd C dL_law_632 ?_
                                        refine q_sld C hX hbl hbA hi1 dL_law_633 ?_
                                        refine q_aload_n C dL_law_634 rfl 0 rfl ?_
                                        refine q_iload_n C dL_law_635 rfl 3 rfl ?_
                                        refine q_iconst (v := 2) C dL_law_636 (by decide) ?_
                                        refine q_iadd C dL_law_637 ?_
                                        refine q_sld C hX hbl hbA hi2 dL_law_638 ?_
                                        refine q_cVI (ws' := wMod cI cJ m0 m1 m2 m3 m4 m5 m6 m7 M' ++ wXX cI cJ cN x0 p0 i0 n0 n1 n2 n3 n4 n5 n6 s0 s1 s2 s3 s4 s5 s6 rp ri pl V N S') C (c_X3_way l D cI cJ cN m0 m1 m2 m3 m4 m5 m6 m7 M (xs (nI (4 * i) + 1).toNatClampNeg) (xs (nI (4 * i) + 2).toNatClampNeg) (r, M') hm) (mkVL (fr := 4) (ce := 0) (sl := 0) (lo := 92) C xc_X3_way xm_L_84 xi_X3_way xe_X3_way xn_X3 hd_X3_way ⟨Nat.le_of_ble_eq_true rfl, Nat.le_of_ble_eq_true rfl⟩) 0 rfl rfl [0, 1, 2, 3, 4, 5, 6, 7] rfl (by decide) rfl rfl rfl rfl (Nat.le_of_ble_eq_true rfl) dL_law_639 ⟨by show _ + 0 ≤ room_1.cells; omega, by show _ + 0 ≤ room_1.slots; omega⟩ ?_
                                        refine q_icmp_eq C 793 dL_law_642 (by decide) (fun _ => fin _ _ _ _ _ _ _ _ _ hR hpool (by show _ + 0 ≤ _; omega) (by show _ + 0 ≤ _; omega)) (fun h => absurd rfl h)
                                      · skip
                                        by_cases h17 : (xs (nI (4 * i)).toNatClampNeg &&& 31) = (17 : Int32)
                                        · refine q_tableIn (off := 615) C 647 dL_law_32 (by rw [h17]; decide) (by rw [h17]; decide) (by first | (rw [h17]; done) | (rw [h17]; decide)) (by decide) ?_
                                          obtain ⟨r, S', M', hx, hm, hR⟩ := st_paths S hRel (xs (nI (4 * i) + 1).toNatClampNeg) (xs (nI (4 * i) + 2).toNatClampNeg)
                                          refine q_aload_n C dL_law_647 rfl 1 rfl ?_
                                          refine q_aload_n C dL_law_648 rfl 0 rfl ?_
                                          refine q_iload_n C dL_law_649 rfl 3 rfl ?_
                                          refine q_iconst (v := 1) C dL_law_650 (by decide) ?_
                                          refine q_iadd C dL_law_651 ?_
                                          refine q_sld C hX hbl hbA hi1 dL_law_652 ?_
                                          refine q_aload_n C dL_law_653 rfl 0 rfl ?_
                                          refine q_iload_n C dL_law_654 rfl 3 rfl ?_
                                          refine q_iconst (v := 2) C dL_law_655 (by decide) ?_
                                          refine q_iadd C dL_law_656 ?_
                                          refine q_sld C hX hbl hbA hi2 dL_law_657 ?_
                                          refine q_cVLs (wr := wMod cI cJ m0 m1 m2 m3 m4 m5 m6 m7 M) C (c_X2_paths l D cI cJ cN x0 p0 i0 n0 n1 n2 n3 n4 n5 n6 s0 s1 s2 s3 s4 s5 s6 rp ri pl V N S (xs (nI (4 * i) + 1).toNatClampNeg) (xs (nI (4 * i) + 2).toNatClampNeg) (r, S') hx) (mkVL (fr := 4) (ce := 0) (sl := 0) (lo := 92) C xc_X2_paths xm_L_85 xi_X2_paths xe_X2_paths xn_X2 hd_X2_paths ⟨Nat.le_of_ble_eq_true rfl, Nat.le_of_ble_eq_true rfl⟩) 0 rfl rfl rfl rfl rfl (Nat.le_of_ble_eq_true rfl) dL_law_658 ⟨by show _ + 0 ≤ room_1.cells; omega, by show _ + 0 ≤ room_1.slots; omega⟩ (fun w1 hp1 => ?_)
                                          subst hp1
                                          refine q_aload_n C dL_law_661 rfl 2 rfl ?_
                                          refine q_aload_n C dL_law_662 rfl 0 rfl ?_
                                          refine q_iload_n C dL_law_663 rfl 3 rfl ?_
                                          refine q_iconst (v := 1) C dL_law_664 (by decide) ?_
                                          refine q_iadd C dL_law_665 ?_
                                          refine q_sld C hX hbl hbA hi1 dL_law_666 ?_
                                          refine q_aload_n C dL_law_667 rfl 0 rfl ?_
                                          refine q_iload_n C dL_law_668 rfl 3 rfl ?_
                                          refine q_iconst (v := 2) C dL_law_669 (by decide) ?_
                                          refine q_iadd C dL_law_670 ?_
                                          refine q_sld C hX hbl hbA hi2 dL_law_671 ?_
                                          refine q_cVL (ws' := wMod cI cJ m0 m1 m2 m3 m4 m5 m6 m7 M' ++ wXX cI cJ cN x0 p0 i0 n0 n1 n2 n3 n4 n5 n6 s0 s1 s2 s3 s4 s5 s6 rp ri pl V N S') C (c_X3_paths l D cI cJ cN m0 m1 m2 m3 m4 m5 m6 m7 M (xs (nI (4 * i) + 1).toNatClampNeg) (xs (nI (4 * i) + 2).toNatClampNeg) (r, M') hm) (mkVL (fr := 4) (ce := 0) (sl := 0) (lo := 92) C xc_X3_paths xm_L_89 xi_X3_paths xe_X3_paths xn_X3 hd_X3_paths ⟨Nat.le_of_ble_eq_true rfl, Nat.le_of_ble_eq_true rfl⟩) 0 rfl rfl [0, 1, 2, 3, 4, 5, 6, 7] rfl (by decide) rfl rfl rfl rfl (Nat.le_of_ble_eq_true rfl) dL_law_672 ⟨by show _ + 0 ≤ room_1.cells; omega, by show _ + 0 ≤ room_1.slots; omega⟩ ?_
                                          refine q_lcmp C dL_law_675 ?_
                                          refine q_if_eq C 793 dL_law_676 (by decide) (fun _ => fin _ _ _ _ _ _ _ _ _ hR hpool (by show _ + 0 ≤ _; omega) (by show _ + 0 ≤ _; omega)) (fun h => absurd (lg_cmp_rf r) h)
                                        · skip
                                          by_cases h18 : (xs (nI (4 * i)).toNatClampNeg &&& 31) = (18 : Int32)
                                          · refine q_tableIn (off := 649) C 681 dL_law_32 (by rw [h18]; decide) (by rw [h18]; decide) (by first | (rw [h18]; done) | (rw [h18]; decide)) (by decide) ?_
                                            obtain ⟨r, S', M', hx, hm, hR⟩ := st_measure S hRel (xs (nI (4 * i) + 1).toNatClampNeg)
                                            refine q_aload_n C dL_law_681 rfl 1 rfl ?_
                                            refine q_aload_n C dL_law_682 rfl 0 rfl ?_
                                            refine q_iload_n C dL_law_683 rfl 3 rfl ?_
                                            refine q_iconst (v := 1) C dL_law_684 (by decide) ?_
                                            refine q_iadd C dL_law_685 ?_
                                            refine q_sld C hX hbl hbA hi1 dL_law_686 ?_
                                            refine q_cVIs (wr := wMod cI cJ m0 m1 m2 m3 m4 m5 m6 m7 M) C (c_X2_measure l D cI cJ cN x0 p0 i0 n0 n1 n2 n3 n4 n5 n6 s0 s1 s2 s3 s4 s5 s6 rp ri pl V N S (xs (nI (4 * i) + 1).toNatClampNeg) (r, S') hx) (mkVL (fr := 6) (ce := 0) (sl := 0) (lo := 132) C xc_X2_measure xm_L_90 xi_X2_measure xe_X2_measure xn_X2 hd_X2_measure ⟨Nat.le_of_ble_eq_true rfl, Nat.le_of_ble_eq_true rfl⟩) 0 rfl rfl rfl rfl rfl (Nat.le_of_ble_eq_true rfl) dL_law_687 ⟨by show _ + 0 ≤ room_1.cells; omega, by show _ + 0 ≤ room_1.slots; omega⟩ (fun w1 hp1 => ?_)
                                            subst hp1
                                            refine q_aload_n C dL_law_690 rfl 2 rfl ?_
                                            refine q_aload_n C dL_law_691 rfl 0 rfl ?_
                                            refine q_iload_n C dL_law_692 rfl 3 rfl ?_
                                            refine q_iconst (v := 1) C dL_law_693 (by decide) ?_
                                            refine q_iadd C dL_law_694 ?_
                                            refine q_sld C hX hbl hbA hi1 dL_law_695 ?_
                                            refine q_cVI (ws' := wMod cI cJ m0 m1 m2 m3 m4 m5 m6 m7 M' ++ wXX cI cJ cN x0 p0 i0 n0 n1 n2 n3 n4 n5 n6 s0 s1 s2 s3 s4 s5 s6 rp ri pl V N S') C (c_X3_measure l D cI cJ cN m0 m1 m2 m3 m4 m5 m6 m7 M (xs (nI (4 * i) + 1).toNatClampNeg) (r, M') hm) (mkVL (fr := 7) (ce := 0) (sl := 0) (lo := 158) C xc_X3_measure xm_L_93 xi_X3_measure xe_X3_measure xn_X3 hd_X3_measure ⟨Nat.le_of_ble_eq_true rfl, Nat.le_of_ble_eq_true rfl⟩) 0 rfl rfl [0, 1, 2, 3, 4, 5, 6, 7] rfl (by decide) rfl rfl rfl rfl (Nat.le_of_ble_eq_true rfl) dL_law_696 ⟨by show _ + 0 ≤ room_1.cells; omega, by show _ + 0 ≤ room_1.slots; omega⟩ ?_
                                            refine q_icmp_eq C 793 dL_law_699 (by decide) (fun _ => fin _ _ _ _ _ _ _ _ _ hR hpool (by show _ + 0 ≤ _; omega) (by show _ + 0 ≤ _; omega)) (fun h => absurd rfl h)
                                          · skip
                                            by_cases h19 : (xs (nI (4 * i)).toNatClampNeg &&& 31) = (19 : Int32)
                                            · refine q_tableIn (off := 672) C 704 dL_law_32 (by rw [h19]; decide) (by rw [h19]; decide) (by first | (rw [h19]; done) | (rw [h19]; decide)) (by decide) ?_
                                              obtain ⟨r, S', M', hx, hm, hR, hnan⟩ := st_mean S hRel
                                              refine q_aload_n C dL_law_704 rfl 1 rfl ?_
                                              refine q_cVFs (wr := wMod cI cJ m0 m1 m2 m3 m4 m5 m6 m7 M) C (c_X2_mean l D cI cJ cN x0 p0 i0 n0 n1 n2 n3 n4 n5 n6 s0 s1 s2 s3 s4 s5 s6 rp ri pl V N S  (r, S') hx) (mkVL (fr := 6) (ce := 0) (sl := 0) (lo := 132) C xc_X2_mean xm_L_94 xi_X2_mean xe_X2_mean xn_X2 hd_X2_mean ⟨Nat.le_of_ble_eq_true rfl, Nat.le_of_ble_eq_true rfl⟩) 0 rfl rfl rfl rfl rfl (Nat.le_of_ble_eq_true rfl) dL_law_705 ⟨by show _ + 0 ≤ room_1.cells; omega, by show _ + 0 ≤ room_1.slots; omega⟩ (fun w1 hp1 => ?_)
                                              subst hp1
                                              refine q_f2d C dL_law_708 (f2d_n64 hnan) ?_
                                              refine q_dstore (lv' := [(4, .double (FP.f2d r)), (0, .ref b), (1, .ref x0), (2, .ref m0), (3, .int (nI (4 * i)))]) C dL_law_709 (by decide) rfl ?_
                                              refine q_aload_n C dL_law_711 rfl 3 rfl ?_
                                              refine q_cVF (ws' := wMod cI cJ m0 m1 m2 m3 m4 m5 m6 m7 M' ++ wXX cI cJ cN x0 p0 i0 n0 n1 n2 n3 n4 n5 n6 s0 s1 s2 s3 s4 s5 s6 rp ri pl V N S') C (c_X3_mean l D cI cJ cN m0 m1 m2 m3 m4 m5 m6 m7 M  (r, M') hm) (mkVL (fr := 7) (ce := 0) (sl := 0) (lo := 158) C xc_X3_mean xm_L_98 xi_X3_mean xe_X3_mean xn_X3 hd_X3_mean ⟨Nat.le_of_ble_eq_true rfl, Nat.le_of_ble_eq_true rfl⟩) 0 rfl rfl [0, 1, 2, 3, 4, 5, 6, 7] rfl (by decide) rfl rfl rfl rfl (Nat.le_of_ble_eq_true rfl) dL_law_712 ⟨by show _ + 0 ≤ room_1.cells; omega, by show _ + 0 ≤ room_1.slots; omega⟩ ?_
                                              refine q_f2d C dL_law_715 (f2d_n64 hnan) ?_
                                              refine q_dstore (lv' := [(6, .double (FP.f2d r)), (4, .double (FP.f2d r)), (0, .ref b), (1, .ref x0), (2, .ref m0), (3, .int (nI (4 * i)))]) C dL_law_716 (by decide) rfl ?_
                                              refine q_dload C dL_law_718 1 rfl ?_
                                              refine q_dload C dL_law_720 0 rfl ?_
                                              refine q_dcmp C dL_law_722 ?_
                                              rw [f2d_cmp hnan]
                                              refine q_if_eq C 744 dL_law_723 (by decide) (fun _ => ?_) (fun h => absurd rfl h)
                                              refine q_goto C 793 dL_law_744 (by decide) ?_
                                              refine q_sub (lv' := [(0, .ref b), (1, .ref x0), (2, .ref m0), (3, .int (nI (4 * i)))]) [2, 3, 4, 5] rfl ?_
                                              exact fin _ _ _ _ _ _ _ _ _ hR hpool (by show _ + 0 ≤ _; omega) (by show _ + 0 ≤ _; omega)
                                            · skip
                                              by_cases h20 : (xs (nI (4 * i)).toNatClampNeg &&& 31) = (20 : Int32)
                                              · refine q_tableIn (off := 715) C 747 dL_law_32 (by rw [h20]; decide) (by rw [h20]; decide) (by first | (rw [h20]; done) | (rw [h20]; decide)) (by decide) ?_
                                                obtain ⟨r, V', M', hx, hm, hR⟩ := st_keep S hRel (xs (nI (4 * i) + 1).toNatClampNeg)
                                                refine q_aload_n C dL_law_747 rfl 1 rfl ?_
                                                refine q_aload_n C dL_law_748 rfl 0 rfl ?_
                                                refine q_iload_n C dL_law_749 rfl 3 rfl ?_
                                                refine q_iconst (v := 1) C dL_law_750 (by decide) ?_
                                                refine q_iadd C dL_law_751 ?_
                                                refine q_sld C hX hbl hbA hi1 dL_law_752 ?_
                                                refine q_cVIs (wr := wMod cI cJ m0 m1 m2 m3 m4 m5 m6 m7 M) C (c_X2_keep l D cI cJ cN x0 p0 i0 n0 n1 n2 n3 n4 n5 n6 s0 s1 s2 s3 s4 s5 s6 rp ri pl V N S (xs (nI (4 * i) + 1).toNatClampNeg) (r, V') hpool hx) (mkVL (fr := 5) (ce := 7) (sl := 356) (lo := 112) C xc_X2_keep xm_L_99 xi_X2_keep xe_X2_keep xn_X2 hd_X2_keep ⟨Nat.le_of_ble_eq_true rfl, Nat.le_of_ble_eq_true rfl⟩) 0 rfl rfl rfl rfl rfl (Nat.le_of_ble_eq_true rfl) dL_law_753 ⟨by show _ + 7 ≤ room_1.cells; omega, by show _ + 356 ≤ room_1.slots; omega⟩ (fun w1 hp1 => ?_)
                                                obtain ⟨rp1, ri1, pl1, hpool1, rfl⟩ := hp1
                                                refine q_aload_n C dL_law_756 rfl 2 rfl ?_
                                                refine q_aload_n C dL_law_757 rfl 0 rfl ?_
                                                refine q_iload_n C dL_law_758 rfl 3 rfl ?_
                                                refine q_iconst (v := 1) C dL_law_759 (by decide) ?_
                                                refine q_iadd C dL_law_760 ?_
                                                refine q_sld C hX hbl hbA hi1 dL_law_761 ?_
                                                refine q_cVI (ws' := wMod cI cJ m0 m1 m2 m3 m4 m5 m6 m7 M' ++ wXX cI cJ cN x0 p0 i0 n0 n1 n2 n3 n4 n5 n6 s0 s1 s2 s3 s4 s5 s6 rp1 ri1 pl1 V' N S) C (c_X3_keep l D cI cJ cN m0 m1 m2 m3 m4 m5 m6 m7 M (xs (nI (4 * i) + 1).toNatClampNeg) (r, M') hm) (mkVL (fr := 2) (ce := 0) (sl := 0) (lo := 42) C xc_X3_keep xm_L_102 xi_X3_keep xe_X3_keep xn_X3 hd_X3_keep ⟨Nat.le_of_ble_eq_true rfl, Nat.le_of_ble_eq_true rfl⟩) 0 rfl rfl [0, 1, 2, 3, 4, 5, 6, 7] rfl (by decide) rfl rfl rfl rfl (Nat.le_of_ble_eq_true rfl) dL_law_762 ⟨by show _ + 7 ≤ room_1.cells; omega, by show _ + 356 ≤ room_1.slots; omega⟩ ?_
                                                refine q_icmp_eq C 793 dL_law_765 (by decide) (fun _ => fin _ _ _ _ _ _ _ _ _ hR hpool1 (by show _ + 7 ≤ _; omega) (by show _ + 356 ≤ _; omega)) (fun h => absurd rfl h)
                                              · skip
                                                by_cases h21 : (xs (nI (4 * i)).toNatClampNeg &&& 31) = (21 : Int32)
                                                · refine q_tableIn (off := 738) C 770 dL_law_32 (by rw [h21]; decide) (by rw [h21]; decide) (by first | (rw [h21]; done) | (rw [h21]; decide)) (by decide) ?_
                                                  obtain ⟨r, V', N', M', hx, hm, hR⟩ := st_back S hRel (xs (nI (4 * i) + 1).toNatClampNeg)
                                                  refine q_aload_n C dL_law_770 rfl 1 rfl ?_
                                                  refine q_aload_n C dL_law_771 rfl 0 rfl ?_
                                                  refine q_iload_n C dL_law_772 rfl 3 rfl ?_
                                                  refine q_iconst (v := 1) C dL_law_773 (by decide) ?_
                                                  refine q_iadd C dL_law_774 ?_
                                                  refine q_sld C hX hbl hbA hi1 dL_law_775 ?_
                                                  refine q_cVIs (wr := wMod cI cJ m0 m1 m2 m3 m4 m5 m6 m7 M) C (c_X2_back l D cI cJ cN x0 p0 i0 n0 n1 n2 n3 n4 n5 n6 s0 s1 s2 s3 s4 s5 s6 rp ri pl V N S (xs (nI (4 * i) + 1).toNatClampNeg) (r, V', N') hpool hx) (mkVL (fr := 6) (ce := 7) (sl := 356) (lo := 132) C xc_X2_back xm_L_103 xi_X2_back xe_X2_back xn_X2 hd_X2_back ⟨Nat.le_of_ble_eq_true rfl, Nat.le_of_ble_eq_true rfl⟩) 0 rfl rfl rfl rfl rfl (Nat.le_of_ble_eq_true rfl) dL_law_776 ⟨by show _ + 7 ≤ room_1.cells; omega, by show _ + 356 ≤ room_1.slots; omega⟩ (fun w1 hp1 => ?_)
                                                  obtain ⟨rp1, ri1, pl1, hpool1, rfl⟩ := hp1
                                                  refine q_aload_n C dL_law_779 rfl 2 rfl ?_
                                                  refine q_aload_n C dL_law_780 rfl 0 rfl ?_
                                                  refine q_iload_n C dL_law_781 rfl 3 rfl ?_
                                                  refine q_iconst (v := 1) C dL_law_782 (by decide) ?_
                                                  refine q_iadd C dL_law_783 ?_
                                                  refine q_sld C hX hbl hbA hi1 dL_law_784 ?_
                                                  refine q_cVI (ws' := wMod cI cJ m0 m1 m2 m3 m4 m5 m6 m7 M' ++ wXX cI cJ cN x0 p0 i0 n0 n1 n2 n3 n4 n5 n6 s0 s1 s2 s3 s4 s5 s6 rp1 ri1 pl1 V' N' S) C (c_X3_back l D cI cJ cN m0 m1 m2 m3 m4 m5 m6 m7 M (xs (nI (4 * i) + 1).toNatClampNeg) (r, M') hm) (mkVL (fr := 2) (ce := 0) (sl := 0) (lo := 42) C xc_X3_back xm_L_106 xi_X3_back xe_X3_back xn_X3 hd_X3_back ⟨Nat.le_of_ble_eq_true rfl, Nat.le_of_ble_eq_true rfl⟩) 0 rfl rfl [0, 1, 2, 3, 4, 5, 6, 7] rfl (by decide) rfl rfl rfl rfl (Nat.le_of_ble_eq_true rfl) dL_law_785 ⟨by show _ + 7 ≤ room_1.cells; omega, by show _ + 356 ≤ room_1.slots; omega⟩ ?_
                                                  refine q_icmp_eq C 793 dL_law_788 (by decide) (fun _ => fin _ _ _ _ _ _ _ _ _ hR hpool1 (by show _ + 7 ≤ _; omega) (by show _ + 356 ≤ _; omega)) (fun h => absurd rfl h)
                                                · skip
                                                  refine q_tableOut C 793 dL_law_32 (by have a0 := lv_neT h0 (show ((0 : Int32)).toInt = 0 by decide); have a1 := lv_neT h1 (show ((1 : Int32)).toInt = 1 by decide); have a2 := lv_neT h2 (show ((2 : Int32)).toInt = 2 by decide); have a3 := lv_neT h3 (show ((3 : Int32)).toInt = 3 by decide); have a4 := lv_neT h4 (show ((4 : Int32)).toInt = 4 by decide); have a5 := lv_neT h5 (show ((5 : Int32)).toInt = 5 by decide); have a6 := lv_neT h6 (show ((6 : Int32)).toInt = 6 by decide); have a7 := lv_neT h7 (show ((7 : Int32)).toInt = 7 by decide); have a8 := lv_neT h8 (show ((8 : Int32)).toInt = 8 by decide); have a9 := lv_neT h9 (show ((9 : Int32)).toInt = 9 by decide); have a10 := lv_neT h10 (show ((10 : Int32)).toInt = 10 by decide); have a11 := lv_neT h11 (show ((11 : Int32)).toInt = 11 by decide); have a12 := lv_neT h12 (show ((12 : Int32)).toInt = 12 by decide); have a13 := lv_neT h13 (show ((13 : Int32)).toInt = 13 by decide); have a14 := lv_neT h14 (show ((14 : Int32)).toInt = 14 by decide); have a15 := lv_neT h15 (show ((15 : Int32)).toInt = 15 by decide); have a16 := lv_neT h16 (show ((16 : Int32)).toInt = 16 by decide); have a17 := lv_neT h17 (show ((17 : Int32)).toInt = 17 by decide); have a18 := lv_neT h18 (show ((18 : Int32)).toInt = 18 by decide); have a19 := lv_neT h19 (show ((19 : Int32)).toInt = 19 by decide); have a20 := lv_neT h20 (show ((20 : Int32)).toInt = 20 by decide); have a21 := lv_neT h21 (show ((21 : Int32)).toInt = 21 by decide); omega) (by decide) ?_
                                                  exact fin _ _ _ _ _ _ _ _ _ hRel hpool (by omega) (by omega)
