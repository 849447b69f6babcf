section QHL
variable {p : Program} {l : Launch} {e : Env} {R : Room} {s : State} {m : MethodId} {args : Array Value} {below : List Frame} {meth : Method} {c : Code} {cc : ByteArray} {n : Nat} {own : String} {Ts : List Cond} {ret : Option FieldType} {D : va_G} {cI cJ cN : ClassId} {A : Nat → Prop} {cells slots : Nat} {Q : State → Prop} {pc : Nat} {lv lv' : List (Nat × Value)} {st : List Value} {ws ws' : va_W}
theorem wt_tbl {w : Cond} (h : w ∈ WT) : w ∈ lw_tbl := (List.mem_filter.mp h).1
theorem q_sld (C : CX p l s m args meth c cc n own Ts ret D cI cJ cN A) {b L0 : Nat} {xs : Nat → Int32} (hX : va_X b L0 xs s s.heap) (hbl : b < s.heap.size) (hbA : ¬ A b) {i : Int32} (hin : inB i L0 = true) (hd : decode cc pc = .ok (.iaload, 1)) (k : WW p l e R s m args below meth c D n A cells slots Q (pc + 1) lv (.int (xs i.toNatClampNeg) :: st) ws) : WW p l e R s m args below meth c D n A cells slots Q pc lv (.int i :: .ref b :: st) ws := fun H locs ls hP hD hS hl => va_sld C.1 C.2.1 hX hbl hbA hS (inB_in hin) hd (k H locs ls hP hD hS hl)
theorem q_slen (C : CX p l s m args meth c cc n own Ts ret D cI cJ cN A) {b L0 : Nat} {xs : Nat → Int32} (hX : va_X b L0 xs s s.heap) (hbl : b < s.heap.size) (hbA : ¬ A b) (hd : decode cc pc = .ok (.arraylength, 1)) (k : WW p l e R s m args below meth c D n A cells slots Q (pc + 1) lv (.int (nI L0) :: st) ws) : WW p l e R s m args below meth c D n A cells slots Q pc lv (.ref b :: st) ws := fun H locs ls hP hD hS hl => va_slen C.1 C.2.1 hX hbl hbA hS hd (k H locs ls hP hD hS hl)
theorem mkVL {y : MethodName} {bytes : ByteArray} {maxL i nA fr ce sl lo : Nat} {rt : Option FieldType} (C : CX p l s m args meth c cc n own lw_tbl ret D cI cJ cN A) {Cn : String} (hc : Cond.code y bytes maxL rt ∈ WT) (hm : Cond.methodLink own i y ∈ WT) (hi : Cond.instanceMethod y ∈ WT) (he : Cond.selects Cn y y ∈ WT) (hn : Cond.initialized y.cls ∈ WT) (hd : y.cls ≠ "java/lang/invoke/MethodHandle" ∧ y.cls ≠ "java/lang/invoke/VarHandle" ∧ (parseMethodDescriptor y.desc).map (fun d => d.parameters.length) = some nA) (hR : fr + 1 ≤ R.frames ∧ 8 + (maxL + 11) + lo ≤ R.locals) : CallW R s args own Cn i y bytes maxL rt (WS y bytes maxL rt) { frames := fr, cells := ce, slots := sl, locals := lo } ce sl nA := ⟨callB_of nA C.2.2.2.2.1 (ws_goodL hc) rfl rfl rfl (C.2.2.2.2.1 _ (wt_tbl hn)) (C.2.2.2.2.1 _ (wt_tbl hm)) hd hR, C.2.2.2.2.1 _ (wt_tbl hi), C.2.2.2.2.1 _ (wt_tbl he)⟩
theorem mkSL {y : MethodName} {bytes : ByteArray} {maxL i nA fr ce sl lo : Nat} {rt : Option FieldType} (C : CX p l s m args meth c cc n own lw_tbl ret D cI cJ cN A) (hc : Cond.code y bytes maxL rt ∈ WT) (hm : Cond.methodLink own i y ∈ WT) (hi : Cond.static y ∈ WT) (hn : Cond.initialized y.cls ∈ WT) (hd : y.cls ≠ "java/lang/invoke/MethodHandle" ∧ y.cls ≠ "java/lang/invoke/VarHandle" ∧ (parseMethodDescriptor y.desc).map (fun d => d.parameters.length) = some nA) (hR : fr + 1 ≤ R.frames ∧ 8 + (maxL + 11) + lo ≤ R.locals) : CallB R s args own i y bytes maxL rt (WS y bytes maxL rt) { frames := fr, cells := ce, slots := sl, locals := lo } ce sl nA ∧ (Cond.static y).before args s = true := ⟨callB_of nA C.2.2.2.2.1 (ws_goodL hc) rfl rfl rfl (C.2.2.2.2.1 _ (wt_tbl hn)) (C.2.2.2.2.1 _ (wt_tbl hm)) hd hR, C.2.2.2.2.1 _ (wt_tbl hi)⟩
theorem mkIL {y : MethodName} {bytes : ByteArray} {maxL i nA fr ce sl lo : Nat} {rt : Option FieldType} (C : CX p l s m args meth c cc n own lw_tbl ret D cI cJ cN A) (hc : Cond.code y bytes maxL none ∈ WT) (hm : Cond.methodLink own i y ∈ WT) (hi : Cond.instanceMethod y ∈ WT) (hn : Cond.initialized y.cls ∈ WT) (hy1 : y.name = "<init>") (hd : y.cls ≠ "java/lang/invoke/MethodHandle" ∧ y.cls ≠ "java/lang/invoke/VarHandle" ∧ (parseMethodDescriptor y.desc).map (fun d => d.parameters.length) = some nA) (hR : fr + 1 ≤ R.frames ∧ 8 + (maxL + 11) + lo ≤ R.locals) : CallB R s args own i y bytes maxL none (WS y bytes maxL none) { frames := fr, cells := ce, slots := sl, locals := lo } ce sl nA ∧ y.name = "<init>" ∧ (Cond.instanceMethod y).before args s = true := ⟨callB_of nA C.2.2.2.2.1 (ws_goodL hc) rfl rfl rfl (C.2.2.2.2.1 _ (wt_tbl hn)) (C.2.2.2.2.1 _ (wt_tbl hm)) hd hR, hy1, C.2.2.2.2.1 _ (wt_tbl hi)⟩
theorem uWL {C : String} {T : u_T} {N : Nat} (h : ∀ w ∈ u_ws C T N, w ∈ WT) : ∀ w ∈ u_ws C T N, w ∈ lw_tbl := fun w hw => wt_tbl (h w hw)
/-- a call that is handed the script -/
theorem q_cX (C : CX p l s m args meth c cc n own Ts ret D cI cJ cN A) {y : MethodName} {wsy : List Cond} {rm : Room} {As : List Value} {r : Int32} {bytes : ByteArray} {maxL : Nat} {rt : Option FieldType} {index nA : Nat} {b L0 : Nat} {xs : Nat → Int32} (hX : va_X b L0 xs s s.heap) (hbl : b < s.heap.size) (hbA : ¬ A b) (hM : ∀ sz : Nat, Met l y wsy rm (va_Pc As (fun U => PreB D cI cJ cN [] sz U ∧ va_X b L0 xs U U.heap ∧ b < sz)) (va_Qi (fun (r' : Int32) (_ : Unit) => r' = r) (fun _ t => PostB D [] sz (fun w => w = []) t) (va_A [] sz)) rm.cells rm.slots (va_A [] sz)) (cw : CallB R s args own index y bytes maxL rt wsy rm rm.cells rm.slots nA ∧ (Cond.static y).before args s = true) (hnA : As.length = nA) {st0 : List Value} (hst : st0 = As.reverse ++ st) (hroom : (st.map fun v => v.category).sum ≤ 8) (hd : decode cc pc = .ok (.invokestatic index, 3)) (hf : cells + rm.cells ≤ R.cells ∧ slots + rm.slots ≤ R.slots) (k : WW p l e R s m args below meth c D n A (cells + rm.cells) (slots + rm.slots) Q (pc + 3) lv (.int r :: st) ws) : WW p l e R s m args below meth c D n A cells slots Q pc lv st0 ws := by
  intro H locs ls hP hD hS hl
  have hA0 : ∀ q, H.size ≤ q → A q := fun q h => C.2.2.2.2.2.2.2.1 q (Nat.le_trans hS.1 h)
  have hF : ∀ q, va_A [] H.size q → A q := by
    intro q hq
    rcases va_A_mem.mp hq with ⟨x, hx, -⟩ | hq
    · exact absurd hx List.not_mem_nil
    · exact hA0 q hq
  have hPc : va_P D vwCl [] H := fun k q h => by simp at h
  have hDc : va_D A [] := ⟨fun i j p q h => by simp at h, fun k q h => by simp at h⟩
  have hqb : H[b]? = s.heap[b]? := hS.2.1 b hbl hbA
  have hbH : b < H.size := Nat.lt_of_lt_of_le hbl hS.1
  refine va_calli (va_runS (As := As) (rest := st) ⟨C.1, C.2.1, C.2.2.1, C.2.2.2.1, C.2.2.2.2.1⟩ (hM H.size) cw ⟨fun a U g mk q => ⟨q.1, (preB_blind (av := As) (D := D) (cI := cI) (cJ := cJ) (cN := cN) (ws := []) (sz := H.size) a U g mk ⟨q.1, q.2.1⟩).2, va_X.moved (u := U) (U := U.calling g mk a) (Vm.Alike.refl U.vm) q.2.2.1, q.2.2.2⟩, fun U hU hW => ⟨rfl, (preB_mk (av := As) C.2.2.2.2.2.1 C.2.2.2.2.2.2.1 hPc hDc U hU hW).2, by rw [hU]; exact (hX.kept hqb).moved hW.alike, hbH⟩⟩ rfl hnA hl.1 hst (lv_room hroom) hd hf) hS (fun q _ h => hF q h) hF (fun r0 u t H1 locs1 ht hvm hw hB hz1 hk1 hS1 => ?_)
  obtain ⟨w1x, hp1, hP1, hD1⟩ := hB
  rw [ht] at hP1
  subst hw
  obtain ⟨hPn, hDn⟩ := join_app (wr := ws) (wc := []) (by rw [List.append_nil]; exact hP) (by rw [List.append_nil]; exact hD) hA0 hk1 hP1 hD1
  rw [hp1, List.append_nil] at hPn hDn
  exact k H1 locs1 ls hPn hDn hS1 hl
end QHL
/-- what cell(s, x) answers for x that is not negative -/
def cellv (L : Nat) (xs : Nat → Int32) (x : Int32) : Int32 := if nI L ≤ x then (747796405 : Int32) * (x + 1) else xs x.toNatClampNeg
set_option maxRecDepth 100000 in
set_option maxHeartbeats 4000000 in
theorem c_L_cell (l : Launch) (D : va_G) (cI cJ cN : ClassId) (b L0 : Nat) (xs : Nat → Int32) (x1 : Int32) (hL : L0 ≤ 260) (hx : ¬ x1 < 0) : ∀ sz : Nat, Met l yL_cell (WS yL_cell cL_cell 2 (some .int)) { frames := 0, cells := 0, slots := 0, locals := 0 } (va_Pc [.ref b, .int x1] (fun U => PreB D cI cJ cN [] sz U ∧ va_X b L0 xs U U.heap ∧ b < sz)) (va_Qi (fun (r' : Int32) (_ : Unit) => r' = cellv L0 xs x1) (fun _ t => PostB D [] sz (fun w => w = []) t) (va_A [] sz)) 0 0 (va_A [] sz) := by
  intro sz
  refine Met.ofW (cc := cL_cell) (maxL := 2) (ret := some .int) (by decide +kernel) rfl ?_
  intro p e s m args below meth c s₁ B hml hv
  obtain ⟨rfl, ⟨hsz, hP, hK, hN, hD⟩, hX, hbl⟩ := hv
  subst hsz
  have hts := atoms_spec (ws := WS yL_cell cL_cell 2 (some .int)) B.pre
  have C : CX p l s m ([.ref b, .int x1] : List Value).toArray meth c cL_cell 2 yL_cell.cls (WS yL_cell cL_cell 2 (some .int)) (some .int) D cI cJ cN (va_A [] s.heap.size) := ⟨B.exec, B.bytes, hml, findClass_of_methodNamed B.named, hts, hK, hN, fun q h => Or.inr h, B.returns, B.notSynchronized⟩
  have hbA : ¬ va_A [] s.heap.size b := by
    intro h
    rcases va_A_mem.mp h with ⟨x, hx, -⟩ | h
    · exact absurd hx List.not_mem_nil
    · exact absurd hbl (Nat.not_lt.mpr h)
  rw [lg_entry_eq]
  refine (show WW p l e { frames := 0, cells := 0, slots := 0, locals := 0 } s m ([.ref b, .int x1] : List Value).toArray below meth c D 2 (va_A [] s.heap.size) 0 0 (QI below ([.ref b, .int x1] : List Value).toArray s D [] { frames := 0, cells := 0, slots := 0, locals := 0 } (cellv L0 xs x1) (fun w => w = [])) 0 [(0, .ref b), (1, .int x1)] [] [] from ?_) s.heap [] _ hP hD.self va_S.rf (lv_entry ([.ref b, .int x1]) (n := 2) (Nat.le_of_ble_eq_true rfl))
  refine q_iload_n C dL_cell_0 rfl 1 rfl ?_
  refine q_aload_n C dL_cell_1 rfl 0 rfl ?_
  refine q_slen C hX hbl hbA dL_cell_2 ?_
  refine q_icmp_ge C 12 dL_cell_3 (by decide) (fun h => ?_) (fun h => ?_)
  · have e0 : cellv L0 xs x1 = (747796405 : Int32) * (x1 + 1) := if_pos h
    rw [e0]
    refine q_ldc (v := 747796405) C (ws_in xk_L_7) dL_cell_12 ?_
    refine q_iload_n C dL_cell_14 rfl 1 rfl ?_
    refine q_iconst (v := 1) C dL_cell_15 (by decide) ?_
    refine q_iadd C dL_cell_16 ?_
    refine q_imul C dL_cell_17 ?_
    exact q_iret C (Nat.le_of_ble_eq_true rfl) (Nat.le_of_ble_eq_true rfl) rfl dL_cell_18
  · have e0 : cellv L0 xs x1 = xs x1.toNatClampNeg := if_neg h
    rw [e0]
    have hin : inB x1 L0 = true := by
      obtain ⟨j, hj, rfl⟩ := nI_of hx
      have : ¬ L0 ≤ j := fun h2 => h (nI_le h2 hj)
      exact inB_nI (by omega) (by omega)
    refine q_aload_n C dL_cell_6 rfl 0 rfl ?_
    refine q_iload_n C dL_cell_7 rfl 1 rfl ?_
    refine q_sld C hX hbl hbA hin dL_cell_8 ?_
    refine q_goto C 18 dL_cell_9 (by decide) ?_
    exact q_iret C (Nat.le_of_ble_eq_true rfl) (Nat.le_of_ble_eq_true rfl) rfl dL_cell_18
