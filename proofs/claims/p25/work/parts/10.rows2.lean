theorem va_P_iff {D : va_G} {cl : List vw_C} {ws : va_W} {H : Heap} : va_P D cl ws H ↔ ∀ q ∈ ws, va_at D cl q H := by
  constructor
  · intro h q hq
    obtain ⟨k, hk⟩ := List.getElem?_of_mem hq
    exact h k q hk
  · intro h k q hk
    exact h q (List.mem_of_getElem? hk)
theorem va_D_iff {A : Nat → Prop} {ws : va_W} : va_D A ws ↔ (ws.map (fun q => q.1)).Nodup ∧ ∀ q ∈ ws, A q.1 := by
  constructor
  · intro h
    refine ⟨?_, fun q hq => ?_⟩
    · rw [List.Nodup, List.pairwise_iff_getElem]
      intro i j hi hj hij e
      simp only [List.length_map] at hi hj
      rw [List.getElem_map, List.getElem_map] at e
      have := h.1 i j ws[i] ws[j] (List.getElem?_eq_getElem hi) (List.getElem?_eq_getElem hj) e
      omega
    · obtain ⟨k, hk⟩ := List.getElem?_of_mem hq
      exact h.2 k q hk
  · rintro ⟨h1, h2⟩
    refine ⟨fun i j p q hi hj e => ?_, fun k q hk => h2 q (List.mem_of_getElem? hk)⟩
    rw [List.Nodup, List.pairwise_iff_getElem] at h1
    obtain ⟨hi', rfl⟩ := List.getElem?_eq_some_iff.mp hi
    obtain ⟨hj', rfl⟩ := List.getElem?_eq_some_iff.mp hj
    by_cases hij : i = j
    · exact hij
    · exfalso
      rcases Nat.lt_or_gt_of_ne hij with hl | hl
      · exact h1 i j (by simpa using hi') (by simpa using hj') hl (by rw [List.getElem_map, List.getElem_map]; exact e)
      · exact h1 j i (by simpa using hj') (by simpa using hi') hl (by rw [List.getElem_map, List.getElem_map]; exact e.symm)
theorem va_P_perm {D : va_G} {cl : List vw_C} {w1 w2 : va_W} {H : Heap} (h : w1.Perm w2) (hP : va_P D cl w1 H) : va_P D cl w2 H := va_P_iff.mpr (fun q hq => va_P_iff.mp hP q (h.mem_iff.mpr hq))
theorem va_D_perm {A : Nat → Prop} {w1 w2 : va_W} (h : w1.Perm w2) (hD : va_D A w1) : va_D A w2 := va_D_iff.mpr ⟨(h.map _).nodup_iff.mp (va_D_iff.mp hD).1, fun q hq => (va_D_iff.mp hD).2 q (h.mem_iff.mpr hq)⟩
theorem va_P_l {D : va_G} {cl : List vw_C} {w1 w2 : va_W} {H : Heap} (hP : va_P D cl (w1 ++ w2) H) : va_P D cl w1 H := va_P_iff.mpr (fun q hq => va_P_iff.mp hP q (List.mem_append_left _ hq))
theorem va_P_r {D : va_G} {cl : List vw_C} {w1 w2 : va_W} {H : Heap} (hP : va_P D cl (w1 ++ w2) H) : va_P D cl w2 H := va_P_iff.mpr (fun q hq => va_P_iff.mp hP q (List.mem_append_right _ hq))
theorem va_D_l {A : Nat → Prop} {w1 w2 : va_W} (hD : va_D A (w1 ++ w2)) : va_D A w1 := va_D_iff.mpr ⟨by have := (va_D_iff.mp hD).1; rw [List.map_append] at this; exact (List.nodup_append.mp this).1, fun q hq => (va_D_iff.mp hD).2 q (List.mem_append_left _ hq)⟩
theorem va_D_r {A : Nat → Prop} {w1 w2 : va_W} (hD : va_D A (w1 ++ w2)) : va_D A w2 := va_D_iff.mpr ⟨by have := (va_D_iff.mp hD).1; rw [List.map_append] at this; exact (List.nodup_append.mp this).2.1, fun q hq => (va_D_iff.mp hD).2 q (List.mem_append_right _ hq)⟩
theorem va_A_mem {ws : va_W} {sz : Nat} {q : Nat} : va_A ws sz q ↔ (∃ x ∈ ws, x.1 = q) ∨ sz ≤ q := by
  constructor
  · rintro (⟨k, e, h⟩ | h)
    · exact Or.inl ⟨_, List.mem_of_getElem? h, rfl⟩
    · exact Or.inr h
  · rintro (⟨x, h, rfl⟩ | h)
    · obtain ⟨k, hk⟩ := List.getElem?_of_mem h
      exact Or.inl ⟨k, x.2, hk⟩
    · exact Or.inr h
/-- behind a call on the last part of the world, which may have grown -/
theorem join_app {A0 : Nat → Prop} {D : va_G} {cl : List vw_C} {wr wc w1 : va_W} {H H1 : Heap} (hP : va_P D cl (wr ++ wc) H) (hD : va_D A0 (wr ++ wc)) (hA : ∀ q, H.size ≤ q → A0 q) (hk : ∀ q : Nat, q < H.size → ¬ va_A wc H.size q → H1[q]? = H[q]?) (hP1 : va_P D cl w1 H1) (hD1 : va_D (va_A wc H.size) w1) : va_P D cl (wr ++ w1) H1 ∧ va_D A0 (wr ++ w1) := by
  have h0 := va_D_iff.mp hD
  have h1 := va_D_iff.mp hD1
  have hnd := h0.1
  rw [List.map_append] at hnd
  have hnd := List.nodup_append.mp hnd
  have apart : ∀ q ∈ wr, q.1 < H.size ∧ ¬ va_A wc H.size q.1 := by
    intro q hq
    have hl := (va_P_iff.mp hP q (List.mem_append_left _ hq)).lt
    refine ⟨hl, fun hz => ?_⟩
    rcases va_A_mem.mp hz with ⟨x, hx, hxe⟩ | hz
    · exact hnd.2.2 q.1 (List.mem_map.mpr ⟨q, hq, rfl⟩) x.1 (List.mem_map.mpr ⟨x, hx, rfl⟩) hxe.symm
    · omega
  refine ⟨va_P.app (va_P_iff.mpr fun q hq => ?_) hP1, va_D_iff.mpr ⟨?_, fun q hq => ?_⟩⟩
  · obtain ⟨a1, a2⟩ := apart q hq
    exact (va_P_iff.mp hP q (List.mem_append_left _ hq)).kept (hk q.1 a1 a2)
  · rw [List.map_append]
    refine List.nodup_append.mpr ⟨hnd.1, h1.1, fun a ha b hb hab => ?_⟩
    obtain ⟨x, hx, rfl⟩ := List.mem_map.mp ha
    obtain ⟨y, hy, rfl⟩ := List.mem_map.mp hb
    exact (apart x hx).2 (by rw [hab]; exact h1.2 y hy)
  · rcases List.mem_append.mp hq with hq | hq
    · exact h0.2 q (List.mem_append_left _ hq)
    · rcases va_A_mem.mp (h1.2 q hq) with ⟨x, hx, hxe⟩ | hz
      · rw [← hxe]; exact h0.2 x (List.mem_append_right _ hx)
      · exact hA _ hz
theorem arrV_congr {cI : ClassId} {N : Nat} {f g : Nat → Value} (h : ∀ j, j < N → f j = g j) : arrV cI N f = arrV cI N g := by
  unfold arrV
  congr 1
  apply Array.ext
  · simp
  · intro i h1 h2
    simp at h1
    simp [h i h1]
theorem cell_i {cI : ClassId} {N : Nat} {f g : Nat → Int32} (h : ∀ j, j < N → f j = g j) : vp_cell cI (N, .inl f) = vp_cell cI (N, .inl g) := by
  rw [vp_cell_i, vp_cell_i]
  exact arrV_congr (fun j hj => by rw [h j hj])
section QROWS2
variable {p : Program} {l : Launch} {e : Env} {R : Room} {s : State} {m : MethodId} {args : Array Value} {below : List Frame} {meth : Method} {c : Code} {cc : ByteArray} {n : Nat} {own : String} {Ts : List Cond} {ret : Option FieldType} {D : va_G} {cI cJ cN : ClassId} {A : Nat → Prop} {cells slots : Nat} {Q : State → Prop} {pc : Nat} {lv lv' : List (Nat × Value)} {st : List Value} {ws ws' : va_W}
theorem q_perm (h : ws.Perm ws') (k : WW p l e R s m args below meth c D n A cells slots Q pc lv st ws') : WW p l e R s m args below meth c D n A cells slots Q pc lv st ws := fun H locs ls hP hD hS hl => k H locs ls (va_P_perm h hP) (va_D_perm h hD) hS hl
theorem q_congr (h1 : ∀ H, va_P D vwCl ws H → va_P D vwCl ws' H) (h2 : ws'.map (fun q => q.1) = ws.map (fun q => q.1)) (k : WW p l e R s m args below meth c D n A cells slots Q pc lv st ws') : WW p l e R s m args below meth c D n A cells slots Q pc lv st ws := fun H locs ls hP hD hS hl => k H locs ls (h1 H hP) (va_D_iff.mpr ⟨by rw [h2]; exact (va_D_iff.mp hD).1, fun q hq => by
  have hm : q.1 ∈ ws'.map (fun q => q.1) := List.mem_map.mpr ⟨q, hq, rfl⟩
  rw [h2] at hm
  obtain ⟨x, hx, hxe⟩ := List.mem_map.mp hm
  rw [← hxe]
  exact (va_D_iff.mp hD).2 x hx⟩) hS hl
theorem q_objInit (C : CX p l s m args meth c cc n own Ts ret D cI cJ cN A) {idx a : Nat} (hlink : Cond.methodLink own idx Lib.objectInit ∈ Ts) (hinst : Cond.instanceMethod Lib.objectInit ∈ Ts) (hcode : Cond.code Lib.objectInit ⟨#[0xb1]⟩ 1 none ∈ Ts) (hframes : 1 ≤ R.frames) (hlocals : (st.map fun v => v.category).sum + 12 ≤ R.locals) (hd : decode cc pc = .ok (.invokespecial idx, 3)) (k : WW p l e R s m args below meth c D n A cells slots Q (pc + 3) lv st ws) : WW p l e R s m args below meth c D n A cells slots Q pc lv (.ref a :: st) ws := by
  intro H locs ls hP hD hS hl
  refine W.objInit C.1 C.2.1 C.2.2.2.1 (C.2.2.2.2.1 _ hlink) (C.2.2.2.2.1 _ hinst) (C.2.2.2.2.1 _ hcode) rfl (by rw [C.2.2.1]; exact hl.1) rfl hd hframes (by show 2 * 0 + _ + 12 ≤ _; omega) ?_
  exact k H locs ls hP hD hS hl
theorem ty_same {D : va_G} {cI cJ cN cA : ClassId} {s : State} (hK : va_K D vwCl (TY cI cJ cN) s) (hK2 : va_K D vwCl (TY cI cJ cN ++ [(cA, .int)]) s) : cA = cI := by
  have h1 := (hK.2 0 _ rfl).2
  have h2 := (hK2.2 3 _ rfl).2
  exact Option.some.inj (h2.symm.trans h1)
theorem ty_sameJ {D : va_G} {cI cJ cN cA : ClassId} {s : State} (hK : va_K D vwCl (TY cI cJ cN) s) (hK2 : va_K D vwCl (TY cI cJ cN ++ [(cA, .long)]) s) : cA = cJ := by
  have h1 := (hK.2 1 _ rfl).2
  have h2 := (hK2.2 3 _ rfl).2
  exact Option.some.inj (h2.symm.trans h1)
theorem ty_sameN {D : va_G} {cI cJ cN cA : ClassId} {s : State} (hK : va_K D vwCl (TY cI cJ cN) s) (hK2 : va_K D vwCl (TY cI cJ cN ++ [(cA, .object RX0)]) s) : cA = cN := by
  obtain ⟨-, -, -, -, -, h1⟩ := (hK.2 2 _ rfl).2
  obtain ⟨-, -, -, -, -, h2⟩ := (hK2.2 3 _ rfl).2
  exact Option.some.inj (h2.symm.trans h1)
theorem q_newaI (C : CX p l s m args meth c cc n own Ts ret D cI cJ cN A) {n0 : Int32} {N' : Nat} (harr : Cond.arrayClass .int ∈ Ts) (hn : ¬ n0 < 0) (hN : n0.toNatClampNeg = N') (hbytes : N' * 4 ≤ 536870912) (hcells : cells + 1 ≤ R.cells) (hslots : slots + N' ≤ R.slots) (hd : decode cc pc = .ok (.newarray .int, 2)) (k : ∀ q, WW p l e R s m args below meth c D n A (cells + 1) (slots + N') Q (pc + 2) lv (.ref q :: st) (ws ++ [(q, .inl (cI, N', .inl (fun _ => 0)))])) : WW p l e R s m args below meth c D n A cells slots Q pc lv (.int n0 :: st) ws := by
  intro H locs ls hP hD hS hl
  refine va_newa (atype := .int) (ty := .int) (a0 := (N', .inl (fun _ => 0))) C.1 C.2.1 (C.2.2.2.2.1 _ harr) rfl C.2.2.2.2.2.1 hP hD hS C.2.2.2.2.2.2.2.1 (fun _ => rfl) hn hN hbytes hcells hslots hd (fun q cA H1 hK2 hP1 hD1 hS1 => ?_)
  have e := ty_same C.2.2.2.2.2.1 hK2
  subst e
  exact k q H1 locs ls hP1 hD1 hS1 hl
theorem q_newaJ (C : CX p l s m args meth c cc n own Ts ret D cI cJ cN A) {n0 : Int32} {N' : Nat} (harr : Cond.arrayClass .long ∈ Ts) (hn : ¬ n0 < 0) (hN : n0.toNatClampNeg = N') (hbytes : N' * 8 ≤ 536870912) (hcells : cells + 1 ≤ R.cells) (hslots : slots + N' ≤ R.slots) (hd : decode cc pc = .ok (.newarray .long, 2)) (k : ∀ q, WW p l e R s m args below meth c D n A (cells + 1) (slots + N') Q (pc + 2) lv (.ref q :: st) (ws ++ [(q, .inl (cJ, N', .inr (.inl (fun _ => 0))))])) : WW p l e R s m args below meth c D n A cells slots Q pc lv (.int n0 :: st) ws := by
  intro H locs ls hP hD hS hl
  refine va_newa (atype := .long) (ty := .long) (a0 := (N', .inr (.inl (fun _ => 0)))) C.1 C.2.1 (C.2.2.2.2.1 _ harr) rfl C.2.2.2.2.2.1 hP hD hS C.2.2.2.2.2.2.2.1 (fun _ => rfl) hn hN hbytes hcells hslots hd (fun q cA H1 hK2 hP1 hD1 hS1 => ?_)
  have e := ty_sameJ C.2.2.2.2.2.1 hK2
  subst e
  exact k q H1 locs ls hP1 hD1 hS1 hl
theorem q_newq (C : CX p l s m args meth c cc n own Ts ret D cI cJ cN A) {n0 : Int32} {N' index : Nat} (hclink : Cond.classLink own index RX0 ∈ Ts) (hn : ¬ n0 < 0) (hN : n0.toNatClampNeg = N') (hbytes : N' * 4 ≤ 536870912) (hcells : cells + 1 ≤ R.cells) (hslots : slots + N' ≤ R.slots) (hd : decode cc pc = .ok (.anewarray index, 3)) (k : ∀ q, WW p l e R s m args below meth c D n A (cells + 1) (slots + N') Q (pc + 3) lv (.ref q :: st) (ws ++ [(q, .inl (cN, N', .inr (.inr (.inr (.inr (fun _ => none))))))])) : WW p l e R s m args below meth c D n A cells slots Q pc lv (.int n0 :: st) ws := by
  intro H locs ls hP hD hS hl
  refine va_newq C.1 C.2.1 C.2.2.2.1 (C.2.2.2.2.1 _ hclink) C.2.2.2.2.2.2.1.2 C.2.2.2.2.2.1 hP hD hS C.2.2.2.2.2.2.2.1 hn hN hbytes hcells hslots hd (fun q cA H1 hK2 hP1 hD1 hS1 => ?_)
  have e := ty_sameN C.2.2.2.2.2.1 hK2
  subst e
  exact k q H1 locs ls hP1 hD1 hS1 hl
theorem q_new (C : CX p l s m args meth c cc n own Ts ret D cI cJ cN A) {Cn : String} {T : u_T} {N ci index : Nat} (hin : ∀ w ∈ u_ws Cn T N, w ∈ Ts) (ty : Nat → FieldType) (hty : ∀ k, k < N → parseFieldDescriptor (T k).2.2.1 = some (ty k)) (hcl : Cond.classLink own index Cn ∈ Ts) (hinst : Cond.instantiable Cn N ∈ Ts) (hini : Cond.initialized Cn ∈ Ts) (hc : vwCl[ci]? = some (Cn, T, N)) {fs : List Value} (hfs : ∀ j, j < N → defaultValue (ty j) = vp_V fs j) (hcells : cells + 1 ≤ R.cells) (hslots : slots + N ≤ R.slots) (hd : decode cc pc = .ok (.new index, 3)) (k : ∀ q, WW p l e R s m args below meth c D n A (cells + 1) (slots + N) Q (pc + 3) lv (.ref q :: st) (ws ++ [(q, .inr (ci, fs))])) : WW p l e R s m args below meth c D n A cells slots Q pc lv st ws := by
  intro H locs ls hP hD hS hl
  refine va_new C.1 C.2.1 C.2.2.2.2.1 hin ty hty C.2.2.2.1 (C.2.2.2.2.1 _ hcl) (C.2.2.2.2.1 _ hinst) (C.2.2.2.2.1 _ hini) C.2.2.2.2.2.1 hP hD hS C.2.2.2.2.2.2.2.1 hc hfs hcells hslots hd (fun q H1 hP1 hD1 hS1 => ?_)
  exact k q H1 locs ls hP1 hD1 hS1 hl
theorem q_aast (C : CX p l s m args meth c cc n own Ts ret D cI cJ cN A) (q0 qk : Nat) {a n0 v : Nat} {vs : List Value} {f : Nat → Option Nat} (ha : ws[q0]? = some (a, .inl (cN, n0, .inr (.inr (.inr (.inr f)))))) (hv : ws[qk]? = some (v, .inr (0, vs))) {i : Int32} (hin : inB i n0 = true) (hd : decode cc pc = .ok (.aastore, 1)) (hs : ws.set q0 (a, .inl (cN, n0, .inr (.inr (.inr (.inr (va_up f i.toNatClampNeg (some v))))))) = ws') (k : WW p l e R s m args below meth c D n A cells slots Q (pc + 1) lv st ws') : WW p l e R s m args below meth c D n A cells slots Q pc lv (.ref v :: .int i :: .ref a :: st) ws := fun H locs ls hP hD hS hl => va_astq (r := (RX0, TX0, 9)) C.1 C.2.1 C.2.2.2.2.2.1 hP hD hS q0 2 qk 0 ha rfl hv rfl (inB_in hin) hd (fun H1 locs1 hP hD hS => k H1 locs1 ls (hs ▸ hP) (hs ▸ hD) hS hl)
/-- a constructor's call on the last cells of the world -/
theorem q_cI (C : CX p l s m args meth c cc n own Ts ret D cI cJ cN A) {y : MethodName} {wsy : List Cond} {rm : Room} {b : Nat} {As : List Value} {wr wc : va_W} {P1 : va_W → Prop} {bytes : ByteArray} {maxL index nA : Nat} (hM : MV l D cI cJ cN y wsy rm (.ref b :: As) wc P1) (cw : CallB R s args own index y bytes maxL none wsy rm rm.cells rm.slots nA ∧ y.name = "<init>" ∧ (Cond.instanceMethod y).before args s = true) (hw : ws = wr ++ wc) (hnA : As.length = nA) {st0 : List Value} (hst : st0 = As.reverse ++ .ref b :: st) (hroom : (st.map fun v => v.category).sum ≤ 8) (hd : decode cc pc = .ok (.invokespecial index, 3)) (hf : cells + rm.cells ≤ R.cells ∧ slots + rm.slots ≤ R.slots) (k : ∀ w1, P1 w1 → WW p l e R s m args below meth c D n A (cells + rm.cells) (slots + rm.slots) Q (pc + 3) lv st (wr ++ w1)) : WW p l e R s m args below meth c D n A cells slots Q pc lv st0 ws := by
  subst hw
  intro H locs ls hP hD hS hl
  have hPc := va_P_r hP
  have hDc := va_D_r hD
  have hA0 : ∀ q, H.size ≤ q → A q := fun q h => C.2.2.2.2.2.2.2.1 q (Nat.le_trans hS.1 h)
  have hF : ∀ q, va_A wc H.size q → A q := by
    intro q hq
    rcases va_A_mem.mp hq with ⟨x, hx, rfl⟩ | hq
    · exact (va_D_iff.mp hDc).2 x hx
    · exact hA0 q hq
  refine va_callv (va_runI (As := As) (rest := st) ⟨C.1, C.2.1, C.2.2.1, C.2.2.2.1, C.2.2.2.2.1⟩ (hM H.size) cw ⟨preB_blind, preB_mk C.2.2.2.2.2.1 C.2.2.2.2.2.2.1 hPc hDc⟩ rfl hnA hl.1 hst (lv_room hroom) hd hf) hS (fun q _ h => hF q h) hF (fun u t H1 locs1 ht hvm hw hB hz1 hk1 hS1 => ?_)
  obtain ⟨w1x, hp1, hP1, hD1⟩ := hB
  rw [ht] at hP1
  obtain ⟨hPn, hDn⟩ := join_app hP hD hA0 hk1 hP1 hD1
  exact k w1x hp1 H1 locs1 ls hPn hDn hS1 hl
theorem q_astore_nN (C : CX p l s m args meth c cc n own Ts ret D cI cJ cN A) {kk : Fin 4} {i : Nat} (hd : decode cc pc = .ok (.astore_n kk, 1)) (hi : (kk : Nat) = i) (hn : i < n) (hl1 : (i, Value.null) :: lv.filter (fun q => !(q.1 == i) && !(q.1 + 1 == i && q.2.category == 2)) = lv') (k : WW p l e R s m args below meth c D n A cells slots Q (pc + 1) lv' st ws) : WW p l e R s m args below meth c D n A cells slots Q pc lv (.null :: st) ws := fun H locs ls hP hD hS hl => lv_astore_nN C.1 C.2.1 hd hi hl hn hl1 (fun ls2 hl2 => k H locs ls2 hP hD hS hl2)
theorem q_aload_nN (C : CX p l s m args meth c cc n own Ts ret D cI cJ cN A) {kk : Fin 4} {i : Nat} (hd : decode cc pc = .ok (.aload_n kk, 1)) (hi : (kk : Nat) = i) (q : Nat) (hq : lv[q]? = some (i, .null)) (k : WW p l e R s m args below meth c D n A cells slots Q (pc + 1) lv (.null :: st) ws) : WW p l e R s m args below meth c D n A cells slots Q pc lv st ws := fun H locs ls hP hD hS hl => lv_aload_nN C.1 C.2.1 hd hi (lv_at hl q hq) (k H locs ls hP hD hS hl)
end QROWS2
