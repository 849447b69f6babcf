/-! worlds: the classes of the arrays, the nest's words, a state of a method's walk -/
abbrev TY (cI cJ cN : ClassId) : List (ClassId × FieldType) := [(cI, .int), (cJ, .long), (cN, .object RX0)]
def nwL : List Cond := [.methodLinkNest RX0 48 yX2_only RX2, .methodLinkNest RX0 60 yX2_putAt RX2, .methodLinkNest RX0 64 yX2_copyRow RX2, .methodLinkNest RX0 72 yX2_isIn RX2, .methodLinkNest RX0 82 yX2_valueAt RX2, .methodLinkNest RX1 45 yX2_only RX2, .methodLinkNest RX1 56 yX2_isIn RX2, .methodLinkNest RX1 97 yX2_valueAt RX2, .methodLinkNest RX1 120 yX2_putAt RX2]
def NW (U : State) : Prop := (∀ w ∈ nwL, va_Nw w U) ∧ va_AO RX0 U
theorem NW.nest {U : State} (h : NW U) {w : Cond} (k : Nat) (hk : nwL[k]? = some w) : va_Nw w U := h.1 w (List.mem_of_getElem? hk)
theorem NW.warm {s U : State} (hW : s.WarmedH U.vm) (h : NW s) : NW U := by
  refine ⟨fun w hw => ?_, va_AO.moved hW.alike h.2⟩
  have h1 := h.1 w hw
  simp only [nwL, List.mem_cons, List.not_mem_nil, or_false] at hw
  rcases hw with e | e | e | e | e | e | e | e | e <;> (subst e; exact va_Nw.warmM hW h1)
theorem NW.calling {U : State} {g : JFrame} {mk : MethodId} {a : Array Value} (h : NW U) : NW (U.calling g mk a) := by
  refine ⟨fun w hw => ?_, va_AO.moved (u := U) (U := U.calling g mk a) (Vm.Alike.refl U.vm) h.2⟩
  have h1 := h.1 w hw
  simp only [nwL, List.mem_cons, List.not_mem_nil, or_false] at hw
  rcases hw with e | e | e | e | e | e | e | e | e <;> (subst e; exact va_Nw.same rfl rfl h1)
def PreB (D : va_G) (cI cJ cN : ClassId) (ws : va_W) (sz : Nat) (U : State) : Prop := U.heap.size = sz ∧ va_P D vwCl ws U.heap ∧ va_K D vwCl (TY cI cJ cN) U ∧ NW U ∧ va_D (fun _ => True) ws
theorem preB_blind {av : List Value} {D : va_G} {cI cJ cN : ClassId} {ws : va_W} {sz : Nat} : FrameBlind (va_Pc av (PreB D cI cJ cN ws sz)) := fun a U g mk q => ⟨q.1, q.2.1, q.2.2.1, va_K.moved (u := U) (U := U.calling g mk a) (Vm.Alike.refl U.vm) q.2.2.2.1, q.2.2.2.2.1.calling, q.2.2.2.2.2⟩
theorem preB_mk {s : State} {H : Heap} {av : List Value} {D : va_G} {cI cJ cN : ClassId} {ws : va_W} {A : Nat → Prop} (hK : va_K D vwCl (TY cI cJ cN) s) (hN : NW s) (hP : va_P D vwCl ws H) (hD : va_D A ws) : ∀ U : State, U.heap = H → s.WarmedH U.vm → va_Pc av (PreB D cI cJ cN ws H.size) av.toArray U := fun U hU hW => ⟨rfl, by rw [hU], by rw [hU]; exact hP, va_K.moved hW.alike hK, hN.warm hW, hD.weaken (fun _ _ _ _ => trivial)⟩
/-- what a method leaves: a world of the kind P1, its cells apart, in what the method may change -/
def PostB (D : va_G) (W0 : va_W) (sz : Nat) (P1 : va_W → Prop) (t : State) : Prop := ∃ w1, P1 w1 ∧ va_P D vwCl w1 t.heap ∧ va_D (va_A W0 sz) w1
def MI (l : Launch) (D : va_G) (cI cJ cN : ClassId) (y : MethodName) (ws : List Cond) (rm : Room) (av : List Value) (W0 : va_W) (r : Int32) (P1 : va_W → Prop) : Prop := ∀ sz : Nat, Met l y ws rm (va_Pc av (PreB D cI cJ cN W0 sz)) (va_Qi (fun (r' : Int32) (_ : Unit) => r' = r) (fun _ t => PostB D W0 sz P1 t) (va_A W0 sz)) rm.cells rm.slots (va_A W0 sz)
def ML (l : Launch) (D : va_G) (cI cJ cN : ClassId) (y : MethodName) (ws : List Cond) (rm : Room) (av : List Value) (W0 : va_W) (r : Int64) (P1 : va_W → Prop) : Prop := ∀ sz : Nat, Met l y ws rm (va_Pc av (PreB D cI cJ cN W0 sz)) (va_Ql (fun (r' : Int64) (_ : Unit) => r' = r) (fun _ t => PostB D W0 sz P1 t) (va_A W0 sz)) rm.cells rm.slots (va_A W0 sz)
def MF (l : Launch) (D : va_G) (cI cJ cN : ClassId) (y : MethodName) (ws : List Cond) (rm : Room) (av : List Value) (W0 : va_W) (r : UInt32) (P1 : va_W → Prop) : Prop := ∀ sz : Nat, Met l y ws rm (va_Pc av (PreB D cI cJ cN W0 sz)) (va_Qf (fun (r' : UInt32) (_ : Unit) => r' = r) (fun _ t => PostB D W0 sz P1 t) (va_A W0 sz)) rm.cells rm.slots (va_A W0 sz)
def MV (l : Launch) (D : va_G) (cI cJ cN : ClassId) (y : MethodName) (ws : List Cond) (rm : Room) (av : List Value) (W0 : va_W) (P1 : va_W → Prop) : Prop := ∀ sz : Nat, Met l y ws rm (va_Pc av (PreB D cI cJ cN W0 sz)) (va_Qv (fun (_ : Unit) => True) (fun _ t => PostB D W0 sz P1 t) (va_A W0 sz)) rm.cells rm.slots (va_A W0 sz)
def QI (below : List Frame) (args : Array Value) (s : State) (D : va_G) (W0 : va_W) (rm : Room) (r : Int32) (P1 : va_W → Prop) : State → Prop := MQ below (va_Qi (fun (r' : Int32) (_ : Unit) => r' = r) (fun _ t => PostB D W0 s.heap.size P1 t) (va_A W0 s.heap.size)) args s rm.cells rm.slots (va_A W0 s.heap.size)
def QL (below : List Frame) (args : Array Value) (s : State) (D : va_G) (W0 : va_W) (rm : Room) (r : Int64) (P1 : va_W → Prop) : State → Prop := MQ below (va_Ql (fun (r' : Int64) (_ : Unit) => r' = r) (fun _ t => PostB D W0 s.heap.size P1 t) (va_A W0 s.heap.size)) args s rm.cells rm.slots (va_A W0 s.heap.size)
def QF (below : List Frame) (args : Array Value) (s : State) (D : va_G) (W0 : va_W) (rm : Room) (r : UInt32) (P1 : va_W → Prop) : State → Prop := MQ below (va_Qf (fun (r' : UInt32) (_ : Unit) => r' = r) (fun _ t => PostB D W0 s.heap.size P1 t) (va_A W0 s.heap.size)) args s rm.cells rm.slots (va_A W0 s.heap.size)
def QV (below : List Frame) (args : Array Value) (s : State) (D : va_G) (W0 : va_W) (rm : Room) (P1 : va_W → Prop) : State → Prop := MQ below (va_Qv (fun (_ : Unit) => True) (fun _ t => PostB D W0 s.heap.size P1 t) (va_A W0 s.heap.size)) args s rm.cells rm.slots (va_A W0 s.heap.size)
def CX (p : Program) (l : Launch) (s : State) (m : MethodId) (args : Array Value) (meth : Method) (c : Code) (cc : ByteArray) (n : Nat) (own : String) (Ts : List Cond) (ret : Option FieldType) (D : va_G) (cI cJ cN : ClassId) (A : Nat → Prop) : Prop :=
  p.tables.exec = Jvm.exec ∧ c.code = cc ∧ c.maxLocals = n ∧ s.vm.findClass own = some m.cls ∧ (∀ w ∈ Ts, w.before args s = true) ∧ va_K D vwCl (TY cI cJ cN) s ∧ NW s ∧ (∀ q, s.heap.size ≤ q → A q) ∧ meth.sig.returnType = ret ∧ meth.locks = false
def WW (p : Program) (l : Launch) (e : Env) (R : Room) (s : State) (m : MethodId) (args : Array Value) (below : List Frame) (meth : Method) (c : Code) (D : va_G) (n : Nat) (A : Nat → Prop) (cells slots : Nat) (Q : State → Prop) (pc : Nat) (lv : List (Nat × Value)) (st : List Value) (ws : va_W) : Prop :=
  ∀ (H : Heap) (locs : List Loc) (ls : Array Slot), va_P D vwCl ws H → va_D A ws → va_S A s.heap H locs → lv_has ls n lv → W p l e R s m args below meth c H locs cells slots Q (F0 m pc ls st)
/-- an index within, as a test -/
def inB (i : Int32) (n : Nat) : Bool := !(decide (i < 0) || decide (n ≤ i.toNatClampNeg))
theorem inB_in {i : Int32} {n : Nat} (h : inB i n = true) : vp_in i n := by
  unfold inB at h
  unfold vp_in
  simpa using h
def gd {α : Type} (b : Bool) (k : Option α) : Option α := if b = true then k else none
theorem gd_some {α : Type} {b : Bool} {k : Option α} {r : α} (h : gd b k = some r) : b = true ∧ k = some r := by
  unfold gd at h
  by_cases hb : b = true
  · rw [if_pos hb] at h; exact ⟨hb, h⟩
  · rw [if_neg hb] at h; cases h
theorem bnd {α β : Type} {o : Option α} {k : α → Option β} {r : β} (h : o.bind k = some r) : ∃ a, o = some a ∧ k a = some r := by
  cases o with
  | none => cases h
  | some a => exact ⟨a, rfl, h⟩
def nz32 (y : Int32) : Bool := !(decide (y = 0))
def nz64 (y : Int64) : Bool := !(decide (y = 0))
theorem nz32_ne {y : Int32} (h : nz32 y = true) : ¬ y = 0 := by unfold nz32 at h; simpa using h
theorem nz64_ne {y : Int64} (h : nz64 y = true) : ¬ y = 0 := by unfold nz64 at h; simpa using h
def bB (y : Int32) : Bool := decide (y = 0) || decide (y = 1)
theorem bB_nar {y : Int32} (h : bB y = true) : narrow .boolean (.int y) = .int y := by
  unfold bB at h
  simp only [Bool.or_eq_true, decide_eq_true_eq] at h
  rcases h with h | h <;> subst h <;> rfl
def setMany : va_W → List Nat → va_W → va_W
  | ws, i :: is, x :: xs => setMany (ws.set i x) is xs
  | ws, _, _ => ws
theorem setMany_len : ∀ (is : List Nat) (xs ws : va_W), (setMany ws is xs).length = ws.length
  | [], _, _ => by unfold setMany; rfl
  | _ :: _, [], _ => by unfold setMany; rfl
  | i :: is, x :: xs, ws => by unfold setMany; rw [setMany_len is xs]; simp
theorem setMany_at : ∀ (is : List Nat) (xs ws : va_W) (k : Nat) (q : Nat × va_E), va_nd is = true → (setMany ws is xs)[k]? = some q → (∃ j : Nat, is[j]? = some k ∧ xs[j]? = some q) ∨ ((∀ j : Nat, is[j]? = some k → xs[j]? = none) ∧ ws[k]? = some q)
  | [], xs, ws, k, q, _, h => Or.inr ⟨fun j hj => by simp at hj, by unfold setMany at h; exact h⟩
  | i :: is, [], ws, k, q, _, h => Or.inr ⟨fun j _ => by simp, by unfold setMany at h; exact h⟩
  | i :: is, x :: xs, ws, k, q, hn, h => by
    simp only [va_nd, Bool.and_eq_true, decide_eq_true_eq] at hn
    unfold setMany at h
    rcases setMany_at is xs (ws.set i x) k q hn.2 h with ⟨j, h1, h2⟩ | ⟨h1, h2⟩
    · exact Or.inl ⟨j + 1, by simpa using h1, by simpa using h2⟩
    · by_cases hk : i = k
      · subst hk
        have hlt : i < ws.length := by
          have := (List.getElem?_eq_some_iff.mp h2).1
          simpa using this
        rw [List.getElem?_set_self hlt] at h2
        cases h2
        exact Or.inl ⟨0, rfl, rfl⟩
      · rw [List.getElem?_set_ne hk] at h2
        refine Or.inr ⟨fun j hj => ?_, h2⟩
        cases j with
        | zero => simp at hj; exact absurd hj hk
        | succ j => simp at hj ⊢; have := h1 j hj; simpa using this
theorem join_set {A0 : Nat → Prop} {D : va_G} {cl : List vw_C} {ws wc w1 : va_W} {H H1 : Heap} (hP : va_P D cl ws H) (hD : va_D A0 ws) (is : List Nat) (hC : is.map (fun i => ws[i]?) = wc.map some) (hn : va_nd is = true) (had : w1.map (fun q => q.1) = wc.map (fun q => q.1)) (hk : ∀ q : Nat, q < H.size → ¬ va_A wc H.size q → H1[q]? = H[q]?) (hP1 : va_P D cl w1 H1) : va_P D cl (setMany ws is w1) H1 ∧ va_D A0 (setMany ws is w1) := by
  have hat : ∀ (j k : Nat) (q : Nat × va_E), is[j]? = some k → w1[j]? = some q → ∃ q0, ws[k]? = some q0 ∧ q0.1 = q.1 ∧ wc[j]? = some q0 := by
    intro j k q h1 h2
    have h3 : (w1.map (fun q => q.1))[j]? = some q.1 := by rw [List.getElem?_map, h2]; rfl
    rw [had, List.getElem?_map] at h3
    cases h4 : wc[j]? with
    | none => rw [h4] at h3; cases h3
    | some q0 =>
      rw [h4] at h3
      have h5 : (is.map (fun i => ws[i]?))[j]? = some (some q0) := by rw [hC, List.getElem?_map, h4]; rfl
      rw [List.getElem?_map, h1] at h5
      exact ⟨q0, Option.some.inj h5, Option.some.inj h3, rfl⟩
  have hlen : w1.length = wc.length := by have := congrArg List.length had; simpa using this
  have hlenC : is.length = wc.length := by have := congrArg List.length hC; simpa using this
  have key : ∀ (k : Nat) (q : Nat × va_E), (setMany ws is w1)[k]? = some q → ∃ q0, ws[k]? = some q0 ∧ q0.1 = q.1 := by
    intro k q hk
    rcases setMany_at is w1 ws k q hn hk with ⟨j, h1, h2⟩ | ⟨-, h2⟩
    · obtain ⟨q0, a1, a2, -⟩ := hat j k q h1 h2
      exact ⟨q0, a1, a2⟩
    · exact ⟨q, h2, rfl⟩
  refine ⟨fun k q hq => ?_, ⟨fun i j x y hi hj hxy => ?_, fun k q hq => ?_⟩⟩
  · rcases setMany_at is w1 ws k q hn hq with ⟨j, h1, h2⟩ | ⟨h1, h2⟩
    · exact hP1 j q h2
    · have hlt := (hP k q h2).lt
      refine (hP k q h2).kept (hk q.1 hlt (fun hz => ?_))
      rcases hz with ⟨j, ee, h3⟩ | h3
      · have hj : j < is.length := by rw [hlenC]; exact (List.getElem?_eq_some_iff.mp h3).1
        have h5 : (is.map (fun i => ws[i]?))[j]? = some (some (q.1, ee)) := by rw [hC, List.getElem?_map, h3]; rfl
        rw [List.getElem?_map] at h5
        cases h6 : is[j]? with
        | none => rw [h6] at h5; cases h5
        | some k2 =>
          rw [h6] at h5
          have h7 : ws[k2]? = some (q.1, ee) := Option.some.inj h5
          have hkk : k2 = k := hD.1 k2 k _ _ h7 h2 rfl
          subst hkk
          have h8 := h1 j h6
          have hj2 : j < w1.length := by rw [hlen, ← hlenC]; exact hj
          rw [List.getElem?_eq_getElem hj2] at h8
          cases h8
      · omega
  · obtain ⟨x0, a1, a2⟩ := key i x hi
    obtain ⟨y0, b1, b2⟩ := key j y hj
    exact hD.1 i j x0 y0 a1 b1 (a2.trans (hxy.trans b2.symm))
  · obtain ⟨q0, a1, a2⟩ := key k q hq
    rw [← a2]
    exact hD.2 k q0 a1
theorem va_A_free {A0 : Nat → Prop} {ws wc : va_W} {H0 H : Heap} {locs : List Loc} (hD : va_D A0 ws) (hS : va_S A0 H0 H locs) (hA : ∀ q, H0.size ≤ q → A0 q) (is : List Nat) (hC : is.map (fun i => ws[i]?) = wc.map some) : ∀ q, va_A wc H.size q → A0 q := va_free hD hS hA is hC
theorem va_A_freeW {A0 : Nat → Prop} {ws : va_W} {H0 H : Heap} {locs : List Loc} (hD : va_D A0 ws) (hS : va_S A0 H0 H locs) (hA : ∀ q, H0.size ≤ q → A0 q) : ∀ q, va_A ws H.size q → A0 q := by
  intro q h
  rcases h with ⟨k, ee, h⟩ | h
  · exact hD.2 k _ h
  · exact hA q (Nat.le_trans hS.1 h)
section QROWS
variable {p : Program} {l : Launch} {e : Env} {R : Room} {s : State} {m : MethodId} {args : Array Value} {below : List Frame} {meth : Method} {c : Code} {cc : ByteArray} {n : Nat} {own : String} {Ts : List Cond} {ret : Option FieldType} {D : va_G} {cI cJ cN : ClassId} {A : Nat → Prop} {cells slots : Nat} {Q : State → Prop} {pc : Nat} {lv lv' : List (Nat × Value)} {st : List Value} {ws ws' : va_W}
theorem q_iadd (C : CX p l s m args meth c cc n own Ts ret D cI cJ cN A) {x y : Int32} (hd : decode cc pc = .ok (.iadd, 1))  (k : WW p l e R s m args below meth c D n A cells slots Q (pc + 1) lv (.int (x + y) :: st) ws) : WW p l e R s m args below meth c D n A cells slots Q pc lv (.int y :: .int x :: st) ws := fun H locs ls hP hD hS hl => lv_iadd C.1 C.2.1 hd  (k H locs ls hP hD hS hl)
theorem q_isub (C : CX p l s m args meth c cc n own Ts ret D cI cJ cN A) {x y : Int32} (hd : decode cc pc = .ok (.isub, 1))  (k : WW p l e R s m args below meth c D n A cells slots Q (pc + 1) lv (.int (x - y) :: st) ws) : WW p l e R s m args below meth c D n A cells slots Q pc lv (.int y :: .int x :: st) ws := fun H locs ls hP hD hS hl => lv_isub C.1 C.2.1 hd  (k H locs ls hP hD hS hl)
theorem q_imul (C : CX p l s m args meth c cc n own Ts ret D cI cJ cN A) {x y : Int32} (hd : decode cc pc = .ok (.imul, 1))  (k : WW p l e R s m args below meth c D n A cells slots Q (pc + 1) lv (.int (x * y) :: st) ws) : WW p l e R s m args below meth c D n A cells slots Q pc lv (.int y :: .int x :: st) ws := fun H locs ls hP hD hS hl => lv_imul C.1 C.2.1 hd  (k H locs ls hP hD hS hl)
theorem q_iand (C : CX p l s m args meth c cc n own Ts ret D cI cJ cN A) {x y : Int32} (hd : decode cc pc = .ok (.iand, 1))  (k : WW p l e R s m args below meth c D n A cells slots Q (pc + 1) lv (.int (x &&& y) :: st) ws) : WW p l e R s m args below meth c D n A cells slots Q pc lv (.int y :: .int x :: st) ws := fun H locs ls hP hD hS hl => lv_iand C.1 C.2.1 hd  (k H locs ls hP hD hS hl)
theorem q_ior (C : CX p l s m args meth c cc n own Ts ret D cI cJ cN A) {x y : Int32} (hd : decode cc pc = .ok (.ior, 1))  (k : WW p l e R s m args below meth c D n A cells slots Q (pc + 1) lv (.int (x ||| y) :: st) ws) : WW p l e R s m args below meth c D n A cells slots Q pc lv (.int y :: .int x :: st) ws := fun H locs ls hP hD hS hl => lv_ior C.1 C.2.1 hd  (k H locs ls hP hD hS hl)
theorem q_ixor (C : CX p l s m args meth c cc n own Ts ret D cI cJ cN A) {x y : Int32} (hd : decode cc pc = .ok (.ixor, 1))  (k : WW p l e R s m args below meth c D n A cells slots Q (pc + 1) lv (.int (x ^^^ y) :: st) ws) : WW p l e R s m args below meth c D n A cells slots Q pc lv (.int y :: .int x :: st) ws := fun H locs ls hP hD hS hl => lv_ixor C.1 C.2.1 hd  (k H locs ls hP hD hS hl)
theorem q_ishl (C : CX p l s m args meth c cc n own Ts ret D cI cJ cN A) {x y : Int32} (hd : decode cc pc = .ok (.ishl, 1))  (k : WW p l e R s m args below meth c D n A cells slots Q (pc + 1) lv (.int (x <<< (y &&& 31)) :: st) ws) : WW p l e R s m args below meth c D n A cells slots Q pc lv (.int y :: .int x :: st) ws := fun H locs ls hP hD hS hl => lv_ishl C.1 C.2.1 hd  (k H locs ls hP hD hS hl)
theorem q_ishr (C : CX p l s m args meth c cc n own Ts ret D cI cJ cN A) {x y : Int32} (hd : decode cc pc = .ok (.ishr, 1))  (k : WW p l e R s m args below meth c D n A cells slots Q (pc + 1) lv (.int (x >>> (y &&& 31)) :: st) ws) : WW p l e R s m args below meth c D n A cells slots Q pc lv (.int y :: .int x :: st) ws := fun H locs ls hP hD hS hl => lv_ishr C.1 C.2.1 hd  (k H locs ls hP hD hS hl)
theorem q_ladd (C : CX p l s m args meth c cc n own Ts ret D cI cJ cN A) {x y : Int64} (hd : decode cc pc = .ok (.ladd, 1))  (k : WW p l e R s m args below meth c D n A cells slots Q (pc + 1) lv (.long (x + y) :: st) ws) : WW p l e R s m args below meth c D n A cells slots Q pc lv (.long y :: .long x :: st) ws := fun H locs ls hP hD hS hl => lv_ladd C.1 C.2.1 hd  (k H locs ls hP hD hS hl)
theorem q_lsub (C : CX p l s m args meth c cc n own Ts ret D cI cJ cN A) {x y : Int64} (hd : decode cc pc = .ok (.lsub, 1))  (k : WW p l e R s m args below meth c D n A cells slots Q (pc + 1) lv (.long (x - y) :: st) ws) : WW p l e R s m args below meth c D n A cells slots Q pc lv (.long y :: .long x :: st) ws := fun H locs ls hP hD hS hl => lv_lsub C.1 C.2.1 hd  (k H locs ls hP hD hS hl)
theorem q_lmul (C : CX p l s m args meth c cc n own Ts ret D cI cJ cN A) {x y : Int64} (hd : decode cc pc = .ok (.lmul, 1))  (k : WW p l e R s m args below meth c D n A cells slots Q (pc + 1) lv (.long (x * y) :: st) ws) : WW p l e R s m args below meth c D n A cells slots Q pc lv (.long y :: .long x :: st) ws := fun H locs ls hP hD hS hl => lv_lmul C.1 C.2.1 hd  (k H locs ls hP hD hS hl)
theorem q_land (C : CX p l s m args meth c cc n own Ts ret D cI cJ cN A) {x y : Int64} (hd : decode cc pc = .ok (.land, 1))  (k : WW p l e R s m args below meth c D n A cells slots Q (pc + 1) lv (.long (x &&& y) :: st) ws) : WW p l e R s m args below meth c D n A cells slots Q pc lv (.long y :: .long x :: st) ws := fun H locs ls hP hD hS hl => lv_land C.1 C.2.1 hd  (k H locs ls hP hD hS hl)
theorem q_lor (C : CX p l s m args meth c cc n own Ts ret D cI cJ cN A) {x y : Int64} (hd : decode cc pc = .ok (.lor, 1))  (k : WW p l e R s m args below meth c D n A cells slots Q (pc + 1) lv (.long (x ||| y) :: st) ws) : WW p l e R s m args below meth c D n A cells slots Q pc lv (.long y :: .long x :: st) ws := fun H locs ls hP hD hS hl => lv_lor C.1 C.2.1 hd  (k H locs ls hP hD hS hl)
theorem q_lxor (C : CX p l s m args meth c cc n own Ts ret D cI cJ cN A) {x y : Int64} (hd : decode cc pc = .ok (.lxor, 1))  (k : WW p l e R s m args below meth c D n A cells slots Q (pc + 1) lv (.long (x ^^^ y) :: st) ws) : WW p l e R s m args below meth c D n A cells slots Q pc lv (.long y :: .long x :: st) ws := fun H locs ls hP hD hS hl => lv_lxor C.1 C.2.1 hd  (k H locs ls hP hD hS hl)
theorem q_idiv (C : CX p l s m args meth c cc n own Ts ret D cI cJ cN A) {x y : Int32} (hd : decode cc pc = .ok (.idiv, 1)) (hne : nz32 y = true) (k : WW p l e R s m args below meth c D n A cells slots Q (pc + 1) lv (.int (x / y) :: st) ws) : WW p l e R s m args below meth c D n A cells slots Q pc lv (.int y :: .int x :: st) ws := fun H locs ls hP hD hS hl => lv_idiv C.1 C.2.1 hd (nz32_ne hne) (k H locs ls hP hD hS hl)
theorem q_irem (C : CX p l s m args meth c cc n own Ts ret D cI cJ cN A) {x y : Int32} (hd : decode cc pc = .ok (.irem, 1)) (hne : nz32 y = true) (k : WW p l e R s m args below meth c D n A cells slots Q (pc + 1) lv (.int (x - x / y * y) :: st) ws) : WW p l e R s m args below meth c D n A cells slots Q pc lv (.int y :: .int x :: st) ws := fun H locs ls hP hD hS hl => lv_irem C.1 C.2.1 hd (nz32_ne hne) (k H locs ls hP hD hS hl)
theorem q_ldiv (C : CX p l s m args meth c cc n own Ts ret D cI cJ cN A) {x y : Int64} (hd : decode cc pc = .ok (.ldiv, 1)) (hne : nz64 y = true) (k : WW p l e R s m args below meth c D n A cells slots Q (pc + 1) lv (.long (x / y) :: st) ws) : WW p l e R s m args below meth c D n A cells slots Q pc lv (.long y :: .long x :: st) ws := fun H locs ls hP hD hS hl => lv_ldiv C.1 C.2.1 hd (nz64_ne hne) (k H locs ls hP hD hS hl)
theorem q_lrem (C : CX p l s m args meth c cc n own Ts ret D cI cJ cN A) {x y : Int64} (hd : decode cc pc = .ok (.lrem, 1)) (hne : nz64 y = true) (k : WW p l e R s m args below meth c D n A cells slots Q (pc + 1) lv (.long (x - x / y * y) :: st) ws) : WW p l e R s m args below meth c D n A cells slots Q pc lv (.long y :: .long x :: st) ws := fun H locs ls hP hD hS hl => lv_lrem C.1 C.2.1 hd (nz64_ne hne) (k H locs ls hP hD hS hl)
theorem q_ineg (C : CX p l s m args meth c cc n own Ts ret D cI cJ cN A) {x : Int32} (hd : decode cc pc = .ok (.ineg, 1))  (k : WW p l e R s m args below meth c D n A cells slots Q (pc + 1) lv (.int (-x) :: st) ws) : WW p l e R s m args below meth c D n A cells slots Q pc lv (.int x :: st) ws := fun H locs ls hP hD hS hl => lv_ineg C.1 C.2.1 hd  (k H locs ls hP hD hS hl)
theorem q_i2l (C : CX p l s m args meth c cc n own Ts ret D cI cJ cN A) {x : Int32} (hd : decode cc pc = .ok (.i2l, 1))  (k : WW p l e R s m args below meth c D n A cells slots Q (pc + 1) lv (.long (x.toInt64) :: st) ws) : WW p l e R s m args below meth c D n A cells slots Q pc lv (.int x :: st) ws := fun H locs ls hP hD hS hl => lv_i2l C.1 C.2.1 hd rfl (k H locs ls hP hD hS hl)
theorem q_l2i (C : CX p l s m args meth c cc n own Ts ret D cI cJ cN A) {x : Int64} (hd : decode cc pc = .ok (.l2i, 1))  (k : WW p l e R s m args below meth c D n A cells slots Q (pc + 1) lv (.int (x.toInt32) :: st) ws) : WW p l e R s m args below meth c D n A cells slots Q pc lv (.long x :: st) ws := fun H locs ls hP hD hS hl => lv_l2i C.1 C.2.1 hd rfl (k H locs ls hP hD hS hl)
theorem q_lshl (C : CX p l s m args meth c cc n own Ts ret D cI cJ cN A) {x : Int64} {y : Int32} (hd : decode cc pc = .ok (.lshl, 1))  (k : WW p l e R s m args below meth c D n A cells slots Q (pc + 1) lv (.long (x <<< (y.toInt64 &&& 63)) :: st) ws) : WW p l e R s m args below meth c D n A cells slots Q pc lv (.int y :: .long x :: st) ws := fun H locs ls hP hD hS hl => lv_lshl C.1 C.2.1 hd rfl (k H locs ls hP hD hS hl)
theorem q_lshr (C : CX p l s m args meth c cc n own Ts ret D cI cJ cN A) {x : Int64} {y : Int32} (hd : decode cc pc = .ok (.lshr, 1))  (k : WW p l e R s m args below meth c D n A cells slots Q (pc + 1) lv (.long (x >>> (y.toInt64 &&& 63)) :: st) ws) : WW p l e R s m args below meth c D n A cells slots Q pc lv (.int y :: .long x :: st) ws := fun H locs ls hP hD hS hl => lv_lshr C.1 C.2.1 hd rfl (k H locs ls hP hD hS hl)
theorem q_lushr (C : CX p l s m args meth c cc n own Ts ret D cI cJ cN A) {x : Int64} {y : Int32} (hd : decode cc pc = .ok (.lushr, 1))  (k : WW p l e R s m args below meth c D n A cells slots Q (pc + 1) lv (.long ((x.toUInt64 >>> (y.toInt64.toUInt64 &&& Int64.toUInt64 63)).toInt64) :: st) ws) : WW p l e R s m args below meth c D n A cells slots Q pc lv (.int y :: .long x :: st) ws := fun H locs ls hP hD hS hl => lv_lushr C.1 C.2.1 hd rfl (k H locs ls hP hD hS hl)
theorem q_lcmp (C : CX p l s m args meth c cc n own Ts ret D cI cJ cN A) {x y : Int64} (hd : decode cc pc = .ok (.lcmp, 1))  (k : WW p l e R s m args below meth c D n A cells slots Q (pc + 1) lv (.int (lg_cmp x y) :: st) ws) : WW p l e R s m args below meth c D n A cells slots Q pc lv (.long y :: .long x :: st) ws := fun H locs ls hP hD hS hl => W.lcmp C.1 C.2.1 hd  (k H locs ls hP hD hS hl)
theorem q_i2f (C : CX p l s m args meth c cc n own Ts ret D cI cJ cN A) {x : Int32} (hd : decode cc pc = .ok (.i2f, 1))  (k : WW p l e R s m args below meth c D n A cells slots Q (pc + 1) lv (.float (FP.i2f x) :: st) ws) : WW p l e R s m args below meth c D n A cells slots Q pc lv (.int x :: st) ws := fun H locs ls hP hD hS hl => lv_i2f C.1 C.2.1 hd  (k H locs ls hP hD hS hl)
theorem q_fdiv (C : CX p l s m args meth c cc n own Ts ret D cI cJ cN A) {x y : UInt32} (hd : decode cc pc = .ok (.fdiv, 1)) (hne : vf_n32 (FP.fdiv x y)) (k : WW p l e R s m args below meth c D n A cells slots Q (pc + 1) lv (.float (FP.fdiv x y) :: st) ws) : WW p l e R s m args below meth c D n A cells slots Q pc lv (.float y :: .float x :: st) ws := fun H locs ls hP hD hS hl => lv_fdiv C.1 C.2.1 hd hne (k H locs ls hP hD hS hl)
theorem q_fconst0 (C : CX p l s m args meth c cc n own Ts ret D cI cJ cN A)  (hd : decode cc pc = .ok (.fconst 0, 1))  (k : WW p l e R s m args below meth c D n A cells slots Q (pc + 1) lv (.float 0 :: st) ws) : WW p l e R s m args below meth c D n A cells slots Q pc lv st ws := fun H locs ls hP hD hS hl => lv_fconst0 C.1 C.2.1 hd  (k H locs ls hP hD hS hl)
theorem q_iconst (C : CX p l s m args meth c cc n own Ts ret D cI cJ cN A) {k0 : Int} {v : Int32} (hd : decode cc pc = .ok (.iconst k0, 1)) (hv : Int32.ofInt k0 = v) (k : WW p l e R s m args below meth c D n A cells slots Q (pc + 1) lv (.int v :: st) ws) : WW p l e R s m args below meth c D n A cells slots Q pc lv st ws := fun H locs ls hP hD hS hl => lv_iconst C.1 C.2.1 hd hv (k H locs ls hP hD hS hl)
theorem q_bipush (C : CX p l s m args meth c cc n own Ts ret D cI cJ cN A) {k0 : Int} {v : Int32} (hd : decode cc pc = .ok (.bipush k0, 2)) (hv : (Int8.ofInt k0).toInt32 = v) (k : WW p l e R s m args below meth c D n A cells slots Q (pc + 2) lv (.int v :: st) ws) : WW p l e R s m args below meth c D n A cells slots Q pc lv st ws := fun H locs ls hP hD hS hl => lv_bipush C.1 C.2.1 hd hv (k H locs ls hP hD hS hl)
theorem q_sipush (C : CX p l s m args meth c cc n own Ts ret D cI cJ cN A) {k0 : Int} {v : Int32} (hd : decode cc pc = .ok (.sipush k0, 3)) (hv : (Int16.ofInt k0).toInt32 = v) (k : WW p l e R s m args below meth c D n A cells slots Q (pc + 3) lv (.int v :: st) ws) : WW p l e R s m args below meth c D n A cells slots Q pc lv st ws := fun H locs ls hP hD hS hl => lv_sipush C.1 C.2.1 hd hv (k H locs ls hP hD hS hl)
theorem q_lconst (C : CX p l s m args meth c cc n own Ts ret D cI cJ cN A) {k0 : Fin 2} {v : Int64} (hd : decode cc pc = .ok (.lconst k0, 1)) (hv : Int64.ofNat (k0 : Nat) = v) (k : WW p l e R s m args below meth c D n A cells slots Q (pc + 1) lv (.long v :: st) ws) : WW p l e R s m args below meth c D n A cells slots Q pc lv st ws := fun H locs ls hP hD hS hl => lv_lconst C.1 C.2.1 hd hv (k H locs ls hP hD hS hl)
theorem q_dup (C : CX p l s m args meth c cc n own Ts ret D cI cJ cN A) {va : Value} (hd : decode cc pc = .ok (.dup, 1)) (hva : va.category = 1) (k : WW p l e R s m args below meth c D n A cells slots Q (pc + 1) lv (va :: va :: st) ws) : WW p l e R s m args below meth c D n A cells slots Q pc lv (va :: st) ws := fun H locs ls hP hD hS hl => lv_dup C.1 C.2.1 hd hva (k H locs ls hP hD hS hl)
theorem q_pop (C : CX p l s m args meth c cc n own Ts ret D cI cJ cN A) {va : Value} (hd : decode cc pc = .ok (.pop, 1)) (hva : va.category = 1) (k : WW p l e R s m args below meth c D n A cells slots Q (pc + 1) lv st ws) : WW p l e R s m args below meth c D n A cells slots Q pc lv (va :: st) ws := fun H locs ls hP hD hS hl => lv_pop C.1 C.2.1 hd hva (k H locs ls hP hD hS hl)
theorem q_dup2 (C : CX p l s m args meth c cc n own Ts ret D cI cJ cN A) {va vb : Value} (hd : decode cc pc = .ok (.dup2, 1)) (hva : va.category = 1) (hvb : vb.category = 1) (k : WW p l e R s m args below meth c D n A cells slots Q (pc + 1) lv (va :: vb :: va :: vb :: st) ws) : WW p l e R s m args below meth c D n A cells slots Q pc lv (va :: vb :: st) ws := fun H locs ls hP hD hS hl => lv_dup2_11 C.1 C.2.1 hd hva hvb (k H locs ls hP hD hS hl)
theorem q_ldc (C : CX p l s m args meth c cc n own Ts ret D cI cJ cN A) {index : Nat} {v : Int32} (hc : Cond.constant own index v ∈ Ts) (hd : decode cc pc = .ok (.ldc index, 2)) (k : WW p l e R s m args below meth c D n A cells slots Q (pc + 2) lv (.int v :: st) ws) : WW p l e R s m args below meth c D n A cells slots Q pc lv st ws := fun H locs ls hP hD hS hl => lv_ldc C.1 C.2.1 C.2.2.2.1 (C.2.2.2.2.1 _ hc) hd (k H locs ls hP hD hS hl)
theorem q_ldc2 (C : CX p l s m args meth c cc n own Ts ret D cI cJ cN A) {index : Nat} {v : Int64} (hc : Cond.constantLong own index v ∈ Ts) (hd : decode cc pc = .ok (.ldc2_w index, 3)) (k : WW p l e R s m args below meth c D n A cells slots Q (pc + 3) lv (.long v :: st) ws) : WW p l e R s m args below meth c D n A cells slots Q pc lv st ws := fun H locs ls hP hD hS hl => lv_ldc2 C.1 C.2.1 C.2.2.2.1 (C.2.2.2.2.1 _ hc) hd (k H locs ls hP hD hS hl)
theorem q_iload_n (C : CX p l s m args meth c cc n own Ts ret D cI cJ cN A) {kk : Fin 4} {i : Nat} {x : Int32} (hd : decode cc pc = .ok (.iload_n kk, 1)) (hi : (kk : Nat) = i) (q : Nat) (hq : lv[q]? = some (i, .int x)) (k : WW p l e R s m args below meth c D n A cells slots Q (pc + 1) lv (.int x :: st) ws) : WW p l e R s m args below meth c D n A cells slots Q pc lv st ws := fun H locs ls hP hD hS hl => lv_iload_n C.1 C.2.1 hd hi (lv_at hl q hq) (k H locs ls hP hD hS hl)
theorem q_iload (C : CX p l s m args meth c cc n own Ts ret D cI cJ cN A) {i : Nat} {x : Int32} (hd : decode cc pc = .ok (.iload i, 2)) (q : Nat) (hq : lv[q]? = some (i, .int x)) (k : WW p l e R s m args below meth c D n A cells slots Q (pc + 2) lv (.int x :: st) ws) : WW p l e R s m args below meth c D n A cells slots Q pc lv st ws := fun H locs ls hP hD hS hl => lv_iload C.1 C.2.1 hd (lv_at hl q hq) (k H locs ls hP hD hS hl)
theorem q_lload_n (C : CX p l s m args meth c cc n own Ts ret D cI cJ cN A) {kk : Fin 4} {i : Nat} {x : Int64} (hd : decode cc pc = .ok (.lload_n kk, 1)) (hi : (kk : Nat) = i) (q : Nat) (hq : lv[q]? = some (i, .long x)) (k : WW p l e R s m args below meth c D n A cells slots Q (pc + 1) lv (.long x :: st) ws) : WW p l e R s m args below meth c D n A cells slots Q pc lv st ws := fun H locs ls hP hD hS hl => lv_lload_n C.1 C.2.1 hd hi (lv_at hl q hq) (k H locs ls hP hD hS hl)
theorem q_lload (C : CX p l s m args meth c cc n own Ts ret D cI cJ cN A) {i : Nat} {x : Int64} (hd : decode cc pc = .ok (.lload i, 2)) (q : Nat) (hq : lv[q]? = some (i, .long x)) (k : WW p l e R s m args below meth c D n A cells slots Q (pc + 2) lv (.long x :: st) ws) : WW p l e R s m args below meth c D n A cells slots Q pc lv st ws := fun H locs ls hP hD hS hl => lv_lload C.1 C.2.1 hd (lv_at hl q hq) (k H locs ls hP hD hS hl)
theorem q_aload_n (C : CX p l s m args meth c cc n own Ts ret D cI cJ cN A) {kk : Fin 4} {i : Nat} {x : Nat} (hd : decode cc pc = .ok (.aload_n kk, 1)) (hi : (kk : Nat) = i) (q : Nat) (hq : lv[q]? = some (i, .ref x)) (k : WW p l e R s m args below meth c D n A cells slots Q (pc + 1) lv (.ref x :: st) ws) : WW p l e R s m args below meth c D n A cells slots Q pc lv st ws := fun H locs ls hP hD hS hl => lv_aload_n C.1 C.2.1 hd hi (lv_at hl q hq) (k H locs ls hP hD hS hl)
theorem q_aload (C : CX p l s m args meth c cc n own Ts ret D cI cJ cN A) {i : Nat} {x : Nat} (hd : decode cc pc = .ok (.aload i, 2)) (q : Nat) (hq : lv[q]? = some (i, .ref x)) (k : WW p l e R s m args below meth c D n A cells slots Q (pc + 2) lv (.ref x :: st) ws) : WW p l e R s m args below meth c D n A cells slots Q pc lv st ws := fun H locs ls hP hD hS hl => lv_aload C.1 C.2.1 hd (lv_at hl q hq) (k H locs ls hP hD hS hl)
theorem q_istore_n (C : CX p l s m args meth c cc n own Ts ret D cI cJ cN A) {kk : Fin 4} {i : Nat} {x : Int32} (hd : decode cc pc = .ok (.istore_n kk, 1)) (hi : (kk : Nat) = i) (hn : i < n) (hl1 : (i, Value.int x) :: lv.filter (fun q => !(q.1 == i) && !(q.1 + 1 == i && q.2.category == 2)) = lv') (k : WW p l e R s m args below meth c D n A cells slots Q (pc + 1) lv' st ws) : WW p l e R s m args below meth c D n A cells slots Q pc lv (.int x :: st) ws := fun H locs ls hP hD hS hl => lv_istore_n C.1 C.2.1 hd hi hl hn hl1 (fun ls2 hl2 => k H locs ls2 hP hD hS hl2)
theorem q_istore (C : CX p l s m args meth c cc n own Ts ret D cI cJ cN A) {i : Nat} {x : Int32} (hd : decode cc pc = .ok (.istore i, 2)) (hn : i < n) (hl1 : (i, Value.int x) :: lv.filter (fun q => !(q.1 == i) && !(q.1 + 1 == i && q.2.category == 2)) = lv') (k : WW p l e R s m args below meth c D n A cells slots Q (pc + 2) lv' st ws) : WW p l e R s m args below meth c D n A cells slots Q pc lv (.int x :: st) ws := fun H locs ls hP hD hS hl => lv_istore C.1 C.2.1 hd hl hn hl1 (fun ls2 hl2 => k H locs ls2 hP hD hS hl2)
theorem q_lstore_n (C : CX p l s m args meth c cc n own Ts ret D cI cJ cN A) {kk : Fin 4} {i : Nat} {x : Int64} (hd : decode cc pc = .ok (.lstore_n kk, 1)) (hi : (kk : Nat) = i) (hn : i + 1 < n) (hl1 : (i, Value.long x) :: lv.filter (fun q => !(q.1 == i) && (!(q.1 == i + 1) && !(q.1 + 1 == i && q.2.category == 2))) = lv') (k : WW p l e R s m args below meth c D n A cells slots Q (pc + 1) lv' st ws) : WW p l e R s m args below meth c D n A cells slots Q pc lv (.long x :: st) ws := fun H locs ls hP hD hS hl => lv_lstore_n C.1 C.2.1 hd hi hl hn hl1 (fun ls2 hl2 => k H locs ls2 hP hD hS hl2)
theorem q_lstore (C : CX p l s m args meth c cc n own Ts ret D cI cJ cN A) {i : Nat} {x : Int64} (hd : decode cc pc = .ok (.lstore i, 2)) (hn : i + 1 < n) (hl1 : (i, Value.long x) :: lv.filter (fun q => !(q.1 == i) && (!(q.1 == i + 1) && !(q.1 + 1 == i && q.2.category == 2))) = lv') (k : WW p l e R s m args below meth c D n A cells slots Q (pc + 2) lv' st ws) : WW p l e R s m args below meth c D n A cells slots Q pc lv (.long x :: st) ws := fun H locs ls hP hD hS hl => lv_lstore C.1 C.2.1 hd hl hn hl1 (fun ls2 hl2 => k H locs ls2 hP hD hS hl2)
theorem q_astore_n (C : CX p l s m args meth c cc n own Ts ret D cI cJ cN A) {kk : Fin 4} {i : Nat} {x : Nat} (hd : decode cc pc = .ok (.astore_n kk, 1)) (hi : (kk : Nat) = i) (hn : i < n) (hl1 : (i, Value.ref x) :: lv.filter (fun q => !(q.1 == i) && !(q.1 + 1 == i && q.2.category == 2)) = lv') (k : WW p l e R s m args below meth c D n A cells slots Q (pc + 1) lv' st ws) : WW p l e R s m args below meth c D n A cells slots Q pc lv (.ref x :: st) ws := fun H locs ls hP hD hS hl => lv_astore_n C.1 C.2.1 hd hi hl hn hl1 (fun ls2 hl2 => k H locs ls2 hP hD hS hl2)
theorem q_astore (C : CX p l s m args meth c cc n own Ts ret D cI cJ cN A) {i : Nat} {x : Nat} (hd : decode cc pc = .ok (.astore i, 2)) (hn : i < n) (hl1 : (i, Value.ref x) :: lv.filter (fun q => !(q.1 == i) && !(q.1 + 1 == i && q.2.category == 2)) = lv') (k : WW p l e R s m args below meth c D n A cells slots Q (pc + 2) lv' st ws) : WW p l e R s m args below meth c D n A cells slots Q pc lv (.ref x :: st) ws := fun H locs ls hP hD hS hl => lv_astore C.1 C.2.1 hd hl hn hl1 (fun ls2 hl2 => k H locs ls2 hP hD hS hl2)
theorem q_iinc (C : CX p l s m args meth c cc n own Ts ret D cI cJ cN A) {i : Nat} {k0 : Int} {x v : Int32} (hd : decode cc pc = .ok (.iinc i k0, 3)) (q : Nat) (hq : lv[q]? = some (i, .int x)) (hv : x + Int32.ofInt k0 = v) (hn : i < n) (hl1 : (i, Value.int v) :: lv.filter (fun q => !(q.1 == i) && !(q.1 + 1 == i && q.2.category == 2)) = lv') (k : WW p l e R s m args below meth c D n A cells slots Q (pc + 3) lv' st ws) : WW p l e R s m args below meth c D n A cells slots Q pc lv st ws := fun H locs ls hP hD hS hl => lv_iinc C.1 C.2.1 hd hl hq hv hn hl1 (fun ls2 hl2 => k H locs ls2 hP hD hS hl2)
theorem q_sub (ks : List Nat) (h : lv_pick lv ks = lv') (k : WW p l e R s m args below meth c D n A cells slots Q pc lv' st ws) : WW p l e R s m args below meth c D n A cells slots Q pc lv st ws := fun H locs ls hP hD hS hl => k H locs ls hP hD hS (lv_sub hl ks h)
theorem q_world (h : ws = ws') (k : WW p l e R s m args below meth c D n A cells slots Q pc lv st ws') : WW p l e R s m args below meth c D n A cells slots Q pc lv st ws := h ▸ k
theorem q_widen {k0 n0 : Nat} (h1 : cells ≤ k0) (h2 : slots ≤ n0) (k : WW p l e R s m args below meth c D n A k0 n0 Q pc lv st ws) : WW p l e R s m args below meth c D n A cells slots Q pc lv st ws := fun H locs ls hP hD hS hl => W.widen h1 h2 (k H locs ls hP hD hS hl)
theorem q_if_eq (C : CX p l s m args meth c cc n own Ts ret D cI cJ cN A) {x : Int32} {off : Int} (tgt : Nat) (hd : decode cc pc = .ok (.ifCond .eq off, 3)) (ht : (pc : Int) + off = (tgt : Int)) (kt : x = 0 → WW p l e R s m args below meth c D n A cells slots Q tgt lv st ws) (kf : ¬ x = 0 → WW p l e R s m args below meth c D n A cells slots Q (pc + 3) lv st ws) : WW p l e R s m args below meth c D n A cells slots Q pc lv (.int x :: st) ws := fun H locs ls hP hD hS hl => lv_if_eq C.1 C.2.1 hd ht (fun h => kt h H locs ls hP hD hS hl) (fun h => kf h H locs ls hP hD hS hl)
theorem q_if_ne (C : CX p l s m args meth c cc n own Ts ret D cI cJ cN A) {x : Int32} {off : Int} (tgt : Nat) (hd : decode cc pc = .ok (.ifCond .ne off, 3)) (ht : (pc : Int) + off = (tgt : Int)) (kt : ¬ x = 0 → WW p l e R s m args below meth c D n A cells slots Q tgt lv st ws) (kf : x = 0 → WW p l e R s m args below meth c D n A cells slots Q (pc + 3) lv st ws) : WW p l e R s m args below meth c D n A cells slots Q pc lv (.int x :: st) ws := fun H locs ls hP hD hS hl => lv_if_ne C.1 C.2.1 hd ht (fun h => kt h H locs ls hP hD hS hl) (fun h => kf h H locs ls hP hD hS hl)
theorem q_if_lt (C : CX p l s m args meth c cc n own Ts ret D cI cJ cN A) {x : Int32} {off : Int} (tgt : Nat) (hd : decode cc pc = .ok (.ifCond .lt off, 3)) (ht : (pc : Int) + off = (tgt : Int)) (kt : x < 0 → WW p l e R s m args below meth c D n A cells slots Q tgt lv st ws) (kf : ¬ x < 0 → WW p l e R s m args below meth c D n A cells slots Q (pc + 3) lv st ws) : WW p l e R s m args below meth c D n A cells slots Q pc lv (.int x :: st) ws := fun H locs ls hP hD hS hl => lv_if_lt C.1 C.2.1 hd ht (fun h => kt h H locs ls hP hD hS hl) (fun h => kf h H locs ls hP hD hS hl)
theorem q_if_ge (C : CX p l s m args meth c cc n own Ts ret D cI cJ cN A) {x : Int32} {off : Int} (tgt : Nat) (hd : decode cc pc = .ok (.ifCond .ge off, 3)) (ht : (pc : Int) + off = (tgt : Int)) (kt : 0 ≤ x → WW p l e R s m args below meth c D n A cells slots Q tgt lv st ws) (kf : ¬ 0 ≤ x → WW p l e R s m args below meth c D n A cells slots Q (pc + 3) lv st ws) : WW p l e R s m args below meth c D n A cells slots Q pc lv (.int x :: st) ws := fun H locs ls hP hD hS hl => lv_if_ge C.1 C.2.1 hd ht (fun h => kt h H locs ls hP hD hS hl) (fun h => kf h H locs ls hP hD hS hl)
theorem q_if_gt (C : CX p l s m args meth c cc n own Ts ret D cI cJ cN A) {x : Int32} {off : Int} (tgt : Nat) (hd : decode cc pc = .ok (.ifCond .gt off, 3)) (ht : (pc : Int) + off = (tgt : Int)) (kt : 0 < x → WW p l e R s m args below meth c D n A cells slots Q tgt lv st ws) (kf : ¬ 0 < x → WW p l e R s m args below meth c D n A cells slots Q (pc + 3) lv st ws) : WW p l e R s m args below meth c D n A cells slots Q pc lv (.int x :: st) ws := fun H locs ls hP hD hS hl => lv_if_gt C.1 C.2.1 hd ht (fun h => kt h H locs ls hP hD hS hl) (fun h => kf h H locs ls hP hD hS hl)
theorem q_if_le (C : CX p l s m args meth c cc n own Ts ret D cI cJ cN A) {x : Int32} {off : Int} (tgt : Nat) (hd : decode cc pc = .ok (.ifCond .le off, 3)) (ht : (pc : Int) + off = (tgt : Int)) (kt : x ≤ 0 → WW p l e R s m args below meth c D n A cells slots Q tgt lv st ws) (kf : ¬ x ≤ 0 → WW p l e R s m args below meth c D n A cells slots Q (pc + 3) lv st ws) : WW p l e R s m args below meth c D n A cells slots Q pc lv (.int x :: st) ws := fun H locs ls hP hD hS hl => lv_if_le C.1 C.2.1 hd ht (fun h => kt h H locs ls hP hD hS hl) (fun h => kf h H locs ls hP hD hS hl)
theorem q_icmp_eq (C : CX p l s m args meth c cc n own Ts ret D cI cJ cN A) {x y : Int32} {off : Int} (tgt : Nat) (hd : decode cc pc = .ok (.if_icmp .eq off, 3)) (ht : (pc : Int) + off = (tgt : Int)) (kt : x = y → WW p l e R s m args below meth c D n A cells slots Q tgt lv st ws) (kf : ¬ x = y → WW p l e R s m args below meth c D n A cells slots Q (pc + 3) lv st ws) : WW p l e R s m args below meth c D n A cells slots Q pc lv (.int y :: .int x :: st) ws := fun H locs ls hP hD hS hl => lv_icmp_eq C.1 C.2.1 hd ht (fun h => kt h H locs ls hP hD hS hl) (fun h => kf h H locs ls hP hD hS hl)
theorem q_icmp_ne (C : CX p l s m args meth c cc n own Ts ret D cI cJ cN A) {x y : Int32} {off : Int} (tgt : Nat) (hd : decode cc pc = .ok (.if_icmp .ne off, 3)) (ht : (pc : Int) + off = (tgt : Int)) (kt : ¬ x = y → WW p l e R s m args below meth c D n A cells slots Q tgt lv st ws) (kf : x = y → WW p l e R s m args below meth c D n A cells slots Q (pc + 3) lv st ws) : WW p l e R s m args below meth c D n A cells slots Q pc lv (.int y :: .int x :: st) ws := fun H locs ls hP hD hS hl => lv_icmp_ne C.1 C.2.1 hd ht (fun h => kt h H locs ls hP hD hS hl) (fun h => kf h H locs ls hP hD hS hl)
theorem q_icmp_lt (C : CX p l s m args meth c cc n own Ts ret D cI cJ cN A) {x y : Int32} {off : Int} (tgt : Nat) (hd : decode cc pc = .ok (.if_icmp .lt off, 3)) (ht : (pc : Int) + off = (tgt : Int)) (kt : x < y → WW p l e R s m args below meth c D n A cells slots Q tgt lv st ws) (kf : ¬ x < y → WW p l e R s m args below meth c D n A cells slots Q (pc + 3) lv st ws) : WW p l e R s m args below meth c D n A cells slots Q pc lv (.int y :: .int x :: st) ws := fun H locs ls hP hD hS hl => lv_icmp_lt C.1 C.2.1 hd ht (fun h => kt h H locs ls hP hD hS hl) (fun h => kf h H locs ls hP hD hS hl)
theorem q_icmp_ge (C : CX p l s m args meth c cc n own Ts ret D cI cJ cN A) {x y : Int32} {off : Int} (tgt : Nat) (hd : decode cc pc = .ok (.if_icmp .ge off, 3)) (ht : (pc : Int) + off = (tgt : Int)) (kt : y ≤ x → WW p l e R s m args below meth c D n A cells slots Q tgt lv st ws) (kf : ¬ y ≤ x → WW p l e R s m args below meth c D n A cells slots Q (pc + 3) lv st ws) : WW p l e R s m args below meth c D n A cells slots Q pc lv (.int y :: .int x :: st) ws := fun H locs ls hP hD hS hl => lv_icmp_ge C.1 C.2.1 hd ht (fun h => kt h H locs ls hP hD hS hl) (fun h => kf h H locs ls hP hD hS hl)
theorem q_icmp_gt (C : CX p l s m args meth c cc n own Ts ret D cI cJ cN A) {x y : Int32} {off : Int} (tgt : Nat) (hd : decode cc pc = .ok (.if_icmp .gt off, 3)) (ht : (pc : Int) + off = (tgt : Int)) (kt : y < x → WW p l e R s m args below meth c D n A cells slots Q tgt lv st ws) (kf : ¬ y < x → WW p l e R s m args below meth c D n A cells slots Q (pc + 3) lv st ws) : WW p l e R s m args below meth c D n A cells slots Q pc lv (.int y :: .int x :: st) ws := fun H locs ls hP hD hS hl => lv_icmp_gt C.1 C.2.1 hd ht (fun h => kt h H locs ls hP hD hS hl) (fun h => kf h H locs ls hP hD hS hl)
theorem q_icmp_le (C : CX p l s m args meth c cc n own Ts ret D cI cJ cN A) {x y : Int32} {off : Int} (tgt : Nat) (hd : decode cc pc = .ok (.if_icmp .le off, 3)) (ht : (pc : Int) + off = (tgt : Int)) (kt : x ≤ y → WW p l e R s m args below meth c D n A cells slots Q tgt lv st ws) (kf : ¬ x ≤ y → WW p l e R s m args below meth c D n A cells slots Q (pc + 3) lv st ws) : WW p l e R s m args below meth c D n A cells slots Q pc lv (.int y :: .int x :: st) ws := fun H locs ls hP hD hS hl => lv_icmp_le C.1 C.2.1 hd ht (fun h => kt h H locs ls hP hD hS hl) (fun h => kf h H locs ls hP hD hS hl)
theorem q_goto (C : CX p l s m args meth c cc n own Ts ret D cI cJ cN A) {off : Int} (tgt : Nat) (hd : decode cc pc = .ok (.goto off, 3)) (ht : (pc : Int) + off = (tgt : Int)) (k : WW p l e R s m args below meth c D n A cells slots Q tgt lv st ws) : WW p l e R s m args below meth c D n A cells slots Q pc lv st ws := fun H locs ls hP hD hS hl => lv_goto C.1 C.2.1 hd ht (k H locs ls hP hD hS hl)
theorem q_tableOut (C : CX p l s m args meth c cc n own Ts ret D cI cJ cN A) {dflt lo hi : Int} {offs : Array Int} {len : Nat} {x : Int32} (tgt : Nat) (hd : decode cc pc = .ok (.tableswitch dflt lo hi offs, len)) (h : x.toInt < lo ∨ hi < x.toInt) (ht : (pc : Int) + dflt = (tgt : Int)) (k : WW p l e R s m args below meth c D n A cells slots Q tgt lv st ws) : WW p l e R s m args below meth c D n A cells slots Q pc lv (.int x :: st) ws := fun H locs ls hP hD hS hl => lv_tableOut C.1 C.2.1 hd h ht (k H locs ls hP hD hS hl)
theorem q_tableIn (C : CX p l s m args meth c cc n own Ts ret D cI cJ cN A) {dflt lo hi : Int} {offs : Array Int} {len : Nat} {x : Int32} {off : Int} (tgt : Nat) (hd : decode cc pc = .ok (.tableswitch dflt lo hi offs, len)) (h1 : ¬ x.toInt < lo) (h2 : ¬ hi < x.toInt) (ho : offs[(x.toInt - lo).toNat]? = some off) (ht : (pc : Int) + off = (tgt : Int)) (k : WW p l e R s m args below meth c D n A cells slots Q tgt lv st ws) : WW p l e R s m args below meth c D n A cells slots Q pc lv (.int x :: st) ws := fun H locs ls hP hD hS hl => lv_tableIn C.1 C.2.1 hd h1 h2 ho ht (k H locs ls hP hD hS hl)
theorem q_lookup (C : CX p l s m args meth c cc n own Ts ret D cI cJ cN A) {dflt : Int} {ps : Array (Int × Int)} {len : Nat} {x : Int32} {off : Int} (tgt : Nat) (hd : decode cc pc = .ok (.lookupswitch dflt ps, len)) (hp : (ps.toList.zip (ps.toList.drop 1)).all (fun (a, next) => a.1 < next.1) = true) (ho : Op.lookupswitch.offset ps.toList dflt x.toInt = off) (ht : (pc : Int) + off = (tgt : Int)) (k : WW p l e R s m args below meth c D n A cells slots Q tgt lv st ws) : WW p l e R s m args below meth c D n A cells slots Q pc lv (.int x :: st) ws := fun H locs ls hP hD hS hl => lv_lookup C.1 C.2.1 hd hp ho ht (k H locs ls hP hD hS hl)
theorem q_iald (C : CX p l s m args meth c cc n own Ts ret D cI cJ cN A) (q0 : Nat) {a n0 : Nat} {f : Nat → Int32} (ha : ws[q0]? = some (a, .inl (cI, n0, .inl f))) {i : Int32} (hin : inB i n0 = true) (hd : decode cc pc = .ok (.iaload, 1)) (k : WW p l e R s m args below meth c D n A cells slots Q (pc + 1) lv (.int (f i.toNatClampNeg) :: st) ws) : WW p l e R s m args below meth c D n A cells slots Q pc lv (.int i :: .ref a :: st) ws := fun H locs ls hP hD hS hl => va_iald C.1 C.2.1 C.2.2.2.2.2.1 hP q0 0 ha rfl (inB_in hin) hd (k H locs ls hP hD hS hl)
theorem q_lald (C : CX p l s m args meth c cc n own Ts ret D cI cJ cN A) (q0 : Nat) {a n0 : Nat} {f : Nat → Int64} (ha : ws[q0]? = some (a, .inl (cJ, n0, .inr (.inl f)))) {i : Int32} (hin : inB i n0 = true) (hd : decode cc pc = .ok (.laload, 1)) (k : WW p l e R s m args below meth c D n A cells slots Q (pc + 1) lv (.long (f i.toNatClampNeg) :: st) ws) : WW p l e R s m args below meth c D n A cells slots Q pc lv (.int i :: .ref a :: st) ws := fun H locs ls hP hD hS hl => va_lald C.1 C.2.1 C.2.2.2.2.2.1 hP q0 1 ha rfl (inB_in hin) hd (k H locs ls hP hD hS hl)
theorem q_aaldS (C : CX p l s m args meth c cc n own Ts ret D cI cJ cN A) (q0 : Nat) {a n0 r : Nat} {f : Nat → Option Nat} (ha : ws[q0]? = some (a, .inl (cN, n0, .inr (.inr (.inr (.inr f)))))) {i : Int32} (hin : inB i n0 = true) (hf : f i.toNatClampNeg = some r) (hd : decode cc pc = .ok (.aaload, 1)) (k : WW p l e R s m args below meth c D n A cells slots Q (pc + 1) lv (.ref r :: st) ws) : WW p l e R s m args below meth c D n A cells slots Q pc lv (.int i :: .ref a :: st) ws := fun H locs ls hP hD hS hl => va_aldq C.1 C.2.1 C.2.2.2.2.2.1 hP q0 2 ha rfl (inB_in hin) hd (by rw [hf]; exact k H locs ls hP hD hS hl)
theorem q_aaldN (C : CX p l s m args meth c cc n own Ts ret D cI cJ cN A) (q0 : Nat) {a n0 : Nat} {f : Nat → Option Nat} (ha : ws[q0]? = some (a, .inl (cN, n0, .inr (.inr (.inr (.inr f)))))) {i : Int32} (hin : inB i n0 = true) (hf : f i.toNatClampNeg = none) (hd : decode cc pc = .ok (.aaload, 1)) (k : WW p l e R s m args below meth c D n A cells slots Q (pc + 1) lv (.null :: st) ws) : WW p l e R s m args below meth c D n A cells slots Q pc lv (.int i :: .ref a :: st) ws := fun H locs ls hP hD hS hl => va_aldq C.1 C.2.1 C.2.2.2.2.2.1 hP q0 2 ha rfl (inB_in hin) hd (by rw [hf]; exact k H locs ls hP hD hS hl)
theorem q_iast (C : CX p l s m args meth c cc n own Ts ret D cI cJ cN A) (q0 : Nat) {a n0 : Nat} {f : Nat → Int32} (ha : ws[q0]? = some (a, .inl (cI, n0, .inl f))) {i x : Int32} (hin : inB i n0 = true) (hd : decode cc pc = .ok (.iastore, 1)) (hs : ws.set q0 (a, .inl (cI, n0, .inl (upd f i.toNatClampNeg x))) = ws') (k : WW p l e R s m args below meth c D n A cells slots Q (pc + 1) lv st ws') : WW p l e R s m args below meth c D n A cells slots Q pc lv (.int x :: .int i :: .ref a :: st) ws := fun H locs ls hP hD hS hl => va_iast C.1 C.2.1 C.2.2.2.2.2.1 hP hD hS q0 0 ha rfl (inB_in hin) hd (fun H1 locs1 hP hD hS => k H1 locs1 ls (hs ▸ hP) (hs ▸ hD) hS hl)
theorem q_last (C : CX p l s m args meth c cc n own Ts ret D cI cJ cN A) (q0 : Nat) {a n0 : Nat} {f : Nat → Int64} (ha : ws[q0]? = some (a, .inl (cJ, n0, .inr (.inl f)))) {i : Int32} {x : Int64} (hin : inB i n0 = true) (hd : decode cc pc = .ok (.lastore, 1)) (hs : ws.set q0 (a, .inl (cJ, n0, .inr (.inl (vp_updL f i.toNatClampNeg x)))) = ws') (k : WW p l e R s m args below meth c D n A cells slots Q (pc + 1) lv st ws') : WW p l e R s m args below meth c D n A cells slots Q pc lv (.long x :: .int i :: .ref a :: st) ws := fun H locs ls hP hD hS hl => va_last C.1 C.2.1 C.2.2.2.2.2.1 hP hD hS q0 1 ha rfl (inB_in hin) hd (fun H1 locs1 hP hD hS => k H1 locs1 ls (hs ▸ hP) (hs ▸ hD) hS hl)
theorem q_alenI (C : CX p l s m args meth c cc n own Ts ret D cI cJ cN A) (q0 : Nat) {a n0 : Nat} {f : Nat → Int32} (ha : ws[q0]? = some (a, .inl (cI, n0, .inl f))) (hd : decode cc pc = .ok (.arraylength, 1)) (k : WW p l e R s m args below meth c D n A cells slots Q (pc + 1) lv (.int (nI n0) :: st) ws) : WW p l e R s m args below meth c D n A cells slots Q pc lv (.ref a :: st) ws := fun H locs ls hP hD hS hl => va_alen C.1 C.2.1 C.2.2.2.2.2.1 hP q0 0 ha rfl rfl hd (k H locs ls hP hD hS hl)
theorem q_alenJ (C : CX p l s m args meth c cc n own Ts ret D cI cJ cN A) (q0 : Nat) {a n0 : Nat} {f : Nat → Int64} (ha : ws[q0]? = some (a, .inl (cJ, n0, .inr (.inl f)))) (hd : decode cc pc = .ok (.arraylength, 1)) (k : WW p l e R s m args below meth c D n A cells slots Q (pc + 1) lv (.int (nI n0) :: st) ws) : WW p l e R s m args below meth c D n A cells slots Q pc lv (.ref a :: st) ws := fun H locs ls hP hD hS hl => va_alen C.1 C.2.1 C.2.2.2.2.2.1 hP q0 1 ha rfl rfl hd (k H locs ls hP hD hS hl)
theorem q_alenN (C : CX p l s m args meth c cc n own Ts ret D cI cJ cN A) (q0 : Nat) {a n0 : Nat} {f : Nat → Option Nat} (ha : ws[q0]? = some (a, .inl (cN, n0, .inr (.inr (.inr (.inr f)))))) (hd : decode cc pc = .ok (.arraylength, 1)) (k : WW p l e R s m args below meth c D n A cells slots Q (pc + 1) lv (.int (nI n0) :: st) ws) : WW p l e R s m args below meth c D n A cells slots Q pc lv (.ref a :: st) ws := fun H locs ls hP hD hS hl => va_alen C.1 C.2.1 C.2.2.2.2.2.1 hP q0 2 ha rfl rfl hd (k H locs ls hP hD hS hl)
theorem q_get (C : CX p l s m args meth c cc n own Ts ret D cI cJ cN A) {Cn : String} {T : u_T} {N ci index : Nat} (hin : ∀ w ∈ u_ws Cn T N, w ∈ Ts) (q0 : Nat) {a : Nat} {fs : List Value} (he : ws[q0]? = some (a, .inr (ci, fs))) (hc : vwCl[ci]? = some (Cn, T, N)) (k0 : Nat) (hk : k0 < N) {ref : String} (hlink : Cond.fieldLink own index ref (T k0).2.1 (T k0).2.2.1 ∈ Ts) (hsame : (T k0).1 = ref) {v : Value} (hv : fs[k0]? = some v) (hd : decode cc pc = .ok (.getfield index, 3)) (k : WW p l e R s m args below meth c D n A cells slots Q (pc + 3) lv (v :: st) ws) : WW p l e R s m args below meth c D n A cells slots Q pc lv (.ref a :: st) ws := fun H locs ls hP hD hS hl => va_get C.1 C.2.1 C.2.2.2.2.1 hin C.2.2.2.1 C.2.2.2.2.2.1 hP q0 he hc k0 hk (C.2.2.2.2.1 _ hlink) (fun _ h9 => hsame ▸ h9) hv hd (k H locs ls hP hD hS hl)
theorem q_put (C : CX p l s m args meth c cc n own Ts ret D cI cJ cN A) {Cn : String} {T : u_T} {N ci index : Nat} (hin : ∀ w ∈ u_ws Cn T N, w ∈ Ts) (ty0 : Nat → FieldType) (hty : ∀ k, k < N → parseFieldDescriptor (T k).2.2.1 = some (ty0 k)) (hnm : ∀ a, a < N → ∀ b, b < N → a ≠ b → (T a).2.1 ≠ (T b).2.1) (q0 : Nat) {a : Nat} {fs : List Value} (he : ws[q0]? = some (a, .inr (ci, fs))) (hc : vwCl[ci]? = some (Cn, T, N)) (k0 : Nat) (hk : k0 < N) {ref : String} (hlink : Cond.fieldLink own index ref (T k0).2.1 (T k0).2.2.1 ∈ Ts) (hsame : (T k0).1 = ref) (hfin : (T k0).2.2.2 = false)  {ty : FieldType} {v : Value} (hdd : parseFieldDescriptor (T k0).2.2.1 = some ty) (hn : narrow ty v = v) (hfit : fits ty v = true) (hl0 : k0 < fs.length) (hd : decode cc pc = .ok (.putfield index, 3)) (hs : ws.set q0 (a, .inr (ci, fs.set k0 v)) = ws') (k : WW p l e R s m args below meth c D n A cells slots Q (pc + 3) lv st ws') : WW p l e R s m args below meth c D n A cells slots Q pc lv (v :: .ref a :: st) ws := fun H locs ls hP hD hS hl => va_put C.1 C.2.1 C.2.2.2.2.1 hin ty0 hty hnm C.2.2.2.1 C.2.2.2.2.2.1 hP hD hS q0 he hc k0 hk (C.2.2.2.2.1 _ hlink) (fun _ h9 => hsame ▸ h9) hfin  hdd hn hfit hl0 hd (fun H1 locs1 hP hD hS => k H1 locs1 ls (hs ▸ hP) (hs ▸ hD) hS hl)
theorem q_putF (C : CX p l s m args meth c cc n own Ts ret D cI cJ cN A) {Cn : String} {T : u_T} {N ci index : Nat} (hin : ∀ w ∈ u_ws Cn T N, w ∈ Ts) (ty0 : Nat → FieldType) (hty : ∀ k, k < N → parseFieldDescriptor (T k).2.2.1 = some (ty0 k)) (hnm : ∀ a, a < N → ∀ b, b < N → a ≠ b → (T a).2.1 ≠ (T b).2.1) (q0 : Nat) {a : Nat} {fs : List Value} (he : ws[q0]? = some (a, .inr (ci, fs))) (hc : vwCl[ci]? = some (Cn, T, N)) (k0 : Nat) (hk : k0 < N) {ref : String} (hlink : Cond.fieldLink own index ref (T k0).2.1 (T k0).2.2.1 ∈ Ts) (hsame : (T k0).1 = ref) (hfin : (T k0).2.2.2 = true) (hin2 : meth.name = "<init>") (hdecl : (T k0).1 = own) {ty : FieldType} {v : Value} (hdd : parseFieldDescriptor (T k0).2.2.1 = some ty) (hn : narrow ty v = v) (hfit : fits ty v = true) (hl0 : k0 < fs.length) (hd : decode cc pc = .ok (.putfield index, 3)) (hs : ws.set q0 (a, .inr (ci, fs.set k0 v)) = ws') (k : WW p l e R s m args below meth c D n A cells slots Q (pc + 3) lv st ws') : WW p l e R s m args below meth c D n A cells slots Q pc lv (v :: .ref a :: st) ws := fun H locs ls hP hD hS hl => va_putF C.1 C.2.1 C.2.2.2.2.1 hin ty0 hty hnm C.2.2.2.1 C.2.2.2.2.2.1 hP hD hS q0 he hc k0 hk (C.2.2.2.2.1 _ hlink) (fun _ h9 => hsame ▸ h9) hfin hin2 hdecl hdd hn hfit hl0 hd (fun H1 locs1 hP hD hS => k H1 locs1 ls (hs ▸ hP) (hs ▸ hD) hS hl)
theorem q_iret {W0 : va_W} (C : CX p l s m args meth c cc n own Ts (some .int) D cI cJ cN (va_A W0 s.heap.size)) {rm : Room} {P1 : va_W → Prop} {v : Int32}  (h1 : cells ≤ rm.cells) (h2 : slots ≤ rm.slots) (hp : P1 ws) (hd : decode cc pc = .ok (.ireturn, 1)) : WW p l e R s m args below meth c D n (va_A W0 s.heap.size) cells slots (QI below args s D W0 rm v P1) pc lv [.int v] ws := fun H locs ls hP hD hS hl => W.widen h1 h2 (W.iret C.1 C.2.1 C.2.2.2.2.2.2.2.2.1  (fun t ht hW => ⟨⟨v, (), rfl, rfl, ws, hp, by rw [ht]; exact hP, hD⟩, hS.F ht⟩) hS.2.2 hd C.2.2.2.2.2.2.2.2.2)
theorem q_zret {W0 : va_W} (C : CX p l s m args meth c cc n own Ts (some .boolean) D cI cJ cN (va_A W0 s.heap.size)) {rm : Room} {P1 : va_W → Prop} {v : Int32} (hn : narrow .boolean (.int v) = .int v) (h1 : cells ≤ rm.cells) (h2 : slots ≤ rm.slots) (hp : P1 ws) (hd : decode cc pc = .ok (.ireturn, 1)) : WW p l e R s m args below meth c D n (va_A W0 s.heap.size) cells slots (QI below args s D W0 rm v P1) pc lv [.int v] ws := fun H locs ls hP hD hS hl => W.widen h1 h2 (W.zret C.1 C.2.1 C.2.2.2.2.2.2.2.2.1 hn (fun t ht hW => ⟨⟨v, (), rfl, rfl, ws, hp, by rw [ht]; exact hP, hD⟩, hS.F ht⟩) hS.2.2 hd C.2.2.2.2.2.2.2.2.2)
theorem q_lret {W0 : va_W} (C : CX p l s m args meth c cc n own Ts (some .long) D cI cJ cN (va_A W0 s.heap.size)) {rm : Room} {P1 : va_W → Prop} {v : Int64}  (h1 : cells ≤ rm.cells) (h2 : slots ≤ rm.slots) (hp : P1 ws) (hd : decode cc pc = .ok (.lreturn, 1)) : WW p l e R s m args below meth c D n (va_A W0 s.heap.size) cells slots (QL below args s D W0 rm v P1) pc lv [.long v] ws := fun H locs ls hP hD hS hl => W.widen h1 h2 (W.lret C.1 C.2.1 C.2.2.2.2.2.2.2.2.1  (fun t ht hW => ⟨⟨v, (), rfl, rfl, ws, hp, by rw [ht]; exact hP, hD⟩, hS.F ht⟩) hS.2.2 hd C.2.2.2.2.2.2.2.2.2)
theorem q_fret {W0 : va_W} (C : CX p l s m args meth c cc n own Ts (some .float) D cI cJ cN (va_A W0 s.heap.size)) {rm : Room} {P1 : va_W → Prop} {v : UInt32}  (h1 : cells ≤ rm.cells) (h2 : slots ≤ rm.slots) (hp : P1 ws) (hd : decode cc pc = .ok (.freturn, 1)) : WW p l e R s m args below meth c D n (va_A W0 s.heap.size) cells slots (QF below args s D W0 rm v P1) pc lv [.float v] ws := fun H locs ls hP hD hS hl => W.widen h1 h2 (W.fret C.1 C.2.1 C.2.2.2.2.2.2.2.2.1  (fun t ht hW => ⟨⟨v, (), rfl, rfl, ws, hp, by rw [ht]; exact hP, hD⟩, hS.F ht⟩) hS.2.2 hd C.2.2.2.2.2.2.2.2.2)
theorem q_vret {W0 : va_W} (C : CX p l s m args meth c cc n own Ts (none) D cI cJ cN (va_A W0 s.heap.size)) {rm : Room} {P1 : va_W → Prop}   (h1 : cells ≤ rm.cells) (h2 : slots ≤ rm.slots) (hp : P1 ws) (hd : decode cc pc = .ok (.return_, 1)) : WW p l e R s m args below meth c D n (va_A W0 s.heap.size) cells slots (QV below args s D W0 rm P1) pc lv [] ws := fun H locs ls hP hD hS hl => W.widen h1 h2 (W.vret C.1 C.2.1 C.2.2.2.2.2.2.2.2.1  (fun t ht hW => ⟨⟨(), rfl, trivial, ws, hp, by rw [ht]; exact hP, hD⟩, hS.F ht⟩) hS.2.2 hd C.2.2.2.2.2.2.2.2.2)
theorem q_startI {rm : Room} {y : MethodName} {av : List Value} {W0 : va_W} {r : Int32} {P1 : va_W → Prop} (hy : plainName y.cls = true) (hlv : lv_args 0 av = lv) (hn : (lg_sl av).length ≤ n) (body : ∀ (p : Program) (e : Env) (s : State) (m : MethodId) (below : List Frame) (meth : Method) (c : Code), CX p l s m av.toArray meth c cc n y.cls (WS y cc n ret) ret D cI cJ cN (va_A W0 s.heap.size) → (y.name = "<init>" → meth.name = "<init>") → WW p l e rm s m av.toArray below meth c D n (va_A W0 s.heap.size) 0 0 (QI below av.toArray s D W0 rm r P1) 0 lv [] W0) : MI l D cI cJ cN y (WS y cc n ret) rm av W0 r P1 := by
  intro sz
  refine Met.ofW (cc := cc) (maxL := n) (ret := ret) hy rfl ?_
  intro p e s m args below meth c s₁ B hml hv
  obtain ⟨rfl, hsz, hP, hK, hN, hD⟩ := hv
  subst hsz
  have hts := atoms_spec (ws := WS y cc n ret) B.pre
  have C : CX p l s m av.toArray meth c cc n y.cls (WS y cc n ret) ret D cI cJ cN (va_A W0 s.heap.size) := ⟨B.exec, B.bytes, hml, findClass_of_methodNamed B.named, hts, hK, hN, fun q h => Or.inr h, B.returns, B.notSynchronized⟩
  rw [lg_entry_eq]
  exact body p e s m below meth c C (fun h => (name_of_methodNamed B.named B.method).1.trans h) s.heap [] _ hP hD.self va_S.rf (hlv ▸ lv_entry av hn)
theorem q_startL {rm : Room} {y : MethodName} {av : List Value} {W0 : va_W} {r : Int64} {P1 : va_W → Prop} (hy : plainName y.cls = true) (hlv : lv_args 0 av = lv) (hn : (lg_sl av).length ≤ n) (body : ∀ (p : Program) (e : Env) (s : State) (m : MethodId) (below : List Frame) (meth : Method) (c : Code), CX p l s m av.toArray meth c cc n y.cls (WS y cc n ret) ret D cI cJ cN (va_A W0 s.heap.size) → (y.name = "<init>" → meth.name = "<init>") → WW p l e rm s m av.toArray below meth c D n (va_A W0 s.heap.size) 0 0 (QL below av.toArray s D W0 rm r P1) 0 lv [] W0) : ML l D cI cJ cN y (WS y cc n ret) rm av W0 r P1 := by
  intro sz
  refine Met.ofW (cc := cc) (maxL := n) (ret := ret) hy rfl ?_
  intro p e s m args below meth c s₁ B hml hv
  obtain ⟨rfl, hsz, hP, hK, hN, hD⟩ := hv
  subst hsz
  have hts := atoms_spec (ws := WS y cc n ret) B.pre
  have C : CX p l s m av.toArray meth c cc n y.cls (WS y cc n ret) ret D cI cJ cN (va_A W0 s.heap.size) := ⟨B.exec, B.bytes, hml, findClass_of_methodNamed B.named, hts, hK, hN, fun q h => Or.inr h, B.returns, B.notSynchronized⟩
  rw [lg_entry_eq]
  exact body p e s m below meth c C (fun h => (name_of_methodNamed B.named B.method).1.trans h) s.heap [] _ hP hD.self va_S.rf (hlv ▸ lv_entry av hn)
theorem q_startF {rm : Room} {y : MethodName} {av : List Value} {W0 : va_W} {r : UInt32} {P1 : va_W → Prop} (hy : plainName y.cls = true) (hlv : lv_args 0 av = lv) (hn : (lg_sl av).length ≤ n) (body : ∀ (p : Program) (e : Env) (s : State) (m : MethodId) (below : List Frame) (meth : Method) (c : Code), CX p l s m av.toArray meth c cc n y.cls (WS y cc n ret) ret D cI cJ cN (va_A W0 s.heap.size) → (y.name = "<init>" → meth.name = "<init>") → WW p l e rm s m av.toArray below meth c D n (va_A W0 s.heap.size) 0 0 (QF below av.toArray s D W0 rm r P1) 0 lv [] W0) : MF l D cI cJ cN y (WS y cc n ret) rm av W0 r P1 := by
  intro sz
  refine Met.ofW (cc := cc) (maxL := n) (ret := ret) hy rfl ?_
  intro p e s m args below meth c s₁ B hml hv
  obtain ⟨rfl, hsz, hP, hK, hN, hD⟩ := hv
  subst hsz
  have hts := atoms_spec (ws := WS y cc n ret) B.pre
  have C : CX p l s m av.toArray meth c cc n y.cls (WS y cc n ret) ret D cI cJ cN (va_A W0 s.heap.size) := ⟨B.exec, B.bytes, hml, findClass_of_methodNamed B.named, hts, hK, hN, fun q h => Or.inr h, B.returns, B.notSynchronized⟩
  rw [lg_entry_eq]
  exact body p e s m below meth c C (fun h => (name_of_methodNamed B.named B.method).1.trans h) s.heap [] _ hP hD.self va_S.rf (hlv ▸ lv_entry av hn)
theorem q_startV {rm : Room} {y : MethodName} {av : List Value} {W0 : va_W}  {P1 : va_W → Prop} (hy : plainName y.cls = true) (hlv : lv_args 0 av = lv) (hn : (lg_sl av).length ≤ n) (body : ∀ (p : Program) (e : Env) (s : State) (m : MethodId) (below : List Frame) (meth : Method) (c : Code), CX p l s m av.toArray meth c cc n y.cls (WS y cc n ret) ret D cI cJ cN (va_A W0 s.heap.size) → (y.name = "<init>" → meth.name = "<init>") → WW p l e rm s m av.toArray below meth c D n (va_A W0 s.heap.size) 0 0 (QV below av.toArray s D W0 rm P1) 0 lv [] W0) : MV l D cI cJ cN y (WS y cc n ret) rm av W0 P1 := by
  intro sz
  refine Met.ofW (cc := cc) (maxL := n) (ret := ret) hy rfl ?_
  intro p e s m args below meth c s₁ B hml hv
  obtain ⟨rfl, hsz, hP, hK, hN, hD⟩ := hv
  subst hsz
  have hts := atoms_spec (ws := WS y cc n ret) B.pre
  have C : CX p l s m av.toArray meth c cc n y.cls (WS y cc n ret) ret D cI cJ cN (va_A W0 s.heap.size) := ⟨B.exec, B.bytes, hml, findClass_of_methodNamed B.named, hts, hK, hN, fun q h => Or.inr h, B.returns, B.notSynchronized⟩
  rw [lg_entry_eq]
  exact body p e s m below meth c C (fun h => (name_of_methodNamed B.named B.method).1.trans h) s.heap [] _ hP hD.self va_S.rf (hlv ▸ lv_entry av hn)
theorem q_cVI (C : CX p l s m args meth c cc n own Ts ret D cI cJ cN A) {y : MethodName} {wsy : List Cond} {fr lo : Nat} {b : Nat} {As : List Value} {wc w1 : va_W} {r : Int32} {bytes : ByteArray} {maxL : Nat} {rt : Option FieldType} {index nA : Nat} {Cn : String}  (hM : MI l D cI cJ cN y wsy { frames := fr, cells := 0, slots := 0, locals := lo } (.ref b :: As) wc r (fun w => w = w1)) (cw : CallW R s args own Cn index y bytes maxL rt wsy { frames := fr, cells := 0, slots := 0, locals := lo } 0 0 nA) (q0 : Nat) {ci : Nat} {fs : List Value} (hq : wc[q0]? = some (b, .inr (ci, fs))) {T : u_T} {N : Nat} (hcl : vwCl[ci]? = some (Cn, T, N)) (is : List Nat) (hC : is.map (fun i => ws[i]?) = wc.map some) (hnd : va_nd is = true) (had : w1.map (fun q => q.1) = wc.map (fun q => q.1)) (hs : setMany ws is w1 = ws') (hnA : As.length = nA) {st0 : List Value} (hst : st0 = As.reverse ++ .ref b :: st) (hroom : (st.map fun v => v.category).sum ≤ 8) (hd : decode cc pc = .ok (.invokevirtual index, 3)) (hf : cells ≤ R.cells ∧ slots ≤ R.slots)  (k : WW p l e R s m args below meth c D n A cells slots Q (pc + 3) lv (.int r :: st) ws') : WW p l e R s m args below meth c D n A cells slots Q pc lv st0 ws := by
  intro H locs ls hP hD hS hl
  have hPc : va_P D vwCl wc H := fun k0 q h => by
    have h5 : (is.map (fun i => ws[i]?))[k0]? = some (some q) := by rw [hC, List.getElem?_map, h]; rfl
    rw [List.getElem?_map] at h5
    cases h6 : is[k0]? with
    | none => rw [h6] at h5; cases h5
    | some k2 => rw [h6] at h5; exact hP k2 q (Option.some.inj h5)
  have hDc := hD.sub is hnd hC
  have hF := va_A_free hD hS C.2.2.2.2.2.2.2.1 is hC
  refine va_calli (va_runV (As := As) (rest := st) ⟨C.1, C.2.1, C.2.2.1, C.2.2.2.1, C.2.2.2.2.1⟩ (hM H.size) cw ⟨preB_blind, va_recv C.2.2.2.2.2.1 hPc hcl hq, preB_mk C.2.2.2.2.2.1 C.2.2.2.2.2.2.1 hPc hDc⟩ rfl hnA hl.1 hst (lv_room hroom) hd hf) hS (fun q _ h => hF q h) hF (fun r0 u t H1 locs1 ht hvm hw hB hz1 hk1 hS1 => ?_)
  obtain ⟨w1x, hp1, hP1, hD1⟩ := hB
  rw [ht] at hP1
  subst hw
  subst hp1
  obtain ⟨hPn, hDn⟩ := join_set hP hD is hC hnd had hk1 hP1
  rw [hs] at hPn hDn
  exact k H1 locs1 ls hPn hDn hS1 hl
theorem q_cVIw (C : CX p l s m args meth c cc n own Ts ret D cI cJ cN A) {y : MethodName} {wsy : List Cond} {rm : Room} {b : Nat} {As : List Value} {P1 : va_W → Prop} {r : Int32} {bytes : ByteArray} {maxL : Nat} {rt : Option FieldType} {index nA : Nat} {Cn : String}  (hM : MI l D cI cJ cN y wsy rm (.ref b :: As) ws r P1) (cw : CallW R s args own Cn index y bytes maxL rt wsy rm rm.cells rm.slots nA) (q0 : Nat) {ci : Nat} {fs : List Value} (hq : ws[q0]? = some (b, .inr (ci, fs))) {T : u_T} {N : Nat} (hcl : vwCl[ci]? = some (Cn, T, N)) (hnA : As.length = nA) {st0 : List Value} (hst : st0 = As.reverse ++ .ref b :: st) (hroom : (st.map fun v => v.category).sum ≤ 8) (hd : decode cc pc = .ok (.invokevirtual index, 3)) (hf : cells + rm.cells ≤ R.cells ∧ slots + rm.slots ≤ R.slots)  (k : ∀ w1, P1 w1 → WW p l e R s m args below meth c D n A (cells + rm.cells) (slots + rm.slots) Q (pc + 3) lv (.int r :: st) w1) : WW p l e R s m args below meth c D n A cells slots Q pc lv st0 ws := by
  intro H locs ls hP hD hS hl
  have hPc := hP
  have hDc := hD
  have hF := va_A_freeW hD hS C.2.2.2.2.2.2.2.1
  refine va_calli (va_runV (As := As) (rest := st) ⟨C.1, C.2.1, C.2.2.1, C.2.2.2.1, C.2.2.2.2.1⟩ (hM H.size) cw ⟨preB_blind, va_recv C.2.2.2.2.2.1 hPc hcl hq, preB_mk C.2.2.2.2.2.1 C.2.2.2.2.2.2.1 hPc hDc⟩ rfl hnA hl.1 hst (lv_room hroom) hd hf) hS (fun q _ h => hF q h) hF (fun r0 u t H1 locs1 ht hvm hw hB hz1 hk1 hS1 => ?_)
  obtain ⟨w1x, hp1, hP1, hD1⟩ := hB
  rw [ht] at hP1
  subst hw
  exact k w1x hp1 H1 locs1 ls hP1 (hD1.weaken (fun _ q _ h => hF q.1 h)) hS1 hl
theorem q_cVL (C : CX p l s m args meth c cc n own Ts ret D cI cJ cN A) {y : MethodName} {wsy : List Cond} {fr lo : Nat} {b : Nat} {As : List Value} {wc w1 : va_W} {r : Int64} {bytes : ByteArray} {maxL : Nat} {rt : Option FieldType} {index nA : Nat} {Cn : String}  (hM : ML l D cI cJ cN y wsy { frames := fr, cells := 0, slots := 0, locals := lo } (.ref b :: As) wc r (fun w => w = w1)) (cw : CallW R s args own Cn index y bytes maxL rt wsy { frames := fr, cells := 0, slots := 0, locals := lo } 0 0 nA) (q0 : Nat) {ci : Nat} {fs : List Value} (hq : wc[q0]? = some (b, .inr (ci, fs))) {T : u_T} {N : Nat} (hcl : vwCl[ci]? = some (Cn, T, N)) (is : List Nat) (hC : is.map (fun i => ws[i]?) = wc.map some) (hnd : va_nd is = true) (had : w1.map (fun q => q.1) = wc.map (fun q => q.1)) (hs : setMany ws is w1 = ws') (hnA : As.length = nA) {st0 : List Value} (hst : st0 = As.reverse ++ .ref b :: st) (hroom : (st.map fun v => v.category).sum ≤ 8) (hd : decode cc pc = .ok (.invokevirtual index, 3)) (hf : cells ≤ R.cells ∧ slots ≤ R.slots)  (k : WW p l e R s m args below meth c D n A cells slots Q (pc + 3) lv (.long r :: st) ws') : WW p l e R s m args below meth c D n A cells slots Q pc lv st0 ws := by
  intro H locs ls hP hD hS hl
  have hPc : va_P D vwCl wc H := fun k0 q h => by
    have h5 : (is.map (fun i => ws[i]?))[k0]? = some (some q) := by rw [hC, List.getElem?_map, h]; rfl
    rw [List.getElem?_map] at h5
    cases h6 : is[k0]? with
    | none => rw [h6] at h5; cases h5
    | some k2 => rw [h6] at h5; exact hP k2 q (Option.some.inj h5)
  have hDc := hD.sub is hnd hC
  have hF := va_A_free hD hS C.2.2.2.2.2.2.2.1 is hC
  refine va_calll (va_runV (As := As) (rest := st) ⟨C.1, C.2.1, C.2.2.1, C.2.2.2.1, C.2.2.2.2.1⟩ (hM H.size) cw ⟨preB_blind, va_recv C.2.2.2.2.2.1 hPc hcl hq, preB_mk C.2.2.2.2.2.1 C.2.2.2.2.2.2.1 hPc hDc⟩ rfl hnA hl.1 hst (lv_room hroom) hd hf) hS (fun q _ h => hF q h) hF (fun r0 u t H1 locs1 ht hvm hw hB hz1 hk1 hS1 => ?_)
  obtain ⟨w1x, hp1, hP1, hD1⟩ := hB
  rw [ht] at hP1
  subst hw
  subst hp1
  obtain ⟨hPn, hDn⟩ := join_set hP hD is hC hnd had hk1 hP1
  rw [hs] at hPn hDn
  exact k H1 locs1 ls hPn hDn hS1 hl
theorem q_cVLw (C : CX p l s m args meth c cc n own Ts ret D cI cJ cN A) {y : MethodName} {wsy : List Cond} {rm : Room} {b : Nat} {As : List Value} {P1 : va_W → Prop} {r : Int64} {bytes : ByteArray} {maxL : Nat} {rt : Option FieldType} {index nA : Nat} {Cn : String}  (hM : ML l D cI cJ cN y wsy rm (.ref b :: As) ws r P1) (cw : CallW R s args own Cn index y bytes maxL rt wsy rm rm.cells rm.slots nA) (q0 : Nat) {ci : Nat} {fs : List Value} (hq : ws[q0]? = some (b, .inr (ci, fs))) {T : u_T} {N : Nat} (hcl : vwCl[ci]? = some (Cn, T, N)) (hnA : As.length = nA) {st0 : List Value} (hst : st0 = As.reverse ++ .ref b :: st) (hroom : (st.map fun v => v.category).sum ≤ 8) (hd : decode cc pc = .ok (.invokevirtual index, 3)) (hf : cells + rm.cells ≤ R.cells ∧ slots + rm.slots ≤ R.slots)  (k : ∀ w1, P1 w1 → WW p l e R s m args below meth c D n A (cells + rm.cells) (slots + rm.slots) Q (pc + 3) lv (.long r :: st) w1) : WW p l e R s m args below meth c D n A cells slots Q pc lv st0 ws := by
  intro H locs ls hP hD hS hl
  have hPc := hP
  have hDc := hD
  have hF := va_A_freeW hD hS C.2.2.2.2.2.2.2.1
  refine va_calll (va_runV (As := As) (rest := st) ⟨C.1, C.2.1, C.2.2.1, C.2.2.2.1, C.2.2.2.2.1⟩ (hM H.size) cw ⟨preB_blind, va_recv C.2.2.2.2.2.1 hPc hcl hq, preB_mk C.2.2.2.2.2.1 C.2.2.2.2.2.2.1 hPc hDc⟩ rfl hnA hl.1 hst (lv_room hroom) hd hf) hS (fun q _ h => hF q h) hF (fun r0 u t H1 locs1 ht hvm hw hB hz1 hk1 hS1 => ?_)
  obtain ⟨w1x, hp1, hP1, hD1⟩ := hB
  rw [ht] at hP1
  subst hw
  exact k w1x hp1 H1 locs1 ls hP1 (hD1.weaken (fun _ q _ h => hF q.1 h)) hS1 hl
theorem q_cVF (C : CX p l s m args meth c cc n own Ts ret D cI cJ cN A) {y : MethodName} {wsy : List Cond} {fr lo : Nat} {b : Nat} {As : List Value} {wc w1 : va_W} {r : UInt32} {bytes : ByteArray} {maxL : Nat} {rt : Option FieldType} {index nA : Nat} {Cn : String}  (hM : MF l D cI cJ cN y wsy { frames := fr, cells := 0, slots := 0, locals := lo } (.ref b :: As) wc r (fun w => w = w1)) (cw : CallW R s args own Cn index y bytes maxL rt wsy { frames := fr, cells := 0, slots := 0, locals := lo } 0 0 nA) (q0 : Nat) {ci : Nat} {fs : List Value} (hq : wc[q0]? = some (b, .inr (ci, fs))) {T : u_T} {N : Nat} (hcl : vwCl[ci]? = some (Cn, T, N)) (is : List Nat) (hC : is.map (fun i => ws[i]?) = wc.map some) (hnd : va_nd is = true) (had : w1.map (fun q => q.1) = wc.map (fun q => q.1)) (hs : setMany ws is w1 = ws') (hnA : As.length = nA) {st0 : List Value} (hst : st0 = As.reverse ++ .ref b :: st) (hroom : (st.map fun v => v.category).sum ≤ 8) (hd : decode cc pc = .ok (.invokevirtual index, 3)) (hf : cells ≤ R.cells ∧ slots ≤ R.slots)  (k : WW p l e R s m args below meth c D n A cells slots Q (pc + 3) lv (.float r :: st) ws') : WW p l e R s m args below meth c D n A cells slots Q pc lv st0 ws := by
  intro H locs ls hP hD hS hl
  have hPc : va_P D vwCl wc H := fun k0 q h => by
    have h5 : (is.map (fun i => ws[i]?))[k0]? = some (some q) := by rw [hC, List.getElem?_map, h]; rfl
    rw [List.getElem?_map] at h5
    cases h6 : is[k0]? with
    | none => rw [h6] at h5; cases h5
    | some k2 => rw [h6] at h5; exact hP k2 q (Option.some.inj h5)
  have hDc := hD.sub is hnd hC
  have hF := va_A_free hD hS C.2.2.2.2.2.2.2.1 is hC
  refine va_callf (va_runV (As := As) (rest := st) ⟨C.1, C.2.1, C.2.2.1, C.2.2.2.1, C.2.2.2.2.1⟩ (hM H.size) cw ⟨preB_blind, va_recv C.2.2.2.2.2.1 hPc hcl hq, preB_mk C.2.2.2.2.2.1 C.2.2.2.2.2.2.1 hPc hDc⟩ rfl hnA hl.1 hst (lv_room hroom) hd hf) hS (fun q _ h => hF q h) hF (fun r0 u t H1 locs1 ht hvm hw hB hz1 hk1 hS1 => ?_)
  obtain ⟨w1x, hp1, hP1, hD1⟩ := hB
  rw [ht] at hP1
  subst hw
  subst hp1
  obtain ⟨hPn, hDn⟩ := join_set hP hD is hC hnd had hk1 hP1
  rw [hs] at hPn hDn
  exact k H1 locs1 ls hPn hDn hS1 hl
theorem q_cVFw (C : CX p l s m args meth c cc n own Ts ret D cI cJ cN A) {y : MethodName} {wsy : List Cond} {rm : Room} {b : Nat} {As : List Value} {P1 : va_W → Prop} {r : UInt32} {bytes : ByteArray} {maxL : Nat} {rt : Option FieldType} {index nA : Nat} {Cn : String}  (hM : MF l D cI cJ cN y wsy rm (.ref b :: As) ws r P1) (cw : CallW R s args own Cn index y bytes maxL rt wsy rm rm.cells rm.slots nA) (q0 : Nat) {ci : Nat} {fs : List Value} (hq : ws[q0]? = some (b, .inr (ci, fs))) {T : u_T} {N : Nat} (hcl : vwCl[ci]? = some (Cn, T, N)) (hnA : As.length = nA) {st0 : List Value} (hst : st0 = As.reverse ++ .ref b :: st) (hroom : (st.map fun v => v.category).sum ≤ 8) (hd : decode cc pc = .ok (.invokevirtual index, 3)) (hf : cells + rm.cells ≤ R.cells ∧ slots + rm.slots ≤ R.slots)  (k : ∀ w1, P1 w1 → WW p l e R s m args below meth c D n A (cells + rm.cells) (slots + rm.slots) Q (pc + 3) lv (.float r :: st) w1) : WW p l e R s m args below meth c D n A cells slots Q pc lv st0 ws := by
  intro H locs ls hP hD hS hl
  have hPc := hP
  have hDc := hD
  have hF := va_A_freeW hD hS C.2.2.2.2.2.2.2.1
  refine va_callf (va_runV (As := As) (rest := st) ⟨C.1, C.2.1, C.2.2.1, C.2.2.2.1, C.2.2.2.2.1⟩ (hM H.size) cw ⟨preB_blind, va_recv C.2.2.2.2.2.1 hPc hcl hq, preB_mk C.2.2.2.2.2.1 C.2.2.2.2.2.2.1 hPc hDc⟩ rfl hnA hl.1 hst (lv_room hroom) hd hf) hS (fun q _ h => hF q h) hF (fun r0 u t H1 locs1 ht hvm hw hB hz1 hk1 hS1 => ?_)
  obtain ⟨w1x, hp1, hP1, hD1⟩ := hB
  rw [ht] at hP1
  subst hw
  exact k w1x hp1 H1 locs1 ls hP1 (hD1.weaken (fun _ q _ h => hF q.1 h)) hS1 hl
theorem q_cVV (C : CX p l s m args meth c cc n own Ts ret D cI cJ cN A) {y : MethodName} {wsy : List Cond} {fr lo : Nat} {b : Nat} {As : List Value} {wc w1 : va_W}  {bytes : ByteArray} {maxL : Nat} {rt : Option FieldType} {index nA : Nat} {Cn : String}  (hM : MV l D cI cJ cN y wsy { frames := fr, cells := 0, slots := 0, locals := lo } (.ref b :: As) wc (fun w => w = w1)) (cw : CallW R s args own Cn index y bytes maxL rt wsy { frames := fr, cells := 0, slots := 0, locals := lo } 0 0 nA) (q0 : Nat) {ci : Nat} {fs : List Value} (hq : wc[q0]? = some (b, .inr (ci, fs))) {T : u_T} {N : Nat} (hcl : vwCl[ci]? = some (Cn, T, N)) (is : List Nat) (hC : is.map (fun i => ws[i]?) = wc.map some) (hnd : va_nd is = true) (had : w1.map (fun q => q.1) = wc.map (fun q => q.1)) (hs : setMany ws is w1 = ws') (hnA : As.length = nA) {st0 : List Value} (hst : st0 = As.reverse ++ .ref b :: st) (hroom : (st.map fun v => v.category).sum ≤ 8) (hd : decode cc pc = .ok (.invokevirtual index, 3)) (hf : cells ≤ R.cells ∧ slots ≤ R.slots)  (k : WW p l e R s m args below meth c D n A cells slots Q (pc + 3) lv st ws') : WW p l e R s m args below meth c D n A cells slots Q pc lv st0 ws := by
  intro H locs ls hP hD hS hl
  have hPc : va_P D vwCl wc H := fun k0 q h => by
    have h5 : (is.map (fun i => ws[i]?))[k0]? = some (some q) := by rw [hC, List.getElem?_map, h]; rfl
    rw [List.getElem?_map] at h5
    cases h6 : is[k0]? with
    | none => rw [h6] at h5; cases h5
    | some k2 => rw [h6] at h5; exact hP k2 q (Option.some.inj h5)
  have hDc := hD.sub is hnd hC
  have hF := va_A_free hD hS C.2.2.2.2.2.2.2.1 is hC
  refine va_callv (va_runV (As := As) (rest := st) ⟨C.1, C.2.1, C.2.2.1, C.2.2.2.1, C.2.2.2.2.1⟩ (hM H.size) cw ⟨preB_blind, va_recv C.2.2.2.2.2.1 hPc hcl hq, preB_mk C.2.2.2.2.2.1 C.2.2.2.2.2.2.1 hPc hDc⟩ rfl hnA hl.1 hst (lv_room hroom) hd hf) hS (fun q _ h => hF q h) hF (fun u t H1 locs1 ht hvm hw hB hz1 hk1 hS1 => ?_)
  obtain ⟨w1x, hp1, hP1, hD1⟩ := hB
  rw [ht] at hP1
  subst hp1
  obtain ⟨hPn, hDn⟩ := join_set hP hD is hC hnd had hk1 hP1
  rw [hs] at hPn hDn
  exact k H1 locs1 ls hPn hDn hS1 hl
theorem q_cVVw (C : CX p l s m args meth c cc n own Ts ret D cI cJ cN A) {y : MethodName} {wsy : List Cond} {rm : Room} {b : Nat} {As : List Value} {P1 : va_W → Prop}  {bytes : ByteArray} {maxL : Nat} {rt : Option FieldType} {index nA : Nat} {Cn : String}  (hM : MV l D cI cJ cN y wsy rm (.ref b :: As) ws P1) (cw : CallW R s args own Cn index y bytes maxL rt wsy rm rm.cells rm.slots nA) (q0 : Nat) {ci : Nat} {fs : List Value} (hq : ws[q0]? = some (b, .inr (ci, fs))) {T : u_T} {N : Nat} (hcl : vwCl[ci]? = some (Cn, T, N)) (hnA : As.length = nA) {st0 : List Value} (hst : st0 = As.reverse ++ .ref b :: st) (hroom : (st.map fun v => v.category).sum ≤ 8) (hd : decode cc pc = .ok (.invokevirtual index, 3)) (hf : cells + rm.cells ≤ R.cells ∧ slots + rm.slots ≤ R.slots)  (k : ∀ w1, P1 w1 → WW p l e R s m args below meth c D n A (cells + rm.cells) (slots + rm.slots) Q (pc + 3) lv st w1) : WW p l e R s m args below meth c D n A cells slots Q pc lv st0 ws := by
  intro H locs ls hP hD hS hl
  have hPc := hP
  have hDc := hD
  have hF := va_A_freeW hD hS C.2.2.2.2.2.2.2.1
  refine va_callv (va_runV (As := As) (rest := st) ⟨C.1, C.2.1, C.2.2.1, C.2.2.2.1, C.2.2.2.2.1⟩ (hM H.size) cw ⟨preB_blind, va_recv C.2.2.2.2.2.1 hPc hcl hq, preB_mk C.2.2.2.2.2.1 C.2.2.2.2.2.2.1 hPc hDc⟩ rfl hnA hl.1 hst (lv_room hroom) hd hf) hS (fun q _ h => hF q h) hF (fun u t H1 locs1 ht hvm hw hB hz1 hk1 hS1 => ?_)
  obtain ⟨w1x, hp1, hP1, hD1⟩ := hB
  rw [ht] at hP1
  exact k w1x hp1 H1 locs1 ls hP1 (hD1.weaken (fun _ q _ h => hF q.1 h)) hS1 hl
theorem q_cSI (C : CX p l s m args meth c cc n own Ts ret D cI cJ cN A) {y : MethodName} {wsy : List Cond} {fr lo : Nat} {As : List Value} {wc w1 : va_W} {r : Int32} {bytes : ByteArray} {maxL : Nat} {rt : Option FieldType} {index nA : Nat}  (hM : MI l D cI cJ cN y wsy { frames := fr, cells := 0, slots := 0, locals := lo } As wc r (fun w => w = w1)) (cw : (CallB R s args own index y bytes maxL rt wsy { frames := fr, cells := 0, slots := 0, locals := lo } 0 0 nA ∧ (Cond.static y).before args s = true)) (is : List Nat) (hC : is.map (fun i => ws[i]?) = wc.map some) (hnd : va_nd is = true) (had : w1.map (fun q => q.1) = wc.map (fun q => q.1)) (hs : setMany ws is w1 = ws') (hnA : As.length = nA) {st0 : List Value} (hst : st0 = As.reverse ++ st) (hroom : (st.map fun v => v.category).sum ≤ 8) (hd : decode cc pc = .ok (.invokestatic index, 3)) (hf : cells ≤ R.cells ∧ slots ≤ R.slots)  (k : WW p l e R s m args below meth c D n A cells slots Q (pc + 3) lv (.int r :: st) ws') : WW p l e R s m args below meth c D n A cells slots Q pc lv st0 ws := by
  intro H locs ls hP hD hS hl
  have hPc : va_P D vwCl wc H := fun k0 q h => by
    have h5 : (is.map (fun i => ws[i]?))[k0]? = some (some q) := by rw [hC, List.getElem?_map, h]; rfl
    rw [List.getElem?_map] at h5
    cases h6 : is[k0]? with
    | none => rw [h6] at h5; cases h5
    | some k2 => rw [h6] at h5; exact hP k2 q (Option.some.inj h5)
  have hDc := hD.sub is hnd hC
  have hF := va_A_free hD hS C.2.2.2.2.2.2.2.1 is hC
  refine va_calli (va_runS (As := As) (rest := st) ⟨C.1, C.2.1, C.2.2.1, C.2.2.2.1, C.2.2.2.2.1⟩ (hM H.size) cw ⟨preB_blind, preB_mk C.2.2.2.2.2.1 C.2.2.2.2.2.2.1 hPc hDc⟩ rfl hnA hl.1 hst (lv_room hroom) hd hf) hS (fun q _ h => hF q h) hF (fun r0 u t H1 locs1 ht hvm hw hB hz1 hk1 hS1 => ?_)
  obtain ⟨w1x, hp1, hP1, hD1⟩ := hB
  rw [ht] at hP1
  subst hw
  subst hp1
  obtain ⟨hPn, hDn⟩ := join_set hP hD is hC hnd had hk1 hP1
  rw [hs] at hPn hDn
  exact k H1 locs1 ls hPn hDn hS1 hl
theorem q_cSIw (C : CX p l s m args meth c cc n own Ts ret D cI cJ cN A) {y : MethodName} {wsy : List Cond} {rm : Room} {As : List Value} {P1 : va_W → Prop} {r : Int32} {bytes : ByteArray} {maxL : Nat} {rt : Option FieldType} {index nA : Nat}  (hM : MI l D cI cJ cN y wsy rm As ws r P1) (cw : (CallB R s args own index y bytes maxL rt wsy rm rm.cells rm.slots nA ∧ (Cond.static y).before args s = true)) (hnA : As.length = nA) {st0 : List Value} (hst : st0 = As.reverse ++ st) (hroom : (st.map fun v => v.category).sum ≤ 8) (hd : decode cc pc = .ok (.invokestatic index, 3)) (hf : cells + rm.cells ≤ R.cells ∧ slots + rm.slots ≤ R.slots)  (k : ∀ w1, P1 w1 → WW p l e R s m args below meth c D n A (cells + rm.cells) (slots + rm.slots) Q (pc + 3) lv (.int r :: st) w1) : WW p l e R s m args below meth c D n A cells slots Q pc lv st0 ws := by
  intro H locs ls hP hD hS hl
  have hPc := hP
  have hDc := hD
  have hF := va_A_freeW hD hS C.2.2.2.2.2.2.2.1
  refine va_calli (va_runS (As := As) (rest := st) ⟨C.1, C.2.1, C.2.2.1, C.2.2.2.1, C.2.2.2.2.1⟩ (hM H.size) cw ⟨preB_blind, preB_mk C.2.2.2.2.2.1 C.2.2.2.2.2.2.1 hPc hDc⟩ rfl hnA hl.1 hst (lv_room hroom) hd hf) hS (fun q _ h => hF q h) hF (fun r0 u t H1 locs1 ht hvm hw hB hz1 hk1 hS1 => ?_)
  obtain ⟨w1x, hp1, hP1, hD1⟩ := hB
  rw [ht] at hP1
  subst hw
  exact k w1x hp1 H1 locs1 ls hP1 (hD1.weaken (fun _ q _ h => hF q.1 h)) hS1 hl
theorem q_cSL (C : CX p l s m args meth c cc n own Ts ret D cI cJ cN A) {y : MethodName} {wsy : List Cond} {fr lo : Nat} {As : List Value} {wc w1 : va_W} {r : Int64} {bytes : ByteArray} {maxL : Nat} {rt : Option FieldType} {index nA : Nat}  (hM : ML l D cI cJ cN y wsy { frames := fr, cells := 0, slots := 0, locals := lo } As wc r (fun w => w = w1)) (cw : (CallB R s args own index y bytes maxL rt wsy { frames := fr, cells := 0, slots := 0, locals := lo } 0 0 nA ∧ (Cond.static y).before args s = true)) (is : List Nat) (hC : is.map (fun i => ws[i]?) = wc.map some) (hnd : va_nd is = true) (had : w1.map (fun q => q.1) = wc.map (fun q => q.1)) (hs : setMany ws is w1 = ws') (hnA : As.length = nA) {st0 : List Value} (hst : st0 = As.reverse ++ st) (hroom : (st.map fun v => v.category).sum ≤ 8) (hd : decode cc pc = .ok (.invokestatic index, 3)) (hf : cells ≤ R.cells ∧ slots ≤ R.slots)  (k : WW p l e R s m args below meth c D n A cells slots Q (pc + 3) lv (.long r :: st) ws') : WW p l e R s m args below meth c D n A cells slots Q pc lv st0 ws := by
  intro H locs ls hP hD hS hl
  have hPc : va_P D vwCl wc H := fun k0 q h => by
    have h5 : (is.map (fun i => ws[i]?))[k0]? = some (some q) := by rw [hC, List.getElem?_map, h]; rfl
    rw [List.getElem?_map] at h5
    cases h6 : is[k0]? with
    | none => rw [h6] at h5; cases h5
    | some k2 => rw [h6] at h5; exact hP k2 q (Option.some.inj h5)
  have hDc := hD.sub is hnd hC
  have hF := va_A_free hD hS C.2.2.2.2.2.2.2.1 is hC
  refine va_calll (va_runS (As := As) (rest := st) ⟨C.1, C.2.1, C.2.2.1, C.2.2.2.1, C.2.2.2.2.1⟩ (hM H.size) cw ⟨preB_blind, preB_mk C.2.2.2.2.2.1 C.2.2.2.2.2.2.1 hPc hDc⟩ rfl hnA hl.1 hst (lv_room hroom) hd hf) hS (fun q _ h => hF q h) hF (fun r0 u t H1 locs1 ht hvm hw hB hz1 hk1 hS1 => ?_)
  obtain ⟨w1x, hp1, hP1, hD1⟩ := hB
  rw [ht] at hP1
  subst hw
  subst hp1
  obtain ⟨hPn, hDn⟩ := join_set hP hD is hC hnd had hk1 hP1
  rw [hs] at hPn hDn
  exact k H1 locs1 ls hPn hDn hS1 hl
theorem q_cSLw (C : CX p l s m args meth c cc n own Ts ret D cI cJ cN A) {y : MethodName} {wsy : List Cond} {rm : Room} {As : List Value} {P1 : va_W → Prop} {r : Int64} {bytes : ByteArray} {maxL : Nat} {rt : Option FieldType} {index nA : Nat}  (hM : ML l D cI cJ cN y wsy rm As ws r P1) (cw : (CallB R s args own index y bytes maxL rt wsy rm rm.cells rm.slots nA ∧ (Cond.static y).before args s = true)) (hnA : As.length = nA) {st0 : List Value} (hst : st0 = As.reverse ++ st) (hroom : (st.map fun v => v.category).sum ≤ 8) (hd : decode cc pc = .ok (.invokestatic index, 3)) (hf : cells + rm.cells ≤ R.cells ∧ slots + rm.slots ≤ R.slots)  (k : ∀ w1, P1 w1 → WW p l e R s m args below meth c D n A (cells + rm.cells) (slots + rm.slots) Q (pc + 3) lv (.long r :: st) w1) : WW p l e R s m args below meth c D n A cells slots Q pc lv st0 ws := by
  intro H locs ls hP hD hS hl
  have hPc := hP
  have hDc := hD
  have hF := va_A_freeW hD hS C.2.2.2.2.2.2.2.1
  refine va_calll (va_runS (As := As) (rest := st) ⟨C.1, C.2.1, C.2.2.1, C.2.2.2.1, C.2.2.2.2.1⟩ (hM H.size) cw ⟨preB_blind, preB_mk C.2.2.2.2.2.1 C.2.2.2.2.2.2.1 hPc hDc⟩ rfl hnA hl.1 hst (lv_room hroom) hd hf) hS (fun q _ h => hF q h) hF (fun r0 u t H1 locs1 ht hvm hw hB hz1 hk1 hS1 => ?_)
  obtain ⟨w1x, hp1, hP1, hD1⟩ := hB
  rw [ht] at hP1
  subst hw
  exact k w1x hp1 H1 locs1 ls hP1 (hD1.weaken (fun _ q _ h => hF q.1 h)) hS1 hl
theorem q_cSF (C : CX p l s m args meth c cc n own Ts ret D cI cJ cN A) {y : MethodName} {wsy : List Cond} {fr lo : Nat} {As : List Value} {wc w1 : va_W} {r : UInt32} {bytes : ByteArray} {maxL : Nat} {rt : Option FieldType} {index nA : Nat}  (hM : MF l D cI cJ cN y wsy { frames := fr, cells := 0, slots := 0, locals := lo } As wc r (fun w => w = w1)) (cw : (CallB R s args own index y bytes maxL rt wsy { frames := fr, cells := 0, slots := 0, locals := lo } 0 0 nA ∧ (Cond.static y).before args s = true)) (is : List Nat) (hC : is.map (fun i => ws[i]?) = wc.map some) (hnd : va_nd is = true) (had : w1.map (fun q => q.1) = wc.map (fun q => q.1)) (hs : setMany ws is w1 = ws') (hnA : As.length = nA) {st0 : List Value} (hst : st0 = As.reverse ++ st) (hroom : (st.map fun v => v.category).sum ≤ 8) (hd : decode cc pc = .ok (.invokestatic index, 3)) (hf : cells ≤ R.cells ∧ slots ≤ R.slots)  (k : WW p l e R s m args below meth c D n A cells slots Q (pc + 3) lv (.float r :: st) ws') : WW p l e R s m args below meth c D n A cells slots Q pc lv st0 ws := by
  intro H locs ls hP hD hS hl
  have hPc : va_P D vwCl wc H := fun k0 q h => by
    have h5 : (is.map (fun i => ws[i]?))[k0]? = some (some q) := by rw [hC, List.getElem?_map, h]; rfl
    rw [List.getElem?_map] at h5
    cases h6 : is[k0]? with
    | none => rw [h6] at h5; cases h5
    | some k2 => rw [h6] at h5; exact hP k2 q (Option.some.inj h5)
  have hDc := hD.sub is hnd hC
  have hF := va_A_free hD hS C.2.2.2.2.2.2.2.1 is hC
  refine va_callf (va_runS (As := As) (rest := st) ⟨C.1, C.2.1, C.2.2.1, C.2.2.2.1, C.2.2.2.2.1⟩ (hM H.size) cw ⟨preB_blind, preB_mk C.2.2.2.2.2.1 C.2.2.2.2.2.2.1 hPc hDc⟩ rfl hnA hl.1 hst (lv_room hroom) hd hf) hS (fun q _ h => hF q h) hF (fun r0 u t H1 locs1 ht hvm hw hB hz1 hk1 hS1 => ?_)
  obtain ⟨w1x, hp1, hP1, hD1⟩ := hB
  rw [ht] at hP1
  subst hw
  subst hp1
  obtain ⟨hPn, hDn⟩ := join_set hP hD is hC hnd had hk1 hP1
  rw [hs] at hPn hDn
  exact k H1 locs1 ls hPn hDn hS1 hl
theorem q_cSFw (C : CX p l s m args meth c cc n own Ts ret D cI cJ cN A) {y : MethodName} {wsy : List Cond} {rm : Room} {As : List Value} {P1 : va_W → Prop} {r : UInt32} {bytes : ByteArray} {maxL : Nat} {rt : Option FieldType} {index nA : Nat}  (hM : MF l D cI cJ cN y wsy rm As ws r P1) (cw : (CallB R s args own index y bytes maxL rt wsy rm rm.cells rm.slots nA ∧ (Cond.static y).before args s = true)) (hnA : As.length = nA) {st0 : List Value} (hst : st0 = As.reverse ++ st) (hroom : (st.map fun v => v.category).sum ≤ 8) (hd : decode cc pc = .ok (.invokestatic index, 3)) (hf : cells + rm.cells ≤ R.cells ∧ slots + rm.slots ≤ R.slots)  (k : ∀ w1, P1 w1 → WW p l e R s m args below meth c D n A (cells + rm.cells) (slots + rm.slots) Q (pc + 3) lv (.float r :: st) w1) : WW p l e R s m args below meth c D n A cells slots Q pc lv st0 ws := by
  intro H locs ls hP hD hS hl
  have hPc := hP
  have hDc := hD
  have hF := va_A_freeW hD hS C.2.2.2.2.2.2.2.1
  refine va_callf (va_runS (As := As) (rest := st) ⟨C.1, C.2.1, C.2.2.1, C.2.2.2.1, C.2.2.2.2.1⟩ (hM H.size) cw ⟨preB_blind, preB_mk C.2.2.2.2.2.1 C.2.2.2.2.2.2.1 hPc hDc⟩ rfl hnA hl.1 hst (lv_room hroom) hd hf) hS (fun q _ h => hF q h) hF (fun r0 u t H1 locs1 ht hvm hw hB hz1 hk1 hS1 => ?_)
  obtain ⟨w1x, hp1, hP1, hD1⟩ := hB
  rw [ht] at hP1
  subst hw
  exact k w1x hp1 H1 locs1 ls hP1 (hD1.weaken (fun _ q _ h => hF q.1 h)) hS1 hl
theorem q_cSV (C : CX p l s m args meth c cc n own Ts ret D cI cJ cN A) {y : MethodName} {wsy : List Cond} {fr lo : Nat} {As : List Value} {wc w1 : va_W}  {bytes : ByteArray} {maxL : Nat} {rt : Option FieldType} {index nA : Nat}  (hM : MV l D cI cJ cN y wsy { frames := fr, cells := 0, slots := 0, locals := lo } As wc (fun w => w = w1)) (cw : (CallB R s args own index y bytes maxL rt wsy { frames := fr, cells := 0, slots := 0, locals := lo } 0 0 nA ∧ (Cond.static y).before args s = true)) (is : List Nat) (hC : is.map (fun i => ws[i]?) = wc.map some) (hnd : va_nd is = true) (had : w1.map (fun q => q.1) = wc.map (fun q => q.1)) (hs : setMany ws is w1 = ws') (hnA : As.length = nA) {st0 : List Value} (hst : st0 = As.reverse ++ st) (hroom : (st.map fun v => v.category).sum ≤ 8) (hd : decode cc pc = .ok (.invokestatic index, 3)) (hf : cells ≤ R.cells ∧ slots ≤ R.slots)  (k : WW p l e R s m args below meth c D n A cells slots Q (pc + 3) lv st ws') : WW p l e R s m args below meth c D n A cells slots Q pc lv st0 ws := by
  intro H locs ls hP hD hS hl
  have hPc : va_P D vwCl wc H := fun k0 q h => by
    have h5 : (is.map (fun i => ws[i]?))[k0]? = some (some q) := by rw [hC, List.getElem?_map, h]; rfl
    rw [List.getElem?_map] at h5
    cases h6 : is[k0]? with
    | none => rw [h6] at h5; cases h5
    | some k2 => rw [h6] at h5; exact hP k2 q (Option.some.inj h5)
  have hDc := hD.sub is hnd hC
  have hF := va_A_free hD hS C.2.2.2.2.2.2.2.1 is hC
  refine va_callv (va_runS (As := As) (rest := st) ⟨C.1, C.2.1, C.2.2.1, C.2.2.2.1, C.2.2.2.2.1⟩ (hM H.size) cw ⟨preB_blind, preB_mk C.2.2.2.2.2.1 C.2.2.2.2.2.2.1 hPc hDc⟩ rfl hnA hl.1 hst (lv_room hroom) hd hf) hS (fun q _ h => hF q h) hF (fun u t H1 locs1 ht hvm hw hB hz1 hk1 hS1 => ?_)
  obtain ⟨w1x, hp1, hP1, hD1⟩ := hB
  rw [ht] at hP1
  subst hp1
  obtain ⟨hPn, hDn⟩ := join_set hP hD is hC hnd had hk1 hP1
  rw [hs] at hPn hDn
  exact k H1 locs1 ls hPn hDn hS1 hl
theorem q_cSVw (C : CX p l s m args meth c cc n own Ts ret D cI cJ cN A) {y : MethodName} {wsy : List Cond} {rm : Room} {As : List Value} {P1 : va_W → Prop}  {bytes : ByteArray} {maxL : Nat} {rt : Option FieldType} {index nA : Nat}  (hM : MV l D cI cJ cN y wsy rm As ws P1) (cw : (CallB R s args own index y bytes maxL rt wsy rm rm.cells rm.slots nA ∧ (Cond.static y).before args s = true)) (hnA : As.length = nA) {st0 : List Value} (hst : st0 = As.reverse ++ st) (hroom : (st.map fun v => v.category).sum ≤ 8) (hd : decode cc pc = .ok (.invokestatic index, 3)) (hf : cells + rm.cells ≤ R.cells ∧ slots + rm.slots ≤ R.slots)  (k : ∀ w1, P1 w1 → WW p l e R s m args below meth c D n A (cells + rm.cells) (slots + rm.slots) Q (pc + 3) lv st w1) : WW p l e R s m args below meth c D n A cells slots Q pc lv st0 ws := by
  intro H locs ls hP hD hS hl
  have hPc := hP
  have hDc := hD
  have hF := va_A_freeW hD hS C.2.2.2.2.2.2.2.1
  refine va_callv (va_runS (As := As) (rest := st) ⟨C.1, C.2.1, C.2.2.1, C.2.2.2.1, C.2.2.2.2.1⟩ (hM H.size) cw ⟨preB_blind, preB_mk C.2.2.2.2.2.1 C.2.2.2.2.2.2.1 hPc hDc⟩ rfl hnA hl.1 hst (lv_room hroom) hd hf) hS (fun q _ h => hF q h) hF (fun u t H1 locs1 ht hvm hw hB hz1 hk1 hS1 => ?_)
  obtain ⟨w1x, hp1, hP1, hD1⟩ := hB
  rw [ht] at hP1
  exact k w1x hp1 H1 locs1 ls hP1 (hD1.weaken (fun _ q _ h => hF q.1 h)) hS1 hl
theorem q_cNI (C : CX p l s m args meth c cc n own Ts ret D cI cJ cN A) {y : MethodName} {wsy : List Cond} {fr lo : Nat} {As : List Value} {wc w1 : va_W} {r : Int32} {bytes : ByteArray} {maxL : Nat} {rt : Option FieldType} {index nA : Nat} {host : String}  (hM : MI l D cI cJ cN y wsy { frames := fr, cells := 0, slots := 0, locals := lo } As wc r (fun w => w = w1)) (cw : (va_CN R s args own index y host bytes maxL rt wsy { frames := fr, cells := 0, slots := 0, locals := lo } 0 0 nA ∧ (Cond.static y).before args s = true ∧ True)) (is : List Nat) (hC : is.map (fun i => ws[i]?) = wc.map some) (hnd : va_nd is = true) (had : w1.map (fun q => q.1) = wc.map (fun q => q.1)) (hs : setMany ws is w1 = ws') (hnA : As.length = nA) {st0 : List Value} (hst : st0 = As.reverse ++ st) (hroom : (st.map fun v => v.category).sum ≤ 8) (hd : decode cc pc = .ok (.invokestatic index, 3)) (hf : cells ≤ R.cells ∧ slots ≤ R.slots)  (k : WW p l e R s m args below meth c D n A cells slots Q (pc + 3) lv (.int r :: st) ws') : WW p l e R s m args below meth c D n A cells slots Q pc lv st0 ws := by
  intro H locs ls hP hD hS hl
  have hPc : va_P D vwCl wc H := fun k0 q h => by
    have h5 : (is.map (fun i => ws[i]?))[k0]? = some (some q) := by rw [hC, List.getElem?_map, h]; rfl
    rw [List.getElem?_map] at h5
    cases h6 : is[k0]? with
    | none => rw [h6] at h5; cases h5
    | some k2 => rw [h6] at h5; exact hP k2 q (Option.some.inj h5)
  have hDc := hD.sub is hnd hC
  have hF := va_A_free hD hS C.2.2.2.2.2.2.2.1 is hC
  refine va_calli (va_runSN (As := As) (rest := st) ⟨C.1, C.2.1, C.2.2.1, C.2.2.2.1, C.2.2.2.2.1⟩ (hM H.size) cw ⟨preB_blind, preB_mk C.2.2.2.2.2.1 C.2.2.2.2.2.2.1 hPc hDc⟩ rfl hnA hl.1 hst (lv_room hroom) hd hf) hS (fun q _ h => hF q h) hF (fun r0 u t H1 locs1 ht hvm hw hB hz1 hk1 hS1 => ?_)
  obtain ⟨w1x, hp1, hP1, hD1⟩ := hB
  rw [ht] at hP1
  subst hw
  subst hp1
  obtain ⟨hPn, hDn⟩ := join_set hP hD is hC hnd had hk1 hP1
  rw [hs] at hPn hDn
  exact k H1 locs1 ls hPn hDn hS1 hl
theorem q_cNIw (C : CX p l s m args meth c cc n own Ts ret D cI cJ cN A) {y : MethodName} {wsy : List Cond} {rm : Room} {As : List Value} {P1 : va_W → Prop} {r : Int32} {bytes : ByteArray} {maxL : Nat} {rt : Option FieldType} {index nA : Nat} {host : String}  (hM : MI l D cI cJ cN y wsy rm As ws r P1) (cw : (va_CN R s args own index y host bytes maxL rt wsy rm rm.cells rm.slots nA ∧ (Cond.static y).before args s = true ∧ True)) (hnA : As.length = nA) {st0 : List Value} (hst : st0 = As.reverse ++ st) (hroom : (st.map fun v => v.category).sum ≤ 8) (hd : decode cc pc = .ok (.invokestatic index, 3)) (hf : cells + rm.cells ≤ R.cells ∧ slots + rm.slots ≤ R.slots)  (k : ∀ w1, P1 w1 → WW p l e R s m args below meth c D n A (cells + rm.cells) (slots + rm.slots) Q (pc + 3) lv (.int r :: st) w1) : WW p l e R s m args below meth c D n A cells slots Q pc lv st0 ws := by
  intro H locs ls hP hD hS hl
  have hPc := hP
  have hDc := hD
  have hF := va_A_freeW hD hS C.2.2.2.2.2.2.2.1
  refine va_calli (va_runSN (As := As) (rest := st) ⟨C.1, C.2.1, C.2.2.1, C.2.2.2.1, C.2.2.2.2.1⟩ (hM H.size) cw ⟨preB_blind, preB_mk C.2.2.2.2.2.1 C.2.2.2.2.2.2.1 hPc hDc⟩ rfl hnA hl.1 hst (lv_room hroom) hd hf) hS (fun q _ h => hF q h) hF (fun r0 u t H1 locs1 ht hvm hw hB hz1 hk1 hS1 => ?_)
  obtain ⟨w1x, hp1, hP1, hD1⟩ := hB
  rw [ht] at hP1
  subst hw
  exact k w1x hp1 H1 locs1 ls hP1 (hD1.weaken (fun _ q _ h => hF q.1 h)) hS1 hl
theorem q_cNL (C : CX p l s m args meth c cc n own Ts ret D cI cJ cN A) {y : MethodName} {wsy : List Cond} {fr lo : Nat} {As : List Value} {wc w1 : va_W} {r : Int64} {bytes : ByteArray} {maxL : Nat} {rt : Option FieldType} {index nA : Nat} {host : String}  (hM : ML l D cI cJ cN y wsy { frames := fr, cells := 0, slots := 0, locals := lo } As wc r (fun w => w = w1)) (cw : (va_CN R s args own index y host bytes maxL rt wsy { frames := fr, cells := 0, slots := 0, locals := lo } 0 0 nA ∧ (Cond.static y).before args s = true ∧ True)) (is : List Nat) (hC : is.map (fun i => ws[i]?) = wc.map some) (hnd : va_nd is = true) (had : w1.map (fun q => q.1) = wc.map (fun q => q.1)) (hs : setMany ws is w1 = ws') (hnA : As.length = nA) {st0 : List Value} (hst : st0 = As.reverse ++ st) (hroom : (st.map fun v => v.category).sum ≤ 8) (hd : decode cc pc = .ok (.invokestatic index, 3)) (hf : cells ≤ R.cells ∧ slots ≤ R.slots)  (k : WW p l e R s m args below meth c D n A cells slots Q (pc + 3) lv (.long r :: st) ws') : WW p l e R s m args below meth c D n A cells slots Q pc lv st0 ws := by
  intro H locs ls hP hD hS hl
  have hPc : va_P D vwCl wc H := fun k0 q h => by
    have h5 : (is.map (fun i => ws[i]?))[k0]? = some (some q) := by rw [hC, List.getElem?_map, h]; rfl
    rw [List.getElem?_map] at h5
    cases h6 : is[k0]? with
    | none => rw [h6] at h5; cases h5
    | some k2 => rw [h6] at h5; exact hP k2 q (Option.some.inj h5)
  have hDc := hD.sub is hnd hC
  have hF := va_A_free hD hS C.2.2.2.2.2.2.2.1 is hC
  refine va_calll (va_runSN (As := As) (rest := st) ⟨C.1, C.2.1, C.2.2.1, C.2.2.2.1, C.2.2.2.2.1⟩ (hM H.size) cw ⟨preB_blind, preB_mk C.2.2.2.2.2.1 C.2.2.2.2.2.2.1 hPc hDc⟩ rfl hnA hl.1 hst (lv_room hroom) hd hf) hS (fun q _ h => hF q h) hF (fun r0 u t H1 locs1 ht hvm hw hB hz1 hk1 hS1 => ?_)
  obtain ⟨w1x, hp1, hP1, hD1⟩ := hB
  rw [ht] at hP1
  subst hw
  subst hp1
  obtain ⟨hPn, hDn⟩ := join_set hP hD is hC hnd had hk1 hP1
  rw [hs] at hPn hDn
  exact k H1 locs1 ls hPn hDn hS1 hl
theorem q_cNLw (C : CX p l s m args meth c cc n own Ts ret D cI cJ cN A) {y : MethodName} {wsy : List Cond} {rm : Room} {As : List Value} {P1 : va_W → Prop} {r : Int64} {bytes : ByteArray} {maxL : Nat} {rt : Option FieldType} {index nA : Nat} {host : String}  (hM : ML l D cI cJ cN y wsy rm As ws r P1) (cw : (va_CN R s args own index y host bytes maxL rt wsy rm rm.cells rm.slots nA ∧ (Cond.static y).before args s = true ∧ True)) (hnA : As.length = nA) {st0 : List Value} (hst : st0 = As.reverse ++ st) (hroom : (st.map fun v => v.category).sum ≤ 8) (hd : decode cc pc = .ok (.invokestatic index, 3)) (hf : cells + rm.cells ≤ R.cells ∧ slots + rm.slots ≤ R.slots)  (k : ∀ w1, P1 w1 → WW p l e R s m args below meth c D n A (cells + rm.cells) (slots + rm.slots) Q (pc + 3) lv (.long r :: st) w1) : WW p l e R s m args below meth c D n A cells slots Q pc lv st0 ws := by
  intro H locs ls hP hD hS hl
  have hPc := hP
  have hDc := hD
  have hF := va_A_freeW hD hS C.2.2.2.2.2.2.2.1
  refine va_calll (va_runSN (As := As) (rest := st) ⟨C.1, C.2.1, C.2.2.1, C.2.2.2.1, C.2.2.2.2.1⟩ (hM H.size) cw ⟨preB_blind, preB_mk C.2.2.2.2.2.1 C.2.2.2.2.2.2.1 hPc hDc⟩ rfl hnA hl.1 hst (lv_room hroom) hd hf) hS (fun q _ h => hF q h) hF (fun r0 u t H1 locs1 ht hvm hw hB hz1 hk1 hS1 => ?_)
  obtain ⟨w1x, hp1, hP1, hD1⟩ := hB
  rw [ht] at hP1
  subst hw
  exact k w1x hp1 H1 locs1 ls hP1 (hD1.weaken (fun _ q _ h => hF q.1 h)) hS1 hl
theorem q_cNF (C : CX p l s m args meth c cc n own Ts ret D cI cJ cN A) {y : MethodName} {wsy : List Cond} {fr lo : Nat} {As : List Value} {wc w1 : va_W} {r : UInt32} {bytes : ByteArray} {maxL : Nat} {rt : Option FieldType} {index nA : Nat} {host : String}  (hM : MF l D cI cJ cN y wsy { frames := fr, cells := 0, slots := 0, locals := lo } As wc r (fun w => w = w1)) (cw : (va_CN R s args own index y host bytes maxL rt wsy { frames := fr, cells := 0, slots := 0, locals := lo } 0 0 nA ∧ (Cond.static y).before args s = true ∧ True)) (is : List Nat) (hC : is.map (fun i => ws[i]?) = wc.map some) (hnd : va_nd is = true) (had : w1.map (fun q => q.1) = wc.map (fun q => q.1)) (hs : setMany ws is w1 = ws') (hnA : As.length = nA) {st0 : List Value} (hst : st0 = As.reverse ++ st) (hroom : (st.map fun v => v.category).sum ≤ 8) (hd : decode cc pc = .ok (.invokestatic index, 3)) (hf : cells ≤ R.cells ∧ slots ≤ R.slots)  (k : WW p l e R s m args below meth c D n A cells slots Q (pc + 3) lv (.float r :: st) ws') : WW p l e R s m args below meth c D n A cells slots Q pc lv st0 ws := by
  intro H locs ls hP hD hS hl
  have hPc : va_P D vwCl wc H := fun k0 q h => by
    have h5 : (is.map (fun i => ws[i]?))[k0]? = some (some q) := by rw [hC, List.getElem?_map, h]; rfl
    rw [List.getElem?_map] at h5
    cases h6 : is[k0]? with
    | none => rw [h6] at h5; cases h5
    | some k2 => rw [h6] at h5; exact hP k2 q (Option.some.inj h5)
  have hDc := hD.sub is hnd hC
  have hF := va_A_free hD hS C.2.2.2.2.2.2.2.1 is hC
  refine va_callf (va_runSN (As := As) (rest := st) ⟨C.1, C.2.1, C.2.2.1, C.2.2.2.1, C.2.2.2.2.1⟩ (hM H.size) cw ⟨preB_blind, preB_mk C.2.2.2.2.2.1 C.2.2.2.2.2.2.1 hPc hDc⟩ rfl hnA hl.1 hst (lv_room hroom) hd hf) hS (fun q _ h => hF q h) hF (fun r0 u t H1 locs1 ht hvm hw hB hz1 hk1 hS1 => ?_)
  obtain ⟨w1x, hp1, hP1, hD1⟩ := hB
  rw [ht] at hP1
  subst hw
  subst hp1
  obtain ⟨hPn, hDn⟩ := join_set hP hD is hC hnd had hk1 hP1
  rw [hs] at hPn hDn
  exact k H1 locs1 ls hPn hDn hS1 hl
theorem q_cNFw (C : CX p l s m args meth c cc n own Ts ret D cI cJ cN A) {y : MethodName} {wsy : List Cond} {rm : Room} {As : List Value} {P1 : va_W → Prop} {r : UInt32} {bytes : ByteArray} {maxL : Nat} {rt : Option FieldType} {index nA : Nat} {host : String}  (hM : MF l D cI cJ cN y wsy rm As ws r P1) (cw : (va_CN R s args own index y host bytes maxL rt wsy rm rm.cells rm.slots nA ∧ (Cond.static y).before args s = true ∧ True)) (hnA : As.length = nA) {st0 : List Value} (hst : st0 = As.reverse ++ st) (hroom : (st.map fun v => v.category).sum ≤ 8) (hd : decode cc pc = .ok (.invokestatic index, 3)) (hf : cells + rm.cells ≤ R.cells ∧ slots + rm.slots ≤ R.slots)  (k : ∀ w1, P1 w1 → WW p l e R s m args below meth c D n A (cells + rm.cells) (slots + rm.slots) Q (pc + 3) lv (.float r :: st) w1) : WW p l e R s m args below meth c D n A cells slots Q pc lv st0 ws := by
  intro H locs ls hP hD hS hl
  have hPc := hP
  have hDc := hD
  have hF := va_A_freeW hD hS C.2.2.2.2.2.2.2.1
  refine va_callf (va_runSN (As := As) (rest := st) ⟨C.1, C.2.1, C.2.2.1, C.2.2.2.1, C.2.2.2.2.1⟩ (hM H.size) cw ⟨preB_blind, preB_mk C.2.2.2.2.2.1 C.2.2.2.2.2.2.1 hPc hDc⟩ rfl hnA hl.1 hst (lv_room hroom) hd hf) hS (fun q _ h => hF q h) hF (fun r0 u t H1 locs1 ht hvm hw hB hz1 hk1 hS1 => ?_)
  obtain ⟨w1x, hp1, hP1, hD1⟩ := hB
  rw [ht] at hP1
  subst hw
  exact k w1x hp1 H1 locs1 ls hP1 (hD1.weaken (fun _ q _ h => hF q.1 h)) hS1 hl
theorem q_cNV (C : CX p l s m args meth c cc n own Ts ret D cI cJ cN A) {y : MethodName} {wsy : List Cond} {fr lo : Nat} {As : List Value} {wc w1 : va_W}  {bytes : ByteArray} {maxL : Nat} {rt : Option FieldType} {index nA : Nat} {host : String}  (hM : MV l D cI cJ cN y wsy { frames := fr, cells := 0, slots := 0, locals := lo } As wc (fun w => w = w1)) (cw : (va_CN R s args own index y host bytes maxL rt wsy { frames := fr, cells := 0, slots := 0, locals := lo } 0 0 nA ∧ (Cond.static y).before args s = true ∧ True)) (is : List Nat) (hC : is.map (fun i => ws[i]?) = wc.map some) (hnd : va_nd is = true) (had : w1.map (fun q => q.1) = wc.map (fun q => q.1)) (hs : setMany ws is w1 = ws') (hnA : As.length = nA) {st0 : List Value} (hst : st0 = As.reverse ++ st) (hroom : (st.map fun v => v.category).sum ≤ 8) (hd : decode cc pc = .ok (.invokestatic index, 3)) (hf : cells ≤ R.cells ∧ slots ≤ R.slots)  (k : WW p l e R s m args below meth c D n A cells slots Q (pc + 3) lv st ws') : WW p l e R s m args below meth c D n A cells slots Q pc lv st0 ws := by
  intro H locs ls hP hD hS hl
  have hPc : va_P D vwCl wc H := fun k0 q h => by
    have h5 : (is.map (fun i => ws[i]?))[k0]? = some (some q) := by rw [hC, List.getElem?_map, h]; rfl
    rw [List.getElem?_map] at h5
    cases h6 : is[k0]? with
    | none => rw [h6] at h5; cases h5
    | some k2 => rw [h6] at h5; exact hP k2 q (Option.some.inj h5)
  have hDc := hD.sub is hnd hC
  have hF := va_A_free hD hS C.2.2.2.2.2.2.2.1 is hC
  refine va_callv (va_runSN (As := As) (rest := st) ⟨C.1, C.2.1, C.2.2.1, C.2.2.2.1, C.2.2.2.2.1⟩ (hM H.size) cw ⟨preB_blind, preB_mk C.2.2.2.2.2.1 C.2.2.2.2.2.2.1 hPc hDc⟩ rfl hnA hl.1 hst (lv_room hroom) hd hf) hS (fun q _ h => hF q h) hF (fun u t H1 locs1 ht hvm hw hB hz1 hk1 hS1 => ?_)
  obtain ⟨w1x, hp1, hP1, hD1⟩ := hB
  rw [ht] at hP1
  subst hp1
  obtain ⟨hPn, hDn⟩ := join_set hP hD is hC hnd had hk1 hP1
  rw [hs] at hPn hDn
  exact k H1 locs1 ls hPn hDn hS1 hl
theorem q_cNVw (C : CX p l s m args meth c cc n own Ts ret D cI cJ cN A) {y : MethodName} {wsy : List Cond} {rm : Room} {As : List Value} {P1 : va_W → Prop}  {bytes : ByteArray} {maxL : Nat} {rt : Option FieldType} {index nA : Nat} {host : String}  (hM : MV l D cI cJ cN y wsy rm As ws P1) (cw : (va_CN R s args own index y host bytes maxL rt wsy rm rm.cells rm.slots nA ∧ (Cond.static y).before args s = true ∧ True)) (hnA : As.length = nA) {st0 : List Value} (hst : st0 = As.reverse ++ st) (hroom : (st.map fun v => v.category).sum ≤ 8) (hd : decode cc pc = .ok (.invokestatic index, 3)) (hf : cells + rm.cells ≤ R.cells ∧ slots + rm.slots ≤ R.slots)  (k : ∀ w1, P1 w1 → WW p l e R s m args below meth c D n A (cells + rm.cells) (slots + rm.slots) Q (pc + 3) lv st w1) : WW p l e R s m args below meth c D n A cells slots Q pc lv st0 ws := by
  intro H locs ls hP hD hS hl
  have hPc := hP
  have hDc := hD
  have hF := va_A_freeW hD hS C.2.2.2.2.2.2.2.1
  refine va_callv (va_runSN (As := As) (rest := st) ⟨C.1, C.2.1, C.2.2.1, C.2.2.2.1, C.2.2.2.2.1⟩ (hM H.size) cw ⟨preB_blind, preB_mk C.2.2.2.2.2.1 C.2.2.2.2.2.2.1 hPc hDc⟩ rfl hnA hl.1 hst (lv_room hroom) hd hf) hS (fun q _ h => hF q h) hF (fun u t H1 locs1 ht hvm hw hB hz1 hk1 hS1 => ?_)
  obtain ⟨w1x, hp1, hP1, hD1⟩ := hB
  rw [ht] at hP1
  exact k w1x hp1 H1 locs1 ls hP1 (hD1.weaken (fun _ q _ h => hF q.1 h)) hS1 hl
theorem mkV {y0 y : MethodName} {cc0 bytes : ByteArray} {n0 maxL i nA fr ce sl lo : Nat} {ret0 rt : Option FieldType} (C : CX p l s m args meth c cc n own (WS y0 cc0 n0 ret0) ret D cI cJ cN A) {Cn : String} (hc : Cond.code y bytes maxL rt ∈ WT) (hm : Cond.methodLink own i y ∈ WT) (hi : Cond.instanceMethod y ∈ WT) (he : Cond.selects Cn y y ∈ WT) (hn : Cond.initialized y.cls ∈ WT) (hd : y.cls ≠ "java/lang/invoke/MethodHandle" ∧ y.cls ≠ "java/lang/invoke/VarHandle" ∧ (parseMethodDescriptor y.desc).map (fun d => d.parameters.length) = some nA) (hR : fr + 1 ≤ R.frames ∧ 8 + (maxL + 11) + lo ≤ R.locals) : CallW R s args own Cn i y bytes maxL rt (WS y bytes maxL rt) { frames := fr, cells := ce, slots := sl, locals := lo } ce sl nA := ⟨callB_of nA C.2.2.2.2.1 (ws_good hc) rfl rfl rfl (C.2.2.2.2.1 _ (ws_in hn)) (C.2.2.2.2.1 _ (ws_in hm)) hd hR, C.2.2.2.2.1 _ (ws_in hi), C.2.2.2.2.1 _ (ws_in he)⟩
theorem mkS {y0 y : MethodName} {cc0 bytes : ByteArray} {n0 maxL i nA fr ce sl lo : Nat} {ret0 rt : Option FieldType} (C : CX p l s m args meth c cc n own (WS y0 cc0 n0 ret0) ret D cI cJ cN A) (hc : Cond.code y bytes maxL rt ∈ WT) (hm : Cond.methodLink own i y ∈ WT) (hi : Cond.static y ∈ WT) (hn : Cond.initialized y.cls ∈ WT) (hd : y.cls ≠ "java/lang/invoke/MethodHandle" ∧ y.cls ≠ "java/lang/invoke/VarHandle" ∧ (parseMethodDescriptor y.desc).map (fun d => d.parameters.length) = some nA) (hR : fr + 1 ≤ R.frames ∧ 8 + (maxL + 11) + lo ≤ R.locals) : CallB R s args own i y bytes maxL rt (WS y bytes maxL rt) { frames := fr, cells := ce, slots := sl, locals := lo } ce sl nA ∧ (Cond.static y).before args s = true := ⟨callB_of nA C.2.2.2.2.1 (ws_good hc) rfl rfl rfl (C.2.2.2.2.1 _ (ws_in hn)) (C.2.2.2.2.1 _ (ws_in hm)) hd hR, C.2.2.2.2.1 _ (ws_in hi)⟩
theorem mkN {y0 y : MethodName} {cc0 bytes : ByteArray} {n0 maxL i nA fr ce sl lo : Nat} {ret0 rt : Option FieldType} (C : CX p l s m args meth c cc n own (WS y0 cc0 n0 ret0) ret D cI cJ cN A) {host : String} (kn : Nat) (hk : nwL[kn]? = some (.methodLinkNest own i y host)) (hc : Cond.code y bytes maxL rt ∈ WT) (hi : Cond.static y ∈ WT) (hn : Cond.initialized y.cls ∈ WT) (hd : y.cls ≠ "java/lang/invoke/MethodHandle" ∧ y.cls ≠ "java/lang/invoke/VarHandle" ∧ (parseMethodDescriptor y.desc).map (fun d => d.parameters.length) = some nA) (hR : fr + 1 ≤ R.frames ∧ 8 + (maxL + 11) + lo ≤ R.locals) : va_CN R s args own i y host bytes maxL rt (WS y bytes maxL rt) { frames := fr, cells := ce, slots := sl, locals := lo } ce sl nA ∧ (Cond.static y).before args s = true ∧ True := ⟨va_cnB nA C.2.2.2.2.1 (ws_good hc) rfl rfl rfl (C.2.2.2.2.2.2.1.nest kn hk) (C.2.2.2.2.1 _ (ws_in hn)) hd hR, C.2.2.2.2.1 _ (ws_in hi), trivial⟩
theorem mkI {y0 y : MethodName} {cc0 bytes : ByteArray} {n0 maxL i nA fr ce sl lo : Nat} {ret0 rt : Option FieldType} (C : CX p l s m args meth c cc n own (WS y0 cc0 n0 ret0) ret D cI cJ cN A) (hc : Cond.code y bytes maxL none ∈ WT) (hm : Cond.methodLink own i y ∈ WT) (hi : Cond.instanceMethod y ∈ WT) (hn : Cond.initialized y.cls ∈ WT) (hy1 : y.name = "<init>") (hd : y.cls ≠ "java/lang/invoke/MethodHandle" ∧ y.cls ≠ "java/lang/invoke/VarHandle" ∧ (parseMethodDescriptor y.desc).map (fun d => d.parameters.length) = some nA) (hR : fr + 1 ≤ R.frames ∧ 8 + (maxL + 11) + lo ≤ R.locals) : CallB R s args own i y bytes maxL none (WS y bytes maxL none) { frames := fr, cells := ce, slots := sl, locals := lo } ce sl nA ∧ y.name = "<init>" ∧ (Cond.instanceMethod y).before args s = true := ⟨callB_of nA C.2.2.2.2.1 (ws_good hc) rfl rfl rfl (C.2.2.2.2.1 _ (ws_in hn)) (C.2.2.2.2.1 _ (ws_in hm)) hd hR, hy1, C.2.2.2.2.1 _ (ws_in hi)⟩
theorem uW {C : String} {T : u_T} {N : Nat} {y0 : MethodName} {cc0 : ByteArray} {n0 : Nat} {ret0 : Option FieldType} (h : ∀ w ∈ u_ws C T N, w ∈ WT) : ∀ w ∈ u_ws C T N, w ∈ WS y0 cc0 n0 ret0 := fun w hw => ws_in (h w hw)
theorem q_mabs (C : CX p l s m args meth c cc n own Ts ret D cI cJ cN A) {index : Nat} {x : Int32} (hlink : Cond.methodLink own index Lib.Math.abs.name ∈ Ts) (hstat : Cond.static Lib.Math.abs.name ∈ Ts) (hini : Cond.initialized "java/lang/Math" ∈ Ts) (hcode : Cond.code Lib.Math.abs.name Lib.Math.abs.code 1 (some .int) ∈ Ts) (hframes : 1 ≤ R.frames) (hlocals : (st.map fun v => v.category).sum + 13 ≤ R.locals) (hf : cells ≤ R.cells ∧ slots ≤ R.slots) (hd : decode cc pc = .ok (.invokestatic index, 3)) (k : WW p l e R s m args below meth c D n A cells slots Q (pc + 3) lv (.int (if 0 ≤ x then x else 0 - x) :: st) ws) : WW p l e R s m args below meth c D n A cells slots Q pc lv (.int x :: st) ws := fun H locs ls hP hD hS hl => va_mabs C.1 C.2.1 (C.2.2.1.trans hl.1.symm) C.2.2.2.1 (C.2.2.2.2.1 _ hlink) (C.2.2.2.2.1 _ hstat) (C.2.2.2.2.1 _ hini) (C.2.2.2.2.1 _ hcode) hframes hlocals hf.1 hf.2 hd (k H locs ls hP hD hS hl)
theorem q_mmax (C : CX p l s m args meth c cc n own Ts ret D cI cJ cN A) {index : Nat} {x y : Int32} (hlink : Cond.methodLink own index Lib.Math.max.name ∈ Ts) (hstat : Cond.static Lib.Math.max.name ∈ Ts) (hini : Cond.initialized "java/lang/Math" ∈ Ts) (hcode : Cond.code Lib.Math.max.name Lib.Math.max.code 2 (some .int) ∈ Ts) (hframes : 1 ≤ R.frames) (hlocals : (st.map fun v => v.category).sum + 13 ≤ R.locals) (hf : cells ≤ R.cells ∧ slots ≤ R.slots) (hd : decode cc pc = .ok (.invokestatic index, 3)) (k : WW p l e R s m args below meth c D n A cells slots Q (pc + 3) lv (.int (if x < y then y else x) :: st) ws) : WW p l e R s m args below meth c D n A cells slots Q pc lv (.int y :: .int x :: st) ws := fun H locs ls hP hD hS hl => va_mmax C.1 C.2.1 (C.2.2.1.trans hl.1.symm) C.2.2.2.1 (C.2.2.2.2.1 _ hlink) (C.2.2.2.2.1 _ hstat) (C.2.2.2.2.1 _ hini) (C.2.2.2.2.1 _ hcode) hframes hlocals hf.1 hf.2 hd (k H locs ls hP hD hS hl)
theorem q_ifnonnull (C : CX p l s m args meth c cc n own Ts ret D cI cJ cN A) {x : Nat} {off : Int} (tgt : Nat) (hd : decode cc pc = .ok (.ifnonnull off, 3)) (ht : (pc : Int) + off = (tgt : Int)) (k : WW p l e R s m args below meth c D n A cells slots Q tgt lv st ws) : WW p l e R s m args below meth c D n A cells slots Q pc lv (.ref x :: st) ws := fun H locs ls hP hD hS hl => lv_ifnonnull C.1 C.2.1 hd ht (k H locs ls hP hD hS hl)
theorem q_ifnonnullN (C : CX p l s m args meth c cc n own Ts ret D cI cJ cN A) {off : Int} (hd : decode cc pc = .ok (.ifnonnull off, 3)) (k : WW p l e R s m args below meth c D n A cells slots Q (pc + 3) lv st ws) : WW p l e R s m args below meth c D n A cells slots Q pc lv (.null :: st) ws := fun H locs ls hP hD hS hl => lv_ifnonnullN C.1 C.2.1 hd (k H locs ls hP hD hS hl)
theorem q_topi {x y : Int32} (h : y = x) (k : WW p l e R s m args below meth c D n A cells slots Q pc lv (.int y :: st) ws) : WW p l e R s m args below meth c D n A cells slots Q pc lv (.int x :: st) ws := h ▸ k
theorem q_topl {x y : Int64} (h : y = x) (k : WW p l e R s m args below meth c D n A cells slots Q pc lv (.long y :: st) ws) : WW p l e R s m args below meth c D n A cells slots Q pc lv (.long x :: st) ws := h ▸ k
theorem ifT {α : Type} {c : Prop} [Decidable c] {a b : Option α} {r : α} (h : (if c then a else b) = some r) (hc : c) : a = some r := by rw [if_pos hc] at h; exact h
theorem ifF {α : Type} {c : Prop} [Decidable c] {a b : Option α} {r : α} (h : (if c then a else b) = some r) (hc : ¬ c) : b = some r := by rw [if_neg hc] at h; exact h
def bindv {α β : Type} (x : α) (k : α → Option β) : Option β := k x
theorem bndv {α β : Type} {x : α} {k : α → Option β} {r : β} (h : bindv x k = some r) : ∃ a, a = x ∧ k a = some r := ⟨x, rfl, h⟩
def nfB (x : UInt32) : Bool := decide (x &&& 0x7fffffff ≤ 0x7f800000)
theorem nfB_ok {x : UInt32} (h : nfB x = true) : vf_n32 x := by
  unfold nfB at h
  unfold vf_n32
  exact of_decide_eq_true h
/-- turns enough for every loop -/
def FU : Nat := 5000
end QROWS
