/-! copies: rows are copied whole; the world says no more of them than their places hold -/
theorem inB_nI {i n : Nat} (h : i < n) (hn : n < 2 ^ 31) : inB (nI i) n = true := by
  unfold inB
  have h1 : ¬ nI i < 0 := nI_pos (by omega)
  have h2 : (nI i).toNatClampNeg = i := nI_clamp (by omega)
  simp [h1, h2]
  omega
theorem gd_t {α : Type} {b : Bool} {k : Option α} (h : b = true) : gd b k = k := by unfold gd; rw [if_pos h]
theorem copyRow_at (k : Nat) (hk : k < 4000) (f0 : Nat → Int32) : ∀ (fu i : Nat) (f1 : Nat → Int32), i ≤ k → k - i < fu → ∃ g, g_X2_copyRow_2 k k fu f0 f1 (nI i) = some g ∧ (∀ j, i ≤ j → j < k → g j = f0 j) ∧ ∀ j, j < i → g j = f1 j := by
  intro fu
  induction fu with
  | zero => intro i f1 h1 h2; omega
  | succ fu ih =>
    intro i f1 h1 h2
    rw [g_X2_copyRow_2]
    by_cases hi : k ≤ i
    · rw [if_pos ((nI_leI (by omega) (by omega)).mpr hi)]
      exact ⟨f1, rfl, fun j a b => by omega, fun _ _ => rfl⟩
    · have hlt : i < k := by omega
      rw [if_neg (fun h => hi ((nI_leI (by omega) (by omega)).mp h)), if_neg (fun h => hi ((nI_leI (by omega) (by omega)).mp h)), gd_t (inB_nI hlt (by omega)), gd_t (inB_nI hlt (by omega)), nI_1, nI_clamp (by omega)]
      obtain ⟨g, e1, e2, e3⟩ := ih (i + 1) (upd f1 i (f0 i)) (by omega) (by omega)
      refine ⟨g, e1, fun j a b => ?_, fun j a => ?_⟩
      · by_cases hj : j = i
        · subst hj
          rw [e3 j (by omega)]
          simp [upd]
        · exact e2 j (by omega) b
      · rw [e3 j (by omega)]
        simp [upd]
        omega
theorem copyRow_ok (k : Nat) (hk : k < 4000) (f0 f1 : Nat → Int32) : ∃ g, f_X2_copyRow k k f0 f1 = some g ∧ ∀ j, j < k → g j = f0 j := by
  obtain ⟨g, e1, e2, -⟩ := copyRow_at k hk f0 FU 0 f1 (by omega) (by unfold FU; omega)
  exact ⟨g, by rw [f_X2_copyRow]; exact e1, fun j h => e2 j (by omega) h⟩
/-- two networks of which the world says the same -/
def NEq (a b : NS) : Prop := a.1 = b.1 ∧ a.2.1 = b.2.1 ∧ a.2.2.1 = b.2.2.1 ∧ (∀ j, j < 49 → a.2.2.2.1 j = b.2.2.2.1 j) ∧ (∀ j, j < 49 → a.2.2.2.2.1 j = b.2.2.2.2.1 j) ∧ (∀ j, j < 49 → a.2.2.2.2.2.1 j = b.2.2.2.2.2.1 j) ∧ (∀ j, j < 49 → a.2.2.2.2.2.2.1 j = b.2.2.2.2.2.2.1 j) ∧ (∀ j, j < 147 → a.2.2.2.2.2.2.2.1 j = b.2.2.2.2.2.2.2.1 j) ∧ ∀ j, j < 4 → a.2.2.2.2.2.2.2.2 j = b.2.2.2.2.2.2.2.2 j
theorem copyFrom_ok (N O : NS) : ∃ z, f_X0_copyFrom N O = some z ∧ NEq z O := by
  obtain ⟨g1, e1, h1⟩ := copyRow_ok 49 (by omega) O.2.2.2.1 N.2.2.2.1
  obtain ⟨g2, e2, h2⟩ := copyRow_ok 49 (by omega) O.2.2.2.2.1 N.2.2.2.2.1
  obtain ⟨g3, e3, h3⟩ := copyRow_ok 49 (by omega) O.2.2.2.2.2.1 N.2.2.2.2.2.1
  obtain ⟨g4, e4, h4⟩ := copyRow_ok 49 (by omega) O.2.2.2.2.2.2.1 N.2.2.2.2.2.2.1
  obtain ⟨g5, e5, h5⟩ := copyRow_ok 147 (by omega) O.2.2.2.2.2.2.2.1 N.2.2.2.2.2.2.2.1
  obtain ⟨g6, e6, h6⟩ := copyRow_ok 4 (by omega) O.2.2.2.2.2.2.2.2 N.2.2.2.2.2.2.2.2
  refine ⟨(O.1, O.2.1, O.2.2.1, g1, g2, g3, g4, g5, g6), ?_, rfl, rfl, rfl, h1, h2, h3, h4, h5, h6⟩
  rw [f_X0_copyFrom, e1, Option.bind_some, e2, Option.bind_some, e3, Option.bind_some, e4, Option.bind_some, e5, Option.bind_some, e6, Option.bind_some]
theorem at_i {D : va_G} {cI : ClassId} {a n : Nat} {f g : Nat → Int32} {H : Heap} (h : ∀ j, j < n → f j = g j) (p : va_at D vwCl (a, .inl (cI, n, .inl f)) H) : va_at D vwCl (a, .inl (cI, n, .inl g)) H := (show H[a]? = some (vp_cell cI (n, .inl f)) from p).trans (by rw [cell_i h])
theorem wNet_at {D : va_G} {cI : ClassId} {n0 n1 n2 n3 n4 n5 n6 : Nat} {a b : NS} (h : NEq a b) {H : Heap} : ∀ q ∈ wNet cI n0 n1 n2 n3 n4 n5 n6 b, (∀ q ∈ wNet cI n0 n1 n2 n3 n4 n5 n6 a, va_at D vwCl q H) → va_at D vwCl q H := by
  obtain ⟨a1, a2, a3, a4, a5, a6, a7, a8, a9⟩ := a
  obtain ⟨b1, b2, b3, b4, b5, b6, b7, b8, b9⟩ := b
  obtain ⟨h1, h2, h3, h4, h5, h6, h7, h8, h9⟩ := h
  dsimp only at h1 h2 h3 h4 h5 h6 h7 h8 h9
  subst h1; subst h2; subst h3
  intro q hq hP
  simp only [wNet, List.mem_cons, List.not_mem_nil, or_false, forall_eq_or_imp, forall_eq] at hq hP
  obtain ⟨p0, p1, p2, p3, p4, p5, p6⟩ := hP
  rcases hq with rfl | rfl | rfl | rfl | rfl | rfl | rfl
  · exact p0
  · exact at_i h4 p1
  · exact at_i h5 p2
  · exact at_i h6 p3
  · exact at_i h7 p4
  · exact at_i h8 p5
  · exact at_i h9 p6
theorem wNet_congr {D : va_G} {cI : ClassId} {n0 n1 n2 n3 n4 n5 n6 : Nat} {a b : NS} (h : NEq a b) {wl wr : va_W} : ∀ H, va_P D vwCl (wl ++ (wNet cI n0 n1 n2 n3 n4 n5 n6 a ++ wr)) H → va_P D vwCl (wl ++ (wNet cI n0 n1 n2 n3 n4 n5 n6 b ++ wr)) H := by
  intro H hP
  have hP := va_P_iff.mp hP
  refine va_P_iff.mpr (fun q hq => ?_)
  rcases List.mem_append.mp hq with hq | hq
  · exact hP q (List.mem_append_left _ hq)
  · rcases List.mem_append.mp hq with hq | hq
    · exact wNet_at h q hq (fun q hq => hP q (List.mem_append_right _ (List.mem_append_left _ hq)))
    · exact hP q (List.mem_append_right _ (List.mem_append_right _ hq))
theorem slotVal_setP {V : HS} {N : NS} {k : Nat} (hk : k < 8) (j : Nat) : slotVal (V.1, (fun j => if j = k then some N else V.2.1 j), V.2.2) j = if j = k then some N else slotVal V j := by
  unfold slotVal
  by_cases h : j < 8
  · simp [h]
  · have : j ≠ k := by omega
    simp [h, this]
theorem slotVal_setI {V : HS} {N : NS} {k : Nat} (j : Nat) : slotVal (V.1, V.2.1, (fun j => if j = k then some N else V.2.2 j)) j = if j = 8 + k then some N else slotVal V j := by
  unfold slotVal
  by_cases h : j < 8
  · have : j ≠ 8 + k := by omega
    simp [h, this]
  · by_cases h2 : j = 8 + k
    · subst h2
      have h3 : ¬ 8 + k < 8 := by omega
      simp [h3]
    · have : j - 8 ≠ k := by omega
      simp [h, h2, this]
theorem slotRef_upP {rp ri : Nat → Option Nat} {r k : Nat} (hk : k < 8) (j : Nat) : slotRef (va_up rp k (some r)) ri j = if j = k then some r else slotRef rp ri j := by
  unfold slotRef va_up
  by_cases h : j < 8
  · simp [h]
  · have : j ≠ k := by omega
    simp [h, this]
theorem slotRef_upI {rp ri : Nat → Option Nat} {r k : Nat} (j : Nat) : slotRef rp (va_up ri k (some r)) j = if j = 8 + k then some r else slotRef rp ri j := by
  unfold slotRef va_up
  by_cases h : j < 8
  · have : j ≠ 8 + k := by omega
    simp [h, this]
  · by_cases h2 : j = 8 + k
    · subst h2
      have h3 : ¬ 8 + k < 8 := by omega
      simp [h3]
    · have : j - 8 ≠ k := by omega
      simp [h, h2, this]
theorem pool_put {cI : ClassId} {V V' : HS} {rp ri rp' ri' : Nat → Option Nat} {s : Nat} {ad : Nat → Nat} {N : NS} (L0 : List (Nat × (Nat → Nat) × NS)) (hs : s < 10) (hnd : (L0.map (fun q => q.1)).Nodup) (hns : ∀ q ∈ L0, q.1 ≠ s) (hL : ∀ q ∈ L0, q.1 < 10 ∧ slotRef rp ri q.1 = some (q.2.1 0) ∧ slotVal V q.1 = some q.2.2) (hno : ∀ k, k < 10 → k ≠ s → (∀ q ∈ L0, q.1 ≠ k) → slotRef rp ri k = none ∧ slotVal V k = none) (hv : ∀ j, slotVal V' j = if j = s then some N else slotVal V j) (hr : ∀ j, slotRef rp' ri' j = if j = s then some (ad 0) else slotRef rp ri j) : PoolOK cI V' rp' ri' (poolW cI ((s, ad, N) :: L0)) := by
  refine ⟨_, rfl, ?_, fun q hq => ?_, fun k hk hq => ?_⟩
  · rw [List.map_cons]
    refine List.nodup_cons.mpr ⟨fun h => ?_, hnd⟩
    obtain ⟨q, hq, e⟩ := List.mem_map.mp h
    exact hns q hq e
  · rcases List.mem_cons.mp hq with rfl | hq
    · exact ⟨hs, by rw [hr, if_pos rfl], by rw [hv, if_pos rfl]⟩
    · obtain ⟨a, b, c⟩ := hL q hq
      have := hns q hq
      exact ⟨a, by rw [hr, if_neg this]; exact b, by rw [hv, if_neg this]; exact c⟩
  · have h1 : k ≠ s := fun e => hq (s, ad, N) List.mem_cons_self e.symm
    obtain ⟨a, b⟩ := hno k hk h1 (fun q h => hq q (List.mem_cons_of_mem _ h))
    exact ⟨by rw [hr, if_neg h1]; exact a, by rw [hv, if_neg h1]; exact b⟩
theorem poolW_cons (cI : ClassId) (q : Nat × (Nat → Nat) × NS) (L : List (Nat × (Nat → Nat) × NS)) : poolW cI (q :: L) = wNetA cI q.2.1 q.2.2 ++ poolW cI L := List.flatMap_cons
theorem poolW_mid (cI : ClassId) (q : Nat × (Nat → Nat) × NS) (L1 L2 : List (Nat × (Nat → Nat) × NS)) : (poolW cI (L1 ++ q :: L2)).Perm (wNetA cI q.2.1 q.2.2 ++ poolW cI (L1 ++ L2)) := by
  unfold poolW
  rw [List.flatMap_append, List.flatMap_cons, List.flatMap_append, ← List.append_assoc, ← List.append_assoc]
  exact List.Perm.append_right _ List.perm_append_comm
/-- what stands ahead of the pool -/
def wX17 (cI cJ cN : ClassId) (x0 p0 i0 n0 n1 n2 n3 n4 n5 n6 s0 s1 s2 s3 s4 s5 s6 : Nat) (rp ri : Nat → Option Nat) (V : HS) (N : NS) (S : SS) : va_W := wXX cI cJ cN x0 p0 i0 n0 n1 n2 n3 n4 n5 n6 s0 s1 s2 s3 s4 s5 s6 rp ri [] V N S
theorem wXX_eq (cI cJ cN : ClassId) (x0 p0 i0 n0 n1 n2 n3 n4 n5 n6 s0 s1 s2 s3 s4 s5 s6 : Nat) (rp ri : Nat → Option Nat) (pl : va_W) (V : HS) (N : NS) (S : SS) : wXX cI cJ cN x0 p0 i0 n0 n1 n2 n3 n4 n5 n6 s0 s1 s2 s3 s4 s5 s6 rp ri pl V N S = wX17 cI cJ cN x0 p0 i0 n0 n1 n2 n3 n4 n5 n6 s0 s1 s2 s3 s4 s5 s6 rp ri V N S ++ pl := rfl
theorem wXX_perm {cI cJ cN : ClassId} {x0 p0 i0 n0 n1 n2 n3 n4 n5 n6 s0 s1 s2 s3 s4 s5 s6 : Nat} {rp ri : Nat → Option Nat} {wa pl pl2 : va_W} {V : HS} {N : NS} {S : SS} (h : pl.Perm (wa ++ pl2)) : (wXX cI cJ cN x0 p0 i0 n0 n1 n2 n3 n4 n5 n6 s0 s1 s2 s3 s4 s5 s6 rp ri pl V N S).Perm (wa ++ wXX cI cJ cN x0 p0 i0 n0 n1 n2 n3 n4 n5 n6 s0 s1 s2 s3 s4 s5 s6 rp ri pl2 V N S) := by
  rw [wXX_eq, wXX_eq]
  refine (List.Perm.append_left _ h).trans ?_
  rw [← List.append_assoc, ← List.append_assoc]
  exact List.Perm.append_right _ List.perm_append_comm
theorem pool_split {cI : ClassId} {V : HS} {rp ri : Nat → Option Nat} {pl : va_W} {k r : Nat} (hk : k < 10) (h : PoolOK cI V rp ri pl) (hr : slotRef rp ri k = some r) : ∃ (L1 L2 : List (Nat × (Nat → Nat) × NS)) (ad : Nat → Nat) (N : NS), pl = poolW cI (L1 ++ (k, ad, N) :: L2) ∧ ad 0 = r ∧ slotVal V k = some N ∧ ((L1 ++ L2).map (fun q => q.1)).Nodup ∧ (∀ q ∈ L1 ++ L2, q.1 ≠ k) ∧ (∀ q ∈ L1 ++ L2, q.1 < 10 ∧ slotRef rp ri q.1 = some (q.2.1 0) ∧ slotVal V q.1 = some q.2.2) ∧ ∀ j, j < 10 → j ≠ k → (∀ q ∈ L1 ++ L2, q.1 ≠ j) → slotRef rp ri j = none ∧ slotVal V j = none := by
  obtain ⟨L, rfl, hnd, hL, hno⟩ := h
  by_cases hq : ∀ q ∈ L, q.1 ≠ k
  · rw [(hno k hk hq).1] at hr; cases hr
  · simp only [Classical.not_forall] at hq
    obtain ⟨q, hq, he⟩ := hq
    have he : q.1 = k := Classical.not_not.mp he
    obtain ⟨L1, L2, rfl⟩ := List.append_of_mem hq
    obtain ⟨k', ad, N⟩ := q
    dsimp only at he
    subst he
    have h1 := hL _ hq
    have hp : (L1 ++ (k', ad, N) :: L2).Perm ((k', ad, N) :: (L1 ++ L2)) := List.perm_middle
    have hnd2 := (hp.map (fun q => q.1)).nodup_iff.mp hnd
    rw [List.map_cons] at hnd2
    have hnd3 := List.nodup_cons.mp hnd2
    refine ⟨L1, L2, ad, N, rfl, ?_, h1.2.2, hnd3.2, fun q h e => hnd3.1 (by rw [← e]; exact List.mem_map.mpr ⟨q, h, rfl⟩), fun q h => hL q (hp.mem_iff.mpr (List.mem_cons_of_mem _ h)), fun j hj hjk h => hno j hj (fun q hq2 => ?_)⟩
    · have := h1.2.1
      rw [hr] at this
      exact (Option.some.inj this).symm
    · rcases List.mem_cons.mp (hp.mem_iff.mp hq2) with rfl | h3
      · exact fun e => hjk e.symm
      · exact h q h3
theorem pool_none {cI : ClassId} {V : HS} {rp ri : Nat → Option Nat} {pl : va_W} {k : Nat} (h : PoolOK cI V rp ri pl) (hr : slotRef rp ri k = none) : ∃ L : List (Nat × (Nat → Nat) × NS), pl = poolW cI L ∧ (L.map (fun q => q.1)).Nodup ∧ (∀ q ∈ L, q.1 ≠ k) ∧ (∀ q ∈ L, q.1 < 10 ∧ slotRef rp ri q.1 = some (q.2.1 0) ∧ slotVal V q.1 = some q.2.2) ∧ ∀ j, j < 10 → j ≠ k → (∀ q ∈ L, q.1 ≠ j) → slotRef rp ri j = none ∧ slotVal V j = none := by
  obtain ⟨L, rfl, hnd, hL, hno⟩ := h
  exact ⟨L, rfl, hnd, fun q hq e => (by rw [← e, (hL q hq).2.1] at hr; cases hr), hL, fun j hj _ h => hno j hj h⟩
theorem init_ok : ∃ z, f_X0_init = some z := by
  have h : f_X0_init.isSome = true := by decide +kernel
  exact Option.isSome_iff_exists.mp h
/-- as XP, the images' places as they were -/
def XR (cI cJ cN : ClassId) (x0 p0 i0 n0 n1 n2 n3 n4 n5 n6 s0 s1 s2 s3 s4 s5 s6 : Nat) (ri : Nat → Option Nat) (V : HS) (N : NS) (S : SS) : va_W → Prop := fun w => ∃ (rp : Nat → Option Nat) (pl : va_W), PoolOK cI V rp ri pl ∧ w = wXX cI cJ cN x0 p0 i0 n0 n1 n2 n3 n4 n5 n6 s0 s1 s2 s3 s4 s5 s6 rp ri pl V N S
theorem pool_find {cI : ClassId} {V : HS} {rp ri : Nat → Option Nat} {pl : va_W} {k r : Nat} (hk : k < 10) (h : PoolOK cI V rp ri pl) (hr : slotRef rp ri k = some r) : ∃ (pos : Nat) (vs : List Value), pl[pos]? = some (r, .inr (0, vs)) := by
  obtain ⟨L1, L2, ad, N, rfl, rfl, -⟩ := pool_split hk h hr
  have hm : (ad 0, (.inr (0, [.int N.1, .int N.2.1, .long N.2.2.1, .ref (ad 1), .ref (ad 2), .ref (ad 3), .ref (ad 4), .ref (ad 5), .ref (ad 6)]) : va_E)) ∈ poolW cI (L1 ++ (k, ad, N) :: L2) := (poolW_mid cI (k, ad, N) L1 L2).mem_iff.mpr (List.mem_append_left _ List.mem_cons_self)
  obtain ⟨pos, hp⟩ := List.getElem?_of_mem hm
  exact ⟨pos, _, hp⟩
theorem pool_some {cI : ClassId} {V : HS} {rp ri : Nat → Option Nat} {pl : va_W} {k : Nat} {N : NS} (hk : k < 10) (h : PoolOK cI V rp ri pl) (hv : slotVal V k = some N) : ∃ r, slotRef rp ri k = some r := by
  cases hr : slotRef rp ri k with
  | some r => exact ⟨r, rfl⟩
  | none =>
    obtain ⟨L, -, -, hLs, hno⟩ := h
    exfalso
    have hq : ∀ q ∈ L, q.1 ≠ k := fun q hq e => by
      have h2 := (hLs q hq).2.1
      rw [e, hr] at h2
      cases h2
    have h3 := (hno k hk hq).2
    rw [hv] at h3
    cases h3
def rot {α : Type} (j : Nat) (f : Nat → α) : Nat → α := fun k => if k + 1 < j then f (k + 1) else if k + 1 = j then f 0 else f k
set_option maxRecDepth 100000 in
set_option maxHeartbeats 4000000 in
theorem c_X2_storeNow_p (l : Launch) (D : va_G) (cI cJ cN : ClassId) (x0 p0 i0 n0 n1 n2 n3 n4 n5 n6 s0 s1 s2 s3 s4 s5 s6 : Nat) (rp ri : Nat → Option Nat) (pl : va_W) (V : HS) (N : NS) (S : SS) (k : Nat) (hk : k < 8) (hpool : PoolOK cI V rp ri pl) : MV l D cI cJ cN yX2_storeNow (WS yX2_storeNow cX2_storeNow 4 none) { frames := 4, cells := 7, slots := 356, locals := 89 } [.ref x0, .ref p0, .int (nI k)] (wXX cI cJ cN x0 p0 i0 n0 n1 n2 n3 n4 n5 n6 s0 s1 s2 s3 s4 s5 s6 rp ri pl V N S) (XR cI cJ cN x0 p0 i0 n0 n1 n2 n3 n4 n5 n6 s0 s1 s2 s3 s4 s5 s6 ri (V.1, (fun j => if j = k then some N else V.2.1 j), V.2.2) N S) := by
  have hk31 : k < 2 ^ 31 := by omega
  refine q_startV (lv := [(0, .ref x0), (1, .ref p0), (2, .int (nI k))]) (by decide +kernel) rfl (Nat.le_of_ble_eq_true rfl) ?_
  intro p e s m below meth c C hin
  refine q_iload_n C dX2_storeNow_0 rfl 2 rfl ?_
  refine q_if_lt C 10 dX2_storeNow_1 (by decide) (fun h => absurd h (nI_pos hk31)) (fun _ => ?_)
  refine q_iload_n C dX2_storeNow_4 rfl 2 rfl ?_
  refine q_aload_n C dX2_storeNow_5 rfl 1 rfl ?_
  refine q_alenN C 1 rfl dX2_storeNow_6 ?_
  refine q_icmp_lt C 11 dX2_storeNow_7 (by decide) (fun _ => ?_) (fun h => absurd (nI_lt hk (by omega)) h)
  refine q_aload_n C dX2_storeNow_11 rfl 1 rfl ?_
  refine q_iload_n C dX2_storeNow_12 rfl 2 rfl ?_
  have hsl : slotRef rp ri (k) = rp k := by unfold slotRef; simp [hk]
  cases hr : rp k with
  | some r =>
    refine q_aaldS (r := r) C 1 rfl (inB_nI hk (by omega)) (by rw [nI_clamp hk31]; exact hr) dX2_storeNow_13 ?_
    refine q_astore_n (lv' := [(3, .ref r), (0, .ref x0), (1, .ref p0), (2, .int (nI k))]) C dX2_storeNow_14 rfl (by decide) rfl ?_
    refine q_aload_n C dX2_storeNow_15 rfl 0 rfl ?_
    refine q_ifnonnull C 31 dX2_storeNow_16 (by decide) ?_
    obtain ⟨L1, L2, ad, N1, rfl, rfl, hv, hnd, hns, hL, hno⟩ := pool_split (k := k) (by omega) hpool (hsl.trans hr)
    refine q_perm (wXX_perm (poolW_mid cI _ L1 L2)) ?_
    refine q_aload_n C dX2_storeNow_31 rfl 0 rfl ?_
    refine q_aload_n C dX2_storeNow_32 rfl 1 rfl ?_
    refine q_get C (uW uX2_in) 7 rfl rfl 0 (by decide) (ws_in xf_X2_10) rfl rfl dX2_storeNow_33 ?_
    obtain ⟨z, hz, hzN⟩ := copyFrom_ok N1 N
    refine q_cVV (ws' := wNetA cI ad z ++ wXX cI cJ cN x0 p0 i0 n0 n1 n2 n3 n4 n5 n6 s0 s1 s2 s3 s4 s5 s6 rp ri (poolW cI (L1 ++ L2)) V N S) C (c_X0_copyFrom l D cI cJ cN (ad 0) (ad 1) (ad 2) (ad 3) (ad 4) (ad 5) (ad 6) n0 n1 n2 n3 n4 n5 n6 N1 N z hz) (mkV (fr := 1) (lo := 22) C xc_X0_copyFrom xm_X2_120 xi_X0_copyFrom xe_X0_copyFrom xn_X0 hd_X0_copyFrom ⟨Nat.le_of_ble_eq_true rfl, Nat.le_of_ble_eq_true rfl⟩) 0 rfl rfl [0, 1, 2, 3, 4, 5, 6, 10, 11, 12, 13, 14, 15, 16] rfl (by decide) rfl rfl rfl rfl (Nat.le_of_ble_eq_true rfl) dX2_storeNow_36 ⟨Nat.le_of_ble_eq_true rfl, Nat.le_of_ble_eq_true rfl⟩ ?_
    refine q_congr (ws' := wNetA cI ad N ++ wXX cI cJ cN x0 p0 i0 n0 n1 n2 n3 n4 n5 n6 s0 s1 s2 s3 s4 s5 s6 rp ri (poolW cI (L1 ++ L2)) V N S) (wNet_congr (wl := []) hzN) rfl ?_
    refine q_perm (ws' := wXX cI cJ cN x0 p0 i0 n0 n1 n2 n3 n4 n5 n6 s0 s1 s2 s3 s4 s5 s6 rp ri (poolW cI ((k, ad, N) :: (L1 ++ L2))) V N S) (wXX_perm (by rw [poolW_cons])).symm ?_
    have hrr : ∀ j, slotRef rp ri j = if j = k then some (ad 0) else slotRef rp ri j := by
      intro j
      by_cases h : j = k
      · rw [if_pos h, h]; exact hsl.trans hr
      · rw [if_neg h]
    exact q_vret C (Nat.le_of_ble_eq_true rfl) (Nat.le_of_ble_eq_true rfl) ⟨rp, _, pool_put (L1 ++ L2) (by omega) hnd hns hL hno (slotVal_setP hk) hrr, rfl⟩ dX2_storeNow_39
  | none =>
    refine q_aaldN C 1 rfl (inB_nI hk (by omega)) (by rw [nI_clamp hk31]; exact hr) dX2_storeNow_13 ?_
    refine q_astore_nN (lv' := [(3, .null), (0, .ref x0), (1, .ref p0), (2, .int (nI k))]) C dX2_storeNow_14 rfl (by decide) rfl ?_
    refine q_aload_nN C dX2_storeNow_15 rfl 0 rfl ?_
    refine q_ifnonnullN C dX2_storeNow_16 ?_
    refine q_new (ci := 0) (fs := [.int 0, .int 0, .long 0, .null, .null, .null, .null, .null, .null]) C (uW uX0_in) tyX0 tyX0_ok (ws_in xl_X2_7) (ws_in xt_X0) (ws_in xn_X0) rfl (fun j hj => by rcases (show j = 0 ∨ j = 1 ∨ j = 2 ∨ j = 3 ∨ j = 4 ∨ j = 5 ∨ j = 6 ∨ j = 7 ∨ j = 8 by omega) with rfl | rfl | rfl | rfl | rfl | rfl | rfl | rfl | rfl <;> rfl) (Nat.le_of_ble_eq_true rfl) (Nat.le_of_ble_eq_true rfl) dX2_storeNow_19 (fun q => ?_)
    refine q_dup C dX2_storeNow_22 rfl ?_
    obtain ⟨z0, hz0⟩ := init_ok
    refine q_cI C (c_X0_init l D cI cJ cN q z0 hz0) (mkI (rt := none) (fr := 3) (lo := 69) C xc_X0_init xm_X2_9 xi_X0_init xn_X0 rfl hd_X0_init ⟨Nat.le_of_ble_eq_true rfl, Nat.le_of_ble_eq_true rfl⟩) rfl rfl rfl (Nat.le_of_ble_eq_true rfl) dX2_storeNow_23 ⟨Nat.le_of_ble_eq_true rfl, Nat.le_of_ble_eq_true rfl⟩ (fun w1 hp1 => ?_)
    obtain ⟨q1, q2, q3, q4, q5, q6, rfl⟩ := hp1
    refine q_perm (ws' := wNet cI q q1 q2 q3 q4 q5 q6 z0 ++ wXX cI cJ cN x0 p0 i0 n0 n1 n2 n3 n4 n5 n6 s0 s1 s2 s3 s4 s5 s6 rp ri pl V N S) List.perm_append_comm ?_
    refine q_astore_n (lv' := [(3, .ref q), (0, .ref x0), (1, .ref p0), (2, .int (nI k))]) C dX2_storeNow_26 rfl (by decide) rfl ?_
    refine q_aload_n C dX2_storeNow_27 rfl 2 rfl ?_
    refine q_iload_n C dX2_storeNow_28 rfl 3 rfl ?_
    refine q_aload_n C dX2_storeNow_29 rfl 0 rfl ?_
    refine q_aast (ws' := wNet cI q q1 q2 q3 q4 q5 q6 z0 ++ wXX cI cJ cN x0 p0 i0 n0 n1 n2 n3 n4 n5 n6 s0 s1 s2 s3 s4 s5 s6 (va_up rp (nI k).toNatClampNeg (some q)) ri pl V N S) C 8 0 rfl rfl (inB_nI hk (by omega)) dX2_storeNow_30 rfl ?_
    rw [nI_clamp hk31]
    refine q_aload_n C dX2_storeNow_31 rfl 0 rfl ?_
    refine q_aload_n C dX2_storeNow_32 rfl 1 rfl ?_
    refine q_get C (uW uX2_in) 7 rfl rfl 0 (by decide) (ws_in xf_X2_10) rfl rfl dX2_storeNow_33 ?_
    obtain ⟨z, hz, hzN⟩ := copyFrom_ok z0 N
    refine q_cVV (ws' := wNet cI q q1 q2 q3 q4 q5 q6 z ++ wXX cI cJ cN x0 p0 i0 n0 n1 n2 n3 n4 n5 n6 s0 s1 s2 s3 s4 s5 s6 (va_up rp k (some q)) ri pl V N S) C (c_X0_copyFrom l D cI cJ cN q q1 q2 q3 q4 q5 q6 n0 n1 n2 n3 n4 n5 n6 z0 N z hz) (mkV (fr := 1) (lo := 22) C xc_X0_copyFrom xm_X2_120 xi_X0_copyFrom xe_X0_copyFrom xn_X0 hd_X0_copyFrom ⟨Nat.le_of_ble_eq_true rfl, Nat.le_of_ble_eq_true rfl⟩) 0 rfl rfl [0, 1, 2, 3, 4, 5, 6, 10, 11, 12, 13, 14, 15, 16] rfl (by decide) rfl rfl rfl rfl (Nat.le_of_ble_eq_true rfl) dX2_storeNow_36 ⟨Nat.le_of_ble_eq_true rfl, Nat.le_of_ble_eq_true rfl⟩ ?_
    refine q_congr (ws' := wNet cI q q1 q2 q3 q4 q5 q6 N ++ wXX cI cJ cN x0 p0 i0 n0 n1 n2 n3 n4 n5 n6 s0 s1 s2 s3 s4 s5 s6 (va_up rp k (some q)) ri pl V N S) (wNet_congr (wl := []) hzN) rfl ?_
    obtain ⟨L, rfl, hnd, hns, hL, hno⟩ := pool_none (k := k) hpool (hsl.trans hr)
    obtain ⟨ad, had⟩ : ∃ ad : Nat → Nat, ad = fun j => if j = 0 then q else if j = 1 then q1 else if j = 2 then q2 else if j = 3 then q3 else if j = 4 then q4 else if j = 5 then q5 else q6 := ⟨_, rfl⟩
    have hadq : ad 0 = q := by rw [had]; rfl
    refine q_perm (ws' := wXX cI cJ cN x0 p0 i0 n0 n1 n2 n3 n4 n5 n6 s0 s1 s2 s3 s4 s5 s6 (va_up rp k (some q)) ri (poolW cI ((k, ad, N) :: L)) V N S) (wXX_perm (by rw [poolW_cons, had]; exact List.Perm.refl _)).symm ?_
    exact q_vret C (Nat.le_of_ble_eq_true rfl) (Nat.le_of_ble_eq_true rfl) ⟨_, _, pool_put L (by omega) hnd hns hL hno (slotVal_setP hk) (fun j => by rw [hadq]; exact slotRef_upP hk j), rfl⟩ dX2_storeNow_39
set_option maxRecDepth 100000 in
set_option maxHeartbeats 4000000 in
theorem c_X2_storeNow_i (l : Launch) (D : va_G) (cI cJ cN : ClassId) (x0 p0 i0 n0 n1 n2 n3 n4 n5 n6 s0 s1 s2 s3 s4 s5 s6 : Nat) (rp ri : Nat → Option Nat) (pl : va_W) (V : HS) (N : NS) (S : SS) (k : Nat) (hk : k < 2) (hpool : PoolOK cI V rp ri pl) : MV l D cI cJ cN yX2_storeNow (WS yX2_storeNow cX2_storeNow 4 none) { frames := 4, cells := 7, slots := 356, locals := 89 } [.ref x0, .ref i0, .int (nI k)] (wXX cI cJ cN x0 p0 i0 n0 n1 n2 n3 n4 n5 n6 s0 s1 s2 s3 s4 s5 s6 rp ri pl V N S) (XP cI cJ cN x0 p0 i0 n0 n1 n2 n3 n4 n5 n6 s0 s1 s2 s3 s4 s5 s6 (V.1, V.2.1, (fun j => if j = k then some N else V.2.2 j)) N S) := by
  have hk31 : k < 2 ^ 31 := by omega
  refine q_startV (lv := [(0, .ref x0), (1, .ref i0), (2, .int (nI k))]) (by decide +kernel) rfl (Nat.le_of_ble_eq_true rfl) ?_
  intro p e s m below meth c C hin
  refine q_iload_n C dX2_storeNow_0 rfl 2 rfl ?_
  refine q_if_lt C 10 dX2_storeNow_1 (by decide) (fun h => absurd h (nI_pos hk31)) (fun _ => ?_)
  refine q_iload_n C dX2_storeNow_4 rfl 2 rfl ?_
  refine q_aload_n C dX2_storeNow_5 rfl 1 rfl ?_
  refine q_alenN C 2 rfl dX2_storeNow_6 ?_
  refine q_icmp_lt C 11 dX2_storeNow_7 (by decide) (fun _ => ?_) (fun h => absurd (nI_lt hk (by omega)) h)
  refine q_aload_n C dX2_storeNow_11 rfl 1 rfl ?_
  refine q_iload_n C dX2_storeNow_12 rfl 2 rfl ?_
  have hsl : slotRef rp ri (8 + k) = ri k := by unfold slotRef; simp [(show ¬ 8 + k < 8 by omega)]
  cases hr : ri k with
  | some r =>
    refine q_aaldS (r := r) C 2 rfl (inB_nI hk (by omega)) (by rw [nI_clamp hk31]; exact hr) dX2_storeNow_13 ?_
    refine q_astore_n (lv' := [(3, .ref r), (0, .ref x0), (1, .ref i0), (2, .int (nI k))]) C dX2_storeNow_14 rfl (by decide) rfl ?_
    refine q_aload_n C dX2_storeNow_15 rfl 0 rfl ?_
    refine q_ifnonnull C 31 dX2_storeNow_16 (by decide) ?_
    obtain ⟨L1, L2, ad, N1, rfl, rfl, hv, hnd, hns, hL, hno⟩ := pool_split (k := 8 + k) (by omega) hpool (hsl.trans hr)
    refine q_perm (wXX_perm (poolW_mid cI _ L1 L2)) ?_
    refine q_aload_n C dX2_storeNow_31 rfl 0 rfl ?_
    refine q_aload_n C dX2_storeNow_32 rfl 1 rfl ?_
    refine q_get C (uW uX2_in) 7 rfl rfl 0 (by decide) (ws_in xf_X2_10) rfl rfl dX2_storeNow_33 ?_
    obtain ⟨z, hz, hzN⟩ := copyFrom_ok N1 N
    refine q_cVV (ws' := wNetA cI ad z ++ wXX cI cJ cN x0 p0 i0 n0 n1 n2 n3 n4 n5 n6 s0 s1 s2 s3 s4 s5 s6 rp ri (poolW cI (L1 ++ L2)) V N S) C (c_X0_copyFrom l D cI cJ cN (ad 0) (ad 1) (ad 2) (ad 3) (ad 4) (ad 5) (ad 6) n0 n1 n2 n3 n4 n5 n6 N1 N z hz) (mkV (fr := 1) (lo := 22) C xc_X0_copyFrom xm_X2_120 xi_X0_copyFrom xe_X0_copyFrom xn_X0 hd_X0_copyFrom ⟨Nat.le_of_ble_eq_true rfl, Nat.le_of_ble_eq_true rfl⟩) 0 rfl rfl [0, 1, 2, 3, 4, 5, 6, 10, 11, 12, 13, 14, 15, 16] rfl (by decide) rfl rfl rfl rfl (Nat.le_of_ble_eq_true rfl) dX2_storeNow_36 ⟨Nat.le_of_ble_eq_true rfl, Nat.le_of_ble_eq_true rfl⟩ ?_
    refine q_congr (ws' := wNetA cI ad N ++ wXX cI cJ cN x0 p0 i0 n0 n1 n2 n3 n4 n5 n6 s0 s1 s2 s3 s4 s5 s6 rp ri (poolW cI (L1 ++ L2)) V N S) (wNet_congr (wl := []) hzN) rfl ?_
    refine q_perm (ws' := wXX cI cJ cN x0 p0 i0 n0 n1 n2 n3 n4 n5 n6 s0 s1 s2 s3 s4 s5 s6 rp ri (poolW cI ((8 + k, ad, N) :: (L1 ++ L2))) V N S) (wXX_perm (by rw [poolW_cons])).symm ?_
    have hrr : ∀ j, slotRef rp ri j = if j = 8 + k then some (ad 0) else slotRef rp ri j := by
      intro j
      by_cases h : j = 8 + k
      · rw [if_pos h, h]; exact hsl.trans hr
      · rw [if_neg h]
    exact q_vret C (Nat.le_of_ble_eq_true rfl) (Nat.le_of_ble_eq_true rfl) ⟨rp, ri, _, pool_put (L1 ++ L2) (by omega) hnd hns hL hno (slotVal_setI) hrr, rfl⟩ dX2_storeNow_39
  | none =>
    refine q_aaldN C 2 rfl (inB_nI hk (by omega)) (by rw [nI_clamp hk31]; exact hr) dX2_storeNow_13 ?_
    refine q_astore_nN (lv' := [(3, .null), (0, .ref x0), (1, .ref i0), (2, .int (nI k))]) C dX2_storeNow_14 rfl (by decide) rfl ?_
    refine q_aload_nN C dX2_storeNow_15 rfl 0 rfl ?_
    refine q_ifnonnullN C dX2_storeNow_16 ?_
    refine q_new (ci := 0) (fs := [.int 0, .int 0, .long 0, .null, .null, .null, .null, .null, .null]) C (uW uX0_in) tyX0 tyX0_ok (ws_in xl_X2_7) (ws_in xt_X0) (ws_in xn_X0) rfl (fun j hj => by rcases (show j = 0 ∨ j = 1 ∨ j = 2 ∨ j = 3 ∨ j = 4 ∨ j = 5 ∨ j = 6 ∨ j = 7 ∨ j = 8 by omega) with rfl | rfl | rfl | rfl | rfl | rfl | rfl | rfl | rfl <;> rfl) (Nat.le_of_ble_eq_true rfl) (Nat.le_of_ble_eq_true rfl) dX2_storeNow_19 (fun q => ?_)
    refine q_dup C dX2_storeNow_22 rfl ?_
    obtain ⟨z0, hz0⟩ := init_ok
    refine q_cI C (c_X0_init l D cI cJ cN q z0 hz0) (mkI (rt := none) (fr := 3) (lo := 69) C xc_X0_init xm_X2_9 xi_X0_init xn_X0 rfl hd_X0_init ⟨Nat.le_of_ble_eq_true rfl, Nat.le_of_ble_eq_true rfl⟩) rfl rfl rfl (Nat.le_of_ble_eq_true rfl) dX2_storeNow_23 ⟨Nat.le_of_ble_eq_true rfl, Nat.le_of_ble_eq_true rfl⟩ (fun w1 hp1 => ?_)
    obtain ⟨q1, q2, q3, q4, q5, q6, rfl⟩ := hp1
    refine q_perm (ws' := wNet cI q q1 q2 q3 q4 q5 q6 z0 ++ wXX cI cJ cN x0 p0 i0 n0 n1 n2 n3 n4 n5 n6 s0 s1 s2 s3 s4 s5 s6 rp ri pl V N S) List.perm_append_comm ?_
    refine q_astore_n (lv' := [(3, .ref q), (0, .ref x0), (1, .ref i0), (2, .int (nI k))]) C dX2_storeNow_26 rfl (by decide) rfl ?_
    refine q_aload_n C dX2_storeNow_27 rfl 2 rfl ?_
    refine q_iload_n C dX2_storeNow_28 rfl 3 rfl ?_
    refine q_aload_n C dX2_storeNow_29 rfl 0 rfl ?_
    refine q_aast (ws' := wNet cI q q1 q2 q3 q4 q5 q6 z0 ++ wXX cI cJ cN x0 p0 i0 n0 n1 n2 n3 n4 n5 n6 s0 s1 s2 s3 s4 s5 s6 rp (va_up ri (nI k).toNatClampNeg (some q)) pl V N S) C 9 0 rfl rfl (inB_nI hk (by omega)) dX2_storeNow_30 rfl ?_
    rw [nI_clamp hk31]
    refine q_aload_n C dX2_storeNow_31 rfl 0 rfl ?_
    refine q_aload_n C dX2_storeNow_32 rfl 1 rfl ?_
    refine q_get C (uW uX2_in) 7 rfl rfl 0 (by decide) (ws_in xf_X2_10) rfl rfl dX2_storeNow_33 ?_
    obtain ⟨z, hz, hzN⟩ := copyFrom_ok z0 N
    refine q_cVV (ws' := wNet cI q q1 q2 q3 q4 q5 q6 z ++ wXX cI cJ cN x0 p0 i0 n0 n1 n2 n3 n4 n5 n6 s0 s1 s2 s3 s4 s5 s6 rp (va_up ri k (some q)) pl V N S) C (c_X0_copyFrom l D cI cJ cN q q1 q2 q3 q4 q5 q6 n0 n1 n2 n3 n4 n5 n6 z0 N z hz) (mkV (fr := 1) (lo := 22) C xc_X0_copyFrom xm_X2_120 xi_X0_copyFrom xe_X0_copyFrom xn_X0 hd_X0_copyFrom ⟨Nat.le_of_ble_eq_true rfl, Nat.le_of_ble_eq_true rfl⟩) 0 rfl rfl [0, 1, 2, 3, 4, 5, 6, 10, 11, 12, 13, 14, 15, 16] rfl (by decide) rfl rfl rfl rfl (Nat.le_of_ble_eq_true rfl) dX2_storeNow_36 ⟨Nat.le_of_ble_eq_true rfl, Nat.le_of_ble_eq_true rfl⟩ ?_
    refine q_congr (ws' := wNet cI q q1 q2 q3 q4 q5 q6 N ++ wXX cI cJ cN x0 p0 i0 n0 n1 n2 n3 n4 n5 n6 s0 s1 s2 s3 s4 s5 s6 rp (va_up ri k (some q)) pl V N S) (wNet_congr (wl := []) hzN) rfl ?_
    obtain ⟨L, rfl, hnd, hns, hL, hno⟩ := pool_none (k := 8 + k) hpool (hsl.trans hr)
    obtain ⟨ad, had⟩ : ∃ ad : Nat → Nat, ad = fun j => if j = 0 then q else if j = 1 then q1 else if j = 2 then q2 else if j = 3 then q3 else if j = 4 then q4 else if j = 5 then q5 else q6 := ⟨_, rfl⟩
    have hadq : ad 0 = q := by rw [had]; rfl
    refine q_perm (ws' := wXX cI cJ cN x0 p0 i0 n0 n1 n2 n3 n4 n5 n6 s0 s1 s2 s3 s4 s5 s6 rp (va_up ri k (some q)) (poolW cI ((8 + k, ad, N) :: L)) V N S) (wXX_perm (by rw [poolW_cons, had]; exact List.Perm.refl _)).symm ?_
    exact q_vret C (Nat.le_of_ble_eq_true rfl) (Nat.le_of_ble_eq_true rfl) ⟨_, _, _, pool_put L (by omega) hnd hns hL hno (slotVal_setI) (fun j => by rw [hadq]; exact slotRef_upI j), rfl⟩ dX2_storeNow_39
theorem pool_rot {cI : ClassId} {V : HS} {rp ri : Nat → Option Nat} {pl : va_W} (h : PoolOK cI V rp ri pl) : ∃ pl', pl.Perm pl' ∧ PoolOK cI (nI 7, (fun k => if k = 7 then V.2.1 0 else V.2.1 (k + 1)), V.2.2) (rot 8 rp) ri pl' := by
  obtain ⟨L, rfl, hnd, hL, hno⟩ := h
  obtain ⟨g, hg⟩ : ∃ g : Nat → Nat, g = fun k => if k < 8 then (if k = 0 then 7 else k - 1) else k := ⟨_, rfl⟩
  have gi : ∀ a b, g a = g b → a = b := by
    intro a b e
    rw [hg] at e
    simp only at e
    repeat' split at e
    all_goals omega
  have hR : ∀ k, slotRef (rot 8 rp) ri (g k) = slotRef rp ri k := by
    intro k
    rw [hg]
    unfold slotRef rot
    by_cases h : k < 8
    · by_cases h0 : k = 0
      · subst h0; simp
      · have h1 : k - 1 < 8 := by omega
        have h2 : k - 1 + 1 = k := by omega
        simp [h, h0, h1, h2]
    · simp [h]
  have hV : ∀ k, slotVal (nI 7, (fun k => if k = 7 then V.2.1 0 else V.2.1 (k + 1)), V.2.2) (g k) = slotVal V k := by
    intro k
    rw [hg]
    unfold slotVal
    by_cases h : k < 8
    · by_cases h0 : k = 0
      · subst h0; simp
      · have h1 : k - 1 < 8 := by omega
        have h2 : k - 1 + 1 = k := by omega
        have h3 : k - 1 ≠ 7 := by omega
        simp [h, h0, h1, h2, h3]
    · simp [h]
  have gl : ∀ k, k < 10 → g k < 10 := by
    intro k hk
    rw [hg]
    simp only
    repeat' split
    all_goals omega
  have gs : ∀ k, k < 10 → ∃ k', k' < 10 ∧ g k' = k := by
    intro k hk
    by_cases h : k < 8
    · by_cases h7 : k = 7
      · exact ⟨0, by omega, by rw [hg, h7]; rfl⟩
      · refine ⟨k + 1, by omega, ?_⟩
        rw [hg]
        have : k + 1 < 8 := by omega
        simp [this]
    · exact ⟨k, hk, by rw [hg]; simp [h]⟩
  have hpl : poolW cI L = poolW cI (L.map (fun q : Nat × (Nat → Nat) × NS => (g q.1, q.2))) := by
    unfold poolW
    rw [List.flatMap_map]
  refine ⟨poolW cI L, List.Perm.refl _, L.map (fun q : Nat × (Nat → Nat) × NS => (g q.1, q.2)), hpl, ?_, fun q hq => ?_, fun k hk hq => ?_⟩
  · rw [List.map_map]
    have e : ((fun q : Nat × (Nat → Nat) × NS => q.1) ∘ fun q : Nat × (Nat → Nat) × NS => (g q.1, q.2)) = g ∘ fun q : Nat × (Nat → Nat) × NS => q.1 := rfl
    rw [e, ← List.map_map]
    exact List.Pairwise.map g (fun a b (hab : a ≠ b) e => hab (gi a b e)) hnd
  · obtain ⟨q0, hq0, rfl⟩ := List.mem_map.mp hq
    obtain ⟨a, b, c⟩ := hL q0 hq0
    exact ⟨gl _ a, (hR _).trans b, (hV _).trans c⟩
  · obtain ⟨k', hk', rfl⟩ := gs k hk
    have h2 := hno k' hk' (fun q hq2 e => hq (g q.1, q.2) (List.mem_map.mpr ⟨q, hq2, rfl⟩) (by rw [e]))
    exact ⟨(hR _).trans h2.1, (hV _).trans h2.2⟩
set_option maxRecDepth 100000 in
set_option maxHeartbeats 4000000 in
theorem c_X2_dropOldest (l : Launch) (D : va_G) (cI cJ cN : ClassId) (x0 p0 i0 n0 n1 n2 n3 n4 n5 n6 s0 s1 s2 s3 s4 s5 s6 : Nat) (rp ri : Nat → Option Nat) (pl : va_W) (V : HS) (N : NS) (S : SS) (hpool : PoolOK cI V rp ri pl) (hall : ∀ k, k < 8 → ∃ a, rp k = some a) : MV l D cI cJ cN yX2_dropOldest (WS yX2_dropOldest cX2_dropOldest 3 none) { frames := 0, cells := 0, slots := 0, locals := 0 } [.ref x0] (wXX cI cJ cN x0 p0 i0 n0 n1 n2 n3 n4 n5 n6 s0 s1 s2 s3 s4 s5 s6 rp ri pl V N S) (XR cI cJ cN x0 p0 i0 n0 n1 n2 n3 n4 n5 n6 s0 s1 s2 s3 s4 s5 s6 ri (nI 7, (fun k => if k = 7 then V.2.1 0 else V.2.1 (k + 1)), V.2.2) N S) := by
  refine q_startV (lv := [(0, .ref x0)]) (by decide +kernel) rfl (Nat.le_of_ble_eq_true rfl) ?_
  intro p e s m below meth c C hin
  have loop : ∀ n i, i < 8 → 8 - i ≤ n → WW p l e { frames := 0, cells := 0, slots := 0, locals := 0 } s m [Value.ref x0].toArray below meth c D 3 (va_A (wXX cI cJ cN x0 p0 i0 n0 n1 n2 n3 n4 n5 n6 s0 s1 s2 s3 s4 s5 s6 rp ri pl V N S) s.heap.size) 0 0 (QV below [Value.ref x0].toArray s D (wXX cI cJ cN x0 p0 i0 n0 n1 n2 n3 n4 n5 n6 s0 s1 s2 s3 s4 s5 s6 rp ri pl V N S) { frames := 0, cells := 0, slots := 0, locals := 0 } (XR cI cJ cN x0 p0 i0 n0 n1 n2 n3 n4 n5 n6 s0 s1 s2 s3 s4 s5 s6 ri (nI 7, (fun k => if k = 7 then V.2.1 0 else V.2.1 (k + 1)), V.2.2) N S)) 2 [(0, .ref x0), (1, .int (nI (i + 1)))] [] (wXX cI cJ cN x0 p0 i0 n0 n1 n2 n3 n4 n5 n6 s0 s1 s2 s3 s4 s5 s6 (rot (i + 1) rp) ri pl V N S) := by
    intro n
    induction n with
    | zero => intro i h1 h2; omega
    | succ n ih =>
      intro i hi hn
      refine q_iload_n C dX2_dropOldest_2 rfl 1 rfl ?_
      refine q_aload_n C dX2_dropOldest_3 rfl 0 rfl ?_
      refine q_get C (uW uX2_in) 0 rfl rfl 2 (by decide) (ws_in xf_X2_23) rfl rfl dX2_dropOldest_4 ?_
      refine q_alenN C 1 rfl dX2_dropOldest_7 ?_
      refine q_icmp_ge C 47 dX2_dropOldest_8 (by decide) (fun h => ?_) (fun h => ?_)
      · have hi7 : i = 7 := by
          have := (nI_leI (by omega) (by omega)).mp h
          omega
        subst hi7
        refine q_aload_n C dX2_dropOldest_47 rfl 0 rfl ?_
        refine q_aload_n C dX2_dropOldest_48 rfl 0 rfl ?_
        refine q_get C (uW uX2_in) 0 rfl rfl 2 (by decide) (ws_in xf_X2_23) rfl rfl dX2_dropOldest_49 ?_
        refine q_alenN C 1 rfl dX2_dropOldest_52 ?_
        refine q_iconst (v := 1) C dX2_dropOldest_53 (by decide) ?_
        refine q_isub C dX2_dropOldest_54 ?_
        refine q_put (ws' := wXX cI cJ cN x0 p0 i0 n0 n1 n2 n3 n4 n5 n6 s0 s1 s2 s3 s4 s5 s6 (rot (7 + 1) rp) ri pl (nI 8 - 1, V.2.1, V.2.2) N S) (ty := .int) C (uW uX2_in) tyX2 tyX2_ok nmX2 0 rfl rfl 4 (by decide) (ws_in xf_X2_30) rfl rfl (by decide +kernel) rfl rfl (Nat.le_of_ble_eq_true rfl) dX2_dropOldest_55 rfl ?_
        obtain ⟨pl2, hpm, hpool2⟩ := pool_rot hpool
        refine q_perm (ws' := wXX cI cJ cN x0 p0 i0 n0 n1 n2 n3 n4 n5 n6 s0 s1 s2 s3 s4 s5 s6 (rot 8 rp) ri pl2 (nI 7, (fun k => if k = 7 then V.2.1 0 else V.2.1 (k + 1)), V.2.2) N S) (by rw [wXX_eq, wXX_eq, show (nI 8 - 1 : Int32) = nI 7 from by decide]; exact List.Perm.append_left _ hpm) ?_
        exact q_vret C (Nat.le_of_ble_eq_true rfl) (Nat.le_of_ble_eq_true rfl) ⟨_, _, hpool2, rfl⟩ dX2_dropOldest_58
      · have hi7 : i < 7 := by
          rcases Nat.lt_or_ge i 7 with h1 | h1
          · exact h1
          · exact absurd ((nI_leI (by omega) (by omega)).mpr (by omega : 8 ≤ i + 1)) h
        obtain ⟨r0, hr0⟩ := hall 0 (by omega)
        obtain ⟨r1, hr1⟩ := hall (i + 1) (by omega)
        obtain ⟨k0, v0, hk0⟩ := pool_find (k := 0) (by omega) hpool (show slotRef rp ri 0 = some r0 from hr0)
        obtain ⟨k1, v1, hk1⟩ := pool_find (k := i + 1) (r := r1) (by omega) hpool (by unfold slotRef; rw [if_pos (by omega)]; exact hr1)
        have eI : nI (i + 1) - 1 = nI i := nI_pred i
        have e31 : i < 2 ^ 31 := by omega
        refine q_aload_n C dX2_dropOldest_11 rfl 0 rfl ?_
        refine q_get C (uW uX2_in) 0 rfl rfl 2 (by decide) (ws_in xf_X2_23) rfl rfl dX2_dropOldest_12 ?_
        refine q_iload_n C dX2_dropOldest_15 rfl 1 rfl ?_
        refine q_iconst (v := 1) C dX2_dropOldest_16 (by decide) ?_
        refine q_isub C dX2_dropOldest_17 ?_
        rw [eI]
        refine q_aaldS (r := r0) C 1 rfl (inB_nI (by omega) (by omega)) (by rw [nI_clamp e31]; unfold rot; rw [if_neg (by omega), if_pos rfl]; exact hr0) dX2_dropOldest_18 ?_
        refine q_astore_n (lv' := [(2, .ref r0), (0, .ref x0), (1, .int (nI (i + 1)))]) C dX2_dropOldest_19 rfl (by decide) rfl ?_
        refine q_aload_n C dX2_dropOldest_20 rfl 1 rfl ?_
        refine q_get C (uW uX2_in) 0 rfl rfl 2 (by decide) (ws_in xf_X2_23) rfl rfl dX2_dropOldest_21 ?_
        refine q_iload_n C dX2_dropOldest_24 rfl 2 rfl ?_
        refine q_iconst (v := 1) C dX2_dropOldest_25 (by decide) ?_
        refine q_isub C dX2_dropOldest_26 ?_
        rw [eI]
        refine q_aload_n C dX2_dropOldest_27 rfl 1 rfl ?_
        refine q_get C (uW uX2_in) 0 rfl rfl 2 (by decide) (ws_in xf_X2_23) rfl rfl dX2_dropOldest_28 ?_
        refine q_iload_n C dX2_dropOldest_31 rfl 2 rfl ?_
        refine q_aaldS (r := r1) C 1 rfl (inB_nI (by omega) (by omega)) (by rw [nI_clamp (by omega)]; unfold rot; rw [if_neg (by omega), if_neg (by omega)]; exact hr1) dX2_dropOldest_32 ?_
        refine q_aast (ws' := wXX cI cJ cN x0 p0 i0 n0 n1 n2 n3 n4 n5 n6 s0 s1 s2 s3 s4 s5 s6 (va_up (rot (i + 1) rp) (nI i).toNatClampNeg (some r1)) ri pl V N S) C 1 (k1 + 17) rfl hk1 (inB_nI (by omega) (by omega)) dX2_dropOldest_33 rfl ?_
        refine q_aload_n C dX2_dropOldest_34 rfl 1 rfl ?_
        refine q_get C (uW uX2_in) 0 rfl rfl 2 (by decide) (ws_in xf_X2_23) rfl rfl dX2_dropOldest_35 ?_
        refine q_iload_n C dX2_dropOldest_38 rfl 2 rfl ?_
        refine q_aload_n C dX2_dropOldest_39 rfl 0 rfl ?_
        refine q_aast (ws' := wXX cI cJ cN x0 p0 i0 n0 n1 n2 n3 n4 n5 n6 s0 s1 s2 s3 s4 s5 s6 (va_up (va_up (rot (i + 1) rp) (nI i).toNatClampNeg (some r1)) (nI (i + 1)).toNatClampNeg (some r0)) ri pl V N S) C 1 (k0 + 17) rfl hk0 (inB_nI (by omega) (by omega)) dX2_dropOldest_40 rfl ?_
        have ef : va_up (va_up (rot (i + 1) rp) (nI i).toNatClampNeg (some r1)) (nI (i + 1)).toNatClampNeg (some r0) = rot (i + 1 + 1) rp := by
          rw [nI_clamp e31, nI_clamp (by omega)]
          funext k
          unfold va_up rot
          by_cases h1 : k = i + 1
          · subst h1; simp [hr0]
          · by_cases h2 : k = i
            · subst h2; simp [hr1]
            · by_cases h3 : k + 1 < i + 1
              · have h4 : k + 1 < i + 1 + 1 := by omega
                simp [h1, h2, h3, h4]
              · have h4 : ¬ k + 1 < i + 1 + 1 := by omega
                simp [h1, h2, h3, h4]
        rw [ef]
        refine q_iinc (v := (nI (i + 1) + 1)) (lv' := [(1, .int (nI (i + 1) + 1)), (2, .ref r0), (0, .ref x0)]) C dX2_dropOldest_41 2 rfl rfl (by decide) rfl ?_
        rw [nI_1]
        refine q_goto C 2 dX2_dropOldest_44 (by decide) ?_
        refine q_sub (lv' := [(0, .ref x0), (1, .int (nI (i + 1 + 1)))]) [2, 0] rfl ?_
        exact ih (i + 1) (by omega) (by omega)
  refine q_iconst (v := 1) C dX2_dropOldest_0 (by decide) ?_
  refine q_istore_n (lv' := [(1, .int 1), (0, .ref x0)]) C dX2_dropOldest_1 rfl (by decide) rfl ?_
  refine q_sub (lv' := [(0, .ref x0), (1, .int 1)]) [1, 0] rfl ?_
  have e1 : rot (0 + 1) rp = rp := by
    funext k
    unfold rot
    by_cases h : k = 0
    · subst h; simp
    · have : ¬ k + 1 < 0 + 1 := by omega
      simp [h]
  have := loop 8 0 (by omega) (by omega)
  rw [e1] at this
  exact this
theorem slotRef_p {rp ri : Nat → Option Nat} {k : Nat} (hk : k < 8) : slotRef rp ri k = rp k := by unfold slotRef; rw [if_pos hk]
set_option maxRecDepth 100000 in
set_option maxHeartbeats 4000000 in
theorem c_X2_record (l : Launch) (D : va_G) (cI cJ cN : ClassId) (x0 p0 i0 n0 n1 n2 n3 n4 n5 n6 s0 s1 s2 s3 s4 s5 s6 : Nat) (rp ri : Nat → Option Nat) (pl : va_W) (V : HS) (N : NS) (S : SS) (z : HS) (hpool : PoolOK cI V rp ri pl) (hf : f_X2_record V N S = some z) : MV l D cI cJ cN yX2_record (WS yX2_record cX2_record 1 none) { frames := 5, cells := 7, slots := 356, locals := 112 } [.ref x0] (wXX cI cJ cN x0 p0 i0 n0 n1 n2 n3 n4 n5 n6 s0 s1 s2 s3 s4 s5 s6 rp ri pl V N S) (XR cI cJ cN x0 p0 i0 n0 n1 n2 n3 n4 n5 n6 s0 s1 s2 s3 s4 s5 s6 ri z N S) := by
  unfold f_X2_record at hf
  obtain ⟨hg, hf⟩ := gd_some hf
  obtain ⟨v, vp, vi⟩ := V
  obtain ⟨k, hk, hvk⟩ := vp_in_of (inB_in hg) (by omega)
  dsimp only at hvk hf
  subst hvk
  refine q_startV (lv := [(0, .ref x0)]) (by decide +kernel) rfl (Nat.le_of_ble_eq_true rfl) ?_
  intro p e s m below meth c C hin
  refine q_aload_n C dX2_record_0 rfl 0 rfl ?_
  refine q_get C (uW uX2_in) 0 rfl rfl 4 (by decide) (ws_in xf_X2_30) rfl rfl dX2_record_1 ?_
  refine q_aload_n C dX2_record_4 rfl 0 rfl ?_
  refine q_get C (uW uX2_in) 0 rfl rfl 2 (by decide) (ws_in xf_X2_23) rfl rfl dX2_record_5 ?_
  refine q_alenN C 1 rfl dX2_record_8 ?_
  refine q_icmp_lt C 16 dX2_record_9 (by decide) (fun h => ?_) (fun h => ?_)
  · have hk8 : k < 8 := (nI_ltI (by omega) (by omega)).mp h
    have hf := ifF hf (fun h2 => by have := (nI_leI (a := 8) (by omega) (by omega)).mp h2; omega)
    have hf := Option.some.inj hf
    rw [nI_clamp (by omega)] at hf
    subst hf
    refine q_aload_n C dX2_record_16 rfl 0 rfl ?_
    refine q_aload_n C dX2_record_17 rfl 0 rfl ?_
    refine q_get C (uW uX2_in) 0 rfl rfl 2 (by decide) (ws_in xf_X2_23) rfl rfl dX2_record_18 ?_
    refine q_aload_n C dX2_record_21 rfl 0 rfl ?_
    refine q_get C (uW uX2_in) 0 rfl rfl 4 (by decide) (ws_in xf_X2_30) rfl rfl dX2_record_22 ?_
    refine q_cVVw C (c_X2_storeNow_p l D cI cJ cN x0 p0 i0 n0 n1 n2 n3 n4 n5 n6 s0 s1 s2 s3 s4 s5 s6 rp ri pl (nI k, vp, vi) N S k hk8 hpool) (mkV (fr := 4) (ce := 7) (sl := 356) (lo := 89) C xc_X2_storeNow xm_X2_177 xi_X2_storeNow xe_X2_storeNow xn_X2 hd_X2_storeNow ⟨Nat.le_of_ble_eq_true rfl, Nat.le_of_ble_eq_true rfl⟩) 0 rfl rfl rfl rfl (Nat.le_of_ble_eq_true rfl) dX2_record_25 ⟨Nat.le_of_ble_eq_true rfl, Nat.le_of_ble_eq_true rfl⟩ (fun w1 hp1 => ?_)
    obtain ⟨rp1, pl1, hpool1, rfl⟩ := hp1
    refine q_aload_n C dX2_record_28 rfl 0 rfl ?_
    refine q_dup C dX2_record_29 rfl ?_
    refine q_get C (uW uX2_in) 0 rfl rfl 4 (by decide) (ws_in xf_X2_30) rfl rfl dX2_record_30 ?_
    refine q_iconst (v := 1) C dX2_record_33 (by decide) ?_
    refine q_iadd C dX2_record_34 ?_
    refine q_put (ws' := wXX cI cJ cN x0 p0 i0 n0 n1 n2 n3 n4 n5 n6 s0 s1 s2 s3 s4 s5 s6 rp1 ri pl1 (nI k + 1, (fun j => if j = k then some N else vp j), vi) N S) (ty := .int) C (uW uX2_in) tyX2 tyX2_ok nmX2 0 rfl rfl 4 (by decide) (ws_in xf_X2_30) rfl rfl (by decide +kernel) rfl rfl (Nat.le_of_ble_eq_true rfl) dX2_record_35 rfl ?_
    exact q_vret C (Nat.le_of_ble_eq_true rfl) (Nat.le_of_ble_eq_true rfl) ⟨_, _, hpool1, rfl⟩ dX2_record_38
  · have hk8 : k = 8 := by
      rcases Nat.lt_or_ge k 8 with h1 | h1
      · exact absurd (nI_lt h1 (by omega)) h
      · omega
    subst hk8
    have hf := ifT hf (by decide)
    obtain ⟨ha, hf⟩ := gd_some hf
    have hf := Option.some.inj hf
    subst hf
    have hall : ∀ k, k < 8 → ∃ a, rp k = some a := by
      intro k hk
      have h1 := List.all_eq_true.mp ha k (List.mem_range.mpr hk)
      obtain ⟨N1, hN1⟩ := Option.isSome_iff_exists.mp h1
      obtain ⟨r, hr⟩ := pool_some (k := k) (by omega) hpool (show slotVal (nI 8, vp, vi) k = some N1 by unfold slotVal; rw [if_pos hk]; exact hN1)
      exact ⟨r, (slotRef_p hk).symm.trans hr⟩
    refine q_aload_n C dX2_record_12 rfl 0 rfl ?_
    refine q_cVVw C (c_X2_dropOldest l D cI cJ cN x0 p0 i0 n0 n1 n2 n3 n4 n5 n6 s0 s1 s2 s3 s4 s5 s6 rp ri pl (nI 8, vp, vi) N S hpool hall) (mkV (fr := 0) (ce := 0) (sl := 0) (lo := 0) C xc_X2_dropOldest xm_X2_181 xi_X2_dropOldest xe_X2_dropOldest xn_X2 hd_X2_dropOldest ⟨Nat.le_of_ble_eq_true rfl, Nat.le_of_ble_eq_true rfl⟩) 0 rfl rfl rfl rfl (Nat.le_of_ble_eq_true rfl) dX2_record_13 ⟨Nat.le_of_ble_eq_true rfl, Nat.le_of_ble_eq_true rfl⟩ (fun w1 hp1 => ?_)
    obtain ⟨rp0, pl0, hpool0, rfl⟩ := hp1
    refine q_aload_n C dX2_record_16 rfl 0 rfl ?_
    refine q_aload_n C dX2_record_17 rfl 0 rfl ?_
    refine q_get C (uW uX2_in) 0 rfl rfl 2 (by decide) (ws_in xf_X2_23) rfl rfl dX2_record_18 ?_
    refine q_aload_n C dX2_record_21 rfl 0 rfl ?_
    refine q_get C (uW uX2_in) 0 rfl rfl 4 (by decide) (ws_in xf_X2_30) rfl rfl dX2_record_22 ?_
    refine q_cVVw C (c_X2_storeNow_p l D cI cJ cN x0 p0 i0 n0 n1 n2 n3 n4 n5 n6 s0 s1 s2 s3 s4 s5 s6 rp0 ri pl0 _ N S 7 (by omega) hpool0) (mkV (fr := 4) (ce := 7) (sl := 356) (lo := 89) C xc_X2_storeNow xm_X2_177 xi_X2_storeNow xe_X2_storeNow xn_X2 hd_X2_storeNow ⟨Nat.le_of_ble_eq_true rfl, Nat.le_of_ble_eq_true rfl⟩) 0 rfl rfl rfl rfl (Nat.le_of_ble_eq_true rfl) dX2_record_25 ⟨Nat.le_of_ble_eq_true rfl, Nat.le_of_ble_eq_true rfl⟩ (fun w1 hp1 => ?_)
    obtain ⟨rp1, pl1, hpool1, rfl⟩ := hp1
    refine q_aload_n C dX2_record_28 rfl 0 rfl ?_
    refine q_dup C dX2_record_29 rfl ?_
    refine q_get C (uW uX2_in) 0 rfl rfl 4 (by decide) (ws_in xf_X2_30) rfl rfl dX2_record_30 ?_
    refine q_iconst (v := 1) C dX2_record_33 (by decide) ?_
    refine q_iadd C dX2_record_34 ?_
    refine q_put (ws' := wXX cI cJ cN x0 p0 i0 n0 n1 n2 n3 n4 n5 n6 s0 s1 s2 s3 s4 s5 s6 rp1 ri pl1 (nI 7 + 1, (fun j => if j = 7 then some N else if j = 7 then vp 0 else vp (j + 1)), vi) N S) (ty := .int) C (uW uX2_in) tyX2 tyX2_ok nmX2 0 rfl rfl 4 (by decide) (ws_in xf_X2_30) rfl rfl (by decide +kernel) rfl rfl (Nat.le_of_ble_eq_true rfl) dX2_record_35 rfl ?_
    have ev : ((nI 7 + 1, (fun j => if j = 7 then some N else if j = 7 then vp 0 else vp (j + 1)), vi) : HS) = (8, (fun k => if k = 7 then some N else vp (k + 1)), vi) := by
      congr 1
      congr 1
      funext j
      by_cases h : j = 7 <;> simp [h]
    have hpool2 : PoolOK cI (nI 7 + 1, (fun j => if j = 7 then some N else if j = 7 then vp 0 else vp (j + 1)), vi) rp1 ri pl1 := hpool1
    rw [ev] at hpool2
    rw [ev]
    exact q_vret C (Nat.le_of_ble_eq_true rfl) (Nat.le_of_ble_eq_true rfl) ⟨_, _, hpool2, rfl⟩ dX2_record_38
