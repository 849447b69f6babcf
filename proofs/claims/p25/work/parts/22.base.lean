/-! numbers and sets of nodes -/
theorem n49 {t : NT} (h : NetOK t) : tN t ≤ 49 ∧ 1 ≤ tN t := by
  obtain ⟨⟨a, b, c, d⟩, -⟩ := h
  exact ⟨Nat.le_trans (Nat.mul_le_mul b d) (by omega), Nat.mul_pos a c⟩
theorem valueAt_in {k i : Nat} {f : Nat → Int32} (h : i < k) (hk : k < 2 ^ 31) : f_X2_valueAt k f (nI i) = some (f i) := by
  rw [f_X2_valueAt, if_neg (nI_pos (by omega)), if_neg (fun h2 => by have := (nI_leI hk (by omega)).mp h2; omega), gd_t (inB_nI h hk), nI_clamp (by omega)]
theorem putAt_in {k i : Nat} {f : Nat → Int32} {v : Int32} (h : i < k) (hk : k < 2 ^ 31) : f_X2_putAt k f (nI i) v = some (upd f i v) := by
  rw [f_X2_putAt, if_neg (nI_pos (by omega)), if_neg (fun h2 => by have := (nI_leI hk (by omega)).mp h2; omega), gd_t (inB_nI h hk), nI_clamp (by omega)]
def bt6 (x : Int64) (u : Nat) : Bool := x.toBitVec.getLsbD u
theorem b6_cnt : ∀ k, k < 64 → (((nI k).toInt64 &&& 63).toBitVec.smod 64).toNat = k := by decide +kernel
theorem b6_one : ∀ k, k < 64 → ((1 : Int64) <<< ((nI k).toInt64 &&& 63)).toBitVec = BitVec.twoPow 64 k := by decide +kernel
theorem b6_or (x y : Int64) (u : Nat) : bt6 (x ||| y) u = (bt6 x u || bt6 y u) := by unfold bt6; simp
theorem b6_and (x y : Int64) (u : Nat) : bt6 (x &&& y) u = (bt6 x u && bt6 y u) := by unfold bt6; simp
theorem b6_not (x : Int64) {u : Nat} (hu : u < 64) : bt6 (x ^^^ (-1)) u = !bt6 x u := by
  unfold bt6
  rw [Int64.toBitVec_xor, BitVec.getLsbD_xor, show (-1 : Int64).toBitVec = BitVec.allOnes 64 from by decide, BitVec.getLsbD_allOnes]
  simp [hu]
theorem b6_only {k : Nat} (hk : k < 64) {u : Nat} (hu : u < 64) : bt6 ((1 : Int64) <<< ((nI k).toInt64 &&& 63)) u = decide (u = k) := by
  unfold bt6
  rw [b6_one k hk, BitVec.getLsbD_twoPow]
  by_cases h : u = k
  · subst h; simp [hk]
  · have h2 : ¬ k = u := fun e => h e.symm
    simp [h, h2]
theorem b6_0 (u : Nat) : bt6 0 u = false := by unfold bt6; simp
theorem b6_ext {x y : Int64} (h : ∀ u, u < 64 → bt6 x u = bt6 y u) : x = y := by
  rw [← Int64.toBitVec_inj]
  exact BitVec.eq_of_getLsbD_eq (fun i hi => h i hi)
theorem isIn_ok (x : Int64) {u : Nat} (hu : u < 64) : f_X2_isIn x (nI u) = some (if bt6 x u then 1 else 0) := by
  have key : ((x >>> ((nI u).toInt64 &&& 63)) &&& (1 : Int64)) = 0 ↔ bt6 x u = false := by
    have hz : ∀ i, i < 64 → bt6 ((x >>> ((nI u).toInt64 &&& 63)) &&& (1 : Int64)) i = (decide (i = 0) && bt6 x u) := by
      intro i hi
      rw [b6_and]
      have e1 : bt6 1 i = decide (i = 0) := by
        have := b6_only (k := 0) (by omega) hi
        rw [show ((1 : Int64) <<< ((nI 0).toInt64 &&& 63)) = 1 from by decide] at this
        exact this
      rw [e1]
      by_cases h0 : i = 0
      · subst h0
        unfold bt6
        rw [Int64.toBitVec_shiftRight]
        unfold BitVec.sshiftRight'
        rw [BitVec.getLsbD_sshiftRight, b6_cnt u hu]
        simp [hu]
      · simp [h0]
    constructor
    · intro h
      have := hz 0 (by omega)
      rw [h, b6_0] at this
      simpa using this.symm
    · intro h
      refine b6_ext (fun i hi => ?_)
      rw [hz i hi, h, b6_0]
      simp
  rw [f_X2_isIn]
  by_cases h : ((x >>> ((nI u).toInt64 &&& 63)) &&& (1 : Int64)) = 0
  · rw [h, if_pos (by decide), key.mp h]
    simp
  · have hb : bt6 x u = true := by
      cases hb : bt6 x u with
      | true => rfl
      | false => exact absurd (key.mpr hb) h
    rw [if_neg, hb]
    · simp
    · unfold lg_cmp
      by_cases h1 : ((x >>> ((nI u).toInt64 &&& 63)) &&& (1 : Int64)) > 0
      · rw [if_pos h1]; decide
      · rw [if_neg h1, if_neg h]; decide
theorem only_ok {k : Nat} (hk : k < 64) : ∃ x, f_X2_only (nI k) = some x ∧ ∀ u, u < 64 → bt6 x u = decide (u = k) := ⟨_, by rw [f_X2_only], fun u hu => b6_only hk hu⟩
/-- how far two numbers are apart -/
def dis (a b : Nat) : Nat := (a - b) + (b - a)
def far (t : NT) (u v : Nat) : Nat := dis (tP t u % tW t) (tP t v % tW t) + dis (tP t u / tW t) (tP t v / tW t)
theorem nI_abs {a b : Nat} (ha : a < 2 ^ 30) (hb : b < 2 ^ 30) : (if 0 ≤ (nI a - nI b) then (nI a - nI b) else 0 - (nI a - nI b)) = nI (dis a b) := by
  unfold dis
  by_cases h : b ≤ a
  · rw [pk_sub h, if_pos (nI_pos' (by omega))]
    congr 1
    omega
  · rw [if_neg]
    · have e : (0 : Int32) - (nI a - nI b) = nI b - nI a := by
        rw [← Int32.toBitVec_inj]
        simp
      rw [e, pk_sub (by omega)]
      congr 1
      omega
    · intro h2
      have := pk_sneg hb (show a < b by omega)
      rw [Int32.le_iff_toInt_le] at h2
      rw [Int32.lt_iff_toInt_lt] at this
      omega
def isU (t : NT) (x : Int32) : Prop := ∃ u, u < tN t ∧ x = nI u

/-! ===== the class's network: reads ===== -/
theorem n_nodes {N : NS} {t : NT} (hr : repN N t) : f_X0_nodes N = some (nI (tN t)) := by rw [f_X0_nodes, hr.1, hr.2.1, pk_mul]
theorem n_holds_t {N : NS} {t : NT} (hr : repN N t) (ok : NetOK t) {u : Nat} (hu : u < tN t) : f_X0_holds N (nI u) = some 1 := by
  have := n49 ok
  rw [f_X0_holds, if_neg (nI_pos (by omega)), n_nodes hr, Option.bind_some, if_neg (fun h => by have := (nI_leI (by omega) (by omega)).mp h; omega)]
theorem n_holds_f {N : NS} {t : NT} (hr : repN N t) (ok : NetOK t) {x : Int32} (h : ¬ isU t x) : f_X0_holds N x = some 0 := by
  have := n49 ok
  rw [f_X0_holds]
  by_cases h0 : x < 0
  · rw [if_pos h0]
  · obtain ⟨j, hj, rfl⟩ := nI_of h0
    rw [if_neg h0, n_nodes hr, Option.bind_some, if_pos]
    refine (nI_leI (by omega) hj).mpr ?_
    rcases Nat.lt_or_ge j (tN t) with h1 | h1
    · exact absurd ⟨j, h1, rfl⟩ h
    · exact h1
theorem n_isPresent {N : NS} {t : NT} (hr : repN N t) (ok : NetOK t) {u : Nat} (hu : u < tN t) : f_X0_isPresent N (nI u) = some (if tR t u then 1 else 0) := by
  have := n49 ok
  have hb : bt6 N.2.2.1 u = tR t u := by
    have := hr.2.2.1 u (by omega)
    unfold bt6
    rw [this]
    simp [hu]
  rw [f_X0_isPresent, n_holds_t hr ok hu, Option.bind_some, if_neg (by decide), isIn_ok _ (by omega), Option.bind_some, hb]
  cases tR t u <;> simp
theorem n_isPresent_f {N : NS} {t : NT} (hr : repN N t) (ok : NetOK t) {x : Int32} (h : ¬ isU t x) : f_X0_isPresent N x = some 0 := by
  rw [f_X0_isPresent, n_holds_f hr ok h, Option.bind_some, if_pos rfl]
theorem n_spacing {N : NS} {t : NT} (hr : repN N t) (ok : NetOK t) {u v : Nat} (hu : u < tN t) (hv : v < tN t) : f_X0_spacing N (nI u) (nI v) = some (nI (far t u v)) := by
  have h49 := n49 ok
  have h4 := hr.2.2.2.1
  have ou := (ok.2.1 u hu).1
  have ov := (ok.2.1 v hv).1
  have a1 : tP t u % tW t < 2 ^ 30 := Nat.lt_of_le_of_lt (Nat.mod_le _ _) (by omega)
  have a2 : tP t v % tW t < 2 ^ 30 := Nat.lt_of_le_of_lt (Nat.mod_le _ _) (by omega)
  have a3 : tP t u / tW t < 2 ^ 30 := Nat.lt_of_le_of_lt (Nat.div_le_self _ _) (by omega)
  have a4 : tP t v / tW t < 2 ^ 30 := Nat.lt_of_le_of_lt (Nat.div_le_self _ _) (by omega)
  rw [f_X0_spacing, valueAt_in (by omega) (by omega), Option.bind_some, valueAt_in (by omega) (by omega), Option.bind_some, valueAt_in (by omega) (by omega), Option.bind_some, valueAt_in (by omega) (by omega), Option.bind_some, (h4 u hu).1, (h4 v hv).1, (h4 u hu).2, (h4 v hv).2, nI_abs a1 a2, nI_abs a3 a4, nI_add]
  rfl
theorem n_linksOf {N : NS} {t : NT} (hr : repN N t) (ok : NetOK t) {u : Nat} (hu : u < tN t) : f_X0_linksOf N (nI u) = some (nI (tL t u).length) := by
  have h49 := n49 ok
  rw [f_X0_linksOf, valueAt_in (by omega) (by omega), Option.bind_some, (hr.2.2.2.2.2.1 u hu).1]
theorem n_linkAt {N : NS} {t : NT} (hr : repN N t) (ok : NetOK t) {u k : Nat} (hu : u < tN t) (hk : k < (tL t u).length) : f_X0_linkAt N (nI u) (nI k) = some (nI ((tL t u).getD k 0)) := by
  have h49 := n49 ok
  have h3 := (ok.2.2.2.1 u hu).1
  rw [f_X0_linkAt, show (3 : Int32) = nI 3 from rfl, pk_mul, nI_add, valueAt_in (by omega) (by omega), Option.bind_some, show u * 3 + k = 3 * u + k by omega, (hr.2.2.2.2.2.1 u hu).2 k hk]
theorem n_set0 {N : NS} {t : NT} (hr : repN N t) : f_X0_setting N 0 = some (nI (tLim t)) := by
  rw [f_X0_setting, show (0 : Int32) = nI 0 from rfl, valueAt_in (by omega) (by omega), Option.bind_some, hr.2.2.2.2.2.2.1]
theorem n_set1 {N : NS} {t : NT} (hr : repN N t) : f_X0_setting N 1 = some (nI (tRule t)) := by
  rw [f_X0_setting, show (1 : Int32) = nI 1 from rfl, valueAt_in (by omega) (by omega), Option.bind_some, hr.2.2.2.2.2.2.2.1]
theorem n_set2 {N : NS} {t : NT} (hr : repN N t) : f_X0_setting N 2 = some (nI (tCha t)) := by
  rw [f_X0_setting, show (2 : Int32) = nI 2 from rfl, valueAt_in (by omega) (by omega), Option.bind_some, hr.2.2.2.2.2.2.2.2.1]
theorem n_set3 {N : NS} {t : NT} (hr : repN N t) : f_X0_setting N 3 = some (nI (tSeed t)) := by
  rw [f_X0_setting, show (3 : Int32) = nI 3 from rfl, valueAt_in (by omega) (by omega), Option.bind_some, hr.2.2.2.2.2.2.2.2.2]
theorem n_placeOf {N : NS} {t : NT} (hr : repN N t) (ok : NetOK t) {u : Nat} (hu : u < tN t) : f_X0_placeOf N (nI u) = some (nI (tP t u)) := by
  have h49 := n49 ok
  rw [f_X0_placeOf, valueAt_in (by omega) (by omega), Option.bind_some, valueAt_in (by omega) (by omega), Option.bind_some, (hr.2.2.2.1 u hu).1, (hr.2.2.2.1 u hu).2, hr.1, pk_mul, nI_add, Nat.mul_comm, Nat.div_add_mod]
/-- the place in a list, up from k -/
def ixF (l : List Nat) (x : Nat) (k : Nat) : Nat → Option Nat
  | 0 => none
  | f + 1 => if l.length ≤ k then none else if l.getD k 0 = x then some k else ixF l x (k + 1) f
theorem getD_el {l : List Nat} {k : Nat} (h : k < l.length) : l.getD k 0 = l[k] := by rw [List.getD_eq_getElem?_getD, List.getElem?_eq_getElem h]; rfl
theorem getD_lt {l : List Nat} {k : Nat} (h : k < l.length) : l.getD k 0 ∈ l := by
  rw [getD_el h]
  exact List.getElem_mem h
theorem n_linkIndex_at {N : NS} {t : NT} (hr : repN N t) (ok : NetOK t) {u x : Nat} (hu : u < tN t) (hx : x < tN t) : ∀ (fu k : Nat), k ≤ (tL t u).length → (tL t u).length - k < fu → ((∃ j, k ≤ j ∧ j < (tL t u).length ∧ (tL t u).getD j 0 = x ∧ g_X0_linkIndex_2 fu N (nI u) (nI x) (nI k) = some (nI j)) ∨ ((∀ j, k ≤ j → j < (tL t u).length → (tL t u).getD j 0 ≠ x) ∧ g_X0_linkIndex_2 fu N (nI u) (nI x) (nI k) = some (-1))) := by
  intro fu
  have h3 := (ok.2.2.2.1 u hu).1
  have h49 := n49 ok
  induction fu with
  | zero => intro k h1 h2; omega
  | succ fu ih =>
    intro k h1 h2
    rw [g_X0_linkIndex_2, n_linksOf hr ok hu, Option.bind_some]
    by_cases hk : (tL t u).length ≤ k
    · rw [if_pos ((nI_leI (by omega) (by omega)).mpr hk)]
      exact Or.inr ⟨fun j a b => by omega, rfl⟩
    · have hk : k < (tL t u).length := by omega
      have hm := ((ok.2.2.2.1 u hu).2.2 _ (getD_lt hk)).1
      rw [if_neg (fun h => by have := (nI_leI (by omega) (by omega)).mp h; omega), n_linkAt hr ok hu hk, Option.bind_some]
      by_cases he : (tL t u).getD k 0 = x
      · rw [he, if_pos rfl]
        exact Or.inl ⟨k, Nat.le_refl k, hk, he, rfl⟩
      · rw [if_neg (fun h => he ((nI_eq (by omega) (by omega)).mp h)), nI_1]
        rcases ih (k + 1) (by omega) (by omega) with ⟨j, a, b, c, d⟩ | ⟨a, b⟩
        · exact Or.inl ⟨j, by omega, b, c, d⟩
        · refine Or.inr ⟨fun j h1 h2 => ?_, b⟩
          by_cases hj : j = k
          · rw [hj]; exact he
          · exact a j (by omega) h2
theorem mem_getD {l : List Nat} {x : Nat} : x ∈ l ↔ ∃ j, j < l.length ∧ l.getD j 0 = x := by
  constructor
  · intro h
    obtain ⟨j, hj, rfl⟩ := List.getElem_of_mem h
    exact ⟨j, hj, getD_el hj⟩
  · rintro ⟨j, hj, rfl⟩
    exact getD_lt hj
theorem n_linkIndex {N : NS} {t : NT} (hr : repN N t) (ok : NetOK t) {u x : Nat} (hu : u < tN t) (hx : x < tN t) : (∃ j, j < (tL t u).length ∧ (tL t u).getD j 0 = x ∧ f_X0_linkIndex N (nI u) (nI x) = some (nI j)) ∨ (x ∉ tL t u ∧ f_X0_linkIndex N (nI u) (nI x) = some (-1)) := by
  have h3 := (ok.2.2.2.1 u hu).1
  rw [f_X0_linkIndex]
  rcases n_linkIndex_at hr ok hu hx FU 0 (by omega) (by unfold FU; omega) with ⟨j, a, b, c, d⟩ | ⟨a, b⟩
  · exact Or.inl ⟨j, b, c, d⟩
  · refine Or.inr ⟨fun h => ?_, b⟩
    obtain ⟨j, h1, h2⟩ := mem_getD.mp h
    exact a j (by omega) h1 h2
theorem nI_neg1 {j : Nat} (h : j < 2 ^ 31) : ¬ nI j = -1 := by
  intro e
  have := nI_pos (n := j) h
  rw [e] at this
  exact this (by decide)
