/-! ===== the reference: reads ===== -/
theorem c0 : (0 : Int32).toNatClampNeg = 0 := by decide
theorem c1 : (1 : Int32).toNatClampNeg = 1 := by decide
theorem c2 : (2 : Int32).toNatClampNeg = 2 := by decide
theorem c3 : (3 : Int32).toNatClampNeg = 3 := by decide
theorem c4 : (4 : Int32).toNatClampNeg = 4 := by decide
theorem c5 : (5 : Int32).toNatClampNeg = 5 := by decide
theorem isIn_t {x : Int32} {a b : Nat} (hb : b < 2 ^ 31) (h1 : a ≤ b) (h : (a : Int) ≤ x.toInt ∧ x.toInt ≤ b) : f_X3_isIn x (nI a) (nI b) = some 1 := by
  have e1 := nI_toInt (n := a) (by omega)
  have e2 := nI_toInt (n := b) (by omega)
  rw [f_X3_isIn, if_neg (by rw [Int32.lt_iff_toInt_lt]; omega), if_neg (by rw [Int32.lt_iff_toInt_lt]; omega)]
theorem isIn_f {x : Int32} {a b : Nat} (hb : b < 2 ^ 31) (h1 : a ≤ b) (h : ¬ ((a : Int) ≤ x.toInt ∧ x.toInt ≤ b)) : f_X3_isIn x (nI a) (nI b) = some 0 := by
  have e1 := nI_toInt (n := a) (by omega)
  have e2 := nI_toInt (n := b) (by omega)
  rw [f_X3_isIn]
  by_cases h2 : x < nI a
  · rw [if_pos h2]
  · rw [if_neg h2, if_pos]
    rw [Int32.lt_iff_toInt_lt] at h2 ⊢
    omega
/-- a number within, or without -/
theorem rng (x : Int32) {a b : Nat} (hb : b < 2 ^ 31) : (∃ c, a ≤ c ∧ c ≤ b ∧ x = nI c) ∨ ¬ ((a : Int) ≤ x.toInt ∧ x.toInt ≤ b) := by
  by_cases h : (a : Int) ≤ x.toInt ∧ x.toInt ≤ b
  · left
    have h0 : ¬ x < 0 := by rw [Int32.lt_iff_toInt_lt, Int32.toInt_zero]; omega
    obtain ⟨j, hj, rfl⟩ := nI_of h0
    rw [nI_toInt hj] at h
    exact ⟨j, by omega, by omega, rfl⟩
  · exact Or.inr h
theorem isU_or (t : NT) (ok : NetOK t) (x : Int32) : (∃ u, u < tN t ∧ x = nI u) ∨ ¬ isU t x := by
  by_cases h : isU t x
  · exact Or.inl h
  · exact Or.inr h
theorem m_nodes {M : MS} {t : NT} (hr : repW M.1 t) : f_X3_nodes M = some (nI (tN t)) := by rw [f_X3_nodes, c0, c1, hr.1, hr.2.1, pk_mul]
theorem m_isNode_t {M : MS} {t : NT} (hr : repW M.1 t) (ok : NetOK t) {u : Nat} (hu : u < tN t) : f_X3_isNode M (nI u) = some 1 := by
  have h49 := n49 ok
  rw [f_X3_isNode, m_nodes hr, Option.bind_some, show (1 : Int32) = nI 1 from rfl, show (0 : Int32) = nI 0 from rfl, pk_sub (by omega), isIn_t (by omega) (by omega) (by rw [nI_toInt (by omega)]; omega), Option.bind_some]
  rfl
theorem m_isNode_f {M : MS} {t : NT} (hr : repW M.1 t) (ok : NetOK t) {x : Int32} (h : ¬ isU t x) : f_X3_isNode M x = some 0 := by
  have h49 := n49 ok
  rw [f_X3_isNode, m_nodes hr, Option.bind_some, show (1 : Int32) = nI 1 from rfl, show (0 : Int32) = nI 0 from rfl, pk_sub (by omega), isIn_f (by omega) (by omega), Option.bind_some]
  · rfl
  · intro h2
    rcases rng x (a := 0) (b := tN t - 1) (by omega) with ⟨c, -, b, rfl⟩ | h3
    · exact h ⟨c, by omega, rfl⟩
    · exact h3 h2
theorem m_isPresent {M : MS} {t : NT} (hr : repW M.1 t) (ok : NetOK t) {u : Nat} (hu : u < tN t) : f_X3_isPresent M (nI u) = some (if tR t u then 1 else 0) := by
  have h49 := n49 ok
  rw [f_X3_isPresent, show (55 : Int32) = nI 55 from rfl, nI_add, gd_t (inB_nI (by omega) (by omega)), nI_clamp (by omega), (hr.2.2.2.2.2.2 u hu).2.1]
  cases tR t u <;> simp
theorem m_apart {a b : Nat} (ha : a < 2 ^ 30) (hb : b < 2 ^ 30) : f_X3_apart (nI a) (nI b) = some (nI (dis a b)) := by
  rw [f_X3_apart]
  unfold dis
  by_cases h : b ≤ a
  · rw [if_pos ((nI_leI (by omega) (by omega)).mpr h), pk_sub h]
    congr 2
    omega
  · rw [if_neg (fun h2 => h ((nI_leI (by omega) (by omega)).mp h2)), pk_sub (by omega)]
    congr 2
    omega
theorem nz_nI {d : Nat} (h0 : 0 < d) (hd : d < 2 ^ 31) : nz32 (nI d) = true := by
  unfold nz32
  have := nI_ne0 h0 hd
  simp [this]
theorem m_far {M : MS} {t : NT} (hr : repW M.1 t) (ok : NetOK t) {u v : Nat} (hu : u < tN t) (hv : v < tN t) : f_X3_far M (nI u) (nI v) = some (nI (far t u v)) := by
  have h49 := n49 ok
  have hW := ok.1
  have ou := (ok.2.1 u hu).1
  have ov := (ok.2.1 v hv).1
  have a1 : tP t u % tW t < 2 ^ 30 := Nat.lt_of_le_of_lt (Nat.mod_le _ _) (by omega)
  have a2 : tP t v % tW t < 2 ^ 30 := Nat.lt_of_le_of_lt (Nat.mod_le _ _) (by omega)
  have a3 : tP t u / tW t < 2 ^ 30 := Nat.lt_of_le_of_lt (Nat.div_le_self _ _) (by omega)
  have a4 : tP t v / tW t < 2 ^ 30 := Nat.lt_of_le_of_lt (Nat.div_le_self _ _) (by omega)
  rw [f_X3_far, show (6 : Int32) = nI 6 from rfl, nI_add, nI_add, gd_t (inB_nI (by omega) (by omega)), nI_clamp (by omega), nI_clamp (by omega), (hr.2.2.2.2.2.2 u hu).1, (hr.2.2.2.2.2.2 v hv).1]
  simp only [bindv]
  rw [gd_t (inB_nI (by omega) (by omega)), c0, hr.1, gd_t (nz_nI (by omega) (by omega)), gd_t (nz_nI (by omega) (by omega)), pk_rem (by omega) (by omega) (by omega), pk_rem (by omega) (by omega) (by omega), m_apart a1 a2, Option.bind_some, gd_t (nz_nI (by omega) (by omega)), gd_t (nz_nI (by omega) (by omega)), pk_div (by omega) (by omega) (by omega), pk_div (by omega) (by omega) (by omega), m_apart a3 a4, Option.bind_some, nI_add]
  rfl
theorem m_at {M : MS} {t : NT} (hr : repW M.1 t) (ok : NetOK t) {u k : Nat} (hu : u < tN t) (hk : k < (tL t u).length) : f_X3_at M (nI u) (nI k) = some (nI ((tL t u).getD k 0)) := by
  have h49 := n49 ok
  have h3 := (ok.2.2.2.1 u hu).1
  rw [f_X3_at, show (153 : Int32) = nI 153 from rfl, show (3 : Int32) = nI 3 from rfl, pk_mul, nI_add, nI_add, gd_t (inB_nI (by omega) (by omega)), nI_clamp (by omega), (hr.2.2.2.2.2.2 u hu).2.2.2 k hk]
theorem m_many {M : MS} {t : NT} (hr : repW M.1 t) (ok : NetOK t) {u : Nat} (hu : u < tN t) : inB ((104 : Int32) + nI u) 300 = true ∧ M.1 ((104 : Int32) + nI u).toNatClampNeg = nI (tL t u).length := by
  have h49 := n49 ok
  rw [show (104 : Int32) = nI 104 from rfl, nI_add, nI_clamp (by omega)]
  exact ⟨inB_nI (by omega) (by omega), (hr.2.2.2.2.2.2 u hu).2.2.1⟩
theorem m_hasLink_at {M : MS} {t : NT} (hr : repW M.1 t) (ok : NetOK t) {u x : Nat} (hu : u < tN t) (hx : x < tN t) : ∀ (fu k : Nat), k ≤ (tL t u).length → (tL t u).length - k < fu → ((∃ j, k ≤ j ∧ j < (tL t u).length ∧ (tL t u).getD j 0 = x) ∧ g_X3_hasLink_2 fu M (nI u) (nI x) (nI k) = some 1) ∨ ((∀ j, k ≤ j → j < (tL t u).length → (tL t u).getD j 0 ≠ x) ∧ g_X3_hasLink_2 fu M (nI u) (nI x) (nI k) = some 0) := by
  intro fu
  have h3 := (ok.2.2.2.1 u hu).1
  have h49 := n49 ok
  induction fu with
  | zero => intro k h1 h2; omega
  | succ fu ih =>
    intro k h1 h2
    rw [g_X3_hasLink_2, gd_t (m_many hr ok hu).1, (m_many hr ok hu).2]
    by_cases hk : (tL t u).length ≤ k
    · rw [if_pos ((nI_leI (by omega) (by omega)).mpr hk)]
      exact Or.inr ⟨fun j a b => by omega, rfl⟩
    · have hk : k < (tL t u).length := by omega
      have hm := ((ok.2.2.2.1 u hu).2.2 _ (getD_lt hk)).1
      rw [if_neg (fun h => by have := (nI_leI (by omega) (by omega)).mp h; omega), m_at hr ok hu hk, Option.bind_some]
      by_cases he : (tL t u).getD k 0 = x
      · rw [he, if_pos rfl]
        exact Or.inl ⟨⟨k, Nat.le_refl k, hk, he⟩, rfl⟩
      · rw [if_neg (fun h => he ((nI_eq (by omega) (by omega)).mp h)), nI_1]
        rcases ih (k + 1) (by omega) (by omega) with ⟨⟨j, a, b, c⟩, d⟩ | ⟨a, b⟩
        · exact Or.inl ⟨⟨j, by omega, b, c⟩, d⟩
        · refine Or.inr ⟨fun j h1 h2 => ?_, b⟩
          by_cases hj : j = k
          · rw [hj]; exact he
          · exact a j (by omega) h2
theorem m_hasLink {M : MS} {t : NT} (hr : repW M.1 t) (ok : NetOK t) {u x : Nat} (hu : u < tN t) (hx : x < tN t) : f_X3_hasLink M (nI u) (nI x) = some (if x ∈ tL t u then 1 else 0) := by
  have h3 := (ok.2.2.2.1 u hu).1
  rw [f_X3_hasLink]
  rcases m_hasLink_at hr ok hu hx FU 0 (by omega) (by unfold FU; omega) with ⟨⟨j, a, b, c⟩, d⟩ | ⟨a, b⟩
  · rw [if_pos (mem_getD.mpr ⟨j, b, c⟩)]
    exact d
  · rw [if_neg]
    · exact b
    · intro h
      obtain ⟨j, h1, h2⟩ := mem_getD.mp h
      exact a j (by omega) h1 h2
theorem dis_le {a b c : Nat} (ha : a < c) (hb : b < c) : dis a b < c := by unfold dis; omega
theorem far_le {t : NT} (ok : NetOK t) {u v : Nat} (hu : u < tN t) (hv : v < tN t) : far t u v ≤ 12 := by
  have hW := ok.1
  have m1 : tP t u % tW t < tW t := Nat.mod_lt _ (by omega)
  have m2 : tP t v % tW t < tW t := Nat.mod_lt _ (by omega)
  have d1 : tP t u / tW t < tH t := Nat.div_lt_of_lt_mul (ok.2.1 u hu).1
  have d2 : tP t v / tW t < tH t := Nat.div_lt_of_lt_mul (ok.2.1 v hv).1
  have e1 := dis_le m1 m2
  have e2 := dis_le d1 d2
  unfold far
  omega
/-- whether v is a contact of u -/
def con (t : NT) (u v : Nat) : Bool := decide (u ≠ v) && (tR t v && (decide (far t u v = 1) || decide (v ∈ tL t u)))
theorem m_isContact {M : MS} {t : NT} (hr : repW M.1 t) (ok : NetOK t) {u v : Nat} (hu : u < tN t) (hv : v < tN t) : f_X3_isContact M (nI u) (nI v) = some (if con t u v then 1 else 0) := by
  have h49 := n49 ok
  have hf : far t u v < 2 ^ 31 := by have := far_le ok hu hv; omega
  rw [f_X3_isContact]
  unfold con
  by_cases h : u = v
  · subst h; rw [if_pos rfl]; simp
  · rw [if_neg (fun e => h ((nI_eq (by omega) (by omega)).mp e)), m_isPresent hr ok hv, Option.bind_some]
    cases hp : tR t v with
    | false => simp
    | true =>
      rw [if_neg (by decide), m_far hr ok hu hv, Option.bind_some]
      by_cases h1 : far t u v = 1
      · rw [h1, if_pos (show nI 1 = 1 from rfl)]; simp [h]
      · rw [if_neg (fun e : nI (far t u v) = 1 => h1 ((nI_eq (b := 1) hf (by omega)).mp e)), m_hasLink hr ok hu hv, Option.bind_some]
        by_cases h2 : v ∈ tL t u
        · simp [h, h1, h2]
        · simp [h, h1, h2]
