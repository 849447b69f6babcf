/-! ===== contacts ===== -/
theorem pop_set {z : Int64} {q : Nat → Bool} {n : Nat} (hn : n ≤ 49) (h : ∀ v, v < 64 → bt6 z v = (decide (v < n) && q v)) : f_J13_bitCount_95d88 z = some (nI (fb_ct q n)) := by
  rw [pop_ok]
  have e : fb_ct (bt6 z) 64 = fb_ct q n := by
    rw [show (64 : Nat) = n + (64 - n) by omega, fb_ct_split]
    have e1 : fb_ct (bt6 z) n = fb_ct q n := fb_ct_cong (fun k hk => by rw [h k (by omega)]; simp [hk])
    have e2 : fb_ct (fun k => bt6 z (n + k)) (64 - n) = 0 := fb_ct_zero.mpr (fun k hk => by
      rw [h (n + k) (by omega)]
      simp
      omega)
    rw [e1, e2, Nat.add_zero]
  rw [e]
theorem n_standing {N : NS} {t : NT} (hr : repN N t) (ok : NetOK t) (x y : Int32) : ∃ z, f_X0_standingAt N x y = some z ∧ ∀ v, v < 64 → (bt6 z v = true ↔ v < tN t ∧ ((tP t v % tW t : Nat) : Int) = x.toInt ∧ ((tP t v / tW t : Nat) : Int) = y.toInt) := by
  have h49 := n49 ok
  obtain ⟨o1, o2, o3, -⟩ := ok
  obtain ⟨r1, r2, r3, r4, r5, -⟩ := hr
  rw [f_X0_standingAt]
  have hz : ∀ v, ¬ (bt6 0 v = true) := fun v => by rw [b6_0]; decide
  by_cases hx0 : x < 0
  · rw [if_pos hx0]
    refine ⟨_, rfl, fun v hv => ⟨fun h => absurd h (hz v), fun h => ?_⟩⟩
    rw [Int32.lt_iff_toInt_lt] at hx0
    have : (0 : Int32).toInt = 0 := rfl
    omega
  rw [if_neg hx0]
  obtain ⟨c, hc, rfl⟩ := nI_of hx0
  rw [nI_toInt hc, r1]
  by_cases hcW : tW t ≤ c
  · rw [if_pos (nI_le hcW hc)]
    refine ⟨_, rfl, fun v hv => ⟨fun h => absurd h (hz v), fun h => ?_⟩⟩
    have := Nat.mod_lt (tP t v) (show 0 < tW t by omega)
    omega
  rw [if_neg (fun h => hcW ((nI_leI (by omega) hc).mp h))]
  by_cases hy0 : y < 0
  · rw [if_pos hy0]
    refine ⟨_, rfl, fun v hv => ⟨fun h => absurd h (hz v), fun h => ?_⟩⟩
    rw [Int32.lt_iff_toInt_lt] at hy0
    have : (0 : Int32).toInt = 0 := rfl
    have := Int.natCast_nonneg (tP t v / tW t)
    omega
  rw [if_neg hy0]
  obtain ⟨r, hr, rfl⟩ := nI_of hy0
  rw [nI_toInt hr, r2]
  by_cases hrH : r < tH t
  · rw [if_pos (nI_lt hrH (by omega)), pk_mul, nI_add]
    have hp : r * tW t + c < tN t := by
      have : (r + 1) * tW t ≤ tH t * tW t := Nat.mul_le_mul_right _ hrH
      rw [Nat.add_mul, Nat.mul_comm (tH t)] at this
      show _ < tW t * tH t
      omega
    rw [if_neg (nI_pos (by omega)), if_neg (fun h => by have := (nI_leI (by omega) (by omega)).mp h; omega), gd_t (inB_nI (by omega) (by omega)), nI_clamp (by omega), r5 _ hp]
    obtain ⟨d1, d2⟩ := o3 _ hp
    have hmd := rc_mod (r := r) (W := tW t) (c := c) (by omega)
    refine ⟨_, rfl, fun v hv => ?_⟩
    rw [b6_only (by omega) hv, decide_eq_true_iff]
    constructor
    · intro e
      rw [e, d2]
      exact ⟨d1, by rw [hmd.1], by rw [hmd.2]⟩
    · rintro ⟨e1, e2, e3⟩
      have hv2 := Nat.div_add_mod' (tP t v) (tW t)
      have e2' : tP t v % tW t = c := by omega
      have e3' : tP t v / tW t = r := by omega
      rw [e2', e3'] at hv2
      rw [hv2, (o2 v e1).2]
  · rw [if_neg (fun h => by rw [Int32.lt_iff_toInt_lt, nI_toInt hr, nI_toInt (by omega)] at h; omega)]
    refine ⟨_, rfl, fun v hv => ⟨fun h => absurd h (hz v), fun h => ?_⟩⟩
    have h1 := (o2 v h.1).1
    have : tP t v / tW t < tH t := Nat.div_lt_of_lt_mul h1
    omega
theorem n_neighbors {N : NS} {t : NT} (hr : repN N t) (ok : NetOK t) {u : Nat} (hu : u < tN t) : ∃ z, f_X0_neighborsOf N (nI u) = some z ∧ ∀ v, v < 64 → (bt6 z v = true ↔ v < tN t ∧ tR t v = true ∧ far t u v = 1) := by
  have h49 := n49 ok
  have ou := (ok.2.1 u hu).1
  have hc : tP t u % tW t < 2 ^ 30 := Nat.lt_of_le_of_lt (Nat.mod_le _ _) (by omega)
  have hd : tP t u / tW t < 2 ^ 30 := Nat.lt_of_le_of_lt (Nat.div_le_self _ _) (by omega)
  rw [f_X0_neighborsOf, valueAt_in (by omega) (by omega), Option.bind_some, valueAt_in (by omega) (by omega), Option.bind_some, (hr.2.2.2.1 u hu).1, (hr.2.2.2.1 u hu).2]
  obtain ⟨z3, e3, b3⟩ := n_standing hr ok (nI (tP t u % tW t) - 1) (nI (tP t u / tW t))
  obtain ⟨z4, e4, b4⟩ := n_standing hr ok (nI (tP t u % tW t) + 1) (nI (tP t u / tW t))
  obtain ⟨z5, e5, b5⟩ := n_standing hr ok (nI (tP t u % tW t)) (nI (tP t u / tW t) - 1)
  obtain ⟨z6, e6, b6⟩ := n_standing hr ok (nI (tP t u % tW t)) (nI (tP t u / tW t) + 1)
  rw [e3, Option.bind_some, e4, Option.bind_some, e5, Option.bind_some, e6, Option.bind_some]
  refine ⟨_, rfl, fun v hv => ?_⟩
  have hb : bt6 N.2.2.1 v = (decide (v < tN t) && tR t v) := hr.2.2.1 v hv
  have c3 := b3 v hv
  have c4 := b4 v hv
  have c5 := b5 v hv
  have c6 := b6 v hv
  rw [show (1 : Int32) = nI 1 from rfl, pk_sub_toInt hc (by omega), nI_toInt (by omega)] at c3
  rw [nI_1, nI_toInt (by omega), nI_toInt (by omega)] at c4
  rw [show (1 : Int32) = nI 1 from rfl, pk_sub_toInt hd (by omega), nI_toInt (by omega)] at c5
  rw [nI_1, nI_toInt (by omega), nI_toInt (by omega)] at c6
  rw [b6_and, b6_or, b6_or, b6_or, hb]
  simp only [Bool.and_eq_true, Bool.or_eq_true, decide_eq_true_eq]
  rw [c3, c4, c5, c6]
  unfold far dis
  constructor
  · rintro ⟨⟨h1, h2⟩, h3⟩
    refine ⟨h1, h2, ?_⟩
    omega
  · rintro ⟨h1, h2, h3⟩
    refine ⟨⟨h1, h2⟩, ?_⟩
    omega
theorem n_con_at {N : NS} {t : NT} (hr : repN N t) (ok : NetOK t) {u : Nat} (hu : u < tN t) : ∀ (fu k : Nat) (z : Int64), k ≤ (tL t u).length → (tL t u).length - k < fu → ∃ z', g_X0_contactsOf_9 fu N (nI u) z (nI k) = some z' ∧ ∀ v, v < 64 → (bt6 z' v = true ↔ bt6 z v = true ∨ ∃ j, k ≤ j ∧ j < (tL t u).length ∧ (tL t u).getD j 0 = v) := by
  intro fu
  have h3 := (ok.2.2.2.1 u hu).1
  have h49 := n49 ok
  induction fu with
  | zero => intro k z h1 h2; omega
  | succ fu ih =>
    intro k z h1 h2
    rw [g_X0_contactsOf_9, n_linksOf hr ok hu, Option.bind_some]
    by_cases hk : (tL t u).length ≤ k
    · rw [if_pos (nI_le hk (by omega))]
      exact ⟨_, rfl, fun v hv => ⟨Or.inl, fun h => h.elim id (fun ⟨j, a, b, c⟩ => by omega)⟩⟩
    · have hk : k < (tL t u).length := by omega
      have hm := ((ok.2.2.2.1 u hu).2.2 _ (getD_lt hk)).1
      have hm' : (tL t u).getD k 0 < tN t := hm
      obtain ⟨b, hb, hb2⟩ := only_ok (k := (tL t u).getD k 0) (by omega)
      rw [if_neg (fun h => by have := (nI_leI (by omega) (by omega)).mp h; omega), n_linkAt hr ok hu hk, Option.bind_some, hb, Option.bind_some, nI_1]
      obtain ⟨z', e1, e2⟩ := ih (k + 1) (z ||| b) (by omega) (by omega)
      refine ⟨z', e1, fun v hv => ?_⟩
      rw [e2 v hv, b6_or, hb2 v hv, Bool.or_eq_true, decide_eq_true_eq]
      constructor
      · rintro ((h | h) | ⟨j, a, b, c⟩)
        · exact Or.inl h
        · exact Or.inr ⟨k, Nat.le_refl _, hk, h.symm⟩
        · exact Or.inr ⟨j, by omega, b, c⟩
      · rintro (h | ⟨j, a, b, c⟩)
        · exact Or.inl (Or.inl h)
        · by_cases hj : j = k
          · subst hj; exact Or.inl (Or.inr c.symm)
          · exact Or.inr ⟨j, by omega, b, c⟩
theorem far_self (t : NT) (u : Nat) : far t u u = 0 := by unfold far dis; omega
theorem con_iff (t : NT) (u v : Nat) : con t u v = true ↔ u ≠ v ∧ tR t v = true ∧ (far t u v = 1 ∨ v ∈ tL t u) := by
  unfold con
  simp only [Bool.and_eq_true, Bool.or_eq_true, decide_eq_true_eq]
theorem n_contacts {N : NS} {t : NT} (hr : repN N t) (ok : NetOK t) {u : Nat} (hu : u < tN t) : ∃ z, f_X0_contactsOf N (nI u) = some z ∧ ∀ v, v < 64 → bt6 z v = (decide (v < tN t) && con t u v) := by
  rw [f_X0_contactsOf]
  have h3 := (ok.2.2.2.1 u hu).1
  obtain ⟨z, e, b⟩ := n_neighbors hr ok hu
  rw [e, Option.bind_some]
  obtain ⟨z', e1, e2⟩ := n_con_at hr ok hu FU 0 z (by omega) (by unfold FU; omega)
  refine ⟨z', e1, fun v hv => ?_⟩
  rw [Bool.eq_iff_iff, e2 v hv, b v hv, Bool.and_eq_true, decide_eq_true_eq, con_iff]
  constructor
  · rintro (⟨h1, h2, h3⟩ | ⟨j, -, h1, h2⟩)
    · refine ⟨h1, fun e => ?_, h2, Or.inl h3⟩
      subst e
      rw [far_self] at h3
      exact absurd h3 (by decide)
    · have hm : v ∈ tL t u := mem_getD.mpr ⟨j, h1, h2⟩
      obtain ⟨q1, q2, q3⟩ := (ok.2.2.2.1 u hu).2.2 v hm
      exact ⟨q1, fun e => q2 e.symm, q3, Or.inr hm⟩
  · rintro ⟨h1, h2, h3, h4 | h4⟩
    · exact Or.inl ⟨h1, h3, h4⟩
    · obtain ⟨j, j1, j2⟩ := mem_getD.mp h4
      exact Or.inr ⟨j, Nat.zero_le _, j1, j2⟩
def tCon (t : NT) (u : Nat) : Nat := fb_ct (con t u) (tN t)
theorem m_contacts_at {M : MS} {t : NT} (hr : repW M.1 t) (ok : NetOK t) {u : Nat} (hu : u < tN t) : ∀ (fu i : Nat), i ≤ tN t → tN t - i < fu → g_X3_contacts_4 fu M (nI u) (nI (fb_ct (con t u) i)) (nI i) = some (nI (tCon t u)) := by
  intro fu
  have h49 := n49 ok
  induction fu with
  | zero => intro i h1 h2; omega
  | succ fu ih =>
    intro i h1 h2
    rw [g_X3_contacts_4, m_nodes hr, Option.bind_some]
    by_cases hi : tN t ≤ i
    · have : i = tN t := by omega
      subst this
      rw [if_pos (nI_le hi (by omega))]
      rfl
    · have hi2 : i < tN t := by omega
      rw [if_neg (fun h => hi ((nI_leI (by omega) (by omega)).mp h)), m_isContact hr ok hu hi2, Option.bind_some]
      have e := ih (i + 1) (by omega) (by omega)
      rw [fb_ct_succ] at e
      cases hb : con t u i with
      | true =>
        rw [hb, if_pos rfl] at e
        rw [if_pos rfl, if_neg n10, nI_1, nI_1]
        exact e
      | false =>
        rw [hb, if_neg (by decide)] at e
        rw [if_neg (show ¬ (false = true) by decide), if_pos z00, nI_1, show (0 : Int32) = nI 0 from rfl, nI_add]
        exact e
theorem m_contacts {M : MS} {t : NT} (hr : repW M.1 t) (ok : NetOK t) {u : Nat} (hu : u < tN t) : f_X3_contacts M (nI u) = some (nI (tCon t u)) := by
  have h49 := n49 ok
  rw [f_X3_contacts]
  exact m_contacts_at hr ok hu FU 0 (by omega) (by unfold FU; omega)
/-! ===== enter ===== -/
def tIn (t : NT) (x : Nat) : NT := (tW t, tH t, tP t, tD t, (fun v => if v = x then true else tR t v), tL t, tLim t, tRule t, tCha t, tSeed t)
theorem in_ok {t : NT} (ok : NetOK t) (x : Nat) : NetOK (tIn t x) := by
  obtain ⟨a, b, c, d, e, f⟩ := ok
  refine ⟨a, b, c, fun v hv => ?_, fun v hv hp => ?_, f.1, f.2.1, f.2.2.1, f.2.2.2.1, ?_⟩
  rotate_left 2
  · obtain ⟨y, h1, h2⟩ := f.2.2.2.2
    refine ⟨y, h1, ?_⟩
    show (if y = x then true else tR t y) = true
    rw [h2]
    simp
  · obtain ⟨d1, d2, d3⟩ := d v hv
    refine ⟨d1, d2, fun y hy => ?_⟩
    obtain ⟨q1, q2, q3⟩ := d3 y hy
    refine ⟨q1, q2, ?_⟩
    show (if y = x then true else tR t y) = true
    rw [q3]
    simp
  · have hp' : (if v = x then true else tR t v) = false := hp
    by_cases h : v = x
    · rw [if_pos h] at hp'; cases hp'
    · rw [if_neg h] at hp'
      exact e v hv hp'
theorem st_enter {V : HS} {N : NS} (S : SS) {M : MS} (h : Rel V N M) (a1 : Int32) : ∃ (r : Int32) (V' : HS) (N' : NS) (M' : MS), f_X2_enter V N S a1 = some (r, V', N') ∧ f_X3_enter M a1 = some (r, M') ∧ Rel V' N' M' := by
  have h' := h
  obtain ⟨⟨t, ok, rN, rW⟩, hH⟩ := h
  have h49 := n49 ok
  rw [f_X2_enter, f_X3_enter]
  rcases isU_or t ok a1 with ⟨u, hu, rfl⟩ | hn
  · rw [m_isNode_t rW ok hu, Option.bind_some, if_neg n10, n_holds_t rN ok hu, Option.bind_some, if_neg n10]
    cases hp : tR t u with
    | true =>
      rw [m_pres_t rW ok hu hp, Option.bind_some, if_neg n10, n_pres_t rN ok hu hp, Option.bind_some, if_neg n10]
      exact ⟨_, _, _, _, rfl, rfl, h'⟩
    | false =>
      obtain ⟨V', p', x', e1, e2, e3⟩ := rec_ok S h'
      have ok2 := in_ok ok u
      have hu2 : u < tN (tIn t u) := hu
      rw [m_pres_f rW ok hu hp, Option.bind_some, if_pos z00, n_pres_f rN ok hu hp, Option.bind_some, if_pos z00, e1, Option.bind_some, e2, Option.bind_some, f_X0_putIn]
      obtain ⟨b, hb, hb2⟩ := only_ok (k := u) (by omega)
      rw [hb, Option.bind_some, Option.bind_some]
      have n2 : repN (N.1, N.2.1, (N.2.2.1 ||| b), N.2.2.2.1, N.2.2.2.2.1, N.2.2.2.2.2.1, N.2.2.2.2.2.2.1, N.2.2.2.2.2.2.2.1, N.2.2.2.2.2.2.2.2) (tIn t u) := by
        obtain ⟨r1, r2, r3, r4⟩ := rN
        refine ⟨r1, r2, fun v hv => ?_, r4⟩
        show bt6 (N.2.2.1 ||| b) v = (decide (v < tN t) && (if v = u then true else tR t v))
        rw [b6_or, hb2 v hv]
        have : bt6 N.2.2.1 v = (decide (v < tN t) && tR t v) := r3 v hv
        rw [this]
        by_cases h : v = u
        · subst h; simp [hu]
        · simp [h]
      obtain ⟨z, z1, z2⟩ := n_neighbors n2 ok2 hu2
      have m2 : repW (upd M.1 (55 + u) 1) (tIn t u) := by
        obtain ⟨r1, r2, r3, r4, r5, r6, r7⟩ := rW
        have hx : ∀ j, (j ≠ 55 + u) → upd M.1 (55 + u) 1 j = M.1 j := by
          intro j h2
          unfold upd
          rw [if_neg h2]
        refine ⟨(hx 0 (by omega)).trans r1, (hx 1 (by omega)).trans r2, (hx 2 (by omega)).trans r3, (hx 3 (by omega)).trans r4, (hx 4 (by omega)).trans r5, (hx 5 (by omega)).trans r6, fun v hv => ?_⟩
        have hv : v < tN t := hv
        obtain ⟨q1, q2, q3, q4⟩ := r7 v hv
        show _ ∧ _ = (if (if v = u then true else tR t v) = true then (1 : Int32) else 0) ∧ _ = nI (tL t v).length ∧ ∀ k, k < (tL t v).length → _ = nI ((tL t v).getD k 0)
        refine ⟨(hx _ (by omega)).trans q1, ?_, (hx _ (by omega)).trans q3, fun k hk => (hx _ (by omega)).trans (q4 k hk)⟩
        by_cases hvu : v = u
        · subst hvu
          rw [if_pos rfl]
          unfold upd
          rw [if_pos rfl]
          rfl
        · rw [if_neg hvu]
          exact (hx _ (by omega)).trans q2
      have hz : ∀ v, v < 64 → bt6 z v = (decide (v < tN (tIn t u)) && con (tIn t u) u v) := by
        intro v hv
        rw [Bool.eq_iff_iff, z2 v hv, Bool.and_eq_true, decide_eq_true_eq, con_iff]
        have hL : tL (tIn t u) u = [] := ok.2.2.2.2.1 u hu hp
        rw [hL]
        constructor
        · rintro ⟨h1, h2, h3⟩
          refine ⟨h1, fun e => ?_, h2, Or.inl h3⟩
          subst e
          rw [far_self] at h3
          exact absurd h3 (by decide)
        · rintro ⟨h1, h2, h3, h4 | h4⟩
          · exact ⟨h1, h3, h4⟩
          · exact absurd h4 List.not_mem_nil
      rw [z1, Option.bind_some, pop_set (n49 ok2).1 hz, Option.bind_some, show (55 : Int32) = nI 55 from rfl, nI_add, gd_t (inB_nI (by omega) (by omega)), nI_clamp (by omega)]
      rw [m_contacts (M := (upd M.1 (55 + u) 1, p', x', M.2.2.2)) m2 ok2 hu2, Option.bind_some]
      exact ⟨_, _, _, _, rfl, rfl, ⟨_, ok2, n2, m2⟩, e3⟩
  · rw [m_isNode_f rW ok hn, Option.bind_some, if_pos z00, n_holds_f rN ok hn, Option.bind_some, if_pos z00]
    exact ⟨_, _, _, _, rfl, rfl, h'⟩
