/-! ===== present nodes ===== -/
def tPr (t : NT) : Nat := fb_ct (tR t) (tN t)
theorem n_present {N : NS} {t : NT} (hr : repN N t) (ok : NetOK t) : f_X0_presentNodes N = some (nI (tPr t)) := by
  have h49 := n49 ok
  rw [f_X0_presentNodes, pop_ok, Option.bind_some]
  have e : fb_ct (bt6 N.2.2.1) 64 = tPr t := by
    unfold tPr
    rw [show (64 : Nat) = tN t + (64 - tN t) by omega, fb_ct_split]
    have e1 : fb_ct (bt6 N.2.2.1) (tN t) = fb_ct (tR t) (tN t) := fb_ct_cong (fun k hk => by
      have := hr.2.2.1 k (by omega)
      unfold bt6
      rw [this]
      simp [hk])
    have e2 : fb_ct (fun k => bt6 N.2.2.1 (tN t + k)) (64 - tN t) = 0 := fb_ct_zero.mpr (fun k hk => by
      have := hr.2.2.1 (tN t + k) (by omega)
      unfold bt6
      rw [this]
      simp
      omega)
    rw [e1, e2, Nat.add_zero]
  rw [e]
theorem m_present_at {M : MS} {t : NT} (hr : repW M.1 t) (ok : NetOK t) : ∀ (fu i : Nat), i ≤ tN t → tN t - i < fu → g_X3_present_4 fu M (nI (fb_ct (tR t) i)) (nI i) = some (nI (tPr t)) := by
  intro fu
  have h49 := n49 ok
  induction fu with
  | zero => intro i h1 h2; omega
  | succ fu ih =>
    intro i h1 h2
    rw [g_X3_present_4, m_nodes hr, Option.bind_some]
    by_cases hi : tN t ≤ i
    · have : i = tN t := by omega
      subst this
      rw [if_pos (nI_le hi (by omega))]
      rfl
    · have hi2 : i < tN t := by omega
      rw [if_neg (fun h => hi ((nI_leI (by omega) (by omega)).mp h)), show (55 : Int32) = nI 55 from rfl, nI_add, gd_t (inB_nI (by omega) (by omega)), nI_clamp (by omega)]
      simp only [bindv]
      have e1 := (hr.2.2.2.2.2.2 i hi2).2.1
      have e := ih (i + 1) (by omega) (by omega)
      rw [fb_ct_succ] at e
      rw [e1, nI_1]
      cases hb : tR t i with
      | true =>
        rw [hb, if_pos rfl] at e
        rw [if_pos rfl, nI_1]
        exact e
      | false =>
        rw [hb, if_neg (by decide)] at e
        rw [if_neg (by decide), show (0 : Int32) = nI 0 from rfl, nI_add]
        exact e
theorem m_present {M : MS} {t : NT} (hr : repW M.1 t) (ok : NetOK t) : f_X3_present M = some (nI (tPr t)) := by
  have h49 := n49 ok
  rw [f_X3_present]
  exact m_present_at hr ok FU 0 (by omega) (by unfold FU; omega)
theorem st_told {V : HS} {N : NS} (S : SS) {M : MS} (h : Rel V N M) (a1 : Int32) : ∃ (r : Int32), f_X2_told V N S a1 = some r ∧ f_X3_told M a1 = some r ∧ Rel V N M := by
  have h' := h
  obtain ⟨⟨t, ok, rN, rW⟩, ⟨c, hc, v1, m1, -⟩, -⟩ := h
  rw [f_X2_told, f_X3_told]
  by_cases h0 : a1 = 0
  · rw [if_pos h0, if_pos h0, n_nodes rN, m_nodes rW]
    exact ⟨_, rfl, rfl, h'⟩
  rw [if_neg h0, if_neg h0]
  by_cases h0 : a1 = 1
  · rw [if_pos h0, if_pos h0, f_X0_width, c0, rN.1, rW.1]
    exact ⟨_, rfl, rfl, h'⟩
  rw [if_neg h0, if_neg h0]
  by_cases h0 : a1 = 2
  · rw [if_pos h0, if_pos h0, n_present rN ok, m_present rW ok]
    exact ⟨_, rfl, rfl, h'⟩
  rw [if_neg h0, if_neg h0]
  by_cases h0 : a1 = 3
  · rw [if_pos h0, if_pos h0, n_count rN ok, m_links rW ok]
    exact ⟨_, rfl, rfl, h'⟩
  rw [if_neg h0, if_neg h0]
  by_cases h0 : a1 = 4
  · rw [if_pos h0, if_pos h0, n_len rN ok, m_len rW ok]
    exact ⟨_, rfl, rfl, h'⟩
  rw [if_neg h0, if_neg h0]
  by_cases h0 : a1 = 5
  · rw [if_pos h0, if_pos h0, n_set0 rN, c2, rW.2.2.1]
    exact ⟨_, rfl, rfl, h'⟩
  rw [if_neg h0, if_neg h0]
  by_cases h0 : a1 = 6
  · rw [if_pos h0, if_pos h0, n_set1 rN, c3, rW.2.2.2.1]
    exact ⟨_, rfl, rfl, h'⟩
  rw [if_neg h0, if_neg h0]
  by_cases h0 : a1 = 7
  · rw [if_pos h0, if_pos h0, n_set2 rN, c4, rW.2.2.2.2.1]
    exact ⟨_, rfl, rfl, h'⟩
  rw [if_neg h0, if_neg h0]
  by_cases h0 : a1 = 8
  · rw [if_pos h0, if_pos h0, n_set3 rN, c5, rW.2.2.2.2.2.1]
    exact ⟨_, rfl, rfl, h'⟩
  rw [if_neg h0, if_neg h0]
  by_cases h0 : a1 = 9
  · rw [if_pos h0, if_pos h0, v1, m1]
    exact ⟨_, rfl, rfl, h'⟩
  rw [if_neg h0, if_neg h0]
  exact ⟨_, rfl, rfl, h'⟩
/-! ===== leave ===== -/
theorem m_takeW {M : MS} {t : NT} (hr : repW M.1 t) (h49 : tN t ≤ 49) (hl3 : ∀ v, v < tN t → (tL t v).length ≤ 3) {u k : Nat} (hu : u < tN t) (hk : k < (tL t u).length) : ∃ w', f_X3_drop M (nI u) (nI k) = some (w', M.2) ∧ repW w' (tTake t u k) := by
  have h3 := hl3 u hu
  obtain ⟨r1, r2, r3, r4, r5, r6, r7⟩ := hr
  obtain ⟨w', e1, e2, e3⟩ := m_take_at (u := u) (len := (tL t u).length) (by omega) h3 (by omega) FU k M hk (by unfold FU; omega) (r7 u hu).2.2.1
  rw [f_X3_drop]
  refine ⟨w', e1, ?_, ?_, ?_, ?_, ?_, ?_, fun v hv => ?_⟩
  · rw [e3 0 (by omega), if_neg (by omega)]; exact r1
  · rw [e3 1 (by omega), if_neg (by omega)]; exact r2
  · rw [e3 2 (by omega), if_neg (by omega)]; exact r3
  · rw [e3 3 (by omega), if_neg (by omega)]; exact r4
  · rw [e3 4 (by omega), if_neg (by omega)]; exact r5
  · rw [e3 5 (by omega), if_neg (by omega)]; exact r6
  · have hv : v < tN t := hv
    show w' (6 + v) = nI (tP t v) ∧ w' (55 + v) = (if tR t v then 1 else 0) ∧ w' (104 + v) = nI (if v = u then (tL t u).eraseIdx k else tL t v).length ∧ ∀ j, j < (if v = u then (tL t u).eraseIdx k else tL t v).length → w' (153 + 3 * v + j) = nI ((if v = u then (tL t u).eraseIdx k else tL t v).getD j 0)
    have hv3 := hl3 v hv
    obtain ⟨q1, q2, q3, q4⟩ := r7 v hv
    refine ⟨by rw [e3 _ (by omega), if_neg (by omega)]; exact q1, by rw [e3 _ (by omega), if_neg (by omega)]; exact q2, ?_⟩
    by_cases h : v = u
    · subst h
      rw [if_pos rfl, len_erase hk]
      refine ⟨e2, fun j hj => ?_⟩
      rw [e3 _ (by omega), eraseIdx_getD]
      by_cases hjk : j < k
      · rw [if_neg (by omega), if_pos hjk]
        exact q4 j (by omega)
      · rw [if_pos (by omega), if_neg hjk]
        exact q4 (j + 1) (by omega)
    · rw [if_neg h]
      refine ⟨by rw [e3 _ (by omega), if_neg (by omega)]; exact q3, fun j hj => ?_⟩
      rw [e3 _ (by omega), if_neg (by omega)]
      exact q4 j hj
def LO (t : NT) (x i v : Nat) : List Nat := if v = x then [] else if v < i then (tL t v).erase x else tL t v
def tOutC (t : NT) (x i : Nat) : NT := tSetL t (LO t x i)
def tOutM (t : NT) (x i : Nat) : NT := (tW t, tH t, tP t, tD t, (fun v => if v = x then false else tR t v), LO t x i, tLim t, tRule t, tCha t, tSeed t)
def outP (t : NT) (x v : Nat) : Bool := decide (v ≠ x ∧ x ∈ tL t v)
theorem LO_sub (t : NT) (x i v : Nat) : (LO t x i v).Sublist (tL t v) := by
  unfold LO
  by_cases h : v = x
  · rw [if_pos h]; exact List.nil_sublist _
  · rw [if_neg h]
    by_cases h2 : v < i
    · rw [if_pos h2]; exact List.erase_sublist
    · rw [if_neg h2]
      exact List.Sublist.refl _
theorem outC_ok {t : NT} (ok : NetOK t) (x i : Nat) : NetOK (tOutC t x i) := by
  obtain ⟨a, b, c, d, e, f⟩ := ok
  refine ⟨a, b, c, fun v hv => ?_, fun v hv hp => ?_, f⟩
  · obtain ⟨d1, d2, d3⟩ := d v hv
    have := LO_sub t x i v
    exact ⟨Nat.le_trans this.length_le d1, d2.sublist this, fun y hy => d3 y (this.mem hy)⟩
  · have := LO_sub t x i v
    rw [e v hv hp] at this
    exact List.sublist_nil.mp this
theorem ct_other {p : Nat → Bool} {x : Nat} : ∀ {n : Nat}, 2 ≤ fb_ct p n → ∃ y, y < n ∧ y ≠ x ∧ p y = true := by
  intro n
  induction n with
  | zero => intro h; exact absurd (show 2 ≤ 0 from h) (by omega)
  | succ n ih =>
    intro h
    by_cases h1 : 2 ≤ fb_ct p n
    · obtain ⟨y, a, b, c⟩ := ih h1
      exact ⟨y, by omega, b, c⟩
    · have h2 : p n = true := by
        cases hp : p n with
        | true => rfl
        | false => rw [fb_ct_succ, hp, if_neg (by decide)] at h; exact absurd h h1
      by_cases hn : n = x
      · rw [fb_ct_succ, h2, if_pos rfl] at h
        obtain ⟨y, a, b⟩ := fb_ct_pos.mp (show 0 < fb_ct p n by omega)
        exact ⟨y, by omega, by omega, b⟩
      · exact ⟨n, by omega, hn, h2⟩
theorem outM_ok {t : NT} (ok : NetOK t) {x : Nat} (hx : x < tN t) (ho : ∃ y, y < tN t ∧ y ≠ x ∧ tR t y = true) : NetOK (tOutM t x (tN t)) := by
  obtain ⟨a, b, c, d, e, f⟩ := ok
  refine ⟨a, b, c, fun v hv => ?_, fun v hv hp => ?_, f.1, f.2.1, f.2.2.1, f.2.2.2.1, ?_⟩
  rotate_left 2
  · obtain ⟨y, h1, h2, h3⟩ := ho
    refine ⟨y, h1, ?_⟩
    show (if y = x then false else tR t y) = true
    rw [if_neg h2]; exact h3
  · obtain ⟨d1, d2, d3⟩ := d v hv
    have := LO_sub t x (tN t) v
    refine ⟨Nat.le_trans this.length_le d1, d2.sublist this, fun y hy => ?_⟩
    obtain ⟨q1, q2, q3⟩ := d3 y (this.mem hy)
    refine ⟨q1, q2, ?_⟩
    show (if y = x then false else tR t y) = true
    have hyx : y ≠ x := by
      intro hyx
      subst hyx
      have hy' : y ∈ LO t y (tN t) v := hy
      unfold LO at hy'
      by_cases h1 : v = y
      · rw [if_pos h1] at hy'; exact absurd hy' List.not_mem_nil
      · have hv' : v < tN t := hv
        rw [if_neg h1, if_pos hv', d2.mem_erase_iff] at hy'
        exact hy'.1 rfl
    rw [if_neg hyx]; exact q3
  · have hp' : (if v = x then false else tR t v) = false := hp
    show LO t x (tN t) v = []
    by_cases h1 : v = x
    · unfold LO; rw [if_pos h1]
    · rw [if_neg h1] at hp'
      have := LO_sub t x (tN t) v
      rw [e v hv hp'] at this
      exact List.sublist_nil.mp this
theorem LO_step (t : NT) {x i j : Nat} (hd : (tL t i).Nodup) (hix : i ≠ x) (hj : j < (tL t i).length) (hjx : (tL t i).getD j 0 = x) : (fun v => if v = i then (LO t x i i).eraseIdx j else LO t x i v) = LO t x (i + 1) := by
  funext v
  unfold LO
  by_cases h : v = i
  · subst h
    rw [if_pos rfl, if_neg hix, if_neg hix, if_neg (Nat.lt_irrefl _), if_pos (Nat.lt_succ_self _)]
    refine (List.erase_eq_eraseIdx_of_idxOf ?_).symm
    rw [← hjx, getD_el hj]
    exact hd.idxOf_getElem j hj
  · rw [if_neg h]
    by_cases h1 : v = x
    · rw [if_pos h1, if_pos h1]
    · rw [if_neg h1, if_neg h1]
      by_cases h2 : v < i
      · rw [if_pos h2, if_pos (by omega)]
      · rw [if_neg h2, if_neg (by omega)]
theorem LO_skip (t : NT) {x i : Nat} (h : i = x ∨ x ∉ tL t i) : LO t x (i + 1) = LO t x i := by
  funext v
  unfold LO
  by_cases h1 : v = x
  · rw [if_pos h1, if_pos h1]
  · rw [if_neg h1, if_neg h1]
    by_cases h2 : v < i
    · rw [if_pos (by omega), if_pos h2]
    · by_cases h3 : v = i
      · subst h3
        rw [if_pos (by omega), if_neg h2, List.erase_of_not_mem (h.resolve_left h1)]
      · rw [if_neg (by omega), if_neg h2]
theorem n_away {t : NT} (ok : NetOK t) {x : Nat} (hx : x < tN t) (c : Nat) : ∀ (fu i : Nat) (N : NS), i ≤ tN t → tN t - i < fu → repN N (tOutC t x i) → ∃ N', g_X0_putAway_17 fu N (nI x) (nI (c + fb_ct (outP t x) i)) (nI i) = some (nI (c + fb_ct (outP t x) (tN t)), N') ∧ repN N' (tOutM t x (tN t)) := by
  intro fu
  have h49 := n49 ok
  induction fu with
  | zero => intro i N h1 h2; omega
  | succ fu ih =>
    intro i N h1 h2 hr
    have okC := outC_ok ok x i
    have hN : tN (tOutC t x i) = tN t := rfl
    rw [g_X0_putAway_17, n_nodes hr, Option.bind_some, hN]
    by_cases hi : tN t ≤ i
    · have : i = tN t := by omega
      subst this
      rw [if_pos (nI_le hi (by omega))]
      obtain ⟨b, hb, hb2⟩ := only_ok (k := x) (by omega)
      rw [hb, Option.bind_some]
      obtain ⟨r1, r2, r3, r4⟩ := hr
      refine ⟨_, rfl, r1, r2, fun u hu => ?_, r4⟩
      show bt6 (N.2.2.1 &&& (b ^^^ (-1))) u = (decide (u < tN t) && (if u = x then false else tR t u))
      rw [b6_and, b6_not _ hu, hb2 u hu]
      have : bt6 N.2.2.1 u = (decide (u < tN t) && tR t u) := r3 u hu
      rw [this]
      by_cases h : u = x
      · rw [if_pos h]; simp [h]
      · rw [if_neg h]; simp [h]
    · have hi2 : i < tN t := by omega
      rw [if_neg (fun h => hi ((nI_leI (by omega) (by omega)).mp h))]
      rcases n_linkIndex hr okC (u := i) (x := x) hi2 hx with ⟨j, j1, j2, j3⟩ | ⟨j1, j2⟩
      · have hix : i ≠ x := by
          intro e
          have : LO t x i i = [] := by unfold LO; rw [if_pos e]
          have j1' : j < (LO t x i i).length := j1
          rw [this] at j1'
          exact absurd j1' (Nat.not_lt_zero _)
        have hL : LO t x i i = tL t i := by unfold LO; rw [if_neg hix, if_neg (Nat.lt_irrefl _)]
        have j1' : j < (LO t x i i).length := j1
        have j2' : (LO t x i i).getD j 0 = x := j2
        rw [hL] at j1' j2'
        obtain ⟨N', n1, n2⟩ := n_take hr okC (u := i) hi2 j1
        rw [j3, Option.bind_some, if_neg (nI_neg1 (by have := (ok.2.2.2.1 i hi2).1; omega)), n1, Option.bind_some, nI_1, nI_1]
        have e : tTake (tOutC t x i) i j = tOutC t x (i + 1) := by
          have := LO_step t (ok.2.2.2.1 i hi2).2.1 hix j1' j2'
          unfold tTake tOutC
          rw [← this]
          rfl
        rw [e] at n2
        have := ih (i + 1) N' (by omega) (by omega) n2
        rw [fb_ct_succ, show outP t x i = true from by unfold outP; exact decide_eq_true ⟨hix, mem_getD.mpr ⟨j, j1', j2'⟩⟩, if_pos rfl] at this
        exact this
      · have hmem : i = x ∨ x ∉ tL t i := by
          by_cases h : i = x
          · exact Or.inl h
          · have hL : LO t x i i = tL t i := by unfold LO; rw [if_neg h, if_neg (Nat.lt_irrefl _)]
            have j1' : x ∉ LO t x i i := j1
            rw [hL] at j1'
            exact Or.inr j1'
        rw [j2, Option.bind_some, if_pos rfl, nI_1]
        have e : tOutC t x (i + 1) = tOutC t x i := by unfold tOutC; rw [LO_skip t hmem]
        have := ih (i + 1) N (by omega) (by omega) (e ▸ hr)
        rw [fb_ct_succ, show outP t x i = false from by unfold outP; exact decide_eq_false (fun h => hmem.elim h.1 (fun h2 => h2 h.2)), if_neg (by decide)] at this
        exact this
theorem n_putAway {N : NS} {t : NT} (hr : repN N t) (ok : NetOK t) {x : Nat} (hx : x < tN t) : ∃ N', f_X0_putAway N (nI x) = some (nI ((tL t x).length + fb_ct (outP t x) (tN t)), N') ∧ repN N' (tOutM t x (tN t)) := by
  have h49 := n49 ok
  rw [f_X0_putAway, n_linksOf hr ok hx, Option.bind_some, putAt_in (by omega) (by omega), Option.bind_some]
  refine n_away ok hx (tL t x).length FU 0 _ (by omega) (by unfold FU; omega) ?_
  obtain ⟨r1, r2, r3, r4, r5, r6, r7⟩ := hr
  refine ⟨r1, r2, r3, r4, r5, fun u hu => ?_, r7⟩
  show upd N.2.2.2.2.2.2.1 x 0 u = nI (LO t x 0 u).length ∧ ∀ k, k < (LO t x 0 u).length → N.2.2.2.2.2.2.2.1 (3 * u + k) = nI ((LO t x 0 u).getD k 0)
  unfold LO upd
  by_cases h : u = x
  · rw [if_pos h, if_pos h]
    exact ⟨rfl, fun k hk => absurd hk (Nat.not_lt_zero _)⟩
  · rw [if_neg h, if_neg h, if_neg (Nat.not_lt_zero _)]
    exact r6 u hu
