theorem nodup_getD {l : List Nat} (hd : l.Nodup) {j k : Nat} (hj : j < l.length) (hk : k < l.length) (e : l.getD j 0 = l.getD k 0) : j = k := by
  rw [getD_el hj, getD_el hk] at e
  rw [← hd.idxOf_getElem j hj, e, hd.idxOf_getElem k hk]
theorem atR {M : MS} {u k : Nat} (hu : u < 49) (hk : k < 3) : f_X3_at M (nI u) (nI k) = some (M.1 (153 + 3 * u + k)) := by
  rw [f_X3_at, show (153 : Int32) = nI 153 from rfl, show (3 : Int32) = nI 3 from rfl, pk_mul, nI_add, nI_add, gd_t (inB_nI (by omega) (by omega)), nI_clamp (by omega)]
theorem nI_m1 (k : Nat) : nI k + (-1) = nI k - 1 := by
  rw [Int32.sub_eq_add_neg]
theorem nI_p1 (k : Nat) : nI (k + 1) - 1 = nI k := by
  rw [show (1 : Int32) = nI 1 from rfl, pk_sub (by omega), Nat.add_sub_cancel]
theorem leave86_no {K : MS → Int32 → Int32 → Int32 → Option (Int32 × MS)} {u x : Nat} (hu : u < 49) {M : MS} {c : Int32} : ∀ (fu k : Nat), k ≤ 3 → k < fu → (∀ j, j < k → M.1 (153 + 3 * u + j) ≠ nI x) → g_X3_leave_86 K fu M (nI x) c (nI u) (nI k - 1) = K M (nI x) c (nI (u + 1)) := by
  intro fu
  induction fu with
  | zero => intro k h1 h2; omega
  | succ fu ih =>
    intro k h1 h2 hn
    rw [g_X3_leave_86]
    cases k with
    | zero => rw [if_pos (by decide), nI_1]
    | succ k =>
      rw [nI_p1, if_neg (nI_pos (by omega)), atR hu (by omega), Option.bind_some, if_neg (hn k (by omega)), nI_m1]
      exact ih k (by omega) (by omega) (fun j hj => hn j (by omega))
theorem leave86_at {K : MS → Int32 → Int32 → Int32 → Option (Int32 × MS)} {t : NT} (h49 : tN t ≤ 49) (hl3 : ∀ v, v < tN t → (tL t v).length ≤ 3) {u x j : Nat} (hu : u < tN t) (hd : (tL t u).Nodup) (hm : ∀ y ∈ tL t u, y < 2 ^ 31) (hx : x < 2 ^ 31) (hj : j < (tL t u).length) (hjx : (tL t u).getD j 0 = x) (c : Nat) : ∀ (fu k : Nat) (M : MS), repW M.1 t → k ≤ (tL t u).length → j < k → k < fu → ∃ w', g_X3_leave_86 K fu M (nI x) (nI c) (nI u) (nI k - 1) = K (w', M.2) (nI x) (nI (c + 1)) (nI (u + 1)) ∧ repW w' (tTake t u j) := by
  intro fu
  have h3 := hl3 u hu
  induction fu with
  | zero => intro k M hr h1 h2 h3; omega
  | succ fu ih =>
    intro k M hr h1 h2 h4
    rw [g_X3_leave_86]
    cases k with
    | zero => omega
    | succ k =>
      rw [nI_p1, if_neg (nI_pos (by omega)), atR (by omega) (by omega), Option.bind_some, (hr.2.2.2.2.2.2 u hu).2.2.2 k (by omega)]
      by_cases hk : k = j
      · subst hk
        rw [hjx, if_pos rfl]
        obtain ⟨w', m1, m2⟩ := m_takeW hr h49 hl3 hu hj
        rw [m1, Option.bind_some, nI_1, nI_m1]
        refine ⟨w', leave86_no (by omega) fu k (by omega) (by omega) (fun i hi => ?_), m2⟩
        have e := (m2.2.2.2.2.2.2 u hu).2.2.2
        have hl : (tL (tTake t u k) u) = (tL t u).eraseIdx k := if_pos rfl
        rw [hl, len_erase hj] at e
        have e2 := e i (by omega)
        rw [eraseIdx_getD, if_pos hi] at e2
        show w' (153 + 3 * u + i) ≠ nI x
        rw [e2]
        intro h
        have h5 := (nI_eq (hm _ (getD_lt (by omega))) hx).mp h
        have := nodup_getD hd (j := i) (k := k) (by omega) hj (h5.trans hjx.symm)
        omega
      · rw [if_neg, nI_m1]
        · exact ih k M hr (by omega) (by omega) (by omega)
        · intro h
          have h5 := (nI_eq (hm _ (getD_lt (by omega))) hx).mp h
          exact hk (nodup_getD hd (by omega) hj (h5.trans hjx.symm))
theorem m_away {t : NT} (ok : NetOK t) {x : Nat} (hx : x < tN t) (c : Nat) : ∀ (fu i : Nat) (M : MS), i ≤ tN t → tN t - i < fu → repW M.1 (tOutM t x i) → ∃ w', g_X3_leave_65 fu M (nI x) (nI (c + fb_ct (outP t x) i)) (nI i) = some (nI (c + fb_ct (outP t x) (tN t)), (w', M.2)) ∧ repW w' (tOutM t x (tN t)) := by
  intro fu
  have h49 := n49 ok
  induction fu with
  | zero => intro i M h1 h2; omega
  | succ fu ih =>
    intro i M h1 h2 hr
    have hN : tN (tOutM t x i) = tN t := rfl
    rw [g_X3_leave_65, m_nodes hr, Option.bind_some, hN]
    by_cases hi : tN t ≤ i
    · have : i = tN t := by omega
      subst this
      rw [if_pos (nI_le hi (by omega))]
      exact ⟨_, rfl, hr⟩
    · have hi2 : i < tN t := by omega
      have h3 : ∀ v, v < tN t → (LO t x i v).length ≤ 3 := fun v hv => Nat.le_trans (LO_sub t x i v).length_le (ok.2.2.2.1 v hv).1
      have e104 := (hr.2.2.2.2.2.2 i hi2).2.2.1
      have e104' : M.1 (104 + i) = nI (LO t x i i).length := e104
      rw [if_neg (fun h => hi ((nI_leI (by omega) (by omega)).mp h)), show (104 : Int32) = nI 104 from rfl, nI_add, gd_t (inB_nI (by omega) (by omega)), nI_clamp (by omega), e104']
      simp only [bindv]
      have h3i := h3 i hi2
      by_cases hm : i ≠ x ∧ x ∈ tL t i
      · have hL : LO t x i i = tL t i := by unfold LO; rw [if_neg hm.1, if_neg (Nat.lt_irrefl _)]
        obtain ⟨j, j1, j2⟩ := mem_getD.mp hm.2
        have j1' : j < (tL (tOutM t x i) i).length := by show j < (LO t x i i).length; rw [hL]; exact j1
        have j2' : (tL (tOutM t x i) i).getD j 0 = x := by show (LO t x i i).getD j 0 = x; rw [hL]; exact j2
        obtain ⟨w', m1, m2⟩ := leave86_at (K := fun M' x1' x2' x3' => g_X3_leave_65 fu M' x1' x2' x3') (t := tOutM t x i) h49.1 h3 hi2 ((ok.2.2.2.1 i hi2).2.1.sublist (LO_sub t x i i)) (fun y hy => by have := ((ok.2.2.2.1 i hi2).2.2 y ((LO_sub t x i i).mem hy)).1; omega) (by omega) j1' j2' (c + fb_ct (outP t x) i) FU (LO t x i i).length M hr (Nat.le_refl _) j1' (by unfold FU; omega)
        have e : tTake (tOutM t x i) i j = tOutM t x (i + 1) := by
          have := LO_step t (ok.2.2.2.1 i hi2).2.1 hm.1 j1 j2
          unfold tTake tSetL tOutM
          rw [← this]
        rw [e] at m2
        obtain ⟨w2, m3, m4⟩ := ih (i + 1) (w', M.2) (by omega) (by omega) m2
        refine ⟨w2, m1.trans ?_, m4⟩
        rw [fb_ct_succ, show outP t x i = true from by unfold outP; exact decide_eq_true hm, if_pos rfl] at m3
        exact m3
      · have hmem : i = x ∨ x ∉ tL t i := by
          by_cases h : i = x
          · exact Or.inl h
          · exact Or.inr (fun h2 => hm ⟨h, h2⟩)
        have e : tOutM t x (i + 1) = tOutM t x i := by unfold tOutM; rw [LO_skip t hmem]
        obtain ⟨w2, m3, m4⟩ := ih (i + 1) M (by omega) (by omega) (e ▸ hr)
        rw [fb_ct_succ, show outP t x i = false from by unfold outP; exact decide_eq_false hm, if_neg (by decide)] at m3
        refine ⟨w2, (leave86_no (by omega) FU (LO t x i i).length h3i (by unfold FU; omega) (fun j hj => ?_)).trans m3, m4⟩
        have e2 := (hr.2.2.2.2.2.2 i hi2).2.2.2 j hj
        rw [e2]
        intro h
        have hmem2 : (LO t x i i).getD j 0 ∈ tL t i := (LO_sub t x i i).mem (getD_lt hj)
        have h5 := (nI_eq (by have := ((ok.2.2.2.1 i hi2).2.2 _ hmem2).1; have : (LO t x i i).getD j 0 < tN t := this; exact Nat.lt_of_lt_of_le this (by omega)) (show x < 2 ^ 31 by omega)).mp h
        rcases hmem with h6 | h6
        · have : LO t x i i = [] := by unfold LO; rw [if_pos h6]
          rw [this] at hj
          exact absurd hj (Nat.not_lt_zero _)
        · have h7 : (LO t x i i).getD j 0 = x := h5
          rw [h7] at hmem2
          exact h6 hmem2
theorem st_leave {V : HS} {N : NS} (S : SS) {M : MS} (h : Rel V N M) (a1 : Int32) : ∃ (r : Int32) (V' : HS) (N' : NS) (M' : MS), f_X2_leave V N S a1 = some (r, V', N') ∧ f_X3_leave M a1 = some (r, M') ∧ Rel V' N' M' := by
  have h' := h
  obtain ⟨⟨t, ok, rN, rW⟩, hH⟩ := h
  have h49 := n49 ok
  rw [f_X2_leave, f_X3_leave]
  rcases isU_or t ok a1 with ⟨u, hu, rfl⟩ | hn
  · rw [m_isNode_t rW ok hu, Option.bind_some, if_neg n10, n_holds_t rN ok hu, Option.bind_some, if_neg n10]
    cases hp : tR t u with
    | false =>
      rw [m_pres_f rW ok hu hp, Option.bind_some, if_pos z00, n_pres_f rN ok hu hp, Option.bind_some, if_pos z00]
      exact ⟨_, _, _, _, rfl, rfl, h'⟩
    | true =>
      have hP : 0 < tPr t := fb_ct_pos.mpr ⟨u, hu, hp⟩
      have hP2 : tPr t ≤ tN t := fb_ct_le _ _
      rw [m_pres_t rW ok hu hp, Option.bind_some, if_neg n10, n_pres_t rN ok hu hp, Option.bind_some, if_neg n10, n_present rN ok, Option.bind_some, m_present rW ok, Option.bind_some]
      by_cases h1 : tPr t = 1
      · rw [h1, if_pos (show nI 1 = 1 from rfl), if_neg (by decide)]
        exact ⟨_, _, _, _, rfl, rfl, h'⟩
      · obtain ⟨V', p', x', e1, e2, e3⟩ := rec_ok S h'
        rw [if_neg (show ¬ nI (tPr t) = 1 from fun h => h1 ((nI_eq (by omega) (show 1 < 2 ^ 31 by omega)).mp h)), show (2 : Int32) = nI 2 from rfl, if_pos (nI_le (by omega) (by omega)), e1, Option.bind_some, e2, Option.bind_some]
        obtain ⟨N', n1, n2⟩ := n_putAway rN ok hu
        rw [n1, Option.bind_some]
        have mm := m_many (M := (M.1, p', x', M.2.2.2)) rW ok hu
        rw [gd_t mm.1, mm.2, show (55 : Int32) = nI 55 from rfl, show (104 : Int32) = nI 104 from rfl, nI_add, nI_add, nI_clamp (by omega), nI_clamp (by omega)]
        simp only [bindv]
        rw [gd_t (inB_nI (by omega) (by omega)), gd_t (inB_nI (by omega) (by omega))]
        have hr0 : repW (upd (upd M.1 (104 + u) 0) (55 + u) 0) (tOutM t u 0) := by
          obtain ⟨r1, r2, r3, r4, r5, r6, r7⟩ := rW
          have hx : ∀ j, (j ≠ 104 + u) → (j ≠ 55 + u) → upd (upd M.1 (104 + u) 0) (55 + u) 0 j = M.1 j := by
            intro j h1 h2
            unfold upd
            rw [if_neg h2, if_neg h1]
          refine ⟨(hx 0 (by omega) (by omega)).trans r1, (hx 1 (by omega) (by omega)).trans r2, (hx 2 (by omega) (by omega)).trans r3, (hx 3 (by omega) (by omega)).trans r4, (hx 4 (by omega) (by omega)).trans r5, (hx 5 (by omega) (by omega)).trans r6, fun v hv => ?_⟩
          have hv : v < tN t := hv
          obtain ⟨q1, q2, q3, q4⟩ := r7 v hv
          show _ ∧ _ = (if (if v = u then false else tR t v) = true then (1 : Int32) else 0) ∧ _ = nI (LO t u 0 v).length ∧ ∀ k, k < (LO t u 0 v).length → _ = nI ((LO t u 0 v).getD k 0)
          refine ⟨(hx _ (by omega) (by omega)).trans q1, ?_⟩
          unfold LO
          by_cases hvu : v = u
          · subst hvu
            rw [if_pos rfl, if_pos rfl]
            refine ⟨by unfold upd; rw [if_pos rfl]; rfl, by unfold upd; rw [if_neg (by omega), if_pos rfl]; rfl, fun k hk => absurd hk (Nat.not_lt_zero _)⟩
          · rw [if_neg hvu, if_neg hvu, if_neg (Nat.not_lt_zero _)]
            exact ⟨(hx _ (by omega) (by omega)).trans q2, (hx _ (by omega) (by omega)).trans q3, fun k hk => (hx _ (by omega) (by omega)).trans (q4 k hk)⟩
        obtain ⟨w', m1, m2⟩ := m_away ok hu (tL t u).length FU 0 (upd (upd M.1 (104 + u) 0) (55 + u) 0, p', x', M.2.2.2) (by omega) (by unfold FU; omega) hr0
        exact ⟨_, _, _, _, rfl, m1, ⟨_, outM_ok ok hu (ct_other (p := tR t) (x := u) (n := tN t) (show 2 ≤ tPr t by omega)), n2, m2⟩, e3⟩
  · rw [m_isNode_f rW ok hn, Option.bind_some, if_pos z00, n_holds_f rN ok hn, Option.bind_some, if_pos z00]
    exact ⟨_, _, _, _, rfl, rfl, h'⟩
