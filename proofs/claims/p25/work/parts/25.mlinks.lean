/-! ===== links of the reference ===== -/
theorem m_take_at {u len : Nat} (hu : u < 49) (hl : len ≤ 3) (h1l : 1 ≤ len) : ∀ (fu i : Nat) (M : MS), i < len → len - i < fu → M.1 (104 + u) = nI len → ∃ w', g_X3_drop_2 fu M (nI u) (nI i) = some (w', M.2) ∧ w' (104 + u) = nI (len - 1) ∧ ∀ j, j ≠ 104 + u → w' j = if 153 + 3 * u + i ≤ j ∧ j + 1 < 153 + 3 * u + len then M.1 (j + 1) else M.1 j := by
  intro fu
  induction fu with
  | zero => intro i M h2 h3; omega
  | succ fu ih =>
    intro i M h2 h3 hc
    rw [g_X3_drop_2, show (104 : Int32) = nI 104 from rfl, nI_add, gd_t (inB_nI (by omega) (by omega)), nI_clamp (by omega), hc, show (1 : Int32) = nI 1 from rfl, pk_sub h1l]
    by_cases hi : len - 1 ≤ i
    · rw [if_pos ((nI_leI (by omega) (by omega)).mpr hi), gd_t (inB_nI (by omega) (by omega)), gd_t (inB_nI (by omega) (by omega))]
      refine ⟨_, rfl, by unfold upd; rw [if_pos rfl], fun j hj => ?_⟩
      unfold upd
      rw [if_neg hj, if_neg (by omega)]
    · rw [if_neg (fun h => by have := (nI_leI (by omega) (by omega)).mp h; omega), f_X3_at, show (153 : Int32) = nI 153 from rfl, show (3 : Int32) = nI 3 from rfl, pk_mul, nI_add, nI_add, nI_add, gd_t (inB_nI (by omega) (by omega)), nI_clamp (by omega), Option.bind_some, nI_add, gd_t (inB_nI (by omega) (by omega)), nI_clamp (by omega)]
      obtain ⟨w', e1, e2, e3⟩ := ih (i + 1) ((upd M.1 (153 + 3 * u + i) (M.1 (153 + 3 * u + (i + 1)))), M.2.1, M.2.2.1, M.2.2.2.1, M.2.2.2.2.1, M.2.2.2.2.2.1, M.2.2.2.2.2.2.1, M.2.2.2.2.2.2.2.1, M.2.2.2.2.2.2.2.2.1, M.2.2.2.2.2.2.2.2.2.1, M.2.2.2.2.2.2.2.2.2.2) (by omega) (by omega) (by show upd M.1 (153 + 3 * u + i) _ (104 + u) = nI len; unfold upd; rw [if_neg (by omega)]; exact hc)
      refine ⟨w', e1, e2, fun j hj => ?_⟩
      rw [e3 j hj]
      dsimp only [upd]
      by_cases ha : 153 + 3 * u + i ≤ j ∧ j + 1 < 153 + 3 * u + len
      · rw [if_pos ha]
        by_cases hb : j = 153 + 3 * u + i
        · rw [if_neg (by omega), if_pos hb, hb]
          rfl
        · rw [if_pos (by omega), if_neg (by omega)]
      · rw [if_neg (by omega), if_neg (by omega), if_neg ha]
theorem m_take {M : MS} {t : NT} (hr : repW M.1 t) (ok : NetOK t) {u k : Nat} (hu : u < tN t) (hk : k < (tL t u).length) : ∃ w', f_X3_drop M (nI u) (nI k) = some (w', M.2) ∧ repW w' (tTake t u k) := by
  have h49 := n49 ok
  have h3 := (ok.2.2.2.1 u hu).1
  obtain ⟨r1, r2, r3, r4, r5, r6, r7⟩ := hr
  obtain ⟨w', e1, e2, e3⟩ := m_take_at (u := u) (len := (tL t u).length) (by omega) h3 (by omega) FU k M hk (by unfold FU; omega) (r7 u hu).2.2.1
  rw [f_X3_drop]
  refine ⟨w', e1, ?_, ?_, ?_, ?_, ?_, ?_, fun v hv => ?_⟩
  · rw [e3 0 (by omega), if_neg (by omega)]; exact r1
  · rw [e3 1 (by omega), if_neg (by omega)]; exact r2
  · rw [e3 2 (by omega), if_neg (by omega)]; exact r3
  · rw [e3 3 (by omega), if_neg (by omega)]; exact r4
  · rw [e3 4 (by omega), if_neg (by omega)]; exact r5
  · rw [e3 5 (by omega), if_neg (by omega)]; exact r6
  · have hv : v < tN t := hv
    show w' (6 + v) = nI (tP t v) ∧ w' (55 + v) = (if tR t v then 1 else 0) ∧ w' (104 + v) = nI (if v = u then (tL t u).eraseIdx k else tL t v).length ∧ ∀ j, j < (if v = u then (tL t u).eraseIdx k else tL t v).length → w' (153 + 3 * v + j) = nI ((if v = u then (tL t u).eraseIdx k else tL t v).getD j 0)
    have hv3 := (ok.2.2.2.1 v hv).1
    obtain ⟨q1, q2, q3, q4⟩ := r7 v hv
    refine ⟨by rw [e3 _ (by omega), if_neg (by omega)]; exact q1, by rw [e3 _ (by omega), if_neg (by omega)]; exact q2, ?_⟩
    by_cases h : v = u
    · subst h
      rw [if_pos rfl, len_erase hk]
      refine ⟨e2, fun j hj => ?_⟩
      rw [e3 _ (by omega), eraseIdx_getD]
      by_cases hjk : j < k
      · rw [if_neg (by omega), if_pos hjk]
        exact q4 j (by omega)
      · rw [if_pos (by omega), if_neg hjk]
        exact q4 (j + 1) (by omega)
    · rw [if_neg h]
      refine ⟨by rw [e3 _ (by omega), if_neg (by omega)]; exact q3, fun j hj => ?_⟩
      rw [e3 _ (by omega), if_neg (by omega)]
      exact q4 j hj
theorem m_push {M : MS} {t : NT} (hr : repW M.1 t) (ok : NetOK t) {u x : Nat} (hu : u < tN t) (hl : (tL t u).length < 3) : ∃ w', g_X3_give_39 M (nI u) (nI x) = some (w', M.2) ∧ repW w' (tPush t u x) := by
  have h49 := n49 ok
  obtain ⟨r1, r2, r3, r4, r5, r6, r7⟩ := hr
  have hc := (r7 u hu).2.2.1
  rw [g_X3_give_39, show (104 : Int32) = nI 104 from rfl, nI_add, gd_t (inB_nI (by omega) (by omega)), nI_clamp (by omega), hc, show (153 : Int32) = nI 153 from rfl, show (3 : Int32) = nI 3 from rfl, pk_mul, nI_add, nI_add, gd_t (inB_nI (by omega) (by omega)), gd_t (inB_nI (by omega) (by omega)), gd_t (inB_nI (by omega) (by omega)), nI_clamp (by omega)]
  have hc2 : upd M.1 (153 + 3 * u + (tL t u).length) (nI x) (104 + u) = nI (tL t u).length := by unfold upd; rw [if_neg (by omega)]; exact hc
  rw [hc2, nI_1]
  have e3 : ∀ j, j ≠ 104 + u → j ≠ 153 + 3 * u + (tL t u).length → upd (upd M.1 (153 + 3 * u + (tL t u).length) (nI x)) (104 + u) (nI ((tL t u).length + 1)) j = M.1 j := by
    intro j h1 h2
    unfold upd
    rw [if_neg h1, if_neg h2]
  refine ⟨_, rfl, ?_, ?_, ?_, ?_, ?_, ?_, fun v hv => ?_⟩
  · rw [e3 0 (by omega) (by omega)]; exact r1
  · rw [e3 1 (by omega) (by omega)]; exact r2
  · rw [e3 2 (by omega) (by omega)]; exact r3
  · rw [e3 3 (by omega) (by omega)]; exact r4
  · rw [e3 4 (by omega) (by omega)]; exact r5
  · rw [e3 5 (by omega) (by omega)]; exact r6
  · have hv : v < tN t := hv
    obtain ⟨q1, q2, q3, q4⟩ := r7 v hv
    have hv3 := (ok.2.2.2.1 v hv).1
    refine ⟨by rw [e3 _ (by omega) (by omega)]; exact q1, by rw [e3 _ (by omega) (by omega)]; exact q2, ?_⟩
    show upd (upd M.1 (153 + 3 * u + (tL t u).length) (nI x)) (104 + u) (nI ((tL t u).length + 1)) (104 + v) = nI (if v = u then tL t u ++ [x] else tL t v).length ∧ ∀ j, j < (if v = u then tL t u ++ [x] else tL t v).length → upd (upd M.1 (153 + 3 * u + (tL t u).length) (nI x)) (104 + u) (nI ((tL t u).length + 1)) (153 + 3 * v + j) = nI ((if v = u then tL t u ++ [x] else tL t v).getD j 0)
    by_cases h : v = u
    · subst h
      rw [if_pos rfl]
      refine ⟨by unfold upd; rw [if_pos rfl]; simp, fun j hj => ?_⟩
      have hj2 : j < (tL t v).length + 1 := by simpa using hj
      rw [push_getD]
      by_cases h2 : j < (tL t v).length
      · rw [e3 _ (by omega) (by omega), if_pos h2]
        exact q4 j h2
      · unfold upd
        rw [if_neg (by omega), if_pos (by omega), if_neg h2, if_pos (by omega)]
    · rw [if_neg h]
      refine ⟨by rw [e3 _ (by omega) (by omega)]; exact q3, fun j hj => ?_⟩
      rw [e3 _ (by omega) (by omega)]
      exact q4 j hj
theorem m_give {M : MS} {t : NT} (hr : repW M.1 t) (ok : NetOK t) {u x : Nat} (hu : u < tN t) (hx : x < tN t) : ∃ w', f_X3_give M (nI u) (nI x) = some (w', M.2) ∧ repW w' (tGive t u x) := by
  have h49 := n49 ok
  have hlim := ok.2.2.2.2.2.1
  have h3 := (ok.2.2.2.1 u hu).1
  rw [f_X3_give]
  unfold tGive
  by_cases h1 : u = x
  · subst h1
    rw [if_pos rfl, if_pos rfl]
    exact ⟨M.1, rfl, hr⟩
  · rw [if_neg (fun e => h1 ((nI_eq (by omega) (by omega)).mp e)), if_neg h1, m_hasLink hr ok hu hx, Option.bind_some]
    by_cases h2 : x ∈ tL t u
    · rw [if_pos h2, if_pos h2, if_neg (by decide)]
      exact ⟨M.1, rfl, hr⟩
    · rw [if_neg h2, if_neg h2, if_pos rfl, gd_t (m_many hr ok hu).1, (m_many hr ok hu).2, c2, hr.2.2.1]
      by_cases h4 : (tL t u).length < tLim t
      · rw [if_pos (nI_lt h4 (by omega)), if_pos h4]
        exact m_push hr ok hu (by omega)
      · rw [if_neg (fun h => h4 ((nI_ltI (by omega) (by omega)).mp h)), if_neg h4]
        have hk : 0 < (tL t u).length := by omega
        obtain ⟨w1, e1, hr1⟩ := m_take hr ok hu hk
        rw [show (0 : Int32) = nI 0 from rfl, e1, Option.bind_some]
        have hL : tL (tTake t u 0) u = (tL t u).eraseIdx 0 := by show (if u = u then (tL t u).eraseIdx 0 else tL t u) = _; rw [if_pos rfl]
        exact m_push (M := (w1, M.2)) hr1 (take_ok ok hu hk) hu (by rw [hL, len_erase hk]; omega)
