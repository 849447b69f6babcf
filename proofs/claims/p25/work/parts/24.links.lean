/-! ===== links: taking one out, giving one ===== -/
def tSetL (t : NT) (L' : Nat → List Nat) : NT := (tW t, tH t, tP t, tD t, tR t, L', tLim t, tRule t, tCha t, tSeed t)
def tTake (t : NT) (u k : Nat) : NT := tSetL t (fun v => if v = u then (tL t u).eraseIdx k else tL t v)
def tPush (t : NT) (u x : Nat) : NT := tSetL t (fun v => if v = u then tL t u ++ [x] else tL t v)
def tGive (t : NT) (u x : Nat) : NT := if u = x then t else if x ∈ tL t u then t else if (tL t u).length < tLim t then tPush t u x else tPush (tTake t u 0) u x
theorem linksOf_r {N : NS} {u : Nat} (hu : u < 49) : f_X0_linksOf N (nI u) = some (N.2.2.2.2.2.2.1 u) := by
  rw [f_X0_linksOf, valueAt_in hu (by omega), Option.bind_some]
theorem linkAt_r {N : NS} {u k : Nat} (h : 3 * u + k < 147) : f_X0_linkAt N (nI u) (nI k) = some (N.2.2.2.2.2.2.2.1 (3 * u + k)) := by
  rw [f_X0_linkAt, show (3 : Int32) = nI 3 from rfl, pk_mul, nI_add, valueAt_in (by omega) (by omega), Option.bind_some, show u * 3 + k = 3 * u + k by omega]
theorem take_at {u len : Nat} (hu : u < 49) (hl : len ≤ 3) (h1l : 1 ≤ len) : ∀ (fu i : Nat) (N : NS), 1 ≤ i → i ≤ len → len - i < fu → N.2.2.2.2.2.2.1 u = nI len → ∃ lf, g_X0_takeLink_4 fu N (nI u) (nI i) = some (N.1, N.2.1, N.2.2.1, N.2.2.2.1, N.2.2.2.2.1, N.2.2.2.2.2.1, upd N.2.2.2.2.2.2.1 u (nI (len - 1)), lf, N.2.2.2.2.2.2.2.2) ∧ ∀ j, lf j = if 3 * u + i ≤ j + 1 ∧ j + 1 < 3 * u + len then N.2.2.2.2.2.2.2.1 (j + 1) else N.2.2.2.2.2.2.2.1 j := by
  intro fu
  induction fu with
  | zero => intro i N h1 h2 h3; omega
  | succ fu ih =>
    intro i N h1 h2 h3 hc
    rw [g_X0_takeLink_4, linksOf_r hu, Option.bind_some, hc]
    by_cases hi : len ≤ i
    · rw [if_pos ((nI_leI (by omega) (by omega)).mpr hi), Option.bind_some, show (1 : Int32) = nI 1 from rfl, pk_sub h1l, putAt_in hu (by omega), Option.bind_some]
      refine ⟨_, rfl, fun j => ?_⟩
      rw [if_neg (by omega)]
    · have hi : i < len := by omega
      rw [if_neg (fun h => by have := (nI_leI (by omega) (by omega)).mp h; omega), linkAt_r (by omega), Option.bind_some, show (3 : Int32) = nI 3 from rfl, show (1 : Int32) = nI 1 from rfl, pk_mul, nI_add, pk_sub (by omega), putAt_in (by omega) (by omega), Option.bind_some, nI_add]
      obtain ⟨lf, e1, e2⟩ := ih (i + 1) (N.1, N.2.1, N.2.2.1, N.2.2.2.1, N.2.2.2.2.1, N.2.2.2.2.2.1, N.2.2.2.2.2.2.1, upd N.2.2.2.2.2.2.2.1 (u * 3 + i - 1) (N.2.2.2.2.2.2.2.1 (3 * u + i)), N.2.2.2.2.2.2.2.2) (by omega) (by omega) (by omega) hc
      refine ⟨lf, e1, fun j => ?_⟩
      rw [e2 j]
      dsimp only [upd]
      by_cases ha : 3 * u + i ≤ j + 1 ∧ j + 1 < 3 * u + len
      · rw [if_pos ha]
        by_cases hb : j + 1 = 3 * u + i
        · rw [if_neg (by omega), if_pos (by omega), hb]
        · rw [if_pos (by omega), if_neg (by omega)]
      · rw [if_neg (by omega), if_neg (by omega), if_neg ha]
theorem eraseIdx_getD {l : List Nat} {k j : Nat} : (l.eraseIdx k).getD j 0 = if j < k then l.getD j 0 else l.getD (j + 1) 0 := by
  rw [List.getD_eq_getElem?_getD, List.getElem?_eraseIdx]
  split
  · rw [List.getD_eq_getElem?_getD]
  · rw [List.getD_eq_getElem?_getD]
theorem len_erase {l : List Nat} {k : Nat} (h : k < l.length) : (l.eraseIdx k).length = l.length - 1 := by
  rw [List.length_eraseIdx, if_pos h]
theorem take_ok {t : NT} (ok : NetOK t) {u k : Nat} (hu : u < tN t) (hk : k < (tL t u).length) : NetOK (tTake t u k) := by
  obtain ⟨a, b, c, d, e, f⟩ := ok
  refine ⟨a, b, c, fun v hv => ?_, fun v hv hp => ?_, f⟩
  · show ((if v = u then (tL t u).eraseIdx k else tL t v)).length ≤ 3 ∧ ((if v = u then (tL t u).eraseIdx k else tL t v)).Nodup ∧ ∀ x ∈ (if v = u then (tL t u).eraseIdx k else tL t v), x < tN t ∧ x ≠ v ∧ tR t x = true
    by_cases h : v = u
    · subst h
      rw [if_pos rfl]
      obtain ⟨d1, d2, d3⟩ := d v hv
      exact ⟨by rw [len_erase hk]; omega, d2.sublist (List.eraseIdx_sublist ..), fun x hx => d3 x ((List.eraseIdx_sublist ..).mem hx)⟩
    · rw [if_neg h]; exact d v hv
  · show (if v = u then (tL t u).eraseIdx k else tL t v) = []
    by_cases h : v = u
    · subst h
      have := e v hv hp
      rw [this] at hk
      exact absurd hk (Nat.not_lt_zero _)
    · rw [if_neg h]; exact e v hv hp
theorem n_take {N : NS} {t : NT} (hr : repN N t) (ok : NetOK t) {u k : Nat} (hu : u < tN t) (hk : k < (tL t u).length) : ∃ N', f_X0_takeLink N (nI u) (nI k) = some N' ∧ repN N' (tTake t u k) := by
  have h49 := n49 ok
  have h3 := (ok.2.2.2.1 u hu).1
  obtain ⟨r1, r2, r3, r4, r5, r6, r7⟩ := hr
  obtain ⟨lf, e1, e2⟩ := take_at (u := u) (len := (tL t u).length) (by omega) h3 (by omega) FU (k + 1) N (by omega) (by omega) (by unfold FU; omega) (r6 u hu).1
  rw [f_X0_takeLink, nI_1]
  refine ⟨_, e1, r1, r2, r3, r4, r5, fun v hv => ?_, r7⟩
  show upd N.2.2.2.2.2.2.1 u (nI ((tL t u).length - 1)) v = nI (if v = u then (tL t u).eraseIdx k else tL t v).length ∧ ∀ j, j < (if v = u then (tL t u).eraseIdx k else tL t v).length → lf (3 * v + j) = nI ((if v = u then (tL t u).eraseIdx k else tL t v).getD j 0)
  have hv3 := (ok.2.2.2.1 v hv).1
  by_cases h : v = u
  · subst h
    rw [if_pos rfl, len_erase hk]
    refine ⟨by unfold upd; rw [if_pos rfl], fun j hj => ?_⟩
    rw [e2, eraseIdx_getD]
    by_cases hjk : j < k
    · rw [if_neg (by omega), if_pos hjk]
      exact (r6 v hv).2 j (by omega)
    · rw [if_pos (by omega), if_neg hjk]
      exact (r6 v hv).2 (j + 1) (by omega)
  · rw [if_neg h]
    refine ⟨by unfold upd; rw [if_neg h]; exact (r6 v hv).1, fun j hj => ?_⟩
    rw [e2, if_neg (by omega)]
    exact (r6 v hv).2 j hj
/-- what a longer list keeps -/
theorem push_getD {l : List Nat} {x j : Nat} : (l ++ [x]).getD j 0 = if j < l.length then l.getD j 0 else if j = l.length then x else 0 := by
  rw [List.getD_eq_getElem?_getD]
  by_cases h : j < l.length
  · rw [List.getElem?_append_left h, if_pos h, List.getD_eq_getElem?_getD]
  · rw [List.getElem?_append_right (by omega), if_neg h]
    by_cases h2 : j = l.length
    · subst h2; simp
    · rw [if_neg h2, List.getElem?_eq_none (by simp; omega)]
      rfl
theorem push_ok {t : NT} (ok : NetOK t) {u x : Nat} (hu : u < tN t) (hx : x < tN t) (hux : u ≠ x) (hl : (tL t u).length < 3) (hm : x ∉ tL t u) (pu : tR t u = true) (px : tR t x = true) : NetOK (tPush t u x) := by
  obtain ⟨a, b, c, d, e, f⟩ := ok
  refine ⟨a, b, c, fun v hv => ?_, fun v hv hp => ?_, f⟩
  · show ((if v = u then tL t u ++ [x] else tL t v)).length ≤ 3 ∧ ((if v = u then tL t u ++ [x] else tL t v)).Nodup ∧ ∀ y ∈ (if v = u then tL t u ++ [x] else tL t v), y < tN t ∧ y ≠ v ∧ tR t y = true
    by_cases h : v = u
    · subst h
      rw [if_pos rfl]
      obtain ⟨d1, d2, d3⟩ := d v hv
      refine ⟨by simp; omega, List.nodup_append.mpr ⟨d2, by simp, fun y hy z hz e => ?_⟩, fun y hy => ?_⟩
      · simp at hz
        subst hz
        subst e
        exact hm hy
      · rcases List.mem_append.mp hy with hy | hy
        · exact d3 y hy
        · simp at hy
          subst hy
          exact ⟨hx, fun e => hux e.symm, px⟩
    · rw [if_neg h]; exact d v hv
  · show (if v = u then tL t u ++ [x] else tL t v) = []
    by_cases h : v = u
    · subst h
      have hp2 : tR t v = false := hp
      rw [pu] at hp2
      cases hp2
    · rw [if_neg h]; exact e v hv hp
theorem n_push {N : NS} {t : NT} (hr : repN N t) (ok : NetOK t) {u x : Nat} (hu : u < tN t) (hl : (tL t u).length < 3) : ∃ N', g_X0_giveLink_35 N (nI u) (nI x) = some N' ∧ repN N' (tPush t u x) := by
  have h49 := n49 ok
  obtain ⟨r1, r2, r3, r4, r5, r6, r7⟩ := hr
  rw [g_X0_giveLink_35, linksOf_r (by omega), Option.bind_some, (r6 u hu).1, show (3 : Int32) = nI 3 from rfl, pk_mul, nI_add, putAt_in (by omega) (by omega), Option.bind_some, linksOf_r (by omega), Option.bind_some]
  dsimp only
  rw [(r6 u hu).1, nI_1, putAt_in (by omega) (by omega), Option.bind_some]
  refine ⟨_, rfl, r1, r2, r3, r4, r5, fun v hv => ?_, r7⟩
  show upd N.2.2.2.2.2.2.1 u (nI ((tL t u).length + 1)) v = nI (if v = u then tL t u ++ [x] else tL t v).length ∧ ∀ j, j < (if v = u then tL t u ++ [x] else tL t v).length → upd N.2.2.2.2.2.2.2.1 (u * 3 + (tL t u).length) (nI x) (3 * v + j) = nI ((if v = u then tL t u ++ [x] else tL t v).getD j 0)
  have hv3 := (ok.2.2.2.1 v hv).1
  unfold upd
  by_cases h : v = u
  · subst h
    rw [if_pos rfl, if_pos rfl]
    refine ⟨by simp, fun j hj => ?_⟩
    have hj2 : j < (tL t v).length + 1 := by simpa using hj
    rw [push_getD]
    by_cases h2 : j < (tL t v).length
    · rw [if_neg (by omega), if_pos h2]
      exact (r6 v hv).2 j h2
    · rw [if_pos (by omega), if_neg h2, if_pos (by omega)]
  · rw [if_neg h, if_neg h]
    refine ⟨(r6 v hv).1, fun j hj => ?_⟩
    rw [if_neg (by omega)]
    exact (r6 v hv).2 j hj
theorem give_ok {t : NT} (ok : NetOK t) {u x : Nat} (hu : u < tN t) (hx : x < tN t) (pu : tR t u = true) (px : tR t x = true) : NetOK (tGive t u x) := by
  unfold tGive
  by_cases h1 : u = x
  · rw [if_pos h1]; exact ok
  · rw [if_neg h1]
    by_cases h2 : x ∈ tL t u
    · rw [if_pos h2]; exact ok
    · rw [if_neg h2]
      have hlim := ok.2.2.2.2.2.1
      have h3 := (ok.2.2.2.1 u hu).1
      by_cases h4 : (tL t u).length < tLim t
      · rw [if_pos h4]; exact push_ok ok hu hx h1 (by omega) h2 pu px
      · rw [if_neg h4]
        have hk : 0 < (tL t u).length := by omega
        have ok2 := take_ok ok hu hk
        have hL : tL (tTake t u 0) u = (tL t u).eraseIdx 0 := by show (if u = u then (tL t u).eraseIdx 0 else tL t u) = _; rw [if_pos rfl]
        exact push_ok ok2 hu hx h1 (by rw [hL, len_erase hk]; omega) (by rw [hL]; exact fun h => h2 ((List.eraseIdx_sublist ..).mem h)) pu px
theorem n_give {N : NS} {t : NT} (hr : repN N t) (ok : NetOK t) {u x : Nat} (hu : u < tN t) (hx : x < tN t) : ∃ N', f_X0_giveLink N (nI u) (nI x) = some N' ∧ repN N' (tGive t u x) := by
  have h49 := n49 ok
  have hlim := ok.2.2.2.2.2.1
  have h3 := (ok.2.2.2.1 u hu).1
  rw [f_X0_giveLink]
  unfold tGive
  by_cases h1 : u = x
  · subst h1
    rw [if_pos rfl, if_pos rfl]
    exact ⟨N, rfl, hr⟩
  · rw [if_neg (fun e => h1 ((nI_eq (by omega) (by omega)).mp e)), if_neg h1]
    rcases n_linkIndex hr ok hu hx with ⟨j, a, b, c⟩ | ⟨a, b⟩
    · rw [c, Option.bind_some, if_neg (nI_neg1 (by omega)), if_pos (mem_getD.mpr ⟨j, a, b⟩)]
      exact ⟨N, rfl, hr⟩
    · rw [b, Option.bind_some, if_pos rfl, if_neg a, n_linksOf hr ok hu, Option.bind_some, n_set0 hr, Option.bind_some]
      by_cases h4 : (tL t u).length < tLim t
      · rw [if_pos (nI_lt h4 (by omega)), if_pos h4]
        exact n_push hr ok hu (by omega)
      · rw [if_neg (fun h => h4 ((nI_ltI (by omega) (by omega)).mp h)), if_neg h4]
        have hk : 0 < (tL t u).length := by omega
        obtain ⟨N1, e1, hr1⟩ := n_take hr ok hu hk
        rw [show (0 : Int32) = nI 0 from rfl, e1, Option.bind_some]
        have hL : tL (tTake t u 0) u = (tL t u).eraseIdx 0 := by show (if u = u then (tL t u).eraseIdx 0 else tL t u) = _; rw [if_pos rfl]
        exact n_push hr1 (take_ok ok hu hk) hu (by rw [hL, len_erase hk]; omega)
