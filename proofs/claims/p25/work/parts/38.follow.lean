/-! ===== the way of a route ===== -/
def rs (t : NT) (d u : Nat) : Nat → Nat
  | 0 => u
  | i + 1 => match nx t (rs t d u i) d with
    | none => rs t d u i
    | some v => v
def tm (t : NT) (d u : Nat) : Prop := u = d ∨ nx t u d = none
theorem rs_succ {t : NT} {d u i v : Nat} (h : nx t (rs t d u i) d = some v) : rs t d u (i + 1) = v := by rw [rs, h]
theorem nx_some {t : NT} {u d b : Nat} (h : nx t u d = some b) : b < tN t ∧ tR t b = true ∧ con t u b = true ∧ far t b d < far t u d := by
  have := bst_some h
  exact ⟨this.2.1, ((con_iff t u b).mp this.2.2.1).2.1, this.2.2.1, this.2.2.2⟩
theorem rs_ok {t : NT} {d u : Nat} (hu : u < tN t) (hp : tR t u = true) : ∀ i, rs t d u i < tN t ∧ tR t (rs t d u i) = true := by
  intro i
  induction i with
  | zero => exact ⟨hu, hp⟩
  | succ i ih =>
    cases h : nx t (rs t d u i) d with
    | none => rw [rs, h]; exact ih
    | some v => rw [rs_succ h]; exact ⟨(nx_some h).1, (nx_some h).2.1⟩
theorem rs_end {t : NT} (ok : NetOK t) {d u : Nat} (hu : u < tN t) (hd : d < tN t) (hp : tR t u = true) : ∃ n, n ≤ 12 ∧ tm t d (rs t d u n) ∧ ∀ j, j < n → ¬ tm t d (rs t d u j) := by
  have key : ∀ k, (∀ j, j < k → ¬ tm t d (rs t d u j)) → far t (rs t d u k) d + k ≤ far t u d := by
    intro k
    induction k with
    | zero => intro _; exact Nat.le_refl _
    | succ k ih =>
      intro h
      have h1 := ih (fun j hj => h j (by omega))
      have h2 := h k (by omega)
      cases h3 : nx t (rs t d u k) d with
      | none => exact absurd (Or.inr h3) h2
      | some v =>
        rw [rs_succ h3]
        have := (nx_some h3).2.2.2
        omega
  have hf := far_le ok hu hd
  have ex : ∃ i, i < 13 ∧ tm t d (rs t d u i) := by
    rcases Classical.em (∃ i, i < 13 ∧ tm t d (rs t d u i)) with h | h
    · exact h
    · have := key 13 (fun j hj h2 => h ⟨j, hj, h2⟩)
      omega
  have dp : DecidablePred (fun i => tm t d (rs t d u i)) := fun i => Classical.propDecidable _
  obtain ⟨n, h1, h2, h3⟩ := @fb_first (fun i => tm t d (rs t d u i)) dp 13 ex
  exact ⟨n, by omega, h2, h3⟩
theorem oI_some {x : Int32} {o : Option Nat} {v : Nat} (h : o = some v) : oI x o = nI v := by rw [h]; rfl
theorem oI_none {x : Int32} {o : Option Nat} (h : o = none) : oI x o = x := by rw [h]; rfl
theorem n_follow_at {t : NT} (ok : NetOK t) {d u n : Nat} (hu : u < tN t) (hd : d < tN t) (hp : tR t u = true) (hn : n ≤ 12) (ht : tm t d (rs t d u n)) (hno : ∀ j, j < n → ¬ tm t d (rs t d u j)) : ∀ (fu i : Nat) (S : SS), i ≤ n → n - i + 1 < fu → AIM t d S.2.2.2.1 → S.2.2.2.2.2.2 = nI i → (∀ j, j < i → S.2.2.2.2.1 j = nI (rs t d u j)) → ∃ tr, g_X1_follow_7 fu S (nI d) (nI (rs t d u i)) = some ((if rs t d u n = d then 1 else 0), (S.1, S.2.1, S.2.2.1, S.2.2.2.1, tr, S.2.2.2.2.2.1, nI (n + 1))) ∧ ∀ j, j ≤ n → tr j = nI (rs t d u j) := by
  intro fu
  have h49 := n49 ok
  induction fu with
  | zero => intro i S h1 h2; omega
  | succ fu ih =>
    intro i S h1 h2 ha hc hS
    obtain ⟨ri, rp⟩ := rs_ok (d := d) hu hp i
    rw [g_X1_follow_7, hc, if_neg (fun h => by have := (nI_leI (by omega) (by omega)).mp h; omega), if_neg (nI_pos (by omega)), if_neg (fun h => by have := (nI_leI (by omega) (by omega)).mp h; omega), gd_t (inB_nI (by omega) (by omega)), nI_clamp (by omega), nI_1, nI_clamp (by omega)]
    have hS2 : ∀ j, j < i + 1 → upd S.2.2.2.2.1 i (nI (rs t d u i)) j = nI (rs t d u j) := by
      intro j hj
      unfold upd
      by_cases h : j = i
      · rw [if_pos h, h]
      · rw [if_neg h]; exact hS j (by omega)
    by_cases hd2 : rs t d u i = d
    · have hin : i = n := by
        rcases Nat.lt_or_ge i n with h | h
        · exact absurd (Or.inl hd2) (hno i h)
        · omega
      subst hin
      rw [if_pos (show nI (rs t d u i) = nI d by rw [hd2]), if_pos hd2]
      exact ⟨_, rfl, fun j hj => hS2 j (by omega)⟩
    · rw [if_neg (fun h => hd2 ((nI_eq (by omega) (by omega)).mp h)), gd_t (inB_nI (by omega) (by omega)), ha _ ri rp]
      simp only [bindv]
      by_cases hin : i = n
      · subst hin
        have hx := ht.resolve_left hd2
        rw [oI_none hx, if_neg hd2]
        cases fu with
        | zero => omega
        | succ fu =>
          rw [g_X1_follow_7]
          dsimp only
          rw [if_neg (fun h => by have := (nI_leI (by omega) (by omega)).mp h; omega), if_pos (by decide)]
          exact ⟨_, rfl, fun j hj => hS2 j (by omega)⟩
      · have hx := hno i (by omega)
        cases h3 : nx t (rs t d u i) d with
        | none => exact absurd (Or.inr h3) hx
        | some v =>
          have e := rs_succ h3
          obtain ⟨tr, e1, e2⟩ := ih (i + 1) (S.1, S.2.1, S.2.2.1, S.2.2.2.1, upd S.2.2.2.2.1 i (nI (rs t d u i)), S.2.2.2.2.2.1, nI (i + 1)) (by omega) (by omega) ha rfl hS2
          rw [e] at e1
          exact ⟨tr, e1, e2⟩
theorem n_follow {t : NT} (ok : NetOK t) {d u n : Nat} (hu : u < tN t) (hd : d < tN t) (hp : tR t u = true) (hn : n ≤ 12) (ht : tm t d (rs t d u n)) (hno : ∀ j, j < n → ¬ tm t d (rs t d u j)) (S : SS) (ha : AIM t d S.2.2.2.1) : ∃ tr, f_X1_follow S (nI u) (nI d) = some ((if rs t d u n = d then 1 else 0), (S.1, S.2.1, S.2.2.1, S.2.2.2.1, tr, S.2.2.2.2.2.1, nI (n + 1))) ∧ ∀ j, j ≤ n → tr j = nI (rs t d u j) := by
  rw [f_X1_follow]
  exact n_follow_at ok hu hd hp hn ht hno FU 0 (S.1, S.2.1, S.2.2.1, S.2.2.2.1, S.2.2.2.2.1, S.2.2.2.2.2.1, 0) (by omega) (by unfold FU; omega) ha rfl (fun j hj => absurd hj (Nat.not_lt_zero _))
theorem m_lay_at {t : NT} (ok : NetOK t) {d u n : Nat} (hu : u < tN t) (hd : d < tN t) (hp : tR t u = true) (hn : n ≤ 12) (ht : tm t d (rs t d u n)) (hno : ∀ j, j < n → ¬ tm t d (rs t d u j)) : ∀ (fu i : Nat) (M : MS), i ≤ n → n - i + 1 < fu → repW M.1 t → M.2.2.2.2.2.2.1 = nI i → (∀ j, j ≤ i → M.2.2.2.2.2.1 j = nI (rs t d u j)) → ∃ tr, g_X3_layRoute_14 fu M (nI d) (nI (rs t d u i)) = some (M.1, M.2.1, M.2.2.1, M.2.2.2.1, M.2.2.2.2.1, tr, nI n, (if rs t d u n = d then 1 else 0), M.2.2.2.2.2.2.2.2) ∧ ∀ j, j ≤ n → tr j = nI (rs t d u j) := by
  intro fu
  have h49 := n49 ok
  induction fu with
  | zero => intro i M h1 h2; omega
  | succ fu ih =>
    intro i M h1 h2 hr hc hS
    obtain ⟨ri, rp⟩ := rs_ok (d := d) hu hp i
    have n9 : ∀ v, v < 2 ^ 31 → ¬ nI v = -9 := by
      intro v hv e
      have := nI_pos (n := v) hv
      rw [e] at this
      exact this (by decide)
    rw [g_X3_layRoute_14, if_neg (n9 _ (by omega))]
    by_cases hd2 : rs t d u i = d
    · have hin : i = n := by
        rcases Nat.lt_or_ge i n with h | h
        · exact absurd (Or.inl hd2) (hno i h)
        · omega
      subst hin
      rw [if_pos (show nI (rs t d u i) = nI d by rw [hd2]), if_pos (show nI (rs t d u i) = nI d by rw [hd2]), if_pos hd2, hc]
      exact ⟨_, rfl, hS⟩
    · have hne : ¬ nI (rs t d u i) = nI d := fun h => hd2 ((nI_eq (by omega) (by omega)).mp h)
      rw [if_neg hne, hc, gd_t (inB_nI (by omega) (by omega)), nI_clamp (by omega), hS i (Nat.le_refl _), m_next hr ok ri hd, Option.bind_some]
      by_cases hin : i = n
      · subst hin
        have hx := ht.resolve_left hd2
        rw [oI_none hx, if_pos rfl, if_neg hd2]
        cases fu with
        | zero => omega
        | succ fu =>
          have h9 : ¬ (-9 : Int32) = nI d := fun e => n9 d (by omega) e.symm
          rw [g_X3_layRoute_14, if_pos rfl, if_neg h9, hc]
          exact ⟨_, rfl, hS⟩
      · have hx := hno i (by omega)
        cases h3 : nx t (rs t d u i) d with
        | none => exact absurd (Or.inr h3) hx
        | some v =>
          have e := rs_succ h3
          have hv := (nx_some h3).1
          rw [oI_some rfl, if_neg (n9 _ (by omega)), nI_1, gd_t (inB_nI (by omega) (by omega)), nI_clamp (by omega)]
          obtain ⟨tr, e1, e2⟩ := ih (i + 1) (M.1, M.2.1, M.2.2.1, M.2.2.2.1, M.2.2.2.2.1, upd M.2.2.2.2.2.1 (i + 1) (nI v), nI (i + 1), M.2.2.2.2.2.2.2) (by omega) (by omega) hr rfl (fun j hj => by
            show upd M.2.2.2.2.2.1 (i + 1) (nI v) j = _
            unfold upd
            by_cases h : j = i + 1
            · rw [if_pos h, h, e]
            · rw [if_neg h]; exact hS j (by omega))
          rw [e] at e1
          exact ⟨tr, e1, e2⟩
theorem m_route {t : NT} (ok : NetOK t) {d u n : Nat} (hu : u < tN t) (hd : d < tN t) (hp : tR t u = true) (hn : n ≤ 12) (ht : tm t d (rs t d u n)) (hno : ∀ j, j < n → ¬ tm t d (rs t d u j)) (M : MS) (hr : repW M.1 t) : ∃ tr, f_X3_layRoute M (nI u) (nI d) = some (M.1, M.2.1, M.2.2.1, M.2.2.2.1, M.2.2.2.2.1, tr, nI n, (if rs t d u n = d then 1 else 0), M.2.2.2.2.2.2.2.2) ∧ ∀ j, j ≤ n → tr j = nI (rs t d u j) := by
  rw [f_X3_layRoute, c0]
  exact m_lay_at ok hu hd hp hn ht hno FU 0 (M.1, M.2.1, M.2.2.1, M.2.2.2.1, M.2.2.2.2.1, upd M.2.2.2.2.2.1 0 (nI u), 0, M.2.2.2.2.2.2.2) (by omega) (by unfold FU; omega) hr rfl (fun j hj => by
    have : j = 0 := by omega
    subst this
    show upd M.2.2.2.2.2.1 0 (nI u) 0 = _
    unfold upd
    rw [if_pos rfl]
    rfl)
theorem bB_01 (p : Prop) [Decidable p] : bB (if p then 1 else 0) = true := by
  by_cases h : p
  · rw [if_pos h]; rfl
  · rw [if_neg h]; rfl
theorem n_lookUp {N : NS} {t : NT} (hr : repN N t) (ok : NetOK t) {d u n : Nat} (hu : u < tN t) (hd : d < tN t) (hp : tR t u = true) (hn : n ≤ 12) (ht : tm t d (rs t d u n)) (hno : ∀ j, j < n → ¬ tm t d (rs t d u j)) (S : SS) : ∃ (S' : SS), f_X1_lookUp S N (nI u) (nI d) = some ((if rs t d u n = d then 1 else 0), S') ∧ S'.2.2.2.2.2.2 = nI (n + 1) ∧ ∀ j, j ≤ n → S'.2.2.2.2.1 j = nI (rs t d u j) := by
  obtain ⟨c, e1, hc⟩ := n_read hr ok S
  obtain ⟨a, e2, ha⟩ := n_aim hr ok hd (c, S.2) hc
  obtain ⟨tr, e3, h3⟩ := n_follow ok hu hd hp hn ht hno (c, S.2.1, S.2.2.1, a, S.2.2.2.2) ha
  rw [f_X1_lookUp, e1, Option.bind_some, e2, Option.bind_some, e3, Option.bind_some]
  dsimp only
  rw [gd_t (bB_01 _)]
  exact ⟨_, rfl, rfl, h3⟩
theorem n_steps {S : SS} {n : Nat} (h : S.2.2.2.2.2.2 = nI (n + 1)) : f_X1_steps S = some (nI n) := by
  rw [f_X1_steps, h, nI_p1]
theorem n_trail {S : SS} {t : NT} {d u n j : Nat} (h : ∀ j, j ≤ n → S.2.2.2.2.1 j = nI (rs t d u j)) (hj : j ≤ n) (hn : n ≤ 12) : f_X1_trailAt S (nI j) = some (nI (rs t d u j)) := by
  rw [f_X1_trailAt, valueAt_in (by omega) (by omega), Option.bind_some, h j hj]
theorem st_route {V : HS} {N : NS} (S : SS) {M : MS} (h : Rel V N M) (a1 a2 a3 : Int32) : ∃ (r : Int32) (S' : SS) (M' : MS), f_X2_route V N S a1 a2 a3 = some (r, S') ∧ f_X3_route M a1 a2 a3 = some (r, M') ∧ Rel V N M' := by
  have h' := h
  obtain ⟨⟨t, ok, rN, rW⟩, hH⟩ := h
  have h49 := n49 ok
  rw [f_X2_route, f_X3_route]
  rcases isU_or t ok a1 with ⟨u, hu, rfl⟩ | hno
  · rw [m_isNode_t rW ok hu, Option.bind_some, if_neg n10]
    rcases isU_or t ok a2 with ⟨d, hd, rfl⟩ | hno
    · rw [m_isNode_t rW ok hd, Option.bind_some, if_neg n10]
      by_cases h3 : (-2 : Int32) ≤ a3
      · rw [if_pos h3, if_pos h3]
        cases hp1 : tR t u with
        | false =>
          rw [n_pair_f rN ok hu hd (Or.inl hp1), Option.bind_some, if_neg nm20, m_pres_f rW ok hu hp1, Option.bind_some, if_pos z00]
          exact ⟨_, _, _, rfl, rfl, h'⟩
        | true =>
          rw [m_pres_t rW ok hu hp1, Option.bind_some, if_neg n10]
          cases hp2 : tR t d with
          | false =>
            rw [n_pair_f rN ok hu hd (Or.inr hp2), Option.bind_some, if_neg nm20, m_pres_f rW ok hd hp2, Option.bind_some, if_pos z00]
            exact ⟨_, _, _, rfl, rfl, h'⟩
          | true =>
            obtain ⟨n, hn, ht, hno⟩ := rs_end ok hu hd hp1
            obtain ⟨S', s1, s2, s3⟩ := n_lookUp rN ok hu hd hp1 hn ht hno S
            obtain ⟨tr, m1, m2⟩ := m_route ok hu hd hp1 hn ht hno M rW
            have hR : Rel V N (M.1, M.2.1, M.2.2.1, M.2.2.2.1, M.2.2.2.2.1, tr, nI n, (if rs t d u n = d then 1 else 0), M.2.2.2.2.2.2.2.2) := ⟨⟨t, ok, rN, rW⟩, hH⟩
            rw [n_pair_t rN ok hu hd hp1 hp2, Option.bind_some, if_pos z00, s1, Option.bind_some, m_pres_t rW ok hd hp2, Option.bind_some, if_neg n10, m1, Option.bind_some]
            dsimp only
            by_cases h4 : a3 = -2
            · subst h4
              have g1 : ¬ (0 : Int32) ≤ -2 := by decide
              have g2 : ¬ (-2 : Int32) = -1 := by decide
              by_cases hz : rs t d u n = d
              · rw [if_pos hz] at hR ⊢
                rw [if_pos rfl, if_neg n10, if_neg g1, if_neg g2, if_neg n10]
                exact ⟨_, _, _, rfl, rfl, hR⟩
              · rw [if_neg hz] at hR ⊢
                rw [if_pos rfl, if_pos z00, if_neg g1, if_neg g2, if_pos z00]
                exact ⟨_, _, _, rfl, rfl, hR⟩
            · rw [if_neg h4]
              by_cases h5 : a3 = -1
              · subst h5
                rw [if_pos rfl, if_neg (by decide), if_pos rfl, n_steps s2, Option.bind_some]
                exact ⟨_, _, _, rfl, rfl, hR⟩
              · have h0 : ¬ a3 < 0 := by
                  intro hlt
                  rw [Int32.lt_iff_toInt_lt] at hlt
                  rw [Int32.le_iff_toInt_le] at h3
                  have e0 : (0 : Int32).toInt = 0 := rfl
                  have e1 : (-1 : Int32).toInt = -1 := rfl
                  have e2 : (-2 : Int32).toInt = -2 := rfl
                  rcases (show a3.toInt = -1 ∨ a3.toInt = -2 by omega) with e | e
                  · exact h5 (Int32.toInt_inj.mp (e.trans e1.symm))
                  · exact h4 (Int32.toInt_inj.mp (e.trans e2.symm))
                obtain ⟨k, hk, rfl⟩ := nI_of h0
                rw [if_neg h5, if_pos (nI_pos' hk), n_steps s2, Option.bind_some]
                by_cases hkn : n < k
                · rw [if_pos (nI_lt hkn hk), if_pos (nI_lt hkn hk)]
                  exact ⟨_, _, _, rfl, rfl, hR⟩
                · have hlt : ¬ nI n < nI k := fun h => by
                    rw [Int32.lt_iff_toInt_lt, nI_toInt (by omega), nI_toInt hk] at h
                    omega
                  rw [if_neg hlt, if_neg hlt, n_trail s3 (by omega) hn, Option.bind_some, gd_t (inB_nI (by omega) (by omega)), nI_clamp (by omega), m2 k (by omega)]
                  exact ⟨_, _, _, rfl, rfl, hR⟩
      · rw [if_neg h3, if_neg h3]
        exact ⟨_, _, _, rfl, rfl, h'⟩
    · rw [m_isNode_f rW ok hno, Option.bind_some, if_pos z00]
      by_cases h3 : (-2 : Int32) ≤ a3
      · rw [if_pos h3, n_pair2 rN ok hu hno, Option.bind_some, if_neg nm10]
        exact ⟨_, _, _, rfl, rfl, h'⟩
      · rw [if_neg h3]
        exact ⟨_, _, _, rfl, rfl, h'⟩
  · rw [m_isNode_f rW ok hno, Option.bind_some, if_pos z00]
    by_cases h3 : (-2 : Int32) ≤ a3
    · rw [if_pos h3, n_pair1 rN ok hno, Option.bind_some, if_neg nm10]
      exact ⟨_, _, _, rfl, rfl, h'⟩
    · rw [if_neg h3]
      exact ⟨_, _, _, rfl, rfl, h'⟩
