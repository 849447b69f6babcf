/-! ===== way, paths ===== -/
theorem gq_two {t : NT} {u d : Nat} (hu : u < 49) (hd : d < 49) : gq (adj t) d u 49 = gq (rad t) u d 49 := gq_flip (adj t) hu hd 49
theorem nway_two {t : NT} {u d : Nat} (hu : u < 49) (hd : d < 49) : nway (adj t) d u = nway (rad t) u d := by
  unfold nway
  rw [gq_two hu hd]
  cases hg : gq (rad t) u d 49 with
  | none => rfl
  | some j =>
    have : GW (adj t) d j u = GW (rad t) u j d := GW_flip (adj t) j u d hu hd
    show lN (GW (adj t) d j u) = lN (GW (rad t) u j d)
    rw [this]
theorem st_way {V : HS} {N : NS} (S : SS) {M : MS} (h : Rel V N M) (a1 a2 : Int32) : ∃ (r : Int32) (S' : SS) (M' : MS), f_X2_way V N S a1 a2 = some (r, S') ∧ f_X3_way M a1 a2 = some (r, M') ∧ Rel V N M' := by
  have h' := h
  obtain ⟨⟨t, ok, rN, rW⟩, hH⟩ := h
  have h49 := n49 ok
  rw [f_X2_way, f_X3_way]
  rcases isU_or t ok a1 with ⟨u, hu, rfl⟩ | hn
  · rw [m_isNode_t rW ok hu, Option.bind_some, if_neg n10]
    rcases isU_or t ok a2 with ⟨v, hv, rfl⟩ | hn
    · rw [m_isNode_t rW ok hv, Option.bind_some, if_neg n10]
      cases hp1 : tR t u with
      | false =>
        rw [n_pair_f rN ok hu hv (Or.inl hp1), Option.bind_some, if_neg nm20, m_pres_f rW ok hu hp1, Option.bind_some, if_pos z00]
        exact ⟨_, _, _, rfl, rfl, h'⟩
      | true =>
        rw [m_pres_t rW ok hu hp1, Option.bind_some, if_neg n10]
        cases hp2 : tR t v with
        | false =>
          rw [n_pair_f rN ok hu hv (Or.inr hp2), Option.bind_some, if_neg nm20, m_pres_f rW ok hv hp2, Option.bind_some, if_pos z00]
          exact ⟨_, _, _, rfl, rfl, h'⟩
        | true =>
          obtain ⟨c, s1, hc⟩ := n_read rN ok S
          obtain ⟨w', s2, hw⟩ := n_ways ok hv (c, S.2) hc
          obtain ⟨w9, w10, m1, m2, m3⟩ := m_ways ok hu hp1 M rW
          have hR : Rel V N (mW M w9 w10) := ⟨⟨t, ok, rN, rW⟩, hH⟩
          rw [n_pair_t rN ok hu hv hp1 hp2, Option.bind_some, if_pos z00, s1, Option.bind_some, s2, Option.bind_some, n_wayFrom (S := (c, w', S.2.2)) (a := adj t) (d := v) hw (by omega), Option.bind_some, m_pres_t rW ok hv hp2, Option.bind_some, if_neg n10, m1, Option.bind_some, gd_t (inB_nI (by omega) (by omega)), nI_clamp (by omega)]
          dsimp only
          rw [m2 v (by omega), gq_two (by omega) (by omega)]
          cases hg : gq (rad t) u v 49 with
          | none =>
            rw [if_pos (show oI (-1) none = -1 from rfl)]
            exact ⟨_, _, _, rfl, rfl, hR⟩
          | some j =>
            rw [if_neg (show ¬ oI (-1) (some j) = -1 from nI_neg1 (by have := (gq_some.mp hg).1; omega))]
            exact ⟨_, _, _, rfl, rfl, hR⟩
    · rw [n_pair2 rN ok hu hn, Option.bind_some, if_neg nm10, m_isNode_f rW ok hn, Option.bind_some, if_pos z00]
      exact ⟨_, _, _, rfl, rfl, h'⟩
  · rw [m_isNode_f rW ok hn, Option.bind_some, if_pos z00, n_pair1 rN ok hn, Option.bind_some, if_neg nm10]
    exact ⟨_, _, _, rfl, rfl, h'⟩
theorem st_paths {V : HS} {N : NS} (S : SS) {M : MS} (h : Rel V N M) (a1 a2 : Int32) : ∃ (r : Int64) (S' : SS) (M' : MS), f_X2_paths V N S a1 a2 = some (r, S') ∧ f_X3_paths M a1 a2 = some (r, M') ∧ Rel V N M' := by
  have h' := h
  obtain ⟨⟨t, ok, rN, rW⟩, hH⟩ := h
  have h49 := n49 ok
  have q1 : (-1 : Int32).toInt64 = -1 := by decide
  have q2 : (-2 : Int32).toInt64 = -2 := by decide
  rw [f_X2_paths, f_X3_paths]
  rcases isU_or t ok a1 with ⟨u, hu, rfl⟩ | hn
  · rw [m_isNode_t rW ok hu, Option.bind_some, if_neg n10]
    rcases isU_or t ok a2 with ⟨v, hv, rfl⟩ | hn
    · rw [m_isNode_t rW ok hv, Option.bind_some, if_neg n10]
      cases hp1 : tR t u with
      | false =>
        rw [n_pair_f rN ok hu hv (Or.inl hp1), Option.bind_some, if_neg nm20, m_pres_f rW ok hu hp1, Option.bind_some, if_pos z00, q2]
        exact ⟨_, _, _, rfl, rfl, h'⟩
      | true =>
        rw [m_pres_t rW ok hu hp1, Option.bind_some, if_neg n10]
        cases hp2 : tR t v with
        | false =>
          rw [n_pair_f rN ok hu hv (Or.inr hp2), Option.bind_some, if_neg nm20, m_pres_f rW ok hv hp2, Option.bind_some, if_pos z00, q2]
          exact ⟨_, _, _, rfl, rfl, h'⟩
        | true =>
          obtain ⟨c, s1, hc⟩ := n_read rN ok S
          obtain ⟨w', s2, hw⟩ := n_ways ok hv (c, S.2) hc
          obtain ⟨S', s3, s4⟩ := n_paths ok hv (c, w', S.2.2) hc hw
          obtain ⟨w9, w10, m1, m2, m3⟩ := m_ways ok hu hp1 M rW
          have hR : Rel V N (mW M w9 w10) := ⟨⟨t, ok, rN, rW⟩, hH⟩
          rw [n_pair_t rN ok hu hv hp1 hp2, Option.bind_some, if_pos z00, s1, Option.bind_some, s2, Option.bind_some, s3, Option.bind_some, s4 u (by omega), Option.bind_some, m_pres_t rW ok hv hp2, Option.bind_some, if_neg n10, m1, Option.bind_some, gd_t (inB_nI (by omega) (by omega)), nI_clamp (by omega)]
          dsimp only
          rw [m3 v (by omega), nway_two (by omega) (by omega)]
          exact ⟨_, _, _, rfl, rfl, hR⟩
    · rw [n_pair2 rN ok hu hn, Option.bind_some, if_neg nm10, m_isNode_f rW ok hn, Option.bind_some, if_pos z00, q1]
      exact ⟨_, _, _, rfl, rfl, h'⟩
  · rw [m_isNode_f rW ok hn, Option.bind_some, if_pos z00, n_pair1 rN ok hn, Option.bind_some, if_neg nm10, q1]
    exact ⟨_, _, _, rfl, rfl, h'⟩
/-! ===== node ===== -/
def tTo (t : NT) (u : Nat) : Nat := fb_ct (fun v => decide (u ∈ tL t v)) (tN t)
theorem n_to_at {N : NS} {t : NT} (hr : repN N t) (ok : NetOK t) {u : Nat} (hu : u < tN t) : ∀ (fu i : Nat), i ≤ tN t → tN t - i < fu → g_X0_linksTo_4 fu N (nI u) (nI (fb_ct (fun v => decide (u ∈ tL t v)) i)) (nI i) = some (nI (tTo t u)) := by
  intro fu
  have h49 := n49 ok
  induction fu with
  | zero => intro i h1 h2; omega
  | succ fu ih =>
    intro i h1 h2
    rw [g_X0_linksTo_4, n_nodes hr, Option.bind_some]
    by_cases hi : tN t ≤ i
    · have : i = tN t := by omega
      subst this
      rw [if_pos (nI_le hi (by omega))]
      rfl
    · have hi2 : i < tN t := by omega
      have e := ih (i + 1) (by omega) (by omega)
      rw [fb_ct_succ] at e
      rw [if_neg (fun h => by have := (nI_leI (by omega) (by omega)).mp h; omega)]
      rcases n_linkIndex hr ok hi2 hu with ⟨j, j1, j2, j3⟩ | ⟨j1, j2⟩
      · have h3 := (ok.2.2.2.1 i hi2).1
        have hm : u ∈ tL t i := mem_getD.mpr ⟨j, j1, j2⟩
        rw [j3, Option.bind_some, if_neg (nI_neg1 (by omega)), nI_1, nI_1]
        rw [decide_eq_true hm, if_pos rfl] at e
        exact e
      · rw [j2, Option.bind_some, if_pos rfl, nI_1]
        rw [decide_eq_false j1, if_neg ff] at e
        exact e
theorem m_to_at {M : MS} {t : NT} (hr : repW M.1 t) (ok : NetOK t) {u : Nat} (hu : u < tN t) : ∀ (fu i : Nat), i ≤ tN t → tN t - i < fu → g_X3_linksTo_4 fu M (nI u) (nI (fb_ct (fun v => decide (u ∈ tL t v)) i)) (nI i) = some (nI (tTo t u)) := by
  intro fu
  have h49 := n49 ok
  induction fu with
  | zero => intro i h1 h2; omega
  | succ fu ih =>
    intro i h1 h2
    rw [g_X3_linksTo_4, m_nodes hr, Option.bind_some]
    by_cases hi : tN t ≤ i
    · have : i = tN t := by omega
      subst this
      rw [if_pos (nI_le hi (by omega))]
      rfl
    · have hi2 : i < tN t := by omega
      have e := ih (i + 1) (by omega) (by omega)
      rw [fb_ct_succ] at e
      rw [if_neg (fun h => by have := (nI_leI (by omega) (by omega)).mp h; omega), m_hasLink hr ok hi2 hu, Option.bind_some]
      by_cases hm : u ∈ tL t i
      · rw [if_pos hm, if_neg n10, nI_1, nI_1]
        rw [decide_eq_true hm, if_pos rfl] at e
        exact e
      · rw [if_neg hm, if_pos z00, nI_1, show (0 : Int32) = nI 0 from rfl, nI_add]
        rw [decide_eq_false hm, if_neg ff] at e
        exact e
def rch (t : NT) (u v : Nat) : Bool := match gq (rad t) u v 49 with
  | none => false
  | some j => decide (0 < j)
def wn (t : NT) (u v : Nat) : Nat := match gq (rad t) u v 49 with
  | none => 0
  | some j => j
def mx (f : Nat → Nat) : Nat → Nat
  | 0 => 0
  | i + 1 => if mx f i < f i then f i else mx f i
theorem mx_le {f : Nat → Nat} {c : Nat} (h : ∀ i, f i ≤ c) : ∀ n, mx f n ≤ c := by
  intro n
  induction n with
  | zero => exact Nat.zero_le _
  | succ n ih =>
    rw [mx]
    by_cases h1 : mx f n < f n
    · rw [if_pos h1]; exact h n
    · rw [if_neg h1]; exact ih
theorem wn_le (t : NT) (u v : Nat) : wn t u v ≤ 48 := by
  unfold wn
  cases hg : gq (rad t) u v 49 with
  | none => exact Nat.zero_le _
  | some j =>
    have := (gq_some.mp hg).1
    show j ≤ 48
    omega
theorem gq_self {a : Nat → Nat → Bool} {u v : Nat} : gq a u v 49 = some 0 ↔ v = u := by
  rw [gq_some, GW_0]
  by_cases h : v = u
  · rw [if_pos h]
    exact ⟨fun _ => h, fun _ => ⟨by omega, by omega, fun i hi => absurd hi (Nat.not_lt_zero _)⟩⟩
  · rw [if_neg h]
    exact ⟨fun h2 => absurd h2.2.1 (Nat.lt_irrefl _), fun h2 => absurd h2 h⟩
theorem n_reach_at {N : NS} {t : NT} (hr : repN N t) (ok : NetOK t) {u : Nat} (hu : u < tN t) (hp : tR t u = true) : ∀ (fu i : Nat) (S : SS), i ≤ tN t → tN t - i < fu → CR t S.1 → ∃ S', g_X1_reachedFrom_10 fu S N (nI u) (nI (fb_ct (rch t u) i)) (nI i) = some (nI (fb_ct (rch t u) (tN t)), S') := by
  intro fu
  have h49 := n49 ok
  induction fu with
  | zero => intro i S h1 h2; omega
  | succ fu ih =>
    intro i S h1 h2 hc
    rw [g_X1_reachedFrom_10, n_nodes hr, Option.bind_some]
    by_cases hi : tN t ≤ i
    · have : i = tN t := by omega
      subst this
      rw [if_pos (nI_le hi (by omega))]
      exact ⟨_, rfl⟩
    · have hi2 : i < tN t := by omega
      rw [if_neg (fun h => by have := (nI_leI (by omega) (by omega)).mp h; omega), nI_1]
      by_cases hiu : i = u
      · rw [if_pos (show nI i = nI u by rw [hiu])]
        obtain ⟨S', e⟩ := ih (i + 1) S (by omega) (by omega) hc
        rw [fb_ct_succ, show rch t u i = false by unfold rch; rw [gq_self.mpr hiu]; rfl, if_neg ff] at e
        exact ⟨S', e⟩
      · rw [if_neg (fun h => hiu ((nI_eq (by omega) (by omega)).mp h))]
        cases hpi : tR t i with
        | false =>
          obtain ⟨S', e⟩ := ih (i + 1) S (by omega) (by omega) hc
          have : rch t u i = false := by
            unfold rch
            cases hg : gq (rad t) u i 49 with
            | none => rfl
            | some j =>
              have := (gq_pres ok hu hp hg).2
              rw [hpi] at this
              cases this
          rw [fb_ct_succ, this, if_neg ff] at e
          rw [n_pres_f hr ok hi2 hpi, Option.bind_some, if_pos z00]
          exact ⟨S', e⟩
        | true =>
          obtain ⟨w', s2, hw⟩ := n_ways ok hi2 S hc
          obtain ⟨S', e⟩ := ih (i + 1) (S.1, w', S.2.2) (by omega) (by omega) hc
          rw [n_pres_t hr ok hi2 hpi, Option.bind_some, if_neg n10, s2, Option.bind_some, n_wayFrom (S := (S.1, w', S.2.2)) (a := adj t) (d := i) hw (by omega), Option.bind_some, gq_two (by omega) (by omega)]
          cases hg : gq (rad t) u i 49 with
          | none =>
            rw [fb_ct_succ, show rch t u i = false by unfold rch; rw [hg], if_neg ff] at e
            rw [if_pos (show oI (-1) none = -1 from rfl), show (0 : Int32) = nI 0 from rfl, nI_add]
            exact ⟨S', e⟩
          | some j =>
            have hj : 0 < j := by
              rcases Nat.eq_zero_or_pos j with h0 | h0
              · rw [h0] at hg; exact absurd (gq_self.mp hg) hiu
              · exact h0
            rw [fb_ct_succ, show rch t u i = true by unfold rch; rw [hg]; exact decide_eq_true hj, if_pos rfl] at e
            rw [if_neg (show ¬ oI (-1) (some j) = -1 from nI_neg1 (by have := (gq_some.mp hg).1; omega)), nI_1]
            exact ⟨S', e⟩
theorem n_great_at {N : NS} {t : NT} (hr : repN N t) (ok : NetOK t) {u : Nat} (hu : u < tN t) (hp : tR t u = true) : ∀ (fu i : Nat) (S : SS), i ≤ tN t → tN t - i < fu → CR t S.1 → ∃ S', g_X1_greatestWayFrom_10 fu S N (nI u) (nI (mx (wn t u) i)) (nI i) = some (nI (mx (wn t u) (tN t)), S') := by
  intro fu
  have h49 := n49 ok
  induction fu with
  | zero => intro i S h1 h2; omega
  | succ fu ih =>
    intro i S h1 h2 hc
    have hmx := mx_le (wn_le t u) i
    rw [g_X1_greatestWayFrom_10, n_nodes hr, Option.bind_some]
    by_cases hi : tN t ≤ i
    · have : i = tN t := by omega
      subst this
      rw [if_pos (nI_le hi (by omega))]
      exact ⟨_, rfl⟩
    · have hi2 : i < tN t := by omega
      rw [if_neg (fun h => by have := (nI_leI (by omega) (by omega)).mp h; omega), nI_1]
      cases hpi : tR t i with
      | false =>
        obtain ⟨S', e⟩ := ih (i + 1) S (by omega) (by omega) hc
        have : wn t u i = 0 := by
          unfold wn
          cases hg : gq (rad t) u i 49 with
          | none => rfl
          | some j =>
            have := (gq_pres ok hu hp hg).2
            rw [hpi] at this
            cases this
        rw [mx, this, if_neg (Nat.not_lt_zero _)] at e
        rw [n_pres_f hr ok hi2 hpi, Option.bind_some, if_pos z00]
        exact ⟨S', e⟩
      | true =>
        obtain ⟨w', s2, hw⟩ := n_ways ok hi2 S hc
        obtain ⟨S', e⟩ := ih (i + 1) (S.1, w', S.2.2) (by omega) (by omega) hc
        rw [mx] at e
        rw [n_pres_t hr ok hi2 hpi, Option.bind_some, if_neg n10, s2, Option.bind_some, n_wayFrom (S := (S.1, w', S.2.2)) (a := adj t) (d := i) hw (by omega), Option.bind_some, gq_two (by omega) (by omega)]
        simp only [bindv]
        cases hg : gq (rad t) u i 49 with
        | none =>
          rw [show wn t u i = 0 by unfold wn; rw [hg], if_neg (Nat.not_lt_zero _)] at e
          rw [if_neg (show ¬ nI (mx (wn t u) i) < oI (-1) none from fun h => by
            rw [Int32.lt_iff_toInt_lt, nI_toInt (by omega), show (oI (-1) none).toInt = -1 from rfl] at h
            omega)]
          exact ⟨S', e⟩
        | some j =>
          have hj := (gq_some.mp hg).1
          rw [show wn t u i = j by unfold wn; rw [hg]] at e
          by_cases hlt : mx (wn t u) i < j
          · rw [if_pos hlt] at e
            rw [if_pos (show nI (mx (wn t u) i) < oI (-1) (some j) from nI_lt hlt (by omega))]
            exact ⟨S', e⟩
          · rw [if_neg hlt] at e
            rw [if_neg (show ¬ nI (mx (wn t u) i) < oI (-1) (some j) from fun h => by
              rw [show oI (-1) (some j) = nI j from rfl, Int32.lt_iff_toInt_lt, nI_toInt (by omega), nI_toInt (by omega)] at h
              omega)]
            exact ⟨S', e⟩
theorem m_reach_at {M : MS} {t : NT} (hr : repW M.1 t) (ok : NetOK t) {u : Nat} (hw : WY (-9) (rad t) u 49 M.2.2.2.2.2.2.2.2.1) (x2 : Int32) : ∀ (fu i : Nat), i ≤ tN t → tN t - i < fu → g_X3_reached_13 fu M x2 (nI (fb_ct (rch t u) i)) (nI (mx (wn t u) i)) (nI i) = some (if x2 = 0 then nI (fb_ct (rch t u) (tN t)) else nI (mx (wn t u) (tN t)), M) := by
  intro fu
  have h49 := n49 ok
  induction fu with
  | zero => intro i h1 h2; omega
  | succ fu ih =>
    intro i h1 h2
    have hmx := mx_le (wn_le t u) i
    rw [g_X3_reached_13, m_nodes hr, Option.bind_some]
    by_cases hi : tN t ≤ i
    · have : i = tN t := by omega
      subst this
      rw [if_pos (nI_le hi (by omega))]
      by_cases h0 : x2 = 0
      · rw [if_pos h0, if_pos h0]
      · rw [if_neg h0, if_neg h0]
    · have hi2 : i < tN t := by omega
      have e := ih (i + 1) (by omega) (by omega)
      rw [fb_ct_succ, mx] at e
      rw [if_neg (fun h => by have := (nI_leI (by omega) (by omega)).mp h; omega), gd_t (inB_nI (by omega) (by omega)), nI_clamp (by omega), g_X3_reached_38, g_X3_reached_38, gd_t (inB_nI (by omega) (by omega)), gd_t (inB_nI (by omega) (by omega)), gd_t (inB_nI (by omega) (by omega)), nI_clamp (by omega), nI_1, hw i (by omega)]
      simp only [bindv]
      cases hg : gq (rad t) u i 49 with
      | none =>
        rw [show wn t u i = 0 by unfold wn; rw [hg], show rch t u i = false by unfold rch; rw [hg], if_neg ff, if_neg (Nat.not_lt_zero _)] at e
        rw [if_pos (show oI (-9) none ≤ 0 by decide), if_pos (show oI (-9) none ≤ nI (mx (wn t u) i) by rw [Int32.le_iff_toInt_le, nI_toInt (by omega), show (oI (-9) none).toInt = -9 from rfl]; omega), show (0 : Int32) = nI 0 from rfl, nI_add]
        exact e
      | some j =>
        have hj := (gq_some.mp hg).1
        rw [show wn t u i = j by unfold wn; rw [hg], show rch t u i = decide (0 < j) by unfold rch; rw [hg]] at e
        rw [show oI (-9) (some j) = nI j from rfl]
        by_cases h0 : 0 < j
        · rw [decide_eq_true h0, if_pos rfl] at e
          rw [if_neg (show ¬ nI j ≤ 0 from fun h => by have := (nI_leI (b := 0) (by omega) (by omega)).mp h; omega)]
          by_cases hlt : mx (wn t u) i < j
          · rw [if_pos hlt] at e
            rw [if_neg (fun h => by have := (nI_leI (by omega) (by omega)).mp h; omega), nI_1, gd_t (inB_nI (by omega) (by omega))]
            exact e
          · rw [if_neg hlt] at e
            rw [if_pos (nI_le (by omega) (by omega)), nI_1]
            exact e
        · rw [decide_eq_false h0, if_neg ff, if_neg (by omega)] at e
          rw [if_pos (show nI j ≤ 0 from nI_le (b := 0) (by omega) (by omega)), if_pos (nI_le (by omega) (by omega)), show (0 : Int32) = nI 0 from rfl, nI_add]
          exact e
theorem st_node {V : HS} {N : NS} (S : SS) {M : MS} (h : Rel V N M) (a1 a2 : Int32) : ∃ (r : Int32) (S' : SS) (M' : MS), f_X2_node V N S a1 a2 = some (r, S') ∧ f_X3_node M a1 a2 = some (r, M') ∧ Rel V N M' := by
  have h' := h
  obtain ⟨⟨t, ok, rN, rW⟩, hH⟩ := h
  have h49 := n49 ok
  rw [f_X2_node, f_X3_node]
  rcases isU_or t ok a1 with ⟨u, hu, rfl⟩ | hn
  · rw [m_isNode_t rW ok hu, Option.bind_some, if_neg n10, n_holds_t rN ok hu, Option.bind_some, if_neg n10]
    rcases rng a2 (a := 0) (b := 6) (by omega) with ⟨k, hk0, hk2, rfl⟩ | hno
    · rw [show f_X3_isIn (nI k) 0 6 = some 1 from isIn_t (a := 0) (b := 6) (by omega) (by omega) (by rw [nI_toInt (by omega)]; omega), Option.bind_some, if_neg n10, if_neg (nI_pos (by omega)), if_pos (show nI k ≤ 6 from nI_le (b := 6) hk2 (by omega))]
      by_cases k0 : nI k = 0
      · rw [if_pos k0, if_pos k0, n_placeOf rN ok hu, Option.bind_some, show (6 : Int32) = nI 6 from rfl, nI_add, gd_t (inB_nI (by omega) (by omega)), nI_clamp (by omega), (rW.2.2.2.2.2.2 u hu).1]
        exact ⟨_, _, _, rfl, rfl, h'⟩
      rw [if_neg k0, if_neg k0]
      cases hp : tR t u with
      | false =>
        rw [m_pres_f rW ok hu hp, Option.bind_some, if_pos z00, n_pres_f rN ok hu hp, Option.bind_some, if_pos z00]
        exact ⟨_, _, _, rfl, rfl, h'⟩
      | true =>
        rw [m_pres_t rW ok hu hp, Option.bind_some, if_neg n10, n_pres_t rN ok hu hp, Option.bind_some, if_neg n10]
        by_cases k1 : nI k = 1
        · rw [if_pos k1, if_pos k1]
          exact ⟨_, _, _, rfl, rfl, h'⟩
        rw [if_neg k1, if_neg k1]
        by_cases k2 : nI k = 2
        · obtain ⟨z, z1, z2⟩ := n_contacts rN ok hu
          rw [if_pos k2, if_pos k2, z1, Option.bind_some, pop_set h49.1 z2, Option.bind_some, m_contacts rW ok hu, Option.bind_some]
          exact ⟨_, _, _, rfl, rfl, h'⟩
        rw [if_neg k2, if_neg k2]
        by_cases k3 : nI k = 3
        · rw [if_pos k3, if_pos k3, n_linksOf rN ok hu, Option.bind_some, gd_t (m_many rW ok hu).1, (m_many rW ok hu).2]
          exact ⟨_, _, _, rfl, rfl, h'⟩
        rw [if_neg k3, if_neg k3]
        by_cases k4 : nI k = 4
        · have e1 : f_X0_linksTo N (nI u) = some (nI (tTo t u)) := by
            rw [f_X0_linksTo]
            exact n_to_at rN ok hu FU 0 (by omega) (by unfold FU; omega)
          have e2 : f_X3_linksTo M (nI u) = some (nI (tTo t u)) := by
            rw [f_X3_linksTo]
            exact m_to_at rW ok hu FU 0 (by omega) (by unfold FU; omega)
          rw [if_pos k4, if_pos k4, e1, Option.bind_some, e2, Option.bind_some]
          exact ⟨_, _, _, rfl, rfl, h'⟩
        rw [if_neg k4, if_neg k4]
        obtain ⟨c, s1, hc⟩ := n_read rN ok S
        obtain ⟨w9, w10, m1, m2, m3⟩ := m_ways ok hu hp M rW
        have hR : Rel V N (mW M w9 w10) := ⟨⟨t, ok, rN, rW⟩, hH⟩
        by_cases k5 : nI k = 5
        · obtain ⟨S', e1⟩ := n_reach_at rN ok hu hp FU 0 (c, S.2) (by omega) (by unfold FU; omega) hc
          have e1' : g_X1_reachedFrom_10 FU (c, S.2) N (nI u) 0 0 = _ := e1
          have e2 := m_reach_at (M := mW M w9 w10) rW ok m2 0 FU 0 (by omega) (by unfold FU; omega)
          have e2' : g_X3_reached_13 FU (mW M w9 w10) 0 0 0 0 = _ := e2
          rw [if_pos k5, if_pos k5, f_X1_reachedFrom, s1, Option.bind_some, e1', Option.bind_some, f_X3_reached, m1, Option.bind_some, e2', Option.bind_some, if_pos z00]
          exact ⟨_, _, _, rfl, rfl, hR⟩
        · obtain ⟨S', e1⟩ := n_great_at rN ok hu hp FU 0 (c, S.2) (by omega) (by unfold FU; omega) hc
          have e1' : g_X1_greatestWayFrom_10 FU (c, S.2) N (nI u) 0 0 = _ := e1
          have e2 := m_reach_at (M := mW M w9 w10) rW ok m2 1 FU 0 (by omega) (by unfold FU; omega)
          have e2' : g_X3_reached_13 FU (mW M w9 w10) 1 0 0 0 = _ := e2
          rw [if_neg k5, if_neg k5, f_X1_greatestWayFrom, s1, Option.bind_some, e1', Option.bind_some, f_X3_reached, m1, Option.bind_some, e2', Option.bind_some, if_neg n10]
          exact ⟨_, _, _, rfl, rfl, hR⟩
    · rw [show f_X3_isIn a2 0 6 = some 0 from isIn_f (a := 0) (b := 6) (by omega) (by omega) hno, Option.bind_some, if_pos z00]
      by_cases h0 : a2 < 0
      · rw [if_pos h0]
        exact ⟨_, _, _, rfl, rfl, h'⟩
      · rw [if_neg h0, if_neg]
        · exact ⟨_, _, _, rfl, rfl, h'⟩
        · intro hle
          apply hno
          rw [Int32.lt_iff_toInt_lt] at h0
          rw [Int32.le_iff_toInt_le] at hle
          have c0 : (0 : Int32).toInt = 0 := rfl
          have c2 : (6 : Int32).toInt = 6 := rfl
          omega
  · rw [m_isNode_f rW ok hn, Option.bind_some, if_pos z00, n_holds_f rN ok hn, Option.bind_some, if_pos z00]
    exact ⟨_, _, _, rfl, rfl, h'⟩
