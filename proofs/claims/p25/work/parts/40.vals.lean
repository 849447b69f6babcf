/-! ===== what each question answers, in numbers ===== -/
section VALS
variable {V : HS} {N : NS} {S : SS} {t : NT}
theorem v_told0 (hr : repN N t) : f_X2_told V N S 0 = some (nI (tN t)) := by
  rw [f_X2_told, if_pos z00, n_nodes hr]; rfl
theorem v_told2 (hr : repN N t) (ok : NetOK t) : f_X2_told V N S 2 = some (nI (tPr t)) := by
  rw [f_X2_told, if_neg (show ¬ (2 : Int32) = 0 by decide), if_neg (show ¬ (2 : Int32) = 1 by decide), if_pos rfl, n_present hr ok]; rfl
theorem v_told3 (hr : repN N t) (ok : NetOK t) : f_X2_told V N S 3 = some (nI (tCnt t)) := by
  rw [f_X2_told, if_neg (show ¬ (3 : Int32) = 0 by decide), if_neg (show ¬ (3 : Int32) = 1 by decide), if_neg (show ¬ (3 : Int32) = 2 by decide), if_pos rfl, n_count hr ok]; rfl
theorem v_told4 (hr : repN N t) (ok : NetOK t) : f_X2_told V N S 4 = some (nI (tLen t)) := by
  rw [f_X2_told, if_neg (show ¬ (4 : Int32) = 0 by decide), if_neg (show ¬ (4 : Int32) = 1 by decide), if_neg (show ¬ (4 : Int32) = 2 by decide), if_neg (show ¬ (4 : Int32) = 3 by decide), if_pos rfl, n_len hr ok]; rfl
theorem v_node0 (hr : repN N t) (ok : NetOK t) {u : Nat} (hu : u < tN t) : f_X2_node V N S (nI u) 0 = some (nI (tP t u), S) := by
  rw [f_X2_node, n_holds_t hr ok hu, Option.bind_some, if_neg n10, if_neg (show ¬ (0 : Int32) < 0 by decide), if_pos (show (0 : Int32) ≤ 6 by decide), if_pos z00, n_placeOf hr ok hu]; rfl
theorem v_nodeA (hr : repN N t) (ok : NetOK t) {u k : Nat} (hu : u < tN t) (hp : tR t u = false) (h1 : 1 ≤ k) (h6 : k ≤ 6) : f_X2_node V N S (nI u) (nI k) = some (0, S) := by
  rw [f_X2_node, n_holds_t hr ok hu, Option.bind_some, if_neg n10, if_neg (nI_pos (by omega)), if_pos (show nI k ≤ 6 from nI_le (b := 6) h6 (by omega)), if_neg (show ¬ nI k = 0 from fun h => by have := (nI_eq (b := 0) (by omega) (by omega)).mp h; omega), n_pres_f hr ok hu hp, Option.bind_some, if_pos z00]
theorem v_node1 (hr : repN N t) (ok : NetOK t) {u : Nat} (hu : u < tN t) : f_X2_node V N S (nI u) 1 = some ((if tR t u then 1 else 0), S) := by
  cases hp : tR t u with
  | false =>
    have := v_nodeA (V := V) (S := S) hr ok hu hp (k := 1) (by omega) (by omega)
    exact this
  | true =>
    rw [f_X2_node, n_holds_t hr ok hu, Option.bind_some, if_neg n10, if_neg (show ¬ (1 : Int32) < 0 by decide), if_pos (show (1 : Int32) ≤ 6 by decide), if_neg n10, n_pres_t hr ok hu hp, Option.bind_some, if_neg n10, if_pos rfl]
    rfl
theorem v_node3 (hr : repN N t) (ok : NetOK t) {u : Nat} (hu : u < tN t) : f_X2_node V N S (nI u) 3 = some (nI (tL t u).length, S) := by
  cases hp : tR t u with
  | false =>
    rw [ok.2.2.2.2.1 u hu hp]
    exact v_nodeA (V := V) (S := S) hr ok hu hp (k := 3) (by omega) (by omega)
  | true =>
    rw [f_X2_node, n_holds_t hr ok hu, Option.bind_some, if_neg n10, if_neg (show ¬ (3 : Int32) < 0 by decide), if_pos (show (3 : Int32) ≤ 6 by decide), if_neg (show ¬ (3 : Int32) = 0 by decide), n_pres_t hr ok hu hp, Option.bind_some, if_neg n10, if_neg (show ¬ (3 : Int32) = 1 by decide), if_neg (show ¬ (3 : Int32) = 2 by decide), if_pos rfl, n_linksOf hr ok hu]
    rfl
theorem tTo_0 (ok : NetOK t) {u : Nat} (hp : tR t u = false) : tTo t u = 0 := by
  have h : ∀ n, n ≤ tN t → fb_ct (fun v => decide (u ∈ tL t v)) n = 0 := by
    intro n
    induction n with
    | zero => intro _; rfl
    | succ n ih =>
      intro hn
      rw [fb_ct_succ, ih (by omega), if_neg]
      intro h
      have h1 := ((ok.2.2.2.1 n (by omega)).2.2 u (of_decide_eq_true h)).2.2
      rw [hp] at h1
      cases h1
  exact h _ (Nat.le_refl _)
theorem v_node4 (hr : repN N t) (ok : NetOK t) {u : Nat} (hu : u < tN t) : f_X2_node V N S (nI u) 4 = some (nI (tTo t u), S) := by
  have h49 := n49 ok
  cases hp : tR t u with
  | false =>
    rw [tTo_0 ok hp]
    exact v_nodeA (V := V) (S := S) hr ok hu hp (k := 4) (by omega) (by omega)
  | true =>
    have e1 : f_X0_linksTo N (nI u) = some (nI (tTo t u)) := by
      rw [f_X0_linksTo]
      exact n_to_at hr ok hu FU 0 (by omega) (by unfold FU; omega)
    rw [f_X2_node, n_holds_t hr ok hu, Option.bind_some, if_neg n10, if_neg (show ¬ (4 : Int32) < 0 by decide), if_pos (show (4 : Int32) ≤ 6 by decide), if_neg (show ¬ (4 : Int32) = 0 by decide), n_pres_t hr ok hu hp, Option.bind_some, if_neg n10, if_neg (show ¬ (4 : Int32) = 1 by decide), if_neg (show ¬ (4 : Int32) = 2 by decide), if_neg (show ¬ (4 : Int32) = 3 by decide), if_pos rfl, e1]
    rfl
/-- how many nodes are reached, and the greatest way -/
def tRe (t : NT) (u : Nat) : Nat := if tR t u then fb_ct (rch t u) (tN t) else 0
def tGr (t : NT) (u : Nat) : Nat := if tR t u then mx (wn t u) (tN t) else 0
theorem v_node5 (hr : repN N t) (ok : NetOK t) {u : Nat} (hu : u < tN t) : ∃ S', f_X2_node V N S (nI u) 5 = some (nI (tRe t u), S') := by
  have h49 := n49 ok
  unfold tRe
  cases hp : tR t u with
  | false =>
    exact ⟨_, v_nodeA (V := V) (S := S) hr ok hu hp (k := 5) (by omega) (by omega)⟩
  | true =>
    obtain ⟨c, s1, hc⟩ := n_read hr ok S
    obtain ⟨S', e1⟩ := n_reach_at hr ok hu hp FU 0 (c, S.2) (by omega) (by unfold FU; omega) hc
    have e1' : g_X1_reachedFrom_10 FU (c, S.2) N (nI u) 0 0 = _ := e1
    rw [f_X2_node, n_holds_t hr ok hu, Option.bind_some, if_neg n10, if_neg (show ¬ (5 : Int32) < 0 by decide), if_pos (show (5 : Int32) ≤ 6 by decide), if_neg (show ¬ (5 : Int32) = 0 by decide), n_pres_t hr ok hu hp, Option.bind_some, if_neg n10, if_neg (show ¬ (5 : Int32) = 1 by decide), if_neg (show ¬ (5 : Int32) = 2 by decide), if_neg (show ¬ (5 : Int32) = 3 by decide), if_neg (show ¬ (5 : Int32) = 4 by decide), if_pos rfl, f_X1_reachedFrom, s1, Option.bind_some, e1', Option.bind_some]
    exact ⟨_, rfl⟩
theorem v_node6 (hr : repN N t) (ok : NetOK t) {u : Nat} (hu : u < tN t) : ∃ S', f_X2_node V N S (nI u) 6 = some (nI (tGr t u), S') := by
  have h49 := n49 ok
  unfold tGr
  cases hp : tR t u with
  | false =>
    exact ⟨_, v_nodeA (V := V) (S := S) hr ok hu hp (k := 6) (by omega) (by omega)⟩
  | true =>
    obtain ⟨c, s1, hc⟩ := n_read hr ok S
    obtain ⟨S', e1⟩ := n_great_at hr ok hu hp FU 0 (c, S.2) (by omega) (by unfold FU; omega) hc
    have e1' : g_X1_greatestWayFrom_10 FU (c, S.2) N (nI u) 0 0 = _ := e1
    rw [f_X2_node, n_holds_t hr ok hu, Option.bind_some, if_neg n10, if_neg (show ¬ (6 : Int32) < 0 by decide), if_pos (show (6 : Int32) ≤ 6 by decide), if_neg (show ¬ (6 : Int32) = 0 by decide), n_pres_t hr ok hu hp, Option.bind_some, if_neg n10, if_neg (show ¬ (6 : Int32) = 1 by decide), if_neg (show ¬ (6 : Int32) = 2 by decide), if_neg (show ¬ (6 : Int32) = 3 by decide), if_neg (show ¬ (6 : Int32) = 4 by decide), if_neg (show ¬ (6 : Int32) = 5 by decide), f_X1_greatestWayFrom, s1, Option.bind_some, e1', Option.bind_some]
    exact ⟨_, rfl⟩
theorem v_target (hr : repN N t) (ok : NetOK t) {u k : Nat} (hu : u < tN t) (hk : k < 2 ^ 31) : f_X2_target V N S (nI u) (nI k) = some (if k < (tL t u).length then nI ((tL t u).getD k 0) else -9) := by
  have h3 := (ok.2.2.2.1 u hu).1
  rw [f_X2_target, n_holds_t hr ok hu, Option.bind_some, if_neg n10, if_pos (nI_pos' hk), n_linksOf hr ok hu, Option.bind_some]
  by_cases h : k < (tL t u).length
  · rw [if_neg (fun h2 => by have := (nI_leI (by omega) hk).mp h2; omega), n_linkAt hr ok hu h, if_pos h]; rfl
  · rw [if_pos (nI_le (by omega) hk), if_neg h]
theorem v_dist (hr : repN N t) (ok : NetOK t) {u v : Nat} (hu : u < tN t) (hv : v < tN t) : f_X2_distance V N S (nI u) (nI v) = some (nI (far t u v)) := by
  rw [f_X2_distance, n_holds_t hr ok hu, Option.bind_some, if_neg n10, n_holds_t hr ok hv, Option.bind_some, if_neg n10, n_spacing hr ok hu hv]; rfl
/-- two nodes of which one is absent -/
theorem v_absent (hr : repN N t) (ok : NetOK t) {u d : Nat} (hu : u < tN t) (hd : d < tN t) (h : tR t u = false ∨ tR t d = false) : f_X2_route V N S (nI u) (nI d) 0 = some (-2, S) ∧ f_X2_way V N S (nI u) (nI d) = some (-2, S) ∧ f_X2_paths V N S (nI u) (nI d) = some (-2, S) := by
  refine ⟨?_, ?_, ?_⟩
  · rw [f_X2_route, if_pos (show (-2 : Int32) ≤ 0 by decide), n_pair_f hr ok hu hd h, Option.bind_some, if_neg nm20]
  · rw [f_X2_way, n_pair_f hr ok hu hd h, Option.bind_some, if_neg nm20]
  · rw [f_X2_paths, n_pair_f hr ok hu hd h, Option.bind_some, if_neg nm20, show (-2 : Int32).toInt64 = -2 by decide]
theorem v_routeL (hr : repN N t) (ok : NetOK t) {u d n : Nat} (hu : u < tN t) (hd : d < tN t) (hp : tR t u = true) (hq : tR t d = true) (hn : n ≤ 12) (ht : tm t d (rs t d u n)) (hno : ∀ j, j < n → ¬ tm t d (rs t d u j)) : ∃ S', f_X2_route V N S (nI u) (nI d) (-1) = some (nI n, S') := by
  obtain ⟨S', s1, s2, s3⟩ := n_lookUp hr ok hu hd hp hn ht hno S
  rw [f_X2_route, if_pos (show (-2 : Int32) ≤ -1 by decide), n_pair_t hr ok hu hd hp hq, Option.bind_some, if_pos z00, s1, Option.bind_some, if_neg (show ¬ (-1 : Int32) = -2 by decide), if_pos rfl, n_steps s2, Option.bind_some]
  exact ⟨_, rfl⟩
theorem v_routeR (hr : repN N t) (ok : NetOK t) {u d n : Nat} (hu : u < tN t) (hd : d < tN t) (hp : tR t u = true) (hq : tR t d = true) (hn : n ≤ 12) (ht : tm t d (rs t d u n)) (hno : ∀ j, j < n → ¬ tm t d (rs t d u j)) : ∃ S', f_X2_route V N S (nI u) (nI d) (-2) = some ((if rs t d u n = d then 1 else 0), S') := by
  obtain ⟨S', s1, s2, s3⟩ := n_lookUp hr ok hu hd hp hn ht hno S
  rw [f_X2_route, if_pos (show (-2 : Int32) ≤ -2 by decide), n_pair_t hr ok hu hd hp hq, Option.bind_some, if_pos z00, s1, Option.bind_some, if_pos rfl]
  dsimp only
  by_cases hz : rs t d u n = d
  · rw [if_pos hz, if_neg n10]; exact ⟨_, rfl⟩
  · rw [if_neg hz, if_pos z00]; exact ⟨_, rfl⟩
theorem v_routeK (hr : repN N t) (ok : NetOK t) {u d n k : Nat} (hu : u < tN t) (hd : d < tN t) (hp : tR t u = true) (hq : tR t d = true) (hn : n ≤ 12) (ht : tm t d (rs t d u n)) (hno : ∀ j, j < n → ¬ tm t d (rs t d u j)) (hk : k < 2 ^ 31) : ∃ S', f_X2_route V N S (nI u) (nI d) (nI k) = some ((if k ≤ n then nI (rs t d u k) else -9), S') := by
  obtain ⟨S', s1, s2, s3⟩ := n_lookUp hr ok hu hd hp hn ht hno S
  have e1 : (-2 : Int32) ≤ nI k := by
    rw [Int32.le_iff_toInt_le, nI_toInt hk]
    have : (-2 : Int32).toInt = -2 := rfl
    omega
  have e2 : ¬ nI k = -2 := fun h => by
    have h1 := congrArg Int32.toInt h
    rw [nI_toInt hk] at h1
    have : (-2 : Int32).toInt = -2 := rfl
    omega
  have e3 : ¬ nI k = -1 := nI_neg1 hk
  rw [f_X2_route, if_pos e1, n_pair_t hr ok hu hd hp hq, Option.bind_some, if_pos z00, s1, Option.bind_some, if_neg e2, if_neg e3, n_steps s2, Option.bind_some]
  by_cases h : k ≤ n
  · rw [if_neg (fun h2 => by rw [Int32.lt_iff_toInt_lt, nI_toInt (by omega), nI_toInt hk] at h2; omega), n_trail s3 h hn, if_pos h]
    exact ⟨_, rfl⟩
  · rw [if_pos (nI_lt (by omega) hk), if_neg h]
    exact ⟨_, rfl⟩
theorem v_way (hr : repN N t) (ok : NetOK t) {u d : Nat} (hu : u < tN t) (hd : d < tN t) (hp : tR t u = true) (hq : tR t d = true) : ∃ S', f_X2_way V N S (nI u) (nI d) = some (oI (-9) (gq (adj t) d u 49), S') := by
  have h49 := n49 ok
  obtain ⟨c, s1, hc⟩ := n_read hr ok S
  obtain ⟨w', s2, hw⟩ := n_ways ok hd (c, S.2) hc
  rw [f_X2_way, n_pair_t hr ok hu hd hp hq, Option.bind_some, if_pos z00, s1, Option.bind_some, s2, Option.bind_some, n_wayFrom (S := (c, w', S.2.2)) (a := adj t) (d := d) hw (by omega), Option.bind_some]
  cases hg : gq (adj t) d u 49 with
  | none =>
    rw [if_pos (show oI (-1) none = -1 from rfl)]
    exact ⟨_, rfl⟩
  | some j =>
    rw [if_neg (show ¬ oI (-1) (some j) = -1 from nI_neg1 (by have := (gq_some.mp hg).1; omega))]
    exact ⟨_, rfl⟩
theorem v_paths (hr : repN N t) (ok : NetOK t) {u d : Nat} (hu : u < tN t) (hd : d < tN t) (hp : tR t u = true) (hq : tR t d = true) : ∃ S', f_X2_paths V N S (nI u) (nI d) = some (nway (adj t) d u, S') := by
  have h49 := n49 ok
  obtain ⟨c, s1, hc⟩ := n_read hr ok S
  obtain ⟨w', s2, hw⟩ := n_ways ok hd (c, S.2) hc
  obtain ⟨S', s3, s4⟩ := n_paths ok hd (c, w', S.2.2) hc hw
  rw [f_X2_paths, n_pair_t hr ok hu hd hp hq, Option.bind_some, if_pos z00, s1, Option.bind_some, s2, Option.bind_some, s3, Option.bind_some, s4 u (by omega), Option.bind_some]
  exact ⟨_, rfl⟩
theorem v_meas (hr : repN N t) (ok : NetOK t) {k : Nat} (hk : k < 8) : ∃ S', f_X2_measure V N S (nI k) = some (nI (tot t k), S') := by
  obtain ⟨S', s1, s2⟩ := n_take_meas hr ok S
  rw [f_X2_measure, if_neg (nI_pos (by omega)), if_pos (show nI k < 8 from nI_lt (b := 8) (by omega) (by omega)), s1, Option.bind_some, n_meas (by omega), Option.bind_some, s2 k (by omega)]
  exact ⟨_, rfl⟩
theorem v_meas8 : f_X2_measure V N S 8 = some (-1, S) := by
  rw [f_X2_measure, if_neg (show ¬ (8 : Int32) < 0 by decide), if_neg (show ¬ (8 : Int32) < 8 by decide)]
theorem v_mean (hr : repN N t) (ok : NetOK t) : ∃ r S', f_X2_mean V N S = some (r, S') ∧ (tot t 4 = 0 → r = 0) ∧ (tot t 4 ≠ 0 → r = FP.fdiv (FP.i2f (nI (tot t 6))) (FP.i2f (nI (tot t 4)))) := by
  obtain ⟨S', s1, s2⟩ := n_take_meas hr ok S
  have h4 := tot_4 ok
  have k4 : f_X1_measured S' 4 = some (nI (tot t 4)) := by
    rw [← s2 4 (by omega)]
    exact n_meas (k := 4) (by omega)
  have k6 : f_X1_measured S' 6 = some (nI (tot t 6)) := by
    rw [← s2 6 (by omega)]
    exact n_meas (k := 6) (by omega)
  rw [f_X2_mean, s1, Option.bind_some, k4, Option.bind_some]
  by_cases h0 : tot t 4 = 0
  · rw [h0, if_neg (show ¬ (1 : Int32) ≤ nI 0 by decide)]
    exact ⟨_, _, rfl, fun _ => rfl, fun h => absurd rfl h⟩
  · have hn : nI (tot t 4) ≠ 0 := fun e => h0 ((nI_eq (b := 0) (by omega) (by omega)).mp e)
    have hf := nf_ok (div_ok (nI (tot t 6)) (nI (tot t 4)) hn)
    rw [if_pos (show (1 : Int32) ≤ nI (tot t 4) from nI_le (a := 1) (by omega) (by omega)), k6, Option.bind_some, gd_t hf.1]
    exact ⟨_, _, rfl, fun h => absurd h h0, fun _ => rfl⟩
end VALS
