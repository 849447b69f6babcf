/-! ===== the law's isRoute ===== -/
/-- how many nodes have the way k; how many a less one -/
def nl (a : Nat → Nat → Bool) (d k : Nat) : Nat := fb_ct (fun v => decide (gq a d v 49 = some k)) 49
def cl (a : Nat → Nat → Bool) (d j : Nat) : Nat := fb_sm (nl a d) j
theorem one_at (o : Option Nat) (j : Nat) : fb_sm (fun k => if decide (o = some k) then 1 else 0) j ≤ 1 := by
  cases o with
  | none =>
    rw [fb_sm_cong (g := fun _ => 0) (fun k _ => by simp), fb_sm_const]
    omega
  | some k0 =>
    by_cases h : k0 < j
    · rw [sm_one (b := k0) h (fun i _ hi => by
        rw [if_neg]
        intro h2
        exact hi (Option.some.inj (of_decide_eq_true h2)).symm)]
      rw [if_pos (decide_eq_true rfl)]
      exact Nat.le_refl _
    · rw [fb_sm_cong (g := fun _ => 0) (fun k hk => by
        rw [if_neg]
        intro h2
        have := Option.some.inj (of_decide_eq_true h2)
        omega), fb_sm_const]
      omega
theorem cl_le (a : Nat → Nat → Bool) (d j : Nat) : cl a d j ≤ 49 := by
  have e : cl a d j = fb_sm (fun k => fb_sm (fun v => if decide (gq a d v 49 = some k) then 1 else 0) 49) j := fb_sm_cong (fun k _ => ct_sm _ _)
  rw [e, sm_swap]
  have := fb_sm_bound (f := fun v => fb_sm (fun k => if decide (gq a d v 49 = some k) then 1 else 0) j) (c := 1) (n := 49) (fun v _ => one_at _ _)
  omega
theorem GW_le {a : Nat → Nat → Bool} {d : Nat} : ∀ (j u : Nat), gq a d u 49 = some j → GW a d j u ≤ 2 ^ cl a d j := by
  intro j
  induction j with
  | zero =>
    intro u _
    rw [GW_0]
    have := Nat.one_le_two_pow (n := cl a d 0)
    by_cases h : u = d
    · rw [if_pos h]; exact this
    · rw [if_neg h]; exact Nat.zero_le _
  | succ j ih =>
    intro u h
    rw [← pin_sum h]
    have h1 : fb_sm (pin a d j u) 49 ≤ fb_sm (fun v => (if decide (gq a d v 49 = some j) then 1 else 0) * 2 ^ cl a d j) 49 := by
      refine fb_sm_le (fun v _ => ?_)
      unfold pin
      by_cases h2 : gq a d v 49 = some j
      · rw [if_pos h2, if_pos (decide_eq_true h2), Nat.one_mul]
        have := ih v h2
        cases a u v with
        | true => rw [if_pos rfl]; exact this
        | false => exact Nat.zero_le _
      · rw [if_neg h2]
        cases a u v with
        | true => exact Nat.zero_le _
        | false => exact Nat.zero_le _
    have h2 : ∀ n, fb_sm (fun v => (if decide (gq a d v 49 = some j) then 1 else 0) * 2 ^ cl a d j) n = fb_ct (fun v => decide (gq a d v 49 = some j)) n * 2 ^ cl a d j := by
      intro n
      induction n with
      | zero => rw [show fb_ct (fun v => decide (gq a d v 49 = some j)) 0 = 0 from rfl, Nat.zero_mul]; rfl
      | succ n ih2 => rw [fb_sm_succ, ih2, fb_ct_succ, Nat.add_mul]
    rw [h2] at h1
    have h3 : cl a d (j + 1) = cl a d j + nl a d j := rfl
    have h4 : nl a d j ≤ 2 ^ nl a d j := Nat.le_of_lt Nat.lt_two_pow_self
    rw [h3, Nat.pow_add, Nat.mul_comm (2 ^ cl a d j)]
    exact Nat.le_trans h1 (Nat.mul_le_mul_right _ h4)
theorem lN_GW {a : Nat → Nat → Bool} {d u j : Nat} (h : gq a d u 49 = some j) : lN (GW a d j u) ≠ 0 := by
  have h1 := GW_le j u h
  have h2 := (gq_some.mp h).2.1
  have h3 : 2 ^ cl a d j ≤ 2 ^ 49 := Nat.pow_le_pow_right (by omega) (cl_le a d j)
  intro e
  have h4 := congrArg Int64.toInt e
  rw [show lN (GW a d j u) = Int64.ofNat (GW a d j u) from rfl, lg_ofNat_toInt (by omega)] at h4
  have : (0 : Int64).toInt = 0 := rfl
  omega
theorem nway_none {a : Nat → Nat → Bool} {d u : Nat} (h : gq a d u 49 = none) : nway a d u = 0 := by unfold nway; rw [h]
theorem nway_some {a : Nat → Nat → Bool} {d u j : Nat} (h : gq a d u 49 = some j) : nway a d u = lN (GW a d j u) := by unfold nway; rw [h]
theorem nway_self (a : Nat → Nat → Bool) (d : Nat) : nway a d d = 1 := by
  rw [nway_some (gq_self.mpr rfl), GW_0, if_pos rfl]; rfl
theorem con_adj {t : NT} {u v : Nat} (hu : u < tN t) (hp : tR t u = true) (hv : v < tN t) (hc : con t u v = true) : adj t u v = true := by
  unfold adj cn
  simp [hu, hp, hv, hc]
/-- a contact is one step away -/
theorem gq_con {t : NT} (ok : NetOK t) {u v : Nat} (hu : u < tN t) (hp : tR t u = true) (hv : v < tN t) (hc : con t u v = true) : gq (adj t) v u 49 = some 1 := by
  have h49 := n49 ok
  have hne := ((con_iff t u v).mp hc).1
  refine gq_some.mpr ⟨by omega, GW_pos.mpr ⟨v, by omega, con_adj hu hp hv hc, ?_⟩, fun i hi => ?_⟩
  · rw [GW_0, if_pos rfl]; omega
  · rw [show i = 0 by omega, GW_0, if_neg hne]
/-- a route that comes to its end is a path -/
theorem route_walk {t : NT} (ok : NetOK t) {d u n : Nat} (hu : u < tN t) (hp : tR t u = true) (hno : ∀ j, j < n → ¬ tm t d (rs t d u j)) (he : rs t d u n = d) : ∀ m, m ≤ n → 0 < GW (adj t) d m (rs t d u (n - m)) := by
  have h49 := n49 ok
  intro m
  induction m with
  | zero => intro _; rw [GW_0, Nat.sub_zero, if_pos he]; omega
  | succ m ih =>
    intro hm
    have hk := hno (n - (m + 1)) (by omega)
    obtain ⟨h1, h2⟩ := rs_ok (d := d) hu hp (n - (m + 1))
    cases hx : nx t (rs t d u (n - (m + 1))) d with
    | none => exact absurd (Or.inr hx) hk
    | some v =>
      obtain ⟨a1, a2, a3, -⟩ := nx_some hx
      have e := rs_succ hx
      rw [show n - (m + 1) + 1 = n - m by omega] at e
      have ih := ih (by omega)
      rw [e] at ih
      exact GW_pos.mpr ⟨v, by omega, con_adj h1 h2 a1 a3, ih⟩
theorem route_way {t : NT} (ok : NetOK t) {d u n : Nat} (hu : u < tN t) (hp : tR t u = true) (hn : n ≤ 12) (hno : ∀ j, j < n → ¬ tm t d (rs t d u j)) (he : rs t d u n = d) : ∃ j, gq (adj t) d u 49 = some j ∧ j ≤ n := by
  have h := route_walk ok hu hp hno he n (Nat.le_refl n)
  rw [Nat.sub_self, show rs t d u 0 = u from rfl] at h
  cases hg : gq (adj t) d u 49 with
  | none =>
    have := gq_none.mp hg n (by omega)
    omega
  | some j =>
    obtain ⟨-, -, h3⟩ := gq_some.mp hg
    refine ⟨j, rfl, Nat.le_of_not_lt fun hlt => ?_⟩
    have := h3 n hlt
    omega
theorem l00 : (lg_cmp (0 : Int64) 0) = 0 := by decide
theorem l11 : (lg_cmp (1 : Int64) 1) = 0 := by decide
theorem lm2 : (lg_cmp (-2 : Int64) (-2)) = 0 := by decide
section ROUTE
variable {V : HS} {N : NS} {S : SS} {t : NT}
theorem r_18 (hr : repN N t) (ok : NetOK t) {u d : Nat} (hu : u < tN t) (hd : d < tN t) (h : tR t u = false ∨ tR t d = false) : g_L_isRoute_18 V N S (nI u) (nI d) = some (1, S) := by
  rw [g_L_isRoute_18, (v_absent hr ok hu hd h).1, Option.bind_some]
  dsimp only
  rw [if_pos rfl, (v_absent hr ok hu hd h).2.1, Option.bind_some]
  dsimp only
  rw [if_pos rfl, (v_absent hr ok hu hd h).2.2, Option.bind_some]
  dsimp only
  rw [if_pos lm2]
theorem r_220 (hr : repN N t) (ok : NetOK t) {u d : Nat} (hu : u < tN t) (hd : d < tN t) (hp : tR t u = true) (hq : tR t d = true) : ∃ S', g_L_isRoute_220 V N S (nI u) (nI d) (oI (-9) (gq (adj t) d u 49)) 1 = some (1, S') := by
  have h49 := n49 ok
  obtain ⟨S', e1⟩ := v_paths (V := V) (S := S) hr ok hu hd hp hq
  rw [g_L_isRoute_220, if_neg n10]
  cases hg : gq (adj t) d u 49 with
  | none =>
    have hne : ¬ nI u = nI d := fun e => by
      have := (nI_eq (by omega) (by omega)).mp e
      rw [gq_self.mpr this] at hg
      cases hg
    rw [if_pos (show oI (-9) none = -9 from rfl), e1, Option.bind_some]
    dsimp only
    rw [nway_none hg, if_pos l00, g_L_isRoute_255, if_pos rfl, if_neg hne, if_neg (show ¬ oI (-9) none = 0 by decide), g_L_isRoute_278, if_pos rfl, if_neg hne]
    exact ⟨_, rfl⟩
  | some j =>
    have hj := (gq_some.mp hg).1
    rw [if_neg (show ¬ oI (-9) (some j) = -9 from nI_n9 (by omega)), e1, Option.bind_some]
    dsimp only
    rw [nway_some hg, if_neg (show ¬ lg_cmp (lN (GW (adj t) d j u)) 0 = 0 from fun h => lN_GW hg ((cmp_z _).mp h)), g_L_isRoute_255, if_pos rfl]
    by_cases hud : u = d
    · subst hud
      have h0 : j = 0 := by
        have := (gq_self (a := adj t)).mpr (show u = u from rfl)
        rw [hg] at this
        exact Option.some.inj this
      subst h0
      obtain ⟨S2, e2⟩ := v_paths (V := V) (S := S') hr ok hu hd hp hq
      rw [if_pos rfl, if_pos (show oI (-9) (some 0) = 0 from rfl), g_L_isRoute_278, if_pos rfl, if_pos rfl, e2, Option.bind_some]
      dsimp only
      rw [nway_self, if_pos l11]
      exact ⟨_, rfl⟩
    · have hne : ¬ nI u = nI d := fun e => hud ((nI_eq (by omega) (by omega)).mp e)
      have hj0 : ¬ oI (-9) (some j) = 0 := fun e => by
        have h0 := (nI_eq (b := 0) (show j < 2 ^ 31 by omega) (by omega)).mp e
        subst h0
        exact hud (gq_self.mp hg)
      rw [if_neg hne, if_neg hj0, g_L_isRoute_278, if_pos rfl, if_neg hne]
      exact ⟨_, rfl⟩
theorem r_148 (hr : repN N t) (ok : NetOK t) {u d n : Nat} (hu : u < tN t) (hd : d < tN t) (hp : tR t u = true) (hq : tR t d = true) (hn : n ≤ 12) (ht : tm t d (rs t d u n)) (hno : ∀ j, j < n → ¬ tm t d (rs t d u j)) : ∃ S', g_L_isRoute_148 V N S (nI u) (nI d) (nI n) (nI (rs t d u n)) (if rs t d u n = d then 1 else 0) = some (1, S') := by
  have h49 := n49 ok
  obtain ⟨S1, e1⟩ := v_way (V := V) (S := S) hr ok hu hd hp hq
  obtain ⟨S2, e2⟩ := v_routeK (V := V) (S := S1) hr ok hu hd hp hq hn ht hno (k := 0) (by omega)
  obtain ⟨S3, e3⟩ := v_routeK (V := V) (S := S2) hr ok hu hd hp hq hn ht hno (k := n + 1) (by omega)
  rw [if_pos (Nat.zero_le n)] at e2
  rw [if_neg (by omega)] at e3
  have e2' : f_X2_route V N S1 (nI u) (nI d) 0 = some (nI u, S2) := e2
  have hrn := (rs_ok (d := d) hu hp n).1
  obtain ⟨S4, e4⟩ := r_220 (V := V) (S := S3) hr ok hu hd hp hq
  refine ⟨S4, ?_⟩
  rw [g_L_isRoute_148, e1, Option.bind_some]
  dsimp only
  rw [e2', Option.bind_some]
  dsimp only
  rw [if_pos rfl, nI_1, e3, Option.bind_some]
  dsimp only
  rw [if_pos rfl]
  by_cases hz : rs t d u n = d
  · obtain ⟨j, hj, hjn⟩ := route_way ok hu hp hn hno hz
    rw [hj] at e4 ⊢
    rw [if_pos hz, if_pos (show nI (rs t d u n) = nI d by rw [hz]), g_L_isRoute_196, if_pos rfl, if_neg n10, if_neg (show ¬ oI (-9) (some j) < 0 from nI_pos (by omega)), if_neg (show ¬ nI n < oI (-9) (some j) from fun h => by
      have h : nI n < nI j := h
      rw [Int32.lt_iff_toInt_lt, nI_toInt (by omega), nI_toInt (by omega)] at h
      omega)]
    exact e4
  · rw [if_neg hz, if_neg (show ¬ nI (rs t d u n) = nI d from fun e => hz ((nI_eq (by omega) (by omega)).mp e)), g_L_isRoute_196, if_pos rfl, if_pos z00]
    exact e4
theorem r_74 (hr : repN N t) (ok : NetOK t) {u d n : Nat} (hu : u < tN t) (hd : d < tN t) (hp : tR t u = true) (hq : tR t d = true) (hn : n ≤ 12) (ht : tm t d (rs t d u n)) (hno : ∀ j, j < n → ¬ tm t d (rs t d u j)) : ∀ (fu k : Nat) (S : SS), k ≤ n → n - k < fu → ∃ S', g_L_isRoute_74 fu V N S (nI u) (nI d) (nI n) (nI (rs t d u k)) (nI (k + 1)) = some (1, S') := by
  have h49 := n49 ok
  intro fu
  induction fu with
  | zero => intro k S h1 h2; omega
  | succ fu ih =>
    intro k S h1 h2
    rw [g_L_isRoute_74]
    by_cases hk : n ≤ k
    · have hk2 : k = n := by omega
      subst hk2
      obtain ⟨S1, e1⟩ := v_routeR (V := V) (S := S) hr ok hu hd hp hq hn ht hno
      obtain ⟨S2, e2⟩ := r_148 (V := V) (S := S1) hr ok hu hd hp hq hn ht hno
      refine ⟨S2, ?_⟩
      rw [if_pos (nI_lt (by omega) (by omega)), e1, Option.bind_some]
      dsimp only
      by_cases hz : rs t d u k = d
      · rw [if_pos hz] at e2 ⊢
        rw [if_pos rfl]
        exact e2
      · rw [if_neg hz] at e2 ⊢
        rw [if_neg (show ¬ (0 : Int32) = 1 by decide)]
        exact e2
    · have hkn : k + 1 ≤ n := by omega
      obtain ⟨h3, h4⟩ := rs_ok (d := d) hu hp k
      obtain ⟨h5, h6⟩ := rs_ok (d := d) hu hp (k + 1)
      cases hx : nx t (rs t d u k) d with
      | none => exact absurd (Or.inr hx) (hno k (by omega))
      | some v =>
        obtain ⟨a1, a2, a3, a4⟩ := nx_some hx
        have ev := rs_succ hx
        rw [← ev] at a1 a2 a3 a4
        obtain ⟨S1, e1⟩ := v_routeK (V := V) (S := S) hr ok hu hd hp hq hn ht hno (k := k + 1) (by omega)
        rw [if_pos hkn] at e1
        obtain ⟨S2, e2⟩ := v_way (V := V) (S := S1) hr ok h3 h5 h4 h6
        rw [gq_con ok h3 h4 h5 a3] at e2
        have e2' : f_X2_way V N S1 (nI (rs t d u k)) (nI (rs t d u (k + 1))) = some (1, S2) := e2
        have f1 := far_le ok h3 hd
        have f2 := far_le ok h5 hd
        obtain ⟨S3, e3⟩ := ih (k + 1) S2 hkn (by omega)
        refine ⟨S3, ?_⟩
        rw [if_neg (show ¬ nI n < nI (k + 1) from fun h => by rw [Int32.lt_iff_toInt_lt, nI_toInt (by omega), nI_toInt (by omega)] at h; omega), e1, Option.bind_some]
        dsimp only
        rw [v_dist hr ok h5 hd, Option.bind_some, v_dist hr ok h3 hd, Option.bind_some, if_neg (fun h => by have := (nI_leI (by omega) (by omega)).mp h; omega), e2', Option.bind_some]
        dsimp only
        rw [if_pos rfl, nI_1]
        exact e3
theorem s_isRoute (hr : repN N t) (ok : NetOK t) {u d : Nat} (hu : u < tN t) (hd : d < tN t) : ∃ S', f_L_isRoute V N S (nI u) (nI d) = some (1, S') := by
  have h49 := n49 ok
  rw [f_L_isRoute]
  cases hp : tR t u with
  | false =>
    rw [v_node1f hr ok hu hp, Option.bind_some]
    dsimp only
    rw [if_pos z00]
    exact ⟨_, r_18 hr ok hu hd (Or.inl hp)⟩
  | true =>
    rw [v_node1t hr ok hu hp, Option.bind_some]
    dsimp only
    rw [if_neg n10]
    cases hq : tR t d with
    | false =>
      rw [v_node1f hr ok hd hq, Option.bind_some]
      dsimp only
      rw [if_pos z00]
      exact ⟨_, r_18 hr ok hu hd (Or.inr hq)⟩
    | true =>
      obtain ⟨n, hn, ht, hno⟩ := rs_end ok hu hd hp
      obtain ⟨S1, e1⟩ := v_routeL (V := V) (S := S) hr ok hu hd hp hq hn ht hno
      rw [v_node1t hr ok hd hq, Option.bind_some]
      dsimp only
      rw [if_neg n10, e1, Option.bind_some]
      exact r_74 hr ok hu hd hp hq hn ht hno FU 0 S1 (Nat.zero_le n) (by unfold FU; omega)
end ROUTE
