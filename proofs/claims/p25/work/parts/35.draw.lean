/-! ===== drawLink ===== -/
def wt (k d : Nat) : Nat := if k = 1 then 60 / d else if k = 2 then 3600 / (d * d) else 1
def wok (t : NT) (u v : Nat) : Bool := tR t v && (!con t u v && !decide (v = u))
def wgt (t : NT) (k u v : Nat) : Nat := if wok t u v then wt k (far t u v) else 0
theorem n_wt : ∀ d, d < 15 → 1 ≤ d → ∀ k, k < 3 → f_X0_weight (nI d) (nI k) = some (nI (wt k d)) := by decide +kernel
theorem m_wt : ∀ d, d < 15 → 1 ≤ d → ∀ k, k < 3 → (if nI k = 0 then some (1 : Int32) else (if nI k = (1 : Int32) then gd (nz32 (nI d)) (some ((60 : Int32) / nI d)) else gd (nz32 (nI d * nI d)) (some ((3600 : Int32) / (nI d * nI d))))) = some (nI (wt k d)) := by decide +kernel
theorem wt_pos : ∀ d, d < 15 → 1 ≤ d → ∀ k, k < 3 → wt k d ≤ 3600 := by decide +kernel
theorem far_pos {t : NT} (ok : NetOK t) {u v : Nat} (hu : u < tN t) (hv : v < tN t) (h : u ≠ v) : 1 ≤ far t u v := by
  rcases Nat.eq_zero_or_pos (far t u v) with h0 | h0
  · exfalso
    unfold far dis at h0
    have a := Nat.div_add_mod' (tP t u) (tW t)
    have b := Nat.div_add_mod' (tP t v) (tW t)
    have c : tP t u % tW t = tP t v % tW t := by omega
    have d : tP t u / tW t = tP t v / tW t := by omega
    rw [c, d, b] at a
    exact h (P_inj ok hu hv a.symm)
  · exact h0
theorem wgt_le {t : NT} (ok : NetOK t) {k u v : Nat} (hk : k < 3) (hu : u < tN t) (hv : v < tN t) : wgt t k u v ≤ 3600 := by
  unfold wgt
  by_cases h : wok t u v = true
  · rw [if_pos h]
    have hne : u ≠ v := by
      intro e
      unfold wok at h
      simp [e] at h
    have := far_le ok hu hv
    exact wt_pos _ (by omega) (far_pos ok hu hv hne) k hk
  · rw [if_neg h]; omega
theorem n_dset {N : NS} {t : NT} (hr : repN N t) (ok : NetOK t) {u : Nat} (hu : u < tN t) : ∃ z, (∀ (K : Int64 → Option (Int32 × NS)), (f_X0_contactsOf N (nI u)).bind (fun z1 => (f_X2_only (nI u)).bind (fun z2 => bindv ((N.2.2.1 &&& (z1 ^^^ (-1 : Int64))) &&& (z2 ^^^ (-1 : Int64))) K)) = K z) ∧ ∀ v, v < tN t → bt6 z v = wok t u v := by
  have h49 := n49 ok
  obtain ⟨z1, e1, b1⟩ := n_contacts hr ok hu
  obtain ⟨z2, e2, b2⟩ := only_ok (k := u) (by omega)
  refine ⟨(N.2.2.1 &&& (z1 ^^^ (-1 : Int64))) &&& (z2 ^^^ (-1 : Int64)), fun K => by rw [e1, Option.bind_some, e2, Option.bind_some]; rfl, fun v hv => ?_⟩
  rw [b6_and, b6_and, b6_not _ (by omega), b6_not _ (by omega), b1 v (by omega), b2 v (by omega)]
  have hb : bt6 N.2.2.1 v = (decide (v < tN t) && tR t v) := hr.2.2.1 v (by omega)
  rw [hb]
  unfold wok
  simp [hv, Bool.and_assoc]
theorem n_d30 {N : NS} {t : NT} (hr : repN N t) (ok : NetOK t) {u k : Nat} (hu : u < tN t) (hk : k < 3) {z : Int64} (hz : ∀ v, v < tN t → bt6 z v = wok t u v) : ∀ (fu i : Nat), i ≤ tN t → tN t - i < fu → g_X0_drawTarget_30 fu N (nI u) (nI k) z (nI (fb_sm (wgt t k u) i)) (nI i) = (if (1 : Int32) ≤ nI (fb_sm (wgt t k u) (tN t)) then (f_X0_draw N (nI (fb_sm (wgt t k u) (tN t)))).bind (fun z2 => g_X0_drawTarget_97 FU z2.2 (nI u) (nI k) z z2.1 (0 : Int32) (0 : Int32)) else some ((-9 : Int32), N)) := by
  intro fu
  have h49 := n49 ok
  induction fu with
  | zero => intro i h1 h2; omega
  | succ fu ih =>
    intro i h1 h2
    rw [g_X0_drawTarget_30, n_nodes hr, Option.bind_some]
    by_cases hi : tN t ≤ i
    · have : i = tN t := by omega
      subst this
      rw [if_pos (nI_le hi (by omega))]
    · have hi2 : i < tN t := by omega
      rw [if_neg (fun h => hi ((nI_leI (by omega) (by omega)).mp h)), isIn_ok _ (by omega), Option.bind_some, hz i hi2]
      have e := ih (i + 1) (by omega) (by omega)
      rw [fb_sm_succ] at e
      cases hb : wok t u i with
      | false =>
        rw [show wgt t k u i = 0 by unfold wgt; rw [if_neg (by rw [hb]; decide)]] at e
        rw [if_neg (show ¬ (false = true) by decide), if_pos z00, nI_1, show (0 : Int32) = nI 0 from rfl, nI_add]
        exact e
      | true =>
        have hne : u ≠ i := by
          intro e
          unfold wok at hb
          simp [e] at hb
        have := far_le ok hu hi2
        rw [show wgt t k u i = wt k (far t u i) by unfold wgt; rw [if_pos hb]] at e
        rw [if_pos rfl, if_neg n10, n_spacing hr ok hu hi2, Option.bind_some, n_wt _ (by omega) (far_pos ok hu hi2 hne) k hk, Option.bind_some, nI_1, nI_add]
        exact e
theorem n_d97 {N : NS} {t : NT} (hr : repN N t) (ok : NetOK t) {u k : Nat} (hu : u < tN t) (hk : k < 3) {z : Int64} (hz : ∀ v, v < tN t → bt6 z v = wok t u v) {d v : Nat} (hd : d < 2 ^ 31) (hv : v < tN t) (hv1 : fb_sm (wgt t k u) v ≤ d) (hv2 : d < fb_sm (wgt t k u) (v + 1)) (hb31 : fb_sm (wgt t k u) (v + 1) < 2 ^ 31) : ∀ (fu i : Nat), i ≤ v → v - i < fu → g_X0_drawTarget_97 fu N (nI u) (nI k) z (nI d) (nI (fb_sm (wgt t k u) i)) (nI i) = some (nI v, N) := by
  intro fu
  have h49 := n49 ok
  induction fu with
  | zero => intro i h1 h2; omega
  | succ fu ih =>
    intro i h1 h2
    have hi2 : i < tN t := by omega
    have hmono : fb_sm (wgt t k u) (i + 1) ≤ fb_sm (wgt t k u) (v + 1) := by
      have := fb_sm_mono (wgt t k u) (i + 1) (v - i)
      rw [show i + 1 + (v - i) = v + 1 by omega] at this
      exact this
    have hnext : i ≠ v → fb_sm (wgt t k u) (i + 1) ≤ d := by
      intro hne
      have := fb_sm_mono (wgt t k u) (i + 1) (v - (i + 1))
      rw [show i + 1 + (v - (i + 1)) = v by omega] at this
      omega
    rw [g_X0_drawTarget_97, n_nodes hr, Option.bind_some, if_neg (fun h => by have := (nI_leI (by omega) (by omega)).mp h; omega), isIn_ok _ (by omega), Option.bind_some, hz i hi2]
    have es := fb_sm_succ (wgt t k u) i
    cases hb : wok t u i with
    | false =>
      have hw : wgt t k u i = 0 := by unfold wgt; rw [if_neg (by rw [hb]; decide)]
      have es : fb_sm (wgt t k u) (i + 1) = fb_sm (wgt t k u) i := by omega
      have hiv : i ≠ v := by
        intro e
        subst e
        omega
      have e := ih (i + 1) (by omega) (by omega)
      have hn := hnext hiv
      rw [es] at hn e
      rw [if_neg (show ¬ (false = true) by decide), if_pos z00, nI_1, show (0 : Int32) = nI 0 from rfl, nI_add, Nat.add_zero, if_pos (nI_le hn hd)]
      exact e
    | true =>
      have hne : u ≠ i := by
        intro e
        unfold wok at hb
        simp [e] at hb
      have hw : wgt t k u i = wt k (far t u i) := by unfold wgt; rw [if_pos hb]
      have := far_le ok hu hi2
      rw [hw] at es
      rw [if_pos rfl, if_neg n10, n_spacing hr ok hu hi2, Option.bind_some, n_wt _ (by omega) (far_pos ok hu hi2 hne) k hk, Option.bind_some, nI_1, nI_add, ← es]
      by_cases hiv : i = v
      · subst hiv
        rw [if_neg (fun h => by have := (nI_leI (by omega) (by omega)).mp h; omega)]
      · rw [if_pos (nI_le (hnext hiv) hd)]
        exact ih (i + 1) (by omega) (by omega)
theorem m_weight {M : MS} {t : NT} (hr : repW M.1 t) (ok : NetOK t) {u v k : Nat} (hu : u < tN t) (hv : v < tN t) (hk : k < 3) : f_X3_weight M (nI u) (nI v) (nI k) = some (nI (wgt t k u v)) := by
  have h49 := n49 ok
  rw [f_X3_weight]
  unfold wgt wok
  by_cases huv : u = v
  · subst huv
    rw [if_pos rfl]
    simp
    rfl
  · have hvu : ¬ v = u := fun e => huv e.symm
    rw [if_neg (fun h => huv ((nI_eq (by omega) (by omega)).mp h)), m_isPresent hr ok hv, Option.bind_some]
    cases hp : tR t v with
    | false => simp; rfl
    | true =>
      rw [if_pos rfl, if_neg n10, m_isContact hr ok hu hv, Option.bind_some]
      cases hc : con t u v with
      | true => rw [if_pos rfl, if_neg n10]; simp; rfl
      | false =>
        have := far_le ok hu hv
        rw [if_neg (show ¬ (false = true) by decide), if_pos z00, m_far hr ok hu hv, Option.bind_some, m_wt _ (by omega) (far_pos ok hu hv huv) k hk]
        simp [hvu]
theorem m_d39 {M : MS} {t : NT} (hr : repW M.1 t) (ok : NetOK t) {u k : Nat} (hu : u < tN t) (hk : k < 3) : ∀ (fu i : Nat), i ≤ tN t → tN t - i < fu → g_X3_drawLink_39 fu M (nI u) (nI k) (nI (fb_sm (wgt t k u) i)) (nI i) = (if nI (fb_sm (wgt t k u) (tN t)) = 0 then some ((-9 : Int32), M) else (f_X3_draw M (nI (fb_sm (wgt t k u) (tN t)))).bind (fun z2 => g_X3_drawLink_82 FU z2.2 (nI u) (nI k) z2.1 (0 : Int32))) := by
  intro fu
  have h49 := n49 ok
  induction fu with
  | zero => intro i h1 h2; omega
  | succ fu ih =>
    intro i h1 h2
    rw [g_X3_drawLink_39, m_nodes hr, Option.bind_some]
    by_cases hi : tN t ≤ i
    · have : i = tN t := by omega
      subst this
      rw [if_pos (nI_le hi (by omega))]
    · have hi2 : i < tN t := by omega
      rw [if_neg (fun h => hi ((nI_leI (by omega) (by omega)).mp h)), m_weight hr ok hu hi2 hk, Option.bind_some, nI_add, nI_1]
      have e := ih (i + 1) (by omega) (by omega)
      rw [fb_sm_succ] at e
      exact e
theorem m_d82 {M : MS} {t : NT} (hr : repW M.1 t) (ok : NetOK t) {u k : Nat} (hu : u < tN t) (hk : k < 3) {d v : Nat} (hd : d < 2 ^ 31) (hv : v < tN t) (hv1 : fb_sm (wgt t k u) v ≤ d) (hv2 : d < fb_sm (wgt t k u) (v + 1)) (hb31 : fb_sm (wgt t k u) (v + 1) < 2 ^ 31) : ∀ (fu i : Nat), i ≤ v → v - i < fu → g_X3_drawLink_82 fu M (nI u) (nI k) (nI (d - fb_sm (wgt t k u) i)) (nI i) = (f_X3_give M (nI u) (nI v)).bind (fun z2 => some (nI v, z2)) := by
  intro fu
  have h49 := n49 ok
  induction fu with
  | zero => intro i h1 h2; omega
  | succ fu ih =>
    intro i h1 h2
    have hi2 : i < tN t := by omega
    have hw := wgt_le ok (k := k) hk hu hi2
    have es := fb_sm_succ (wgt t k u) i
    have hi3 : fb_sm (wgt t k u) i ≤ d := by
      have := fb_sm_mono (wgt t k u) i (v - i)
      rw [show i + (v - i) = v by omega] at this
      omega
    rw [g_X3_drawLink_82, m_weight hr ok hu hi2 hk, Option.bind_some]
    by_cases hiv : i = v
    · subst hiv
      rw [if_pos (nI_lt (by omega) (by omega))]
    · have := fb_sm_mono (wgt t k u) (i + 1) (v - (i + 1))
      rw [show i + 1 + (v - (i + 1)) = v by omega] at this
      rw [if_neg (fun h => by rw [Int32.lt_iff_toInt_lt, nI_toInt (by omega), nI_toInt (by omega)] at h; omega), Option.bind_some, pk_sub (by omega), nI_1]
      have e := ih (i + 1) (by omega) (by omega)
      rw [es, Nat.sub_add_eq] at e
      exact e
theorem seed_ok {t : NT} (ok : NetOK t) {s : Nat} (hs : s < 2 ^ 31) : NetOK (tSetG t 3 s) := by
  obtain ⟨q1, q2, q3, q4, q5, q6, q7, q8, q9⟩ := ok
  refine ⟨q1, q2, q3, q4, q5, ?_, ?_, ?_, ?_⟩
  · show 1 ≤ (if 3 = 0 then s else tLim t) ∧ (if 3 = 0 then s else tLim t) ≤ 3
    rw [if_neg (by decide)]
    exact q6
  · show (if 3 = 1 then s else tRule t) ≤ 3
    rw [if_neg (by decide)]
    exact q7
  · show 1 ≤ (if 3 = 2 then s else tCha t) ∧ (if 3 = 2 then s else tCha t) ≤ 9
    rw [if_neg (by decide)]
    exact q8
  · show (if 3 = 3 then s else tSeed t) < 2 ^ 31 ∧ ∃ u, u < tN t ∧ tR t u = true
    rw [if_pos rfl]
    exact ⟨hs, q9.2⟩
theorem sm_pick (f : Nat → Nat) {n d : Nat} (h : d < fb_sm f n) : ∃ v, v < n ∧ fb_sm f v ≤ d ∧ d < fb_sm f (v + 1) := by
  induction n with
  | zero => exact absurd h (Nat.not_lt_zero _)
  | succ n ih =>
    by_cases hn : d < fb_sm f n
    · obtain ⟨v, a, b, c⟩ := ih hn
      exact ⟨v, by omega, b, c⟩
    · exact ⟨n, by omega, by omega, h⟩
theorem st_drawLink {V : HS} {N : NS} (S : SS) {M : MS} (h : Rel V N M) (a1 a2 : Int32) : ∃ (r : Int32) (V' : HS) (N' : NS) (M' : MS), f_X2_drawLink V N S a1 a2 = some (r, V', N') ∧ f_X3_drawLink M a1 a2 = some (r, M') ∧ Rel V' N' M' := by
  have h' := h
  obtain ⟨⟨t, ok, rN, rW⟩, hH⟩ := h
  have h49 := n49 ok
  rw [f_X2_drawLink, f_X3_drawLink]
  rcases isU_or t ok a1 with ⟨u, hu, rfl⟩ | hn
  · rw [m_isNode_t rW ok hu, Option.bind_some, if_neg n10, n_holds_t rN ok hu, Option.bind_some, if_neg n10]
    rcases rng a2 (a := 0) (b := 2) (by omega) with ⟨k, hk0, hk2, rfl⟩ | hno
    · rw [show f_X3_isIn (nI k) 0 2 = some 1 from isIn_t (a := 0) (b := 2) (by omega) (by omega) (by rw [nI_toInt (by omega)]; omega), Option.bind_some, if_neg n10, if_neg (nI_pos (by omega)), if_pos (show nI k ≤ 2 from nI_le (b := 2) hk2 (by omega))]
      cases hp : tR t u with
      | false =>
        rw [m_pres_f rW ok hu hp, Option.bind_some, if_pos z00, n_pres_f rN ok hu hp, Option.bind_some, if_pos z00]
        exact ⟨_, _, _, _, rfl, rfl, h'⟩
      | true =>
        obtain ⟨V', p', x', e1, e2, e3⟩ := rec_ok S h'
        rw [m_pres_t rW ok hu hp, Option.bind_some, if_neg n10, n_pres_t rN ok hu hp, Option.bind_some, if_neg n10, e1, Option.bind_some, e2, Option.bind_some]
        have hS : fb_sm (wgt t k u) (tN t) ≤ tN t * 3600 := fb_sm_bound (fun v hv => wgt_le ok (by omega) hu hv)
        obtain ⟨z, z1, z2⟩ := n_dset rN ok hu
        rw [f_X0_drawTarget, z1]
        have a1 := n_d30 rN ok hu (k := k) (by omega) z2 FU 0 (by omega) (by unfold FU; omega)
        have a2 := m_d39 (M := (M.1, p', x', M.2.2.2)) rW ok hu (k := k) (by omega) FU 0 (by omega) (by unfold FU; omega)
        have a1' : g_X0_drawTarget_30 FU N (nI u) (nI k) z 0 0 = _ := a1
        have a2' : g_X3_drawLink_39 FU (M.1, p', x', M.2.2.2) (nI u) (nI k) 0 0 = _ := a2
        rw [a1', a2']
        generalize hSS : fb_sm (wgt t k u) (tN t) = SS at *
        by_cases hz : SS = 0
        · rw [hz, if_pos (show nI 0 = 0 from rfl), if_neg (by decide), Option.bind_some, if_pos rfl]
          exact ⟨_, _, _, _, rfl, rfl, ⟨_, ok, rN, rW⟩, e3⟩
        · obtain ⟨N1, n1, n2⟩ := n_draw rN ok (k := SS) (by omega) (by omega)
          obtain ⟨w1, m1, m2⟩ := m_draw (M := (M.1, p', x', M.2.2.2)) rW ok (k := SS) (by omega) (by omega)
          have hd : drw (tSeed t) SS < SS := Nat.mod_lt _ (by omega)
          generalize drw (tSeed t) SS = d at *
          obtain ⟨v, hv, hv1, hv2⟩ := sm_pick (wgt t k u) (n := tN t) (d := d) (by rw [hSS]; exact hd)
          have hv3 : fb_sm (wgt t k u) (v + 1) ≤ SS := by
            have := fb_sm_mono (wgt t k u) (v + 1) (tN t - (v + 1))
            rw [show v + 1 + (tN t - (v + 1)) = tN t by omega, hSS] at this
            exact this
          have ok1 := seed_ok ok (nxt_lt (tSeed t))
          generalize nxt (tSeed t) = sd at *
          have hwv : wok t u v = true := by
            cases hb : wok t u v with
            | true => rfl
            | false =>
              have : wgt t k u v = 0 := by unfold wgt; rw [if_neg (by rw [hb]; decide)]
              have := fb_sm_succ (wgt t k u) v
              omega
          have hpv : tR t v = true := by
            unfold wok at hwv
            rw [Bool.and_eq_true] at hwv
            exact hwv.1
          have hv31 : fb_sm (wgt t k u) (v + 1) < 2 ^ 31 := by omega
          have b1 := n_d97 n2 ok1 (u := u) (k := k) hu (by omega) z2 (d := d) (v := v) (by omega) hv hv1 hv2 hv31 FU 0 (by omega) (by unfold FU; omega)
          have b2 := m_d82 (M := (w1, p', x', M.2.2.2)) m2 ok1 (u := u) (k := k) hu (by omega) (d := d) (v := v) (by omega) hv hv1 hv2 hv31 FU 0 (by omega) (by unfold FU; omega)
          have b1' : g_X0_drawTarget_97 FU N1 (nI u) (nI k) z (nI d) 0 0 = some (nI v, N1) := b1
          have b2' : g_X3_drawLink_82 FU (w1, p', x', M.2.2.2) (nI u) (nI k) (nI d) 0 = (f_X3_give (w1, p', x', M.2.2.2) (nI u) (nI v)).bind (fun z2 => some (nI v, z2)) := b2
          obtain ⟨N2, n3, n4⟩ := n_give n2 ok1 (u := u) (x := v) hu hv
          obtain ⟨w2, m3, m4⟩ := m_give (M := (w1, p', x', M.2.2.2)) m2 ok1 (u := u) (x := v) hu hv
          have ok2 := give_ok ok1 (u := u) (x := v) hu hv hp hpv
          have hv9 : ¬ nI v = -9 := by
            intro e
            have := nI_pos (n := v) (by omega)
            rw [e] at this
            exact this (by decide)
          rw [if_pos (show (1 : Int32) ≤ nI SS from nI_le (a := 1) (by omega) (by omega)), if_neg (show ¬ nI SS = 0 from fun h => hz ((nI_eq (b := 0) (by omega) (by omega)).mp h)), n1, Option.bind_some, m1, Option.bind_some]
          dsimp only
          rw [b1', b2', Option.bind_some, if_neg hv9, n3, Option.bind_some, m3, Option.bind_some]
          exact ⟨_, _, _, _, rfl, rfl, ⟨_, ok2, n4, m4⟩, e3⟩
    · rw [show f_X3_isIn a2 0 2 = some 0 from isIn_f (a := 0) (b := 2) (by omega) (by omega) hno, Option.bind_some, if_pos z00]
      by_cases h0 : a2 < 0
      · rw [if_pos h0]
        exact ⟨_, _, _, _, rfl, rfl, h'⟩
      · rw [if_neg h0, if_neg]
        · exact ⟨_, _, _, _, rfl, rfl, h'⟩
        · intro hle
          apply hno
          rw [Int32.lt_iff_toInt_lt] at h0
          rw [Int32.le_iff_toInt_le] at hle
          have c0 : (0 : Int32).toInt = 0 := rfl
          have c2 : (2 : Int32).toInt = 2 := rfl
          omega
  · rw [m_isNode_f rW ok hn, Option.bind_some, if_pos z00, n_holds_f rN ok hn, Option.bind_some, if_pos z00]
    exact ⟨_, _, _, _, rfl, rfl, h'⟩
