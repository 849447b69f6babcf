theorem gq_pres {t : NT} (ok : NetOK t) {s : Nat} (hs : s < tN t) (hp : tR t s = true) {i m j : Nat} (h : gq (rad t) s i m = some j) : i < tN t ∧ tR t i = true := by
  have h2 := (gq_some.mp h).2.1
  cases j with
  | zero =>
    rw [GW_0] at h2
    by_cases e : i = s
    · rw [e]; exact ⟨hs, hp⟩
    · rw [if_neg e] at h2; exact absurd h2 (Nat.lt_irrefl _)
  | succ j =>
    obtain ⟨v, -, v2, -⟩ := GW_pos.mp h2
    have := adj_lt ok (u := v) (v := i) v2
    exact ⟨this.2.1, this.2.2.2.1⟩
theorem m_w72_no {t : NT} (ok : NetOK t) {s k i : Nat} (hk : k < 49) (hi : i < tN t) (hgi : gq (rad t) s i (k + 1) ≠ some k) {K51 : MS → Int32 → Int32 → Option MS} {K60 : MS → Int32 → Int32 → Int32 → Option MS} (fu : Nat) (M : MS) (x : Int32) (hr : repW M.1 t) (hs : ST (rad t) s k i 0 M.2.2.2.2.2.2.2.2.1 M.2.2.2.2.2.2.2.2.2.1) (hf : FL (rad t) s k i 0 x) : g_X3_layWays_72 K51 K60 (fu + 1) M x (nI k) (nI i) 0 = K60 M x (nI k) (nI (i + 1)) ∧ ST (rad t) s k (i + 1) 0 M.2.2.2.2.2.2.2.2.1 M.2.2.2.2.2.2.2.2.2.1 ∧ FL (rad t) s k (i + 1) 0 x := by
  have h49 := n49 ok
  have e : ∀ v, v < 49 → cs (rad t) s k (i + 1) 0 v = cs (rad t) s k i 0 v := by
    intro v _
    unfold cs
    rw [if_neg (Nat.not_lt_zero _), if_neg (Nat.not_lt_zero _), fb_sm_succ]
    have : pin (rad t) s k v i = 0 := by
      unfold pin
      rw [if_neg (show ¬ gq (rad t) s i 49 = some k from fun h => hgi (gq_some.mpr ⟨by omega, (gq_some.mp h).2⟩))]
      cases rad t v i <;> rfl
    rw [this, Nat.add_zero]
  refine ⟨?_, ST_cong e hs, FL_cong e hf⟩
  rw [g_X3_layWays_72, m_nodes hr, Option.bind_some, if_neg (show ¬ nI (tN t) ≤ 0 from fun h => by have := (nI_leI (b := 0) (by omega) (by omega)).mp h; omega), gd_t (inB_nI (by omega) (by omega)), nI_clamp (by omega)]
  cases hg : gq (rad t) s i (k + 1) with
  | some m =>
    have hm := (gq_some.mp hg).1
    rw [((hs i (by omega)).1 m hg).1, if_neg (fun h => by
      have := (nI_eq (by omega) (by omega)).mp h
      rw [this] at hg
      exact hgi hg), nI_1]
  | none =>
    rw [((hs i (by omega)).2 hg).1]
    by_cases h0 : 0 < cs (rad t) s k i 0 i
    · rw [if_pos h0, if_neg (fun h => by have := (nI_eq (by omega) (by omega)).mp h; omega), nI_1]
    · rw [if_neg h0, if_neg (fun h => nI_n9 (by omega) h.symm), nI_1]
theorem m_w60 {t : NT} (ok : NetOK t) {s k : Nat} (hk : k < 49) (hs0 : s < tN t) (hp0 : tR t s = true) {K51 : MS → Int32 → Int32 → Option MS} : ∀ (fu i : Nat) (M : MS) (x : Int32), i ≤ tN t → tN t - i < fu → repW M.1 t → ST (rad t) s k i 0 M.2.2.2.2.2.2.2.2.1 M.2.2.2.2.2.2.2.2.2.1 → FL (rad t) s k i 0 x → ∃ w9 w10 x', g_X3_layWays_60 K51 fu M x (nI k) (nI i) = K51 (mW M w9 w10) x' (nI (k + 1)) ∧ ST (rad t) s k (tN t) 0 w9 w10 ∧ FL (rad t) s k (tN t) 0 x' := by
  intro fu
  have h49 := n49 ok
  induction fu with
  | zero => intro i M x h1 h2; omega
  | succ fu ih =>
    intro i M x h1 h2 hr hs hf
    rw [g_X3_layWays_60, m_nodes hr, Option.bind_some]
    by_cases hi : tN t ≤ i
    · have : i = tN t := by omega
      subst this
      rw [if_pos (nI_le hi (by omega)), nI_1]
      exact ⟨_, _, x, rfl, hs, hf⟩
    · have hi2 : i < tN t := by omega
      rw [if_neg (fun h => by have := (nI_leI (by omega) (by omega)).mp h; omega)]
      by_cases hg : gq (rad t) s i (k + 1) = some k
      · obtain ⟨w9, w10, x', e1, e2, e3⟩ := m_w72 (K51 := K51) (K60 := fun M' x2' x3' x4' => g_X3_layWays_60 K51 fu M' x2' x3' x4') ok hk hi2 (gq_pres ok hs0 hp0 hg).2 hg FU 0 M x (by omega) (by unfold FU; omega) hr hs hf
        obtain ⟨w9', w10', x2, e4, e5, e6⟩ := ih (i + 1) (mW M w9 w10) x' (by omega) (by omega) hr e2 e3
        exact ⟨w9', w10', x2, e1.trans e4, e5, e6⟩
      · obtain ⟨e1, e2, e3⟩ := m_w72_no (K51 := K51) (K60 := fun M' x2' x3' x4' => g_X3_layWays_60 K51 fu M' x2' x3' x4') ok hk hi2 hg 4999 M x hr hs hf
        obtain ⟨w9', w10', x2, e4, e5, e6⟩ := ih (i + 1) M x (by omega) (by omega) hr e2 e3
        exact ⟨w9', w10', x2, e1.trans e4, e5, e6⟩
theorem cs_end {t : NT} (ok : NetOK t) {s k v : Nat} (hk : k < 49) (h : gq (rad t) s v (k + 1) = none) : cs (rad t) s k (tN t) 0 v = GW (rad t) s (k + 1) v := by
  have h49 := n49 ok
  rw [← pin_sum2 hk h]
  unfold cs
  rw [if_neg (Nat.not_lt_zero _), Nat.add_zero]
  have := fb_sm_split (pin (rad t) s k v) (tN t) (49 - tN t)
  rw [show tN t + (49 - tN t) = 49 by omega] at this
  have e : fb_sm (fun x => pin (rad t) s k v (tN t + x)) (49 - tN t) = fb_sm (fun _ => 0) (49 - tN t) := fb_sm_cong (fun x _ => pin_out ok (Or.inr (by omega)))
  rw [e, fb_sm_const] at this
  omega
theorem cs_00 (b : Nat → Nat → Bool) (s k v : Nat) : cs b s k 0 0 v = 0 := by
  unfold cs
  rw [if_neg (Nat.not_lt_zero _)]
  rfl
theorem m_w51 {t : NT} (ok : NetOK t) {s : Nat} (hs0 : s < tN t) (hp0 : tR t s = true) : ∀ (fu k : Nat) (M : MS) (x : Int32), k ≤ 49 → 50 - k < fu → repW M.1 t → ST (rad t) s k 0 0 M.2.2.2.2.2.2.2.2.1 M.2.2.2.2.2.2.2.2.2.1 → ((x = 1 ∧ k < 49) ∨ (x = 0 ∧ ∀ u, u < 49 → gq (rad t) s u (k + 1) = gq (rad t) s u 49)) → ∃ w9 w10, g_X3_layWays_51 fu M x (nI k) = some (mW M w9 w10) ∧ WY (-9) (rad t) s 49 w9 ∧ ∀ u, u < 49 → w10 u = nway (rad t) s u := by
  intro fu
  induction fu with
  | zero => intro k M x h1 h2; omega
  | succ fu ih =>
    intro k M x h1 h2 hr hs hx
    rw [g_X3_layWays_51]
    rcases hx with ⟨rfl, hk⟩ | ⟨rfl, hx⟩
    · rw [if_neg n10]
      obtain ⟨w9, w10, x', e1, e2, e3⟩ := m_w60 (K51 := fun M' x2' x3' => g_X3_layWays_51 fu M' x2' x3') ok hk hs0 hp0 FU 0 M 0 (by omega) (by have := n49 ok; unfold FU; omega) hr hs (Or.inl ⟨rfl, fun v _ _ => cs_00 _ _ _ _⟩)
      have stp : ST (rad t) s (k + 1) 0 0 w9 w10 := by
        intro v hv
        have hv2 := e2 v hv
        cases hg : gq (rad t) s v (k + 1) with
        | some m =>
          have hg2 := gq_keep hg (show k + 1 ≤ k + 1 + 1 by omega)
          rw [hg2]
          refine ⟨fun m' hm' => ?_, fun h => (by cases h)⟩
          injection hm' with hm'
          rw [← hm']
          exact hv2.1 m hg
        | none =>
          obtain ⟨q1, q2⟩ := hv2.2 hg
          rw [cs_end ok hk hg] at q1 q2
          rw [gq_step, hg, cs_00]
          show (∀ m, (if 0 < GW (rad t) s (k + 1) v then some (k + 1) else none) = some m → _) ∧ ((if 0 < GW (rad t) s (k + 1) v then some (k + 1) else none) = none → _)
          by_cases hp : 0 < GW (rad t) s (k + 1) v
          · rw [if_pos hp] at q1 ⊢
            refine ⟨fun m' hm' => ?_, fun h => (by cases h)⟩
            injection hm' with hm'
            rw [← hm']
            exact ⟨q1, q2⟩
          · rw [if_neg hp] at q1 ⊢
            refine ⟨fun m' hm' => (by cases hm'), fun _ => ⟨?_, ?_⟩⟩
            · rw [if_neg (Nat.lt_irrefl _)]; exact q1
            · rw [q2, show GW (rad t) s (k + 1) v = 0 by omega]
      have nxt2 : (x' = 1 ∧ k + 1 < 49) ∨ (x' = 0 ∧ ∀ u, u < 49 → gq (rad t) s u (k + 1 + 1) = gq (rad t) s u 49) := by
        rcases e3 with ⟨f1, f2⟩ | ⟨f1, v, v1, v2, v3⟩
        · refine Or.inr ⟨f1, fun u hu => ?_⟩
          have hst := gq_stop (a := rad t) (b := s) (k := k + 1) (fun u hu he => by
            obtain ⟨h3, h4, h5⟩ := gq_some.mp he
            have hn : gq (rad t) s u (k + 1) = none := gq_none.mpr (fun i hi => h5 i hi)
            have := f2 u hu hn
            rw [cs_end ok hk hn] at this
            omega)
          have q1 := hst 1 u hu
          have q2 := hst (49 - (k + 1)) u hu
          rw [show k + 1 + (49 - (k + 1)) = 49 by omega] at q2
          rw [q1, q2]
        · refine Or.inl ⟨f1, ?_⟩
          rw [cs_end ok hk v2] at v3
          have : gq (rad t) s v (k + 1 + 1) = some (k + 1) := by
            rw [gq_step, v2]
            show (if 0 < GW (rad t) s (k + 1) v then some (k + 1) else none) = _
            rw [if_pos v3]
          exact gq_lt v1 this
      obtain ⟨w9', w10', e4, e5, e6⟩ := ih (k + 1) (mW M w9 w10) x' (by omega) (by omega) hr stp nxt2
      exact ⟨w9', w10', e1.trans e4, e5, e6⟩
    · rw [if_pos z00]
      refine ⟨_, _, rfl, fun u hu => ?_, fun u hu => ?_⟩
      · have := hs u hu
        rw [hx u hu] at this
        cases hg : gq (rad t) s u 49 with
        | some m => rw [(this.1 m hg).1]; rfl
        | none => rw [(this.2 hg).1, cs_00, if_neg (Nat.lt_irrefl _)]; rfl
      · have := hs u hu
        rw [hx u hu] at this
        unfold nway
        cases hg : gq (rad t) s u 49 with
        | some m => rw [(this.1 m hg).2]
        | none => rw [(this.2 hg).2, cs_00]; rfl
theorem m_w2 {s : Nat} (hs : s < 49) : ∀ (fu i : Nat) (M : MS), i ≤ 49 → 49 - i < fu → (∀ v, v < i → M.2.2.2.2.2.2.2.2.1 v = (if v = s then 0 else -9) ∧ M.2.2.2.2.2.2.2.2.2.1 v = (if v = s then 1 else 0)) → ∃ w9 w10, g_X3_layWays_2 fu M (nI s) (nI i) = g_X3_layWays_51 FU (mW M w9 w10) 1 0 ∧ ∀ v, v < 49 → w9 v = (if v = s then 0 else -9) ∧ w10 v = (if v = s then 1 else 0) := by
  intro fu
  induction fu with
  | zero => intro i M h1 h2; omega
  | succ fu ih =>
    intro i M h1 h2 hM
    rw [g_X3_layWays_2]
    by_cases hi : 49 ≤ i
    · have : i = 49 := by omega
      subst this
      rw [if_pos (show (49 : Int32) ≤ nI 49 from nI_le (a := 49) (by omega) (by omega))]
      exact ⟨_, _, rfl, hM⟩
    · rw [if_neg (show ¬ (49 : Int32) ≤ nI i from fun h => by have := (nI_leI (a := 49) (by omega) (by omega)).mp h; omega)]
      have stp : ∀ (x : Int32) (y : Int64), x = (if i = s then 0 else -9) → y = (if i = s then 1 else 0) → ∀ v, v < i + 1 → upd M.2.2.2.2.2.2.2.2.1 i x v = (if v = s then 0 else -9) ∧ vp_updL M.2.2.2.2.2.2.2.2.2.1 i y v = (if v = s then 1 else 0) := by
        intro x y hx hy v hv
        unfold upd vp_updL
        by_cases h : v = i
        · subst h
          rw [if_pos rfl, if_pos rfl]
          exact ⟨hx, hy⟩
        · rw [if_neg h, if_neg h]
          exact hM v (by omega)
      by_cases his : i = s
      · rw [if_pos (show nI i = nI s by rw [his]), g_X3_layWays_24, gd_t (inB_nI (by omega) (by omega)), if_pos (show nI i = nI s by rw [his]), gd_t (inB_nI (by omega) (by omega)), nI_clamp (by omega), nI_1]
        obtain ⟨w9, w10, e1, e2⟩ := ih (i + 1) (mW M (upd M.2.2.2.2.2.2.2.2.1 i 0) (vp_updL M.2.2.2.2.2.2.2.2.2.1 i 1)) (by omega) (by omega) (stp 0 1 (by rw [if_pos his]) (by rw [if_pos his]))
        exact ⟨w9, w10, e1, e2⟩
      · have hne : ¬ nI i = nI s := fun h => his ((nI_eq (by omega) (by omega)).mp h)
        rw [if_neg hne, g_X3_layWays_24, gd_t (inB_nI (by omega) (by omega)), if_neg hne, gd_t (inB_nI (by omega) (by omega)), nI_clamp (by omega), nI_1]
        obtain ⟨w9, w10, e1, e2⟩ := ih (i + 1) (mW M (upd M.2.2.2.2.2.2.2.2.1 i (-9)) (vp_updL M.2.2.2.2.2.2.2.2.2.1 i 0)) (by omega) (by omega) (stp (-9) 0 (by rw [if_neg his]) (by rw [if_neg his]))
        exact ⟨w9, w10, e1, e2⟩
theorem m_ways {t : NT} (ok : NetOK t) {s : Nat} (hs : s < tN t) (hp : tR t s = true) (M : MS) (hr : repW M.1 t) : ∃ w9 w10, f_X3_layWays M (nI s) = some (mW M w9 w10) ∧ WY (-9) (rad t) s 49 w9 ∧ ∀ u, u < 49 → w10 u = nway (rad t) s u := by
  have h49 := n49 ok
  rw [f_X3_layWays]
  obtain ⟨w9, w10, e1, e2⟩ := m_w2 (s := s) (by omega) FU 0 M (by omega) (by unfold FU; omega) (fun v hv => absurd hv (Nat.not_lt_zero _))
  have hst : ST (rad t) s 0 0 0 w9 w10 := by
    intro v hv
    rw [gq_one, cs_00]
    obtain ⟨q1, q2⟩ := e2 v hv
    by_cases h : v = s
    · rw [if_pos h] at q1 q2 ⊢
      refine ⟨fun m hm => ?_, fun hn => (by cases hn)⟩
      injection hm with hm
      rw [← hm, q1, q2, GW_0, if_pos h]
      exact ⟨rfl, rfl⟩
    · rw [if_neg h] at q1 q2 ⊢
      refine ⟨fun m hm => (by cases hm), fun _ => ⟨?_, ?_⟩⟩
      · rw [q1, if_neg (Nat.lt_irrefl _)]
      · rw [q2]; rfl
  obtain ⟨w9', w10', e3, e4, e5⟩ := m_w51 ok hs hp FU 0 (mW M w9 w10) 1 (by omega) (by unfold FU; omega) hr hst (Or.inl ⟨rfl, by omega⟩)
  exact ⟨w9', w10', e1.trans e3, e4, e5⟩
