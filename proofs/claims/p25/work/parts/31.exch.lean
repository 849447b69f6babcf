/-! ===== exchange ===== -/
def tSwap (t : NT) (u v : Nat) : NT := (tW t, tH t, (fun x => if x = u then tP t v else if x = v then tP t u else tP t x), (fun p => if p = tP t v then u else if p = tP t u then v else tD t p), tR t, tL t, tLim t, tRule t, tCha t, tSeed t)
theorem P_inj {t : NT} (ok : NetOK t) {u v : Nat} (hu : u < tN t) (hv : v < tN t) (e : tP t u = tP t v) : u = v := by
  rw [← (ok.2.1 u hu).2, e, (ok.2.1 v hv).2]
theorem swap_ok {t : NT} (ok : NetOK t) {u v : Nat} (hu : u < tN t) (hv : v < tN t) (huv : u ≠ v) : NetOK (tSwap t u v) := by
  have hP : tP t u ≠ tP t v := fun e => huv (P_inj ok hu hv e)
  obtain ⟨o1, o2, o3, o4, o5⟩ := ok
  refine ⟨o1, ?_, ?_, o4, o5⟩
  · intro x hx
    show (if x = u then tP t v else if x = v then tP t u else tP t x) < tN t ∧ (if (if x = u then tP t v else if x = v then tP t u else tP t x) = tP t v then u else if (if x = u then tP t v else if x = v then tP t u else tP t x) = tP t u then v else tD t (if x = u then tP t v else if x = v then tP t u else tP t x)) = x
    by_cases h1 : x = u
    · rw [if_pos h1, if_pos rfl]
      exact ⟨(o2 v hv).1, h1.symm⟩
    · rw [if_neg h1]
      by_cases h2 : x = v
      · rw [if_pos h2, if_neg hP, if_pos rfl]
        exact ⟨(o2 u hu).1, h2.symm⟩
      · rw [if_neg h2]
        have a1 : tP t x ≠ tP t v := fun e => h2 (by rw [← (o2 x hx).2, e, (o2 v hv).2])
        have a2 : tP t x ≠ tP t u := fun e => h1 (by rw [← (o2 x hx).2, e, (o2 u hu).2])
        rw [if_neg a1, if_neg a2]
        exact o2 x hx
  · intro p hp
    show (if p = tP t v then u else if p = tP t u then v else tD t p) < tN t ∧ (if (if p = tP t v then u else if p = tP t u then v else tD t p) = u then tP t v else if (if p = tP t v then u else if p = tP t u then v else tD t p) = v then tP t u else tP t (if p = tP t v then u else if p = tP t u then v else tD t p)) = p
    by_cases h1 : p = tP t v
    · rw [if_pos h1, if_pos rfl]
      exact ⟨hu, h1.symm⟩
    · rw [if_neg h1]
      by_cases h2 : p = tP t u
      · rw [if_pos h2, if_neg (fun e => huv e.symm), if_pos rfl]
        exact ⟨hv, h2.symm⟩
      · rw [if_neg h2]
        have a1 : tD t p ≠ u := fun e => h2 (by rw [← e, (o3 p hp).2])
        have a2 : tD t p ≠ v := fun e => h1 (by rw [← e, (o3 p hp).2])
        rw [if_neg a1, if_neg a2]
        exact o3 p hp
theorem n_swap {N : NS} {t : NT} (hr : repN N t) (ok : NetOK t) {u v : Nat} (hu : u < tN t) (hv : v < tN t) (huv : u ≠ v) : ∃ N', f_X0_swapPlaces N (nI u) (nI v) = some N' ∧ repN N' (tSwap t u v) := by
  have h49 := n49 ok
  have hP : tP t u ≠ tP t v := fun e => huv (P_inj ok hu hv e)
  obtain ⟨r1, r2, r3, r4, r5, r6, r7⟩ := hr
  have pu := (ok.2.1 u hu).1
  have pv := (ok.2.1 v hv).1
  have mu := Nat.div_add_mod' (tP t u) (tW t)
  have mv := Nat.div_add_mod' (tP t v) (tW t)
  rw [f_X0_swapPlaces, valueAt_in (by omega) (by omega), Option.bind_some, valueAt_in (by omega) (by omega), Option.bind_some, valueAt_in (by omega) (by omega), Option.bind_some, valueAt_in (by omega) (by omega), Option.bind_some, (r4 u hu).1, (r4 u hu).2, (r4 v hv).1, (r4 v hv).2]
  rw [settle_ok r1 (by omega) (by omega), Option.bind_some]
  have e2 : ∀ {N1 : NS}, N1.1 = nI (tW t) → f_X0_settle N1 (nI v) (nI (tP t u % tW t)) (nI (tP t u / tW t)) = some (N1.1, N1.2.1, N1.2.2.1, upd N1.2.2.2.1 v (nI (tP t u % tW t)), upd N1.2.2.2.2.1 v (nI (tP t u / tW t)), upd N1.2.2.2.2.2.1 (tP t u / tW t * tW t + tP t u % tW t) (nI v), N1.2.2.2.2.2.2.1, N1.2.2.2.2.2.2.2.1, N1.2.2.2.2.2.2.2.2) := fun h => settle_ok h (by omega) (by omega)
  rw [e2 (by exact r1), Option.bind_some]
  refine ⟨_, rfl, r1, r2, r3, ?_, ?_, r6, r7⟩
  · intro x hx
    show upd (upd N.2.2.2.1 u _) v _ x = nI ((if x = u then tP t v else if x = v then tP t u else tP t x) % tW t) ∧ upd (upd N.2.2.2.2.1 u _) v _ x = nI ((if x = u then tP t v else if x = v then tP t u else tP t x) / tW t)
    unfold upd
    by_cases h2 : x = v
    · have h1 : ¬ x = u := fun e => huv (e.symm.trans h2)
      rw [if_pos h2, if_pos h2, if_neg h1, if_pos h2]
      exact ⟨rfl, rfl⟩
    · rw [if_neg h2, if_neg h2, if_neg h2]
      by_cases h1 : x = u
      · rw [if_pos h1, if_pos h1, if_pos h1]
        exact ⟨rfl, rfl⟩
      · rw [if_neg h1, if_neg h1, if_neg h1]
        exact r4 x hx
  · intro p hp
    show upd (upd N.2.2.2.2.2.1 (tP t v / tW t * tW t + tP t v % tW t) (nI u)) (tP t u / tW t * tW t + tP t u % tW t) (nI v) p = nI (if p = tP t v then u else if p = tP t u then v else tD t p)
    rw [mu, mv]
    unfold upd
    by_cases h1 : p = tP t u
    · rw [if_pos h1, if_neg (fun e => hP (h1.symm.trans e)), if_pos h1]
    · rw [if_neg h1, if_neg h1]
      by_cases h2 : p = tP t v
      · rw [if_pos h2, if_pos h2]
      · rw [if_neg h2, if_neg h2]
        exact r5 p hp
theorem m_swap {M : MS} {t : NT} (hr : repW M.1 t) (ok : NetOK t) {u v : Nat} (hu : u < tN t) (hv : v < tN t) : ∃ w', f_X3_swap M (nI u) (nI v) = some (w', M.2) ∧ repW w' (tSwap t u v) := by
  have h49 := n49 ok
  obtain ⟨r1, r2, r3, r4, r5, r6, r7⟩ := hr
  rw [f_X3_swap, show (6 : Int32) = nI 6 from rfl, nI_add, nI_add, nI_clamp (by omega), nI_clamp (by omega)]
  rw [gd_t (inB_nI (by omega) (by omega))]
  simp only [bindv]
  rw [gd_t (inB_nI (by omega) (by omega)), gd_t (inB_nI (by omega) (by omega)), gd_t (inB_nI (by omega) (by omega))]
  have hx : ∀ j, (j < 6 ∨ 55 ≤ j) → upd (upd M.1 (6 + u) (M.1 (6 + v))) (6 + v) (M.1 (6 + u)) j = M.1 j := by
    intro j hj
    unfold upd
    rw [if_neg (by omega), if_neg (by omega)]
  refine ⟨_, rfl, (hx 0 (by omega)).trans r1, (hx 1 (by omega)).trans r2, (hx 2 (by omega)).trans r3, (hx 3 (by omega)).trans r4, (hx 4 (by omega)).trans r5, (hx 5 (by omega)).trans r6, ?_⟩
  intro x hx2
  obtain ⟨q1, q2, q3, q4⟩ := r7 x hx2
  refine ⟨?_, (hx _ (by omega)).trans q2, (hx _ (by omega)).trans q3, fun k hk => (hx _ (by omega)).trans (q4 k hk)⟩
  show upd (upd M.1 (6 + u) (M.1 (6 + v))) (6 + v) (M.1 (6 + u)) (6 + x) = nI (if x = u then tP t v else if x = v then tP t u else tP t x)
  unfold upd
  by_cases h2 : x = v
  · rw [if_pos (by omega), (r7 u hu).1]
    by_cases h1 : x = u
    · rw [if_pos h1, ← h1, ← h2]
    · rw [if_neg h1, if_pos h2]
  · rw [if_neg (by omega)]
    by_cases h1 : x = u
    · rw [if_pos (by omega), if_pos h1, (r7 v hv).1]
    · rw [if_neg (by omega), if_neg h1, if_neg h2]
      exact q1
theorem tLen_lt {t : NT} (ok : NetOK t) : tLen t < 2 ^ 20 := by
  have h49 := n49 ok
  have h1 : ∀ u, u < tN t → lenU t u ≤ 36 := by
    intro u hu
    have h3 := ok.2.2.2.1 u hu
    have := fb_sm_bound (f := fun k => far t u ((tL t u).getD k 0)) (c := 12) (n := (tL t u).length) (fun k hk => far_le ok hu (h3.2.2 _ (getD_lt hk)).1)
    unfold lenU
    omega
  have := fb_sm_bound (f := lenU t) (c := 36) (n := tN t) h1
  unfold tLen
  omega
theorem st_exchange {V : HS} {N : NS} (S : SS) {M : MS} (h : Rel V N M) (a1 a2 : Int32) : ∃ (r : Int32) (V' : HS) (N' : NS) (M' : MS), f_X2_exchange V N S a1 a2 = some (r, V', N') ∧ f_X3_exchange M a1 a2 = some (r, M') ∧ Rel V' N' M' := by
  have h' := h
  obtain ⟨⟨t, ok, rN, rW⟩, hH⟩ := h
  have h49 := n49 ok
  rw [f_X2_exchange, f_X2_faultOfOthers, f_X3_exchange]
  rcases isU_or t ok a1 with ⟨u, hu, rfl⟩ | hn
  · rw [m_isNode_t rW ok hu, Option.bind_some, if_neg n10]
    rcases isU_or t ok a2 with ⟨v, hv, rfl⟩ | hn
    · rw [m_isNode_t rW ok hv, Option.bind_some, if_neg n10]
      by_cases huv : nI u = nI v
      · rw [if_pos huv, if_pos huv, Option.bind_some, if_neg nm10]
        exact ⟨_, _, _, _, rfl, rfl, h'⟩
      · rw [if_neg huv, if_neg huv]
        have huv' : u ≠ v := fun e => huv (by rw [e])
        cases hp1 : tR t u with
        | false =>
          rw [n_pair_f rN ok hu hv (Or.inl hp1), Option.bind_some, Option.bind_some, if_neg nm20, m_pres_f rW ok hu hp1, Option.bind_some, if_pos z00]
          exact ⟨_, _, _, _, rfl, rfl, h'⟩
        | true =>
          rw [m_pres_t rW ok hu hp1, Option.bind_some, if_neg n10]
          cases hp2 : tR t v with
          | false =>
            rw [n_pair_f rN ok hu hv (Or.inr hp2), Option.bind_some, Option.bind_some, if_neg nm20, m_pres_f rW ok hv hp2, Option.bind_some, if_pos z00]
            exact ⟨_, _, _, _, rfl, rfl, h'⟩
          | true =>
            obtain ⟨V', p', x', e1, e2, e3⟩ := rec_ok S h'
            obtain ⟨N1, n1, n2⟩ := n_swap rN ok hu hv huv'
            obtain ⟨w1, m1, m2⟩ := m_swap (M := (M.1, p', x', M.2.2.2)) rW ok hu hv
            have ok2 := swap_ok ok hu hv huv'
            have hu2 : u < tN (tSwap t u v) := hu
            have hv2 : v < tN (tSwap t u v) := hv
            obtain ⟨N2, n3, n4⟩ := n_swap n2 ok2 hu2 hv2 huv'
            obtain ⟨w2, m3, m4⟩ := m_swap (M := (w1, p', x', M.2.2.2)) m2 ok2 hu2 hv2
            have ok3 := swap_ok ok2 hu2 hv2 huv'
            have l1 := tLen_lt ok
            have l2 := tLen_lt ok2
            rw [n_pair_t rN ok hu hv hp1 hp2, Option.bind_some, Option.bind_some, if_pos z00, e1, Option.bind_some, n_len rN ok, Option.bind_some, n1, Option.bind_some, n_len n2 ok2, Option.bind_some, m_pres_t rW ok hv hp2, Option.bind_some, if_neg n10, e2, Option.bind_some, m_len (M := (M.1, p', x', M.2.2.2)) rW ok, Option.bind_some, m1, Option.bind_some, m_len (M := (w1, p', x', M.2.2.2)) m2 ok2, Option.bind_some]
            by_cases hc : tLen t < tLen (tSwap t u v)
            · rw [if_pos (nI_lt hc (by omega)), if_neg (fun h => by have := (nI_leI (by omega) (by omega)).mp h; omega), n3, Option.bind_some, m3, Option.bind_some]
              exact ⟨_, _, _, _, rfl, rfl, ⟨_, ok3, n4, m4⟩, e3⟩
            · rw [if_neg (fun h => by rw [Int32.lt_iff_toInt_lt, nI_toInt (by omega), nI_toInt (by omega)] at h; omega), if_pos (nI_le (by omega) (by omega))]
              exact ⟨_, _, _, _, rfl, rfl, ⟨_, ok2, n2, m2⟩, e3⟩
    · have huv : ¬ nI u = a2 := fun e => hn ⟨u, hu, e.symm⟩
      rw [if_neg huv, n_pair2 rN ok hu hn, Option.bind_some, Option.bind_some, if_neg nm10, m_isNode_f rW ok hn, Option.bind_some, if_pos z00]
      exact ⟨_, _, _, _, rfl, rfl, h'⟩
  · rw [m_isNode_f rW ok hn, Option.bind_some, if_pos z00]
    by_cases huv : a1 = a2
    · rw [if_pos huv, Option.bind_some, if_neg nm10]
      exact ⟨_, _, _, _, rfl, rfl, h'⟩
    · rw [if_neg huv, n_pair1 rN ok hn, Option.bind_some, Option.bind_some, if_neg nm10]
      exact ⟨_, _, _, _, rfl, rfl, h'⟩
