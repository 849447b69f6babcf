/-! ===== link, unlink, target, distance, set ===== -/
theorem n_pair1 {V : HS} {N : NS} {S : SS} {t : NT} (hr : repN N t) (ok : NetOK t) {x y : Int32} (h : ¬ isU t x) : f_X2_faultOfPair V N S x y = some (-1) := by
  rw [f_X2_faultOfPair, n_holds_f hr ok h, Option.bind_some, if_pos rfl]
theorem n_pair2 {V : HS} {N : NS} {S : SS} {t : NT} (hr : repN N t) (ok : NetOK t) {u : Nat} {y : Int32} (hu : u < tN t) (h : ¬ isU t y) : f_X2_faultOfPair V N S (nI u) y = some (-1) := by
  rw [f_X2_faultOfPair, n_holds_t hr ok hu, Option.bind_some, if_neg (by decide), n_holds_f hr ok h, Option.bind_some, if_pos rfl]
theorem n_pair {V : HS} {N : NS} {S : SS} {t : NT} (hr : repN N t) (ok : NetOK t) {u v : Nat} (hu : u < tN t) (hv : v < tN t) : f_X2_faultOfPair V N S (nI u) (nI v) = some (if tR t u = true ∧ tR t v = true then 0 else -2) := by
  rw [f_X2_faultOfPair, n_holds_t hr ok hu, Option.bind_some, if_neg (by decide), n_holds_t hr ok hv, Option.bind_some, if_neg (by decide), n_isPresent hr ok hu, Option.bind_some, n_isPresent hr ok hv]
  cases tR t u <;> cases tR t v <;> simp
theorem n_pair_t {V : HS} {N : NS} {S : SS} {t : NT} (hr : repN N t) (ok : NetOK t) {u v : Nat} (hu : u < tN t) (hv : v < tN t) (h1 : tR t u = true) (h2 : tR t v = true) : f_X2_faultOfPair V N S (nI u) (nI v) = some 0 := by rw [n_pair hr ok hu hv, if_pos ⟨h1, h2⟩]
theorem n_pair_f {V : HS} {N : NS} {S : SS} {t : NT} (hr : repN N t) (ok : NetOK t) {u v : Nat} (hu : u < tN t) (hv : v < tN t) (h1 : tR t u = false ∨ tR t v = false) : f_X2_faultOfPair V N S (nI u) (nI v) = some (-2) := by
  rw [n_pair hr ok hu hv, if_neg]
  rintro ⟨a, b⟩
  rcases h1 with h | h
  · rw [h] at a; cases a
  · rw [h] at b; cases b
theorem m_pres_t {M : MS} {t : NT} (hr : repW M.1 t) (ok : NetOK t) {u : Nat} (hu : u < tN t) (h : tR t u = true) : f_X3_isPresent M (nI u) = some 1 := by rw [m_isPresent hr ok hu, h]; rfl
theorem m_pres_f {M : MS} {t : NT} (hr : repW M.1 t) (ok : NetOK t) {u : Nat} (hu : u < tN t) (h : tR t u = false) : f_X3_isPresent M (nI u) = some 0 := by rw [m_isPresent hr ok hu, h]; rfl
theorem n_pres_t {N : NS} {t : NT} (hr : repN N t) (ok : NetOK t) {u : Nat} (hu : u < tN t) (h : tR t u = true) : f_X0_isPresent N (nI u) = some 1 := by rw [n_isPresent hr ok hu, h]; rfl
theorem n_pres_f {N : NS} {t : NT} (hr : repN N t) (ok : NetOK t) {u : Nat} (hu : u < tN t) (h : tR t u = false) : f_X0_isPresent N (nI u) = some 0 := by rw [n_isPresent hr ok hu, h]; rfl
theorem tGive_N (t : NT) (u x : Nat) : tN (tGive t u x) = tN t := by
  unfold tGive
  split
  · rfl
  · split
    · rfl
    · split <;> rfl
theorem n10 : ¬ (1 : Int32) = 0 := by decide
theorem nm10 : ¬ (-1 : Int32) = 0 := by decide
theorem nm20 : ¬ (-2 : Int32) = 0 := by decide
theorem z00 : (0 : Int32) = 0 := rfl
theorem st_link {V : HS} {N : NS} (S : SS) {M : MS} (h : Rel V N M) (a1 a2 : Int32) : ∃ (r : Int32) (V' : HS) (N' : NS) (M' : MS), f_X2_link V N S a1 a2 = some (r, V', N') ∧ f_X3_link M a1 a2 = some (r, M') ∧ Rel V' N' M' := by
  have h' := h
  obtain ⟨⟨t, ok, rN, rW⟩, hH⟩ := h
  have h49 := n49 ok
  rw [f_X2_link, f_X2_faultOfOthers, f_X3_link]
  rcases isU_or t ok a1 with ⟨u, hu, rfl⟩ | hn
  · rw [m_isNode_t rW ok hu, Option.bind_some, if_neg n10]
    rcases isU_or t ok a2 with ⟨v, hv, rfl⟩ | hn
    · rw [m_isNode_t rW ok hv, Option.bind_some, if_neg n10]
      by_cases huv : nI u = nI v
      · rw [if_pos huv, if_pos huv, Option.bind_some, if_neg nm10]
        exact ⟨_, _, _, _, rfl, rfl, h'⟩
      · rw [if_neg huv, if_neg huv]
        cases hp1 : tR t u with
        | false =>
          rw [n_pair_f rN ok hu hv (Or.inl hp1), Option.bind_some, Option.bind_some, if_neg nm20, m_pres_f rW ok hu hp1, Option.bind_some, if_pos z00]
          exact ⟨_, _, _, _, rfl, rfl, h'⟩
        | true =>
          rw [m_pres_t rW ok hu hp1, Option.bind_some, if_neg n10]
          cases hp2 : tR t v with
          | false =>
            rw [n_pair_f rN ok hu hv (Or.inr hp2), Option.bind_some, Option.bind_some, if_neg nm20, m_pres_f rW ok hv hp2, Option.bind_some, if_pos z00]
            exact ⟨_, _, _, _, rfl, rfl, h'⟩
          | true =>
            obtain ⟨V', p', x', e1, e2, e3⟩ := rec_ok S h'
            obtain ⟨N', n1, n2⟩ := n_give rN ok hu hv
            obtain ⟨w', m1, m2⟩ := m_give (M := (M.1, p', x', M.2.2.2)) rW ok hu hv
            have ok2 := give_ok ok hu hv hp1 hp2
            have hu2 : u < tN (tGive t u v) := by rw [tGive_N]; exact hu
            rw [n_pair_t rN ok hu hv hp1 hp2, Option.bind_some, Option.bind_some, if_pos z00, e1, Option.bind_some, n1, Option.bind_some, n_linksOf n2 ok2 hu2, Option.bind_some, m_pres_t rW ok hv hp2, Option.bind_some, if_neg n10, e2, Option.bind_some, m1, Option.bind_some]
            have mm := m_many (M := (w', p', x', M.2.2.2)) m2 ok2 hu2
            refine ⟨_, _, _, (w', p', x', M.2.2.2), rfl, ?_, ⟨_, ok2, n2, m2⟩, e3⟩
            rw [gd_t mm.1]
            dsimp only at mm ⊢
            rw [mm.2]
    · have huv : ¬ nI u = a2 := fun e => hn ⟨u, hu, e.symm⟩
      rw [if_neg huv, n_pair2 rN ok hu hn, Option.bind_some, Option.bind_some, if_neg nm10, m_isNode_f rW ok hn, Option.bind_some, if_pos z00]
      exact ⟨_, _, _, _, rfl, rfl, h'⟩
  · rw [m_isNode_f rW ok hn, Option.bind_some, if_pos z00]
    by_cases huv : a1 = a2
    · rw [if_pos huv, Option.bind_some, if_neg nm10]
      exact ⟨_, _, _, _, rfl, rfl, h'⟩
    · rw [if_neg huv, n_pair1 rN ok hn, Option.bind_some, Option.bind_some, if_neg nm10]
      exact ⟨_, _, _, _, rfl, rfl, h'⟩
theorem isIn_len (x : Int32) {n : Nat} (hn : n < 2 ^ 30) : (∃ k, k < n ∧ x = nI k ∧ f_X3_isIn x 0 (nI n - 1) = some 1) ∨ ((x < 0 ∨ nI n ≤ x) ∧ f_X3_isIn x 0 (nI n - 1) = some 0) := by
  rw [f_X3_isIn]
  by_cases h0 : x < 0
  · rw [if_pos h0]; exact Or.inr ⟨Or.inl h0, rfl⟩
  · rw [if_neg h0]
    obtain ⟨k, hk, rfl⟩ := nI_of h0
    have e := pk_sub_toInt (a := n) (b := 1) hn (by omega)
    have e1 : nI n - 1 = nI n - nI 1 := rfl
    have e2 := nI_toInt hk
    by_cases hkn : k < n
    · rw [if_neg (by rw [Int32.lt_iff_toInt_lt, e1]; omega)]
      exact Or.inl ⟨k, hkn, rfl, rfl⟩
    · rw [if_pos (by rw [Int32.lt_iff_toInt_lt, e1]; omega)]
      exact Or.inr ⟨Or.inr (nI_le (by omega) hk), rfl⟩
theorem st_unlink {V : HS} {N : NS} (S : SS) {M : MS} (h : Rel V N M) (a1 a2 : Int32) : ∃ (r : Int32) (V' : HS) (N' : NS) (M' : MS), f_X2_unlink V N S a1 a2 = some (r, V', N') ∧ f_X3_unlink M a1 a2 = some (r, M') ∧ Rel V' N' M' := by
  have h' := h
  obtain ⟨⟨t, ok, rN, rW⟩, hH⟩ := h
  have h49 := n49 ok
  rw [f_X2_unlink, f_X3_unlink]
  rcases isU_or t ok a1 with ⟨u, hu, rfl⟩ | hn
  · have h3 := (ok.2.2.2.1 u hu).1
    rw [m_isNode_t rW ok hu, Option.bind_some, if_neg n10, n_holds_t rN ok hu, Option.bind_some, if_neg n10, gd_t (m_many rW ok hu).1, (m_many rW ok hu).2]
    rcases isIn_len a2 (n := (tL t u).length) (by omega) with ⟨k, hk, rfl, e⟩ | ⟨hb, e⟩
    · obtain ⟨V', p', x', e1, e2, e3⟩ := rec_ok S h'
      obtain ⟨N', n1, n2⟩ := n_take rN ok hu hk
      obtain ⟨w', m1, m2⟩ := m_take (M := (M.1, p', x', M.2.2.2)) rW ok hu hk
      rw [e, Option.bind_some, if_neg n10, if_neg (nI_pos (by omega)), n_linksOf rN ok hu, Option.bind_some, if_pos (nI_lt hk (by omega)), e1, Option.bind_some, n_linkAt rN ok hu hk, Option.bind_some, n1, Option.bind_some, e2, Option.bind_some, m_at (M := (M.1, p', x', M.2.2.2)) rW ok hu hk, Option.bind_some, m1, Option.bind_some]
      exact ⟨_, _, _, _, rfl, rfl, ⟨_, take_ok ok hu hk, n2, m2⟩, e3⟩
    · rw [e, Option.bind_some, if_pos z00]
      by_cases h0 : a2 < 0
      · rw [if_pos h0]
        exact ⟨_, _, _, _, rfl, rfl, h'⟩
      · have hle : nI (tL t u).length ≤ a2 := hb.resolve_left h0
        rw [if_neg h0, n_linksOf rN ok hu, Option.bind_some, if_neg (by rw [Int32.lt_iff_toInt_lt]; rw [Int32.le_iff_toInt_le] at hle; omega)]
        exact ⟨_, _, _, _, rfl, rfl, h'⟩
  · rw [m_isNode_f rW ok hn, Option.bind_some, if_pos z00, n_holds_f rN ok hn, Option.bind_some, if_pos z00]
    exact ⟨_, _, _, _, rfl, rfl, h'⟩
theorem st_target {V : HS} {N : NS} (S : SS) {M : MS} (h : Rel V N M) (a1 a2 : Int32) : ∃ (r : Int32), f_X2_target V N S a1 a2 = some r ∧ f_X3_target M a1 a2 = some r ∧ Rel V N M := by
  have h' := h
  obtain ⟨⟨t, ok, rN, rW⟩, hH⟩ := h
  have h49 := n49 ok
  rw [f_X2_target, f_X3_target]
  rcases isU_or t ok a1 with ⟨u, hu, rfl⟩ | hn
  · have h3 := (ok.2.2.2.1 u hu).1
    rw [m_isNode_t rW ok hu, Option.bind_some, if_neg n10, n_holds_t rN ok hu, Option.bind_some, if_neg n10, gd_t (m_many rW ok hu).1, (m_many rW ok hu).2]
    by_cases h0 : a2 < 0
    · have h0' : ¬ 0 ≤ a2 := by rw [Int32.le_iff_toInt_le]; rw [Int32.lt_iff_toInt_lt] at h0; omega
      rw [if_neg h0', if_neg h0']
      exact ⟨_, rfl, rfl, h'⟩
    · obtain ⟨k, hk31, rfl⟩ := nI_of h0
      rw [if_pos (nI_pos' hk31), if_pos (nI_pos' hk31), n_linksOf rN ok hu, Option.bind_some]
      by_cases hk : k < (tL t u).length
      · have hk' : ¬ nI (tL t u).length ≤ nI k := fun h => by have := (nI_leI (by omega) hk31).mp h; omega
        rw [if_neg hk', if_neg hk', n_linkAt rN ok hu hk, Option.bind_some, m_at rW ok hu hk, Option.bind_some]
        exact ⟨_, rfl, rfl, h'⟩
      · rw [if_pos (nI_le (by omega) hk31), if_pos (nI_le (by omega) hk31)]
        exact ⟨_, rfl, rfl, h'⟩
  · rw [m_isNode_f rW ok hn, Option.bind_some, if_pos z00, n_holds_f rN ok hn, Option.bind_some, if_pos z00]
    exact ⟨_, rfl, rfl, h'⟩
theorem st_distance {V : HS} {N : NS} (S : SS) {M : MS} (h : Rel V N M) (a1 a2 : Int32) : ∃ (r : Int32), f_X2_distance V N S a1 a2 = some r ∧ f_X3_distance M a1 a2 = some r ∧ Rel V N M := by
  have h' := h
  obtain ⟨⟨t, ok, rN, rW⟩, hH⟩ := h
  rw [f_X2_distance, f_X3_distance]
  rcases isU_or t ok a1 with ⟨u, hu, rfl⟩ | hn
  · rw [m_isNode_t rW ok hu, Option.bind_some, if_neg n10, n_holds_t rN ok hu, Option.bind_some, if_neg n10]
    rcases isU_or t ok a2 with ⟨v, hv, rfl⟩ | hn
    · rw [m_isNode_t rW ok hv, Option.bind_some, if_neg n10, n_holds_t rN ok hv, Option.bind_some, if_neg n10, n_spacing rN ok hu hv, Option.bind_some, m_far rW ok hu hv, Option.bind_some]
      exact ⟨_, rfl, rfl, h'⟩
    · rw [m_isNode_f rW ok hn, Option.bind_some, if_pos z00, n_holds_f rN ok hn, Option.bind_some, if_pos z00]
      exact ⟨_, rfl, rfl, h'⟩
  · rw [m_isNode_f rW ok hn, Option.bind_some, if_pos z00, n_holds_f rN ok hn, Option.bind_some, if_pos z00]
    exact ⟨_, rfl, rfl, h'⟩
/-! set -/
def tSetG (t : NT) (k v : Nat) : NT := (tW t, tH t, tP t, tD t, tR t, tL t, (if k = 0 then v else tLim t), (if k = 1 then v else tRule t), (if k = 2 then v else tCha t), (if k = 3 then v else tSeed t))
def tGetG (t : NT) (k : Nat) : Nat := if k = 0 then tLim t else if k = 1 then tRule t else if k = 2 then tCha t else tSeed t
theorem n_getG {N : NS} {t : NT} (hr : repN N t) {k : Nat} (hk : k < 4) : f_X0_setting N (nI k) = some (nI (tGetG t k)) := by
  unfold tGetG
  rcases (show k = 0 ∨ k = 1 ∨ k = 2 ∨ k = 3 by omega) with rfl | rfl | rfl | rfl
  · exact n_set0 hr
  · exact n_set1 hr
  · exact n_set2 hr
  · exact n_set3 hr
theorem n_setG {N : NS} {t : NT} (hr : repN N t) {k v : Nat} (hk : k < 4) : ∃ N', f_X0_changeSetting N (nI k) (nI v) = some N' ∧ repN N' (tSetG t k v) := by
  obtain ⟨r1, r2, r3, r4, r5, r6, r7, r8, r9, r10⟩ := hr
  rw [f_X0_changeSetting, putAt_in hk (by omega), Option.bind_some]
  refine ⟨_, rfl, r1, r2, r3, r4, r5, r6, ?_⟩
  unfold tSetG upd
  rcases (show k = 0 ∨ k = 1 ∨ k = 2 ∨ k = 3 by omega) with rfl | rfl | rfl | rfl
  · exact ⟨rfl, r8, r9, r10⟩
  · exact ⟨r7, rfl, r9, r10⟩
  · exact ⟨r7, r8, rfl, r10⟩
  · exact ⟨r7, r8, r9, rfl⟩
theorem m_setG {w : Nat → Int32} {t : NT} (hr : repW w t) {k v : Nat} (hk : k < 4) : repW (upd w (2 + k) (nI v)) (tSetG t k v) ∧ w (2 + k) = nI (tGetG t k) := by
  obtain ⟨r1, r2, r3, r4, r5, r6, r7⟩ := hr
  have hu : ∀ j, j ≠ 2 + k → upd w (2 + k) (nI v) j = w j := fun j hj => by unfold upd; rw [if_neg hj]
  have hs : upd w (2 + k) (nI v) (2 + k) = nI v := by unfold upd; rw [if_pos rfl]
  have hrest : ∀ u, u < tN t → upd w (2 + k) (nI v) (6 + u) = nI (tP t u) ∧ upd w (2 + k) (nI v) (55 + u) = (if tR t u then 1 else 0) ∧ upd w (2 + k) (nI v) (104 + u) = nI (tL t u).length ∧ ∀ j, j < (tL t u).length → upd w (2 + k) (nI v) (153 + 3 * u + j) = nI ((tL t u).getD j 0) := by
    intro u hu2
    obtain ⟨q1, q2, q3, q4⟩ := r7 u hu2
    exact ⟨(hu _ (by omega)).trans q1, (hu _ (by omega)).trans q2, (hu _ (by omega)).trans q3, fun j hj => (hu _ (by omega)).trans (q4 j hj)⟩
  unfold tSetG tGetG
  rcases (show k = 0 ∨ k = 1 ∨ k = 2 ∨ k = 3 by omega) with rfl | rfl | rfl | rfl
  · exact ⟨⟨(hu 0 (by omega)).trans r1, (hu 1 (by omega)).trans r2, hs, (hu 3 (by omega)).trans r4, (hu 4 (by omega)).trans r5, (hu 5 (by omega)).trans r6, hrest⟩, r3⟩
  · exact ⟨⟨(hu 0 (by omega)).trans r1, (hu 1 (by omega)).trans r2, (hu 2 (by omega)).trans r3, hs, (hu 4 (by omega)).trans r5, (hu 5 (by omega)).trans r6, hrest⟩, r4⟩
  · exact ⟨⟨(hu 0 (by omega)).trans r1, (hu 1 (by omega)).trans r2, (hu 2 (by omega)).trans r3, (hu 3 (by omega)).trans r4, hs, (hu 5 (by omega)).trans r6, hrest⟩, r5⟩
  · exact ⟨⟨(hu 0 (by omega)).trans r1, (hu 1 (by omega)).trans r2, (hu 2 (by omega)).trans r3, (hu 3 (by omega)).trans r4, (hu 4 (by omega)).trans r5, hs, hrest⟩, r6⟩
theorem st_set_in {V : HS} {N : NS} (S : SS) {M : MS} (h : Rel V N M) {k v : Nat} (hk : k < 4) (hv : (k = 0 → 1 ≤ v ∧ v ≤ 3) ∧ (k = 1 → v ≤ 3) ∧ (k = 2 → 1 ≤ v ∧ v ≤ 9) ∧ (k = 3 → v < 2 ^ 31)) (hv31 : v < 2 ^ 31) (e1 : f_X2_isSetting (nI k) (nI v) = some 1) (e2 : f_X3_set M (nI k) (nI v) = g_X3_set_56 M (nI k) (nI v) 1) : ∃ (r : Int32) (V' : HS) (N' : NS) (M' : MS), f_X2_set V N S (nI k) (nI v) = some (r, V', N') ∧ f_X3_set M (nI k) (nI v) = some (r, M') ∧ Rel V' N' M' := by
  obtain ⟨V', p', x', a1, a2, a3⟩ := rec_ok S h
  obtain ⟨⟨t, ok, rN, rW⟩, hH⟩ := h
  obtain ⟨N', n1, n2⟩ := n_setG rN (v := v) hk
  obtain ⟨m1, m2⟩ := m_setG rW (v := v) hk
  have ok2 : NetOK (tSetG t k v) := by
    obtain ⟨b1, b2, b3, b4, b5, b6, b7, b8, b9⟩ := ok
    unfold tSetG
    rcases (show k = 0 ∨ k = 1 ∨ k = 2 ∨ k = 3 by omega) with rfl | rfl | rfl | rfl
    · exact ⟨b1, b2, b3, b4, b5, hv.1 rfl, b7, b8, b9⟩
    · exact ⟨b1, b2, b3, b4, b5, b6, hv.2.1 rfl, b8, b9⟩
    · exact ⟨b1, b2, b3, b4, b5, b6, b7, hv.2.2.1 rfl, b9⟩
    · exact ⟨b1, b2, b3, b4, b5, b6, b7, b8, hv31, b9.2⟩
  rw [f_X2_set, e1, Option.bind_some, if_neg (by decide), a1, Option.bind_some, n_getG rN hk, Option.bind_some, n1, Option.bind_some, e2, g_X3_set_56, if_neg (by decide), a2, Option.bind_some, show (2 : Int32) = nI 2 from rfl, nI_add, gd_t (inB_nI (by omega) (by omega)), nI_clamp (by omega)]
  simp only [bindv]
  rw [gd_t (inB_nI (by omega) (by omega)), m2]
  exact ⟨_, _, _, _, rfl, rfl, ⟨_, ok2, n2, m1⟩, a3⟩
theorem st_set {V : HS} {N : NS} (S : SS) {M : MS} (h : Rel V N M) (a1 a2 : Int32) : ∃ (r : Int32) (V' : HS) (N' : NS) (M' : MS), f_X2_set V N S a1 a2 = some (r, V', N') ∧ f_X3_set M a1 a2 = some (r, M') ∧ Rel V' N' M' := by
  have bad : f_X2_isSetting a1 a2 = some 0 → f_X3_set M a1 a2 = g_X3_set_56 M a1 a2 0 → ∃ (r : Int32) (V' : HS) (N' : NS) (M' : MS), f_X2_set V N S a1 a2 = some (r, V', N') ∧ f_X3_set M a1 a2 = some (r, M') ∧ Rel V' N' M' := by
    intro e1 e2
    rw [f_X2_set, e1, Option.bind_some, if_pos rfl, e2, g_X3_set_56, if_pos rfl]
    exact ⟨_, _, _, _, rfl, rfl, h⟩
  have lt3 : ∀ (x : Int32) (a b : Nat), b < 2 ^ 31 → a ≤ b → ¬ ((a : Int) ≤ x.toInt ∧ x.toInt ≤ b) → (if x < nI a then some (0 : Int32) else (if nI b < x then some (0 : Int32) else some (1 : Int32))) = some 0 := by
    intro x a b hb hab hn
    exact isIn_f hb hab hn
  have in3 : ∀ (c a b : Nat), b < 2 ^ 31 → a ≤ c → c ≤ b → (if nI c < nI a then some (0 : Int32) else (if nI b < nI c then some (0 : Int32) else some (1 : Int32))) = some 1 := by
    intro c a b hb h1 h2
    exact isIn_t hb (by omega) (by rw [nI_toInt (by omega)]; omega)
  by_cases k0 : a1 = 0
  · subst k0
    rcases rng a2 (a := 1) (b := 3) (by omega) with ⟨c, c1, c2, rfl⟩ | hn
    · exact st_set_in S h (k := 0) (by omega) ⟨fun _ => ⟨c1, c2⟩, by omega, by omega, by omega⟩ (by omega) (by rw [f_X2_isSetting]; exact (if_pos rfl).trans (in3 c 1 3 (by omega) c1 c2)) (by rw [f_X3_set]; exact (if_pos rfl).trans (by rw [show (1 : Int32) = nI 1 from rfl, show (3 : Int32) = nI 3 from rfl, isIn_t (by omega) (by omega) (by rw [nI_toInt (by omega)]; omega), Option.bind_some]; rfl))
    · exact bad (by rw [f_X2_isSetting]; exact (if_pos rfl).trans (lt3 a2 1 3 (by omega) (by omega) hn)) (by rw [f_X3_set]; exact (if_pos rfl).trans (by rw [show (1 : Int32) = nI 1 from rfl, show (3 : Int32) = nI 3 from rfl, isIn_f (by omega) (by omega) hn, Option.bind_some]))
  by_cases k1 : a1 = 1
  · subst k1
    rcases rng a2 (a := 0) (b := 3) (by omega) with ⟨c, c1, c2, rfl⟩ | hn
    · exact st_set_in S h (k := 1) (by omega) ⟨by omega, fun _ => c2, by omega, by omega⟩ (by omega) (by rw [f_X2_isSetting]; exact (if_neg (by decide)).trans ((if_pos rfl).trans (in3 c 0 3 (by omega) c1 c2))) (by rw [f_X3_set]; exact (if_neg (by decide)).trans ((if_pos rfl).trans (by rw [show (0 : Int32) = nI 0 from rfl, show (3 : Int32) = nI 3 from rfl, isIn_t (by omega) (by omega) (by rw [nI_toInt (by omega)]; omega), Option.bind_some])))
    · exact bad (by rw [f_X2_isSetting]; exact (if_neg (by decide)).trans ((if_pos rfl).trans (lt3 a2 0 3 (by omega) (by omega) hn))) (by rw [f_X3_set]; exact (if_neg (by decide)).trans ((if_pos rfl).trans (by rw [show (0 : Int32) = nI 0 from rfl, show (3 : Int32) = nI 3 from rfl, isIn_f (by omega) (by omega) hn, Option.bind_some]; rfl)))
  by_cases k2 : a1 = 2
  · subst k2
    rcases rng a2 (a := 1) (b := 9) (by omega) with ⟨c, c1, c2, rfl⟩ | hn
    · exact st_set_in S h (k := 2) (by omega) ⟨by omega, by omega, fun _ => ⟨c1, c2⟩, by omega⟩ (by omega) (by rw [f_X2_isSetting]; exact (if_neg (by decide)).trans ((if_neg (by decide)).trans ((if_pos rfl).trans (in3 c 1 9 (by omega) c1 c2)))) (by rw [f_X3_set]; exact (if_neg (by decide)).trans ((if_neg (by decide)).trans ((if_pos rfl).trans (by rw [show (1 : Int32) = nI 1 from rfl, show (9 : Int32) = nI 9 from rfl, isIn_t (by omega) (by omega) (by rw [nI_toInt (by omega)]; omega), Option.bind_some]; rfl))))
    · exact bad (by rw [f_X2_isSetting]; exact (if_neg (by decide)).trans ((if_neg (by decide)).trans ((if_pos rfl).trans (lt3 a2 1 9 (by omega) (by omega) hn)))) (by rw [f_X3_set]; exact (if_neg (by decide)).trans ((if_neg (by decide)).trans ((if_pos rfl).trans (by rw [show (1 : Int32) = nI 1 from rfl, show (9 : Int32) = nI 9 from rfl, isIn_f (by omega) (by omega) hn, Option.bind_some]))))
  by_cases k3 : a1 = 3
  · subst k3
    by_cases hn : a2 < 0
    · exact bad (by rw [f_X2_isSetting, if_neg (by decide), if_neg (by decide), if_neg (by decide), if_pos rfl, if_pos hn]) (by rw [f_X3_set, if_neg (by decide), if_neg (by decide), if_neg (by decide), if_pos rfl, if_pos hn])
    · obtain ⟨c, hc, rfl⟩ := nI_of hn
      exact st_set_in S h (k := 3) (by omega) ⟨by omega, by omega, by omega, fun _ => hc⟩ hc (by rw [f_X2_isSetting]; exact (if_neg (by decide)).trans ((if_neg (by decide)).trans ((if_neg (by decide)).trans ((if_pos rfl).trans (if_neg hn))))) (by rw [f_X3_set]; exact (if_neg (by decide)).trans ((if_neg (by decide)).trans ((if_neg (by decide)).trans ((if_pos rfl).trans (if_neg hn)))))
  · exact bad (by rw [f_X2_isSetting, if_neg k0, if_neg k1, if_neg k2, if_neg k3]) (by rw [f_X3_set, if_neg k0, if_neg k1, if_neg k2, if_neg k3])
