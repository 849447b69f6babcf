/-! ===== sums over the nodes; undo, keep, back ===== -/
def tCnt (t : NT) : Nat := fb_sm (fun u => (tL t u).length) (tN t)
def lenU (t : NT) (u : Nat) : Nat := fb_sm (fun k => far t u ((tL t u).getD k 0)) (tL t u).length
def tLen (t : NT) : Nat := fb_sm (lenU t) (tN t)
theorem n_count_at {N : NS} {t : NT} (hr : repN N t) (ok : NetOK t) : ∀ (fu i : Nat), i ≤ tN t → tN t - i < fu → g_X0_countOfLinks_4 fu N (nI (fb_sm (fun u => (tL t u).length) i)) (nI i) = some (nI (tCnt t)) := by
  intro fu
  have h49 := n49 ok
  induction fu with
  | zero => intro i h1 h2; omega
  | succ fu ih =>
    intro i h1 h2
    rw [g_X0_countOfLinks_4, n_nodes hr, Option.bind_some]
    by_cases hi : tN t ≤ i
    · have : i = tN t := by omega
      subst this
      rw [if_pos (nI_le hi (by omega))]
      rfl
    · rw [if_neg (fun h => hi ((nI_leI (by omega) (by omega)).mp h)), n_linksOf hr ok (by omega), Option.bind_some, nI_add, nI_1, ← fb_sm_succ]
      exact ih (i + 1) (by omega) (by omega)
theorem n_count {N : NS} {t : NT} (hr : repN N t) (ok : NetOK t) : f_X0_countOfLinks N = some (nI (tCnt t)) := by
  have h49 := n49 ok
  rw [f_X0_countOfLinks]
  exact n_count_at hr ok FU 0 (by omega) (by unfold FU; omega)
theorem m_links_at {M : MS} {t : NT} (hr : repW M.1 t) (ok : NetOK t) : ∀ (fu i : Nat), i ≤ tN t → tN t - i < fu → g_X3_links_4 fu M (nI (fb_sm (fun u => (tL t u).length) i)) (nI i) = some (nI (tCnt t)) := by
  intro fu
  have h49 := n49 ok
  induction fu with
  | zero => intro i h1 h2; omega
  | succ fu ih =>
    intro i h1 h2
    rw [g_X3_links_4, m_nodes hr, Option.bind_some]
    by_cases hi : tN t ≤ i
    · have : i = tN t := by omega
      subst this
      rw [if_pos (nI_le hi (by omega))]
      rfl
    · rw [if_neg (fun h => hi ((nI_leI (by omega) (by omega)).mp h)), gd_t (m_many hr ok (by omega)).1, (m_many hr ok (by omega)).2]
      simp only [bindv]
      rw [nI_add, nI_1]
      have e := ih (i + 1) (by omega) (by omega)
      rw [fb_sm_succ] at e
      exact e
theorem m_links {M : MS} {t : NT} (hr : repW M.1 t) (ok : NetOK t) : f_X3_links M = some (nI (tCnt t)) := by
  have h49 := n49 ok
  rw [f_X3_links]
  exact m_links_at hr ok FU 0 (by omega) (by unfold FU; omega)
theorem n_len_in {N : NS} {t : NT} (hr : repN N t) (ok : NetOK t) {K : NS → Int32 → Int32 → Option Int32} {u : Nat} (hu : u < tN t) (acc : Nat) : ∀ (fu k : Nat), k ≤ (tL t u).length → (tL t u).length - k < fu → g_X0_lengthOfLinks_14 K fu N (nI (acc + fb_sm (fun k => far t u ((tL t u).getD k 0)) k)) (nI u) (nI k) = K N (nI (acc + lenU t u)) (nI (u + 1)) := by
  intro fu
  have h3 := (ok.2.2.2.1 u hu).1
  have h49 := n49 ok
  induction fu with
  | zero => intro k h1 h2; omega
  | succ fu ih =>
    intro k h1 h2
    rw [g_X0_lengthOfLinks_14, n_linksOf hr ok hu, Option.bind_some]
    by_cases hk : (tL t u).length ≤ k
    · have : k = (tL t u).length := by omega
      subst this
      rw [if_pos (nI_le hk (by omega)), nI_1]
      rfl
    · have hk : k < (tL t u).length := by omega
      have hm := ((ok.2.2.2.1 u hu).2.2 _ (getD_lt hk)).1
      rw [if_neg (fun h => by have := (nI_leI (by omega) (by omega)).mp h; omega), n_linkAt hr ok hu hk, Option.bind_some, n_spacing hr ok hu hm, Option.bind_some, nI_add, nI_1]
      have e := ih (k + 1) (by omega) (by omega)
      rw [fb_sm_succ, ← Nat.add_assoc] at e
      exact e
theorem n_len_at {N : NS} {t : NT} (hr : repN N t) (ok : NetOK t) : ∀ (fu i : Nat), i ≤ tN t → tN t - i < fu → g_X0_lengthOfLinks_4 fu N (nI (fb_sm (lenU t) i)) (nI i) = some (nI (tLen t)) := by
  intro fu
  have h49 := n49 ok
  induction fu with
  | zero => intro i h1 h2; omega
  | succ fu ih =>
    intro i h1 h2
    rw [g_X0_lengthOfLinks_4, n_nodes hr, Option.bind_some]
    by_cases hi : tN t ≤ i
    · have : i = tN t := by omega
      subst this
      rw [if_pos (nI_le hi (by omega))]
      rfl
    · have hi : i < tN t := by omega
      have h3 := (ok.2.2.2.1 i hi).1
      have e := n_len_in hr ok (K := fun N' x1' x2' => g_X0_lengthOfLinks_4 fu N' x1' x2') hi (fb_sm (lenU t) i) FU 0 (by omega) (by unfold FU; omega)
      rw [if_neg (fun h => by have := (nI_leI (by omega) (by omega)).mp h; omega)]
      refine e.trans ?_
      have e2 := ih (i + 1) (by omega) (by omega)
      rw [fb_sm_succ] at e2
      exact e2
theorem n_len {N : NS} {t : NT} (hr : repN N t) (ok : NetOK t) : f_X0_lengthOfLinks N = some (nI (tLen t)) := by
  have h49 := n49 ok
  rw [f_X0_lengthOfLinks]
  exact n_len_at hr ok FU 0 (by omega) (by unfold FU; omega)
theorem m_len_in {M : MS} {t : NT} (hr : repW M.1 t) (ok : NetOK t) {K : MS → Int32 → Int32 → Option Int32} {u : Nat} (hu : u < tN t) (acc : Nat) : ∀ (fu k : Nat), k ≤ (tL t u).length → (tL t u).length - k < fu → g_X3_allLengths_14 K fu M (nI (acc + fb_sm (fun k => far t u ((tL t u).getD k 0)) k)) (nI u) (nI k) = K M (nI (acc + lenU t u)) (nI (u + 1)) := by
  intro fu
  have h3 := (ok.2.2.2.1 u hu).1
  have h49 := n49 ok
  induction fu with
  | zero => intro k h1 h2; omega
  | succ fu ih =>
    intro k h1 h2
    rw [g_X3_allLengths_14, gd_t (m_many hr ok hu).1, (m_many hr ok hu).2]
    by_cases hk : (tL t u).length ≤ k
    · have : k = (tL t u).length := by omega
      subst this
      rw [if_pos (nI_le hk (by omega)), nI_1]
      rfl
    · have hk : k < (tL t u).length := by omega
      have hm := ((ok.2.2.2.1 u hu).2.2 _ (getD_lt hk)).1
      rw [if_neg (fun h => by have := (nI_leI (by omega) (by omega)).mp h; omega), m_at hr ok hu hk, Option.bind_some, m_far hr ok hu hm, Option.bind_some, nI_add, nI_1]
      have e := ih (k + 1) (by omega) (by omega)
      rw [fb_sm_succ, ← Nat.add_assoc] at e
      exact e
theorem m_len_at {M : MS} {t : NT} (hr : repW M.1 t) (ok : NetOK t) : ∀ (fu i : Nat), i ≤ tN t → tN t - i < fu → g_X3_allLengths_4 fu M (nI (fb_sm (lenU t) i)) (nI i) = some (nI (tLen t)) := by
  intro fu
  have h49 := n49 ok
  induction fu with
  | zero => intro i h1 h2; omega
  | succ fu ih =>
    intro i h1 h2
    rw [g_X3_allLengths_4, m_nodes hr, Option.bind_some]
    by_cases hi : tN t ≤ i
    · have : i = tN t := by omega
      subst this
      rw [if_pos (nI_le hi (by omega))]
      rfl
    · have hi : i < tN t := by omega
      have h3 := (ok.2.2.2.1 i hi).1
      have e := m_len_in hr ok (K := fun M' x1' x2' => g_X3_allLengths_4 fu M' x1' x2') hi (fb_sm (lenU t) i) FU 0 (by omega) (by unfold FU; omega)
      rw [if_neg (fun h => by have := (nI_leI (by omega) (by omega)).mp h; omega)]
      refine e.trans ?_
      have e2 := ih (i + 1) (by omega) (by omega)
      rw [fb_sm_succ] at e2
      exact e2
theorem m_len {M : MS} {t : NT} (hr : repW M.1 t) (ok : NetOK t) : f_X3_allLengths M = some (nI (tLen t)) := by
  have h49 := n49 ok
  rw [f_X3_allLengths]
  exact m_len_at hr ok FU 0 (by omega) (by unfold FU; omega)
/-! undo -/
theorem undo22 {c : Nat} (hc : c ≤ 7) : ∀ (fu i : Nat) (M : MS), i ≤ 300 → 300 - i < fu → M.2.2.1 = nI c → ∃ w', g_X3_undo_22 fu M (nI i) = some (nI c, (w', M.2)) ∧ ∀ j, w' j = if i ≤ j ∧ j < 300 then M.2.1 (300 * c + j) else M.1 j := by
  intro fu
  induction fu with
  | zero => intro i M h1 h2; omega
  | succ fu ih =>
    intro i M h1 h2 hm
    rw [g_X3_undo_22, show (300 : Int32) = nI 300 from rfl]
    by_cases hi : 300 ≤ i
    · rw [if_pos ((nI_leI (by omega) (by omega)).mpr hi), hm]
      exact ⟨_, rfl, fun j => by rw [if_neg (by omega)]⟩
    · rw [if_neg (fun h => hi ((nI_leI (by omega) (by omega)).mp h)), hm, pk_mul, nI_add, gd_t (inB_nI (by omega) (by omega)), gd_t (inB_nI (by omega) (by omega)), nI_clamp (by omega), nI_clamp (by omega), nI_1]
      obtain ⟨w', e1, e2⟩ := ih (i + 1) (upd M.1 i (M.2.1 (300 * c + i)), M.2.1, nI c, M.2.2.2) (by omega) (by omega) rfl
      have e3 : (M.2.1, nI c, M.2.2.2) = M.2 := by rw [← hm]
      refine ⟨w', e1.trans (by rw [← e3]), fun j => ?_⟩
      rw [e2 j]
      dsimp only [upd]
      by_cases ha : i ≤ j ∧ j < 300
      · rw [if_pos ha]
        by_cases hb : j = i
        · rw [if_neg (by omega), if_pos hb, hb]
        · rw [if_pos (by omega)]
      · rw [if_neg (by omega), if_neg (by omega), if_neg ha]
theorem st_undo {V : HS} {N : NS} (S : SS) {M : MS} (h : Rel V N M) : ∃ (r : Int32) (V' : HS) (N' : NS) (M' : MS), f_X2_undo V N S  = some (r, V', N') ∧ f_X3_undo M  = some (r, M') ∧ Rel V' N' M' := by
  obtain ⟨hb, ⟨c, hc, v1, v2, hk⟩, him⟩ := h
  obtain ⟨v, vp, vi⟩ := V
  dsimp only at v1 hk him
  subst v1
  rw [f_X2_undo, f_X3_undo, v2]
  dsimp only
  by_cases h0 : c = 0
  · subst h0
    rw [if_pos (by decide), if_pos (by decide)]
    exact ⟨_, _, _, _, rfl, rfl, hb, ⟨0, by omega, rfl, v2, hk⟩, him⟩
  · obtain ⟨d, rfl⟩ : ∃ d, c = d + 1 := ⟨c - 1, by omega⟩
    obtain ⟨N', e, hN⟩ := hk d (by omega)
    rw [if_neg (fun h => by
      rw [show (1 : Int32) = nI 1 from rfl] at h
      have := (nI_ltI (by omega) (by omega)).mp h
      omega), if_pos (nI_le hc (by omega)), nI_pred, nI_clamp (by omega), e, Option.bind_some, if_neg (fun h => by
      rw [show (0 : Int32) = nI 0 from rfl] at h
      have := (nI_eq (by omega) (by omega)).mp h
      omega)]
    obtain ⟨w', a1, a2⟩ := undo22 (c := d) (by omega) FU 0 (M.1, M.2.1, nI d, M.2.2.2) (by omega) (by unfold FU; omega) rfl
    rw [show (0 : Int32) = nI 0 from rfl, a1]
    refine ⟨_, _, _, _, rfl, rfl, Both_congr (fun j hj => ?_) hN, ⟨d, by omega, rfl, rfl, fun k hk2 => hk k (by omega)⟩, him⟩
    show w' j = _
    rw [a2, if_pos (by omega)]
/-! keep, back -/
theorem img_or : ∀ b, b < 4 → ∀ i, i < 2 → nI b ||| ((1 : Int32) <<< (nI i &&& 31)) = nI (b ||| 2 ^ i) := by decide +kernel
theorem img_or2 : ∀ b, b < 4 → ∀ i, i < 2 → b ||| 2 ^ i < 4 ∧ (b ||| 2 ^ i).testBit i = true ∧ ∀ k, k < 2 → k ≠ i → (b ||| 2 ^ i).testBit k = b.testBit k := by decide +kernel
theorem img_bit : ∀ b, b < 4 → ∀ i, i < 2 → (decide (((nI b >>> (nI i &&& 31)) &&& (1 : Int32)) = 0) = !b.testBit i) := by decide +kernel
theorem isImage_t {i : Nat} (h : i < 2) : f_X3_isImage (nI i) = some 1 := by
  rw [f_X3_isImage, show (0 : Int32) = nI 0 from rfl, show (1 : Int32) = nI 1 from rfl, isIn_t (by omega) (by omega) (by rw [nI_toInt (by omega)]; omega), Option.bind_some]
  rfl
theorem isImage_f {x : Int32} (h : ¬ ((0 : Int) ≤ x.toInt ∧ x.toInt ≤ 1)) : f_X3_isImage x = some 0 := by
  rw [f_X3_isImage, show (0 : Int32) = nI 0 from rfl, show (1 : Int32) = nI 1 from rfl, isIn_f (a := 0) (b := 1) (by omega) (by omega) h, Option.bind_some]
  rfl
theorem keep11 {i : Nat} (hi : i < 2) {t : NT} (ok : NetOK t) {b : Nat} (hb : b < 4) : ∀ (fu k : Nat) (M : MS), k ≤ 300 → 300 - k < fu → repW M.1 t → M.2.2.2.2.1 = nI b → ∃ q', g_X3_keep_11 fu M (nI i) (nI k) = some (nI (tCnt t), (M.1, M.2.1, M.2.2.1, q', nI (b ||| 2 ^ i), M.2.2.2.2.2)) ∧ ∀ j, q' j = if 300 * i + k ≤ j ∧ j < 300 * i + 300 then M.1 (j - 300 * i) else M.2.2.2.1 j := by
  intro fu
  induction fu with
  | zero => intro k M h1 h2; omega
  | succ fu ih =>
    intro k M h1 h2 hr hm
    rw [g_X3_keep_11, show (300 : Int32) = nI 300 from rfl]
    by_cases hk : 300 ≤ k
    · rw [if_pos ((nI_leI (by omega) (by omega)).mpr hk), hm, img_or b hb i hi, m_links (by exact hr) ok, Option.bind_some]
      exact ⟨_, rfl, fun j => by rw [if_neg (by omega)]⟩
    · rw [if_neg (fun h => hk ((nI_leI (by omega) (by omega)).mp h)), gd_t (inB_nI (by omega) (by omega)), pk_mul, nI_add, gd_t (inB_nI (by omega) (by omega)), nI_clamp (by omega), nI_clamp (by omega), nI_1]
      obtain ⟨q', e1, e2⟩ := ih (k + 1) (M.1, M.2.1, M.2.2.1, upd M.2.2.2.1 (300 * i + k) (M.1 k), M.2.2.2.2) (by omega) (by omega) hr hm
      refine ⟨q', e1, fun j => ?_⟩
      rw [e2 j]
      dsimp only [upd]
      by_cases ha : 300 * i + k ≤ j ∧ j < 300 * i + 300
      · rw [if_pos ha]
        by_cases hb : j = 300 * i + k
        · rw [if_neg (by omega), if_pos hb, hb, show 300 * i + k - 300 * i = k by omega]
        · rw [if_pos (by omega)]
      · rw [if_neg (by omega), if_neg (by omega), if_neg ha]
theorem st_keep {V : HS} {N : NS} (S : SS) {M : MS} (h : Rel V N M) (a1 : Int32) : ∃ (r : Int32) (V' : HS) (M' : MS), f_X2_keep V N S a1 = some (r, V') ∧ f_X3_keep M a1 = some (r, M') ∧ Rel V' N M' := by
  have h' := h
  obtain ⟨hb, hpast, b, hb4, m5, him⟩ := h
  rcases rng a1 (a := 0) (b := 1) (by omega) with ⟨i, -, hi, rfl⟩ | hn
  · have hi : i < 2 := by omega
    obtain ⟨t, ok, rN, rW⟩ := hb
    rw [f_X2_keep, f_X3_keep, if_neg (nI_pos (by omega)), if_pos (nI_lt hi (by omega)), n_count rN ok, Option.bind_some, isImage_t hi, Option.bind_some, if_neg (by decide), nI_clamp (by omega)]
    obtain ⟨q', e1, e2⟩ := keep11 hi ok hb4 FU 0 M (by omega) (by unfold FU; omega) rW m5
    rw [show (0 : Int32) = nI 0 from rfl, e1]
    obtain ⟨o1, o2, o3⟩ := img_or2 b hb4 i hi
    refine ⟨_, _, _, rfl, rfl, ⟨t, ok, rN, rW⟩, hpast, b ||| 2 ^ i, o1, rfl, fun k hk => ?_⟩
    dsimp only
    by_cases hki : k = i
    · subst hki
      right
      refine ⟨N, if_pos rfl, o2, t, ok, rN, repW_congr ok (fun j hj => ?_) rW⟩
      show q' (300 * k + j) = M.1 j
      rw [e2, if_pos (by omega), show 300 * k + j - 300 * k = j by omega]
    · rw [if_neg hki, o3 k hk hki]
      rcases him k hk with h1 | ⟨N', h1, h2, h3⟩
      · exact Or.inl h1
      · refine Or.inr ⟨N', h1, h2, Both_congr (fun j hj => ?_) h3⟩
        show q' (300 * k + j) = _
        rw [e2, if_neg (by omega)]
  · have e1 : f_X2_keep V N S a1 = some (-1, V) := by
      rw [f_X2_keep]
      by_cases h0 : a1 < 0
      · rw [if_pos h0]
      · rw [if_neg h0, if_neg]
        intro h2
        apply hn
        rw [Int32.lt_iff_toInt_lt] at h0 h2
        have e1 : (0 : Int32).toInt = 0 := by decide
        have e2 : (nI 2).toInt = 2 := by decide
        omega
    rw [e1, f_X3_keep, isImage_f hn, Option.bind_some, if_pos rfl]
    exact ⟨_, _, _, rfl, rfl, h'⟩
theorem back29 {i : Nat} (hi : i < 2) {t : NT} (ok : NetOK t) : ∀ (fu k : Nat) (M : MS), k ≤ 300 → 300 - k < fu → repW (fun j => if j < k then M.1 j else M.2.2.2.1 (300 * i + j)) t → ∃ w', g_X3_back_29 fu M (nI i) (nI k) = some (nI (tCnt t), (w', M.2)) ∧ repW w' t := by
  intro fu
  induction fu with
  | zero => intro k M h1 h2; omega
  | succ fu ih =>
    intro k M h1 h2 hr
    rw [g_X3_back_29, show (300 : Int32) = nI 300 from rfl]
    by_cases hk : 300 ≤ k
    · have hr2 : repW M.1 t := repW_congr ok (fun j hj => by rw [if_pos (by omega)]) hr
      rw [if_pos ((nI_leI (by omega) (by omega)).mpr hk), m_links hr2 ok, Option.bind_some]
      exact ⟨_, rfl, hr2⟩
    · rw [if_neg (fun h => hk ((nI_leI (by omega) (by omega)).mp h)), pk_mul, nI_add, gd_t (inB_nI (by omega) (by omega)), gd_t (inB_nI (by omega) (by omega)), nI_clamp (by omega), nI_clamp (by omega), nI_1]
      obtain ⟨w', e1, e2⟩ := ih (k + 1) (upd M.1 k (M.2.2.2.1 (300 * i + k)), M.2) (by omega) (by omega) (repW_congr ok (fun j hj => by
        dsimp only [upd]
        by_cases h1 : j < k
        · rw [if_pos (by omega), if_pos h1, if_neg (by omega)]
        · by_cases h2 : j = k
          · subst h2; rw [if_pos (by omega), if_pos rfl, if_neg h1]
          · rw [if_neg (by omega), if_neg h1]) hr)
      exact ⟨w', e1, e2⟩
theorem st_back {V : HS} {N : NS} (S : SS) {M : MS} (h : Rel V N M) (a1 : Int32) : ∃ (r : Int32) (V' : HS) (N' : NS) (M' : MS), f_X2_back V N S a1 = some (r, V', N') ∧ f_X3_back M a1 = some (r, M') ∧ Rel V' N' M' := by
  have h' := h
  obtain ⟨hb, hpast, b, hb4, m5, him⟩ := h
  rcases rng a1 (a := 0) (b := 1) (by omega) with ⟨i, -, hi, rfl⟩ | hn
  · have hi : i < 2 := by omega
    have hbit := img_bit b hb4 i hi
    rw [f_X2_back, f_X3_back, if_neg (nI_pos (by omega)), if_pos (nI_lt hi (by omega)), nI_clamp (by omega), isImage_t hi, Option.bind_some, if_neg (by decide), m5]
    rcases him i hi with ⟨h1, h2⟩ | ⟨N', h1, h2, t, ok, rN, rW⟩
    · rw [h1]
      rw [h2] at hbit
      rw [if_pos (of_decide_eq_true hbit)]
      exact ⟨_, _, _, _, rfl, rfl, h'⟩
    · rw [h1]
      rw [h2] at hbit
      rw [if_neg (of_decide_eq_false hbit)]
      dsimp only
      obtain ⟨V', p', x', e1, e2, e3⟩ := rec_ok S h'
      rw [e1, Option.bind_some, n_count rN ok, Option.bind_some, e2, Option.bind_some]
      obtain ⟨w', a1, a2⟩ := back29 hi ok FU 0 (M.1, p', x', M.2.2.2) (by omega) (by unfold FU; omega) (repW_congr ok (fun j hj => by rw [if_neg (by omega)]) rW)
      rw [show (0 : Int32) = nI 0 from rfl, a1]
      exact ⟨_, _, _, _, rfl, rfl, ⟨t, ok, rN, a2⟩, e3⟩
  · have e1 : f_X2_back V N S a1 = some (-1, V, N) := by
      rw [f_X2_back]
      by_cases h0 : a1 < 0
      · rw [if_pos h0]
      · rw [if_neg h0, if_neg]
        intro h2
        apply hn
        rw [Int32.lt_iff_toInt_lt] at h0 h2
        have e1 : (0 : Int32).toInt = 0 := by decide
        have e2 : (nI 2).toInt = 2 := by decide
        omega
    rw [e1, f_X3_back, isImage_f hn, Option.bind_some, if_pos rfl]
    exact ⟨_, _, _, _, rfl, rfl, h'⟩
