theorem ff : ¬ (false = true) := by decide
/-! ===== the contacts of every node, kept in rows ===== -/
def cn (t : NT) (u v : Nat) : Bool := decide (v < tN t) && con t u v
def CR (t : NT) (c : Nat → Int64) : Prop := ∀ v, v < 49 → ∀ j, j < 64 → bt6 (c v) j = ((decide (v < tN t) && tR t v) && cn t v j)
theorem n_read_at {N : NS} {t : NT} (hr : repN N t) (ok : NetOK t) : ∀ (fu i : Nat) (S : SS), i ≤ 49 → 49 - i < fu → (∀ v, v < i → ∀ j, j < 64 → bt6 (S.1 v) j = ((decide (v < tN t) && tR t v) && cn t v j)) → ∃ c, g_X1_readContacts_2 fu S N (nI i) = some (c, S.2) ∧ CR t c := by
  intro fu
  have h49 := n49 ok
  induction fu with
  | zero => intro i S h1 h2; omega
  | succ fu ih =>
    intro i S h1 h2 hS
    rw [g_X1_readContacts_2]
    by_cases hi : 49 ≤ i
    · rw [if_pos (nI_le hi (by omega))]
      exact ⟨_, rfl, fun v hv => hS v (by omega)⟩
    · rw [if_neg (fun h => by have := (nI_leI (by omega) (by omega)).mp h; omega)]
      have step : ∀ (z : Int64), (∀ j, j < 64 → bt6 z j = ((decide (i < tN t) && tR t i) && cn t i j)) → ∀ v, v < i + 1 → ∀ j, j < 64 → bt6 (vp_updL S.1 i z v) j = ((decide (v < tN t) && tR t v) && cn t v j) := by
        intro z hz v hv j hj
        unfold vp_updL
        by_cases h : v = i
        · rw [if_pos h, h]; exact hz j hj
        · rw [if_neg h]; exact hS v (by omega) j hj
      by_cases hu : i < tN t
      · cases hp : tR t i with
        | true =>
          obtain ⟨z, z1, z2⟩ := n_contacts hr ok hu
          rw [n_pres_t hr ok hu hp, Option.bind_some, if_neg n10, z1, Option.bind_some, gd_t (inB_nI (by omega) (by omega)), nI_1, nI_clamp (by omega)]
          exact ih (i + 1) _ (by omega) (by omega) (step z (fun j hj => by rw [z2 j hj, hp]; simp [hu, cn]))
        | false =>
          rw [n_pres_f hr ok hu hp, Option.bind_some, if_pos z00, gd_t (inB_nI (by omega) (by omega)), nI_1, nI_clamp (by omega)]
          exact ih (i + 1) _ (by omega) (by omega) (step 0 (fun j hj => by rw [b6_0, hp]; simp))
      · have hn : ¬ isU t (nI i) := by
          rintro ⟨u, h3, h4⟩
          have := (nI_eq (by omega) (by omega)).mp h4
          omega
        rw [n_isPresent_f hr ok hn, Option.bind_some, if_pos z00, gd_t (inB_nI (by omega) (by omega)), nI_1, nI_clamp (by omega)]
        exact ih (i + 1) _ (by omega) (by omega) (step 0 (fun j hj => by rw [b6_0]; simp [hu]))
theorem n_read {N : NS} {t : NT} (hr : repN N t) (ok : NetOK t) (S : SS) : ∃ c, f_X1_readContacts S N = some (c, S.2) ∧ CR t c := by
  rw [f_X1_readContacts]
  exact n_read_at hr ok FU 0 S (by omega) (by unfold FU; omega) (fun v hv => absurd hv (Nat.not_lt_zero _))
/-! ===== the contact closest to an end ===== -/
def bst (t : NT) (u d : Nat) : Nat → Option Nat
  | 0 => none
  | i + 1 => if cn t u i then (if (match bst t u d i with | none => far t u d | some b => far t b d) ≤ far t i d then bst t u d i else some i) else bst t u d i
def cur (t : NT) (u d : Nat) (o : Option Nat) : Nat := match o with
  | none => far t u d
  | some b => far t b d
theorem bst_succ (t : NT) (u d i : Nat) : bst t u d (i + 1) = if cn t u i then (if cur t u d (bst t u d i) ≤ far t i d then bst t u d i else some i) else bst t u d i := by
  rw [bst]
  rfl
theorem bst_some {t : NT} {u d : Nat} : ∀ {i b : Nat}, bst t u d i = some b → b < i ∧ b < tN t ∧ con t u b = true ∧ far t b d < far t u d := by
  intro i
  induction i with
  | zero => intro b h; cases h
  | succ i ih =>
    intro b h
    rw [bst_succ] at h
    have hc : cur t u d (bst t u d i) ≤ far t u d := by
      cases hb : bst t u d i with
      | none => exact Nat.le_refl _
      | some b' => exact Nat.le_of_lt (ih hb).2.2.2
    by_cases h1 : cn t u i = true
    · rw [if_pos h1] at h
      by_cases h2 : cur t u d (bst t u d i) ≤ far t i d
      · rw [if_pos h2] at h
        have := ih h
        exact ⟨by omega, this.2⟩
      · rw [if_neg h2] at h
        injection h with h
        subst h
        unfold cn at h1
        rw [Bool.and_eq_true, decide_eq_true_eq] at h1
        exact ⟨by omega, h1.1, h1.2, by omega⟩
    · rw [if_neg h1] at h
      have := ih h
      exact ⟨by omega, this.2⟩
theorem bst_const {t : NT} {u d : Nat} : ∀ k, bst t u d (tN t + k) = bst t u d (tN t) := by
  intro k
  induction k with
  | zero => rfl
  | succ k ih =>
    rw [show tN t + (k + 1) = (tN t + k) + 1 by omega, bst_succ, if_neg, ih]
    unfold cn
    simp
    omega
def nx (t : NT) (u d : Nat) : Option Nat := bst t u d (tN t)
def oI (x : Int32) (o : Option Nat) : Int32 := match o with
  | none => x
  | some b => nI b
theorem n_spc_any {N : NS} (u v : Nat) (hu : u < 49) (hv : v < 49) : ∃ x, f_X0_spacing N (nI u) (nI v) = some x := by
  rw [f_X0_spacing, valueAt_in (by omega) (by omega), Option.bind_some, valueAt_in (by omega) (by omega), Option.bind_some, valueAt_in (by omega) (by omega), Option.bind_some, valueAt_in (by omega) (by omega), Option.bind_some]
  exact ⟨_, rfl⟩
theorem n_clo_none {N : NS} {S : SS} {d : Int32} {z : Int64} (hz : ∀ j, j < 64 → bt6 z j = false) {x7 : Int32} : ∀ (fu i : Nat), i ≤ 49 → 49 - i < fu → g_X1_closest_37 fu S N d z (-1) x7 (nI i) = some (-1) := by
  intro fu
  induction fu with
  | zero => intro i h1 h2; omega
  | succ fu ih =>
    intro i h1 h2
    rw [g_X1_closest_37]
    by_cases hi : 49 ≤ i
    · rw [if_pos (show (49 : Int32) ≤ nI i from nI_le (a := 49) hi (by omega))]
    · rw [if_neg (show ¬ (49 : Int32) ≤ nI i from fun h => by have := (nI_leI (a := 49) (by omega) (by omega)).mp h; omega), isIn_ok _ (by omega), Option.bind_some, hz i (by omega), if_neg ff, if_pos z00, nI_1]
      exact ih (i + 1) (by omega) (by omega)
theorem n_clo {N : NS} {S : SS} {t : NT} (hr : repN N t) (ok : NetOK t) {u d : Nat} (hu : u < tN t) (hd : d < tN t) {z : Int64} (hz : ∀ j, j < 64 → bt6 z j = cn t u j) : ∀ (fu i : Nat), i ≤ 49 → 49 - i < fu → g_X1_closest_37 fu S N (nI d) z (oI (-1) (bst t u d i)) (nI (cur t u d (bst t u d i))) (nI i) = some (oI (-1) (bst t u d 49)) := by
  intro fu
  have h49 := n49 ok
  induction fu with
  | zero => intro i h1 h2; omega
  | succ fu ih =>
    intro i h1 h2
    rw [g_X1_closest_37]
    by_cases hi : 49 ≤ i
    · have : i = 49 := by omega
      subst this
      rw [if_pos (show (49 : Int32) ≤ nI 49 from nI_le (a := 49) (by omega) (by omega))]
    · have e := ih (i + 1) (by omega) (by omega)
      rw [bst_succ] at e
      rw [if_neg (show ¬ (49 : Int32) ≤ nI i from fun h => by have := (nI_leI (a := 49) (by omega) (by omega)).mp h; omega), isIn_ok _ (by omega), Option.bind_some, hz i (by omega)]
      have hc : cur t u d (bst t u d i) ≤ 12 := by
        cases hb : bst t u d i with
        | none => exact far_le ok hu hd
        | some b => exact far_le ok (bst_some hb).2.1 hd
      cases hcn : cn t u i with
      | false =>
        rw [hcn, if_neg (by decide)] at e
        rw [if_neg ff, if_pos z00, nI_1]
        exact e
      | true =>
        have hi2 : i < tN t := by unfold cn at hcn; rw [Bool.and_eq_true, decide_eq_true_eq] at hcn; exact hcn.1
        have hf := far_le ok hi2 hd
        rw [hcn, if_pos rfl] at e
        rw [if_pos rfl, if_neg n10, n_spacing hr ok hi2 hd, Option.bind_some, nI_1]
        by_cases hle : cur t u d (bst t u d i) ≤ far t i d
        · rw [if_pos hle] at e
          rw [if_pos (nI_le hle (by omega))]
          exact e
        · rw [if_neg hle] at e
          rw [if_neg (fun h => by have := (nI_leI (by omega) (by omega)).mp h; omega), Option.bind_some]
          exact e
theorem m_next_at {M : MS} {t : NT} (hr : repW M.1 t) (ok : NetOK t) {u d : Nat} (hu : u < tN t) (hd : d < tN t) : ∀ (fu i : Nat), i ≤ tN t → tN t - i < fu → g_X3_nextTo_6 fu M (nI u) (nI d) (oI (-9) (bst t u d i)) (nI i) = some (oI (-9) (nx t u d)) := by
  intro fu
  have h49 := n49 ok
  induction fu with
  | zero => intro i h1 h2; omega
  | succ fu ih =>
    intro i h1 h2
    rw [g_X3_nextTo_6, m_nodes hr, Option.bind_some]
    by_cases hi : tN t ≤ i
    · have : i = tN t := by omega
      subst this
      rw [if_pos (nI_le hi (by omega))]
      rfl
    · have hi2 : i < tN t := by omega
      have e := ih (i + 1) (by omega) (by omega)
      rw [bst_succ] at e
      rw [if_neg (fun h => by have := (nI_leI (by omega) (by omega)).mp h; omega), m_isContact hr ok hu hi2, Option.bind_some]
      have hcn : cn t u i = con t u i := by unfold cn; simp [hi2]
      rw [hcn] at e
      cases hc : con t u i with
      | false =>
        rw [hc, if_neg (by decide)] at e
        rw [if_neg ff, if_pos z00, nI_1]
        exact e
      | true =>
        have hf := far_le ok hi2 hd
        rw [hc, if_pos rfl] at e
        rw [if_pos rfl, if_neg n10, m_far hr ok hi2 hd, Option.bind_some, nI_1]
        cases hb : bst t u d i with
        | none =>
          have hf2 := far_le ok hu hd
          rw [hb] at e
          rw [if_pos (show oI (-9) none = -9 from rfl), m_far hr ok hu hd, Option.bind_some]
          by_cases hle : far t u d ≤ far t i d
          · rw [if_pos (show cur t u d none ≤ far t i d from hle)] at e
            rw [if_pos (nI_le hle (by omega))]
            exact e
          · rw [if_neg (show ¬ cur t u d none ≤ far t i d from hle)] at e
            rw [if_neg (fun h => by have := (nI_leI (by omega) (by omega)).mp h; omega)]
            exact e
        | some b =>
          obtain ⟨b1, b2, -⟩ := bst_some hb
          have hf2 := far_le ok b2 hd
          have hb9 : ¬ oI (-9) (some b) = -9 := by
            intro e
            have := nI_pos (n := b) (by omega)
            rw [show nI b = -9 from e] at this
            exact this (by decide)
          rw [hb] at e
          rw [if_neg hb9, show oI (-9) (some b) = nI b from rfl, m_far hr ok b2 hd, Option.bind_some]
          by_cases hle : far t b d ≤ far t i d
          · rw [if_pos (show cur t u d (some b) ≤ far t i d from hle)] at e
            rw [if_pos (nI_le hle (by omega))]
            exact e
          · rw [if_neg (show ¬ cur t u d (some b) ≤ far t i d from hle)] at e
            rw [if_neg (fun h => by have := (nI_leI (by omega) (by omega)).mp h; omega)]
            exact e
theorem m_next {M : MS} {t : NT} (hr : repW M.1 t) (ok : NetOK t) {u d : Nat} (hu : u < tN t) (hd : d < tN t) : f_X3_nextTo M (nI u) (nI d) = some (oI (-9) (nx t u d)) := by
  have h49 := n49 ok
  rw [f_X3_nextTo]
  exact m_next_at hr ok hu hd FU 0 (by omega) (by unfold FU; omega)
theorem n_closest {N : NS} {S : SS} {t : NT} (hr : repN N t) (ok : NetOK t) (hc : CR t S.1) {v d : Nat} (hv : v < 49) (hd : d < tN t) : f_X1_closest S N (nI v) (nI d) = some (if v < tN t ∧ tR t v = true then oI (-1) (nx t v d) else -1) := by
  have h49 := n49 ok
  rw [f_X1_closest, if_neg (nI_pos (by omega)), if_pos (nI_lt hv (by omega)), gd_t (inB_nI hv (by omega)), nI_clamp (by omega)]
  simp only [bindv]
  have hcv := hc v hv
  by_cases h : v < tN t ∧ tR t v = true
  · rw [if_pos h, n_spacing hr ok h.1 hd, Option.bind_some]
    have := n_clo (S := S) hr ok h.1 hd (z := S.1 v) (fun j hj => by rw [hcv j hj]; simp [h.1, h.2]) FU 0 (by omega) (by unfold FU; omega)
    have hk := bst_const (t := t) (u := v) (d := d) (49 - tN t)
    rw [show tN t + (49 - tN t) = 49 by omega] at hk
    rw [hk] at this
    exact this
  · obtain ⟨x, hx⟩ := n_spc_any (N := N) v d hv (by omega)
    rw [if_neg h, hx, Option.bind_some]
    exact n_clo_none (fun j hj => by
      rw [hcv j hj]
      have : (decide (v < tN t) && tR t v) = false := by
        cases h2 : (decide (v < tN t) && tR t v) with
        | false => rfl
        | true => rw [Bool.and_eq_true, decide_eq_true_eq] at h2; exact absurd h2 h
      rw [this, Bool.false_and]) FU 0 (by omega) (by unfold FU; omega)
def AIM (t : NT) (d : Nat) (a : Nat → Int32) : Prop := ∀ v, v < tN t → tR t v = true → a v = oI (-1) (nx t v d)
theorem n_aim_at {N : NS} {t : NT} (hr : repN N t) (ok : NetOK t) {d : Nat} (hd : d < tN t) : ∀ (fu i : Nat) (S : SS), i ≤ 49 → 49 - i < fu → CR t S.1 → (∀ v, v < i → v < tN t → tR t v = true → S.2.2.2.1 v = oI (-1) (nx t v d)) → ∃ a, g_X1_aimAt_2 fu S N (nI d) (nI i) = some (S.1, S.2.1, S.2.2.1, a, S.2.2.2.2) ∧ AIM t d a := by
  intro fu
  have h49 := n49 ok
  induction fu with
  | zero => intro i S h1 h2; omega
  | succ fu ih =>
    intro i S h1 h2 hc hS
    rw [g_X1_aimAt_2]
    by_cases hi : 49 ≤ i
    · rw [if_pos (nI_le hi (by omega))]
      exact ⟨_, rfl, fun v hv => hS v (by omega) hv⟩
    · rw [if_neg (fun h => by have := (nI_leI (by omega) (by omega)).mp h; omega), n_closest hr ok hc (by omega) hd, Option.bind_some, gd_t (inB_nI (by omega) (by omega)), nI_1, nI_clamp (by omega)]
      obtain ⟨a, e1, e2⟩ := ih (i + 1) (S.1, S.2.1, S.2.2.1, (upd S.2.2.2.1 i (if i < tN t ∧ tR t i = true then oI (-1) (nx t i d) else -1)), S.2.2.2.2.1, S.2.2.2.2.2.1, S.2.2.2.2.2.2) (by omega) (by omega) hc (fun v hv h3 h4 => by
        show upd S.2.2.2.1 i _ v = _
        unfold upd
        by_cases h : v = i
        · rw [if_pos h, if_pos (by rw [← h]; exact ⟨h3, h4⟩), h]
        · rw [if_neg h]; exact hS v (by omega) h3 h4)
      exact ⟨a, e1, e2⟩
theorem n_aim {N : NS} {t : NT} (hr : repN N t) (ok : NetOK t) {d : Nat} (hd : d < tN t) (S : SS) (hc : CR t S.1) : ∃ a, f_X1_aimAt S N (nI d) = some (S.1, S.2.1, S.2.2.1, a, S.2.2.2.2) ∧ AIM t d a := by
  rw [f_X1_aimAt]
  exact n_aim_at hr ok hd FU 0 S (by omega) (by unfold FU; omega) hc (fun v hv => absurd hv (Nat.not_lt_zero _))
