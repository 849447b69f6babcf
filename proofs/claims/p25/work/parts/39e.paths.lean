/-! ===== the class's numbers of paths ===== -/
theorem oI_eq {x : Int32} {o : Option Nat} {k : Nat} (hx : x < 0) (h : ∀ j, o = some j → j < 2 ^ 31) (hk : k < 2 ^ 31) : oI x o = nI k ↔ o = some k := by
  cases o with
  | none =>
    constructor
    · intro e
      have e' : x = nI k := e
      rw [e'] at hx
      exact absurd hx (nI_pos hk)
    · intro e; cases e
  | some j =>
    constructor
    · intro e; rw [(nI_eq (h j rfl) hk).mp e]
    · intro e; injection e with e; rw [e]; rfl
def PT (a : Nat → Nat → Bool) (d k i : Nat) (p : Nat → Int64) : Prop := ∀ u, u < 49 → ∀ j, gq a d u 49 = some j → (j < k ∨ (j = k ∧ u < i)) → p u = lN (GW a d j u)
theorem m1_neg : (-1 : Int32) < 0 := by decide
theorem gq_31 {a : Nat → Nat → Bool} {d u : Nat} : ∀ j, gq a d u 49 = some j → j < 2 ^ 31 := fun j h => by
  have := (gq_some.mp h).1
  omega
def pin (a : Nat → Nat → Bool) (d k u v : Nat) : Nat := if a u v then (if gq a d v 49 = some k then GW a d k v else 0) else 0
theorem pin_sum {a : Nat → Nat → Bool} {d k u : Nat} (h : gq a d u 49 = some (k + 1)) : fb_sm (pin a d k u) 49 = GW a d (k + 1) u := by
  obtain ⟨h1, h2, h3⟩ := gq_some.mp h
  rw [GW_s]
  refine fb_sm_cong (fun v hv => ?_)
  unfold pin
  cases ha : a u v with
  | false => rfl
  | true =>
    rw [if_pos rfl, if_pos rfl]
    by_cases hg : gq a d v 49 = some k
    · rw [if_pos hg]
    · rw [if_neg hg]
      rcases Nat.eq_zero_or_pos (GW a d k v) with h0 | h0
      · exact h0.symm
      · exfalso
        apply hg
        refine gq_some.mpr ⟨by omega, h0, fun i hi => ?_⟩
        rcases Nat.eq_zero_or_pos (GW a d i v) with h4 | h4
        · exact h4
        · have := h3 (i + 1) (by omega)
          have h5 := GW_pos.mpr ⟨v, hv, ha, h4⟩
          omega
theorem n_over_at {a : Nat → Nat → Bool} {d k u : Nat} (hk : k < 49) (hu : u < 49) {S : SS} (hc : ∀ v, v < 49 → ∀ j, j < 64 → bt6 (S.1 v) j = a v j) (hw : WY (-1) a d 49 S.2.1) {k2 i2 : Nat} (hp : PT a d k2 i2 S.2.2.1) (hk2 : k < k2) : ∀ (fu i : Nat), i ≤ 49 → 49 - i < fu → g_X1_pathsOverContacts_20 fu S (nI u) (nI k) (lN (fb_sm (pin a d k u) i)) (nI i) = some (lN (fb_sm (pin a d k u) 49)) := by
  intro fu
  induction fu with
  | zero => intro i h1 h2; omega
  | succ fu ih =>
    intro i h1 h2
    rw [g_X1_pathsOverContacts_20]
    by_cases hi : 49 ≤ i
    · have : i = 49 := by omega
      subst this
      rw [if_pos (nI_le hi (by omega))]
    · have hni : ¬ nI 49 ≤ nI i := fun h => by have := (nI_leI (by omega) (by omega)).mp h; omega
      rw [if_neg hni, if_neg hni, gd_t (inB_nI (by omega) (by omega)), nI_clamp (by omega), nI_clamp (by omega), nI_1, hw i (by omega)]
      have e := ih (i + 1) (by omega) (by omega)
      rw [fb_sm_succ] at e
      by_cases hg : gq a d i 49 = some k
      · rw [if_pos ((oI_eq m1_neg gq_31 (by omega)).mpr hg), gd_t (inB_nI (by omega) (by omega)), isIn_ok _ (by omega), Option.bind_some, hc u hu i (by omega)]
        cases ha : a u i with
        | false =>
          rw [show pin a d k u i = 0 by unfold pin; rw [ha, if_neg ff]] at e
          rw [if_neg ff, if_pos z00]
          exact e
        | true =>
          rw [show pin a d k u i = GW a d k i by unfold pin; rw [ha, if_pos rfl, if_pos hg]] at e
          rw [if_pos rfl, if_neg n10, gd_t (inB_nI (by omega) (by omega))]
          simp only [bindv]
          rw [hp i (by omega) k hg (Or.inl hk2), lN_add]
          exact e
      · rw [if_neg (fun h => hg ((oI_eq m1_neg gq_31 (by omega)).mp h))]
        rw [show pin a d k u i = 0 by unfold pin; rw [if_neg hg]; cases a u i <;> rfl] at e
        exact e
theorem n_over {a : Nat → Nat → Bool} {d k u : Nat} (hk : k < 49) (hu : u < 49) {S : SS} (hc : ∀ v, v < 49 → ∀ j, j < 64 → bt6 (S.1 v) j = a v j) (hw : WY (-1) a d 49 S.2.1) {k2 i2 : Nat} (hp : PT a d k2 i2 S.2.2.1) (hk2 : k < k2) (hg : gq a d u 49 = some (k + 1)) : f_X1_pathsOverContacts S (nI u) (nI k) = some (lN (GW a d (k + 1) u)) := by
  rw [f_X1_pathsOverContacts, if_neg (nI_pos (by omega)), if_pos (nI_lt hu (by omega)), ← pin_sum hg]
  exact n_over_at hk hu hc hw hp hk2 FU 0 (by omega) (by unfold FU; omega)
theorem n_cp10 {a : Nat → Nat → Bool} {d k : Nat} (hd : d < 49) (hk : k < 49) {K : SS → Int32 → Option SS} : ∀ (fu i : Nat) (S : SS), i ≤ 49 → 49 - i < fu → (∀ v, v < 49 → ∀ j, j < 64 → bt6 (S.1 v) j = a v j) → WY (-1) a d 49 S.2.1 → PT a d k i S.2.2.1 → ∃ p', g_X1_countPaths_10 K fu S (nI k) (nI i) = K (S.1, S.2.1, p', S.2.2.2) (nI (k + 1)) ∧ PT a d (k + 1) 0 p' := by
  intro fu
  induction fu with
  | zero => intro i S h1 h2; omega
  | succ fu ih =>
    intro i S h1 h2 hc hw hp
    rw [g_X1_countPaths_10]
    by_cases hi : 49 ≤ i
    · have : i = 49 := by omega
      subst this
      rw [if_pos (nI_le hi (by omega)), nI_1]
      exact ⟨_, rfl, fun u hu j hj h => hp u hu j hj (by omega)⟩
    · have hni : ¬ nI 49 ≤ nI i := fun h => by have := (nI_leI (by omega) (by omega)).mp h; omega
      rw [if_neg hni, if_neg hni, gd_t (inB_nI (by omega) (by omega)), nI_clamp (by omega), nI_1, hw i (by omega)]
      by_cases hg : gq a d i 49 = some k
      · rw [if_pos ((oI_eq m1_neg gq_31 (by omega)).mpr hg)]
        have stp : ∀ z, z = lN (GW a d k i) → PT a d k (i + 1) (vp_updL S.2.2.1 i z) := by
          intro z hz u hu j hj h
          unfold vp_updL
          by_cases h3 : u = i
          · subst h3
            rw [hg] at hj
            injection hj with hj
            rw [if_pos rfl, hz, hj]
          · rw [if_neg h3]
            exact hp u hu j hj (by omega)
        by_cases h0 : k = 0
        · rw [if_pos (show nI k = 0 by rw [h0]; rfl), gd_t (inB_nI (by omega) (by omega))]
          have hid : i = d := by
            have := (gq_some.mp hg).2.1
            rw [h0, GW_0] at this
            by_cases h : i = d
            · exact h
            · rw [if_neg h] at this; omega
          obtain ⟨p', e1, e2⟩ := ih (i + 1) (S.1, S.2.1, (vp_updL S.2.2.1 i (1 : Int64)), S.2.2.2.1, S.2.2.2.2.1, S.2.2.2.2.2.1, S.2.2.2.2.2.2) (by omega) (by omega) hc hw (stp 1 (by rw [h0, GW_0, if_pos hid]; rfl))
          exact ⟨p', e1, e2⟩
        · obtain ⟨k', rfl⟩ : ∃ k', k = k' + 1 := ⟨k - 1, by omega⟩
          rw [if_neg (show ¬ nI (k' + 1) = 0 from fun h => h0 ((nI_eq (b := 0) (by omega) (by omega)).mp h)), nI_p1, n_over (by omega) (by omega) hc hw hp (by omega) hg, Option.bind_some, gd_t (inB_nI (by omega) (by omega))]
          obtain ⟨p', e1, e2⟩ := ih (i + 1) (S.1, S.2.1, (vp_updL S.2.2.1 i (lN (GW a d (k' + 1) i))), S.2.2.2.1, S.2.2.2.2.1, S.2.2.2.2.2.1, S.2.2.2.2.2.2) (by omega) (by omega) hc hw (stp _ rfl)
          exact ⟨p', e1, e2⟩
      · rw [if_neg (fun h => hg ((oI_eq m1_neg gq_31 (by omega)).mp h))]
        refine ih (i + 1) S (by omega) (by omega) hc hw (fun u hu j hj h => ?_)
        by_cases h3 : u = i ∧ j = k
        · exfalso
          rw [h3.1, h3.2] at hj
          exact hg hj
        · exact hp u hu j hj (by omega)
theorem n_cp {a : Nat → Nat → Bool} {d : Nat} (hd : d < 49) : ∀ (fu k : Nat) (S : SS), k ≤ 49 → 49 - k < fu → (∀ v, v < 49 → ∀ j, j < 64 → bt6 (S.1 v) j = a v j) → WY (-1) a d 49 S.2.1 → PT a d k 0 S.2.2.1 → ∃ p', g_X1_countPaths_2 fu S (nI k) = some (S.1, S.2.1, p', S.2.2.2) ∧ PT a d 49 0 p' := by
  intro fu
  induction fu with
  | zero => intro k S h1 h2; omega
  | succ fu ih =>
    intro k S h1 h2 hc hw hp
    rw [g_X1_countPaths_2]
    by_cases hk : 49 ≤ k
    · have : k = 49 := by omega
      subst this
      rw [if_pos (show (49 : Int32) ≤ nI 49 from nI_le (a := 49) (by omega) (by omega))]
      exact ⟨_, rfl, hp⟩
    · rw [if_neg (show ¬ (49 : Int32) ≤ nI k from fun h => by have := (nI_leI (a := 49) (by omega) (by omega)).mp h; omega)]
      obtain ⟨p1, e1, e2⟩ := n_cp10 (K := fun S' x1' => g_X1_countPaths_2 fu S' x1') hd (by omega) FU 0 S (by omega) (by unfold FU; omega) hc hw hp
      obtain ⟨p', e3, e4⟩ := ih (k + 1) (S.1, S.2.1, p1, S.2.2.2) (by omega) (by omega) hc hw e2
      exact ⟨p', e1.trans e3, e4⟩
/-- the number of shortest ways from u, as both sides give it -/
def nway (a : Nat → Nat → Bool) (d u : Nat) : Int64 := match gq a d u 49 with
  | none => 0
  | some j => lN (GW a d j u)
theorem n_paths {t : NT} (ok : NetOK t) {d : Nat} (hd : d < tN t) (S : SS) (hc : CR t S.1) (hw : WY (-1) (adj t) d 49 S.2.1) : ∃ S', f_X1_countPaths S = some S' ∧ ∀ u, u < 49 → f_X1_pathsFrom S' (nI u) = some (nway (adj t) d u) := by
  have h49 := n49 ok
  rw [f_X1_countPaths]
  obtain ⟨p', e1, e2⟩ := n_cp (a := adj t) (d := d) (by omega) FU 0 S (by omega) (by unfold FU; omega) hc hw (fun u hu j hj h => by omega)
  refine ⟨_, e1, fun u hu => ?_⟩
  rw [f_X1_pathsFrom, n_wayFrom (S := (S.1, S.2.1, p', S.2.2.2)) (a := adj t) (d := d) hw hu, Option.bind_some]
  unfold nway
  cases hg : gq (adj t) d u 49 with
  | none =>
    rw [if_pos (show oI (-1) none = -1 from rfl), g_X1_pathsFrom_14, if_pos z00]
  | some j =>
    rw [if_neg (show ¬ oI (-1) (some j) = -1 from nI_neg1 (by have := (gq_some.mp hg).1; omega)), g_X1_pathsFrom_14, if_neg n10, if_neg (nI_pos (by omega)), if_neg (fun h => by have := (nI_leI (by omega) (by omega)).mp h; omega), gd_t (inB_nI (by omega) (by omega)), nI_clamp (by omega)]
    have := e2 u hu j hg (Or.inl (gq_some.mp hg).1)
    rw [show (S.1, S.2.1, p', S.2.2.2).2.2.1 u = p' u from rfl, this]
