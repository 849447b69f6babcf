/-! ===== the class's ways ===== -/
def adj (t : NT) (u v : Nat) : Bool := (decide (u < tN t) && tR t u) && cn t u v
theorem adj_lt {t : NT} (ok : NetOK t) {u v : Nat} (h : adj t u v = true) : u < tN t ∧ v < tN t ∧ tR t u = true ∧ tR t v = true ∧ con t u v = true := by
  unfold adj cn at h
  simp only [Bool.and_eq_true, decide_eq_true_eq] at h
  exact ⟨h.1.1, h.2.1, h.1.2, ((con_iff t u v).mp h.2.2).2.1, h.2.2⟩
def WY (x : Int32) (a : Nat → Nat → Bool) (d k : Nat) (w : Nat → Int32) : Prop := ∀ u, u < 49 → w u = oI x (gq a d u k)
def FR (a : Nat → Nat → Bool) (d k : Nat) (z : Int64) : Prop := ∀ u, u < 64 → (bt6 z u = true ↔ u < 49 ∧ gq a d u (k + 1) = some k)
theorem oI_m1 {o : Option Nat} (h : ∀ j, o = some j → j < 2 ^ 31) : oI (-1) o = -1 ↔ o = none := by
  cases o with
  | none => exact ⟨fun _ => rfl, fun _ => rfl⟩
  | some j => exact ⟨fun e => absurd e (nI_neg1 (h j rfl)), fun e => (by cases e)⟩
theorem cmp_z (z : Int64) : (lg_cmp z (0 : Int64)) = 0 ↔ z = 0 := by
  unfold lg_cmp
  by_cases h1 : z > 0
  · rw [if_pos h1]
    exact ⟨fun h => absurd h (by decide), fun h => by rw [h] at h1; exact absurd h1 (by decide)⟩
  · rw [if_neg h1]
    by_cases h2 : z = 0
    · rw [if_pos h2]; exact ⟨fun _ => h2, fun _ => rfl⟩
    · rw [if_neg h2]; exact ⟨fun h => absurd h (by decide), fun h => absurd h h2⟩
theorem z_iff (z : Int64) : z = 0 ↔ ∀ u, u < 64 → bt6 z u = false := ⟨fun h u _ => by rw [h, b6_0], fun h => b6_ext (fun u hu => by rw [h u hu, b6_0])⟩
theorem n_layer_at {a : Nat → Nat → Bool} (ha : ∀ u v, a u v = true → v < 49) {d k : Nat} (hk : k < 49) {z : Int64} (hz : FR a d k z) : ∀ (fu i : Nat) (S : SS) (acc : Int64), i ≤ 49 → 49 - i < fu → (∀ v, v < 49 → ∀ j, j < 64 → bt6 (S.1 v) j = a v j) → (∀ u, u < 49 → S.2.1 u = oI (-1) (gq a d u (if u < i then k + 2 else k + 1))) → (∀ u, u < 64 → (bt6 acc u = true ↔ u < i ∧ u < 49 ∧ gq a d u (k + 2) = some (k + 1))) → ∃ z' w', g_X1_layerBefore_6 fu S z (nI (k + 1)) acc (nI i) = some (z', (S.1, w', S.2.2)) ∧ WY (-1) a d (k + 2) w' ∧ FR a d (k + 1) z' := by
  intro fu
  induction fu with
  | zero => intro i S acc h1 h2; omega
  | succ fu ih =>
    intro i S acc h1 h2 hc hw hacc
    rw [g_X1_layerBefore_6]
    by_cases hi : 49 ≤ i
    · have : i = 49 := by omega
      subst this
      rw [if_pos (nI_le hi (by omega))]
      refine ⟨_, _, rfl, fun u hu => ?_, fun u hu => ?_⟩
      · rw [hw u hu, if_pos hu]
      · rw [hacc u hu]
        exact ⟨fun h => h.2, fun h => ⟨h.1, h⟩⟩
    · have hni : ¬ nI 49 ≤ nI i := fun h => by have := (nI_leI (by omega) (by omega)).mp h; omega
      rw [if_neg hni, if_neg hni, gd_t (inB_nI (by omega) (by omega)), nI_clamp (by omega), nI_1]
      have hwi := hw i (by omega)
      rw [if_neg (Nat.lt_irrefl _)] at hwi
      -- carrying the two facts over one node
      have nextw : ∀ (w2 : Nat → Int32), w2 i = oI (-1) (gq a d i (k + 2)) → (∀ u, u ≠ i → w2 u = S.2.1 u) → ∀ u, u < 49 → w2 u = oI (-1) (gq a d u (if u < i + 1 then k + 2 else k + 1)) := by
        intro w2 e1 e2 u hu
        by_cases h : u = i
        · rw [h, if_pos (by omega), e1]
        · rw [e2 u h, hw u hu]
          by_cases h3 : u < i
          · rw [if_pos h3, if_pos (by omega)]
          · rw [if_neg h3, if_neg (by omega)]
      cases hg : gq a d i (k + 1) with
      | some j =>
        have hj := (gq_some.mp hg).1
        rw [hg] at hwi
        rw [hwi, if_neg (show ¬ oI (-1) (some j) = -1 from nI_neg1 (by omega))]
        refine ih (i + 1) S acc (by omega) (by omega) hc (nextw S.2.1 (by rw [gq_keep hg (show k + 1 ≤ k + 2 by omega)]; exact hwi) (fun u _ => rfl)) (fun u hu => ?_)
        rw [hacc u hu]
        constructor
        · rintro ⟨q1, q2⟩; exact ⟨by omega, q2⟩
        · rintro ⟨q1, q2, q3⟩
          by_cases h : u = i
          · exfalso
            rw [h, gq_keep hg (show k + 1 ≤ k + 2 by omega)] at q3
            injection q3 with q3
            omega
          · exact ⟨by omega, q2, q3⟩
      | none =>
        rw [hg] at hwi
        rw [hwi, if_pos (show oI (-1) none = -1 from rfl), gd_t (inB_nI (by omega) (by omega))]
        have key : (lg_cmp (S.1 i &&& z) (0 : Int64)) = 0 ↔ ¬ 0 < GW a d (k + 1) i := by
          rw [cmp_z, z_iff, gq_new hg]
          constructor
          · rintro h ⟨v, v1, v2, v3⟩
            have := h v (by omega)
            rw [b6_and, hc i (by omega) v (by omega), v2, (hz v (by omega)).mpr ⟨v1, v3⟩] at this
            cases this
          · intro h u hu
            rw [b6_and, hc i (by omega) u hu]
            cases h2 : a i u with
            | false => rfl
            | true =>
              cases h3 : bt6 z u with
              | false => rfl
              | true =>
                have := (hz u hu).mp h3
                exact absurd ⟨u, this.1, h2, this.2⟩ h
        by_cases hp : 0 < GW a d (k + 1) i
        · have hgn : gq a d i (k + 2) = some (k + 1) := by
            rw [gq_step, hg]
            show (if 0 < GW a d (k + 1) i then some (k + 1) else none) = _
            rw [if_pos hp]
          rw [if_neg (fun h => key.mp h hp), gd_t (inB_nI (by omega) (by omega))]
          obtain ⟨b, hb, hb2⟩ := only_ok (k := i) (by omega)
          rw [hb, Option.bind_some]
          obtain ⟨z', w', e1, e2, e3⟩ := ih (i + 1) (S.1, upd S.2.1 i (nI (k + 1)), S.2.2.1, S.2.2.2.1, S.2.2.2.2.1, S.2.2.2.2.2.1, S.2.2.2.2.2.2) (acc ||| b) (by omega) (by omega) hc (nextw (upd S.2.1 i (nI (k + 1))) (by unfold upd; rw [if_pos rfl, hgn]; rfl) (fun u hu => by unfold upd; rw [if_neg hu])) (fun u hu => by
            rw [b6_or, Bool.or_eq_true, hacc u hu, hb2 u hu, decide_eq_true_eq]
            constructor
            · rintro (⟨q1, q2⟩ | q1)
              · exact ⟨by omega, q2⟩
              · rw [q1]; exact ⟨by omega, by omega, hgn⟩
            · rintro ⟨q1, q2⟩
              by_cases h : u = i
              · exact Or.inr h
              · exact Or.inl ⟨by omega, q2⟩)
          exact ⟨z', w', e1, e2, e3⟩
        · have hgn : gq a d i (k + 2) = none := by
            rw [gq_step, hg]
            show (if 0 < GW a d (k + 1) i then some (k + 1) else none) = _
            rw [if_neg hp]
          rw [if_pos (key.mpr hp)]
          refine ih (i + 1) S acc (by omega) (by omega) hc (nextw S.2.1 (by rw [hgn]; exact hwi) (fun u _ => rfl)) (fun u hu => ?_)
          rw [hacc u hu]
          constructor
          · rintro ⟨q1, q2⟩; exact ⟨by omega, q2⟩
          · rintro ⟨q1, q2, q3⟩
            by_cases h : u = i
            · exfalso
              rw [h, hgn] at q3
              cases q3
            · exact ⟨by omega, q2, q3⟩
theorem n_layer {a : Nat → Nat → Bool} (ha : ∀ u v, a u v = true → v < 49) {d k : Nat} (hk : k < 49) {z : Int64} (hz : FR a d k z) (S : SS) (hc : ∀ v, v < 49 → ∀ j, j < 64 → bt6 (S.1 v) j = a v j) (hw : WY (-1) a d (k + 1) S.2.1) : ∃ z' w', f_X1_layerBefore S z (nI (k + 1)) = some (z', (S.1, w', S.2.2)) ∧ WY (-1) a d (k + 2) w' ∧ FR a d (k + 1) z' := by
  rw [f_X1_layerBefore]
  exact n_layer_at ha hk hz FU 0 S 0 (by omega) (by unfold FU; omega) hc (fun u hu => by rw [if_neg (Nat.not_lt_zero _)]; exact hw u hu) (fun u hu => ⟨fun h => (by rw [b6_0] at h; cases h), fun h => absurd h.1 (Nat.not_lt_zero _)⟩)
theorem n_ways41 {a : Nat → Nat → Bool} (ha : ∀ u v, a u v = true → v < 49) {d : Nat} : ∀ (fu k : Nat) (S : SS) (z : Int64), k < 49 → 49 - k < fu → FR a d k z → (∀ v, v < 49 → ∀ j, j < 64 → bt6 (S.1 v) j = a v j) → WY (-1) a d (k + 1) S.2.1 → ∃ w', g_X1_findWaysTo_41 fu S z (nI (k + 1)) = some (S.1, w', S.2.2) ∧ WY (-1) a d 49 w' := by
  intro fu
  induction fu with
  | zero => intro k S z h1 h2; omega
  | succ fu ih =>
    intro k S z h1 h2 hz hc hw
    rw [g_X1_findWaysTo_41]
    by_cases hk : k + 1 = 49
    · rw [if_pos (show (49 : Int32) ≤ nI (k + 1) from nI_le (a := 49) (by omega) (by omega))]
      rw [hk] at hw
      exact ⟨_, rfl, hw⟩
    · rw [if_neg (show ¬ (49 : Int32) ≤ nI (k + 1) from fun h => by have := (nI_leI (a := 49) (by omega) (by omega)).mp h; omega)]
      by_cases h0 : z = 0
      · rw [if_pos ((cmp_z z).mpr h0)]
        refine ⟨_, rfl, fun u hu => ?_⟩
        have hs := gq_stop (a := a) (b := d) (k := k) (fun u hu e => by
          have := (hz u (by omega)).mpr ⟨hu, e⟩
          rw [h0, b6_0] at this
          cases this)
        have e1 := hs 1 u hu
        have e2 := hs (49 - k) u hu
        rw [show k + (49 - k) = 49 by omega] at e2
        rw [hw u hu, e1, e2]
      · rw [if_neg (fun h => h0 ((cmp_z z).mp h))]
        obtain ⟨z', w', e1, e2, e3⟩ := n_layer ha h1 hz S hc hw
        rw [e1, Option.bind_some, nI_1]
        exact ih (k + 1) (S.1, w', S.2.2) z' (by omega) (by omega) e3 hc e2
theorem gq_one (a : Nat → Nat → Bool) (d u : Nat) : gq a d u 1 = if u = d then some 0 else none := by
  rw [gq_step]
  show (if 0 < GW a d 0 u then some 0 else none) = _
  rw [GW_0]
  by_cases h : u = d
  · rw [if_pos h, if_pos h, if_pos (by omega)]
  · rw [if_neg h, if_neg h, if_neg (by omega)]
theorem n_ways2 {a : Nat → Nat → Bool} (ha : ∀ u v, a u v = true → v < 49) {d : Nat} (hd : d < 49) : ∀ (fu i : Nat) (S : SS), i ≤ 49 → 49 - i < fu → (∀ v, v < 49 → ∀ j, j < 64 → bt6 (S.1 v) j = a v j) → (∀ u, u < i → S.2.1 u = oI (-1) (gq a d u 1)) → ∃ w', g_X1_findWaysTo_2 fu S (nI d) (nI i) = some (S.1, w', S.2.2) ∧ WY (-1) a d 49 w' := by
  intro fu
  induction fu with
  | zero => intro i S h1 h2; omega
  | succ fu ih =>
    intro i S h1 h2 hc hw
    rw [g_X1_findWaysTo_2]
    by_cases hi : 49 ≤ i
    · have : i = 49 := by omega
      subst this
      obtain ⟨b, hb, hb2⟩ := only_ok (k := d) (by omega)
      rw [if_pos (nI_le hi (by omega)), hb, Option.bind_some]
      exact n_ways41 ha FU 0 S b (by omega) (by unfold FU; omega) (fun u hu => by
        rw [hb2 u hu, decide_eq_true_eq, gq_one]
        constructor
        · intro e; rw [if_pos e, e]; exact ⟨hd, rfl⟩
        · rintro ⟨_, e⟩
          by_cases h : u = d
          · exact h
          · rw [if_neg h] at e; cases e) hc hw
    · rw [if_neg (fun h => by have := (nI_leI (by omega) (by omega)).mp h; omega)]
      have nextw : ∀ x, x = oI (-1) (gq a d i 1) → ∀ u, u < i + 1 → upd S.2.1 i x u = oI (-1) (gq a d u 1) := by
        intro x hx u hu
        unfold upd
        by_cases h : u = i
        · rw [if_pos h, hx, h]
        · rw [if_neg h]; exact hw u (by omega)
      by_cases hid : i = d
      · rw [if_pos (show nI i = nI d by rw [hid]), gd_t (inB_nI (by omega) (by omega)), nI_clamp (by omega), nI_1]
        obtain ⟨w', e1, e2⟩ := ih (i + 1) (S.1, upd S.2.1 i 0, S.2.2.1, S.2.2.2.1, S.2.2.2.2.1, S.2.2.2.2.2.1, S.2.2.2.2.2.2) (by omega) (by omega) hc (nextw 0 (by rw [gq_one, if_pos hid]; rfl))
        exact ⟨w', e1, e2⟩
      · rw [if_neg (fun h => hid ((nI_eq (by omega) (by omega)).mp h)), gd_t (inB_nI (by omega) (by omega)), nI_clamp (by omega), nI_1]
        obtain ⟨w', e1, e2⟩ := ih (i + 1) (S.1, upd S.2.1 i (-1), S.2.2.1, S.2.2.2.1, S.2.2.2.2.1, S.2.2.2.2.2.1, S.2.2.2.2.2.2) (by omega) (by omega) hc (nextw (-1) (by rw [gq_one, if_neg hid]; rfl))
        exact ⟨w', e1, e2⟩
theorem adj_49 {t : NT} (ok : NetOK t) : ∀ u v, adj t u v = true → v < 49 := fun u v h => by
  have := (adj_lt ok h).2.1
  have := n49 ok
  omega
theorem n_ways {t : NT} (ok : NetOK t) {d : Nat} (hd : d < tN t) (S : SS) (hc : CR t S.1) : ∃ w', f_X1_findWaysTo S (nI d) = some (S.1, w', S.2.2) ∧ WY (-1) (adj t) d 49 w' := by
  have h49 := n49 ok
  rw [f_X1_findWaysTo]
  exact n_ways2 (adj_49 ok) (by omega) FU 0 S (by omega) (by unfold FU; omega) hc (fun u hu => absurd hu (Nat.not_lt_zero _))
theorem n_wayFrom {S : SS} {a : Nat → Nat → Bool} {d u : Nat} (h : WY (-1) a d 49 S.2.1) (hu : u < 49) : f_X1_wayFrom S (nI u) = some (oI (-1) (gq a d u 49)) := by
  rw [f_X1_wayFrom, if_neg (nI_pos (by omega)), if_neg (fun h => by have := (nI_leI (by omega) (by omega)).mp h; omega), gd_t (inB_nI (by omega) (by omega)), nI_clamp (by omega), h u hu]
