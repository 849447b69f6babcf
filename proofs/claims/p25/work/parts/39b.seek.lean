theorem RelH_congr {V : HS} {M M' : MS} (h1 : M'.2.1 = M.2.1) (h2 : M'.2.2.1 = M.2.2.1) (h3 : M'.2.2.2.1 = M.2.2.2.1) (h4 : M'.2.2.2.2.1 = M.2.2.2.2.1) (h : RelH V M) : RelH V M' := by
  unfold RelH
  rw [h1, h2, h3, h4]
  exact h
/-- one lookup with its rewiring, on both sides -/
theorem look_law {V : HS} {S : SS} {M : MS} {N : NS} {t : NT} (ok : NetOK t) (hr : repN N t) (hw : repW M.1 t) {u d : Nat} (hu : u < tN t) (hd : d < tN t) (hpu : tR t u = true) (hpd : tR t d = true) : ∃ (z : Int32) (n : Nat) (t' : NT) (N' : NS) (S' : SS) (M' : MS), f_X2_lookUpAndRewire V N S (nI u) (nI d) = some (z, N', S') ∧ f_X3_lookUp M (nI u) (nI d) = some M' ∧ M'.2.2.2.2.2.2.1 = nI n ∧ M'.2.2.2.2.2.2.2.1 = z ∧ (M'.2.1 = M.2.1 ∧ M'.2.2.1 = M.2.2.1 ∧ M'.2.2.2.1 = M.2.2.2.1 ∧ M'.2.2.2.2.1 = M.2.2.2.2.1) ∧ (z = 0 ∨ z = 1) ∧ S'.2.2.2.2.2.2 = nI (n + 1) ∧ Sam t t' ∧ NetOK t' ∧ repN N' t' ∧ repW M'.1 t' := by
  have h49 := n49 ok
  obtain ⟨n, hn, ht, hno⟩ := rs_end ok hu hd hpu
  obtain ⟨S', s1, s2, s3⟩ := n_lookUp hr ok hu hd hpu hn ht hno S
  obtain ⟨tr, m1, m2⟩ := m_route ok hu hd hpu hn ht hno M hw
  rw [f_X2_lookUpAndRewire, s1, Option.bind_some, f_X3_lookUp, m1, Option.bind_some]
  dsimp only
  by_cases hz : rs t d u n = d
  · rw [if_pos hz]
    obtain ⟨t', N', w', q1, q2, q3, q4, q5, q6⟩ := rw_law (V := V) (S := S') (r := rs t d u) (t := t) ok s2 hn (fun j hj => n_trail s3 hj hn) (fun j _ => rs_ok hu hpu j) hd hpd hz (rest := (M.2.1, M.2.2.1, M.2.2.2.1, M.2.2.2.2.1, tr, nI n, 1, M.2.2.2.2.2.2.2.2)) rfl m2 hr hw
    rw [if_neg n10, if_neg n10, q5, q6, Option.bind_some]
    exact ⟨_, n, t', N', S', _, rfl, rfl, rfl, rfl, ⟨rfl, rfl, rfl, rfl⟩, Or.inr rfl, s2, q1, q2, q3, q4⟩
  · rw [if_neg hz, if_pos z00, if_pos z00]
    exact ⟨_, n, t, N, S', _, rfl, rfl, rfl, rfl, ⟨rfl, rfl, rfl, rfl⟩, Or.inl rfl, s2, Sam_rfl t, ok, hr, hw⟩
theorem st_seek {V : HS} {N : NS} (S : SS) {M : MS} (h : Rel V N M) (a1 a2 : Int32) : ∃ (r : Int32) (V' : HS) (N' : NS) (S' : SS) (M' : MS), f_X2_seek V N S a1 a2 = some (r, V', N', S') ∧ f_X3_seek M a1 a2 = some (r, M') ∧ Rel V' N' M' := by
  have h' := h
  obtain ⟨⟨t, ok, rN, rW⟩, hH⟩ := h
  have h49 := n49 ok
  rw [f_X2_seek, f_X3_seek]
  rcases isU_or t ok a1 with ⟨u, hu, rfl⟩ | hn
  · rw [m_isNode_t rW ok hu, Option.bind_some, if_neg n10]
    rcases isU_or t ok a2 with ⟨v, hv, rfl⟩ | hn
    · rw [m_isNode_t rW ok hv, Option.bind_some, if_neg n10]
      cases hp1 : tR t u with
      | false =>
        rw [n_pair_f rN ok hu hv (Or.inl hp1), Option.bind_some, if_neg nm20, m_pres_f rW ok hu hp1, Option.bind_some, if_pos z00]
        exact ⟨_, _, _, _, _, rfl, rfl, h'⟩
      | true =>
        rw [m_pres_t rW ok hu hp1, Option.bind_some, if_neg n10]
        cases hp2 : tR t v with
        | false =>
          rw [n_pair_f rN ok hu hv (Or.inr hp2), Option.bind_some, if_neg nm20, m_pres_f rW ok hv hp2, Option.bind_some, if_pos z00]
          exact ⟨_, _, _, _, _, rfl, rfl, h'⟩
        | true =>
          obtain ⟨V', p', x', e1, e2, e3⟩ := rec_ok S h'
          obtain ⟨z, n, t', N', S', M', q1, q2, q3, q4, q5, q6, q7, q8, q9, q10, q11⟩ := look_law (V := V') (S := S) (M := (M.1, p', x', M.2.2.2)) ok rN rW hu hv hp1 hp2
          rw [n_pair_t rN ok hu hv hp1 hp2, Option.bind_some, if_pos z00, e1, Option.bind_some, q1, Option.bind_some, m_pres_t rW ok hv hp2, Option.bind_some, if_neg n10, e2, Option.bind_some, q2, Option.bind_some]
          have hR : Rel V' N' M' := ⟨⟨t', q9, q10, q11⟩, RelH_congr q5.1 q5.2.1 q5.2.2.1 q5.2.2.2 e3⟩
          dsimp only
          rw [q4, q3]
          rcases q6 with rfl | rfl
          · rw [if_pos z00, if_pos z00]
            exact ⟨_, _, _, _, _, rfl, rfl, hR⟩
          · rw [if_neg n10, if_neg n10, n_steps q7, Option.bind_some]
            exact ⟨_, _, _, _, _, rfl, rfl, hR⟩
    · rw [n_pair2 rN ok hu hn, Option.bind_some, if_neg nm10, m_isNode_f rW ok hn, Option.bind_some, if_pos z00]
      exact ⟨_, _, _, _, _, rfl, rfl, h'⟩
  · rw [m_isNode_f rW ok hn, Option.bind_some, if_pos z00, n_pair1 rN ok hn, Option.bind_some, if_neg nm10]
    exact ⟨_, _, _, _, _, rfl, rfl, h'⟩
theorem some_law {V : HS} {k : Nat} (hk : k ≤ 20) : ∀ (fu i : Nat) (c : Int32) (t : NT) (N : NS) (S : SS) (M : MS), i ≤ k → k - i < fu → NetOK t → repN N t → repW M.1 t → ∃ (r : Int32) (N' : NS) (S' : SS) (M' : MS), g_X2_seekSome_21 fu V N S (nI k) c (nI i) = some (r, V, N', S') ∧ g_X3_seekSome_20 fu M (nI k) c (nI i) = some (r, M') ∧ (M'.2.1 = M.2.1 ∧ M'.2.2.1 = M.2.2.1 ∧ M'.2.2.2.1 = M.2.2.2.1 ∧ M'.2.2.2.2.1 = M.2.2.2.2.1) ∧ Both N' M'.1 := by
  intro fu
  induction fu with
  | zero => intro i c t N S M h1 h2; omega
  | succ fu ih =>
    intro i c t N S M h1 h2 ok hr hw
    have h49 := n49 ok
    rw [g_X2_seekSome_21, g_X3_seekSome_20]
    by_cases hi : k ≤ i
    · have : i = k := by omega
      subst this
      rw [if_pos (nI_le (Nat.le_refl _) (by omega)), if_pos (nI_le (Nat.le_refl _) (by omega))]
      exact ⟨_, _, _, _, rfl, rfl, ⟨rfl, rfl, rfl, rfl⟩, ⟨t, ok, hr, hw⟩⟩
    · have hni : ¬ nI k ≤ nI i := fun h => by have := (nI_leI (by omega) (by omega)).mp h; omega
      obtain ⟨N1, n1, n2⟩ := n_draw hr ok (k := tN t) (by omega) (by omega)
      obtain ⟨w1, m1, m2⟩ := m_draw (M := M) hw ok (k := tN t) (by omega) (by omega)
      have ok1 := seed_ok ok (nxt_lt (tSeed t))
      have sm1 : Sam t (tSetG t 3 (nxt (tSeed t))) := Sam_seed t _
      have hb1 : drw (tSeed t) (tN t) < tN t := Nat.mod_lt _ (by omega)
      generalize tSetG t 3 (nxt (tSeed t)) = t1 at *
      generalize drw (tSeed t) (tN t) = b1 at *
      obtain ⟨N2, n3, n4⟩ := n_draw n2 ok1 (k := tN t) (by omega) (by omega)
      obtain ⟨w2, m3, m4⟩ := m_draw (M := (w1, M.2)) m2 ok1 (k := tN t) (by omega) (by omega)
      have ok2 := seed_ok ok1 (nxt_lt (tSeed t1))
      have sm2 : Sam t (tSetG t1 3 (nxt (tSeed t1))) := Sam_trans sm1 (Sam_seed t1 _)
      have hb2 : drw (tSeed t1) (tN t) < tN t := Nat.mod_lt _ (by omega)
      generalize tSetG t1 3 (nxt (tSeed t1)) = t2 at *
      generalize drw (tSeed t1) (tN t) = b2 at *
      have e1 := n_nodes n2
      have e2 := m_nodes (M := (w1, M.2)) m2
      rw [sm1.1] at e1 e2
      have hu1 : b1 < tN t2 := by rw [sm2.1]; exact hb1
      have hu2 : b2 < tN t2 := by rw [sm2.1]; exact hb2
      rw [if_neg hni, if_neg hni, n_nodes hr, m_nodes hw, Option.bind_some, Option.bind_some, n1, m1, Option.bind_some, Option.bind_some]
      dsimp only
      rw [e1, e2, Option.bind_some, Option.bind_some, n3, m3, Option.bind_some, Option.bind_some]
      dsimp only
      rw [nI_1]
      cases hp1 : tR t2 b1 with
      | false =>
        rw [n_pres_f n4 ok2 hu1 hp1, m_pres_f (M := (w2, M.2)) m4 ok2 hu1 hp1, Option.bind_some, Option.bind_some, if_pos z00, if_pos z00]
        exact ih (i + 1) c t2 N2 S (w2, M.2) (by omega) (by omega) ok2 n4 m4
      | true =>
        rw [n_pres_t n4 ok2 hu1 hp1, m_pres_t (M := (w2, M.2)) m4 ok2 hu1 hp1, Option.bind_some, Option.bind_some, if_neg n10, if_neg n10]
        cases hp2 : tR t2 b2 with
        | false =>
          rw [n_pres_f n4 ok2 hu2 hp2, m_pres_f (M := (w2, M.2)) m4 ok2 hu2 hp2, Option.bind_some, Option.bind_some, if_pos z00, if_pos z00]
          exact ih (i + 1) c t2 N2 S (w2, M.2) (by omega) (by omega) ok2 n4 m4
        | true =>
          rw [n_pres_t n4 ok2 hu2 hp2, m_pres_t (M := (w2, M.2)) m4 ok2 hu2 hp2, Option.bind_some, Option.bind_some, if_neg n10, if_neg n10]
          obtain ⟨z, n, t', N', S', M', q1, q2, q3, q4, q5, q6, q7, q8, q9, q10, q11⟩ := look_law (V := V) (S := S) (M := (w2, M.2)) ok2 n4 m4 hu1 hu2 hp1 hp2
          rw [q1, q2, Option.bind_some, Option.bind_some]
          dsimp only
          rw [q4]
          rcases q6 with rfl | rfl
          · rw [if_pos z00, if_pos z00, Int32.add_zero]
            obtain ⟨r, N3, S3, M3, x1, x2, x3, x4⟩ := ih (i + 1) c t' N' S' M' (by omega) (by omega) q9 q10 q11
            exact ⟨r, N3, S3, M3, x1, x2, ⟨x3.1.trans q5.1, x3.2.1.trans q5.2.1, x3.2.2.1.trans q5.2.2.1, x3.2.2.2.trans q5.2.2.2⟩, x4⟩
          · rw [if_neg n10, if_neg n10]
            obtain ⟨r, N3, S3, M3, x1, x2, x3, x4⟩ := ih (i + 1) (c + 1) t' N' S' M' (by omega) (by omega) q9 q10 q11
            exact ⟨r, N3, S3, M3, x1, x2, ⟨x3.1.trans q5.1, x3.2.1.trans q5.2.1, x3.2.2.1.trans q5.2.2.1, x3.2.2.2.trans q5.2.2.2⟩, x4⟩
theorem st_seekSome {V : HS} {N : NS} (S : SS) {M : MS} (h : Rel V N M) (a1 : Int32) : ∃ (r : Int32) (V' : HS) (N' : NS) (S' : SS) (M' : MS), f_X2_seekSome V N S a1 = some (r, V', N', S') ∧ f_X3_seekSome M a1 = some (r, M') ∧ Rel V' N' M' := by
  have h' := h
  obtain ⟨⟨t, ok, rN, rW⟩, hH⟩ := h
  rw [f_X2_seekSome, f_X3_seekSome]
  rcases rng a1 (a := 1) (b := 20) (by omega) with ⟨k, hk0, hk2, rfl⟩ | hno
  · obtain ⟨V', p', x', e1, e2, e3⟩ := rec_ok S h'
    rw [show f_X3_isIn (nI k) 1 20 = some 1 from isIn_t (a := 1) (b := 20) (by omega) (by omega) (by rw [nI_toInt (by omega)]; omega), Option.bind_some, if_neg n10, if_neg (show ¬ nI k < 1 from fun h => by rw [Int32.lt_iff_toInt_lt, nI_toInt (by omega)] at h; have : (1 : Int32).toInt = 1 := rfl; omega), if_pos (show nI k ≤ 20 from nI_le (b := 20) hk2 (by omega)), e1, e2, Option.bind_some, Option.bind_some]
    obtain ⟨r, N', S', M', x1, x2, x3, x4⟩ := some_law (V := V') hk2 FU 0 0 t N S (M.1, p', x', M.2.2.2) (by omega) (by unfold FU; omega) ok rN rW
    exact ⟨r, V', N', S', M', x1, x2, x4, RelH_congr x3.1 x3.2.1 x3.2.2.1 x3.2.2.2 e3⟩
  · rw [show f_X3_isIn a1 1 20 = some 0 from isIn_f (a := 1) (b := 20) (by omega) (by omega) hno, Option.bind_some, if_pos z00]
    by_cases h0 : a1 < 1
    · rw [if_pos h0]
      exact ⟨_, _, _, _, _, rfl, rfl, h'⟩
    · rw [if_neg h0, if_neg]
      · exact ⟨_, _, _, _, _, rfl, rfl, h'⟩
      · intro hle
        apply hno
        rw [Int32.lt_iff_toInt_lt] at h0
        rw [Int32.le_iff_toInt_le] at hle
        have c1 : (1 : Int32).toInt = 1 := rfl
        have c2 : (20 : Int32).toInt = 20 := rfl
        omega
