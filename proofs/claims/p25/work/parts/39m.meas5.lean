theorem Ts_25 {t : NT} (ok : NetOK t) {k s : Nat} (hk : k = 2 ∨ k = 5) (hs : s < tN t) : Ts t k s ≤ 48 := fd_le hk (fun d hd => pv_25 ok hk hs hd)
theorem m_inner {t : NT} (ok : NetOK t) {s : Nat} (hs : s < tN t) (hps : tR t s = true) {A : Nat → Nat} (hA : ∀ k, k = 2 ∨ k = 5 → A k ≤ 48) {K : MS → Int32 → Option MS} : ∀ (fu i : Nat) (M : MS), i ≤ tN t → tN t - i < fu → repW M.1 t → WY (-9) (rad t) s 49 M.2.2.2.2.2.2.2.2.1 → (∀ k, k < 8 → M.2.2.2.2.2.2.2.2.2.2 k = nI (mop k (A k) (fd k (fun d => pv t k s d) i))) → ∃ M', g_X3_layMeasures_46 K fu M (nI s) (nI i) = K M' (nI (s + 1)) ∧ Mkeep M M' ∧ ∀ k, k < 8 → M'.2.2.2.2.2.2.2.2.2.2 k = nI (mop k (A k) (Ts t k s)) := by
  intro fu
  have h49 := n49 ok
  induction fu with
  | zero => intro i M h1 h2; omega
  | succ fu ih =>
    intro i M h1 h2 hr hw hM
    rw [g_X3_layMeasures_46, m_nodes hr, Option.bind_some]
    by_cases hi : tN t ≤ i
    · have : i = tN t := by omega
      subst this
      rw [if_pos (nI_le hi (by omega)), nI_1]
      exact ⟨M, rfl, ⟨rfl, rfl, rfl, rfl, rfl, rfl⟩, hM⟩
    · have hi2 : i < tN t := by omega
      rw [if_neg (fun h => by have := (nI_leI (by omega) (by omega)).mp h; omega), nI_1]
      have skip : (s = i ∨ tR t s = false ∨ tR t i = false) → ∀ k, k < 8 → M.2.2.2.2.2.2.2.2.2.2 k = nI (mop k (A k) (fd k (fun d => pv t k s d) (i + 1))) := by
        intro h k hk
        rw [fd_s, pv_out h, mop_0]
        exact hM k hk
      by_cases his : i = s
      · rw [if_pos (show nI i = nI s by rw [his])]
        exact ih (i + 1) M (by omega) (by omega) hr hw (skip (Or.inl his.symm))
      · rw [if_neg (fun h => his ((nI_eq (by omega) (by omega)).mp h))]
        cases hp : tR t i with
        | false =>
          rw [m_pres_f hr ok hi2 hp, Option.bind_some, if_pos z00]
          exact ih (i + 1) M (by omega) (by omega) hr hw (skip (Or.inr (Or.inr hp)))
        | true =>
          have hb : ∀ k, k = 2 ∨ k = 5 → mop k (A k) (fd k (fun d => pv t k s d) i) < 2 ^ 31 := fun k hk => m48 hk (hA k hk) (fd_le hk (fun d hd => pv_25 ok hk hs (by omega)))
          obtain ⟨M1, e1, e2, e3⟩ := m_pairAdd ok hs hi2 hps M hr hw (x := fun k => mop k (A k) (fd k (fun d => pv t k s d) i)) hM (hb 2 (Or.inl rfl)) (hb 5 (Or.inr rfl))
          rw [m_pres_t hr ok hi2 hp, Option.bind_some, if_neg n10, e1, Option.bind_some]
          obtain ⟨M', q1, q2, q3⟩ := ih (i + 1) M1 (by omega) (by omega) (by rw [e2.1]; exact hr) (by rw [e2.2.2.2.2.2]; exact hw) (fun k hk => by rw [e3 k hk, fd_s, pv_in (fun e => his e.symm) hps hp, mop_assoc])
          exact ⟨M', q1, Mkeep_trans e2 q2, q3⟩
def Mk5 (M M' : MS) : Prop := M'.1 = M.1 ∧ M'.2.1 = M.2.1 ∧ M'.2.2.1 = M.2.2.1 ∧ M'.2.2.2.1 = M.2.2.2.1 ∧ M'.2.2.2.2.1 = M.2.2.2.2.1
theorem Mk5_trans {A B C : MS} (h : Mk5 A B) (k : Mk5 B C) : Mk5 A C := ⟨k.1.trans h.1, k.2.1.trans h.2.1, k.2.2.1.trans h.2.2.1, k.2.2.2.1.trans h.2.2.2.1, k.2.2.2.2.trans h.2.2.2.2⟩
theorem m_outer {t : NT} (ok : NetOK t) : ∀ (fu i : Nat) (M : MS), i ≤ tN t → tN t - i < fu → repW M.1 t → (∀ k, k < 8 → M.2.2.2.2.2.2.2.2.2.2 k = nI (fd k (Ts t k) i)) → ∃ M', g_X3_layMeasures_23 fu M (nI i) = some M' ∧ Mk5 M M' ∧ ∀ k, k < 8 → M'.2.2.2.2.2.2.2.2.2.2 k = nI (tot t k) := by
  intro fu
  have h49 := n49 ok
  induction fu with
  | zero => intro i M h1 h2; omega
  | succ fu ih =>
    intro i M h1 h2 hr hM
    rw [g_X3_layMeasures_23, m_nodes hr, Option.bind_some]
    by_cases hi : tN t ≤ i
    · have : i = tN t := by omega
      subst this
      rw [if_pos (nI_le hi (by omega))]
      exact ⟨M, rfl, ⟨rfl, rfl, rfl, rfl, rfl⟩, fun k hk => by rw [tot_s]; exact hM k hk⟩
    · have hi2 : i < tN t := by omega
      rw [if_neg (fun h => by have := (nI_leI (by omega) (by omega)).mp h; omega)]
      cases hp : tR t i with
      | false =>
        rw [m_pres_f hr ok hi2 hp, Option.bind_some, if_pos z00, nI_1]
        refine ih (i + 1) M (by omega) (by omega) hr (fun k hk => ?_)
        have : Ts t k i = 0 := by
          unfold Ts
          rw [fd_cong (g := fun _ => 0) (fun s _ => pv_out (Or.inr (Or.inl hp))), fd_z]
        rw [fd_s, this, mop_0]
        exact hM k hk
      | true =>
        obtain ⟨w9, w10, m1, m2, -⟩ := m_ways ok hi2 hp M hr
        obtain ⟨M1, q1, q2, q3⟩ := m_inner (K := fun M' x1' => g_X3_layMeasures_23 fu M' x1') ok hi2 hp (A := fun k => fd k (Ts t k) i) (fun k hk => fd_le hk (fun d hd => Ts_25 ok hk (by omega))) FU 0 (mW M w9 w10) (by omega) (by unfold FU; omega) hr m2 (fun k hk => by rw [fd_0, mop_0]; exact hM k hk)
        rw [m_pres_t hr ok hi2 hp, Option.bind_some, if_neg n10, m1, Option.bind_some]
        obtain ⟨M', r1, r2, r3⟩ := ih (i + 1) M1 (by omega) (by omega) (by rw [q2.1]; exact hr) (fun k hk => by rw [q3 k hk, fd_s])
        exact ⟨M', q1.trans r1, Mk5_trans ⟨q2.1, q2.2.1, q2.2.2.1, q2.2.2.2.1, q2.2.2.2.2.1⟩ r2, r3⟩
theorem m_zero : ∀ (fu i : Nat) (M : MS), i ≤ 8 → 8 - i < fu → (∀ k, k < i → M.2.2.2.2.2.2.2.2.2.2 k = 0) → ∃ F, g_X3_layMeasures_2 fu M (nI i) = g_X3_layMeasures_23 FU (mC M F) 0 ∧ ∀ k, k < 8 → F k = 0 := by
  intro fu
  induction fu with
  | zero => intro i M h1 h2; omega
  | succ fu ih =>
    intro i M h1 h2 hM
    rw [g_X3_layMeasures_2]
    by_cases hi : 8 ≤ i
    · have : i = 8 := by omega
      subst this
      rw [if_pos (show (8 : Int32) ≤ nI 8 from nI_le (a := 8) (by omega) (by omega))]
      exact ⟨_, rfl, hM⟩
    · rw [if_neg (show ¬ (8 : Int32) ≤ nI i from fun h => by have := (nI_leI (a := 8) (by omega) (by omega)).mp h; omega), gd_t (inB_nI (by omega) (by omega)), nI_clamp (by omega), nI_1]
      obtain ⟨F, e1, e2⟩ := ih (i + 1) (mC M (upd M.2.2.2.2.2.2.2.2.2.2 i 0)) (by omega) (by omega) (fun k hk => by
        show upd M.2.2.2.2.2.2.2.2.2.2 i 0 k = 0
        by_cases h : k = i
        · rw [h, upd_s]
        · rw [upd_n _ _ h]; exact hM k (by omega))
      exact ⟨F, e1, e2⟩
theorem m_lay_meas {M : MS} {t : NT} (hr : repW M.1 t) (ok : NetOK t) : ∃ M', f_X3_layMeasures M = some M' ∧ Mk5 M M' ∧ ∀ k, k < 8 → M'.2.2.2.2.2.2.2.2.2.2 k = nI (tot t k) := by
  obtain ⟨F, e1, e2⟩ := m_zero FU 0 M (by omega) (by unfold FU; omega) (fun k hk => absurd hk (Nat.not_lt_zero _))
  obtain ⟨M', e3, e4, e5⟩ := m_outer ok FU 0 (mC M F) (by omega) (by have := n49 ok; unfold FU; omega) hr (fun k hk => by rw [fd_0]; exact e2 k hk)
  rw [f_X3_layMeasures]
  exact ⟨M', e1.trans e3, e4, e5⟩
theorem st_measure {V : HS} {N : NS} (S : SS) {M : MS} (h : Rel V N M) (a1 : Int32) : ∃ (r : Int32) (S' : SS) (M' : MS), f_X2_measure V N S a1 = some (r, S') ∧ f_X3_measure M a1 = some (r, M') ∧ Rel V N M' := by
  have h' := h
  obtain ⟨⟨t, ok, rN, rW⟩, hH⟩ := h
  rw [f_X2_measure, f_X3_measure]
  rcases rng a1 (a := 0) (b := 7) (by omega) with ⟨k, hk0, hk2, rfl⟩ | hno
  · obtain ⟨S', s1, s2⟩ := n_take_meas rN ok S
    obtain ⟨M', m1, m2, m3⟩ := m_lay_meas rW ok
    have hR : Rel V N M' := ⟨⟨t, ok, rN, by rw [m2.1]; exact rW⟩, RelH_congr m2.2.1 m2.2.2.1 m2.2.2.2.1 m2.2.2.2.2 hH⟩
    rw [show f_X3_isIn (nI k) 0 7 = some 1 from isIn_t (a := 0) (b := 7) (by omega) (by omega) (by rw [nI_toInt (by omega)]; omega), Option.bind_some, if_neg n10, if_neg (nI_pos (by omega)), if_pos (show nI k < 8 from nI_lt (b := 8) (by omega) (by omega)), s1, m1, Option.bind_some, Option.bind_some, n_meas (by omega), Option.bind_some, gd_t (inB_nI (by omega) (by omega)), nI_clamp (by omega), s2 k (by omega), m3 k (by omega)]
    exact ⟨_, _, _, rfl, rfl, hR⟩
  · rw [show f_X3_isIn a1 0 7 = some 0 from isIn_f (a := 0) (b := 7) (by omega) (by omega) hno, Option.bind_some, if_pos z00]
    by_cases h0 : a1 < 0
    · rw [if_pos h0]
      exact ⟨_, _, _, rfl, rfl, h'⟩
    · rw [if_neg h0, if_neg]
      · exact ⟨_, _, _, rfl, rfl, h'⟩
      · intro hle
        apply hno
        rw [Int32.lt_iff_toInt_lt] at h0
        rw [Int32.lt_iff_toInt_lt] at hle
        have c0 : (0 : Int32).toInt = 0 := rfl
        have c2 : (8 : Int32).toInt = 8 := rfl
        omega
