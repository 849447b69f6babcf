theorem pv_out {t : NT} {k s d : Nat} (h : s = d ∨ tR t s = false ∨ tR t d = false) : pv t k s d = 0 := by
  unfold pv
  rw [if_neg]
  rintro ⟨h1, h2, h3⟩
  rcases h with h | h | h
  · exact h1 h
  · rw [h2] at h; cases h
  · rw [h3] at h; cases h
theorem pv_in {t : NT} {k s d : Nat} (h : s ≠ d) (h2 : tR t s = true) (h3 : tR t d = true) : pv t k s d = val t s d k := by
  unfold pv
  rw [if_pos ⟨h, h2, h3⟩]
theorem pv_25 {t : NT} (ok : NetOK t) {k s d : Nat} (hk : k = 2 ∨ k = 5) (hs : s < tN t) (hd : d < tN t) : pv t k s d ≤ 48 := by
  unfold pv
  by_cases h : s ≠ d ∧ tR t s = true ∧ tR t d = true
  · rw [if_pos h]
    obtain ⟨v0, v1, v2, v3, v4, v5, v6, v7⟩ := v_def t s d
    rcases hk with rfl | rfl
    · rw [v2]; exact wn_le t s d
    · have := rl_le ok hs hd h.2.1
      rw [v5]
      by_cases h2 : rs t d s (rl t d s) = d
      · rw [if_pos h2]; omega
      · rw [if_neg h2]; omega
  · rw [if_neg h]; omega
def Td (t : NT) (k d : Nat) : Nat := fd k (fun s => pv t k s d) (tN t)
def Ts (t : NT) (k s : Nat) : Nat := fd k (fun d => pv t k s d) (tN t)
def tot (t : NT) (k : Nat) : Nat := fd k (Td t k) (tN t)
theorem tot_s (t : NT) (k : Nat) : tot t k = fd k (Ts t k) (tN t) := by
  unfold tot Td Ts
  exact fd_swap k (fun d s => pv t k s d) (tN t) (tN t)
theorem m48 {k a b : Nat} (hk : k = 2 ∨ k = 5) (ha : a ≤ 48) (hb : b ≤ 48) : mop k a b < 2 ^ 31 := by
  rw [mop_m hk]
  omega
theorem n_inner {N : NS} {t : NT} (hr : repN N t) (ok : NetOK t) {d : Nat} (hd : d < tN t) (hpd : tR t d = true) {A : Nat → Nat} (hA : ∀ k, k = 2 ∨ k = 5 → A k ≤ 48) : ∀ (fu i : Nat) (S : SS), i ≤ tN t → tN t - i < fu → WY (-1) (adj t) d 49 S.2.1 → AIM t d S.2.2.2.1 → (∀ k, k < 8 → S.2.2.2.2.2.1 k = nI (mop k (A k) (fd k (fun s => pv t k s d) i))) → ∃ S', g_X1_addPairsWithEnd_2 fu S N (nI d) (nI i) = some S' ∧ S'.1 = S.1 ∧ ∀ k, k < 8 → S'.2.2.2.2.2.1 k = nI (mop k (A k) (Td t k d)) := by
  intro fu
  have h49 := n49 ok
  induction fu with
  | zero => intro i S h1 h2; omega
  | succ fu ih =>
    intro i S h1 h2 hw ha hS
    rw [g_X1_addPairsWithEnd_2, n_nodes hr, Option.bind_some]
    by_cases hi : tN t ≤ i
    · have : i = tN t := by omega
      subst this
      rw [if_pos (nI_le hi (by omega))]
      exact ⟨S, rfl, rfl, hS⟩
    · have hi2 : i < tN t := by omega
      rw [if_neg (fun h => by have := (nI_leI (by omega) (by omega)).mp h; omega), nI_1]
      have skip : (i = d ∨ tR t i = false ∨ tR t d = false) → ∀ k, k < 8 → S.2.2.2.2.2.1 k = nI (mop k (A k) (fd k (fun s => pv t k s d) (i + 1))) := by
        intro h k hk
        rw [fd_s, pv_out h, mop_0]
        exact hS k hk
      by_cases hid : i = d
      · rw [if_pos (show nI i = nI d by rw [hid])]
        exact ih (i + 1) S (by omega) (by omega) hw ha (skip (Or.inl hid))
      · rw [if_neg (fun h => hid ((nI_eq (by omega) (by omega)).mp h))]
        cases hp : tR t i with
        | false =>
          rw [n_pres_f hr ok hi2 hp, Option.bind_some, if_pos z00]
          exact ih (i + 1) S (by omega) (by omega) hw ha (skip (Or.inr (Or.inl hp)))
        | true =>
          have hb : ∀ k, k = 2 ∨ k = 5 → mop k (A k) (fd k (fun s => pv t k s d) i) < 2 ^ 31 := fun k hk => m48 hk (hA k hk) (fd_le hk (fun s hs => pv_25 ok hk (by omega) hd))
          obtain ⟨S1, e1, e2, e3, e4, e5⟩ := n_pairAdd ok hi2 hd hp S hw ha (x := fun k => mop k (A k) (fd k (fun s => pv t k s d) i)) hS (hb 2 (Or.inl rfl)) (hb 5 (Or.inr rfl))
          rw [n_pres_t hr ok hi2 hp, Option.bind_some, if_neg n10, e1, Option.bind_some]
          obtain ⟨S', q1, q2, q3⟩ := ih (i + 1) S1 (by omega) (by omega) (by rw [e3]; exact hw) (by rw [e4]; exact ha) (fun k hk => by rw [e5 k hk, fd_s, pv_in hid hp hpd, mop_assoc])
          exact ⟨S', q1, q2.trans e2, q3⟩
theorem Td_25 {t : NT} (ok : NetOK t) {k d : Nat} (hk : k = 2 ∨ k = 5) (hd : d < tN t) : Td t k d ≤ 48 := fd_le hk (fun s hs => pv_25 ok hk hs hd)
theorem n_outer {N : NS} {t : NT} (hr : repN N t) (ok : NetOK t) : ∀ (fu i : Nat) (S : SS), i ≤ tN t → tN t - i < fu → CR t S.1 → (∀ k, k < 8 → S.2.2.2.2.2.1 k = nI (fd k (Td t k) i)) → ∃ S', g_X1_takeMeasures_31 fu S N (nI i) = some S' ∧ ∀ k, k < 8 → S'.2.2.2.2.2.1 k = nI (tot t k) := by
  intro fu
  have h49 := n49 ok
  induction fu with
  | zero => intro i S h1 h2; omega
  | succ fu ih =>
    intro i S h1 h2 hc hS
    rw [g_X1_takeMeasures_31, n_nodes hr, Option.bind_some]
    by_cases hi : tN t ≤ i
    · have : i = tN t := by omega
      subst this
      rw [if_pos (nI_le hi (by omega))]
      exact ⟨S, rfl, hS⟩
    · have hi2 : i < tN t := by omega
      rw [if_neg (fun h => by have := (nI_leI (by omega) (by omega)).mp h; omega), nI_1]
      cases hp : tR t i with
      | false =>
        rw [n_pres_f hr ok hi2 hp, Option.bind_some, if_pos z00]
        refine ih (i + 1) S (by omega) (by omega) hc (fun k hk => ?_)
        have : Td t k i = 0 := by
          unfold Td
          rw [fd_cong (g := fun _ => 0) (fun s _ => pv_out (Or.inr (Or.inr hp))), fd_z]
        rw [fd_s, this, mop_0]
        exact hS k hk
      | true =>
        obtain ⟨w', s2, hw⟩ := n_ways ok hi2 S hc
        obtain ⟨a, s3, ha⟩ := n_aim hr ok hi2 (S.1, w', S.2.2) hc
        obtain ⟨S1, q1, q2, q3⟩ := n_inner hr ok hi2 hp (A := fun k => fd k (Td t k) i) (fun k hk => fd_le hk (fun d hd => Td_25 ok hk (by omega))) FU 0 (S.1, w', S.2.2.1, a, S.2.2.2.2) (by omega) (by unfold FU; omega) hw ha (fun k hk => by rw [fd_0, mop_0]; exact hS k hk)
        have q1' : f_X1_addPairsWithEnd (S.1, w', S.2.2.1, a, S.2.2.2.2) N (nI i) = some S1 := by
          rw [f_X1_addPairsWithEnd]
          exact q1
        rw [n_pres_t hr ok hi2 hp, Option.bind_some, if_neg n10, s2, Option.bind_some, s3, Option.bind_some]
        dsimp only
        rw [q1', Option.bind_some]
        exact ih (i + 1) S1 (by omega) (by omega) (by rw [q2]; exact hc) (fun k hk => by rw [q3 k hk, fd_s])
theorem n_zero {N : NS} : ∀ (fu i : Nat) (S : SS), i ≤ 8 → 8 - i < fu → (∀ k, k < i → S.2.2.2.2.2.1 k = 0) → ∃ F, g_X1_takeMeasures_7 fu S N (nI i) = g_X1_takeMeasures_31 FU (sW S F) N 0 ∧ ∀ k, k < 8 → F k = 0 := by
  intro fu
  induction fu with
  | zero => intro i S h1 h2; omega
  | succ fu ih =>
    intro i S h1 h2 hS
    rw [g_X1_takeMeasures_7]
    by_cases hi : 8 ≤ i
    · have : i = 8 := by omega
      subst this
      rw [if_pos (nI_le hi (by omega))]
      exact ⟨_, rfl, hS⟩
    · rw [if_neg (fun h => by have := (nI_leI (by omega) (by omega)).mp h; omega), gd_t (inB_nI (by omega) (by omega)), nI_clamp (by omega), nI_1]
      obtain ⟨F, e1, e2⟩ := ih (i + 1) (sW S (upd S.2.2.2.2.2.1 i 0)) (by omega) (by omega) (fun k hk => by
        show upd S.2.2.2.2.2.1 i 0 k = 0
        unfold upd
        by_cases h : k = i
        · rw [if_pos h]
        · rw [if_neg h]; exact hS k (by omega))
      exact ⟨F, e1, e2⟩
theorem n_take_meas {N : NS} {t : NT} (hr : repN N t) (ok : NetOK t) (S : SS) : ∃ S', f_X1_takeMeasures S N = some S' ∧ ∀ k, k < 8 → S'.2.2.2.2.2.1 k = nI (tot t k) := by
  obtain ⟨c, s1, hc⟩ := n_read hr ok S
  obtain ⟨F, e1, e2⟩ := n_zero (N := N) FU 0 (c, S.2) (by omega) (by unfold FU; omega) (fun k hk => absurd hk (Nat.not_lt_zero _))
  obtain ⟨S', e3, e4⟩ := n_outer hr ok FU 0 (sW (c, S.2) F) (by omega) (by have := n49 ok; unfold FU; omega) hc (fun k hk => by rw [fd_0]; exact e2 k hk)
  rw [f_X1_takeMeasures, s1, Option.bind_some]
  exact ⟨S', e1.trans e3, e4⟩
