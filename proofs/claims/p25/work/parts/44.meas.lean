/-! ===== the law's areMeasures ===== -/
theorem fd_sm {k : Nat} (hk : ¬ (k = 2 ∨ k = 5)) (f : Nat → Nat) : ∀ n, fd k f n = fb_sm f n := by
  intro n
  induction n with
  | zero => rfl
  | succ n ih => rw [fd_s, fb_sm_succ, ih, mop_s hk]
theorem mx_fd (f : Nat → Nat) : ∀ n, mx f n = fd 2 f n := by
  intro n
  induction n with
  | zero => rfl
  | succ n ih =>
    rw [mx, fd_s, mop_m (Or.inl rfl), ih]
    by_cases h : fd 2 f n < f n
    · rw [if_pos h]; omega
    · rw [if_neg h]; omega
theorem sm_if_ct (p : Nat → Bool) (c : Nat) : ∀ n, fb_sm (fun s => if p s then c else 0) n = fb_ct p n * c := by
  intro n
  induction n with
  | zero => rw [show fb_ct p 0 = 0 from rfl, Nat.zero_mul]; rfl
  | succ n ih =>
    rw [fb_sm_succ, ih, fb_ct_succ, Nat.add_mul]
    cases p n with
    | true => rw [if_pos rfl, if_pos rfl, Nat.one_mul]
    | false => rw [if_neg (by decide), if_neg (by decide), Nat.zero_mul]
section TOT
variable {t : NT}
theorem tot_sm {k : Nat} (hk : ¬ (k = 2 ∨ k = 5)) : tot t k = fb_sm (fun s => fb_sm (fun d => pv t k s d) (tN t)) (tN t) := by
  rw [tot_s, fd_sm hk]
  exact fb_sm_cong (fun s _ => fd_sm hk _ _)
theorem tot_mono {k m c : Nat} (hk : ¬ (k = 2 ∨ k = 5)) (hm : ¬ (m = 2 ∨ m = 5)) (h : ∀ s d, s < tN t → d < tN t → pv t k s d ≤ c * pv t m s d) : tot t k ≤ c * tot t m := by
  rw [tot_sm hk, tot_sm hm]
  have e : ∀ (f : Nat → Nat) (n : Nat), c * fb_sm f n = fb_sm (fun i => c * f i) n := by
    intro f n
    induction n with
    | zero => rfl
    | succ n ih => rw [fb_sm_succ, fb_sm_succ, Nat.mul_add, ih]
  rw [e]
  refine fb_sm_le (fun s hs => ?_)
  rw [e]
  exact fb_sm_le (fun d hd => h s d hs hd)
/-- the route of two nodes -/
theorem rl_spec (ok : NetOK t) {s d : Nat} (hs : s < tN t) (hd : d < tN t) (hp : tR t s = true) : rl t d s ≤ 12 ∧ tm t d (rs t d s (rl t d s)) ∧ ∀ j, j < rl t d s → ¬ tm t d (rs t d s j) := by
  obtain ⟨n, hn, ht, hno⟩ := rs_end ok hs hd hp
  rw [rl_eq hn ht hno]
  exact ⟨hn, ht, hno⟩
theorem rl_pos {s d : Nat} (h : s ≠ d) (he : rs t d s (rl t d s) = d) : 1 ≤ rl t d s := by
  rcases Nat.eq_zero_or_pos (rl t d s) with h0 | h0
  · rw [h0] at he
    exact absurd he h
  · exact h0
theorem rch_eq (ok : NetOK t) {s d : Nat} (hs : s < tN t) (hd : d < tN t) (hp : tR t s = true) : pv t 1 s d = (if rch t s d then 1 else 0) ∧ pv t 2 s d = wn t s d := by
  have h49 := n49 ok
  obtain ⟨v0, v1, v2, v3, v4, v5, v6, v7⟩ := v_def t s d
  by_cases hsd : s = d
  · have hg : gq (rad t) s d 49 = some 0 := gq_self.mpr hsd.symm
    rw [pv_out (Or.inl hsd), pv_out (Or.inl hsd), wn_some hg]
    have hr : rch t s d = false := by unfold rch; rw [hg]; rfl
    rw [hr]
    exact ⟨rfl, rfl⟩
  · cases hq : tR t d with
    | false =>
      rw [pv_out (Or.inr (Or.inr hq)), pv_out (Or.inr (Or.inr hq))]
      have hg : gq (rad t) s d 49 = none := by
        cases hg : gq (rad t) s d 49 with
        | none => rfl
        | some j =>
          have := (gq_pres ok hs hp hg).2
          rw [hq] at this
          cases this
      have hr : rch t s d = false := by unfold rch; rw [hg]
      rw [hr, wn_none hg]
      exact ⟨rfl, rfl⟩
    | true =>
      rw [pv_in hsd hp hq, pv_in hsd hp hq, v1, v2]
      refine ⟨?_, rfl⟩
      cases hg : gq (rad t) s d 49 with
      | none =>
        have hr : rch t s d = false := by unfold rch; rw [hg]
        rw [hr, if_pos rfl]
        rfl
      | some j =>
        have hj : 0 < j := by
          rcases Nat.eq_zero_or_pos j with h0 | h0
          · subst h0
            exact absurd (gq_self.mp hg).symm hsd
          · exact h0
        have hr : rch t s d = true := by unfold rch; rw [hg]; exact decide_eq_true hj
        rw [hr, if_neg (by simp)]
        rfl
theorem tot0 (ok : NetOK t) : tot t 0 = tPr t * (tPr t - 1) := by
  rw [tot_sm (by decide)]
  have e : ∀ s, s < tN t → fb_sm (fun d => pv t 0 s d) (tN t) = if tR t s then tPr t - 1 else 0 := by
    intro s hs
    cases hp : tR t s with
    | false =>
      rw [if_neg (by decide), fb_sm_cong (g := fun _ => 0) (fun d _ => pv_out (Or.inr (Or.inl hp))), fb_sm_const]
      rfl
    | true =>
      have h1 := fb_ct_upd (tR t) false hs
      rw [hp, if_pos rfl, if_neg (by decide)] at h1
      have h2 : fb_sm (fun d => pv t 0 s d) (tN t) = fb_ct (fun k => if k = s then false else tR t k) (tN t) := by
        rw [ct_sm]
        refine fb_sm_cong (fun d _ => ?_)
        by_cases hd : d = s
        · rw [pv_out (Or.inl hd.symm), if_pos hd]
          rfl
        · rw [if_neg hd]
          cases hq : tR t d with
          | false => rw [pv_out (Or.inr (Or.inr hq))]; rfl
          | true => rw [pv_in (fun e => hd e.symm) hp hq]; rfl
      rw [if_pos rfl, h2]
      show _ = fb_ct (tR t) (tN t) - 1
      omega
  rw [fb_sm_cong e, sm_if_ct]
  rfl
theorem tot1 (ok : NetOK t) : tot t 1 = fb_sm (tRe t) (tN t) := by
  rw [tot_sm (by decide)]
  refine fb_sm_cong (fun s hs => ?_)
  unfold tRe
  cases hp : tR t s with
  | false =>
    rw [if_neg (by decide), fb_sm_cong (g := fun _ => 0) (fun d _ => pv_out (Or.inr (Or.inl hp))), fb_sm_const]
    rfl
  | true =>
    rw [if_pos rfl, ct_sm]
    exact fb_sm_cong (fun d hd => (rch_eq ok hs hd hp).1)
theorem tot2 (ok : NetOK t) : tot t 2 = fd 2 (tGr t) (tN t) := by
  rw [tot_s]
  refine fd_cong (fun s hs => ?_)
  unfold Ts tGr
  cases hp : tR t s with
  | false =>
    rw [if_neg (by decide), fd_cong (g := fun _ => 0) (fun d _ => pv_out (Or.inr (Or.inl hp))), fd_z]
  | true =>
    rw [if_pos rfl, mx_fd]
    exact fd_cong (fun d hd => (rch_eq ok hs hd hp).2)
theorem pv_both {k s d : Nat} (h : pv t k s d ≠ 0) : s ≠ d ∧ tR t s = true ∧ tR t d = true := by
  unfold pv at h
  by_cases h2 : s ≠ d ∧ tR t s = true ∧ tR t d = true
  · exact h2
  · rw [if_neg h2] at h; exact absurd rfl h
theorem pv_case {k m c s d : Nat} (h : s ≠ d → tR t s = true → tR t d = true → val t s d k ≤ c * val t s d m) : pv t k s d ≤ c * pv t m s d := by
  by_cases h0 : pv t k s d = 0
  · rw [h0]; exact Nat.zero_le _
  · obtain ⟨a, b, c⟩ := pv_both h0
    rw [pv_in a b c, pv_in a b c]
    exact h a b c
theorem tot13 : tot t 1 ≤ tot t 3 := by
  have := tot_mono (t := t) (k := 1) (m := 3) (c := 1) (by decide) (by decide) (fun s d _ _ => pv_case (fun a _ _ => by
    obtain ⟨v0, v1, v2, v3, v4, v5, v6, v7⟩ := v_def t s d
    rw [v1, v3, Nat.one_mul]
    cases hg : gq (rad t) s d 49 with
    | none => rw [if_pos rfl]; exact Nat.zero_le _
    | some j =>
      rw [if_neg (by simp), wn_some hg]
      rcases Nat.eq_zero_or_pos j with h0 | h0
      · subst h0
        exact absurd (gq_self.mp hg).symm a
      · exact h0))
  omega
theorem tot41 (ok : NetOK t) : tot t 4 ≤ tot t 1 := by
  have h49 := n49 ok
  have := tot_mono (t := t) (k := 4) (m := 1) (c := 1) (by decide) (by decide) (fun s d hs hd => pv_case (fun a b c => by
    obtain ⟨v0, v1, v2, v3, v4, v5, v6, v7⟩ := v_def t s d
    rw [v1, v4, Nat.one_mul]
    by_cases hz : rs t d s (rl t d s) = d
    · obtain ⟨r1, r2, r3⟩ := rl_spec ok hs hd b
      obtain ⟨j, hj, -⟩ := route_way ok hs b r1 r3 hz
      rw [gq_two (by omega) (by omega)] at hj
      rw [if_pos hz, hj, if_neg (by simp)]
      exact Nat.le_refl _
    · rw [if_neg hz]; exact Nat.zero_le _))
  omega
theorem tot74 : tot t 7 ≤ tot t 4 := by
  have := tot_mono (t := t) (k := 7) (m := 4) (c := 1) (by decide) (by decide) (fun s d hs hd => pv_case (fun a b c => by
    obtain ⟨v0, v1, v2, v3, v4, v5, v6, v7⟩ := v_def t s d
    rw [v7, v4, Nat.one_mul]
    by_cases hz : rs t d s (rl t d s) = d
    · rw [if_pos hz, if_pos hz]
      by_cases hg : gq (rad t) s d 49 = some (rl t d s)
      · rw [if_pos hg]; exact Nat.le_refl _
      · rw [if_neg hg]; exact Nat.zero_le _
    · rw [if_neg hz]; exact Nat.zero_le _))
  omega
theorem tot46 : tot t 4 ≤ tot t 6 := by
  have := tot_mono (t := t) (k := 4) (m := 6) (c := 1) (by decide) (by decide) (fun s d hs hd => pv_case (fun a b c => by
    obtain ⟨v0, v1, v2, v3, v4, v5, v6, v7⟩ := v_def t s d
    rw [v6, v4, Nat.one_mul]
    by_cases hz : rs t d s (rl t d s) = d
    · rw [if_pos hz, if_pos hz]
      exact rl_pos a hz
    · rw [if_neg hz]; exact Nat.zero_le _))
  omega
theorem fd_max (f : Nat → Nat) {n i : Nat} (h : i < n) : f i ≤ fd 5 f n := by
  induction n with
  | zero => omega
  | succ n ih =>
    rw [fd_s, mop_m (Or.inr rfl)]
    by_cases h2 : i = n
    · subst h2; omega
    · have := ih (by omega); omega
theorem pv5_le {s d : Nat} (hs : s < tN t) (hd : d < tN t) : pv t 5 s d ≤ tot t 5 := by
  rw [tot_s]
  exact Nat.le_trans (fd_max (fun d => pv t 5 s d) hd) (fd_max (Ts t 5) hs)
theorem tot64 : tot t 6 ≤ tot t 5 * tot t 4 := by
  refine tot_mono (t := t) (k := 6) (m := 4) (by decide) (by decide) (fun s d hs hd => pv_case (fun a b c => ?_))
  have h5 := pv5_le (t := t) hs hd
  rw [pv_in a b c] at h5
  obtain ⟨v0, v1, v2, v3, v4, v5, v6, v7⟩ := v_def t s d
  rw [v5] at h5
  rw [v6, v4]
  by_cases hz : rs t d s (rl t d s) = d
  · rw [if_pos hz] at h5 ⊢
    rw [if_pos hz, Nat.mul_one]
    exact h5
  · rw [if_neg hz]; exact Nat.zero_le _
theorem pv_48 (ok : NetOK t) {k s d : Nat} (hs : s < tN t) (hd : d < tN t) (hk : k < 8) : pv t k s d ≤ 48 := by
  by_cases h0 : pv t k s d = 0
  · omega
  · obtain ⟨a, b, c⟩ := pv_both h0
    rw [pv_in a b c]
    obtain ⟨v0, v1, v2, v3, v4, v5, v6, v7⟩ := v_def t s d
    have h1 := wn_le t s d
    have h2 := rl_le ok hs hd b
    rcases (show k = 0 ∨ k = 1 ∨ k = 2 ∨ k = 3 ∨ k = 4 ∨ k = 5 ∨ k = 6 ∨ k = 7 by omega) with e | e | e | e | e | e | e | e <;> subst e
    · rw [v0]; omega
    · rw [v1]
      by_cases h : gq (rad t) s d 49 = none
      · rw [if_pos h]; omega
      · rw [if_neg h]; omega
    · rw [v2]; exact h1
    · rw [v3]; exact h1
    · rw [v4]
      by_cases h : rs t d s (rl t d s) = d
      · rw [if_pos h]; omega
      · rw [if_neg h]; omega
    · rw [v5]
      by_cases h : rs t d s (rl t d s) = d
      · rw [if_pos h]; omega
      · rw [if_neg h]; omega
    · rw [v6]
      by_cases h : rs t d s (rl t d s) = d
      · rw [if_pos h]; omega
      · rw [if_neg h]; omega
    · rw [v7]
      by_cases h : rs t d s (rl t d s) = d
      · rw [if_pos h]
        by_cases h3 : gq (rad t) s d 49 = some (rl t d s)
        · rw [if_pos h3]; omega
        · rw [if_neg h3]; omega
      · rw [if_neg h]; omega
theorem tot_bound (ok : NetOK t) {k : Nat} (hk : k < 8) : tot t k ≤ 115248 := by
  have h49 := n49 ok
  by_cases h : k = 2 ∨ k = 5
  · have : tot t k ≤ 48 := by
      rw [tot_s]
      exact fd_le h (fun s hs => fd_le h (fun d hd => pv_48 ok hs hd hk))
    omega
  · rw [tot_sm h]
    have h1 : ∀ s, s < tN t → fb_sm (fun d => pv t k s d) (tN t) ≤ 49 * 48 := fun s hs => by
      have := fb_sm_bound (f := fun d => pv t k s d) (c := 48) (n := tN t) (fun d hd => pv_48 ok hs hd hk)
      have h2 := Nat.mul_le_mul_right 48 h49.1
      omega
    have := fb_sm_bound (f := fun s => fb_sm (fun d => pv t k s d) (tN t)) (c := 49 * 48) (n := tN t) h1
    have h2 := Nat.mul_le_mul_right (49 * 48) h49.1
    omega
end TOT
section MEAS
variable {V : HS} {N : NS} {S : SS} {t : NT}
theorem v_m0 (hr : repN N t) (ok : NetOK t) : ∃ S', f_X2_measure V N S 0 = some (nI (tot t 0), S') := v_meas hr ok (k := 0) (by omega)
theorem v_m1 (hr : repN N t) (ok : NetOK t) : ∃ S', f_X2_measure V N S 1 = some (nI (tot t 1), S') := v_meas hr ok (k := 1) (by omega)
theorem v_m2 (hr : repN N t) (ok : NetOK t) : ∃ S', f_X2_measure V N S 2 = some (nI (tot t 2), S') := v_meas hr ok (k := 2) (by omega)
theorem v_m3 (hr : repN N t) (ok : NetOK t) : ∃ S', f_X2_measure V N S 3 = some (nI (tot t 3), S') := v_meas hr ok (k := 3) (by omega)
theorem v_m4 (hr : repN N t) (ok : NetOK t) : ∃ S', f_X2_measure V N S 4 = some (nI (tot t 4), S') := v_meas hr ok (k := 4) (by omega)
theorem v_m5 (hr : repN N t) (ok : NetOK t) : ∃ S', f_X2_measure V N S 5 = some (nI (tot t 5), S') := v_meas hr ok (k := 5) (by omega)
theorem v_m6 (hr : repN N t) (ok : NetOK t) : ∃ S', f_X2_measure V N S 6 = some (nI (tot t 6), S') := v_meas hr ok (k := 6) (by omega)
theorem v_m7 (hr : repN N t) (ok : NetOK t) : ∃ S', f_X2_measure V N S 7 = some (nI (tot t 7), S') := v_meas hr ok (k := 7) (by omega)
theorem not_lt {a b : Nat} (ha : a < 2 ^ 31) (hb : b < 2 ^ 31) (h : b ≤ a) : ¬ nI a < nI b := fun h2 => by
  rw [Int32.lt_iff_toInt_lt, nI_toInt ha, nI_toInt hb] at h2
  omega
theorem m_161 (hr : repN N t) (ok : NetOK t) : ∃ S', g_L_areMeasures_161 V N S 1 = some (1, S') := by
  have b4 := tot_bound ok (k := 4) (by omega)
  have b5 := tot_bound ok (k := 5) (by omega)
  have b6 := tot_bound ok (k := 6) (by omega)
  obtain ⟨r, S1, e1, r0, r1⟩ := v_mean (V := V) (S := S) hr ok
  obtain ⟨S2, e2⟩ := v_m4 (V := V) (S := S1) hr ok
  obtain ⟨S3, e3⟩ := v_m5 (V := V) (S := S2) hr ok
  rw [g_L_areMeasures_161, e1, Option.bind_some]
  dsimp only
  rw [if_neg n10, e2, Option.bind_some]
  dsimp only
  by_cases h0 : tot t 4 = 0
  · rw [if_pos (show nI (tot t 4) = 0 by rw [h0]; rfl), r0 h0, if_pos zero_cmp, v_meas8, Option.bind_some]
    dsimp only
    rw [if_pos rfl]
    exact ⟨_, rfl⟩
  · have h46 := tot46 (t := t)
    have h64 := tot64 (t := t)
    have h5 : 0 < tot t 5 := by
      rcases Nat.eq_zero_or_pos (tot t 5) with h | h
      · rw [h, Nat.zero_mul] at h64; omega
      · exact h
    rw [if_neg (show ¬ nI (tot t 4) = 0 from fun e => h0 ((nI_eq (b := 0) (by omega) (by omega)).mp e)), r1 h0, if_neg (mean_ge (by omega) (by omega) h46), e3, Option.bind_some]
    dsimp only
    rw [if_neg (mean_le (by omega) (by omega) h5 (by omega) (by omega) (by omega) h64), v_meas8, Option.bind_some]
    dsimp only
    rw [if_pos rfl]
    exact ⟨_, rfl⟩
theorem m_20 (hr : repN N t) (ok : NetOK t) : ∀ (fu i : Nat) (S : SS), i ≤ tN t → tN t - i < fu → ∃ S', g_L_areMeasures_20 fu V N S (nI (tPr t)) (nI (tot t 0)) (nI (fb_sm (tRe t) i)) (nI (fd 2 (tGr t) i)) (nI i) = some (1, S') := by
  have h49 := n49 ok
  intro fu
  induction fu with
  | zero => intro i S h1 h2; omega
  | succ fu ih =>
    intro i S h1 h2
    rw [g_L_areMeasures_20, v_told0 hr, Option.bind_some]
    by_cases hi : tN t ≤ i
    · have hi2 : i = tN t := by omega
      subst hi2
      obtain ⟨y, y1, y2⟩ := ok.2.2.2.2.2.2.2.2.2
      have hP : 0 < tPr t := fb_ct_pos.mpr ⟨y, y1, y2⟩
      have b1 := tot_bound ok (k := 1) (by omega)
      have b3 := tot_bound ok (k := 3) (by omega)
      have b4 := tot_bound ok (k := 4) (by omega)
      have b6 := tot_bound ok (k := 6) (by omega)
      have b7 := tot_bound ok (k := 7) (by omega)
      obtain ⟨S1, e1⟩ := v_m1 (V := V) (S := S) hr ok
      obtain ⟨S2, e2⟩ := v_m2 (V := V) (S := S1) hr ok
      obtain ⟨S3, e3⟩ := v_m3 (V := V) (S := S2) hr ok
      obtain ⟨S4, e4⟩ := v_m1 (V := V) (S := S3) hr ok
      obtain ⟨S5, e5⟩ := v_m4 (V := V) (S := S4) hr ok
      obtain ⟨S6, e6⟩ := v_m1 (V := V) (S := S5) hr ok
      obtain ⟨S7, e7⟩ := v_m7 (V := V) (S := S6) hr ok
      obtain ⟨S8, e8⟩ := v_m4 (V := V) (S := S7) hr ok
      obtain ⟨S9, e9⟩ := v_m6 (V := V) (S := S8) hr ok
      obtain ⟨Sa, ea⟩ := v_m4 (V := V) (S := S9) hr ok
      have e0 : nI (tot t 0) = nI (tPr t) * (nI (tPr t) - 1) := by
        rw [tot0 ok, show nI (tPr t) - 1 = nI (tPr t - 1) from pk_sub (b := 1) hP, pk_mul]
      rw [if_pos (nI_le hi (by omega)), if_pos e0, e1, Option.bind_some]
      dsimp only
      rw [if_pos (by rw [tot1 ok]), e2, Option.bind_some]
      dsimp only
      rw [if_pos (by rw [tot2 ok]), e3, Option.bind_some]
      dsimp only
      rw [e4, Option.bind_some]
      dsimp only
      rw [if_neg (not_lt (by omega) (by omega) tot13), e5, Option.bind_some]
      dsimp only
      rw [e6, Option.bind_some]
      dsimp only
      rw [if_neg (not_lt (by omega) (by omega) (tot41 ok)), e7, Option.bind_some]
      dsimp only
      rw [e8, Option.bind_some]
      dsimp only
      rw [if_neg (not_lt (by omega) (by omega) tot74), e9, Option.bind_some]
      dsimp only
      rw [ea, Option.bind_some]
      dsimp only
      rw [if_neg (not_lt (by omega) (by omega) tot46)]
      exact m_161 hr ok
    · have hi : i < tN t := by omega
      have g1 : ∀ u, tGr t u ≤ 48 := fun u => by
        unfold tGr
        cases tR t u with
        | true => rw [if_pos rfl]; exact mx_le (fun i => wn_le t u i) _
        | false => exact Nat.zero_le _
      have g2 : fd 2 (tGr t) i ≤ 48 := fd_le (Or.inl rfl) (fun u _ => g1 u)
      have g3 := g1 i
      obtain ⟨S1, e1⟩ := v_node5 (V := V) (S := S) hr ok hi
      obtain ⟨S2, e2⟩ := v_node6 (V := V) (S := S1) hr ok hi
      rw [if_neg (fun h => by have := (nI_leI (by omega) (by omega)).mp h; omega), e1, Option.bind_some]
      dsimp only
      rw [e2, Option.bind_some]
      dsimp only
      by_cases hm : tGr t i ≤ fd 2 (tGr t) i
      · obtain ⟨S3, e3⟩ := ih (i + 1) S2 (by omega) (by omega)
        rw [fb_sm_succ, fd_s, mop_m (Or.inl rfl), show max (fd 2 (tGr t) i) (tGr t i) = fd 2 (tGr t) i by omega] at e3
        rw [if_pos (nI_le hm (by omega)), nI_add, nI_1]
        exact ⟨_, e3⟩
      · obtain ⟨S3, e3⟩ := v_node6 (V := V) (S := S2) hr ok hi
        obtain ⟨S4, e4⟩ := ih (i + 1) S3 (by omega) (by omega)
        rw [fb_sm_succ, fd_s, mop_m (Or.inl rfl), show max (fd 2 (tGr t) i) (tGr t i) = tGr t i by omega] at e4
        rw [if_neg (fun h => hm ((nI_leI (by omega) (by omega)).mp h)), e3, Option.bind_some]
        dsimp only
        rw [nI_add, nI_1]
        exact ⟨_, e4⟩
theorem s_areMeasures (hr : repN N t) (ok : NetOK t) : ∃ S', f_L_areMeasures V N S = some (1, S') := by
  have h49 := n49 ok
  obtain ⟨S1, e1⟩ := v_m0 (V := V) (S := S) hr ok
  rw [f_L_areMeasures, v_told2 hr ok, Option.bind_some, e1, Option.bind_some]
  exact m_20 hr ok FU 0 S1 (by omega) (by unfold FU; omega)
end MEAS
