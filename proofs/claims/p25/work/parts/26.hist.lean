/-! ===== the history ===== -/
theorem repW_congr {w w' : Nat → Int32} {t : NT} (ok : NetOK t) (h : ∀ j, j < 300 → w' j = w j) (hr : repW w t) : repW w' t := by
  have h49 := n49 ok
  obtain ⟨r1, r2, r3, r4, r5, r6, r7⟩ := hr
  refine ⟨(h 0 (by omega)).trans r1, (h 1 (by omega)).trans r2, (h 2 (by omega)).trans r3, (h 3 (by omega)).trans r4, (h 4 (by omega)).trans r5, (h 5 (by omega)).trans r6, fun u hu => ?_⟩
  obtain ⟨q1, q2, q3, q4⟩ := r7 u hu
  have h3 := (ok.2.2.2.1 u hu).1
  exact ⟨(h _ (by omega)).trans q1, (h _ (by omega)).trans q2, (h _ (by omega)).trans q3, fun k hk => (h _ (by omega)).trans (q4 k hk)⟩
theorem Both_congr {N : NS} {w w' : Nat → Int32} (h : ∀ j, j < 300 → w' j = w j) (hb : Both N w) : Both N w' := by
  obtain ⟨t, ok, a, b⟩ := hb
  exact ⟨t, ok, a, repW_congr ok h b⟩
theorem rem52 {c : Nat} (hc : c ≤ 7) : ∀ (fu i : Nat) (M : MS), i ≤ 300 → 300 - i < fu → M.2.2.1 = nI c → ∃ p', g_X3_remember_52 fu M (nI i) = some (M.1, p', nI (c + 1), M.2.2.2) ∧ ∀ j, p' j = if 300 * c + i ≤ j ∧ j < 300 * c + 300 then M.1 (j - 300 * c) else M.2.1 j := by
  intro fu
  induction fu with
  | zero => intro i M h1 h2; omega
  | succ fu ih =>
    intro i M h1 h2 hm
    rw [g_X3_remember_52, show (300 : Int32) = nI 300 from rfl]
    by_cases hi : 300 ≤ i
    · rw [if_pos ((nI_leI (by omega) (by omega)).mpr hi), hm, nI_1]
      exact ⟨_, rfl, fun j => by rw [if_neg (by omega)]⟩
    · rw [if_neg (fun h => hi ((nI_leI (by omega) (by omega)).mp h)), gd_t (inB_nI (by omega) (by omega)), hm, pk_mul, nI_add, gd_t (inB_nI (by omega) (by omega)), nI_clamp (by omega), nI_clamp (by omega), nI_1]
      obtain ⟨p', e1, e2⟩ := ih (i + 1) (M.1, upd M.2.1 (300 * c + i) (M.1 i), nI c, M.2.2.2) (by omega) (by omega) rfl
      refine ⟨p', e1, fun j => ?_⟩
      rw [e2 j]
      dsimp only [upd]
      by_cases ha : 300 * c + i ≤ j ∧ j < 300 * c + 300
      · rw [if_pos ha]
        by_cases hb : j = 300 * c + i
        · rw [if_neg (by omega), if_pos hb, hb, show 300 * c + i - 300 * c = i by omega]
        · rw [if_pos (by omega)]
      · rw [if_neg (by omega), if_neg (by omega), if_neg ha]
theorem rem11 : ∀ (fu i : Nat) (M : MS), i ≤ 2100 → 2100 - i < fu → ∃ p', g_X3_remember_11 fu M (nI i) = g_X3_remember_52 FU (M.1, p', M.2.2.1 - 1, M.2.2.2) 0 ∧ ∀ j, p' j = if i ≤ j ∧ j < 2100 then M.2.1 (j + 300) else M.2.1 j := by
  intro fu
  induction fu with
  | zero => intro i M h1 h2; omega
  | succ fu ih =>
    intro i M h1 h2
    rw [g_X3_remember_11, show (2100 : Int32) = nI 2100 from rfl]
    by_cases hi : 2100 ≤ i
    · rw [if_pos ((nI_leI (by omega) (by omega)).mpr hi)]
      exact ⟨_, rfl, fun j => by rw [if_neg (by omega)]⟩
    · rw [if_neg (fun h => hi ((nI_leI (by omega) (by omega)).mp h)), show (300 : Int32) = nI 300 from rfl, nI_add, gd_t (inB_nI (by omega) (by omega)), gd_t (inB_nI (by omega) (by omega)), nI_clamp (by omega), nI_clamp (by omega), nI_1]
      obtain ⟨p', e1, e2⟩ := ih (i + 1) (M.1, upd M.2.1 i (M.2.1 (i + 300)), M.2.2.1, M.2.2.2) (by omega) (by omega)
      refine ⟨p', e1, fun j => ?_⟩
      rw [e2 j]
      dsimp only [upd]
      by_cases ha : i ≤ j ∧ j < 2100
      · rw [if_pos ha]
        by_cases hb : j = i
        · rw [if_neg (by omega), if_pos hb, hb]
        · rw [if_pos (by omega), if_neg (by omega)]
      · rw [if_neg (by omega), if_neg (by omega), if_neg ha]
/-- a change is recorded on both sides -/
theorem rec_ok {V : HS} {N : NS} (S : SS) {M : MS} (h : Rel V N M) : ∃ (V' : HS) (p' : Nat → Int32) (x' : Int32), f_X2_record V N S = some V' ∧ f_X3_remember M = some (M.1, p', x', M.2.2.2) ∧ RelH V' (M.1, p', x', M.2.2.2) := by
  obtain ⟨hb, ⟨c, hc, v1, v2, hk⟩, him⟩ := h
  obtain ⟨v, vp, vi⟩ := V
  dsimp only at v1 hk him
  subst v1
  rw [f_X2_record, f_X3_remember, v2]
  dsimp only
  rw [gd_t (inB_nI (by omega) (by omega)), show (8 : Int32) = nI 8 from rfl]
  by_cases h8 : c = 8
  · subst h8
    rw [if_pos (nI_le (Nat.le_refl 8) (by omega)), if_pos rfl]
    have hall : ((List.range 8).all fun k => (vp k).isSome) = true := by
      refine List.all_eq_true.mpr (fun k hk2 => ?_)
      obtain ⟨N', e, -⟩ := hk k (List.mem_range.mp hk2)
      show (vp k).isSome = true
      rw [e]; rfl
    rw [gd_t hall]
    obtain ⟨p1, a1, a2⟩ := rem11 FU 0 M (by omega) (by unfold FU; omega)
    rw [show (0 : Int32) = nI 0 from rfl, a1, v2, show nI 8 - 1 = nI 7 from by decide]
    obtain ⟨p2, b1, b2⟩ := rem52 (c := 7) (by omega) FU 0 (M.1, p1, nI 7, M.2.2.2) (by omega) (by unfold FU; omega) rfl
    rw [show (0 : Int32) = nI 0 from rfl, b1]
    refine ⟨_, p2, _, rfl, rfl, ⟨8, by omega, rfl, rfl, fun k hk2 => ?_⟩, him⟩
    dsimp only
    by_cases h7 : k = 7
    · subst h7
      rw [if_pos rfl]
      refine ⟨N, rfl, Both_congr (fun j hj => ?_) hb⟩
      rw [b2, if_pos (by omega), show 300 * 7 + j - 300 * 7 = j by omega]
    · rw [if_neg h7]
      obtain ⟨N', e, hN⟩ := hk (k + 1) (by omega)
      refine ⟨N', e, Both_congr (fun j hj => ?_) hN⟩
      rw [b2, if_neg (by omega)]
      dsimp only
      rw [a2, if_pos (by omega), show 300 * k + j + 300 = 300 * (k + 1) + j by omega]
  · rw [if_neg (fun h => h8 (by have := (nI_leI (by omega) (by omega)).mp h; omega)), if_neg (fun h => h8 ((nI_eq (by omega) (by omega)).mp h)), nI_1, nI_clamp (by omega)]
    obtain ⟨p2, b1, b2⟩ := rem52 (c := c) (by omega) FU 0 M (by omega) (by unfold FU; omega) v2
    rw [show (0 : Int32) = nI 0 from rfl, b1]
    refine ⟨_, p2, _, rfl, rfl, ⟨c + 1, by omega, rfl, rfl, fun k hk2 => ?_⟩, him⟩
    dsimp only
    by_cases h7 : k = c
    · subst h7
      rw [if_pos rfl]
      refine ⟨N, rfl, Both_congr (fun j hj => ?_) hb⟩
      rw [b2, if_pos (by omega), show 300 * k + j - 300 * k = j by omega]
    · rw [if_neg h7]
      obtain ⟨N', e, hN⟩ := hk k (by omega)
      refine ⟨N', e, Both_congr (fun j hj => ?_) hN⟩
      rw [b2, if_neg (by omega)]
