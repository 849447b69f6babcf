theorem c6 : (6 : Int32).toNatClampNeg = 6 := rfl
theorem c7 : (7 : Int32).toNatClampNeg = 7 := rfl
abbrev mC (M : MS) (f : Nat → Int32) : MS := (M.1, M.2.1, M.2.2.1, M.2.2.2.1, M.2.2.2.2.1, M.2.2.2.2.2.1, M.2.2.2.2.2.2.1, M.2.2.2.2.2.2.2.1, M.2.2.2.2.2.2.2.2.1, M.2.2.2.2.2.2.2.2.2.1, f)
def Mkeep (M M' : MS) : Prop := M'.1 = M.1 ∧ M'.2.1 = M.2.1 ∧ M'.2.2.1 = M.2.2.1 ∧ M'.2.2.2.1 = M.2.2.2.1 ∧ M'.2.2.2.2.1 = M.2.2.2.2.1 ∧ M'.2.2.2.2.2.2.2.2.1 = M.2.2.2.2.2.2.2.2.1
theorem Mkeep_trans {A B C : MS} (h : Mkeep A B) (k : Mkeep B C) : Mkeep A C := ⟨k.1.trans h.1, k.2.1.trans h.2.1, k.2.2.1.trans h.2.2.1, k.2.2.2.1.trans h.2.2.2.1, k.2.2.2.2.1.trans h.2.2.2.2.1, k.2.2.2.2.2.trans h.2.2.2.2.2⟩
theorem upd_s (f : Nat → Int32) (i : Nat) (x : Int32) : upd f i x i = x := by unfold upd; rw [if_pos rfl]
theorem upd_n (f : Nat → Int32) {i j : Nat} (x : Int32) (h : j ≠ i) : upd f i x j = f j := by unfold upd; rw [if_neg h]
theorem m_note {M : MS} {k : Nat} {y : Int32} (hk : k < 8) : ∃ F, f_X3_note M (nI k) y = some (mC M F) ∧ F k = (if y ≤ M.2.2.2.2.2.2.2.2.2.2 k then M.2.2.2.2.2.2.2.2.2.2 k else y) ∧ ∀ i, i ≠ k → F i = M.2.2.2.2.2.2.2.2.2.2 i := by
  rw [f_X3_note, gd_t (inB_nI hk (by omega)), nI_clamp (by omega)]
  by_cases h : y ≤ M.2.2.2.2.2.2.2.2.2.2 k
  · rw [if_pos h, if_pos h, gd_t (inB_nI hk (by omega)), gd_t (inB_nI hk (by omega))]
    exact ⟨_, rfl, upd_s _ _ _, fun i hi => upd_n _ _ hi⟩
  · rw [if_neg h, if_neg h, gd_t (inB_nI hk (by omega))]
    exact ⟨_, rfl, upd_s _ _ _, fun i hi => upd_n _ _ hi⟩
theorem m_last {t : NT} (ok : NetOK t) {s d : Nat} (hs : s < tN t) (hd : d < tN t) (hp : tR t s = true) (M : MS) (hr : repW M.1 t) (hw : WY (-9) (rad t) s 49 M.2.2.2.2.2.2.2.2.1) {x : Nat → Nat} (g0 : M.2.2.2.2.2.2.2.2.2.2 0 = nI (mop 0 (x 0) (val t s d 0))) (g1 : M.2.2.2.2.2.2.2.2.2.2 1 = nI (mop 1 (x 1) (val t s d 1))) (g2 : M.2.2.2.2.2.2.2.2.2.2 2 = nI (mop 2 (x 2) (val t s d 2))) (g3 : M.2.2.2.2.2.2.2.2.2.2 3 = nI (mop 3 (x 3) (val t s d 3))) (g4 : M.2.2.2.2.2.2.2.2.2.2 4 = nI (x 4)) (g5 : M.2.2.2.2.2.2.2.2.2.2 5 = nI (x 5)) (g6 : M.2.2.2.2.2.2.2.2.2.2 6 = nI (x 6)) (g7 : M.2.2.2.2.2.2.2.2.2.2 7 = nI (x 7)) (hx5 : x 5 < 2 ^ 31) : ∃ M', g_X3_layPair_57 M (nI s) (nI d) = some M' ∧ Mkeep M M' ∧ ∀ k, k < 8 → M'.2.2.2.2.2.2.2.2.2.2 k = nI (mop k (x k) (val t s d k)) := by
  have h49 := n49 ok
  have hrl := rl_le ok hs hd hp
  obtain ⟨v0, v1, v2, v3, v4, v5, v6, v7⟩ := v_def t s d
  obtain ⟨n, hn, ht, hno⟩ := rs_end ok hs hd hp
  obtain ⟨tr, e1, -⟩ := m_route ok hs hd hp hn ht hno M hr
  rw [rl_eq hn ht hno] at v4 v5 v6 v7
  rw [g_X3_layPair_57, e1, Option.bind_some]
  dsimp only
  by_cases hz : rs t d s n = d
  · rw [if_pos hz] at v4 v5 v6 v7
    rw [if_pos hz, if_neg n10, c4]
    obtain ⟨F, a1, a2, a3⟩ := m_note (M := (M.1, M.2.1, M.2.2.1, M.2.2.2.1, M.2.2.2.2.1, tr, nI n, (1 : Int32), M.2.2.2.2.2.2.2.2.1, M.2.2.2.2.2.2.2.2.2.1, upd M.2.2.2.2.2.2.2.2.2.2 4 (M.2.2.2.2.2.2.2.2.2.2 4 + 1))) (k := 5) (y := nI n) (by omega)
    have a2' : F 5 = (if nI n ≤ upd M.2.2.2.2.2.2.2.2.2.2 4 (M.2.2.2.2.2.2.2.2.2.2 4 + 1) 5 then upd M.2.2.2.2.2.2.2.2.2.2 4 (M.2.2.2.2.2.2.2.2.2.2 4 + 1) 5 else nI n) := a2
    have a3' : ∀ i, i ≠ 5 → F i = upd M.2.2.2.2.2.2.2.2.2.2 4 (M.2.2.2.2.2.2.2.2.2.2 4 + 1) i := a3
    rw [upd_n _ _ (by omega), g5, nI_max2 hx5 (by omega)] at a2'
    have f4 : F 4 = nI (x 4 + 1) := by rw [a3' 4 (by omega), upd_s, g4, nI_1]
    have fo : ∀ i, i ≠ 5 → i ≠ 4 → F i = M.2.2.2.2.2.2.2.2.2.2 i := fun i h1 h2 => by rw [a3' i h1, upd_n _ _ h2]
    have a1' : f_X3_note (M.1, M.2.1, M.2.2.1, M.2.2.2.1, M.2.2.2.2.1, tr, nI n, (1 : Int32), M.2.2.2.2.2.2.2.2.1, M.2.2.2.2.2.2.2.2.2.1, upd M.2.2.2.2.2.2.2.2.2.2 4 (M.2.2.2.2.2.2.2.2.2.2 4 + 1)) 5 (nI n) = some (M.1, M.2.1, M.2.2.1, M.2.2.2.1, M.2.2.2.2.1, tr, nI n, (1 : Int32), M.2.2.2.2.2.2.2.2.1, M.2.2.2.2.2.2.2.2.2.1, F) := a1
    rw [a1', Option.bind_some, gd_t (inB_nI (by omega) (by omega)), nI_clamp (by omega)]
    dsimp only
    rw [hw d (by omega), c6, c7]
    have hk : nI n = oI (-9) (gq (rad t) s d 49) ↔ gq (rad t) s d 49 = some n := ⟨fun h => (oI_eq n9_neg gq_31 (by omega)).mp h.symm, fun h => ((oI_eq n9_neg gq_31 (by omega)).mpr h).symm⟩
    have fin : ∀ (z : Int32), z = (if gq (rad t) s d 49 = some n then 1 else 0) → ∀ k, k < 8 → upd (upd F 6 (F 6 + nI n)) 7 (upd F 6 (F 6 + nI n) 7 + z) k = nI (mop k (x k) (val t s d k)) := by
      intro z hz2
      refine cnt8 ?_ ?_ ?_ ?_ ?_ ?_ ?_ ?_
      · rw [upd_n _ _ (by omega), upd_n _ _ (by omega), fo 0 (by omega) (by omega)]; exact g0
      · rw [upd_n _ _ (by omega), upd_n _ _ (by omega), fo 1 (by omega) (by omega)]; exact g1
      · rw [upd_n _ _ (by omega), upd_n _ _ (by omega), fo 2 (by omega) (by omega)]; exact g2
      · rw [upd_n _ _ (by omega), upd_n _ _ (by omega), fo 3 (by omega) (by omega)]; exact g3
      · rw [upd_n _ _ (by omega), upd_n _ _ (by omega), f4, v4, mop_s (by decide)]
      · rw [upd_n _ _ (by omega), upd_n _ _ (by omega), a2', v5, mop_m (by decide)]
      · rw [upd_n _ _ (by omega), upd_s, fo 6 (by omega) (by omega), g6, v6, mop_s (by decide), nI_add]
      · rw [upd_s, upd_n _ _ (by omega), fo 7 (by omega) (by omega), g7, v7, hz2, mop_s (by decide), nI_01]
    by_cases h : gq (rad t) s d 49 = some n
    · rw [if_pos (hk.mpr h)]
      exact ⟨_, rfl, ⟨rfl, rfl, rfl, rfl, rfl, rfl⟩, fin 1 (by rw [if_pos h])⟩
    · rw [if_neg (fun h2 => h (hk.mp h2))]
      exact ⟨_, rfl, ⟨rfl, rfl, rfl, rfl, rfl, rfl⟩, fin 0 (by rw [if_neg h])⟩
  · rw [if_neg hz] at v4 v5 v6 v7
    rw [if_neg hz, if_pos z00]
    refine ⟨_, rfl, ⟨rfl, rfl, rfl, rfl, rfl, rfl⟩, cnt8 g0 g1 g2 g3 ?_ ?_ ?_ ?_⟩
    · rw [v4, mop_0]; exact g4
    · rw [v5, mop_0]; exact g5
    · rw [v6, mop_0]; exact g6
    · rw [v7, mop_0]; exact g7
theorem m_pairAdd {t : NT} (ok : NetOK t) {s d : Nat} (hs : s < tN t) (hd : d < tN t) (hp : tR t s = true) (M : MS) (hr : repW M.1 t) (hw : WY (-9) (rad t) s 49 M.2.2.2.2.2.2.2.2.1) {x : Nat → Nat} (hx : ∀ k, k < 8 → M.2.2.2.2.2.2.2.2.2.2 k = nI (x k)) (hx2 : x 2 < 2 ^ 31) (hx5 : x 5 < 2 ^ 31) : ∃ M', f_X3_layPair M (nI s) (nI d) = some M' ∧ Mkeep M M' ∧ ∀ k, k < 8 → M'.2.2.2.2.2.2.2.2.2.2 k = nI (mop k (x k) (val t s d k)) := by
  have h49 := n49 ok
  obtain ⟨v0, v1, v2, v3, -⟩ := v_def t s d
  have q0 : M.2.2.2.2.2.2.2.2.2.2 0 + 1 = nI (mop 0 (x 0) (val t s d 0)) := by rw [hx 0 (by omega), v0, mop_s (by decide), nI_1]
  rw [f_X3_layPair, gd_t (inB_nI (by omega) (by omega)), nI_clamp (by omega), hw d (by omega), c0, c1, c3]
  by_cases hg : gq (rad t) s d 49 = none
  · rw [if_pos hg] at v1
    rw [wn_none hg] at v2 v3
    rw [if_pos (show oI (-9) (gq (rad t) s d 49) = -9 by rw [hg]; rfl)]
    have fo : ∀ i, 1 ≤ i → i < 8 → upd M.2.2.2.2.2.2.2.2.2.2 0 (M.2.2.2.2.2.2.2.2.2.2 0 + 1) i = nI (x i) := fun i h1 h2 => by rw [upd_n _ _ (by omega), hx i h2]
    have f00 : upd M.2.2.2.2.2.2.2.2.2.2 0 (M.2.2.2.2.2.2.2.2.2.2 0 + 1) 0 = nI (mop 0 (x 0) (val t s d 0)) := by rw [upd_s]; exact q0
    obtain ⟨M', e1, e2, e3⟩ := m_last ok hs hd hp (mC M (upd M.2.2.2.2.2.2.2.2.2.2 0 (M.2.2.2.2.2.2.2.2.2.2 0 + 1))) hr hw (x := x) f00 (by rw [v1, mop_0]; exact fo 1 (by omega) (by omega)) (by rw [v2, mop_0]; exact fo 2 (by omega) (by omega)) (by rw [v3, mop_0]; exact fo 3 (by omega) (by omega)) (fo 4 (by omega) (by omega)) (fo 5 (by omega) (by omega)) (fo 6 (by omega) (by omega)) (fo 7 (by omega) (by omega)) hx5
    exact ⟨M', e1, e2, e3⟩
  · obtain ⟨j, hj⟩ : ∃ j, gq (rad t) s d 49 = some j := by
      cases h : gq (rad t) s d 49 with
      | none => exact absurd h hg
      | some j => exact ⟨j, rfl⟩
    have hjl := (gq_some.mp hj).1
    have hoj : oI (-9) (gq (rad t) s d 49) = nI j := by rw [hj]; rfl
    rw [if_neg hg] at v1
    rw [wn_some hj] at v2 v3
    rw [hoj, if_neg (nI_n9 (by omega)), gd_t (inB_nI (by omega) (by omega))]
    generalize hF1 : (upd (upd M.2.2.2.2.2.2.2.2.2.2 0 (M.2.2.2.2.2.2.2.2.2.2 0 + 1)) 1 (upd M.2.2.2.2.2.2.2.2.2.2 0 (M.2.2.2.2.2.2.2.2.2.2 0 + 1) 1 + 1)) = F1
    have f0 : F1 0 = nI (mop 0 (x 0) (val t s d 0)) := by rw [← hF1, upd_n _ _ (by omega), upd_s]; exact q0
    have f1 : F1 1 = nI (mop 1 (x 1) (val t s d 1)) := by rw [← hF1, upd_s, upd_n _ _ (by omega), hx 1 (by omega), v1, mop_s (by decide), nI_1]
    have fo : ∀ i, 2 ≤ i → i < 8 → F1 i = nI (x i) := fun i h1 h2 => by rw [← hF1, upd_n _ _ (by omega), upd_n _ _ (by omega), hx i h2]
    obtain ⟨F, a1, a2, a3⟩ := m_note (M := mC M F1) (k := 2) (y := nI j) (by omega)
    have a1' : f_X3_note (mC M F1) 2 (nI j) = some (mC M F) := a1
    have a2' : F 2 = (if nI j ≤ F1 2 then F1 2 else nI j) := a2
    have a3' : ∀ i, i ≠ 2 → F i = F1 i := a3
    rw [a1', Option.bind_some, gd_t (inB_nI (by omega) (by omega))]
    dsimp only
    rw [hw d (by omega), hoj]
    obtain ⟨M', e1, e2, e3⟩ := m_last ok hs hd hp (mC M (upd F 3 (F 3 + nI j))) hr hw (x := x) (by
        show upd F 3 (F 3 + nI j) 0 = _
        rw [upd_n _ _ (by omega), a3' 0 (by omega)]; exact f0) (by
        show upd F 3 (F 3 + nI j) 1 = _
        rw [upd_n _ _ (by omega), a3' 1 (by omega)]; exact f1) (by
        show upd F 3 (F 3 + nI j) 2 = _
        rw [upd_n _ _ (by omega), a2', fo 2 (by omega) (by omega), v2, mop_m (by decide), nI_max2 hx2 (by omega)]) (by
        show upd F 3 (F 3 + nI j) 3 = _
        rw [upd_s, a3' 3 (by omega), fo 3 (by omega) (by omega), v3, mop_s (by decide), nI_add]) (by
        show upd F 3 (F 3 + nI j) 4 = _
        rw [upd_n _ _ (by omega), a3' 4 (by omega), fo 4 (by omega) (by omega)]) (by
        show upd F 3 (F 3 + nI j) 5 = _
        rw [upd_n _ _ (by omega), a3' 5 (by omega), fo 5 (by omega) (by omega)]) (by
        show upd F 3 (F 3 + nI j) 6 = _
        rw [upd_n _ _ (by omega), a3' 6 (by omega), fo 6 (by omega) (by omega)]) (by
        show upd F 3 (F 3 + nI j) 7 = _
        rw [upd_n _ _ (by omega), a3' 7 (by omega), fo 7 (by omega) (by omega)]) hx5
    exact ⟨M', e1, e2, e3⟩
