theorem cnt8 {f : Nat → Int32} {y : Nat → Nat} (h0 : f 0 = nI (y 0)) (h1 : f 1 = nI (y 1)) (h2 : f 2 = nI (y 2)) (h3 : f 3 = nI (y 3)) (h4 : f 4 = nI (y 4)) (h5 : f 5 = nI (y 5)) (h6 : f 6 = nI (y 6)) (h7 : f 7 = nI (y 7)) : ∀ k, k < 8 → f k = nI (y k) := by
  intro k hk
  rcases (show k = 0 ∨ k = 1 ∨ k = 2 ∨ k = 3 ∨ k = 4 ∨ k = 5 ∨ k = 6 ∨ k = 7 by omega) with rfl | rfl | rfl | rfl | rfl | rfl | rfl | rfl
  · exact h0
  · exact h1
  · exact h2
  · exact h3
  · exact h4
  · exact h5
  · exact h6
  · exact h7
theorem nI_max {a b : Nat} (ha : a < 2 ^ 31) (hb : b < 2 ^ 31) : (if nI a < nI b then nI b else nI a) = nI (max a b) := by
  by_cases h : a < b
  · rw [if_pos (nI_lt h hb), Nat.max_eq_right (by omega)]
  · rw [if_neg (fun h2 => by rw [Int32.lt_iff_toInt_lt, nI_toInt ha, nI_toInt hb] at h2; omega), Nat.max_eq_left (by omega)]
theorem nI_max2 {a b : Nat} (ha : a < 2 ^ 31) (hb : b < 2 ^ 31) : (if nI b ≤ nI a then nI a else nI b) = nI (max a b) := by
  by_cases h : b ≤ a
  · rw [if_pos (nI_le h ha), Nat.max_eq_left h]
  · rw [if_neg (fun h2 => h ((nI_leI hb ha).mp h2)), Nat.max_eq_right (by omega)]
theorem rl_le {t : NT} (ok : NetOK t) {s d : Nat} (hs : s < tN t) (hd : d < tN t) (hp : tR t s = true) : rl t d s ≤ 12 := by
  obtain ⟨n, hn, ht, hno⟩ := rs_end ok hs hd hp
  rw [rl_eq hn ht hno]
  exact hn
theorem v_def (t : NT) (s d : Nat) : val t s d 0 = 1 ∧ val t s d 1 = (if gq (rad t) s d 49 = none then 0 else 1) ∧ val t s d 2 = wn t s d ∧ val t s d 3 = wn t s d ∧ val t s d 4 = (if rs t d s (rl t d s) = d then 1 else 0) ∧ val t s d 5 = (if rs t d s (rl t d s) = d then rl t d s else 0) ∧ val t s d 6 = (if rs t d s (rl t d s) = d then rl t d s else 0) ∧ val t s d 7 = (if rs t d s (rl t d s) = d then (if gq (rad t) s d 49 = some (rl t d s) then 1 else 0) else 0) := ⟨rfl, rfl, rfl, rfl, rfl, rfl, rfl, rfl⟩
theorem wn_none {t : NT} {s d : Nat} (h : gq (rad t) s d 49 = none) : wn t s d = 0 := by unfold wn; rw [h]
theorem wn_some {t : NT} {s d j : Nat} (h : gq (rad t) s d 49 = some j) : wn t s d = j := by unfold wn; rw [h]
theorem nI_01 (a : Nat) (p : Prop) [Decidable p] : nI a + (if p then 1 else 0) = nI (a + (if p then 1 else 0)) := by
  by_cases h : p
  · rw [if_pos h, if_pos h, nI_1]
  · rw [if_neg h, if_neg h, show (0 : Int32) = nI 0 from rfl, nI_add]
theorem mop_s {k : Nat} (h : ¬ (k = 2 ∨ k = 5)) (a b : Nat) : mop k a b = a + b := by unfold mop; rw [if_neg h]
theorem mop_m {k : Nat} (h : k = 2 ∨ k = 5) (a b : Nat) : mop k a b = max a b := by unfold mop; rw [if_pos h]
theorem nI_p0 (a : Nat) : nI a + 0 = nI a := by rw [Int32.add_zero]
theorem n_add2 {S : SS} {k : Nat} {y : Int32} (hk : k < 8) : ∃ F, f_X1_add S (nI k) y = some (sW S F) ∧ F k = S.2.2.2.2.2.1 k + y ∧ ∀ i, i ≠ k → F i = S.2.2.2.2.2.1 i := ⟨_, n_add hk, by unfold upd; rw [if_pos rfl], fun i hi => by unfold upd; rw [if_neg hi]⟩
theorem n_raise2 {S : SS} {k : Nat} {y : Int32} (hk : k < 8) : ∃ F, f_X1_raise S (nI k) y = some (sW S F) ∧ F k = (if S.2.2.2.2.2.1 k < y then y else S.2.2.2.2.2.1 k) ∧ ∀ i, i ≠ k → F i = S.2.2.2.2.2.1 i := ⟨_, n_raise hk, by unfold upd; rw [if_pos rfl], fun i hi => by unfold upd; rw [if_neg hi]⟩
theorem n_35u {t : NT} (ok : NetOK t) {s d : Nat} (hs : s < tN t) (hd : d < tN t) (hp : tR t s = true) (S : SS) (ha : AIM t d S.2.2.2.1) (z : Int32) (hz : rs t d s (rl t d s) = d) : ∃ tr x F, g_X1_addPair_35 S (nI s) (nI d) z = some (S.1, S.2.1, S.2.2.1, S.2.2.2.1, tr, F, x) ∧ (∀ i, i < 4 → F i = S.2.2.2.2.2.1 i) ∧ F 4 = S.2.2.2.2.2.1 4 + 1 ∧ F 5 = (if S.2.2.2.2.2.1 5 < nI (rl t d s) then nI (rl t d s) else S.2.2.2.2.2.1 5) ∧ F 6 = S.2.2.2.2.2.1 6 + nI (rl t d s) ∧ F 7 = S.2.2.2.2.2.1 7 + (if nI (rl t d s) = z then 1 else 0) := by
  obtain ⟨tr, x, e⟩ := n_35t ok hs hd hp S ha z hz
  refine ⟨tr, x, _, e, fun i hi => ?_, ?_, ?_, ?_, ?_⟩
  · unfold upd
    rw [if_neg (by omega), if_neg (by omega), if_neg (by omega), if_neg (by omega)]
  · unfold upd
    rw [if_neg (by omega), if_neg (by omega), if_neg (by omega), if_pos rfl]
  · unfold upd
    rw [if_neg (by omega), if_neg (by omega), if_pos rfl]
  · unfold upd
    rw [if_neg (by omega), if_pos rfl]
  · unfold upd
    rw [if_pos rfl]
/-- the last four counters -/
theorem n_last {t : NT} (ok : NetOK t) {s d : Nat} (hs : s < tN t) (hd : d < tN t) (hp : tR t s = true) (S : SS) (ha : AIM t d S.2.2.2.1) {x : Nat → Nat} (g0 : S.2.2.2.2.2.1 0 = nI (mop 0 (x 0) (val t s d 0))) (g1 : S.2.2.2.2.2.1 1 = nI (mop 1 (x 1) (val t s d 1))) (g2 : S.2.2.2.2.2.1 2 = nI (mop 2 (x 2) (val t s d 2))) (g3 : S.2.2.2.2.2.1 3 = nI (mop 3 (x 3) (val t s d 3))) (g4 : S.2.2.2.2.2.1 4 = nI (x 4)) (g5 : S.2.2.2.2.2.1 5 = nI (x 5)) (g6 : S.2.2.2.2.2.1 6 = nI (x 6)) (g7 : S.2.2.2.2.2.1 7 = nI (x 7)) (hx5 : x 5 < 2 ^ 31) : ∃ S', g_X1_addPair_35 S (nI s) (nI d) (oI (-1) (gq (rad t) s d 49)) = some S' ∧ S'.1 = S.1 ∧ S'.2.1 = S.2.1 ∧ S'.2.2.2.1 = S.2.2.2.1 ∧ ∀ k, k < 8 → S'.2.2.2.2.2.1 k = nI (mop k (x k) (val t s d k)) := by
  have hr := rl_le ok hs hd hp
  obtain ⟨v0, v1, v2, v3, v4, v5, v6, v7⟩ := v_def t s d
  by_cases hz : rs t d s (rl t d s) = d
  · obtain ⟨tr, y, F, e, f0, f4, f5, f6, f7⟩ := n_35u ok hs hd hp S ha (oI (-1) (gq (rad t) s d 49)) hz
    rw [if_pos hz] at v4 v5 v6 v7
    refine ⟨(S.1, S.2.1, S.2.2.1, S.2.2.2.1, tr, F, y), e, rfl, rfl, rfl, cnt8 ((f0 0 (by omega)).trans g0) ((f0 1 (by omega)).trans g1) ((f0 2 (by omega)).trans g2) ((f0 3 (by omega)).trans g3) (f4.trans ?_) (f5.trans ?_) (f6.trans ?_) (f7.trans ?_)⟩
    · rw [g4, v4, mop_s (by decide), nI_1]
    · rw [g5, v5, mop_m (by decide), nI_max hx5 (by omega)]
    · rw [g6, v6, mop_s (by decide), nI_add]
    · rw [g7, v7]
      have hk : nI (rl t d s) = oI (-1) (gq (rad t) s d 49) ↔ gq (rad t) s d 49 = some (rl t d s) := ⟨fun h => (oI_eq m1_neg gq_31 (by omega)).mp h.symm, fun h => ((oI_eq m1_neg gq_31 (by omega)).mpr h).symm⟩
      by_cases h : gq (rad t) s d 49 = some (rl t d s)
      · rw [if_pos (hk.mpr h), if_pos h, mop_s (by decide), nI_1]
      · rw [if_neg (fun h2 => h (hk.mp h2)), if_neg h, mop_0, nI_p0]
  · obtain ⟨tr, y, e⟩ := n_35f ok hs hd hp S ha (oI (-1) (gq (rad t) s d 49)) hz
    rw [if_neg hz] at v4 v5 v6 v7
    refine ⟨(S.1, S.2.1, S.2.2.1, S.2.2.2.1, tr, S.2.2.2.2.2.1, y), e, rfl, rfl, rfl, cnt8 g0 g1 g2 g3 ?_ ?_ ?_ ?_⟩
    · rw [v4, mop_0]; exact g4
    · rw [v5, mop_0]; exact g5
    · rw [v6, mop_0]; exact g6
    · rw [v7, mop_0]; exact g7
theorem n_pairAdd {t : NT} (ok : NetOK t) {s d : Nat} (hs : s < tN t) (hd : d < tN t) (hp : tR t s = true) (S : SS) (hw : WY (-1) (adj t) d 49 S.2.1) (ha : AIM t d S.2.2.2.1) {x : Nat → Nat} (hx : ∀ k, k < 8 → S.2.2.2.2.2.1 k = nI (x k)) (hx2 : x 2 < 2 ^ 31) (hx5 : x 5 < 2 ^ 31) : ∃ S', f_X1_addPair S (nI s) (nI d) = some S' ∧ S'.1 = S.1 ∧ S'.2.1 = S.2.1 ∧ S'.2.2.2.1 = S.2.2.2.1 ∧ ∀ k, k < 8 → S'.2.2.2.2.2.1 k = nI (mop k (x k) (val t s d k)) := by
  have h49 := n49 ok
  obtain ⟨v0, v1, v2, v3, -⟩ := v_def t s d
  obtain ⟨F0, a0, b0, d0⟩ := n_add2 (S := S) (k := 0) (y := 1) (by omega)
  have a0' : f_X1_add S 0 1 = some (sW S F0) := a0
  rw [f_X1_addPair, n_wayFrom hw (by omega), Option.bind_some, gq_two (by omega) (by omega), a0', Option.bind_some]
  have q0 : F0 0 = nI (mop 0 (x 0) (val t s d 0)) := by rw [b0, hx 0 (by omega), v0, mop_s (by decide), nI_1]
  by_cases hg : gq (rad t) s d 49 = none
  · rw [if_pos hg] at v1
    rw [wn_none hg] at v2 v3
    rw [if_pos (show oI (-1) (gq (rad t) s d 49) = -1 by rw [hg]; rfl)]
    exact n_last ok hs hd hp (sW S F0) ha q0 (by rw [v1, mop_0]; exact (d0 1 (by omega)).trans (hx 1 (by omega))) (by rw [v2, mop_0]; exact (d0 2 (by omega)).trans (hx 2 (by omega))) (by rw [v3, mop_0]; exact (d0 3 (by omega)).trans (hx 3 (by omega))) ((d0 4 (by omega)).trans (hx 4 (by omega))) ((d0 5 (by omega)).trans (hx 5 (by omega))) ((d0 6 (by omega)).trans (hx 6 (by omega))) ((d0 7 (by omega)).trans (hx 7 (by omega))) hx5
  · obtain ⟨j, hj⟩ : ∃ j, gq (rad t) s d 49 = some j := by
      cases h : gq (rad t) s d 49 with
      | none => exact absurd h hg
      | some j => exact ⟨j, rfl⟩
    have hjl := (gq_some.mp hj).1
    have hoj : oI (-1) (gq (rad t) s d 49) = nI j := by rw [hj]; rfl
    rw [if_neg hg] at v1
    rw [wn_some hj] at v2 v3
    obtain ⟨F1, a1, b1, d1⟩ := n_add2 (S := sW S F0) (k := 1) (y := 1) (by omega)
    obtain ⟨F2, a2, b2, d2⟩ := n_raise2 (S := sW S F1) (k := 2) (y := nI j) (by omega)
    obtain ⟨F3, a3, b3, d3⟩ := n_add2 (S := sW S F2) (k := 3) (y := nI j) (by omega)
    have a1' : f_X1_add (sW S F0) 1 1 = some (sW S F1) := a1
    have a2' : f_X1_raise (sW S F1) 2 (nI j) = some (sW S F2) := a2
    have a3' : f_X1_add (sW S F2) 3 (nI j) = some (sW S F3) := a3
    have d1' : ∀ i, i ≠ 1 → F1 i = F0 i := d1
    have d2' : ∀ i, i ≠ 2 → F2 i = F1 i := d2
    have d3' : ∀ i, i ≠ 3 → F3 i = F2 i := d3
    have b1' : F1 1 = F0 1 + 1 := b1
    have b2' : F2 2 = (if F1 2 < nI j then nI j else F1 2) := b2
    have b3' : F3 3 = F2 3 + nI j := b3
    rw [if_neg (show ¬ oI (-1) (gq (rad t) s d 49) = -1 by rw [hoj]; exact nI_neg1 (by omega)), a1', Option.bind_some, hoj, a2', Option.bind_some, a3', Option.bind_some, ← hoj]
    refine n_last ok hs hd hp (sW S F3) ha ?_ ?_ ?_ ?_ ?_ ?_ ?_ ?_ hx5
    · show F3 0 = _
      rw [d3' 0 (by omega), d2' 0 (by omega), d1' 0 (by omega)]; exact q0
    · show F3 1 = _
      rw [d3' 1 (by omega), d2' 1 (by omega), b1', d0 1 (by omega), hx 1 (by omega), v1, mop_s (by decide), nI_1]
    · show F3 2 = _
      rw [d3' 2 (by omega), b2', d1' 2 (by omega), d0 2 (by omega), hx 2 (by omega), v2, mop_m (by decide), nI_max hx2 (by omega)]
    · show F3 3 = _
      rw [b3', d2' 3 (by omega), d1' 3 (by omega), d0 3 (by omega), hx 3 (by omega), v3, mop_s (by decide), nI_add]
    · show F3 4 = _
      rw [d3' 4 (by omega), d2' 4 (by omega), d1' 4 (by omega), d0 4 (by omega), hx 4 (by omega)]
    · show F3 5 = _
      rw [d3' 5 (by omega), d2' 5 (by omega), d1' 5 (by omega), d0 5 (by omega), hx 5 (by omega)]
    · show F3 6 = _
      rw [d3' 6 (by omega), d2' 6 (by omega), d1' 6 (by omega), d0 6 (by omega), hx 6 (by omega)]
    · show F3 7 = _
      rw [d3' 7 (by omega), d2' 7 (by omega), d1' 7 (by omega), d0 7 (by omega), hx 7 (by omega)]
