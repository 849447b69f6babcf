/-! ===== the reference's ways ===== -/
def rad (t : NT) (u v : Nat) : Bool := adj t v u
theorem pin_sum2 {a : Nat → Nat → Bool} {d k u : Nat} (hk : k < 49) (h : gq a d u (k + 1) = none) : fb_sm (pin a d k u) 49 = GW a d (k + 1) u := by
  have h3 := gq_none.mp h
  rw [GW_s]
  refine fb_sm_cong (fun v hv => ?_)
  unfold pin
  cases ha : a u v with
  | false => rfl
  | true =>
    rw [if_pos rfl, if_pos rfl]
    by_cases hg : gq a d v 49 = some k
    · rw [if_pos hg]
    · rw [if_neg hg]
      rcases Nat.eq_zero_or_pos (GW a d k v) with h0 | h0
      · exact h0.symm
      · exfalso
        apply hg
        refine gq_some.mpr ⟨by omega, h0, fun i hi => ?_⟩
        rcases Nat.eq_zero_or_pos (GW a d i v) with h4 | h4
        · exact h4
        · have := h3 (i + 1) (by omega)
          have h5 := GW_pos.mpr ⟨v, hv, ha, h4⟩
          omega
def cs (b : Nat → Nat → Bool) (s k i j v : Nat) : Nat := fb_sm (pin b s k v) i + (if v < j then pin b s k v i else 0)
def ST (b : Nat → Nat → Bool) (s k i j : Nat) (w9 : Nat → Int32) (w10 : Nat → Int64) : Prop := ∀ v, v < 49 → (∀ m, gq b s v (k + 1) = some m → w9 v = nI m ∧ w10 v = lN (GW b s m v)) ∧ (gq b s v (k + 1) = none → w9 v = (if 0 < cs b s k i j v then nI (k + 1) else -9) ∧ w10 v = lN (cs b s k i j v))
def FL (b : Nat → Nat → Bool) (s k i j : Nat) (x : Int32) : Prop := (x = 0 ∧ ∀ v, v < 49 → gq b s v (k + 1) = none → cs b s k i j v = 0) ∨ (x = 1 ∧ ∃ v, v < 49 ∧ gq b s v (k + 1) = none ∧ 0 < cs b s k i j v)
theorem ST_cong {b : Nat → Nat → Bool} {s k i j i' j' : Nat} {w9 : Nat → Int32} {w10 : Nat → Int64} (h : ∀ v, v < 49 → cs b s k i' j' v = cs b s k i j v) (hs : ST b s k i j w9 w10) : ST b s k i' j' w9 w10 := by
  intro v hv
  rw [h v hv]
  exact hs v hv
theorem FL_cong {b : Nat → Nat → Bool} {s k i j i' j' : Nat} {x : Int32} (h : ∀ v, v < 49 → cs b s k i' j' v = cs b s k i j v) (hs : FL b s k i j x) : FL b s k i' j' x := by
  rcases hs with ⟨h1, h2⟩ | ⟨h1, v, v1, v2, v3⟩
  · exact Or.inl ⟨h1, fun v hv hn => by rw [h v hv]; exact h2 v hv hn⟩
  · exact Or.inr ⟨h1, v, v1, v2, by rw [h v v1]; exact v3⟩
abbrev mW (M : MS) (w9 : Nat → Int32) (w10 : Nat → Int64) : MS := (M.1, M.2.1, M.2.2.1, M.2.2.2.1, M.2.2.2.2.1, M.2.2.2.2.2.1, M.2.2.2.2.2.2.1, M.2.2.2.2.2.2.2.1, w9, w10, M.2.2.2.2.2.2.2.2.2.2)
theorem n9_neg : (-9 : Int32) < 0 := by decide
theorem nI_n9 {j : Nat} (h : j < 2 ^ 31) : ¬ nI j = -9 := by
  intro e
  have := nI_pos (n := j) h
  rw [e] at this
  exact this n9_neg
theorem rad_out {t : NT} (ok : NetOK t) {u v : Nat} (h : tN t ≤ u ∨ tN t ≤ v) : rad t u v = false := by
  cases hb : rad t u v with
  | false => rfl
  | true =>
    have := adj_lt ok (u := v) (v := u) hb
    omega
theorem pin_out {t : NT} (ok : NetOK t) {s k u v : Nat} (h : tN t ≤ u ∨ tN t ≤ v) : pin (rad t) s k u v = 0 := by
  unfold pin
  rw [rad_out ok h, if_neg ff]
theorem cs_row {t : NT} (ok : NetOK t) {s k i v : Nat} : cs (rad t) s k (i + 1) 0 v = cs (rad t) s k i (tN t) v := by
  unfold cs
  rw [if_neg (Nat.not_lt_zero _), fb_sm_succ, Nat.add_zero]
  by_cases h : v < tN t
  · rw [if_pos h]
  · rw [if_neg h, pin_out ok (Or.inl (by omega))]
/-- one row of the reference's inner loop, at a node of the level -/
theorem m_w72 {t : NT} (ok : NetOK t) {s k i : Nat} (hk : k < 49) (hi : i < tN t) (hpi : tR t i = true) (hgi : gq (rad t) s i (k + 1) = some k) {K51 : MS → Int32 → Int32 → Option MS} {K60 : MS → Int32 → Int32 → Int32 → Option MS} : ∀ (fu j : Nat) (M : MS) (x : Int32), j ≤ tN t → tN t - j < fu → repW M.1 t → ST (rad t) s k i j M.2.2.2.2.2.2.2.2.1 M.2.2.2.2.2.2.2.2.2.1 → FL (rad t) s k i j x → ∃ w9 w10 x', g_X3_layWays_72 K51 K60 fu M x (nI k) (nI i) (nI j) = K60 (mW M w9 w10) x' (nI k) (nI (i + 1)) ∧ ST (rad t) s k (i + 1) 0 w9 w10 ∧ FL (rad t) s k (i + 1) 0 x' := by
  intro fu
  have h49 := n49 ok
  induction fu with
  | zero => intro j M x h1 h2; omega
  | succ fu ih =>
    intro j M x h1 h2 hr hs hf
    rw [g_X3_layWays_72, m_nodes hr, Option.bind_some]
    by_cases hj : tN t ≤ j
    · have : j = tN t := by omega
      subst this
      rw [if_pos (nI_le hj (by omega)), nI_1]
      exact ⟨_, _, x, rfl, ST_cong (fun v _ => cs_row ok) hs, FL_cong (fun v _ => cs_row ok) hf⟩
    · have hj2 : j < tN t := by omega
      obtain ⟨wi, ci⟩ := (hs i (by omega)).1 k hgi
      rw [if_neg (fun h => by have := (nI_leI (by omega) (by omega)).mp h; omega), gd_t (inB_nI (by omega) (by omega)), nI_clamp (by omega), nI_clamp (by omega), wi, if_pos rfl, m_isContact hr ok hi hj2, Option.bind_some, nI_1]
      have hrad : rad t j i = con t i j := by
        unfold rad adj cn
        simp [hi, hj2, hpi]
      cases hc : con t i j with
      | false =>
        have e : ∀ v, v < 49 → cs (rad t) s k i (j + 1) v = cs (rad t) s k i j v := by
          intro v _
          unfold cs
          by_cases h : v = j
          · subst h
            rw [if_pos (by omega), if_neg (by omega)]
            unfold pin
            rw [hrad, hc, if_neg ff]
          · by_cases h3 : v < j
            · rw [if_pos h3, if_pos (by omega)]
            · rw [if_neg h3, if_neg (by omega)]
        rw [if_neg ff, if_pos z00]
        exact ih (j + 1) M x (by omega) (by omega) hr (ST_cong e hs) (FL_cong e hf)
      | true =>
        have hpin : pin (rad t) s k j i = GW (rad t) s k i := by
          unfold pin
          rw [hrad, hc, if_pos rfl, if_pos (gq_keep hgi (by omega))]
        have hpos := (gq_some.mp hgi).2.1
        have e : ∀ v, v ≠ j → cs (rad t) s k i (j + 1) v = cs (rad t) s k i j v := by
          intro v h
          unfold cs
          by_cases h3 : v < j
          · rw [if_pos h3, if_pos (by omega)]
          · rw [if_neg h3, if_neg (by omega)]
        have ej : cs (rad t) s k i (j + 1) j = cs (rad t) s k i j j + GW (rad t) s k i := by
          unfold cs
          rw [if_pos (by omega), if_neg (by omega), hpin, Nat.add_zero]
        rw [if_pos rfl, if_neg n10, gd_t (inB_nI (by omega) (by omega))]
        cases hg : gq (rad t) s j (k + 1) with
        | some m =>
          obtain ⟨wj, cj⟩ := (hs j (by omega)).1 m hg
          have hm := (gq_some.mp hg).1
          rw [wj, if_neg (nI_n9 (by omega)), gd_t (inB_nI (by omega) (by omega)), nI_1, if_neg (fun h => by have := (nI_eq (by omega) (by omega)).mp h; omega)]
          refine ih (j + 1) M x (by omega) (by omega) hr (fun v hv => ?_) ?_
          · by_cases h : v = j
            · subst h
              refine ⟨(hs v hv).1, fun hn => ?_⟩
              rw [hg] at hn
              cases hn
            · rw [e v h]
              exact hs v hv
          · rcases hf with ⟨f1, f2⟩ | ⟨f1, v, v1, v2, v3⟩
            · refine Or.inl ⟨f1, fun v hv hn => ?_⟩
              rw [e v (fun h => by rw [h, hg] at hn; cases hn)]
              exact f2 v hv hn
            · refine Or.inr ⟨f1, v, v1, v2, ?_⟩
              rw [e v (fun h => by rw [h, hg] at v2; cases v2)]
              exact v3
        | none =>
          obtain ⟨wj, cj⟩ := (hs j (by omega)).2 hg
          have go : ∃ w9 w10 x', g_X3_layWays_128 K51 K60 (fun M' x2' x3' x4' x5' => g_X3_layWays_72 K51 K60 fu M' x2' x3' x4' x5') M (nI k) (nI i) (nI j) = K60 (mW M w9 w10) x' (nI k) (nI (i + 1)) ∧ ST (rad t) s k (i + 1) 0 w9 w10 ∧ FL (rad t) s k (i + 1) 0 x' := by
            rw [g_X3_layWays_128, gd_t (inB_nI (by omega) (by omega)), gd_t (inB_nI (by omega) (by omega)), gd_t (inB_nI (by omega) (by omega)), gd_t (inB_nI (by omega) (by omega)), nI_clamp (by omega), nI_clamp (by omega), nI_1, nI_1, cj, ci, lN_add, ← ej]
            refine ih (j + 1) (mW M (upd M.2.2.2.2.2.2.2.2.1 j (nI (k + 1))) (vp_updL M.2.2.2.2.2.2.2.2.2.1 j (lN (cs (rad t) s k i (j + 1) j)))) 1 (by omega) (by omega) hr (fun v hv => ?_) (Or.inr ⟨rfl, j, by omega, hg, by omega⟩)
            show (∀ m, gq (rad t) s v (k + 1) = some m → upd M.2.2.2.2.2.2.2.2.1 j (nI (k + 1)) v = nI m ∧ vp_updL M.2.2.2.2.2.2.2.2.2.1 j (lN (cs (rad t) s k i (j + 1) j)) v = lN (GW (rad t) s m v)) ∧ (gq (rad t) s v (k + 1) = none → upd M.2.2.2.2.2.2.2.2.1 j (nI (k + 1)) v = (if 0 < cs (rad t) s k i (j + 1) v then nI (k + 1) else -9) ∧ vp_updL M.2.2.2.2.2.2.2.2.2.1 j (lN (cs (rad t) s k i (j + 1) j)) v = lN (cs (rad t) s k i (j + 1) v))
            unfold upd vp_updL
            by_cases h : v = j
            · subst h
              rw [if_pos rfl, if_pos rfl]
              refine ⟨fun m hm => (by rw [hg] at hm; cases hm), fun _ => ⟨?_, rfl⟩⟩
              rw [if_pos (by omega)]
            · rw [if_neg h, if_neg h, e v h]
              exact hs v hv
          rw [wj]
          by_cases h0 : 0 < cs (rad t) s k i j j
          · rw [if_pos h0, if_neg (nI_n9 (by omega)), gd_t (inB_nI (by omega) (by omega)), nI_1, if_pos rfl]
            exact go
          · rw [if_neg h0, if_pos rfl]
            exact go
