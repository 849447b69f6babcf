/-! ===== draw ===== -/
def nxt (s : Nat) : Nat := (1103515245 * s + 12345) % 2147483648
def drw (s k : Nat) : Nat := nxt s / 65536 % k
theorem nxt_lt (s : Nat) : nxt s < 2 ^ 31 := Nat.mod_lt _ (by omega)
theorem nxt_L {s : Nat} (hs : s < 2 ^ 31) : ((((1103515245 : Int64) * ((nI s).toInt64)) + (12345 : Int64)) - (((1103515245 : Int64) * ((nI s).toInt64)) + (12345 : Int64)) / (2147483648 : Int64) * (2147483648 : Int64)) = lN (nxt s) := by
  rw [nI_l hs, show (1103515245 : Int64) = lN 1103515245 from rfl, show (12345 : Int64) = lN 12345 from rfl, show (2147483648 : Int64) = lN 2147483648 from rfl, lN_mul, lN_add, pk_lRem (by omega) (by omega) (by omega)]
  rfl
theorem n_draw {N : NS} {t : NT} (hr : repN N t) (ok : NetOK t) {k : Nat} (hk : 1 ≤ k) (hk2 : k < 2 ^ 31) : ∃ N', f_X0_draw N (nI k) = some (nI (drw (tSeed t) k), N') ∧ repN N' (tSetG t 3 (nxt (tSeed t))) := by
  have hs : tSeed t < 2 ^ 31 := ok.2.2.2.2.2.2.2.2.1
  have hn := nxt_lt (tSeed t)
  obtain ⟨N', n1, n2⟩ := n_setG hr (k := 3) (v := nxt (tSeed t)) (by omega)
  refine ⟨N', ?_, n2⟩
  rw [f_X0_draw, n_set3 hr, Option.bind_some]
  simp only [bindv]
  rw [nxt_L hs, lN_i, show (3 : Int32) = nI 3 from rfl, n1, Option.bind_some, show (1 : Int32) = nI 1 from rfl, if_pos (nI_le hk hk2), nI_l hk2]
  have hz : nz64 (lN k) = true := by
    unfold nz64
    have : ¬ lN k = 0 := fun h => by
      have := (lN_eq (a := k) (b := 0) hk2 (by omega)).mp h
      omega
    simp [this]
  rw [gd_t hz, show (65536 : Int64) = lN 65536 from rfl, pk_lDiv (by omega) (by omega) (by omega), pk_lRem (Nat.lt_of_le_of_lt (Nat.div_le_self _ _) (by omega)) (by omega) (by omega), lN_i]
  rfl
theorem m_draw {M : MS} {t : NT} (hr : repW M.1 t) (ok : NetOK t) {k : Nat} (hk : 1 ≤ k) (hk2 : k < 2 ^ 31) : ∃ w', f_X3_draw M (nI k) = some (nI (drw (tSeed t) k), (w', M.2)) ∧ repW w' (tSetG t 3 (nxt (tSeed t))) := by
  have hs : tSeed t < 2 ^ 31 := ok.2.2.2.2.2.2.2.2.1
  have hn := nxt_lt (tSeed t)
  obtain ⟨m1, -⟩ := m_setG hr (k := 3) (v := nxt (tSeed t)) (by omega)
  refine ⟨_, ?_, m1⟩
  rw [f_X3_draw, c5, hr.2.2.2.2.2.1]
  simp only [bindv]
  rw [nxt_L hs, lN_i, gd_t (nz_nI (by omega) hk2)]
  have e : upd M.1 5 (nI (nxt (tSeed t))) 5 = nI (nxt (tSeed t)) := by unfold upd; rw [if_pos rfl]
  rw [e, show (65536 : Int32) = nI 65536 from rfl, pk_div (by omega) (by omega) (by omega), pk_rem (Nat.lt_of_le_of_lt (Nat.div_le_self _ _) (by omega)) (by omega) hk2]
  rfl
/-! ===== begin ===== -/
def tLay (W H a b c d : Nat) : NT := (W, H, (fun u => u), (fun u => u), (fun _ => true), (fun _ => []), a, b, c, d)
theorem lay_ok {W H a b c d : Nat} (hW : 1 ≤ W ∧ W ≤ 7) (hH : 1 ≤ H ∧ H ≤ 7) (ha : 1 ≤ a ∧ a ≤ 3) (hb : b ≤ 3) (hc : 1 ≤ c ∧ c ≤ 9) (hd : d < 2 ^ 31) : NetOK (tLay W H a b c d) := ⟨⟨hW.1, hW.2, hH.1, hH.2⟩, fun u hu => ⟨hu, rfl⟩, fun p hp => ⟨hp, rfl⟩, fun u _ => ⟨Nat.zero_le _, List.nodup_nil, fun x hx => absurd hx List.not_mem_nil⟩, (fun _ _ _ => rfl), ha, hb, hc, hd, 0, Nat.mul_pos hW.1 hH.1, rfl⟩
theorem lay_bits : ∀ n, n < 50 → ∀ u, u < 64 → (((1 : Int64) <<< ((nI n).toInt64 &&& 63)) - 1).toBitVec.getLsbD u = decide (u < n) := by decide +kernel
theorem settle_ok {N : NS} {W u c r : Nat} (hW : N.1 = nI W) (hu : u < 49) (hp : r * W + c < 49) : f_X0_settle N (nI u) (nI c) (nI r) = some (N.1, N.2.1, N.2.2.1, upd N.2.2.2.1 u (nI c), upd N.2.2.2.2.1 u (nI r), upd N.2.2.2.2.2.1 (r * W + c) (nI u), N.2.2.2.2.2.2.1, N.2.2.2.2.2.2.2.1, N.2.2.2.2.2.2.2.2) := by
  rw [f_X0_settle, putAt_in hu (by omega), Option.bind_some, putAt_in hu (by omega), Option.bind_some, hW, pk_mul, nI_add, putAt_in hp (by omega), Option.bind_some]
def LayG (W H : Nat) (P0 : Int64) (s0 : Nat → Int32) (m : Nat) (N : NS) : Prop := N.1 = nI W ∧ N.2.1 = nI H ∧ N.2.2.1 = P0 ∧ N.2.2.2.2.2.2.2.2 = s0 ∧ ∀ u, u < m → N.2.2.2.1 u = nI (u % W) ∧ N.2.2.2.2.1 u = nI (u / W) ∧ N.2.2.2.2.2.1 u = nI u
theorem rc_mod {r W c : Nat} (hc : c < W) : (r * W + c) % W = c ∧ (r * W + c) / W = r := by
  constructor
  · rw [Nat.mul_comm, Nat.mul_add_mod, Nat.mod_eq_of_lt hc]
  · rw [Nat.mul_comm, Nat.mul_add_div (by omega), Nat.div_eq_of_lt hc]
    rfl
theorem lay36 {W H : Nat} {P0 : Int64} {s0 : Nat → Int32} (hW : 1 ≤ W ∧ W ≤ 7) (hH : H ≤ 7) {K : NS → Int32 → Option NS} {r : Nat} (hr : r < H) : ∀ (fu c : Nat) (N : NS), c ≤ W → W - c < fu → LayG W H P0 s0 (r * W + c) N → ∃ N', g_X0_layOut_36 K fu N (nI r) (nI c) = K N' (nI (r + 1)) ∧ LayG W H P0 s0 ((r + 1) * W) N' := by
  intro fu
  have hrW : (r + 1) * W ≤ 49 := Nat.le_trans (Nat.mul_le_mul (show r + 1 ≤ 7 by omega) hW.2) (by omega)
  have hrW2 : (r + 1) * W = r * W + W := Nat.succ_mul r W
  induction fu with
  | zero => intro c N h1 h2; omega
  | succ fu ih =>
    intro c N h1 h2 hg
    rw [g_X0_layOut_36, hg.1]
    by_cases hc : W ≤ c
    · have : c = W := by omega
      subst this
      rw [if_pos (nI_le hc (by omega)), nI_1]
      exact ⟨N, rfl, by rw [hrW2]; exact hg⟩
    · have hc : c < W := by omega
      rw [if_neg (fun h => by have := (nI_leI (by omega) (by omega)).mp h; omega), pk_mul, nI_add, settle_ok hg.1 (by omega) (by omega), Option.bind_some, nI_1]
      obtain ⟨g1, g2, g3, g4, g5⟩ := hg
      refine ih (c + 1) _ (by omega) (by omega) ⟨g1, g2, g3, g4, fun u hu => ?_⟩
      dsimp only [upd]
      by_cases hu2 : u = r * W + c
      · have := rc_mod (r := r) hc
        subst hu2
        rw [if_pos rfl, if_pos rfl, if_pos rfl, this.1, this.2]
        exact ⟨rfl, rfl, rfl⟩
      · rw [if_neg hu2, if_neg hu2, if_neg hu2]
        exact g5 u (by omega)
theorem lay75 : ∀ (fu i : Nat) (N : NS), i ≤ 49 → 49 - i < fu → ∃ cf, g_X0_layOut_75 fu N (nI i) = some (N.1, N.2.1, N.2.2.1, N.2.2.2.1, N.2.2.2.2.1, N.2.2.2.2.2.1, cf, N.2.2.2.2.2.2.2.1, N.2.2.2.2.2.2.2.2) ∧ ∀ j, j < 49 → cf j = if i ≤ j then 0 else N.2.2.2.2.2.2.1 j := by
  intro fu
  induction fu with
  | zero => intro i N h1 h2; omega
  | succ fu ih =>
    intro i N h1 h2
    rw [g_X0_layOut_75]
    by_cases hi : 49 ≤ i
    · rw [if_pos (nI_le hi (by omega))]
      exact ⟨_, rfl, fun j hj => by rw [if_neg (by omega)]⟩
    · rw [if_neg (fun h => hi ((nI_leI (by omega) (by omega)).mp h)), gd_t (inB_nI (by omega) (by omega)), nI_clamp (by omega), nI_1]
      obtain ⟨cf, e1, e2⟩ := ih (i + 1) (N.1, N.2.1, N.2.2.1, N.2.2.2.1, N.2.2.2.2.1, N.2.2.2.2.2.1, upd N.2.2.2.2.2.2.1 i 0, N.2.2.2.2.2.2.2.1, N.2.2.2.2.2.2.2.2) (by omega) (by omega)
      refine ⟨cf, e1, fun j hj => ?_⟩
      rw [e2 j hj]
      dsimp only [upd]
      by_cases h : j = i
      · subst h; rw [if_neg (by omega), if_pos rfl, if_pos (by omega)]
      · by_cases h2 : i ≤ j
        · rw [if_pos (by omega), if_pos h2]
        · rw [if_neg (by omega), if_neg h, if_neg h2]
theorem lay25 {W H : Nat} {P0 : Int64} {s0 : Nat → Int32} (hW : 1 ≤ W ∧ W ≤ 7) (hH : H ≤ 7) : ∀ (fu r : Nat) (N : NS), r ≤ H → H - r < fu → LayG W H P0 s0 (r * W) N → ∃ N', g_X0_layOut_25 fu N (nI r) = some N' ∧ LayG W H P0 s0 (H * W) N' ∧ ∀ j, j < 49 → N'.2.2.2.2.2.2.1 j = 0 := by
  intro fu
  induction fu with
  | zero => intro r N h1 h2; omega
  | succ fu ih =>
    intro r N h1 h2 hg
    rw [g_X0_layOut_25, hg.2.1]
    by_cases hr : H ≤ r
    · have : r = H := by omega
      subst this
      obtain ⟨cf, e1, e2⟩ := lay75 FU 0 N (by omega) (by unfold FU; omega)
      rw [if_pos (nI_le hr (by omega)), show (0 : Int32) = nI 0 from rfl, e1]
      refine ⟨_, rfl, hg, fun j hj => ?_⟩
      show cf j = 0
      rw [e2 j hj, if_pos (by omega)]
    · rw [if_neg (fun h => hr ((nI_leI (by omega) (by omega)).mp h)), show (0 : Int32) = nI 0 from rfl]
      obtain ⟨N1, e1, e2⟩ := lay36 hW hH (K := fun N' x3' => g_X0_layOut_25 fu N' x3') (r := r) (by omega) FU 0 N (by omega) (by unfold FU; omega) hg
      rw [e1]
      exact ih (r + 1) N1 (by omega) (by omega) e2
theorem n_layOut (N : NS) {W H a b c d : Nat} (hW : 1 ≤ W ∧ W ≤ 7) (hH : 1 ≤ H ∧ H ≤ 7) (s0 : N.2.2.2.2.2.2.2.2 0 = nI a) (s1 : N.2.2.2.2.2.2.2.2 1 = nI b) (s2 : N.2.2.2.2.2.2.2.2 2 = nI c) (s3 : N.2.2.2.2.2.2.2.2 3 = nI d) : ∃ N', f_X0_layOut N (nI W) (nI H) = some N' ∧ repN N' (tLay W H a b c d) := by
  have hn : W * H ≤ 49 := Nat.le_trans (Nat.mul_le_mul hW.2 hH.2) (by omega)
  rw [f_X0_layOut, f_X0_nodes]
  dsimp only
  rw [pk_mul, Option.bind_some, f_X2_only, Option.bind_some]
  obtain ⟨N', e1, ⟨g1, g2, g3, g4, g5⟩, e2⟩ := lay25 (W := W) (H := H) (P0 := ((1 : Int64) <<< ((nI (W * H)).toInt64 &&& 63)) - 1) (s0 := N.2.2.2.2.2.2.2.2) hW hH.2 FU 0 (nI W, nI H, ((1 : Int64) <<< ((nI (W * H)).toInt64 &&& 63)) - 1, N.2.2.2.1, N.2.2.2.2.1, N.2.2.2.2.2.1, N.2.2.2.2.2.2.1, N.2.2.2.2.2.2.2.1, N.2.2.2.2.2.2.2.2) (by omega) (by unfold FU; omega) ⟨rfl, rfl, rfl, rfl, fun u hu => by rw [Nat.zero_mul] at hu; omega⟩
  rw [show (0 : Int32) = nI 0 from rfl, e1]
  have hHW : H * W = W * H := Nat.mul_comm H W
  refine ⟨N', rfl, g1, g2, fun u hu => ?_, fun u hu => ?_, fun p hp => ?_, fun u hu => ?_, ?_, ?_, ?_, ?_⟩
  · rw [g3, lay_bits _ (by omega) u hu]
    show decide (u < W * H) = (decide (u < W * H) && true)
    rw [Bool.and_true]
  · have hu : u < W * H := hu
    have := g5 u (by omega)
    exact ⟨this.1, this.2.1⟩
  · have hp : p < W * H := hp
    exact (g5 p (by omega)).2.2
  · have hu : u < W * H := hu
    exact ⟨e2 u (by omega), fun k hk => absurd hk (Nat.not_lt_zero k)⟩
  · rw [g4]; exact s0
  · rw [g4]; exact s1
  · rw [g4]; exact s2
  · rw [g4]; exact s3
theorem lay16 {W H : Nat} (hn : W * H ≤ 49) : ∀ (fu i : Nat) (M : MS), i ≤ 49 → 49 - i < fu → ∃ w', g_X3_lay_16 fu M (nI W) (nI H) (nI i) = some (w', M.2) ∧ (∀ j, j < 6 → w' j = M.1 j) ∧ ∀ u, u < 49 → w' (6 + u) = (if i ≤ u then nI u else M.1 (6 + u)) ∧ w' (55 + u) = (if i ≤ u then (if u < W * H then 1 else 0) else M.1 (55 + u)) ∧ w' (104 + u) = if i ≤ u then 0 else M.1 (104 + u) := by
  intro fu
  induction fu with
  | zero => intro i M h1 h2; omega
  | succ fu ih =>
    intro i M h1 h2
    rw [g_X3_lay_16, show (49 : Int32) = nI 49 from rfl]
    by_cases hi : 49 ≤ i
    · rw [if_pos (nI_le hi (by omega))]
      exact ⟨_, rfl, fun j hj => rfl, fun u hu => ⟨by rw [if_neg (by omega)], by rw [if_neg (by omega)], by rw [if_neg (by omega)]⟩⟩
    · rw [if_neg (fun h => hi ((nI_leI (b := i) (by omega) (by omega)).mp h)), show (6 : Int32) = nI 6 from rfl, show (55 : Int32) = nI 55 from rfl, show (104 : Int32) = nI 104 from rfl, nI_add, nI_add, nI_add, gd_t (inB_nI (by omega) (by omega)), gd_t (inB_nI (by omega) (by omega)), gd_t (inB_nI (by omega) (by omega)), pk_mul, nI_clamp (by omega), nI_clamp (by omega), nI_clamp (by omega), nI_1]
      have step : ∀ x : Int32, x = (if i < W * H then 1 else 0) → ∃ w', g_X3_lay_16 fu ((upd (upd (upd M.1 (6 + i) (nI i)) (55 + i) x) (104 + i) 0), M.2.1, M.2.2.1, M.2.2.2.1, M.2.2.2.2.1, M.2.2.2.2.2.1, M.2.2.2.2.2.2.1, M.2.2.2.2.2.2.2.1, M.2.2.2.2.2.2.2.2.1, M.2.2.2.2.2.2.2.2.2.1, M.2.2.2.2.2.2.2.2.2.2) (nI W) (nI H) (nI (i + 1)) = some (w', M.2) ∧ (∀ j, j < 6 → w' j = M.1 j) ∧ ∀ u, u < 49 → w' (6 + u) = (if i ≤ u then nI u else M.1 (6 + u)) ∧ w' (55 + u) = (if i ≤ u then (if u < W * H then 1 else 0) else M.1 (55 + u)) ∧ w' (104 + u) = if i ≤ u then 0 else M.1 (104 + u) := by
        intro x hx
        obtain ⟨w', e1, e2, e3⟩ := ih (i + 1) ((upd (upd (upd M.1 (6 + i) (nI i)) (55 + i) x) (104 + i) 0), M.2) (by omega) (by omega)
        refine ⟨w', e1, fun j hj => ?_, fun u hu => ?_⟩
        · rw [e2 j hj]
          dsimp only [upd]
          rw [if_neg (by omega), if_neg (by omega), if_neg (by omega)]
        · obtain ⟨q1, q2, q3⟩ := e3 u hu
          subst hx
          refine ⟨?_, ?_, ?_⟩
          · rw [q1]
            dsimp only [upd]
            repeat' split
            all_goals first | rfl | (exfalso; omega) | (have e : u = i := by omega
                                                        rw [e])
          · rw [q2]
            dsimp only [upd]
            repeat' split
            all_goals first | rfl | (exfalso; omega)
          · rw [q3]
            dsimp only [upd]
            repeat' split
            all_goals first | rfl | (exfalso; omega)
      by_cases hiN : W * H ≤ i
      · rw [if_pos (nI_le hiN (by omega))]
        exact step 0 (by rw [if_neg (by omega)])
      · rw [if_neg (fun h => hiN ((nI_leI (by omega) (by omega)).mp h)), gd_t (inB_nI (by omega) (by omega)), gd_t (inB_nI (by omega) (by omega))]
        exact step 1 (by rw [if_pos (by omega)])
theorem m_lay (M : MS) {W H a b c d : Nat} (hW : 1 ≤ W ∧ W ≤ 7) (hH : 1 ≤ H ∧ H ≤ 7) (s0 : M.1 2 = nI a) (s1 : M.1 3 = nI b) (s2 : M.1 4 = nI c) (s3 : M.1 5 = nI d) : ∃ w', f_X3_lay M (nI W) (nI H) = some (w', M.2) ∧ repW w' (tLay W H a b c d) := by
  have hn : W * H ≤ 49 := Nat.le_trans (Nat.mul_le_mul hW.2 hH.2) (by omega)
  rw [f_X3_lay, c0, c1]
  obtain ⟨w', e1, e2, e3⟩ := lay16 hn FU 0 ((upd (upd M.1 0 (nI W)) 1 (nI H)), M.2) (by omega) (by unfold FU; omega)
  rw [show (0 : Int32) = nI 0 from rfl]
  refine ⟨w', e1, ?_, ?_, ?_, ?_, ?_, ?_, fun u hu => ?_⟩
  · rw [e2 0 (by omega)]; rfl
  · rw [e2 1 (by omega)]; rfl
  · rw [e2 2 (by omega)]; exact s0
  · rw [e2 3 (by omega)]; exact s1
  · rw [e2 4 (by omega)]; exact s2
  · rw [e2 5 (by omega)]; exact s3
  · have hu : u < W * H := hu
    obtain ⟨q1, q2, q3⟩ := e3 u (by omega)
    refine ⟨by rw [q1, if_pos (Nat.zero_le u)]; rfl, by rw [q2, if_pos (Nat.zero_le u), if_pos hu]; rfl, by rw [q3, if_pos (Nat.zero_le u)]; rfl, fun k hk => absurd hk (Nat.not_lt_zero k)⟩
theorem st_begin {V : HS} {N : NS} (S : SS) {M : MS} (h : Rel V N M) (a1 a2 : Int32) : ∃ (r : Int32) (V' : HS) (N' : NS) (M' : MS), f_X2_begin V N S a1 a2 = some (r, V', N') ∧ f_X3_begin M a1 a2 = some (r, M') ∧ Rel V' N' M' := by
  have h' := h
  obtain ⟨⟨t, ok, rN, rW⟩, hH⟩ := h
  rw [f_X3_begin, show (1 : Int32) = nI 1 from rfl, show (7 : Int32) = nI 7 from rfl]
  rcases rng a1 (a := 1) (b := 7) (by omega) with ⟨W, w1, w2, rfl⟩ | hn
  · rw [isIn_t (by omega) (by omega) (by rw [nI_toInt (by omega)]; omega), Option.bind_some, if_neg n10]
    rcases rng a2 (a := 1) (b := 7) (by omega) with ⟨H, h1, h2, rfl⟩ | hn
    · obtain ⟨V', p', x', e1, e2, e3⟩ := rec_ok S h'
      obtain ⟨N', n1, n2⟩ := n_layOut N (W := W) (H := H) ⟨w1, w2⟩ ⟨h1, h2⟩ rN.2.2.2.2.2.2.1 rN.2.2.2.2.2.2.2.1 rN.2.2.2.2.2.2.2.2.1 rN.2.2.2.2.2.2.2.2.2
      obtain ⟨w', m1, m2⟩ := m_lay (M.1, p', x', M.2.2.2) (W := W) (H := H) ⟨w1, w2⟩ ⟨h1, h2⟩ rW.2.2.1 rW.2.2.2.1 rW.2.2.2.2.1 rW.2.2.2.2.2.1
      have eX : f_X2_begin V N S (nI W) (nI H) = some (nI (tN t), V', N') := by
        rw [f_X2_begin, show (1 : Int32) = nI 1 from rfl, show (7 : Int32) = nI 7 from rfl, if_neg (fun h => by have := (nI_ltI (by omega) (by omega)).mp h; omega), if_neg (fun h => by have := (nI_ltI (by omega) (by omega)).mp h; omega), if_neg (fun h => by have := (nI_ltI (by omega) (by omega)).mp h; omega), if_pos (nI_le h2 (by omega)), e1, Option.bind_some, n_nodes rN, Option.bind_some, n1, Option.bind_some]
      rw [eX, isIn_t (by omega) (by omega) (by rw [nI_toInt (by omega)]; omega), Option.bind_some, if_neg n10, m_nodes rW, Option.bind_some, e2, Option.bind_some, m1, Option.bind_some]
      obtain ⟨b1, b2, b3, b4, b5, b6, b7, b8, b9⟩ := ok
      exact ⟨_, _, _, _, rfl, rfl, ⟨_, lay_ok ⟨w1, w2⟩ ⟨h1, h2⟩ b6 b7 b8 b9.1, n2, m2⟩, e3⟩
    · have eX : f_X2_begin V N S (nI W) a2 = some (-1, V, N) := by
        have e7 : (nI 7).toInt = 7 := by decide
        have e1 : (nI 1).toInt = 1 := by decide
        rw [f_X2_begin, show (1 : Int32) = nI 1 from rfl, show (7 : Int32) = nI 7 from rfl, if_neg (fun h => by have := (nI_ltI (by omega) (by omega)).mp h; omega), if_neg (fun h => by have := (nI_ltI (by omega) (by omega)).mp h; omega)]
        by_cases h0 : a2 < nI 1
        · rw [if_pos h0]
        · rw [if_neg h0, if_neg]
          rw [Int32.le_iff_toInt_le]
          rw [Int32.lt_iff_toInt_lt] at h0
          omega
      rw [eX, isIn_f (by omega) (by omega) hn, Option.bind_some, if_pos z00]
      exact ⟨_, _, _, _, rfl, rfl, h'⟩
  · have eX : f_X2_begin V N S a1 a2 = some (-1, V, N) := by
      have e7 : (nI 7).toInt = 7 := by decide
      have e1 : (nI 1).toInt = 1 := by decide
      rw [f_X2_begin, show (1 : Int32) = nI 1 from rfl, show (7 : Int32) = nI 7 from rfl]
      by_cases h0 : a1 < nI 1
      · rw [if_pos h0]
      · rw [if_neg h0, if_pos]
        rw [Int32.lt_iff_toInt_lt] at h0 ⊢
        omega
    rw [eX, isIn_f (by omega) (by omega) hn, Option.bind_some, if_pos z00]
    exact ⟨_, _, _, _, rfl, rfl, h'⟩
