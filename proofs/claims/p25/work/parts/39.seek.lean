/-! ===== rewiring ===== -/
def Sam (t t' : NT) : Prop := tN t' = tN t ∧ tR t' = tR t ∧ tRule t' = tRule t ∧ tCha t' = tCha t
theorem Sam_rfl (t : NT) : Sam t t := ⟨rfl, rfl, rfl, rfl⟩
theorem Sam_trans {a b c : NT} (h : Sam a b) (k : Sam b c) : Sam a c := ⟨k.1.trans h.1, k.2.1.trans h.2.1, k.2.2.1.trans h.2.2.1, k.2.2.2.trans h.2.2.2⟩
theorem Sam_give (t : NT) (u x : Nat) : Sam t (tGive t u x) := by
  unfold tGive
  by_cases h1 : u = x
  · rw [if_pos h1]; exact Sam_rfl t
  · rw [if_neg h1]
    by_cases h2 : x ∈ tL t u
    · rw [if_pos h2]; exact Sam_rfl t
    · rw [if_neg h2]
      by_cases h3 : (tL t u).length < tLim t
      · rw [if_pos h3]; exact ⟨rfl, rfl, rfl, rfl⟩
      · rw [if_neg h3]; exact ⟨rfl, rfl, rfl, rfl⟩
theorem Sam_seed (t : NT) (s : Nat) : Sam t (tSetG t 3 s) := ⟨rfl, rfl, rfl, rfl⟩
theorem rule_eq {t : NT} (ok : NetOK t) {k : Nat} (hk : k < 2 ^ 31) : nI (tRule t) = nI k ↔ tRule t = k := by
  have := ok.2.2.2.2.2.2.1
  exact nI_eq (by omega) hk
/-- the class's step over one node of the route, without rewiring -/
theorem rw_skip {V : HS} {N : NS} {S : SS} {d : Int32} {n : Nat} (hs : S.2.2.2.2.2.2 = nI (n + 1)) (hn : n ≤ 12) : ∀ (m i fu : Nat), i + m ≤ n → (∀ j, i ≤ j → j < i + m → f_X2_isRewired V N S (nI j) = some (0, N)) → g_X2_lookUpAndRewire_20 (fu + m) V N S d (nI i) = g_X2_lookUpAndRewire_20 fu V N S d (nI (i + m)) := by
  intro m
  induction m with
  | zero => intro i fu h1 h2; rfl
  | succ m ih =>
    intro i fu h1 h2
    rw [show fu + (m + 1) = (fu + m) + 1 by omega, g_X2_lookUpAndRewire_20, n_steps hs, Option.bind_some, if_neg (fun h => by have := (nI_leI (by omega) (by omega)).mp h; omega), h2 i (Nat.le_refl _) (by omega), Option.bind_some, if_pos z00, nI_1]
    have := ih (i + 1) fu (by omega) (fun j h3 h4 => h2 j (by omega) (by omega))
    rw [show i + 1 + m = i + (m + 1) by omega] at this
    exact this
theorem rw_end {V : HS} {N : NS} {S : SS} {d : Int32} {n : Nat} (hs : S.2.2.2.2.2.2 = nI (n + 1)) (hn : n ≤ 12) (fu : Nat) : g_X2_lookUpAndRewire_20 (fu + 1) V N S d (nI n) = some (1, N, S) := by
  rw [g_X2_lookUpAndRewire_20, n_steps hs, Option.bind_some, if_pos (nI_le (Nat.le_refl _) (by omega))]
theorem rw_all {V : HS} {N : NS} {S : SS} {d : Int32} {n i : Nat} (hs : S.2.2.2.2.2.2 = nI (n + 1)) (hn : n ≤ 12) (hi : i ≤ n) {fu : Nat} (hf : n - i < fu) (h2 : ∀ j, i ≤ j → j < n → f_X2_isRewired V N S (nI j) = some (0, N)) : g_X2_lookUpAndRewire_20 fu V N S d (nI i) = some (1, N, S) := by
  have := rw_skip (d := d) hs hn (n - i) i (fu - (n - i) - 1 + 1) (by omega) (fun j h3 h4 => h2 j h3 (by omega))
  rw [show fu - (n - i) - 1 + 1 + (n - i) = fu by omega, show i + (n - i) = n by omega, rw_end hs hn] at this
  exact this
theorem rw_give {V : HS} {N : NS} {S : SS} {t : NT} (hr : repN N t) (ok : NetOK t) {d n i r : Nat} (hs : S.2.2.2.2.2.2 = nI (n + 1)) (hn : n ≤ 12) (hi : i < n) (htr : f_X1_trailAt S (nI i) = some (nI r)) (hrN : r < tN t) (hd : d < tN t) {N1 : NS} (hw : f_X2_isRewired V N S (nI i) = some (1, N1)) (hr1 : repN N1 t) (fu : Nat) : ∃ N', repN N' (tGive t r d) ∧ g_X2_lookUpAndRewire_20 (fu + 1) V N S (nI d) (nI i) = g_X2_lookUpAndRewire_20 fu V N' S (nI d) (nI (i + 1)) := by
  obtain ⟨N', e1, e2⟩ := n_give hr1 ok hrN hd
  refine ⟨N', e2, ?_⟩
  rw [g_X2_lookUpAndRewire_20, n_steps hs, Option.bind_some, if_neg (fun h => by have := (nI_leI (by omega) (by omega)).mp h; omega), hw, Option.bind_some, if_neg n10, htr, Option.bind_some, e1, Option.bind_some, nI_1]
theorem is_rw0 {V : HS} {N : NS} {S : SS} {t : NT} (hr : repN N t) (ok : NetOK t) (h : tRule t = 0) (x : Int32) : f_X2_isRewired V N S x = some (0, N) := by
  rw [f_X2_isRewired, n_set1 hr, Option.bind_some, h, if_neg (by decide), if_neg (by decide), if_neg (by decide)]
theorem is_rw1 {V : HS} {N : NS} {S : SS} {t : NT} (hr : repN N t) (ok : NetOK t) (h : tRule t = 1) {i : Nat} (hi : i < 2 ^ 31) : f_X2_isRewired V N S (nI i) = some (if i = 0 then 1 else 0, N) := by
  rw [f_X2_isRewired, n_set1 hr, Option.bind_some, h, if_pos (show nI 1 = 1 from rfl)]
  by_cases h0 : i = 0
  · rw [if_pos h0, h0, if_pos (show nI 0 = 0 from rfl)]
  · rw [if_neg h0, if_neg (show ¬ nI i = 0 from fun e => h0 ((nI_eq (b := 0) hi (by omega)).mp e))]
theorem is_rw2 {V : HS} {N : NS} {S : SS} {t : NT} (hr : repN N t) (ok : NetOK t) (h : tRule t = 2) (x : Int32) : ∃ N', f_X2_isRewired V N S x = some (if drw (tSeed t) (tCha t) = 0 then 1 else 0, N') ∧ repN N' (tSetG t 3 (nxt (tSeed t))) := by
  have hc := ok.2.2.2.2.2.2.2.1
  obtain ⟨N', e1, e2⟩ := n_draw hr ok (k := tCha t) hc.1 (by omega)
  refine ⟨N', ?_, e2⟩
  have hd : drw (tSeed t) (tCha t) < tCha t := Nat.mod_lt _ (by omega)
  rw [f_X2_isRewired, n_set1 hr, Option.bind_some, h, if_neg (show ¬ nI 2 = 1 by decide), if_pos (show nI 2 = 2 from rfl), n_set2 hr, Option.bind_some, e1, Option.bind_some]
  dsimp only
  by_cases h0 : drw (tSeed t) (tCha t) = 0
  · rw [if_pos h0, h0, if_pos (show nI 0 = 0 from rfl)]
  · rw [if_neg h0, if_neg (show ¬ nI (drw (tSeed t) (tCha t)) = 0 from fun e => h0 ((nI_eq (b := 0) (by omega) (by omega)).mp e))]
theorem is_rw3 {V : HS} {N : NS} {S : SS} {t : NT} (hr : repN N t) (ok : NetOK t) (h : tRule t = 3) {i n : Nat} (hs : S.2.2.2.2.2.2 = nI (n + 1)) (hn : n ≤ 12) (hi : i < 2 ^ 31) : f_X2_isRewired V N S (nI i) = some (if 2 ≤ n ∧ i = n / 2 then 1 else 0, N) := by
  rw [f_X2_isRewired, n_set1 hr, Option.bind_some, h, if_neg (show ¬ nI 3 = 1 by decide), if_neg (show ¬ nI 3 = 2 by decide), if_pos (show nI 3 = 3 from rfl), n_steps hs, Option.bind_some]
  by_cases h1 : n ≤ 1
  · rw [if_pos (show nI n ≤ 1 from nI_le (b := 1) h1 (by omega)), if_neg (show ¬ (2 ≤ n ∧ i = n / 2) by omega)]
  · rw [if_neg (show ¬ nI n ≤ 1 from fun h => by have := (nI_leI (b := 1) (by omega) (by omega)).mp h; omega), Option.bind_some, show (2 : Int32) = nI 2 from rfl, pk_div (by omega) (by omega) (by omega)]
    by_cases h2 : i = n / 2
    · rw [if_pos (show nI i = nI (n / 2) by rw [h2]), if_pos (show 2 ≤ n ∧ i = n / 2 by omega)]
    · rw [if_neg (fun e => h2 ((nI_eq (by omega) (by omega)).mp e)), if_neg (show ¬ (2 ≤ n ∧ i = n / 2) by omega)]
theorem rw_two {V : HS} {S : SS} {d n : Nat} {r : Nat → Nat} {t0 : NT} (hs : S.2.2.2.2.2.2 = nI (n + 1)) (hn : n ≤ 12) (htr : ∀ j, j ≤ n → f_X1_trailAt S (nI j) = some (nI (r j))) (hrr : ∀ j, j ≤ n → r j < tN t0 ∧ tR t0 (r j) = true) (hd : d < tN t0) (hpd : tR t0 d = true) {rest : (Nat → Int32) × Int32 × (Nat → Int32) × Int32 × (Nat → Int32) × Int32 × Int32 × (Nat → Int32) × (Nat → Int64) × (Nat → Int32)} (hm1 : rest.2.2.2.2.2.1 = nI n) (hm2 : ∀ j, j ≤ n → rest.2.2.2.2.1 j = nI (r j)) : ∀ (fu i : Nat) (t : NT) (N : NS) (w : Nat → Int32), i ≤ n → n - i < fu → Sam t0 t → NetOK t → tRule t = 2 → repN N t → repW w t → ∃ t' N' w', Sam t0 t' ∧ NetOK t' ∧ repN N' t' ∧ repW w' t' ∧ g_X2_lookUpAndRewire_20 fu V N S (nI d) (nI i) = some (1, N', S) ∧ g_X3_rewire_33 fu (w, rest) (nI d) (nI i) = some (w', rest) := by
  intro fu
  induction fu with
  | zero => intro i t N w h1 h2; omega
  | succ fu ih =>
    intro i t N w h1 h2 sm ok h hr hw
    have hw3 : w 3 = nI 2 := by rw [hw.2.2.2.1, h]
    have hw4 : w 4 = nI (tCha t) := hw.2.2.2.2.1
    by_cases hi : n ≤ i
    · have : i = n := by omega
      subst this
      refine ⟨t, N, w, sm, ok, hr, hw, rw_end hs hn fu, ?_⟩
      rw [g_X3_rewire_33]
      dsimp only
      rw [hm1, if_pos (nI_le (Nat.le_refl _) (by omega)), g_X3_rewire_71]
      dsimp only
      rw [c3, if_neg (show ¬ w 3 = 3 by rw [hw3]; decide)]
    · have hc := ok.2.2.2.2.2.2.2.1
      obtain ⟨N1, e1, e2⟩ := is_rw2 (V := V) (S := S) hr ok h (nI i)
      obtain ⟨w1, m1, m2⟩ := m_draw (M := (w, rest)) hw ok (k := tCha t) hc.1 (by omega)
      have ok1 := seed_ok ok (nxt_lt (tSeed t))
      have sm1 : Sam t0 (tSetG t 3 (nxt (tSeed t))) := Sam_trans sm (Sam_seed t _)
      have hd2 : drw (tSeed t) (tCha t) < tCha t := Nat.mod_lt _ (by omega)
      have hrule : tRule (tSetG t 3 (nxt (tSeed t))) = 2 := (Sam_seed t _).2.2.1.trans h
      generalize tSetG t 3 (nxt (tSeed t)) = t1 at *
      generalize drw (tSeed t) (tCha t) = b at *
      have hni : ¬ nI n ≤ nI i := fun h => by have := (nI_leI (by omega) (by omega)).mp h; omega
      rw [g_X2_lookUpAndRewire_20, n_steps hs, Option.bind_some, if_neg hni, e1, Option.bind_some, g_X3_rewire_33]
      dsimp only
      rw [hm1, if_neg hni, c4, hw4, m1, Option.bind_some]
      dsimp only
      by_cases h0 : b = 0
      · obtain ⟨r1, r2⟩ := hrr i (by omega)
        have hrN : r i < tN t1 := by rw [sm1.1]; exact r1
        have hdN : d < tN t1 := by rw [sm1.1]; exact hd
        obtain ⟨N2, n1, n2⟩ := n_give e2 ok1 hrN hdN
        obtain ⟨w2, m3, m4⟩ := m_give (M := (w1, rest)) m2 ok1 hrN hdN
        have ok2 := give_ok ok1 hrN hdN (by rw [sm1.2.1]; exact r2) (by rw [sm1.2.1]; exact hpd)
        obtain ⟨t', N', w', q1, q2, q3, q4, q5, q6⟩ := ih (i + 1) (tGive t1 (r i) d) N2 w2 (by omega) (by omega) (Sam_trans sm1 (Sam_give _ _ _)) ok2 ((Sam_give _ _ _).2.2.1.trans hrule) n2 m4
        refine ⟨t', N', w', q1, q2, q3, q4, ?_, ?_⟩
        · rw [if_pos h0, if_neg n10, htr i (by omega), Option.bind_some, n1, Option.bind_some, nI_1]
          exact q5
        · rw [h0, if_pos (show nI 0 = 0 from rfl), gd_t (inB_nI (by omega) (by omega)), nI_clamp (by omega), hm2 i (by omega), m3, Option.bind_some, nI_1]
          exact q6
      · obtain ⟨t', N', w', q1, q2, q3, q4, q5, q6⟩ := ih (i + 1) t1 N1 w1 (by omega) (by omega) sm1 ok1 hrule e2 m2
        refine ⟨t', N', w', q1, q2, q3, q4, ?_, ?_⟩
        · rw [if_neg h0, if_pos z00, nI_1]
          exact q5
        · rw [if_neg (show ¬ nI b = 0 from fun e => h0 ((nI_eq (b := 0) (by omega) (by omega)).mp e)), nI_1]
          exact q6
theorem rw_law {V : HS} {S : SS} {d n : Nat} {r : Nat → Nat} {t : NT} (ok : NetOK t) (hs : S.2.2.2.2.2.2 = nI (n + 1)) (hn : n ≤ 12) (htr : ∀ j, j ≤ n → f_X1_trailAt S (nI j) = some (nI (r j))) (hrr : ∀ j, j ≤ n → r j < tN t ∧ tR t (r j) = true) (hd : d < tN t) (hpd : tR t d = true) (hrd : r n = d) {rest : (Nat → Int32) × Int32 × (Nat → Int32) × Int32 × (Nat → Int32) × Int32 × Int32 × (Nat → Int32) × (Nat → Int64) × (Nat → Int32)} (hm1 : rest.2.2.2.2.2.1 = nI n) (hm2 : ∀ j, j ≤ n → rest.2.2.2.2.1 j = nI (r j)) {N : NS} {w : Nat → Int32} (hr : repN N t) (hw : repW w t) : ∃ t' N' w', Sam t t' ∧ NetOK t' ∧ repN N' t' ∧ repW w' t' ∧ g_X2_lookUpAndRewire_20 FU V N S (nI d) 0 = some (1, N', S) ∧ f_X3_rewire (w, rest) (nI d) = some (w', rest) := by
  have hw3 : w 3 = nI (tRule t) := hw.2.2.2.1
  have hrule := ok.2.2.2.2.2.2.1
  rcases (show tRule t = 0 ∨ tRule t = 1 ∨ tRule t = 2 ∨ tRule t = 3 by omega) with h | h | h | h
  · refine ⟨t, N, w, Sam_rfl t, ok, hr, hw, rw_all (i := 0) hs hn (by omega) (by unfold FU; omega) (fun j _ _ => is_rw0 hr ok h _), ?_⟩
    rw [f_X3_rewire]
    dsimp only
    rw [c3, if_neg (show ¬ w 3 = 1 by rw [hw3, h]; decide), if_neg (show ¬ w 3 = 2 by rw [hw3, h]; decide), g_X3_rewire_71]
    dsimp only
    rw [c3, if_neg (show ¬ w 3 = 3 by rw [hw3, h]; decide)]
  · obtain ⟨r1, r2⟩ := hrr 0 (by omega)
    obtain ⟨w', m3, m4⟩ := m_give (M := (w, rest)) hw ok r1 hd
    have ok2 := give_ok ok r1 hd r2 hpd
    have hm : f_X3_rewire (w, rest) (nI d) = some (w', rest) := by
      have hw3' : w' 3 = nI 1 := by rw [m4.2.2.2.1, (Sam_give _ _ _).2.2.1, h]
      rw [f_X3_rewire]
      dsimp only
      rw [c3, if_pos (show w 3 = 1 by rw [hw3, h]; rfl), c0, hm2 0 (by omega), m3, Option.bind_some]
      dsimp only
      rw [if_neg (show ¬ w' 3 = 2 by rw [hw3']; decide), g_X3_rewire_71]
      dsimp only
      rw [c3, if_neg (show ¬ w' 3 = 3 by rw [hw3']; decide)]
    by_cases h0 : n = 0
    · subst h0
      have hg : tGive t (r 0) d = t := by unfold tGive; rw [if_pos hrd]
      rw [hg] at m4
      exact ⟨t, N, w', Sam_rfl t, ok, hr, m4, rw_all (i := 0) hs hn (by omega) (by unfold FU; omega) (fun j _ h4 => absurd h4 (Nat.not_lt_zero _)), hm⟩
    · obtain ⟨N', n1, n2⟩ := rw_give (V := V) hr ok (i := 0) (r := r 0) (d := d) hs hn (by omega) (htr 0 (by omega)) r1 hd (N1 := N) (by rw [is_rw1 hr ok h (by omega), if_pos rfl]) hr 4999
      refine ⟨_, N', w', Sam_give _ _ _, ok2, n1, m4, ?_, hm⟩
      refine n2.trans ?_
      exact rw_all hs hn (by omega) (by omega) (fun j h3 h4 => by rw [is_rw1 n1 ok2 ((Sam_give _ _ _).2.2.1.trans h) (by omega), if_neg (by omega)])
  · obtain ⟨t', N', w', q1, q2, q3, q4, q5, q6⟩ := rw_two (V := V) hs hn htr hrr hd hpd hm1 hm2 FU 0 t N w (by omega) (by unfold FU; omega) (Sam_rfl t) ok h hr hw
    refine ⟨t', N', w', q1, q2, q3, q4, q5, ?_⟩
    rw [f_X3_rewire]
    dsimp only
    rw [c3, if_neg (show ¬ w 3 = 1 by rw [hw3, h]; decide), if_pos (show w 3 = 2 by rw [hw3, h]; rfl)]
    exact q6
  · by_cases h1 : n ≤ 1
    · refine ⟨t, N, w, Sam_rfl t, ok, hr, hw, rw_all (i := 0) hs hn (by omega) (by unfold FU; omega) (fun j _ _ => by rw [is_rw3 hr ok h hs hn (by omega), if_neg (by omega)]), ?_⟩
      rw [f_X3_rewire]
      dsimp only
      rw [c3, if_neg (show ¬ w 3 = 1 by rw [hw3, h]; decide), if_neg (show ¬ w 3 = 2 by rw [hw3, h]; decide), g_X3_rewire_71]
      dsimp only
      rw [c3, if_pos (show w 3 = 3 by rw [hw3, h]; rfl), hm1, if_pos (show nI n ≤ 1 from nI_le (b := 1) h1 (by omega))]
    · obtain ⟨r1, r2⟩ := hrr (n / 2) (by omega)
      obtain ⟨w', m3, m4⟩ := m_give (M := (w, rest)) hw ok r1 hd
      have ok2 := give_ok ok r1 hd r2 hpd
      have e1 := rw_skip (V := V) (N := N) (S := S) (d := nI d) hs hn (n / 2) 0 (4999 - n / 2 + 1) (by omega) (fun j _ h4 => by rw [is_rw3 hr ok h hs hn (by omega), if_neg (by omega)])
      rw [show 4999 - n / 2 + 1 + n / 2 = FU by unfold FU; omega, Nat.zero_add] at e1
      obtain ⟨N', n1, n2⟩ := rw_give (V := V) hr ok (i := n / 2) (r := r (n / 2)) (d := d) hs hn (by omega) (htr _ (by omega)) r1 hd (N1 := N) (by rw [is_rw3 hr ok h hs hn (by omega), if_pos (by omega)]) hr (4999 - n / 2)
      refine ⟨_, N', w', Sam_give _ _ _, ok2, n1, m4, e1.trans (n2.trans ?_), ?_⟩
      · exact rw_all hs hn (by omega) (by omega) (fun j h3 h4 => by rw [is_rw3 n1 ok2 ((Sam_give _ _ _).2.2.1.trans h) hs hn (by omega), if_neg (by omega)])
      · rw [f_X3_rewire]
        dsimp only
        rw [c3, if_neg (show ¬ w 3 = 1 by rw [hw3, h]; decide), if_neg (show ¬ w 3 = 2 by rw [hw3, h]; decide), g_X3_rewire_71]
        dsimp only
        rw [c3, if_pos (show w 3 = 3 by rw [hw3, h]; rfl), hm1, if_neg (show ¬ nI n ≤ 1 from fun h => by have := (nI_leI (b := 1) (by omega) (by omega)).mp h; omega), show (2 : Int32) = nI 2 from rfl, pk_div (by omega) (by omega) (by omega), gd_t (inB_nI (by omega) (by omega)), nI_clamp (by omega), hm2 _ (by omega), m3, Option.bind_some]
