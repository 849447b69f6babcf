/-! ===== the law's isSound ===== -/
theorem mem_count : ∀ {l : List Nat} {n : Nat}, l.Nodup → (∀ x ∈ l, x < n) → fb_sm (fun u => if decide (u ∈ l) then 1 else 0) n = l.length := by
  intro l
  induction l with
  | nil =>
    intro n _ _
    rw [fb_sm_cong (g := fun _ => 0) (fun k _ => by simp), fb_sm_const]
    rfl
  | cons a l ih =>
    intro n hd hl
    obtain ⟨ha, hd2⟩ := List.nodup_cons.mp hd
    have e : fb_sm (fun u => if decide (u ∈ a :: l) then 1 else 0) n = fb_sm (fun u => (if u = a then 1 else 0) + (if decide (u ∈ l) then 1 else 0)) n := by
      refine fb_sm_cong (fun k _ => ?_)
      by_cases h1 : k = a
      · subst h1
        simp [ha]
      · simp [h1]
    rw [e, fb_sm_add, ih hd2 (fun x hx => hl x (List.mem_cons_of_mem _ hx)), sm_one (b := a) (hl a List.mem_cons_self) (fun i _ hi => by rw [if_neg hi]), if_pos rfl, List.length_cons]
    omega
theorem ct_sm (p : Nat → Bool) : ∀ n, fb_ct p n = fb_sm (fun k => if p k then 1 else 0) n := by
  intro n
  induction n with
  | zero => rfl
  | succ n ih => rw [fb_ct_succ, fb_sm_succ, ih]
/-- each link leads from a node and to a node -/
theorem in_out {t : NT} (ok : NetOK t) : fb_sm (tTo t) (tN t) = tCnt t := by
  have e : fb_sm (tTo t) (tN t) = fb_sm (fun u => fb_sm (fun v => if decide (u ∈ tL t v) then 1 else 0) (tN t)) (tN t) := fb_sm_cong (fun u _ => ct_sm _ _)
  rw [e, sm_swap]
  refine fb_sm_cong (fun v hv => ?_)
  obtain ⟨-, h2, h3⟩ := ok.2.2.2.1 v hv
  exact mem_count h2 (fun x hx => (h3 x hx).1)
section SOUND
variable {V : HS} {N : NS} {S : SS} {t : NT}
theorem v_node1t (hr : repN N t) (ok : NetOK t) {u : Nat} (hu : u < tN t) (hp : tR t u = true) : f_X2_node V N S (nI u) 1 = some (1, S) := by
  rw [v_node1 hr ok hu, hp]; rfl
theorem v_node1f (hr : repN N t) (ok : NetOK t) {u : Nat} (hu : u < tN t) (hp : tR t u = false) : f_X2_node V N S (nI u) 1 = some (0, S) := by
  rw [v_node1 hr ok hu, hp]; rfl
theorem v_targetI (hr : repN N t) (ok : NetOK t) {u k : Nat} (hu : u < tN t) (hk : k < (tL t u).length) : f_X2_target V N S (nI u) (nI k) = some (nI ((tL t u).getD k 0)) := by
  have h3 := (ok.2.2.2.1 u hu).1
  rw [v_target hr ok hu (by omega), if_pos hk]
theorem s_202 (hr : repN N t) (ok : NetOK t) {K : HS → NS → SS → Int32 → Int32 → Int32 → Int32 → Int32 → Int32 → Option (Int32 × SS)} {x1 x2 x3 x4 x5 : Int32} {u : Nat} (hu : u < tN t) : ∀ (fu v : Nat), v ≤ u → u - v < fu → g_L_isSound_202 K fu V N S x1 x2 x3 x4 x5 (nI u) (nI v) = K V N S x1 x2 x3 x4 x5 (nI (u + 1)) := by
  intro fu
  have h49 := n49 ok
  induction fu with
  | zero => intro v h1 h2; omega
  | succ fu ih =>
    intro v h1 h2
    rw [g_L_isSound_202]
    by_cases hv : u ≤ v
    · rw [if_pos (nI_le hv (by omega)), nI_1]
    · have hP : ¬ nI (tP t v) = nI (tP t u) := fun e => by
        have a1 := (ok.2.1 u hu).1
        have a2 := (ok.2.1 v (by omega)).1
        have := P_inj ok (show v < tN t by omega) hu ((nI_eq (by omega) (by omega)).mp e)
        omega
      rw [if_neg (fun h => by have := (nI_leI (by omega) (by omega)).mp h; omega), v_node0 hr ok (show v < tN t by omega), Option.bind_some, v_node0 hr ok hu, Option.bind_some]
      dsimp only
      rw [if_neg hP, nI_1]
      exact ih (v + 1) (by omega) (by omega)
theorem s_173 (hr : repN N t) (ok : NetOK t) {K : HS → NS → SS → Int32 → Int32 → Int32 → Int32 → Int32 → Int32 → Option (Int32 × SS)} {K2 : HS → NS → SS → Int32 → Int32 → Int32 → Int32 → Int32 → Int32 → Int32 → Int32 → Option (Int32 × SS)} {x1 x2 x3 x4 x5 x7 : Int32} {u k : Nat} (hu : u < tN t) (hk : k < (tL t u).length) : g_L_isSound_173 K K2 V N S x1 x2 x3 x4 x5 (nI u) x7 (nI k) (nI ((tL t u).getD k 0)) = K2 V N S x1 x2 x3 x4 x5 (nI u) x7 (nI (k + 1)) := by
  have h49 := n49 ok
  obtain ⟨h3, hd, hm⟩ := ok.2.2.2.1 u hu
  have hx := (hm _ (getD_lt hk)).1
  rw [g_L_isSound_173]
  by_cases h1 : k ≤ 1
  · rw [if_pos (show nI k ≤ 1 from nI_le (b := 1) h1 (by omega)), nI_1]
  · have h0 : 0 < (tL t u).length := by omega
    have hx0 := (hm _ (getD_lt h0)).1
    have e := v_targetI (V := V) (S := S) hr ok hu h0
    have e' : f_X2_target V N S (nI u) 0 = _ := e
    rw [if_neg (show ¬ nI k ≤ 1 from fun h => h1 ((nI_leI (b := 1) (by omega) (by omega)).mp h)), e', Option.bind_some, if_neg (fun e => by
      have := nodup_getD hd h0 hk ((nI_eq (by omega) (by omega)).mp e)
      omega), nI_1]
theorem s_105 (hr : repN N t) (ok : NetOK t) {K : HS → NS → SS → Int32 → Int32 → Int32 → Int32 → Int32 → Int32 → Option (Int32 × SS)} {x1 x2 x3 x5 : Int32} {u : Nat} (hu : u < tN t) (acc : Nat) : ∀ (fu k : Nat), k ≤ (tL t u).length → (tL t u).length - k < fu → g_L_isSound_105 K fu V N S x1 x2 x3 (nI (acc + fb_sm (fun k => far t u ((tL t u).getD k 0)) k)) x5 (nI u) (nI (tL t u).length) (nI k) = K V N S x1 x2 x3 (nI (acc + lenU t u)) x5 (nI (u + 1)) := by
  intro fu
  have h49 := n49 ok
  obtain ⟨h3, hd, hm⟩ := ok.2.2.2.1 u hu
  induction fu with
  | zero => intro k h1 h2; omega
  | succ fu ih =>
    intro k h1 h2
    rw [g_L_isSound_105]
    by_cases hk : (tL t u).length ≤ k
    · have hk2 : k = (tL t u).length := by omega
      subst hk2
      rw [if_pos (nI_le hk (by omega))]
      exact s_202 hr ok hu FU 0 (by omega) (by unfold FU; omega)
    · have hk : k < (tL t u).length := by omega
      obtain ⟨m1, m2, m3⟩ := hm _ (getD_lt hk)
      have ih' := ih (k + 1) (by omega) (by omega)
      rw [fb_sm_succ] at ih'
      rw [if_neg (fun h => by have := (nI_leI (by omega) (by omega)).mp h; omega), v_targetI hr ok hu hk, Option.bind_some, v_dist hr ok hu m1, Option.bind_some, if_neg (fun e => m2 ((nI_eq (by omega) (by omega)).mp e)), v_node1t hr ok m1 m3, Option.bind_some]
      dsimp only
      rw [if_pos rfl, nI_add]
      by_cases h0 : k = 0
      · subst h0
        rw [if_pos (show nI 0 ≤ 0 by decide), s_173 hr ok hu hk, Nat.add_assoc]
        exact ih'
      · have hk1 : k - 1 < (tL t u).length := by omega
        have hx1 := (hm _ (getD_lt hk1)).1
        rw [if_neg (show ¬ nI k ≤ 0 from fun h => by have := (nI_leI (b := 0) (by omega) (by omega)).mp h; omega), show nI k - 1 = nI (k - 1) from pk_sub (b := 1) (by omega), v_targetI hr ok hu hk1, Option.bind_some, if_neg (fun e => by
          have := nodup_getD hd hk1 hk ((nI_eq (by omega) (by omega)).mp e)
          omega), s_173 hr ok hu hk, Nat.add_assoc]
        exact ih'
theorem s_19 (hr : repN N t) (ok : NetOK t) : ∀ (fu i : Nat), i ≤ tN t → tN t - i < fu → g_L_isSound_19 fu V N S (nI (tN t)) (nI (fb_ct (tR t) i)) (nI (fb_sm (fun u => (tL t u).length) i)) (nI (fb_sm (lenU t) i)) (nI (fb_sm (tTo t) i)) (nI i) = some (1, S) := by
  intro fu
  have h49 := n49 ok
  induction fu with
  | zero => intro i h1 h2; omega
  | succ fu ih =>
    intro i h1 h2
    rw [g_L_isSound_19]
    by_cases hi : tN t ≤ i
    · have hi2 : i = tN t := by omega
      subst hi2
      obtain ⟨y, y1, y2⟩ := ok.2.2.2.2.2.2.2.2.2
      have hP : 0 < tPr t := fb_ct_pos.mpr ⟨y, y1, y2⟩
      have hP2 : tPr t ≤ tN t := fb_ct_le _ _
      rw [in_out ok, show fb_ct (tR t) (tN t) = tPr t from rfl, show fb_sm (fun u => (tL t u).length) (tN t) = tCnt t from rfl, show fb_sm (lenU t) (tN t) = tLen t from rfl]
      rw [if_pos (nI_le hi (by omega)), if_neg (show ¬ nI (tPr t) ≤ 0 from fun h => by have := (nI_leI (b := 0) (by omega) (by omega)).mp h; omega), v_told2 hr ok, Option.bind_some, if_pos rfl, v_told3 hr ok, Option.bind_some, if_pos rfl, if_pos rfl, v_told4 hr ok, Option.bind_some, if_pos rfl]
    · have hi : i < tN t := by omega
      have h3 := (ok.2.2.2.1 i hi).1
      have ih' := ih (i + 1) (by omega) (by omega)
      rw [fb_ct_succ, fb_sm_succ, fb_sm_succ, fb_sm_succ] at ih'
      have go : ∀ (K : Option (Int32 × SS)), g_L_isSound_105 (fun V' N' S' x1' x2' x3' x4' x5' x6' => g_L_isSound_19 fu V' N' S' x1' x2' x3' x4' x5' x6') FU V N S (nI (tN t)) (nI (fb_ct (tR t) i) + (if tR t i then 1 else 0)) (nI (fb_sm (fun u => (tL t u).length) i) + nI (tL t i).length) (nI (fb_sm (lenU t) i)) (nI (fb_sm (tTo t) i) + nI (tTo t i)) (nI i) (nI (tL t i).length) 0 = some (1, S) := by
        intro _
        have e := s_105 (V := V) (S := S) hr ok (K := fun V' N' S' x1' x2' x3' x4' x5' x6' => g_L_isSound_19 fu V' N' S' x1' x2' x3' x4' x5' x6') (x1 := nI (tN t)) (x2 := nI (fb_ct (tR t) i) + (if tR t i then 1 else 0)) (x3 := nI (fb_sm (fun u => (tL t u).length) i) + nI (tL t i).length) (x5 := nI (fb_sm (tTo t) i) + nI (tTo t i)) hi (fb_sm (lenU t) i) FU 0 (by omega) (by unfold FU; omega)
        refine e.trans ?_
        rw [nI_01, nI_add, nI_add]
        exact ih'
      have e9 : f_X2_target V N S (nI i) (nI (tL t i).length) = some (-9) := by
        rw [v_target hr ok hi (by omega), if_neg (Nat.lt_irrefl _)]
      rw [if_neg (fun h => by have := (nI_leI (by omega) (by omega)).mp h; omega), v_node3 hr ok hi, Option.bind_some]
      dsimp only
      rw [v_node1 hr ok hi, Option.bind_some]
      dsimp only
      rw [v_node4 hr ok hi, Option.bind_some]
      dsimp only
      rw [if_neg (nI_pos (by omega)), if_neg (show ¬ (3 : Int32) < nI (tL t i).length from fun h => by rw [Int32.lt_iff_toInt_lt, nI_toInt (by omega)] at h; have : (3 : Int32).toInt = 3 := rfl; omega)]
      have go := go none
      cases hp : tR t i with
      | false =>
        rw [hp] at go
        rw [v_node1f hr ok hi hp, Option.bind_some]
        dsimp only
        have hl : (tL t i).length = 0 := by rw [ok.2.2.2.2.1 i hi hp]; rfl
        rw [if_pos z00, if_neg (show ¬ 0 < nI (tL t i).length by rw [hl]; decide), e9, Option.bind_some, if_pos rfl]
        exact go
      | true =>
        rw [hp] at go
        rw [v_node1t hr ok hi hp, Option.bind_some]
        dsimp only
        rw [if_neg n10, e9, Option.bind_some, if_pos rfl]
        exact go
theorem s_isSound (hr : repN N t) (ok : NetOK t) : f_L_isSound V N S = some (1, S) := by
  have h49 := n49 ok
  rw [f_L_isSound, v_told0 hr, Option.bind_some]
  exact s_19 hr ok FU 0 (by omega) (by unfold FU; omega)
end SOUND
