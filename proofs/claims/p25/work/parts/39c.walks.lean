/-! ===== ways: how many walks of k steps go from u to b along a ===== -/
def GW (a : Nat → Nat → Bool) (b : Nat) : Nat → Nat → Nat
  | 0, u => if u = b then 1 else 0
  | k + 1, u => fb_sm (fun v => if a u v then GW a b k v else 0) 49
theorem GW_0 (a : Nat → Nat → Bool) (b u : Nat) : GW a b 0 u = if u = b then 1 else 0 := by rw [GW]
theorem GW_s (a : Nat → Nat → Bool) (b k u : Nat) : GW a b (k + 1) u = fb_sm (fun v => if a u v then GW a b k v else 0) 49 := by rw [GW]
theorem sm_swap (f : Nat → Nat → Nat) (m : Nat) : ∀ n, fb_sm (fun i => fb_sm (fun j => f i j) m) n = fb_sm (fun j => fb_sm (fun i => f i j) n) m := by
  intro n
  induction n with
  | zero =>
    have : fb_sm (fun j => fb_sm (fun i => f i j) 0) m = fb_sm (fun _ => 0) m := fb_sm_cong (fun k _ => rfl)
    rw [this, fb_sm_const, Nat.mul_zero]
    rfl
  | succ n ih =>
    rw [fb_sm_succ, ih]
    have : fb_sm (fun j => fb_sm (fun i => f i j) (n + 1)) m = fb_sm (fun j => fb_sm (fun i => f i j) n + f n j) m := fb_sm_cong (fun k _ => by rw [fb_sm_succ])
    rw [this, fb_sm_add]
theorem sm_if (c : Bool) (f : Nat → Nat) (n : Nat) : (if c then fb_sm f n else 0) = fb_sm (fun i => if c then f i else 0) n := by
  cases c with
  | true => rfl
  | false =>
    rw [if_neg ff]
    have : fb_sm (fun i => if false = true then f i else 0) n = fb_sm (fun _ => 0) n := fb_sm_cong (fun k _ => if_neg ff)
    rw [this, fb_sm_const, Nat.mul_zero]
theorem sm_one {f : Nat → Nat} {n b : Nat} (hb : b < n) (h : ∀ i, i < n → i ≠ b → f i = 0) : fb_sm f n = f b := by
  have e : fb_sm f n = fb_sm (fun k => if k = b then f b else (fun _ => 0) k) n := fb_sm_cong (fun k hk => by
    by_cases hkb : k = b
    · rw [if_pos hkb, hkb]
    · rw [if_neg hkb]; exact h k hk hkb)
  have this : fb_sm (fun k => if k = b then f b else (fun _ => 0) k) n + 0 = fb_sm (fun _ => 0) n + f b := fb_sm_upd (fun _ => 0) (f b) hb
  rw [fb_sm_const, Nat.mul_zero, ← e] at this
  omega
/-- one walk, told from its two ends -/
theorem GW_flip (a : Nat → Nat → Bool) : ∀ (k u b : Nat), u < 49 → b < 49 → GW a b k u = GW (fun x y => a y x) u k b := by
  have last : ∀ (k u b : Nat), u < 49 → b < 49 → GW a b (k + 1) u = fb_sm (fun v => if a v b then GW a v k u else 0) 49 := by
    intro k
    induction k with
    | zero =>
      intro u b hu hb
      rw [GW_s]
      have e1 : fb_sm (fun v => if a u v then GW a b 0 v else 0) 49 = (if a u b then GW a b 0 b else 0) := sm_one (f := fun v => if a u v then GW a b 0 v else 0) hb (fun i _ hib => by rw [GW_0, if_neg hib]; cases a u i <;> rfl)
      have e2 : fb_sm (fun v => if a v b then GW a v 0 u else 0) 49 = (if a u b then GW a u 0 u else 0) := sm_one (f := fun v => if a v b then GW a v 0 u else 0) hu (fun i _ hib => by rw [GW_0, if_neg (show ¬ u = i from fun e => hib e.symm)]; cases a i b <;> rfl)
      rw [e1, e2, GW_0, GW_0, if_pos rfl, if_pos rfl]
    | succ k ih =>
      intro u b hu hb
      rw [GW_s]
      have e1 : fb_sm (fun v => if a u v then GW a b (k + 1) v else 0) 49 = fb_sm (fun v => fb_sm (fun x => if a u v then (if a x b then GW a x k v else 0) else 0) 49) 49 := fb_sm_cong (fun v hv => by rw [ih v b hv hb, sm_if])
      have e2 : fb_sm (fun x => if a x b then GW a x (k + 1) u else 0) 49 = fb_sm (fun x => fb_sm (fun v => if a u v then (if a x b then GW a x k v else 0) else 0) 49) 49 := fb_sm_cong (fun x hx => by
        rw [GW_s, sm_if]
        exact fb_sm_cong (fun v _ => by cases a x b <;> cases a u v <;> rfl))
      rw [e1, e2, sm_swap]
  intro k
  induction k with
  | zero =>
    intro u b hu hb
    rw [GW_0, GW_0]
    by_cases h : u = b
    · rw [if_pos h, if_pos h.symm]
    · rw [if_neg h, if_neg (fun e => h e.symm)]
  | succ k ih =>
    intro u b hu hb
    rw [last k u b hu hb, GW_s]
    exact fb_sm_cong (fun v hv => by rw [ih u v hu hv])
theorem GW_pos {a : Nat → Nat → Bool} {b k u : Nat} : 0 < GW a b (k + 1) u ↔ ∃ v, v < 49 ∧ a u v = true ∧ 0 < GW a b k v := by
  rw [GW_s]
  constructor
  · intro h
    obtain ⟨v, v1, v2, v3⟩ := sm_pick (fun v => if a u v then GW a b k v else 0) (n := 49) (d := 0) h
    rw [fb_sm_succ] at v3
    refine ⟨v, v1, ?_⟩
    cases ha : a u v with
    | true => rw [ha, if_pos rfl] at v3; exact ⟨rfl, by omega⟩
    | false => rw [ha, if_neg ff] at v3; omega
  · rintro ⟨v, v1, v2, v3⟩
    have := fb_sm_part (fun v => if a u v then GW a b k v else 0) v1
    rw [v2, if_pos rfl] at this
    omega
/-- how far, if below m -/
def gq (a : Nat → Nat → Bool) (b u : Nat) : Nat → Option Nat
  | 0 => none
  | m + 1 => match gq a b u m with
    | some j => some j
    | none => if 0 < GW a b m u then some m else none
theorem gq_none {a : Nat → Nat → Bool} {b u : Nat} : ∀ {m : Nat}, gq a b u m = none ↔ ∀ i, i < m → GW a b i u = 0 := by
  intro m
  induction m with
  | zero => exact ⟨fun _ i hi => absurd hi (Nat.not_lt_zero _), fun _ => rfl⟩
  | succ m ih =>
    rw [gq]
    constructor
    · intro h i hi
      cases hm : gq a b u m with
      | some j => rw [hm] at h; cases h
      | none =>
        rw [hm] at h
        by_cases hp : 0 < GW a b m u
        · rw [show (match (none : Option Nat) with | some j => some j | none => if 0 < GW a b m u then some m else none) = if 0 < GW a b m u then some m else none from rfl, if_pos hp] at h
          cases h
        · by_cases him : i = m
          · rw [him]; omega
          · exact ih.mp hm i (by omega)
    · intro h
      rw [ih.mpr (fun i hi => h i (by omega))]
      show (if 0 < GW a b m u then some m else none) = none
      rw [if_neg (by rw [h m (by omega)]; omega)]
theorem gq_some {a : Nat → Nat → Bool} {b u j : Nat} : ∀ {m : Nat}, gq a b u m = some j ↔ j < m ∧ 0 < GW a b j u ∧ ∀ i, i < j → GW a b i u = 0 := by
  intro m
  induction m with
  | zero => exact ⟨fun h => (by cases h), fun h => absurd h.1 (Nat.not_lt_zero _)⟩
  | succ m ih =>
    rw [gq]
    cases hm : gq a b u m with
    | some j' =>
      constructor
      · intro h
        have h' : some j' = some j := h
        rw [← hm] at h'
        have := ih.mp h'
        exact ⟨by omega, this.2⟩
      · rintro ⟨h1, h2, h3⟩
        by_cases hj : j < m
        · have := ih.mpr ⟨hj, h2, h3⟩
          rw [hm] at this
          exact this
        · exfalso
          have hnn : gq a b u m = none := gq_none.mpr (fun i hi => h3 i (by omega))
          rw [hm] at hnn
          cases hnn
    | none =>
      show (if 0 < GW a b m u then some m else none) = some j ↔ _
      have hz := gq_none.mp hm
      by_cases hp : 0 < GW a b m u
      · rw [if_pos hp]
        constructor
        · intro h
          injection h with h
          subst h
          exact ⟨by omega, hp, hz⟩
        · rintro ⟨h1, h2, h3⟩
          by_cases hj : j < m
          · have := hz j hj; omega
          · rw [show m = j by omega]
      · rw [if_neg hp]
        constructor
        · intro h; cases h
        · rintro ⟨h1, h2, h3⟩
          by_cases hj : j < m
          · have := hz j hj; omega
          · rw [show j = m by omega] at h2; exact absurd h2 hp
theorem gq_keep {a : Nat → Nat → Bool} {b u j m n : Nat} (h : gq a b u m = some j) (hmn : m ≤ n) : gq a b u n = some j := by
  have := gq_some.mp h
  exact gq_some.mpr ⟨by omega, this.2⟩
theorem gq_step (a : Nat → Nat → Bool) (b u k : Nat) : gq a b u (k + 1) = match gq a b u k with
    | some j => some j
    | none => if 0 < GW a b k u then some k else none := by rw [gq]
/-- a node is k steps off just when a node that it leads to is k - 1 off -/
theorem gq_new {a : Nat → Nat → Bool} {b u k : Nat} (h : gq a b u (k + 1) = none) : (0 < GW a b (k + 1) u ↔ ∃ v, v < 49 ∧ a u v = true ∧ gq a b v (k + 1) = some k) := by
  rw [GW_pos]
  constructor
  · rintro ⟨v, v1, v2, v3⟩
    refine ⟨v, v1, v2, gq_some.mpr ⟨by omega, v3, fun i hi => ?_⟩⟩
    rcases Nat.eq_zero_or_pos (GW a b i v) with h0 | h0
    · exact h0
    · have := gq_none.mp h (i + 1) (by omega)
      have h2 := GW_pos.mpr ⟨v, v1, v2, h0⟩
      omega
  · rintro ⟨v, v1, v2, v3⟩
    exact ⟨v, v1, v2, (gq_some.mp v3).2.1⟩
/-- where nothing is k off, nothing is farther -/
theorem gq_stop {a : Nat → Nat → Bool} {b k : Nat} (h : ∀ u, u < 49 → gq a b u (k + 1) ≠ some k) : ∀ m u, u < 49 → gq a b u (k + m) = gq a b u k := by
  have key : ∀ m u, u < 49 → gq a b u (k + m + 1) ≠ some (k + m) := by
    intro m
    induction m with
    | zero => exact h
    | succ m ih =>
      intro u hu he
      obtain ⟨h1, h2, h3⟩ := gq_some.mp he
      have hn : gq a b u (k + m + 1) = none := gq_none.mpr (fun i hi => h3 i (by omega))
      obtain ⟨v, v1, v2, v3⟩ := (gq_new hn).mp h2
      exact ih v v1 v3
  intro m
  induction m with
  | zero => intro u hu; rfl
  | succ m ih =>
    intro u hu
    have hk := key m u hu
    rw [← ih u hu, show k + (m + 1) = k + m + 1 by omega]
    cases hm : gq a b u (k + m) with
    | some j => exact gq_keep hm (by omega)
    | none =>
      rw [gq_step, hm] at hk ⊢
      show (if 0 < GW a b (k + m) u then some (k + m) else none) = none
      by_cases hp : 0 < GW a b (k + m) u
      · exfalso
        apply hk
        show (if 0 < GW a b (k + m) u then some (k + m) else none) = some (k + m)
        rw [if_pos hp]
      · rw [if_neg hp]
/-- distances are below 49 -/
theorem gq_lt {a : Nat → Nat → Bool} {b u k : Nat} (hu : u < 49) (h : gq a b u (k + 1) = some k) : k < 49 := by
  have key : ∀ j, j ≤ k → ∃ v, v < 49 ∧ gq a b v (k - j + 1) = some (k - j) := by
    intro j
    induction j with
    | zero => intro _; exact ⟨u, hu, h⟩
    | succ j ih =>
      intro hj
      obtain ⟨v, v1, v2⟩ := ih (by omega)
      rw [show k - j = k - (j + 1) + 1 by omega] at v2
      obtain ⟨h1, h2, h3⟩ := gq_some.mp v2
      have hn : gq a b v (k - (j + 1) + 1) = none := gq_none.mpr (fun i hi => h3 i (by omega))
      obtain ⟨x, x1, x2, x3⟩ := (gq_new hn).mp h2
      exact ⟨x, x1, x3⟩
  have key2 : ∀ i, ∃ v, i ≤ k → v < 49 ∧ gq a b v (i + 1) = some i := by
    intro i
    by_cases hi : i ≤ k
    · obtain ⟨v, v1, v2⟩ := key (k - i) (by omega)
      rw [show k - (k - i) = i by omega] at v2
      exact ⟨v, fun _ => ⟨v1, v2⟩⟩
    · exact ⟨0, fun h => absurd h hi⟩
  have := fb_holes 49 (k + 1) (fun i => Classical.choose (key2 i)) (fun i hi => (Classical.choose_spec (key2 i) (by omega)).1) (fun i j hij hj e => by
    have h1 := (Classical.choose_spec (key2 i) (by omega)).2
    have h2 := (Classical.choose_spec (key2 j) (by omega)).2
    have e' : Classical.choose (key2 i) = Classical.choose (key2 j) := e
    rw [e'] at h1
    have h3 := gq_keep h1 (show i + 1 ≤ j + 1 by omega)
    rw [h2] at h3
    injection h3 with h3
    omega)
  omega
theorem gq_flip (a : Nat → Nat → Bool) {u b : Nat} (hu : u < 49) (hb : b < 49) : ∀ m, gq a b u m = gq (fun x y => a y x) u b m := by
  intro m
  induction m with
  | zero => rfl
  | succ m ih => rw [gq_step, gq_step, ih, GW_flip a m u b hu hb]
