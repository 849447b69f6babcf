/-! ===== measures: eight counters, two of them greatest values ===== -/
def mop (k x y : Nat) : Nat := if k = 2 ∨ k = 5 then max x y else x + y
theorem mop_0 (k x : Nat) : mop k x 0 = x := by
  unfold mop
  by_cases h : k = 2 ∨ k = 5
  · rw [if_pos h]; omega
  · rw [if_neg h]; omega
theorem mop_0l (k x : Nat) : mop k 0 x = x := by
  unfold mop
  by_cases h : k = 2 ∨ k = 5
  · rw [if_pos h]; omega
  · rw [if_neg h]; omega
theorem mop_mix (k a b c d : Nat) : mop k (mop k a b) (mop k c d) = mop k (mop k a c) (mop k b d) := by
  unfold mop
  by_cases h : k = 2 ∨ k = 5
  · rw [if_pos h, if_pos h, if_pos h, if_pos h, if_pos h, if_pos h]; omega
  · rw [if_neg h, if_neg h, if_neg h, if_neg h, if_neg h, if_neg h]; omega
theorem mop_assoc (k a b c : Nat) : mop k (mop k a b) c = mop k a (mop k b c) := by
  unfold mop
  by_cases h : k = 2 ∨ k = 5
  · rw [if_pos h, if_pos h, if_pos h, if_pos h]; omega
  · rw [if_neg h, if_neg h, if_neg h, if_neg h]; omega
def fd (k : Nat) (f : Nat → Nat) : Nat → Nat
  | 0 => 0
  | n + 1 => mop k (fd k f n) (f n)
theorem fd_0 (k : Nat) (f : Nat → Nat) : fd k f 0 = 0 := rfl
theorem fd_s (k : Nat) (f : Nat → Nat) (n : Nat) : fd k f (n + 1) = mop k (fd k f n) (f n) := rfl
theorem fd_cong {k : Nat} {f g : Nat → Nat} : ∀ {n : Nat}, (∀ i, i < n → f i = g i) → fd k f n = fd k g n := by
  intro n
  induction n with
  | zero => intro _; rfl
  | succ n ih => intro h; rw [fd_s, fd_s, ih (fun i hi => h i (by omega)), h n (by omega)]
theorem fd_z (k : Nat) : ∀ n, fd k (fun _ => 0) n = 0 := by
  intro n
  induction n with
  | zero => rfl
  | succ n ih => rw [fd_s, ih, mop_0]
theorem fd_mop (k : Nat) (f g : Nat → Nat) : ∀ n, fd k (fun i => mop k (f i) (g i)) n = mop k (fd k f n) (fd k g n) := by
  intro n
  induction n with
  | zero => rw [fd_0, fd_0, fd_0, mop_0]
  | succ n ih => rw [fd_s, fd_s, fd_s, ih, mop_mix]
theorem fd_swap (k : Nat) (f : Nat → Nat → Nat) (m : Nat) : ∀ n, fd k (fun i => fd k (fun j => f i j) m) n = fd k (fun j => fd k (fun i => f i j) n) m := by
  intro n
  induction n with
  | zero => rw [fd_0, fd_cong (g := fun _ => 0) (fun i _ => fd_0 _ _), fd_z]
  | succ n ih => rw [fd_s, ih, ← fd_mop]; rfl
theorem fd_le {k : Nat} (hk : k = 2 ∨ k = 5) {f : Nat → Nat} {c : Nat} : ∀ {n : Nat}, (∀ i, i < n → f i ≤ c) → fd k f n ≤ c := by
  intro n
  induction n with
  | zero => intro _; exact Nat.zero_le _
  | succ n ih =>
    intro h
    have h1 := ih (fun i hi => h i (by omega))
    have h2 := h n (by omega)
    rw [fd_s]
    unfold mop
    rw [if_pos hk]
    omega
theorem fd_sum {k : Nat} (hk : ¬ (k = 2 ∨ k = 5)) {f : Nat → Nat} {c : Nat} : ∀ {n : Nat}, (∀ i, i < n → f i ≤ c) → fd k f n ≤ n * c := by
  intro n
  induction n with
  | zero => intro _; exact Nat.zero_le _
  | succ n ih =>
    intro h
    have h1 := ih (fun i hi => h i (by omega))
    have h2 := h n (by omega)
    rw [fd_s, Nat.add_mul]
    unfold mop
    rw [if_neg hk]
    omega
/-- the length of a route -/
def tmb (t : NT) (d u : Nat) : Bool := decide (u = d) || (nx t u d).isNone
theorem tmb_iff (t : NT) (d u : Nat) : tmb t d u = true ↔ tm t d u := by
  unfold tmb tm
  simp only [Bool.or_eq_true, decide_eq_true_eq, Option.isNone_iff_eq_none]
def rl (t : NT) (d s : Nat) : Nat := fb_ct (fun i => decide (fb_ct (fun j => tmb t d (rs t d s j)) (i + 1) = 0)) 13
theorem rl_eq {t : NT} {d s n : Nat} (hn : n ≤ 12) (ht : tm t d (rs t d s n)) (hno : ∀ j, j < n → ¬ tm t d (rs t d s j)) : rl t d s = n := by
  unfold rl
  have e : ∀ i, i < 13 → (fun i => decide (fb_ct (fun j => tmb t d (rs t d s j)) (i + 1) = 0)) i = decide (i < n) := by
    intro i _
    show decide (fb_ct (fun j => tmb t d (rs t d s j)) (i + 1) = 0) = decide (i < n)
    rw [Bool.eq_iff_iff, decide_eq_true_eq, decide_eq_true_eq, fb_ct_zero]
    constructor
    · intro h
      rcases Nat.lt_or_ge i n with h1 | h1
      · exact h1
      · have := h n (by omega)
        rw [(tmb_iff _ _ _).mpr ht] at this
        cases this
    · intro h j hj
      cases hb : tmb t d (rs t d s j) with
      | false => rfl
      | true => exact absurd ((tmb_iff _ _ _).mp hb) (hno j (by omega))
  rw [fb_ct_cong e, show (13 : Nat) = n + (13 - n) by omega, fb_ct_split, fb_ct_all.mpr (fun k hk => decide_eq_true hk), fb_ct_zero.mpr (fun k hk => decide_eq_false (by omega)), Nat.add_zero]
def val (t : NT) (s d k : Nat) : Nat := if k = 0 then 1 else if k = 1 then (if gq (rad t) s d 49 = none then 0 else 1) else if k = 2 then wn t s d else if k = 3 then wn t s d else if rs t d s (rl t d s) = d then (if k = 4 then 1 else if k = 5 then rl t d s else if k = 6 then rl t d s else (if gq (rad t) s d 49 = some (rl t d s) then 1 else 0)) else 0
def pv (t : NT) (k s d : Nat) : Nat := if s ≠ d ∧ tR t s = true ∧ tR t d = true then val t s d k else 0
abbrev sW (S : SS) (f : Nat → Int32) : SS := (S.1, S.2.1, S.2.2.1, S.2.2.2.1, S.2.2.2.2.1, f, S.2.2.2.2.2.2)
theorem n_meas {S : SS} {k : Nat} (hk : k < 8) : f_X1_measured S (nI k) = some (S.2.2.2.2.2.1 k) := by
  rw [f_X1_measured, valueAt_in hk (by omega), Option.bind_some]
theorem n_add {S : SS} {k : Nat} {y : Int32} (hk : k < 8) : f_X1_add S (nI k) y = some (sW S (upd S.2.2.2.2.2.1 k (S.2.2.2.2.2.1 k + y))) := by
  rw [f_X1_add, n_meas hk, Option.bind_some, putAt_in hk (by omega), Option.bind_some]
theorem n_raise {S : SS} {k : Nat} {y : Int32} (hk : k < 8) : f_X1_raise S (nI k) y = some (sW S (upd S.2.2.2.2.2.1 k (if S.2.2.2.2.2.1 k < y then y else S.2.2.2.2.2.1 k))) := by
  rw [f_X1_raise, n_meas hk, Option.bind_some, putAt_in hk (by omega), Option.bind_some]
theorem n_35f {t : NT} (ok : NetOK t) {s d : Nat} (hs : s < tN t) (hd : d < tN t) (hp : tR t s = true) (S : SS) (ha : AIM t d S.2.2.2.1) (z : Int32) (hz : rs t d s (rl t d s) ≠ d) : ∃ tr x, g_X1_addPair_35 S (nI s) (nI d) z = some (S.1, S.2.1, S.2.2.1, S.2.2.2.1, tr, S.2.2.2.2.2.1, x) := by
  obtain ⟨n, hn, ht, hno⟩ := rs_end ok hs hd hp
  rw [rl_eq hn ht hno] at hz
  obtain ⟨tr, e1, -⟩ := n_follow ok hs hd hp hn ht hno S ha
  rw [g_X1_addPair_35, e1, Option.bind_some]
  dsimp only
  rw [if_neg hz, if_pos z00]
  exact ⟨_, _, rfl⟩
theorem n_35t {t : NT} (ok : NetOK t) {s d : Nat} (hs : s < tN t) (hd : d < tN t) (hp : tR t s = true) (S : SS) (ha : AIM t d S.2.2.2.1) (z : Int32) (hz : rs t d s (rl t d s) = d) : ∃ tr x, g_X1_addPair_35 S (nI s) (nI d) z = some (S.1, S.2.1, S.2.2.1, S.2.2.2.1, tr, upd (upd (upd (upd S.2.2.2.2.2.1 4 (S.2.2.2.2.2.1 4 + 1)) 5 (if S.2.2.2.2.2.1 5 < nI (rl t d s) then nI (rl t d s) else S.2.2.2.2.2.1 5)) 6 (S.2.2.2.2.2.1 6 + nI (rl t d s))) 7 (S.2.2.2.2.2.1 7 + (if nI (rl t d s) = z then 1 else 0)), x) := by
  obtain ⟨n, hn, ht, hno⟩ := rs_end ok hs hd hp
  rw [rl_eq hn ht hno] at hz ⊢
  obtain ⟨tr, e1, -⟩ := n_follow ok hs hd hp hn ht hno S ha
  rw [g_X1_addPair_35, e1, Option.bind_some]
  dsimp only
  have st : ∀ (S2 : SS), S2.2.2.2.2.2.2 = nI (n + 1) → f_X1_steps S2 = some (nI n) := fun S2 h => n_steps h
  rw [if_pos hz, if_neg n10, show (4 : Int32) = nI 4 from rfl, n_add (by omega), Option.bind_some, st _ rfl, Option.bind_some, show (5 : Int32) = nI 5 from rfl, n_raise (by omega), Option.bind_some, st _ rfl, Option.bind_some, show (6 : Int32) = nI 6 from rfl, n_add (by omega), Option.bind_some, st _ rfl, Option.bind_some, show (7 : Int32) = nI 7 from rfl, n_add (by omega), n_add (by omega)]
  by_cases hq : nI n = z
  · rw [if_pos hq, if_pos hq]
    exact ⟨_, _, rfl⟩
  · rw [if_neg hq, if_neg hq]
    exact ⟨_, _, rfl⟩
