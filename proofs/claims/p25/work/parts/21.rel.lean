/-! the network as numbers: W, H, places, nodes at places, present, links, limit, rule, chance, seed -/
abbrev NT : Type := Nat × Nat × (Nat → Nat) × (Nat → Nat) × (Nat → Bool) × (Nat → List Nat) × Nat × Nat × Nat × Nat
abbrev tW (t : NT) : Nat := t.1
abbrev tH (t : NT) : Nat := t.2.1
abbrev tP (t : NT) : Nat → Nat := t.2.2.1
abbrev tD (t : NT) : Nat → Nat := t.2.2.2.1
abbrev tR (t : NT) : Nat → Bool := t.2.2.2.2.1
abbrev tL (t : NT) : Nat → List Nat := t.2.2.2.2.2.1
abbrev tLim (t : NT) : Nat := t.2.2.2.2.2.2.1
abbrev tRule (t : NT) : Nat := t.2.2.2.2.2.2.2.1
abbrev tCha (t : NT) : Nat := t.2.2.2.2.2.2.2.2.1
abbrev tSeed (t : NT) : Nat := t.2.2.2.2.2.2.2.2.2
abbrev tN (t : NT) : Nat := tW t * tH t
def NetOK (t : NT) : Prop := (1 ≤ tW t ∧ tW t ≤ 7 ∧ 1 ≤ tH t ∧ tH t ≤ 7) ∧ (∀ u, u < tN t → tP t u < tN t ∧ tD t (tP t u) = u) ∧ (∀ p, p < tN t → tD t p < tN t ∧ tP t (tD t p) = p) ∧ (∀ u, u < tN t → (tL t u).length ≤ 3 ∧ (tL t u).Nodup ∧ ∀ x ∈ tL t u, x < tN t ∧ x ≠ u ∧ tR t x = true) ∧ (∀ u, u < tN t → tR t u = false → tL t u = []) ∧ (1 ≤ tLim t ∧ tLim t ≤ 3) ∧ tRule t ≤ 3 ∧ (1 ≤ tCha t ∧ tCha t ≤ 9) ∧ tSeed t < 2 ^ 31 ∧ ∃ u, u < tN t ∧ tR t u = true
/-- the class's network holds t -/
def repN (N : NS) (t : NT) : Prop := N.1 = nI (tW t) ∧ N.2.1 = nI (tH t) ∧ (∀ u, u < 64 → N.2.2.1.toBitVec.getLsbD u = (decide (u < tN t) && tR t u)) ∧ (∀ u, u < tN t → N.2.2.2.1 u = nI (tP t u % tW t) ∧ N.2.2.2.2.1 u = nI (tP t u / tW t)) ∧ (∀ p, p < tN t → N.2.2.2.2.2.1 p = nI (tD t p)) ∧ (∀ u, u < tN t → N.2.2.2.2.2.2.1 u = nI (tL t u).length ∧ ∀ k, k < (tL t u).length → N.2.2.2.2.2.2.2.1 (3 * u + k) = nI ((tL t u).getD k 0)) ∧ N.2.2.2.2.2.2.2.2 0 = nI (tLim t) ∧ N.2.2.2.2.2.2.2.2 1 = nI (tRule t) ∧ N.2.2.2.2.2.2.2.2 2 = nI (tCha t) ∧ N.2.2.2.2.2.2.2.2 3 = nI (tSeed t)
/-- the reference's row holds t -/
def repW (w : Nat → Int32) (t : NT) : Prop := w 0 = nI (tW t) ∧ w 1 = nI (tH t) ∧ w 2 = nI (tLim t) ∧ w 3 = nI (tRule t) ∧ w 4 = nI (tCha t) ∧ w 5 = nI (tSeed t) ∧ ∀ u, u < tN t → w (6 + u) = nI (tP t u) ∧ w (55 + u) = (if tR t u then 1 else 0) ∧ w (104 + u) = nI (tL t u).length ∧ ∀ k, k < (tL t u).length → w (153 + 3 * u + k) = nI ((tL t u).getD k 0)
/-- both sides hold one network, one history, the same images -/
def Both (N : NS) (w : Nat → Int32) : Prop := ∃ t, NetOK t ∧ repN N t ∧ repW w t
def RelH (V : HS) (M : MS) : Prop := (∃ c, c ≤ 8 ∧ V.1 = nI c ∧ M.2.2.1 = nI c ∧ ∀ k, k < c → ∃ N', V.2.1 k = some N' ∧ Both N' (fun j => M.2.1 (300 * k + j))) ∧ ∃ b : Nat, b < 4 ∧ M.2.2.2.2.1 = nI b ∧ ∀ i, i < 2 → (V.2.2 i = none ∧ b.testBit i = false) ∨ ∃ N', V.2.2 i = some N' ∧ b.testBit i = true ∧ Both N' (fun j => M.2.2.2.1 (300 * i + j))
def Rel (V : HS) (N : NS) (M : MS) : Prop := Both N M.1 ∧ RelH V M
