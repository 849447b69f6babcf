theorem st_init : ∃ (N : NS) (S : SS) (M : MS), f_X0_init = some N ∧ f_X1_init = some S ∧ f_X3_init = some M ∧ Rel (0, (fun _ => none), (fun _ => none)) N M := by
  obtain ⟨N1, n1, r1⟩ := n_layOut ((0 : Int32), (0 : Int32), (0 : Int64), (fun _ => (0 : Int32)), (fun _ => (0 : Int32)), (fun _ => (0 : Int32)), (fun _ => (0 : Int32)), (fun _ => (0 : Int32)), (fun _ => (0 : Int32))) (W := 4) (H := 4) (a := 0) (b := 0) (c := 0) (d := 0) (by omega) (by omega) rfl rfl rfl rfl
  obtain ⟨N2, n2, r2⟩ := n_setG r1 (k := 0) (v := 2) (by omega)
  obtain ⟨N3, n3, r3⟩ := n_setG r2 (k := 1) (v := 0) (by omega)
  obtain ⟨N4, n4, r4⟩ := n_setG r3 (k := 2) (v := 3) (by omega)
  obtain ⟨N5, n5, r5⟩ := n_setG r4 (k := 3) (v := 1) (by omega)
  obtain ⟨w, m1, m2⟩ := m_lay ((upd (upd (upd (fun _ => (0 : Int32)) 2 (2 : Int32)) 4 (3 : Int32)) 5 (1 : Int32)), (fun _ => (0 : Int32)), (0 : Int32), (fun _ => (0 : Int32)), (0 : Int32), (fun _ => (0 : Int32)), (0 : Int32), (0 : Int32), (fun _ => (0 : Int32)), (fun _ => (0 : Int64)), (fun _ => (0 : Int32))) (W := 4) (H := 4) (a := 2) (b := 0) (c := 3) (d := 1) (by omega) (by omega) rfl rfl rfl rfl
  refine ⟨N5, _, (w, (fun _ => (0 : Int32)), (0 : Int32), (fun _ => (0 : Int32)), (0 : Int32), (fun _ => (0 : Int32)), (0 : Int32), (0 : Int32), (fun _ => (0 : Int32)), (fun _ => (0 : Int64)), (fun _ => (0 : Int32))), ?_, rfl, ?_, ⟨tLay 4 4 2 0 3 1, lay_ok (by omega) (by omega) (by omega) (by omega) (by omega) (by omega), r5, m2⟩, ⟨0, by omega, rfl, rfl, fun k hk => absurd hk (Nat.not_lt_zero _)⟩, ⟨0, by omega, rfl, fun i _ => Or.inl ⟨rfl, Nat.zero_testBit i⟩⟩⟩
  · rw [f_X0_init]
    have n1' : f_X0_layOut ((0 : Int32), (0 : Int32), (0 : Int64), (fun _ => (0 : Int32)), (fun _ => (0 : Int32)), (fun _ => (0 : Int32)), (fun _ => (0 : Int32)), (fun _ => (0 : Int32)), (fun _ => (0 : Int32))) (4 : Int32) (4 : Int32) = some N1 := n1
    have n2' : f_X0_changeSetting N1 (0 : Int32) (2 : Int32) = some N2 := n2
    have n3' : f_X0_changeSetting N2 (1 : Int32) (0 : Int32) = some N3 := n3
    have n4' : f_X0_changeSetting N3 (2 : Int32) (3 : Int32) = some N4 := n4
    have n5' : f_X0_changeSetting N4 (3 : Int32) (1 : Int32) = some N5 := n5
    rw [n1', Option.bind_some, n2', Option.bind_some, n3', Option.bind_some, n4', Option.bind_some, n5', Option.bind_some]
  · rw [f_X3_init, c2, c4, c5]
    have m1' : f_X3_lay ((upd (upd (upd (fun _ => (0 : Int32)) 2 (2 : Int32)) 4 (3 : Int32)) 5 (1 : Int32)), (fun _ => (0 : Int32)), (0 : Int32), (fun _ => (0 : Int32)), (0 : Int32), (fun _ => (0 : Int32)), (0 : Int32), (0 : Int32), (fun _ => (0 : Int32)), (fun _ => (0 : Int64)), (fun _ => (0 : Int32))) (4 : Int32) (4 : Int32) = _ := m1
    rw [m1', Option.bind_some]
