theorem q_run : ∀ (β : Bool) (xs : Nat → Int32) (L : Nat), L ≤ 3584 → ∃ (n d : Nat) (h1 : am_H), d ≤ 1300 ∧ am_ex (q_P β xs L) q_ML q_HD q_NT n d q_law 0 (.retAddr 1 :: List.replicate 6 (.retAddr 0)) [] q_h0 = some (.inl (some (.int 1)), h1) ∧ h1.1.2.2.1 ≤ 601024 ∧ h1.1.2.2.2 ≤ 7293034 := by
  sorry
