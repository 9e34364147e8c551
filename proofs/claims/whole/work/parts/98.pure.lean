/-- the pure core -/
theorem pure_main (sc : Nat → Int32) (L b : Nat) (hL : L ≤ 1536) : ∃ (k : Nat) (r : Int32 × Mem), f_L_law k b L sc I0 = some r ∧ r.1 = 1 := by
  sorry
