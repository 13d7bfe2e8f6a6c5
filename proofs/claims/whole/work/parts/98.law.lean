theorem law_run (L : Nat) (xs : Nat → Int32) (hL : L ≤ 2561) : ∃ (iv o : Nat → Nat) (μ' : XM), (∀ j, o (iv j) = j) ∧ (∀ j, iv j ≠ 0) ∧ run 800 1201 0 (en 1201 [xR 0]) [] (m0 L xs iv) = some (some (xI 1), μ') ∧ μ'.2.2.2.1 ≤ 600000 ∧ μ'.2.2.2.2.1 ≤ 7302250 := by
  sorry
