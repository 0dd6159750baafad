/-- THE PURE STATEMENT -/
theorem pure_law (L : Nat) (xs : Nat → Int32) (hL : L ≤ 2560) : f_L_law cm0 mm0 lm0 L xs = some 1 := sorry
