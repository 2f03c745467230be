theorem math_main (L : Nat) (xs : Nat → Int) (hL : L ≤ 3072) (hxs : ∀ j, ok32 (xs j)) : w_L_law L xs sgB (fun r _ => r = 1) := by
  sorry
