theorem law_pure (b L : Nat) (xs : Nat → Int32) (hL : L ≤ 384) : ∃ n, lp_L_law_18 b L xs (fun r _ => r = 1) n 0 M0 := sorry
