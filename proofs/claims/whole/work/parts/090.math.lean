theorem law_math (L : Nat) (hL : L ≤ 2048) (xs : Nat → Int32) : P_L_law 2000 L xs hI (fun r _ => r = 1) := sorry
