theorem pure_law (b L : Nat) (xs : Nat → Int32) (hL : L ≤ 2048) : wp_L_law (hp0 b) (L, xs) := sorry
