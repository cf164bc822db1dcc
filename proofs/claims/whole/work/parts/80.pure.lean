theorem pure_law (L : Nat) (xs : Nat → Int32) (hL : L ≤ 2048) : ∃ (n : Nat) (q : Int32 × MU), zL_law n xs L usz = some q ∧ q.1 = 1 := sorry
