theorem pure_law (L : Nat) (xs : Nat → Int32) (hL : L ≤ 2048) : ∃ (n : Nat) (q : Int32 × MU), zL_law n xs L usz = some q ∧ q.1 = 1 := by
  obtain ⟨q, h1, h2⟩ := law_L (n := 20000) (xs := xs) (Nat.le_refl _) hL L 0 20000 usz (by omega) (by omega) (by omega) CINV_z MREL_z
  exact ⟨20000, q, h1, h2⟩
