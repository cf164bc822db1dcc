/-! ===== calls that ask: both answer alike ===== -/
theorem opt_ref {x y : Option (Int32 × MU)} {c u : MU} (k : Nat) (hk : k < 7) {n : Nat} (hI : CINV c) (hM : MREL c u) (h1 : x = (zX4_refuse n c (-(nI k))).bind (fun q => some (q.1, q.2))) (h2 : y = (zX5_no n u (-(nI k))).bind (fun q => some (q.1, q.2))) : ∃ v c' u', x = some (v, c') ∧ y = some (v, u') ∧ CINV c' ∧ MREL c' u' := by
  rw [zX4_refuse_eq hk] at h1
  rw [zX5_no_eq hk] at h2
  exact ⟨_, _, _, h1, h2, (ref_rel hI hM).1, (ref_rel hI hM).2⟩
theorem opt_same {x y : Option (Int32 × MU)} {c u : MU} {v : Int32} (hI : CINV c) (hM : MREL c u) (h1 : x = some (v, c)) (h2 : y = some (v, u)) : ∃ v c' u', x = some (v, c') ∧ y = some (v, u') ∧ CINV c' ∧ MREL c' u' := ⟨v, c, u, h1, h2, hI, hM⟩
theorem m_isYard {n : Nat} {c u : MU} {r : Nat} {a : Int32} (hM : MX c r u) : zX5_isYard n u a = zX3_isYard n c r a := by
  unfold zX5_isYard zX3_isYard
  rw [hM.1.1]
theorem m_isOne {n : Nat} {c u : MU} {r : Nat} {a : Int32} (hM : MX c r u) : zX5_isOne n u a = zX3_isPerson n c r a := by
  unfold zX5_isOne zX3_isPerson
  rw [hM.1.2.1]
theorem m_areTwo {n : Nat} {c u : MU} {r : Nat} {a b : Int32} (hM : MX c r u) : zX5_areTwo n u a b = zX3_areTwo n c r a b := by
  unfold zX5_areTwo zX3_areTwo
  rw [m_isOne hM, m_isOne hM]
theorem zX3_areTwo_eq {n : Nat} {c : MU} {r P : Nat} {a b : Int32} (hP : c r 3 = nI P) (hP7 : P ≤ 7) : (∃ i j, i < P ∧ j < P ∧ i ≠ j ∧ a = nI i ∧ b = nI j ∧ zX3_areTwo n c r a b = some 1) ∨ zX3_areTwo n c r a b = some 0 := by
  unfold zX3_areTwo
  rcases zX3_isPerson_eq (n := n) (u := c) (r := r) (a := a) hP hP7 with ⟨i, hi, rfl, hz⟩ | ⟨-, hz⟩
  · rw [hz, Option.bind_some, if_neg (by decide)]
    rcases zX3_isPerson_eq (n := n) (u := c) (r := r) (a := b) hP hP7 with ⟨j, hj, rfl, hz2⟩ | ⟨-, hz2⟩
    · rw [hz2, Option.bind_some, if_neg (by decide)]
      by_cases e : nI i = nI j
      · rw [if_pos e]; exact Or.inr rfl
      · rw [if_neg e]
        exact Or.inl ⟨i, j, hi, hj, fun q => e (by rw [q]), rfl, rfl, rfl⟩
    · rw [hz2, Option.bind_some, if_pos rfl]; exact Or.inr rfl
  · rw [hz, Option.bind_some, if_pos rfl]; exact Or.inr rfl
theorem op_yard (n : Nat) (a b : Int32) : OPT (fun c => zX4_yard n c a b) (fun u => zX5_yard n u a b) := by
  intro c u hI hM
  obtain ⟨⟨Y, P, hR⟩, -⟩ := id hI
  have hX := hM.1
  have hY5 := hR.1.2.1
  have hmY := m_isYard (n := n) (a := a) hX
  rcases zX3_isYard_eq (n := n) (u := c) (r := 1) (a := a) hR.1.2.2.2.1 hY5 with ⟨j, hj, rfl, hz⟩ | ⟨-, hz⟩
  · rw [hz] at hmY
    have o5 := oob_no (show j < 5 by omega) (show j < 2147483648 by omega)
    have t5 := tn_nI (show j < 2147483648 by omega)
    by_cases b0 : b = 0
    · refine opt_same (v := c (1 + 1) j) hI hM ?_ ?_
      · simp [zX4_yard, hz, b0, o5, t5]
      · simp [zX5_yard, hmY, b0, o5, t5, hX.2.1]
    · by_cases b1 : b = 1
      · refine opt_same (v := c (1 + 2) j) hI hM ?_ ?_
        · simp [zX4_yard, hz, b1, o5, t5]
        · simp [zX5_yard, hmY, b1, o5, t5, hX.2.2.1]
      · by_cases b2 : b = 2
        · refine opt_same (v := c (1 + 3) j) hI hM ?_ ?_
          · simp [zX4_yard, hz, b2, o5, t5]
          · simp [zX5_yard, hmY, b2, o5, t5, hM.2.1]
        · refine opt_ref 2 (by decide) (n := n) hI hM ?_ ?_
          · simp only [zX4_yard, hz, Option.bind_some, if_neg b0, if_neg b1, if_neg b2]
            rfl
          · simp only [zX5_yard, hmY, Option.bind_some, if_neg b0, if_neg b1, if_neg b2]
            rfl
  · rw [hz] at hmY
    refine opt_ref 1 (by decide) (n := n) hI hM ?_ ?_
    · simp only [zX4_yard, hz, Option.bind_some]
      rfl
    · simp only [zX5_yard, hmY, Option.bind_some]
      rfl
theorem ix7' (p a : Nat) : nI p * (7 : Int32) + nI a = nI (7 * p + a) := by
  rw [show (7 : Int32) = nI 7 from rfl, pk_mul, nI_add, Nat.mul_comm]
theorem zX3_grudgeOf_eq {n : Nat} {c : MU} {r i j : Nat} (hi : i < 7) : zX3_grudgeOf n c r (nI i) (nI j) = some (gb c r i j) := by
  unfold zX3_grudgeOf gb
  rw [oob_no hi (by omega), tn_nI (by omega)]
  simp
theorem zX3_hoursOf_eq {n : Nat} {c : MU} {r i j : Nat} (hi : i < 7) (hj : j < 7) : zX3_hoursOf n c r (nI i) (nI j) = some (c (r + 6) (7 * i + j)) := by
  unfold zX3_hoursOf
  rw [ix7', oob_no (show 7 * i + j < 49 by omega) (by omega), tn_nI (by omega)]
  simp
theorem op_grudge (n : Nat) (a b : Int32) : OPT (fun c => zX4_grudge n c a b) (fun u => zX5_grudge n u a b) := by
  intro c u hI hM
  obtain ⟨⟨Y, P, hR⟩, -⟩ := id hI
  have hX := hM.1
  have hP7 := hR.1.2.2.1
  have hm := m_areTwo (n := n) (a := a) (b := b) hX
  rcases zX3_areTwo_eq (n := n) (c := c) (r := 1) (a := a) (b := b) hR.1.2.2.2.2.1 hP7 with ⟨i, j, hi, hj, hij, rfl, rfl, hz⟩ | hz
  · rw [hz] at hm
    refine opt_same (v := gb c 1 i j) hI hM ?_ ?_
    · simp [zX4_grudge, hz, zX3_grudgeOf_eq (show i < 7 by omega)]
    · simp [zX5_grudge, hm, ix7, oob_no (show 7 * i + j < 49 by omega) (show 7 * i + j < 2147483648 by omega), tn_nI (show 7 * i + j < 2147483648 by omega), hX.2.2.2.2.2 i j (by omega) (by omega)]
  · rw [hz] at hm
    refine opt_ref 1 (by decide) (n := n) hI hM ?_ ?_
    · simp only [zX4_grudge, hz, Option.bind_some]
      rfl
    · simp only [zX5_grudge, hm, Option.bind_some]
      rfl
theorem op_owes (n : Nat) (a b : Int32) : OPT (fun c => zX4_owes n c a b) (fun u => zX5_owes n u a b) := by
  intro c u hI hM
  obtain ⟨⟨Y, P, hR⟩, -⟩ := id hI
  have hX := hM.1
  have hP7 := hR.1.2.2.1
  have hm := m_areTwo (n := n) (a := a) (b := b) hX
  rcases zX3_areTwo_eq (n := n) (c := c) (r := 1) (a := a) (b := b) hR.1.2.2.2.2.1 hP7 with ⟨i, j, hi, hj, hij, rfl, rfl, hz⟩ | hz
  · rw [hz] at hm
    refine opt_same (v := c (1 + 6) (7 * i + j)) hI hM ?_ ?_
    · simp [zX4_owes, hz, zX3_hoursOf_eq (show i < 7 by omega) (show j < 7 by omega)]
    · simp [zX5_owes, hm, ix7, oob_no (show 7 * i + j < 49 by omega) (show 7 * i + j < 2147483648 by omega), tn_nI (show 7 * i + j < 2147483648 by omega), hX.2.2.2.1]
  · rw [hz] at hm
    refine opt_ref 1 (by decide) (n := n) hI hM ?_ ?_
    · simp only [zX4_owes, hz, Option.bind_some]
      rfl
    · simp only [zX5_owes, hm, Option.bind_some]
      rfl
theorem op_load (n : Nat) (hn : 10 ≤ n) (a : Int32) : OPT (fun c => zX4_load n c a) (fun u => zX5_load n u a) := by
  intro c u hI hM
  obtain ⟨⟨Y, P, hR⟩, -⟩ := id hI
  have hX := hM.1
  have hY5 := hR.1.2.1
  have hY := hR.1.2.2.2.1
  by_cases h0 : a < 0
  · refine opt_ref 1 (by decide) (n := n) hI hM ?_ ?_
    · simp only [zX4_load, if_pos h0]
      rfl
    · simp only [zX5_load, zX5_isIn, if_pos h0, Option.bind_some]
      rfl
  · obtain ⟨j, hj, rfl⟩ := nI_of h0
    by_cases h1 : j ≤ Y
    · have hle : nI j ≤ nI Y := nI_le h1 (by omega)
      have hlt : ¬ nI Y < nI j := by rw [lt_nI (by omega) hj]; omega
      refine opt_same (v := ldR c 1 Y j) hI hM ?_ ?_
      · simp [zX4_load, h0, hY, hle, zX3_loadOf_eq (n := n) (r := 1) hY hY5 (show j ≤ 100 by omega) hn, ldR]
      · simp [zX5_load, zX5_isIn, h0, hX.1.1, hY, hlt, zX5_loadOf_eq (n := n) hR hX (show j ≤ 100 by omega) hn]
    · have hle : ¬ nI j ≤ nI Y := by rw [le_nI hj (by omega)]; exact h1
      have hlt : nI Y < nI j := nI_lt (by omega) hj
      refine opt_ref 1 (by decide) (n := n) hI hM ?_ ?_
      · simp only [zX4_load, if_neg h0, hY, if_neg hle]
        rfl
      · simp only [zX5_load, zX5_isIn, if_neg h0, hX.1.1, hY, if_pos hlt, Option.bind_some]
        rfl
