/-! ===== sums; count ===== -/
def sm (f : Nat → Int32) : Nat → Int32
  | 0 => 0
  | k + 1 => sm f k + f k
theorem sm_cg {f g : Nat → Int32} : ∀ (k : Nat), (∀ i, i < k → f i = g i) → sm f k = sm g k := by
  intro k
  induction k with
  | zero => intro _; rfl
  | succ k ih => intro h; simp only [sm]; rw [h k (by omega), ih (fun i hi => h i (by omega))]
theorem sm_add {f : Nat → Int32} {a : Nat} : ∀ (b : Nat), sm f (a + b) = sm f a + sm (fun i => f (a + i)) b := by
  intro b
  induction b with
  | zero => simp only [sm, Nat.add_zero, Int32.add_zero]
  | succ b ih => rw [← Nat.add_assoc]; simp only [sm]; rw [ih, Int32.add_assoc]
theorem sm_z {f : Nat → Int32} {a : Nat} : ∀ (b : Nat), (∀ i, a ≤ i → i < a + b → f i = 0) → sm f (a + b) = sm f a := by
  intro b
  induction b with
  | zero => intro _; rfl
  | succ b ih =>
    intro h
    rw [← Nat.add_assoc]
    simp only [sm]
    rw [ih (fun i h1 h2 => h i h1 (by omega)), h (a + b) (by omega) (by omega), Int32.add_zero]
theorem sm_rows {f : Nat → Int32} {N : Nat} : ∀ (k : Nat), sm f (N * k) = sm (fun a => sm (fun b => f (N * a + b)) N) k := by
  intro k
  induction k with
  | zero => rfl
  | succ k ih => rw [Nat.mul_succ, sm_add, ih]; simp only [sm]
theorem zX3_allHours_L {n : Nat} {c : MU} {r : Nat} {k : Int32 → Int32 → Option Int32} :
    ∀ (d j m : Nat), j + d = 49 → d < m → zX3_allHours_L4 n c r k m (sm (c (r + 6)) j) (nI j) = k (sm (c (r + 6)) 49) (nI 49) := by
  intro d
  induction d with
  | zero =>
    intro j m hj hm
    obtain ⟨m, rfl⟩ : ∃ e, m = e + 1 := ⟨m - 1, by omega⟩
    obtain rfl : j = 49 := by omega
    rw [zX3_allHours_L4, if_pos (by decide)]
  | succ d ih =>
    intro j m hj hm
    obtain ⟨m, rfl⟩ : ∃ e, m = e + 1 := ⟨m - 1, by omega⟩
    rw [zX3_allHours_L4, if_neg (by rw [show (49 : Int32) = nI 49 from rfl, le_nI (by omega) (by omega)]; omega), oob_no (by omega : j < 49) (by omega), tn_nI (by omega), nI_1, ← ih (j + 1) m (by omega) (by omega)]
    simp only [Bool.false_eq_true, if_false, letb]
    rfl
theorem zX5_sumOf_L {n : Nat} {u : MU} {q N : Nat} {k : Int32 → Int32 → Option Int32} (hN : N < 1000) :
    ∀ (d j m : Nat), j + d = N → d < m → zX5_sumOf_L4 n u q N k m (sm (u q) j) (nI j) = k (sm (u q) N) (nI N) := by
  intro d
  induction d with
  | zero =>
    intro j m hj hm
    obtain ⟨m, rfl⟩ : ∃ e, m = e + 1 := ⟨m - 1, by omega⟩
    obtain rfl : j = N := by omega
    rw [zX5_sumOf_L4]
    exact if_pos (nI_le (Nat.le_refl _) (by omega))
  | succ d ih =>
    intro j m hj hm
    obtain ⟨m, rfl⟩ : ∃ e, m = e + 1 := ⟨m - 1, by omega⟩
    have hlt : ¬ Int32.ofNat N ≤ nI j := by
      show ¬ nI N ≤ nI j
      rw [le_nI (by omega) (by omega)]; omega
    rw [zX5_sumOf_L4, if_neg hlt, oob_no (show j < N by omega) (by omega), tn_nI (by omega), nI_1, ← ih (j + 1) m (by omega) (by omega)]
    simp only [Bool.false_eq_true, if_false, letb]
    rfl
theorem bitc_fin : ∀ g, g < 128 → zJ6_bitCount_0f7a4 0 (fun _ _ => 0) (nI g) = some (sm (fun b => (nI g >>> (nI b &&& 31)) &&& 1) 7) := by decide +kernel
theorem bitc_eq {n : Nat} {u : MU} {g : Int32} (h : isD 127 g) : zJ6_bitCount_0f7a4 n u g = some (sm (fun b => (g >>> (nI b &&& 31)) &&& 1) 7) := by
  obtain ⟨k, hk, rfl⟩ := h
  exact bitc_fin k (by omega)
theorem zX3_allGrudges_L {n : Nat} {c : MU} {r Y P : Nat} {k : Int32 → Int32 → Option Int32} (hI : RInv c r Y P) :
    ∀ (d j m : Nat), j + d = P → d < m → zX3_allGrudges_L4 n c r k m (sm (fun a => sm (fun b => gb c r a b) 7) j) (nI j) = k (sm (fun a => sm (fun b => gb c r a b) 7) P) (nI P) := by
  have hP := hI.1.2.2.2.2.1
  have hP7 := hI.1.2.2.1
  intro d
  induction d with
  | zero =>
    intro j m hj hm
    obtain ⟨m, rfl⟩ : ∃ e, m = e + 1 := ⟨m - 1, by omega⟩
    obtain rfl : j = P := by omega
    rw [zX3_allGrudges_L4, hP, if_pos (nI_le (Nat.le_refl _) (by omega))]
  | succ d ih =>
    intro j m hj hm
    obtain ⟨m, rfl⟩ : ∃ e, m = e + 1 := ⟨m - 1, by omega⟩
    rw [zX3_allGrudges_L4, hP, if_neg (by rw [le_nI (by omega) (by omega)]; omega), oob_no (by omega : j < 7) (by omega), tn_nI (by omega), nI_1, ← ih (j + 1) m (by omega) (by omega), bitc_eq (hI.2.2.2.2.2.1 j (by omega))]
    simp only [Bool.false_eq_true, if_false, letb, Option.bind_some]
    rfl
theorem allG {c u : MU} {r Y P : Nat} (hI : RInv c r Y P) (hM : MX c r u) : sm (u 64) 49 = sm (fun a => sm (fun b => gb c r a b) 7) P := by
  have hP7 := hI.1.2.2.1
  have h1 : sm (u 64) 49 = sm (fun a => sm (fun b => u 64 (7 * a + b)) 7) 7 := sm_rows (N := 7) 7
  have h2 : sm (fun a => sm (fun b => u 64 (7 * a + b)) 7) 7 = sm (fun a => sm (fun b => gb c r a b) 7) 7 := sm_cg 7 (fun a ha => sm_cg 7 (fun b hb => hM.2.2.2.2.2 a b ha hb))
  rw [h1, h2]
  have h3 := sm_z (f := fun a => sm (fun b => gb c r a b) 7) (a := P) (7 - P) (fun i g1 g2 => ?_)
  · rw [show P + (7 - P) = 7 by omega] at h3
    exact h3
  · have : sm (fun b => gb c r i b) 7 = sm (fun _ => 0) 7 := sm_cg 7 (fun b hb => (hI.2.2.2.2.2.2.1 i b (by omega) hb).2 (Or.inl g1))
    show sm (fun b => gb c r i b) 7 = 0
    rw [this]
    rfl
theorem op_count (n : Nat) (hn : 60 ≤ n) (a : Int32) : OPQ (fun c => zX4_count n c a) (fun u => zX5_count n u a) := by
  intro c u hI hM
  obtain ⟨⟨Y, P, hR⟩, hZ, iK, iT, iW⟩ := id hI
  have hX := hM.1
  have hP7 := hR.1.2.2.1
  have hY5 := hR.1.2.1
  obtain ⟨m1, w2, w3, w4, w5, w6, w7, w8, w9⟩ := id hM
  by_cases hin : 11 ≤ a ∧ a ≤ 16
  · have h0 : ¬ a < 11 := nlt_le.mpr hin.1
    have h1 : ¬ 16 < a := nlt_le.mpr hin.2
    have hz : zX5_isIn n u a 11 16 = some 1 := by unfold zX5_isIn; rw [if_neg h0, if_neg h1]
    obtain ⟨k, hk, rfl⟩ := btw_of (k := 16) (by omega) (by rw [fa_le'] at hin ⊢; have := hin.1; have e : (11 : Int32).toInt = 11 := by decide
                                                           have e0 : (0 : Int32).toInt = 0 := by decide
                                                           omega) hin.2
    have hk1 : 11 ≤ k := by
      have := hin.1
      rw [show (11 : Int32) = nI 11 from rfl, le_nI (by omega) (by omega)] at this
      exact this
    have e : nI k - 10 = nI (k - 10) := by
      have : k = 11 ∨ k = 12 ∨ k = 13 ∨ k = 14 ∨ k = 15 ∨ k = 16 := by omega
      rcases this with rfl | rfl | rfl | rfl | rfl | rfl <;> rfl
    have ne : ∀ j, j < 11 → ¬ nI k = nI j := fun j hj => by rw [eq_nI (by omega) (by omega)]; omega
    refine ⟨c 52 (k - 10), ?_, ?_⟩
    · show zX4_count n c (nI k) = _
      unfold zX4_count
      rw [if_neg (show ¬ nI k = 0 from ne 0 (by omega)), if_neg (show ¬ nI k = 1 from ne 1 (by omega)), if_neg (show ¬ nI k = 2 from ne 2 (by omega)), if_neg (show ¬ nI k = 3 from ne 3 (by omega)), if_neg (show ¬ nI k = 4 from ne 4 (by omega)), if_neg (show ¬ nI k = 5 from ne 5 (by omega)), if_neg (show ¬ nI k = 6 from ne 6 (by omega)), if_neg (show ¬ nI k = 7 from ne 7 (by omega)), if_neg (show ¬ nI k = 8 from ne 8 (by omega)), if_neg (show ¬ nI k = 9 from ne 9 (by omega)), if_neg h0, if_neg h1, e, oob_no (show k - 10 < 7 by omega) (by omega), tn_nI (by omega)]
      rfl
    · show zX5_count n u (nI k) = _
      unfold zX5_count
      rw [hz, Option.bind_some, if_neg (by decide), e, oob_no (show k - 10 < 7 by omega) (by omega), tn_nI (by omega), w3]
      rfl
  · have hz : zX5_isIn n u a 11 16 = some 0 := by
      unfold zX5_isIn
      by_cases h0 : a < 11
      · rw [if_pos h0]
      · rw [if_neg h0]
        by_cases h1 : 16 < a
        · rw [if_pos h1]
        · exact absurd ⟨nlt_le.mp h0, nlt_le.mp h1⟩ hin
    have hm : ∀ x, zX5_count n u a = x ↔ (if a = 0 then (some (u 53 12)) else if a = 1 then (some (u 53 13)) else if a = 2 then (some (u 53 14)) else if a = 3 then (some (u 53 15)) else if a = 4 then (Option.bind (zX5_wetMany n u) (fun q9 => some q9)) else if a = 5 then (Option.bind (zX5_overMany n u) (fun q12 => some q12)) else if a = 6 then (Option.bind (zX5_sumOf n u 64 49) (fun q15 => some (q15 / 2))) else if a = 7 then (Option.bind (zX5_sumOf n u 65 49) (fun q18 => some q18)) else if a = 8 then (some (u 53 20)) else if a = 9 then (some (u 53 34)) else (some (-9))) = x := fun x => by
      unfold zX5_count
      rw [hz, Option.bind_some, if_pos rfl]
    show ∃ v, zX4_count n c a = some v ∧ zX5_count n u a = some v
    unfold zX4_count
    by_cases a0 : a = 0
    · refine ⟨c 1 0, by rw [if_pos a0], (hm _).mpr (by rw [if_pos a0, m1.1.1])⟩
    by_cases a1 : a = 1
    · refine ⟨c 1 3, by rw [if_neg a0, if_pos a1], (hm _).mpr (by rw [if_neg a0, if_pos a1, m1.1.2.1])⟩
    by_cases a2 : a = 2
    · refine ⟨c 1 1, by rw [if_neg a0, if_neg a1, if_pos a2], (hm _).mpr (by rw [if_neg a0, if_neg a1, if_pos a2, m1.1.2.2.1])⟩
    by_cases a3 : a = 3
    · refine ⟨c 1 2, by rw [if_neg a0, if_neg a1, if_neg a2, if_pos a3], (hm _).mpr (by rw [if_neg a0, if_neg a1, if_neg a2, if_pos a3, m1.1.2.2.2])⟩
    by_cases a4 : a = 4
    · refine ⟨inW c 1 Y, by rw [if_neg a0, if_neg a1, if_neg a2, if_neg a3, if_pos a4, zX3_inWater_eq (r := 1) hR.1.2.2.2.1 hY5 (by omega), Option.bind_some], (hm _).mpr (by rw [if_neg a0, if_neg a1, if_neg a2, if_neg a3, if_pos a4, zX5_wetMany_eq (n := n) hR hX w2 (by omega), Option.bind_some])⟩
    by_cases a5 : a = 5
    · refine ⟨ovT c 1 P, by rw [if_neg a0, if_neg a1, if_neg a2, if_neg a3, if_neg a4, if_pos a5, zX3_overThere_eq (r := 1) hR.1.2.2.2.2.1 hP7 (by omega), Option.bind_some], (hm _).mpr (by rw [if_neg a0, if_neg a1, if_neg a2, if_neg a3, if_neg a4, if_pos a5, zX5_overMany_eq (n := n) hR hX (by omega), Option.bind_some])⟩
    by_cases a6 : a = 6
    · have z1 : zX3_allGrudges n c 1 = some (sm (fun a => sm (fun b => gb c 1 a b) 7) P / 2) := by
        unfold zX3_allGrudges
        exact zX3_allGrudges_L (n := n) (k := fun y6 y7 => some (y6 / 2)) hR P 0 n (by omega) (by omega)
      have z2 : zX5_sumOf n u 64 49 = some (sm (u 64) 49) := by
        unfold zX5_sumOf
        exact zX5_sumOf_L (n := n) (u := u) (q := 64) (k := fun y4 y5 => some y4) (show 49 < 1000 by omega) 49 0 n (by omega) (by omega)
      refine ⟨sm (fun a => sm (fun b => gb c 1 a b) 7) P / 2, by rw [if_neg a0, if_neg a1, if_neg a2, if_neg a3, if_neg a4, if_neg a5, if_pos a6, z1, Option.bind_some], (hm _).mpr (by rw [if_neg a0, if_neg a1, if_neg a2, if_neg a3, if_neg a4, if_neg a5, if_pos a6, z2, Option.bind_some, allG hR hX])⟩
    by_cases a7 : a = 7
    · have z1 : zX3_allHours n c 1 = some (sm (c 7) 49) := by
        unfold zX3_allHours
        exact zX3_allHours_L (n := n) (c := c) (r := 1) (k := fun y4 y5 => some y4) 49 0 n (by omega) (by omega)
      have z2 : zX5_sumOf n u 65 49 = some (sm (u 65) 49) := by
        unfold zX5_sumOf
        exact zX5_sumOf_L (n := n) (u := u) (q := 65) (k := fun y4 y5 => some y4) (show 49 < 1000 by omega) 49 0 n (by omega) (by omega)
      have e65 : u 65 = c 7 := hX.2.2.2.1
      refine ⟨sm (c 7) 49, by rw [if_neg a0, if_neg a1, if_neg a2, if_neg a3, if_neg a4, if_neg a5, if_neg a6, if_pos a7, z1, Option.bind_some], (hm _).mpr (by rw [if_neg a0, if_neg a1, if_neg a2, if_neg a3, if_neg a4, if_neg a5, if_neg a6, if_pos a7, z2, Option.bind_some, e65])⟩
    by_cases a8 : a = 8
    · refine ⟨c 43 1, by rw [if_neg a0, if_neg a1, if_neg a2, if_neg a3, if_neg a4, if_neg a5, if_neg a6, if_neg a7, if_pos a8], (hm _).mpr (by rw [if_neg a0, if_neg a1, if_neg a2, if_neg a3, if_neg a4, if_neg a5, if_neg a6, if_neg a7, if_pos a8, w5])⟩
    by_cases a9 : a = 9
    · refine ⟨c 0 7, by rw [if_neg a0, if_neg a1, if_neg a2, if_neg a3, if_neg a4, if_neg a5, if_neg a6, if_neg a7, if_neg a8, if_pos a9], (hm _).mpr (by rw [if_neg a0, if_neg a1, if_neg a2, if_neg a3, if_neg a4, if_neg a5, if_neg a6, if_neg a7, if_neg a8, if_pos a9, w7])⟩
    · refine ⟨-9, ?_, (hm _).mpr (by rw [if_neg a0, if_neg a1, if_neg a2, if_neg a3, if_neg a4, if_neg a5, if_neg a6, if_neg a7, if_neg a8, if_neg a9])⟩
      rw [if_neg a0, if_neg a1, if_neg a2, if_neg a3, if_neg a4, if_neg a5, if_neg a6, if_neg a7, if_neg a8, if_neg a9]
      by_cases h0 : a < 11
      · rw [if_pos h0]
      · rw [if_neg h0]
        by_cases h1 : 16 < a
        · rw [if_pos h1]
        · exact absurd ⟨nlt_le.mp h0, nlt_le.mp h1⟩ hin
