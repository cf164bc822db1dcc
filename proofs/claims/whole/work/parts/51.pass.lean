/-! ===== rows kept and put back ===== -/
theorem keep_L {n c1 N : Nat} {k : Int32 → MU → Option MU} (hN : N < 1000) (h70 : c1 ≠ 70) (h53 : c1 ≠ 53) :
    ∀ (d j m cur : Nat) (u : MU), j + d = N → d < m → u 53 25 = 1 → u 53 26 = nI cur → cur + d ≤ 340 →
      ∃ u', zX5_passes_L2 n c1 N k m (nI j) u = k (nI N) u' ∧ u' 53 26 = nI (cur + d) ∧ (∀ i, i < d → u' 70 (cur + i) = u c1 (j + i)) ∧ (∀ i, (i < cur ∨ cur + d ≤ i) → u' 70 i = u 70 i) ∧ (∀ q, q ≠ 53 → q ≠ 70 → u' q = u q) ∧ (∀ i, i ≠ 26 → u' 53 i = u 53 i) := by
  intro d
  induction d with
  | zero =>
    intro j m cur u hj hm h25 h26 hc
    obtain ⟨m, rfl⟩ : ∃ e, m = e + 1 := ⟨m - 1, by omega⟩
    obtain rfl : j = N := by omega
    refine ⟨u, ?_, h26, fun i hi => absurd hi (by omega), fun _ _ => rfl, fun _ _ _ => rfl, fun _ _ => rfl⟩
    rw [zX5_passes_L2]
    exact if_pos (nI_le (Nat.le_refl _) (by omega))
  | succ d ih =>
    intro j m cur u hj hm h25 h26 hc
    obtain ⟨m, rfl⟩ : ∃ e, m = e + 1 := ⟨m - 1, by omega⟩
    have a25 : up2 (up2 u 70 cur (u c1 j)) 53 26 (nI (cur + 1)) 53 25 = 1 := by rw [up2_i (by decide), up2_o (by decide)]; exact h25
    obtain ⟨u', r1, r2, r3, r4, r5, r6⟩ := ih (j + 1) m (cur + 1) (up2 (up2 u 70 cur (u c1 j)) 53 26 (nI (cur + 1))) (by omega) (by omega) a25 up2_s (by omega)
    refine ⟨u', ?_, by rw [r2]; congr 1; omega, fun i hi => ?_, fun i hi => ?_, fun q h1 h2 => ?_, fun i hi => ?_⟩
    · have hlt : ¬ Int32.ofNat N ≤ nI j := by
        show ¬ nI N ≤ nI j
        rw [le_nI (by omega) (by omega)]; omega
      rw [zX5_passes_L2, if_neg hlt, h25, if_neg (by decide), h26, oob_no (show j < N by omega) (by omega), oob_no (show cur < 340 by omega) (by omega), tn_nI (by omega), tn_nI (by omega), nI_1]
      simp only [Bool.false_eq_true, if_false, letb]
      rw [up2_o (show (53 : Nat) ≠ 70 by decide), h26, nI_1]
      exact r1
    · by_cases h0 : i = 0
      · subst h0
        rw [r4 (cur + 0) (Or.inl (by omega)), up2_o (by decide), Nat.add_zero, Nat.add_zero, up2_s]
      · obtain ⟨t, rfl⟩ : ∃ t, i = t + 1 := ⟨i - 1, by omega⟩
        have := r3 t (by omega)
        rw [show cur + (t + 1) = cur + 1 + t by omega, this, up2_o h53, up2_o h70]
        congr 1
        omega
    · rw [r4 i (by omega), up2_o (by decide), up2_i (by omega)]
    · rw [r5 q h1 h2, up2_o h1, up2_o h2]
    · rw [r6 i hi, up2_i hi, up2_o (by decide)]
theorem back_L {n c1 N : Nat} {k : Int32 → MU → Option MU} (hN : N < 1000) (h70 : c1 ≠ 70) (h53 : c1 ≠ 53) :
    ∀ (d j m cur : Nat) (u : MU), j + d = N → d < m → u 53 25 = 0 → u 53 26 = nI cur → cur + d ≤ 340 →
      ∃ u', zX5_passes_L2 n c1 N k m (nI j) u = k (nI N) u' ∧ u' 53 26 = nI (cur + d) ∧ (∀ i, i < d → u' c1 (j + i) = u 70 (cur + i)) ∧ (∀ i, (i < j ∨ j + d ≤ i) → u' c1 i = u c1 i) ∧ (∀ q, q ≠ 53 → q ≠ c1 → u' q = u q) ∧ (∀ i, i ≠ 26 → u' 53 i = u 53 i) := by
  intro d
  induction d with
  | zero =>
    intro j m cur u hj hm h25 h26 hc
    obtain ⟨m, rfl⟩ : ∃ e, m = e + 1 := ⟨m - 1, by omega⟩
    obtain rfl : j = N := by omega
    refine ⟨u, ?_, h26, fun i hi => absurd hi (by omega), fun _ _ => rfl, fun _ _ _ => rfl, fun _ _ => rfl⟩
    rw [zX5_passes_L2]
    exact if_pos (nI_le (Nat.le_refl _) (by omega))
  | succ d ih =>
    intro j m cur u hj hm h25 h26 hc
    obtain ⟨m, rfl⟩ : ∃ e, m = e + 1 := ⟨m - 1, by omega⟩
    have a25 : up2 (up2 u c1 j (u 70 cur)) 53 26 (nI (cur + 1)) 53 25 = 0 := by rw [up2_i (by decide), up2_o (Ne.symm h53)]; exact h25
    obtain ⟨u', r1, r2, r3, r4, r5, r6⟩ := ih (j + 1) m (cur + 1) (up2 (up2 u c1 j (u 70 cur)) 53 26 (nI (cur + 1))) (by omega) (by omega) a25 up2_s (by omega)
    refine ⟨u', ?_, by rw [r2]; congr 1; omega, fun i hi => ?_, fun i hi => ?_, fun q h1 h2 => ?_, fun i hi => ?_⟩
    · have hlt : ¬ Int32.ofNat N ≤ nI j := by
        show ¬ nI N ≤ nI j
        rw [le_nI (by omega) (by omega)]; omega
      rw [zX5_passes_L2, if_neg hlt, h25, if_pos rfl, h26, oob_no (show j < N by omega) (by omega), oob_no (show cur < 340 by omega) (by omega), tn_nI (by omega), tn_nI (by omega), nI_1]
      simp only [Bool.false_eq_true, if_false, letb]
      rw [up2_o (Ne.symm h53), h26, nI_1]
      exact r1
    · by_cases h0 : i = 0
      · subst h0
        rw [r4 (j + 0) (Or.inl (by omega)), up2_o h53, Nat.add_zero, Nat.add_zero, up2_s]
      · obtain ⟨t, rfl⟩ : ∃ t, i = t + 1 := ⟨i - 1, by omega⟩
        have := r3 t (by omega)
        rw [show j + (t + 1) = j + 1 + t by omega, this, up2_o (by decide), up2_o (Ne.symm h70)]
        congr 1
        omega
    · rw [r4 i (by omega), up2_o h53, up2_i (by omega)]
    · rw [r5 q h1 h2, up2_o h1, up2_o h2]
    · rw [r6 i hi, up2_i hi, up2_o (Ne.symm h53)]
/-- a row kept -/
theorem zX5_passes_keep {n c1 N cur : Nat} {u : MU} (hN : N ≤ 49) (h70 : c1 ≠ 70) (h53 : c1 ≠ 53) (h25 : u 53 25 = 1) (h26 : u 53 26 = nI cur) (hc : cur + N ≤ 340) (hn : 60 ≤ n) :
    ∃ u', zX5_passes n u c1 N = some u' ∧ u' 53 26 = nI (cur + N) ∧ (∀ i, i < N → u' 70 (cur + i) = u c1 i) ∧ (∀ i, (i < cur ∨ cur + N ≤ i) → u' 70 i = u 70 i) ∧ (∀ q, q ≠ 53 → q ≠ 70 → u' q = u q) ∧ (∀ i, i ≠ 26 → u' 53 i = u 53 i) := by
  obtain ⟨u', r1, r2, r3, r4, r5, r6⟩ := keep_L (n := n) (k := fun y11 w12 => some w12) (show N < 1000 by omega) h70 h53 N 0 n cur u (by omega) (by omega) h25 h26 hc
  rw [nI_0] at r1
  exact ⟨u', r1, r2, fun i hi => by rw [r3 i hi, Nat.zero_add], r4, r5, r6⟩
/-- a row put back -/
theorem zX5_passes_back {n c1 N cur : Nat} {u : MU} (hN : N ≤ 49) (h70 : c1 ≠ 70) (h53 : c1 ≠ 53) (h25 : u 53 25 = 0) (h26 : u 53 26 = nI cur) (hc : cur + N ≤ 340) (hn : 60 ≤ n) :
    ∃ u', zX5_passes n u c1 N = some u' ∧ u' 53 26 = nI (cur + N) ∧ (∀ i, u' c1 i = if i < N then u 70 (cur + i) else u c1 i) ∧ (∀ q, q ≠ 53 → q ≠ c1 → u' q = u q) ∧ (∀ i, i ≠ 26 → u' 53 i = u 53 i) := by
  obtain ⟨u', r1, r2, r3, r4, r5, r6⟩ := back_L (n := n) (k := fun y11 w12 => some w12) (show N < 1000 by omega) h70 h53 N 0 n cur u (by omega) (by omega) h25 h26 hc
  rw [nI_0] at r1
  refine ⟨u', r1, r2, fun i => ?_, r5, r6⟩
  by_cases h : i < N
  · rw [if_pos h]
    have := r3 i h
    rwa [Nat.zero_add] at this
  · rw [if_neg h]
    exact r4 i (Or.inr (by omega))
theorem zX5_passOne_keep {n cur : Nat} {u : MU} {v : Int32} (h25 : u 53 25 = 1) (h26 : u 53 26 = nI cur) (hc : cur < 340) : zX5_passOne n u v = some (v, up2 (up2 u 70 cur v) 53 26 (nI (cur + 1))) := by
  unfold zX5_passOne
  rw [h25, if_neg (by decide), if_neg (by decide), h26, oob_no hc (by omega), tn_nI (by omega)]
  simp only [Bool.false_eq_true, if_false, letb]
  rw [up2_o (show (53 : Nat) ≠ 70 by decide), h26, nI_1]
theorem zX5_passOne_back {n cur : Nat} {u : MU} {v : Int32} (h25 : u 53 25 = 0) (h26 : u 53 26 = nI cur) (hc : cur < 340) : zX5_passOne n u v = some (u 70 cur, up2 u 53 26 (nI (cur + 1))) := by
  unfold zX5_passOne
  rw [h25, if_pos rfl, h26, oob_no hc (by omega), tn_nI (by omega), nI_1]
  simp only [Bool.false_eq_true, if_false, letb, if_true]
