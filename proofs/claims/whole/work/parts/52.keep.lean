/-! ===== all that an image holds, kept ===== -/
def KS (u q : MU) (base cur : Nat) (rows : List (Nat × Nat × Nat)) : Prop :=
  q 53 25 = 1 ∧ q 53 26 = nI cur ∧ (∀ k, k ≠ 53 → k ≠ 70 → q k = u k) ∧ (∀ i, i ≠ 25 → i ≠ 26 → q 53 i = u 53 i) ∧ (∀ r ∈ rows, base ≤ r.2.2 ∧ r.2.2 + r.2.1 ≤ cur ∧ ∀ i, i < r.2.1 → q 70 (r.2.2 + i) = u r.1 i) ∧ (∀ i, (i < base ∨ cur ≤ i) → q 70 i = u 70 i) ∧ base ≤ cur
theorem KS_row {n : Nat} {u q : MU} {base cur c1 N : Nat} {rows : List (Nat × Nat × Nat)} (h : KS u q base cur rows) (hN : N ≤ 49) (h70 : c1 ≠ 70) (h53 : c1 ≠ 53) (hc : cur + N ≤ 340) (hn : 60 ≤ n) : ∃ q', zX5_passes n q c1 N = some q' ∧ KS u q' base (cur + N) ((c1, N, cur) :: rows) := by
  obtain ⟨h1, h2, h3, h4, h5, h6, h7⟩ := h
  obtain ⟨q', r1, r2, r3, r4, r5, r6⟩ := zX5_passes_keep (n := n) hN h70 h53 h1 h2 hc hn
  refine ⟨q', r1, by rw [r6 25 (by decide)]; exact h1, r2, fun k g1 g2 => by rw [r5 k g1 g2]; exact h3 k g1 g2, fun i g1 g2 => by rw [r6 i g2]; exact h4 i g1 g2, fun r hr => ?_, fun i hi => ?_, by omega⟩
  · rcases List.mem_cons.mp hr with e | hr
    · subst e
      refine ⟨h7, Nat.le_refl _, fun i hi => ?_⟩
      show q' 70 (cur + i) = u c1 i
      rw [r3 i hi, h3 c1 h53 h70]
    · obtain ⟨g1, g2, g3⟩ := h5 r hr
      refine ⟨g1, by omega, fun i hi => ?_⟩
      rw [r4 _ (Or.inl (by omega))]
      exact g3 i hi
  · rw [r4 i (by omega)]
    exact h6 i (by omega)
/-- one number kept: j is its slot -/
def KO (u q : MU) (base cur : Nat) (rows : List (Nat × Nat × Nat)) (ones : List (Nat × Nat)) : Prop :=
  KS u q base cur rows ∧ ∀ e ∈ ones, base ≤ e.2 ∧ e.2 < cur ∧ q 70 e.2 = u 53 e.1
theorem KO_one {n : Nat} {u q : MU} {base cur j : Nat} {rows : List (Nat × Nat × Nat)} {ones : List (Nat × Nat)} (h : KO u q base cur rows ones) (hj : j ≠ 25) (hj2 : j ≠ 26) (hc : cur < 340) : zX5_passOne n q (q 53 j) = some (q 53 j, up2 (up2 q 70 cur (q 53 j)) 53 26 (nI (cur + 1))) ∧ KO u (up2 (up2 (up2 q 70 cur (q 53 j)) 53 26 (nI (cur + 1))) 53 j (q 53 j)) base (cur + 1) rows ((j, cur) :: ones) := by
  obtain ⟨⟨h1, h2, h3, h4, h5, h6, h7⟩, ho⟩ := h
  refine ⟨zX5_passOne_keep h1 h2 hc, ⟨?_, ?_, fun k g1 g2 => ?_, fun i g1 g2 => ?_, fun r hr => ?_, fun i hi => ?_, by omega⟩, fun e he => ?_⟩
  · rw [up2_i (Ne.symm hj), up2_i (by decide), up2_o (by decide)]; exact h1
  · rw [up2_i (Ne.symm hj2), up2_s]
  · rw [up2_o g1, up2_o g1, up2_o g2]; exact h3 k g1 g2
  · by_cases e : i = j
    · subst e; rw [up2_s]; exact h4 i g1 g2
    · rw [up2_i e, up2_i g2, up2_o (by decide)]; exact h4 i g1 g2
  · obtain ⟨g1, g2, g3⟩ := h5 r hr
    refine ⟨g1, by omega, fun i hi => ?_⟩
    rw [up2_o (by decide), up2_o (by decide), up2_i (by omega)]
    exact g3 i hi
  · rw [up2_o (by decide), up2_o (by decide), up2_i (by omega)]
    exact h6 i (by omega)
  · rcases List.mem_cons.mp he with q1 | he
    · subst q1
      refine ⟨h7, by show cur < cur + 1; omega, ?_⟩
      show up2 (up2 (up2 q 70 cur (q 53 j)) 53 26 (nI (cur + 1))) 53 j (q 53 j) 70 cur = u 53 j
      rw [up2_o (by decide), up2_o (by decide), up2_s]
      exact h4 j hj hj2
    · obtain ⟨g1, g2, g3⟩ := ho e he
      refine ⟨g1, by omega, ?_⟩
      rw [up2_o (by decide), up2_o (by decide), up2_i (by omega)]
      exact g3
set_option maxHeartbeats 4000000 in
theorem zX5_passesAll_keep {n w : Nat} {u : MU} (hw : w < 2) (hn : 60 ≤ n) : ∃ u', zX5_passesAll n u (nI w) 1 = some u' ∧ KO u u' (170 * w) (170 * w + 159) [(65, 49, 170 * w + 5 + 5 + 5 + 7 + 7 + 7 + 7 + 7 + 7 + 49), (64, 49, 170 * w + 5 + 5 + 5 + 7 + 7 + 7 + 7 + 7 + 7), (63, 7, 170 * w + 5 + 5 + 5 + 7 + 7 + 7 + 7 + 7), (62, 7, 170 * w + 5 + 5 + 5 + 7 + 7 + 7 + 7), (61, 7, 170 * w + 5 + 5 + 5 + 7 + 7 + 7), (60, 7, 170 * w + 5 + 5 + 5 + 7 + 7), (59, 7, 170 * w + 5 + 5 + 5 + 7), (58, 7, 170 * w + 5 + 5 + 5), (57, 5, 170 * w + 5 + 5), (56, 5, 170 * w + 5), (55, 5, 170 * w)] [(15, 170 * w + 155 + 1 + 1 + 1), (14, 170 * w + 155 + 1 + 1), (13, 170 * w + 155 + 1), (12, 170 * w + 155)] := by
  have e0 : (170 : Int32) * nI w = nI (170 * w) := by rw [show (170 : Int32) = nI 170 from rfl, pk_mul]
  have k0 : KS u (up2 (up2 u 53 26 (nI (170 * w))) 53 25 1) (170 * w) (170 * w) [] := ⟨up2_s, by rw [up2_i (by decide), up2_s], fun k g1 g2 => by rw [up2_o g1, up2_o g1], fun i g1 g2 => by rw [up2_i g1, up2_i g2], fun r hr => absurd hr List.not_mem_nil, fun i _ => by rw [up2_o (by decide), up2_o (by decide)], Nat.le_refl _⟩
  obtain ⟨q1, e1, k1⟩ := KS_row (n := n) (c1 := 55) (N := 5) k0 (by omega) (by decide) (by decide) (by omega) hn
  obtain ⟨q2, e2, k2⟩ := KS_row (n := n) (c1 := 56) (N := 5) k1 (by omega) (by decide) (by decide) (by omega) hn
  obtain ⟨q3, e3, k3⟩ := KS_row (n := n) (c1 := 57) (N := 5) k2 (by omega) (by decide) (by decide) (by omega) hn
  obtain ⟨q4, e4, k4⟩ := KS_row (n := n) (c1 := 58) (N := 7) k3 (by omega) (by decide) (by decide) (by omega) hn
  obtain ⟨q5, e5, k5⟩ := KS_row (n := n) (c1 := 59) (N := 7) k4 (by omega) (by decide) (by decide) (by omega) hn
  obtain ⟨q6, e6, k6⟩ := KS_row (n := n) (c1 := 60) (N := 7) k5 (by omega) (by decide) (by decide) (by omega) hn
  obtain ⟨q7, e7, k7⟩ := KS_row (n := n) (c1 := 61) (N := 7) k6 (by omega) (by decide) (by decide) (by omega) hn
  obtain ⟨q8, e8, k8⟩ := KS_row (n := n) (c1 := 62) (N := 7) k7 (by omega) (by decide) (by decide) (by omega) hn
  obtain ⟨q9, e9, k9⟩ := KS_row (n := n) (c1 := 63) (N := 7) k8 (by omega) (by decide) (by decide) (by omega) hn
  obtain ⟨q10, e10, k10⟩ := KS_row (n := n) (c1 := 64) (N := 49) k9 (by omega) (by decide) (by decide) (by omega) hn
  obtain ⟨q11, e11, k11⟩ := KS_row (n := n) (c1 := 65) (N := 49) k10 (by omega) (by decide) (by decide) (by omega) hn
  have o0 : KO u q11 (170 * w) (170 * w + 155) [(65, 49, 170 * w + 5 + 5 + 5 + 7 + 7 + 7 + 7 + 7 + 7 + 49), (64, 49, 170 * w + 5 + 5 + 5 + 7 + 7 + 7 + 7 + 7 + 7), (63, 7, 170 * w + 5 + 5 + 5 + 7 + 7 + 7 + 7 + 7), (62, 7, 170 * w + 5 + 5 + 5 + 7 + 7 + 7 + 7), (61, 7, 170 * w + 5 + 5 + 5 + 7 + 7 + 7), (60, 7, 170 * w + 5 + 5 + 5 + 7 + 7), (59, 7, 170 * w + 5 + 5 + 5 + 7), (58, 7, 170 * w + 5 + 5 + 5), (57, 5, 170 * w + 5 + 5), (56, 5, 170 * w + 5), (55, 5, 170 * w)] [] := ⟨k11, fun e he => absurd he List.not_mem_nil⟩
  obtain ⟨f0, o1⟩ := KO_one (n := n) (j := 12) o0 (by decide) (by decide) (by omega)
  obtain ⟨f1, o2⟩ := KO_one (n := n) (j := 13) o1 (by decide) (by decide) (by omega)
  obtain ⟨f2, o3⟩ := KO_one (n := n) (j := 14) o2 (by decide) (by decide) (by omega)
  obtain ⟨f3, o4⟩ := KO_one (n := n) (j := 15) o3 (by decide) (by decide) (by omega)
  refine ⟨_, ?_, o4⟩
  unfold zX5_passesAll
  rw [e0]
  simp only [letb]
  rw [if_pos (Or.inr trivial), e1, Option.bind_some, e2, Option.bind_some, e3, Option.bind_some, e4, Option.bind_some, e5, Option.bind_some, e6, Option.bind_some, e7, Option.bind_some, e8, Option.bind_some, e9, Option.bind_some, e10, Option.bind_some, e11, Option.bind_some, f0, Option.bind_some, f1, Option.bind_some, f2, Option.bind_some, f3, Option.bind_some]
