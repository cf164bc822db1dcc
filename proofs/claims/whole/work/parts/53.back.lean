/-! ===== all that an image holds, put back ===== -/
def BS (u q : MU) (cur : Nat) (rows : List (Nat × Nat × Nat)) (ones : List (Nat × Nat)) : Prop :=
  q 53 25 = 0 ∧ q 53 26 = nI cur ∧ (∀ k, k ≠ 53 → (∀ r ∈ rows, r.1 ≠ k) → q k = u k) ∧ (∀ i, i ≠ 25 → i ≠ 26 → (∀ e ∈ ones, e.1 ≠ i) → q 53 i = u 53 i) ∧ (∀ r ∈ rows, r.1 ≠ 53 ∧ r.1 ≠ 70 ∧ ∀ i, q r.1 i = if i < r.2.1 then u 70 (r.2.2 + i) else u r.1 i) ∧ (∀ e ∈ ones, e.1 ≠ 25 ∧ e.1 ≠ 26 ∧ q 53 e.1 = u 70 e.2)
theorem BS_70 {u q : MU} {cur : Nat} {rows : List (Nat × Nat × Nat)} {ones : List (Nat × Nat)} (h : BS u q cur rows ones) : q 70 = u 70 := h.2.2.1 70 (by decide) (fun r hr => (h.2.2.2.2.1 r hr).2.1)
theorem BS_row {n : Nat} {u q : MU} {cur c1 N : Nat} {rows : List (Nat × Nat × Nat)} {ones : List (Nat × Nat)} (h : BS u q cur rows ones) (hN : N ≤ 49) (h70 : c1 ≠ 70) (h53 : c1 ≠ 53) (hx : ∀ r ∈ rows, r.1 ≠ c1) (hc : cur + N ≤ 340) (hn : 60 ≤ n) : ∃ q', zX5_passes n q c1 N = some q' ∧ BS u q' (cur + N) ((c1, N, cur) :: rows) ones := by
  have e70 := BS_70 h
  obtain ⟨h1, h2, h3, h4, h5, h6⟩ := h
  obtain ⟨q', r1, r2, r3, r5, r6⟩ := zX5_passes_back (n := n) hN h70 h53 h1 h2 hc hn
  refine ⟨q', r1, by rw [r6 25 (by decide)]; exact h1, r2, fun k g1 g2 => ?_, fun i g1 g2 g3 => by rw [r6 i g2]; exact h4 i g1 g2 g3, fun r hr => ?_, fun e he => ?_⟩
  · have hk : k ≠ c1 := fun z => g2 (c1, N, cur) List.mem_cons_self z.symm
    rw [r5 k g1 hk]
    exact h3 k g1 (fun r hr => g2 r (List.mem_cons_of_mem _ hr))
  · rcases List.mem_cons.mp hr with e | hr
    · subst e
      refine ⟨h53, h70, fun i => ?_⟩
      show q' c1 i = if i < N then u 70 (cur + i) else u c1 i
      rw [r3 i, e70, h3 c1 h53 hx]
    · obtain ⟨g1, g2, g3⟩ := h5 r hr
      exact ⟨g1, g2, fun i => by rw [r5 r.1 g1 (hx r hr)]; exact g3 i⟩
  · obtain ⟨g1, g2, g3⟩ := h6 e he
    exact ⟨g1, g2, by rw [r6 e.1 g2]; exact g3⟩
theorem BS_one {n : Nat} {u q : MU} {cur j : Nat} {v : Int32} {rows : List (Nat × Nat × Nat)} {ones : List (Nat × Nat)} (h : BS u q cur rows ones) (hj : j ≠ 25) (hj2 : j ≠ 26) (hx : ∀ e ∈ ones, e.1 ≠ j) (hc : cur < 340) : zX5_passOne n q v = some (u 70 cur, up2 q 53 26 (nI (cur + 1))) ∧ BS u (up2 (up2 q 53 26 (nI (cur + 1))) 53 j (u 70 cur)) (cur + 1) rows ((j, cur) :: ones) := by
  have e70 := BS_70 h
  obtain ⟨h1, h2, h3, h4, h5, h6⟩ := h
  refine ⟨by rw [← e70]; exact zX5_passOne_back h1 h2 hc, by rw [up2_i (Ne.symm hj), up2_i (by decide)]; exact h1, by rw [up2_i (Ne.symm hj2), up2_s], fun k g1 g2 => by rw [up2_o g1, up2_o g1]; exact h3 k g1 g2, fun i g1 g2 g3 => ?_, fun r hr => ?_, fun e he => ?_⟩
  · have hi : i ≠ j := fun z => g3 (j, cur) List.mem_cons_self z.symm
    rw [up2_i hi, up2_i g2]
    exact h4 i g1 g2 (fun e he => g3 e (List.mem_cons_of_mem _ he))
  · obtain ⟨g1, g2, g3⟩ := h5 r hr
    exact ⟨g1, g2, fun i => by rw [up2_o g1, up2_o g1]; exact g3 i⟩
  · rcases List.mem_cons.mp he with q1 | he
    · subst q1
      exact ⟨hj, hj2, up2_s⟩
    · obtain ⟨g1, g2, g3⟩ := h6 e he
      exact ⟨g1, g2, by rw [up2_i (hx e he), up2_i g2]; exact g3⟩
set_option maxHeartbeats 4000000 in
theorem zX5_passesAll_back {n w : Nat} {u : MU} (hw : w < 2) (hn : 60 ≤ n) : ∃ u', zX5_passesAll n u (nI w) 0 = some u' ∧ BS u u' (170 * w + 159) [(65, 49, 170 * w + 5 + 5 + 5 + 7 + 7 + 7 + 7 + 7 + 7 + 49), (64, 49, 170 * w + 5 + 5 + 5 + 7 + 7 + 7 + 7 + 7 + 7), (63, 7, 170 * w + 5 + 5 + 5 + 7 + 7 + 7 + 7 + 7), (62, 7, 170 * w + 5 + 5 + 5 + 7 + 7 + 7 + 7), (61, 7, 170 * w + 5 + 5 + 5 + 7 + 7 + 7), (60, 7, 170 * w + 5 + 5 + 5 + 7 + 7), (59, 7, 170 * w + 5 + 5 + 5 + 7), (58, 7, 170 * w + 5 + 5 + 5), (57, 5, 170 * w + 5 + 5), (56, 5, 170 * w + 5), (55, 5, 170 * w)] [(15, 170 * w + 5 + 5 + 5 + 7 + 7 + 7 + 7 + 7 + 7 + 49 + 49 + 1 + 1 + 1), (14, 170 * w + 5 + 5 + 5 + 7 + 7 + 7 + 7 + 7 + 7 + 49 + 49 + 1 + 1), (13, 170 * w + 5 + 5 + 5 + 7 + 7 + 7 + 7 + 7 + 7 + 49 + 49 + 1), (12, 170 * w + 5 + 5 + 5 + 7 + 7 + 7 + 7 + 7 + 7 + 49 + 49)] := by
  have e0 : (170 : Int32) * nI w = nI (170 * w) := by rw [show (170 : Int32) = nI 170 from rfl, pk_mul]
  have k0 : BS u (up2 (up2 u 53 26 (nI (170 * w))) 53 25 0) (170 * w) [] [] := ⟨up2_s, by rw [up2_i (by decide), up2_s], fun k g1 _ => by rw [up2_o g1, up2_o g1], fun i g1 g2 _ => by rw [up2_i g1, up2_i g2], fun r hr => absurd hr List.not_mem_nil, fun r hr => absurd hr List.not_mem_nil⟩
  obtain ⟨q1, e1, k1⟩ := BS_row (n := n) (c1 := 55) (N := 5) k0 (by omega) (by decide) (by decide) (by simp) (by omega) hn
  obtain ⟨q2, e2, k2⟩ := BS_row (n := n) (c1 := 56) (N := 5) k1 (by omega) (by decide) (by decide) (by simp) (by omega) hn
  obtain ⟨q3, e3, k3⟩ := BS_row (n := n) (c1 := 57) (N := 5) k2 (by omega) (by decide) (by decide) (by simp) (by omega) hn
  obtain ⟨q4, e4, k4⟩ := BS_row (n := n) (c1 := 58) (N := 7) k3 (by omega) (by decide) (by decide) (by simp) (by omega) hn
  obtain ⟨q5, e5, k5⟩ := BS_row (n := n) (c1 := 59) (N := 7) k4 (by omega) (by decide) (by decide) (by simp) (by omega) hn
  obtain ⟨q6, e6, k6⟩ := BS_row (n := n) (c1 := 60) (N := 7) k5 (by omega) (by decide) (by decide) (by simp) (by omega) hn
  obtain ⟨q7, e7, k7⟩ := BS_row (n := n) (c1 := 61) (N := 7) k6 (by omega) (by decide) (by decide) (by simp) (by omega) hn
  obtain ⟨q8, e8, k8⟩ := BS_row (n := n) (c1 := 62) (N := 7) k7 (by omega) (by decide) (by decide) (by simp) (by omega) hn
  obtain ⟨q9, e9, k9⟩ := BS_row (n := n) (c1 := 63) (N := 7) k8 (by omega) (by decide) (by decide) (by simp) (by omega) hn
  obtain ⟨q10, e10, k10⟩ := BS_row (n := n) (c1 := 64) (N := 49) k9 (by omega) (by decide) (by decide) (by simp) (by omega) hn
  obtain ⟨q11, e11, k11⟩ := BS_row (n := n) (c1 := 65) (N := 49) k10 (by omega) (by decide) (by decide) (by simp) (by omega) hn
  have b0 := BS_one (n := n) (j := 12) (v := (q11) 53 12) k11 (by decide) (by decide) (by simp) (by omega)
  have b1 := BS_one (n := n) (j := 13) (v := (up2 (up2 (q11) 53 26 (nI (170 * w + 5 + 5 + 5 + 7 + 7 + 7 + 7 + 7 + 7 + 49 + 49 + 1))) 53 12 (u 70 (170 * w + 5 + 5 + 5 + 7 + 7 + 7 + 7 + 7 + 7 + 49 + 49))) 53 13) b0.2 (by decide) (by decide) (by simp) (by omega)
  have b2 := BS_one (n := n) (j := 14) (v := (up2 (up2 (up2 (up2 (q11) 53 26 (nI (170 * w + 5 + 5 + 5 + 7 + 7 + 7 + 7 + 7 + 7 + 49 + 49 + 1))) 53 12 (u 70 (170 * w + 5 + 5 + 5 + 7 + 7 + 7 + 7 + 7 + 7 + 49 + 49))) 53 26 (nI (170 * w + 5 + 5 + 5 + 7 + 7 + 7 + 7 + 7 + 7 + 49 + 49 + 1 + 1))) 53 13 (u 70 (170 * w + 5 + 5 + 5 + 7 + 7 + 7 + 7 + 7 + 7 + 49 + 49 + 1))) 53 14) b1.2 (by decide) (by decide) (by simp) (by omega)
  have b3 := BS_one (n := n) (j := 15) (v := (up2 (up2 (up2 (up2 (up2 (up2 (q11) 53 26 (nI (170 * w + 5 + 5 + 5 + 7 + 7 + 7 + 7 + 7 + 7 + 49 + 49 + 1))) 53 12 (u 70 (170 * w + 5 + 5 + 5 + 7 + 7 + 7 + 7 + 7 + 7 + 49 + 49))) 53 26 (nI (170 * w + 5 + 5 + 5 + 7 + 7 + 7 + 7 + 7 + 7 + 49 + 49 + 1 + 1))) 53 13 (u 70 (170 * w + 5 + 5 + 5 + 7 + 7 + 7 + 7 + 7 + 7 + 49 + 49 + 1))) 53 26 (nI (170 * w + 5 + 5 + 5 + 7 + 7 + 7 + 7 + 7 + 7 + 49 + 49 + 1 + 1 + 1))) 53 14 (u 70 (170 * w + 5 + 5 + 5 + 7 + 7 + 7 + 7 + 7 + 7 + 49 + 49 + 1 + 1))) 53 15) b2.2 (by decide) (by decide) (by simp) (by omega)
  refine ⟨_, ?_, b3.2⟩
  unfold zX5_passesAll
  rw [e0]
  simp only [letb]
  rw [if_pos (Or.inl trivial), e1, Option.bind_some, e2, Option.bind_some, e3, Option.bind_some, e4, Option.bind_some, e5, Option.bind_some, e6, Option.bind_some, e7, Option.bind_some, e8, Option.bind_some, e9, Option.bind_some, e10, Option.bind_some, e11, Option.bind_some, b0.1, Option.bind_some, b1.1, Option.bind_some, b2.1, Option.bind_some, b3.1, Option.bind_some]
