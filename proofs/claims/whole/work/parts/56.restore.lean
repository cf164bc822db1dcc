/-! ===== restore ===== -/
theorem zX5_passesAll_b0 {n : Nat} {u : MU} (hn : 60 ≤ n) : ∃ u', zX5_passesAll n u 0 0 = some u' ∧
    (∀ k, k ≠ 53 → (k < 55 ∨ 65 < k) → u' k = u k) ∧ (∀ i, i ≠ 25 → i ≠ 26 → (i < 12 ∨ 15 < i) → u' 53 i = u 53 i) ∧
    (∀ i, u' 55 i = if i < 5 then u 70 i else u 55 i) ∧ (∀ i, u' 56 i = if i < 5 then u 70 (5 + i) else u 56 i) ∧ (∀ i, u' 57 i = if i < 5 then u 70 (10 + i) else u 57 i) ∧
    (∀ i, u' 58 i = if i < 7 then u 70 (15 + i) else u 58 i) ∧ (∀ i, u' 59 i = if i < 7 then u 70 (22 + i) else u 59 i) ∧ (∀ i, u' 60 i = if i < 7 then u 70 (29 + i) else u 60 i) ∧ (∀ i, u' 61 i = if i < 7 then u 70 (36 + i) else u 61 i) ∧ (∀ i, u' 62 i = if i < 7 then u 70 (43 + i) else u 62 i) ∧ (∀ i, u' 63 i = if i < 7 then u 70 (50 + i) else u 63 i) ∧
    (∀ i, u' 64 i = if i < 49 then u 70 (57 + i) else u 64 i) ∧ (∀ i, u' 65 i = if i < 49 then u 70 (106 + i) else u 65 i) ∧
    u' 53 12 = u 70 155 ∧ u' 53 13 = u 70 156 ∧ u' 53 14 = u 70 157 ∧ u' 53 15 = u 70 158 := by
  obtain ⟨u', g1, g2, g3, g4, g5, g6, g7⟩ := zX5_passesAll_back (n := n) (w := 0) (u := u) (by omega) hn
  refine ⟨u', g1, fun k h1 h2 => g4 k h1 (by simp; omega), fun i h1 h2 h3 => g5 i h1 h2 (by simp; omega), fun i => ?_, fun i => ?_, fun i => ?_, fun i => ?_, fun i => ?_, fun i => ?_, fun i => ?_, fun i => ?_, fun i => ?_, fun i => ?_, fun i => ?_, ?_, ?_, ?_, ?_⟩
  · have := (g6 (55, 5, 170 * 0) (by simp)).2.2 i
    rwa [show (55, 5, 170 * 0).2.2 + i = i by simp] at this
  · exact (g6 (56, 5, 170 * 0 + 5) (by simp)).2.2 i
  · exact (g6 (57, 5, 170 * 0 + 5 + 5) (by simp)).2.2 i
  · exact (g6 (58, 7, 170 * 0 + 5 + 5 + 5) (by simp)).2.2 i
  · exact (g6 (59, 7, 170 * 0 + 5 + 5 + 5 + 7) (by simp)).2.2 i
  · exact (g6 (60, 7, 170 * 0 + 5 + 5 + 5 + 7 + 7) (by simp)).2.2 i
  · exact (g6 (61, 7, 170 * 0 + 5 + 5 + 5 + 7 + 7 + 7) (by simp)).2.2 i
  · exact (g6 (62, 7, 170 * 0 + 5 + 5 + 5 + 7 + 7 + 7 + 7) (by simp)).2.2 i
  · exact (g6 (63, 7, 170 * 0 + 5 + 5 + 5 + 7 + 7 + 7 + 7 + 7) (by simp)).2.2 i
  · exact (g6 (64, 49, 170 * 0 + 5 + 5 + 5 + 7 + 7 + 7 + 7 + 7 + 7) (by simp)).2.2 i
  · exact (g6 (65, 49, 170 * 0 + 5 + 5 + 5 + 7 + 7 + 7 + 7 + 7 + 7 + 49) (by simp)).2.2 i
  · exact (g7 (12, 170 * 0 + 5 + 5 + 5 + 7 + 7 + 7 + 7 + 7 + 7 + 49 + 49) (by simp)).2.2
  · exact (g7 (13, 170 * 0 + 5 + 5 + 5 + 7 + 7 + 7 + 7 + 7 + 7 + 49 + 49 + 1) (by simp)).2.2
  · exact (g7 (14, 170 * 0 + 5 + 5 + 5 + 7 + 7 + 7 + 7 + 7 + 7 + 49 + 49 + 1 + 1) (by simp)).2.2
  · exact (g7 (15, 170 * 0 + 5 + 5 + 5 + 7 + 7 + 7 + 7 + 7 + 7 + 49 + 49 + 1 + 1 + 1) (by simp)).2.2
set_option maxHeartbeats 1000000 in
theorem op_restore (n : Nat) (hn : 60 ≤ n) : OPT (fun c => zX4_restore n c) (fun u => zX5_restore n u) := by
  intro c u hI hM
  obtain ⟨⟨Y, P, hR⟩, hZ, iK, iT, iW⟩ := id hI
  have e24 : u 53 24 = c 0 3 := hM.2.2.2.2.2.2.2.1
  rcases iK with e | ⟨e, ⟨Y2, P2, i2⟩, z⟩
  · refine opt_ref 3 (by decide) (n := n) hI hM ?_ ?_
    · show zX4_restore n c = _
      unfold zX4_restore
      rw [if_pos e]
      rfl
    · show zX5_restore n u = _
      unfold zX5_restore
      rw [e24, if_pos e]
      rfl
  · have hK := hM.2.2.2.2.2.2.2.2 e
    have ne : ¬ (c 0 3 = 0) := by rw [e]; decide
    obtain ⟨c1, f1, f2⟩ := zX3_copyFrom_eq (n := n) (r := 1) (r1 := 29) (u := c) (by omega) (fun q hq => (i2.2.2.2.2.1 q hq).2.2.2.2.2) (by omega)
    obtain ⟨u', g0, gk, g53, g55, g56, g57, g58, g59, g60, g61, g62, g63, g64, g65, s12, s13, s14, s15⟩ := zX5_passesAll_b0 (n := n) (u := u) hn
    obtain ⟨k1, k2, k3, k4⟩ := hK
    have hi : ∀ a, 15 ≤ a → c1 a = c a := fun a ha => by
      funext b; rw [f2, if_neg (fun z => inRv_hi (by omega) z.2)]
    have lo : c1 0 = c 0 := by
      funext b; rw [f2, if_neg (by omega)]
    have cp : ∀ f b, inRv f b = true → c1 (1 + f) b = c (29 + f) b := fun f b hf => by
      rw [f2, Nat.add_sub_cancel_left, if_pos ⟨by omega, hf⟩]
    have cn : ∀ f b, ¬ inRv f b = true → c1 (1 + f) b = c (1 + f) b := fun f b hf => by
      rw [f2, Nat.add_sub_cancel_left, if_neg (fun z => hf z.2)]
    have c12 : c1 1 2 = c 29 2 := cp 0 2 (by decide)
    refine ⟨c 29 2, c1, u', ?_, ?_, ?_, ?_⟩
    · show zX4_restore n c = _
      unfold zX4_restore
      rw [if_neg ne, f1, Option.bind_some, c12]
    · show zX5_restore n u = _
      unfold zX5_restore
      rw [e24, if_neg ne, g0, Option.bind_some, s15, k4.2.2.2]
    · refine ⟨⟨Y2, P2, RInv_tr (r := 29) (c := c) cp i2⟩, ⟨fun i h1 h2 => ?_, fun i h1 h2 => ?_⟩, Or.inr ⟨by rw [lo]; exact e, ⟨Y2, P2, RInv_cg (fun f _ => hi _ (by omega)) i2⟩, ZR_cg (fun f _ => hi _ (by omega)) z⟩, ?_, ?_⟩
      · rw [cn 1 i (by simp [inRv]; omega), cn 2 i (by simp [inRv]; omega), cn 3 i (by simp [inRv]; omega)]
        exact hZ.1 i h1 h2
      · rw [cn 6 i (by simp [inRv]; omega)]
        exact hZ.2 i h1 h2
      · rw [hi 43 (by omega), hi 44 (by omega)]; exact iT
      · rw [hi 51 (by omega), lo]; exact iW
    · obtain ⟨⟨m1, m2, m3, m4, m5, m6⟩, w2, w3, w4, w5, w6, w7, w8, w9⟩ := hM
      refine ⟨⟨⟨?_, ?_, ?_, ?_⟩, ?_, ?_, ?_, fun p hp => ?_, fun a b ha hb => ?_⟩, ?_, ?_, ?_, ?_, ?_, ?_, ?_, fun _ => ?_⟩
      · rw [s12, k4.1]; exact (cp 0 0 (by decide)).symm
      · rw [s13, k4.2.1]; exact (cp 0 3 (by decide)).symm
      · rw [s14, k4.2.2.1]; exact (cp 0 1 (by decide)).symm
      · rw [s15, k4.2.2.2]; exact (cp 0 2 (by decide)).symm
      · funext i
        rw [g55]
        by_cases h : i < 5
        · rw [if_pos h, (k1 i h).1]; exact (cp 1 i (by simp [inRv]; omega)).symm
        · rw [if_neg h, m2]; exact (cn 1 i (by simp [inRv]; omega)).symm
      · funext i
        rw [g56]
        by_cases h : i < 5
        · rw [if_pos h, (k1 i h).2.1]; exact (cp 2 i (by simp [inRv]; omega)).symm
        · rw [if_neg h, m3]; exact (cn 2 i (by simp [inRv]; omega)).symm
      · funext i
        rw [g65]
        by_cases h : i < 49
        · rw [if_pos h]
          have e7 : 7 * (i / 7) + i % 7 = i := by omega
          have := (k3 (i / 7) (i % 7) (by omega) (by omega)).2
          rw [e7] at this
          rw [this]; exact (cp 6 i (by simp [inRv]; omega)).symm
        · rw [if_neg h, m4]; exact (cn 6 i (by simp [inRv]; omega)).symm
      · have ep : ∀ j, j < 6 → c1 (1 + 7 + p) j = c (36 + p) j := fun j hj => by
          have := cp (7 + p) j (by simp [inRv]; omega)
          rwa [show 29 + (7 + p) = 36 + p by omega, show 1 + (7 + p) = 1 + 7 + p by omega] at this
        obtain ⟨q0, q1, q2, q3, q4, q5⟩ := k2 p hp
        rw [g58, g59, g60, g61, g62, g63, if_pos hp, if_pos hp, if_pos hp, if_pos hp, if_pos hp, if_pos hp, ep 0 (by omega), ep 1 (by omega), ep 2 (by omega), ep 3 (by omega), ep 4 (by omega), ep 5 (by omega)]
        exact ⟨q0, q1, q2, q3, q4, q5⟩
      · rw [g64, if_pos (by omega), (k3 a b ha hb).1]
        unfold gb
        rw [cp 5 a (by simp [inRv]; omega)]
      · funext i
        rw [g57]
        by_cases h : i < 5
        · rw [if_pos h, (k1 i h).2.2]; exact (cp 3 i (by simp [inRv]; omega)).symm
        · rw [if_neg h, w2]; exact (cn 3 i (by simp [inRv]; omega)).symm
      · rw [gk 54 (by decide) (by omega), hi 52 (by omega)]; exact w3
      · rw [gk 66 (by decide) (by omega), hi 44 (by omega)]; exact w4
      · rw [g53 20 (by decide) (by decide) (by omega), hi 43 (by omega)]; exact w5
      · rw [gk 73 (by decide) (by omega), hi 51 (by omega)]; exact w6
      · rw [g53 34 (by decide) (by decide) (by omega), lo]; exact w7
      · rw [g53 24 (by decide) (by decide) (by omega), lo]; exact w8
      · exact KI_cg (fun f _ => hi _ (by omega)) (fun i _ => by rw [gk 70 (by decide) (by omega)]) ⟨k1, k2, k3, k4⟩
