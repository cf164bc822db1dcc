/-! ===== image and restore ===== -/
theorem RInv_tr {c c' : MU} {r r' Y P : Nat} (h : ∀ f b, inRv f b = true → c' (r' + f) b = c (r + f) b) (hI : RInv c r Y P) : RInv c' r' Y P := by
  obtain ⟨⟨j1, j2, j3, j4, j5, j6⟩, i2, i3, i4, i5, i6, i7, i8⟩ := hI
  have h00 : c' r' 0 = c r 0 := h 0 0 (by decide)
  have h01 : c' r' 1 = c r 1 := h 0 1 (by decide)
  have h03 : c' r' 3 = c r 3 := h 0 3 (by decide)
  have h1 : ∀ k, k < 5 → c' (r' + 1) k = c (r + 1) k := fun k hk => h 1 k (by simp [inRv]; omega)
  have h2 : ∀ k, k < 5 → c' (r' + 2) k = c (r + 2) k := fun k hk => h 2 k (by simp [inRv]; omega)
  have h3 : ∀ k, k < 5 → c' (r' + 3) k = c (r + 3) k := fun k hk => h 3 k (by simp [inRv]; omega)
  have h5 : ∀ k, k < 7 → c' (r' + 5) k = c (r + 5) k := fun k hk => h 5 k (by simp [inRv]; omega)
  have h6 : ∀ k, k < 49 → c' (r' + 6) k = c (r + 6) k := fun k hk => h 6 k (by simp [inRv]; omega)
  have hp : ∀ p, p < 7 → ∀ k, k < 6 → c' (r' + 7 + p) k = c (r + 7 + p) k := fun p hp k hk => by
    rw [Nat.add_assoc, Nat.add_assoc]
    exact h (7 + p) k (by simp [inRv]; omega)
  have hg : ∀ a b, a < 7 → gb c' r' a b = gb c r a b := fun a b ha => by unfold gb; rw [h5 a ha]
  refine ⟨⟨j1, j2, j3, by rw [h00]; exact j4, by rw [h03]; exact j5, by rw [h01]; exact j6⟩, fun k hk => by rw [h1 k hk, h2 k hk]; exact i2 k hk, fun k hk => ?_, fun j k hj hk => by rw [h3 j hj, h3 k hk]; exact i4 j k hj hk, fun p q => ?_, fun a ha => by rw [h5 a ha]; exact i6 a ha, fun a b ha hb => by rw [hg a b ha, hg b a hb]; exact i7 a b ha hb, fun a b ha hb => by rw [h6 _ (by omega)]; exact i8 a b ha hb⟩
  · rw [h3 k hk]
    rcases i3 k hk with e | ⟨q, p, hpp, e, e2⟩
    · exact Or.inl e
    · exact Or.inr ⟨q, p, hpp, e, by rw [hp p (by omega) 5 (by omega)]; exact e2⟩
  · rw [hp p q 0 (by omega), hp p q 1 (by omega), hp p q 2 (by omega), hp p q 3 (by omega), hp p q 4 (by omega), hp p q 5 (by omega)]
    exact i5 p q
theorem inRv_hi {f b : Nat} (h : 14 ≤ f) : ¬ inRv f b = true := by
  simp [inRv]; omega
set_option maxHeartbeats 1000000 in
theorem op_image (n : Nat) (hn : 60 ≤ n) : OPT (fun c => zX4_image n c) (fun u => zX5_image n u) := by
  intro c u hI hM
  obtain ⟨⟨Y, P, hR⟩, hZ, iK, iT, iW⟩ := id hI
  obtain ⟨c1, f1, f2⟩ := zX3_copyFrom_eq (n := n) (r := 29) (r1 := 1) (u := c) (by omega) (fun q hq => (hR.2.2.2.2.1 q hq).2.2.2.2.2) (by omega)
  obtain ⟨u', g1, ⟨g2, g3, g4, g5, g6, g7, g8⟩, g9⟩ := zX5_passesAll_keep (n := n) (w := 0) (u := up2 u 53 24 1) (by omega) hn
  have lo : ∀ a, a < 29 → c1 a = c a := fun a ha => by
    funext b; rw [f2, if_neg (by omega)]
  have hi : ∀ a, 43 ≤ a → c1 a = c a := fun a ha => by
    funext b; rw [f2, if_neg (fun z => inRv_hi (by omega) z.2)]
  have cp : ∀ f b, inRv f b = true → c1 (29 + f) b = c (1 + f) b := fun f b hf => by
    rw [f2, Nat.add_sub_cancel_left, if_pos ⟨by omega, hf⟩]
  have lo' : ∀ a, a ≠ 0 → up2 c1 0 3 1 a = c1 a := fun a ha => up2_o ha
  have u53 : ∀ i, i ≠ 24 → i ≠ 25 → i ≠ 26 → u' 53 i = u 53 i := fun i h1 h2 h3 => by rw [g5 i h2 h3, up2_i h1]
  have uk : ∀ k, k ≠ 53 → k ≠ 70 → u' k = u k := fun k h1 h2 => by rw [g4 k h1 h2, up2_o h1]
  have row : ∀ (q N s : Nat), q ≠ 53 → (q, N, s) ∈ [(65, 49, 170 * 0 + 5 + 5 + 5 + 7 + 7 + 7 + 7 + 7 + 7 + 49), (64, 49, 170 * 0 + 5 + 5 + 5 + 7 + 7 + 7 + 7 + 7 + 7), (63, 7, 170 * 0 + 5 + 5 + 5 + 7 + 7 + 7 + 7 + 7), (62, 7, 170 * 0 + 5 + 5 + 5 + 7 + 7 + 7 + 7), (61, 7, 170 * 0 + 5 + 5 + 5 + 7 + 7 + 7), (60, 7, 170 * 0 + 5 + 5 + 5 + 7 + 7), (59, 7, 170 * 0 + 5 + 5 + 5 + 7), (58, 7, 170 * 0 + 5 + 5 + 5), (57, 5, 170 * 0 + 5 + 5), (56, 5, 170 * 0 + 5), (55, 5, 170 * 0)] → ∀ i, i < N → u' 70 (s + i) = u q i := fun q N s h53 hm i hi => by
    have := (g6 (q, N, s) hm).2.2 i hi
    rw [show (up2 u 53 24 1) (q, N, s).1 i = u q i by rw [up2_o h53]] at this
    exact this
  have one : ∀ (q s : Nat), q ≠ 24 → (q, s) ∈ [(15, 170 * 0 + 155 + 1 + 1 + 1), (14, 170 * 0 + 155 + 1 + 1), (13, 170 * 0 + 155 + 1), (12, 170 * 0 + 155)] → u' 70 s = u 53 q := fun q s h24 hm => by
    have := (g9 (q, s) hm).2.2
    rw [show (up2 u 53 24 1) 53 (q, s).1 = u 53 q by rw [up2_i h24]] at this
    exact this
  refine ⟨c 1 2, up2 c1 0 3 1, u', ?_, ?_, ?_, ?_⟩
  · show zX4_image n c = _
    unfold zX4_image
    rw [f1, Option.bind_some]
    show some (up2 c1 0 3 1 1 2, up2 c1 0 3 1) = _
    rw [lo' 1 (by decide), lo 1 (by omega)]
  · show zX5_image n u = _
    unfold zX5_image
    show (zX5_passesAll n (up2 u 53 24 1) 0 1).bind _ = _
    rw [show (0 : Int32) = nI 0 from rfl, g1, Option.bind_some, u53 15 (by decide) (by decide) (by decide), hM.1.1.2.2.2]
  · refine ⟨⟨Y, P, RInv_cg (fun f hf => by rw [lo' _ (by omega), lo _ (by omega)]) hR⟩, ZR_cg (fun f hf => by rw [lo' _ (by omega), lo _ (by omega)]) hZ, Or.inr ⟨up2_s, ⟨Y, P, RInv_tr (r := 1) (c := c) (fun f b hf => by rw [lo' _ (by omega)]; exact cp f b hf) hR⟩, fun i _ h => absurd h (by omega), fun i _ h => absurd h (by omega)⟩, ?_, ?_⟩
    · rw [lo' 43 (by omega), lo' 44 (by omega), hi 43 (by omega), hi 44 (by omega)]; exact iT
    · rw [lo' 51 (by omega), hi 51 (by omega), up2_i (by decide), lo 0 (by omega)]; exact iW
  · obtain ⟨m1, w2, w3, w4, w5, w6, w7, w8, w9⟩ := id hM
    have hX := hM.1
    refine ⟨MX_cg (fun f hf => by rw [lo' _ (by omega), lo _ (by omega)]) (fun k h1 h2 _ => uk k (by omega) (by omega)) (u53 12 (by decide) (by decide) (by decide)) (u53 13 (by decide) (by decide) (by decide)) (u53 14 (by decide) (by decide) (by decide)) (u53 15 (by decide) (by decide) (by decide)) m1, ?_, ?_, ?_, ?_, ?_, ?_, ?_, fun _ => ⟨fun i hi5 => ⟨?_, ?_, ?_⟩, fun p hp => ⟨?_, ?_, ?_, ?_, ?_, ?_⟩, fun a b ha hb => ⟨?_, ?_⟩, ?_, ?_, ?_, ?_⟩⟩
    · rw [uk 57 (by decide) (by decide), lo' 4 (by decide), lo 4 (by omega)]; exact w2
    · rw [uk 54 (by decide) (by decide), lo' 52 (by decide), hi 52 (by omega)]; exact w3
    · rw [uk 66 (by decide) (by decide), lo' 44 (by decide), hi 44 (by omega)]; exact w4
    · rw [u53 20 (by decide) (by decide) (by decide), lo' 43 (by decide), hi 43 (by omega)]; exact w5
    · rw [uk 73 (by decide) (by decide), lo' 51 (by decide), hi 51 (by omega)]; exact w6
    · rw [u53 34 (by decide) (by decide) (by decide), up2_i (by decide), lo 0 (by omega)]; exact w7
    · rw [up2_s, g5 24 (by decide) (by decide), up2_s]
    · have := row 55 5 (170 * 0) (by decide) (by simp) i hi5
      rw [show 170 * 0 + i = i by omega] at this
      rw [this, lo' 30 (by decide), hX.2.1]
      exact (cp 1 i (by simp [inRv]; omega)).symm
    · have := row 56 5 (170 * 0 + 5) (by decide) (by simp) i hi5
      rw [show 170 * 0 + 5 + i = 5 + i by omega] at this
      rw [this, lo' 31 (by decide), hX.2.2.1]
      exact (cp 2 i (by simp [inRv]; omega)).symm
    · have := row 57 5 (170 * 0 + 5 + 5) (by decide) (by simp) i hi5
      rw [show 170 * 0 + 5 + 5 + i = 10 + i by omega] at this
      rw [this, lo' 32 (by decide), w2]
      exact (cp 3 i (by simp [inRv]; omega)).symm
    · have := row 58 7 (170 * 0 + 5 + 5 + 5) (by decide) (by simp) p hp
      have e := cp (7 + p) 0 (by simp [inRv]; omega)
      rw [show 29 + (7 + p) = 36 + p by omega, show 1 + (7 + p) = 1 + 7 + p by omega] at e
      rw [show 15 + p = 170 * 0 + 5 + 5 + 5 + p by omega, this, lo' _ (by omega), e]
      exact (hX.2.2.2.2.1 p hp).1
    · have := row 59 7 (170 * 0 + 5 + 5 + 5 + 7) (by decide) (by simp) p hp
      have e := cp (7 + p) 1 (by simp [inRv]; omega)
      rw [show 29 + (7 + p) = 36 + p by omega, show 1 + (7 + p) = 1 + 7 + p by omega] at e
      rw [show 22 + p = 170 * 0 + 5 + 5 + 5 + 7 + p by omega, this, lo' _ (by omega), e]
      exact (hX.2.2.2.2.1 p hp).2.1
    · have := row 60 7 (170 * 0 + 5 + 5 + 5 + 7 + 7) (by decide) (by simp) p hp
      have e := cp (7 + p) 2 (by simp [inRv]; omega)
      rw [show 29 + (7 + p) = 36 + p by omega, show 1 + (7 + p) = 1 + 7 + p by omega] at e
      rw [show 29 + p = 170 * 0 + 5 + 5 + 5 + 7 + 7 + p by omega, this, lo' _ (by omega), e]
      exact (hX.2.2.2.2.1 p hp).2.2.1
    · have := row 61 7 (170 * 0 + 5 + 5 + 5 + 7 + 7 + 7) (by decide) (by simp) p hp
      have e := cp (7 + p) 3 (by simp [inRv]; omega)
      rw [show 29 + (7 + p) = 36 + p by omega, show 1 + (7 + p) = 1 + 7 + p by omega] at e
      rw [lo' _ (by omega), e, show 36 + p = 170 * 0 + 5 + 5 + 5 + 7 + 7 + 7 + p by omega, this]
      exact (hX.2.2.2.2.1 p hp).2.2.2.1
    · have := row 62 7 (170 * 0 + 5 + 5 + 5 + 7 + 7 + 7 + 7) (by decide) (by simp) p hp
      have e := cp (7 + p) 4 (by simp [inRv]; omega)
      rw [show 29 + (7 + p) = 36 + p by omega, show 1 + (7 + p) = 1 + 7 + p by omega] at e
      rw [show 43 + p = 170 * 0 + 5 + 5 + 5 + 7 + 7 + 7 + 7 + p by omega, this, lo' _ (by omega), e]
      exact (hX.2.2.2.2.1 p hp).2.2.2.2.1
    · have := row 63 7 (170 * 0 + 5 + 5 + 5 + 7 + 7 + 7 + 7 + 7) (by decide) (by simp) p hp
      have e := cp (7 + p) 5 (by simp [inRv]; omega)
      rw [show 29 + (7 + p) = 36 + p by omega, show 1 + (7 + p) = 1 + 7 + p by omega] at e
      rw [show 50 + p = 170 * 0 + 5 + 5 + 5 + 7 + 7 + 7 + 7 + 7 + p by omega, this, lo' _ (by omega), e]
      exact (hX.2.2.2.2.1 p hp).2.2.2.2.2
    · have := row 64 49 (170 * 0 + 5 + 5 + 5 + 7 + 7 + 7 + 7 + 7 + 7) (by decide) (by simp) (7 * a + b) (by omega)
      rw [show 57 + (7 * a + b) = 170 * 0 + 5 + 5 + 5 + 7 + 7 + 7 + 7 + 7 + 7 + (7 * a + b) by omega, this, hX.2.2.2.2.2 a b ha hb]
      unfold gb
      rw [lo' _ (by omega), cp 5 a (by simp [inRv]; omega)]
    · have := row 65 49 (170 * 0 + 5 + 5 + 5 + 7 + 7 + 7 + 7 + 7 + 7 + 49) (by decide) (by simp) (7 * a + b) (by omega)
      rw [show 106 + (7 * a + b) = 170 * 0 + 5 + 5 + 5 + 7 + 7 + 7 + 7 + 7 + 7 + 49 + (7 * a + b) by omega, this, hX.2.2.2.1, lo' _ (by omega)]
      exact (cp 6 _ (by simp [inRv]; omega)).symm
    · have := one 12 (170 * 0 + 155) (by decide) (by simp)
      rw [show (155 : Nat) = 170 * 0 + 155 by omega, this, hX.1.1, lo' _ (by omega)]
      exact (cp 0 0 (by decide)).symm
    · have := one 13 (170 * 0 + 155 + 1) (by decide) (by simp)
      rw [show (156 : Nat) = 170 * 0 + 155 + 1 by omega, this, hX.1.2.1, lo' _ (by omega)]
      exact (cp 0 3 (by decide)).symm
    · have := one 14 (170 * 0 + 155 + 1 + 1) (by decide) (by simp)
      rw [show (157 : Nat) = 170 * 0 + 155 + 1 + 1 by omega, this, hX.1.2.2.1, lo' _ (by omega)]
      exact (cp 0 1 (by decide)).symm
    · have := one 15 (170 * 0 + 155 + 1 + 1 + 1) (by decide) (by simp)
      rw [show (158 : Nat) = 170 * 0 + 155 + 1 + 1 + 1 by omega, this, hX.1.2.2.2, lo' _ (by omega)]
      exact (cp 0 2 (by decide)).symm
