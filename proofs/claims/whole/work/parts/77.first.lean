/-! ===== the first memory is in order ===== -/
def Zt (u : MU) : Prop := ∀ k i, 49 ≤ i → u k i = 0
theorem Zt_0 : Zt (fun _ _ => 0) := fun _ _ _ => rfl
theorem Zt_up {u : MU} {k j : Nat} {x : Int32} (hj : j < 49) (h : Zt u) : Zt (up2 u k j x) := fun a i hi => by
  rw [up2_at, if_neg (by omega)]
  exact h a i hi
theorem Zt_uz {u : MU} {k : Nat} (h : Zt u) : Zt (upz u k) := fun a i hi => by
  unfold upz
  by_cases e : a = k
  · rw [if_pos e]
  · rw [if_neg e]; exact h a i hi
theorem Zt_1 : Zt us1 := by
  unfold us1
  repeat (first | exact Zt_0 | (refine Zt_uz ?_) | (refine Zt_up (by decide) ?_))
theorem Zt_2 : Zt us2 := by
  unfold us2
  repeat (first | exact Zt_0 | exact Zt_1 | (refine Zt_uz ?_) | (refine Zt_up (by decide) ?_))
theorem Zt_3 : Zt us3 := by
  unfold us3
  repeat (first | exact Zt_0 | exact Zt_1 | exact Zt_2 | (refine Zt_uz ?_) | (refine Zt_up (by decide) ?_))
theorem Zt_4 : Zt us4 := by
  unfold us4
  repeat (first | exact Zt_0 | exact Zt_1 | exact Zt_2 | exact Zt_3 | (refine Zt_uz ?_) | (refine Zt_up (by decide) ?_))
theorem Zt_5 : Zt us5 := by
  unfold us5
  repeat (first | exact Zt_0 | exact Zt_1 | exact Zt_2 | exact Zt_3 | exact Zt_4 | (refine Zt_uz ?_) | (refine Zt_up (by decide) ?_))
theorem Zt_6 : Zt us6 := by
  unfold us6
  repeat (first | exact Zt_0 | exact Zt_1 | exact Zt_2 | exact Zt_3 | exact Zt_4 | exact Zt_5 | (refine Zt_uz ?_) | (refine Zt_up (by decide) ?_))
theorem Zt_7 : Zt us7 := by
  unfold us7
  repeat (first | exact Zt_0 | exact Zt_1 | exact Zt_2 | exact Zt_3 | exact Zt_4 | exact Zt_5 | exact Zt_6 | (refine Zt_uz ?_) | (refine Zt_up (by decide) ?_))
theorem Zt_8 : Zt us8 := by
  unfold us8
  repeat (first | exact Zt_0 | exact Zt_1 | exact Zt_2 | exact Zt_3 | exact Zt_4 | exact Zt_5 | exact Zt_6 | exact Zt_7 | (refine Zt_uz ?_) | (refine Zt_up (by decide) ?_))
theorem Zt_9 : Zt us9 := by
  unfold us9
  repeat (first | exact Zt_0 | exact Zt_1 | exact Zt_2 | exact Zt_3 | exact Zt_4 | exact Zt_5 | exact Zt_6 | exact Zt_7 | exact Zt_8 | (refine Zt_uz ?_) | (refine Zt_up (by decide) ?_))
theorem Zt_10 : Zt us10 := by
  unfold us10
  repeat (first | exact Zt_0 | exact Zt_1 | exact Zt_2 | exact Zt_3 | exact Zt_4 | exact Zt_5 | exact Zt_6 | exact Zt_7 | exact Zt_8 | exact Zt_9 | (refine Zt_uz ?_) | (refine Zt_up (by decide) ?_))
theorem Zt_11 : Zt us11 := by
  unfold us11
  repeat (first | exact Zt_0 | exact Zt_1 | exact Zt_2 | exact Zt_3 | exact Zt_4 | exact Zt_5 | exact Zt_6 | exact Zt_7 | exact Zt_8 | exact Zt_9 | exact Zt_10 | (refine Zt_uz ?_) | (refine Zt_up (by decide) ?_))
theorem Zt_12 : Zt us12 := by
  unfold us12
  repeat (first | exact Zt_0 | exact Zt_1 | exact Zt_2 | exact Zt_3 | exact Zt_4 | exact Zt_5 | exact Zt_6 | exact Zt_7 | exact Zt_8 | exact Zt_9 | exact Zt_10 | exact Zt_11 | (refine Zt_uz ?_) | (refine Zt_up (by decide) ?_))
theorem Zt_13 : Zt us13 := by
  unfold us13
  repeat (first | exact Zt_0 | exact Zt_1 | exact Zt_2 | exact Zt_3 | exact Zt_4 | exact Zt_5 | exact Zt_6 | exact Zt_7 | exact Zt_8 | exact Zt_9 | exact Zt_10 | exact Zt_11 | exact Zt_12 | (refine Zt_uz ?_) | (refine Zt_up (by decide) ?_))
theorem Zt_14 : Zt us14 := by
  unfold us14
  repeat (first | exact Zt_0 | exact Zt_1 | exact Zt_2 | exact Zt_3 | exact Zt_4 | exact Zt_5 | exact Zt_6 | exact Zt_7 | exact Zt_8 | exact Zt_9 | exact Zt_10 | exact Zt_11 | exact Zt_12 | exact Zt_13 | (refine Zt_uz ?_) | (refine Zt_up (by decide) ?_))
theorem usz_hi {k i : Nat} (hi : 49 ≤ i) : usz k i = 0 := Zt_14 k i hi
theorem usz_row {a b : Nat} (h : ∀ i, i < 49 → usz a i = usz b i) : usz a = usz b := by
  funext i
  by_cases q : i < 49
  · exact h i q
  · rw [usz_hi (by omega), usz_hi (by omega)]
theorem z_a : usz 1 0 = 3 ∧ usz 1 1 = 1 ∧ usz 1 2 = 0 ∧ usz 1 3 = 0 ∧ usz 0 3 = 0 ∧ usz 43 1 = 0 ∧ usz 0 7 = 0 := by decide +kernel
theorem z_b : usz 53 12 = 3 ∧ usz 53 13 = 0 ∧ usz 53 14 = 1 ∧ usz 53 15 = 0 ∧ usz 53 20 = 0 ∧ usz 53 34 = 0 ∧ usz 53 24 = 0 := by decide +kernel
theorem z_c : ∀ k, k < 5 → usz 2 k = 2 ∧ usz 3 k = 2 ∧ usz 4 k = -9 := by decide +kernel
theorem z_c2 : ∀ k, k < 49 → 5 ≤ k → usz 2 k = 0 ∧ usz 3 k = 0 ∧ usz 4 k = 0 := by decide +kernel
theorem z_d : ∀ p, p < 7 → usz (1 + 7 + p) 0 = 0 ∧ usz (1 + 7 + p) 1 = 0 ∧ usz (1 + 7 + p) 2 = 0 ∧ usz (1 + 7 + p) 3 = 0 ∧ usz (1 + 7 + p) 4 = 0 ∧ usz (1 + 7 + p) 5 = 0 := by decide +kernel
theorem z_e : ∀ p, p < 7 → usz 58 p = 0 ∧ usz 59 p = 0 ∧ usz 60 p = 0 ∧ usz 61 p = 0 ∧ usz 62 p = 0 ∧ usz 63 p = 0 := by decide +kernel
theorem z_f : ∀ i, i < 49 → usz 7 i = 0 ∧ usz 64 i = 0 := by decide +kernel
theorem z_g : ∀ a, a < 7 → usz 6 a = 0 := by decide +kernel
theorem z_r1 : ∀ i, i < 49 → usz 55 i = usz 2 i := by decide +kernel
theorem z_r2 : ∀ i, i < 49 → usz 56 i = usz 3 i := by decide +kernel
theorem z_r3 : ∀ i, i < 49 → usz 57 i = usz 4 i := by decide +kernel
theorem z_r4 : ∀ i, i < 49 → usz 65 i = usz 7 i := by decide +kernel
theorem z_r5 : ∀ i, i < 49 → usz 54 i = usz 52 i := by decide +kernel
theorem z_r6 : ∀ i, i < 49 → usz 66 i = usz 44 i := by decide +kernel
theorem z_r7 : ∀ i, i < 49 → usz 73 i = usz 51 i := by decide +kernel
theorem z_sh : ∀ b, b < 7 → ((0 : Int32) >>> (nI b &&& 31)) &&& 1 = 0 := by decide +kernel
theorem z_gb {a b : Nat} (ha : a < 7) (hb : b < 7) : gb usz 1 a b = 0 := by
  unfold gb
  have : usz (1 + 5) a = 0 := z_g a ha
  rw [this]
  exact z_sh b hb
theorem RInv_z : RInv usz 1 3 0 := by
  obtain ⟨a0, a1, a2, a3, -⟩ := z_a
  refine ⟨⟨by omega, by omega, by omega, a0, a3, ⟨1, by omega, a1⟩⟩, fun k hk => ⟨⟨2, by omega, (z_c k hk).1⟩, ⟨2, by omega, (z_c k hk).2.1⟩⟩, fun k hk => Or.inl (z_c k hk).2.2, fun j k hj hk _ => Or.inl (z_c j hj).2.2, fun p hp => ?_, fun a ha => ⟨0, by omega, z_g a ha⟩, fun a b ha hb => ?_, fun a b ha hb => ?_⟩
  · obtain ⟨b0, b1, b2, b3, b4, b5⟩ := z_d p hp
    exact ⟨⟨0, by omega, b0⟩, ⟨0, by omega, b1⟩, ⟨0, by omega, b2⟩, ⟨0, by omega, b3⟩, ⟨0, by omega, b4⟩, Or.inl b5⟩
  · rw [z_gb ha hb, z_gb hb ha]
    exact ⟨rfl, fun _ => rfl⟩
  · have e : usz (1 + 6) (7 * a + b) = 0 := (z_f (7 * a + b) (by omega)).1
    rw [e]
    exact ⟨⟨0, by omega, rfl⟩, fun _ => rfl⟩
theorem CINV_z : CINV usz := by
  obtain ⟨-, -, -, -, a4, a5, a6⟩ := z_a
  refine ⟨⟨3, 0, RInv_z⟩, ⟨fun i hi _ => ?_, fun i hi _ => usz_hi hi⟩, Or.inl a4, ⟨0, by omega, a5, fun i hi => absurd hi (by omega)⟩, ⟨0, by omega, a6, fun i hi => absurd hi (by omega)⟩⟩
  by_cases q : i < 49
  · exact z_c2 i q hi
  · exact ⟨usz_hi (by omega), usz_hi (by omega), usz_hi (by omega)⟩
theorem MREL_z : MREL usz usz := by
  obtain ⟨a0, a1, a2, a3, a4, a5, a6⟩ := z_a
  obtain ⟨b0, b1, b2, b3, b4, b5, b6⟩ := z_b
  refine ⟨⟨⟨by rw [b0, a0], by rw [b1, a3], by rw [b2, a1], by rw [b3, a2]⟩, usz_row z_r1, usz_row z_r2, usz_row z_r4, fun p hp => ?_, fun a b ha hb => ?_⟩, usz_row z_r3, usz_row z_r5, usz_row z_r6, by rw [b4, a5], usz_row z_r7, by rw [b5, a6], by rw [b6, a4], fun e => ?_⟩
  · obtain ⟨x0, x1, x2, x3, x4, x5⟩ := z_d p hp
    obtain ⟨y0, y1, y2, y3, y4, y5⟩ := z_e p hp
    rw [x0, x1, x2, x3, x4, x5, y0, y1, y2, y3, y4, y5]
    exact ⟨rfl, rfl, rfl, rfl, rfl, rfl⟩
  · rw [z_gb ha hb]
    exact (z_f (7 * a + b) (by omega)).2
  · rw [a4] at e
    exact absurd e (by decide)
