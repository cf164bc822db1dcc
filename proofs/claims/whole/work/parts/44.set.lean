/-! ===== cold, row, feed: small things that are set ===== -/
theorem RInv_sc {c c' : MU} {r Y P : Nat} (h : ∀ f, 1 ≤ f → f < 14 → c' (r + f) = c (r + f)) (h0 : c' r 0 = c r 0) (h3 : c' r 3 = c r 3) (h1 : isD 9 (c' r 1)) (hI : RInv c r Y P) : RInv c' r Y P := by
  have e1 := h 1 (by omega) (by omega)
  have e2 := h 2 (by omega) (by omega)
  have e3 := h 3 (by omega) (by omega)
  have e5 := h 5 (by omega) (by omega)
  have e6 := h 6 (by omega) (by omega)
  have hp : ∀ p, p < 7 → c' (r + 7 + p) = c (r + 7 + p) := fun p hp => by rw [Nat.add_assoc]; exact h (7 + p) (by omega) (by omega)
  have hg : ∀ a b, gb c' r a b = gb c r a b := fun a b => by unfold gb; rw [e5]
  obtain ⟨⟨j1, j2, j3, j4, j5, -⟩, i2, i3, i4, i5, i6, i7, i8⟩ := hI
  refine ⟨⟨j1, j2, j3, by rw [h0]; exact j4, by rw [h3]; exact j5, h1⟩, fun k hk => by rw [e1, e2]; exact i2 k hk, fun k hk => ?_, fun j k hj hk => by rw [e3]; exact i4 j k hj hk, fun p q => by rw [hp p q]; exact i5 p q, fun a ha => by rw [e5]; exact i6 a ha, fun a b ha hb => by rw [hg, hg]; exact i7 a b ha hb, fun a b ha hb => by rw [e6]; exact i8 a b ha hb⟩
  rw [e3]
  rcases i3 k hk with e | ⟨q, p, hpp, e, e2⟩
  · exact Or.inl e
  · exact Or.inr ⟨q, p, hpp, e, by rw [hp p (by omega)]; exact e2⟩
theorem op_cold (n : Nat) (a : Int32) : OPT (fun c => zX4_cold n c a) (fun u => zX5_cold n u a) := by
  intro c u hI hM
  by_cases h0 : 0 ≤ a
  · by_cases h9 : a ≤ 9
    · have hb : zX5_bound n u a 0 9 = some 0 := by unfold zX5_bound; rw [if_pos h0, if_pos h9]
      have ha : isD 9 a := by
        have hn0 : ¬ a < 0 := by rw [fa_lt']; rw [fa_le'] at h0; omega
        obtain ⟨j, hj, rfl⟩ := nI_of hn0
        rw [show (9 : Int32) = nI 9 from rfl, le_nI hj (by omega)] at h9
        exact ⟨j, h9, rfl⟩
      refine ⟨c 1 1, up2 c 1 1 a, up2 u 53 14 a, ?_, ?_, ?_, ?_⟩
      · show zX4_cold n c a = _
        unfold zX4_cold
        rw [if_pos h0, if_pos h9]
        rfl
      · show zX5_cold n u a = _
        unfold zX5_cold
        rw [hb, Option.bind_some, if_pos rfl]
        show some (u 53 14, _) = _
        rw [hM.1.1.2.2.1]
      · obtain ⟨⟨Y, P, hR⟩, hZ, iK, iT, iW⟩ := hI
        have hc : ∀ k, k ≠ 1 → up2 c 1 1 a k = c k := fun k hk => up2_o hk
        refine ⟨⟨Y, P, RInv_sc (fun f h1 h2 => hc _ (by omega)) (up2_i (by decide)) (up2_i (by decide)) (by rw [up2_s]; exact ha) hR⟩, ?_, ?_, by rw [hc 43 (by omega), hc 44 (by omega)]; exact iT, by rw [hc 0 (by omega), hc 51 (by omega)]; exact iW⟩
        · unfold ZR
          rw [hc _ (by omega), hc _ (by omega), hc _ (by omega), hc _ (by omega)]
          exact hZ
        · rw [hc 0 (by omega)]
          rcases iK with e | ⟨e, ⟨Y2, P2, i⟩, z⟩
          · exact Or.inl e
          · exact Or.inr ⟨e, ⟨Y2, P2, RInv_cg (fun f _ => hc _ (by omega)) i⟩, ZR_cg (fun f _ => hc _ (by omega)) z⟩
      · obtain ⟨⟨⟨a1, a2, a3, a4⟩, m2, m3, m4, m5, m6⟩, w2, w3, w4, w5, w6, w7, w8, w9⟩ := hM
        have hc : ∀ k, k ≠ 1 → up2 c 1 1 a k = c k := fun k hk => up2_o hk
        have hu : ∀ k, k ≠ 53 → up2 u 53 14 a k = u k := fun k hk => up2_o hk
        have hg : ∀ x y, gb (up2 c 1 1 a) 1 x y = gb c 1 x y := fun x y => by unfold gb; rw [hc _ (by omega)]
        refine ⟨⟨⟨by rw [up2_i (by decide), up2_i (by decide)]; exact a1, by rw [up2_i (by decide), up2_i (by decide)]; exact a2, by rw [up2_s, up2_s], by rw [up2_i (by decide), up2_i (by decide)]; exact a4⟩, by rw [hu 55 (by omega), hc _ (by omega)]; exact m2, by rw [hu 56 (by omega), hc _ (by omega)]; exact m3, by rw [hu 65 (by omega), hc _ (by omega)]; exact m4, fun p hp => ?_, fun x y hx hy => by rw [hu 64 (by omega), hg]; exact m6 x y hx hy⟩, by rw [hu 57 (by omega), hc 4 (by omega)]; exact w2, by rw [hu 54 (by omega), hc 52 (by omega)]; exact w3, by rw [hu 66 (by omega), hc 44 (by omega)]; exact w4, by rw [up2_i (by decide), hc 43 (by omega)]; exact w5, by rw [hu 73 (by omega), hc 51 (by omega)]; exact w6, by rw [up2_i (by decide), hc 0 (by omega)]; exact w7, by rw [up2_i (by decide), hc 0 (by omega)]; exact w8, ?_⟩
        · rw [hu 58 (by omega), hu 59 (by omega), hu 60 (by omega), hu 61 (by omega), hu 62 (by omega), hu 63 (by omega), hc _ (by omega)]
          exact m5 p hp
        · intro e
          rw [hc 0 (by omega)] at e
          exact KI_cg (fun f _ => hc _ (by omega)) (fun i _ => by rw [hu 70 (by omega)]) (w9 e)
    · have hb : zX5_bound n u a 0 9 = some (-6) := by unfold zX5_bound; rw [if_pos h0, if_neg h9]
      refine opt_ref 6 (by decide) (n := n) hI hM ?_ ?_
      · simp only [zX4_cold, if_pos h0, if_neg h9]
        rfl
      · simp only [zX5_cold, hb, Option.bind_some]
        rfl
  · have hb : zX5_bound n u a 0 9 = some (-4) := by unfold zX5_bound; rw [if_neg h0]
    refine opt_ref 4 (by decide) (n := n) hI hM ?_ ?_
    · simp only [zX4_cold, if_neg h0]
      rfl
    · simp only [zX5_cold, hb, Option.bind_some]
      rfl
