/-! ===== row and feed ===== -/
theorem btw_of {a : Int32} {k : Nat} (hk : k < 2147483648) (h0 : 0 ≤ a) (h1 : a ≤ nI k) : ∃ j, j ≤ k ∧ a = nI j := by
  have hn0 : ¬ a < 0 := by rw [fa_lt']; rw [fa_le'] at h0; omega
  obtain ⟨j, hj, rfl⟩ := nI_of hn0
  rw [le_nI hj hk] at h1
  exact ⟨j, h1, rfl⟩
theorem op_row (n : Nat) (a : Int32) : OPT (fun c => zX4_row n c a) (fun u => zX5_row n u a) := by
  intro c u hI hM
  obtain ⟨rl, hrl, er, hw⟩ := hI.2.2.2.2
  have eu : u 53 34 = nI rl := hM.2.2.2.2.2.2.1.trans er
  by_cases h0 : 0 ≤ a
  · by_cases h6 : a ≤ 6
    · have hb : zX5_bound n u a 0 6 = some 0 := by unfold zX5_bound; rw [if_pos h0, if_pos h6]
      obtain ⟨j, hj, rfl⟩ := btw_of (k := 6) (by omega) h0 h6
      have h7 : ¬ (7 : Int32) ≤ nI j := by rw [show (7 : Int32) = nI 7 from rfl, le_nI (by omega) (by omega)]; omega
      by_cases hr5 : rl = 5
      · refine opt_ref 6 (by decide) (n := n) hI hM ?_ ?_
        · have : ¬ nI rl < 5 := by rw [show (5 : Int32) = nI 5 from rfl, lt_nI (by omega) (by omega)]; omega
          simp only [zX4_row, if_pos h0, if_neg h7, er, if_neg this]
          rfl
        · have : nI rl = 5 := by rw [hr5]; rfl
          simp only [zX5_row, hb, Option.bind_some, eu, if_pos this]
          rfl
      · have l5 : nI rl < 5 := by rw [show (5 : Int32) = nI 5 from rfl, lt_nI (by omega) (by omega)]; omega
        have e5 : ¬ nI rl = 5 := by rw [show (5 : Int32) = nI 5 from rfl, eq_nI (by omega) (by omega)]; exact hr5
        have o5 := oob_no (show rl < 5 by omega) (show rl < 2147483648 by omega)
        have t5 := tn_nI (show rl < 2147483648 by omega)
        have c7 : up2 c 51 rl (nI j) 0 7 = nI rl := by rw [up2_o (by decide)]; exact er
        have u7 : up2 u 73 rl (nI j) 53 34 = nI rl := by rw [up2_o (by decide)]; exact eu
        refine ⟨nI (rl + 1), up2 (up2 c 51 rl (nI j)) 0 7 (nI (rl + 1)), up2 (up2 u 73 rl (nI j)) 53 34 (nI (rl + 1)), ?_, ?_, ?_, ?_⟩
        · show zX4_row n c (nI j) = _
          unfold zX4_row
          rw [if_pos h0, if_neg h7, er, if_pos l5, o5, t5]
          simp only [Bool.false_eq_true, if_false, letb, c7, nI_1, up2_s]
        · show zX5_row n u (nI j) = _
          unfold zX5_row
          rw [hb, Option.bind_some, if_pos rfl, eu, if_neg e5, if_pos rfl, o5, t5]
          simp only [Bool.false_eq_true, if_false, letb, u7, nI_1, up2_s]
        · have hc : ∀ k, k ≠ 0 → k ≠ 51 → up2 (up2 c 51 rl (nI j)) 0 7 (nI (rl + 1)) k = c k := fun k h1 h2 => by rw [up2_o h1, up2_o h2]
          have h03 : up2 (up2 c 51 rl (nI j)) 0 7 (nI (rl + 1)) 0 3 = c 0 3 := by rw [up2_i (by decide), up2_o (by decide)]
          obtain ⟨⟨Y, P, hR⟩, hZ, iK, iT, -⟩ := hI
          refine ⟨⟨Y, P, RInv_cg (fun f _ => hc _ (by omega) (by omega)) hR⟩, ZR_cg (fun f _ => hc _ (by omega) (by omega)) hZ, ?_, by rw [hc 43 (by omega) (by omega), hc 44 (by omega) (by omega)]; exact iT, rl + 1, by omega, up2_s, fun i hi => ?_⟩
          · rw [h03]
            rcases iK with e | ⟨e, ⟨Y2, P2, i⟩, z⟩
            · exact Or.inl e
            · exact Or.inr ⟨e, ⟨Y2, P2, RInv_cg (fun f _ => hc _ (by omega) (by omega)) i⟩, ZR_cg (fun f _ => hc _ (by omega) (by omega)) z⟩
          · rw [up2_o (by decide)]
            by_cases e : i = rl
            · subst e; rw [up2_s]; exact ⟨j, hj, rfl⟩
            · rw [up2_i e]; exact hw i (by omega)
        · have hc : ∀ k, k ≠ 0 → k ≠ 51 → up2 (up2 c 51 rl (nI j)) 0 7 (nI (rl + 1)) k = c k := fun k h1 h2 => by rw [up2_o h1, up2_o h2]
          have hu : ∀ k, k ≠ 53 → k ≠ 73 → up2 (up2 u 73 rl (nI j)) 53 34 (nI (rl + 1)) k = u k := fun k h1 h2 => by rw [up2_o h1, up2_o h2]
          have h03 : up2 (up2 c 51 rl (nI j)) 0 7 (nI (rl + 1)) 0 3 = c 0 3 := by rw [up2_i (by decide), up2_o (by decide)]
          have hs : ∀ i, i ≠ 34 → up2 (up2 u 73 rl (nI j)) 53 34 (nI (rl + 1)) 53 i = u 53 i := fun i hi => by rw [up2_i hi, up2_o (by decide)]
          obtain ⟨m1, w2, w3, w4, w5, w6, w7, w8, w9⟩ := hM
          refine ⟨MX_cg (fun f _ => hc _ (by omega) (by omega)) (fun k h1 h2 _ => hu k (by omega) (by omega)) (hs 12 (by decide)) (hs 13 (by decide)) (hs 14 (by decide)) (hs 15 (by decide)) m1, by rw [hu 57 (by omega) (by omega), hc 4 (by omega) (by omega)]; exact w2, by rw [hu 54 (by omega) (by omega), hc 52 (by omega) (by omega)]; exact w3, by rw [hu 66 (by omega) (by omega), hc 44 (by omega) (by omega)]; exact w4, by rw [hs 20 (by decide), hc 43 (by omega) (by omega)]; exact w5, ?_, by rw [up2_s, up2_s], by rw [hs 24 (by decide), h03]; exact w8, ?_⟩
          · rw [up2_o (show (73 : Nat) ≠ 53 by decide), up2_o (show (51 : Nat) ≠ 0 by decide)]
            funext i
            by_cases e : i = rl
            · subst e; rw [up2_s, up2_s]
            · rw [up2_i e, up2_i e, w6]
          · intro e
            rw [h03] at e
            exact KI_cg (fun f _ => hc _ (by omega) (by omega)) (fun i _ => by rw [hu 70 (by omega) (by omega)]) (w9 e)
    · have hb : zX5_bound n u a 0 6 = some (-6) := by unfold zX5_bound; rw [if_pos h0, if_neg h6]
      have h7 : (7 : Int32) ≤ a := by
        rw [fa_le'] at h6 ⊢
        have e6 : (6 : Int32).toInt = 6 := by decide
        have e7 : (7 : Int32).toInt = 7 := by decide
        omega
      refine opt_ref 6 (by decide) (n := n) hI hM ?_ ?_
      · simp only [zX4_row, if_pos h0, if_pos h7]
        rfl
      · simp only [zX5_row, hb, Option.bind_some]
        rfl
  · have hb : zX5_bound n u a 0 6 = some (-4) := by unfold zX5_bound; rw [if_neg h0]
    refine opt_ref 4 (by decide) (n := n) hI hM ?_ ?_
    · simp only [zX4_row, if_neg h0]
      rfl
    · simp only [zX5_row, hb, Option.bind_some]
      rfl
theorem op_feed (n : Nat) (a : Int32) : OPT (fun c => zX4_feed n c a) (fun u => zX5_feed n u a) := by
  intro c u hI hM
  obtain ⟨tl, htl, er, hw⟩ := hI.2.2.2.1
  have eu : u 53 20 = nI tl := hM.2.2.2.2.1.trans er
  by_cases h0 : 0 ≤ a
  · by_cases h6 : a ≤ 255
    · have hb : zX5_bound n u a 0 255 = some 0 := by unfold zX5_bound; rw [if_pos h0, if_pos h6]
      obtain ⟨j, hj, rfl⟩ := btw_of (k := 255) (by omega) h0 h6
      have h7 : ¬ (255 : Int32) < nI j := by rw [show (255 : Int32) = nI 255 from rfl, lt_nI (by omega) (by omega)]; omega
      by_cases hr5 : tl = 80
      · refine opt_ref 6 (by decide) (n := n) hI hM ?_ ?_
        · have : ¬ nI tl < 80 := by rw [show (80 : Int32) = nI 80 from rfl, lt_nI (by omega) (by omega)]; omega
          simp only [zX4_feed, if_pos h0, if_neg h7, er, if_neg this]
          rfl
        · have : nI tl = 80 := by rw [hr5]; rfl
          simp only [zX5_feed, hb, Option.bind_some, eu, if_pos this]
          rfl
      · have l5 : nI tl < 80 := by rw [show (80 : Int32) = nI 80 from rfl, lt_nI (by omega) (by omega)]; omega
        have l6 : ¬ (80 : Int32) ≤ nI tl := by rw [show (80 : Int32) = nI 80 from rfl, le_nI (by omega) (by omega)]; omega
        have e5 : ¬ nI tl = 80 := by rw [show (80 : Int32) = nI 80 from rfl, eq_nI (by omega) (by omega)]; exact hr5
        have o5 := oob_no (show tl < 80 by omega) (show tl < 2147483648 by omega)
        have t5 := tn_nI (show tl < 2147483648 by omega)
        have c7 : up2 c 44 tl (nI j) 43 1 = nI tl := by rw [up2_o (by decide)]; exact er
        have u7 : up2 u 66 tl (nI j) 53 20 = nI tl := by rw [up2_o (by decide)]; exact eu
        refine ⟨nI (tl + 1), up2 (up2 c 44 tl (nI j)) 43 1 (nI (tl + 1)), up2 (up2 u 66 tl (nI j)) 53 20 (nI (tl + 1)), ?_, ?_, ?_, ?_⟩
        · show zX4_feed n c (nI j) = _
          unfold zX4_feed zX0_take
          rw [if_pos h0, if_neg h7, er, if_pos l5, if_neg l6, o5, t5]
          simp only [Bool.false_eq_true, if_false, letb, c7, nI_1, up2_s, Option.bind_some]
        · show zX5_feed n u (nI j) = _
          unfold zX5_feed
          rw [hb, Option.bind_some, if_pos rfl, eu, if_neg e5, if_pos rfl, o5, t5]
          simp only [Bool.false_eq_true, if_false, letb, u7, nI_1, up2_s]
        · have hc : ∀ k, k ≠ 43 → k ≠ 44 → up2 (up2 c 44 tl (nI j)) 43 1 (nI (tl + 1)) k = c k := fun k h1 h2 => by rw [up2_o h1, up2_o h2]
          obtain ⟨⟨Y, P, hR⟩, hZ, iK, -, iW⟩ := hI
          refine ⟨⟨Y, P, RInv_cg (fun f _ => hc _ (by omega) (by omega)) hR⟩, ZR_cg (fun f _ => hc _ (by omega) (by omega)) hZ, ?_, ⟨tl + 1, by omega, up2_s, fun i hi => ?_⟩, by rw [hc 0 (by omega) (by omega), hc 51 (by omega) (by omega)]; exact iW⟩
          · rw [hc 0 (by omega) (by omega)]
            rcases iK with e | ⟨e, ⟨Y2, P2, i⟩, z⟩
            · exact Or.inl e
            · exact Or.inr ⟨e, ⟨Y2, P2, RInv_cg (fun f _ => hc _ (by omega) (by omega)) i⟩, ZR_cg (fun f _ => hc _ (by omega) (by omega)) z⟩
          · rw [up2_o (by decide)]
            by_cases e : i = tl
            · subst e; rw [up2_s]; exact ⟨j, hj, rfl⟩
            · rw [up2_i e]; exact hw i (by omega)
        · have hc : ∀ k, k ≠ 43 → k ≠ 44 → up2 (up2 c 44 tl (nI j)) 43 1 (nI (tl + 1)) k = c k := fun k h1 h2 => by rw [up2_o h1, up2_o h2]
          have hu : ∀ k, k ≠ 53 → k ≠ 66 → up2 (up2 u 66 tl (nI j)) 53 20 (nI (tl + 1)) k = u k := fun k h1 h2 => by rw [up2_o h1, up2_o h2]
          have hs : ∀ i, i ≠ 20 → up2 (up2 u 66 tl (nI j)) 53 20 (nI (tl + 1)) 53 i = u 53 i := fun i hi => by rw [up2_i hi, up2_o (by decide)]
          obtain ⟨m1, w2, w3, w4, w5, w6, w7, w8, w9⟩ := hM
          refine ⟨MX_cg (fun f _ => hc _ (by omega) (by omega)) (fun k h1 h2 _ => hu k (by omega) (by omega)) (hs 12 (by decide)) (hs 13 (by decide)) (hs 14 (by decide)) (hs 15 (by decide)) m1, by rw [hu 57 (by omega) (by omega), hc 4 (by omega) (by omega)]; exact w2, by rw [hu 54 (by omega) (by omega), hc 52 (by omega) (by omega)]; exact w3, ?_, by rw [up2_s, up2_s], by rw [hu 73 (by omega) (by omega), hc 51 (by omega) (by omega)]; exact w6, by rw [hs 34 (by decide), hc 0 (by omega) (by omega)]; exact w7, by rw [hs 24 (by decide), hc 0 (by omega) (by omega)]; exact w8, ?_⟩
          · rw [up2_o (show (66 : Nat) ≠ 53 by decide), up2_o (show (44 : Nat) ≠ 43 by decide)]
            funext i
            by_cases e : i = tl
            · subst e; rw [up2_s, up2_s]
            · rw [up2_i e, up2_i e, w4]
          · intro e
            rw [hc 0 (by omega) (by omega)] at e
            exact KI_cg (fun f _ => hc _ (by omega) (by omega)) (fun i _ => by rw [hu 70 (by omega) (by omega)]) (w9 e)
    · have hb : zX5_bound n u a 0 255 = some (-6) := by unfold zX5_bound; rw [if_pos h0, if_neg h6]
      have h7 : (255 : Int32) < a := by
        rw [fa_le'] at h6
        rw [fa_lt']
        omega
      refine opt_ref 6 (by decide) (n := n) hI hM ?_ ?_
      · simp only [zX4_feed, if_pos h0, if_pos h7]
        rfl
      · simp only [zX5_feed, hb, Option.bind_some]
        rfl
  · have hb : zX5_bound n u a 0 255 = some (-4) := by unfold zX5_bound; rw [if_neg h0]
    refine opt_ref 4 (by decide) (n := n) hI hM ?_ ?_
    · simp only [zX4_feed, if_neg h0]
      rfl
    · simp only [zX5_feed, hb, Option.bind_some]
      rfl
