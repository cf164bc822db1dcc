/-! ===== river: both together ===== -/
/-- the model's keep and put back, at the second place -/
theorem keep1 {n : Nat} {u : MU} (hn : 60 ≤ n) : ∃ u', zX5_passesAll n u 1 1 = some u' ∧ (∀ k, k ≠ 53 → k ≠ 70 → u' k = u k) ∧ (∀ i, i ≠ 25 → i ≠ 26 → u' 53 i = u 53 i) ∧ (∀ i, i < 170 → u' 70 i = u 70 i) ∧
    (∀ i, i < 5 → u' 70 (170 + i) = u 55 i ∧ u' 70 (175 + i) = u 56 i ∧ u' 70 (180 + i) = u 57 i) ∧
    (∀ i, i < 7 → u' 70 (185 + i) = u 58 i ∧ u' 70 (192 + i) = u 59 i ∧ u' 70 (199 + i) = u 60 i ∧ u' 70 (206 + i) = u 61 i ∧ u' 70 (213 + i) = u 62 i ∧ u' 70 (220 + i) = u 63 i) ∧
    (∀ i, i < 49 → u' 70 (227 + i) = u 64 i ∧ u' 70 (276 + i) = u 65 i) ∧ (u' 70 325 = u 53 12 ∧ u' 70 326 = u 53 13 ∧ u' 70 327 = u 53 14 ∧ u' 70 328 = u 53 15) := by
  obtain ⟨u', g1, ⟨g2, g3, g4, g5, g6, g7, g8⟩, g9⟩ := zX5_passesAll_keep (n := n) (w := 1) (u := u) (by omega) hn
  refine ⟨u', g1, g4, g5, fun i hi => g7 i (by omega), fun i hi => ⟨?_, ?_, ?_⟩, fun i hi => ⟨?_, ?_, ?_, ?_, ?_, ?_⟩, fun i hi => ⟨?_, ?_⟩, ?_, ?_, ?_, ?_⟩
  · exact (g6 (55, 5, 170 * 1) (by simp)).2.2 i hi
  · exact (g6 (56, 5, 170 * 1 + 5) (by simp)).2.2 i hi
  · exact (g6 (57, 5, 170 * 1 + 5 + 5) (by simp)).2.2 i hi
  · exact (g6 (58, 7, 170 * 1 + 5 + 5 + 5) (by simp)).2.2 i hi
  · exact (g6 (59, 7, 170 * 1 + 5 + 5 + 5 + 7) (by simp)).2.2 i hi
  · exact (g6 (60, 7, 170 * 1 + 5 + 5 + 5 + 7 + 7) (by simp)).2.2 i hi
  · exact (g6 (61, 7, 170 * 1 + 5 + 5 + 5 + 7 + 7 + 7) (by simp)).2.2 i hi
  · exact (g6 (62, 7, 170 * 1 + 5 + 5 + 5 + 7 + 7 + 7 + 7) (by simp)).2.2 i hi
  · exact (g6 (63, 7, 170 * 1 + 5 + 5 + 5 + 7 + 7 + 7 + 7 + 7) (by simp)).2.2 i hi
  · exact (g6 (64, 49, 170 * 1 + 5 + 5 + 5 + 7 + 7 + 7 + 7 + 7 + 7) (by simp)).2.2 i hi
  · exact (g6 (65, 49, 170 * 1 + 5 + 5 + 5 + 7 + 7 + 7 + 7 + 7 + 7 + 49) (by simp)).2.2 i hi
  · exact (g9 (12, 170 * 1 + 155) (by simp)).2.2
  · exact (g9 (13, 170 * 1 + 155 + 1) (by simp)).2.2
  · exact (g9 (14, 170 * 1 + 155 + 1 + 1) (by simp)).2.2
  · exact (g9 (15, 170 * 1 + 155 + 1 + 1 + 1) (by simp)).2.2
theorem back1 {n : Nat} {u : MU} (hn : 60 ≤ n) : ∃ u', zX5_passesAll n u 1 0 = some u' ∧
    (∀ k, k ≠ 53 → (k < 55 ∨ 65 < k) → u' k = u k) ∧ (∀ i, i ≠ 25 → i ≠ 26 → (i < 12 ∨ 15 < i) → u' 53 i = u 53 i) ∧
    (∀ i, u' 55 i = if i < 5 then u 70 (170 + i) else u 55 i) ∧ (∀ i, u' 56 i = if i < 5 then u 70 (175 + i) else u 56 i) ∧ (∀ i, u' 57 i = if i < 5 then u 70 (180 + i) else u 57 i) ∧
    (∀ i, i < 7 → u' 58 i = u 70 (185 + i) ∧ u' 59 i = u 70 (192 + i) ∧ u' 60 i = u 70 (199 + i) ∧ u' 61 i = u 70 (206 + i) ∧ u' 62 i = u 70 (213 + i) ∧ u' 63 i = u 70 (220 + i)) ∧
    (∀ i, i < 49 → u' 64 i = u 70 (227 + i)) ∧ (∀ i, u' 65 i = if i < 49 then u 70 (276 + i) else u 65 i) ∧
    u' 53 12 = u 70 325 ∧ u' 53 13 = u 70 326 ∧ u' 53 14 = u 70 327 ∧ u' 53 15 = u 70 328 := by
  obtain ⟨u', g1, g2, g3, g4, g5, g6, g7⟩ := zX5_passesAll_back (n := n) (w := 1) (u := u) (by omega) hn
  have row : ∀ (q N s i : Nat), (q, N, s) ∈ [(65, 49, 170 * 1 + 5 + 5 + 5 + 7 + 7 + 7 + 7 + 7 + 7 + 49), (64, 49, 170 * 1 + 5 + 5 + 5 + 7 + 7 + 7 + 7 + 7 + 7), (63, 7, 170 * 1 + 5 + 5 + 5 + 7 + 7 + 7 + 7 + 7), (62, 7, 170 * 1 + 5 + 5 + 5 + 7 + 7 + 7 + 7), (61, 7, 170 * 1 + 5 + 5 + 5 + 7 + 7 + 7), (60, 7, 170 * 1 + 5 + 5 + 5 + 7 + 7), (59, 7, 170 * 1 + 5 + 5 + 5 + 7), (58, 7, 170 * 1 + 5 + 5 + 5), (57, 5, 170 * 1 + 5 + 5), (56, 5, 170 * 1 + 5), (55, 5, 170 * 1)] → i < N → u' q i = u 70 (s + i) := fun q N s i hm hi => by
    have := (g6 (q, N, s) hm).2.2 i
    rw [if_pos hi] at this
    exact this
  refine ⟨u', g1, fun k h1 h2 => g4 k h1 (by simp; omega), fun i h1 h2 h3 => g5 i h1 h2 (by simp; omega), fun i => ?_, fun i => ?_, fun i => ?_, fun i hi => ⟨row 58 7 _ i (by simp) hi, row 59 7 _ i (by simp) hi, row 60 7 _ i (by simp) hi, row 61 7 _ i (by simp) hi, row 62 7 _ i (by simp) hi, row 63 7 _ i (by simp) hi⟩, fun i hi => row 64 49 _ i (by simp) hi, fun i => ?_, ?_, ?_, ?_, ?_⟩
  · exact (g6 (55, 5, 170 * 1) (by simp)).2.2 i
  · exact (g6 (56, 5, 170 * 1 + 5) (by simp)).2.2 i
  · exact (g6 (57, 5, 170 * 1 + 5 + 5) (by simp)).2.2 i
  · exact (g6 (65, 49, 170 * 1 + 5 + 5 + 5 + 7 + 7 + 7 + 7 + 7 + 7 + 49) (by simp)).2.2 i
  · exact (g7 (12, 170 * 1 + 5 + 5 + 5 + 7 + 7 + 7 + 7 + 7 + 7 + 49 + 49) (by simp)).2.2
  · exact (g7 (13, 170 * 1 + 5 + 5 + 5 + 7 + 7 + 7 + 7 + 7 + 7 + 49 + 49 + 1) (by simp)).2.2
  · exact (g7 (14, 170 * 1 + 5 + 5 + 5 + 7 + 7 + 7 + 7 + 7 + 7 + 49 + 49 + 1 + 1) (by simp)).2.2
  · exact (g7 (15, 170 * 1 + 5 + 5 + 5 + 7 + 7 + 7 + 7 + 7 + 7 + 49 + 49 + 1 + 1 + 1) (by simp)).2.2
/-- what the model's memory must hold still of the river at 1 -/
theorem MX_pt {c u u' : MU} (hX : MX c 1 u) (h53 : ∀ i, 12 ≤ i → i ≤ 15 → u' 53 i = u 53 i) (h55 : u' 55 = u 55) (h56 : u' 56 = u 56) (h65 : u' 65 = u 65) (hp : ∀ i, i < 7 → u' 58 i = u 58 i ∧ u' 59 i = u 59 i ∧ u' 60 i = u 60 i ∧ u' 61 i = u 61 i ∧ u' 62 i = u 62 i ∧ u' 63 i = u 63 i) (h64 : ∀ i, i < 49 → u' 64 i = u 64 i) : MX c 1 u' := by
  obtain ⟨m1, m2, m3, m4, m5, m6⟩ := hX
  refine ⟨by rw [h53 12 (by omega) (by omega), h53 13 (by omega) (by omega), h53 14 (by omega) (by omega), h53 15 (by omega) (by omega)]; exact m1, by rw [h55]; exact m2, by rw [h56]; exact m3, by rw [h65]; exact m4, fun p hq => ?_, fun a b ha hb => by rw [h64 _ (by omega)]; exact m6 a b ha hb⟩
  obtain ⟨a1, a2, a3, a4, a5, a6⟩ := hp p hq
  rw [a1, a2, a3, a4, a5, a6]
  exact m5 p hq
theorem river_neg {n : Nat} {c c1 c' : MU} {v : Int32} (h1 : zX0_firstWrong n c = some (-9)) (h2 : zX3_copyFrom n c 15 1 = some c1) (h3 : zX0_tellTo n c1 15 = some (v, c')) (hv : v < 0) : zX4_river n c = some (v, up2 c' 43 1 0) := by
  unfold zX4_river zX4_tellRiver
  rw [h1, Option.bind_some, if_pos rfl, h2, Option.bind_some, h3, Option.bind_some]
  show Option.bind (if v < 0 then some (v, c') else Option.bind (zX3_copyFrom n c' 1 15) (fun q10 => some (v, q10))) (fun q1 => letb q1.1 (fun x3 => letb (up2 q1.2 43 1 0) (fun u4 => some (x3, u4)))) = some (v, up2 c' 43 1 0)
  rw [if_pos hv, Option.bind_some]
  rfl
set_option maxHeartbeats 1000000 in
theorem op_river (n : Nat) (hn : 100 ≤ n) : OPT (fun c => zX4_river n c) (fun u => zX5_river n u) := by
  intro c u hI hM
  obtain ⟨⟨Y, P, hR⟩, hZ, iK, ⟨L, hL, eL, hd⟩, iW⟩ := id hI
  obtain ⟨hX, w2, w3, w4, w5, w6, w7, w8, w9⟩ := id hM
  have hT : TP c L (fun i => (c 44 i).toNatClampNeg) := ⟨eL, hL, fun i hi => by
    obtain ⟨k, hk, e⟩ := hd i hi
    show (c 44 i).toNatClampNeg ≤ 255 ∧ c 44 i = nI ((c 44 i).toNatClampNeg)
    rw [e, tn_nI (by omega)]
    exact ⟨hk, rfl⟩⟩
  generalize (fun i => (c 44 i).toNatClampNeg) = t at hT
  obtain ⟨K, hK, hg, hb⟩ := K_ex (L := L) (t := t) hL
  have hfw := firstWrong_eq (n := n) hT hK hg hb hn
  obtain ⟨-, hsK⟩ := sq_ge K hg
  have uk0 : ∀ k, k ≠ 53 → up2 (up2 u 53 21 0) 53 22 0 k = u k := fun k hk => by rw [up2_o hk, up2_o hk]
  have u530 : ∀ i, i ≠ 21 → i ≠ 22 → up2 (up2 u 53 21 0) 53 22 0 53 i = u 53 i := fun i a b => by rw [up2_i b, up2_i a]
  have hTM : TM (up2 (up2 u 53 21 0) 53 22 0) L t := ⟨by rw [u530 20 (by decide) (by decide), w5]; exact eL, hL, fun i hi => by rw [uk0 66 (by decide), w4]; exact hT.2.2 i hi⟩
  have hmod := river_L (n := n) (w0 := up2 (up2 u 53 21 0) 53 22 0) (k := fun y18 w19 => letb (up2 w19 53 20 0) (fun u20 => if y18 = 0 then (some (((-1000) - (u20 53 21)), u20)) else (Option.bind (zX5_passesAll n u20 1 1) (fun q22 => zX5_river_L86 n (fun y31 w32 => some ((w32 53 22), w32)) n 0 q22)))) hL hK hg hb (by omega) K 0 n (up2 (up2 u 53 21 0) 53 22 0) (by omega) (by omega) ⟨fun _ _ _ _ _ => rfl, fun _ _ _ => rfl⟩ hTM (by rw [up2_i (by decide), up2_s]; rfl) (by rw [up2_s]; rfl) (fun i hi => absurd hi (by omega))
  have hriv : zX5_river n u = zX5_river_L12 n (fun y18 w19 => letb (up2 w19 53 20 0) (fun u20 => if y18 = 0 then (some (((-1000) - (u20 53 21)), u20)) else (Option.bind (zX5_passesAll n u20 1 1) (fun q22 => zX5_river_L86 n (fun y31 w32 => some ((w32 53 22), w32)) n 0 q22)))) n 1 (up2 (up2 u 53 21 0) 53 22 0) := rfl
  rcases hmod with ⟨hbad, w', hPF, h21, hrun⟩ | ⟨hgood, w', hPF, h22, hRC, hrun⟩
  · have he := er_le (L := L) (t := t) (s := sq L t K) (by omega) (fun h => (hT.2.2 _ h).1)
    rw [if_pos hbad] at hfw
    have hc : ∀ k, k ≠ 43 → up2 c 43 1 0 k = c k := fun k hk => up2_o hk
    have huk : ∀ k, k ≠ 53 → k ≠ 67 → k ≠ 68 → k ≠ 69 → up2 w' 53 20 0 k = u k := fun k a b d e => by rw [up2_o a, hPF.1 k a b d e, uk0 k a]
    have hu53 : ∀ i, i ≠ 20 → i ≠ 21 → i ≠ 22 → up2 w' 53 20 0 53 i = u 53 i := fun i a b d => by rw [up2_i a, hPF.2 i b d, u530 i b d]
    obtain ⟨q1, q2⟩ := R_new (c' := up2 c 43 1 0) (u' := up2 w' 53 20 0) hI hM (RInv_cg (fun f hf => hc _ (by omega)) hR) (ZR_cg (fun f hf => hc _ (by omega)) hZ) (MX_cg (fun f hf => hc _ (by omega)) (fun k h1 h2 _ => huk k (by omega) (by omega) (by omega) (by omega)) (hu53 12 (by decide) (by decide) (by decide)) (hu53 13 (by decide) (by decide) (by decide)) (hu53 14 (by decide) (by decide) (by decide)) (hu53 15 (by decide) (by decide) (by decide)) hX) (by rw [huk 57 (by decide) (by decide) (by decide) (by decide), hc 4 (by decide)]; exact w2) (fun k hk => hc k (by omega)) up2_s (fun k hk => huk k (by omega) (by omega) (by omega) (by omega)) (fun i _ => by rw [huk 70 (by decide) (by decide) (by decide) (by decide)]) up2_s (hu53 24 (by decide) (by decide) (by decide)) (hu53 34 (by decide) (by decide) (by decide))
    refine ⟨(-1000) - nI (er L t (sq L t K)), up2 c 43 1 0, up2 w' 53 20 0, ?_, ?_, q1, q2⟩
    · show zX4_river n c = _
      unfold zX4_river zX4_tellRiver
      rw [hfw, Option.bind_some, if_neg (m9_ne' (by omega)), Option.bind_some]
      rfl
    · show zX5_river n u = _
      rw [hriv, hrun]
      simp only [letb, if_true]
      rw [up2_i (by decide), h21]
  · have hgK : ¬ sq L t K < L := fun z => hgood (Or.inr z)
    rw [if_neg hgood] at hfw
    obtain ⟨c1, d1, d2⟩ := zX3_copyFrom_eq (n := n) (r := 15) (r1 := 1) (u := c) (by omega) (fun q hq => (hR.2.2.2.2.1 q hq).2.2.2.2.2) (by omega)
    have hE1 : RvE c1 15 c 1 := fun f b hb => by
      rw [d2, if_pos ⟨by omega, by rw [Nat.add_sub_cancel_left]; exact hb⟩, Nat.add_sub_cancel_left]
    have hF1 : FCr 15 c c1 := fun k hk => by
      funext b
      rw [d2]
      by_cases q : 15 ≤ k ∧ inRv (k - 15) b = true
      · exact absurd q.2 (inRv_hi (by omega))
      · rw [if_neg q]
    have hR1 : RInv c1 15 Y P := RInv_tr hE1 hR
    obtain ⟨uk, k1, k2, k3, k4, k5, k6, k7, k8⟩ := keep1 (n := n) (u := up2 w' 53 20 0) (by omega)
    have huk : ∀ k, k ≠ 53 → k ≠ 67 → k ≠ 68 → k ≠ 69 → up2 w' 53 20 0 k = u k := fun k a b d e => by rw [up2_o a, hPF.1 k a b d e, uk0 k a]
    have hu53 : ∀ i, i ≠ 20 → i ≠ 21 → i ≠ 22 → up2 w' 53 20 0 53 i = u 53 i := fun i a b d => by rw [up2_i a, hPF.2 i b d, u530 i b d]
    have vk : ∀ k, k ≠ 53 → k ≠ 67 → k ≠ 68 → k ≠ 69 → k ≠ 70 → uk k = u k := fun k a b d e f => by rw [k2 k a f]; exact huk k a b d e
    have v53 : ∀ i, i ≠ 20 → i ≠ 21 → i ≠ 22 → i ≠ 25 → i ≠ 26 → uk 53 i = u 53 i := fun i a b d e f => by rw [k3 i e f]; exact hu53 i a b d
    have hMW : MW c1 15 uk := by
      refine ⟨⟨?_, ?_, ?_, ?_⟩, fun i hi => ?_, fun i hi => ?_, fun p hp => ?_, fun a b ha hb => ?_⟩
      · rw [v53 12 (by decide) (by decide) (by decide) (by decide) (by decide), RvE_0 hE1 (by omega)]; exact hX.1.1
      · rw [v53 13 (by decide) (by decide) (by decide) (by decide) (by decide), RvE_0 hE1 (by omega)]; exact hX.1.2.1
      · rw [v53 14 (by decide) (by decide) (by decide) (by decide) (by decide), RvE_0 hE1 (by omega)]; exact hX.1.2.2.1
      · rw [v53 15 (by decide) (by decide) (by decide) (by decide) (by decide), RvE_0 hE1 (by omega)]; exact hX.1.2.2.2
      · rw [vk 55 (by decide) (by decide) (by decide) (by decide) (by decide), vk 56 (by decide) (by decide) (by decide) (by decide) (by decide), vk 57 (by decide) (by decide) (by decide) (by decide) (by decide), hE1 1 i (inRv_y (by omega) hi), hE1 2 i (inRv_y (by omega) hi), hE1 3 i (inRv_y (by omega) hi), hX.2.1, hX.2.2.1, w2]
        exact ⟨rfl, rfl, rfl⟩
      · rw [vk 65 (by decide) (by decide) (by decide) (by decide) (by decide), hE1 6 i (inRv_6 hi), hX.2.2.2.1]
      · rw [vk 58 (by decide) (by decide) (by decide) (by decide) (by decide), vk 59 (by decide) (by decide) (by decide) (by decide) (by decide), vk 60 (by decide) (by decide) (by decide) (by decide) (by decide), vk 61 (by decide) (by decide) (by decide) (by decide) (by decide), vk 62 (by decide) (by decide) (by decide) (by decide) (by decide), vk 63 (by decide) (by decide) (by decide) (by decide) (by decide), RvE_p hE1 hp (by omega), RvE_p hE1 hp (by omega), RvE_p hE1 hp (by omega), RvE_p hE1 hp (by omega), RvE_p hE1 hp (by omega), RvE_p hE1 hp (by omega)]
        exact hX.2.2.2.2.1 p hp
      · rw [vk 64 (by decide) (by decide) (by decide) (by decide) (by decide), gb_tr hE1 ha]
        exact hX.2.2.2.2.2 a b ha hb
    have hRCk : ∀ i, i < K → RC L t uk i := fun i hi => by
      unfold RC
      rw [k2 67 (by decide) (by decide), k2 68 (by decide) (by decide), k2 69 (by decide) (by decide), up2_o (show (67 : Nat) ≠ 53 by decide), up2_o (show (68 : Nat) ≠ 53 by decide), up2_o (show (69 : Nat) ≠ 53 by decide)]
      exact hRC i hi
    have h22k : uk 53 22 = nI K := by rw [k3 22 (by decide) (by decide), up2_i (by decide)]; exact h22
    have hT1 := FC_TP hF1 hT
    have hmrun : zX5_river n u = zX5_river_L86 n (fun y31 w32 => some ((w32 53 22), w32)) n 0 uk := by
      rw [hriv, hrun]
      simp only [letb]
      rw [if_neg (by decide), k1, Option.bind_some]
    rcases tell_all (n := n) hK hg hgK (by omega) K 0 n c1 uk Y P (by omega) (by omega) hR1 hMW hT1 hRCk h22k with ⟨c', u', Y', P', f1, f2, f3, f4, f5, f6⟩ | ⟨i, c', u', fi, f1, f2, f5, f6⟩
    · rw [nI_0] at f2
      have f1' : zX0_tellTo n c1 15 = some (nI K, c') := f1
      obtain ⟨c3, e1, e2⟩ := zX3_copyFrom_eq (n := n) (r := 1) (r1 := 15) (u := c') (by omega) (fun q hq => (f3.2.2.2.2.1 q hq).2.2.2.2.2) (by omega)
      have hE3 : RvE c3 1 c' 15 := fun f b hb => by
        rw [e2, if_pos ⟨by omega, by rw [Nat.add_sub_cancel_left]; exact hb⟩, Nat.add_sub_cancel_left]
      have hlo : ∀ k, (k = 0 ∨ 29 ≤ k) → c3 k = c k := fun k hk => by
        rw [← hF1 k (by omega), ← f5 k (by omega)]
        funext b
        rw [e2]
        by_cases q : 1 ≤ k ∧ inRv (k - 1) b = true
        · exact absurd q.2 (inRv_hi (by omega))
        · rw [if_neg q]
      have htail : ∀ f b, ¬ inRv f b = true → f < 14 → c3 (1 + f) b = c (1 + f) b := fun f b hb hf => by
        rw [← hF1 (1 + f) (by omega), ← f5 (1 + f) (by omega), e2, if_neg]
        rintro ⟨-, z⟩
        rw [Nat.add_sub_cancel_left] at z
        exact hb z
      have hc : ∀ k, k ≠ 43 → up2 c3 43 1 0 k = c3 k := fun k hk => up2_o hk
      have hR3 : RInv (up2 c3 43 1 0) 1 Y' P' := RInv_cg (fun f hf => hc _ (by omega)) (RInv_tr hE3 f3)
      have nin_y : ∀ f i, (f = 1 ∨ f = 2 ∨ f = 3) → 5 ≤ i → ¬ inRv f i = true := fun f i hf hi z => by
        have := of_decide_eq_true z
        omega
      have nin_6 : ∀ i, 49 ≤ i → ¬ inRv 6 i = true := fun i hi z => by
        have := of_decide_eq_true z
        omega
      have hZ3 : ZR (up2 c3 43 1 0) 1 := ⟨fun i h1 h2 => by
        rw [hc _ (by omega), hc _ (by omega), hc _ (by omega), htail 1 i (nin_y 1 i (by omega) h1) (by omega), htail 2 i (nin_y 2 i (by omega) h1) (by omega), htail 3 i (nin_y 3 i (by omega) h1) (by omega)]
        exact hZ.1 i h1 h2, fun i h1 h2 => by
        rw [hc _ (by omega), htail 6 i (nin_6 i h1) (by omega)]
        exact hZ.2 i h1 h2⟩
      obtain ⟨m1, m2, m3, m4, m5⟩ := f4
      obtain ⟨f61, f62, f63, f64⟩ := f6
      have hX3 : MX (up2 c3 43 1 0) 1 u' := by
        refine ⟨?_, ?_, ?_, ?_, fun p hp => ?_, fun a b ha hb => ?_⟩
        · rw [hc 1 (by decide), RvE_0 hE3 (by omega), RvE_0 hE3 (by omega), RvE_0 hE3 (by omega), RvE_0 hE3 (by omega)]; exact m1
        · rw [hc _ (by omega)]
          funext i
          by_cases q : i < 5
          · rw [hE3 1 i (inRv_y (by omega) q)]; exact (m2 i q).1
          · rw [(f63 i (by omega)).1, vk 55 (by decide) (by decide) (by decide) (by decide) (by decide), hX.2.1, htail 1 i (nin_y 1 i (by omega) (by omega)) (by omega)]
        · rw [hc _ (by omega)]
          funext i
          by_cases q : i < 5
          · rw [hE3 2 i (inRv_y (by omega) q)]; exact (m2 i q).2.1
          · rw [(f63 i (by omega)).2.1, vk 56 (by decide) (by decide) (by decide) (by decide) (by decide), hX.2.2.1, htail 2 i (nin_y 2 i (by omega) (by omega)) (by omega)]
        · rw [hc _ (by omega)]
          funext i
          by_cases q : i < 49
          · rw [hE3 6 i (inRv_6 q)]; exact m3 i q
          · rw [f64 i (by omega), vk 65 (by decide) (by decide) (by decide) (by decide) (by decide), hX.2.2.2.1, htail 6 i (nin_6 i (by omega)) (by omega)]
        · rw [hc _ (by omega), RvE_p hE3 hp (by omega), RvE_p hE3 hp (by omega), RvE_p hE3 hp (by omega), RvE_p hE3 hp (by omega), RvE_p hE3 hp (by omega), RvE_p hE3 hp (by omega)]
          exact m4 p hp
        · have : gb (up2 c3 43 1 0) 1 a b = gb c3 1 a b := by unfold gb; rw [hc _ (by omega)]
          rw [this, gb_tr hE3 ha]
          exact m5 a b ha hb
      have h57 : u' 57 = up2 c3 43 1 0 4 := by
        rw [hc 4 (by decide)]
        funext i
        by_cases q : i < 5
        · rw [(m2 i q).2.2]; exact (hE3 3 i (inRv_y (by omega) q)).symm
        · rw [(f63 i (by omega)).2.2, vk 57 (by decide) (by decide) (by decide) (by decide) (by decide), w2]
          exact (htail 3 i (nin_y 3 i (by omega) (by omega)) (by omega)).symm
      obtain ⟨q1, q2⟩ := R_new (c' := up2 c3 43 1 0) (u' := u') hI hM hR3 hZ3 hX3 h57 (fun k hk => by rw [hc k (by omega)]; exact hlo k (by omega)) up2_s (fun k hk => by rw [f61 k (by omega) (by omega)]; exact vk k (by omega) (by omega) (by omega) (by omega) (by omega)) (fun i hi => by rw [f61 70 (by decide) (by omega), k4 i (by omega), huk 70 (by decide) (by decide) (by decide) (by decide)]) (by rw [f62 20 (by omega), k3 20 (by decide) (by decide), up2_s]) (by rw [f62 24 (by omega)]; exact v53 24 (by decide) (by decide) (by decide) (by decide) (by decide)) (by rw [f62 34 (by omega)]; exact v53 34 (by decide) (by decide) (by decide) (by decide) (by decide))
      refine ⟨nI K, up2 c3 43 1 0, u', ?_, ?_, q1, q2⟩
      · show zX4_river n c = _
        unfold zX4_river zX4_tellRiver
        rw [hfw, Option.bind_some, if_pos rfl, d1, Option.bind_some, f1', Option.bind_some]
        simp only [letb]
        rw [if_neg (nI_pos (by omega)), e1, Option.bind_some, Option.bind_some]
      · show zX5_river n u = _
        rw [hmrun]
        exact f2
    · rw [nI_0] at f2
      have f1' : zX0_tellTo n c1 15 = some ((-2000) - nI (sq L t i), c') := f1
      have hsi := (hg i fi).1
      obtain ⟨q, b1, b2, b3, b4, b5, b6, b7, b8, b9, b10, b11, b12, b13⟩ := back1 (n := n) (u := u') (by omega)
      obtain ⟨f61, f62, f63, f64⟩ := f6
      have e70 : u' 70 = uk 70 := f61 70 (by decide) (by omega)
      have hq68 : q 68 i = nI (sq L t i) := by
        rw [b2 68 (by decide) (by omega), f61 68 (by decide) (by omega)]
        exact (hRCk i fi).2.1
      have hc : ∀ k, k ≠ 43 → (k < 15 ∨ 29 ≤ k) → up2 c' 43 1 0 k = c k := fun k hk h2 => by rw [up2_o hk, f5 k (by omega)]; exact hF1 k (by omega)
      have hXq : MX c 1 q := by
        refine MX_pt hX (fun x h1 h2 => ?_) ?_ ?_ ?_ (fun x hx => ?_) (fun x hx => ?_)
        · have : x = 12 ∨ x = 13 ∨ x = 14 ∨ x = 15 := by omega
          rcases this with rfl | rfl | rfl | rfl
          · rw [b10, e70, k8.1, hu53 12 (by decide) (by decide) (by decide)]
          · rw [b11, e70, k8.2.1, hu53 13 (by decide) (by decide) (by decide)]
          · rw [b12, e70, k8.2.2.1, hu53 14 (by decide) (by decide) (by decide)]
          · rw [b13, e70, k8.2.2.2, hu53 15 (by decide) (by decide) (by decide)]
        · funext x
          rw [b4]
          by_cases z : x < 5
          · rw [if_pos z, e70, (k5 x z).1, huk 55 (by decide) (by decide) (by decide) (by decide)]
          · rw [if_neg z, (f63 x (by omega)).1, vk 55 (by decide) (by decide) (by decide) (by decide) (by decide)]
        · funext x
          rw [b5]
          by_cases z : x < 5
          · rw [if_pos z, e70, (k5 x z).2.1, huk 56 (by decide) (by decide) (by decide) (by decide)]
          · rw [if_neg z, (f63 x (by omega)).2.1, vk 56 (by decide) (by decide) (by decide) (by decide) (by decide)]
        · funext x
          rw [b9]
          by_cases z : x < 49
          · rw [if_pos z, e70, (k7 x z).2, huk 65 (by decide) (by decide) (by decide) (by decide)]
          · rw [if_neg z, f64 x (by omega), vk 65 (by decide) (by decide) (by decide) (by decide) (by decide)]
        · obtain ⟨y1, y2, y3, y4, y5, y6⟩ := b7 x hx
          obtain ⟨x1, x2, x3, x4, x5, x6⟩ := k6 x hx
          rw [y1, y2, y3, y4, y5, y6, e70, x1, x2, x3, x4, x5, x6, huk 58 (by decide) (by decide) (by decide) (by decide), huk 59 (by decide) (by decide) (by decide) (by decide), huk 60 (by decide) (by decide) (by decide) (by decide), huk 61 (by decide) (by decide) (by decide) (by decide), huk 62 (by decide) (by decide) (by decide) (by decide), huk 63 (by decide) (by decide) (by decide) (by decide)]
          exact ⟨rfl, rfl, rfl, rfl, rfl, rfl⟩
        · rw [b8 x hx, e70, (k7 x hx).1, huk 64 (by decide) (by decide) (by decide) (by decide)]
      have h57 : q 57 = up2 c' 43 1 0 4 := by
        rw [hc 4 (by decide) (by omega), ← w2]
        funext x
        rw [b6]
        by_cases z : x < 5
        · rw [if_pos z, e70, (k5 x z).2.2, huk 57 (by decide) (by decide) (by decide) (by decide)]
        · rw [if_neg z, (f63 x (by omega)).2.2, vk 57 (by decide) (by decide) (by decide) (by decide) (by decide)]
      obtain ⟨q1, q2⟩ := R_new (c' := up2 c' 43 1 0) (u' := q) hI hM (RInv_cg (fun f hf => hc _ (by omega) (by omega)) hR) (ZR_cg (fun f hf => hc _ (by omega) (by omega)) hZ) (MX_cg (fun f hf => hc _ (by omega) (by omega)) (fun _ _ _ _ => rfl) rfl rfl rfl rfl hXq) h57 (fun k hk => hc k (by omega) (by omega)) up2_s (fun k hk => by rw [b2 k (by omega) (by omega), f61 k (by omega) (by omega)]; exact vk k (by omega) (by omega) (by omega) (by omega) (by omega)) (fun x hx => by rw [b2 70 (by decide) (by omega), e70, k4 x (by omega), huk 70 (by decide) (by decide) (by decide) (by decide)]) (by rw [b3 20 (by decide) (by decide) (by omega), f62 20 (by omega), k3 20 (by decide) (by decide), up2_s]) (by rw [b3 24 (by decide) (by decide) (by omega), f62 24 (by omega)]; exact v53 24 (by decide) (by decide) (by decide) (by decide) (by decide)) (by rw [b3 34 (by decide) (by decide) (by omega), f62 34 (by omega)]; exact v53 34 (by decide) (by decide) (by decide) (by decide) (by decide))
      refine ⟨(-2000) - nI (sq L t i), up2 c' 43 1 0, q, ?_, ?_, q1, q2⟩
      · exact river_neg hfw d1 f1' (m2_fin _ (by omega))
      · show zX5_river n u = _
        rw [hmrun, f2, b1, Option.bind_some, oob_no (show i < 40 by omega) (by omega), tn_nI (by omega), hq68]
        rfl
