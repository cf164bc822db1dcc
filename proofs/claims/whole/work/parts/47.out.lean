/-! ===== out ===== -/
theorem op_out (n : Nat) (hn : 10 ≤ n) : OPT (fun c => zX4_out n c) (fun u => zX5_out n u) := by
  intro c u hI hM
  obtain ⟨⟨Y, P, hR⟩, hZ, iK, iT, iW⟩ := id hI
  have hX := hM.1
  have hP7 := hR.1.2.2.1
  have hY5 := hR.1.2.1
  have hY := hR.1.2.2.2.1
  have hP := hR.1.2.2.2.2.1
  have cE : ∀ a b, fl 4 (-9) 5 0 c a b = if a = 4 ∧ b < 5 then -9 else c a b := fun a b => by
    by_cases h : a = 4
    · subst h
      rw [fl_in]
      by_cases h2 : b < 5
      · rw [if_pos (by omega), if_pos ⟨rfl, h2⟩]
      · rw [if_neg (by omega), if_neg (fun z => h2 z.2)]
    · rw [fl_o h, if_neg (fun z => h z.1)]
  have cF : ∀ a b, flp P 0 (fl 4 (-9) 5 0 c) a b = if 8 ≤ a ∧ a < 8 + P ∧ b = 5 then 0 else if a = 4 ∧ b < 5 then -9 else c a b := fun a b => by
    rw [flp_at, cE]
  have uF : ∀ a b, fl 63 0 P 0 (fl 57 (-9) Y 0 u) a b = if a = 63 ∧ b < P then 0 else if a = 57 ∧ b < Y then -9 else u a b := fun a b => by
    by_cases h : a = 63
    · subst h
      rw [fl_in]
      by_cases h2 : b < P
      · rw [if_pos (by omega), if_pos ⟨rfl, h2⟩]
      · rw [if_neg (by omega), if_neg (fun z => h2 z.2), fl_o (by decide), if_neg (fun z => absurd z.1 (by decide))]
    · rw [fl_o h, if_neg (fun z => h z.1)]
      by_cases h3 : a = 57
      · subst h3
        rw [fl_in]
        by_cases h2 : b < Y
        · rw [if_pos (by omega), if_pos ⟨rfl, h2⟩]
        · rw [if_neg (by omega), if_neg (fun z => h2 z.2)]
      · rw [fl_o h3, if_neg (fun z => h3 z.1)]
  have cO : ∀ a, a ≠ 4 → (a < 8 ∨ 15 ≤ a) → flp P 0 (fl 4 (-9) 5 0 c) a = c a := fun a h1 h2 => by
    funext b
    rw [cF, if_neg (by omega), if_neg (fun z => h1 z.1)]
  have uO : ∀ a, a ≠ 57 → a ≠ 63 → fl 63 0 P 0 (fl 57 (-9) Y 0 u) a = u a := fun a h1 h2 => by
    rw [fl_o h2, fl_o h1]
  have per : ∀ p, p < 7 → ∀ j, j ≠ 5 → flp P 0 (fl 4 (-9) 5 0 c) (8 + p) j = c (8 + p) j := fun p hp j hj => by
    rw [cF, if_neg (fun z => hj z.2.2), if_neg (by omega)]
  have ov : ∀ p, p < 7 → flp P 0 (fl 4 (-9) 5 0 c) (8 + p) 5 = if p < P then 0 else c (8 + p) 5 := fun p hp => by
    rw [cF]
    by_cases h : p < P
    · rw [if_pos (by omega), if_pos h]
    · rw [if_neg (by omega), if_neg (by omega), if_neg h]
  refine ⟨inW c 1 Y + ovT c 1 P, flp P 0 (fl 4 (-9) 5 0 c), fl 63 0 P 0 (fl 57 (-9) Y 0 u), ?_, ?_, ?_, ?_⟩
  · show zX4_out n c = _
    unfold zX4_out
    rw [zX3_inWater_eq (r := 1) hY hY5 hn, Option.bind_some, zX3_overThere_eq (r := 1) hP hP7 hn, Option.bind_some, zX3_emptyWater_eq (r := 1) hn]
    simp only [letb, Option.bind_some]
    have h := zX4_out_L (n := n) (s := inW c 1 Y + ovT c 1 P) (k := fun y11 w12 => some (inW c 1 Y + ovT c 1 P, w12)) hP7 P 0 n (fl (1 + 3) (-9) 5 0 c) (by rw [fl_o (by decide)]; exact hP) (by omega) (by omega)
    rw [nI_0] at h
    exact h
  · show zX5_out n u = _
    unfold zX5_out
    rw [zX5_wetMany_eq (n := n) hR hX hM.2.1 hn, Option.bind_some, zX5_overMany_eq (n := n) hR hX hn, Option.bind_some]
    simp only [letb]
    have h := zX5_out_La (n := n) (s := inW c 1 Y + ovT c 1 P) (k := fun y9 w10 => zX5_out_L36 n (inW c 1 Y + ovT c 1 P) (fun y14 w15 => some (inW c 1 Y + ovT c 1 P, w15)) n 0 w10) hY5 Y 0 n u (hX.1.1.trans hY) (by omega) (by omega)
    rw [nI_0] at h
    rw [h]
    have h2 := zX5_out_Lb (n := n) (s := inW c 1 Y + ovT c 1 P) (k := fun y14 w15 => some (inW c 1 Y + ovT c 1 P, w15)) hP7 P 0 n (fl 57 (-9) Y 0 u) (by rw [fl_o (by decide)]; exact hX.1.2.1.trans hP) (by omega) (by omega)
    rw [nI_0] at h2
    exact h2
  · refine ⟨⟨Y, P, ?_⟩, ?_, ?_, by rw [cO 43 (by decide) (by omega), cO 44 (by decide) (by omega)]; exact iT, by rw [cO 0 (by decide) (by omega), cO 51 (by decide) (by omega)]; exact iW⟩
    · obtain ⟨j1, j2, j3, j4, j5, j6, j7, j8⟩ := hR
      have hg : ∀ x y, gb (flp P 0 (fl 4 (-9) 5 0 c)) 1 x y = gb c 1 x y := fun x y => by unfold gb; rw [cO (1 + 5) (by decide) (by omega)]
      refine ⟨by rw [cO 1 (by decide) (by omega)]; exact j1, fun k hk => by rw [cO (1 + 1) (by decide) (by omega), cO (1 + 2) (by decide) (by omega)]; exact j2 k hk, fun k hk => Or.inl ?_, fun i k hi hk _ => Or.inl ?_, fun p hp => ?_, fun a ha => by rw [cO (1 + 5) (by decide) (by omega)]; exact j6 a ha, fun a b ha hb => by rw [hg, hg]; exact j7 a b ha hb, fun a b ha hb => by rw [cO (1 + 6) (by decide) (by omega)]; exact j8 a b ha hb⟩
      · rw [cF, if_neg (by omega), if_pos ⟨rfl, hk⟩]
      · rw [cF, if_neg (by omega), if_pos ⟨rfl, hi⟩]
      · obtain ⟨p0, p1, p2, p3, p4, p5⟩ := j5 p hp
        refine ⟨by rw [per p hp 0 (by decide)]; exact p0, by rw [per p hp 1 (by decide)]; exact p1, by rw [per p hp 2 (by decide)]; exact p2, by rw [per p hp 3 (by decide)]; exact p3, by rw [per p hp 4 (by decide)]; exact p4, ?_⟩
        show flp P 0 (fl 4 (-9) 5 0 c) (8 + p) 5 = 0 ∨ flp P 0 (fl 4 (-9) 5 0 c) (8 + p) 5 = 1
        rw [ov p hp]
        split
        · exact Or.inl rfl
        · exact p5
    · refine ⟨fun i hi => ?_, fun i hi => by rw [cO (1 + 6) (by decide) (by omega)]; exact hZ.2 i hi⟩
      rw [cO (1 + 1) (by decide) (by omega), cO (1 + 2) (by decide) (by omega), cF, if_neg (by omega), if_neg (by omega)]
      exact hZ.1 i hi
    · rw [cO 0 (by decide) (by omega)]
      rcases iK with e | ⟨e, ⟨Y2, P2, i⟩, z⟩
      · exact Or.inl e
      · exact Or.inr ⟨e, ⟨Y2, P2, RInv_cg (fun f _ => cO _ (by omega) (by omega)) i⟩, ZR_cg (fun f _ => cO _ (by omega) (by omega)) z⟩
  · obtain ⟨⟨a1, m2, m3, m4, m5, m6⟩, w2, w3, w4, w5, w6, w7, w8, w9⟩ := hM
    have hg : ∀ x y, gb (flp P 0 (fl 4 (-9) 5 0 c)) 1 x y = gb c 1 x y := fun x y => by unfold gb; rw [cO (1 + 5) (by decide) (by omega)]
    refine ⟨⟨by rw [uO 53 (by decide) (by decide), cO 1 (by decide) (by omega)]; exact a1, by rw [uO 55 (by decide) (by decide), cO (1 + 1) (by decide) (by omega)]; exact m2, by rw [uO 56 (by decide) (by decide), cO (1 + 2) (by decide) (by omega)]; exact m3, by rw [uO 65 (by decide) (by decide), cO (1 + 6) (by decide) (by omega)]; exact m4, fun p hp => ?_, fun a b ha hb => by rw [uO 64 (by decide) (by decide), hg]; exact m6 a b ha hb⟩, ?_, by rw [uO 54 (by decide) (by decide), cO 52 (by decide) (by omega)]; exact w3, by rw [uO 66 (by decide) (by decide), cO 44 (by decide) (by omega)]; exact w4, by rw [uO 53 (by decide) (by decide), cO 43 (by decide) (by omega)]; exact w5, by rw [uO 73 (by decide) (by decide), cO 51 (by decide) (by omega)]; exact w6, by rw [uO 53 (by decide) (by decide), cO 0 (by decide) (by omega)]; exact w7, by rw [uO 53 (by decide) (by decide), cO 0 (by decide) (by omega)]; exact w8, ?_⟩
    · obtain ⟨p0, p1, p2, p3, p4, p5⟩ := m5 p hp
      refine ⟨?_, ?_, ?_, ?_, ?_, ?_⟩
      · rw [uO 58 (by decide) (by decide)]; exact p0.trans (per p hp 0 (by decide)).symm
      · rw [uO 59 (by decide) (by decide)]; exact p1.trans (per p hp 1 (by decide)).symm
      · rw [uO 60 (by decide) (by decide)]; exact p2.trans (per p hp 2 (by decide)).symm
      · rw [uO 61 (by decide) (by decide)]; exact p3.trans (per p hp 3 (by decide)).symm
      · rw [uO 62 (by decide) (by decide)]; exact p4.trans (per p hp 4 (by decide)).symm
      · show _ = flp P 0 (fl 4 (-9) 5 0 c) (8 + p) 5
        rw [ov p hp, uF]
        by_cases h : p < P
        · rw [if_pos ⟨rfl, h⟩, if_pos h]
        · rw [if_neg (fun z => h z.2), if_neg (fun z => absurd z.1 (by decide)), if_neg h]
          exact p5
    · funext b
      have e2 : flp P 0 (fl 4 (-9) 5 0 c) 4 b = if 4 = 4 ∧ b < 5 then -9 else c 4 b := by rw [cF, if_neg (by omega)]
      rw [uF, if_neg (fun z => absurd z.1 (by decide)), e2]
      by_cases h : b < Y
      · rw [if_pos ⟨rfl, h⟩, if_pos ⟨rfl, by omega⟩]
      · rw [if_neg (fun z => h z.2), w2]
        by_cases h5 : b < 5
        · rw [if_pos ⟨rfl, h5⟩]
          rcases hR.2.2.1 b h5 with e | ⟨hb, -⟩
          · exact e
          · exact absurd hb h
        · rw [if_neg (fun z => h5 z.2)]
    · intro e
      rw [cO 0 (by decide) (by omega)] at e
      exact KI_cg (fun f _ => cO _ (by omega) (by omega)) (fun i _ => by rw [uO 70 (by decide) (by decide)]) (w9 e)
