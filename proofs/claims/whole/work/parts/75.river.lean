/-! ===== river ===== -/
theorem TL_wc {r : Nat} {c u : MU} {fc fm : Option (Int32 × MU)} (h : TL r c u fc fm) : TL r c u (Option.bind fc (fun q => if q.1 = 0 ∨ q.1 = 1 then some (q.1, q.2) else none)) fm := by
  obtain ⟨v, c', u', Y', P', hv, h1, h2, h3⟩ := h
  refine ⟨v, c', u', Y', P', hv, ?_, h2, h3⟩
  rw [h1, Option.bind_some, if_pos hv]
theorem TL_wm {r : Nat} {c u : MU} {fc fm : Option (Int32 × MU)} (h : TL r c u fc fm) : TL r c u fc (Option.bind fm (fun q => if q.1 = 0 ∨ q.1 = 1 then some (q.1, q.2) else none)) := by
  obtain ⟨v, c', u', Y', P', hv, h1, h2, h3⟩ := h
  refine ⟨v, c', u', Y', P', hv, h1, ?_, h3⟩
  rw [h2, Option.bind_some, if_pos hv]
theorem le_cases : ∀ b, b < 256 → 0 < leN b → (b = 99 ∨ b = 100 ∨ b = 103 ∨ b = 105 ∨ b = 112 ∨ b = 121) := by decide +kernel
theorem wm_le {L : Nat} {t : Nat → Nat} {s : Nat} : wm L t s ≤ 99 := by
  have h1 := dv_le (L := L) (t := t) (s := s)
  have h2 := dv_le (L := L) (t := t) (s := s + 1)
  unfold wm
  split <;> omega
theorem warmthAt_eq {n : Nat} {c : MU} {L : Nat} {t : Nat → Nat} {s : Nat} (hT : TP c L t) (hs : s < 500) : zX0_warmthAt n c (nI s) = some (nI (wm L t s)) := by
  unfold zX0_warmthAt wm
  rw [nI_1, isDigit_eq hT (by omega), Option.bind_some, digit_eq hT (by omega), digit_eq hT (by omega)]
  by_cases h : dg L t (s + 1) = true
  · rw [if_pos h, if_neg (by decide), if_pos h, Option.bind_some, Option.bind_some, show (10 : Int32) = nI 10 from rfl, pk_mul, nI_add]
  · rw [if_neg h, if_pos rfl, if_neg h, Option.bind_some]
theorem tell_st {n : Nat} {c u : MU} {L Y P k0 : Nat} {t : Nat → Nat} (hI : RInv c 15 Y P) (hM : MW c 15 u) (hT : TP c L t) (hg : gdS L t (sq L t k0)) (hR : RC L t u k0) (hk0 : k0 < 39) (hn : 20 ≤ n) : TL 15 c u (zX0_tellStatement n c 15 (nI (sq L t k0))) (zX5_comes n u (nI k0)) := by
  have hL := hT.2.1
  obtain ⟨g1, g2, -⟩ := hg
  have h255 := (hT.2.2 _ g1).1
  obtain ⟨r1, r2, r3, r4⟩ := hR
  generalize sq L t k0 = s at *
  have a2 : nI s + 2 = nI (s + 2) := nI_add s 2
  have a3 : nI s + 3 = nI (s + 3) := nI_add s 3
  have a4 : nI s + 4 = nI (s + 4) := nI_add s 4
  have a5 : nI s + 5 = nI (s + 5) := nI_add s 5
  have h5k : (5 : Int32) * nI k0 = nI (5 * k0) := by rw [show (5 : Int32) = nI 5 from rfl, pk_mul]
  have b2 : nI (5 * k0) + 2 = nI (5 * k0 + 2) := nI_add _ 2
  have d1 := dv_le (L := L) (t := t) (s := s + 1)
  have d2 := dv_le (L := L) (t := t) (s := s + 2)
  have d3 := dv_le (L := L) (t := t) (s := s + 3)
  have d4 := dv_le (L := L) (t := t) (s := s + 4)
  have d5 := wm_le (L := L) (t := t) (s := s + 5)
  unfold zX0_tellStatement zX5_comes
  rw [nI_1, a2, a3, a4, a5, digit_eq hT (by omega), Option.bind_some, digit_eq hT (by omega), Option.bind_some, digit_eq hT (by omega), Option.bind_some, at_eq hT (by omega), Option.bind_some, if_pos g1]
  simp only [letb]
  rw [h5k, oob_no (show 5 * k0 < 200 by omega) (by omega), tn_nI (show 5 * k0 < 2147483648 by omega), nI_1, oob_no (show 5 * k0 + 1 < 200 by omega) (by omega), tn_nI (show 5 * k0 + 1 < 2147483648 by omega), oob_no (show k0 < 40 by omega) (by omega), tn_nI (show k0 < 2147483648 by omega), r1, b2]
  simp only [Bool.false_eq_true, if_false]
  rcases le_cases (t s) (by omega) g2 with e | e | e | e | e | e
  · rw [e] at r3 ⊢
    have t0 := r3 0 (by decide)
    rw [Nat.add_zero, Nat.add_zero] at t0
    rw [if_pos (show nI 99 = 99 from rfl), if_pos (show nI 99 = 99 from rfl), t0]
    exact tell_cold hI hM d1
  · rw [e] at r3 ⊢
    have t0 := r3 0 (by decide)
    have t1 := r3 1 (by decide)
    have t2 := r3 2 (by decide)
    rw [Nat.add_zero, Nat.add_zero] at t0
    rw [if_neg (by decide), if_pos (show nI 100 = 100 from rfl), if_neg (by decide), if_pos (show nI 100 = 100 from rfl), t0, t1, oob_no (show 5 * k0 + 2 < 200 by omega) (by omega), tn_nI (show 5 * k0 + 2 < 2147483648 by omega)]
    simp only [Bool.false_eq_true, if_false]
    have t2' : up2 u 55 (nI (dv L t (s + 1))).toNatClampNeg (nI (dv L t (s + 1 + 1))) 69 (5 * k0 + 2) = nI (dv L t (s + 1 + 2)) := by rw [up2_o (by decide)]; exact t2
    rw [t2']
    have key := tell_yard (n := n) (a := dv L t (s + 1)) (b := dv L t (s + 2)) (x := dv L t (s + 3)) hI hM d2 d3
    refine TL_wc ?_
    have em : (Option.bind (zX5_isYard n u (nI (dv L t (s + 1)))) (fun q10 => if q10 = 0 then (some ((0 : Int32), u)) else (if oob (nI (dv L t (s + 1))) 5 = true then none else (if oob (nI (dv L t (s + 1))) 5 = true then none else some (1, up2 (up2 u 55 (nI (dv L t (s + 1))).toNatClampNeg (nI (dv L t (s + 1 + 1)))) 56 (nI (dv L t (s + 1))).toNatClampNeg (nI (dv L t (s + 1 + 2)))))))) = (Option.bind (zX5_isYard n u (nI (dv L t (s + 1)))) (fun q10 => if q10 = 0 then (some (0, u)) else (if oob (nI (dv L t (s + 1))) 5 = true then none else some (1, up2 (up2 u 55 (nI (dv L t (s + 1))).toNatClampNeg (nI (dv L t (s + 2)))) 56 (nI (dv L t (s + 1))).toNatClampNeg (nI (dv L t (s + 3))))))) := by
      congr 1
      funext q10
      by_cases z : oob (nI (dv L t (s + 1))) 5 = true
      · simp [z]
      · simp [z]
    rw [em]
    exact key
  · rw [e] at r3 ⊢
    have t0 := r3 0 (by decide)
    have t1 := r3 1 (by decide)
    rw [Nat.add_zero, Nat.add_zero] at t0
    rw [if_neg (by decide), if_neg (by decide), if_pos (show nI 103 = 103 from rfl), if_neg (by decide), if_neg (by decide), if_pos (show nI 103 = 103 from rfl), t0, t1]
    have key := tell_grudge (n := n) (a := dv L t (s + 1)) (b := dv L t (s + 2)) hI hM
    refine TL_wc ?_
    have em : ∀ (x y : Int32), (Option.bind (zX5_areTwo n u x y) (fun q19 => if q19 = 0 then (some ((0 : Int32), u)) else (if oob ((7 * x) + y) 49 = true then none else if oob ((7 * x) + y) 49 = true then none else if oob ((7 * x) + y) 49 = true then none else if oob ((7 * y) + x) 49 = true then none else some (1, up2 (up2 u 64 ((7 * x) + y).toNatClampNeg (1 - (u 64 ((7 * x) + y).toNatClampNeg))) 64 ((7 * y) + x).toNatClampNeg (up2 u 64 ((7 * x) + y).toNatClampNeg (1 - (u 64 ((7 * x) + y).toNatClampNeg)) 64 ((7 * x) + y).toNatClampNeg))))) = (Option.bind (zX5_areTwo n u x y) (fun q19 => if q19 = 0 then (some (0, u)) else (if oob ((7 * x) + y) 49 = true then none else if oob ((7 * y) + x) 49 = true then none else some (1, up2 (up2 u 64 ((7 * x) + y).toNatClampNeg (1 - (u 64 ((7 * x) + y).toNatClampNeg))) 64 ((7 * y) + x).toNatClampNeg (1 - (u 64 ((7 * x) + y).toNatClampNeg)))))) := fun x y => by
      congr 1
      funext q19
      rw [up2_s]
      by_cases z : oob ((7 * x) + y) 49 = true
      · simp [z]
      · simp [z]
    have key' := key
    rw [← em] at key'
    exact key'
  · rw [e] at r3 ⊢
    have t0 := r3 0 (by decide)
    have t1 := r3 1 (by decide)
    rw [Nat.add_zero, Nat.add_zero] at t0
    rw [if_neg (by decide), if_neg (by decide), if_neg (by decide), if_pos (show nI 105 = 105 from rfl), if_neg (by decide), if_neg (by decide), if_neg (by decide), if_neg (by decide), if_neg (by decide), t0, t1]
    exact TL_wc (tell_in hI hM hn)
  · have t4 := r4 e
    rw [e] at r3 ⊢
    have t0 := r3 0 (by decide)
    have t1 := r3 1 (by decide)
    have t2 := r3 2 (by decide)
    have t3 := r3 3 (by decide)
    rw [Nat.add_zero, Nat.add_zero] at t0
    rw [if_neg (by decide), if_neg (by decide), if_neg (by decide), if_neg (by decide), if_pos (show nI 112 = 112 from rfl), if_neg (by decide), if_neg (by decide), if_neg (by decide), if_pos (show nI 112 = 112 from rfl), digit_eq hT (by omega), Option.bind_some, warmthAt_eq hT (by omega), Option.bind_some]
    exact TL_wc (TL_wm (tell_person (k0 := k0) (k := dv L t (s + 1)) (f := dv L t (s + 2)) (h := dv L t (s + 3)) (s := dv L t (s + 4)) (w := wm L t (s + 5)) hI hM d1 d2 d3 d4 d5 hk0 t0 t1 t2 t3 t4 hn))
  · rw [e] at r3 ⊢
    have t0 := r3 0 (by decide)
    rw [Nat.add_zero, Nat.add_zero] at t0
    rw [if_neg (by decide), if_neg (by decide), if_neg (by decide), if_neg (by decide), if_neg (by decide), if_pos (show nI 121 = 121 from rfl), if_neg (by decide), if_neg (by decide), if_neg (by decide), if_neg (by decide), if_pos (show nI 121 = 121 from rfl), t0]
    exact TL_wc (TL_wm (tell_yards hI hM d1 hn))
theorem FU_tr {u v w : MU} (h1 : FU u v) (h2 : FU v w) : FU u w := by
  obtain ⟨a1, a2, a3, a4⟩ := h1
  obtain ⟨b1, b2, b3, b4⟩ := h2
  refine ⟨fun k p q => (b1 k p q).trans (a1 k p q), fun i p => (b2 i p).trans (a2 i p), fun i p => ?_, fun i p => (b4 i p).trans (a4 i p)⟩
  obtain ⟨x1, x2, x3⟩ := a3 i p
  obtain ⟨y1, y2, y3⟩ := b3 i p
  exact ⟨y1.trans x1, y2.trans x2, y3.trans x3⟩
theorem FU_RC {u v : MU} {L i : Nat} {t : Nat → Nat} (h : FU u v) (hr : RC L t u i) : RC L t v i := by
  unfold RC
  rw [h.1 67 (by decide) (by omega), h.1 68 (by decide) (by omega), h.1 69 (by decide) (by omega)]
  exact hr
theorem FC_TP {c c' : MU} {L : Nat} {t : Nat → Nat} (h : FCr 15 c c') (hT : TP c L t) : TP c' L t := by
  unfold TP
  rw [h 43 (by omega), h 44 (by omega)]
  exact hT
theorem tell_all {n : Nat} {L K : Nat} {t : Nat → Nat} (hK : K < 28) (hg : ∀ i, i < K → gdS L t (sq L t i)) (hend : ¬ sq L t K < L) (hn : 20 ≤ n) :
    ∀ (d j m : Nat) (c u : MU) (Y P : Nat), j + d = K → d < m → RInv c 15 Y P → MW c 15 u → TP c L t → (∀ i, i < K → RC L t u i) → u 53 22 = nI K →
      (∃ c' u' Y' P', zX0_tellTo_L4 n 15 (fun y9 y10 w11 => some (y10, w11)) m (nI (sq L t j)) (nI j) c = some (nI K, c') ∧ zX5_river_L86 n (fun y31 w32 => some ((w32 53 22), w32)) m (nI j) u = some (nI K, u') ∧ RInv c' 15 Y' P' ∧ MW c' 15 u' ∧ FCr 15 c c' ∧ FU u u') ∨
      (∃ i c' u', i < K ∧ zX0_tellTo_L4 n 15 (fun y9 y10 w11 => some (y10, w11)) m (nI (sq L t j)) (nI j) c = some ((-2000) - nI (sq L t i), c') ∧ zX5_river_L86 n (fun y31 w32 => some ((w32 53 22), w32)) m (nI j) u = Option.bind (zX5_passesAll n u' 1 0) (fun q28 => if oob (nI i) 40 = true then none else some (((-2000) - (q28 68 (nI i).toNatClampNeg)), q28)) ∧ FCr 15 c c' ∧ FU u u') := by
  intro d
  induction d with
  | zero =>
    intro j m c u Y P hj hm hI hM hT hr h22
    obtain ⟨m, rfl⟩ : ∃ e, m = e + 1 := ⟨m - 1, by omega⟩
    obtain rfl : j = K := by omega
    obtain ⟨-, hs⟩ := sq_ge j hg
    have hL := hT.2.1
    refine Or.inl ⟨c, u, Y, P, ?_, ?_, hI, hM, fun _ _ => rfl, FU_rf⟩
    · rw [zX0_tellTo_L4, if_neg (by rw [show (80 : Int32) = nI 80 from rfl, le_nI (by omega) (by omega)]; omega), hT.1, if_pos (nI_le (by omega) (by omega))]
    · rw [zX5_river_L86, h22, if_pos (nI_le (Nat.le_refl _) (by omega))]
  | succ d ih =>
    intro j m c u Y P hj hm hI hM hT hr h22
    obtain ⟨m, rfl⟩ : ∃ e, m = e + 1 := ⟨m - 1, by omega⟩
    have hL := hT.2.1
    have hgj := hg j (by omega)
    have hsj := hgj.1
    obtain ⟨v, c1, u1, Y1, P1, hv, e1, e2, hI1, hM1, hF1, hU1⟩ := tell_st (n := n) hI hM hT hgj (hr j (by omega)) (by omega) hn
    have hc : zX0_tellTo_L4 n 15 (fun y9 y10 w11 => some (y10, w11)) (m + 1) (nI (sq L t j)) (nI j) c = if v = 0 then (some (((-2000) - nI (sq L t j)), c1)) else (Option.bind (zX0_endOf n c1 (nI (sq L t j))) (fun q6 => zX0_tellTo_L4 n 15 (fun y9 y10 w11 => some (y10, w11)) m (q6 + 1) (nI (j + 1)) c1)) := by
      rw [zX0_tellTo_L4, if_neg (by rw [show (80 : Int32) = nI 80 from rfl, le_nI (by omega) (by omega)]; omega), hT.1, if_neg (by rw [le_nI (by omega) (by omega)]; omega), e1, Option.bind_some, nI_1]
      rfl
    have hm' : zX5_river_L86 n (fun y31 w32 => some ((w32 53 22), w32)) (m + 1) (nI j) u = if v = 0 then (Option.bind (zX5_passesAll n u1 1 0) (fun q28 => if oob (nI j) 40 = true then none else some (((-2000) - (q28 68 (nI j).toNatClampNeg)), q28))) else (zX5_river_L86 n (fun y31 w32 => some ((w32 53 22), w32)) m (nI (j + 1)) u1) := by
      rw [zX5_river_L86, h22, if_neg (by rw [le_nI (by omega) (by omega)]; omega), e2, Option.bind_some, nI_1]
    rcases hv with hv | hv
    · rw [hc, hm', if_pos hv, if_pos hv]
      exact Or.inr ⟨j, c1, u1, by omega, rfl, rfl, hF1, hU1⟩
    · have hv0 : ¬ v = 0 := by rw [hv]; decide
      have hT1 := FC_TP hF1 hT
      rcases endOf_eq (n := n) hT1 (show sq L t j ≤ 100 by omega) hn with ⟨-, z⟩ | ⟨z, -⟩
      · rw [hc, hm', if_neg hv0, if_neg hv0, z, Option.bind_some, nI_1]
        rcases ih (j + 1) m c1 u1 Y1 P1 (by omega) (by omega) hI1 hM1 hT1 (fun i hi => FU_RC hU1 (hr i hi)) (by rw [hU1.2.1 22 (by omega)]; exact h22) with ⟨c', u', Y', P', f1, f2, f3, f4, f5, f6⟩ | ⟨i, c', u', f1, f2, f3, f4, f5⟩
        · exact Or.inl ⟨c', u', Y', P', f1, f2, f3, f4, fun k hk => (f5 k hk).trans (hF1 k hk), FU_tr hU1 f6⟩
        · exact Or.inr ⟨i, c', u', f1, f2, f3, fun k hk => (f4 k hk).trans (hF1 k hk), FU_tr hU1 f5⟩
      · exact absurd hgj z
theorem R_new {c c' u u' : MU} {Y' P' : Nat} (hI : CINV c) (hM : MREL c u) (hR : RInv c' 1 Y' P') (hZ : ZR c' 1) (hX : MX c' 1 u') (h57 : u' 57 = c' 4) (hc : ∀ k, (k = 0 ∨ (29 ≤ k ∧ k < 43) ∨ k = 44 ∨ k = 51 ∨ k = 52) → c' k = c k) (h43 : c' 43 1 = 0) (hu : ∀ k, (k = 54 ∨ k = 66 ∨ k = 73) → u' k = u k) (h70 : ∀ i, i < 159 → u' 70 i = u 70 i) (h20 : u' 53 20 = 0) (h24 : u' 53 24 = u 53 24) (h34 : u' 53 34 = u 53 34) : CINV c' ∧ MREL c' u' := by
  obtain ⟨-, -, i2, i3, i4⟩ := hI
  obtain ⟨m1, m2, m3, m4, m5, m6, m7, m8, m9⟩ := hM
  have a2 : ∀ f, f < 14 → c' (29 + f) = c (29 + f) := fun f hf => hc _ (by omega)
  refine ⟨⟨⟨Y', P', hR⟩, hZ, ?_, ⟨0, by omega, by rw [h43]; rfl, fun i hi => absurd hi (by omega)⟩, by rw [hc 0 (by omega), hc 51 (by omega)]; exact i4⟩, hX, h57, by rw [hu 54 (by omega), hc 52 (by omega)]; exact m3, by rw [hu 66 (by omega), hc 44 (by omega)]; exact m4, by rw [h20, h43], by rw [hu 73 (by omega), hc 51 (by omega)]; exact m6, by rw [h34, hc 0 (by omega)]; exact m7, by rw [h24, hc 0 (by omega)]; exact m8, fun e => ?_⟩
  · rw [hc 0 (by omega)]
    rcases i2 with e | ⟨e, ⟨Y2, P2, i⟩, z⟩
    · exact Or.inl e
    · exact Or.inr ⟨e, ⟨Y2, P2, RInv_cg a2 i⟩, ZR_cg a2 z⟩
  · rw [hc 0 (by omega)] at e
    exact KI_cg a2 h70 (m9 e)
theorem m2_fin : ∀ s, s < 100 → (-2000 : Int32) - nI s < 0 := by decide +kernel
