/-! ===== longest, makeUp, worth ===== -/
theorem lsm_nn {c : MU} {r Y P y : Nat} {h : Nat → Nat} (hI : RInv c r Y P) (hh : ∀ i, i < y → h i < 7) : 0 ≤ lsm c r h y := by
  refine mfold_nn y 0 _ (by decide) (fun i _ h2 => ?_)
  obtain ⟨m, hm, em⟩ := (mntP_eq hI (hh i (by omega))).2
  rw [em]
  exact nI_pos' (by omega)
def LR (Y N : Nat) (R : Row3) (v : MU) : Prop := (∃ k, k ≤ N ∧ R.1 3 = nI k) ∧ (R.1 3 = 0 → R.1 4 = 0 ∧ v 53 32 = -9 ∧ ∀ i, i < 5 → v 72 i = -9) ∧ (¬ R.1 3 = 0 → v 53 32 = R.1 4 ∧ 0 ≤ R.1 4 ∧ ∀ i, i < Y → v 72 i = R.2.1 i)
theorem fl72_L {n : Nat} {k : Int32 → MU → Option MU} : ∀ (d j m : Nat) (u : MU), j + d = 5 → d < m → zX5_findLongest_L12 n k m (nI j) u = k (nI 5) (fl 72 (-9) d j u) := by
  intro d
  induction d with
  | zero =>
    intro j m u hj hm
    obtain ⟨m, rfl⟩ : ∃ e, m = e + 1 := ⟨m - 1, by omega⟩
    obtain rfl : j = 5 := by omega
    rw [zX5_findLongest_L12, if_pos (by decide)]
    rfl
  | succ d ih =>
    intro j m u hj hm
    obtain ⟨m, rfl⟩ : ∃ e, m = e + 1 := ⟨m - 1, by omega⟩
    rw [zX5_findLongest_L12, if_neg (by rw [show (5 : Int32) = nI 5 from rfl, le_nI (by omega) (by omega)]; omega), oob_no (by omega : j < 5) (by omega), tn_nI (by omega), nI_1]
    simp only [Bool.false_eq_true, if_false, letb, fl]
    exact ih (j + 1) m _ (by omega) (by omega)
theorem cp72_L {n Y : Nat} {k : Int32 → MU → Option MU} (hY5 : Y ≤ 5) : ∀ (d j m : Nat) (u : MU), u 53 12 = nI Y → j + d = Y → d < m → zX5_findLongest_L69 n k m (nI j) u = k (nI Y) (cpR 57 72 d j u) := by
  intro d
  induction d with
  | zero =>
    intro j m u hu hj hm
    obtain ⟨m, rfl⟩ : ∃ e, m = e + 1 := ⟨m - 1, by omega⟩
    obtain rfl : j = Y := by omega
    rw [zX5_findLongest_L69, hu, if_pos (nI_le (Nat.le_refl _) (by omega))]
    rfl
  | succ d ih =>
    intro j m u hu hj hm
    obtain ⟨m, rfl⟩ : ∃ e, m = e + 1 := ⟨m - 1, by omega⟩
    rw [zX5_findLongest_L69, hu, if_neg (by rw [le_nI (by omega) (by omega)]; omega), oob_no (by omega : j < 5) (by omega), tn_nI (by omega), nI_1]
    simp only [Bool.false_eq_true, if_false, letb, cpR]
    exact ih (j + 1) m _ (by rw [up2_o (by decide)]; exact hu) (by omega) (by omega)
theorem SC_any72 {u v v' : MU} (h : SC u v) (q : ∀ k, k ≠ 72 → v' k = v k) : SC u v' := by
  obtain ⟨h1, h2, h3, h4⟩ := h
  refine ⟨fun k a b d e => by rw [q k e]; exact h1 k a b d e, fun i a b d e => by rw [q 53 (by decide)]; exact h2 i a b d e, fun i hi => by rw [q 57 (by decide)]; exact h3 i hi, fun i hi => by rw [q 71 (by decide)]; exact h4 i hi⟩
theorem findLongest_m {n : Nat} {c u : MU} {r Y P F : Nat} {R0 : Row3} (hI : RInv c r Y P) (hX : MX c r u) (hF : MK (fun q => c (r + 7 + q) 5 = 0) F P) (h3 : R0.1 3 = 0) (h4 : R0.1 4 = 0) (hn : 20000 ≤ n) :
    ∃ q, zX5_findLongest n u = some q ∧ (∀ k, k ≠ 53 → k ≠ 71 → k ≠ 72 → q k = u k) ∧ (∀ i, i ≠ 27 → i ≠ 28 → i ≠ 30 → i ≠ 32 → q 53 i = u 53 i) ∧ LR Y (P ^ Y) (lin (stC c r Y P F) (P ^ Y) 0 R0) q := by
  have hY1 := hI.1.1
  have hY5 := hI.1.2.1
  have hP7 := hI.1.2.2.1
  have hT := pow_le7 hP7 hY5
  obtain ⟨v, p1, p2, p3, p4, p5, p6⟩ := zX5_putsAway_eq (n := n) (u := u) (by omega)
  have pfl := fl72_L (n := n) (k := fun y7 w8 => zX5_findLongest_L31 n (fun w27 => Option.bind (zX5_putsBack n w27) (fun q28 => some q28)) n w8) 5 0 n (up2 v 53 32 (-9)) (by omega) (by omega)
  rw [nI_0] at pfl
  have hs0 : SC u (fl 72 (-9) 5 0 (up2 v 53 32 (-9))) := SC_any72 (SC_32 p2) (fun k hk => fl_o hk 5 0 _)
  have h30 : fl 72 (-9) 5 0 (up2 v 53 32 (-9)) 53 30 + 1 = nI 0 := by
    rw [fl_o (by decide), up2_i (by decide), p4]
    decide
  have hrel : LR Y 0 R0 (fl 72 (-9) 5 0 (up2 v 53 32 (-9))) := by
    refine ⟨⟨0, Nat.le_refl _, h3⟩, fun _ => ⟨h4, ?_, fun i hi => ?_⟩, fun z => absurd h3 z⟩
    · rw [fl_o (by decide), up2_s]
    · rw [fl_in, if_pos (by omega)]
  obtain ⟨s', v', g1, g2, g3⟩ := loop_gen (σ := Unit) (n := n) (f := stC c r Y P F) hI hX hn (fun m _ v => zX5_findLongest_L31 n (fun w27 => Option.bind (zX5_putsBack n w27) (fun q28 => some q28)) m v) (fun _ v => Option.bind (zX5_putsBack n v) (fun q28 => some q28)) (fun N R _ v => LR Y N R v)
    (fun N N' R s v v' hN h e1 e2 => by
      obtain ⟨⟨k, hk, ek⟩, w2, w3⟩ := h
      refine ⟨⟨k, by omega, ek⟩, fun z => ?_, fun z => ?_⟩
      · rw [e1, e2]; exact w2 z
      · rw [e1, e2]; exact w3 z) (hid_of hY1 hP7 hF)
    (fun m s v v' e => by
      show zX5_findLongest_L31 n (fun w27 => Option.bind (zX5_putsBack n w27) (fun q28 => some q28)) (m + 1) v = _
      rw [zX5_findLongest_L31, e, Option.bind_some, if_pos rfl])
    (fun m N R s v v' hN hu e hv' h30 hd hr => by
      have hP0 := P0_of hu hY1
      have hnn : 0 ≤ lsm c r (dgt P Y N) Y := lsm_nn hI (fun i _ => Nat.lt_of_lt_of_le (dgt_lt hP0) hP7)
      obtain ⟨v2, q1, q2, q3, q4, q5, q6⟩ := ds_N (n := n) hI hX hv' hP0 hd (by omega)
      obtain ⟨⟨k, hk, ek⟩, w2, w3⟩ := hr
      have e32 : v2 53 32 = v' 53 32 := q5 32 (by decide) (by decide)
      have e30 : v2 53 30 = nI N := by rw [q5 30 (by decide) (by decide)]; exact h30
      have hcmp : v2 53 32 < lsm c r (dgt P Y N) Y ↔ (R.1 3 = 0 ∨ R.1 4 < lsm c r (dgt P Y N) Y) := by
        rw [e32]
        by_cases z : R.1 3 = 0
        · rw [(w2 z).2.1]
          refine ⟨fun _ => Or.inl z, fun _ => ?_⟩
          rw [fa_le'] at hnn
          rw [fa_lt']
          have e9 : (-9 : Int32).toInt = -9 := by decide
          have e0 : (0 : Int32).toInt = 0 := by decide
          omega
        · rw [(w3 z).1]
          exact ⟨fun w => Or.inr w, fun w => w.resolve_left z⟩
      rcases q1 with ⟨x1, x2⟩ | ⟨x1, x2⟩
      · have hok := (okC_iff hP0 hP7 hF).mpr ⟨hu, x1.1⟩
        obtain ⟨y1, -, y3, y4⟩ := st_yes (R := R) hok x1.2
        have hk1 : (stC c r Y P F N R).1 3 = nI (k + 1) := by rw [y1, ek, nI_1]
        have hne : ¬ (stC c r Y P F N R).1 3 = 0 := by rw [hk1]; exact nI_ne0 (by omega) (by omega)
        by_cases hU : R.1 3 = 0 ∨ R.1 4 < lsm c r (dgt P Y N) Y
        · obtain ⟨z1, z2⟩ := y3 hU
          have h12 : up2 v2 53 32 (lsm c r (dgt P Y N) Y) 53 12 = nI Y := by
            rw [up2_i (by decide)]
            exact (SC_MX q2 hX).1.1.trans hI.1.2.2.2.1
          have hcp := cp72_L (n := n) (k := fun y25 w26 => zX5_findLongest_L31 n (fun w27 => Option.bind (zX5_putsBack n w27) (fun q28 => some q28)) m w26) hY5 Y 0 n (up2 v2 53 32 (lsm c r (dgt P Y N) Y)) h12 (by omega) (by omega)
          rw [nI_0] at hcp
          refine ⟨s, cpR 57 72 Y 0 (up2 v2 53 32 (lsm c r (dgt P Y N) Y)), ?_, SC_any72 (SC_32 q2) (fun k hk => cpR_o hk Y 0 _), by rw [cpR_o (by decide), up2_i (by decide)]; exact e30, ⟨k + 1, by omega, hk1⟩, fun z => absurd z hne, fun _ => ⟨?_, ?_, fun i hi => ?_⟩⟩
          · show zX5_findLongest_L31 n (fun w27 => Option.bind (zX5_putsBack n w27) (fun q28 => some q28)) (m + 1) v = _
            rw [zX5_findLongest_L31, e, Option.bind_some, if_neg n10, x2, Option.bind_some, if_neg n10]
            simp only []
            rw [q6, Option.bind_some, if_pos (hcmp.mpr hU), Option.bind_some]
            simp only [letb]
            exact hcp
          · rw [cpR_o (by decide), up2_s, z1]
          · rw [z1]; exact hnn
          · rw [cpR_in (by decide), if_pos (by omega), up2_o (by decide), q3, hd i hi, z2 i hi]
        · obtain ⟨z1, z2⟩ := y4 hU
          have hR3 : ¬ R.1 3 = 0 := fun z => hU (Or.inl z)
          refine ⟨s, v2, ?_, q2, e30, ⟨k + 1, by omega, hk1⟩, fun z => absurd z hne, fun _ => ⟨?_, ?_, fun i hi => ?_⟩⟩
          · show zX5_findLongest_L31 n (fun w27 => Option.bind (zX5_putsBack n w27) (fun q28 => some q28)) (m + 1) v = _
            rw [zX5_findLongest_L31, e, Option.bind_some, if_neg n10, x2, Option.bind_some, if_neg n10]
            simp only []
            rw [q6, Option.bind_some, if_neg (fun z => hU (hcmp.mp z))]
          · rw [e32, (w3 hR3).1, z1]
          · rw [z1]; exact (w3 hR3).2.1
          · rw [q4, (w3 hR3).2.2 i hi, z2]
      · obtain ⟨y1, y2, y3⟩ := st_no (R := R) (fun z => x1 ⟨((okC_iff hP0 hP7 hF).mp z.1).2, z.2⟩)
        refine ⟨s, v2, ?_, q2, e30, ⟨k, by omega, by rw [y1]; exact ek⟩, fun z => ?_, fun z => ?_⟩
        · show zX5_findLongest_L31 n (fun w27 => Option.bind (zX5_putsBack n w27) (fun q28 => some q28)) (m + 1) v = _
          rw [zX5_findLongest_L31, e, Option.bind_some, if_neg n10, x2, Option.bind_some, if_pos rfl]
        · rw [y1] at z
          rw [y2, e32, q4]
          exact w2 z
        · rw [y1] at z
          rw [y2, y3, e32, q4]
          exact w3 z)
    (P ^ Y) 0 n () _ R0 (by omega) (by omega) (by omega) hs0 h30 hrel
  obtain ⟨q, b1, b2, b3, b4, b5⟩ := zX5_putsBack_eq (n := n) g2 (by omega)
  have g1' : zX5_findLongest_L31 n (fun w27 => Option.bind (zX5_putsBack n w27) (fun q28 => some q28)) n (fl 72 (-9) 5 0 (up2 v 53 32 (-9))) = Option.bind (zX5_putsBack n v') (fun q28 => some q28) := g1
  refine ⟨q, ?_, b2, b3, ?_⟩
  · unfold zX5_findLongest
    rw [p1, Option.bind_some]
    simp only [letb]
    rw [pfl, g1', b1, Option.bind_some]
  · rw [Nat.sub_zero] at g3
    obtain ⟨k1, k2, k3⟩ := g3
    refine ⟨k1, fun z => ?_, fun z => ?_⟩
    · rw [b4, b5]; exact k2 z
    · rw [b4, b5]; exact k3 z
theorem op_longest (n : Nat) (hn : 20000 ≤ n) (a : Int32) : OPT (fun c => zX4_longest n c a) (fun u => zX5_longest n u a) := by
  intro c u hI hM
  obtain ⟨⟨Y, P, hR⟩, -⟩ := id hI
  have hX := hM.1
  have hP7 := hR.1.2.2.1
  have hY5 := hR.1.2.1
  obtain ⟨F, hF, eF⟩ := zX3_notOver_eq (n := n) (r := 1) hR.1.2.2.2.2.1 hP7 (by omega)
  obtain ⟨c', R0, t1, t2, t3, t4, t5, t6, t7⟩ := thinkOf_eq (n := n) hR (by omega) hF.1 (by omega)
  obtain ⟨q, m1, m2, m3, ⟨-, l2, l3⟩⟩ := findLongest_m (n := n) hR hX hF t3 t4 hn
  rw [← t7] at l2 l3
  have l2' : c' 45 3 = 0 → c' 45 4 = 0 ∧ q 53 32 = -9 ∧ ∀ i, i < 5 → q 72 i = -9 := l2
  have l3' : ¬ c' 45 3 = 0 → q 53 32 = c' 45 4 ∧ 0 ≤ c' 45 4 ∧ ∀ i, i < Y → q 72 i = c' 49 i := l3
  have hCI := CINV_sm (Sm_th t2) hI
  have hMR := MREL_sm (Sm_th t2) (MREL_back m2 m3 hM)
  by_cases ha : a = -1
  · by_cases h3 : c' 45 3 = 0
    · refine ⟨-9, c', q, ?_, ?_, hCI, hMR⟩
      · show zX4_longest n c a = _
        unfold zX4_longest
        rw [if_pos ha, eF, Option.bind_some, t1, Option.bind_some, if_pos h3]
      · show zX5_longest n u a = _
        unfold zX5_longest
        rw [if_pos ha, m1, Option.bind_some, if_pos ha, (l2' h3).2.1]
    · refine ⟨c' 45 4, c', q, ?_, ?_, hCI, hMR⟩
      · show zX4_longest n c a = _
        unfold zX4_longest
        rw [if_pos ha, eF, Option.bind_some, t1, Option.bind_some, if_neg h3, if_pos ha]
      · show zX5_longest n u a = _
        unfold zX5_longest
        rw [if_pos ha, m1, Option.bind_some, if_pos ha, (l3' h3).1]
  · have hmY := m_isYard (n := n) (a := a) hX
    rcases zX3_isYard_eq (n := n) (u := c) (r := 1) (a := a) hR.1.2.2.2.1 hY5 with ⟨j, hj, rfl, hz⟩ | ⟨-, hz⟩
    · rw [hz] at hmY
      have o5 := oob_no (show j < 5 by omega) (show j < 2147483648 by omega)
      have t5 := tn_nI (show j < 2147483648 by omega)
      by_cases h3 : c' 45 3 = 0
      · refine ⟨-9, c', q, ?_, ?_, hCI, hMR⟩
        · show zX4_longest n c (nI j) = _
          unfold zX4_longest
          rw [if_neg ha, hz, Option.bind_some, if_neg (by decide), eF, Option.bind_some, t1, Option.bind_some, if_pos h3]
        · show zX5_longest n u (nI j) = _
          unfold zX5_longest
          rw [if_neg ha, hmY, Option.bind_some, if_neg (by decide), m1, Option.bind_some, if_neg ha, o5, t5, (l2' h3).2.2 j (by omega)]
          rfl
      · refine ⟨c' 49 j, c', q, ?_, ?_, hCI, hMR⟩
        · show zX4_longest n c (nI j) = _
          unfold zX4_longest
          rw [if_neg ha, hz, Option.bind_some, if_neg (by decide), eF, Option.bind_some, t1, Option.bind_some, if_neg h3, if_neg ha, o5, t5]
          rfl
        · show zX5_longest n u (nI j) = _
          unfold zX5_longest
          rw [if_neg ha, hmY, Option.bind_some, if_neg (by decide), m1, Option.bind_some, if_neg ha, o5, t5, (l3' h3).2.2 j (by omega)]
          rfl
    · rw [hz] at hmY
      refine opt_ref 1 (by decide) (n := n) hI hM ?_ ?_
      · simp only [zX4_longest, if_neg ha, hz, Option.bind_some]
        rfl
      · simp only [zX5_longest, if_neg ha, hmY, Option.bind_some]
        rfl
/-! makeUp -/
theorem grudgesIn_L {n : Nat} {c v : MU} {r Y P N : Nat} (hI : RInv c r Y P) (hX : MX c r v) (hP0 : 0 < P) (hd : ∀ i, i < Y → v 57 i = dI P Y N i) (hn : 20 ≤ n) :
    ∀ (d j m : Nat), j + d = Y → d < m → ((∀ i, j ≤ i → i < Y → whyN c r Y i (dgt P Y N i) = -9) ∧ zX5_grudgesIn_L4 n v (fun y15 _ => some y15) m (gsm c r (dgt P Y N) j) (nI j) = some (gsm c r (dgt P Y N) Y)) ∨ ((∃ i, j ≤ i ∧ i < Y ∧ ¬ whyN c r Y i (dgt P Y N i) = -9) ∧ zX5_grudgesIn_L4 n v (fun y15 _ => some y15) m (gsm c r (dgt P Y N) j) (nI j) = some (-9)) := by
  have hY5 := hI.1.2.1
  have hP7 := hI.1.2.2.1
  have hYv : v 53 12 = nI Y := hX.1.1.trans hI.1.2.2.2.1
  have hlt : ∀ i, dgt P Y N i < 7 := fun i => Nat.lt_of_lt_of_le (dgt_lt hP0) hP7
  intro d
  induction d with
  | zero =>
    intro j m hj hm
    obtain ⟨m, rfl⟩ : ∃ e, m = e + 1 := ⟨m - 1, by omega⟩
    obtain rfl : j = Y := by omega
    refine Or.inl ⟨fun i h1 h2 => absurd h2 (by omega), ?_⟩
    rw [zX5_grudgesIn_L4, hYv, if_pos (nI_le (Nat.le_refl _) (by omega))]
  | succ d ih =>
    intro j m hj hm
    obtain ⟨m, rfl⟩ : ∃ e, m = e + 1 := ⟨m - 1, by omega⟩
    have e57 : v 57 j = nI (dgt P Y N j) := hd j (by omega)
    have hl := hlt j
    rw [zX5_grudgesIn_L4, hYv, if_neg (by rw [le_nI (by omega) (by omega)]; omega), oob_no (show j < 5 by omega) (by omega), tn_nI (show j < 2147483648 by omega), e57, nI_1]
    simp only [Bool.false_eq_true, if_false, letb]
    rw [zX5_doesReach_eq hI hX (by omega) hl, Option.bind_some]
    by_cases h1 : c (r + 1) j ≤ rchP c r (dgt P Y N j)
    · rw [if_neg (nlt_le.mpr h1), if_neg (by decide), zX5_doesHold_eq hI hX (by omega) hl (by omega), Option.bind_some]
      by_cases h2 : mx (ldR c r Y j) (ldR c r Y (j + 1)) ≤ hldP c r (dgt P Y N j)
      · have hw : whyN c r Y j (dgt P Y N j) = -9 := by unfold whyN; rw [if_pos h1, if_pos h2]
        rw [if_pos h2, if_neg (by decide)]
        have fin : ∀ x, x = zX5_grudgesIn_L4 n v (fun y15 _ => some y15) m (gsm c r (dgt P Y N) (j + 1)) (nI (j + 1)) → ((∀ i, j ≤ i → i < Y → whyN c r Y i (dgt P Y N i) = -9) ∧ x = some (gsm c r (dgt P Y N) Y)) ∨ ((∃ i, j ≤ i ∧ i < Y ∧ ¬ whyN c r Y i (dgt P Y N i) = -9) ∧ x = some (-9)) := by
          intro x hx
          rw [hx]
          rcases ih (j + 1) m (by omega) (by omega) with ⟨g1, g2⟩ | ⟨⟨i, g1, g2, g3⟩, g4⟩
          · refine Or.inl ⟨fun i q1 q2 => ?_, g2⟩
            by_cases z : i = j
            · rw [z]; exact hw
            · exact g1 i (by omega) q2
          · exact Or.inr ⟨⟨i, by omega, g2, g3⟩, g4⟩
        by_cases h0 : j = 0
        · rw [if_pos (by rw [h0, nI_0]; decide)]
          refine fin _ ?_
          simp only [gsm]
          rw [if_pos h0]
        · rw [if_neg (nI_nle (by omega) (by omega))]
          obtain ⟨i, rfl⟩ : ∃ i, j = i + 1 := ⟨j - 1, by omega⟩
          have hli := hlt i
          have e57i : v 57 i = nI (dgt P Y N i) := hd i (by omega)
          rw [nI_m1, oob_no (show i < 5 by omega) (by omega), tn_nI (show i < 2147483648 by omega), e57i, ix7, oob_no (show 7 * dgt P Y N (i + 1) + dgt P Y N i < 49 by omega) (by omega), tn_nI (by omega), hX.2.2.2.2.2 _ _ hl hli, (hI.2.2.2.2.2.2.1 _ _ hl hli).1]
          simp only [Bool.false_eq_true, if_false]
          refine fin _ ?_
          show _ = zX5_grudgesIn_L4 n v (fun y15 _ => some y15) m (gsm c r (dgt P Y N) (i + 1) + (if i + 1 = 0 then 0 else gb c r (dgt P Y N (i + 1 - 1)) (dgt P Y N (i + 1)))) (nI (i + 1 + 1))
          rw [if_neg h0, Nat.add_sub_cancel]
      · rw [if_neg h2, if_pos rfl]
        refine Or.inr ⟨⟨j, Nat.le_refl _, by omega, ?_⟩, rfl⟩
        unfold whyN
        rw [if_pos h1, if_neg h2]
        decide
    · have h1' : rchP c r (dgt P Y N j) < c (r + 1) j := by rw [fa_lt']; rw [fa_le'] at h1; omega
      rw [if_pos h1', if_pos rfl]
      refine Or.inr ⟨⟨j, Nat.le_refl _, by omega, ?_⟩, rfl⟩
      unfold whyN
      rw [if_neg h1]
      decide
theorem zX5_grudgesIn_eq {n : Nat} {c v : MU} {r Y P N : Nat} (hI : RInv c r Y P) (hX : MX c r v) (hP0 : 0 < P) (hd : ∀ i, i < Y → v 57 i = dI P Y N i) (hn : 20 ≤ n) :
    ((∀ i, i < Y → whyN c r Y i (dgt P Y N i) = -9) ∧ zX5_grudgesIn n v = some (gsm c r (dgt P Y N) Y)) ∨ (¬ (∀ i, i < Y → whyN c r Y i (dgt P Y N i) = -9) ∧ zX5_grudgesIn n v = some (-9)) := by
  have hY5 := hI.1.2.1
  unfold zX5_grudgesIn
  rcases grudgesIn_L (n := n) hI hX hP0 hd hn Y 0 n (by omega) (by omega) with ⟨g1, g2⟩ | ⟨⟨i, g1, g2, g3⟩, g4⟩
  · rw [nI_0] at g2
    exact Or.inl ⟨fun i hi => g1 i (by omega) hi, g2⟩
  · rw [nI_0] at g4
    exact Or.inr ⟨fun z => g3 (z i g2), g4⟩
theorem makeUp_m {n : Nat} {c u : MU} {r Y P F : Nat} {R0 : Row3} (hI : RInv c r Y P) (hX : MX c r u) (hF : MK (fun q => c (r + 7 + q) 5 = 0) F P) (h6 : R0.1 6 = -9) (hn : 20000 ≤ n) :
    ∃ q, zX5_makeUp n u = some ((lin (stC c r Y P F) (P ^ Y) 0 R0).1 6, q) ∧ (∀ k, k ≠ 53 → k ≠ 71 → k ≠ 72 → q k = u k) ∧ (∀ i, i ≠ 27 → i ≠ 28 → i ≠ 30 → i ≠ 32 → q 53 i = u 53 i) := by
  have hY1 := hI.1.1
  have hY5 := hI.1.2.1
  have hP7 := hI.1.2.2.1
  have hT := pow_le7 hP7 hY5
  obtain ⟨v, p1, p2, p3, p4, p5, p6⟩ := zX5_putsAway_eq (n := n) (u := u) (by omega)
  obtain ⟨s', v', g1, g2, g3⟩ := loop_gen (n := n) (f := stC c r Y P F) hI hX hn (fun m s v => zX5_makeUp_L7 n (fun y11 w12 => Option.bind (zX5_putsBack n w12) (fun q13 => some (y11, q13))) m s v) (fun s v => Option.bind (zX5_putsBack n v) (fun q13 => some (s, q13))) (fun _ R s _ => R.1 6 = s ∧ (s = -9 ∨ 0 ≤ s))
    (fun N N' R s v v' _ h _ _ => h) (hid_of hY1 hP7 hF)
    (fun m s v v' e => by
      show zX5_makeUp_L7 n (fun y11 w12 => Option.bind (zX5_putsBack n w12) (fun q13 => some (y11, q13))) (m + 1) s v = _
      rw [zX5_makeUp_L7, e, Option.bind_some, if_pos rfl])
    (fun m N R s v v' hN hu e hv' h30 hd hr => by
      have hP0 := P0_of hu hY1
      rcases zX5_grudgesIn_eq (n := n) hI (SC_MX hv' hX) hP0 hd (by omega) with ⟨w1, w2⟩ | ⟨w1, w2⟩
      · obtain ⟨k, hk, ek, -⟩ := gsm_N (h := dgt P Y N) hI Y (fun i _ => Nat.lt_of_lt_of_le (dgt_lt hP0) hP7)
        have hok := (okC_iff hP0 hP7 hF).mpr ⟨hu, w1⟩
        have h6 := st_six (R := R) hok
        rw [hr.1] at h6
        have hnn : ¬ gsm c r (dgt P Y N) Y < 0 := by rw [ek]; exact nI_pos (by omega)
        have hnn' : 0 ≤ gsm c r (dgt P Y N) Y := nlt_le.mp hnn
        have hst : zX5_makeUp_L7 n (fun y11 w12 => Option.bind (zX5_putsBack n w12) (fun q13 => some (y11, q13))) (m + 1) s v = if s < 0 then (zX5_makeUp_L7 n (fun y11 w12 => Option.bind (zX5_putsBack n w12) (fun q13 => some (y11, q13))) m (gsm c r (dgt P Y N) Y) v') else (if s ≤ gsm c r (dgt P Y N) Y then (zX5_makeUp_L7 n (fun y11 w12 => Option.bind (zX5_putsBack n w12) (fun q13 => some (y11, q13))) m s v') else (zX5_makeUp_L7 n (fun y11 w12 => Option.bind (zX5_putsBack n w12) (fun q13 => some (y11, q13))) m (gsm c r (dgt P Y N) Y) v')) := by
          rw [zX5_makeUp_L7, e, Option.bind_some, if_neg n10, w2, Option.bind_some, if_neg hnn]
        rcases hr.2 with hs | hs
        · refine ⟨gsm c r (dgt P Y N) Y, v', ?_, hv', h30, ?_, Or.inr hnn'⟩
          · rw [hs] at hst ⊢
            exact hst.trans (if_pos (by decide))
          · rw [if_pos (Or.inl hs)] at h6
            exact h6
        · have hs9 : ¬ s = -9 := fun z => by rw [z] at hs; exact absurd hs (by decide)
          rw [if_neg (nlt_le.mpr hs)] at hst
          by_cases hle : s ≤ gsm c r (dgt P Y N) Y
          · rw [if_pos hle] at hst
            refine ⟨s, v', hst, hv', h30, ?_, Or.inr hs⟩
            rw [if_neg (fun z => z.elim hs9 (fun w => nlt_le.mpr hle w))] at h6
            exact h6
          · rw [if_neg hle] at hst
            refine ⟨gsm c r (dgt P Y N) Y, v', hst, hv', h30, ?_, Or.inr hnn'⟩
            rw [if_pos (Or.inr (by rw [fa_lt']; rw [fa_le'] at hle; omega))] at h6
            exact h6
      · refine ⟨s, v', ?_, hv', h30, ?_, hr.2⟩
        · show zX5_makeUp_L7 n (fun y11 w12 => Option.bind (zX5_putsBack n w12) (fun q13 => some (y11, q13))) (m + 1) s v = _
          rw [zX5_makeUp_L7, e, Option.bind_some, if_neg n10, w2, Option.bind_some, if_pos (by decide)]
        · show (stC c r Y P F N R).1 6 = s
          rw [stC_n (fun z => w1 ((okC_iff hP0 hP7 hF).mp z).2)]
          exact hr.1)
    (P ^ Y) 0 n (-9) v R0 (by omega) (by omega) (by omega) p2 (by rw [p4]; decide) ⟨h6, Or.inl rfl⟩
  obtain ⟨q, b1, b2, b3, -⟩ := zX5_putsBack_eq (n := n) g2 (by omega)
  refine ⟨q, ?_, b2, b3⟩
  unfold zX5_makeUp
  rw [p1, Option.bind_some]
  have g1' : zX5_makeUp_L7 n (fun y11 w12 => Option.bind (zX5_putsBack n w12) (fun q13 => some (y11, q13))) n (-9) v = Option.bind (zX5_putsBack n v') (fun q13 => some (s', q13)) := g1
  rw [g1', b1, Option.bind_some]
  have g3' : (lin (stC c r Y P F) (P ^ Y - 0) 0 R0).1 6 = s' := g3.1
  rw [Nat.sub_zero] at g3'
  rw [g3']
theorem op_makeUp (n : Nat) (hn : 20000 ≤ n) : OPT (fun c => zX4_makeUp n c) (fun u => zX5_makeUp n u) := by
  intro c u hI hM
  obtain ⟨⟨Y, P, hR⟩, -⟩ := id hI
  have hX := hM.1
  have hP7 := hR.1.2.2.1
  obtain ⟨F, hF, eF⟩ := zX3_notOver_eq (n := n) (r := 1) hR.1.2.2.2.2.1 hP7 (by omega)
  obtain ⟨c', R0, t1, t2, t3, t4, t5, t6, t7⟩ := thinkOf_eq (n := n) hR (by omega) hF.1 (by omega)
  obtain ⟨q, m1, m2, m3⟩ := makeUp_m (n := n) hR hX hF t5 hn
  refine ⟨_, c', q, ?_, m1, CINV_sm (Sm_th t2) hI, MREL_sm (Sm_th t2) (MREL_back m2 m3 hM)⟩
  show zX4_makeUp n c = _
  unfold zX4_makeUp
  rw [eF, Option.bind_some, t1, Option.bind_some, ← t7]
  rfl
