/-! ===== worth: the same river with one grudge less ===== -/
def RvE (c' : MU) (r' : Nat) (c : MU) (r : Nat) : Prop := ∀ f b, inRv f b = true → c' (r' + f) b = c (r + f) b
theorem inRv_0 {b : Nat} (h : b < 4) : inRv 0 b = true := by unfold inRv; exact decide_eq_true (by omega)
theorem inRv_y {f b : Nat} (hf : f = 1 ∨ f = 2 ∨ f = 3) (h : b < 5) : inRv f b = true := by unfold inRv; exact decide_eq_true (by omega)
theorem inRv_5 {b : Nat} (h : b < 7) : inRv 5 b = true := by unfold inRv; exact decide_eq_true (by omega)
theorem inRv_6 {b : Nat} (h : b < 49) : inRv 6 b = true := by unfold inRv; exact decide_eq_true (by omega)
theorem inRv_p {p b : Nat} (hp : p < 7) (h : b < 6) : inRv (7 + p) b = true := by unfold inRv; exact decide_eq_true (by omega)
theorem RvE_0 {c' c : MU} {r' r b : Nat} (h : RvE c' r' c r) (hb : b < 4) : c' r' b = c r b := by
  have := h 0 b (inRv_0 hb)
  rw [Nat.add_zero, Nat.add_zero] at this
  exact this
theorem RvE_p {c' c : MU} {r' r p b : Nat} (h : RvE c' r' c r) (hp : p < 7) (hb : b < 6) : c' (r' + 7 + p) b = c (r + 7 + p) b := by
  rw [Nat.add_assoc, Nat.add_assoc]
  exact h (7 + p) b (inRv_p hp hb)
theorem ldS_cg {f g : Nat → Int32} {h : Nat} : ∀ (Y : Nat), (∀ k, k < Y → f k = g k) → nrS f h Y = nrS g h Y ∧ frS f h Y = frS g h Y := by
  intro Y
  induction Y with
  | zero => intro _; exact ⟨rfl, rfl⟩
  | succ Y ih =>
    intro e
    obtain ⟨a, b⟩ := ih (fun k hk => e k (by omega))
    simp only [nrS, frS]
    rw [a, b, e Y (by omega)]
    exact ⟨rfl, rfl⟩
theorem whyN_tr {c' c : MU} {r' r Y y p : Nat} (h : RvE c' r' c r) (hY5 : Y ≤ 5) (hy : y < 5) (hp : p < 7) : whyN c' r' Y y p = whyN c r Y y p := by
  have hl : ∀ x, ldR c' r' Y x = ldR c r Y x := fun x => by
    unfold ldR ldS
    obtain ⟨a, b⟩ := ldS_cg (f := c' (r' + 2)) (g := c (r + 2)) (h := x) Y (fun k hk => h 2 k (inRv_y (by omega) (by omega)))
    rw [a, b]
  unfold whyN rchP hldP
  rw [hl, hl, RvE_p h hp (by omega), RvE_p h hp (by omega), RvE_p h hp (by omega), RvE_p h hp (by omega), h 1 y (inRv_y (by omega) hy)]
theorem gb_tr {c' c : MU} {r' r a b : Nat} (h : RvE c' r' c r) (ha : a < 7) : gb c' r' a b = gb c r a b := by
  unfold gb
  rw [h 5 a (inRv_5 ha)]
theorem mntP_tr {c' c : MU} {r' r p : Nat} (h : RvE c' r' c r) (hp : p < 7) : mntP c' r' p = mntP c r p := by
  unfold mntP
  rw [RvE_p h hp (by omega), RvE_p h hp (by omega), RvE_0 h (by omega)]
theorem gsm_tr {c' c : MU} {r' r : Nat} {h : Nat → Nat} (e : RvE c' r' c r) : ∀ (y : Nat), (∀ i, i < y → h i < 7) → gsm c' r' h y = gsm c r h y := by
  intro y
  induction y with
  | zero => intro _; rfl
  | succ y ih =>
    intro hh
    simp only [gsm]
    rw [ih (fun i hi => hh i (by omega))]
    by_cases q : y = 0
    · rw [if_pos q, if_pos q]
    · rw [if_neg q, if_neg q, gb_tr e (hh (y - 1) (by omega))]
theorem stC_tr {c' c : MU} {r' r Y P F N : Nat} {R : Row3} (h : RvE c' r' c r) (hY5 : Y ≤ 5) (hP0 : 0 < P) (hP7 : P ≤ 7) : stC c' r' Y P F N R = stC c r Y P F N R := by
  have hd : ∀ i, dgt P Y N i < 7 := fun i => Nat.lt_of_lt_of_le (dgt_lt hP0) hP7
  have hw : ∀ i, i < Y → whyN c' r' Y i (dgt P Y N i) = whyN c r Y i (dgt P Y N i) := fun i hi => whyN_tr h hY5 (by omega) (hd i)
  have hg : gsm c' r' (dgt P Y N) Y = gsm c r (dgt P Y N) Y := gsm_tr h Y (fun i _ => hd i)
  have hl : lsm c' r' (dgt P Y N) Y = lsm c r (dgt P Y N) Y := mfold_cg Y 0 _ (fun i _ _ => mntP_tr h (hd i))
  by_cases q : okC c r Y F (dgt P Y N) Y
  · have q' : okC c' r' Y F (dgt P Y N) Y := fun i hi => by
      obtain ⟨a, b, d⟩ := q i hi
      exact ⟨a, by rw [hw i hi]; exact b, d⟩
    rw [stC_y q, stC_y q', hg, hl]
  · have q' : ¬ okC c' r' Y F (dgt P Y N) Y := fun z => q (fun i hi => by
      obtain ⟨a, b, d⟩ := z i hi
      exact ⟨a, by rw [← hw i hi]; exact b, d⟩)
    rw [stC_n q, stC_n q']
theorem lin_cg {σ : Type} {f g : Nat → σ → σ} : ∀ (d j : Nat) (s : σ), (∀ i t, j ≤ i → i < j + d → f i t = g i t) → lin f d j s = lin g d j s := by
  intro d
  induction d with
  | zero => intro j s _; rfl
  | succ d ih =>
    intro j s h
    simp only [lin]
    rw [h j s (Nat.le_refl _) (by omega)]
    exact ih (j + 1) _ (fun i t h1 h2 => h i t (by omega) (by omega))
theorem lin_tr {c' c : MU} {r' r Y P F : Nat} {R : Row3} (h : RvE c' r' c r) (hY1 : 1 ≤ Y) (hY5 : Y ≤ 5) (hP7 : P ≤ 7) : lin (stC c' r' Y P F) (P ^ Y) 0 R = lin (stC c r Y P F) (P ^ Y) 0 R := by
  by_cases q : 0 < P
  · exact lin_cg _ _ _ (fun i t _ _ => stC_tr h hY5 q hP7)
  · obtain rfl : P = 0 := by omega
    have e : ∀ f : Nat → Row3 → Row3, lin f 0 0 R = R := fun _ => rfl
    rw [Nat.zero_pow (by omega), e, e]
theorem lon_m {n : Nat} {c u : MU} {r Y P F : Nat} {R0 : Row3} (hI : RInv c r Y P) (hX : MX c r u) (hF : MK (fun q => c (r + 7 + q) 5 = 0) F P) (h3 : R0.1 3 = 0) (h4 : R0.1 4 = 0) (hn : 20000 ≤ n) :
    ∃ q, zX5_longestOrNothing n u = some ((lin (stC c r Y P F) (P ^ Y) 0 R0).1 4, q) ∧ (∀ k, k ≠ 53 → k ≠ 71 → k ≠ 72 → q k = u k) ∧ (∀ i, i ≠ 27 → i ≠ 28 → i ≠ 30 → i ≠ 32 → q 53 i = u 53 i) := by
  obtain ⟨q, m1, m2, m3, ⟨-, l2, l3⟩⟩ := findLongest_m (n := n) hI hX hF h3 h4 hn
  refine ⟨q, ?_, m2, m3⟩
  unfold zX5_longestOrNothing
  rw [m1, Option.bind_some]
  by_cases z : (lin (stC c r Y P F) (P ^ Y) 0 R0).1 3 = 0
  · obtain ⟨w1, w2, -⟩ := l2 z
    rw [w2, w1, if_neg (by decide)]
  · obtain ⟨w1, w2, -⟩ := l3 z
    rw [w1, if_pos w2]
theorem op_worth (n : Nat) (hn : 20000 ≤ n) (a b : Int32) : OPT (fun c => zX4_worth n c a b) (fun u => zX5_worth n u a b) := by
  intro c u hI hM
  obtain ⟨⟨Y, P, hR⟩, hZ, -⟩ := id hI
  have hX := hM.1
  have hY1 := hR.1.1
  have hY5 := hR.1.2.1
  have hP7 := hR.1.2.2.1
  have hm := m_areTwo (n := n) (a := a) (b := b) hX
  rcases zX3_areTwo_eq (n := n) (c := c) (r := 1) (a := a) (b := b) hR.1.2.2.2.2.1 hP7 with ⟨i, j, hi, hj, hij, rfl, rfl, hz⟩ | hz
  · rw [hz] at hm
    have hi7 : i < 7 := by omega
    have hj7 : j < 7 := by omega
    have hgr := zX3_grudgeOf_eq (n := n) (c := c) (r := 1) (i := i) (j := j) hi7
    have e64 : u 64 (7 * i + j) = gb c 1 i j := hX.2.2.2.2.2 i j hi7 hj7
    have e64' : u 64 (7 * j + i) = gb c 1 j i := hX.2.2.2.2.2 j i hj7 hi7
    have hsy : gb c 1 j i = gb c 1 i j := (hR.2.2.2.2.2.2.1 j i hj7 hi7).1
    have o1 := oob_no (show 7 * i + j < 49 by omega) (show 7 * i + j < 2147483648 by omega)
    have o2 := oob_no (show 7 * j + i < 49 by omega) (show 7 * j + i < 2147483648 by omega)
    have n1 := tn_nI (show 7 * i + j < 2147483648 by omega)
    have n2 := tn_nI (show 7 * j + i < 2147483648 by omega)
    by_cases hg : gb c 1 i j = 0
    · refine opt_ref 3 (by decide) (n := n) hI hM ?_ ?_
      · simp only [zX4_worth, hz, Option.bind_some, hgr, hg]
        rfl
      · simp only [zX5_worth, hm, Option.bind_some, ix7, o1, n1, e64, hg]
        rfl
    · have hg1 : gb c 1 i j = 1 := (gb01 hR hi7 hj7).resolve_left hg
      obtain ⟨F, hF, eF⟩ := zX3_notOver_eq (n := n) (r := 1) hR.1.2.2.2.2.1 hP7 (by omega)
      obtain ⟨c1, R0, t1, t2, t3, t4, t5, t6, t7⟩ := thinkOf_eq (n := n) hR (by omega) hF.1 (by omega)
      have hR1 : RInv c1 1 Y P := RInv_cg (fun f hf => t2 _ (by omega)) hR
      obtain ⟨c2, d1, d2⟩ := zX3_copyFrom_eq (n := n) (r := 15) (r1 := 1) (u := c1) (by omega) (fun q hq => (hR1.2.2.2.2.1 q hq).2.2.2.2.2) (by omega)
      have hE2 : RvE c2 15 c1 1 := fun f b hb => by
        rw [d2, if_pos ⟨by omega, by rw [Nat.add_sub_cancel_left]; exact hb⟩, Nat.add_sub_cancel_left]
      have hR2 : RInv c2 15 Y P := RInv_tr hE2 hR1
      have hset := zX3_setGrudge_eq (n := n) (r := 15) (c := c2) (s := 0) hi7 hj7 hij
      rw [nI_0] at hset
      have hR3 : RInv (setG c2 15 i j 0) 15 Y P := RInv_setG hi hj hij (by omega) hR2
      have hRM : RInv (setG c 1 i j 0) 1 Y P := RInv_setG hi hj hij (by omega) hR
      have h21 : ∀ f b, inRv f b = true → c2 (15 + f) b = c (1 + f) b := fun f b hb => by
        rw [hE2 f b hb, t2 (1 + f) (by
          by_cases q : f < 14
          · omega
          · exact absurd hb (inRv_hi (by omega)))]
      have hE3 : RvE (setG c2 15 i j 0) 15 (setG c 1 i j 0) 1 := fun f b hb => by
        by_cases q : f = 5
        · subst q
          have hb7 : b < 7 := by
            have := of_decide_eq_true hb
            omega
          rw [setG_row hij, setG_row hij, h21 5 j (inRv_5 hj7), h21 5 i (inRv_5 hi7), h21 5 b hb]
        · rw [setG_o (by omega), setG_o (by omega)]
          exact h21 f b hb
      obtain ⟨F', hF', eF'⟩ := zX3_notOver_eq (n := n) (c := setG c2 15 i j 0) (r := 15) hR3.1.2.2.2.2.1 hP7 (by omega)
      obtain ⟨c4, R0', k1, k2, k3, k4, k5, k6, k7⟩ := thinkOf_eq (n := n) hR3 (by omega) hF'.1 (by omega)
      have hFM : MK (fun q => setG c 1 i j 0 (1 + 7 + q) 5 = 0) F' P := MK_cg (fun q hq => by rw [RvE_p hE3 hq (by omega)]) hF'
      obtain ⟨u1, m1, m2, m3⟩ := lon_m (n := n) hR hX hF t3 t4 hn
      have hX1 : MX c 1 u1 := MX_cg (fun _ _ => rfl) (fun k h1 h2 h3 => m2 k (by omega) (by omega) (by omega)) (m3 12 (by decide) (by decide) (by decide) (by decide)) (m3 13 (by decide) (by decide) (by decide) (by decide)) (m3 14 (by decide) (by decide) (by decide) (by decide)) (m3 15 (by decide) (by decide) (by decide) (by decide)) hX
      have hX3 := MX_setG (s := 0) hi hj hij (by omega) hR hX1
      rw [nI_0] at hX3
      obtain ⟨u4, w1, w2, w3⟩ := lon_m (n := n) hRM hX3 hFM k3 k4 hn
      have hlin : lin (stC (setG c 1 i j 0) 1 Y P F') (P ^ Y) 0 R0' = R3 c4 := by rw [k7, lin_tr hE3 hY1 hY5 hP7]
      rw [hlin] at w1
      rw [← t7] at m1
      have hsm : Sm c c4 := fun k hk => by
        rw [k2 k (by omega), setG_o (by omega), show c2 k = c1 k from by
          funext b
          rw [d2]
          by_cases q : 15 ≤ k ∧ inRv (k - 15) b = true
          · exact absurd q.2 (inRv_hi (by omega))
          · rw [if_neg q]]
        exact t2 k (by omega)
      refine ⟨c4 45 4 - c1 45 4, c4, up2 (up2 u4 64 (7 * i + j) 1) 64 (7 * j + i) 1, ?_, ?_, CINV_sm hsm hI, MREL_sm hsm (MREL_back (u := u) (fun k q1 q2 q3 => ?_) (fun x q1 q2 q3 q4 => ?_) hM)⟩
      · show zX4_worth n c (nI i) (nI j) = _
        unfold zX4_worth
        rw [hz, Option.bind_some, if_neg (by decide), hgr, Option.bind_some, if_neg hg, eF, Option.bind_some, t1, Option.bind_some]
        simp only [letb]
        rw [d1, Option.bind_some, hset, Option.bind_some, eF', Option.bind_some, k1, Option.bind_some]
      · show zX5_worth n u (nI i) (nI j) = _
        unfold zX5_worth
        rw [hm, Option.bind_some, if_neg (by decide), ix7, ix7, o1, o2, n1, n2, e64, if_neg (show ¬ (false = true) by decide), if_neg hg, m1, Option.bind_some]
        simp only [letb, Bool.false_eq_true, if_false]
        rw [w1, Option.bind_some]
        rfl
      · by_cases e : k = 64
        · subst e
          funext x
          by_cases e1 : x = 7 * j + i
          · subst e1
            rw [up2_s, e64', hsy, hg1]
          · rw [up2_i e1]
            by_cases e2 : x = 7 * i + j
            · subst e2
              rw [up2_s, e64, hg1]
            · rw [up2_i e2, w2 64 (by decide) (by decide) (by decide), up2_i e1, up2_i e2, m2 64 (by decide) (by decide) (by decide)]
        · rw [up2_o e, up2_o e, w2 k q1 q2 q3, up2_o e, up2_o e, m2 k q1 q2 q3]
      · rw [up2_o (by decide), up2_o (by decide), w3 x q1 q2 q3 q4, up2_o (by decide), up2_o (by decide), m3 x q1 q2 q3 q4]
  · rw [hz] at hm
    refine opt_ref 1 (by decide) (n := n) hI hM ?_ ?_
    · simp only [zX4_worth, hz, Option.bind_some]
      rfl
    · simp only [zX5_worth, hm, Option.bind_some]
      rfl
