/-! ===== a statement comes: the class's trial river beside the model's ===== -/
def MW (c : MU) (r : Nat) (u : MU) : Prop :=
  (u 53 12 = c r 0 ∧ u 53 13 = c r 3 ∧ u 53 14 = c r 1 ∧ u 53 15 = c r 2) ∧
  (∀ i, i < 5 → u 55 i = c (r + 1) i ∧ u 56 i = c (r + 2) i ∧ u 57 i = c (r + 3) i) ∧
  (∀ i, i < 49 → u 65 i = c (r + 6) i) ∧
  (∀ p, p < 7 → u 58 p = c (r + 7 + p) 0 ∧ u 59 p = c (r + 7 + p) 1 ∧ u 60 p = c (r + 7 + p) 2 ∧ u 61 p = c (r + 7 + p) 3 ∧ u 62 p = c (r + 7 + p) 4 ∧ u 63 p = c (r + 7 + p) 5) ∧
  (∀ a b, a < 7 → b < 7 → u 64 (7 * a + b) = gb c r a b)
def FCr (r : Nat) (c c' : MU) : Prop := ∀ k, (k < r ∨ r + 14 ≤ k) → c' k = c k
def FU (u u' : MU) : Prop := (∀ k, k ≠ 53 → (k < 55 ∨ 65 < k) → u' k = u k) ∧ (∀ i, (i < 12 ∨ 15 < i) → u' 53 i = u 53 i) ∧ (∀ i, 5 ≤ i → u' 55 i = u 55 i ∧ u' 56 i = u 56 i ∧ u' 57 i = u 57 i) ∧ (∀ i, 49 ≤ i → u' 65 i = u 65 i)
theorem FU_rf {u : MU} : FU u u := ⟨fun _ _ _ => rfl, fun _ _ => rfl, fun _ _ => ⟨rfl, rfl, rfl⟩, fun _ _ => rfl⟩
def TL (r : Nat) (c u : MU) (fc fm : Option (Int32 × MU)) : Prop := ∃ v c' u' Y' P', (v = 0 ∨ v = 1) ∧ fc = some (v, c') ∧ fm = some (v, u') ∧ RInv c' r Y' P' ∧ MW c' r u' ∧ FCr r c c' ∧ FU u u'
theorem TL_no {r Y P : Nat} {c u : MU} {fc fm : Option (Int32 × MU)} (hI : RInv c r Y P) (hM : MW c r u) (h1 : fc = some (0, c)) (h2 : fm = some (0, u)) : TL r c u fc fm := ⟨0, c, u, Y, P, Or.inl rfl, h1, h2, hI, hM, fun _ _ => rfl, FU_rf⟩
theorem w_isYard {n : Nat} {c u : MU} {r : Nat} {a : Int32} (hM : MW c r u) : zX5_isYard n u a = zX3_isYard n c r a := by
  unfold zX5_isYard zX3_isYard
  rw [hM.1.1]
theorem w_isOne {n : Nat} {c u : MU} {r : Nat} {a : Int32} (hM : MW c r u) : zX5_isOne n u a = zX3_isPerson n c r a := by
  unfold zX5_isOne zX3_isPerson
  rw [hM.1.2.1]
theorem w_areTwo {n : Nat} {c u : MU} {r : Nat} {a b : Int32} (hM : MW c r u) : zX5_areTwo n u a b = zX3_areTwo n c r a b := by
  unfold zX5_areTwo zX3_areTwo
  rw [w_isOne hM, w_isOne hM]
/-! cold -/
theorem tell_cold {r Y P a : Nat} {c u : MU} (hI : RInv c r Y P) (hM : MW c r u) (ha : a ≤ 9) : TL r c u (some (1, up2 c r 1 (nI a))) (some (1, up2 u 53 14 (nI a))) := by
  have hc : ∀ f, 1 ≤ f → up2 c r 1 (nI a) (r + f) = c (r + f) := fun f hf => up2_o (by omega)
  have hp : ∀ p, up2 c r 1 (nI a) (r + 7 + p) = c (r + 7 + p) := fun p => up2_o (by omega)
  have hg : ∀ x y, gb (up2 c r 1 (nI a)) r x y = gb c r x y := fun x y => by unfold gb; rw [hc 5 (by omega)]
  obtain ⟨⟨a1, a2, a3, a4⟩, m2, m3, m4, m5⟩ := hM
  have hu : ∀ k, k ≠ 53 → up2 u 53 14 (nI a) k = u k := fun k hk => up2_o hk
  refine ⟨1, _, _, Y, P, Or.inr rfl, rfl, rfl, RInv_sc (fun f h1 _ => hc f h1) (up2_i (by decide)) (up2_i (by decide)) (by rw [up2_s]; exact ⟨a, ha, rfl⟩) hI, ⟨⟨by rw [up2_i (by decide), up2_i (by decide)]; exact a1, by rw [up2_i (by decide), up2_i (by decide)]; exact a2, by rw [up2_s, up2_s], by rw [up2_i (by decide), up2_i (by decide)]; exact a4⟩, fun i hi => by rw [hu 55 (by decide), hu 56 (by decide), hu 57 (by decide), hc 1 (by omega), hc 2 (by omega), hc 3 (by omega)]; exact m2 i hi, fun i hi => by rw [hu 65 (by decide), hc 6 (by omega)]; exact m3 i hi, fun p q => by rw [hu 58 (by decide), hu 59 (by decide), hu 60 (by decide), hu 61 (by decide), hu 62 (by decide), hu 63 (by decide), hp]; exact m4 p q, fun x y hx hy => by rw [hu 64 (by decide), hg]; exact m5 x y hx hy⟩, fun k hk => up2_o (by omega), fun k h1 _ => hu k h1, fun i hi => up2_i (by omega), fun i _ => by rw [hu 55 (by decide), hu 56 (by decide), hu 57 (by decide)]; exact ⟨rfl, rfl, rfl⟩, fun i _ => by rw [hu 65 (by decide)]⟩
/-! yards: depth and pull, and a new number of them -/
theorem RInv_dpw {c c' : MU} {r Y Y' P : Nat} (hI : RInv c r Y P) (hY : 1 ≤ Y' ∧ Y' ≤ 5) (h0 : c' r 0 = nI Y') (h3 : c' r 3 = c r 3) (h1 : c' r 1 = c r 1) (hdp : ∀ k, k < 5 → isD 9 (c' (r + 1) k) ∧ isD 9 (c' (r + 2) k)) (hw : (c' (r + 3) = c (r + 3) ∧ Y' = Y) ∨ ∀ k, k < 5 → c' (r + 3) k = -9) (hf : ∀ f, 5 ≤ f → f < 14 → c' (r + f) = c (r + f)) : RInv c' r Y' P := by
  have hp : ∀ p, p < 7 → c' (r + 7 + p) = c (r + 7 + p) := fun p hp => by rw [Nat.add_assoc]; exact hf (7 + p) (by omega) (by omega)
  have hg : ∀ a b, gb c' r a b = gb c r a b := fun a b => by unfold gb; rw [hf 5 (by omega) (by omega)]
  obtain ⟨⟨j1, j2, j3, j4, j5, j6⟩, i2, i3, i4, i5, i6, i7, i8⟩ := hI
  refine ⟨⟨hY.1, hY.2, j3, h0, by rw [h3]; exact j5, by rw [h1]; exact j6⟩, hdp, fun k hk => ?_, fun j k hj hk => ?_, fun p q => by rw [hp p q]; exact i5 p q, fun a ha => by rw [hf 5 (by omega) (by omega)]; exact i6 a ha, fun a b ha hb => by rw [hg, hg]; exact i7 a b ha hb, fun a b ha hb => by rw [hf 6 (by omega) (by omega)]; exact i8 a b ha hb⟩
  · rcases hw with ⟨w1, w2⟩ | w
    · rw [w1, w2]
      rcases i3 k hk with e | ⟨q, p, hpp, e, e2⟩
      · exact Or.inl e
      · exact Or.inr ⟨q, p, hpp, e, by rw [hp p (by omega)]; exact e2⟩
    · exact Or.inl (w k hk)
  · rcases hw with ⟨w1, w2⟩ | w
    · rw [w1]; exact i4 j k hj hk
    · exact fun _ => Or.inl (w j hj)
theorem tell_yard {n r Y P a b x : Nat} {c u : MU} (hI : RInv c r Y P) (hM : MW c r u) (hb : b ≤ 9) (hx : x ≤ 9) :
    TL r c u (zX3_tellYard n c r (nI a) (nI b) (nI x)) (Option.bind (zX5_isYard n u (nI a)) (fun q10 => if q10 = 0 then (some (0, u)) else (if oob (nI a) 5 = true then none else some (1, up2 (up2 u 55 (nI a).toNatClampNeg (nI b)) 56 (nI a).toNatClampNeg (nI x))))) := by
  have hY5 := hI.1.2.1
  unfold zX3_tellYard
  rw [w_isYard hM]
  rcases zX3_isYard_eq (n := n) (u := c) (r := r) (a := nI a) hI.1.2.2.2.1 hY5 with ⟨j, hj, e, hz⟩ | ⟨-, hz⟩
  · rw [hz, Option.bind_some, Option.bind_some, if_neg n10, if_neg n10, e, oob_no (show j < 5 by omega) (by omega), tn_nI (by omega)]
    simp only [Bool.false_eq_true, if_false, letb]
    have hc : ∀ k, k ≠ r + 1 → k ≠ r + 2 → up2 (up2 c (r + 1) j (nI b)) (r + 2) j (nI x) k = c k := fun k h1 h2 => by rw [up2_o h2, up2_o h1]
    have hp : ∀ p, up2 (up2 c (r + 1) j (nI b)) (r + 2) j (nI x) (r + 7 + p) = c (r + 7 + p) := fun p => hc _ (by omega) (by omega)
    have h0 : up2 (up2 c (r + 1) j (nI b)) (r + 2) j (nI x) r = c r := hc _ (by omega) (by omega)
    have hg : ∀ x' y', gb (up2 (up2 c (r + 1) j (nI b)) (r + 2) j (nI x)) r x' y' = gb c r x' y' := fun x' y' => by unfold gb; rw [hc _ (by omega) (by omega)]
    have e1 : ∀ i, up2 (up2 c (r + 1) j (nI b)) (r + 2) j (nI x) (r + 1) i = if i = j then nI b else c (r + 1) i := fun i => by
      rw [up2_o (by omega)]
      by_cases q : i = j
      · subst q; rw [up2_s, if_pos rfl]
      · rw [up2_i q, if_neg q]
    have e2 : ∀ i, up2 (up2 c (r + 1) j (nI b)) (r + 2) j (nI x) (r + 2) i = if i = j then nI x else c (r + 2) i := fun i => by
      by_cases q : i = j
      · subst q; rw [up2_s, if_pos rfl]
      · rw [up2_i q, if_neg q, up2_o (by omega)]
    obtain ⟨m1, m2, m3, m4, m5⟩ := hM
    have hu : ∀ k, k ≠ 55 → k ≠ 56 → up2 (up2 u 55 j (nI b)) 56 j (nI x) k = u k := fun k h1 h2 => by rw [up2_o h2, up2_o h1]
    have u1 : ∀ i, up2 (up2 u 55 j (nI b)) 56 j (nI x) 55 i = if i = j then nI b else u 55 i := fun i => by
      rw [up2_o (by decide)]
      by_cases q : i = j
      · subst q; rw [up2_s, if_pos rfl]
      · rw [up2_i q, if_neg q]
    have u2 : ∀ i, up2 (up2 u 55 j (nI b)) 56 j (nI x) 56 i = if i = j then nI x else u 56 i := fun i => by
      by_cases q : i = j
      · subst q; rw [up2_s, if_pos rfl]
      · rw [up2_i q, if_neg q, up2_o (by decide)]
    refine ⟨1, _, _, Y, P, Or.inr rfl, rfl, rfl, RInv_dpw hI ⟨hI.1.1, hY5⟩ (by rw [h0]; exact hI.1.2.2.2.1) (by rw [h0]) (by rw [h0]) (fun k hk => ?_) (Or.inl ⟨hc _ (by omega) (by omega), rfl⟩) (fun f h1 h2 => hc _ (by omega) (by omega)), ⟨by rw [hu 53 (by decide) (by decide), h0]; exact m1, fun i hi => ?_, fun i hi => by rw [hu 65 (by decide) (by decide), hc _ (by omega) (by omega)]; exact m3 i hi, fun p q => by rw [hu 58 (by decide) (by decide), hu 59 (by decide) (by decide), hu 60 (by decide) (by decide), hu 61 (by decide) (by decide), hu 62 (by decide) (by decide), hu 63 (by decide) (by decide), hp]; exact m4 p q, fun x' y' hx' hy' => by rw [hu 64 (by decide) (by decide), hg]; exact m5 x' y' hx' hy'⟩, fun k hk => hc k (by omega) (by omega), fun k h1 h2 => hu k (by omega) (by omega), fun i _ => by rw [hu 53 (by decide) (by decide)], fun i hi => ?_, fun i _ => by rw [hu 65 (by decide) (by decide)]⟩
    · rw [e1, e2]
      by_cases q : k = j
      · rw [if_pos q, if_pos q]; exact ⟨⟨b, hb, rfl⟩, ⟨x, hx, rfl⟩⟩
      · rw [if_neg q, if_neg q]; exact hI.2.1 k hk
    · rw [u1, u2, e1, e2, hu 57 (by decide) (by decide), hc (r + 3) (by omega) (by omega)]
      obtain ⟨z1, z2, z3⟩ := m2 i hi
      by_cases q : i = j
      · rw [if_pos q, if_pos q, if_pos q, if_pos q]; exact ⟨rfl, rfl, z3⟩
      · rw [if_neg q, if_neg q, if_neg q, if_neg q]; exact ⟨z1, z2, z3⟩
    · rw [u1, u2, hu 57 (by decide) (by decide), if_neg (by omega), if_neg (by omega)]
      exact ⟨rfl, rfl, rfl⟩
  · rw [hz, Option.bind_some, Option.bind_some, if_pos rfl, if_pos rfl]
    exact TL_no hI hM rfl rfl
/-! a new number of yards -/
theorem yds_L {n r : Nat} {k : Int32 → MU → Option (Int32 × MU)} : ∀ (d j m : Nat) (u : MU), j + d = 5 → d < m → ∃ w, zX3_tellYards_L19 n r k m (nI j) u = k (nI 5) w ∧ (∀ a, a ≠ r + 1 → a ≠ r + 2 → w a = u a) ∧ (∀ i, w (r + 1) i = if j ≤ i ∧ i < 5 then 2 else u (r + 1) i) ∧ (∀ i, w (r + 2) i = if j ≤ i ∧ i < 5 then 2 else u (r + 2) i) := by
  intro d
  induction d with
  | zero =>
    intro j m u hj hm
    obtain ⟨m, rfl⟩ : ∃ e, m = e + 1 := ⟨m - 1, by omega⟩
    obtain rfl : j = 5 := by omega
    refine ⟨u, ?_, fun _ _ _ => rfl, fun i => by rw [if_neg (by omega)], fun i => by rw [if_neg (by omega)]⟩
    rw [zX3_tellYards_L19, if_pos (by decide)]
  | succ d ih =>
    intro j m u hj hm
    obtain ⟨m, rfl⟩ : ∃ e, m = e + 1 := ⟨m - 1, by omega⟩
    obtain ⟨w, h1, h2, h3, h4⟩ := ih (j + 1) m (up2 (up2 u (r + 1) j 2) (r + 2) j 2) (by omega) (by omega)
    refine ⟨w, ?_, fun a x y => by rw [h2 a x y, up2_o y, up2_o x], fun i => ?_, fun i => ?_⟩
    · rw [zX3_tellYards_L19, if_neg (by rw [show (5 : Int32) = nI 5 from rfl, le_nI (by omega) (by omega)]; omega), oob_no (by omega : j < 5) (by omega), tn_nI (by omega), nI_1]
      simp only [Bool.false_eq_true, if_false, letb]
      exact h1
    · rw [h3, up2_o (by omega)]
      by_cases q : i = j
      · subst q; rw [if_neg (by omega), up2_s, if_pos (by omega)]
      · rw [up2_i q]
        by_cases z : j + 1 ≤ i ∧ i < 5
        · rw [if_pos z, if_pos (by omega)]
        · rw [if_neg z, if_neg (by omega)]
    · rw [h4]
      by_cases q : i = j
      · subst q; rw [if_neg (by omega), up2_s, if_pos (by omega)]
      · rw [up2_i q, up2_o (by omega)]
        by_cases z : j + 1 ≤ i ∧ i < 5
        · rw [if_pos z, if_pos (by omega)]
        · rw [if_neg z, if_neg (by omega)]
theorem beg_L {n : Nat} {k : Int32 → MU → Option (Int32 × MU)} : ∀ (d j m : Nat) (u : MU), j + d = 5 → d < m → ∃ w, zX5_begins_L18 n k m (nI j) u = k (nI 5) w ∧ (∀ a, a ≠ 55 → a ≠ 56 → a ≠ 57 → w a = u a) ∧ (∀ i, w 55 i = if j ≤ i ∧ i < 5 then 2 else u 55 i) ∧ (∀ i, w 56 i = if j ≤ i ∧ i < 5 then 2 else u 56 i) ∧ (∀ i, w 57 i = if j ≤ i ∧ i < 5 then -9 else u 57 i) := by
  intro d
  induction d with
  | zero =>
    intro j m u hj hm
    obtain ⟨m, rfl⟩ : ∃ e, m = e + 1 := ⟨m - 1, by omega⟩
    obtain rfl : j = 5 := by omega
    refine ⟨u, ?_, fun _ _ _ _ => rfl, fun i => by rw [if_neg (by omega)], fun i => by rw [if_neg (by omega)], fun i => by rw [if_neg (by omega)]⟩
    rw [zX5_begins_L18, if_pos (by decide)]
  | succ d ih =>
    intro j m u hj hm
    obtain ⟨m, rfl⟩ : ∃ e, m = e + 1 := ⟨m - 1, by omega⟩
    obtain ⟨w, h1, h2, h3, h4, h5⟩ := ih (j + 1) m (up2 (up2 (up2 u 55 j 2) 56 j 2) 57 j (-9)) (by omega) (by omega)
    have fin : ∀ (v : Int32) (x : Int32) (i : Nat) (y : Int32), (i = j → y = v) → (i ≠ j → y = x) → (if j + 1 ≤ i ∧ i < 5 then v else y) = if j ≤ i ∧ i < 5 then v else x := fun v x i y e1 e2 => by
      by_cases q : i = j
      · rw [if_neg (by omega), if_pos (by omega), e1 q]
      · by_cases z : j + 1 ≤ i ∧ i < 5
        · rw [if_pos z, if_pos (by omega)]
        · rw [if_neg z, if_neg (by omega), e2 q]
    refine ⟨w, ?_, fun a x y z => by rw [h2 a x y z, up2_o z, up2_o y, up2_o x], fun i => ?_, fun i => ?_, fun i => ?_⟩
    · rw [zX5_begins_L18, if_neg (by rw [show (5 : Int32) = nI 5 from rfl, le_nI (by omega) (by omega)]; omega), oob_no (by omega : j < 5) (by omega), tn_nI (by omega), nI_1]
      simp only [Bool.false_eq_true, if_false, letb]
      exact h1
    · rw [h3, up2_o (by decide), up2_o (by decide)]
      exact fin 2 _ i _ (fun e => by rw [e, up2_s]) (fun e => up2_i e)
    · rw [h4, up2_o (by decide)]
      exact fin 2 _ i _ (fun e => by rw [e, up2_s]) (fun e => by rw [up2_i e, up2_o (by decide)])
    · rw [h5]
      exact fin (-9) _ i _ (fun e => by rw [e, up2_s]) (fun e => by rw [up2_i e, up2_o (by decide), up2_o (by decide)])
theorem tell_yards {n r Y P a : Nat} {c u : MU} (hI : RInv c r Y P) (hM : MW c r u) (ha : a ≤ 9) (hn : 20 ≤ n) : TL r c u (zX3_tellYards n c r (nI a)) (zX5_begins n u (nI a)) := by
  have h12 : ∀ k, k ≤ 9 → ((nI k < 1 ↔ k < 1) ∧ (nI k ≤ 5 ↔ k ≤ 5) ∧ (5 < nI k ↔ 5 < k)) := fun k hk => by
    rw [show (1 : Int32) = nI 1 from rfl, show (5 : Int32) = nI 5 from rfl, lt_nI (by omega) (by omega), le_nI (by omega) (by omega), lt_nI (by omega) (by omega)]
    exact ⟨Iff.rfl, Iff.rfl, Iff.rfl⟩
  obtain ⟨q1, q2, q3⟩ := h12 a ha
  unfold zX3_tellYards zX5_begins zX5_isIn
  by_cases h1 : a < 1
  · rw [if_pos (q1.mpr h1), if_pos (q1.mpr h1), Option.bind_some, if_pos rfl]
    exact TL_no hI hM rfl rfl
  · rw [if_neg (fun z => h1 (q1.mp z)), if_neg (fun z => h1 (q1.mp z))]
    by_cases h5 : a ≤ 5
    · rw [if_pos (q2.mpr h5), if_neg (fun z => by have := q3.mp z; omega), Option.bind_some, if_neg (by decide)]
      simp only [letb]
      obtain ⟨w, e1, e2, e3, e4⟩ := yds_L (n := n) (r := r) (k := fun y9 w10 => Option.bind (zX3_emptyWater n w10 r) (fun q11 => some (1, q11))) 5 0 n (up2 c r 0 (nI a)) (by omega) (by omega)
      obtain ⟨v, g1, g2, g3, g4, g5⟩ := beg_L (n := n) (k := fun y12 w13 => some (1, w13)) 5 0 n (up2 u 53 12 (nI a)) (by omega) (by omega)
      rw [nI_0] at e1 g1
      rw [e1, g1, zX3_emptyWater_eq (by omega), Option.bind_some]
      have hc : ∀ k, k ≠ r → k ≠ r + 1 → k ≠ r + 2 → k ≠ r + 3 → fl (r + 3) (-9) 5 0 w k = c k := fun k a1 a2 a3 a4 => by rw [fl_o a4, e2 k a2 a3, up2_o a1]
      have hp : ∀ p, fl (r + 3) (-9) 5 0 w (r + 7 + p) = c (r + 7 + p) := fun p => hc _ (by omega) (by omega) (by omega) (by omega)
      have h0 : ∀ i, i ≠ 0 → fl (r + 3) (-9) 5 0 w r i = c r i := fun i hi => by rw [fl_o (by omega), e2 r (by omega) (by omega), up2_i hi]
      have h00 : fl (r + 3) (-9) 5 0 w r 0 = nI a := by rw [fl_o (by omega), e2 r (by omega) (by omega), up2_s]
      have hd1 : ∀ i, fl (r + 3) (-9) 5 0 w (r + 1) i = if 0 ≤ i ∧ i < 5 then 2 else c (r + 1) i := fun i => by rw [fl_o (by omega), e3, up2_o (by omega)]
      have hd2 : ∀ i, fl (r + 3) (-9) 5 0 w (r + 2) i = if 0 ≤ i ∧ i < 5 then 2 else c (r + 2) i := fun i => by rw [fl_o (by omega), e4, up2_o (by omega)]
      have hd3 : ∀ i, i < 5 → fl (r + 3) (-9) 5 0 w (r + 3) i = -9 := fun i hi => by rw [fl_in, if_pos (by omega)]
      have hg : ∀ x' y', gb (fl (r + 3) (-9) 5 0 w) r x' y' = gb c r x' y' := fun x' y' => by unfold gb; rw [hc _ (by omega) (by omega) (by omega) (by omega)]
      obtain ⟨⟨a1, a2, a3, a4⟩, m2, m3, m4, m5⟩ := hM
      have hv : ∀ k, k ≠ 53 → k ≠ 55 → k ≠ 56 → k ≠ 57 → v k = u k := fun k b1 b2 b3 b4 => by rw [g2 k b2 b3 b4, up2_o b1]
      have h53 : ∀ i, i ≠ 12 → v 53 i = u 53 i := fun i hi => by rw [g2 53 (by decide) (by decide) (by decide), up2_i hi]
      have hu5 : ∀ q, q ≠ 53 → up2 u 53 12 (nI a) q = u q := fun q hq => up2_o hq
      refine ⟨1, _, v, a, P, Or.inr rfl, rfl, rfl, RInv_dpw hI ⟨by omega, h5⟩ h00 (h0 3 (by decide)) (h0 1 (by decide)) (fun k hk => ?_) (Or.inr hd3) (fun f b1 b2 => hc _ (by omega) (by omega) (by omega) (by omega)), ⟨⟨?_, by rw [h53 13 (by decide), h0 3 (by decide)]; exact a2, by rw [h53 14 (by decide), h0 1 (by decide)]; exact a3, by rw [h53 15 (by decide), h0 2 (by decide)]; exact a4⟩, fun i hi => ?_, fun i hi => by rw [hv 65 (by decide) (by decide) (by decide) (by decide), hc _ (by omega) (by omega) (by omega) (by omega)]; exact m3 i hi, fun p q => by rw [hv 58 (by decide) (by decide) (by decide) (by decide), hv 59 (by decide) (by decide) (by decide) (by decide), hv 60 (by decide) (by decide) (by decide) (by decide), hv 61 (by decide) (by decide) (by decide) (by decide), hv 62 (by decide) (by decide) (by decide) (by decide), hv 63 (by decide) (by decide) (by decide) (by decide), hp]; exact m4 p q, fun x' y' hx' hy' => by rw [hv 64 (by decide) (by decide) (by decide) (by decide), hg]; exact m5 x' y' hx' hy'⟩, fun k hk => hc k (by omega) (by omega) (by omega) (by omega), fun k b1 b2 => hv k b1 (by omega) (by omega) (by omega), fun i hi => h53 i (by omega), fun i hi => ?_, fun i _ => by rw [hv 65 (by decide) (by decide) (by decide) (by decide)]⟩
      · rw [hd1, hd2, if_pos (by omega), if_pos (by omega)]; exact ⟨⟨2, by omega, rfl⟩, ⟨2, by omega, rfl⟩⟩
      · rw [g2 53 (by decide) (by decide) (by decide), up2_s, h00]
      · rw [g3, g4, g5, hd1, hd2, hd3 i hi, if_pos (by omega), if_pos (by omega), if_pos (by omega), if_pos (by omega), if_pos (by omega)]
        exact ⟨rfl, rfl, rfl⟩
      · rw [g3, g4, g5, if_neg (by omega), if_neg (by omega), if_neg (by omega), hu5 55 (by decide), hu5 56 (by decide), hu5 57 (by decide)]
        exact ⟨rfl, rfl, rfl⟩
    · rw [if_neg (fun z => h5 (q2.mp z)), if_pos (q3.mpr (by omega)), Option.bind_some, if_pos rfl]
      exact TL_no hI hM rfl rfl
/-! a grudge -/
theorem tell_grudge {n r Y P a b : Nat} {c u : MU} (hI : RInv c r Y P) (hM : MW c r u) :
    TL r c u (zX3_tellGrudge n c r (nI a) (nI b)) (Option.bind (zX5_areTwo n u (nI a) (nI b)) (fun q19 => if q19 = 0 then (some (0, u)) else (if oob ((7 * nI a) + nI b) 49 = true then none else if oob ((7 * nI b) + nI a) 49 = true then none else some (1, up2 (up2 u 64 ((7 * nI a) + nI b).toNatClampNeg (1 - (u 64 ((7 * nI a) + nI b).toNatClampNeg))) 64 ((7 * nI b) + nI a).toNatClampNeg (1 - (u 64 ((7 * nI a) + nI b).toNatClampNeg)))))) := by
  have hP7 := hI.1.2.2.1
  unfold zX3_tellGrudge
  rw [w_areTwo hM]
  rcases zX3_areTwo_eq (n := n) (c := c) (r := r) (a := nI a) (b := nI b) hI.1.2.2.2.2.1 hP7 with ⟨i, j, hi, hj, hij, ea, eb, hz⟩ | hz
  · have hs : ∃ s, s < 2 ∧ 1 - gb c r i j = nI s := by
      rcases gb01 hI (show i < 7 by omega) (show j < 7 by omega) with e | e
      · exact ⟨1, by omega, by rw [e]; rfl⟩
      · exact ⟨0, by omega, by rw [e]; rfl⟩
    obtain ⟨s, hs2, es⟩ := hs
    obtain ⟨m1, m2, m3, m4, m5⟩ := hM
    rw [hz, Option.bind_some, Option.bind_some, if_neg n10, if_neg n10, ea, eb, zX3_grudgeOf_eq (by omega), Option.bind_some, es, zX3_setGrudge_eq (by omega) (by omega) hij, Option.bind_some, ix7, ix7, oob_no (show 7 * i + j < 49 by omega) (by omega), oob_no (show 7 * j + i < 49 by omega) (by omega), tn_nI (by omega), tn_nI (by omega), m5 i j (by omega) (by omega), es]
    simp only [Bool.false_eq_true, if_false]
    have o : ∀ f, f ≠ 5 → setG c r i j s (r + f) = c (r + f) := fun f hf => setG_o (by omega)
    have o0 : setG c r i j s r = c r := setG_o (by omega)
    have op : ∀ p, setG c r i j s (r + 7 + p) = c (r + 7 + p) := fun p => setG_o (by omega)
    have hu : ∀ k, k ≠ 64 → up2 (up2 u 64 (7 * i + j) (nI s)) 64 (7 * j + i) (nI s) k = u k := fun k hk => by rw [up2_o hk, up2_o hk]
    refine ⟨1, _, _, Y, P, Or.inr rfl, rfl, rfl, RInv_setG hi hj hij hs2 hI, ⟨by rw [hu 53 (by decide), o0]; exact m1, fun x hx => by rw [hu 55 (by decide), hu 56 (by decide), hu 57 (by decide), o 1 (by omega), o 2 (by omega), o 3 (by omega)]; exact m2 x hx, fun x hx => by rw [hu 65 (by decide), o 6 (by omega)]; exact m3 x hx, fun p hp => by rw [hu 58 (by decide), hu 59 (by decide), hu 60 (by decide), hu 61 (by decide), hu 62 (by decide), hu 63 (by decide), op]; exact m4 p hp, fun x y hx hy => ?_⟩, fun k hk => setG_o (by omega), fun k _ h2 => hu k (by omega), fun x _ => by rw [hu 53 (by decide)], fun x _ => by rw [hu 55 (by decide), hu 56 (by decide), hu 57 (by decide)]; exact ⟨rfl, rfl, rfl⟩, fun x _ => by rw [hu 65 (by decide)]⟩
    rw [setG_gb (by omega) (by omega) hij hs2 hy hI.2.2.2.2.2.1]
    by_cases h1 : 7 * x + y = 7 * j + i
    · rw [h1, up2_s, if_pos (by omega)]
    · rw [up2_i h1]
      by_cases h2 : 7 * x + y = 7 * i + j
      · rw [h2, up2_s, if_pos (by omega)]
      · rw [up2_i h2, if_neg (by omega)]
        exact m5 x y hx hy
  · rw [hz, Option.bind_some, Option.bind_some, if_pos rfl, if_pos rfl]
    exact TL_no hI hM rfl rfl
/-! somebody goes in -/
def cT (c : MU) (r : Nat) (u : MU) : MU := fun a b => if a = r + 1 then u 55 b else if a = r + 2 then u 56 b else if a = r + 3 then u 57 b else if a = r + 6 then u 65 b else c a b
theorem cT_o {c u : MU} {r k : Nat} (h1 : k ≠ r + 1) (h2 : k ≠ r + 2) (h3 : k ≠ r + 3) (h6 : k ≠ r + 6) : cT c r u k = c k := by
  funext b
  unfold cT
  rw [if_neg h1, if_neg h2, if_neg h3, if_neg h6]
theorem cT_1 {c u : MU} {r : Nat} : cT c r u (r + 1) = u 55 := by funext b; unfold cT; rw [if_pos rfl]
theorem cT_2 {c u : MU} {r : Nat} : cT c r u (r + 2) = u 56 := by funext b; unfold cT; rw [if_neg (by omega), if_pos rfl]
theorem cT_3 {c u : MU} {r : Nat} : cT c r u (r + 3) = u 57 := by funext b; unfold cT; rw [if_neg (by omega), if_neg (by omega), if_pos rfl]
theorem cT_6 {c u : MU} {r : Nat} : cT c r u (r + 6) = u 65 := by funext b; unfold cT; rw [if_neg (by omega), if_neg (by omega), if_neg (by omega), if_pos rfl]
theorem cT_E {c u : MU} {r : Nat} (hM : MW c r u) : RvE (cT c r u) r c r := fun f b hb => by
  have hb' := of_decide_eq_true hb
  by_cases h1 : f = 1
  · subst h1; rw [cT_1]; exact (hM.2.1 b (by omega)).1
  · by_cases h2 : f = 2
    · subst h2; rw [cT_2]; exact (hM.2.1 b (by omega)).2.1
    · by_cases h3 : f = 3
      · subst h3; rw [cT_3]; exact (hM.2.1 b (by omega)).2.2
      · by_cases h6 : f = 6
        · subst h6; rw [cT_6]; exact hM.2.2.1 b (by omega)
        · rw [cT_o (by omega) (by omega) (by omega) (by omega)]
theorem cT_M {c u : MU} {r : Nat} (hM : MW c r u) : MX (cT c r u) r u := by
  have h0 : cT c r u r = c r := cT_o (by omega) (by omega) (by omega) (by omega)
  have hp : ∀ p, cT c r u (r + 7 + p) = c (r + 7 + p) := fun p => cT_o (by omega) (by omega) (by omega) (by omega)
  refine ⟨by rw [h0]; exact hM.1, cT_1.symm, cT_2.symm, cT_6.symm, fun p q => by rw [hp]; exact hM.2.2.2.1 p q, fun a b ha hb => ?_⟩
  rw [gb_tr (cT_E hM) ha]
  exact hM.2.2.2.2 a b ha hb
theorem tell_in {n r Y P a b : Nat} {c u : MU} (hI : RInv c r Y P) (hM : MW c r u) (hn : 20 ≤ n) :
    TL r c u (zX3_tellIn n c r (nI a) (nI b)) (Option.bind (zX5_isYard n u (nI a)) (fun q36 => if q36 = 0 then (some (0, u)) else (Option.bind (zX5_isOne n u (nI b)) (fun q39 => if q39 = 0 then (some (0, u)) else (if oob (nI b) 7 = true then none else if (u 63 (nI b).toNatClampNeg) = 1 then (some (0, u)) else (Option.bind (zX5_sets n u (nI a) (nI b)) (fun q44 => some (1, q44)))))))) := by
  have hY5 := hI.1.2.1
  have hP7 := hI.1.2.2.1
  unfold zX3_tellIn
  rw [w_isYard hM, w_isOne hM]
  rcases zX3_isYard_eq (n := n) (u := c) (r := r) (a := nI a) hI.1.2.2.2.1 hY5 with ⟨y, hy, ea, hz⟩ | ⟨-, hz⟩
  · rw [hz, Option.bind_some, Option.bind_some, if_neg n10, if_neg n10]
    rcases zX3_isPerson_eq (n := n) (u := c) (r := r) (a := nI b) hI.1.2.2.2.2.1 hP7 with ⟨p, hp, eb, hz2⟩ | ⟨-, hz2⟩
    · rw [hz2, Option.bind_some, Option.bind_some, if_neg n10, if_neg n10, ea, eb, oob_no (show p < 7 by omega) (by omega), tn_nI (by omega)]
      simp only [Bool.false_eq_true, if_false]
      have mo := (hM.2.2.2.1 p (by omega)).2.2.2.2.2
      rw [mo]
      rcases (hI.2.2.2.2.1 p (by omega)).2.2.2.2.2 with o0 | o1
      · have hIT : RInv (cT c r u) r Y P := RInv_tr (cT_E hM) hI
        have oT : cT c r u (r + 7 + p) 5 = 0 := by rw [cT_o (by omega) (by omega) (by omega) (by omega)]; exact o0
        obtain ⟨u', s1, s2, s3⟩ := zX5_sets_eq (n := n) hIT (cT_M hM) cT_3.symm hy hp oT (by omega)
        rw [o0, if_pos rfl, if_neg (by decide), zX3_enter_eq hI.1.2.2.2.1 hY5 (by omega) (by omega), Option.bind_some, s1, Option.bind_some]
        have o : ∀ f, f ≠ 3 → entC c r Y y p (r + f) = c (r + f) := fun f hf => entC_o (by omega)
        have e0 : entC c r Y y p r = c r := entC_o (by omega)
        have op : ∀ q, entC c r Y y p (r + 7 + q) = c (r + 7 + q) := fun q => entC_o (by omega)
        have hg : ∀ x' y', gb (entC c r Y y p) r x' y' = gb c r x' y' := fun x' y' => by unfold gb; rw [o 5 (by omega)]
        obtain ⟨m1, m2, m3, m4, m5⟩ := hM
        refine ⟨1, _, u', Y, P, Or.inr rfl, rfl, rfl, RInv_ent hI hy hp o0, ⟨by rw [s2 53 (by decide), e0]; exact m1, fun i hi => ?_, fun i hi => by rw [s2 65 (by decide), o 6 (by omega)]; exact m3 i hi, fun q hq => by rw [s2 58 (by decide), s2 59 (by decide), s2 60 (by decide), s2 61 (by decide), s2 62 (by decide), s2 63 (by decide), op]; exact m4 q hq, fun x' y' hx hy' => by rw [s2 64 (by decide), hg]; exact m5 x' y' hx hy'⟩, fun k hk => entC_o (by omega), fun k _ h2 => s2 k (by omega), fun i _ => by rw [s2 53 (by decide)], fun i hi => ?_, fun i _ => by rw [s2 65 (by decide)]⟩
        · rw [s2 55 (by decide), s2 56 (by decide), o 1 (by omega), o 2 (by omega), s3, entC_row, entC_row, cT_3]
          obtain ⟨z1, z2, z3⟩ := m2 i hi
          rw [z3]
          exact ⟨z1, z2, rfl⟩
        · rw [s2 55 (by decide), s2 56 (by decide), s3, entC_row, cT_3, if_neg (by omega), if_neg (by omega)]
          exact ⟨rfl, rfl, rfl⟩
      · rw [o1, if_neg (by decide), if_pos rfl]
        exact TL_no hI hM rfl rfl
    · rw [hz2, Option.bind_some, Option.bind_some, if_pos rfl, if_pos rfl]
      exact TL_no hI hM rfl rfl
  · rw [hz, Option.bind_some, Option.bind_some, if_pos rfl, if_pos rfl]
    exact TL_no hI hM rfl rfl
