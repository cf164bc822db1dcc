/-! ===== extend is a pass over the numbers of chains ===== -/
def gsm (c : MU) (r : Nat) (h : Nat → Nat) : Nat → Int32
  | 0 => 0
  | y + 1 => gsm c r h y + (if y = 0 then 0 else gb c r (h (y - 1)) (h y))
theorem gsm_cg {c : MU} {r : Nat} {h h' : Nat → Nat} : ∀ (y : Nat), (∀ i, i < y → h i = h' i) → gsm c r h y = gsm c r h' y := by
  intro y
  induction y with
  | zero => intro _; rfl
  | succ y ih =>
    intro e
    simp only [gsm]
    rw [ih (fun i hi => e i (by omega)), e y (by omega)]
    by_cases q : y = 0
    · rw [if_pos q, if_pos q]
    · rw [if_neg q, if_neg q, e (y - 1) (by omega)]
theorem mfold_snoc {g : Nat → Int32} : ∀ (d j : Nat) (a : Int32), mfold g (d + 1) j a = mn (mfold g d j a) (g (j + d)) := by
  intro d
  induction d with
  | zero => intro j a; rfl
  | succ d ih =>
    intro j a
    have h1 : mfold g (d + 1 + 1) j a = mfold g (d + 1) (j + 1) (mn a (g j)) := rfl
    have h2 : mfold g (d + 1) j a = mfold g d (j + 1) (mn a (g j)) := rfl
    rw [h1, h2, ih, show j + 1 + d = j + (d + 1) by omega]
def lsm (c : MU) (r : Nat) (h : Nat → Nat) (y : Nat) : Int32 := mfold (fun i => mntP c r (h i)) y 0 2147483647
def okC (c : MU) (r Y F : Nat) (h : Nat → Nat) (y : Nat) : Prop := ∀ i, i < y → (F.testBit (h i) = true ∧ whyN c r Y i (h i) = -9 ∧ ∀ j, j < i → ¬ h j = h i)
noncomputable def stC (c : MU) (r Y P F N : Nat) (R : Row3) : Row3 := @ite _ (okC c r Y F (dgt P Y N) Y) (Classical.propDecidable _) (Wg Y (dI P Y N) (gsm c r (dgt P Y N) Y) (lsm c r (dgt P Y N) Y) R) R
theorem stC_y {c : MU} {r Y P F N : Nat} {R : Row3} (h : okC c r Y F (dgt P Y N) Y) : stC c r Y P F N R = Wg Y (dI P Y N) (gsm c r (dgt P Y N) Y) (lsm c r (dgt P Y N) Y) R := by unfold stC; rw [if_pos h]
theorem stC_n {c : MU} {r Y P F N : Nat} {R : Row3} (h : ¬ okC c r Y F (dgt P Y N) Y) : stC c r Y P F N R = R := by unfold stC; rw [if_neg h]
def Ex (c : MU) (r Y P : Nat) (u : MU) : Prop := (∀ k, (k < 45 ∨ 50 < k) → u k = c k) ∧ (∀ i, i < Y → ∃ g, u 47 i = nI g ∧ MK (fun q => whyN c r Y i q = -9) g P) ∧ (∀ p, p < 7 → u 48 p = mntP c r p)
theorem Ex_fr {c u u' : MU} {r Y P : Nat} (h : Ex c r Y P u) (hk : ∀ k, k ≠ 45 → k ≠ 46 → k ≠ 49 → k ≠ 50 → u' k = u k) : Ex c r Y P u' :=
  ⟨fun k q => by rw [hk k (by omega) (by omega) (by omega) (by omega)]; exact h.1 k q, fun i hi => by rw [hk 47 (by decide) (by decide) (by decide) (by decide)]; exact h.2.1 i hi, fun p hp => by rw [hk 48 (by decide) (by decide) (by decide) (by decide)]; exact h.2.2 p hp⟩
theorem ext_main {n : Nat} {c : MU} {r Y P F : Nat} (hI : RInv c r Y P) (hr : r ≤ 29) (hn : 20 ≤ n) :
    ∀ (d y N0 fuel f : Nat) (g l : Int32) (u : MU), y + d = Y → d < fuel → (0 < P ∨ y = 0) → Ex c r Y P u → (∀ i, i < y → u 46 i = nI (dgt P y N0 i)) → okC c r Y F (dgt P y N0) y →
      (f < 128 ∧ ∀ q, q < 7 → (f.testBit q = true ↔ F.testBit q = true ∧ ∀ i, i < y → ¬ dgt P y N0 i = q)) → g = gsm c r (dgt P y N0) y → l = lsm c r (dgt P y N0) y →
      ∃ u', zX1_extend n fuel u r (nI y) (nI f) g l = some u' ∧ R3 u' = lin (stC c r Y P F) (P ^ d) (N0 * P ^ d) (R3 u) ∧ (∀ k, k ≠ 45 → k ≠ 46 → k ≠ 49 → k ≠ 50 → u' k = u k) ∧ (∀ i, i < y → u' 46 i = u 46 i) := by
  have hY5 := hI.1.2.1
  have hY1 := hI.1.1
  have hP7 := hI.1.2.2.1
  intro d
  induction d with
  | zero =>
    intro y N0 fuel f g l u hy hf hp hE h46 hok hfm hg hl
    obtain ⟨fuel, rfl⟩ : ∃ e, fuel = e + 1 := ⟨fuel - 1, by omega⟩
    obtain rfl : y = Y := by omega
    have hP0 : 0 < P := by omega
    have hY : u r 0 = nI y := by rw [hE.1 r (by omega)]; exact hI.1.2.2.2.1
    obtain ⟨u', h1, h2, h3⟩ := weigh_eq (n := n) (u := u) (g := g) (l := l) hY5 hn (fun i hi => ⟨_, Nat.lt_of_lt_of_le (dgt_lt hP0) hP7, h46 i hi⟩)
    refine ⟨u', ?_, ?_, fun k a b x z => h2 k a x z, fun i _ => by rw [h2 46 (by decide) (by decide) (by decide)]⟩
    · show zX1_extend_B n (zX1_extend n fuel) u r (nI y) (nI f) g l = some u'
      unfold zX1_extend_B
      rw [hY, if_neg (nI_nlt (Nat.le_refl _) (by omega)), h1, Option.bind_some]
    · rw [Nat.pow_zero, Nat.mul_one]
      show R3 u' = stC c r y P F N0 (R3 u)
      rw [stC_y hok, h3, hg, hl]
      unfold Wg
      exact Wt_cg (fun i hi => h46 i hi)
  | succ d ih =>
    intro y N0 fuel f g l u hy hf hp hE h46 hok hfm hg hl
    obtain ⟨fuel, rfl⟩ : ∃ e, fuel = e + 1 := ⟨fuel - 1, by omega⟩
    have hY : u r 0 = nI Y := by rw [hE.1 r (by omega)]; exact hI.1.2.2.2.1
    have inner : ∀ (e j m : Nat) (u : MU), j + e = P → e < m → Ex c r Y P u → (∀ i, i < y → u 46 i = nI (dgt P y N0 i)) → ∃ u', zX1_extend_L24 n (zX1_extend n fuel) r (nI y) (nI f) g l (fun y17 w18 => some w18) m (nI j) u = some u' ∧ R3 u' = lin (stC c r Y P F) (e * P ^ d) ((N0 * P + j) * P ^ d) (R3 u) ∧ (∀ k, k ≠ 45 → k ≠ 46 → k ≠ 49 → k ≠ 50 → u' k = u k) ∧ (∀ i, i < y → u' 46 i = u 46 i) := by
      intro e
      induction e with
      | zero =>
        intro j m u hj hm hE h46
        obtain ⟨m, rfl⟩ : ∃ e, m = e + 1 := ⟨m - 1, by omega⟩
        obtain rfl : j = P := by omega
        have hP3 : u r 3 = nI j := by rw [hE.1 r (by omega)]; exact hI.1.2.2.2.2.1
        refine ⟨u, ?_, ?_, fun _ _ _ _ _ => rfl, fun _ _ => rfl⟩
        · rw [zX1_extend_L24, hP3, if_pos (nI_le (Nat.le_refl _) (by omega))]
        · rw [Nat.zero_mul]
          rfl
      | succ e ihe =>
        intro j m u hj hm hE h46
        obtain ⟨m, rfl⟩ : ∃ e, m = e + 1 := ⟨m - 1, by omega⟩
        have hjP : j < P := by omega
        have hP3 : u r 3 = nI P := by rw [hE.1 r (by omega)]; exact hI.1.2.2.2.2.1
        obtain ⟨a, ea, ma⟩ := hE.2.1 y (by omega)
        have hfa : f &&& a < 128 := Nat.lt_of_le_of_lt Nat.and_le_left hfm.1
        have hsplit : lin (stC c r Y P F) ((e + 1) * P ^ d) ((N0 * P + j) * P ^ d) (R3 u) = lin (stC c r Y P F) (e * P ^ d) ((N0 * P + (j + 1)) * P ^ d) (lin (stC c r Y P F) (P ^ d) ((N0 * P + j) * P ^ d) (R3 u)) := by
          rw [show (e + 1) * P ^ d = P ^ d + e * P ^ d by rw [Nat.add_mul, Nat.one_mul, Nat.add_comm], lin_add, show (N0 * P + j) * P ^ d + P ^ d = (N0 * P + (j + 1)) * P ^ d by rw [← Nat.add_assoc, Nat.add_mul (N0 * P + j) 1, Nat.one_mul]]
        have hdig : ∀ N, (N0 * P + j) * P ^ d ≤ N → N < (N0 * P + j) * P ^ d + P ^ d → (∀ i, i < y → dgt P Y N i = dgt P y N0 i) ∧ dgt P Y N y = j := by
          intro N q1 q2
          have q3 := dgt_rng q1 q2
          have q4 : ∀ i, i < y + 1 → dgt P Y N i = dgt P (y + 1) (N0 * P + j) i := fun i hi => by
            have := dgt_full (i := i) (y := y + 1) q3 hi
            rw [show y + 1 + d = Y by omega] at this
            exact this
          exact ⟨fun i hi => by rw [q4 i (by omega), dgt_pre hjP hi], by rw [q4 y (by omega), dgt_last hjP]⟩
        rw [zX1_extend_L24, hP3, if_neg (by rw [le_nI (by omega) (by omega)]; omega), oob_no (show y < 5 by omega) (by omega), tn_nI (show y < 2147483648 by omega), ea, nI_and, nI_1]
        simp only [Bool.false_eq_true, if_false, letb]
        by_cases hal : (f &&& a).testBit j = true
        · rw [if_neg (fun z => (bt_and1 _ hfa j (by omega)).mp z hal), hsplit]
          have hal2 : f.testBit j = true ∧ a.testBit j = true := by
            rw [Nat.testBit_and] at hal
            simpa using hal
          obtain ⟨hF, hdis⟩ := (hfm.2 j (by omega)).mp hal2.1
          have hwy := ((ma.2 j (by omega)).mp hal2.2).2
          have hE6 : Ex c r Y P (up2 u 46 y (nI j)) := Ex_fr hE (fun k _ b _ _ => up2_o b)
          obtain ⟨hc1, hc2⟩ := bt_clr f hfm.1 j (by omega)
          have hm48 : up2 u 46 y (nI j) 48 j = mntP c r j := by rw [up2_o (by decide)]; exact hE.2.2 j (by omega)
          have hlast : dgt P (y + 1) (N0 * P + j) y = j := dgt_last hjP
          have hpre : ∀ i, i < y → dgt P (y + 1) (N0 * P + j) i = dgt P y N0 i := fun i hi => dgt_pre hjP hi
          have hl' : (if up2 u 46 y (nI j) 48 j < l then up2 u 46 y (nI j) 48 j else l) = lsm c r (dgt P (y + 1) (N0 * P + j)) (y + 1) := by
            unfold lsm
            rw [mfold_snoc, Nat.zero_add, hlast, hm48, hl]
            have hcg := mfold_cg (g := fun i => mntP c r (dgt P (y + 1) (N0 * P + j) i)) (g' := fun i => mntP c r (dgt P y N0 i)) y 0 2147483647 (fun i _ hi => by
              show mntP c r (dgt P (y + 1) (N0 * P + j) i) = mntP c r (dgt P y N0 i)
              rw [hpre i (by omega)])
            rw [hcg]
            rfl
          have hrec := ih (y + 1) (N0 * P + j) fuel (f &&& (127 ^^^ 2 ^ j)) (gsm c r (dgt P (y + 1) (N0 * P + j)) (y + 1)) (lsm c r (dgt P (y + 1) (N0 * P + j)) (y + 1)) (up2 u 46 y (nI j)) (by omega) (by omega) (Or.inl (by omega)) hE6 (fun i hi => by
            by_cases q : i = y
            · subst q; rw [up2_s, hlast]
            · rw [up2_i q, h46 i (by omega), hpre i (by omega)]) (fun i hi => by
            by_cases q : i = y
            · subst q
              rw [hlast]
              exact ⟨hF, hwy, fun k hk => by rw [hpre k hk]; exact hdis k hk⟩
            · rw [hpre i (by omega)]
              obtain ⟨z1, z2, z3⟩ := hok i (by omega)
              exact ⟨z1, z2, fun k hk => by rw [hpre k (by omega)]; exact z3 k hk⟩) ⟨hc2, fun q hq => by
            rw [bt_clr_t f hfm.1 j (by omega) q hq, hfm.2 q hq]
            constructor
            · rintro ⟨⟨z1, z2⟩, z3⟩
              refine ⟨z1, fun i hi => ?_⟩
              by_cases w : i = y
              · subst w; rw [hlast]; exact z3
              · rw [hpre i (by omega)]; exact z2 i (by omega)
            · rintro ⟨z1, z2⟩
              refine ⟨⟨z1, fun i hi => by rw [← hpre i hi]; exact z2 i (by omega)⟩, ?_⟩
              have := z2 y (by omega)
              rw [hlast] at this
              exact this⟩ rfl rfl
          obtain ⟨u7, r1, r2, r3, r4⟩ := hrec
          have hE7 : Ex c r Y P u7 := Ex_fr hE6 r3
          obtain ⟨u8, s1, s2, s3, s4⟩ := ihe (j + 1) m u7 (by omega) (by omega) hE7 (fun i hi => by rw [r4 i (by omega), up2_i (by omega)]; exact h46 i hi)
          have hR : R3 (up2 u 46 y (nI j)) = R3 u := by
            unfold R3
            rw [up2_o (by decide), up2_o (by decide), up2_o (by decide)]
          rw [hR] at r2
          refine ⟨u8, ?_, by rw [s2, r2], fun k a b x z => by rw [s3 k a b x z, r3 k a b x z, up2_o b], fun i hi => by rw [s4 i hi, r4 i (by omega), up2_i (by omega)]⟩
          by_cases hy0 : y = 0
          · rw [if_pos (by rw [hy0]; rfl), oob_no (show j < 7 by omega) (by omega), tn_nI (show j < 2147483648 by omega), hl', hc1]
            have hg' : g + 0 = gsm c r (dgt P (y + 1) (N0 * P + j)) (y + 1) := by
              rw [hg]
              simp only [gsm]
              rw [if_pos hy0, gsm_cg y hpre]
            rw [hg', nI_1, r1]
            simp only [Bool.false_eq_true, if_false, Option.bind_some]
            exact s1
          · rw [if_neg (nI_ne0 (by omega) (by omega))]
            obtain ⟨i, rfl⟩ : ∃ i, y = i + 1 := ⟨y - 1, by omega⟩
            have hP0 : 0 < P := by omega
            have hlt : dgt P (i + 1) N0 i < 7 := Nat.lt_of_lt_of_le (dgt_lt hP0) hP7
            have e46 : up2 u 46 (i + 1) (nI j) 46 i = nI (dgt P (i + 1) N0 i) := by rw [up2_i (by omega)]; exact h46 i (by omega)
            have hgb : gb (up2 u 46 (i + 1) (nI j)) r (dgt P (i + 1) N0 i) j = gb c r (dgt P (i + 1) N0 i) j := by
              unfold gb
              rw [hE6.1 (r + 5) (by omega)]
            rw [nI_m1, oob_no (show i < 5 by omega) (by omega), tn_nI (show i < 2147483648 by omega), e46, zX3_grudgeOf_eq hlt, hgb]
            simp only [Bool.false_eq_true, if_false, Option.bind_some]
            rw [oob_no (show j < 7 by omega) (by omega), tn_nI (show j < 2147483648 by omega), hl', hc1]
            have hg' : g + gb c r (dgt P (i + 1) N0 i) j = gsm c r (dgt P (i + 1 + 1) (N0 * P + j)) (i + 1 + 1) := by
              rw [hg]
              show gsm c r (dgt P (i + 1) N0) (i + 1) + gb c r (dgt P (i + 1) N0 i) j = gsm c r (dgt P (i + 1 + 1) (N0 * P + j)) (i + 1) + (if i + 1 = 0 then 0 else gb c r (dgt P (i + 1 + 1) (N0 * P + j) (i + 1 - 1)) (dgt P (i + 1 + 1) (N0 * P + j) (i + 1)))
              rw [if_neg hy0, gsm_cg (i + 1) hpre, hlast, Nat.add_sub_cancel, hpre i (by omega)]
            rw [hg', nI_1, r1]
            simp only [Bool.false_eq_true, if_false, Option.bind_some]
            exact s1
        · rw [if_pos ((bt_and1 _ hfa j (by omega)).mpr hal), hsplit]
          have hidd : lin (stC c r Y P F) (P ^ d) ((N0 * P + j) * P ^ d) (R3 u) = R3 u := by
            refine lin_id _ _ _ (fun N q1 q2 t => stC_n (fun z => hal ?_))
            obtain ⟨d1, d2⟩ := hdig N q1 q2
            obtain ⟨z1, z2, z3⟩ := z y (by omega)
            rw [d2] at z1 z2 z3
            rw [Nat.testBit_and]
            have w1 : f.testBit j = true := (hfm.2 j (by omega)).mpr ⟨z1, fun i hi => by rw [← d1 i hi]; exact z3 i hi⟩
            have w2 : a.testBit j = true := (ma.2 j (by omega)).mpr ⟨hjP, z2⟩
            rw [w1, w2]
            rfl
          rw [hidd]
          exact ihe (j + 1) m u (by omega) (by omega) hE h46
    obtain ⟨u', h1, h2, h3, h4⟩ := inner P 0 n u (by omega) (by omega) hE h46
    refine ⟨u', ?_, ?_, h3, h4⟩
    · show zX1_extend_B n (zX1_extend n fuel) u r (nI y) (nI f) g l = some u'
      unfold zX1_extend_B
      rw [hY, if_pos (nI_lt (by omega) (by omega))]
      rw [nI_0] at h1
      exact h1
    · rw [h2, Nat.add_zero, Nat.pow_succ, Nat.mul_comm (P ^ d) P, Nat.mul_assoc]
/-! thinkOf -/
theorem think_a {n : Nat} {r : Nat} {s2 : Int32} {k : Int32 → MU → Option MU} (hr : r ≤ 29) :
    ∀ (d j m : Nat) (v : MU), j + d = 7 → d < m → ∃ w, zX1_thinkOf_L18 n r s2 k m (nI j) v = k (nI 7) w ∧ (∀ a, a ≠ 48 → a ≠ 50 → w a = v a) ∧ (∀ i, j ≤ i → i < 7 → w 50 i = 0 ∧ w 48 i = mntP v r i) ∧ (∀ i, i < j → w 50 i = v 50 i ∧ w 48 i = v 48 i) := by
  intro d
  induction d with
  | zero =>
    intro j m v hj hm
    obtain ⟨m, rfl⟩ : ∃ e, m = e + 1 := ⟨m - 1, by omega⟩
    obtain rfl : j = 7 := by omega
    refine ⟨v, ?_, fun _ _ _ => rfl, fun i h1 h2 => absurd h2 (by omega), fun _ _ => ⟨rfl, rfl⟩⟩
    rw [zX1_thinkOf_L18, if_pos (by decide)]
  | succ d ih =>
    intro j m v hj hm
    obtain ⟨m, rfl⟩ : ∃ e, m = e + 1 := ⟨m - 1, by omega⟩
    obtain ⟨w, h1, h2, h3, h4⟩ := ih (j + 1) m (up2 (up2 v 50 j 0) 48 j (mntP v r j)) (by omega) (by omega)
    have hmn : ∀ i, mntP (up2 (up2 v 50 j 0) 48 j (mntP v r j)) r i = mntP v r i ∨ 7 ≤ i := fun i => by
      by_cases q : i < 7
      · left
        unfold mntP
        rw [up2_o (by omega), up2_o (by omega), up2_o (by omega), up2_o (by omega)]
      · right; omega
    refine ⟨w, ?_, fun a x y => by rw [h2 a x y, up2_o x, up2_o y], fun i a b => ?_, fun i hi => ?_⟩
    · rw [zX1_thinkOf_L18, if_neg (by rw [show (7 : Int32) = nI 7 from rfl, le_nI (by omega) (by omega)]; omega), oob_no (show j < 7 by omega) (by omega), tn_nI (by omega), nI_1]
      simp only [Bool.false_eq_true, if_false, letb, zX2_minutes_eq, Option.bind_some]
      have e : mnt (up2 v 50 j 0 (r + 7 + j) 0) (up2 v 50 j 0 (r + 7 + j) 4) (up2 v 50 j 0 r 1) = mntP v r j := by
        unfold mntP
        rw [up2_o (by omega), up2_o (by omega)]
      rw [e]
      exact h1
    · by_cases q : i = j
      · subst q
        obtain ⟨z1, z2⟩ := h4 i (by omega)
        rw [z1, z2, up2_o (by decide), up2_s, up2_s]
        exact ⟨rfl, rfl⟩
      · obtain ⟨z1, z2⟩ := h3 i (by omega) b
        rcases hmn i with z | z
        · rw [z] at z2; exact ⟨z1, z2⟩
        · omega
    · obtain ⟨z1, z2⟩ := h4 i (by omega)
      rw [z1, z2, up2_o (by decide), up2_i (by omega), up2_i (by omega), up2_o (by decide)]
      exact ⟨rfl, rfl⟩
theorem whyN_cg {c c' : MU} {r Y y p : Nat} (h : ∀ f, f < 14 → c' (r + f) = c (r + f)) (hp : p < 7) : whyN c' r Y y p = whyN c r Y y p := by
  have hp' : c' (r + 7 + p) = c (r + 7 + p) := by rw [Nat.add_assoc]; exact h (7 + p) (by omega)
  unfold whyN rchP hldP ldR
  rw [h 1 (by omega), h 2 (by omega), hp']
theorem MK_cg {C C' : Nat → Prop} {g j : Nat} (h : ∀ q, q < 7 → (C q ↔ C' q)) (hm : MK C g j) : MK C' g j := ⟨hm.1, fun q hq => by rw [hm.2 q hq, h q hq]⟩
theorem think_b {n : Nat} {c : MU} {r Y P : Nat} {s2 : Int32} {k : Int32 → MU → Option MU} (hI : RInv c r Y P) (hr : r ≤ 29) (hn : 20 ≤ n) :
    ∀ (d j m : Nat) (v : MU), j + d = Y → d < m → (∀ f, f < 14 → v (r + f) = c (r + f)) → ∃ w, zX1_thinkOf_L58 n r s2 k m (nI j) v = k (nI Y) w ∧ (∀ a, a ≠ 47 → w a = v a) ∧ (∀ i, j ≤ i → i < Y → ∃ g, w 47 i = nI g ∧ MK (fun q => whyN c r Y i q = -9) g P) ∧ (∀ i, i < j → w 47 i = v 47 i) := by
  have hY5 := hI.1.2.1
  have hP7 := hI.1.2.2.1
  intro d
  induction d with
  | zero =>
    intro j m v hj hm hv
    obtain ⟨m, rfl⟩ : ∃ e, m = e + 1 := ⟨m - 1, by omega⟩
    obtain rfl : j = Y := by omega
    have hv0 : v r 0 = nI j := by have := hv 0 (by omega); rw [Nat.add_zero] at this; rw [this]; exact hI.1.2.2.2.1
    refine ⟨v, ?_, fun _ _ => rfl, fun i h1 h2 => absurd h2 (by omega), fun _ _ => rfl⟩
    rw [zX1_thinkOf_L58, hv0, if_pos (nI_le (Nat.le_refl _) (by omega))]
  | succ d ih =>
    intro j m v hj hm hv
    obtain ⟨m, rfl⟩ : ∃ e, m = e + 1 := ⟨m - 1, by omega⟩
    have hIv : RInv v r Y P := RInv_cg hv hI
    obtain ⟨g, g1, g2⟩ := zX1_ableIn_eq (n := n) (c := v) (r := r) (y := j) hIv.1.2.2.2.1 hY5 hIv.1.2.2.2.2.1 hP7 (by omega) hn
    obtain ⟨w, h1, h2, h3, h4⟩ := ih (j + 1) m (up2 v 47 j (nI g)) (by omega) (by omega) (fun f hf => by rw [up2_o (by omega)]; exact hv f hf)
    refine ⟨w, ?_, fun a x => by rw [h2 a x, up2_o x], fun i a b => ?_, fun i hi => by rw [h4 i (by omega), up2_i (by omega)]⟩
    · rw [zX1_thinkOf_L58, hIv.1.2.2.2.1, if_neg (by rw [le_nI (by omega) (by omega)]; omega), g2, Option.bind_some, oob_no (show j < 5 by omega) (by omega), tn_nI (by omega), nI_1]
      simp only [Bool.false_eq_true, if_false, letb]
      exact h1
    · by_cases q : i = j
      · subst q
        rw [h4 i (by omega), up2_s]
        exact ⟨g, rfl, MK_cg (fun q hq => by rw [whyN_cg hv hq]) g1⟩
      · exact h3 i (by omega) b
theorem thinkOf_eq {n : Nat} {c : MU} {r Y P F : Nat} (hI : RInv c r Y P) (hr : r ≤ 29) (hF : F < 128) (hn : 20 ≤ n) :
    ∃ u' R0, zX1_thinkOf n c r (nI F) = some u' ∧ (∀ k, (k < 45 ∨ 50 < k) → u' k = c k) ∧ R0.1 3 = 0 ∧ R0.1 4 = 0 ∧ R0.1 6 = -9 ∧ (∀ p, p < 7 → R0.2.2 p = 0) ∧ R3 u' = lin (stC c r Y P F) (P ^ Y) 0 R0 := by
  have hY5 := hI.1.2.1
  have hP7 := hI.1.2.2.1
  have ho : ∀ k, k ≠ 45 → up2 (up2 (up2 c 45 3 0) 45 4 0) 45 6 (-9) k = c k := fun k hk => by rw [up2_o hk, up2_o hk, up2_o hk]
  obtain ⟨w, a1, a2, a3, a4⟩ := think_a (n := n) (r := r) (s2 := nI F) (k := fun y12 w13 => zX1_thinkOf_L58 n r (nI F) (fun y19 w20 => Option.bind (zX1_extend n 8 w20 r 0 (nI F) 0 2147483647) (fun q21 => some q21)) n 0 w13) hr 7 0 n (up2 (up2 (up2 c 45 3 0) 45 4 0) 45 6 (-9)) (by omega) (by omega)
  have hwr : ∀ k, k < 45 ∨ 50 < k → w k = c k := fun k hk => by rw [a2 k (by omega) (by omega)]; exact ho k (by omega)
  obtain ⟨x, b1, b2, b3, b4⟩ := think_b (n := n) (s2 := nI F) (k := fun y19 w20 => Option.bind (zX1_extend n 8 w20 r 0 (nI F) 0 2147483647) (fun q21 => some q21)) hI hr hn Y 0 n w (by omega) (by omega) (fun f hf => hwr _ (by omega))
  have hxr : ∀ k, k < 45 ∨ 50 < k → x k = c k := fun k hk => by rw [b2 k (by omega)]; exact hwr k hk
  have hE : Ex c r Y P x := ⟨hxr, fun i hi => b3 i (by omega) hi, fun p hp => by
    rw [b2 48 (by decide), (a3 p (by omega) hp).2]
    unfold mntP
    rw [ho _ (by omega), ho _ (by omega)]⟩
  obtain ⟨u', e1, e2, e3, -⟩ := ext_main (n := n) (F := F) hI hr hn Y 0 0 8 F 0 2147483647 x (by omega) (by omega) (Or.inr rfl) hE (fun i hi => absurd hi (by omega)) (fun i hi => absurd hi (by omega)) ⟨hF, fun q hq => ⟨fun z => ⟨z, fun i hi => absurd hi (by omega)⟩, fun z => z.1⟩⟩ rfl rfl
  rw [Nat.zero_mul] at e2
  have hx45 : x 45 = up2 (up2 (up2 c 45 3 0) 45 4 0) 45 6 (-9) 45 := by rw [b2 45 (by decide), a2 45 (by decide) (by decide)]
  refine ⟨u', R3 x, ?_, fun k hk => by rw [e3 k (by omega) (by omega) (by omega) (by omega)]; exact hxr k hk, ?_, ?_, ?_, fun p hp => ?_, e2⟩
  · unfold zX1_thinkOf
    simp only [letb]
    rw [nI_0] at a1 b1 e1
    rw [a1, b1, e1, Option.bind_some]
  · show x 45 3 = 0
    rw [hx45, up2_i (by decide), up2_i (by decide), up2_s]
  · show x 45 4 = 0
    rw [hx45, up2_i (by decide), up2_s]
  · show x 45 6 = -9
    rw [hx45, up2_s]
  · show x 50 p = 0
    rw [b2 50 (by decide)]
    exact (a3 p (by omega) hp).1
