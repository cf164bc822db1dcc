/-! ===== one more of the people; a statement ===== -/
theorem one_L {n P : Nat} {k : Int32 → MU → Option (Int32 × MU)} (hP : P < 7) : ∀ (d j m : Nat) (v : MU), v 53 13 = nI P → j + d = 7 → d < m → ∃ w, zX5_comesOne_L116 n k m (nI j) v = k (nI 7) w ∧ (∀ a, a ≠ 64 → a ≠ 65 → w a = v a) ∧ (∀ a b, a < 7 → b < 7 → w 64 (7 * a + b) = if (a = P ∧ j ≤ b) ∨ (b = P ∧ j ≤ a) then 0 else v 64 (7 * a + b)) ∧ (∀ a b, a < 7 → b < 7 → w 65 (7 * a + b) = if (a = P ∧ j ≤ b) ∨ (b = P ∧ j ≤ a) then 0 else v 65 (7 * a + b)) ∧ (∀ i, 49 ≤ i → w 65 i = v 65 i) := by
  intro d
  induction d with
  | zero =>
    intro j m v hv hj hm
    obtain ⟨m, rfl⟩ : ∃ e, m = e + 1 := ⟨m - 1, by omega⟩
    obtain rfl : j = 7 := by omega
    refine ⟨v, ?_, fun _ _ _ => rfl, fun a b ha hb => by rw [if_neg (by omega)], fun a b ha hb => by rw [if_neg (by omega)], fun _ _ => rfl⟩
    rw [zX5_comesOne_L116, if_pos (by decide)]
  | succ d ih =>
    intro j m v hv hj hm
    obtain ⟨m, rfl⟩ : ∃ e, m = e + 1 := ⟨m - 1, by omega⟩
    have h1 : up2 v 64 (7 * P + j) 0 53 13 = nI P := by rw [up2_o (by decide)]; exact hv
    have h2 : up2 (up2 v 64 (7 * P + j) 0) 64 (7 * j + P) 0 53 13 = nI P := by rw [up2_o (by decide)]; exact h1
    have h3 : up2 (up2 (up2 v 64 (7 * P + j) 0) 64 (7 * j + P) 0) 65 (7 * P + j) 0 53 13 = nI P := by rw [up2_o (by decide)]; exact h2
    have h4 : up2 (up2 (up2 (up2 v 64 (7 * P + j) 0) 64 (7 * j + P) 0) 65 (7 * P + j) 0) 65 (7 * j + P) 0 53 13 = nI P := by rw [up2_o (by decide)]; exact h3
    obtain ⟨w, g1, g2, g3, g4, g5⟩ := ih (j + 1) m _ h4 (by omega) (by omega)
    refine ⟨w, ?_, fun a x y => by rw [g2 a x y, up2_o y, up2_o y, up2_o x, up2_o x], fun a b ha hb => ?_, fun a b ha hb => ?_, fun i hi => by rw [g5 i hi, up2_i (by omega), up2_i (by omega), up2_o (by decide), up2_o (by decide)]⟩
    · rw [zX5_comesOne_L116, if_neg (by rw [show (7 : Int32) = nI 7 from rfl, le_nI (by omega) (by omega)]; omega), hv, ix7, oob_no (show 7 * P + j < 49 by omega) (by omega), tn_nI (by omega)]
      simp only [Bool.false_eq_true, if_false, letb]
      rw [h1, ix7, oob_no (show 7 * j + P < 49 by omega) (by omega), tn_nI (by omega)]
      simp only [Bool.false_eq_true, if_false]
      rw [h2, ix7, oob_no (show 7 * P + j < 49 by omega) (by omega), tn_nI (by omega)]
      simp only [Bool.false_eq_true, if_false]
      rw [h3, ix7, oob_no (show 7 * j + P < 49 by omega) (by omega), tn_nI (by omega), nI_1]
      simp only [Bool.false_eq_true, if_false]
      exact g1
    · rw [g3 a b ha hb, up2_o (by decide), up2_o (by decide)]
      by_cases q : (a = P ∧ j + 1 ≤ b) ∨ (b = P ∧ j + 1 ≤ a)
      · rw [if_pos q, if_pos (by omega)]
      · rw [if_neg q]
        by_cases q1 : 7 * a + b = 7 * j + P
        · rw [q1, up2_s, if_pos (by omega)]
        · rw [up2_i q1]
          by_cases q2 : 7 * a + b = 7 * P + j
          · rw [q2, up2_s, if_pos (by omega)]
          · rw [up2_i q2, if_neg (by omega)]
    · rw [g4 a b ha hb]
      by_cases q : (a = P ∧ j + 1 ≤ b) ∨ (b = P ∧ j + 1 ≤ a)
      · rw [if_pos q, if_pos (by omega)]
      · rw [if_neg q]
        by_cases q1 : 7 * a + b = 7 * j + P
        · rw [q1, up2_s, if_pos (by omega)]
        · rw [up2_i q1]
          by_cases q2 : 7 * a + b = 7 * P + j
          · rw [q2, up2_s, if_pos (by omega)]
          · rw [up2_i q2, up2_o (by decide), up2_o (by decide), if_neg (by omega)]
def addC (c : MU) (r P k f h s w : Nat) : MU := up2 (up2 (up2 (up2 (up2 (up2 (up2 c (r + 7 + P) 0 (nI k)) (r + 7 + P) 1 (nI f)) (r + 7 + P) 2 (nI h)) (r + 7 + P) 3 (nI s)) (r + 7 + P) 4 (nI w)) (r + 7 + P) 5 0) r 3 (nI (P + 1))
theorem addC_o {c : MU} {r P k f h s w x : Nat} (h1 : x ≠ r) (h2 : x ≠ r + 7 + P) : addC c r P k f h s w x = c x := by
  unfold addC
  rw [up2_o h1, up2_o h2, up2_o h2, up2_o h2, up2_o h2, up2_o h2, up2_o h2]
theorem addC_r {c : MU} {r P k f h s w i : Nat} (hi : i ≠ 3) : addC c r P k f h s w r i = c r i := by
  unfold addC
  rw [up2_i hi, up2_o (by omega), up2_o (by omega), up2_o (by omega), up2_o (by omega), up2_o (by omega), up2_o (by omega)]
theorem addC_3 {c : MU} {r P k f h s w : Nat} : addC c r P k f h s w r 3 = nI (P + 1) := up2_s
theorem addC_p {c : MU} {r P k f h s w : Nat} : addC c r P k f h s w (r + 7 + P) 0 = nI k ∧ addC c r P k f h s w (r + 7 + P) 1 = nI f ∧ addC c r P k f h s w (r + 7 + P) 2 = nI h ∧ addC c r P k f h s w (r + 7 + P) 3 = nI s ∧ addC c r P k f h s w (r + 7 + P) 4 = nI w ∧ addC c r P k f h s w (r + 7 + P) 5 = 0 := by
  unfold addC
  rw [up2_o (show r + 7 + P ≠ r by omega)]
  refine ⟨?_, ?_, ?_, ?_, ?_, up2_s⟩
  · rw [up2_i (by decide), up2_i (by decide), up2_i (by decide), up2_i (by decide), up2_i (by decide), up2_s]
  · rw [up2_i (by decide), up2_i (by decide), up2_i (by decide), up2_i (by decide), up2_s]
  · rw [up2_i (by decide), up2_i (by decide), up2_i (by decide), up2_s]
  · rw [up2_i (by decide), up2_i (by decide), up2_s]
  · rw [up2_i (by decide), up2_s]
theorem tellPerson_eq {n r P k f h s w : Nat} {c : MU} (hP : c r 3 = nI P) (hP7 : P < 7) (hk : k ≤ 5) : zX3_tellPerson n c r (nI k) (nI f) (nI h) (nI s) (nI w) = some (1, addC c r P k f h s w) := by
  have e3 : up2 (up2 (up2 (up2 (up2 (up2 c (r + 7 + P) 0 (nI k)) (r + 7 + P) 1 (nI f)) (r + 7 + P) 2 (nI h)) (r + 7 + P) 3 (nI s)) (r + 7 + P) 4 (nI w)) (r + 7 + P) 5 0 r 3 = nI P := by
    rw [up2_o (by omega), up2_o (by omega), up2_o (by omega), up2_o (by omega), up2_o (by omega), up2_o (by omega)]
    exact hP
  unfold zX3_tellPerson addC
  rw [if_neg (by rw [show (5 : Int32) = nI 5 from rfl, lt_nI (by omega) (by omega)]; omega), hP, if_pos (by rw [show (7 : Int32) = nI 7 from rfl, lt_nI (by omega) (by omega)]; exact hP7), oob_no hP7 (by omega), tn_nI (by omega)]
  simp only [Bool.false_eq_true, if_false, letb]
  rw [e3, nI_1]
theorem RInv_add {c : MU} {r Y P k f h s w : Nat} (hI : RInv c r Y P) (hP7 : P < 7) (hk : k ≤ 5) (hf : f ≤ 9) (hh : h ≤ 9) (hs : s ≤ 9) (hw : w ≤ 99) : RInv (addC c r P k f h s w) r Y (P + 1) := by
  have o : ∀ x, 1 ≤ x → x < 7 → addC c r P k f h s w (r + x) = c (r + x) := fun x h1 h2 => addC_o (by omega) (by omega)
  have op : ∀ p, p ≠ P → addC c r P k f h s w (r + 7 + p) = c (r + 7 + p) := fun p hp => addC_o (by omega) (by omega)
  have hg : ∀ a b, gb (addC c r P k f h s w) r a b = gb c r a b := fun a b => by unfold gb; rw [o 5 (by omega) (by omega)]
  obtain ⟨⟨j1, j2, j3, j4, j5, j6⟩, i2, i3, i4, i5, i6, i7, i8⟩ := hI
  obtain ⟨p0, p1, p2, p3, p4, p5⟩ := addC_p (c := c) (r := r) (P := P) (k := k) (f := f) (h := h) (s := s) (w := w)
  refine ⟨⟨j1, j2, by omega, by rw [addC_r (by decide)]; exact j4, addC_3, by rw [addC_r (by decide)]; exact j6⟩, fun x hx => by rw [o 1 (by omega) (by omega), o 2 (by omega) (by omega)]; exact i2 x hx, fun x hx => ?_, fun x y hx hy => by rw [o 3 (by omega) (by omega)]; exact i4 x y hx hy, fun p q => ?_, fun a ha => by rw [o 5 (by omega) (by omega)]; exact i6 a ha, fun a b ha hb => by rw [hg, hg]; exact ⟨(i7 a b ha hb).1, fun z => (i7 a b ha hb).2 (by omega)⟩, fun a b ha hb => by rw [o 6 (by omega) (by omega)]; exact ⟨(i8 a b ha hb).1, fun z => (i8 a b ha hb).2 (by omega)⟩⟩
  · rw [o 3 (by omega) (by omega)]
    rcases i3 x hx with e | ⟨q, p, hpp, e, e2⟩
    · exact Or.inl e
    · exact Or.inr ⟨q, p, by omega, e, by rw [op p (by omega)]; exact e2⟩
  · by_cases e : p = P
    · subst e
      rw [p0, p1, p2, p3, p4, p5]
      exact ⟨⟨k, hk, rfl⟩, ⟨f, hf, rfl⟩, ⟨h, hh, rfl⟩, ⟨s, hs, rfl⟩, ⟨w, hw, rfl⟩, Or.inl rfl⟩
    · rw [op p e]; exact i5 p q
set_option maxHeartbeats 1000000 in
theorem tell_person {n r Y P k0 k f h s w : Nat} {c u : MU} (hI : RInv c r Y P) (hM : MW c r u) (hk : k ≤ 9) (hf : f ≤ 9) (hh : h ≤ 9) (hs : s ≤ 9) (hw : w ≤ 99) (hk0 : k0 < 39) (t0 : u 69 (5 * k0) = nI k) (t1 : u 69 (5 * k0 + 1) = nI f) (t2 : u 69 (5 * k0 + 2) = nI h) (t3 : u 69 (5 * k0 + 3) = nI s) (t4 : u 69 (5 * k0 + 4) = nI w) (hn : 20 ≤ n) :
    TL r c u (zX3_tellPerson n c r (nI k) (nI f) (nI h) (nI s) (nI w)) (zX5_comesOne n u (nI (5 * k0))) := by
  have hP7 := hI.1.2.2.1
  have hP := hI.1.2.2.2.2.1
  have hPu : u 53 13 = nI P := hM.1.2.1.trans hP
  have o0 := oob_no (show 5 * k0 < 200 by omega) (show 5 * k0 < 2147483648 by omega)
  have n0 := tn_nI (show 5 * k0 < 2147483648 by omega)
  by_cases hk5 : 5 < k
  · refine TL_no hI hM ?_ ?_
    · unfold zX3_tellPerson
      rw [if_pos (show (5 : Int32) < nI k from nI_lt hk5 (by omega))]
    · unfold zX5_comesOne
      rw [o0, n0, t0, if_neg (by decide), if_pos (show (5 : Int32) < nI k from nI_lt hk5 (by omega))]
  · have hk5' : ¬ (5 : Int32) < nI k := by rw [show (5 : Int32) = nI 5 from rfl, lt_nI (by omega) (by omega)]; exact hk5
    by_cases hP6 : P = 7
    · refine TL_no hI hM ?_ ?_
      · unfold zX3_tellPerson
        rw [if_neg hk5', hP, if_neg (by rw [show (7 : Int32) = nI 7 from rfl, lt_nI (by omega) (by omega)]; omega)]
      · unfold zX5_comesOne
        rw [o0, n0, t0, if_neg (by decide), if_neg hk5', hPu, if_pos (by rw [hP6]; rfl)]
    · have hP7' : P < 7 := by omega
      have hr : ∀ (v : MU) (i : Nat), (∀ q, q ≠ 58 → q ≠ 59 → q ≠ 60 → q ≠ 61 → q ≠ 62 → q ≠ 63 → v q = u q) → v 53 13 = nI P ∧ v 69 i = u 69 i := fun v i q => ⟨by rw [q 53 (by decide) (by decide) (by decide) (by decide) (by decide) (by decide)]; exact hPu, by rw [q 69 (by decide) (by decide) (by decide) (by decide) (by decide) (by decide)]⟩
      have q1 : ∀ q, q ≠ 58 → up2 u 58 P (nI k) q = u q := fun q a => up2_o a
      have q2 : ∀ q, q ≠ 58 → q ≠ 59 → up2 (up2 u 58 P (nI k)) 59 P (nI f) q = u q := fun q a b => by rw [up2_o b]; exact q1 q a
      have q3 : ∀ q, q ≠ 58 → q ≠ 59 → q ≠ 60 → up2 (up2 (up2 u 58 P (nI k)) 59 P (nI f)) 60 P (nI h) q = u q := fun q a b d => by rw [up2_o d]; exact q2 q a b
      have q4 : ∀ q, q ≠ 58 → q ≠ 59 → q ≠ 60 → q ≠ 61 → up2 (up2 (up2 (up2 u 58 P (nI k)) 59 P (nI f)) 60 P (nI h)) 61 P (nI s) q = u q := fun q a b d e => by rw [up2_o e]; exact q3 q a b d
      have q5 : ∀ q, q ≠ 58 → q ≠ 59 → q ≠ 60 → q ≠ 61 → q ≠ 62 → up2 (up2 (up2 (up2 (up2 u 58 P (nI k)) 59 P (nI f)) 60 P (nI h)) 61 P (nI s)) 62 P (nI w) q = u q := fun q a b d e g => by rw [up2_o g]; exact q4 q a b d e
      have q6 : ∀ q, q ≠ 58 → q ≠ 59 → q ≠ 60 → q ≠ 61 → q ≠ 62 → q ≠ 63 → up2 (up2 (up2 (up2 (up2 (up2 u 58 P (nI k)) 59 P (nI f)) 60 P (nI h)) 61 P (nI s)) 62 P (nI w)) 63 P 0 q = u q := fun q a b d e g i => by rw [up2_o i]; exact q5 q a b d e g
      obtain ⟨v, g1, g2, g3, g4, g5⟩ := one_L (n := n) (k := fun y30 w31 => letb (up2 w31 53 13 ((w31 53 13) + 1)) (fun u32 => some (1, u32))) hP7' 7 0 n (up2 (up2 (up2 (up2 (up2 (up2 u 58 P (nI k)) 59 P (nI f)) 60 P (nI h)) 61 P (nI s)) 62 P (nI w)) 63 P 0) (hr _ 0 q6).1 (by omega) (by omega)
      have hv13 : v 53 13 = nI P := by rw [g2 53 (by decide) (by decide)]; exact (hr _ 0 q6).1
      have hcomes : zX5_comesOne n u (nI (5 * k0)) = some (1, up2 v 53 13 (nI (P + 1))) := by
        have a1 : nI (5 * k0) + 1 = nI (5 * k0 + 1) := nI_1 _
        have a2 : nI (5 * k0) + 2 = nI (5 * k0 + 2) := nI_add _ 2
        have a3 : nI (5 * k0) + 3 = nI (5 * k0 + 3) := nI_add _ 3
        have a4 : nI (5 * k0) + 4 = nI (5 * k0 + 4) := nI_add _ 4
        have oP := oob_no hP7' (show P < 2147483648 by omega)
        have nP := tn_nI (show P < 2147483648 by omega)
        unfold zX5_comesOne
        rw [o0, n0, t0, if_neg (by decide), if_neg hk5', hPu, if_neg (by rw [show (7 : Int32) = nI 7 from rfl, eq_nI (by omega) (by omega)]; exact hP6), oP, nP, a1, a2, a3, a4]
        simp only [Bool.false_eq_true, if_false, letb]
        rw [oob_no (show 5 * k0 + 1 < 200 by omega) (by omega), tn_nI (show 5 * k0 + 1 < 2147483648 by omega), oob_no (show 5 * k0 + 2 < 200 by omega) (by omega), tn_nI (show 5 * k0 + 2 < 2147483648 by omega), oob_no (show 5 * k0 + 3 < 200 by omega) (by omega), tn_nI (show 5 * k0 + 3 < 2147483648 by omega), oob_no (show 5 * k0 + 4 < 200 by omega) (by omega), tn_nI (show 5 * k0 + 4 < 2147483648 by omega)]
        simp only [Bool.false_eq_true, if_false]
        rw [q1 53 (by decide), q1 69 (by decide), t1, hPu, oP, nP]
        simp only [Bool.false_eq_true, if_false]
        rw [q2 53 (by decide) (by decide), q2 69 (by decide) (by decide), t2, hPu, oP, nP]
        simp only [Bool.false_eq_true, if_false]
        rw [q3 53 (by decide) (by decide) (by decide), q3 69 (by decide) (by decide) (by decide), t3, hPu, oP, nP]
        simp only [Bool.false_eq_true, if_false]
        rw [q4 53 (by decide) (by decide) (by decide) (by decide), q4 69 (by decide) (by decide) (by decide) (by decide), t4, hPu, oP, nP]
        simp only [Bool.false_eq_true, if_false]
        rw [q5 53 (by decide) (by decide) (by decide) (by decide) (by decide), hPu, oP, nP]
        simp only [Bool.false_eq_true, if_false]
        simp only [letb, nI_0] at g1
        rw [g1, hv13, nI_1]
      rw [hcomes, tellPerson_eq hP hP7' (by omega)]
      obtain ⟨p0, p1, p2, p3, p4, p5⟩ := addC_p (c := c) (r := r) (P := P) (k := k) (f := f) (h := h) (s := s) (w := w)
      have o : ∀ x, 1 ≤ x → x < 7 → addC c r P k f h s w (r + x) = c (r + x) := fun x h1 h2 => addC_o (by omega) (by omega)
      have op : ∀ p, p ≠ P → addC c r P k f h s w (r + 7 + p) = c (r + 7 + p) := fun p hp => addC_o (by omega) (by omega)
      have hg : ∀ a b, gb (addC c r P k f h s w) r a b = gb c r a b := fun a b => by unfold gb; rw [o 5 (by omega) (by omega)]
      obtain ⟨⟨a1, a2, a3, a4⟩, m2, m3, m4, m5⟩ := hM
      have hlow : ∀ q, q ≠ 53 → (q < 58 ∨ 65 < q) → up2 v 53 13 (nI (P + 1)) q = u q := fun q b1 b2 => by rw [up2_o b1, g2 q (by omega) (by omega)]; exact q6 q (by omega) (by omega) (by omega) (by omega) (by omega) (by omega)
      have h53 : ∀ i, i ≠ 13 → up2 v 53 13 (nI (P + 1)) 53 i = u 53 i := fun i hi => by rw [up2_i hi, g2 53 (by decide) (by decide), q6 53 (by decide) (by decide) (by decide) (by decide) (by decide) (by decide)]
      refine ⟨1, _, _, Y, P + 1, Or.inr rfl, rfl, rfl, RInv_add hI hP7' (by omega) hf hh hs hw, ⟨⟨by rw [h53 12 (by decide), addC_r (by decide)]; exact a1, by rw [up2_s, addC_3], by rw [h53 14 (by decide), addC_r (by decide)]; exact a3, by rw [h53 15 (by decide), addC_r (by decide)]; exact a4⟩, fun i hi => by rw [hlow 55 (by decide) (by omega), hlow 56 (by decide) (by omega), hlow 57 (by decide) (by omega), o 1 (by omega) (by omega), o 2 (by omega) (by omega), o 3 (by omega) (by omega)]; exact m2 i hi, fun i hi => ?_, fun p q => ?_, fun x y hx hy => ?_⟩, fun x hx => addC_o (by omega) (by omega), fun q b1 b2 => hlow q b1 (by omega), fun i hi => h53 i (by omega), fun i hi => by rw [hlow 55 (by decide) (by omega), hlow 56 (by decide) (by omega), hlow 57 (by decide) (by omega)]; exact ⟨rfl, rfl, rfl⟩, fun i hi => by rw [up2_o (by decide), g5 i hi, q6 65 (by decide) (by decide) (by decide) (by decide) (by decide) (by decide)]⟩
      · have e : i = 7 * (i / 7) + i % 7 := by omega
        rw [o 6 (by omega) (by omega), up2_o (by decide), e, g4 (i / 7) (i % 7) (by omega) (by omega), q6 65 (by decide) (by decide) (by decide) (by decide) (by decide) (by decide)]
        by_cases z : (i / 7 = P ∧ 0 ≤ i % 7) ∨ (i % 7 = P ∧ 0 ≤ i / 7)
        · rw [if_pos z, (hI.2.2.2.2.2.2.2 (i / 7) (i % 7) (by omega) (by omega)).2 (by omega)]
        · rw [if_neg z, ← e]
          exact m3 i hi
      · have e58 : ∀ x, x ≠ 53 → x ≠ 64 → x ≠ 65 → up2 v 53 13 (nI (P + 1)) x = up2 (up2 (up2 (up2 (up2 (up2 u 58 P (nI k)) 59 P (nI f)) 60 P (nI h)) 61 P (nI s)) 62 P (nI w)) 63 P 0 x := fun x b1 b2 b3 => by rw [up2_o b1, g2 x b2 b3]
        rw [e58 58 (by decide) (by decide) (by decide), e58 59 (by decide) (by decide) (by decide), e58 60 (by decide) (by decide) (by decide), e58 61 (by decide) (by decide) (by decide), e58 62 (by decide) (by decide) (by decide), e58 63 (by decide) (by decide) (by decide)]
        have r58 : up2 (up2 (up2 (up2 (up2 (up2 u 58 P (nI k)) 59 P (nI f)) 60 P (nI h)) 61 P (nI s)) 62 P (nI w)) 63 P 0 58 = ub (u 58) P (nI k) := by rw [up2_o (by decide), up2_o (by decide), up2_o (by decide), up2_o (by decide), up2_o (by decide), up2_ub]
        have r59 : up2 (up2 (up2 (up2 (up2 (up2 u 58 P (nI k)) 59 P (nI f)) 60 P (nI h)) 61 P (nI s)) 62 P (nI w)) 63 P 0 59 = ub (u 59) P (nI f) := by rw [up2_o (by decide), up2_o (by decide), up2_o (by decide), up2_o (by decide), up2_ub, up2_o (by decide)]
        have r60 : up2 (up2 (up2 (up2 (up2 (up2 u 58 P (nI k)) 59 P (nI f)) 60 P (nI h)) 61 P (nI s)) 62 P (nI w)) 63 P 0 60 = ub (u 60) P (nI h) := by rw [up2_o (by decide), up2_o (by decide), up2_o (by decide), up2_ub, up2_o (by decide), up2_o (by decide)]
        have r61 : up2 (up2 (up2 (up2 (up2 (up2 u 58 P (nI k)) 59 P (nI f)) 60 P (nI h)) 61 P (nI s)) 62 P (nI w)) 63 P 0 61 = ub (u 61) P (nI s) := by rw [up2_o (by decide), up2_o (by decide), up2_ub, up2_o (by decide), up2_o (by decide), up2_o (by decide)]
        have r62 : up2 (up2 (up2 (up2 (up2 (up2 u 58 P (nI k)) 59 P (nI f)) 60 P (nI h)) 61 P (nI s)) 62 P (nI w)) 63 P 0 62 = ub (u 62) P (nI w) := by rw [up2_o (by decide), up2_ub, up2_o (by decide), up2_o (by decide), up2_o (by decide), up2_o (by decide)]
        have r63 : up2 (up2 (up2 (up2 (up2 (up2 u 58 P (nI k)) 59 P (nI f)) 60 P (nI h)) 61 P (nI s)) 62 P (nI w)) 63 P 0 63 = ub (u 63) P 0 := by rw [up2_ub, up2_o (by decide), up2_o (by decide), up2_o (by decide), up2_o (by decide), up2_o (by decide)]
        rw [r58, r59, r60, r61, r62, r63]
        by_cases z : p = P
        · subst z
          rw [ub_s, ub_s, ub_s, ub_s, ub_s, ub_s, p0, p1, p2, p3, p4, p5]
          exact ⟨rfl, rfl, rfl, rfl, rfl, rfl⟩
        · rw [ub_n z, ub_n z, ub_n z, ub_n z, ub_n z, ub_n z, op p z]
          exact m4 p q
      · rw [up2_o (by decide), g3 x y hx hy, q6 64 (by decide) (by decide) (by decide) (by decide) (by decide) (by decide), hg]
        by_cases z : (x = P ∧ 0 ≤ y) ∨ (y = P ∧ 0 ≤ x)
        · rw [if_pos z]
          rcases z with z | z
          · rw [(hI.2.2.2.2.2.2.1 x y hx hy).2 (by omega)]
          · rw [(hI.2.2.2.2.2.2.1 x y hx hy).1, (hI.2.2.2.2.2.2.1 y x hy hx).2 (by omega)]
        · rw [if_neg z]
          exact m5 x y hx hy
