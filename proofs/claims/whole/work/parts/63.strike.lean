/-! ===== the model's strike ===== -/
theorem setH_ls' {c : MU} {q i v : Nat} {h : Nat → Nat} (hv : v ≤ h i) : up2 (setH c q (HR h)) q i (HR h i - nI v) = setH c q (HR (lsN h i v)) := setH_ls hv
theorem do_eq {n : Nat} {u : MU} {h : Nat → Nat} {a b : Nat} (ha : a < 7) (hb : b < 7) (hh : ∀ i, h i ≤ 99) : zX5_doesOwe n (setH u 65 (HR h)) (nI a) (nI b) = some (if h (7 * a + b) = 0 then 0 else 1) := by
  unfold zX5_doesOwe
  rw [ix7, oob_no (show 7 * a + b < 49 by omega) (by omega), tn_nI (by omega), setH_in]
  simp only [Bool.false_eq_true, if_false]
  have w := hh (7 * a + b)
  by_cases q : h (7 * a + b) = 0
  · have e : HR h (7 * a + b) ≤ 0 := by
      show nI (h (7 * a + b)) ≤ 0
      rw [q]; decide
    rw [if_pos q, if_pos e]
  · have e : ¬ HR h (7 * a + b) ≤ 0 := nI_nle (n := h (7 * a + b)) (by omega) (by omega)
    rw [if_neg q, if_neg e]
theorem n10 : ¬ (1 : Int32) = 0 := by decide
theorem s2m_in {n : Nat} {u : MU} {P a : Nat} {h : Nat → Nat} {k : Int32 → MU → Option (Int32 × MU)} (hP : u 53 13 = nI P) (hP7 : P ≤ 7) (ha : a < P) (hh : ∀ i, h i ≤ 99) :
    ∀ (d b m : Nat), a < b → b + d = P → d < m → (∃ h', ff (A2 P) h d (7 * a + b) = some h' ∧ zX5_strikesTwo_L14 n (nI a) k m (nI b) (setH u 65 (HR h)) = some (1, setH u 65 (HR h'))) ∨ (ff (A2 P) h d (7 * a + b) = none ∧ zX5_strikesTwo_L14 n (nI a) k m (nI b) (setH u 65 (HR h)) = k (nI P) (setH u 65 (HR h))) := by
  intro d
  induction d with
  | zero =>
    intro b m hab hb hm
    obtain ⟨m, rfl⟩ : ∃ e, m = e + 1 := ⟨m - 1, by omega⟩
    obtain rfl : b = P := by omega
    refine Or.inr ⟨rfl, ?_⟩
    rw [zX5_strikesTwo_L14, setH_o (by decide), hP, if_pos (nI_le (Nat.le_refl _) (by omega))]
  | succ d ih =>
    intro b m hab hb hm
    obtain ⟨m, rfl⟩ : ∃ e, m = e + 1 := ⟨m - 1, by omega⟩
    have eA : A2 P h (7 * a + b) = B2 h a b := A2_at (by omega) hab (by omega)
    have hv : v2 h a b = min (h (7 * a + b)) (h (7 * b + a)) := rfl
    have w1 := hh (7 * a + b)
    have w2 := hh (7 * b + a)
    rw [zX5_strikesTwo_L14, setH_o (show (53 : Nat) ≠ 65 by decide), hP, if_neg (by rw [le_nI (by omega) (by omega)]; omega), do_eq (by omega) (by omega) hh, Option.bind_some, nI_1]
    by_cases q1 : h (7 * a + b) = 0
    · have e0 : A2 P h (7 * a + b) = none := by rw [eA]; unfold B2; rw [if_pos (by omega)]
      rw [if_pos q1, if_pos rfl, ff_n e0]
      exact ih (b + 1) m (by omega) (by omega) (by omega)
    · rw [if_neg q1, if_neg (by decide), do_eq (by omega) (by omega) hh, Option.bind_some]
      by_cases q2 : h (7 * b + a) = 0
      · have e0 : A2 P h (7 * a + b) = none := by rw [eA]; unfold B2; rw [if_pos (by omega)]
        rw [if_pos q2, if_pos rfl, ff_n e0]
        exact ih (b + 1) m (by omega) (by omega) (by omega)
      · have e0 : A2 P h (7 * a + b) = some (lsN (lsN h (7 * a + b) (v2 h a b)) (7 * b + a) (v2 h a b)) := by rw [eA]; unfold B2; rw [if_neg (by omega)]
        have hm1 : mn (HR h (7 * a + b)) (HR h (7 * b + a)) = nI (v2 h a b) := mn_nI (by omega) (by omega)
        have hv2 : v2 h a b ≤ lsN h (7 * a + b) (v2 h a b) (7 * b + a) := by rw [lsN_ne (by omega)]; omega
        rw [if_neg q2, if_neg (by decide)]
        refine Or.inl ⟨_, ff_s e0, ?_⟩
        simp only [ix7, oob_no (show 7 * a + b < 49 by omega) (show 7 * a + b < 2147483648 by omega), oob_no (show 7 * b + a < 49 by omega) (show 7 * b + a < 2147483648 by omega), tn_nI (show 7 * a + b < 2147483648 by omega), tn_nI (show 7 * b + a < 2147483648 by omega), Bool.false_eq_true, if_false, zX5_least_eq, Option.bind_some, letb, setH_in]
        rw [hm1, setH_ls' (by omega), setH_in, setH_ls' hv2]
theorem s2m_out {n : Nat} {u : MU} {P : Nat} {h : Nat → Nat} {k : Int32 → MU → Option (Int32 × MU)} (hP : u 53 13 = nI P) (hP7 : P ≤ 7) (hh : ∀ i, h i ≤ 99) (hn : 20 ≤ n) :
    ∀ (d a m : Nat), a + d = P → d < m → (∃ h', ff (A2 P) h (7 * d) (7 * a) = some h' ∧ zX5_strikesTwo_L2 n k m (nI a) (setH u 65 (HR h)) = some (1, setH u 65 (HR h'))) ∨ (ff (A2 P) h (7 * d) (7 * a) = none ∧ zX5_strikesTwo_L2 n k m (nI a) (setH u 65 (HR h)) = k (nI P) (setH u 65 (HR h))) := by
  intro d
  induction d with
  | zero =>
    intro a m ha hm
    obtain ⟨m, rfl⟩ : ∃ e, m = e + 1 := ⟨m - 1, by omega⟩
    obtain rfl : a = P := by omega
    refine Or.inr ⟨rfl, ?_⟩
    rw [zX5_strikesTwo_L2, setH_o (by decide), hP, if_pos (nI_le (Nat.le_refl _) (by omega))]
  | succ d ih =>
    intro a m ha hm
    obtain ⟨m, rfl⟩ : ∃ e, m = e + 1 := ⟨m - 1, by omega⟩
    have r1 : ff (A2 P) h (7 * (d + 1)) (7 * a) = ff (A2 P) h ((P - (a + 1)) + ((7 - P) + 7 * d)) (7 * a + (a + 1)) := by
      have := ff_non (A := A2 P) (h := h) (e := (P - (a + 1)) + ((7 - P) + 7 * d)) (a + 1) (7 * a) (fun i q1 q2 => A2_out (by omega))
      rw [show a + 1 + ((P - (a + 1)) + ((7 - P) + 7 * d)) = 7 * (d + 1) by omega] at this
      exact this
    rw [zX5_strikesTwo_L2, setH_o (show (53 : Nat) ≠ 65 by decide), hP, if_neg (by rw [le_nI (by omega) (by omega)]; omega), nI_1]
    simp only [letb]
    rcases s2m_in (n := n) (k := fun y20 w21 => zX5_strikesTwo_L2 n k m (nI (a + 1)) w21) hP hP7 (show a < P by omega) hh (P - (a + 1)) (a + 1) n (by omega) (by omega) (by omega) with ⟨h', f1, f2⟩ | ⟨f1, f2⟩
    · exact Or.inl ⟨h', by rw [r1]; exact ff_some_add _ _ f1, f2⟩
    · rw [f2, r1, ff_none_add _ _ f1, ff_non (7 - P) _ (fun i q1 q2 => A2_out (by omega)), show 7 * a + (a + 1) + (P - (a + 1)) + (7 - P) = 7 * (a + 1) by omega]
      exact ih (a + 1) m (by omega) (by omega)
theorem zX5_strikesTwo_eq {n : Nat} {u : MU} {P : Nat} {h : Nat → Nat} (hP : u 53 13 = nI P) (hP7 : P ≤ 7) (hh : ∀ i, h i ≤ 99) (hn : 20 ≤ n) :
    (∃ h', ff (A2 P) h 49 0 = some h' ∧ zX5_strikesTwo n (setH u 65 (HR h)) = some (1, setH u 65 (HR h'))) ∨ (ff (A2 P) h 49 0 = none ∧ zX5_strikesTwo n (setH u 65 (HR h)) = some (0, setH u 65 (HR h))) := by
  unfold zX5_strikesTwo
  rcases s2m_out (n := n) (k := fun y22 w23 => some (0, w23)) hP hP7 hh hn P 0 n (by omega) (by omega) with ⟨h', f1, f2⟩ | ⟨f1, f2⟩
  · rw [nI_0] at f2
    have := ff_some_add (e := 49 - 7 * P) _ _ f1
    rw [show 7 * P + (49 - 7 * P) = 49 by omega] at this
    exact Or.inl ⟨h', this, f2⟩
  · rw [nI_0] at f2
    have := ff_none_add (e := 49 - 7 * P) _ _ f1
    rw [show 7 * P + (49 - 7 * P) = 49 by omega] at this
    refine Or.inr ⟨?_, f2⟩
    rw [this]
    exact ff_none_all (fun i q1 q2 => A2_out (by omega))
def Zh (P : Nat) (h : Nat → Nat) : Prop := ∀ a b, a < 7 → b < 7 → (P ≤ a ∨ P ≤ b) → h (7 * a + b) = 0
theorem s3m_L {n : Nat} {u : MU} {P : Nat} {h : Nat → Nat} {k : Int32 → MU → Option (Int32 × MU)} (hh : ∀ i, h i ≤ 99) (hz : Zh P h) :
    ∀ (d j m : Nat), j + d = 343 → d < m → (∃ h', ff (A3 P) h d j = some h' ∧ zX5_strikesThree_L2 n k m (nI j) (setH u 65 (HR h)) = some (1, setH u 65 (HR h'))) ∨ (ff (A3 P) h d j = none ∧ zX5_strikesThree_L2 n k m (nI j) (setH u 65 (HR h)) = k (nI 343) (setH u 65 (HR h))) := by
  intro d
  induction d with
  | zero =>
    intro j m hj hm
    obtain ⟨m, rfl⟩ : ∃ e, m = e + 1 := ⟨m - 1, by omega⟩
    obtain rfl : j = 343 := by omega
    refine Or.inr ⟨rfl, ?_⟩
    rw [zX5_strikesThree_L2, if_pos (by decide)]
  | succ d ih =>
    intro j m hj hm
    obtain ⟨m, rfl⟩ : ∃ e, m = e + 1 := ⟨m - 1, by omega⟩
    have d1 : nI j / 49 = nI (j / 49) := pk_div (d := 49) (by omega) (by omega) (by omega)
    have d2 : nI j / 7 = nI (j / 7) := pk_div (d := 7) (by omega) (by omega) (by omega)
    have d3 : nI (j / 7) - nI (j / 7) / 7 * 7 = nI (j / 7 % 7) := pk_rem (d := 7) (by omega) (by omega) (by omega)
    have d4 : nI j - nI j / 7 * 7 = nI (j % 7) := pk_rem (d := 7) (by omega) (by omega) (by omega)
    rw [zX5_strikesThree_L2, if_neg (by rw [show (343 : Int32) = nI 343 from rfl, le_nI (by omega) (by omega)]; omega), d4, d1, d2, d3, nI_1]
    simp only [letb]
    have hA : A3 P h j = if j / 49 < j / 7 % 7 ∧ j / 49 < j % 7 ∧ j / 7 % 7 ≠ j % 7 ∧ j / 7 % 7 < P ∧ j % 7 < P then B3 h (j / 49) (j / 7 % 7) (j % 7) else none := rfl
    have b1 : j / 49 < 7 := by omega
    have b2 : j / 7 % 7 < 7 := by omega
    have b3 : j % 7 < 7 := by omega
    clear d1 d2 d3 d4
    generalize j / 49 = a at *
    generalize j / 7 % 7 = b at *
    generalize j % 7 = x at *
    have hv : v3 h a b x = min (h (7 * a + b)) (min (h (7 * b + x)) (h (7 * x + a))) := rfl
    have w1 := hh (7 * a + b)
    have w2 := hh (7 * b + x)
    have w3 := hh (7 * x + a)
    have skip : A3 P h j = none → (∃ h', ff (A3 P) h (d + 1) j = some h' ∧ zX5_strikesThree_L2 n k m (nI (j + 1)) (setH u 65 (HR h)) = some (1, setH u 65 (HR h'))) ∨ (ff (A3 P) h (d + 1) j = none ∧ zX5_strikesThree_L2 n k m (nI (j + 1)) (setH u 65 (HR h)) = k (nI 343) (setH u 65 (HR h))) := fun e0 => by
      rw [ff_n e0]
      exact ih (j + 1) m (by omega) (by omega)
    have bn : v3 h a b x = 0 → A3 P h j = none := fun z => by
      rw [hA]
      unfold B3
      rw [if_pos z]
      split <;> rfl
    by_cases c1 : b ≤ a
    · rw [if_pos (nI_le c1 (by omega))]
      exact skip (by rw [hA, if_neg (by omega)])
    · rw [if_neg (by rw [le_nI (by omega) (by omega)]; exact c1)]
      by_cases c2 : x ≤ a
      · rw [if_pos (nI_le c2 (by omega))]
        exact skip (by rw [hA, if_neg (by omega)])
      · rw [if_neg (by rw [le_nI (by omega) (by omega)]; exact c2)]
        by_cases c3 : b = x
        · rw [if_pos (by rw [c3])]
          exact skip (by rw [hA, if_neg (by omega)])
        · rw [if_neg (by rw [eq_nI (by omega) (by omega)]; exact c3), do_eq b1 b2 hh, Option.bind_some]
          by_cases q1 : h (7 * a + b) = 0
          · rw [if_pos q1, if_pos rfl]
            exact skip (bn (by omega))
          · rw [if_neg q1, if_neg (by decide), do_eq b2 b3 hh, Option.bind_some]
            by_cases q2 : h (7 * b + x) = 0
            · rw [if_pos q2, if_pos rfl]
              exact skip (bn (by omega))
            · rw [if_neg q2, if_neg (by decide), do_eq b3 b1 hh, Option.bind_some]
              by_cases q3 : h (7 * x + a) = 0
              · rw [if_pos q3, if_pos rfl]
                exact skip (bn (by omega))
              · have hbP : b < P := by
                  by_cases z : b < P
                  · exact z
                  · exact absurd (hz a b b1 b2 (by omega)) q1
                have hxP : x < P := by
                  by_cases z : x < P
                  · exact z
                  · exact absurd (hz b x b2 b3 (by omega)) q2
                have e0 : A3 P h j = some (lsN (lsN (lsN h (7 * a + b) (v3 h a b x)) (7 * b + x) (v3 h a b x)) (7 * x + a) (v3 h a b x)) := by
                  rw [hA, if_pos ⟨by omega, by omega, c3, hbP, hxP⟩]
                  unfold B3
                  rw [if_neg (by omega)]
                have hm1 : mn (HR h (7 * b + x)) (HR h (7 * x + a)) = nI (min (h (7 * b + x)) (h (7 * x + a))) := mn_nI (by omega) (by omega)
                have hm2 : mn (HR h (7 * a + b)) (nI (min (h (7 * b + x)) (h (7 * x + a)))) = nI (v3 h a b x) := mn_nI (by omega) (by omega)
                have hv2 : v3 h a b x ≤ lsN h (7 * a + b) (v3 h a b x) (7 * b + x) := by rw [lsN_ne (by omega)]; omega
                have hv3 : v3 h a b x ≤ lsN (lsN h (7 * a + b) (v3 h a b x)) (7 * b + x) (v3 h a b x) (7 * x + a) := by rw [lsN_ne (by omega), lsN_ne (by omega)]; omega
                rw [if_neg q3, if_neg (by decide)]
                refine Or.inl ⟨_, ff_s e0, ?_⟩
                simp only [ix7, oob_no (show 7 * a + b < 49 by omega) (show 7 * a + b < 2147483648 by omega), oob_no (show 7 * b + x < 49 by omega) (show 7 * b + x < 2147483648 by omega), oob_no (show 7 * x + a < 49 by omega) (show 7 * x + a < 2147483648 by omega), tn_nI (show 7 * a + b < 2147483648 by omega), tn_nI (show 7 * b + x < 2147483648 by omega), tn_nI (show 7 * x + a < 2147483648 by omega), Bool.false_eq_true, if_false, zX5_least_eq, Option.bind_some, letb, setH_in]
                rw [hm1, hm2, setH_ls' (by omega), setH_in, setH_ls' hv2, setH_in, setH_ls' hv3]
theorem zX5_strikesThree_eq {n : Nat} {u : MU} {P : Nat} {h : Nat → Nat} (hh : ∀ i, h i ≤ 99) (hz : Zh P h) (hn : 400 ≤ n) :
    (∃ h', ff (A3 P) h 343 0 = some h' ∧ zX5_strikesThree n (setH u 65 (HR h)) = some (1, setH u 65 (HR h'))) ∨ (ff (A3 P) h 343 0 = none ∧ zX5_strikesThree n (setH u 65 (HR h)) = some (0, setH u 65 (HR h))) := by
  unfold zX5_strikesThree
  have := s3m_L (n := n) (u := u) (k := fun y33 w34 => some (0, w34)) hh hz 343 0 n (by omega) (by omega)
  rw [nI_0] at this
  exact this
theorem Zh_fa {P : Nat} {h h' : Nat → Nat} (f : Fa h h') (hz : Zh P h) : Zh P h' := fun a b ha hb q => by
  have := f (7 * a + b)
  rw [hz a b ha hb q] at this
  omega
theorem strike_p2 {n : Nat} {u : MU} {P : Nat} {k : Int32 → MU → Option (Int32 × MU)} (hP : u 53 13 = nI P) (hP7 : P ≤ 7) (hn : 400 ≤ n) :
    ∀ (d j m : Nat) (s : (Nat → Nat) × Nat), (∀ i, s.1 i ≤ 99) → Zh P s.1 → (∀ i, i < 49 → A2 P s.1 i = none) → (∀ i, i < j → A3 P s.1 i = none) → j + d = 343 → d < m → zX5_strike_L2 n k m (nI s.2) (setH u 65 (HR s.1)) = k (nI (ps (A3 P) d j s).2) (setH u 65 (HR (ps (A3 P) d j s).1)) := by
  intro d
  induction d with
  | zero =>
    intro j m s hs hz h2 h3 hj hm
    obtain ⟨m, rfl⟩ : ∃ e, m = e + 1 := ⟨m - 1, by omega⟩
    rcases zX5_strikesTwo_eq (n := n) hP hP7 hs (by omega) with ⟨h', f1, f2⟩ | ⟨f1, f2⟩
    · rw [ff_none_all (fun i q1 q2 => h2 i (by omega))] at f1
      exact absurd f1 (by simp)
    · rcases zX5_strikesThree_eq (n := n) (u := u) hs hz hn with ⟨h', g1, g2⟩ | ⟨g1, g2⟩
      · rw [ff_none_all (fun i q1 q2 => h3 i (by omega))] at g1
        exact absurd g1 (by simp)
      · rw [zX5_strike_L2, f2, Option.bind_some, if_pos rfl]
        simp only []
        rw [g2, Option.bind_some, if_pos rfl]
        rfl
  | succ d ih =>
    intro j m s hs hz h2 h3 hj hm
    simp only [ps]
    cases q : A3 P s.1 j with
    | none =>
      rw [stp_n q]
      exact ih (j + 1) m s hs hz h2 (fun i hi => by
        by_cases e : i = j
        · rw [e]; exact q
        · exact h3 i (by omega)) (by omega) (by omega)
    | some h' =>
      rw [stp_s q]
      obtain ⟨m, rfl⟩ : ∃ e, m = e + 1 := ⟨m - 1, by omega⟩
      have hf := A3_fa q
      rcases zX5_strikesTwo_eq (n := n) hP hP7 hs (by omega) with ⟨h', f1, f2⟩ | ⟨f1, f2⟩
      · rw [ff_none_all (fun i q1 q2 => h2 i (by omega))] at f1
        exact absurd f1 (by simp)
      · rcases zX5_strikesThree_eq (n := n) (u := u) hs hz hn with ⟨x, g1, g2⟩ | ⟨g1, g2⟩
        · rw [ff_first (show j < 343 by omega) h3 q] at g1
          obtain rfl := Option.some.inj g1
          rw [zX5_strike_L2, f2, Option.bind_some, if_pos rfl]
          simp only []
          rw [g2, Option.bind_some, if_neg n10, nI_1]
          exact ih (j + 1) m (h', s.2 + 1) (fun i => Nat.le_trans (hf i) (hs i)) (Zh_fa hf hz) (fun i hi => A2_non hf (h2 i hi)) (fun i hi => by
            by_cases e : i = j
            · rw [e]; exact A3_self q
            · exact A3_non hf (h3 i (by omega))) (by omega) (by omega)
        · rw [ff_first (show j < 343 by omega) h3 q] at g1
          exact absurd g1 (by simp)
theorem strike_p1 {n : Nat} {u : MU} {P : Nat} {k : Int32 → MU → Option (Int32 × MU)} (hP : u 53 13 = nI P) (hP7 : P ≤ 7) (hn : 400 ≤ n) :
    ∀ (d j m : Nat) (s : (Nat → Nat) × Nat), (∀ i, s.1 i ≤ 99) → Zh P s.1 → (∀ i, i < j → A2 P s.1 i = none) → j + d = 49 → d + 343 < m → zX5_strike_L2 n k m (nI s.2) (setH u 65 (HR s.1)) = k (nI (ps (A3 P) 343 0 (ps (A2 P) d j s)).2) (setH u 65 (HR (ps (A3 P) 343 0 (ps (A2 P) d j s)).1)) := by
  intro d
  induction d with
  | zero =>
    intro j m s hs hz h2 hj hm
    exact strike_p2 hP hP7 hn 343 0 m s hs hz (fun i hi => h2 i (by omega)) (fun i hi => absurd hi (by omega)) (by omega) (by omega)
  | succ d ih =>
    intro j m s hs hz h2 hj hm
    rw [show ps (A2 P) (d + 1) j s = ps (A2 P) d (j + 1) (stp (A2 P) s j) from rfl]
    cases q : A2 P s.1 j with
    | none =>
      rw [stp_n q]
      exact ih (j + 1) m s hs hz (fun i hi => by
        by_cases e : i = j
        · rw [e]; exact q
        · exact h2 i (by omega)) (by omega) (by omega)
    | some h' =>
      rw [stp_s q]
      obtain ⟨m, rfl⟩ : ∃ e, m = e + 1 := ⟨m - 1, by omega⟩
      have hf := A2_fa q
      rcases zX5_strikesTwo_eq (n := n) hP hP7 hs (by omega) with ⟨x, f1, f2⟩ | ⟨f1, f2⟩
      · rw [ff_first (show j < 49 by omega) h2 q] at f1
        obtain rfl := Option.some.inj f1
        rw [zX5_strike_L2, f2, Option.bind_some, if_neg n10, nI_1]
        exact ih (j + 1) m (h', s.2 + 1) (fun i => Nat.le_trans (hf i) (hs i)) (Zh_fa hf hz) (fun i hi => by
            by_cases e : i = j
            · rw [e]; exact A2_self q
            · exact A2_non hf (h2 i (by omega))) (by omega) (by omega)
      · rw [ff_first (show j < 49 by omega) h2 q] at f1
        exact absurd f1 (by simp)
theorem hrs_of {c : MU} {Y P : Nat} (hR : RInv c 1 Y P) (hZ : ZR c 1) : ∃ h, c 7 = HR h ∧ (∀ i, h i ≤ 99) ∧ (∀ a b, a < 7 → b < 7 → (P ≤ a ∨ P ≤ b ∨ a = b) → h (7 * a + b) = 0) ∧ ∀ i, 49 ≤ i → h i = 0 := by
  have hlo : ∀ i, i < 49 → ∃ k, k ≤ 99 ∧ c 7 i = nI k := fun i hi => by
    obtain ⟨k, hk, e⟩ := (hR.2.2.2.2.2.2.2 (i / 7) (i % 7) (by omega) (by omega)).1
    rw [show 7 * (i / 7) + i % 7 = i by omega] at e
    exact ⟨k, hk, e⟩
  have hhi : ∀ i, 49 ≤ i → c 7 i = 0 := fun i hi => hZ.2 i hi (by omega)
  refine ⟨fun i => (c 7 i).toNatClampNeg, ?_, fun i => ?_, fun a b ha hb q => ?_, fun i hi => ?_⟩
  · funext i
    show c 7 i = nI ((c 7 i).toNatClampNeg)
    by_cases q : i < 49
    · obtain ⟨k, hk, e⟩ := hlo i q
      rw [e, tn_nI (by omega)]
    · rw [hhi i (by omega)]
      rfl
  · show (c 7 i).toNatClampNeg ≤ 99
    by_cases q : i < 49
    · obtain ⟨k, hk, e⟩ := hlo i q
      rw [e, tn_nI (by omega)]
      exact hk
    · rw [hhi i (by omega)]
      decide
  · show (c 7 (7 * a + b)).toNatClampNeg = 0
    have e : c 7 (7 * a + b) = 0 := (hR.2.2.2.2.2.2.2 a b ha hb).2 q
    rw [e]
    rfl
  · show (c 7 i).toNatClampNeg = 0
    rw [hhi i hi]
    rfl
theorem op_strike (n : Nat) (hn : 400 ≤ n) : OPT (fun c => zX4_strike n c) (fun u => zX5_strike n u) := by
  intro c u hI hM
  obtain ⟨⟨Y, P, hR⟩, hZ, iK, iT, iW⟩ := id hI
  obtain ⟨m1, w2, w3, w4, w5, w6, w7, w8, w9⟩ := id hM
  have hP7 := hR.1.2.2.1
  have hP := hR.1.2.2.2.2.1
  have hPu : u 53 13 = nI P := m1.1.2.1.trans hP
  obtain ⟨h, eh, h99, hz, hhi⟩ := hrs_of hR hZ
  have eu : u 65 = HR h := m1.2.2.2.1.trans eh
  have sc : setH c 7 (HR h) = c := setH_self eh
  have su : setH u 65 (HR h) = u := setH_self eu
  have f2 : Fa h (ps (A2 P) 49 0 (h, 0)).1 := ps_fa (fun _ _ _ q => A2_fa q) 49 0 (h, 0)
  have f3 := ps_fa (A := A3 P) (fun _ _ _ q => A3_fa q) 343 0 (ps (A2 P) 49 0 (h, 0))
  have fa : Fa h (ps (A3 P) 343 0 (ps (A2 P) 49 0 (h, 0))).1 := fun i => Nat.le_trans (f3 i) (f2 i)
  have e2 := zX3_strikeTwos_eq (n := n) (c := c) hP hP7 (by omega) h99
  have e3 := zX3_strikeThrees_eq (n := n) (c := c) hP hP7 (by omega) (fun i => Nat.le_trans (f2 i) (h99 i))
  have em := strike_p1 (n := n) (u := u) (k := fun y7 w8 => some (y7, w8)) hPu hP7 hn 49 0 n (h, 0) h99 (fun a b ha hb q => hz a b ha hb (by omega)) (fun i hi => absurd hi (by omega)) (by omega) (by omega)
  have ecnt := ps_cnt (A := A3 P) 343 0 (ps (A2 P) 49 0 (h, 0)).1 0 (ps (A2 P) 49 0 (h, 0)).2
  rw [Nat.zero_add] at ecnt
  have ecnt' : ps (A3 P) 343 0 (ps (A2 P) 49 0 (h, 0)) = ((ps (A3 P) 343 0 ((ps (A2 P) 49 0 (h, 0)).1, 0)).1, (ps (A3 P) 343 0 ((ps (A2 P) 49 0 (h, 0)).1, 0)).2 + (ps (A2 P) 49 0 (h, 0)).2) := ecnt
  rw [nI_0, su] at em
  rw [sc] at e2
  have hc1 : (ps (A3 P) 343 0 ((ps (A2 P) 49 0 (h, 0)).1, 0)).1 = (ps (A3 P) 343 0 (ps (A2 P) 49 0 (h, 0))).1 := by rw [ecnt']
  have hc2 : (ps (A3 P) 343 0 (ps (A2 P) 49 0 (h, 0))).2 = (ps (A2 P) 49 0 (h, 0)).2 + (ps (A3 P) 343 0 ((ps (A2 P) 49 0 (h, 0)).1, 0)).2 := by rw [ecnt']; exact Nat.add_comm _ _
  rw [hc1] at e3
  clear ecnt ecnt' hc1
  generalize ps (A3 P) 343 0 (ps (A2 P) 49 0 (h, 0)) = S at *
  generalize (ps (A3 P) 343 0 ((ps (A2 P) 49 0 (h, 0)).1, 0)).2 = N3 at *
  have hc : ∀ k, k ≠ 7 → setH c 7 (HR S.1) k = c k := fun k hk => setH_o hk
  have hu : ∀ k, k ≠ 65 → setH u 65 (HR S.1) k = u k := fun k hk => setH_o hk
  have hg : ∀ x y, gb (setH c 7 (HR S.1)) 1 x y = gb c 1 x y := fun x y => by unfold gb; rw [hc _ (by omega)]
  refine ⟨nI S.2, setH c 7 (HR S.1), setH u 65 (HR S.1), ?_, ?_, ?_, ?_⟩
  · show zX4_strike n c = _
    unfold zX4_strike
    rw [e2, Option.bind_some]
    simp only []
    rw [e3, Option.bind_some]
    simp only []
    rw [nI_add, ← hc2]
  · show zX5_strike n u = _
    unfold zX5_strike
    exact em
  · refine ⟨⟨Y, P, ?_⟩, ?_, ?_, by rw [hc 43 (by omega), hc 44 (by omega)]; exact iT, by rw [hc 0 (by omega), hc 51 (by omega)]; exact iW⟩
    · obtain ⟨j1, j2, j3, j4, j5, j6, j7, j8⟩ := hR
      refine ⟨by rw [hc 1 (by omega)]; exact j1, fun k hk => by rw [hc _ (by omega), hc _ (by omega)]; exact j2 k hk, fun k hk => ?_, fun j k hj hk => by rw [hc _ (by omega)]; exact j4 j k hj hk, fun p q => by rw [hc _ (by omega)]; exact j5 p q, fun a ha => by rw [hc _ (by omega)]; exact j6 a ha, fun a b ha hb => by rw [hg, hg]; exact j7 a b ha hb, fun a b ha hb => ?_⟩
      · rw [hc _ (by omega)]
        rcases j3 k hk with e | ⟨q, p, hpp, e, e2⟩
        · exact Or.inl e
        · exact Or.inr ⟨q, p, hpp, e, by rw [hc _ (by omega)]; exact e2⟩
      · have e7 : setH c 7 (HR S.1) (1 + 6) = HR S.1 := setH_in
        rw [e7]
        refine ⟨⟨S.1 (7 * a + b), Nat.le_trans (fa _) (h99 _), rfl⟩, fun q => ?_⟩
        have := fa (7 * a + b)
        rw [hz a b ha hb q] at this
        show nI (S.1 (7 * a + b)) = 0
        rw [show S.1 (7 * a + b) = 0 by omega]
        rfl
    · refine ⟨fun i h1 h2 => by rw [hc _ (by omega), hc _ (by omega), hc _ (by omega)]; exact hZ.1 i h1 h2, fun i h1 _ => ?_⟩
      have e7 : setH c 7 (HR S.1) (1 + 6) = HR S.1 := setH_in
      rw [e7]
      have := fa i
      rw [hhi i h1] at this
      show nI (S.1 i) = 0
      rw [show S.1 i = 0 by omega]
      rfl
    · rw [hc 0 (by omega)]
      rcases iK with e | ⟨e, ⟨Y2, P2, i⟩, z⟩
      · exact Or.inl e
      · exact Or.inr ⟨e, ⟨Y2, P2, RInv_cg (fun f _ => hc _ (by omega)) i⟩, ZR_cg (fun f _ => hc _ (by omega)) z⟩
  · obtain ⟨⟨a1, a2, a3, a4⟩, b1, b2, b3, b4, b5⟩ := m1
    refine ⟨⟨⟨by rw [hu 53 (by omega), hc 1 (by omega)]; exact a1, by rw [hu 53 (by omega), hc 1 (by omega)]; exact a2, by rw [hu 53 (by omega), hc 1 (by omega)]; exact a3, by rw [hu 53 (by omega), hc 1 (by omega)]; exact a4⟩, by rw [hu 55 (by omega), hc _ (by omega)]; exact b1, by rw [hu 56 (by omega), hc _ (by omega)]; exact b2, ?_, fun p hp => ?_, fun x y hx hy => by rw [hu 64 (by omega), hg]; exact b5 x y hx hy⟩, by rw [hu 57 (by omega), hc 4 (by omega)]; exact w2, by rw [hu 54 (by omega), hc 52 (by omega)]; exact w3, by rw [hu 66 (by omega), hc 44 (by omega)]; exact w4, by rw [hu 53 (by omega), hc 43 (by omega)]; exact w5, by rw [hu 73 (by omega), hc 51 (by omega)]; exact w6, by rw [hu 53 (by omega), hc 0 (by omega)]; exact w7, by rw [hu 53 (by omega), hc 0 (by omega)]; exact w8, ?_⟩
    · rw [setH_in]
      exact setH_in.symm
    · rw [hu 58 (by omega), hu 59 (by omega), hu 60 (by omega), hu 61 (by omega), hu 62 (by omega), hu 63 (by omega), hc _ (by omega)]
      exact b4 p hp
    · intro e
      rw [hc 0 (by omega)] at e
      exact KI_cg (fun f _ => hc _ (by omega)) (fun i _ => by rw [hu 70 (by omega)]) (w9 e)
