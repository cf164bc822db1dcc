/-! ===== wet: who stood where, by wet sleeves ===== -/
theorem mk_lo : ∀ F, F < 128 → (127 : Int32) &&& (nI F ^^^ (-1)) = nI (127 ^^^ F) := by decide +kernel
theorem mk_hi : ∀ F, F < 128 → (nI F ^^^ (-1)) &&& (-128) = (-128 : Int32) := by decide +kernel
theorem mk_127 : ∀ s, s < 128 → s &&& 127 = s := by decide +kernel
theorem mk_xor : ∀ F, F < 128 → ∀ q, q < 7 → (127 ^^^ F).testBit q = !F.testBit q := by decide +kernel
theorem mk_shr : ∀ s, s < 128 → ∀ P, P < 8 → (nI s >>> (nI P &&& 31) = 0 ↔ ∀ q, q < 7 → s.testBit q = true → q < P) := by decide +kernel
theorem mk_smod : ∀ P, P < 8 → ((nI P &&& 31).toBitVec.smod 32).toNat = P := by decide +kernel
theorem pc_or : ∀ g, g < 128 → ∀ p, p < 7 → ¬ g.testBit p = true → cnt (fun q => (g ||| 2 ^ p).testBit q) 7 = cnt (fun q => g.testBit q) 7 + 1 := by decide +kernel
theorem pc_fin : ∀ g, g < 128 → sm (fun b => (nI g >>> (nI b &&& 31)) &&& 1) 7 = nI (cnt (fun q => g.testBit q) 7) := by decide +kernel
theorem tb_hi {s q : Nat} (hs : s < 128) (hq : 7 ≤ q) : s.testBit q = false := by
  apply Nat.testBit_lt_two_pow
  have h1 : (2 : Nat) ^ 7 ≤ 2 ^ q := Nat.pow_le_pow_right (by omega) hq
  have h2 : (2 : Nat) ^ 7 = 128 := by decide
  omega
theorem tb_ext {s t : Nat} (hs : s < 128) (ht : t < 128) (h : ∀ q, q < 7 → s.testBit q = t.testBit q) : s = t := by
  apply Nat.eq_of_testBit_eq
  intro q
  by_cases z : q < 7
  · exact h q z
  · rw [tb_hi hs (by omega), tb_hi ht (by omega)]
theorem cnt_sub {f g : Nat → Bool} : ∀ (k : Nat), (∀ i, i < k → f i = true → g i = true) → cnt f k ≤ cnt g k ∧ (cnt f k = cnt g k → ∀ i, i < k → f i = g i) := by
  intro k
  induction k with
  | zero => intro _; exact ⟨Nat.le_refl _, fun _ i hi => absurd hi (by omega)⟩
  | succ k ih =>
    intro h
    obtain ⟨h1, h2⟩ := ih (fun i hi => h i (by omega))
    simp only [cnt]
    by_cases q : f k = true
    · have q2 := h k (by omega) q
      rw [if_pos q, if_pos q2]
      refine ⟨by omega, fun e i hi => ?_⟩
      by_cases z : i = k
      · rw [z, q, q2]
      · exact h2 (by omega) i (by omega)
    · rw [if_neg q]
      by_cases q2 : g k = true
      · rw [if_pos q2]
        exact ⟨by omega, fun e => absurd e (by omega)⟩
      · rw [if_neg q2]
        refine ⟨h1, fun e i hi => ?_⟩
        by_cases z : i = k
        · rw [z]
          cases ef : f k with
          | true => exact absurd ef q
          | false =>
            cases eg : g k with
            | true => exact absurd eg q2
            | false => rfl
        · exact h2 e i (by omega)
theorem lo7_key : ∀ i, i < 32 → ((127 : Int32).toBitVec.getLsbD i || (-128 : Int32).toBitVec.getLsbD i) = true := by decide +kernel
theorem lo7 {x : Int32} (h : x &&& (-128) = 0) : x &&& 127 = x := by
  apply Int32.toBitVec_inj.1
  rw [Int32.toBitVec_and]
  have h' : x.toBitVec &&& (-128 : Int32).toBitVec = 0 := by
    have := congrArg Int32.toBitVec h
    rw [Int32.toBitVec_and] at this
    exact this
  apply BitVec.eq_of_getLsbD_eq
  intro i hi
  have k1 := lo7_key i hi
  have k2 : (x.toBitVec &&& (-128 : Int32).toBitVec).getLsbD i = (0 : BitVec 32).getLsbD i := by rw [h']
  rw [BitVec.getLsbD_and] at k2 ⊢
  have k3 : (0 : BitVec 32).getLsbD i = false := BitVec.getLsbD_zero
  rw [k3] at k2
  cases ex : x.toBitVec.getLsbD i with
  | false => rfl
  | true =>
    rw [ex] at k2
    cases em : (-128 : Int32).toBitVec.getLsbD i with
    | true => rw [em] at k2; exact absurd k2 (by decide)
    | false =>
      rw [em] at k1
      cases e7 : (127 : Int32).toBitVec.getLsbD i with
      | true => rfl
      | false => rw [e7] at k1; exact absurd k1 (by decide)
theorem wet_in {x : Int32} {F : Nat} (hF : F < 128) (h : x &&& (nI F ^^^ (-1)) = 0) : ∃ s, s < 128 ∧ x = nI s := by
  have h1 : x &&& (-128) = 0 := by rw [← mk_hi F hF, ← Int32.and_assoc, h, Int32.zero_and]
  obtain ⟨j, hj, e⟩ := pk_andE x (m := 127) 7 (by decide)
  exact ⟨j, hj, by rw [← e, lo7 h1]⟩
def subM (s F : Nat) : Prop := ∀ q, q < 7 → s.testBit q = true → F.testBit q = true
theorem wet_iff {s F : Nat} (hs : s < 128) (hF : F < 128) : (nI s &&& (nI F ^^^ (-1)) = 0 ↔ subM s F) := by
  have e1 : nI s &&& (nI F ^^^ (-1)) = nI (s &&& (127 ^^^ F)) := by
    have : nI s = nI s &&& 127 := by
      have := nI_and s 127
      rw [mk_127 s hs] at this
      exact this.symm
    rw [this, Int32.and_assoc, mk_lo F hF, nI_and]
  have hlt : s &&& (127 ^^^ F) < 2147483648 := Nat.lt_of_le_of_lt Nat.and_le_left (by omega)
  have e2 : (nI (s &&& (127 ^^^ F)) = 0) = (s &&& (127 ^^^ F) = 0) := eq_nI (b := 0) hlt (by omega)
  rw [e1, e2]
  constructor
  · intro z q hq hb
    have := congrArg (fun t => Nat.testBit t q) z
    rw [Nat.testBit_and, mk_xor F hF q hq, hb, Nat.zero_testBit] at this
    cases e : F.testBit q with
    | true => rfl
    | false => rw [e] at this; exact absurd this (by decide)
  · intro z
    apply Nat.eq_of_testBit_eq
    intro q
    rw [Nat.testBit_and, Nat.zero_testBit]
    by_cases hq : q < 7
    · rw [mk_xor F hF q hq]
      cases e : s.testBit q with
      | false => rfl
      | true => rw [z q hq e]; rfl
    · rw [tb_hi hs (by omega)]; rfl
theorem dry_L {n : Nat} {c u : MU} {r Y P s : Nat} (hI : RInv c r Y P) (hX : MX c r u) (hs : s < 128) :
    ∀ (d j m : Nat), j + d = P → d < m → ((∀ q, j ≤ q → q < P → s.testBit q = true → c (r + 7 + q) 5 = 0) ∧ zX5_areDry_L17 n u (nI s) (fun _ => some 1) m (nI j) = some 1) ∨ ((∃ q, j ≤ q ∧ q < P ∧ s.testBit q = true ∧ ¬ c (r + 7 + q) 5 = 0) ∧ zX5_areDry_L17 n u (nI s) (fun _ => some 1) m (nI j) = some 0) := by
  have hP7 := hI.1.2.2.1
  have hPu : u 53 13 = nI P := hX.1.2.1.trans hI.1.2.2.2.2.1
  intro d
  induction d with
  | zero =>
    intro j m hj hm
    obtain ⟨m, rfl⟩ : ∃ e, m = e + 1 := ⟨m - 1, by omega⟩
    obtain rfl : j = P := by omega
    refine Or.inl ⟨fun i h1 h2 => absurd h2 (by omega), ?_⟩
    rw [zX5_areDry_L17, hPu, if_pos (nI_le (Nat.le_refl _) (by omega))]
  | succ d ih =>
    intro j m hj hm
    obtain ⟨m, rfl⟩ : ∃ e, m = e + 1 := ⟨m - 1, by omega⟩
    obtain ⟨-, -, -, -, -, mo⟩ := hX.2.2.2.2.1 j (by omega)
    have ho := (hI.2.2.2.2.1 j (by omega)).2.2.2.2.2
    have go : (s.testBit j = true → c (r + 7 + j) 5 = 0) → ((∀ q, j ≤ q → q < P → s.testBit q = true → c (r + 7 + q) 5 = 0) ∧ zX5_areDry_L17 n u (nI s) (fun _ => some 1) m (nI (j + 1)) = some 1) ∨ ((∃ q, j ≤ q ∧ q < P ∧ s.testBit q = true ∧ ¬ c (r + 7 + q) 5 = 0) ∧ zX5_areDry_L17 n u (nI s) (fun _ => some 1) m (nI (j + 1)) = some 0) := by
      intro hw
      rcases ih (j + 1) m (by omega) (by omega) with ⟨g1, g2⟩ | ⟨⟨i, g1, g2, g3, g4⟩, g5⟩
      · refine Or.inl ⟨fun i q1 q2 q3 => ?_, g2⟩
        by_cases z : i = j
        · rw [z] at q3 ⊢; exact hw q3
        · exact g1 i (by omega) q2 q3
      · exact Or.inr ⟨⟨i, by omega, g2, g3, g4⟩, g5⟩
    rw [zX5_areDry_L17, hPu, if_neg (by rw [le_nI (by omega) (by omega)]; omega), nI_1]
    by_cases hb : s.testBit j = true
    · rw [if_pos ((bt_get s hs j (by omega)).mpr hb), oob_no (show j < 7 by omega) (by omega), tn_nI (by omega), mo]
      simp only [Bool.false_eq_true, if_false]
      rcases ho with o0 | o1
      · rw [o0, if_neg (by decide)]
        exact go (fun _ => o0)
      · rw [o1, if_pos rfl]
        exact Or.inr ⟨⟨j, Nat.le_refl _, by omega, hb, by rw [o1]; decide⟩, rfl⟩
    · rw [if_neg (fun z => hb ((bt_get s hs j (by omega)).mp z))]
      exact go (fun z => absurd z hb)
theorem dry_eq {n : Nat} {c u : MU} {r Y P F s : Nat} (hI : RInv c r Y P) (hX : MX c r u) (hF : MK (fun q => c (r + 7 + q) 5 = 0) F P) (hs : s < 128) (hn : 20 ≤ n) : (subM s F ∧ zX5_areDry n u (nI s) = some 1) ∨ (¬ subM s F ∧ zX5_areDry n u (nI s) = some 0) := by
  have hP7 := hI.1.2.2.1
  have hPu : u 53 13 = nI P := hX.1.2.1.trans hI.1.2.2.2.2.1
  unfold zX5_areDry
  rw [if_neg (nI_pos (by omega)), hPu]
  by_cases h1 : nI s >>> (nI P &&& 31) = 0
  · have h1' := (mk_shr s hs P (by omega)).mp h1
    rw [if_pos h1]
    rcases dry_L (n := n) hI hX hs P 0 n (by omega) (by omega) with ⟨g1, g2⟩ | ⟨⟨i, g1, g2, g3, g4⟩, g5⟩
    · rw [nI_0] at g2
      exact Or.inl ⟨fun q hq hb => (hF.2 q hq).mpr ⟨h1' q hq hb, g1 q (by omega) (h1' q hq hb) hb⟩, g2⟩
    · rw [nI_0] at g5
      exact Or.inr ⟨fun z => g4 ((hF.2 i (by omega)).mp (z i (by omega) g3)).2, g5⟩
  · rw [if_neg h1]
    refine Or.inr ⟨fun z => h1 ((mk_shr s hs P (by omega)).mpr (fun q hq hb => ((hF.2 q hq).mp (z q hq hb)).1)), rfl⟩
theorem dry_no {n : Nat} {c u : MU} {r Y P : Nat} {x : Int32} (hI : RInv c r Y P) (hX : MX c r u) (hx : ¬ ∃ s, s < 128 ∧ x = nI s) : zX5_areDry n u x = some 0 := by
  have hP7 := hI.1.2.2.1
  have hPu : u 53 13 = nI P := hX.1.2.1.trans hI.1.2.2.2.2.1
  unfold zX5_areDry
  by_cases h0 : x < 0
  · rw [if_pos h0]
  · obtain ⟨j, hj, rfl⟩ := nI_of h0
    have hj128 : 128 ≤ j := by
      by_cases q : 128 ≤ j
      · exact q
      · exact absurd ⟨j, by omega, rfl⟩ hx
    have hp : 2 ^ P ≤ 2 ^ 7 := Nat.pow_le_pow_right (by omega) hP7
    have h7 : (2 : Nat) ^ 7 = 128 := by decide
    have hpos : 0 < 2 ^ P := Nat.two_pow_pos P
    have hdiv : 0 < j / 2 ^ P := Nat.div_pos (by omega) hpos
    have hle : j / 2 ^ P ≤ j := Nat.div_le_self _ _
    rw [if_neg h0, hPu, pk_shrN hj (nI P &&& 31) P (mk_smod P (by omega)), if_neg (nI_ne0 hdiv (by omega))]
/-! the set of a chain -/
theorem set_L {n : Nat} {v : MU} {Y P N : Nat} {s1 s2 s3 s4 : Int32} {k : Int32 → Int32 → Option (Int32 × MU)} (hY5 : Y ≤ 5) (hP0 : 0 < P) (hP7 : P ≤ 7) (hYv : v 53 12 = nI Y) (hd : ∀ i, i < Y → v 57 i = dI P Y N i) (hdis : ∀ i, i < Y → ∀ j, j < i → ¬ dgt P Y N j = dgt P Y N i) :
    ∀ (d j m g : Nat), j + d = Y → d < m → Jv (dI P Y N) g j → cnt (fun q => g.testBit q) 7 = j → ∃ g', Jv (dI P Y N) g' Y ∧ cnt (fun q => g'.testBit q) 7 = Y ∧ zX5_wet_L57 n v s1 s2 s3 s4 k m (nI g) (nI j) = k (nI g') (nI Y) := by
  have hlt : ∀ i, dgt P Y N i < 7 := fun i => Nat.lt_of_lt_of_le (dgt_lt hP0) hP7
  intro d
  induction d with
  | zero =>
    intro j m g hj hm hJ hc
    obtain ⟨m, rfl⟩ : ∃ e, m = e + 1 := ⟨m - 1, by omega⟩
    obtain rfl : j = Y := by omega
    refine ⟨g, hJ, hc, ?_⟩
    rw [zX5_wet_L57, hYv, if_pos (nI_le (Nat.le_refl _) (by omega))]
  | succ d ih =>
    intro j m g hj hm hJ hc
    obtain ⟨m, rfl⟩ : ∃ e, m = e + 1 := ⟨m - 1, by omega⟩
    have hl := hlt j
    have e57 : v 57 j = nI (dgt P Y N j) := hd j (by omega)
    obtain ⟨h1, h2⟩ := Jv_step hJ hl (show dI P Y N j = nI (dgt P Y N j) from rfl)
    have hnb : ¬ g.testBit (dgt P Y N j) = true := fun z => by
      obtain ⟨i, hi, ei⟩ := (hJ.2 _ hl).mp z
      have ei' : nI (dgt P Y N i) = nI (dgt P Y N j) := ei
      have hli := hlt i
      rw [eq_nI (by omega) (by omega)] at ei'
      exact hdis j (by omega) i hi ei'
    rw [zX5_wet_L57, hYv, if_neg (by rw [le_nI (by omega) (by omega)]; omega), oob_no (show j < 5 by omega) (by omega), tn_nI (show j < 2147483648 by omega), e57, h1, nI_1]
    simp only [Bool.false_eq_true, if_false, letb]
    exact ih (j + 1) m _ (by omega) (by omega) h2 (by rw [pc_or g hJ.1 _ hl hnb, hc])
def whF (h : Nat → Int32) (x : Int32) : Nat → Nat → Int32 → Int32
  | 0, _, t => t
  | d + 1, j, t => whF h x d (j + 1) (if h j = x then t ||| (1 <<< (nI j &&& 31)) else t)
theorem whF_cg {h h' : Nat → Int32} {x : Int32} : ∀ (d j : Nat) (t : Int32), (∀ i, j ≤ i → i < j + d → h i = h' i) → whF h x d j t = whF h' x d j t := by
  intro d
  induction d with
  | zero => intro j t _; rfl
  | succ d ih =>
    intro j t e
    simp only [whF]
    rw [e j (Nat.le_refl _) (by omega)]
    exact ih (j + 1) _ (fun i h1 h2 => e i (by omega) (by omega))
theorem where_L {n : Nat} {v : MU} {Y : Nat} {s1 s2 s3 : Int32} {k : Int32 → Int32 → Option (Int32 × MU)} (hY5 : Y ≤ 5) (hYv : v 53 12 = nI Y) :
    ∀ (d j m : Nat) (t : Int32), j + d = Y → d < m → zX5_wet_L108 n v s1 s2 s3 k m t (nI j) = k (whF (v 57) s2 d j t) (nI Y) := by
  intro d
  induction d with
  | zero =>
    intro j m t hj hm
    obtain ⟨m, rfl⟩ : ∃ e, m = e + 1 := ⟨m - 1, by omega⟩
    obtain rfl : j = Y := by omega
    rw [zX5_wet_L108, hYv, if_pos (nI_le (Nat.le_refl _) (by omega))]
    rfl
  | succ d ih =>
    intro j m t hj hm
    obtain ⟨m, rfl⟩ : ∃ e, m = e + 1 := ⟨m - 1, by omega⟩
    rw [zX5_wet_L108, hYv, if_neg (by rw [le_nI (by omega) (by omega)]; omega), oob_no (show j < 5 by omega) (by omega), tn_nI (show j < 2147483648 by omega), nI_1]
    simp only [Bool.false_eq_true, if_false, letb, whF]
    by_cases e : v 57 j = s2
    · rw [if_pos e, if_pos e]
      exact ih (j + 1) m _ (by omega) (by omega)
    · rw [if_neg e, if_neg e, Int32.or_zero]
      exact ih (j + 1) m _ (by omega) (by omega)
theorem W50_wh {P Y N p : Nat} (hP0 : 0 < P) (hP7 : P ≤ 7) (hp : p < 7) : ∀ (d j : Nat) (s : Nat → Int32), W50 (dI P Y N) d j s p = whF (dI P Y N) (nI p) d j (s p) := by
  intro d
  induction d with
  | zero => intro j s; rfl
  | succ d ih =>
    intro j s
    have hl : dgt P Y N j < 7 := Nat.lt_of_lt_of_le (dgt_lt hP0) hP7
    have e : (dI P Y N j).toNatClampNeg = dgt P Y N j := tn_nI (by omega)
    simp only [W50, whF]
    rw [ih, e]
    by_cases q : dgt P Y N j = p
    · have q' : dI P Y N j = nI p := by show nI (dgt P Y N j) = nI p; rw [q]
      rw [if_pos q', q, ub_s]
    · have q' : ¬ dI P Y N j = nI p := fun z => q (by
        have z' : nI (dgt P Y N j) = nI p := z
        rw [eq_nI (by omega) (by omega)] at z'
        exact z')
      rw [if_neg q', ub_n (fun z => q z.symm)]
theorem ok_unl {c : MU} {r Y P F N : Nat} (hY1 : 1 ≤ Y) (hP7 : P ≤ 7) (hF : MK (fun q => c (r + 7 + q) 5 = 0) F P) (z : okC c r Y F (dgt P Y N) Y) : unl c r Y P N := by
  by_cases q : 0 < P
  · exact ((okC_iff q hP7 hF).mp z).1
  · exfalso
    obtain ⟨z1, -⟩ := z 0 (by omega)
    have hP : P = 0 := by omega
    subst hP
    have hz : F = 0 := tb_ext hF.1 (by omega) (fun q hq => by
      rw [Nat.zero_testBit]
      cases e : F.testBit q with
      | false => rfl
      | true =>
        have := ((hF.2 q hq).mp e).1
        omega)
    rw [hz, Nat.zero_testBit] at z1
    exact absurd z1 (by decide)
theorem sub_ok {c : MU} {r Y F s : Nat} {h : Nat → Nat} (hs : s < 128) (hsub : subM s F) (z : okC c r Y s h Y) : okC c r Y F h Y := fun i hi => by
  obtain ⟨a, b, d⟩ := z i hi
  refine ⟨?_, b, d⟩
  by_cases q : h i < 7
  · exact hsub _ q a
  · rw [tb_hi hs (by omega)] at a
    exact absurd a (by decide)
theorem wet_a {n : Nat} {c u v : MU} {r Y P F s : Nat} {x2 : Int32} {R0 : Row3} {k : Int32 → Int32 → MU → Option (Int32 × MU)} (hI : RInv c r Y P) (hX : MX c r u) (hF : MK (fun q => c (r + 7 + q) 5 = 0) F P) (hs : s < 128) (hsub : subM s F) (hpc : cnt (fun q => s.testBit q) 7 = Y) (h3 : R0.1 3 = 0) (h50 : ∀ p, p < 7 → R0.2.2 p = 0) (hv : SC u v) (h30 : v 53 30 + 1 = nI 0) (hn : 20000 ≤ n) :
    ∃ t3 t4 v', zX5_wet_L44 n (nI s) x2 k n 0 0 v = k t3 t4 v' ∧ SC u v' ∧ (lin (stC c r Y P s) (P ^ Y) 0 R0).1 3 = t3 ∧ ∀ p, p < 7 → x2 = nI p → (lin (stC c r Y P s) (P ^ Y) 0 R0).2.2 p = t4 := by
  have hY1 := hI.1.1
  have hY5 := hI.1.2.1
  have hP7 := hI.1.2.2.1
  have hT := pow_le7 hP7 hY5
  obtain ⟨s', v', g1, g2, g3⟩ := loop_gen (σ := Int32 × Int32) (n := n) (f := stC c r Y P s) hI hX hn (fun m st v => zX5_wet_L44 n (nI s) x2 k m st.1 st.2 v) (fun st v => k st.1 st.2 v) (fun _ R st _ => R.1 3 = st.1 ∧ ∀ p, p < 7 → x2 = nI p → R.2.2 p = st.2)
    (fun N N' R s v v' _ h _ _ => h) (fun N hu R => stC_n (fun z => hu (ok_unl hY1 hP7 hF (sub_ok hs hsub z))))
    (fun m st v v' e => by
      show zX5_wet_L44 n (nI s) x2 k (m + 1) st.1 st.2 v = _
      rw [zX5_wet_L44, e, Option.bind_some, if_pos rfl])
    (fun m N R st v v' hN hu e hv' h30 hd hr => by
      have hP0 := P0_of hu hY1
      have hYv : v' 53 12 = nI Y := (SC_MX hv' hX).1.1.trans hI.1.2.2.2.1
      have hdis : ∀ i, i < Y → ∀ j, j < i → ¬ dgt P Y N j = dgt P Y N i := fun i hi => (((unl_iff hP0 hP7).mp hu) i hi).2
      have hlt : ∀ i, dgt P Y N i < 7 := fun i => Nat.lt_of_lt_of_le (dgt_lt hP0) hP7
      obtain ⟨g, y1, y2, y3⟩ := set_L (n := n) (s1 := nI s) (s2 := x2) (s3 := st.1) (s4 := st.2) (k := fun y15 y16 => if y15 = nI s then (Option.bind (zX5_doesStand n v') (fun q18 => if q18.1 = 0 then (zX5_wet_L44 n (nI s) x2 k m st.1 st.2 q18.2) else (zX5_wet_L108 n q18.2 (nI s) x2 (st.1 + 1) (fun y26 y27 => zX5_wet_L44 n (nI s) x2 k m (st.1 + 1) y26 q18.2) n st.2 0))) else (zX5_wet_L44 n (nI s) x2 k m st.1 st.2 v')) hY5 hP0 hP7 hYv hd hdis Y 0 n 0 (by omega) (by omega) ⟨by omega, fun q hq => by
        constructor
        · intro z; rw [Nat.zero_testBit] at z; exact absurd z (by decide)
        · rintro ⟨i, hi, -⟩; omega⟩ (by decide)
      rw [nI_0] at y3
      have hst : zX5_wet_L44 n (nI s) x2 k (m + 1) st.1 st.2 v = if nI g = nI s then (Option.bind (zX5_doesStand n v') (fun q18 => if q18.1 = 0 then (zX5_wet_L44 n (nI s) x2 k m st.1 st.2 q18.2) else (zX5_wet_L108 n q18.2 (nI s) x2 (st.1 + 1) (fun y26 y27 => zX5_wet_L44 n (nI s) x2 k m (st.1 + 1) y26 q18.2) n st.2 0))) else (zX5_wet_L44 n (nI s) x2 k m st.1 st.2 v') := by
        rw [zX5_wet_L44, e, Option.bind_some, if_neg n10]
        exact y3
      have hbits : nI g = nI s ↔ ∀ i, i < Y → s.testBit (dgt P Y N i) = true := by
        have hg := y1.1
        rw [eq_nI (by omega) (by omega)]
        constructor
        · intro z i hi
          rw [← z]
          exact (y1.2 _ (hlt i)).mpr ⟨i, hi, rfl⟩
        · intro z
          refine tb_ext y1.1 hs ?_
          refine (cnt_sub (f := fun q => g.testBit q) (g := fun q => s.testBit q) 7 (fun q hq hb => ?_)).2 (by rw [y2, hpc])
          obtain ⟨i, hi, ei⟩ := (y1.2 q hq).mp hb
          have ei' : nI (dgt P Y N i) = nI q := ei
          have := hlt i
          rw [eq_nI (by omega) (by omega)] at ei'
          rw [← ei']
          exact z i hi
      have hskip : ∀ v2, SC u v2 → v2 53 30 = nI N → zX5_wet_L44 n (nI s) x2 k (m + 1) st.1 st.2 v = zX5_wet_L44 n (nI s) x2 k m st.1 st.2 v2 → ¬ (okC c r Y s (dgt P Y N) Y ∧ gsm c r (dgt P Y N) Y ≤ 0) → ∃ s2 v2, (fun m (st : Int32 × Int32) v => zX5_wet_L44 n (nI s) x2 k m st.1 st.2 v) (m + 1) st v = (fun m (st : Int32 × Int32) v => zX5_wet_L44 n (nI s) x2 k m st.1 st.2 v) m s2 v2 ∧ SC u v2 ∧ v2 53 30 = nI N ∧ ((stC c r Y P s N R).1 3 = s2.1 ∧ ∀ p, p < 7 → x2 = nI p → (stC c r Y P s N R).2.2 p = s2.2) := by
        intro v2 q1 q2 q3 q4
        obtain ⟨z1, -, z3⟩ := st_no (R := R) q4
        exact ⟨st, v2, q3, q1, q2, by rw [z1]; exact hr.1, fun p hp ep => by rw [z3]; exact hr.2 p hp ep⟩
      by_cases hb : nI g = nI s
      · rw [if_pos hb] at hst
        obtain ⟨v2, q1, q2, q3, q4, q5, q6⟩ := ds_N (n := n) hI hX hv' hP0 hd (by omega)
        have e30 : v2 53 30 = nI N := by rw [q5 30 (by decide) (by decide)]; exact h30
        rcases q1 with ⟨x1, x3⟩ | ⟨x1, x3⟩
        · have hok : okC c r Y s (dgt P Y N) Y := fun i hi => ⟨hbits.mp hb i hi, x1.1 i hi, hdis i hi⟩
          obtain ⟨z1, z2, -, -⟩ := st_yes (R := R) hok x1.2
          rw [x3, Option.bind_some, if_neg n10] at hst
          have hYv2 : v2 53 12 = nI Y := (SC_MX q2 hX).1.1.trans hI.1.2.2.2.1
          have hwl := where_L (n := n) (s1 := nI s) (s2 := x2) (s3 := st.1 + 1) (k := fun y26 y27 => zX5_wet_L44 n (nI s) x2 k m (st.1 + 1) y26 v2) hY5 hYv2 Y 0 n st.2 (by omega) (by omega)
          rw [nI_0] at hwl
          refine ⟨(st.1 + 1, whF (v2 57) x2 Y 0 st.2), v2, hst.trans hwl, q2, e30, ?_, fun p hp ep => ?_⟩
          · show (stC c r Y P s N R).1 3 = st.1 + 1
            rw [z1, hr.1]
          · show (stC c r Y P s N R).2.2 p = whF (v2 57) x2 Y 0 st.2
            rw [z2, W50_wh hP0 hP7 hp, hr.2 p hp ep, ep, q3]
            exact whF_cg Y 0 st.2 (fun i _ hi => (hd i (by omega)).symm)
        · rw [x3, Option.bind_some, if_pos rfl] at hst
          exact hskip v2 q2 e30 hst (fun z => x1 ⟨fun i hi => (z.1 i hi).2.1, z.2⟩)
      · rw [if_neg hb] at hst
        exact hskip v' hv' h30 hst (fun z => hb (hbits.mpr (fun i hi => (z.1 i hi).1))))
    (P ^ Y) 0 n (0, 0) v R0 (by omega) (by omega) (by omega) hv h30 ⟨h3, fun p hp _ => h50 p hp⟩
  rw [Nat.sub_zero] at g3
  exact ⟨s'.1, s'.2, v', g1, g2, g3.1, g3.2⟩
theorem wet_b {n : Nat} {c u v : MU} {r Y P F s : Nat} {x2 : Int32} {k : Int32 → Int32 → MU → Option (Int32 × MU)} (hI : RInv c r Y P) (hX : MX c r u) (hF : MK (fun q => c (r + 7 + q) 5 = 0) F P) (hs : s < 128) (hpc : ¬ cnt (fun q => s.testBit q) 7 = Y) (hv : SC u v) (h30 : v 53 30 + 1 = nI 0) (hn : 20000 ≤ n) :
    ∃ v', zX5_wet_L44 n (nI s) x2 k n 0 0 v = k 0 0 v' ∧ SC u v' := by
  have hY1 := hI.1.1
  have hY5 := hI.1.2.1
  have hP7 := hI.1.2.2.1
  have hT := pow_le7 hP7 hY5
  obtain ⟨s', v', g1, g2, g3⟩ := loop_gen (σ := Unit) (n := n) (f := fun _ R => R) hI hX hn (fun m _ v => zX5_wet_L44 n (nI s) x2 k m 0 0 v) (fun _ v => k 0 0 v) (fun _ _ _ _ => True)
    (fun N N' R s v v' _ h _ _ => h) (fun N hu R => rfl)
    (fun m st v v' e => by
      show zX5_wet_L44 n (nI s) x2 k (m + 1) 0 0 v = _
      rw [zX5_wet_L44, e, Option.bind_some, if_pos rfl])
    (fun m N R st v v' hN hu e hv' h30 hd hr => by
      have hP0 := P0_of hu hY1
      have hYv : v' 53 12 = nI Y := (SC_MX hv' hX).1.1.trans hI.1.2.2.2.1
      have hdis : ∀ i, i < Y → ∀ j, j < i → ¬ dgt P Y N j = dgt P Y N i := fun i hi => (((unl_iff hP0 hP7).mp hu) i hi).2
      obtain ⟨g, y1, y2, y3⟩ := set_L (n := n) (s1 := nI s) (s2 := x2) (s3 := 0) (s4 := 0) (k := fun y15 y16 => if y15 = nI s then (Option.bind (zX5_doesStand n v') (fun q18 => if q18.1 = 0 then (zX5_wet_L44 n (nI s) x2 k m 0 0 q18.2) else (zX5_wet_L108 n q18.2 (nI s) x2 (0 + 1) (fun y26 y27 => zX5_wet_L44 n (nI s) x2 k m (0 + 1) y26 q18.2) n 0 0))) else (zX5_wet_L44 n (nI s) x2 k m 0 0 v')) hY5 hP0 hP7 hYv hd hdis Y 0 n 0 (by omega) (by omega) ⟨by omega, fun q hq => by
        constructor
        · intro z; rw [Nat.zero_testBit] at z; exact absurd z (by decide)
        · rintro ⟨i, hi, -⟩; omega⟩ (by decide)
      rw [nI_0] at y3
      have hne : ¬ nI g = nI s := by
        have hg := y1.1
        rw [eq_nI (by omega) (by omega)]
        intro z
        rw [z] at y2
        exact hpc y2
      refine ⟨st, v', ?_, hv', h30, trivial⟩
      show zX5_wet_L44 n (nI s) x2 k (m + 1) 0 0 v = zX5_wet_L44 n (nI s) x2 k m 0 0 v'
      rw [zX5_wet_L44, e, Option.bind_some, if_neg n10]
      exact y3.trans (if_neg hne))
    (P ^ Y) 0 n () v (fun _ => 0, fun _ => 0, fun _ => 0) (by omega) (by omega) (by omega) hv h30 trivial
  exact ⟨v', g1, g2⟩
theorem bitc_pc {n : Nat} {u : MU} {s : Nat} (hs : s < 128) : zJ6_bitCount_0f7a4 n u (nI s) = some (nI (cnt (fun q => s.testBit q) 7)) := by
  rw [bitc_eq ⟨s, by omega, rfl⟩, pc_fin s hs]
theorem cnt_le {f : Nat → Bool} : ∀ (k : Nat), cnt f k ≤ k := by
  intro k
  induction k with
  | zero => exact Nat.le_refl _
  | succ k ih =>
    simp only [cnt]
    split <;> omega
theorem op_wet (n : Nat) (hn : 20000 ≤ n) (a b : Int32) : OPT (fun c => zX4_wet n c a b) (fun u => zX5_wet n u a b) := by
  intro c u hI hM
  obtain ⟨⟨Y, P, hR⟩, -⟩ := id hI
  have hX := hM.1
  have hY5 := hR.1.2.1
  have hP7 := hR.1.2.2.1
  have hYc := hR.1.2.2.2.1
  obtain ⟨F, hF, eF⟩ := zX3_notOver_eq (n := n) (r := 1) hR.1.2.2.2.2.1 hP7 (by omega)
  have refb : zX5_areDry n u a = some 0 → ¬ (a &&& (nI F ^^^ (-1))) = 0 → ∃ v c' u', zX4_wet n c a b = some (v, c') ∧ zX5_wet n u a b = some (v, u') ∧ CINV c' ∧ MREL c' u' := fun h1 h2 => by
    refine opt_ref 1 (by decide) (n := n) hI hM ?_ ?_
    · unfold zX4_wet
      rw [eF, Option.bind_some, if_neg h2]
      rfl
    · unfold zX5_wet
      rw [h1, Option.bind_some, if_pos rfl]
      rfl
  by_cases hin : ∃ s, s < 128 ∧ a = nI s
  · obtain ⟨s, hs, rfl⟩ := hin
    rcases dry_eq (n := n) hR hX hF hs (by omega) with ⟨hsub, ed⟩ | ⟨hsub, ed⟩
    · have h0 := (wet_iff hs hF.1).mpr hsub
      have hbc := bitc_pc (n := n) (u := c) hs
      have hpc7 := cnt_le (f := fun q => s.testBit q) 7
      obtain ⟨v, p1, p2, p3, p4, p5, p6⟩ := zX5_putsAway_eq (n := n) (u := u) (by omega)
      have h30 : v 53 30 + 1 = nI 0 := by rw [p4]; decide
      obtain ⟨c', R0, t1, t2, t3, t4, t5, t6, t7⟩ := thinkOf_eq (n := n) hR (by omega) hs (by omega)
      have hCI := CINV_sm (Sm_th t2) hI
      by_cases hb1 : b = -1
      · by_cases hpc : cnt (fun q => s.testBit q) 7 = Y
        · obtain ⟨x3, x4, v', g1, g2, g3, -⟩ := wet_a (n := n) (x2 := b) (k := fun y28 y29 w30 => Option.bind (zX5_putsBack n w30) (fun q31 => if b = (-1) then (some (y28, q31)) else (some (y29, q31)))) hR hX hF hs hsub hpc t3 t6 p2 h30 hn
          obtain ⟨q, b1, b2, b3, -⟩ := zX5_putsBack_eq (n := n) g2 (by omega)
          rw [← t7] at g3
          refine ⟨x3, c', q, ?_, ?_, hCI, MREL_sm (Sm_th t2) (MREL_back b2 b3 hM)⟩
          · show zX4_wet n c (nI s) b = _
            unfold zX4_wet
            rw [eF, Option.bind_some, if_pos h0, if_pos hb1, hbc, Option.bind_some, hpc, hYc, if_pos rfl, t1, Option.bind_some, if_pos hb1, ← g3]
            rfl
          · show zX5_wet n u (nI s) b = _
            unfold zX5_wet
            rw [ed, Option.bind_some, if_neg (by decide), if_pos hb1, p1, Option.bind_some, g1, b1, Option.bind_some, if_pos hb1]
        · obtain ⟨v', g1, g2⟩ := wet_b (n := n) (x2 := b) (k := fun y28 y29 w30 => Option.bind (zX5_putsBack n w30) (fun q31 => if b = (-1) then (some (y28, q31)) else (some (y29, q31)))) hR hX hF hs hpc p2 h30 hn
          obtain ⟨q, b1, b2, b3, -⟩ := zX5_putsBack_eq (n := n) g2 (by omega)
          refine ⟨0, c, q, ?_, ?_, hI, MREL_back b2 b3 hM⟩
          · show zX4_wet n c (nI s) b = _
            unfold zX4_wet
            rw [eF, Option.bind_some, if_pos h0, if_pos hb1, hbc, Option.bind_some, hYc, if_neg (by rw [eq_nI (by omega) (by omega)]; exact hpc)]
          · show zX5_wet n u (nI s) b = _
            unfold zX5_wet
            rw [ed, Option.bind_some, if_neg (by decide), if_pos hb1, p1, Option.bind_some, g1, b1, Option.bind_some, if_pos hb1]
      · have hm := m_isOne (n := n) (a := b) hX
        rcases zX3_isPerson_eq (n := n) (u := c) (r := 1) (a := b) hR.1.2.2.2.2.1 hP7 with ⟨p, hp, rfl, hz⟩ | ⟨-, hz⟩
        · rw [hz] at hm
          have hp7 : p < 7 := by omega
          have o7 := oob_no hp7 (show p < 2147483648 by omega)
          have n7 := tn_nI (show p < 2147483648 by omega)
          by_cases hbit : s.testBit p = true
          · have c1 : ¬ nI s &&& (1 <<< (nI p &&& 31)) = 0 := fun z => (bt_and1 s hs p hp7).mp z hbit
            have c2 : ¬ (nI s >>> (nI p &&& 31)) &&& 1 = 0 := fun z => by
              have := (bt_get s hs p hp7).mpr hbit
              rw [z] at this
              exact absurd this (by decide)
            by_cases hpc : cnt (fun q => s.testBit q) 7 = Y
            · obtain ⟨x3, x4, v', g1, g2, -, g3⟩ := wet_a (n := n) (x2 := nI p) (k := fun y42 y43 w44 => Option.bind (zX5_putsBack n w44) (fun q45 => if nI p = (-1) then (some (y42, q45)) else (some (y43, q45)))) hR hX hF hs hsub hpc t3 t6 p2 h30 hn
              obtain ⟨q, b1, b2, b3, -⟩ := zX5_putsBack_eq (n := n) g2 (by omega)
              have g3' := g3 p hp7 rfl
              rw [← t7] at g3'
              refine ⟨x4, c', q, ?_, ?_, hCI, MREL_sm (Sm_th t2) (MREL_back b2 b3 hM)⟩
              · show zX4_wet n c (nI s) (nI p) = _
                unfold zX4_wet
                rw [eF, Option.bind_some, if_pos h0, if_neg hb1, hz, Option.bind_some, if_neg (by decide), if_neg c1, hbc, Option.bind_some, hpc, hYc, if_pos rfl, t1, Option.bind_some, if_neg hb1, o7, n7, ← g3']
                rfl
              · show zX5_wet n u (nI s) (nI p) = _
                unfold zX5_wet
                rw [ed, Option.bind_some, if_neg (by decide), if_neg hb1, hm, Option.bind_some, if_neg (by decide), if_neg c2, p1, Option.bind_some, g1, b1, Option.bind_some, if_neg hb1]
            · obtain ⟨v', g1, g2⟩ := wet_b (n := n) (x2 := nI p) (k := fun y42 y43 w44 => Option.bind (zX5_putsBack n w44) (fun q45 => if nI p = (-1) then (some (y42, q45)) else (some (y43, q45)))) hR hX hF hs hpc p2 h30 hn
              obtain ⟨q, b1, b2, b3, -⟩ := zX5_putsBack_eq (n := n) g2 (by omega)
              refine ⟨0, c, q, ?_, ?_, hI, MREL_back b2 b3 hM⟩
              · show zX4_wet n c (nI s) (nI p) = _
                unfold zX4_wet
                rw [eF, Option.bind_some, if_pos h0, if_neg hb1, hz, Option.bind_some, if_neg (by decide), if_neg c1, hbc, Option.bind_some, hYc, if_neg (by rw [eq_nI (by omega) (by omega)]; exact hpc)]
              · show zX5_wet n u (nI s) (nI p) = _
                unfold zX5_wet
                rw [ed, Option.bind_some, if_neg (by decide), if_neg hb1, hm, Option.bind_some, if_neg (by decide), if_neg c2, p1, Option.bind_some, g1, b1, Option.bind_some, if_neg hb1]
          · have c1 : nI s &&& (1 <<< (nI p &&& 31)) = 0 := (bt_and1 s hs p hp7).mpr hbit
            have c2 : (nI s >>> (nI p &&& 31)) &&& 1 = 0 := (gb01_fin s hs p hp7).resolve_right (fun z => hbit ((bt_get s hs p hp7).mp z))
            refine opt_ref 1 (by decide) (n := n) hI hM ?_ ?_
            · show zX4_wet n c (nI s) (nI p) = _
              unfold zX4_wet
              rw [eF, Option.bind_some, if_pos h0, if_neg hb1, hz, Option.bind_some, if_neg (by decide), if_pos c1]
              rfl
            · show zX5_wet n u (nI s) (nI p) = _
              unfold zX5_wet
              rw [ed, Option.bind_some, if_neg (by decide), if_neg hb1, hm, Option.bind_some, if_neg (by decide), if_pos c2]
              rfl
        · rw [hz] at hm
          refine opt_ref 1 (by decide) (n := n) hI hM ?_ ?_
          · show zX4_wet n c (nI s) b = _
            unfold zX4_wet
            rw [eF, Option.bind_some, if_pos h0, if_neg hb1, hz, Option.bind_some, if_pos rfl]
            rfl
          · show zX5_wet n u (nI s) b = _
            unfold zX5_wet
            rw [ed, Option.bind_some, if_neg (by decide), if_neg hb1, hm, Option.bind_some, if_pos rfl]
            rfl
    · exact refb ed (fun z => hsub ((wet_iff hs hF.1).mp z))
  · exact refb (dry_no hR hX hin) (fun z => hin (wet_in hF.1 z))
