/-! ===== bits of masks below 128; told chains; judge ===== -/
theorem bt_get : ∀ g, g < 128 → ∀ p, p < 7 → ((nI g >>> (nI p &&& 31)) &&& 1 = 1 ↔ g.testBit p = true) := by decide +kernel
theorem bt_or : ∀ g, g < 128 → ∀ p, p < 7 → nI g ||| (1 <<< (nI p &&& 31)) = nI (g ||| 2 ^ p) ∧ g ||| 2 ^ p < 128 := by decide +kernel
theorem bt_or_t : ∀ g, g < 128 → ∀ p, p < 7 → ∀ q, q < 7 → ((g ||| 2 ^ p).testBit q = true ↔ g.testBit q = true ∨ q = p) := by decide +kernel
theorem fo {G : Nat → Prop} : ∀ (N : Nat), (∃ k, k < N ∧ (∀ i, i < k → G i) ∧ ¬ G k) ∨ (∀ i, i < N → G i) := by
  intro N
  induction N with
  | zero => exact Or.inr (fun i hi => absurd hi (by omega))
  | succ N ih =>
    rcases ih with ⟨k, h1, h2, h3⟩ | h
    · exact Or.inl ⟨k, by omega, h2, h3⟩
    · by_cases q : G N
      · refine Or.inr (fun i hi => ?_)
        by_cases e : i = N
        · rw [e]; exact q
        · exact h i (by omega)
      · exact Or.inl ⟨N, by omega, h, q⟩
def cnC (c : MU) (r P : Nat) (h : Nat → Int32) (k : Nat) : Prop := (∃ p, p < P ∧ h k = nI p ∧ c (r + 7 + p) 5 = 0) ∧ ∀ i, i < k → ¬ h i = h k
def gdC (c : MU) (r Y P : Nat) (h : Nat → Int32) (k : Nat) : Prop := cnC c r P h k ∧ whyS c r Y P h k = -9
theorem canCome_L {n : Nat} {c : MU} {r ch cn K : Nat} {v : Int32} {k : Int32 → Option Int32} (hK : K ≤ cn) (hcn : cn < 100) (hk : k (nI K) = some 1) :
    ∀ (d j m : Nat), j + d = K → d < m → ((∀ i, j ≤ i → i < K → ¬ c ch i = v) ∧ zX3_canCome_L29 n c r ch cn (nI K) v k m (nI j) = some 1) ∨ ((∃ i, j ≤ i ∧ i < K ∧ c ch i = v) ∧ zX3_canCome_L29 n c r ch cn (nI K) v k m (nI j) = some 0) := by
  intro d
  induction d with
  | zero =>
    intro j m hj hm
    obtain ⟨m, rfl⟩ : ∃ e, m = e + 1 := ⟨m - 1, by omega⟩
    obtain rfl : j = K := by omega
    rw [zX3_canCome_L29, if_pos (nI_le (Nat.le_refl _) (by omega))]
    exact Or.inl ⟨fun i h1 h2 => absurd h2 (by omega), hk⟩
  | succ d ih =>
    intro j m hj hm
    obtain ⟨m, rfl⟩ : ∃ e, m = e + 1 := ⟨m - 1, by omega⟩
    rw [zX3_canCome_L29, if_neg (by rw [le_nI (by omega) (by omega)]; omega), oob_no (show j < cn by omega) (by omega), tn_nI (by omega), nI_1]
    simp only [Bool.false_eq_true, if_false]
    by_cases e : c ch j = v
    · rw [if_pos e]
      exact Or.inr ⟨⟨j, Nat.le_refl _, by omega, e⟩, rfl⟩
    · rw [if_neg e]
      rcases ih (j + 1) m (by omega) (by omega) with ⟨h1, h2⟩ | ⟨⟨i, h1, h2, h3⟩, h4⟩
      · refine Or.inl ⟨fun i q1 q2 => ?_, h2⟩
        by_cases z : i = j
        · rw [z]; exact e
        · exact h1 i (by omega) q2
      · exact Or.inr ⟨⟨i, by omega, h2, h3⟩, h4⟩
theorem zX3_canCome_eq {n : Nat} {c : MU} {r P ch cn K : Nat} (hP : c r 3 = nI P) (hP7 : P ≤ 7) (hK : K < cn) (hcn : cn < 10) (hn : 20 ≤ n) :
    (cnC c r P (c ch) K ∧ zX3_canCome n c r ch cn (nI K) = some 1) ∨ (¬ cnC c r P (c ch) K ∧ zX3_canCome n c r ch cn (nI K) = some 0) := by
  unfold zX3_canCome
  rw [oob_no hK (by omega), tn_nI (by omega)]
  simp only [Bool.false_eq_true, if_false, letb]
  rcases zX3_isPerson_eq (n := n) (u := c) (r := r) (a := c ch K) hP hP7 with ⟨p, hp, e, hz⟩ | ⟨hno, hz⟩
  · rw [hz, Option.bind_some, if_neg (by decide), e, oob_no (show p < 7 by omega) (by omega), tn_nI (show p < 2147483648 by omega)]
    simp only [Bool.false_eq_true, if_false]
    by_cases ho : c (r + 7 + p) 5 = 0
    · rw [if_pos ho]
      rcases canCome_L (n := n) (c := c) (r := r) (ch := ch) (v := nI p) (k := fun y11 => some 1) (show K ≤ cn by omega) (by omega) rfl K 0 n (by omega) (by omega) with ⟨h1, h2⟩ | ⟨⟨i, h1, h2, h3⟩, h4⟩
      · rw [nI_0] at h2
        exact Or.inl ⟨⟨⟨p, hp, e, ho⟩, fun i hi z => h1 i (by omega) hi (by rw [z, e])⟩, h2⟩
      · rw [nI_0] at h4
        exact Or.inr ⟨fun z => z.2 i h2 (by rw [h3, e]), h4⟩
    · rw [if_neg ho]
      refine Or.inr ⟨?_, rfl⟩
      rintro ⟨⟨p2, hp2, e2, o2⟩, -⟩
      rw [e, eq_nI (by omega) (by omega)] at e2
      exact ho (by rw [e2]; exact o2)
  · rw [hz, Option.bind_some, if_pos rfl]
    refine Or.inr ⟨?_, rfl⟩
    rintro ⟨⟨p2, hp2, e2, o2⟩, -⟩
    exact hno ⟨p2, hp2, e2⟩
theorem fa_step {n : Nat} {c : MU} {r Y P ch cn M j m : Nat} {s2 : Int32} {k : Int32 → Option Int32} (hY : c r 0 = nI Y) (hY5 : Y ≤ 5) (hP : c r 3 = nI P) (hP7 : P ≤ 7) (hcn : 5 ≤ cn) (hcn2 : cn < 10) (hM : M ≤ 5) (hj : j < M) (hn : 20 ≤ n) :
    (gdC c r Y P (c ch) j ∧ zX3_firstAmiss_L12 n c r ch cn s2 (nI M) k (m + 1) (nI j) = zX3_firstAmiss_L12 n c r ch cn s2 (nI M) k m (nI (j + 1))) ∨ (¬ gdC c r Y P (c ch) j ∧ zX3_firstAmiss_L12 n c r ch cn s2 (nI M) k (m + 1) (nI j) = some (nI j)) := by
  rw [zX3_firstAmiss_L12, if_neg (by rw [le_nI (by omega) (by omega)]; omega)]
  rcases zX3_canCome_eq (n := n) (c := c) (r := r) (ch := ch) (cn := cn) (K := j) hP hP7 (by omega) hcn2 hn with ⟨h1, h2⟩ | ⟨h1, h2⟩
  · rw [h2, Option.bind_some, if_neg (by decide), zX3_whySlips_eq hY hY5 hP hP7 hcn (by omega) (show j < 5 by omega) (by omega), Option.bind_some, nI_1]
    by_cases q : whyS c r Y P (c ch) j = -9
    · rw [if_pos q]; exact Or.inl ⟨⟨h1, q⟩, rfl⟩
    · rw [if_neg q]; exact Or.inr ⟨fun z => q z.2, rfl⟩
  · rw [h2, Option.bind_some, if_pos rfl]; exact Or.inr ⟨fun z => h1 z.1, rfl⟩
theorem fa_bad {n : Nat} {c : MU} {r Y P ch cn M K : Nat} {s2 : Int32} {k : Int32 → Option Int32} (hY : c r 0 = nI Y) (hY5 : Y ≤ 5) (hP : c r 3 = nI P) (hP7 : P ≤ 7) (hcn : 5 ≤ cn) (hcn2 : cn < 10) (hM : M ≤ 5) (hK : K < M) (hn : 20 ≤ n) (hg : ∀ i, i < K → gdC c r Y P (c ch) i) (hb : ¬ gdC c r Y P (c ch) K) :
    ∀ (d j m : Nat), j + d = K → d < m → zX3_firstAmiss_L12 n c r ch cn s2 (nI M) k m (nI j) = some (nI K) := by
  intro d
  induction d with
  | zero =>
    intro j m hj hm
    obtain ⟨m, rfl⟩ : ∃ e, m = e + 1 := ⟨m - 1, by omega⟩
    obtain rfl : j = K := by omega
    rcases fa_step (m := m) (s2 := s2) (k := k) hY hY5 hP hP7 hcn hcn2 hM hK hn with ⟨z, -⟩ | ⟨-, z⟩
    · exact absurd z hb
    · exact z
  | succ d ih =>
    intro j m hj hm
    obtain ⟨m, rfl⟩ : ∃ e, m = e + 1 := ⟨m - 1, by omega⟩
    rcases fa_step (m := m) (s2 := s2) (k := k) hY hY5 hP hP7 hcn hcn2 hM (show j < M by omega) hn with ⟨-, z⟩ | ⟨z, -⟩
    · rw [z]
      exact ih (j + 1) m (by omega) (by omega)
    · exact absurd (hg j (by omega)) z
theorem fa_all {n : Nat} {c : MU} {r Y P ch cn M : Nat} {s2 : Int32} {k : Int32 → Option Int32} (hY : c r 0 = nI Y) (hY5 : Y ≤ 5) (hP : c r 3 = nI P) (hP7 : P ≤ 7) (hcn : 5 ≤ cn) (hcn2 : cn < 10) (hM : M ≤ 5) (hn : 20 ≤ n) (hg : ∀ i, i < M → gdC c r Y P (c ch) i) :
    ∀ (d j m : Nat), j + d = M → d < m → zX3_firstAmiss_L12 n c r ch cn s2 (nI M) k m (nI j) = k (nI M) := by
  intro d
  induction d with
  | zero =>
    intro j m hj hm
    obtain ⟨m, rfl⟩ : ∃ e, m = e + 1 := ⟨m - 1, by omega⟩
    obtain rfl : j = M := by omega
    rw [zX3_firstAmiss_L12, if_pos (nI_le (Nat.le_refl _) (by omega))]
  | succ d ih =>
    intro j m hj hm
    obtain ⟨m, rfl⟩ : ∃ e, m = e + 1 := ⟨m - 1, by omega⟩
    rcases fa_step (m := m) (s2 := s2) (k := k) hY hY5 hP hP7 hcn hcn2 hM (show j < M by omega) hn with ⟨-, z⟩ | ⟨z, -⟩
    · rw [z]
      exact ih (j + 1) m (by omega) (by omega)
    · exact absurd (hg j (by omega)) z
theorem zX3_firstAmiss_eq {n : Nat} {c : MU} {r Y P ch cn len : Nat} (hY : c r 0 = nI Y) (hY5 : Y ≤ 5) (hP : c r 3 = nI P) (hP7 : P ≤ 7) (hcn : 5 ≤ cn) (hcn2 : cn < 10) (hlen : len ≤ 5) (hn : 20 ≤ n) :
    (∀ K, K < min len Y → (∀ i, i < K → gdC c r Y P (c ch) i) → ¬ gdC c r Y P (c ch) K → zX3_firstAmiss n c r ch cn (nI len) = some (nI K)) ∧ ((∀ i, i < min len Y → gdC c r Y P (c ch) i) → zX3_firstAmiss n c r ch cn (nI len) = some (if len = Y then -9 else nI (min len Y))) := by
  have hx : (if nI Y < nI len then nI Y else nI len) = nI (min len Y) := mn_nI (by omega) (by omega)
  unfold zX3_firstAmiss
  rw [hY, hx]
  simp only [letb]
  constructor
  · intro K hK hg hb
    have := fa_bad (n := n) (s2 := nI len) (k := fun y9 => if nI len = nI Y then (some (-9)) else (some (nI (min len Y)))) hY hY5 hP hP7 hcn hcn2 (show min len Y ≤ 5 by omega) hK hn hg hb K 0 n (by omega) (by omega)
    rw [nI_0] at this
    exact this
  · intro hg
    have := fa_all (n := n) (s2 := nI len) (k := fun y9 => if nI len = nI Y then (some (-9)) else (some (nI (min len Y)))) hY hY5 hP hP7 hcn hcn2 (show min len Y ≤ 5 by omega) hn hg (min len Y) 0 n (by omega) (by omega)
    rw [nI_0] at this
    rw [this]
    by_cases e : len = Y
    · rw [if_pos e, e, if_pos rfl]
    · rw [if_neg e, if_neg (by rw [eq_nI (by omega) (by omega)]; exact e)]
/-! the model's judge -/
def Jv (h : Nat → Int32) (g j : Nat) : Prop := g < 128 ∧ ∀ q, q < 7 → (g.testBit q = true ↔ ∃ i, i < j ∧ h i = nI q)
theorem Jv_step {h : Nat → Int32} {g j p : Nat} (hJ : Jv h g j) (hp : p < 7) (e : h j = nI p) : nI g ||| (1 <<< (nI p &&& 31)) = nI (g ||| 2 ^ p) ∧ Jv h (g ||| 2 ^ p) (j + 1) := by
  refine ⟨(bt_or g hJ.1 p hp).1, (bt_or g hJ.1 p hp).2, fun q hq => ?_⟩
  rw [bt_or_t g hJ.1 p hp q hq, hJ.2 q hq]
  constructor
  · rintro (⟨i, h1, h2⟩ | rfl)
    · exact ⟨i, by omega, h2⟩
    · exact ⟨j, by omega, e⟩
  · rintro ⟨i, h1, h2⟩
    by_cases z : i = j
    · subst z
      rw [e, eq_nI (by omega) (by omega)] at h2
      exact Or.inr h2.symm
    · exact Or.inl ⟨i, by omega, h2⟩
/-- the model's slipsIn behind somebody, said by whyS -/
theorem slip_m1 {n : Nat} {c u : MU} {r Y P j p : Nat} {h : Nat → Int32} (hI : RInv c r Y P) (hM : MX c r u) (hj : j < 5) (hp : p < P) (e : h j = nI p) (hah : ∀ i, i < j → ∃ a, a < P ∧ h i = nI a) (hn : 10 ≤ n) :
    zX5_slipsIn n u (nI j) (nI p) (if j = 0 then -9 else h (j - 1)) = some (if whyS c r Y P h j = -9 then -1 else whyS c r Y P h j) := by
  have hP7 := hI.1.2.2.1
  have hin : 0 ≤ h j ∧ h j < nI P := (inP_iff hP7).mpr ⟨p, hp, e⟩
  unfold whyS
  rw [if_pos hin, e, tn_nI (show p < 2147483648 by omega)]
  by_cases h0 : j = 0
  · rw [if_pos h0, if_pos h0, zX5_slipsIn_neg hI hM (by omega) (by omega) hn (by decide)]
    by_cases hw : whyN c r Y j p = -9
    · rw [if_pos hw, if_pos hw, if_pos rfl]
    · rw [if_neg hw, if_neg hw, if_neg hw]
  · obtain ⟨a, ha, ea⟩ := hah (j - 1) (by omega)
    rw [if_neg h0, if_neg h0, ea, zX5_slipsIn_pos hI hM (by omega) (by omega) hn (by omega)]
    have hin2 : 0 ≤ nI a ∧ nI a < nI P := ⟨nI_pos' (by omega), nI_lt ha (by omega)⟩
    rw [if_pos hin2, tn_nI (show a < 2147483648 by omega)]
    by_cases hw : whyN c r Y j p = -9
    · rw [if_pos hw, if_pos hw]
      by_cases hg : gb c r a p = 1
      · rw [if_pos hg, if_pos hg, if_neg (by decide)]
      · rw [if_neg hg, if_neg hg, if_pos rfl]
    · rw [if_neg hw, if_neg hw, if_neg hw]
theorem jd_step {n : Nat} {c u : MU} {r Y P len g j m : Nat} {h : Nat → Int32} {k : Int32 → Int32 → Option (Int32 × MU)} (hI : RInv c r Y P) (hM : MX c r u) (h73 : u 73 = h) (hl : len ≤ 5) (hj : j < len) (hjY : j < Y) (hd : ∀ i, i < len → isD 6 (h i)) (hg : ∀ i, i < j → gdC c r Y P h i) (hJ : Jv h g j) (hn : 10 ≤ n) :
    (gdC c r Y P h j ∧ ∃ g', Jv h g' (j + 1) ∧ zX5_judge_L14 n u (nI len) k (m + 1) (nI g) (nI j) = zX5_judge_L14 n u (nI len) k m (nI g') (nI (j + 1))) ∨ (¬ gdC c r Y P h j ∧ zX5_judge_L14 n u (nI len) k (m + 1) (nI g) (nI j) = some (nI j, u)) := by
  have hP7 := hI.1.2.2.1
  have hY5 := hI.1.2.1
  have hY : u 53 12 = nI Y := hM.1.1.trans hI.1.2.2.2.1
  obtain ⟨p, hp, e⟩ := hd j hj
  have hah : ∀ i, i < j → ∃ a, a < P ∧ h i = nI a := fun i hi => by
    obtain ⟨⟨⟨a, ha, ea, -⟩, -⟩, -⟩ := hg i hi
    exact ⟨a, ha, ea⟩
  rw [zX5_judge_L14, if_neg (by rw [le_nI (by omega) (by omega)]; omega), oob_no (show j < 5 by omega) (by omega), tn_nI (show j < 2147483648 by omega), h73, hY, nI_1]
  simp only [Bool.false_eq_true, if_false, letb]
  rw [if_neg (by rw [eq_nI (by omega) (by omega)]; omega), e, m_isOne hM]
  rcases zX3_isPerson_eq (n := n) (u := c) (r := r) (a := nI p) hI.1.2.2.2.2.1 hP7 with ⟨p', hp', e', hz⟩ | ⟨hno, hz⟩
  · rw [eq_nI (by omega) (by omega)] at e'
    subst e'
    obtain ⟨-, -, -, -, -, mo⟩ := hM.2.2.2.2.1 p (by omega)
    have ho := (hI.2.2.2.2.1 p (by omega)).2.2.2.2.2
    rw [hz, Option.bind_some, if_neg (by decide), oob_no (show p < 7 by omega) (by omega), tn_nI (show p < 2147483648 by omega), mo]
    simp only [Bool.false_eq_true, if_false]
    rcases ho with o0 | o1
    · rw [o0, if_neg (by decide)]
      by_cases hb : (nI g >>> (nI p &&& 31)) &&& 1 = 1
      · rw [if_pos hb]
        refine Or.inr ⟨?_, rfl⟩
        rintro ⟨⟨-, z⟩, -⟩
        obtain ⟨i, hi, ei⟩ := (hJ.2 p (by omega)).mp ((bt_get g hJ.1 p (by omega)).mp hb)
        exact z i hi (by rw [ei, e])
      · rw [if_neg hb]
        have hc : cnC c r P h j := by
          refine ⟨⟨p, hp', e, o0⟩, fun i hi z => hb ?_⟩
          rw [bt_get g hJ.1 p (by omega), hJ.2 p (by omega)]
          exact ⟨i, hi, by rw [z, e]⟩
        have hs := slip_m1 (n := n) hI hM (show j < 5 by omega) hp' e hah hn
        obtain ⟨hor, hJ'⟩ := Jv_step hJ (show p < 7 by omega) e
        by_cases h0 : j = 0
        · rw [if_pos h0] at hs
          rw [if_pos (by rw [h0, nI_0]; decide), hs, Option.bind_some, hor]
          by_cases q : whyS c r Y P h j = -9
          · rw [if_pos q, if_pos rfl]
            exact Or.inl ⟨⟨hc, q⟩, _, hJ', rfl⟩
          · rw [if_neg q, if_neg whyS_ne]
            exact Or.inr ⟨fun z => q z.2, rfl⟩
        · rw [if_neg h0] at hs
          obtain ⟨i, rfl⟩ : ∃ i, j = i + 1 := ⟨j - 1, by omega⟩
          rw [Nat.add_sub_cancel] at hs
          rw [if_neg (nI_nle (by omega) (by omega)), nI_m1, oob_no (show i < 5 by omega) (by omega), tn_nI (show i < 2147483648 by omega), hs]
          simp only [Bool.false_eq_true, if_false, Option.bind_some]
          rw [hor]
          by_cases q : whyS c r Y P h (i + 1) = -9
          · rw [if_pos q, if_pos rfl]
            exact Or.inl ⟨⟨hc, q⟩, _, hJ', rfl⟩
          · rw [if_neg q, if_neg whyS_ne]
            exact Or.inr ⟨fun z => q z.2, rfl⟩
    · rw [o1, if_pos rfl]
      refine Or.inr ⟨?_, rfl⟩
      rintro ⟨⟨⟨p2, hp2, e2, o2⟩, -⟩, -⟩
      rw [e, eq_nI (by omega) (by omega)] at e2
      rw [← e2, o1] at o2
      exact absurd o2 (by decide)
  · rw [hz, Option.bind_some, if_pos rfl]
    refine Or.inr ⟨?_, rfl⟩
    rintro ⟨⟨⟨p2, hp2, e2, o2⟩, -⟩, -⟩
    exact hno ⟨p2, hp2, by rw [← e, e2]⟩
theorem jd_bad {n : Nat} {c u : MU} {r Y P len K : Nat} {h : Nat → Int32} {k : Int32 → Int32 → Option (Int32 × MU)} (hI : RInv c r Y P) (hM : MX c r u) (h73 : u 73 = h) (hl : len ≤ 5) (hK : K < len) (hKY : K < Y) (hd : ∀ i, i < len → isD 6 (h i)) (hg : ∀ i, i < K → gdC c r Y P h i) (hb : ¬ gdC c r Y P h K) (hn : 10 ≤ n) :
    ∀ (d j m g : Nat), j + d = K → d < m → Jv h g j → zX5_judge_L14 n u (nI len) k m (nI g) (nI j) = some (nI K, u) := by
  intro d
  induction d with
  | zero =>
    intro j m g hj hm hJ
    obtain ⟨m, rfl⟩ : ∃ e, m = e + 1 := ⟨m - 1, by omega⟩
    obtain rfl : j = K := by omega
    rcases jd_step (m := m) (k := k) hI hM h73 hl hK hKY hd hg hJ hn with ⟨z, -⟩ | ⟨-, z⟩
    · exact absurd z hb
    · exact z
  | succ d ih =>
    intro j m g hj hm hJ
    obtain ⟨m, rfl⟩ : ∃ e, m = e + 1 := ⟨m - 1, by omega⟩
    rcases jd_step (m := m) (k := k) hI hM h73 hl (show j < len by omega) (by omega) hd (fun i hi => hg i (by omega)) hJ hn with ⟨-, g', h1, z⟩ | ⟨z, -⟩
    · rw [z]
      exact ih (j + 1) m g' (by omega) (by omega) h1
    · exact absurd (hg j (by omega)) z
theorem jd_all {n : Nat} {c u : MU} {r Y P len : Nat} {h : Nat → Int32} {R : Int32} (hI : RInv c r Y P) (hM : MX c r u) (h73 : u 73 = h) (hl : len ≤ 5) (hd : ∀ i, i < len → isD 6 (h i)) (hg : ∀ i, i < min len Y → gdC c r Y P h i) (hn : 10 ≤ n) :
    ∀ (d j m g : Nat), j + d = min len Y → d < m → Jv h g j → zX5_judge_L14 n u (nI len) (fun _ _ => some (R, u)) m (nI g) (nI j) = (if Y < len then some (nI Y, u) else some (R, u)) := by
  have hY5 := hI.1.2.1
  have hY : u 53 12 = nI Y := hM.1.1.trans hI.1.2.2.2.1
  intro d
  induction d with
  | zero =>
    intro j m g hj hm hJ
    obtain ⟨m, rfl⟩ : ∃ e, m = e + 1 := ⟨m - 1, by omega⟩
    rw [zX5_judge_L14]
    by_cases q : Y < len
    · obtain rfl : j = Y := by omega
      rw [if_neg (by rw [le_nI (by omega) (by omega)]; omega), oob_no (show j < 5 by omega) (by omega), tn_nI (show j < 2147483648 by omega), hY, if_pos q]
      simp only [Bool.false_eq_true, if_false, letb, if_true]
    · obtain rfl : j = len := by omega
      rw [if_pos (nI_le (Nat.le_refl _) (by omega)), if_neg q]
  | succ d ih =>
    intro j m g hj hm hJ
    obtain ⟨m, rfl⟩ : ∃ e, m = e + 1 := ⟨m - 1, by omega⟩
    rcases jd_step (m := m) (k := fun _ _ => some (R, u)) hI hM h73 hl (show j < len by omega) (by omega) hd (fun i hi => hg i (by omega)) hJ hn with ⟨-, g', h1, z⟩ | ⟨z, -⟩
    · rw [z]
      exact ih (j + 1) m g' (by omega) (by omega) h1
    · exact absurd (hg j (by omega)) z
theorem op_judge (n : Nat) (hn : 20 ≤ n) : OPT (fun c => zX4_judge n c) (fun u => zX5_judge n u) := by
  intro c u hI hM
  obtain ⟨⟨Y, P, hR⟩, hZ, iK, iT, rl, hrl, er, hw⟩ := id hI
  obtain ⟨m1, w2, w3, w4, w5, w6, w7, w8, w9⟩ := id hM
  have hP7 := hR.1.2.2.1
  have hY5 := hR.1.2.1
  have hY := hR.1.2.2.2.1
  have hP := hR.1.2.2.2.2.1
  have hc : ∀ k, k ≠ 0 → up2 c 0 7 0 k = c k := fun k h1 => up2_o h1
  have hu : ∀ k, k ≠ 53 → up2 u 53 34 0 k = u k := fun k h1 => up2_o h1
  have hs : ∀ i, i ≠ 34 → up2 u 53 34 0 53 i = u 53 i := fun i hi => up2_i hi
  have h03 : up2 c 0 7 0 0 3 = c 0 3 := up2_i (by decide)
  have hM2 : MX c 1 (up2 u 53 34 0) := MX_up m1 (by decide) (by decide) (by decide) (by decide)
  have h73 : up2 u 53 34 0 73 = c 51 := (hu 73 (by decide)).trans w6
  have eu : u 53 34 = nI rl := w7.trans er
  have hCI : CINV (up2 c 0 7 0) := by
    refine ⟨⟨Y, P, RInv_cg (fun f _ => hc _ (by omega)) hR⟩, ZR_cg (fun f _ => hc _ (by omega)) hZ, ?_, by rw [hc 43 (by omega), hc 44 (by omega)]; exact iT, 0, by omega, up2_s, fun i hi => absurd hi (by omega)⟩
    rw [h03]
    rcases iK with e | ⟨e, ⟨Y2, P2, i⟩, z⟩
    · exact Or.inl e
    · exact Or.inr ⟨e, ⟨Y2, P2, RInv_cg (fun f _ => hc _ (by omega)) i⟩, ZR_cg (fun f _ => hc _ (by omega)) z⟩
  have hMR : MREL (up2 c 0 7 0) (up2 u 53 34 0) := by
    refine ⟨MX_cg (fun f _ => hc _ (by omega)) (fun k h1 h2 _ => rfl) rfl rfl rfl rfl hM2, by rw [hu 57 (by omega), hc 4 (by omega)]; exact w2, by rw [hu 54 (by omega), hc 52 (by omega)]; exact w3, by rw [hu 66 (by omega), hc 44 (by omega)]; exact w4, by rw [hs 20 (by decide), hc 43 (by omega)]; exact w5, by rw [hu 73 (by omega), hc 51 (by omega)]; exact w6, by rw [up2_s, up2_s], by rw [hs 24 (by decide), h03]; exact w8, ?_⟩
    intro e
    rw [h03] at e
    exact KI_cg (fun f _ => hc _ (by omega)) (fun i _ => by rw [hu 70 (by omega)]) (w9 e)
  have hfa := zX3_firstAmiss_eq (n := n) (r := 1) (ch := 51) (cn := 5) (len := rl) hY hY5 hP hP7 (by omega) (by omega) hrl hn
  have hJ0 : Jv (c 51) 0 0 := ⟨by omega, fun q hq => by
    constructor
    · intro z
      rw [Nat.zero_testBit] at z
      exact absurd z (by decide)
    · rintro ⟨i, hi, -⟩
      omega⟩
  have hY2 : up2 u 53 34 0 53 12 = nI Y := hM2.1.1.trans hY
  have hmod : zX5_judge n u = zX5_judge_L14 n (up2 u 53 34 0) (nI rl) (fun _ _ => some (if Y ≤ rl then -9 else nI rl, up2 u 53 34 0)) n 0 0 := by
    unfold zX5_judge
    rw [eu]
    simp only [letb]
    rw [hY2]
    congr 1
    funext a b
    by_cases q : Y ≤ rl
    · rw [if_pos q, if_pos (nI_le q (by omega))]
    · rw [if_neg q, if_neg (by rw [le_nI (by omega) (by omega)]; exact q)]
  rcases fo (G := gdC c 1 Y P (c 51)) (min rl Y) with ⟨K, hK, hg, hb⟩ | hall
  · refine ⟨nI K, _, _, ?_, ?_, hCI, hMR⟩
    · show zX4_judge n c = _
      unfold zX4_judge
      rw [er, hfa.1 K hK hg hb, Option.bind_some]
      rfl
    · show zX5_judge n u = _
      rw [hmod]
      have := jd_bad (n := n) (k := fun _ _ => some (if Y ≤ rl then -9 else nI rl, up2 u 53 34 0)) hR hM2 h73 hrl (show K < rl by omega) (by omega) hw hg hb (by omega) K 0 n 0 (by omega) (by omega) hJ0
      rw [nI_0] at this
      exact this
  · refine ⟨if rl = Y then -9 else nI (min rl Y), _, _, ?_, ?_, hCI, hMR⟩
    · show zX4_judge n c = _
      unfold zX4_judge
      rw [er, hfa.2 hall, Option.bind_some]
      rfl
    · show zX5_judge n u = _
      rw [hmod]
      have := jd_all (n := n) (R := if Y ≤ rl then -9 else nI rl) hR hM2 h73 hrl hw hall (by omega) (min rl Y) 0 n 0 (by omega) (by omega) hJ0
      rw [nI_0] at this
      rw [this]
      by_cases q : Y < rl
      · rw [if_pos q, if_neg (by omega), Nat.min_eq_right (by omega)]
      · rw [if_neg q]
        by_cases q2 : rl = Y
        · rw [if_pos q2, if_pos (by omega)]
        · rw [if_neg q2, if_neg (by omega), Nat.min_eq_left (by omega)]
