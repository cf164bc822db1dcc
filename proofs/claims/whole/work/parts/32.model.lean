/-! ===== the model's methods, in the same closed forms: c is the class's memory, u the model's ===== -/
def isD (n : Nat) (x : Int32) : Prop := ∃ k, k ≤ n ∧ x = nI k
/-- a river of the class's memory is in order: Y yards, P people -/
def RInv (c : MU) (r Y P : Nat) : Prop :=
  (1 ≤ Y ∧ Y ≤ 5 ∧ P ≤ 7 ∧ c r 0 = nI Y ∧ c r 3 = nI P ∧ isD 9 (c r 1)) ∧
  (∀ k, k < 5 → isD 9 (c (r + 1) k) ∧ isD 9 (c (r + 2) k)) ∧
  (∀ k, k < 5 → c (r + 3) k = -9 ∨ (k < Y ∧ ∃ p, p < P ∧ c (r + 3) k = nI p ∧ c (r + 7 + p) 5 = 0)) ∧
  (∀ j k, j < 5 → k < 5 → c (r + 3) j = c (r + 3) k → c (r + 3) j = -9 ∨ j = k) ∧
  (∀ p, p < 7 → isD 5 (c (r + 7 + p) 0) ∧ isD 9 (c (r + 7 + p) 1) ∧ isD 9 (c (r + 7 + p) 2) ∧ isD 9 (c (r + 7 + p) 3) ∧ isD 99 (c (r + 7 + p) 4) ∧ (c (r + 7 + p) 5 = 0 ∨ c (r + 7 + p) 5 = 1)) ∧
  (∀ a, a < 7 → isD 127 (c (r + 5) a)) ∧
  (∀ a b, a < 7 → b < 7 → gb c r a b = gb c r b a ∧ (P ≤ a ∨ a = b → gb c r a b = 0)) ∧
  (∀ a b, a < 7 → b < 7 → isD 99 (c (r + 6) (7 * a + b)) ∧ (P ≤ a ∨ P ≤ b ∨ a = b → c (r + 6) (7 * a + b) = 0))
/-- the model's river is the class's river at r, but for who stands in the water -/
def MX (c : MU) (r : Nat) (u : MU) : Prop :=
  (u 53 12 = c r 0 ∧ u 53 13 = c r 3 ∧ u 53 14 = c r 1 ∧ u 53 15 = c r 2) ∧ u 55 = c (r + 1) ∧ u 56 = c (r + 2) ∧ u 65 = c (r + 6) ∧
  (∀ p, p < 7 → u 58 p = c (r + 7 + p) 0 ∧ u 59 p = c (r + 7 + p) 1 ∧ u 60 p = c (r + 7 + p) 2 ∧ u 61 p = c (r + 7 + p) 3 ∧ u 62 p = c (r + 7 + p) 4 ∧ u 63 p = c (r + 7 + p) 5) ∧
  (∀ a b, a < 7 → b < 7 → u 64 (7 * a + b) = gb c r a b)
theorem rch_fin : ∀ k, k < 6 → ∀ h, h < 10 → (if nI k = 0 then nI h else if nI k = 2 then nI h / 2 else if nI k = 3 then 99 else nI h + 2) = rch (nI k) (nI h) := by decide +kernel
theorem hld_fin : ∀ k, k < 6 → ∀ s, s < 10 → ∀ f, f < 10 → (if nI k = 2 then (if nI s ≤ 2 then 0 else nI s - 2) else if nI k = 3 then nI s / 2 else if nI k = 4 then nI s + nI f else if nI k = 5 then nI s + nI f else nI s) = hld (nI k) (nI s) (nI f) := by decide +kernel
theorem col_fin : ∀ k, k < 6 → ∀ c, c < 10 → (if nI k = 2 then 2 * (nI c + 1) else if nI k = 4 then (if nI c ≤ 1 then 1 else nI c) else if nI k = 5 then 1 else nI c + 1) = col (nI k) (nI c) := by decide +kernel
theorem col_pos : ∀ k, k < 6 → ∀ c, c < 10 → 1 ≤ col (nI k) (nI c) ∧ ¬ col (nI k) (nI c) = 0 := by decide +kernel
theorem zX5_reachOf_eq {n : Nat} {c u : MU} {r Y P p : Nat} (hI : RInv c r Y P) (hM : MX c r u) (hp : p < 7) : zX5_reachOf n u (nI p) = some (rchP c r p) := by
  obtain ⟨⟨k, hk, ek⟩, -, ⟨h, hh, eh⟩, -⟩ := hI.2.2.2.2.1 p hp
  obtain ⟨m0, -, m2, -⟩ := hM.2.2.2.2.1 p hp
  unfold zX5_reachOf
  simp only [oob_no hp (by omega), Bool.false_eq_true, if_false, tn_nI (show p < 2147483648 by omega), so_if]
  rw [m0, m2, ek, eh, rch_fin k (by omega) h (by omega)]
  unfold rchP
  rw [ek, eh]
theorem zX5_holdOf_eq {n : Nat} {c u : MU} {r Y P p : Nat} (hI : RInv c r Y P) (hM : MX c r u) (hp : p < 7) : zX5_holdOf n u (nI p) = some (hldP c r p) := by
  obtain ⟨⟨k, hk, ek⟩, ⟨f, hf, ef⟩, -, ⟨s, hs, es⟩, -⟩ := hI.2.2.2.2.1 p hp
  obtain ⟨m0, m1, -, m3, -⟩ := hM.2.2.2.2.1 p hp
  unfold zX5_holdOf
  simp only [oob_no hp (by omega), Bool.false_eq_true, if_false, tn_nI (show p < 2147483648 by omega), so_if]
  rw [m0, m1, m3, ek, ef, es, hld_fin k (by omega) s (by omega) f (by omega)]
  unfold hldP
  rw [ek, ef, es]
theorem zX5_coolOf_eq {n : Nat} {c u : MU} {r Y P p : Nat} (hI : RInv c r Y P) (hM : MX c r u) (hp : p < 7) : zX5_coolOf n u (nI p) = some (colP c r p) := by
  obtain ⟨⟨k, hk, ek⟩, -⟩ := hI.2.2.2.2.1 p hp
  obtain ⟨m0, -⟩ := hM.2.2.2.2.1 p hp
  obtain ⟨cc, hcc, ec⟩ := hI.1.2.2.2.2.2
  unfold zX5_coolOf
  simp only [oob_no hp (by omega), Bool.false_eq_true, if_false, tn_nI (show p < 2147483648 by omega), so_if]
  rw [m0, hM.1.2.2.1, ek, ec, col_fin k (by omega) cc (by omega)]
  unfold colP
  rw [ek, ec]
theorem colP_pos {c : MU} {r Y P p : Nat} (hI : RInv c r Y P) (hp : p < 7) : 1 ≤ colP c r p ∧ ¬ colP c r p = 0 := by
  obtain ⟨⟨k, hk, ek⟩, -⟩ := hI.2.2.2.2.1 p hp
  obtain ⟨cc, hcc, ec⟩ := hI.1.2.2.2.2.2
  unfold colP
  rw [ek, ec]
  exact col_pos k (by omega) cc (by omega)
theorem mn_le (a b : Int32) : (if b ≤ a then b else a) = mn a b := by
  unfold mn
  by_cases h : b < a
  · rw [if_pos h, if_pos]
    rw [fa_le']; rw [fa_lt'] at h; omega
  · rw [if_neg h]
    by_cases h2 : b ≤ a
    · rw [if_pos h2]
      rw [fa_le'] at h2; rw [fa_lt'] at h
      exact Int32.toInt_inj.mp (by omega)
    · rw [if_neg h2]
theorem zX5_least_eq {n : Nat} {u : MU} {a b : Int32} : zX5_least n u a b = some (mn a b) := by
  unfold zX5_least
  rw [so_if, mn_le]
theorem zX5_loadOf_L {n : Nat} {u : MU} {h Y : Nat} {k : Int32 → Int32 → Int32 → Option Int32} (hY : u 53 12 = nI Y) (hY5 : Y ≤ 5) (hh : h ≤ 100) :
    ∀ (d j m : Nat), j + d = Y → d < m → zX5_loadOf_L7 n u (nI h) k m (nrS (u 56) h j) (frS (u 56) h j) (nI j) = k (nrS (u 56) h Y) (frS (u 56) h Y) (nI Y) := by
  intro d
  induction d with
  | zero =>
    intro j m hj hm
    obtain ⟨m, rfl⟩ : ∃ e, m = e + 1 := ⟨m - 1, by omega⟩
    obtain rfl : j = Y := by omega
    rw [zX5_loadOf_L7, hY, if_pos (nI_le (Nat.le_refl _) (by omega))]
  | succ d ih =>
    intro j m hj hm
    obtain ⟨m, rfl⟩ : ∃ e, m = e + 1 := ⟨m - 1, by omega⟩
    rw [zX5_loadOf_L7, hY, if_neg (by rw [le_nI (by omega) (by omega)]; omega), oob_no (by omega : j < 5) (by omega), tn_nI (by omega), nI_1]
    simp only [letb, Bool.false_eq_true, if_false]
    rw [← ih (j + 1) m (by omega) (by omega)]
    by_cases hc : h ≤ j
    · rw [if_pos (by rw [le_nI (by omega) (by omega)]; exact hc)]
      simp only [nrS, frS, if_pos hc]
    · rw [if_neg (by rw [le_nI (by omega) (by omega)]; exact hc)]
      simp only [nrS, frS, if_neg hc]
theorem zX5_loadOf_eq {n : Nat} {c u : MU} {r Y P h : Nat} (hI : RInv c r Y P) (hM : MX c r u) (hh : h ≤ 100) (hn : 10 ≤ n) : zX5_loadOf n u (nI h) = some (ldR c r Y h) := by
  have hY : u 53 12 = nI Y := hM.1.1.trans hI.1.2.2.2.1
  unfold zX5_loadOf ldR ldS
  have := zX5_loadOf_L (n := n) (k := fun y7 y8 y9 => (zX5_least n u y7 y8).bind fun q10 => some q10) hY hI.1.2.1 hh Y 0 n (by omega) (by have := hI.1.2.1; omega)
  rw [nI_0] at this
  rw [show nrS (u 56) h 0 = 0 from rfl, show frS (u 56) h 0 = 0 from rfl] at this
  rw [this, zX5_least_eq, Option.bind_some, hM.2.2.1]
theorem mx_le {a b h : Int32} : mx a b ≤ h ↔ a ≤ h ∧ b ≤ h := by
  unfold mx
  by_cases q : a < b
  · rw [if_pos q]
    rw [fa_lt'] at q
    constructor
    · intro z
      rw [fa_le'] at z
      exact ⟨(fa_le' _ _).mpr (by omega), (fa_le' _ _).mpr z⟩
    · exact fun z => z.2
  · rw [if_neg q]
    rw [fa_lt'] at q
    constructor
    · intro z
      rw [fa_le'] at z
      exact ⟨(fa_le' _ _).mpr z, (fa_le' _ _).mpr (by omega)⟩
    · exact fun z => z.1
theorem nlt_le {a b : Int32} : ¬ a < b ↔ b ≤ a := by rw [fa_lt', fa_le']; omega
theorem ix7 (p a : Nat) : (7 : Int32) * nI p + nI a = nI (7 * p + a) := by
  rw [show (7 : Int32) = nI 7 from rfl, pk_mul, nI_add]
theorem zX5_doesReach_eq {n : Nat} {c u : MU} {r Y P y p : Nat} (hI : RInv c r Y P) (hM : MX c r u) (hy : y < 5) (hp : p < 7) : zX5_doesReach n u (nI y) (nI p) 0 = some (if rchP c r p < c (r + 1) y then 0 else 1) := by
  unfold zX5_doesReach
  rw [zX5_reachOf_eq hI hM hp, Option.bind_some, oob_no hy (by omega), tn_nI (by omega), hM.2.1]
  simp only [Bool.false_eq_true, if_false, Int32.add_zero, so_if]
theorem zX5_doesHold_eq {n : Nat} {c u : MU} {r Y P y p : Nat} (hI : RInv c r Y P) (hM : MX c r u) (hy : y < 5) (hp : p < 7) (hn : 10 ≤ n) : zX5_doesHold n u (nI y) (nI p) = some (if mx (ldR c r Y y) (ldR c r Y (y + 1)) ≤ hldP c r p then 1 else 0) := by
  unfold zX5_doesHold
  simp only [zX5_holdOf_eq hI hM hp, Option.bind_some, nI_1, zX5_loadOf_eq hI hM (show y ≤ 100 by omega) hn, zX5_loadOf_eq hI hM (show y + 1 ≤ 100 by omega) hn]
  by_cases h1 : hldP c r p < ldR c r Y y
  · rw [if_pos h1, if_neg]
    intro z
    have := (mx_le.mp z).1
    rw [fa_lt'] at h1; rw [fa_le'] at this; omega
  · rw [if_neg h1]
    by_cases h2 : hldP c r p < ldR c r Y (y + 1)
    · rw [if_pos h2, if_neg]
      intro z
      have := (mx_le.mp z).2
      rw [fa_lt'] at h2; rw [fa_le'] at this; omega
    · rw [if_neg h2, if_pos (mx_le.mpr ⟨nlt_le.mp h1, nlt_le.mp h2⟩)]
/-- slipsIn with nobody ahead, and with somebody -/
theorem zX5_slipsIn_neg {n : Nat} {c u : MU} {r Y P y p : Nat} {ah : Int32} (hI : RInv c r Y P) (hM : MX c r u) (hy : y < 5) (hp : p < 7) (hn : 10 ≤ n) (ha : ah < 0) : zX5_slipsIn n u (nI y) (nI p) ah = some (if whyN c r Y y p = -9 then -1 else whyN c r Y y p) := by
  unfold zX5_slipsIn whyN
  rw [zX5_doesReach_eq hI hM hy hp, Option.bind_some]
  by_cases h1 : c (r + 1) y ≤ rchP c r p
  · rw [if_neg (nlt_le.mpr h1), if_neg (by decide), if_pos h1, zX5_doesHold_eq hI hM hy hp hn, Option.bind_some]
    by_cases h2 : mx (ldR c r Y y) (ldR c r Y (y + 1)) ≤ hldP c r p
    · rw [if_pos h2, if_neg (by decide), if_pos ha, if_pos h2, if_pos rfl]
    · rw [if_neg h2, if_pos rfl, if_neg h2, if_neg (by decide)]
  · have h1' : rchP c r p < c (r + 1) y := by rw [fa_lt']; rw [fa_le'] at h1; omega
    rw [if_pos h1', if_pos rfl, if_neg h1, if_neg (by decide)]
theorem zX5_slipsIn_pos {n : Nat} {c u : MU} {r Y P y p a : Nat} (hI : RInv c r Y P) (hM : MX c r u) (hy : y < 5) (hp : p < 7) (hn : 10 ≤ n) (ha : a < 7) : zX5_slipsIn n u (nI y) (nI p) (nI a) = some (if whyN c r Y y p = -9 then (if gb c r a p = 1 then 3 else -1) else whyN c r Y y p) := by
  unfold zX5_slipsIn whyN
  rw [zX5_doesReach_eq hI hM hy hp, Option.bind_some]
  by_cases h1 : c (r + 1) y ≤ rchP c r p
  · rw [if_neg (nlt_le.mpr h1), if_neg (by decide), if_pos h1, zX5_doesHold_eq hI hM hy hp hn, Option.bind_some]
    by_cases h2 : mx (ldR c r Y y) (ldR c r Y (y + 1)) ≤ hldP c r p
    · rw [if_pos h2, if_neg (by decide), if_neg (nI_pos (by omega)), if_pos h2, if_pos rfl, ix7, oob_no (show 7 * p + a < 49 by omega) (by omega), tn_nI (by omega), hM.2.2.2.2.2 p a hp ha, (hI.2.2.2.2.2.2.1 p a hp ha).1]
      simp only [Bool.false_eq_true, if_false, so_if]
    · rw [if_neg h2, if_pos rfl, if_neg h2, if_neg (by decide)]
  · have h1' : rchP c r p < c (r + 1) y := by rw [fa_lt']; rw [fa_le'] at h1; omega
    rw [if_pos h1', if_pos rfl, if_neg h1, if_neg (by decide)]
/-- a row of who stands in the yards: each nobody or one of the people -/
def chn (Y P : Nat) (h : Nat → Int32) : Prop := ∀ j, j < Y → h j = -9 ∨ ∃ p, p < P ∧ h j = nI p
theorem whyN_ne {c : MU} {r Y y p : Nat} : ¬ whyN c r Y y p = -1 := by
  unfold whyN
  by_cases h1 : c (r + 1) y ≤ rchP c r p
  · rw [if_pos h1]
    by_cases h2 : mx (ldR c r Y y) (ldR c r Y (y + 1)) ≤ hldP c r p
    · rw [if_pos h2]; decide
    · rw [if_neg h2]; decide
  · rw [if_neg h1]; decide
theorem whyS_m9 {c : MU} {r Y P : Nat} {h : Nat → Int32} {j : Nat} (e : h j = -9) : whyS c r Y P h j = 0 := by
  unfold whyS
  rw [if_neg]
  rw [e]
  rintro ⟨z, -⟩
  exact absurd z (by decide)
/-- the model's step of findSlip at a yard, said by whyS -/
theorem slip_step {n : Nat} {c u : MU} {r Y P j : Nat} {X : Int32 → Option MU} (hI : RInv c r Y P) (hM : MX c r u) (hc : chn Y P (u 57)) (hj : j < Y) (hn : 10 ≤ n) :
    (if oob (nI j) 5 = true then none else if 0 ≤ u 57 (nI j).toNatClampNeg then (if oob (nI j) 5 = true then none else if nI j ≤ 0 then (zX5_slipsIn n u (nI j) (u 57 (nI j).toNatClampNeg) (-9)).bind X else if oob (nI j - 1) 5 = true then none else (zX5_slipsIn n u (nI j) (u 57 (nI j).toNatClampNeg) (u 57 (nI j - 1).toNatClampNeg)).bind X) else X 0) = X (if whyS c r Y P (u 57) j = -9 then -1 else whyS c r Y P (u 57) j) := by
  obtain ⟨⟨hY1, hY5, hP7, -⟩, -⟩ := id hI
  rw [oob_no (show j < 5 by omega) (by omega), tn_nI (by omega)]
  simp only [Bool.false_eq_true, if_false]
  rcases hc j hj with e | ⟨p, hp, e⟩
  · rw [e, if_neg (by decide), whyS_m9 e, if_neg (by decide)]
  · rw [e, if_pos (nI_pos' (by omega))]
    have hin : 0 ≤ u 57 j ∧ u 57 j < nI P := (inP_iff hP7).mpr ⟨p, hp, e⟩
    unfold whyS
    rw [if_pos hin, e, tn_nI (show p < 2147483648 by omega)]
    by_cases h0 : j = 0
    · subst h0
      rw [if_pos (by rw [nI_0]; decide), zX5_slipsIn_neg hI hM (by omega) (by omega) hn (by decide), Option.bind_some]
      by_cases hw : whyN c r Y 0 p = -9
      · rw [if_pos hw, if_pos hw, if_pos rfl, if_pos rfl]
      · rw [if_neg hw, if_neg hw, if_neg hw]
    · obtain ⟨i, rfl⟩ : ∃ i, j = i + 1 := ⟨j - 1, by omega⟩
      rw [if_neg (nI_nle (by omega) (by omega)), nI_m1, oob_no (show i < 5 by omega) (by omega), tn_nI (show i < 2147483648 by omega), Nat.add_sub_cancel, if_neg h0]
      simp only [Bool.false_eq_true, if_false]
      rcases hc i (by omega) with e2 | ⟨p2, hp2, e2⟩
      · rw [e2, zX5_slipsIn_neg hI hM (by omega) (by omega) hn (by decide), Option.bind_some]
        have hno : ¬ (0 ≤ (-9 : Int32) ∧ (-9 : Int32) < nI P) := fun z => absurd z.1 (by decide)
        rw [if_neg hno]
        by_cases hw : whyN c r Y (i + 1) p = -9
        · rw [if_pos hw, if_pos hw, if_pos rfl]
        · rw [if_neg hw, if_neg hw, if_neg hw]
      · rw [e2, zX5_slipsIn_pos hI hM (by omega) (by omega) hn (by omega), Option.bind_some]
        have hin2 : 0 ≤ nI p2 ∧ nI p2 < nI P := ⟨nI_pos' (by omega), nI_lt hp2 (by omega)⟩
        rw [if_pos hin2, tn_nI (show p2 < 2147483648 by omega)]
        by_cases hw : whyN c r Y (i + 1) p = -9
        · rw [if_pos hw, if_pos hw]
          by_cases hg : gb c r p2 p = 1
          · simp [hg]
          · simp [hg]
        · rw [if_neg hw, if_neg hw, if_neg hw]
