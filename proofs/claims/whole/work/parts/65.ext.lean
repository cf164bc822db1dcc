/-! ===== the class's mind: masks, weigh, extend, thinkOf ===== -/
theorem nI_and (a b : Nat) : nI a &&& nI b = nI (a &&& b) := by
  apply Int32.toBitVec_inj.1
  rw [Int32.toBitVec_and]
  show BitVec.ofNat 32 a &&& BitVec.ofNat 32 b = BitVec.ofNat 32 (a &&& b)
  exact BitVec.ofNat_and.symm
theorem bt_and1 : ∀ g, g < 128 → ∀ p, p < 7 → (nI g &&& (1 <<< (nI p &&& 31)) = 0 ↔ ¬ g.testBit p = true) := by decide +kernel
theorem bt_clr : ∀ g, g < 128 → ∀ p, p < 7 → nI g &&& ((1 <<< (nI p &&& 31)) ^^^ (-1)) = nI (g &&& (127 ^^^ 2 ^ p)) ∧ g &&& (127 ^^^ 2 ^ p) < 128 := by decide +kernel
theorem bt_clr_t : ∀ g, g < 128 → ∀ p, p < 7 → ∀ q, q < 7 → ((g &&& (127 ^^^ 2 ^ p)).testBit q = true ↔ g.testBit q = true ∧ ¬ p = q) := by decide +kernel
def MK (C : Nat → Prop) (g j : Nat) : Prop := g < 128 ∧ ∀ q, q < 7 → (g.testBit q = true ↔ q < j ∧ C q)
theorem MK_0 {C : Nat → Prop} : MK C 0 0 := ⟨by omega, fun q hq => by
  rw [Nat.zero_testBit]
  constructor
  · intro z; exact absurd z (by decide)
  · intro z; omega⟩
theorem MK_in {C : Nat → Prop} {g j : Nat} (h : MK C g j) (hj : j < 7) (hC : C j) : nI g ||| (1 <<< (nI j &&& 31)) = nI (g ||| 2 ^ j) ∧ MK C (g ||| 2 ^ j) (j + 1) := by
  refine ⟨(bt_or g h.1 j hj).1, (bt_or g h.1 j hj).2, fun q hq => ?_⟩
  rw [bt_or_t g h.1 j hj q hq, h.2 q hq]
  constructor
  · rintro (⟨a, b⟩ | rfl)
    · exact ⟨by omega, b⟩
    · exact ⟨by omega, hC⟩
  · rintro ⟨a, b⟩
    by_cases e : q = j
    · exact Or.inr e
    · exact Or.inl ⟨by omega, b⟩
theorem MK_out {C : Nat → Prop} {g j : Nat} (h : MK C g j) (hC : ¬ C j) : MK C g (j + 1) := by
  refine ⟨h.1, fun q hq => ?_⟩
  rw [h.2 q hq]
  constructor
  · rintro ⟨a, b⟩
    exact ⟨by omega, b⟩
  · rintro ⟨a, b⟩
    by_cases e : q = j
    · rw [e] at b; exact absurd b hC
    · exact ⟨by omega, b⟩
theorem notOver_L {n : Nat} {c : MU} {r P : Nat} {k : Int32 → Int32 → Option Int32} (hP : c r 3 = nI P) (hP7 : P ≤ 7) :
    ∀ (d j m g : Nat), j + d = P → d < m → MK (fun q => c (r + 7 + q) 5 = 0) g j → ∃ g', MK (fun q => c (r + 7 + q) 5 = 0) g' P ∧ zX3_notOver_L4 n c r k m (nI g) (nI j) = k (nI g') (nI P) := by
  intro d
  induction d with
  | zero =>
    intro j m g hj hm hg
    obtain ⟨m, rfl⟩ : ∃ e, m = e + 1 := ⟨m - 1, by omega⟩
    obtain rfl : j = P := by omega
    refine ⟨g, hg, ?_⟩
    rw [zX3_notOver_L4, hP, if_pos (nI_le (Nat.le_refl _) (by omega))]
  | succ d ih =>
    intro j m g hj hm hg
    obtain ⟨m, rfl⟩ : ∃ e, m = e + 1 := ⟨m - 1, by omega⟩
    rw [zX3_notOver_L4, hP, if_neg (by rw [le_nI (by omega) (by omega)]; omega), oob_no (show j < 7 by omega) (by omega), tn_nI (by omega), nI_1]
    simp only [Bool.false_eq_true, if_false, letb]
    by_cases q : c (r + 7 + j) 5 = 0
    · obtain ⟨e1, e2⟩ := MK_in hg (show j < 7 by omega) q
      rw [if_pos q, e1]
      exact ih (j + 1) m _ (by omega) (by omega) e2
    · rw [if_neg q]
      exact ih (j + 1) m _ (by omega) (by omega) (MK_out hg q)
theorem zX3_notOver_eq {n : Nat} {c : MU} {r P : Nat} (hP : c r 3 = nI P) (hP7 : P ≤ 7) (hn : 20 ≤ n) : ∃ g, MK (fun q => c (r + 7 + q) 5 = 0) g P ∧ zX3_notOver n c r = some (nI g) := by
  unfold zX3_notOver
  obtain ⟨g, h1, h2⟩ := notOver_L (n := n) (c := c) (r := r) (k := fun y5 y6 => some y5) hP hP7 P 0 n 0 (by omega) (by omega) MK_0
  rw [nI_0] at h2
  exact ⟨g, h1, h2⟩
theorem ableIn_L {n : Nat} {c : MU} {r Y P y : Nat} {k : Int32 → Int32 → Option Int32} (hY : c r 0 = nI Y) (hY5 : Y ≤ 5) (hP : c r 3 = nI P) (hP7 : P ≤ 7) (hy : y < 5) (hn : 20 ≤ n) :
    ∀ (d j m g : Nat), j + d = P → d < m → MK (fun q => whyN c r Y y q = -9) g j → ∃ g', MK (fun q => whyN c r Y y q = -9) g' P ∧ zX1_ableIn_L5 n c r (nI y) k m (nI g) (nI j) = k (nI g') (nI P) := by
  intro d
  induction d with
  | zero =>
    intro j m g hj hm hg
    obtain ⟨m, rfl⟩ : ∃ e, m = e + 1 := ⟨m - 1, by omega⟩
    obtain rfl : j = P := by omega
    refine ⟨g, hg, ?_⟩
    rw [zX1_ableIn_L5, hP, if_pos (nI_le (Nat.le_refl _) (by omega))]
  | succ d ih =>
    intro j m g hj hm hg
    obtain ⟨m, rfl⟩ : ∃ e, m = e + 1 := ⟨m - 1, by omega⟩
    rw [zX1_ableIn_L5, hP, if_neg (by rw [le_nI (by omega) (by omega)]; omega), zX3_whyNot_eq hY hY5 hy (by omega) (by omega), Option.bind_some, nI_1]
    simp only [letb]
    by_cases q : whyN c r Y y j = -9
    · obtain ⟨e1, e2⟩ := MK_in hg (show j < 7 by omega) q
      rw [if_pos q, e1]
      exact ih (j + 1) m _ (by omega) (by omega) e2
    · rw [if_neg q]
      exact ih (j + 1) m _ (by omega) (by omega) (MK_out hg q)
theorem zX1_ableIn_eq {n : Nat} {c : MU} {r Y P y : Nat} (hY : c r 0 = nI Y) (hY5 : Y ≤ 5) (hP : c r 3 = nI P) (hP7 : P ≤ 7) (hy : y < 5) (hn : 20 ≤ n) : ∃ g, MK (fun q => whyN c r Y y q = -9) g P ∧ zX1_ableIn n c r (nI y) = some (nI g) := by
  unfold zX1_ableIn
  obtain ⟨g, h1, h2⟩ := ableIn_L (n := n) (c := c) (r := r) (k := fun y6 y7 => some y6) hY hY5 hP hP7 hy hn P 0 n 0 (by omega) (by omega) MK_0
  rw [nI_0] at h2
  exact ⟨g, h1, h2⟩
/-! weigh -/
abbrev Row3 : Type := (Nat → Int32) × (Nat → Int32) × (Nat → Int32)
def R3 (u : MU) : Row3 := (u 45, u 49, u 50)
def ub (f : Nat → Int32) (i : Nat) (x : Int32) : Nat → Int32 := fun j => if j = i then x else f j
theorem ub_s {f : Nat → Int32} {i : Nat} {x : Int32} : ub f i x i = x := by simp [ub]
theorem ub_n {f : Nat → Int32} {i j : Nat} {x : Int32} (h : j ≠ i) : ub f i x j = f j := by simp [ub, h]
theorem up2_ub {u : MU} {k j : Nat} {x : Int32} : up2 u k j x k = ub (u k) j x := by
  funext b
  by_cases e : b = j
  · subst e; rw [up2_s, ub_s]
  · rw [up2_i e, ub_n e]
theorem setH_ub {u : MU} {k j : Nat} {x : Int32} {s : Nat → Int32} : up2 (setH u k s) k j x = setH u k (ub s j x) := by
  funext a b
  by_cases e : a = k
  · subst e
    rw [up2_ub, setH_in, setH_in]
  · rw [up2_o e, setH_o e, setH_o e]
def W50 (h : Nat → Int32) : Nat → Nat → (Nat → Int32) → (Nat → Int32)
  | 0, _, s => s
  | d + 1, j, s => W50 h d (j + 1) (ub s (h j).toNatClampNeg (s (h j).toNatClampNeg ||| (1 <<< (nI j &&& 31))))
theorem W50_cg {h h' : Nat → Int32} : ∀ (d j : Nat) (s : Nat → Int32), (∀ i, j ≤ i → i < j + d → h i = h' i) → W50 h d j s = W50 h' d j s := by
  intro d
  induction d with
  | zero => intro j s _; rfl
  | succ d ih =>
    intro j s e
    simp only [W50]
    rw [e j (Nat.le_refl _) (by omega)]
    exact ih (j + 1) _ (fun i h1 h2 => e i (by omega) (by omega))
def Wt (Y : Nat) (h : Nat → Int32) (g l : Int32) (R : Row3) : Row3 :=
  if g ≤ 0 then (if R.1 3 = 0 ∨ R.1 4 < l then (ub (ub R.1 4 l) 3 (R.1 3 + 1), (fun i => if i < Y then h i else R.2.1 i), W50 h Y 0 R.2.2) else (ub R.1 3 (R.1 3 + 1), R.2.1, W50 h Y 0 R.2.2)) else R
def Wg (Y : Nat) (h : Nat → Int32) (g l : Int32) (R : Row3) : Row3 := Wt Y h g l (if R.1 6 = -9 ∨ g < R.1 6 then (ub R.1 6 g, R.2.1, R.2.2) else R)
theorem Wt_cg {Y : Nat} {h h' : Nat → Int32} {g l : Int32} {R : Row3} (e : ∀ i, i < Y → h i = h' i) : Wt Y h g l R = Wt Y h' g l R := by
  have e1 : (fun i => if i < Y then h i else R.2.1 i) = (fun i => if i < Y then h' i else R.2.1 i) := by
    funext i
    by_cases q : i < Y
    · rw [if_pos q, if_pos q, e i q]
    · rw [if_neg q, if_neg q]
  unfold Wt
  rw [e1, W50_cg Y 0 R.2.2 (fun i _ hi => e i (by omega))]
theorem L74_eq {n Y : Nat} {v : MU} (hY : Y ≤ 5) (h46 : ∀ i, i < Y → ∃ p, p < 7 ∧ v 46 i = nI p) :
    ∀ (d j m : Nat) (s : Nat → Int32), j + d = Y → d < m → zX1_weigh_L74 n (nI Y) (fun _ w => some w) m (nI j) (setH v 50 s) = some (setH v 50 (W50 (v 46) d j s)) := by
  intro d
  induction d with
  | zero =>
    intro j m s hj hm
    obtain ⟨m, rfl⟩ : ∃ e, m = e + 1 := ⟨m - 1, by omega⟩
    obtain rfl : j = Y := by omega
    rw [zX1_weigh_L74, if_pos (nI_le (Nat.le_refl _) (by omega))]
    rfl
  | succ d ih =>
    intro j m s hj hm
    obtain ⟨m, rfl⟩ : ∃ e, m = e + 1 := ⟨m - 1, by omega⟩
    obtain ⟨p, hp, e⟩ := h46 j (by omega)
    rw [zX1_weigh_L74, if_neg (by rw [le_nI (by omega) (by omega)]; omega), oob_no (show j < 5 by omega) (by omega), tn_nI (show j < 2147483648 by omega), setH_o (show (46 : Nat) ≠ 50 by decide), e, oob_no hp (by omega), tn_nI (show p < 2147483648 by omega), setH_in, nI_1]
    simp only [Bool.false_eq_true, if_false, letb, W50]
    rw [setH_ub, ih (j + 1) m _ (by omega) (by omega), e, tn_nI (show p < 2147483648 by omega)]
theorem wt_go {n Y : Nat} {v u : MU} {R : Row3} (hY : Y ≤ 5) (hn : 20 ≤ n) (h46 : ∀ i, i < Y → ∃ p, p < 7 ∧ v 46 i = nI p) (hk : ∀ k, k ≠ 45 → k ≠ 49 → v k = u k) (hR : R = (v 45, v 49, W50 (u 46) Y 0 (u 50))) : ∃ u', zX1_weigh_L74 n (nI Y) (fun _ w => some w) n 0 v = some u' ∧ (∀ k, k ≠ 45 → k ≠ 49 → k ≠ 50 → u' k = u k) ∧ R3 u' = R := by
  have h := L74_eq (n := n) hY h46 Y 0 n (v 50) (by omega) (by omega)
  rw [setH_self rfl, nI_0] at h
  refine ⟨_, h, fun k a b d => by rw [setH_o d]; exact hk k a b, ?_⟩
  unfold R3
  rw [setH_in, setH_o (by decide), setH_o (by decide), hR, hk 46 (by decide) (by decide), hk 50 (by decide) (by decide)]
theorem wt_eq {n Y : Nat} {u : MU} {g l : Int32} (hY : Y ≤ 5) (hn : 20 ≤ n) (h46 : ∀ i, i < Y → ∃ p, p < 7 ∧ u 46 i = nI p) :
    ∃ u', (if g ≤ 0 then (if (u 45 3) = 0 then (letb (up2 u 45 4 l) (fun u5 => if nI Y < 0 ∨ 5 < (nI Y).toNatClampNeg ∨ 5 < (nI Y).toNatClampNeg then none else letb (upc u5 46 49 0 0 (nI Y).toNatClampNeg) (fun u7 => letb (up2 u7 45 3 ((u7 45 3) + 1)) (fun u8 => zX1_weigh_L74 n (nI Y) (fun y14 w15 => some w15) n 0 u8)))) else (if l ≤ (u 45 4) then (letb (up2 u 45 3 ((u 45 3) + 1)) (fun u17 => zX1_weigh_L74 n (nI Y) (fun y18 w19 => some w19) n 0 u17)) else (letb (up2 u 45 4 l) (fun u20 => if nI Y < 0 ∨ 5 < (nI Y).toNatClampNeg ∨ 5 < (nI Y).toNatClampNeg then none else letb (upc u20 46 49 0 0 (nI Y).toNatClampNeg) (fun u22 => letb (up2 u22 45 3 ((u22 45 3) + 1)) (fun u23 => zX1_weigh_L74 n (nI Y) (fun y24 w25 => some w25) n 0 u23)))))) else (some u)) = some u' ∧ (∀ k, k ≠ 45 → k ≠ 49 → k ≠ 50 → u' k = u k) ∧ R3 u' = Wt Y (u 46) g l (R3 u) := by
  have hno : ¬ (nI Y < 0 ∨ 5 < (nI Y).toNatClampNeg ∨ 5 < (nI Y).toNatClampNeg) := by
    rw [tn_nI (by omega)]
    rintro (a | a | a)
    · exact nI_pos (by omega) a
    · omega
    · omega
  simp only [letb]
  rw [if_neg hno, tn_nI (show Y < 2147483648 by omega)]
  unfold Wt
  have e45 : (R3 u).1 = u 45 := rfl
  have e49 : (R3 u).2.1 = u 49 := rfl
  have e50 : (R3 u).2.2 = u 50 := rfl
  rw [e45, e49, e50]
  by_cases hg : g ≤ 0
  · rw [if_pos hg, if_pos hg]
    have hk : ∀ k, k ≠ 45 → k ≠ 49 → up2 (upc (up2 u 45 4 l) 46 49 0 0 Y) 45 3 (upc (up2 u 45 4 l) 46 49 0 0 Y 45 3 + 1) k = u k := fun k a b => by
      rw [up2_o a]
      funext i
      rw [upc_at, if_neg (by omega), up2_o a]
    have eu : upc (up2 u 45 4 l) 46 49 0 0 Y 45 = ub (u 45) 4 l := by
      funext i
      rw [upc_at, if_neg (by omega), up2_ub]
    have hR : ((ub (ub (u 45) 4 l) 3 (u 45 3 + 1), (fun i => if i < Y then u 46 i else u 49 i), W50 (u 46) Y 0 (u 50)) : Row3) = (up2 (upc (up2 u 45 4 l) 46 49 0 0 Y) 45 3 (upc (up2 u 45 4 l) 46 49 0 0 Y 45 3 + 1) 45, up2 (upc (up2 u 45 4 l) 46 49 0 0 Y) 45 3 (upc (up2 u 45 4 l) 46 49 0 0 Y 45 3 + 1) 49, W50 (u 46) Y 0 (u 50)) := by
      have e1 : up2 (upc (up2 u 45 4 l) 46 49 0 0 Y) 45 3 (upc (up2 u 45 4 l) 46 49 0 0 Y 45 3 + 1) 45 = ub (ub (u 45) 4 l) 3 (u 45 3 + 1) := by
        rw [up2_ub, eu, ub_n (show (3 : Nat) ≠ 4 by decide)]
      have e2 : up2 (upc (up2 u 45 4 l) 46 49 0 0 Y) 45 3 (upc (up2 u 45 4 l) 46 49 0 0 Y 45 3 + 1) 49 = (fun i => if i < Y then u 46 i else u 49 i) := by
        rw [up2_o (by decide)]
        funext i
        rw [upc_at]
        by_cases q : i < Y
        · rw [if_pos ⟨rfl, q⟩, if_pos q, up2_o (by decide)]
        · rw [if_neg (fun z => q z.2), if_neg q, up2_o (by decide)]
      rw [e1, e2]
    have h46' : ∀ i, i < Y → ∃ p, p < 7 ∧ up2 (upc (up2 u 45 4 l) 46 49 0 0 Y) 45 3 (upc (up2 u 45 4 l) 46 49 0 0 Y 45 3 + 1) 46 i = nI p := fun i hi => by
      rw [hk 46 (by decide) (by decide)]; exact h46 i hi
    by_cases h3 : u 45 3 = 0
    · rw [if_pos h3, if_pos (Or.inl h3)]
      exact wt_go hY hn h46' hk hR
    · rw [if_neg h3]
      by_cases h4 : l ≤ u 45 4
      · rw [if_pos h4, if_neg (by
          rintro (z | z)
          · exact h3 z
          · exact nlt_le.mpr h4 z)]
        refine wt_go hY hn (fun i hi => by rw [up2_o (by decide)]; exact h46 i hi) (fun k a b => up2_o a) ?_
        rw [up2_ub, up2_o (show (49 : Nat) ≠ 45 by decide)]
      · rw [if_neg h4, if_pos (Or.inr (by rw [fa_lt']; rw [fa_le'] at h4; omega))]
        exact wt_go hY hn h46' hk hR
  · rw [if_neg hg, if_neg hg]
    exact ⟨u, rfl, fun _ _ _ _ => rfl, rfl⟩
theorem weigh_eq {n Y : Nat} {u : MU} {g l : Int32} (hY : Y ≤ 5) (hn : 20 ≤ n) (h46 : ∀ i, i < Y → ∃ p, p < 7 ∧ u 46 i = nI p) :
    ∃ u', zX1_weigh n u (nI Y) g l = some u' ∧ (∀ k, k ≠ 45 → k ≠ 49 → k ≠ 50 → u' k = u k) ∧ R3 u' = Wg Y (u 46) g l (R3 u) := by
  have e6 : (R3 u).1 6 = u 45 6 := rfl
  have hR2 : R3 (up2 u 45 6 g) = (ub (R3 u).1 6 g, (R3 u).2.1, (R3 u).2.2) := by
    unfold R3
    rw [up2_ub, up2_o (show (49 : Nat) ≠ 45 by decide), up2_o (show (50 : Nat) ≠ 45 by decide)]
  have hup : ∃ u', (if g ≤ 0 then (if (up2 u 45 6 g 45 3) = 0 then (letb (up2 (up2 u 45 6 g) 45 4 l) (fun u5 => if nI Y < 0 ∨ 5 < (nI Y).toNatClampNeg ∨ 5 < (nI Y).toNatClampNeg then none else letb (upc u5 46 49 0 0 (nI Y).toNatClampNeg) (fun u7 => letb (up2 u7 45 3 ((u7 45 3) + 1)) (fun u8 => zX1_weigh_L74 n (nI Y) (fun y14 w15 => some w15) n 0 u8)))) else (if l ≤ (up2 u 45 6 g 45 4) then (letb (up2 (up2 u 45 6 g) 45 3 ((up2 u 45 6 g 45 3) + 1)) (fun u17 => zX1_weigh_L74 n (nI Y) (fun y18 w19 => some w19) n 0 u17)) else (letb (up2 (up2 u 45 6 g) 45 4 l) (fun u20 => if nI Y < 0 ∨ 5 < (nI Y).toNatClampNeg ∨ 5 < (nI Y).toNatClampNeg then none else letb (upc u20 46 49 0 0 (nI Y).toNatClampNeg) (fun u22 => letb (up2 u22 45 3 ((u22 45 3) + 1)) (fun u23 => zX1_weigh_L74 n (nI Y) (fun y24 w25 => some w25) n 0 u23)))))) else (some (up2 u 45 6 g))) = some u' ∧ (∀ k, k ≠ 45 → k ≠ 49 → k ≠ 50 → u' k = u k) ∧ R3 u' = Wt Y (u 46) g l (ub (R3 u).1 6 g, (R3 u).2.1, (R3 u).2.2) := by
    obtain ⟨u', h1, h2, h3⟩ := wt_eq (n := n) (u := up2 u 45 6 g) (g := g) (l := l) hY hn (fun i hi => by rw [up2_o (by decide)]; exact h46 i hi)
    rw [hR2, up2_o (show (46 : Nat) ≠ 45 by decide)] at h3
    exact ⟨u', h1, fun k a b d => by rw [h2 k a b d, up2_o a], h3⟩
  unfold zX1_weigh Wg
  rw [e6]
  by_cases h6 : u 45 6 = -9
  · rw [if_pos h6, if_pos (Or.inl h6)]
    exact hup
  · rw [if_neg h6]
    by_cases hl : u 45 6 ≤ g
    · have hno : ¬ (u 45 6 = -9 ∨ g < u 45 6) := fun z => z.elim h6 (fun w => nlt_le.mpr hl w)
      rw [if_pos hl, if_neg hno]
      exact wt_eq hY hn h46
    · rw [if_neg hl, if_pos (Or.inr (by rw [fa_lt']; rw [fa_le'] at hl; omega))]
      exact hup
