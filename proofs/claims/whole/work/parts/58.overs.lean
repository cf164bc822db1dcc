/-! ===== overs and flood ===== -/
def cnt (f : Nat → Bool) : Nat → Nat
  | 0 => 0
  | k + 1 => if f k = true then cnt f k + 1 else cnt f k
theorem cntI_cnt {f : Nat → Bool} : ∀ (k : Nat), cntI f k = nI (cnt f k) := by
  intro k
  induction k with
  | zero => rfl
  | succ k ih =>
    simp only [cntI, cnt]
    by_cases h : f k = true
    · rw [if_pos h, if_pos h, ih, nI_1]
    · rw [if_neg h, if_neg h, ih]
theorem cnt_all {f : Nat → Bool} : ∀ (k : Nat), (∀ i, i < k → f i = true) → cnt f k = k := by
  intro k
  induction k with
  | zero => intro _; rfl
  | succ k ih =>
    intro h
    simp only [cnt]
    rw [if_pos (h k (by omega)), ih (fun i hi => h i (by omega))]
theorem pig {f : Nat → Bool} : ∀ (P Y : Nat) (w : Nat → Nat), (∀ j, j < Y → w j < P ∧ f (w j) = false) → (∀ i j, i < Y → j < Y → w i = w j → i = j) → Y + cnt f P ≤ P := by
  intro P
  induction P with
  | zero =>
    intro Y w h1 _
    by_cases hY : Y = 0
    · subst hY
      exact Nat.le_refl _
    · have := (h1 0 (by omega)).1
      omega
  | succ P ih =>
    intro Y w h1 h2
    by_cases hf : f P = true
    · have := ih Y w (fun j hj => ⟨by
        have a := (h1 j hj).1
        have b := (h1 j hj).2
        by_cases e : w j = P
        · rw [e, hf] at b
          exact absurd b (by decide)
        · omega, (h1 j hj).2⟩) h2
      simp only [cnt, if_pos hf]
      omega
    · simp only [cnt, if_neg hf]
      by_cases he : ∃ j, j < Y ∧ w j = P
      · obtain ⟨j0, hj0, e0⟩ := he
        have g1 : ∀ j, j < Y - 1 → (if j = j0 then w (Y - 1) else w j) < P ∧ f (if j = j0 then w (Y - 1) else w j) = false := by
          intro j hj
          by_cases e : j = j0
          · rw [if_pos e]
            have a := h1 (Y - 1) (by omega)
            refine ⟨?_, a.2⟩
            by_cases z : w (Y - 1) = P
            · have := h2 j0 (Y - 1) hj0 (by omega) (by rw [e0, z])
              omega
            · omega
          · rw [if_neg e]
            have a := h1 j (by omega)
            refine ⟨?_, a.2⟩
            by_cases z : w j = P
            · exact absurd (h2 j j0 (by omega) hj0 (by rw [e0, z])) e
            · omega
        have g2 : ∀ i j, i < Y - 1 → j < Y - 1 → (if i = j0 then w (Y - 1) else w i) = (if j = j0 then w (Y - 1) else w j) → i = j := by
          intro i j hi hj e
          by_cases ei : i = j0
          · by_cases ej : j = j0
            · omega
            · rw [if_pos ei, if_neg ej] at e
              have := h2 (Y - 1) j (by omega) (by omega) e
              omega
          · by_cases ej : j = j0
            · rw [if_neg ei, if_pos ej] at e
              have := h2 i (Y - 1) (by omega) (by omega) e
              omega
            · rw [if_neg ei, if_neg ej] at e
              exact h2 i j (by omega) (by omega) e
        have := ih (Y - 1) (fun j => if j = j0 then w (Y - 1) else w j) g1 g2
        omega
      · have := ih Y w (fun j hj => ⟨by
          have a := (h1 j hj).1
          by_cases z : w j = P
          · exact absurd ⟨j, hj, z⟩ he
          · omega, (h1 j hj).2⟩) h2
        omega
theorem mn_nn {a b : Int32} (ha : 0 ≤ a) (hb : 0 ≤ b) : 0 ≤ mn a b := by
  unfold mn
  by_cases h : b < a
  · rw [if_pos h]; exact hb
  · rw [if_neg h]; exact ha
theorem mfold_nn {g : Nat → Int32} : ∀ (d j : Nat) (a : Int32), 0 ≤ a → (∀ i, j ≤ i → i < j + d → 0 ≤ g i) → 0 ≤ mfold g d j a := by
  intro d
  induction d with
  | zero => intro j a h _; exact h
  | succ d ih =>
    intro j a h hg
    simp only [mfold]
    exact ih (j + 1) _ (mn_nn h (hg j (Nat.le_refl _) (by omega))) (fun i h1 h2 => hg i (by omega) (by omega))
theorem cap0 {v : Int32} (h : 0 ≤ v) : (if 0 < v then v else 0) = v := by
  by_cases q : 0 < v
  · rw [if_pos q]
  · rw [if_neg q]
    rw [fa_lt'] at q
    rw [fa_le'] at h
    exact Int32.toInt_inj.mp (by omega)
theorem mn_neg {a b : Int32} (h : a < 0) : ¬ 0 < mn a b := by
  unfold mn
  by_cases q : b < a
  · rw [if_pos q]
    rw [fa_lt'] at *
    omega
  · rw [if_neg q]
    rw [fa_lt'] at *
    omega
theorem lst_nn {c : MU} {r Y P : Nat} {h : Nat → Int32} (hI : RInv c r Y P) (hw : ∀ j, j < Y → ∃ p, p < P ∧ h j = nI p) : 0 ≤ mfold (fun j => mntP c r (h j).toNatClampNeg) Y 0 2147483647 := by
  have hP7 := hI.1.2.2.1
  refine mfold_nn Y 0 _ (by decide) (fun i _ h2 => ?_)
  obtain ⟨p, hp, e⟩ := hw i (by omega)
  obtain ⟨m, hm, em⟩ := (mntP_eq hI (show p < 7 by omega)).2
  rw [e, tn_nI (by omega), em]
  exact nI_pos' (by omega)
theorem over_room {c : MU} {r Y P : Nat} (hI : RInv c r Y P) (hw : ∀ j, j < Y → ∃ p, p < P ∧ c (r + 3) j = nI p) : inW c r Y = nI Y ∧ ∃ V, ovT c r P = nI V ∧ Y + V ≤ P := by
  have hP7 := hI.1.2.2.1
  have hY5 := hI.1.2.1
  constructor
  · unfold inW
    rw [cntI_cnt, cnt_all]
    intro i hi
    obtain ⟨p, hp, e⟩ := hw i hi
    rw [e]
    exact decide_eq_true (m9_ne' (by omega))
  · refine ⟨_, cntI_cnt P, ?_⟩
    refine pig P Y (fun j => (c (r + 3) j).toNatClampNeg) (fun j hj => ?_) (fun i j hi hj e => ?_)
    · obtain ⟨p, hp, e⟩ := hw j hj
      rcases hI.2.2.1 j (by omega) with q | ⟨-, p2, hp2, q, q2⟩
      · rw [q] at e
        exact absurd e (m9_ne (by omega))
      · show (c (r + 3) j).toNatClampNeg < P ∧ decide (c (r + 7 + (c (r + 3) j).toNatClampNeg) 5 ≠ 0) = false
        rw [q, tn_nI (by omega)]
        exact ⟨hp2, decide_eq_false (fun z => z q2)⟩
    · obtain ⟨p, hp, e1⟩ := hw i hi
      obtain ⟨p2, hp2, e2⟩ := hw j hj
      have e' : (c (r + 3) i).toNatClampNeg = (c (r + 3) j).toNatClampNeg := e
      rw [e1, e2, tn_nI (by omega), tn_nI (by omega)] at e'
      subst e'
      rcases hI.2.2.2.1 i j (by omega) (by omega) (by rw [e1, e2]) with z | z
      · rw [z] at e1
        exact absurd e1 (m9_ne (by omega))
      · exact z
theorem op_overs (n : Nat) (hn : 10 ≤ n) : OPP (fun c => zX4_overs n c) (fun u => zX5_overs n u) := by
  intro c u hI hM
  obtain ⟨⟨Y, P, hR⟩, -⟩ := id hI
  have hX := hM.1
  have hP7 := hR.1.2.2.1
  have hY5 := hR.1.2.1
  have hY := hR.1.2.2.2.1
  have hP := hR.1.2.2.2.2.1
  obtain ⟨u', f1, f4, f5⟩ := zX5_doesStand_eq (n := n) hR hX (by rw [hM.2.1]; exact who_chn hR) hn
  have hM' := MREL_sc f4 f5 hM
  have hmin := zX3_minutesOf_eq (n := n) (r := 1) (ch := 1 + 3) (cn := 5) hY hY5 hP hP7 (by omega) (by omega) hn
  have hnb := zX3_nearBank_eq (n := n) (r := 1) hY hY5 hP hP7 hn
  have hc : zX4_overs n c = some (if 0 < mn (mntR c 1 Y P (1 + 3)) (nI P - inW c 1 Y - ovT c 1 P) then mn (mntR c 1 Y P (1 + 3)) (nI P - inW c 1 Y - ovT c 1 P) else 0) := by
    unfold zX4_overs
    rw [hmin, Option.bind_some, hnb, Option.bind_some]
    rfl
  refine ⟨_, u', hc, ?_, hM'⟩
  show zX5_overs n u = _
  unfold zX5_overs
  rw [f1, Option.bind_some, hM.2.1]
  show (if (if fslR c 1 Y P (1 + 3) = -9 then (1 : Int32) else 0) = 0 then _ else _) = _
  unfold mntR
  by_cases h : fslR c 1 Y P (1 + 3) = -9
  · rw [if_pos h, if_neg (by decide), if_pos h]
    have hw : ∀ j, j < Y → ∃ p, p < P ∧ c (1 + 3) j = nI p := fs_per hP7 hY5 h
    have hp : ∀ j, j < Y → ∃ p, p < 7 ∧ u' 57 j = nI p := fun j hj => by
      rw [f4 57 (by omega), hM.2.1]
      obtain ⟨p, hp, e⟩ := hw j hj
      exact ⟨p, by omega, e⟩
    have hl := zX5_lastsNow_eq (n := n) hR hM'.1 hp hn
    rw [hM'.2.1] at hl
    have hl' : zX5_lastsNow n u' = some (lstR c 1 Y (1 + 3)) := hl
    have ho := zX5_overMany_eq (n := n) hR hM'.1 hn
    obtain ⟨e1, V, e2, hV⟩ := over_room hR hw
    rw [e1, e2, pk_sub (show Y ≤ P by omega), pk_sub (show V ≤ P - Y by omega)]
    rw [e2] at ho
    have h13 : u' 53 13 = nI P := hM'.1.1.2.1.trans hP
    have h12 : u' 53 12 = nI Y := hM'.1.1.1.trans hY
    show (zX5_lastsNow n u').bind _ = _
    rw [hl', Option.bind_some]
    show (zX5_overMany n u').bind _ = _
    rw [ho, Option.bind_some]
    show (zX5_least n u' (lstR c 1 Y (1 + 3)) ((u' 53 13 - nI V) - u' 53 12)).bind _ = _
    rw [h13, h12, pk_sub (show V ≤ P by omega), pk_sub (show Y ≤ P - V by omega), zX5_least_eq, Option.bind_some, show P - V - Y = P - Y - V by omega]
    have hl0 : 0 ≤ lstR c 1 Y (1 + 3) := lst_nn hR hw
    rw [cap0 (mn_nn hl0 (nI_pos' (by omega)))]
  · rw [if_neg h, if_pos rfl, if_neg h, if_neg (mn_neg (by decide))]
/-! flood -/
theorem mn_nI {a b : Nat} (ha : a < 2147483648) (hb : b < 2147483648) : mn (nI a) (nI b) = nI (min a b) := by
  unfold mn
  by_cases h : b < a
  · rw [if_pos (nI_lt h ha), Nat.min_eq_right (by omega)]
  · rw [if_neg (by rw [lt_nI hb ha]; exact h), Nat.min_eq_left (by omega)]
def mfN (g : Nat → Nat) : Nat → Nat → Nat → Nat
  | 0, _, a => a
  | d + 1, j, a => mfN g d (j + 1) (min a (g j))
theorem mfN_le {g : Nat → Nat} : ∀ (d j a : Nat), mfN g d j a ≤ a := by
  intro d
  induction d with
  | zero => intro j a; exact Nat.le_refl _
  | succ d ih =>
    intro j a
    simp only [mfN]
    have := ih (j + 1) (min a (g j))
    omega
theorem mfold_mfN {f : Nat → Int32} {g : Nat → Nat} : ∀ (d j a : Nat), a < 1000 → (∀ i, j ≤ i → i < j + d → g i < 1000 ∧ f i = nI (g i)) → mfold f d j (nI a) = nI (mfN g d j a) := by
  intro d
  induction d with
  | zero => intro j a _ _; rfl
  | succ d ih =>
    intro j a ha h
    obtain ⟨h1, h2⟩ := h j (Nat.le_refl _) (by omega)
    simp only [mfold, mfN]
    rw [h2, mn_nI (by omega) (by omega)]
    exact ih (j + 1) _ (by omega) (fun i q1 q2 => h i (by omega) (by omega))
def alN (g : Nat → Nat) (e : Nat) : Nat → Nat → Int32 → Int32
  | 0, _, t => t
  | d + 1, j, t => alN g e d (j + 1) (if t = 0 then 0 else if g j < e then 0 else 1)
theorem alN_0 {g : Nat → Nat} {e : Nat} : ∀ (d j : Nat), alN g e d j 0 = 0 := by
  intro d
  induction d with
  | zero => intro j; rfl
  | succ d ih => intro j; simp only [alN, if_true]; exact ih (j + 1)
theorem alN_1 {g : Nat → Nat} {e : Nat} : ∀ (d j a : Nat), e ≤ a → alN g e d j 1 = if e ≤ mfN g d j a then 1 else 0 := by
  intro d
  induction d with
  | zero =>
    intro j a h
    show (1 : Int32) = if e ≤ a then 1 else 0
    rw [if_pos h]
  | succ d ih =>
    intro j a h
    show alN g e d (j + 1) (if (1 : Int32) = 0 then 0 else if g j < e then 0 else 1) = if e ≤ mfN g d (j + 1) (min a (g j)) then 1 else 0
    rw [if_neg (by decide : ¬ (1 : Int32) = 0)]
    by_cases q : g j < e
    · have := mfN_le (g := g) d (j + 1) (min a (g j))
      rw [if_pos q, alN_0, if_neg (by omega)]
    · rw [if_neg q]
      exact ih (j + 1) (min a (g j)) (by omega)
theorem rch_rng : ∀ k, k < 6 → ∀ h, h < 10 → 0 ≤ rch (nI k) (nI h) ∧ rch (nI k) (nI h) ≤ 99 := by decide +kernel
theorem rchP_rng {c : MU} {r Y P p : Nat} (hI : RInv c r Y P) (hp : p < 7) : ∃ R, R ≤ 99 ∧ rchP c r p = nI R := by
  obtain ⟨⟨k, hk, ek⟩, -, ⟨h, hh, eh⟩, -⟩ := hI.2.2.2.2.1 p hp
  unfold rchP
  rw [ek, eh]
  exact btw_of (k := 99) (by omega) (rch_rng k (by omega) h (by omega)).1 (rch_rng k (by omega) h (by omega)).2
theorem zX5_doesReach_more {n : Nat} {c u : MU} {r Y P y p e : Nat} (hI : RInv c r Y P) (hM : MX c r u) (hy : y < 5) (hp : p < 7) : zX5_doesReach n u (nI y) (nI p) (nI e) = some (if rchP c r p < c (r + 1) y + nI e then 0 else 1) := by
  unfold zX5_doesReach
  rw [zX5_reachOf_eq hI hM hp, Option.bind_some, oob_no hy (by omega), tn_nI (by omega), hM.2.1]
  simp only [Bool.false_eq_true, if_false, so_if]
def flD (c : MU) (r : Nat) (h : Nat → Int32) (j : Nat) : Nat := (rchP c r (h j).toNatClampNeg - c (r + 1) j).toNatClampNeg
theorem flD_eq {c : MU} {r Y P j : Nat} {h : Nat → Int32} (hI : RInv c r Y P) (hj : j < Y) (hs : whyS c r Y P h j = -9) : ∃ p R d, p < P ∧ h j = nI p ∧ R ≤ 99 ∧ rchP c r p = nI R ∧ d ≤ R ∧ c (r + 1) j = nI d ∧ flD c r h j = R - d ∧ rchP c r p - c (r + 1) j = nI (R - d) := by
  have hP7 := hI.1.2.2.1
  have hY5 := hI.1.2.1
  obtain ⟨p, hp, e⟩ := whyS_per hP7 hs
  obtain ⟨R, hR, eR⟩ := rchP_rng hI (show p < 7 by omega)
  obtain ⟨d, hd, ed⟩ := (hI.2.1 j (by omega)).1
  have hle : d ≤ R := by
    have hin : 0 ≤ h j ∧ h j < nI P := (inP_iff hP7).mpr ⟨p, hp, e⟩
    have hw : whyN c r Y j p = -9 := by
      by_cases q : whyN c r Y j p = -9
      · exact q
      · unfold whyS at hs
        rw [if_pos hin, e, tn_nI (by omega), if_neg q] at hs
        exact hs
    unfold whyN at hw
    by_cases q : c (r + 1) j ≤ rchP c r p
    · rw [eR, ed, le_nI (by omega) (by omega)] at q
      exact q
    · rw [if_neg q] at hw
      exact absurd hw (by decide)
  have es : rchP c r p - c (r + 1) j = nI (R - d) := by rw [eR, ed, pk_sub hle]
  refine ⟨p, R, d, hp, e, hR, eR, hle, ed, ?_, es⟩
  unfold flD
  rw [e, tn_nI (by omega), es, tn_nI (by omega)]
theorem zX4_flood_L {n : Nat} {c : MU} {Y P : Nat} {k : Int32 → Int32 → Option Int32} (hI : RInv c 1 Y P) (hall : ∀ j, j < Y → whyS c 1 Y P (c (1 + 3)) j = -9) :
    ∀ (d j m : Nat) (a : Int32), j + d = Y → d < m → zX4_flood_L27 n c k m a (nI j) = k (mfold (fun j => nI (flD c 1 (c (1 + 3)) j)) d j a) (nI Y) := by
  have hY5 := hI.1.2.1
  have hP7 := hI.1.2.2.1
  intro d
  induction d with
  | zero =>
    intro j m a hj hm
    obtain ⟨m, rfl⟩ : ∃ e, m = e + 1 := ⟨m - 1, by omega⟩
    obtain rfl : j = Y := by omega
    rw [zX4_flood_L27, hI.1.2.2.2.1, if_pos (nI_le (Nat.le_refl _) (by omega))]
    rfl
  | succ d ih =>
    intro j m a hj hm
    obtain ⟨m, rfl⟩ : ∃ e, m = e + 1 := ⟨m - 1, by omega⟩
    obtain ⟨p, R, dd, hp, e, hR, eR, hle, ed, ef, es⟩ := flD_eq hI (show j < Y by omega) (hall j (by omega))
    have es' : rch (c (1 + 7 + p) 0) (c (1 + 7 + p) 2) - c (1 + 1) j = nI (R - dd) := es
    rw [zX4_flood_L27, hI.1.2.2.2.1, if_neg (by rw [le_nI (by omega) (by omega)]; omega), oob_no (show j < 5 by omega) (by omega), tn_nI (show j < 2147483648 by omega), e, oob_no (show p < 7 by omega) (by omega), tn_nI (show p < 2147483648 by omega), zX2_reaches_eq, Option.bind_some, nI_1, es']
    simp only [Bool.false_eq_true, if_false, letb]
    rw [ih (j + 1) m _ (by omega) (by omega)]
    simp only [mfold, ef, mn]
theorem zX5_flood_La {n : Nat} {c u : MU} {Y P e : Nat} {k : Int32 → Int32 → Option (Int32 × MU)} (hI : RInv c 1 Y P) (hM : MX c 1 u) (h57 : u 57 = c (1 + 3)) (he : e ≤ 10) (hall : ∀ j, j < Y → whyS c 1 Y P (c (1 + 3)) j = -9) :
    ∀ (d j m : Nat) (t : Int32), j + d = Y → d < m → zX5_flood_L26 n u (nI e) k m t (nI j) = k (alN (flD c 1 (c (1 + 3))) e d j t) (nI Y) := by
  have hY : u 53 12 = nI Y := hM.1.1.trans hI.1.2.2.2.1
  have hY5 := hI.1.2.1
  have hP7 := hI.1.2.2.1
  intro d
  induction d with
  | zero =>
    intro j m t hj hm
    obtain ⟨m, rfl⟩ : ∃ e, m = e + 1 := ⟨m - 1, by omega⟩
    obtain rfl : j = Y := by omega
    rw [zX5_flood_L26, hY, if_pos (nI_le (Nat.le_refl _) (by omega))]
    rfl
  | succ d ih =>
    intro j m t hj hm
    obtain ⟨m, rfl⟩ : ∃ e, m = e + 1 := ⟨m - 1, by omega⟩
    obtain ⟨p, R, dd, hp, ep, hR, eR, hle, ed, ef, es⟩ := flD_eq hI (show j < Y by omega) (hall j (by omega))
    rw [zX5_flood_L26, hY, if_neg (by rw [le_nI (by omega) (by omega)]; omega), oob_no (show j < 5 by omega) (by omega), tn_nI (show j < 2147483648 by omega), h57, ep, nI_1]
    simp only [Bool.false_eq_true, if_false, alN]
    by_cases ht : t = 0
    · rw [if_pos ht, if_pos ht]
      exact ih (j + 1) m 0 (by omega) (by omega)
    · rw [if_neg ht, if_neg ht, zX5_doesReach_more hI hM (by omega) (by omega), Option.bind_some, eR, ed, nI_add]
      by_cases q : R < dd + e
      · rw [if_pos (nI_lt q (by omega)), if_pos rfl, if_pos (show flD c 1 (c (1 + 3)) j < e by omega)]
        exact ih (j + 1) m 0 (by omega) (by omega)
      · rw [if_neg (nI_nlt (by omega) (by omega)), if_neg (by decide), if_neg (show ¬ flD c 1 (c (1 + 3)) j < e by omega)]
        exact ih (j + 1) m 1 (by omega) (by omega)
theorem zX5_flood_Lb {n : Nat} {c u : MU} {Y P M : Nat} (hn : 10 ≤ n) (hI : RInv c 1 Y P) (hM : MX c 1 u) (h57 : u 57 = c (1 + 3)) (hall : ∀ j, j < Y → whyS c 1 Y P (c (1 + 3)) j = -9) (hMM : M = mfN (flD c 1 (c (1 + 3))) Y 0 9) :
    ∀ (f e m : Nat), e + f = M + 1 → f + 2 < m → zX5_flood_L14 n u (fun y14 y15 => if y15 = 0 then (some ((y14 - 2), u)) else (some (9, u))) m (nI e) 1 = some (nI M, u) := by
  have hM9 : M ≤ 9 := by rw [hMM]; exact mfN_le Y 0 9
  have hY5 := hI.1.2.1
  have h0 : ¬ (1 : Int32) = 0 := by decide
  intro f
  induction f with
  | zero =>
    intro e m he hm
    obtain ⟨m, rfl⟩ : ∃ e, m = e + 1 := ⟨m - 1, by omega⟩
    rw [zX5_flood_L14, if_neg h0]
    by_cases q : M = 9
    · rw [if_pos (by rw [show (10 : Int32) = nI 10 from rfl, le_nI (by omega) (by omega)]; omega), if_neg h0, q]
      rfl
    · rw [if_neg (by rw [show (10 : Int32) = nI 10 from rfl, le_nI (by omega) (by omega)]; omega)]
      have := zX5_flood_La (n := n) (k := fun y12 y13 => zX5_flood_L14 n u (fun y14 y15 => if y15 = 0 then (some ((y14 - 2), u)) else (some (9, u))) m (nI e + 1) y12) hI hM h57 (show e ≤ 10 by omega) hall Y 0 n 1 (by omega) (by omega)
      rw [nI_0] at this
      rw [this, alN_1 Y 0 9 (by omega), ← hMM, if_neg (by omega), nI_1]
      obtain ⟨m, rfl⟩ : ∃ e, m = e + 1 := ⟨m - 1, by omega⟩
      rw [zX5_flood_L14, if_pos rfl, if_pos rfl, show (2 : Int32) = nI 2 from rfl, pk_sub (by omega), show e + 1 - 2 = M by omega]
  | succ f ih =>
    intro e m he hm
    obtain ⟨m, rfl⟩ : ∃ e, m = e + 1 := ⟨m - 1, by omega⟩
    rw [zX5_flood_L14, if_neg h0, if_neg (by rw [show (10 : Int32) = nI 10 from rfl, le_nI (by omega) (by omega)]; omega)]
    have := zX5_flood_La (n := n) (k := fun y12 y13 => zX5_flood_L14 n u (fun y14 y15 => if y15 = 0 then (some ((y14 - 2), u)) else (some (9, u))) m (nI e + 1) y12) hI hM h57 (show e ≤ 10 by omega) hall Y 0 n 1 (by omega) (by omega)
    rw [nI_0] at this
    rw [this, alN_1 Y 0 9 (by omega), ← hMM, if_pos (by omega), nI_1]
    exact ih (e + 1) m (by omega) (by omega)
theorem op_flood (n : Nat) (hn : 20 ≤ n) : OPP (fun c => zX4_flood n c) (fun u => zX5_flood n u) := by
  intro c u hI hM
  obtain ⟨⟨Y, P, hR⟩, -⟩ := id hI
  have hX := hM.1
  have hP7 := hR.1.2.2.1
  have hY5 := hR.1.2.1
  have hY := hR.1.2.2.2.1
  have hP := hR.1.2.2.2.2.1
  obtain ⟨u', f1, f4, f5⟩ := zX5_doesStand_eq (n := n) hR hX (by rw [hM.2.1]; exact who_chn hR) (by omega)
  have hM' := MREL_sc f4 f5 hM
  have hfs := zX3_firstSlip_eq (n := n) (r := 1) (ch := 1 + 3) (cn := 5) hY hY5 hP hP7 (by omega) (by omega) (by omega)
  by_cases h : fslR c 1 Y P (1 + 3) = -9
  · have hall : ∀ j, j < Y → whyS c 1 Y P (c (1 + 3)) j = -9 := fun j hj => (fsl_all Y 0 (by omega)).mp h j (by omega) (by omega)
    have h1 := zX4_flood_L (n := n) (k := fun y11 y12 => some y11) hR hall Y 0 n 9 (by omega) (by omega)
    rw [nI_0] at h1
    have h2 := zX5_flood_Lb (n := n) (by omega) hR hM'.1 hM'.2.1 hall rfl (mfN (flD c 1 (c (1 + 3))) Y 0 9 + 1) 0 n (by omega) (by have := mfN_le (g := flD c 1 (c (1 + 3))) Y 0 9; omega)
    rw [nI_0] at h2
    have h3 : mfold (fun j => nI (flD c 1 (c (1 + 3)) j)) Y 0 9 = nI (mfN (flD c 1 (c (1 + 3))) Y 0 9) := mfold_mfN Y 0 9 (by omega) (fun i _ hi => by
      obtain ⟨p, R, d, -, -, hRR, -, hle, -, ef, -⟩ := flD_eq hR (show i < Y by omega) (hall i (by omega))
      exact ⟨by omega, rfl⟩)
    rw [h3] at h1
    refine ⟨nI (mfN (flD c 1 (c (1 + 3))) Y 0 9), u', ?_, ?_, hM'⟩
    · show zX4_flood n c = _
      unfold zX4_flood
      rw [hfs, Option.bind_some, if_pos h]
      exact h1
    · show zX5_flood n u = _
      unfold zX5_flood
      rw [f1, Option.bind_some, hM.2.1]
      show (if (if fslR c 1 Y P (1 + 3) = -9 then (1 : Int32) else 0) = 0 then _ else _) = _
      rw [if_pos h, if_neg (by decide)]
      exact h2
  · refine ⟨-9, u', ?_, ?_, hM'⟩
    · show zX4_flood n c = _
      unfold zX4_flood
      rw [hfs, Option.bind_some, if_neg h]
    · show zX5_flood n u = _
      unfold zX5_flood
      rw [f1, Option.bind_some, hM.2.1]
      show (if (if fslR c 1 Y P (1 + 3) = -9 then (1 : Int32) else 0) = 0 then _ else _) = _
      rw [if_neg h, if_pos rfl]
