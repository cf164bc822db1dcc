/-! ===== findSlip, doesStand, lastsNow of the model ===== -/
theorem MX_up {c u : MU} {r j : Nat} {v : Int32} (h : MX c r u) (h1 : j ≠ 12) (h2 : j ≠ 13) (h3 : j ≠ 14) (h4 : j ≠ 15) : MX c r (up2 u 53 j v) := by
  obtain ⟨⟨a1, a2, a3, a4⟩, b1, b2, b3, b4, b5⟩ := h
  have o : ∀ k, k ≠ 53 → up2 u 53 j v k = u k := fun k hk => up2_o hk
  have i : ∀ b, b ≠ j → up2 u 53 j v 53 b = u 53 b := fun b hb => up2_i hb
  refine ⟨⟨by rw [i 12 (Ne.symm h1)]; exact a1, by rw [i 13 (Ne.symm h2)]; exact a2, by rw [i 14 (Ne.symm h3)]; exact a3, by rw [i 15 (Ne.symm h4)]; exact a4⟩, by rw [o 55 (by decide)]; exact b1, by rw [o 56 (by decide)]; exact b2, by rw [o 65 (by decide)]; exact b3, fun p hp => ?_, fun a b ha hb => by rw [o 64 (by decide)]; exact b5 a b ha hb⟩
  rw [o 58 (by decide), o 59 (by decide), o 60 (by decide), o 61 (by decide), o 62 (by decide), o 63 (by decide)]
  exact b4 p hp
def slm (w : Nat → Int32) (u : MU) : Nat → Nat → MU
  | 0, _ => u
  | d + 1, j => if w j = -9 then slm w u d (j + 1) else up2 (up2 u 53 27 (nI j)) 53 28 (w j)
def slv (w : Nat → Int32) : Nat → Nat → Int32
  | 0, _ => -9
  | d + 1, j => if w j = -9 then slv w d (j + 1) else w j
theorem whyS_ne {c : MU} {r Y P : Nat} {h : Nat → Int32} {j : Nat} : ¬ whyS c r Y P h j = -1 := by
  unfold whyS
  split
  · split
    · split
      · decide
      · split
        · split <;> decide
        · decide
    · exact whyN_ne
  · decide
theorem zX5_findSlip_L {n : Nat} {c u : MU} {r Y P : Nat} (hI : RInv c r Y P) (hM : MX c r u) (hc : chn Y P (u 57)) (h27 : u 53 27 = -9) (hn : 10 ≤ n) :
    ∀ (d j m : Nat), j + d = Y → d + 1 < m → zX5_findSlip_L14 n (fun _ w => some w) m (nI j) u = some (slm (whyS c r Y P (u 57)) u d j) := by
  have hY : u 53 12 = nI Y := hM.1.1.trans hI.1.2.2.2.1
  have hY5 := hI.1.2.1
  intro d
  induction d with
  | zero =>
    intro j m hj hm
    obtain ⟨m, rfl⟩ : ∃ e, m = e + 1 := ⟨m - 1, by omega⟩
    obtain rfl : j = Y := by omega
    rw [zX5_findSlip_L14, hY, if_pos (nI_le (Nat.le_refl _) (by omega))]
    rfl
  | succ d ih =>
    intro j m hj hm
    obtain ⟨m, rfl⟩ : ∃ e, m = e + 1 := ⟨m - 1, by omega⟩
    have hst := slip_step (n := n) (X := fun q => if q = -1 then zX5_findSlip_L14 n (fun _ w => some w) m (nI j + 1) u else letb (up2 u 53 27 (nI j)) (fun u12 => letb (up2 u12 53 28 q) (fun u13 => zX5_findSlip_L14 n (fun _ w => some w) m (nI j + 1) u13))) hI hM hc (show j < Y by omega) hn
    rw [zX5_findSlip_L14, hY, if_neg (by rw [le_nI (by omega) (by omega)]; omega), h27, if_neg (by decide)]
    refine hst.trans ?_
    simp only [slm]
    by_cases hw : whyS c r Y P (u 57) j = -9
    · rw [if_pos hw, if_pos rfl, if_pos hw, nI_1]
      exact ih (j + 1) m (by omega) (by omega)
    · rw [if_neg hw, if_neg whyS_ne, if_neg hw]
      simp only [letb]
      obtain ⟨m, rfl⟩ : ∃ e, m = e + 1 := ⟨m - 1, by omega⟩
      rw [zX5_findSlip_L14]
      by_cases hx : (up2 (up2 u 53 27 (nI j)) 53 28 (whyS c r Y P (u 57) j)) 53 12 ≤ nI j + 1
      · rw [if_pos hx]
      · rw [if_neg hx, if_pos]
        rw [up2_i (by decide), up2_s]
        exact nI_pos' (by omega)
theorem slm_o {w : Nat → Int32} {u : MU} {k : Nat} (hk : k ≠ 53) : ∀ (d j : Nat), slm w u d j k = u k := by
  intro d
  induction d with
  | zero => intro j; rfl
  | succ d ih =>
    intro j
    simp only [slm]
    split
    · exact ih (j + 1)
    · rw [up2_o hk, up2_o hk]
theorem slm_i {w : Nat → Int32} {u : MU} {i : Nat} (h1 : i ≠ 27) (h2 : i ≠ 28) : ∀ (d j : Nat), slm w u d j 53 i = u 53 i := by
  intro d
  induction d with
  | zero => intro j; rfl
  | succ d ih =>
    intro j
    simp only [slm]
    split
    · exact ih (j + 1)
    · rw [up2_i h2, up2_i h1]
theorem slm_27 {w : Nat → Int32} {u : MU} (h : u 53 27 = -9) : ∀ (d j : Nat), slm w u d j 53 27 = fsl w d j := by
  intro d
  induction d with
  | zero => intro j; exact h
  | succ d ih =>
    intro j
    simp only [slm, fsl]
    split
    · exact ih (j + 1)
    · rw [up2_i (by decide), up2_s]
theorem slm_28 {w : Nat → Int32} {u : MU} (h : u 53 28 = -9) : ∀ (d j : Nat), slm w u d j 53 28 = slv w d j := by
  intro d
  induction d with
  | zero => intro j; exact h
  | succ d ih =>
    intro j
    simp only [slm, slv]
    split
    · exact ih (j + 1)
    · rw [up2_s]
/-- findSlip: its two numbers, nothing else -/
theorem zX5_findSlip_eq {n : Nat} {c u : MU} {r Y P : Nat} (hI : RInv c r Y P) (hM : MX c r u) (hc : chn Y P (u 57)) (hn : 10 ≤ n) :
    ∃ u', zX5_findSlip n u = some u' ∧ u' 53 27 = fsl (whyS c r Y P (u 57)) Y 0 ∧ u' 53 28 = slv (whyS c r Y P (u 57)) Y 0 ∧ (∀ k, k ≠ 53 → u' k = u k) ∧ ∀ i, i ≠ 27 → i ≠ 28 → u' 53 i = u 53 i := by
  have hY5 := hI.1.2.1
  have hM1 : MX c r (up2 (up2 u 53 27 (-9)) 53 28 (-9)) := MX_up (MX_up hM (by decide) (by decide) (by decide) (by decide)) (by decide) (by decide) (by decide) (by decide)
  have e57 : up2 (up2 u 53 27 (-9)) 53 28 (-9) 57 = u 57 := by rw [up2_o (by decide), up2_o (by decide)]
  have e27 : up2 (up2 u 53 27 (-9)) 53 28 (-9) 53 27 = -9 := by rw [up2_i (by decide), up2_s]
  have e28 : up2 (up2 u 53 27 (-9)) 53 28 (-9) 53 28 = -9 := by rw [up2_s]
  have h := zX5_findSlip_L (n := n) hI hM1 (by rw [e57]; exact hc) e27 hn Y 0 n (by omega) (by omega)
  rw [e57, nI_0] at h
  refine ⟨_, h, slm_27 e27 Y 0, slm_28 e28 Y 0, fun k hk => ?_, fun i h1 h2 => ?_⟩
  · rw [slm_o hk, up2_o hk, up2_o hk]
  · rw [slm_i h1 h2, up2_i h2, up2_i h1]
theorem zX5_doesStand_eq {n : Nat} {c u : MU} {r Y P : Nat} (hI : RInv c r Y P) (hM : MX c r u) (hc : chn Y P (u 57)) (hn : 10 ≤ n) :
    ∃ u', zX5_doesStand n u = some (if fsl (whyS c r Y P (u 57)) Y 0 = -9 then 1 else 0, u') ∧ (∀ k, k ≠ 53 → u' k = u k) ∧ ∀ i, i ≠ 27 → i ≠ 28 → u' 53 i = u 53 i := by
  obtain ⟨u', h1, h2, -, h4, h5⟩ := zX5_findSlip_eq hI hM hc hn
  refine ⟨u', ?_, h4, h5⟩
  unfold zX5_doesStand
  rw [h1, Option.bind_some, h2]
  have hall : ∀ (w : Nat → Int32) (d j : Nat), j + d < 1000 → (0 ≤ fsl w d j ↔ ¬ fsl w d j = -9) := by
    intro w d
    induction d with
    | zero => intro j hj; simp only [fsl]; constructor <;> intro h <;> exact absurd h (by decide)
    | succ d ih =>
      intro j hj
      simp only [fsl]
      split
      · exact ih (j + 1) (by omega)
      · exact ⟨fun _ => m9_ne' (by omega), fun _ => nI_pos' (by omega)⟩
  have hY5 := hI.1.2.1
  by_cases h : fsl (whyS c r Y P (u 57)) Y 0 = -9
  · rw [if_neg (fun z => (hall _ _ _ (by omega)).mp z h), if_pos h]
  · rw [if_pos ((hall _ _ _ (by omega)).mpr h), if_neg h]
/-! how long: from 99 down, or from the greatest int down -/
theorem mnt_fin : ∀ k, k < 6 → ∀ c, c < 10 → ∀ w, w < 100 → (nI w / col (nI k) (nI c) = mnt (nI k) (nI w) (nI c)) ∧ (List.range 100).any (fun m => mnt (nI k) (nI w) (nI c) == nI m) = true := by decide +kernel
theorem mntP_eq {c : MU} {r Y P p : Nat} (hI : RInv c r Y P) (hp : p < 7) : c (r + 7 + p) 4 / colP c r p = mntP c r p ∧ ∃ m, m < 100 ∧ mntP c r p = nI m := by
  obtain ⟨⟨k, hk, ek⟩, -, -, -, ⟨w, hw, ew⟩, -⟩ := hI.2.2.2.2.1 p hp
  obtain ⟨cc, hcc, ec⟩ := hI.1.2.2.2.2.2
  unfold mntP colP
  rw [ek, ew, ec]
  obtain ⟨h1, h2⟩ := mnt_fin k (by omega) cc (by omega) w (by omega)
  refine ⟨h1, ?_⟩
  obtain ⟨m, hm, e⟩ := List.any_eq_true.mp h2
  exact ⟨m, List.mem_range.mp hm, by simpa using e⟩
theorem mfold_cg {g g' : Nat → Int32} : ∀ (d j : Nat) (a : Int32), (∀ i, j ≤ i → i < j + d → g i = g' i) → mfold g d j a = mfold g' d j a := by
  intro d
  induction d with
  | zero => intro j a _; rfl
  | succ d ih =>
    intro j a h
    simp only [mfold]
    rw [h j (Nat.le_refl _) (by omega)]
    exact ih (j + 1) _ (fun i h1 h2 => h i (by omega) (by omega))
theorem zX5_lastsNow_L {n : Nat} {c u : MU} {r Y P : Nat} {k : Int32 → Int32 → Option Int32} (hI : RInv c r Y P) (hM : MX c r u) (hper : ∀ j, j < Y → ∃ p, p < 7 ∧ u 57 j = nI p) :
    ∀ (d j m : Nat) (a : Int32), j + d = Y → d < m → zX5_lastsNow_L5 n u k m a (nI j) = k (mfold (fun j => mntP c r (u 57 j).toNatClampNeg) d j a) (nI Y) := by
  have hY : u 53 12 = nI Y := hM.1.1.trans hI.1.2.2.2.1
  have hY5 := hI.1.2.1
  intro d
  induction d with
  | zero =>
    intro j m a hj hm
    obtain ⟨m, rfl⟩ : ∃ e, m = e + 1 := ⟨m - 1, by omega⟩
    obtain rfl : j = Y := by omega
    rw [zX5_lastsNow_L5, hY, if_pos (nI_le (Nat.le_refl _) (by omega))]
    rfl
  | succ d ih =>
    intro j m a hj hm
    obtain ⟨m, rfl⟩ : ∃ e, m = e + 1 := ⟨m - 1, by omega⟩
    obtain ⟨p, hp, e⟩ := hper j (by omega)
    rw [zX5_lastsNow_L5, hY, if_neg (by rw [le_nI (by omega) (by omega)]; omega), oob_no (show j < 5 by omega) (by omega), tn_nI (show j < 2147483648 by omega), e, oob_no hp (by omega), zX5_coolOf_eq hI hM hp, Option.bind_some, if_neg (colP_pos hI hp).2, tn_nI (show p < 2147483648 by omega), zX5_least_eq, Option.bind_some, nI_1, (hM.2.2.2.2.1 p hp).2.2.2.2.1, (mntP_eq hI hp).1]
    simp only [Bool.false_eq_true, if_false]
    rw [ih (j + 1) m _ (by omega) (by omega)]
    simp only [mfold, e, tn_nI (show p < 2147483648 by omega)]
theorem zX5_lastsNow_eq {n : Nat} {c u : MU} {r Y P : Nat} (hI : RInv c r Y P) (hM : MX c r u) (hper : ∀ j, j < Y → ∃ p, p < 7 ∧ u 57 j = nI p) (hn : 10 ≤ n) : zX5_lastsNow n u = some (mfold (fun j => mntP c r (u 57 j).toNatClampNeg) Y 0 2147483647) := by
  have hY5 := hI.1.2.1
  have hY1 := hI.1.1
  unfold zX5_lastsNow
  have h := zX5_lastsNow_L (n := n) (k := fun y10 y11 => some y10) hI hM hper Y 0 n 99 (by omega) (by omega)
  rw [nI_0] at h
  rw [h]
  obtain ⟨d, rfl⟩ : ∃ d, Y = d + 1 := ⟨Y - 1, by omega⟩
  simp only [mfold]
  obtain ⟨p, hp, e⟩ := hper 0 (by omega)
  obtain ⟨m, hm, em⟩ := (mntP_eq hI hp).2
  rw [e, tn_nI (by omega), em]
  have e1 : mn 99 (nI m) = nI m := by
    unfold mn
    by_cases hc : nI m < 99
    · rw [if_pos hc]
    · rw [if_neg hc]
      rw [show (99 : Int32) = nI 99 from rfl, lt_nI (by omega) (by omega)] at hc
      rw [show (99 : Int32) = nI 99 from rfl]
      congr 1
      omega
  have e2 : mn 2147483647 (nI m) = nI m := by
    unfold mn
    rw [if_pos]
    rw [show (2147483647 : Int32) = nI 2147483647 from rfl, lt_nI (by omega) (by omega)]
    omega
  rw [e1, e2]
