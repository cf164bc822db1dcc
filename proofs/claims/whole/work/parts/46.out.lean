/-! ===== counts of the model; rows that are filled; out ===== -/
theorem cntI_cg {f g : Nat → Bool} : ∀ (k : Nat), (∀ i, i < k → f i = g i) → cntI f k = cntI g k := by
  intro k
  induction k with
  | zero => intro _; rfl
  | succ k ih =>
    intro h
    simp only [cntI]
    rw [h k (by omega), ih (fun i hi => h i (by omega))]
theorem zX5_wetMany_L {n : Nat} {u : MU} {Y : Nat} {k : Int32 → Int32 → Option Int32} (hY : u 53 12 = nI Y) (hY5 : Y ≤ 5) :
    ∀ (d j m : Nat), j + d = Y → d < m → zX5_wetMany_L4 n u k m (cntI (fun i => decide (¬ u 57 i < 0)) j) (nI j) = k (cntI (fun i => decide (¬ u 57 i < 0)) Y) (nI Y) := by
  intro d
  induction d with
  | zero =>
    intro j m hj hm
    obtain ⟨m, rfl⟩ : ∃ e, m = e + 1 := ⟨m - 1, by omega⟩
    obtain rfl : j = Y := by omega
    rw [zX5_wetMany_L4, hY, if_pos (nI_le (Nat.le_refl _) (by omega))]
  | succ d ih =>
    intro j m hj hm
    obtain ⟨m, rfl⟩ : ∃ e, m = e + 1 := ⟨m - 1, by omega⟩
    rw [zX5_wetMany_L4, hY, if_neg (by rw [le_nI (by omega) (by omega)]; omega), oob_no (by omega : j < 5) (by omega), tn_nI (by omega), nI_1, ← ih (j + 1) m (by omega) (by omega)]
    simp only [Bool.false_eq_true, if_false, letb, Int32.add_zero]
    by_cases hc : u 57 j < 0
    · rw [if_pos hc]
      simp [cntI, hc]
    · rw [if_neg hc]
      simp [cntI, hc]
theorem zX5_wetMany_eq {n : Nat} {c u : MU} {r Y P : Nat} (hI : RInv c r Y P) (hM : MX c r u) (h57 : u 57 = c (r + 3)) (hn : 10 ≤ n) : zX5_wetMany n u = some (inW c r Y) := by
  have hY : u 53 12 = nI Y := hM.1.1.trans hI.1.2.2.2.1
  have hY5 := hI.1.2.1
  have hP7 := hI.1.2.2.1
  unfold zX5_wetMany
  have h := zX5_wetMany_L (n := n) (u := u) (k := fun y6 y7 => some y6) hY hY5 Y 0 n (by omega) (by omega)
  rw [nI_0] at h
  refine h.trans ?_
  unfold inW
  congr 1
  apply cntI_cg
  intro i hi
  rw [h57]
  rcases who_chn hI i hi with e | ⟨p, hp, e⟩
  · rw [e]; decide
  · rw [e]
    have h1 : ¬ nI p < 0 := nI_pos (by omega)
    have h2 : ¬ nI p = -9 := m9_ne' (by omega)
    simp [h1, h2]
theorem zX5_overMany_L {n : Nat} {c u : MU} {r Y P : Nat} {k : Int32 → Int32 → Option Int32} (hI : RInv c r Y P) (hM : MX c r u) :
    ∀ (d j m : Nat), j + d = P → d < m → zX5_overMany_L4 n u k m (cntI (fun i => decide (c (r + 7 + i) 5 ≠ 0)) j) (nI j) = k (cntI (fun i => decide (c (r + 7 + i) 5 ≠ 0)) P) (nI P) := by
  have hP : u 53 13 = nI P := hM.1.2.1.trans hI.1.2.2.2.2.1
  have hP7 := hI.1.2.2.1
  intro d
  induction d with
  | zero =>
    intro j m hj hm
    obtain ⟨m, rfl⟩ : ∃ e, m = e + 1 := ⟨m - 1, by omega⟩
    obtain rfl : j = P := by omega
    rw [zX5_overMany_L4, hP, if_pos (nI_le (Nat.le_refl _) (by omega))]
  | succ d ih =>
    intro j m hj hm
    obtain ⟨m, rfl⟩ : ∃ e, m = e + 1 := ⟨m - 1, by omega⟩
    rw [zX5_overMany_L4, hP, if_neg (by rw [le_nI (by omega) (by omega)]; omega), oob_no (by omega : j < 7) (by omega), tn_nI (by omega), nI_1, ← ih (j + 1) m (by omega) (by omega), (hM.2.2.2.2.1 j (by omega)).2.2.2.2.2]
    simp only [Bool.false_eq_true, if_false, letb]
    rcases (hI.2.2.2.2.1 j (by omega)).2.2.2.2.2 with e | e
    · rw [e, Int32.add_zero]
      simp [cntI, e]
    · rw [e]
      simp [cntI, e]
theorem zX5_overMany_eq {n : Nat} {c u : MU} {r Y P : Nat} (hI : RInv c r Y P) (hM : MX c r u) (hn : 10 ≤ n) : zX5_overMany n u = some (ovT c r P) := by
  have hP7 := hI.1.2.2.1
  unfold zX5_overMany
  have h := zX5_overMany_L (n := n) (k := fun y4 y5 => some y4) hI hM P 0 n (by omega) (by omega)
  rw [nI_0] at h
  exact h
/-! a row filled from j on -/
def fl (q : Nat) (v : Int32) : Nat → Nat → MU → MU
  | 0, _, u => u
  | d + 1, j, u => fl q v d (j + 1) (up2 u q j v)
theorem fl_o {q : Nat} {v : Int32} {a : Nat} (h : a ≠ q) : ∀ (d j : Nat) (u : MU), fl q v d j u a = u a := by
  intro d
  induction d with
  | zero => intro j u; rfl
  | succ d ih => intro j u; simp only [fl]; rw [ih, up2_o h]
theorem fl_in {q : Nat} {v : Int32} {b : Nat} : ∀ (d j : Nat) (u : MU), fl q v d j u q b = if j ≤ b ∧ b < j + d then v else u q b := by
  intro d
  induction d with
  | zero => intro j u; rw [if_neg (by omega)]; rfl
  | succ d ih =>
    intro j u
    simp only [fl]
    rw [ih]
    by_cases h : b = j
    · subst h
      rw [if_neg (by omega), up2_s, if_pos (by omega)]
    · rw [up2_i h]
      by_cases h2 : j ≤ b ∧ b < j + (d + 1)
      · rw [if_pos h2, if_pos (by omega)]
      · rw [if_neg h2, if_neg (by omega)]
theorem zX3_emptyWater_L {n r : Nat} {k : Int32 → MU → Option MU} : ∀ (d j m : Nat) (u : MU), j + d = 5 → d < m → zX3_emptyWater_L2 n r k m (nI j) u = k (nI 5) (fl (r + 3) (-9) d j u) := by
  intro d
  induction d with
  | zero =>
    intro j m u hj hm
    obtain ⟨m, rfl⟩ : ∃ e, m = e + 1 := ⟨m - 1, by omega⟩
    obtain rfl : j = 5 := by omega
    rw [zX3_emptyWater_L2, if_pos (by decide)]
    rfl
  | succ d ih =>
    intro j m u hj hm
    obtain ⟨m, rfl⟩ : ∃ e, m = e + 1 := ⟨m - 1, by omega⟩
    rw [zX3_emptyWater_L2, if_neg (by rw [show (5 : Int32) = nI 5 from rfl, le_nI (by omega) (by omega)]; omega), oob_no (by omega : j < 5) (by omega), tn_nI (by omega), nI_1]
    simp only [Bool.false_eq_true, if_false, letb]
    rw [ih (j + 1) m _ (by omega) (by omega)]
    rfl
theorem zX3_emptyWater_eq {n r : Nat} {c : MU} (hn : 10 ≤ n) : zX3_emptyWater n c r = some (fl (r + 3) (-9) 5 0 c) := by
  unfold zX3_emptyWater
  have h := zX3_emptyWater_L (n := n) (r := r) (k := fun y4 w5 => some w5) 5 0 n c (by omega) (by omega)
  rw [nI_0] at h
  exact h
/-- nobody is over: the people's flags, from j on -/
def flp : Nat → Nat → MU → MU
  | 0, _, u => u
  | d + 1, j, u => flp d (j + 1) (up2 u (8 + j) 5 0)
theorem flp_at : ∀ (d j : Nat) (u : MU) (a b : Nat), flp d j u a b = if 8 + j ≤ a ∧ a < 8 + j + d ∧ b = 5 then 0 else u a b := by
  intro d
  induction d with
  | zero => intro j u a b; rw [if_neg (by omega)]; rfl
  | succ d ih =>
    intro j u a b
    simp only [flp]
    rw [ih]
    by_cases h : a = 8 + j ∧ b = 5
    · rw [if_neg (by omega), if_pos (by omega)]
      simp [up2, h]
    · have : up2 u (8 + j) 5 0 a b = u a b := by simp [up2, h]
      rw [this]
      by_cases h2 : 8 + j ≤ a ∧ a < 8 + j + (d + 1) ∧ b = 5
      · rw [if_pos h2, if_pos (by omega)]
      · rw [if_neg h2, if_neg (by omega)]
theorem zX4_out_L {n P : Nat} {s : Int32} {k : Int32 → MU → Option (Int32 × MU)} (hP7 : P ≤ 7) : ∀ (d j m : Nat) (u : MU), u 1 3 = nI P → j + d = P → d < m → zX4_out_L25 n s k m (nI j) u = k (nI P) (flp d j u) := by
  intro d
  induction d with
  | zero =>
    intro j m u hP hj hm
    obtain ⟨m, rfl⟩ : ∃ e, m = e + 1 := ⟨m - 1, by omega⟩
    obtain rfl : j = P := by omega
    rw [zX4_out_L25, hP, if_pos (nI_le (Nat.le_refl _) (by omega))]
    rfl
  | succ d ih =>
    intro j m u hP hj hm
    obtain ⟨m, rfl⟩ : ∃ e, m = e + 1 := ⟨m - 1, by omega⟩
    rw [zX4_out_L25, hP, if_neg (by rw [le_nI (by omega) (by omega)]; omega), oob_no (by omega : j < 7) (by omega), tn_nI (by omega), nI_1]
    simp only [Bool.false_eq_true, if_false, letb]
    rw [ih (j + 1) m _ (by rw [up2_o (by omega)]; exact hP) (by omega) (by omega)]
    rfl
theorem zX5_out_La {n Y : Nat} {s : Int32} {k : Int32 → MU → Option (Int32 × MU)} (hY5 : Y ≤ 5) : ∀ (d j m : Nat) (u : MU), u 53 12 = nI Y → j + d = Y → d < m → zX5_out_L12 n s k m (nI j) u = k (nI Y) (fl 57 (-9) d j u) := by
  intro d
  induction d with
  | zero =>
    intro j m u hY hj hm
    obtain ⟨m, rfl⟩ : ∃ e, m = e + 1 := ⟨m - 1, by omega⟩
    obtain rfl : j = Y := by omega
    rw [zX5_out_L12, hY, if_pos (nI_le (Nat.le_refl _) (by omega))]
    rfl
  | succ d ih =>
    intro j m u hY hj hm
    obtain ⟨m, rfl⟩ : ∃ e, m = e + 1 := ⟨m - 1, by omega⟩
    rw [zX5_out_L12, hY, if_neg (by rw [le_nI (by omega) (by omega)]; omega), oob_no (by omega : j < 5) (by omega), tn_nI (by omega), nI_1]
    simp only [Bool.false_eq_true, if_false, letb]
    rw [ih (j + 1) m _ (by rw [up2_o (by decide)]; exact hY) (by omega) (by omega)]
    rfl
theorem zX5_out_Lb {n P : Nat} {s : Int32} {k : Int32 → MU → Option (Int32 × MU)} (hP7 : P ≤ 7) : ∀ (d j m : Nat) (u : MU), u 53 13 = nI P → j + d = P → d < m → zX5_out_L36 n s k m (nI j) u = k (nI P) (fl 63 0 d j u) := by
  intro d
  induction d with
  | zero =>
    intro j m u hP hj hm
    obtain ⟨m, rfl⟩ : ∃ e, m = e + 1 := ⟨m - 1, by omega⟩
    obtain rfl : j = P := by omega
    rw [zX5_out_L36, hP, if_pos (nI_le (Nat.le_refl _) (by omega))]
    rfl
  | succ d ih =>
    intro j m u hP hj hm
    obtain ⟨m, rfl⟩ : ∃ e, m = e + 1 := ⟨m - 1, by omega⟩
    rw [zX5_out_L36, hP, if_neg (by rw [le_nI (by omega) (by omega)]; omega), oob_no (by omega : j < 7) (by omega), tn_nI (by omega), nI_1]
    simp only [Bool.false_eq_true, if_false, letb]
    rw [ih (j + 1) m _ (by rw [up2_o (by decide)]; exact hP) (by omega) (by omega)]
    rfl
