/-! ===== strike: one pass is the first ring again and again ===== -/
def setH (c : MU) (q : Nat) (H : Nat → Int32) : MU := fun a b => if a = q then H b else c a b
def HR (h : Nat → Nat) : Nat → Int32 := fun i => nI (h i)
def lsN (h : Nat → Nat) (i v : Nat) : Nat → Nat := fun j => if j = i then h i - v else h j
theorem lsN_le {h : Nat → Nat} {i v j : Nat} : lsN h i v j ≤ h j := by
  unfold lsN
  by_cases e : j = i
  · rw [if_pos e, e]; omega
  · rw [if_neg e]; exact Nat.le_refl _
theorem lsN_at {h : Nat → Nat} {i v : Nat} : lsN h i v i = h i - v := by simp [lsN]
theorem lsN_ne {h : Nat → Nat} {i v j : Nat} (e : j ≠ i) : lsN h i v j = h j := by simp [lsN, e]
theorem setH_in {c : MU} {q : Nat} {H : Nat → Int32} : setH c q H q = H := by funext b; simp [setH]
theorem setH_o {c : MU} {q k : Nat} {H : Nat → Int32} (h : k ≠ q) : setH c q H k = c k := by funext b; simp [setH, h]
theorem setH_self {c : MU} {q : Nat} {H : Nat → Int32} (h : c q = H) : setH c q H = c := by
  funext a b
  unfold setH
  by_cases e : a = q
  · rw [if_pos e, e, h]
  · rw [if_neg e]
theorem setH_ls {c : MU} {q i v : Nat} {h : Nat → Nat} (hv : v ≤ h i) : up2 (setH c q (HR h)) q i (nI (h i) - nI v) = setH c q (HR (lsN h i v)) := by
  rw [pk_sub hv]
  funext a b
  unfold up2 setH HR lsN
  by_cases e : a = q
  · by_cases e2 : b = i
    · simp [e, e2]
    · simp [e, e2]
  · simp [e]
def v2 (h : Nat → Nat) (a b : Nat) : Nat := min (h (7 * a + b)) (h (7 * b + a))
def v3 (h : Nat → Nat) (a b c : Nat) : Nat := min (h (7 * a + b)) (min (h (7 * b + c)) (h (7 * c + a)))
def B2 (h : Nat → Nat) (a b : Nat) : Option (Nat → Nat) := if v2 h a b = 0 then none else some (lsN (lsN h (7 * a + b) (v2 h a b)) (7 * b + a) (v2 h a b))
def B3 (h : Nat → Nat) (a b c : Nat) : Option (Nat → Nat) := if v3 h a b c = 0 then none else some (lsN (lsN (lsN h (7 * a + b) (v3 h a b c)) (7 * b + c) (v3 h a b c)) (7 * c + a) (v3 h a b c))
def A2 (P : Nat) (h : Nat → Nat) (k : Nat) : Option (Nat → Nat) := if k / 7 < k % 7 ∧ k % 7 < P then B2 h (k / 7) (k % 7) else none
def A3 (P : Nat) (h : Nat → Nat) (k : Nat) : Option (Nat → Nat) := if k / 49 < k / 7 % 7 ∧ k / 49 < k % 7 ∧ k / 7 % 7 ≠ k % 7 ∧ k / 7 % 7 < P ∧ k % 7 < P then B3 h (k / 49) (k / 7 % 7) (k % 7) else none
def Fa (h h' : Nat → Nat) : Prop := ∀ i, h' i ≤ h i
theorem B2_fa {h h' : Nat → Nat} {a b : Nat} (e : B2 h a b = some h') : Fa h h' := by
  unfold B2 at e
  by_cases q : v2 h a b = 0
  · rw [if_pos q] at e; exact absurd e (by simp)
  · rw [if_neg q] at e
    obtain rfl := Option.some.inj e
    exact fun i => Nat.le_trans lsN_le lsN_le
theorem B3_fa {h h' : Nat → Nat} {a b c : Nat} (e : B3 h a b c = some h') : Fa h h' := by
  unfold B3 at e
  by_cases q : v3 h a b c = 0
  · rw [if_pos q] at e; exact absurd e (by simp)
  · rw [if_neg q] at e
    obtain rfl := Option.some.inj e
    exact fun i => Nat.le_trans lsN_le (Nat.le_trans lsN_le lsN_le)
theorem B2_non {h h' : Nat → Nat} {a b : Nat} (f : Fa h h') (e : B2 h a b = none) : B2 h' a b = none := by
  unfold B2 at e ⊢
  by_cases q : v2 h a b = 0
  · rw [if_pos]
    have g1 := f (7 * a + b)
    have g2 := f (7 * b + a)
    unfold v2 at q ⊢
    omega
  · rw [if_neg q] at e; exact absurd e (by simp)
theorem B3_non {h h' : Nat → Nat} {a b c : Nat} (f : Fa h h') (e : B3 h a b c = none) : B3 h' a b c = none := by
  unfold B3 at e ⊢
  by_cases q : v3 h a b c = 0
  · rw [if_pos]
    have g1 := f (7 * a + b)
    have g2 := f (7 * b + c)
    have g3 := f (7 * c + a)
    unfold v3 at q ⊢
    omega
  · rw [if_neg q] at e; exact absurd e (by simp)
theorem B2_self {h h' : Nat → Nat} {a b : Nat} (e : B2 h a b = some h') : B2 h' a b = none := by
  unfold B2 at e
  by_cases q : v2 h a b = 0
  · rw [if_pos q] at e; exact absurd e (by simp)
  · rw [if_neg q] at e
    obtain rfl := Option.some.inj e
    unfold B2
    rw [if_pos]
    have g1 : lsN (lsN h (7 * a + b) (v2 h a b)) (7 * b + a) (v2 h a b) (7 * a + b) ≤ h (7 * a + b) - v2 h a b := by
      have := lsN_le (h := lsN h (7 * a + b) (v2 h a b)) (i := 7 * b + a) (v := v2 h a b) (j := 7 * a + b)
      rw [lsN_at] at this
      exact this
    have g2 : lsN (lsN h (7 * a + b) (v2 h a b)) (7 * b + a) (v2 h a b) (7 * b + a) ≤ h (7 * b + a) - v2 h a b := by
      rw [lsN_at]
      have := lsN_le (h := h) (i := 7 * a + b) (v := v2 h a b) (j := 7 * b + a)
      omega
    have g3 : v2 h a b = min (h (7 * a + b)) (h (7 * b + a)) := rfl
    unfold v2 at g1 g2 ⊢
    omega
theorem B3_self {h h' : Nat → Nat} {a b c : Nat} (e : B3 h a b c = some h') : B3 h' a b c = none := by
  unfold B3 at e
  by_cases q : v3 h a b c = 0
  · rw [if_pos q] at e; exact absurd e (by simp)
  · rw [if_neg q] at e
    obtain rfl := Option.some.inj e
    unfold B3
    rw [if_pos]
    generalize hv : v3 h a b c = v at *
    have g1 : lsN (lsN (lsN h (7 * a + b) v) (7 * b + c) v) (7 * c + a) v (7 * a + b) ≤ h (7 * a + b) - v := by
      have w1 := lsN_le (h := lsN (lsN h (7 * a + b) v) (7 * b + c) v) (i := 7 * c + a) (v := v) (j := 7 * a + b)
      have w2 := lsN_le (h := lsN h (7 * a + b) v) (i := 7 * b + c) (v := v) (j := 7 * a + b)
      rw [lsN_at] at w2
      omega
    have g2 : lsN (lsN (lsN h (7 * a + b) v) (7 * b + c) v) (7 * c + a) v (7 * b + c) ≤ h (7 * b + c) - v := by
      have w1 := lsN_le (h := lsN (lsN h (7 * a + b) v) (7 * b + c) v) (i := 7 * c + a) (v := v) (j := 7 * b + c)
      rw [lsN_at] at w1
      have w2 := lsN_le (h := h) (i := 7 * a + b) (v := v) (j := 7 * b + c)
      omega
    have g3 : lsN (lsN (lsN h (7 * a + b) v) (7 * b + c) v) (7 * c + a) v (7 * c + a) ≤ h (7 * c + a) - v := by
      rw [lsN_at]
      have w1 := lsN_le (h := lsN h (7 * a + b) v) (i := 7 * b + c) (v := v) (j := 7 * c + a)
      have w2 := lsN_le (h := h) (i := 7 * a + b) (v := v) (j := 7 * c + a)
      omega
    unfold v3 at hv ⊢
    omega
theorem A2_fa {P k : Nat} {h h' : Nat → Nat} (e : A2 P h k = some h') : Fa h h' := by
  unfold A2 at e
  by_cases q : k / 7 < k % 7 ∧ k % 7 < P
  · rw [if_pos q] at e; exact B2_fa e
  · rw [if_neg q] at e; exact absurd e (by simp)
theorem A3_fa {P k : Nat} {h h' : Nat → Nat} (e : A3 P h k = some h') : Fa h h' := by
  unfold A3 at e
  by_cases q : k / 49 < k / 7 % 7 ∧ k / 49 < k % 7 ∧ k / 7 % 7 ≠ k % 7 ∧ k / 7 % 7 < P ∧ k % 7 < P
  · rw [if_pos q] at e; exact B3_fa e
  · rw [if_neg q] at e; exact absurd e (by simp)
theorem A2_non {P k : Nat} {h h' : Nat → Nat} (f : Fa h h') (e : A2 P h k = none) : A2 P h' k = none := by
  unfold A2 at e ⊢
  by_cases q : k / 7 < k % 7 ∧ k % 7 < P
  · rw [if_pos q] at e ⊢; exact B2_non f e
  · rw [if_neg q]
theorem A3_non {P k : Nat} {h h' : Nat → Nat} (f : Fa h h') (e : A3 P h k = none) : A3 P h' k = none := by
  unfold A3 at e ⊢
  by_cases q : k / 49 < k / 7 % 7 ∧ k / 49 < k % 7 ∧ k / 7 % 7 ≠ k % 7 ∧ k / 7 % 7 < P ∧ k % 7 < P
  · rw [if_pos q] at e ⊢; exact B3_non f e
  · rw [if_neg q]
theorem A2_self {P k : Nat} {h h' : Nat → Nat} (e : A2 P h k = some h') : A2 P h' k = none := by
  unfold A2 at e ⊢
  by_cases q : k / 7 < k % 7 ∧ k % 7 < P
  · rw [if_pos q] at e ⊢; exact B2_self e
  · rw [if_neg q]
theorem A3_self {P k : Nat} {h h' : Nat → Nat} (e : A3 P h k = some h') : A3 P h' k = none := by
  unfold A3 at e ⊢
  by_cases q : k / 49 < k / 7 % 7 ∧ k / 49 < k % 7 ∧ k / 7 % 7 ≠ k % 7 ∧ k / 7 % 7 < P ∧ k % 7 < P
  · rw [if_pos q] at e ⊢; exact B3_self e
  · rw [if_neg q]
/-! a pass, and the first -/
def stp (A : (Nat → Nat) → Nat → Option (Nat → Nat)) (s : (Nat → Nat) × Nat) (j : Nat) : (Nat → Nat) × Nat :=
  match A s.1 j with
  | none => s
  | some h' => (h', s.2 + 1)
theorem stp_n {A : (Nat → Nat) → Nat → Option (Nat → Nat)} {s : (Nat → Nat) × Nat} {j : Nat} (e : A s.1 j = none) : stp A s j = s := by unfold stp; rw [e]
theorem stp_s {A : (Nat → Nat) → Nat → Option (Nat → Nat)} {s : (Nat → Nat) × Nat} {j : Nat} {h' : Nat → Nat} (e : A s.1 j = some h') : stp A s j = (h', s.2 + 1) := by unfold stp; rw [e]
def ps (A : (Nat → Nat) → Nat → Option (Nat → Nat)) : Nat → Nat → (Nat → Nat) × Nat → (Nat → Nat) × Nat
  | 0, _, s => s
  | d + 1, j, s => ps A d (j + 1) (stp A s j)
theorem ps_add {A : (Nat → Nat) → Nat → Option (Nat → Nat)} {e : Nat} : ∀ (d j : Nat) (s : (Nat → Nat) × Nat), ps A (d + e) j s = ps A e (j + d) (ps A d j s) := by
  intro d
  induction d with
  | zero => intro j s; rw [Nat.zero_add]; rfl
  | succ d ih =>
    intro j s
    rw [show d + 1 + e = (d + e) + 1 by omega]
    simp only [ps]
    rw [ih, show j + 1 + d = j + (d + 1) by omega]
theorem ps_non {A : (Nat → Nat) → Nat → Option (Nat → Nat)} : ∀ (d j : Nat) (s : (Nat → Nat) × Nat), (∀ i, j ≤ i → i < j + d → A s.1 i = none) → ps A d j s = s := by
  intro d
  induction d with
  | zero => intro j s _; rfl
  | succ d ih =>
    intro j s h
    simp only [ps]
    rw [stp_n (h j (Nat.le_refl _) (by omega))]
    exact ih (j + 1) s (fun i h1 h2 => h i (by omega) (by omega))
theorem ps_cnt {A : (Nat → Nat) → Nat → Option (Nat → Nat)} : ∀ (d j : Nat) (h : Nat → Nat) (m e : Nat), ps A d j (h, m + e) = ((ps A d j (h, m)).1, (ps A d j (h, m)).2 + e) := by
  intro d
  induction d with
  | zero => intro j h m e; rfl
  | succ d ih =>
    intro j h m e
    simp only [ps]
    cases q : A h j with
    | none => rw [stp_n (s := (h, m + e)) q, stp_n (s := (h, m)) q]; exact ih (j + 1) h m e
    | some h' =>
      rw [stp_s (s := (h, m + e)) q, stp_s (s := (h, m)) q]
      show ps A d (j + 1) (h', m + e + 1) = _
      rw [show m + e + 1 = (m + 1) + e by omega]
      exact ih (j + 1) h' (m + 1) e
theorem stp_fa {A : (Nat → Nat) → Nat → Option (Nat → Nat)} (hA : ∀ h h' k, A h k = some h' → Fa h h') {s : (Nat → Nat) × Nat} {j : Nat} : Fa s.1 (stp A s j).1 := by
  cases q : A s.1 j with
  | none => rw [stp_n q]; exact fun _ => Nat.le_refl _
  | some h' => rw [stp_s q]; exact hA _ _ _ q
theorem ps_fa {A : (Nat → Nat) → Nat → Option (Nat → Nat)} (hA : ∀ h h' k, A h k = some h' → Fa h h') : ∀ (d j : Nat) (s : (Nat → Nat) × Nat), Fa s.1 (ps A d j s).1 := by
  intro d
  induction d with
  | zero => intro j s i; exact Nat.le_refl _
  | succ d ih =>
    intro j s i
    simp only [ps]
    exact Nat.le_trans (ih (j + 1) _ i) (stp_fa hA i)
def ff (A : (Nat → Nat) → Nat → Option (Nat → Nat)) (h : Nat → Nat) : Nat → Nat → Option (Nat → Nat)
  | 0, _ => none
  | d + 1, j => match A h j with
    | none => ff A h d (j + 1)
    | some h' => some h'
theorem ff_n {A : (Nat → Nat) → Nat → Option (Nat → Nat)} {h : Nat → Nat} {d j : Nat} (e : A h j = none) : ff A h (d + 1) j = ff A h d (j + 1) := by simp only [ff]; rw [e]
theorem ff_s {A : (Nat → Nat) → Nat → Option (Nat → Nat)} {h h' : Nat → Nat} {d j : Nat} (e : A h j = some h') : ff A h (d + 1) j = some h' := by simp only [ff]; rw [e]
theorem ff_non {A : (Nat → Nat) → Nat → Option (Nat → Nat)} {h : Nat → Nat} {e : Nat} : ∀ (d j : Nat), (∀ i, j ≤ i → i < j + d → A h i = none) → ff A h (d + e) j = ff A h e (j + d) := by
  intro d
  induction d with
  | zero => intro j _; rw [Nat.zero_add]; rfl
  | succ d ih =>
    intro j q
    rw [show d + 1 + e = (d + e) + 1 by omega, ff_n (q j (Nat.le_refl _) (by omega)), ih (j + 1) (fun i h1 h2 => q i (by omega) (by omega)), show j + 1 + d = j + (d + 1) by omega]
theorem ff_none_all {A : (Nat → Nat) → Nat → Option (Nat → Nat)} {h : Nat → Nat} {d j : Nat} (q : ∀ i, j ≤ i → i < j + d → A h i = none) : ff A h d j = none := by
  have := ff_non (e := 0) d j q
  rw [Nat.add_zero] at this
  rw [this]
  rfl
theorem ff_some_add {A : (Nat → Nat) → Nat → Option (Nat → Nat)} {h h' : Nat → Nat} {e : Nat} : ∀ (d j : Nat), ff A h d j = some h' → ff A h (d + e) j = some h' := by
  intro d
  induction d with
  | zero => intro j q; exact absurd q (by simp [ff])
  | succ d ih =>
    intro j q
    rw [show d + 1 + e = (d + e) + 1 by omega]
    cases z : A h j with
    | none => rw [ff_n z] at q ⊢; exact ih (j + 1) q
    | some x => rw [ff_s z] at q ⊢; exact q
theorem ff_none_add {A : (Nat → Nat) → Nat → Option (Nat → Nat)} {h : Nat → Nat} {e : Nat} : ∀ (d j : Nat), ff A h d j = none → ff A h (d + e) j = ff A h e (j + d) := by
  intro d
  induction d with
  | zero => intro j _; rw [Nat.zero_add]; rfl
  | succ d ih =>
    intro j q
    rw [show d + 1 + e = (d + e) + 1 by omega]
    cases z : A h j with
    | none => rw [ff_n z] at q ⊢; rw [ih (j + 1) q, show j + 1 + d = j + (d + 1) by omega]
    | some x => rw [ff_s z] at q; exact absurd q (by simp)
theorem ff_first {A : (Nat → Nat) → Nat → Option (Nat → Nat)} {h h' : Nat → Nat} {j N : Nat} (hj : j < N) (q : ∀ i, i < j → A h i = none) (e : A h j = some h') : ff A h N 0 = some h' := by
  have := ff_non (A := A) (h := h) (e := (N - j - 1) + 1) j 0 (fun i _ h2 => q i (by omega))
  rw [show j + (N - j - 1 + 1) = N by omega, Nat.zero_add, ff_s e] at this
  exact this
/-! the class's pass -/
theorem hr_at {n : Nat} {c : MU} {h : Nat → Nat} {a b : Nat} (ha : a < 7) (hb : b < 7) : zX3_hoursOf n (setH c 7 (HR h)) 1 (nI a) (nI b) = some (nI (h (7 * a + b))) := by
  rw [zX3_hoursOf_eq ha hb]
  have e : setH c 7 (HR h) (1 + 6) = HR h := setH_in
  rw [e]
  rfl
theorem lh_eq {n : Nat} {c : MU} {h : Nat → Nat} {a b v : Nat} (ha : a < 7) (hb : b < 7) (hv : v ≤ h (7 * a + b)) : zX3_lessenHours n (setH c 7 (HR h)) 1 (nI a) (nI b) (nI v) = some (setH c 7 (HR (lsN h (7 * a + b) v))) := by
  unfold zX3_lessenHours zX3_setHours
  rw [hr_at ha hb, Option.bind_some, ix7', oob_no (show 7 * a + b < 49 by omega) (by omega), tn_nI (by omega)]
  simp only [Bool.false_eq_true, if_false, letb, Option.bind_some]
  exact congrArg some (setH_ls hv)
theorem A2_at {P a b : Nat} {h : Nat → Nat} (hb : b < 7) (hab : a < b) (hbP : b < P) : A2 P h (7 * a + b) = B2 h a b := by
  unfold A2
  have e1 : (7 * a + b) / 7 = a := by omega
  have e2 : (7 * a + b) % 7 = b := by omega
  rw [e1, e2, if_pos ⟨hab, hbP⟩]
theorem s2_in {n : Nat} {c : MU} {P a : Nat} {k : Int32 → Int32 → MU → Option (Int32 × MU)} (hP : c 1 3 = nI P) (hP7 : P ≤ 7) (ha : a < P) :
    ∀ (d b m : Nat) (s : (Nat → Nat) × Nat), (∀ i, s.1 i ≤ 99) → a < b → b + d = P → d < m → zX3_strikeTwos_L16 n 1 (nI a) k m (nI s.2) (nI b) (setH c 7 (HR s.1)) = k (nI (ps (A2 P) d (7 * a + b) s).2) (nI P) (setH c 7 (HR (ps (A2 P) d (7 * a + b) s).1)) := by
  intro d
  induction d with
  | zero =>
    intro b m s hs hab hb hm
    obtain ⟨m, rfl⟩ : ∃ e, m = e + 1 := ⟨m - 1, by omega⟩
    obtain rfl : b = P := by omega
    rw [zX3_strikeTwos_L16, setH_o (by decide), hP, if_pos (nI_le (Nat.le_refl _) (by omega))]
    rfl
  | succ d ih =>
    intro b m s hs hab hb hm
    obtain ⟨m, rfl⟩ : ∃ e, m = e + 1 := ⟨m - 1, by omega⟩
    have w1 := hs (7 * a + b)
    have w2 := hs (7 * b + a)
    have hmn : (if nI (s.1 (7 * b + a)) < nI (s.1 (7 * a + b)) then nI (s.1 (7 * b + a)) else nI (s.1 (7 * a + b))) = nI (v2 s.1 a b) := mn_nI (by omega) (by omega)
    rw [zX3_strikeTwos_L16, setH_o (by decide), hP, if_neg (by rw [le_nI (by omega) (by omega)]; omega), hr_at (by omega) (by omega), Option.bind_some, hr_at (by omega) (by omega), Option.bind_some, hmn, nI_1]
    simp only [letb, ps]
    have eA : A2 P s.1 (7 * a + b) = B2 s.1 a b := A2_at (by omega) hab (by omega)
    by_cases q : v2 s.1 a b = 0
    · have e0 : A2 P s.1 (7 * a + b) = none := by rw [eA]; unfold B2; rw [if_pos q]
      rw [q, if_pos (by decide), stp_n e0]
      exact ih (b + 1) m s hs (by omega) (by omega) (by omega)
    · have e0 : A2 P s.1 (7 * a + b) = some (lsN (lsN s.1 (7 * a + b) (v2 s.1 a b)) (7 * b + a) (v2 s.1 a b)) := by rw [eA]; unfold B2; rw [if_neg q]
      have hv : v2 s.1 a b = min (s.1 (7 * a + b)) (s.1 (7 * b + a)) := rfl
      have hv2 : v2 s.1 a b ≤ lsN s.1 (7 * a + b) (v2 s.1 a b) (7 * b + a) := by rw [lsN_ne (by omega)]; omega
      rw [if_neg (nI_nle (by omega) (by omega)), lh_eq (by omega) (by omega) (by omega), Option.bind_some, lh_eq (by omega) (by omega) hv2, Option.bind_some, stp_s e0, nI_1]
      exact ih (b + 1) m (_, s.2 + 1) (fun i => Nat.le_trans (A2_fa e0 i) (hs i)) (by omega) (by omega) (by omega)
theorem A2_out {P k : Nat} {h : Nat → Nat} (q : ¬ (k / 7 < k % 7 ∧ k % 7 < P)) : A2 P h k = none := by unfold A2; rw [if_neg q]
theorem A3_out {P k : Nat} {h : Nat → Nat} (q : ¬ (k / 49 < k / 7 % 7 ∧ k / 49 < k % 7 ∧ k / 7 % 7 ≠ k % 7 ∧ k / 7 % 7 < P ∧ k % 7 < P)) : A3 P h k = none := by unfold A3; rw [if_neg q]
theorem ps2_row {P a : Nat} {s : (Nat → Nat) × Nat} (ha : a < P) (hP7 : P ≤ 7) : ps (A2 P) 7 (7 * a) s = ps (A2 P) (P - (a + 1)) (7 * a + (a + 1)) s := by
  have h1 := ps_add (A := A2 P) (e := 7 - (a + 1)) (a + 1) (7 * a) s
  rw [show a + 1 + (7 - (a + 1)) = 7 by omega, ps_non (A := A2 P) (a + 1) (7 * a) s (fun i q1 q2 => A2_out (by omega))] at h1
  have h2 := ps_add (A := A2 P) (e := 7 - P) (P - (a + 1)) (7 * a + (a + 1)) s
  rw [show P - (a + 1) + (7 - P) = 7 - (a + 1) by omega] at h2
  rw [h1, h2]
  exact ps_non _ _ _ (fun i q1 q2 => A2_out (by omega))
theorem s2_out {n : Nat} {c : MU} {P : Nat} {k : Int32 → Int32 → MU → Option (Int32 × MU)} (hP : c 1 3 = nI P) (hP7 : P ≤ 7) (hn : 20 ≤ n) :
    ∀ (d a m : Nat) (s : (Nat → Nat) × Nat), (∀ i, s.1 i ≤ 99) → a + d = P → d < m → zX3_strikeTwos_L4 n 1 k m (nI s.2) (nI a) (setH c 7 (HR s.1)) = k (nI (ps (A2 P) (7 * d) (7 * a) s).2) (nI P) (setH c 7 (HR (ps (A2 P) (7 * d) (7 * a) s).1)) := by
  intro d
  induction d with
  | zero =>
    intro a m s hs ha hm
    obtain ⟨m, rfl⟩ : ∃ e, m = e + 1 := ⟨m - 1, by omega⟩
    obtain rfl : a = P := by omega
    rw [zX3_strikeTwos_L4, setH_o (by decide), hP, if_pos (nI_le (Nat.le_refl _) (by omega))]
    rfl
  | succ d ih =>
    intro a m s hs ha hm
    obtain ⟨m, rfl⟩ : ∃ e, m = e + 1 := ⟨m - 1, by omega⟩
    rw [zX3_strikeTwos_L4, setH_o (by decide), hP, if_neg (by rw [le_nI (by omega) (by omega)]; omega), nI_1]
    simp only [letb]
    rw [s2_in hP hP7 (show a < P by omega) (P - (a + 1)) (a + 1) n s hs (by omega) (by omega) (by omega)]
    rw [show 7 * (d + 1) = 7 + 7 * d by omega, ps_add 7 (7 * a) s, ps2_row (by omega) hP7, show 7 * a + 7 = 7 * (a + 1) by omega]
    exact ih (a + 1) m _ (fun i => Nat.le_trans (ps_fa (fun _ _ _ q => A2_fa q) _ _ _ i) (hs i)) (by omega) (by omega)
theorem zX3_strikeTwos_eq {n : Nat} {c : MU} {P : Nat} {h : Nat → Nat} (hP : c 1 3 = nI P) (hP7 : P ≤ 7) (hn : 20 ≤ n) (hh : ∀ i, h i ≤ 99) : zX3_strikeTwos n (setH c 7 (HR h)) 1 = some (nI (ps (A2 P) 49 0 (h, 0)).2, setH c 7 (HR (ps (A2 P) 49 0 (h, 0)).1)) := by
  unfold zX3_strikeTwos
  have := s2_out (n := n) (k := fun y17 y18 w19 => some (y17, w19)) hP hP7 hn P 0 n (h, 0) hh (by omega) (by omega)
  rw [nI_0] at this
  have e : ps (A2 P) 49 0 (h, 0) = ps (A2 P) (7 * P) 0 (h, 0) := by
    have h1 := ps_add (A := A2 P) (e := 49 - 7 * P) (7 * P) 0 (h, 0)
    rw [show 7 * P + (49 - 7 * P) = 49 by omega] at h1
    rw [h1]
    exact ps_non _ _ _ (fun i q1 q2 => A2_out (by omega))
  rw [e]
  exact this
theorem A3_at {P a b x : Nat} {h : Nat → Nat} (hb : b < 7) (hx : x < 7) (hab : a < b) (hax : a < x) (hbx : b ≠ x) (hbP : b < P) (hxP : x < P) : A3 P h (49 * a + 7 * b + x) = B3 h a b x := by
  unfold A3
  have e1 : (49 * a + 7 * b + x) / 49 = a := by omega
  have e2 : (49 * a + 7 * b + x) / 7 % 7 = b := by omega
  have e3 : (49 * a + 7 * b + x) % 7 = x := by omega
  rw [e1, e2, e3, if_pos ⟨hab, hax, hbx, hbP, hxP⟩]
theorem s3_one {n : Nat} {c : MU} {P a b x : Nat} {s : (Nat → Nat) × Nat} (hP7 : P ≤ 7) (hs : ∀ i, s.1 i ≤ 99) (hab : a < b) (hax : a < x) (hbx : b ≠ x) (hbP : b < P) (hxP : x < P) :
    ∃ q, zX3_strikeThree n (setH c 7 (HR s.1)) 1 (nI a) (nI b) (nI x) = some (q, setH c 7 (HR (stp (A3 P) s (49 * a + 7 * b + x)).1)) ∧ nI s.2 + q = nI (stp (A3 P) s (49 * a + 7 * b + x)).2 := by
  have w1 := hs (7 * a + b)
  have w2 := hs (7 * b + x)
  have w3 := hs (7 * x + a)
  have eA : A3 P s.1 (49 * a + 7 * b + x) = B3 s.1 a b x := A3_at (by omega) (by omega) hab hax hbx hbP hxP
  have hm1 : (if nI (s.1 (7 * x + a)) < nI (s.1 (7 * b + x)) then nI (s.1 (7 * x + a)) else nI (s.1 (7 * b + x))) = nI (min (s.1 (7 * b + x)) (s.1 (7 * x + a))) := mn_nI (by omega) (by omega)
  have hm2 : (if nI (min (s.1 (7 * b + x)) (s.1 (7 * x + a))) < nI (s.1 (7 * a + b)) then nI (min (s.1 (7 * b + x)) (s.1 (7 * x + a))) else nI (s.1 (7 * a + b))) = nI (v3 s.1 a b x) := mn_nI (by omega) (by omega)
  unfold zX3_strikeThree
  rw [hr_at (by omega) (by omega), Option.bind_some, hr_at (by omega) (by omega), Option.bind_some, hr_at (by omega) (by omega), Option.bind_some, hm1, hm2]
  simp only [letb]
  have hv : v3 s.1 a b x = min (s.1 (7 * a + b)) (min (s.1 (7 * b + x)) (s.1 (7 * x + a))) := rfl
  by_cases q : v3 s.1 a b x = 0
  · have e0 : A3 P s.1 (49 * a + 7 * b + x) = none := by rw [eA]; unfold B3; rw [if_pos q]
    rw [q, if_neg (by decide), stp_n e0]
    exact ⟨0, rfl, by rw [Int32.add_zero]⟩
  · have e0 : A3 P s.1 (49 * a + 7 * b + x) = some (lsN (lsN (lsN s.1 (7 * a + b) (v3 s.1 a b x)) (7 * b + x) (v3 s.1 a b x)) (7 * x + a) (v3 s.1 a b x)) := by rw [eA]; unfold B3; rw [if_neg q]
    have hv2 : v3 s.1 a b x ≤ lsN s.1 (7 * a + b) (v3 s.1 a b x) (7 * b + x) := by rw [lsN_ne (by omega)]; omega
    have hv3 : v3 s.1 a b x ≤ lsN (lsN s.1 (7 * a + b) (v3 s.1 a b x)) (7 * b + x) (v3 s.1 a b x) (7 * x + a) := by rw [lsN_ne (by omega), lsN_ne (by omega)]; omega
    have hpos : (0 : Int32) < nI (v3 s.1 a b x) := nI_lt (a := 0) (by omega) (by omega)
    rw [if_pos hpos, lh_eq (by omega) (by omega) (by omega), Option.bind_some, lh_eq (by omega) (by omega) hv2, Option.bind_some, lh_eq (by omega) (by omega) hv3, Option.bind_some, stp_s e0]
    exact ⟨1, rfl, nI_1 _⟩
theorem s3_in {n : Nat} {c : MU} {P a b : Nat} {k : Int32 → Int32 → MU → Option (Int32 × MU)} (hP : c 1 3 = nI P) (hP7 : P ≤ 7) (hab : a < b) (hb : b < P) :
    ∀ (d x m : Nat) (s : (Nat → Nat) × Nat), (∀ i, s.1 i ≤ 99) → a < x → x + d = P → d < m → zX3_strikeThrees_L29 n 1 (nI a) (nI b) k m (nI s.2) (nI x) (setH c 7 (HR s.1)) = k (nI (ps (A3 P) d (49 * a + 7 * b + x) s).2) (nI P) (setH c 7 (HR (ps (A3 P) d (49 * a + 7 * b + x) s).1)) := by
  intro d
  induction d with
  | zero =>
    intro x m s hs hax hx hm
    obtain ⟨m, rfl⟩ : ∃ e, m = e + 1 := ⟨m - 1, by omega⟩
    obtain rfl : x = P := by omega
    rw [zX3_strikeThrees_L29, setH_o (by decide), hP, if_pos (nI_le (Nat.le_refl _) (by omega))]
    rfl
  | succ d ih =>
    intro x m s hs hax hx hm
    obtain ⟨m, rfl⟩ : ∃ e, m = e + 1 := ⟨m - 1, by omega⟩
    rw [zX3_strikeThrees_L29, setH_o (by decide), hP, if_neg (by rw [le_nI (by omega) (by omega)]; omega), nI_1]
    simp only [ps, letb]
    by_cases q : x = b
    · have e1 : (49 * a + 7 * b + x) / 7 = 7 * a + b := by omega
      have e2 : (49 * a + 7 * b + x) / 7 % 7 = b := by rw [e1]; omega
      have e3 : (49 * a + 7 * b + x) % 7 = x := by omega
      rw [if_pos (by rw [q]), Int32.add_zero, stp_n (A3_out (fun z => z.2.2.1 (by rw [e2, e3, q])))]
      exact ih (x + 1) m s hs (by omega) (by omega) (by omega)
    · rw [if_neg (by rw [eq_nI (by omega) (by omega)]; exact q)]
      obtain ⟨w, e1, e2⟩ := s3_one (n := n) (c := c) hP7 hs hab hax (fun z => q z.symm) hb (show x < P by omega)
      rw [e1, Option.bind_some]
      simp only []
      rw [e2]
      exact ih (x + 1) m _ (fun i => Nat.le_trans (stp_fa (fun _ _ _ q => A3_fa q) i) (hs i)) (by omega) (by omega) (by omega)
theorem ps3_row {P a b : Nat} {s : (Nat → Nat) × Nat} (ha : a < P) (hb : b < 7) (hP7 : P ≤ 7) : ps (A3 P) 7 (49 * a + 7 * b) s = ps (A3 P) (P - (a + 1)) (49 * a + 7 * b + (a + 1)) s := by
  have h1 := ps_add (A := A3 P) (e := 7 - (a + 1)) (a + 1) (49 * a + 7 * b) s
  rw [show a + 1 + (7 - (a + 1)) = 7 by omega, ps_non (A := A3 P) (a + 1) (49 * a + 7 * b) s (fun i q1 q2 => A3_out (by omega))] at h1
  have h2 := ps_add (A := A3 P) (e := 7 - P) (P - (a + 1)) (49 * a + 7 * b + (a + 1)) s
  rw [show P - (a + 1) + (7 - P) = 7 - (a + 1) by omega] at h2
  rw [h1, h2]
  exact ps_non _ _ _ (fun i q1 q2 => A3_out (by omega))
theorem s3_mid {n : Nat} {c : MU} {P a : Nat} {k : Int32 → Int32 → MU → Option (Int32 × MU)} (hP : c 1 3 = nI P) (hP7 : P ≤ 7) (ha : a < P) (hn : 20 ≤ n) :
    ∀ (d b m : Nat) (s : (Nat → Nat) × Nat), (∀ i, s.1 i ≤ 99) → a < b → b + d = P → d < m → zX3_strikeThrees_L16 n 1 (nI a) k m (nI s.2) (nI b) (setH c 7 (HR s.1)) = k (nI (ps (A3 P) (7 * d) (49 * a + 7 * b) s).2) (nI P) (setH c 7 (HR (ps (A3 P) (7 * d) (49 * a + 7 * b) s).1)) := by
  intro d
  induction d with
  | zero =>
    intro b m s hs hab hb hm
    obtain ⟨m, rfl⟩ : ∃ e, m = e + 1 := ⟨m - 1, by omega⟩
    obtain rfl : b = P := by omega
    rw [zX3_strikeThrees_L16, setH_o (by decide), hP, if_pos (nI_le (Nat.le_refl _) (by omega))]
    rfl
  | succ d ih =>
    intro b m s hs hab hb hm
    obtain ⟨m, rfl⟩ : ∃ e, m = e + 1 := ⟨m - 1, by omega⟩
    rw [zX3_strikeThrees_L16, setH_o (by decide), hP, if_neg (by rw [le_nI (by omega) (by omega)]; omega), nI_1, nI_1]
    simp only [letb]
    rw [s3_in hP hP7 hab (show b < P by omega) (P - (a + 1)) (a + 1) n s hs (by omega) (by omega) (by omega)]
    rw [show 7 * (d + 1) = 7 + 7 * d by omega, ps_add 7 (49 * a + 7 * b) s, ps3_row ha (by omega) hP7, show 49 * a + 7 * b + 7 = 49 * a + 7 * (b + 1) by omega]
    exact ih (b + 1) m _ (fun i => Nat.le_trans (ps_fa (fun _ _ _ q => A3_fa q) _ _ _ i) (hs i)) (by omega) (by omega) (by omega)
theorem ps3_blk {P a : Nat} {s : (Nat → Nat) × Nat} (ha : a < P) (hP7 : P ≤ 7) : ps (A3 P) 49 (49 * a) s = ps (A3 P) (7 * (P - (a + 1))) (49 * a + 7 * (a + 1)) s := by
  have h1 := ps_add (A := A3 P) (e := 49 - 7 * (a + 1)) (7 * (a + 1)) (49 * a) s
  rw [show 7 * (a + 1) + (49 - 7 * (a + 1)) = 49 by omega, ps_non (A := A3 P) (7 * (a + 1)) (49 * a) s (fun i q1 q2 => A3_out (by omega))] at h1
  have h2 := ps_add (A := A3 P) (e := 7 * (7 - P)) (7 * (P - (a + 1))) (49 * a + 7 * (a + 1)) s
  rw [show 7 * (P - (a + 1)) + 7 * (7 - P) = 49 - 7 * (a + 1) by omega] at h2
  rw [h1, h2]
  refine ps_non _ _ _ (fun i q1 q2 => A3_out ?_)
  have e : i / 7 / 7 = i / 49 := Nat.div_div_eq_div_mul i 7 7
  omega
theorem s3_out {n : Nat} {c : MU} {P : Nat} {k : Int32 → Int32 → MU → Option (Int32 × MU)} (hP : c 1 3 = nI P) (hP7 : P ≤ 7) (hn : 20 ≤ n) :
    ∀ (d a m : Nat) (s : (Nat → Nat) × Nat), (∀ i, s.1 i ≤ 99) → a + d = P → d < m → zX3_strikeThrees_L4 n 1 k m (nI s.2) (nI a) (setH c 7 (HR s.1)) = k (nI (ps (A3 P) (49 * d) (49 * a) s).2) (nI P) (setH c 7 (HR (ps (A3 P) (49 * d) (49 * a) s).1)) := by
  intro d
  induction d with
  | zero =>
    intro a m s hs ha hm
    obtain ⟨m, rfl⟩ : ∃ e, m = e + 1 := ⟨m - 1, by omega⟩
    obtain rfl : a = P := by omega
    rw [zX3_strikeThrees_L4, setH_o (by decide), hP, if_pos (nI_le (Nat.le_refl _) (by omega))]
    rfl
  | succ d ih =>
    intro a m s hs ha hm
    obtain ⟨m, rfl⟩ : ∃ e, m = e + 1 := ⟨m - 1, by omega⟩
    rw [zX3_strikeThrees_L4, setH_o (by decide), hP, if_neg (by rw [le_nI (by omega) (by omega)]; omega), nI_1]
    simp only [letb]
    rw [s3_mid hP hP7 (show a < P by omega) hn (P - (a + 1)) (a + 1) n s hs (by omega) (by omega) (by omega)]
    rw [show 49 * (d + 1) = 49 + 49 * d by omega, ps_add 49 (49 * a) s, ps3_blk (by omega) hP7, show 49 * a + 49 = 49 * (a + 1) by omega]
    exact ih (a + 1) m _ (fun i => Nat.le_trans (ps_fa (fun _ _ _ q => A3_fa q) _ _ _ i) (hs i)) (by omega) (by omega)
theorem zX3_strikeThrees_eq {n : Nat} {c : MU} {P : Nat} {h : Nat → Nat} (hP : c 1 3 = nI P) (hP7 : P ≤ 7) (hn : 20 ≤ n) (hh : ∀ i, h i ≤ 99) : zX3_strikeThrees n (setH c 7 (HR h)) 1 = some (nI (ps (A3 P) 343 0 (h, 0)).2, setH c 7 (HR (ps (A3 P) 343 0 (h, 0)).1)) := by
  unfold zX3_strikeThrees
  have := s3_out (n := n) (k := fun y17 y18 w19 => some (y17, w19)) hP hP7 hn P 0 n (h, 0) hh (by omega) (by omega)
  rw [nI_0] at this
  have e : ps (A3 P) 343 0 (h, 0) = ps (A3 P) (49 * P) 0 (h, 0) := by
    have h1 := ps_add (A := A3 P) (e := 343 - 49 * P) (49 * P) 0 (h, 0)
    rw [show 49 * P + (343 - 49 * P) = 343 by omega] at h1
    rw [h1]
    exact ps_non _ _ _ (fun i q1 q2 => A3_out (by omega))
  rw [e]
  exact this
