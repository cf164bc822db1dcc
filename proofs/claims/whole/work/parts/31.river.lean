/-! ===== what a river's methods answer: closed forms over the view R f i = u (r + f) i ===== -/
theorem so_if {α : Type} {c : Prop} [Decidable c] (a b : α) : (if c then some a else some b) = some (if c then a else b) := by split <;> rfl
def vw (u : MU) (r : Nat) : MU := fun f i => u (r + f) i
def rch (k h : Int32) : Int32 := if k = 1 then h + 2 else if k = 2 then h / 2 else if k = 3 then 99 else if k = 4 then h + 2 else if k = 5 then h + 2 else h
def hld (k s f : Int32) : Int32 := if k = 2 then (if 0 < s - 2 then s - 2 else 0) else if k = 3 then s / 2 else if k = 4 then s + f else if k = 5 then s + f else s
def col (k c : Int32) : Int32 := if k = 2 then 2 * (c + 1) else if k = 4 then (if 1 < c then c else 1) else if k = 5 then 1 else c + 1
def mnt (k w c : Int32) : Int32 := if 1 ≤ col k c then w / col k c else 0
theorem zX2_reaches_eq (n : Nat) (u : MU) (p : Nat) : zX2_reaches n u p = some (rch (u p 0) (u p 2)) := by
  simp only [zX2_reaches, rch, so_if]
theorem zX2_holds_eq (n : Nat) (u : MU) (p : Nat) : zX2_holds n u p = some (hld (u p 0) (u p 3) (u p 1)) := by
  simp only [zX2_holds, hld, so_if]
theorem zX2_cools_eq (n : Nat) (u : MU) (p : Nat) (c : Int32) : zX2_cools n u p c = some (col (u p 0) c) := by
  simp only [zX2_cools, col, so_if]
theorem zX2_minutes_eq (n : Nat) (u : MU) (p : Nat) (c : Int32) : zX2_minutes n u p c = some (mnt (u p 0) (u p 4) c) := by
  simp only [zX2_minutes, zX2_cools_eq, Option.bind_some, mnt]
  by_cases h : 1 ≤ col (u p 0) c
  · have h0 : ¬ col (u p 0) c = 0 := by
      intro e
      rw [e] at h
      exact absurd h (by decide)
    rw [if_pos h, if_neg h0, if_pos h]
  · rw [if_neg h, if_neg h]
/-- is it one of the people / a yard -/
theorem zX3_isYard_eq {n : Nat} {u : MU} {r : Nat} {a : Int32} {Y : Nat} (hY : u r 0 = nI Y) (hY5 : Y ≤ 5) : (∃ j, j < Y ∧ a = nI j ∧ zX3_isYard n u r a = some 1) ∨ ((¬ ∃ j, j < Y ∧ a = nI j) ∧ zX3_isYard n u r a = some 0) := by
  unfold zX3_isYard
  by_cases h0 : a < 0
  · rw [if_pos h0]
    refine Or.inr ⟨?_, rfl⟩
    rintro ⟨j, hj, rfl⟩
    exact nI_pos (by omega) h0
  · rw [if_neg h0, hY]
    by_cases h1 : nI Y ≤ a
    · rw [if_pos h1]
      refine Or.inr ⟨?_, rfl⟩
      rintro ⟨j, hj, rfl⟩
      rw [le_nI (by omega) (by omega)] at h1
      omega
    · rw [if_neg h1]
      obtain ⟨j, hj, rfl⟩ := nI_btw (by omega) h0 h1
      exact Or.inl ⟨j, hj, rfl, rfl⟩
theorem zX3_isPerson_in {n : Nat} {u : MU} {r j P : Nat} (hP : u r 3 = nI P) (hP7 : P ≤ 7) (hj : j < P) : zX3_isPerson n u r (nI j) = some 1 := by
  unfold zX3_isPerson
  rw [if_neg (nI_pos (by omega)), hP, if_neg (by rw [le_nI (by omega) (by omega)]; omega)]
theorem zX3_isPerson_m9 {n : Nat} {u : MU} {r : Nat} : zX3_isPerson n u r (-9) = some 0 := by
  unfold zX3_isPerson
  rw [if_pos (by decide)]
theorem zX3_isPerson_eq {n : Nat} {u : MU} {r : Nat} {a : Int32} {P : Nat} (hP : u r 3 = nI P) (hP7 : P ≤ 7) : (∃ j, j < P ∧ a = nI j ∧ zX3_isPerson n u r a = some 1) ∨ ((¬ ∃ j, j < P ∧ a = nI j) ∧ zX3_isPerson n u r a = some 0) := by
  unfold zX3_isPerson
  by_cases h0 : a < 0
  · rw [if_pos h0]
    refine Or.inr ⟨?_, rfl⟩
    rintro ⟨j, hj, rfl⟩
    exact nI_pos (by omega) h0
  · rw [if_neg h0, hP]
    by_cases h1 : nI P ≤ a
    · rw [if_pos h1]
      refine Or.inr ⟨?_, rfl⟩
      rintro ⟨j, hj, rfl⟩
      rw [le_nI (by omega) (by omega)] at h1
      omega
    · rw [if_neg h1]
      obtain ⟨j, hj, rfl⟩ := nI_btw (by omega) h0 h1
      exact Or.inl ⟨j, hj, rfl, rfl⟩
/-! the load of a hand -/
def nrS (f : Nat → Int32) (h : Nat) : Nat → Int32
  | 0 => 0
  | k + 1 => if h ≤ k then nrS f h k else nrS f h k + f k
def frS (f : Nat → Int32) (h : Nat) : Nat → Int32
  | 0 => 0
  | k + 1 => if h ≤ k then frS f h k + f k else frS f h k
def mn (a b : Int32) : Int32 := if b < a then b else a
def mx (a b : Int32) : Int32 := if a < b then b else a
def ldS (f : Nat → Int32) (Y h : Nat) : Int32 := mn (nrS f h Y) (frS f h Y)
theorem zX3_loadOf_L {n : Nat} {u : MU} {r h Y : Nat} {k : Int32 → Int32 → Int32 → Option Int32} (hY : u r 0 = nI Y) (hY5 : Y ≤ 5) (hh : h ≤ 100) :
    ∀ (d j m : Nat), j + d = Y → d < m → zX3_loadOf_L7 n u r (nI h) k m (nrS (u (r + 2)) h j) (frS (u (r + 2)) h j) (nI j) = k (nrS (u (r + 2)) h Y) (frS (u (r + 2)) h Y) (nI Y) := by
  intro d
  induction d with
  | zero =>
    intro j m hj hm
    obtain ⟨m, rfl⟩ : ∃ e, m = e + 1 := ⟨m - 1, by omega⟩
    obtain rfl : j = Y := by omega
    rw [zX3_loadOf_L7, hY, if_pos (nI_le (Nat.le_refl _) (by omega))]
  | succ d ih =>
    intro j m hj hm
    obtain ⟨m, rfl⟩ : ∃ e, m = e + 1 := ⟨m - 1, by omega⟩
    rw [zX3_loadOf_L7, hY, if_neg (by rw [le_nI (by omega) (by omega)]; omega), oob_no (by omega : j < 5) (by omega), tn_nI (by omega), nI_1]
    simp only [letb, Bool.false_eq_true, if_false]
    rw [← ih (j + 1) m (by omega) (by omega)]
    by_cases hc : h ≤ j
    · rw [if_pos (by rw [le_nI (by omega) (by omega)]; exact hc)]
      simp only [nrS, frS, if_pos hc]
    · rw [if_neg (by rw [le_nI (by omega) (by omega)]; exact hc)]
      simp only [nrS, frS, if_neg hc]
theorem zX3_loadOf_eq {n : Nat} {u : MU} {r h Y : Nat} (hY : u r 0 = nI Y) (hY5 : Y ≤ 5) (hh : h ≤ 100) (hn : 10 ≤ n) : zX3_loadOf n u r (nI h) = some (ldS (u (r + 2)) Y h) := by
  unfold zX3_loadOf
  exact zX3_loadOf_L (k := fun y7 y8 y9 => some (if y8 < y7 then y8 else y7)) hY hY5 hh Y 0 n (by omega) (by omega)
/-! why somebody can't stand in a yard -/
def rchP (c : MU) (r p : Nat) : Int32 := rch (c (r + 7 + p) 0) (c (r + 7 + p) 2)
def hldP (c : MU) (r p : Nat) : Int32 := hld (c (r + 7 + p) 0) (c (r + 7 + p) 3) (c (r + 7 + p) 1)
def colP (c : MU) (r p : Nat) : Int32 := col (c (r + 7 + p) 0) (c r 1)
def mntP (c : MU) (r p : Nat) : Int32 := mnt (c (r + 7 + p) 0) (c (r + 7 + p) 4) (c r 1)
def ldR (c : MU) (r Y h : Nat) : Int32 := ldS (c (r + 2)) Y h
def whyN (c : MU) (r Y y p : Nat) : Int32 := if c (r + 1) y ≤ rchP c r p then (if mx (ldR c r Y y) (ldR c r Y (y + 1)) ≤ hldP c r p then -9 else 2) else 1
theorem zX3_whyNot_eq {n : Nat} {c : MU} {r Y y p : Nat} (hY : c r 0 = nI Y) (hY5 : Y ≤ 5) (hy : y < 5) (hp : p < 7) (hn : 10 ≤ n) : zX3_whyNot n c r (nI y) (nI p) = some (whyN c r Y y p) := by
  unfold zX3_whyNot whyN
  simp only [oob_no hp (by omega), oob_no hy (by omega), Bool.false_eq_true, if_false, tn_nI (show p < 2147483648 by omega), tn_nI (show y < 2147483648 by omega), zX2_reaches_eq, zX2_holds_eq, Option.bind_some, nI_1, zX3_loadOf_eq hY hY5 (show y ≤ 100 by omega) hn, zX3_loadOf_eq hY hY5 (show y + 1 ≤ 100 by omega) hn, so_if]
  rfl
/-! where somebody is -/
def srch (f : Nat → Int32) (v e : Int32) : Nat → Nat → Int32
  | 0, _ => e
  | d + 1, j => if f j = v then nI j else srch f v e d (j + 1)
theorem zX3_placeOf_L {n : Nat} {u : MU} {r Y : Nat} {s : Int32} {k : Int32 → Option Int32} {e : Int32} (hk : k (nI Y) = some e) (hY : u r 0 = nI Y) (hY5 : Y ≤ 5) :
    ∀ (d j m : Nat), j + d = Y → d < m → zX3_placeOf_L17 n u r s k m (nI j) = some (srch (u (r + 3)) s e d j) := by
  intro d
  induction d with
  | zero =>
    intro j m hj hm
    obtain ⟨m, rfl⟩ : ∃ e, m = e + 1 := ⟨m - 1, by omega⟩
    obtain rfl : j = Y := by omega
    rw [zX3_placeOf_L17, hY, if_pos (nI_le (Nat.le_refl _) (by omega)), hk]
    rfl
  | succ d ih =>
    intro j m hj hm
    obtain ⟨m, rfl⟩ : ∃ e, m = e + 1 := ⟨m - 1, by omega⟩
    rw [zX3_placeOf_L17, hY, if_neg (by rw [le_nI (by omega) (by omega)]; omega), oob_no (by omega : j < 5) (by omega), tn_nI (by omega), nI_1, ih (j + 1) m (by omega) (by omega)]
    simp only [Bool.false_eq_true, if_false, srch, so_if]
def plc (c : MU) (r Y p : Nat) : Int32 := if c (r + 7 + p) 5 = 0 then srch (c (r + 3)) (nI p) (-9) Y 0 else 9
theorem zX3_placeOf_eq {n : Nat} {c : MU} {r Y p : Nat} (hY : c r 0 = nI Y) (hY5 : Y ≤ 5) (hp : p < 7) (hn : 10 ≤ n) : zX3_placeOf n c r (nI p) = some (plc c r Y p) := by
  unfold zX3_placeOf plc
  have h := zX3_placeOf_L (n := n) (s := nI p) (k := fun y6 => some (-9)) rfl hY hY5 Y 0 n (by omega) (by omega)
  rw [nI_0] at h
  rw [oob_no hp (by omega), tn_nI (by omega), h, so_if]
  simp
theorem zX3_isNear_eq {n : Nat} {c : MU} {r Y p : Nat} (hY : c r 0 = nI Y) (hY5 : Y ≤ 5) (hp : p < 7) (hn : 10 ≤ n) : zX3_isNear n c r (nI p) = some (if plc c r Y p = -9 then 1 else 0) := by
  unfold zX3_isNear
  rw [zX3_placeOf_eq hY hY5 hp hn, Option.bind_some, so_if]
/-! counts -/
def cntI (f : Nat → Bool) : Nat → Int32
  | 0 => 0
  | k + 1 => if f k then cntI f k + 1 else cntI f k
theorem zX3_inWater_L {n : Nat} {u : MU} {r Y : Nat} {k : Int32 → Int32 → Option Int32} (hY : u r 0 = nI Y) (hY5 : Y ≤ 5) :
    ∀ (d j m : Nat), j + d = Y → d < m → zX3_inWater_L4 n u r k m (cntI (fun i => decide (u (r + 3) i ≠ -9)) j) (nI j) = k (cntI (fun i => decide (u (r + 3) i ≠ -9)) Y) (nI Y) := by
  intro d
  induction d with
  | zero =>
    intro j m hj hm
    obtain ⟨m, rfl⟩ : ∃ e, m = e + 1 := ⟨m - 1, by omega⟩
    obtain rfl : j = Y := by omega
    rw [zX3_inWater_L4, hY, if_pos (nI_le (Nat.le_refl _) (by omega))]
  | succ d ih =>
    intro j m hj hm
    obtain ⟨m, rfl⟩ : ∃ e, m = e + 1 := ⟨m - 1, by omega⟩
    rw [zX3_inWater_L4, hY, if_neg (by rw [le_nI (by omega) (by omega)]; omega), oob_no (by omega : j < 5) (by omega), tn_nI (by omega), nI_1, ← ih (j + 1) m (by omega) (by omega)]
    simp only [Bool.false_eq_true, if_false]
    by_cases hc : u (r + 3) j = -9
    · rw [if_pos hc]
      simp [cntI, hc]
    · rw [if_neg hc]
      simp [cntI, hc]
def inW (c : MU) (r Y : Nat) : Int32 := cntI (fun i => decide (c (r + 3) i ≠ -9)) Y
theorem zX3_inWater_eq {n : Nat} {c : MU} {r Y : Nat} (hY : c r 0 = nI Y) (hY5 : Y ≤ 5) (hn : 10 ≤ n) : zX3_inWater n c r = some (inW c r Y) := by
  unfold zX3_inWater
  exact zX3_inWater_L (k := fun y4 y5 => some y4) hY hY5 Y 0 n (by omega) (by omega)
theorem zX3_overThere_L {n : Nat} {u : MU} {r P : Nat} {k : Int32 → Int32 → Option Int32} (hP : u r 3 = nI P) (hP7 : P ≤ 7) :
    ∀ (d j m : Nat), j + d = P → d < m → zX3_overThere_L4 n u r k m (cntI (fun i => decide (u (r + 7 + i) 5 ≠ 0)) j) (nI j) = k (cntI (fun i => decide (u (r + 7 + i) 5 ≠ 0)) P) (nI P) := by
  intro d
  induction d with
  | zero =>
    intro j m hj hm
    obtain ⟨m, rfl⟩ : ∃ e, m = e + 1 := ⟨m - 1, by omega⟩
    obtain rfl : j = P := by omega
    rw [zX3_overThere_L4, hP, if_pos (nI_le (Nat.le_refl _) (by omega))]
  | succ d ih =>
    intro j m hj hm
    obtain ⟨m, rfl⟩ : ∃ e, m = e + 1 := ⟨m - 1, by omega⟩
    rw [zX3_overThere_L4, hP, if_neg (by rw [le_nI (by omega) (by omega)]; omega), oob_no (by omega : j < 7) (by omega), tn_nI (by omega), nI_1, ← ih (j + 1) m (by omega) (by omega)]
    simp only [Bool.false_eq_true, if_false]
    by_cases hc : u (r + 7 + j) 5 = 0
    · rw [if_pos hc]
      simp [cntI, hc]
    · rw [if_neg hc]
      simp [cntI, hc]
def ovT (c : MU) (r P : Nat) : Int32 := cntI (fun i => decide (c (r + 7 + i) 5 ≠ 0)) P
theorem zX3_overThere_eq {n : Nat} {c : MU} {r P : Nat} (hP : c r 3 = nI P) (hP7 : P ≤ 7) (hn : 10 ≤ n) : zX3_overThere n c r = some (ovT c r P) := by
  unfold zX3_overThere
  exact zX3_overThere_L (k := fun y4 y5 => some y4) hP hP7 P 0 n (by omega) (by omega)
theorem zX3_nearBank_eq {n : Nat} {c : MU} {r Y P : Nat} (hY : c r 0 = nI Y) (hY5 : Y ≤ 5) (hP : c r 3 = nI P) (hP7 : P ≤ 7) (hn : 10 ≤ n) : zX3_nearBank n c r = some (nI P - inW c r Y - ovT c r P) := by
  unfold zX3_nearBank
  rw [zX3_inWater_eq hY hY5 hn, Option.bind_some, zX3_overThere_eq hP hP7 hn, Option.bind_some, hP]
/-! the first that slips, and how long a chain lasts -/
def gb (c : MU) (r a b : Nat) : Int32 := (c (r + 5) a >>> (nI b &&& 31)) &&& 1
def whyS (c : MU) (r Y P : Nat) (h : Nat → Int32) (j : Nat) : Int32 :=
  if 0 ≤ h j ∧ h j < nI P then (if whyN c r Y j (h j).toNatClampNeg = -9 then (if j = 0 then -9 else if 0 ≤ h (j - 1) ∧ h (j - 1) < nI P then (if gb c r (h (j - 1)).toNatClampNeg (h j).toNatClampNeg = 1 then 3 else -9) else -9) else whyN c r Y j (h j).toNatClampNeg) else 0
theorem inP_iff {a : Int32} {P : Nat} (hP : P ≤ 7) : (0 ≤ a ∧ a < nI P) ↔ ∃ j, j < P ∧ a = nI j := by
  constructor
  · rintro ⟨h0, h1⟩
    have h0' : ¬ a < 0 := by rw [fa_lt']; rw [fa_le'] at h0; omega
    have h1' : ¬ nI P ≤ a := by rw [fa_le']; rw [fa_lt'] at h1; omega
    exact nI_btw (by omega) h0' h1'
  · rintro ⟨j, hj, rfl⟩
    exact ⟨nI_pos' (by omega), nI_lt hj (by omega)⟩
theorem zX3_whySlips_eq {n : Nat} {c : MU} {r Y P ch cn j : Nat} (hY : c r 0 = nI Y) (hY5 : Y ≤ 5) (hP : c r 3 = nI P) (hP7 : P ≤ 7) (hcn : 5 ≤ cn) (hcn2 : cn < 100) (hj : j < 5) (hn : 10 ≤ n) : zX3_whySlips n c r ch cn (nI j) = some (whyS c r Y P (c ch) j) := by
  unfold zX3_whySlips whyS
  rw [oob_no (show j < cn by omega) (by omega), tn_nI (by omega)]
  simp only [Bool.false_eq_true, if_false, letb]
  rcases zX3_isPerson_eq (n := n) (u := c) (r := r) (a := c ch j) hP hP7 with ⟨p, hp, e, hz⟩ | ⟨hno, hz⟩
  · rw [hz, Option.bind_some, if_neg (by decide), if_pos ((inP_iff hP7).mpr ⟨p, hp, e⟩), e, tn_nI (by omega), zX3_whyNot_eq hY hY5 hj (by omega) hn, Option.bind_some]
    by_cases hw : whyN c r Y j p = -9
    · rw [if_pos hw, if_pos hw]
      by_cases h0 : j = 0
      · subst h0
        rw [if_pos rfl, nI_0, if_pos rfl, hw]
      · rw [if_neg h0]
        obtain ⟨i, rfl⟩ : ∃ i, j = i + 1 := ⟨j - 1, by omega⟩
        rw [nI_m1, oob_no (show i < cn by omega) (by omega), tn_nI (by omega), Nat.add_sub_cancel]
        have hne : ¬ nI (i + 1) = 0 := nI_ne0 (by omega) (by omega)
        rw [if_neg hne]
        simp only [Bool.false_eq_true, if_false]
        rcases zX3_isPerson_eq (n := n) (u := c) (r := r) (a := c ch i) hP hP7 with ⟨p2, hp2, e2, hz2⟩ | ⟨hno2, hz2⟩
        · rw [hz2, Option.bind_some, if_neg (by decide), if_pos ((inP_iff hP7).mpr ⟨p2, hp2, e2⟩), e2, tn_nI (by omega)]
          simp only [zX3_grudgeOf, oob_no (show p2 < 7 by omega) (show p2 < 2147483648 by omega), Bool.false_eq_true, if_false, tn_nI (show p2 < 2147483648 by omega), Option.bind_some, gb, so_if]
          rfl
        · rw [hz2, Option.bind_some, if_pos rfl, if_neg (fun q => hno2 ((inP_iff hP7).mp q))]
    · rw [if_neg hw, if_neg hw]
  · rw [hz, Option.bind_some, if_pos rfl, if_neg (fun q => hno ((inP_iff hP7).mp q))]
def fsl (w : Nat → Int32) : Nat → Nat → Int32
  | 0, _ => -9
  | d + 1, j => if w j = -9 then fsl w d (j + 1) else nI j
theorem zX3_firstSlip_L {n : Nat} {c : MU} {r Y P ch cn : Nat} {k : Int32 → Option Int32} (hk : k (nI Y) = some (-9)) (hY : c r 0 = nI Y) (hY5 : Y ≤ 5) (hP : c r 3 = nI P) (hP7 : P ≤ 7) (hcn : 5 ≤ cn) (hcn2 : cn < 100) (hn : 10 ≤ n) :
    ∀ (d j m : Nat), j + d = Y → d < m → zX3_firstSlip_L2 n c r ch cn k m (nI j) = some (fsl (whyS c r Y P (c ch)) d j) := by
  intro d
  induction d with
  | zero =>
    intro j m hj hm
    obtain ⟨m, rfl⟩ : ∃ e, m = e + 1 := ⟨m - 1, by omega⟩
    obtain rfl : j = Y := by omega
    rw [zX3_firstSlip_L2, hY, if_pos (nI_le (Nat.le_refl _) (by omega)), hk]
    rfl
  | succ d ih =>
    intro j m hj hm
    obtain ⟨m, rfl⟩ : ∃ e, m = e + 1 := ⟨m - 1, by omega⟩
    rw [zX3_firstSlip_L2, hY, if_neg (by rw [le_nI (by omega) (by omega)]; omega), zX3_whySlips_eq hY hY5 hP hP7 hcn hcn2 (by omega) hn, Option.bind_some, nI_1, ih (j + 1) m (by omega) (by omega), so_if]
    rfl
def fslR (c : MU) (r Y P ch : Nat) : Int32 := fsl (whyS c r Y P (c ch)) Y 0
theorem zX3_firstSlip_eq {n : Nat} {c : MU} {r Y P ch cn : Nat} (hY : c r 0 = nI Y) (hY5 : Y ≤ 5) (hP : c r 3 = nI P) (hP7 : P ≤ 7) (hcn : 5 ≤ cn) (hcn2 : cn < 100) (hn : 10 ≤ n) : zX3_firstSlip n c r ch cn = some (fslR c r Y P ch) := by
  unfold zX3_firstSlip
  exact zX3_firstSlip_L (k := fun y5 => some (-9)) rfl hY hY5 hP hP7 hcn hcn2 hn Y 0 n (by omega) (by omega)
theorem fsl_all {w : Nat → Int32} : ∀ (d j : Nat), j + d < 1000 → (fsl w d j = -9 ↔ ∀ i, j ≤ i → i < j + d → w i = -9) := by
  intro d
  induction d with
  | zero => intro j hj; exact ⟨fun _ i h1 h2 => absurd h2 (by omega), fun _ => rfl⟩
  | succ d ih =>
    intro j hj
    simp only [fsl]
    by_cases h : w j = -9
    · rw [if_pos h, ih (j + 1) (by omega)]
      constructor
      · intro q i h1 h2
        by_cases e : i = j
        · rw [e]; exact h
        · exact q i (by omega) (by omega)
      · intro q i h1 h2
        exact q i (by omega) (by omega)
    · rw [if_neg h]
      constructor
      · intro e; exact absurd e (m9_ne' (by omega))
      · intro q; exact absurd (q j (Nat.le_refl _) (by omega)) h
theorem whyS_per {c : MU} {r Y P : Nat} {h : Nat → Int32} {j : Nat} (hP7 : P ≤ 7) (e : whyS c r Y P h j = -9) : ∃ p, p < P ∧ h j = nI p := by
  unfold whyS at e
  by_cases q : 0 ≤ h j ∧ h j < nI P
  · exact (inP_iff hP7).mp q
  · rw [if_neg q] at e
    exact absurd e (by decide)
def mfold (g : Nat → Int32) : Nat → Nat → Int32 → Int32
  | 0, _, a => a
  | d + 1, j, a => mfold g d (j + 1) (mn a (g j))
theorem zX3_minutesOf_L {n : Nat} {c : MU} {r Y ch cn : Nat} {k : Int32 → Int32 → Option Int32} (hY : c r 0 = nI Y) (hY5 : Y ≤ 5) (hcn : 5 ≤ cn) (hcn2 : cn < 100) (hper : ∀ j, j < Y → ∃ p, p < 7 ∧ c ch j = nI p) :
    ∀ (d j m : Nat) (a : Int32), j + d = Y → d < m → zX3_minutesOf_L18 n c r ch cn k m a (nI j) = k (mfold (fun j => mntP c r (c ch j).toNatClampNeg) d j a) (nI Y) := by
  intro d
  induction d with
  | zero =>
    intro j m a hj hm
    obtain ⟨m, rfl⟩ : ∃ e, m = e + 1 := ⟨m - 1, by omega⟩
    obtain rfl : j = Y := by omega
    rw [zX3_minutesOf_L18, hY, if_pos (nI_le (Nat.le_refl _) (by omega))]
    rfl
  | succ d ih =>
    intro j m a hj hm
    obtain ⟨m, rfl⟩ : ∃ e, m = e + 1 := ⟨m - 1, by omega⟩
    obtain ⟨p, hp, e⟩ := hper j (by omega)
    rw [zX3_minutesOf_L18, hY, if_neg (by rw [le_nI (by omega) (by omega)]; omega), oob_no (show j < cn by omega) (by omega), tn_nI (show j < 2147483648 by omega), e, oob_no hp (by omega), tn_nI (show p < 2147483648 by omega), zX2_minutes_eq, Option.bind_some, nI_1]
    simp only [Bool.false_eq_true, if_false, letb]
    rw [ih (j + 1) m _ (by omega) (by omega)]
    simp only [mfold, e, tn_nI (show p < 2147483648 by omega), mntP, mn]
def lstR (c : MU) (r Y ch : Nat) : Int32 := mfold (fun j => mntP c r (c ch j).toNatClampNeg) Y 0 2147483647
def mntR (c : MU) (r Y P ch : Nat) : Int32 := if fslR c r Y P ch = -9 then lstR c r Y ch else -9
theorem zX3_minutesOf_eq {n : Nat} {c : MU} {r Y P ch cn : Nat} (hY : c r 0 = nI Y) (hY5 : Y ≤ 5) (hP : c r 3 = nI P) (hP7 : P ≤ 7) (hcn : 5 ≤ cn) (hcn2 : cn < 100) (hn : 10 ≤ n) : zX3_minutesOf n c r ch cn = some (mntR c r Y P ch) := by
  unfold zX3_minutesOf mntR
  rw [zX3_firstSlip_eq hY hY5 hP hP7 hcn hcn2 hn, Option.bind_some]
  by_cases h : fslR c r Y P ch = -9
  · rw [if_pos h, if_pos h]
    have hall := (fsl_all Y 0 (by omega)).mp h
    have hp : ∀ j, j < Y → ∃ p, p < 7 ∧ c ch j = nI p := fun j hj => by
      obtain ⟨p, hp, e⟩ := whyS_per hP7 (hall j (by omega) (by omega))
      exact ⟨p, by omega, e⟩
    have := zX3_minutesOf_L (n := n) (k := fun y10 y11 => some y10) hY hY5 hcn hcn2 hp Y 0 n 2147483647 (by omega) (by omega)
    rw [nI_0] at this
    exact this
  · rw [if_neg h, if_neg h]
