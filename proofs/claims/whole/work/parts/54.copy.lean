/-! ===== a river copied ===== -/
theorem zX2_copyFrom_eq {n p p1 : Nat} {u : MU} (hp : p ≠ p1) (hb : u p1 5 = 0 ∨ u p1 5 = 1) : ∃ u', zX2_copyFrom n u p p1 = some u' ∧ ∀ a b, u' a b = if a = p ∧ b < 6 then u p1 b else u a b := by
  have hp' : p1 ≠ p := Ne.symm hp
  refine ⟨up2 (up2 (up2 (up2 (up2 (up2 u p 0 (u p1 0)) p 1 (u p1 1)) p 2 (u p1 2)) p 3 (u p1 3)) p 4 (u p1 4)) p 5 (u p1 5), ?_, fun a b => ?_⟩
  · unfold zX2_copyFrom
    simp only [letb, up2_o hp']
    rw [if_pos hb]
  · by_cases h : a = p
    · subst h
      by_cases h6 : b < 6
      · rw [if_pos ⟨rfl, h6⟩]
        match b, h6 with
        | 0, _ => simp [up2]
        | 1, _ => simp [up2]
        | 2, _ => simp [up2]
        | 3, _ => simp [up2]
        | 4, _ => simp [up2]
        | 5, _ => simp [up2]
        | b + 6, h => exact absurd h (by omega)
      · rw [if_neg (fun z => h6 z.2), up2_i (by omega), up2_i (by omega), up2_i (by omega), up2_i (by omega), up2_i (by omega), up2_i (by omega)]
    · rw [if_neg (fun z => h z.1), up2_o h, up2_o h, up2_o h, up2_o h, up2_o h, up2_o h]
theorem copyFrom_L {n r r1 : Nat} {k : Int32 → MU → Option MU} (hd : r + 14 ≤ r1 ∨ r1 + 14 ≤ r) :
    ∀ (d j m : Nat) (u : MU), j + d = 7 → d < m → (∀ q, q < 7 → u (r1 + 7 + q) 5 = 0 ∨ u (r1 + 7 + q) 5 = 1) →
      ∃ u', zX3_copyFrom_L106 n r r1 k m (nI j) u = k (nI 7) u' ∧ ∀ a b, u' a b = if r + 7 + j ≤ a ∧ a < r + 14 ∧ b < 6 then u (r1 + (a - r)) b else u a b := by
  intro d
  induction d with
  | zero =>
    intro j m u hj hm hb
    obtain ⟨m, rfl⟩ : ∃ e, m = e + 1 := ⟨m - 1, by omega⟩
    obtain rfl : j = 7 := by omega
    refine ⟨u, ?_, fun a b => by rw [if_neg (by omega)]⟩
    rw [zX3_copyFrom_L106, if_pos (by decide)]
  | succ d ih =>
    intro j m u hj hm hb
    obtain ⟨m, rfl⟩ : ∃ e, m = e + 1 := ⟨m - 1, by omega⟩
    obtain ⟨u1, f1, f2⟩ := zX2_copyFrom_eq (n := n) (p := r + 7 + j) (p1 := r1 + 7 + j) (u := u) (by omega) (hb j (by omega))
    obtain ⟨u', g1, g2⟩ := ih (j + 1) m u1 (by omega) (by omega) (fun q hq => by rw [f2, if_neg (by omega)]; exact hb q hq)
    refine ⟨u', ?_, fun a b => ?_⟩
    · rw [zX3_copyFrom_L106, if_neg (by rw [show (7 : Int32) = nI 7 from rfl, le_nI (by omega) (by omega)]; omega), oob_no (by omega : j < 7) (by omega), tn_nI (by omega), nI_1, f1]
      simp only [Bool.false_eq_true, if_false, Option.bind_some]
      exact g1
    · rw [g2]
      by_cases h1 : r + 7 + (j + 1) ≤ a ∧ a < r + 14 ∧ b < 6
      · rw [if_pos h1, if_pos (by omega), f2, if_neg (by omega)]
      · rw [if_neg h1, f2]
        by_cases h2 : a = r + 7 + j ∧ b < 6
        · rw [if_pos h2, if_pos (by omega)]
          congr 1
          omega
        · rw [if_neg h2, if_neg (by omega)]
/-- which slots of a river's places are copied -/
def inRv (f b : Nat) : Bool := decide ((f = 0 ∧ b < 4) ∨ ((f = 1 ∨ f = 2 ∨ f = 3) ∧ b < 5) ∨ (f = 5 ∧ b < 7) ∨ (f = 6 ∧ b < 49) ∨ (7 ≤ f ∧ f < 14 ∧ b < 6))
theorem upc_at {u : MU} {k0 k1 n a b : Nat} : upc u k0 k1 0 0 n a b = if a = k1 ∧ b < n then u k0 b else u a b := by
  unfold upc va_cpy
  by_cases h : a = k1
  · subst h
    by_cases h2 : b < n
    · rw [if_pos rfl, if_pos ⟨by omega, by omega⟩, if_pos ⟨rfl, h2⟩]
      congr 1
      omega
    · rw [if_pos rfl, if_neg (by omega), if_neg (fun z => h2 z.2)]
  · rw [if_neg h, if_neg (fun z => h z.1)]
theorem up2_at {u : MU} {k j a b : Nat} {v : Int32} : up2 u k j v a b = if a = k ∧ b = j then v else u a b := rfl
set_option maxHeartbeats 4000000 in
theorem zX3_copyFrom_eq {n r r1 : Nat} {u : MU} (hd : r + 14 ≤ r1 ∨ r1 + 14 ≤ r) (hb : ∀ q, q < 7 → u (r1 + 7 + q) 5 = 0 ∨ u (r1 + 7 + q) 5 = 1) (hn : 10 ≤ n) : ∃ u', zX3_copyFrom n u r r1 = some u' ∧ ∀ a b, u' a b = if r ≤ a ∧ inRv (a - r) b = true then u (r1 + (a - r)) b else u a b := by
  unfold zX3_copyFrom
  simp only [letb]
  have e5 : (5 : Int32).toNatClampNeg = 5 := rfl
  have e7 : (7 : Int32).toNatClampNeg = 7 := rfl
  have e49 : (49 : Int32).toNatClampNeg = 49 := rfl
  rw [e5, e7, e49]
  generalize hg : upc (upc (upc (upc (upc (up2 (up2 (up2 (up2 u r 0 (u r1 0)) r 1 (up2 u r 0 (u r1 0) r1 1)) r 2 (up2 (up2 u r 0 (u r1 0)) r 1 (up2 u r 0 (u r1 0) r1 1) r1 2)) r 3 (up2 (up2 (up2 u r 0 (u r1 0)) r 1 (up2 u r 0 (u r1 0) r1 1)) r 2 (up2 (up2 u r 0 (u r1 0)) r 1 (up2 u r 0 (u r1 0) r1 1) r1 2) r1 3)) (r1 + 1) (r + 1) 0 0 5) (r1 + 2) (r + 2) 0 0 5) (r1 + 3) (r + 3) 0 0 5) (r1 + 5) (r + 5) 0 0 7) (r1 + 6) (r + 6) 0 0 49 = u9
  have h9 : ∀ a b, u9 a b = if r ≤ a ∧ a < r + 7 ∧ inRv (a - r) b = true then u (r1 + (a - r)) b else u a b := by
    intro a b
    rw [← hg]
    simp only [upc_at, up2_at, inRv, decide_eq_true_eq]
    have nr : ∀ i j, i < 14 → j < 14 → (r1 + i = r + j) = False := fun i j _ _ => by
      apply propext
      exact ⟨fun h => by omega, False.elim⟩
    have n0 : (r1 = r) = False := by
      apply propext
      exact ⟨fun h => by omega, False.elim⟩
    have nj : ∀ j, j < 14 → (r1 = r + j) = False := fun j _ => by
      apply propext
      exact ⟨fun h => by omega, False.elim⟩
    have ni : ∀ i, i < 14 → (r1 + i = r) = False := fun i _ => by
      apply propext
      exact ⟨fun h => by omega, False.elim⟩
    simp only [nr 1 6 (by omega) (by omega), nr 1 5 (by omega) (by omega), nr 1 3 (by omega) (by omega), nr 1 2 (by omega) (by omega), nr 1 1 (by omega) (by omega), nr 2 6 (by omega) (by omega), nr 2 5 (by omega) (by omega), nr 2 3 (by omega) (by omega), nr 2 2 (by omega) (by omega), nr 2 1 (by omega) (by omega), nr 3 6 (by omega) (by omega), nr 3 5 (by omega) (by omega), nr 3 3 (by omega) (by omega), nr 3 2 (by omega) (by omega), nr 3 1 (by omega) (by omega), nr 5 6 (by omega) (by omega), nr 5 5 (by omega) (by omega), nr 5 3 (by omega) (by omega), nr 5 2 (by omega) (by omega), nr 5 1 (by omega) (by omega), nr 6 6 (by omega) (by omega), nr 6 5 (by omega) (by omega), nr 6 3 (by omega) (by omega), nr 6 2 (by omega) (by omega), nr 6 1 (by omega) (by omega), n0, ni 1 (by omega), ni 2 (by omega), ni 3 (by omega), ni 5 (by omega), ni 6 (by omega), false_and, if_false]
    repeat' split
    all_goals first | rfl | (exfalso; omega) | (congr 1 <;> omega)
  have hb9 : ∀ q, q < 7 → u9 (r1 + 7 + q) 5 = 0 ∨ u9 (r1 + 7 + q) 5 = 1 := fun q hq => by
    rw [h9, if_neg (by omega)]
    exact hb q hq
  obtain ⟨u', g1, g2⟩ := copyFrom_L (n := n) (k := fun y15 w16 => some w16) hd 7 0 n u9 (by omega) (by omega) hb9
  rw [nI_0] at g1
  refine ⟨u', g1, fun a b => ?_⟩
  rw [g2, h9, h9]
  simp only [inRv, decide_eq_true_eq]
  repeat' split
  all_goals first | rfl | (exfalso; omega) | (congr 1 <;> omega)
