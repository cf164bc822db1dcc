/-! ===== numbers: loop counters are nI j ===== -/
theorem tn_nI {j : Nat} (h : j < 2147483648) : (nI j).toNatClampNeg = j := nI_clamp h
theorem le_nI {a b : Nat} (ha : a < 2147483648) (hb : b < 2147483648) : (nI a ≤ nI b) = (a ≤ b) := propext (nI_leI ha hb)
theorem lt_nI {a b : Nat} (ha : a < 2147483648) (hb : b < 2147483648) : (nI a < nI b) = (a < b) := propext (nI_ltI ha hb)
theorem eq_nI {a b : Nat} (ha : a < 2147483648) (hb : b < 2147483648) : (nI a = nI b) = (a = b) := propext (nI_eq ha hb)
theorem neg_nI {a : Nat} (ha : a < 2147483648) : (nI a < 0) = False := propext ⟨fun h => nI_pos ha h, False.elim⟩
theorem pos_nI {a : Nat} (ha : a < 2147483648) : (0 ≤ nI a) = True := propext ⟨fun _ => trivial, fun _ => nI_pos' ha⟩
theorem oob_no {j n : Nat} (h : j < n) (hj : j < 2147483648) : oob (nI j) n = false := by
  have h1 : ¬ nI j < 0 := nI_pos hj
  have h2 : ¬ n ≤ j := by omega
  simp [oob, h1, nI_clamp hj, h2]
theorem oob_iff {i : Int32} {n : Nat} (hn : n < 2147483648) (h : ¬ oob i n = true) : ∃ j, j < n ∧ i = nI j := vp_in_of (oob_f h) hn
theorem oob_in {i : Int32} {n j : Nat} (hi : i = nI j) (h : j < n) (hj : j < 2147483648) : ¬ oob i n = true := by
  rw [hi, oob_no h hj]; decide
theorem nI_m1 {j : Nat} : nI (j + 1) - 1 = nI j := nI_pred j
/-- an Int32 that is 0 at least and below nI n is a Nat -/
theorem nI_btw {i : Int32} {n : Nat} (hn : n < 2147483648) (h0 : ¬ i < 0) (h1 : ¬ nI n ≤ i) : ∃ j, j < n ∧ i = nI j := by
  obtain ⟨j, hj, rfl⟩ := nI_of h0
  refine ⟨j, ?_, rfl⟩
  rw [le_nI hn hj] at h1
  omega
theorem m9_ne {j : Nat} (h : j < 1000) : ¬ ((-9 : Int32) = nI j) := by
  intro e
  have h1 : (-9 : Int32).toInt = (nI j).toInt := by rw [e]
  rw [nI_toInt (by omega)] at h1
  have h2 : (-9 : Int32).toInt = -9 := by decide
  omega
theorem m9_ne' {j : Nat} (h : j < 1000) : ¬ (nI j = (-9 : Int32)) := fun e => m9_ne h e.symm
theorem fa_lt' (a b : Int32) : a < b ↔ a.toInt < b.toInt := Int32.lt_iff_toInt_lt
theorem fa_le' (a b : Int32) : a ≤ b ↔ a.toInt ≤ b.toInt := Int32.le_iff_toInt_le
theorem fa_z0 : (0 : Int32).toInt = 0 := rfl
