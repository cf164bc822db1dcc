/-! ===== more that ask: person, slips, lasts, overs ===== -/
theorem srch_none {f : Nat → Int32} {v e : Int32} : ∀ (d j : Nat), (∀ i, j ≤ i → i < j + d → ¬ f i = v) → srch f v e d j = e := by
  intro d
  induction d with
  | zero => intro j _; rfl
  | succ d ih =>
    intro j h
    simp only [srch]
    rw [if_neg (h j (Nat.le_refl _) (by omega))]
    exact ih (j + 1) (fun i h1 h2 => h i (by omega) (by omega))
theorem zX5_yardOf_L {n : Nat} {u : MU} {Y : Nat} {s : Int32} {k : Int32 → Option Int32} {e : Int32} (hk : k (nI Y) = some e) (hY : u 53 12 = nI Y) (hY5 : Y ≤ 5) :
    ∀ (d j m : Nat), j + d = Y → d < m → zX5_yardOf_L2 n u s k m (nI j) = some (srch (u 57) s e d j) := by
  intro d
  induction d with
  | zero =>
    intro j m hj hm
    obtain ⟨m, rfl⟩ : ∃ e, m = e + 1 := ⟨m - 1, by omega⟩
    obtain rfl : j = Y := by omega
    rw [zX5_yardOf_L2, hY, if_pos (nI_le (Nat.le_refl _) (by omega)), hk]
    rfl
  | succ d ih =>
    intro j m hj hm
    obtain ⟨m, rfl⟩ : ∃ e, m = e + 1 := ⟨m - 1, by omega⟩
    rw [zX5_yardOf_L2, hY, if_neg (by rw [le_nI (by omega) (by omega)]; omega), oob_no (by omega : j < 5) (by omega), tn_nI (by omega), nI_1, ih (j + 1) m (by omega) (by omega)]
    simp only [Bool.false_eq_true, if_false, srch, so_if]
theorem zX5_yardOf_eq {n : Nat} {c u : MU} {r Y P p : Nat} (hI : RInv c r Y P) (hM : MX c r u) (h57 : u 57 = c (r + 3)) (hp : p < 7) (hn : 10 ≤ n) : zX5_yardOf n u (nI p) = some (plc c r Y p) := by
  have hY : u 53 12 = nI Y := hM.1.1.trans hI.1.2.2.2.1
  have hY5 := hI.1.2.1
  unfold zX5_yardOf plc
  have ho := (hM.2.2.2.2.1 p hp).2.2.2.2.2
  have h := zX5_yardOf_L (n := n) (u := u) (s := nI p) (k := fun _ => if oob (nI p) 7 = true then none else if u 63 (nI p).toNatClampNeg = 1 then some 9 else some (-9)) (e := if c (r + 7 + p) 5 = 1 then 9 else -9) (by simp only [oob_no hp (show p < 2147483648 by omega), Bool.false_eq_true, if_false, tn_nI (show p < 2147483648 by omega), ho, so_if]) hY hY5 Y 0 n (by omega) (by omega)
  rw [nI_0] at h
  rw [h, h57]
  rcases (hI.2.2.2.2.1 p hp).2.2.2.2.2 with e | e
  · rw [e]
    simp
  · rw [e, if_neg (by decide : ¬ (1 : Int32) = 0), if_pos rfl]
    congr 1
    apply srch_none
    intro i h1 h2 z
    rcases hI.2.2.1 i (by omega) with q | ⟨-, p2, hp2, q, q2⟩
    · rw [q] at z
      exact m9_ne (by omega) z
    · rw [q] at z
      rw [eq_nI (by have := hI.1.2.2.1; omega) (by omega)] at z
      subst z
      rw [e] at q2
      exact absurd q2 (by decide)
theorem who_chn {c : MU} {r Y P : Nat} (hI : RInv c r Y P) : chn Y P (c (r + 3)) := fun j hj => by
  rcases hI.2.2.1 j (by have := hI.1.2.1; omega) with e | ⟨-, p, hp, e, -⟩
  · exact Or.inl e
  · exact Or.inr ⟨p, hp, e⟩
theorem op_person (n : Nat) (hn : 10 ≤ n) (a b : Int32) : OPT (fun c => zX4_person n c a b) (fun u => zX5_person n u a b) := by
  intro c u hI hM
  obtain ⟨⟨Y, P, hR⟩, -⟩ := id hI
  have hX := hM.1
  have hP7 := hR.1.2.2.1
  have hm := m_isOne (n := n) (a := a) hX
  rcases zX3_isPerson_eq (n := n) (u := c) (r := 1) (a := a) hR.1.2.2.2.2.1 hP7 with ⟨p, hp, rfl, hz⟩ | ⟨-, hz⟩
  · rw [hz] at hm
    have o7 := oob_no (show p < 7 by omega) (show p < 2147483648 by omega)
    have t7 := tn_nI (show p < 2147483648 by omega)
    have hp7 : p < 7 := by omega
    obtain ⟨m0, m1, m2, m3, m4, m5⟩ := hX.2.2.2.2.1 p hp7
    by_cases b0 : b = 0
    · refine opt_same (v := c (1 + 7 + p) 0) hI hM ?_ ?_
      · simp [zX4_person, hz, b0, o7, t7]
      · simp [zX5_person, hm, b0, o7, t7, m0]
    by_cases b1 : b = 1
    · refine opt_same (v := c (1 + 7 + p) 1) hI hM ?_ ?_
      · simp [zX4_person, hz, b1, o7, t7]
      · simp [zX5_person, hm, b1, o7, t7, m1]
    by_cases b2 : b = 2
    · refine opt_same (v := c (1 + 7 + p) 2) hI hM ?_ ?_
      · simp [zX4_person, hz, b2, o7, t7]
      · simp [zX5_person, hm, b2, o7, t7, m2]
    by_cases b3 : b = 3
    · refine opt_same (v := c (1 + 7 + p) 3) hI hM ?_ ?_
      · simp [zX4_person, hz, b3, o7, t7]
      · simp [zX5_person, hm, b3, o7, t7, m3]
    by_cases b4 : b = 4
    · refine opt_same (v := c (1 + 7 + p) 4) hI hM ?_ ?_
      · simp [zX4_person, hz, b4, o7, t7]
      · simp [zX5_person, hm, b4, o7, t7, m4]
    by_cases b5 : b = 5
    · refine opt_same (v := rchP c 1 p) hI hM ?_ ?_
      · simp [zX4_person, hz, b5, o7, t7, zX2_reaches_eq, rchP]
      · simp [zX5_person, hm, b5, zX5_reachOf_eq hR hX hp7]
    by_cases b6 : b = 6
    · refine opt_same (v := hldP c 1 p) hI hM ?_ ?_
      · simp [zX4_person, hz, b6, o7, t7, zX2_holds_eq, hldP]
      · simp [zX5_person, hm, b6, zX5_holdOf_eq hR hX hp7]
    by_cases b7 : b = 7
    · refine opt_same (v := colP c 1 p) hI hM ?_ ?_
      · simp [zX4_person, hz, b7, o7, t7, zX2_cools_eq, colP]
      · simp [zX5_person, hm, b7, zX5_coolOf_eq hR hX hp7]
    by_cases b8 : b = 8
    · refine opt_same (v := plc c 1 Y p) hI hM ?_ ?_
      · simp [zX4_person, hz, b8, o7, t7, zX3_placeOf_eq (n := n) (r := 1) hR.1.2.2.2.1 hR.1.2.1 hp7 hn]
      · simp [zX5_person, hm, b8, zX5_yardOf_eq (n := n) hR hX hM.2.1 hp7 hn]
    refine opt_ref 2 (by decide) (n := n) hI hM ?_ ?_
    · simp only [zX4_person, hz, Option.bind_some, if_neg b0, if_neg b1, if_neg b2, if_neg b3, if_neg b4, if_neg b5, if_neg b6, if_neg b7, if_neg b8, o7]
      rfl
    · simp only [zX5_person, hm, Option.bind_some, if_neg b0, if_neg b1, if_neg b2, if_neg b3, if_neg b4, if_neg b5, if_neg b6, if_neg b7, if_neg b8]
      rfl
  · rw [hz] at hm
    refine opt_ref 1 (by decide) (n := n) hI hM ?_ ?_
    · simp only [zX4_person, hz, Option.bind_some]
      rfl
    · simp only [zX5_person, hm, Option.bind_some]
      rfl
theorem fs_slv {w : Nat → Int32} : ∀ (d j : Nat), (fsl w d j = -9 ∧ slv w d j = -9) ∨ ∃ i, j ≤ i ∧ i < j + d ∧ fsl w d j = nI i ∧ slv w d j = w i := by
  intro d
  induction d with
  | zero => intro j; exact Or.inl ⟨rfl, rfl⟩
  | succ d ih =>
    intro j
    simp only [fsl, slv]
    by_cases h : w j = -9
    · rw [if_pos h, if_pos h]
      rcases ih (j + 1) with q | ⟨i, h1, h2, h3, h4⟩
      · exact Or.inl q
      · exact Or.inr ⟨i, by omega, by omega, h3, h4⟩
    · rw [if_neg h, if_neg h]
      exact Or.inr ⟨j, Nat.le_refl _, by omega, rfl, rfl⟩
/-- the relation over the model's scratch numbers -/
theorem MREL_sc {c u u' : MU} (h : ∀ k, k ≠ 53 → u' k = u k) (h53 : ∀ i, i ≠ 27 → i ≠ 28 → u' 53 i = u 53 i) (hM : MREL c u) : MREL c u' :=
  MREL_cg (fun _ _ => rfl) (fun k _ _ => h k (by omega)) (h 73 (by omega)) (fun i _ => by rw [h 70 (by omega)]) (fun i hi => h53 i (by omega) (by omega)) hM
theorem op_slips (n : Nat) (hn : 10 ≤ n) (a : Int32) : OPT (fun c => zX4_slips n c a) (fun u => zX5_slips n u a) := by
  intro c u hI hM
  obtain ⟨⟨Y, P, hR⟩, -⟩ := id hI
  have hX := hM.1
  have hP7 := hR.1.2.2.1
  have hY5 := hR.1.2.1
  have hY := hR.1.2.2.2.1
  have hP := hR.1.2.2.2.2.1
  obtain ⟨u', f1, f2, f3, f4, f5⟩ := zX5_findSlip_eq (n := n) hR hX (by rw [hM.2.1]; exact who_chn hR) hn
  rw [hM.2.1] at f2 f3
  have hfs := zX3_firstSlip_eq (n := n) (r := 1) (ch := 1 + 3) (cn := 5) hY hY5 hP hP7 (by omega) (by omega) hn
  have hfe : fslR c 1 Y P (1 + 3) = fsl (whyS c 1 Y P (c 4)) Y 0 := rfl
  rw [hfe] at hfs
  by_cases a0 : a = 0
  · refine ⟨fsl (whyS c 1 Y P (c 4)) Y 0, c, u', ?_, ?_, hI, MREL_sc f4 f5 hM⟩
    · show zX4_slips n c a = some (fsl (whyS c 1 Y P (c 4)) Y 0, c)
      simp only [zX4_slips, a0, if_true, hfs, Option.bind_some]
      split <;> rfl
    · simp [zX5_slips, zX5_isIn, a0, f1, f2]
  · by_cases a1 : a = 1
    · refine ⟨slv (whyS c 1 Y P (c 4)) Y 0, c, u', ?_, ?_, hI, MREL_sc f4 f5 hM⟩
      · show zX4_slips n c a = some (slv (whyS c 1 Y P (c 4)) Y 0, c)
        subst a1
        simp only [zX4_slips, if_neg a0, if_true, hfs, Option.bind_some]
        rcases fs_slv (w := whyS c 1 Y P (c 4)) Y 0 with ⟨q1, q2⟩ | ⟨i, h1, h2, h3, h4⟩
        · rw [q1, if_pos rfl, q2]
        · rw [h3, if_neg (m9_ne' (by omega)), zX3_whySlips_eq hY hY5 hP hP7 (by omega) (by omega) (by omega) hn, Option.bind_some, h4]
      · have e0 : ¬ (1 : Int32) < 0 := by decide
        have e1 : ¬ (1 : Int32) < 1 := by decide
        have e2 : ¬ (1 : Int32) = 0 := by decide
        subst a1
        simp only [zX5_slips, zX5_isIn, if_neg e0, if_neg e1, Option.bind_some, if_neg e2, f1, f3]
    · refine opt_ref 2 (by decide) (n := n) hI hM ?_ ?_
      · simp only [zX4_slips, if_neg a0, if_neg a1]
        rfl
      · have hz : zX5_isIn n u a 0 1 = some 0 := by
          unfold zX5_isIn
          by_cases h0 : a < 0
          · rw [if_pos h0]
          · rw [if_neg h0, if_pos]
            obtain ⟨j, hj, rfl⟩ := nI_of h0
            rw [show (1 : Int32) = nI 1 from rfl, lt_nI (by omega) hj]
            have : j ≠ 0 := fun z => a0 (by rw [z]; rfl)
            have : j ≠ 1 := fun z => a1 (by rw [z]; rfl)
            omega
        simp only [zX5_slips, hz, Option.bind_some]
        rfl
