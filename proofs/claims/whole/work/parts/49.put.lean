/-! ===== somebody enters a yard: put ===== -/
def cl (q : Nat) (v : Int32) : Nat → Nat → MU → MU
  | 0, _, u => u
  | d + 1, j, u => cl q v d (j + 1) (if u q j = v then up2 u q j (-9) else u)
theorem cl_o {q : Nat} {v : Int32} {a : Nat} (h : a ≠ q) : ∀ (d j : Nat) (u : MU), cl q v d j u a = u a := by
  intro d
  induction d with
  | zero => intro j u; rfl
  | succ d ih =>
    intro j u
    simp only [cl]
    rw [ih]
    split
    · rw [up2_o h]
    · rfl
theorem cl_in {q : Nat} {v : Int32} {b : Nat} : ∀ (d j : Nat) (u : MU), cl q v d j u q b = if j ≤ b ∧ b < j + d ∧ u q b = v then -9 else u q b := by
  intro d
  induction d with
  | zero => intro j u; rw [if_neg (by omega)]; rfl
  | succ d ih =>
    intro j u
    simp only [cl]
    rw [ih]
    by_cases h : b = j
    · subst h
      rw [if_neg (by omega)]
      by_cases h2 : u q b = v
      · rw [if_pos h2, up2_s, if_pos ⟨by omega, by omega, h2⟩]
      · rw [if_neg h2, if_neg (fun z => h2 z.2.2)]
    · have e : (if u q j = v then up2 u q j (-9) else u) q b = u q b := by
        split
        · rw [up2_i h]
        · rfl
      rw [e]
      by_cases h2 : u q b = v
      · by_cases h3 : j ≤ b ∧ b < j + (d + 1)
        · rw [if_pos ⟨by omega, by omega, h2⟩, if_pos ⟨h3.1, h3.2, h2⟩]
        · rw [if_neg (by omega), if_neg (by omega)]
      · rw [if_neg (fun z => h2 z.2.2), if_neg (fun z => h2 z.2.2)]
theorem zX3_enter_L {n r Y : Nat} {s1 s2 : Int32} {k : Int32 → MU → Option MU} (hY5 : Y ≤ 5) : ∀ (d j m : Nat) (u : MU), u r 0 = nI Y → j + d = Y → d < m → zX3_enter_L2 n r s1 s2 k m (nI j) u = k (nI Y) (cl (r + 3) s2 d j u) := by
  intro d
  induction d with
  | zero =>
    intro j m u hY hj hm
    obtain ⟨m, rfl⟩ : ∃ e, m = e + 1 := ⟨m - 1, by omega⟩
    obtain rfl : j = Y := by omega
    rw [zX3_enter_L2, hY, if_pos (nI_le (Nat.le_refl _) (by omega))]
    rfl
  | succ d ih =>
    intro j m u hY hj hm
    obtain ⟨m, rfl⟩ : ∃ e, m = e + 1 := ⟨m - 1, by omega⟩
    rw [zX3_enter_L2, hY, if_neg (by rw [le_nI (by omega) (by omega)]; omega), oob_no (by omega : j < 5) (by omega), tn_nI (by omega), nI_1]
    simp only [Bool.false_eq_true, if_false, letb, cl]
    by_cases h : u (r + 3) j = s2
    · rw [if_pos h, if_pos h]
      exact ih (j + 1) m _ (by rw [up2_o (by omega)]; exact hY) (by omega) (by omega)
    · rw [if_neg h, if_neg h]
      exact ih (j + 1) m _ hY (by omega) (by omega)
def entC (c : MU) (r Y y p : Nat) : MU := up2 (cl (r + 3) (nI p) Y 0 c) (r + 3) y (nI p)
theorem zX3_enter_eq {n r Y y p : Nat} {c : MU} (hY : c r 0 = nI Y) (hY5 : Y ≤ 5) (hy : y < 5) (hn : 10 ≤ n) : zX3_enter n c r (nI y) (nI p) = some (entC c r Y y p) := by
  unfold zX3_enter
  have h := zX3_enter_L (n := n) (r := r) (s1 := nI y) (s2 := nI p) (k := fun y6 w7 => if oob (nI y) 5 = true then none else letb (up2 w7 (r + 3) (nI y).toNatClampNeg (nI p)) (fun u9 => some u9)) hY5 Y 0 n c hY (by omega) (by omega)
  rw [nI_0] at h
  rw [h, oob_no hy (by omega), tn_nI (by omega)]
  rfl
theorem entC_o {c : MU} {r Y y p k : Nat} (h : k ≠ r + 3) : entC c r Y y p k = c k := by
  unfold entC
  rw [up2_o h, cl_o h]
theorem entC_row {c : MU} {r Y y p b : Nat} : entC c r Y y p (r + 3) b = if b = y then nI p else if b < Y ∧ c (r + 3) b = nI p then -9 else c (r + 3) b := by
  unfold entC
  by_cases h : b = y
  · subst h; rw [up2_s, if_pos rfl]
  · rw [up2_i h, if_neg h, cl_in]
    by_cases h2 : b < Y ∧ c (r + 3) b = nI p
    · rw [if_pos ⟨by omega, by omega, h2.2⟩, if_pos h2]
    · rw [if_neg (fun z => h2 ⟨by omega, z.2.2⟩), if_neg h2]
theorem srch_found {f : Nat → Int32} {v e : Int32} : ∀ (d j : Nat), (srch f v e d j = e ∧ ∀ i, j ≤ i → i < j + d → ¬ f i = v) ∨ ∃ i, j ≤ i ∧ i < j + d ∧ f i = v ∧ srch f v e d j = nI i := by
  intro d
  induction d with
  | zero => intro j; exact Or.inl ⟨rfl, fun i h1 h2 => absurd h2 (by omega)⟩
  | succ d ih =>
    intro j
    simp only [srch]
    by_cases h : f j = v
    · rw [if_pos h]
      exact Or.inr ⟨j, Nat.le_refl _, by omega, h, rfl⟩
    · rw [if_neg h]
      rcases ih (j + 1) with ⟨q1, q2⟩ | ⟨i, h1, h2, h3, h4⟩
      · refine Or.inl ⟨q1, fun i h1 h2 => ?_⟩
        by_cases e : i = j
        · rw [e]; exact h
        · exact q2 i (by omega) (by omega)
      · exact Or.inr ⟨i, by omega, by omega, h3, h4⟩
theorem RInv_ent {c : MU} {r Y P y p : Nat} (hI : RInv c r Y P) (hy : y < Y) (hp : p < P) (ho : c (r + 7 + p) 5 = 0) : RInv (entC c r Y y p) r Y P := by
  obtain ⟨j1, j2, j3, j4, j5, j6, j7, j8⟩ := hI
  have hY5 := j1.2.1
  have hP7 := j1.2.2.1
  have o : ∀ f, f ≠ 3 → entC c r Y y p (r + f) = c (r + f) := fun f hf => entC_o (by omega)
  have o0 : entC c r Y y p r = c r := entC_o (by omega)
  have op : ∀ q, entC c r Y y p (r + 7 + q) = c (r + 7 + q) := fun q => entC_o (by omega)
  have hg : ∀ a b, gb (entC c r Y y p) r a b = gb c r a b := fun a b => by unfold gb; rw [o 5 (by omega)]
  have row : ∀ k, k < 5 → (k = y ∧ entC c r Y y p (r + 3) k = nI p) ∨ (k ≠ y ∧ entC c r Y y p (r + 3) k = -9) ∨ (k ≠ y ∧ entC c r Y y p (r + 3) k = c (r + 3) k ∧ ¬ c (r + 3) k = nI p) := fun k hk => by
    rw [entC_row]
    by_cases h : k = y
    · exact Or.inl ⟨h, by rw [if_pos h]⟩
    · by_cases h2 : k < Y ∧ c (r + 3) k = nI p
      · exact Or.inr (Or.inl ⟨h, by rw [if_neg h, if_pos h2]⟩)
      · refine Or.inr (Or.inr ⟨h, by rw [if_neg h, if_neg h2], fun z => ?_⟩)
        rcases j3 k hk with e | ⟨q, -⟩
        · rw [e] at z; exact m9_ne (by omega) z
        · exact h2 ⟨q, z⟩
  refine ⟨by rw [o0]; exact j1, fun k hk => by rw [o 1 (by omega), o 2 (by omega)]; exact j2 k hk, fun k hk => ?_, fun x k hx hk e => ?_, fun q hq => by rw [op]; exact j5 q hq, fun a ha => by rw [o 5 (by omega)]; exact j6 a ha, fun a b ha hb => by rw [hg, hg]; exact j7 a b ha hb, fun a b ha hb => by rw [o 6 (by omega)]; exact j8 a b ha hb⟩
  · rcases row k hk with ⟨h1, h2⟩ | ⟨h1, h2⟩ | ⟨h1, h2, h3⟩
    · exact Or.inr ⟨by omega, p, hp, h2, by rw [op]; exact ho⟩
    · exact Or.inl h2
    · rw [h2]
      rcases j3 k hk with e | ⟨q, p2, hp2, e, e2⟩
      · exact Or.inl e
      · exact Or.inr ⟨q, p2, hp2, e, by rw [op]; exact e2⟩
  · rcases row x hx with ⟨h1, h2⟩ | ⟨h1, h2⟩ | ⟨h1, h2, h3⟩
    · rcases row k hk with ⟨g1, g2⟩ | ⟨g1, g2⟩ | ⟨g1, g2, g3⟩
      · exact Or.inr (by omega)
      · rw [h2, g2] at e
        exact absurd e (m9_ne' (by omega))
      · rw [h2, g2] at e
        exact absurd e.symm g3
    · exact Or.inl h2
    · rcases row k hk with ⟨g1, g2⟩ | ⟨g1, g2⟩ | ⟨g1, g2, g3⟩
      · rw [h2, g2] at e
        exact absurd e h3
      · rw [e]; exact Or.inl g2
      · rw [h2, g2] at e
        rw [h2]
        exact j4 x k hx hk e
theorem ZR_ent {c : MU} {r Y P y p : Nat} (hZ : ZR c r) (hy : y < 5) (hY5 : Y ≤ 5) : ZR (entC c r Y y p) r := by
  refine ⟨fun i hi => ?_, fun i hi => by rw [entC_o (by omega)]; exact hZ.2 i hi⟩
  rw [entC_o (by omega), entC_o (by omega), entC_row, if_neg (by omega), if_neg (by omega)]
  exact hZ.1 i hi
/-- the model's sets: only the row of who stands in the water changes, and it is the class's -/
theorem zX5_sets_eq {n : Nat} {c u : MU} {r Y P y p : Nat} (hI : RInv c r Y P) (hM : MX c r u) (h57 : u 57 = c (r + 3)) (hy : y < Y) (hp : p < P) (ho : c (r + 7 + p) 5 = 0) (hn : 10 ≤ n) :
    ∃ u', zX5_sets n u (nI y) (nI p) = some u' ∧ (∀ k, k ≠ 57 → u' k = u k) ∧ u' 57 = entC c r Y y p (r + 3) := by
  have hY5 := hI.1.2.1
  have hP7 := hI.1.2.2.1
  unfold zX5_sets
  rw [zX5_yardOf_eq hI hM h57 (by omega) hn, Option.bind_some]
  have hpl : plc c r Y p = srch (c (r + 3)) (nI p) (-9) Y 0 := by unfold plc; rw [if_pos ho]
  rw [hpl]
  rcases srch_found (f := c (r + 3)) (v := nI p) (e := -9) Y 0 with ⟨q1, q2⟩ | ⟨i, h1, h2, h3, h4⟩
  · rw [q1, if_pos (by decide), oob_no (show y < 5 by omega) (by omega), tn_nI (by omega)]
    simp only [Bool.false_eq_true, if_false, letb]
    refine ⟨_, rfl, fun k hk => up2_o hk, ?_⟩
    funext b
    rw [entC_row]
    by_cases h : b = y
    · subst h; rw [up2_s, if_pos rfl]
    · rw [up2_i h, if_neg h, if_neg (fun z => q2 b (by omega) (by omega) z.2), h57]
  · rw [h4, if_neg (nI_pos (by omega)), oob_no (show i < 5 by omega) (by omega), tn_nI (by omega), oob_no (show y < 5 by omega) (by omega), tn_nI (by omega)]
    simp only [Bool.false_eq_true, if_false, letb]
    refine ⟨_, rfl, fun k hk => by rw [up2_o hk, up2_o hk], ?_⟩
    funext b
    rw [entC_row]
    by_cases h : b = y
    · subst h; rw [up2_s, if_pos rfl]
    · rw [up2_i h, if_neg h]
      by_cases h5 : b = i
      · subst h5
        rw [up2_s, if_pos ⟨by omega, h3⟩]
      · rw [up2_i h5, h57, if_neg]
        rintro ⟨z1, z2⟩
        rcases hI.2.2.2.1 b i (by omega) (by omega) (by rw [z2, h3]) with e | e
        · rw [z2] at e; exact m9_ne' (by omega) e
        · exact h5 e
theorem MX_ent {c u u' : MU} {r Y y p : Nat} (hM : MX c r u) (hu : ∀ k, k ≠ 57 → u' k = u k) : MX (entC c r Y y p) r u' := by
  obtain ⟨m1, m2, m3, m4, m5, m6⟩ := hM
  have o : ∀ f, f ≠ 3 → entC c r Y y p (r + f) = c (r + f) := fun f hf => entC_o (by omega)
  have o0 : entC c r Y y p r = c r := entC_o (by omega)
  have op : ∀ q, entC c r Y y p (r + 7 + q) = c (r + 7 + q) := fun q => entC_o (by omega)
  have hg : ∀ a b, gb (entC c r Y y p) r a b = gb c r a b := fun a b => by unfold gb; rw [o 5 (by omega)]
  exact ⟨by rw [hu 53 (by decide), o0]; exact m1, by rw [hu 55 (by decide), o 1 (by omega)]; exact m2, by rw [hu 56 (by decide), o 2 (by omega)]; exact m3, by rw [hu 65 (by decide), o 6 (by omega)]; exact m4, fun q hq => by rw [hu 58 (by decide), hu 59 (by decide), hu 60 (by decide), hu 61 (by decide), hu 62 (by decide), hu 63 (by decide), op]; exact m5 q hq, fun a b ha hb => by rw [hu 64 (by decide), hg]; exact m6 a b ha hb⟩
theorem op_put (n : Nat) (hn : 10 ≤ n) (a b : Int32) : OPT (fun c => zX4_put n c a b) (fun u => zX5_put n u a b) := by
  intro c u hI hM
  obtain ⟨⟨Y, P, hR⟩, hZ, iK, iT, iW⟩ := id hI
  have hX := hM.1
  have hY5 := hR.1.2.1
  have hP7 := hR.1.2.2.1
  have hmY := m_isYard (n := n) (a := a) hX
  have hmP := m_isOne (n := n) (a := b) hX
  rcases zX3_isYard_eq (n := n) (u := c) (r := 1) (a := a) hR.1.2.2.2.1 hY5 with ⟨y, hy, rfl, hz⟩ | ⟨-, hz⟩
  · rw [hz] at hmY
    rcases zX3_isPerson_eq (n := n) (u := c) (r := 1) (a := b) hR.1.2.2.2.2.1 hP7 with ⟨p, hp, rfl, hz2⟩ | ⟨-, hz2⟩
    · rw [hz2] at hmP
      have o5 := oob_no (show y < 5 by omega) (show y < 2147483648 by omega)
      have o7 := oob_no (show p < 7 by omega) (show p < 2147483648 by omega)
      have t5 := tn_nI (show y < 2147483648 by omega)
      have t7 := tn_nI (show p < 2147483648 by omega)
      have m63 := (hX.2.2.2.2.1 p (by omega)).2.2.2.2.2
      rcases (hR.2.2.2.2.1 p (by omega)).2.2.2.2.2 with e | e
      · obtain ⟨u', s1, s2, s3⟩ := zX5_sets_eq (n := n) hR hX hM.2.1 hy hp e hn
        have hc : ∀ k, k ≠ 4 → entC c 1 Y y p k = c k := fun k hk => entC_o hk
        refine ⟨c 4 y, entC c 1 Y y p, u', ?_, ?_, ?_, ?_⟩
        · show zX4_put n c (nI y) (nI p) = _
          unfold zX4_put
          rw [hz, Option.bind_some, if_neg (by decide), hz2, Option.bind_some, if_neg (by decide), o7, t7, e, o5, t5, zX3_enter_eq (r := 1) hR.1.2.2.2.1 hY5 (by omega) hn]
          simp [letb]
        · show zX5_put n u (nI y) (nI p) = _
          unfold zX5_put
          rw [hmY, Option.bind_some, if_neg (by decide), hmP, Option.bind_some, if_neg (by decide), o7, t7, m63, e, o5, t5, s1, hM.2.1]
          simp [letb]
        · refine ⟨⟨Y, P, RInv_ent hR hy hp e⟩, ZR_ent (P := P) hZ (by omega) hY5, ?_, by rw [hc 43 (by decide), hc 44 (by decide)]; exact iT, by rw [hc 0 (by decide), hc 51 (by decide)]; exact iW⟩
          rw [hc 0 (by decide)]
          rcases iK with e | ⟨e, ⟨Y2, P2, i2⟩, z⟩
          · exact Or.inl e
          · exact Or.inr ⟨e, ⟨Y2, P2, RInv_cg (fun f _ => hc _ (by omega)) i2⟩, ZR_cg (fun f _ => hc _ (by omega)) z⟩
        · have hMX := MX_ent (Y := Y) (y := y) (p := p) hX s2
          obtain ⟨-, w2, w3, w4, w5, w6, w7, w8, w9⟩ := hM
          refine ⟨hMX, s3, by rw [s2 54 (by decide), hc 52 (by decide)]; exact w3, by rw [s2 66 (by decide), hc 44 (by decide)]; exact w4, by rw [s2 53 (by decide), hc 43 (by decide)]; exact w5, by rw [s2 73 (by decide), hc 51 (by decide)]; exact w6, by rw [s2 53 (by decide), hc 0 (by decide)]; exact w7, by rw [s2 53 (by decide), hc 0 (by decide)]; exact w8, ?_⟩
          intro e
          rw [hc 0 (by decide)] at e
          exact KI_cg (fun f _ => hc _ (by omega)) (fun k _ => by rw [s2 70 (by decide)]) (w9 e)
      · refine opt_ref 3 (by decide) (n := n) hI hM ?_ ?_
        · show zX4_put n c (nI y) (nI p) = _
          unfold zX4_put
          rw [hz, Option.bind_some, if_neg (by decide), hz2, Option.bind_some, if_neg (by decide), o7, t7, e]
          rfl
        · show zX5_put n u (nI y) (nI p) = _
          unfold zX5_put
          rw [hmY, Option.bind_some, if_neg (by decide), hmP, Option.bind_some, if_neg (by decide), o7, t7, m63, e]
          rfl
    · rw [hz2] at hmP
      refine opt_ref 1 (by decide) (n := n) hI hM ?_ ?_
      · simp only [zX4_put, hz, hz2, Option.bind_some]
        rfl
      · simp only [zX5_put, hmY, hmP, Option.bind_some]
        rfl
  · rw [hz] at hmY
    refine opt_ref 1 (by decide) (n := n) hI hM ?_ ?_
    · simp only [zX4_put, hz, Option.bind_some]
      rfl
    · simp only [zX5_put, hmY, Option.bind_some]
      rfl
