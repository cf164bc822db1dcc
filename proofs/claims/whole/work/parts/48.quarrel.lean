/-! ===== grudges as bits; quarrel ===== -/
def sgb (g j s : Int32) : Int32 := (g &&& ((1 <<< (j &&& 31)) ^^^ (-1))) ||| (s <<< (j &&& 31))
theorem sgb_rng : ∀ g, g < 128 → ∀ j, j < 7 → ∀ s, s < 2 → 0 ≤ sgb (nI g) (nI j) (nI s) ∧ sgb (nI g) (nI j) (nI s) ≤ 127 := by decide +kernel
theorem sgb_bit : ∀ g, g < 128 → ∀ j, j < 7 → ∀ s, s < 2 → ∀ b, b < 7 → (sgb (nI g) (nI j) (nI s) >>> (nI b &&& 31)) &&& 1 = if b = j then nI s else (nI g >>> (nI b &&& 31)) &&& 1 := by decide +kernel
def setG (c : MU) (r i j s : Nat) : MU := up2 (up2 c (r + 5) i (sgb (c (r + 5) i) (nI j) (nI s))) (r + 5) j (sgb (c (r + 5) j) (nI i) (nI s))
theorem zX3_setGrudge_eq {n r i j s : Nat} {c : MU} (hi : i < 7) (hj : j < 7) (hij : i ≠ j) : zX3_setGrudge n c r (nI i) (nI j) (nI s) = some (setG c r i j s) := by
  unfold zX3_setGrudge setG sgb
  simp only [oob_no hi (show i < 2147483648 by omega), oob_no hj (show j < 2147483648 by omega), Bool.false_eq_true, if_false, tn_nI (show i < 2147483648 by omega), tn_nI (show j < 2147483648 by omega), letb]
  rw [up2_i (Ne.symm hij)]
theorem setG_o {c : MU} {r i j s k : Nat} (h : k ≠ r + 5) : setG c r i j s k = c k := by
  unfold setG
  rw [up2_o h, up2_o h]
theorem setG_row {c : MU} {r i j s a : Nat} (hij : i ≠ j) : setG c r i j s (r + 5) a = if a = j then sgb (c (r + 5) j) (nI i) (nI s) else if a = i then sgb (c (r + 5) i) (nI j) (nI s) else c (r + 5) a := by
  unfold setG
  by_cases h1 : a = j
  · subst h1; rw [up2_s, if_pos rfl]
  · rw [up2_i h1, if_neg h1]
    by_cases h2 : a = i
    · subst h2; rw [up2_s, if_pos rfl]
    · rw [up2_i h2, if_neg h2]
theorem setG_gb {c : MU} {r i j s a b : Nat} (hi : i < 7) (hj : j < 7) (hij : i ≠ j) (hs : s < 2) (hb : b < 7) (h127 : ∀ a, a < 7 → isD 127 (c (r + 5) a)) : gb (setG c r i j s) r a b = if (a = i ∧ b = j) ∨ (a = j ∧ b = i) then nI s else gb c r a b := by
  unfold gb
  rw [setG_row hij]
  by_cases h1 : a = j
  · subst h1
    obtain ⟨g, hg, eg⟩ := h127 a hj
    rw [if_pos rfl, eg, sgb_bit g (by omega) i hi s hs b hb]
    by_cases h2 : b = i
    · rw [if_pos h2, if_pos (Or.inr ⟨rfl, h2⟩)]
    · rw [if_neg h2, if_neg]
      rintro (z | z)
      · exact hij z.1.symm
      · exact h2 z.2
  · rw [if_neg h1]
    by_cases h2 : a = i
    · subst h2
      obtain ⟨g, hg, eg⟩ := h127 a hi
      rw [if_pos rfl, eg, sgb_bit g (by omega) j hj s hs b hb]
      by_cases h3 : b = j
      · rw [if_pos h3, if_pos (Or.inl ⟨rfl, h3⟩)]
      · rw [if_neg h3, if_neg]
        rintro (z | z)
        · exact h3 z.2
        · exact h1 z.1
    · rw [if_neg h2, if_neg]
      rintro (z | z)
      · exact h2 z.1
      · exact h1 z.1
theorem setG_127 {c : MU} {r i j s : Nat} (hi : i < 7) (hj : j < 7) (hij : i ≠ j) (hs : s < 2) (h127 : ∀ a, a < 7 → isD 127 (c (r + 5) a)) : ∀ a, a < 7 → isD 127 (setG c r i j s (r + 5) a) := by
  intro a ha
  rw [setG_row hij]
  split
  · obtain ⟨g, hg, eg⟩ := h127 j hj
    rw [eg]
    obtain ⟨q1, q2⟩ := sgb_rng g (by omega) i hi s hs
    exact btw_of (k := 127) (by omega) q1 q2
  · split
    · obtain ⟨g, hg, eg⟩ := h127 i hi
      rw [eg]
      obtain ⟨q1, q2⟩ := sgb_rng g (by omega) j hj s hs
      exact btw_of (k := 127) (by omega) q1 q2
    · exact h127 a ha
theorem RInv_setG {c : MU} {r Y P i j s : Nat} (hi : i < P) (hj : j < P) (hij : i ≠ j) (hs : s < 2) (hI : RInv c r Y P) : RInv (setG c r i j s) r Y P := by
  obtain ⟨j1, j2, j3, j4, j5, j6, j7, j8⟩ := hI
  have hP7 := j1.2.2.1
  have o : ∀ f, f ≠ 5 → setG c r i j s (r + f) = c (r + f) := fun f hf => setG_o (by omega)
  have o0 : setG c r i j s r = c r := setG_o (by omega)
  have op : ∀ p, setG c r i j s (r + 7 + p) = c (r + 7 + p) := fun p => setG_o (by omega)
  have hg := fun a b (hb : b < 7) => setG_gb (c := c) (r := r) (i := i) (j := j) (s := s) (a := a) (b := b) (by omega) (by omega) hij hs hb j6
  refine ⟨by rw [o0]; exact j1, fun k hk => by rw [o 1 (by omega), o 2 (by omega)]; exact j2 k hk, fun k hk => ?_, fun x k hx hk => by rw [o 3 (by omega)]; exact j4 x k hx hk, fun p hp => by rw [op]; exact j5 p hp, setG_127 (by omega) (by omega) hij hs j6, fun a b ha hb => ?_, fun a b ha hb => by rw [o 6 (by omega)]; exact j8 a b ha hb⟩
  · rw [o 3 (by omega)]
    rcases j3 k hk with e | ⟨q, p, hpp, e, e2⟩
    · exact Or.inl e
    · exact Or.inr ⟨q, p, hpp, e, by rw [op]; exact e2⟩
  · rw [hg a b hb, hg b a ha]
    constructor
    · by_cases h : (a = i ∧ b = j) ∨ (a = j ∧ b = i)
      · rw [if_pos h, if_pos (by omega)]
      · rw [if_neg h, if_neg (by omega)]
        exact (j7 a b ha hb).1
    · intro z
      rw [if_neg (by omega)]
      exact (j7 a b ha hb).2 z
theorem MX_setG {c u : MU} {r Y P i j s : Nat} (hi : i < P) (hj : j < P) (hij : i ≠ j) (hs : s < 2) (hI : RInv c r Y P) (hM : MX c r u) : MX (setG c r i j s) r (up2 (up2 u 64 (7 * i + j) (nI s)) 64 (7 * j + i) (nI s)) := by
  have hP7 := hI.1.2.2.1
  obtain ⟨m1, m2, m3, m4, m5, m6⟩ := hM
  have o : ∀ f, f ≠ 5 → setG c r i j s (r + f) = c (r + f) := fun f hf => setG_o (by omega)
  have o0 : setG c r i j s r = c r := setG_o (by omega)
  have op : ∀ p, setG c r i j s (r + 7 + p) = c (r + 7 + p) := fun p => setG_o (by omega)
  have hu : ∀ k, k ≠ 64 → up2 (up2 u 64 (7 * i + j) (nI s)) 64 (7 * j + i) (nI s) k = u k := fun k hk => by rw [up2_o hk, up2_o hk]
  refine ⟨by rw [hu 53 (by decide), o0]; exact m1, by rw [hu 55 (by decide), o 1 (by omega)]; exact m2, by rw [hu 56 (by decide), o 2 (by omega)]; exact m3, by rw [hu 65 (by decide), o 6 (by omega)]; exact m4, fun p hp => by rw [hu 58 (by decide), hu 59 (by decide), hu 60 (by decide), hu 61 (by decide), hu 62 (by decide), hu 63 (by decide), op]; exact m5 p hp, fun a b ha hb => ?_⟩
  rw [setG_gb (by omega) (by omega) hij hs hb hI.2.2.2.2.2.1]
  by_cases h1 : 7 * a + b = 7 * j + i
  · rw [h1, up2_s, if_pos (by omega)]
  · rw [up2_i h1]
    by_cases h2 : 7 * a + b = 7 * i + j
    · rw [h2, up2_s, if_pos (by omega)]
    · rw [up2_i h2, if_neg (by omega)]
      exact m6 a b ha hb
theorem op_quarrel (n : Nat) (a b s : Int32) : OPT (fun c => zX4_quarrel n c a b s) (fun u => zX5_quarrel n u a b s) := by
  intro c u hI hM
  obtain ⟨⟨Y, P, hR⟩, hZ, iK, iT, iW⟩ := id hI
  have hX := hM.1
  have hP7 := hR.1.2.2.1
  have hm := m_areTwo (n := n) (a := a) (b := b) hX
  rcases zX3_areTwo_eq (n := n) (c := c) (r := 1) (a := a) (b := b) hR.1.2.2.2.2.1 hP7 with ⟨i, j, hi, hj, hij, rfl, rfl, hz⟩ | hz
  · rw [hz] at hm
    by_cases hs : s = 0 ∨ s = 1
    · obtain ⟨t, ht, rfl⟩ : ∃ t, t < 2 ∧ s = nI t := by
        rcases hs with rfl | rfl
        · exact ⟨0, by omega, rfl⟩
        · exact ⟨1, by omega, rfl⟩
      have hin : zX5_isIn n u (nI t) 0 1 = some 1 := by
        unfold zX5_isIn
        rw [if_neg (nI_pos (by omega)), if_neg]
        rw [show (1 : Int32) = nI 1 from rfl, lt_nI (by omega) (by omega)]
        omega
      have hc : ∀ k, k ≠ 6 → setG c 1 i j t k = c k := fun k hk => setG_o hk
      have hu : ∀ k, k ≠ 64 → up2 (up2 u 64 (7 * i + j) (nI t)) 64 (7 * j + i) (nI t) k = u k := fun k hk => by rw [up2_o hk, up2_o hk]
      refine ⟨gb c 1 i j, setG c 1 i j t, up2 (up2 u 64 (7 * i + j) (nI t)) 64 (7 * j + i) (nI t), ?_, ?_, ?_, ?_⟩
      · show zX4_quarrel n c (nI i) (nI j) (nI t) = _
        unfold zX4_quarrel
        rw [hz, Option.bind_some, if_neg (by decide), zX3_grudgeOf_eq (show i < 7 by omega), zX3_setGrudge_eq (by omega) (by omega) hij]
        simp only [Option.bind_some]
        rcases hs with h | h
        · rw [if_pos h]
        · by_cases h0 : nI t = 0
          · rw [if_pos h0]
          · rw [if_neg h0, if_pos h]
      · show zX5_quarrel n u (nI i) (nI j) (nI t) = _
        unfold zX5_quarrel
        rw [hm, Option.bind_some, if_neg (by decide), hin, Option.bind_some, if_neg (by decide), ix7, ix7, oob_no (show 7 * i + j < 49 by omega) (by omega), oob_no (show 7 * j + i < 49 by omega) (by omega), tn_nI (by omega), tn_nI (by omega), hX.2.2.2.2.2 i j (by omega) (by omega)]
        simp only [Bool.false_eq_true, if_false, letb]
      · refine ⟨⟨Y, P, RInv_setG hi hj hij ht hR⟩, ?_, ?_, by rw [hc 43 (by decide), hc 44 (by decide)]; exact iT, by rw [hc 0 (by decide), hc 51 (by decide)]; exact iW⟩
        · unfold ZR
          rw [hc (1 + 1) (by decide), hc (1 + 2) (by decide), hc (1 + 3) (by decide), hc (1 + 6) (by decide)]
          exact hZ
        · rw [hc 0 (by decide)]
          rcases iK with e | ⟨e, ⟨Y2, P2, i2⟩, z⟩
          · exact Or.inl e
          · exact Or.inr ⟨e, ⟨Y2, P2, RInv_cg (fun f _ => hc _ (by omega)) i2⟩, ZR_cg (fun f _ => hc _ (by omega)) z⟩
      · have hMX := MX_setG hi hj hij ht hR hX
        obtain ⟨-, w2, w3, w4, w5, w6, w7, w8, w9⟩ := hM
        refine ⟨hMX, by rw [hu 57 (by decide), hc 4 (by decide)]; exact w2, by rw [hu 54 (by decide), hc 52 (by decide)]; exact w3, by rw [hu 66 (by decide), hc 44 (by decide)]; exact w4, by rw [hu 53 (by decide), hc 43 (by decide)]; exact w5, by rw [hu 73 (by decide), hc 51 (by decide)]; exact w6, by rw [hu 53 (by decide), hc 0 (by decide)]; exact w7, by rw [hu 53 (by decide), hc 0 (by decide)]; exact w8, ?_⟩
        intro e
        rw [hc 0 (by decide)] at e
        exact KI_cg (fun f _ => hc _ (by omega)) (fun k _ => by rw [hu 70 (by decide)]) (w9 e)
    · have h0 : ¬ s = 0 := fun z => hs (Or.inl z)
      have h1 : ¬ s = 1 := fun z => hs (Or.inr z)
      have hin : zX5_isIn n u s 0 1 = some 0 := by
        unfold zX5_isIn
        by_cases hn0 : s < 0
        · rw [if_pos hn0]
        · rw [if_neg hn0, if_pos]
          obtain ⟨k, hk, rfl⟩ := nI_of hn0
          rw [show (1 : Int32) = nI 1 from rfl, lt_nI (by omega) hk]
          have : k ≠ 0 := fun z => h0 (by rw [z]; rfl)
          have : k ≠ 1 := fun z => h1 (by rw [z]; rfl)
          omega
      refine opt_ref 2 (by decide) (n := n) hI hM ?_ ?_
      · simp only [zX4_quarrel, hz, Option.bind_some, if_neg h0, if_neg h1]
        rfl
      · simp only [zX5_quarrel, hm, Option.bind_some, hin]
        rfl
  · rw [hz] at hm
    refine opt_ref 1 (by decide) (n := n) hI hM ?_ ?_
    · simp only [zX4_quarrel, hz, Option.bind_some]
      rfl
    · simp only [zX5_quarrel, hm, Option.bind_some]
      rfl
