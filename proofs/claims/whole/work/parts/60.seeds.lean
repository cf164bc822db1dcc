/-! ===== scratch of both sides; chains that are drawn ===== -/
def Sm (c c' : MU) : Prop := ∀ k, (k < 15 ∨ (29 ≤ k ∧ k < 45) ∨ k = 51 ∨ k = 52) → c' k = c k
theorem CINV_sm {c c' : MU} (h : Sm c c') (hI : CINV c) : CINV c' := by
  obtain ⟨⟨Y, P, i1⟩, iz, i2, i3, i4⟩ := hI
  have a1 : ∀ f, f < 14 → c' (1 + f) = c (1 + f) := fun f hf => h _ (by omega)
  have a2 : ∀ f, f < 14 → c' (29 + f) = c (29 + f) := fun f hf => h _ (by omega)
  refine ⟨⟨Y, P, RInv_cg a1 i1⟩, ZR_cg a1 iz, ?_, by rw [h 43 (by omega), h 44 (by omega)]; exact i3, by rw [h 0 (by omega), h 51 (by omega)]; exact i4⟩
  rw [h 0 (by omega)]
  rcases i2 with e | ⟨e, ⟨Y2, P2, i⟩, z⟩
  · exact Or.inl e
  · exact Or.inr ⟨e, ⟨Y2, P2, RInv_cg a2 i⟩, ZR_cg a2 z⟩
theorem MREL_sm {c c' u : MU} (h : Sm c c') (hM : MREL c u) : MREL c' u := by
  obtain ⟨m1, m2, m3, m4, m5, m6, m7, m8, m9⟩ := hM
  refine ⟨MX_cg (fun f hf => h _ (by omega)) (fun _ _ _ _ => rfl) rfl rfl rfl rfl m1, by rw [h 4 (by omega)]; exact m2, by rw [h 52 (by omega)]; exact m3, by rw [h 44 (by omega)]; exact m4, by rw [h 43 (by omega)]; exact m5, by rw [h 51 (by omega)]; exact m6, by rw [h 0 (by omega)]; exact m7, by rw [h 0 (by omega)]; exact m8, ?_⟩
  intro e
  rw [h 0 (by omega)] at e
  exact KI_cg (fun f hf => h _ (by omega)) (fun _ _ => rfl) (m9 e)
def SC (u v : MU) : Prop := (∀ k, k ≠ 53 → k ≠ 57 → k ≠ 71 → k ≠ 72 → v k = u k) ∧ (∀ i, i ≠ 27 → i ≠ 28 → i ≠ 30 → i ≠ 32 → v 53 i = u 53 i) ∧ (∀ i, 5 ≤ i → v 57 i = u 57 i) ∧ (∀ i, i < 5 → v 71 i = u 57 i)
theorem SC_MX {c u v : MU} {r : Nat} (h : SC u v) (hM : MX c r u) : MX c r v :=
  MX_cg (fun _ _ => rfl) (fun k h1 h2 h3 => h.1 k (by omega) h3 (by omega) (by omega)) (h.2.1 12 (by decide) (by decide) (by decide) (by decide)) (h.2.1 13 (by decide) (by decide) (by decide) (by decide)) (h.2.1 14 (by decide) (by decide) (by decide) (by decide)) (h.2.1 15 (by decide) (by decide) (by decide) (by decide)) hM
theorem SC_57 {u v : MU} {j : Nat} {x : Int32} (h : SC u v) (hj : j < 5) : SC u (up2 v 57 j x) := by
  obtain ⟨h1, h2, h3, h4⟩ := h
  refine ⟨fun k a b d e => by rw [up2_o b]; exact h1 k a b d e, fun i a b d e => by rw [up2_o (by decide)]; exact h2 i a b d e, fun i hi => by rw [up2_i (by omega)]; exact h3 i hi, fun i hi => by rw [up2_o (by decide)]; exact h4 i hi⟩
theorem SC_sc {u v v' : MU} (h : SC u v) (q1 : ∀ k, k ≠ 53 → v' k = v k) (q2 : ∀ i, i ≠ 27 → i ≠ 28 → v' 53 i = v 53 i) : SC u v' := by
  obtain ⟨h1, h2, h3, h4⟩ := h
  refine ⟨fun k a b d e => by rw [q1 k a]; exact h1 k a b d e, fun i a b d e => by rw [q2 i a b]; exact h2 i a b d e, fun i hi => by rw [q1 57 (by decide)]; exact h3 i hi, fun i hi => by rw [q1 71 (by decide)]; exact h4 i hi⟩
theorem SC_30 {u v : MU} {x : Int32} (h : SC u v) : SC u (up2 v 53 30 x) := by
  obtain ⟨h1, h2, h3, h4⟩ := h
  refine ⟨fun k a b d e => by rw [up2_o a]; exact h1 k a b d e, fun i a b d e => by rw [up2_i d]; exact h2 i a b d e, fun i hi => by rw [up2_o (by decide)]; exact h3 i hi, fun i hi => by rw [up2_o (by decide)]; exact h4 i hi⟩
theorem SC_32 {u v : MU} {x : Int32} (h : SC u v) : SC u (up2 v 53 32 x) := by
  obtain ⟨h1, h2, h3, h4⟩ := h
  refine ⟨fun k a b d e => by rw [up2_o a]; exact h1 k a b d e, fun i a b d e => by rw [up2_i e]; exact h2 i a b d e, fun i hi => by rw [up2_o (by decide)]; exact h3 i hi, fun i hi => by rw [up2_o (by decide)]; exact h4 i hi⟩
theorem SC_72 {u v : MU} {j : Nat} {x : Int32} (h : SC u v) : SC u (up2 v 72 j x) := by
  obtain ⟨h1, h2, h3, h4⟩ := h
  refine ⟨fun k a b d e => by rw [up2_o e]; exact h1 k a b d e, fun i a b d e => by rw [up2_o (by decide)]; exact h2 i a b d e, fun i hi => by rw [up2_o (by decide)]; exact h3 i hi, fun i hi => by rw [up2_o (by decide)]; exact h4 i hi⟩
def cpR (a b : Nat) : Nat → Nat → MU → MU
  | 0, _, u => u
  | d + 1, j, u => cpR a b d (j + 1) (up2 u b j (u a j))
theorem cpR_o {a b k : Nat} (h : k ≠ b) : ∀ (d j : Nat) (u : MU), cpR a b d j u k = u k := by
  intro d
  induction d with
  | zero => intro j u; rfl
  | succ d ih => intro j u; simp only [cpR]; rw [ih, up2_o h]
theorem cpR_in {a b i : Nat} (h : a ≠ b) : ∀ (d j : Nat) (u : MU), cpR a b d j u b i = if j ≤ i ∧ i < j + d then u a i else u b i := by
  intro d
  induction d with
  | zero => intro j u; simp only [cpR]; rw [if_neg (by omega)]
  | succ d ih =>
    intro j u
    simp only [cpR]
    rw [ih, up2_o h]
    by_cases e : i = j
    · subst e
      rw [if_neg (by omega), if_pos (by omega), up2_s]
    · rw [up2_i e]
      by_cases q : j + 1 ≤ i ∧ i < j + 1 + d
      · rw [if_pos q, if_pos (by omega)]
      · rw [if_neg q, if_neg (by omega)]
theorem putsAway_L {n : Nat} {k : Int32 → MU → Option MU} : ∀ (d j m : Nat) (u : MU), j + d = 5 → d < m → zX5_putsAway_L2 n k m (nI j) u = k (nI 5) (cpR 57 71 d j u) := by
  intro d
  induction d with
  | zero =>
    intro j m u hj hm
    obtain ⟨m, rfl⟩ : ∃ e, m = e + 1 := ⟨m - 1, by omega⟩
    obtain rfl : j = 5 := by omega
    rw [zX5_putsAway_L2, if_pos (by decide)]
    rfl
  | succ d ih =>
    intro j m u hj hm
    obtain ⟨m, rfl⟩ : ∃ e, m = e + 1 := ⟨m - 1, by omega⟩
    rw [zX5_putsAway_L2, if_neg (by rw [show (5 : Int32) = nI 5 from rfl, le_nI (by omega) (by omega)]; omega), oob_no (by omega : j < 5) (by omega), tn_nI (by omega), nI_1]
    simp only [Bool.false_eq_true, if_false, letb, cpR]
    exact ih (j + 1) m _ (by omega) (by omega)
theorem putsBack_L {n : Nat} {k : Int32 → MU → Option MU} : ∀ (d j m : Nat) (u : MU), j + d = 5 → d < m → zX5_putsBack_L2 n k m (nI j) u = k (nI 5) (cpR 71 57 d j u) := by
  intro d
  induction d with
  | zero =>
    intro j m u hj hm
    obtain ⟨m, rfl⟩ : ∃ e, m = e + 1 := ⟨m - 1, by omega⟩
    obtain rfl : j = 5 := by omega
    rw [zX5_putsBack_L2, if_pos (by decide)]
    rfl
  | succ d ih =>
    intro j m u hj hm
    obtain ⟨m, rfl⟩ : ∃ e, m = e + 1 := ⟨m - 1, by omega⟩
    rw [zX5_putsBack_L2, if_neg (by rw [show (5 : Int32) = nI 5 from rfl, le_nI (by omega) (by omega)]; omega), oob_no (by omega : j < 5) (by omega), tn_nI (by omega), nI_1]
    simp only [Bool.false_eq_true, if_false, letb, cpR]
    exact ih (j + 1) m _ (by omega) (by omega)
theorem zX5_putsAway_eq {n : Nat} {u : MU} (hn : 10 ≤ n) : ∃ v, zX5_putsAway n u = some v ∧ SC u v ∧ v 57 = u 57 ∧ v 53 30 = -1 ∧ (∀ i, i ≠ 30 → v 53 i = u 53 i) ∧ v 72 = u 72 := by
  have h := putsAway_L (n := n) (k := fun y5 w6 => letb (up2 w6 53 30 (-1)) (fun u7 => some u7)) 5 0 n u (by omega) (by omega)
  rw [nI_0] at h
  refine ⟨up2 (cpR 57 71 5 0 u) 53 30 (-1), h, ⟨fun k a b d e => by rw [up2_o a, cpR_o d], fun i a b d e => by rw [up2_i d, cpR_o (by decide)], fun i hi => by rw [up2_o (by decide), cpR_o (by decide)], fun i hi => by rw [up2_o (by decide), cpR_in (by decide), if_pos (by omega)]⟩, by rw [up2_o (by decide), cpR_o (by decide)], up2_s, fun i hi => by rw [up2_i hi, cpR_o (by decide)], by rw [up2_o (by decide), cpR_o (by decide)]⟩
theorem zX5_putsBack_eq {n : Nat} {u v : MU} (h : SC u v) (hn : 10 ≤ n) : ∃ q, zX5_putsBack n v = some q ∧ (∀ k, k ≠ 53 → k ≠ 71 → k ≠ 72 → q k = u k) ∧ (∀ i, i ≠ 27 → i ≠ 28 → i ≠ 30 → i ≠ 32 → q 53 i = u 53 i) ∧ q 53 = v 53 ∧ q 72 = v 72 := by
  have g := putsBack_L (n := n) (k := fun y5 w6 => some w6) 5 0 n v (by omega) (by omega)
  rw [nI_0] at g
  obtain ⟨h1, h2, h3, h4⟩ := h
  refine ⟨_, g, fun k a b d => ?_, fun i a b d e => by rw [cpR_o (by decide)]; exact h2 i a b d e, by rw [cpR_o (by decide)], by rw [cpR_o (by decide)]⟩
  by_cases e : k = 57
  · subst e
    funext i
    rw [cpR_in (by decide)]
    by_cases q : i < 5
    · rw [if_pos (by omega)]; exact h4 i q
    · rw [if_neg (by omega)]; exact h3 i (by omega)
  · rw [cpR_o e]; exact h1 k a e b d
theorem MREL_back {c u q : MU} (h1 : ∀ k, k ≠ 53 → k ≠ 71 → k ≠ 72 → q k = u k) (h2 : ∀ i, i ≠ 27 → i ≠ 28 → i ≠ 30 → i ≠ 32 → q 53 i = u 53 i) (hM : MREL c u) : MREL c q :=
  MREL_cg (fun _ _ => rfl) (fun k a b => h1 k (by omega) (by omega) (by omega)) (h1 73 (by decide) (by decide) (by decide)) (fun i _ => by rw [h1 70 (by decide) (by decide) (by decide)]) (fun i hi => h2 i (by omega) (by omega) (by omega) (by omega)) hM
/-! are they unlike, and is nobody over -/
theorem unl_in {n : Nat} {u : MU} {y : Nat} {k : Int32 → Option Int32} (hy : y < 5) :
    ∀ (d j m : Nat), j + d = y → d < m → ((∀ i, j ≤ i → i < y → ¬ u 57 i = u 57 y) ∧ zX5_areUnlike_L29 n u (nI y) k m (nI j) = k (nI y)) ∨ ((∃ i, j ≤ i ∧ i < y ∧ u 57 i = u 57 y) ∧ zX5_areUnlike_L29 n u (nI y) k m (nI j) = some 0) := by
  intro d
  induction d with
  | zero =>
    intro j m hj hm
    obtain ⟨m, rfl⟩ : ∃ e, m = e + 1 := ⟨m - 1, by omega⟩
    obtain rfl : j = y := by omega
    rw [zX5_areUnlike_L29, if_pos (nI_le (Nat.le_refl _) (by omega))]
    exact Or.inl ⟨fun i h1 h2 => absurd h2 (by omega), rfl⟩
  | succ d ih =>
    intro j m hj hm
    obtain ⟨m, rfl⟩ : ∃ e, m = e + 1 := ⟨m - 1, by omega⟩
    rw [zX5_areUnlike_L29, if_neg (by rw [le_nI (by omega) (by omega)]; omega), oob_no (show j < 5 by omega) (by omega), oob_no hy (by omega), tn_nI (show j < 2147483648 by omega), tn_nI (show y < 2147483648 by omega), nI_1]
    simp only [Bool.false_eq_true, if_false]
    by_cases e : u 57 j = u 57 y
    · rw [if_pos e]
      exact Or.inr ⟨⟨j, Nat.le_refl _, by omega, e⟩, rfl⟩
    · rw [if_neg e]
      rcases ih (j + 1) m (by omega) (by omega) with ⟨h1, h2⟩ | ⟨⟨i, h1, h2, h3⟩, h4⟩
      · refine Or.inl ⟨fun i q1 q2 => ?_, h2⟩
        by_cases z : i = j
        · rw [z]; exact e
        · exact h1 i (by omega) q2
      · exact Or.inr ⟨⟨i, by omega, h2, h3⟩, h4⟩
theorem unl_L {n : Nat} {c u : MU} {r Y P : Nat} (hI : RInv c r Y P) (hM : MX c r u) (hper : ∀ j, j < Y → ∃ p, p < P ∧ u 57 j = nI p) (hn : 10 ≤ n) :
    ∀ (d j m : Nat), j + d = Y → d < m → ((∀ i, j ≤ i → i < Y → cnC c r P (u 57) i) ∧ zX5_areUnlike_L2 n u (fun _ => some 1) m (nI j) = some 1) ∨ ((∃ i, j ≤ i ∧ i < Y ∧ ¬ cnC c r P (u 57) i) ∧ zX5_areUnlike_L2 n u (fun _ => some 1) m (nI j) = some 0) := by
  have hY : u 53 12 = nI Y := hM.1.1.trans hI.1.2.2.2.1
  have hY5 := hI.1.2.1
  have hP7 := hI.1.2.2.1
  intro d
  induction d with
  | zero =>
    intro j m hj hm
    obtain ⟨m, rfl⟩ : ∃ e, m = e + 1 := ⟨m - 1, by omega⟩
    obtain rfl : j = Y := by omega
    rw [zX5_areUnlike_L2, hY, if_pos (nI_le (Nat.le_refl _) (by omega))]
    exact Or.inl ⟨fun i h1 h2 => absurd h2 (by omega), rfl⟩
  | succ d ih =>
    intro j m hj hm
    obtain ⟨m, rfl⟩ : ∃ e, m = e + 1 := ⟨m - 1, by omega⟩
    obtain ⟨p, hp, e⟩ := hper j (by omega)
    obtain ⟨-, -, -, -, -, mo⟩ := hM.2.2.2.2.1 p (by omega)
    have ho := (hI.2.2.2.2.1 p (by omega)).2.2.2.2.2
    rw [zX5_areUnlike_L2, hY, if_neg (by rw [le_nI (by omega) (by omega)]; omega), oob_no (show j < 5 by omega) (by omega), tn_nI (show j < 2147483648 by omega), e, oob_no (show p < 7 by omega) (by omega), tn_nI (show p < 2147483648 by omega), mo, nI_1]
    simp only [Bool.false_eq_true, if_false]
    rcases ho with o0 | o1
    · rw [o0, if_neg (by decide)]
      rcases unl_in (n := n) (u := u) (k := fun y9 => zX5_areUnlike_L2 n u (fun _ => some 1) m (nI (j + 1))) (show j < 5 by omega) j 0 n (by omega) (by omega) with ⟨h1, h2⟩ | ⟨⟨i, h1, h2, h3⟩, h4⟩
      · rw [nI_0] at h2
        rw [h2]
        have hc : cnC c r P (u 57) j := ⟨⟨p, hp, e, o0⟩, fun i hi => h1 i (by omega) hi⟩
        rcases ih (j + 1) m (by omega) (by omega) with ⟨g1, g2⟩ | ⟨⟨i, g1, g2, g3⟩, g4⟩
        · refine Or.inl ⟨fun i q1 q2 => ?_, g2⟩
          by_cases z : i = j
          · rw [z]; exact hc
          · exact g1 i (by omega) q2
        · exact Or.inr ⟨⟨i, by omega, g2, g3⟩, g4⟩
      · rw [nI_0] at h4
        rw [h4]
        exact Or.inr ⟨⟨j, Nat.le_refl _, by omega, fun z => z.2 i h2 h3⟩, rfl⟩
    · rw [o1, if_pos rfl]
      refine Or.inr ⟨⟨j, Nat.le_refl _, by omega, ?_⟩, rfl⟩
      rintro ⟨⟨p2, hp2, e2, o2⟩, -⟩
      rw [e, eq_nI (by omega) (by omega)] at e2
      rw [← e2, o1] at o2
      exact absurd o2 (by decide)
theorem zX5_areUnlike_eq {n : Nat} {c u : MU} {r Y P : Nat} (hI : RInv c r Y P) (hM : MX c r u) (hper : ∀ j, j < Y → ∃ p, p < P ∧ u 57 j = nI p) (hn : 10 ≤ n) :
    ((∀ i, i < Y → cnC c r P (u 57) i) ∧ zX5_areUnlike n u = some 1) ∨ ((∃ i, i < Y ∧ ¬ cnC c r P (u 57) i) ∧ zX5_areUnlike n u = some 0) := by
  have hY5 := hI.1.2.1
  unfold zX5_areUnlike
  rcases unl_L (n := n) hI hM hper hn Y 0 n (by omega) (by omega) with ⟨h1, h2⟩ | ⟨⟨i, -, h2, h3⟩, h4⟩
  · rw [nI_0] at h2
    exact Or.inl ⟨fun i hi => h1 i (by omega) hi, h2⟩
  · rw [nI_0] at h4
    exact Or.inr ⟨⟨i, h2, h3⟩, h4⟩
theorem cnC_cg {c : MU} {r P k : Nat} {h h' : Nat → Int32} (e : ∀ i, i ≤ k → h i = h' i) : cnC c r P h k ↔ cnC c r P h' k := by
  unfold cnC
  rw [e k (Nat.le_refl _)]
  constructor
  · rintro ⟨a, b⟩
    exact ⟨a, fun i hi => by rw [← e i (by omega)]; exact b i hi⟩
  · rintro ⟨a, b⟩
    exact ⟨a, fun i hi => by rw [e i (by omega)]; exact b i hi⟩
theorem whyS_cg {c : MU} {r Y P j : Nat} {h h' : Nat → Int32} (e : ∀ i, i ≤ j → h i = h' i) : whyS c r Y P h j = whyS c r Y P h' j := by
  unfold whyS
  rw [e j (Nat.le_refl _), e (j - 1) (by omega)]
theorem fsl_cg {w w' : Nat → Int32} : ∀ (d j : Nat), (∀ i, j ≤ i → i < j + d → w i = w' i) → fsl w d j = fsl w' d j := by
  intro d
  induction d with
  | zero => intro j _; rfl
  | succ d ih =>
    intro j h
    simp only [fsl]
    rw [h j (Nat.le_refl _) (by omega), ih (j + 1) (fun i h1 h2 => h i (by omega) (by omega))]
/-! draws -/
def zsq (z : Int32) : Nat → Int32
  | 0 => z
  | k + 1 => zsq z k * 1103515245 + 12345
def drw (P : Nat) (x : Int32) : Int32 := ((x &&& 2147483647) / 65536) - ((x &&& 2147483647) / 65536) / nI P * nI P
theorem drw_lt {P : Nat} {x : Int32} (h0 : 0 < P) (hP : P ≤ 7) : ∃ p, p < P ∧ drw P x = nI p := by
  obtain ⟨j, hj, e⟩ := pk_andE x (m := 2147483647) 31 (by decide)
  refine ⟨j / 65536 % P, Nat.mod_lt _ h0, ?_⟩
  unfold drw
  rw [e, show (65536 : Int32) = nI 65536 from rfl, pk_div hj (by omega) (by omega), pk_rem (by omega) h0 (by omega)]
def dw (q P : Nat) (z : Int32) : Nat → Nat → MU → MU
  | 0, _, v => v
  | d + 1, j, v => dw q P z d (j + 1) (up2 v q j (drw P (zsq z (j + 1))))
theorem dw_o {q P k : Nat} {z : Int32} (h : k ≠ q) : ∀ (d j : Nat) (v : MU), dw q P z d j v k = v k := by
  intro d
  induction d with
  | zero => intro j v; rfl
  | succ d ih => intro j v; simp only [dw]; rw [ih, up2_o h]
theorem dw_in {q P i : Nat} {z : Int32} : ∀ (d j : Nat) (v : MU), dw q P z d j v q i = if j ≤ i ∧ i < j + d then drw P (zsq z (i + 1)) else v q i := by
  intro d
  induction d with
  | zero => intro j v; simp only [dw]; rw [if_neg (by omega)]
  | succ d ih =>
    intro j v
    simp only [dw]
    rw [ih]
    by_cases e : i = j
    · subst e
      rw [if_neg (by omega), if_pos (by omega), up2_s]
    · rw [up2_i e]
      by_cases q : j + 1 ≤ i ∧ i < j + 1 + d
      · rw [if_pos q, if_pos (by omega)]
      · rw [if_neg q, if_neg (by omega)]
theorem zX1_drawBelow_eq {n P : Nat} {v : MU} {x : Int32} (h0 : 0 < P) (hP : P ≤ 7) : zX1_drawBelow n v (nI P) x = some (drw P x) := by
  unfold zX1_drawBelow
  rw [if_pos (by rw [show (1 : Int32) = nI 1 from rfl, le_nI (by omega) (by omega)]; omega), if_neg (nI_ne0 h0 (by omega))]
  rfl
theorem sbs_L {n Y P : Nat} {s2 s5 s6 z : Int32} {k : Int32 → Int32 → MU → Option (Int32 × MU)} (hY5 : Y ≤ 5) (h0 : 0 < P) (hP : P ≤ 7) :
    ∀ (d j m : Nat) (v : MU), v 1 0 = nI Y → v 1 3 = nI P → j + d = Y → d < m → zX1_standingBySeed_L18 n 1 s2 s5 s6 k m (zsq z j) (nI j) v = k (zsq z Y) (nI Y) (dw 46 P z d j v) := by
  intro d
  induction d with
  | zero =>
    intro j m v hv1 hv2 hj hm
    obtain ⟨m, rfl⟩ : ∃ e, m = e + 1 := ⟨m - 1, by omega⟩
    obtain rfl : j = Y := by omega
    rw [zX1_standingBySeed_L18, hv1, if_pos (nI_le (Nat.le_refl _) (by omega))]
    rfl
  | succ d ih =>
    intro j m v hv1 hv2 hj hm
    obtain ⟨m, rfl⟩ : ∃ e, m = e + 1 := ⟨m - 1, by omega⟩
    rw [zX1_standingBySeed_L18, hv1, if_neg (by rw [le_nI (by omega) (by omega)]; omega), hv2]
    simp only [letb]
    rw [zX1_drawBelow_eq h0 hP, Option.bind_some, oob_no (show j < 5 by omega) (by omega), tn_nI (by omega), nI_1]
    simp only [Bool.false_eq_true, if_false]
    exact ih (j + 1) m _ (by rw [up2_o (by decide)]; exact hv1) (by rw [up2_o (by decide)]; exact hv2) (by omega) (by omega)
theorem sbm_L {n Y P : Nat} {s1 s5 s6 z : Int32} {k : Int32 → Int32 → MU → Option (Int32 × MU)} (hY5 : Y ≤ 5) (h0 : 0 < P) (hP : P ≤ 7) :
    ∀ (d j m : Nat) (v : MU), v 53 12 = nI Y → v 53 13 = nI P → j + d = Y → d < m → zX5_seeds_L54 n s1 s5 s6 k m (zsq z j) (nI j) v = k (zsq z Y) (nI Y) (dw 57 P z d j v) := by
  intro d
  induction d with
  | zero =>
    intro j m v hv1 hv2 hj hm
    obtain ⟨m, rfl⟩ : ∃ e, m = e + 1 := ⟨m - 1, by omega⟩
    obtain rfl : j = Y := by omega
    rw [zX5_seeds_L54, hv1, if_pos (nI_le (Nat.le_refl _) (by omega))]
    rfl
  | succ d ih =>
    intro j m v hv1 hv2 hj hm
    obtain ⟨m, rfl⟩ : ∃ e, m = e + 1 := ⟨m - 1, by omega⟩
    rw [zX5_seeds_L54, hv1, if_neg (by rw [le_nI (by omega) (by omega)]; omega), hv2]
    simp only [letb]
    rw [if_neg (nI_ne0 h0 (by omega)), oob_no (show j < 5 by omega) (by omega), tn_nI (by omega), nI_1]
    simp only [Bool.false_eq_true, if_false]
    exact ih (j + 1) m _ (by rw [up2_o (by decide)]; exact hv1) (by rw [up2_o (by decide)]; exact hv2) (by omega) (by omega)
theorem SC_dw {u : MU} {P : Nat} {z : Int32} : ∀ (d j : Nat) (v : MU), j + d ≤ 5 → SC u v → SC u (dw 57 P z d j v) := by
  intro d
  induction d with
  | zero => intro j v _ h; exact h
  | succ d ih => intro j v hj h; simp only [dw]; exact ih (j + 1) _ (by omega) (SC_57 h (by omega))
theorem seeds_L {n : Nat} {c u : MU} {Y P N : Nat} {k2 : Int32 → Int32 → Int32 → MU → Option (Int32 × MU)} (hR : RInv c 1 Y P) (hX : MX c 1 u) (hP0 : 0 < P) (hn : 100 ≤ n) (hN : N ≤ 60) :
    ∀ (d i m : Nat) (z t : Int32) (w v : MU), i + d = N → d < m → (∀ k, k ≠ 46 → w k = c k) → SC u v →
      ∃ z' t' w' v', (∀ k, k ≠ 46 → w' k = c k) ∧ SC u v' ∧ zX1_standingBySeed_L9 n 1 (nI N) (fun y14 y15 y16 w17 => some (y15, w17)) m z t (nI i) w = some (t', w') ∧ zX5_seeds_L45 n (nI N) k2 m z t (nI i) v = k2 z' t' (nI N) v' := by
  have hY5 := hR.1.2.1
  have hP7 := hR.1.2.2.1
  intro d
  induction d with
  | zero =>
    intro i m z t w v hi hm hw hv
    obtain ⟨m, rfl⟩ : ∃ e, m = e + 1 := ⟨m - 1, by omega⟩
    obtain rfl : i = N := by omega
    refine ⟨z, t, w, v, hw, hv, ?_, ?_⟩
    · rw [zX1_standingBySeed_L9, if_pos (nI_le (Nat.le_refl _) (by omega))]
    · rw [zX5_seeds_L45, if_pos (nI_le (Nat.le_refl _) (by omega))]
  | succ d ih =>
    intro i m z t w v hi hm hw hv
    obtain ⟨m, rfl⟩ : ∃ e, m = e + 1 := ⟨m - 1, by omega⟩
    have hw1 : ∀ k, k ≠ 46 → dw 46 P z Y 0 w k = c k := fun k hk => by rw [dw_o hk]; exact hw k hk
    have hv1 : SC u (dw 57 P z Y 0 v) := SC_dw Y 0 v (by omega) hv
    have hR1 : RInv (dw 46 P z Y 0 w) 1 Y P := RInv_cg (fun f hf => hw1 _ (by omega)) hR
    have hX1 : MX (dw 46 P z Y 0 w) 1 (dw 57 P z Y 0 v) := MX_cg (fun f hf => hw1 _ (by omega)) (fun _ _ _ _ => rfl) rfl rfl rfl rfl (SC_MX hv1 hX)
    have hsame : ∀ i, i < Y → dw 46 P z Y 0 w 46 i = dw 57 P z Y 0 v 57 i := fun i hi => by rw [dw_in, dw_in, if_pos (by omega), if_pos (by omega)]
    have hper : ∀ j, j < Y → ∃ p, p < P ∧ dw 57 P z Y 0 v 57 j = nI p := fun j hj => by
      rw [dw_in, if_pos (by omega)]
      exact drw_lt hP0 hP7
    have hXv := SC_MX hv hX
    have a1 := sbs_L (n := n) (s2 := nI N) (s5 := t) (s6 := nI i) (z := z) (k := fun y8 y9 w10 => Option.bind (zX3_firstAmiss n w10 1 46 5 (w10 1 0)) (fun q11 => if q11 = (-9) then (zX1_standingBySeed_L9 n 1 (nI N) (fun y14 y15 y16 w17 => some (y15, w17)) m y8 (t + 1) (nI i + 1) w10) else (zX1_standingBySeed_L9 n 1 (nI N) (fun y14 y15 y16 w17 => some (y15, w17)) m y8 t (nI i + 1) w10))) hY5 hP0 hP7 Y 0 n w (by rw [hw 1 (by decide)]; exact hR.1.2.2.2.1) (by rw [hw 1 (by decide)]; exact hR.1.2.2.2.2.1) (by omega) (by omega)
    rw [nI_0, show zsq z 0 = z from rfl] at a1
    have a2 := sbm_L (n := n) (s1 := nI N) (s5 := t) (s6 := nI i) (z := z) (k := fun y13 y14 w15 => Option.bind (zX5_areUnlike n w15) (fun q16 => if q16 = 0 then (letb (t + 0) (fun x19 => zX5_seeds_L45 n (nI N) k2 m y13 x19 (nI i + 1) w15)) else (Option.bind (zX5_doesStand n w15) (fun q20 => if q20.1 = 0 then (letb (t + 0) (fun x23 => zX5_seeds_L45 n (nI N) k2 m y13 x23 (nI i + 1) q20.2)) else (letb (t + 1) (fun x24 => zX5_seeds_L45 n (nI N) k2 m y13 x24 (nI i + 1) q20.2)))))) hY5 hP0 hP7 Y 0 n v (hXv.1.1.trans hR.1.2.2.2.1) (hXv.1.2.1.trans hR.1.2.2.2.2.1) (by omega) (by omega)
    rw [nI_0, show zsq z 0 = z from rfl] at a2
    have hfa := zX3_firstAmiss_eq (n := n) (r := 1) (ch := 46) (cn := 5) (len := Y) hR1.1.2.2.2.1 hY5 hR1.1.2.2.2.2.1 hP7 (by omega) (by omega) hY5 (by omega)
    rw [Nat.min_self, if_pos rfl] at hfa
    have hcc : ∀ i, i < Y → (cnC (dw 46 P z Y 0 w) 1 P (dw 46 P z Y 0 w 46) i ↔ cnC (dw 46 P z Y 0 w) 1 P (dw 57 P z Y 0 v 57) i) := fun i hi => cnC_cg (fun j hj => hsame j (by omega))
    have hws : ∀ i, i < Y → whyS (dw 46 P z Y 0 w) 1 Y P (dw 46 P z Y 0 w 46) i = whyS (dw 46 P z Y 0 w) 1 Y P (dw 57 P z Y 0 v 57) i := fun i hi => whyS_cg (fun j hj => hsame j (by omega))
    have cbad : ∀ j, j < Y → ¬ gdC (dw 46 P z Y 0 w) 1 Y P (dw 46 P z Y 0 w 46) j → ∃ K, K < 5 ∧ zX3_firstAmiss n (dw 46 P z Y 0 w) 1 46 5 (nI Y) = some (nI K) := fun j hj hb => by
      rcases fo (G := gdC (dw 46 P z Y 0 w) 1 Y P (dw 46 P z Y 0 w 46)) Y with ⟨K, hK, g1, g2⟩ | hall
      · exact ⟨K, by omega, hfa.1 K hK g1 g2⟩
      · exact absurd (hall j hj) hb
    have bad_go : ∀ v2, SC u v2 → (∃ K, K < 5 ∧ zX3_firstAmiss n (dw 46 P z Y 0 w) 1 46 5 (nI Y) = some (nI K)) → zX5_seeds_L45 n (nI N) k2 (m + 1) z t (nI i) v = zX5_seeds_L45 n (nI N) k2 m (zsq z Y) t (nI (i + 1)) v2 → ∃ z' t' w' v', (∀ k, k ≠ 46 → w' k = c k) ∧ SC u v' ∧ zX1_standingBySeed_L9 n 1 (nI N) (fun y14 y15 y16 w17 => some (y15, w17)) (m + 1) z t (nI i) w = some (t', w') ∧ zX5_seeds_L45 n (nI N) k2 (m + 1) z t (nI i) v = k2 z' t' (nI N) v' := by
      intro v2 hv2 ⟨K, hK, eK⟩ hmo
      obtain ⟨z', t', w', v', g1, g2, g3, g4⟩ := ih (i + 1) m (zsq z Y) t (dw 46 P z Y 0 w) v2 (by omega) (by omega) hw1 hv2
      refine ⟨z', t', w', v', g1, g2, ?_, by rw [hmo]; exact g4⟩
      rw [zX1_standingBySeed_L9, if_neg (by rw [le_nI (by omega) (by omega)]; omega), a1, hR1.1.2.2.2.1, eK, Option.bind_some, if_neg (m9_ne' (by omega)), nI_1]
      exact g3
    rcases zX5_areUnlike_eq (n := n) hR1 hX1 hper (by omega) with ⟨hu1, hu2⟩ | ⟨⟨j, hj, hu1⟩, hu2⟩
    · obtain ⟨v2, f1, f4, f5⟩ := zX5_doesStand_eq (n := n) hR1 hX1 (fun j hj => Or.inr (hper j hj)) (by omega)
      have hv2 : SC u v2 := SC_sc hv1 f4 f5
      by_cases hs : fsl (whyS (dw 46 P z Y 0 w) 1 Y P (dw 57 P z Y 0 v 57)) Y 0 = -9
      · rw [if_pos hs] at f1
        have hall : ∀ i, i < Y → gdC (dw 46 P z Y 0 w) 1 Y P (dw 46 P z Y 0 w 46) i := fun i hi => ⟨(hcc i hi).mpr (hu1 i hi), by rw [hws i hi]; exact (fsl_all Y 0 (by omega)).mp hs i (by omega) (by omega)⟩
        obtain ⟨z', t', w', v', g1, g2, g3, g4⟩ := ih (i + 1) m (zsq z Y) (t + 1) (dw 46 P z Y 0 w) v2 (by omega) (by omega) hw1 hv2
        refine ⟨z', t', w', v', g1, g2, ?_, ?_⟩
        · rw [zX1_standingBySeed_L9, if_neg (by rw [le_nI (by omega) (by omega)]; omega), a1, hR1.1.2.2.2.1, hfa.2 hall, Option.bind_some, if_pos rfl, nI_1]
          exact g3
        · rw [zX5_seeds_L45, if_neg (by rw [le_nI (by omega) (by omega)]; omega), a2, hu2, Option.bind_some, if_neg (by decide), f1, Option.bind_some]
          simp only [letb]
          rw [if_neg (by decide), nI_1]
          exact g4
      · rw [if_neg hs] at f1
        refine bad_go v2 hv2 ?_ ?_
        · rcases fo (G := gdC (dw 46 P z Y 0 w) 1 Y P (dw 46 P z Y 0 w 46)) Y with ⟨K, hK, g1, g2⟩ | hall
          · exact ⟨K, by omega, hfa.1 K hK g1 g2⟩
          · refine absurd ((fsl_all Y 0 (by omega)).mpr (fun i _ hi => ?_)) hs
            rw [← hws i (by omega)]
            exact (hall i (by omega)).2
        · rw [zX5_seeds_L45, if_neg (by rw [le_nI (by omega) (by omega)]; omega), a2, hu2, Option.bind_some, if_neg (by decide), f1, Option.bind_some]
          rw [if_pos rfl]
          simp only [letb]
          rw [nI_1, Int32.add_zero]
    · refine bad_go (dw 57 P z Y 0 v) hv1 (cbad j hj (fun q => hu1 ((hcc j hj).mp q.1))) ?_
      rw [zX5_seeds_L45, if_neg (by rw [le_nI (by omega) (by omega)]; omega), a2, hu2, Option.bind_some, if_pos rfl]
      simp only [letb]
      rw [nI_1, Int32.add_zero]
theorem op_seeds (n : Nat) (hn : 100 ≤ n) (a z : Int32) : OPT (fun c => zX4_seeds n c a z) (fun u => zX5_seeds n u a z) := by
  intro c u hI hM
  obtain ⟨⟨Y, P, hR⟩, -⟩ := id hI
  have hX := hM.1
  have hP7 := hR.1.2.2.1
  have hP := hR.1.2.2.2.2.1
  have hPu : u 53 13 = nI P := hX.1.2.1.trans hP
  by_cases h0 : 1 ≤ a
  · by_cases h9 : a ≤ 60
    · have hb : zX5_bound n u a 1 60 = some 0 := by unfold zX5_bound; rw [if_pos h0, if_pos h9]
      by_cases hP0 : P = 0
      · refine opt_ref 3 (by decide) (n := n) hI hM ?_ ?_
        · simp only [zX4_seeds, if_pos h0, if_pos h9, hP, hP0]
          rfl
        · simp only [zX5_seeds, hb, Option.bind_some, hPu, hP0]
          rfl
      · have hP1 : 0 < P := by omega
        have hne : ¬ nI P = 0 := nI_ne0 hP1 (by omega)
        obtain ⟨N, hN, rfl⟩ := btw_of (k := 60) (by omega) (by rw [fa_le'] at h0 ⊢; have e1 : (1 : Int32).toInt = 1 := by decide
                                                               have e0 : (0 : Int32).toInt = 0 := by decide
                                                               omega) h9
        obtain ⟨v, p1, p2, p3, p4, p5, p6⟩ := zX5_putsAway_eq (n := n) (u := u) (by omega)
        obtain ⟨z', t', w', v', g1, g2, g3, g4⟩ := seeds_L (n := n) (N := N) (k2 := fun y37 y38 y39 w40 => Option.bind (zX5_putsBack n w40) (fun q41 => some (y38, q41))) hR hX hP1 hn hN N 0 n z 0 c v (by omega) (by omega) (fun _ _ => rfl) p2
        obtain ⟨q, b1, b2, b3, -⟩ := zX5_putsBack_eq (n := n) g2 (by omega)
        rw [nI_0] at g3 g4
        have hsm : Sm c w' := fun k hk => g1 k (by omega)
        refine ⟨t', w', q, ?_, ?_, CINV_sm hsm hI, MREL_sm hsm (MREL_back b2 b3 hM)⟩
        · show zX4_seeds n c (nI N) z = _
          unfold zX4_seeds
          rw [if_pos h0, if_pos h9, hP, if_neg hne]
          unfold zX1_standingBySeed
          rw [g3, Option.bind_some]
        · show zX5_seeds n u (nI N) z = _
          unfold zX5_seeds
          rw [hb, Option.bind_some, if_pos rfl, hPu, if_neg hne, if_pos rfl, p1, Option.bind_some, g4, b1, Option.bind_some]
    · have hb : zX5_bound n u a 1 60 = some (-6) := by unfold zX5_bound; rw [if_pos h0, if_neg h9]
      refine opt_ref 6 (by decide) (n := n) hI hM ?_ ?_
      · simp only [zX4_seeds, if_pos h0, if_neg h9]
        rfl
      · simp only [zX5_seeds, hb, Option.bind_some]
        rfl
  · have hb : zX5_bound n u a 1 60 = some (-4) := by unfold zX5_bound; rw [if_neg h0]
    refine opt_ref 4 (by decide) (n := n) hI hM ?_ ?_
    · simp only [zX4_seeds, if_neg h0]
      rfl
    · simp only [zX5_seeds, hb, Option.bind_some]
      rfl
