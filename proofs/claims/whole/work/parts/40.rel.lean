/-! ===== the class's memory in order, and the model's beside it ===== -/
/-- the image that the model keeps is the class's third river -/
def KI (c u : MU) : Prop :=
  (∀ i, i < 5 → u 70 i = c 30 i ∧ u 70 (5 + i) = c 31 i ∧ u 70 (10 + i) = c 32 i) ∧
  (∀ p, p < 7 → u 70 (15 + p) = c (36 + p) 0 ∧ u 70 (22 + p) = c (36 + p) 1 ∧ u 70 (29 + p) = c (36 + p) 2 ∧ u 70 (36 + p) = c (36 + p) 3 ∧ u 70 (43 + p) = c (36 + p) 4 ∧ u 70 (50 + p) = c (36 + p) 5) ∧
  (∀ a b, a < 7 → b < 7 → u 70 (57 + (7 * a + b)) = gb c 29 a b ∧ u 70 (106 + (7 * a + b)) = c 35 (7 * a + b)) ∧
  (u 70 155 = c 29 0 ∧ u 70 156 = c 29 3 ∧ u 70 157 = c 29 1 ∧ u 70 158 = c 29 2)
/-- places behind a row's end hold nothing -/
def ZR (c : MU) (r : Nat) : Prop := (∀ i, 5 ≤ i → r < 29 → c (r + 1) i = 0 ∧ c (r + 2) i = 0 ∧ c (r + 3) i = 0) ∧ (∀ i, 49 ≤ i → r < 29 → c (r + 6) i = 0)
def CINV (c : MU) : Prop :=
  (∃ Y P, RInv c 1 Y P) ∧ ZR c 1 ∧ ((c 0 3 = 0) ∨ (c 0 3 = 1 ∧ (∃ Y P, RInv c 29 Y P) ∧ ZR c 29)) ∧
  (∃ tl, tl ≤ 80 ∧ c 43 1 = nI tl ∧ ∀ i, i < tl → isD 255 (c 44 i)) ∧
  (∃ rl, rl ≤ 5 ∧ c 0 7 = nI rl ∧ ∀ i, i < rl → isD 6 (c 51 i))
def MREL (c u : MU) : Prop :=
  MX c 1 u ∧ u 57 = c 4 ∧ u 54 = c 52 ∧ u 66 = c 44 ∧ u 53 20 = c 43 1 ∧ u 73 = c 51 ∧ u 53 34 = c 0 7 ∧ u 53 24 = c 0 3 ∧ (c 0 3 = 1 → KI c u)
theorem RInv_cg {c c' : MU} {r Y P : Nat} (h : ∀ f, f < 14 → c' (r + f) = c (r + f)) (hI : RInv c r Y P) : RInv c' r Y P := by
  have h0 : c' r = c r := h 0 (by omega)
  have h1 := h 1 (by omega)
  have h2 := h 2 (by omega)
  have h3 := h 3 (by omega)
  have h5 := h 5 (by omega)
  have h6 := h 6 (by omega)
  have hp : ∀ p, p < 7 → c' (r + 7 + p) = c (r + 7 + p) := fun p hp => by rw [Nat.add_assoc]; exact h (7 + p) (by omega)
  have hg : ∀ a b, gb c' r a b = gb c r a b := fun a b => by unfold gb; rw [h5]
  obtain ⟨i1, i2, i3, i4, i5, i6, i7, i8⟩ := hI
  refine ⟨by rw [h0]; exact i1, fun k hk => by rw [h1, h2]; exact i2 k hk, fun k hk => ?_, fun j k hj hk => by rw [h3]; exact i4 j k hj hk, fun p q => by rw [hp p q]; exact i5 p q, fun a ha => by rw [h5]; exact i6 a ha, fun a b ha hb => by rw [hg, hg]; exact i7 a b ha hb, fun a b ha hb => by rw [h6]; exact i8 a b ha hb⟩
  rw [h3]
  rcases i3 k hk with e | ⟨q, p, hpp, e, e2⟩
  · exact Or.inl e
  · have := i1.2.2.1
    exact Or.inr ⟨q, p, hpp, e, by rw [hp p (by omega)]; exact e2⟩
theorem ZR_cg {c c' : MU} {r : Nat} (h : ∀ f, f < 14 → c' (r + f) = c (r + f)) (hI : ZR c r) : ZR c' r := by
  unfold ZR
  rw [h 1 (by omega), h 2 (by omega), h 3 (by omega), h 6 (by omega)]
  exact hI
theorem CINV_cg {c c' : MU} (h : ∀ k, k < 52 → c' k = c k) (hI : CINV c) : CINV c' := by
  obtain ⟨⟨Y, P, i1⟩, iz, i2, i3, i4⟩ := hI
  have a1 : ∀ f, f < 14 → c' (1 + f) = c (1 + f) := fun f hf => h _ (by omega)
  have a2 : ∀ f, f < 14 → c' (29 + f) = c (29 + f) := fun f hf => h _ (by omega)
  refine ⟨⟨Y, P, RInv_cg a1 i1⟩, ZR_cg a1 iz, ?_, by rw [h 43 (by omega), h 44 (by omega)]; exact i3, by rw [h 0 (by omega), h 51 (by omega)]; exact i4⟩
  rw [h 0 (by omega)]
  rcases i2 with e | ⟨e, ⟨Y2, P2, i⟩, z⟩
  · exact Or.inl e
  · exact Or.inr ⟨e, ⟨Y2, P2, RInv_cg a2 i⟩, ZR_cg a2 z⟩
theorem MX_cg {c c' u u' : MU} {r : Nat} (h : ∀ f, f < 14 → c' (r + f) = c (r + f)) (hu : ∀ k, 55 ≤ k → k ≤ 65 → k ≠ 57 → u' k = u k) (h12 : u' 53 12 = u 53 12) (h13 : u' 53 13 = u 53 13) (h14 : u' 53 14 = u 53 14) (h15 : u' 53 15 = u 53 15) (hM : MX c r u) : MX c' r u' := by
  have h0 : c' r = c r := h 0 (by omega)
  have h1 := h 1 (by omega)
  have h2 := h 2 (by omega)
  have h6 := h 6 (by omega)
  have h5 := h 5 (by omega)
  have hp : ∀ p, p < 7 → c' (r + 7 + p) = c (r + 7 + p) := fun p hp => by rw [Nat.add_assoc]; exact h (7 + p) (by omega)
  have hg : ∀ a b, gb c' r a b = gb c r a b := fun a b => by unfold gb; rw [h5]
  obtain ⟨m1, m2, m3, m4, m5, m6⟩ := hM
  refine ⟨by rw [h12, h13, h14, h15, h0]; exact m1, by rw [hu 55 (by omega) (by omega) (by omega), h1]; exact m2, by rw [hu 56 (by omega) (by omega) (by omega), h2]; exact m3, by rw [hu 65 (by omega) (by omega) (by omega), h6]; exact m4, fun p q => ?_, fun a b ha hb => by rw [hu 64 (by omega) (by omega) (by omega), hg]; exact m6 a b ha hb⟩
  rw [hu 58 (by omega) (by omega) (by omega), hu 59 (by omega) (by omega) (by omega), hu 60 (by omega) (by omega) (by omega), hu 61 (by omega) (by omega) (by omega), hu 62 (by omega) (by omega) (by omega), hu 63 (by omega) (by omega) (by omega), hp p q]
  exact m5 p q
theorem KI_cg {c c' u u' : MU} (h : ∀ f, f < 14 → c' (29 + f) = c (29 + f)) (hu : ∀ i, i < 159 → u' 70 i = u 70 i) (hK : KI c u) : KI c' u' := by
  have e : ∀ k, 29 ≤ k → k < 43 → c' k = c k := fun k h1 h2 => by
    have := h (k - 29) (by omega)
    rwa [show 29 + (k - 29) = k by omega] at this
  have hg : ∀ a b, gb c' 29 a b = gb c 29 a b := fun a b => by unfold gb; rw [h 5 (by omega)]
  obtain ⟨k1, k2, k3, k4⟩ := hK
  refine ⟨fun i hi => ?_, fun p hp => ?_, fun a b ha hb => ?_, ?_⟩
  · rw [hu _ (by omega), hu _ (by omega), hu _ (by omega), e 30 (by omega) (by omega), e 31 (by omega) (by omega), e 32 (by omega) (by omega)]
    exact k1 i hi
  · rw [hu _ (by omega), hu _ (by omega), hu _ (by omega), hu _ (by omega), hu _ (by omega), hu _ (by omega), e (36 + p) (by omega) (by omega)]
    exact k2 p hp
  · rw [hu _ (by omega), hu _ (by omega), hg, e 35 (by omega) (by omega)]
    exact k3 a b ha hb
  · rw [hu _ (by omega), hu _ (by omega), hu _ (by omega), hu _ (by omega), e 29 (by omega) (by omega)]
    exact k4
/-- the model's scratch: what the relation doesn't read -/
theorem MREL_cg {c c' u u' : MU} (h : ∀ k, k < 53 → c' k = c k) (hu : ∀ k, 54 ≤ k → k ≤ 66 → u' k = u k) (h73 : u' 73 = u 73) (h70 : ∀ i, i < 159 → u' 70 i = u 70 i) (h53 : ∀ i, (i = 12 ∨ i = 13 ∨ i = 14 ∨ i = 15 ∨ i = 20 ∨ i = 24 ∨ i = 34) → u' 53 i = u 53 i) (hM : MREL c u) : MREL c' u' := by
  obtain ⟨m1, m2, m3, m4, m5, m6, m7, m8, m9⟩ := hM
  have a1 : ∀ f, f < 14 → c' (1 + f) = c (1 + f) := fun f hf => h _ (by omega)
  refine ⟨MX_cg a1 (fun k h1 h2 _ => hu k (by omega) (by omega)) (h53 12 (by simp)) (h53 13 (by simp)) (h53 14 (by simp)) (h53 15 (by simp)) m1, by rw [hu 57 (by omega) (by omega), h 4 (by omega)]; exact m2, by rw [hu 54 (by omega) (by omega), h 52 (by omega)]; exact m3, by rw [hu 66 (by omega) (by omega), h 44 (by omega)]; exact m4, by rw [h53 20 (by simp), h 43 (by omega)]; exact m5, by rw [h73, h 51 (by omega)]; exact m6, by rw [h53 34 (by simp), h 0 (by omega)]; exact m7, by rw [h53 24 (by simp), h 0 (by omega)]; exact m8, ?_⟩
  intro e
  rw [h 0 (by omega)] at e
  exact KI_cg (fun f hf => h _ (by omega)) h70 (m9 e)
/-- an operation: both answer alike, and stay in order -/
def OPT (fc fm : MU → Option (Int32 × MU)) : Prop := ∀ c u, CINV c → MREL c u → ∃ v c' u', fc c = some (v, c') ∧ fm u = some (v, u') ∧ CINV c' ∧ MREL c' u'
def ST (fc fm : MU → Option (Int32 × MU)) : Prop := ∀ u, CINV u → MREL u u → ∃ q5 q8 : Int32 × MU, fc u = some q5 ∧ fm q5.2 = some q8 ∧ q5.1 = q8.1 ∧ CINV q8.2 ∧ MREL q8.2 q8.2
theorem ST_of {fc fm : MU → Option (Int32 × MU)} (h : OPT fc fm) (hc : ∀ u, FrP (fun k => 53 ≤ k) u (fc u)) (hm : ∀ u, FrP (fun k => k < 53) u (fm u)) : ST fc fm := by
  intro u hI hM
  obtain ⟨v, c', -, e1, -⟩ := h u u hI hM
  have g1 : Ag (fun k => 53 ≤ k) u c' := hc u (v, c') e1
  have hM1 : MREL u c' := MREL_cg (fun _ _ => rfl) (fun k h1 _ => g1 k (by omega)) (g1 73 (by omega)) (fun i _ => by rw [g1 70 (by omega)]) (fun i _ => by rw [g1 53 (by omega)]) hM
  obtain ⟨v2, c2, u2, f1, f2, f3, f4⟩ := h u c' hI hM1
  rw [e1] at f1
  obtain ⟨rfl, rfl⟩ := Prod.mk.inj (Option.some.inj f1)
  have g2 : Ag (fun k => k < 53) c' u2 := hm c' (v, u2) f2
  exact ⟨(v, c'), (v, u2), e1, f2, rfl, CINV_cg (fun k hk => g2 k (by omega)) f3, MREL_cg (fun k hk => g2 k hk) (fun _ _ _ => rfl) rfl (fun _ _ => rfl) (fun _ _ => rfl) f4⟩
/-! refusals -/
theorem ref_fin : ∀ k, k < 7 → oob (-(-(nI k))) 7 = false ∧ (-(-(nI k))).toNatClampNeg = k := by decide +kernel
theorem zX4_refuse_eq {n : Nat} {c : MU} {k : Nat} (hk : k < 7) : zX4_refuse n c (-(nI k)) = some (-(nI k), up2 c 52 k (c 52 k + 1)) := by
  obtain ⟨h1, h2⟩ := ref_fin k hk
  unfold zX4_refuse
  rw [h1, h2]
  simp [letb]
theorem zX5_no_eq {n : Nat} {u : MU} {k : Nat} (hk : k < 7) : zX5_no n u (-(nI k)) = some (-(nI k), up2 u 54 k (u 54 k + 1)) := by
  obtain ⟨h1, h2⟩ := ref_fin k hk
  unfold zX5_no
  rw [h1, h2]
  simp [letb]
theorem ref_rel {c u : MU} {k : Nat} (hI : CINV c) (hM : MREL c u) : CINV (up2 c 52 k (c 52 k + 1)) ∧ MREL (up2 c 52 k (c 52 k + 1)) (up2 u 54 k (u 54 k + 1)) := by
  have hc : ∀ j, j < 52 → up2 c 52 k (c 52 k + 1) j = c j := fun j hj => up2_o (by omega)
  refine ⟨CINV_cg hc hI, ?_⟩
  obtain ⟨m1, m2, m3, m4, m5, m6, m7, m8, m9⟩ := hM
  have hu : ∀ j, j ≠ 54 → up2 u 54 k (u 54 k + 1) j = u j := fun j hj => up2_o hj
  refine ⟨MX_cg (fun f hf => hc _ (by omega)) (fun j h1 h2 h3 => ?_) (by rw [hu 53 (by omega)]) (by rw [hu 53 (by omega)]) (by rw [hu 53 (by omega)]) (by rw [hu 53 (by omega)]) m1, by rw [hu 57 (by omega), hc 4 (by omega)]; exact m2, ?_, by rw [hu 66 (by omega), hc 44 (by omega)]; exact m4, by rw [hu 53 (by omega), hc 43 (by omega)]; exact m5, by rw [hu 73 (by omega), hc 51 (by omega)]; exact m6, by rw [hu 53 (by omega), hc 0 (by omega)]; exact m7, by rw [hu 53 (by omega), hc 0 (by omega)]; exact m8, ?_⟩
  · exact hu j (by omega)
  · funext i
    by_cases e : i = k
    · subst e; rw [up2_s, up2_s, m3]
    · rw [up2_i e, up2_i e, m3]
  · intro e
    rw [hc 0 (by omega)] at e
    exact KI_cg (fun f hf => hc _ (by omega)) (fun i _ => by rw [hu 70 (by omega)]) (m9 e)
