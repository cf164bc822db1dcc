/-! ===== letters: the model's reading ===== -/
def TM (w : MU) (L : Nat) (t : Nat → Nat) : Prop := w 53 20 = nI L ∧ L ≤ 80 ∧ ∀ i, i < L → t i ≤ 255 ∧ w 66 i = nI (t i)
theorem TM_fr {w w' : MU} {L : Nat} {t : Nat → Nat} (h : TM w L t) (h1 : w' 53 20 = w 53 20) (h2 : w' 66 = w 66) : TM w' L t := ⟨by rw [h1]; exact h.1, h.2.1, fun i hi => by rw [h2]; exact h.2.2 i hi⟩
theorem next_eq {n : Nat} {w : MU} {L : Nat} {t : Nat → Nat} {s : Nat} (hT : TM w L t) (h21 : w 53 21 = nI s) (hs : s < 1000) : zX5_next n w = some (if s < L then nI (t s) else -1) := by
  have hL := hT.2.1
  unfold zX5_next
  rw [hT.1, h21]
  by_cases h : s < L
  · rw [if_neg (by rw [le_nI (by omega) (by omega)]; omega), oob_no (show s < 80 by omega) (by omega), tn_nI (by omega), (hT.2.2 s h).2, if_pos h]
    rfl
  · rw [if_pos (nI_le (by omega) (by omega)), if_neg h]
theorem isIn_eq {n : Nat} {w : MU} {L : Nat} {t : Nat → Nat} {s : Nat} (hT : TM w L t) : zX5_isIn n w (if s < L then nI (t s) else -1) 48 57 = some (if dg L t s = true then 1 else 0) := by
  unfold zX5_isIn
  by_cases h : s < L
  · have h255 := (hT.2.2 s h).1
    rw [if_pos h]
    by_cases h1 : t s < 48
    · have e1 : nI (t s) < 48 := nI_lt (b := 48) h1 (by omega)
      have e2 : ¬ dg L t s = true := fun z => by have := dg_iff.mp z; omega
      rw [if_pos e1, if_neg e2]
    · have e1 : ¬ nI (t s) < 48 := nI_nlt (b := 48) (by omega) (by omega)
      rw [if_neg e1]
      by_cases h2 : 57 < t s
      · have e2 : (57 : Int32) < nI (t s) := nI_lt (a := 57) h2 (by omega)
        have e3 : ¬ dg L t s = true := fun z => by have := dg_iff.mp z; omega
        rw [if_pos e2, if_neg e3]
      · have e2 : ¬ (57 : Int32) < nI (t s) := nI_nlt (a := 57) (by omega) (by omega)
        rw [if_neg e2, if_pos (dg_iff.mpr ⟨h, by omega, by omega⟩)]
  · have e3 : ¬ dg L t s = true := fun z => by have := dg_iff.mp z; omega
    rw [if_neg h, if_pos (by decide), if_neg e3]
theorem rd_step {n : Nat} {w : MU} {L : Nat} {t : Nat → Nat} {s v j D m : Nat} {s1 : Int32} {k : Int32 → Int32 → MU → Option (Int32 × MU)} (hT : TM w L t) (h21 : w 53 21 = nI s) (hs : s < 500) (hv : v ≤ 9) (hj : j < D) (hD : D ≤ 2) (hd : dg L t s = true) :
    zX5_readsNumber_L21 n s1 (nI D) k (m + 1) (nI v) (nI j) w = zX5_readsNumber_L21 n s1 (nI D) k m (nI (10 * v + dv L t s)) (nI (j + 1)) (up2 w 53 21 (nI (s + 1))) := by
  obtain ⟨d1, d2, d3⟩ := dg_iff.mp hd
  have hval : ((10 : Int32) * nI v + nI (t s)) - 48 = nI (10 * v + dv L t s) := by
    have e : dv L t s = t s - 48 := by unfold dv; rw [if_pos hd]
    rw [show (10 : Int32) = nI 10 from rfl, show (48 : Int32) = nI 48 from rfl, pk_mul, nI_add, pk_sub (by omega), e, show 10 * v + t s - 48 = 10 * v + (t s - 48) by omega]
  rw [zX5_readsNumber_L21, if_neg (by rw [le_nI (by omega) (by omega)]; omega), next_eq hT h21 (by omega), Option.bind_some, isIn_eq hT, Option.bind_some, if_pos hd, if_neg (by decide), Option.bind_some, if_pos d1, h21, nI_1, nI_1]
  simp only [letb]
  rw [hval]
theorem rd_end {n : Nat} {w : MU} {L : Nat} {t : Nat → Nat} {s v j D m : Nat} {s1 : Int32} {k : Int32 → Int32 → MU → Option (Int32 × MU)} (hT : TM w L t) (h21 : w 53 21 = nI s) (hs : s < 500) (hj : j ≤ D) (hD : D ≤ 2) (hd : j = D ∨ ¬ dg L t s = true) :
    zX5_readsNumber_L21 n s1 (nI D) k (m + 1) (nI v) (nI j) w = k (nI v) (nI j) w := by
  rw [zX5_readsNumber_L21]
  by_cases q : j = D
  · rw [if_pos (nI_le (by omega) (by omega))]
  · rw [if_neg (by rw [le_nI (by omega) (by omega)]; omega), next_eq hT h21 (by omega), Option.bind_some, isIn_eq hT, Option.bind_some, if_neg (hd.resolve_left q), if_pos rfl]
theorem reads_no {n : Nat} {w : MU} {L : Nat} {t : Nat → Nat} {s : Nat} {a b : Int32} (hT : TM w L t) (h21 : w 53 21 = nI s) (hs : s < 500) (hd : ¬ dg L t s = true) : zX5_readsNumber n w a b = some (0, w) := by
  unfold zX5_readsNumber
  rw [next_eq hT h21 (by omega), Option.bind_some, isIn_eq hT, Option.bind_some, if_neg hd, if_pos rfl]
theorem TM_21 {w : MU} {L : Nat} {t : Nat → Nat} {x : Int32} (h : TM w L t) : TM (up2 w 53 21 x) L t := TM_fr h (up2_i (by decide)) (up2_o (by decide))
theorem reads_1 {n : Nat} {w : MU} {L : Nat} {t : Nat → Nat} {s a : Nat} (hT : TM w L t) (h21 : w 53 21 = nI s) (hs : s < 400) (ha : a < 200) (hd : dg L t s = true) (hn : 20 ≤ n) : zX5_readsNumber n w (nI a) 1 = some (1, up2 (up2 w 53 21 (nI (s + 1))) 69 a (nI (dv L t s))) := by
  unfold zX5_readsNumber
  rw [next_eq hT h21 (by omega), Option.bind_some, isIn_eq hT, Option.bind_some, if_pos hd, if_neg (by decide)]
  obtain ⟨m, hm⟩ : ∃ m, n = m + 1 + 1 := ⟨n - 2, by omega⟩
  have h1 := rd_step (n := n) (m := m + 1) (v := 0) (j := 0) (D := 1) (s1 := nI a) (k := fun y16 y17 w18 => if oob (nI a) 200 = true then none else letb (up2 w18 69 (nI a).toNatClampNeg y16) (fun u20 => some (1, u20))) hT h21 (by omega) (by omega) (by omega) (by omega) hd
  have h2 := rd_end (n := n) (m := m) (v := 10 * 0 + dv L t s) (j := 0 + 1) (D := 1) (s := s + 1) (s1 := nI a) (k := fun y16 y17 w18 => if oob (nI a) 200 = true then none else letb (up2 w18 69 (nI a).toNatClampNeg y16) (fun u20 => some (1, u20))) (TM_21 (x := nI (s + 1)) hT) up2_s (by omega) (by omega) (by omega) (Or.inl rfl)
  rw [← hm] at h1
  refine h1.trans (h2.trans ?_)
  rw [oob_no ha (by omega), tn_nI (by omega), Nat.mul_zero, Nat.zero_add]
  rfl
def wm (L : Nat) (t : Nat → Nat) (s : Nat) : Nat := if dg L t (s + 1) = true then 10 * dv L t s + dv L t (s + 1) else dv L t s
theorem reads_2 {n : Nat} {w : MU} {L : Nat} {t : Nat → Nat} {s a : Nat} (hT : TM w L t) (h21 : w 53 21 = nI s) (hs : s < 400) (ha : a < 200) (hd : dg L t s = true) (hn : 20 ≤ n) : zX5_readsNumber n w (nI a) 2 = some (1, up2 (up2 (up2 w 53 21 (nI (s + 1))) 53 21 (nI (if dg L t (s + 1) = true then s + 2 else s + 1))) 69 a (nI (wm L t s))) := by
  unfold zX5_readsNumber
  rw [next_eq hT h21 (by omega), Option.bind_some, isIn_eq hT, Option.bind_some, if_pos hd, if_neg (by decide)]
  obtain ⟨m, hm⟩ : ∃ m, n = m + 1 + 1 + 1 := ⟨n - 3, by omega⟩
  have hdv := dv_le (L := L) (t := t) (s := s)
  have hu21 : up2 w 53 21 (nI (s + 1)) = up2 (up2 w 53 21 (nI (s + 1))) 53 21 (nI (s + 1)) := by
    funext a b
    by_cases e : a = 53
    · subst e
      by_cases e2 : b = 21
      · subst e2; rw [up2_s, up2_s]
      · rw [up2_i e2, up2_i e2, up2_i e2]
    · rw [up2_o e, up2_o e, up2_o e]
  have h1 := rd_step (n := n) (m := m + 1 + 1) (v := 0) (j := 0) (D := 2) (s1 := nI a) (k := fun y16 y17 w18 => if oob (nI a) 200 = true then none else letb (up2 w18 69 (nI a).toNatClampNeg y16) (fun u20 => some (1, u20))) hT h21 (by omega) (by omega) (by omega) (by omega) hd
  rw [← hm] at h1
  have e0 : 10 * 0 + dv L t s = dv L t s := by omega
  rw [e0] at h1
  by_cases hd2 : dg L t (s + 1) = true
  · have h2 := rd_step (n := n) (m := m + 1) (v := dv L t s) (j := 0 + 1) (D := 2) (s := s + 1) (s1 := nI a) (k := fun y16 y17 w18 => if oob (nI a) 200 = true then none else letb (up2 w18 69 (nI a).toNatClampNeg y16) (fun u20 => some (1, u20))) (TM_21 (x := nI (s + 1)) hT) up2_s (by omega) hdv (by omega) (by omega) hd2
    have h3 := rd_end (n := n) (m := m) (v := 10 * dv L t s + dv L t (s + 1)) (j := 0 + 1 + 1) (D := 2) (s := s + 1 + 1) (s1 := nI a) (k := fun y16 y17 w18 => if oob (nI a) 200 = true then none else letb (up2 w18 69 (nI a).toNatClampNeg y16) (fun u20 => some (1, u20))) (TM_21 (x := nI (s + 1 + 1)) (TM_21 (x := nI (s + 1)) hT)) up2_s (by omega) (by omega) (by omega) (Or.inl rfl)
    unfold wm
    rw [if_pos hd2, if_pos hd2]
    refine h1.trans (h2.trans (h3.trans ?_))
    rw [oob_no ha (by omega), tn_nI (by omega)]
    rfl
  · have h2 := rd_end (n := n) (m := m + 1) (v := dv L t s) (j := 0 + 1) (D := 2) (s := s + 1) (s1 := nI a) (k := fun y16 y17 w18 => if oob (nI a) 200 = true then none else letb (up2 w18 69 (nI a).toNatClampNeg y16) (fun u20 => some (1, u20))) (TM_21 (x := nI (s + 1)) hT) up2_s (by omega) (by omega) (by omega) (Or.inr hd2)
    unfold wm
    rw [if_neg hd2, if_neg hd2, ← hu21]
    refine h1.trans (h2.trans ?_)
    rw [oob_no ha (by omega), tn_nI (by omega)]
    rfl
/-- the ones of a statement, read so far -/
def QO (L : Nat) (t : Nat → Nat) (w0 : MU) (k0 s j : Nat) (w : MU) : Prop :=
  w 53 21 = nI (s + 1 + j) ∧ (∀ k, k ≠ 53 → k ≠ 69 → w k = w0 k) ∧ (∀ i, i ≠ 21 → w 53 i = w0 53 i) ∧ (∀ i, i < j → w 69 (5 * k0 + i) = nI (dv L t (s + 1 + i))) ∧ (∀ i, i < 5 * k0 → w 69 i = w0 69 i)
theorem QO_T {L : Nat} {t : Nat → Nat} {w0 w : MU} {k0 s j : Nat} (h : QO L t w0 k0 s j w) (hT : TM w0 L t) : TM w L t := TM_fr hT (h.2.2.1 20 (by decide)) (h.2.1 66 (by decide) (by decide))
theorem QO_step {n : Nat} {L : Nat} {t : Nat → Nat} {w0 w : MU} {k0 s j : Nat} (h : QO L t w0 k0 s j w) (hT : TM w0 L t) (hs : s ≤ 100) (hj : j < 5) (hk : k0 < 39) (hd : dg L t (s + 1 + j) = true) (hn : 20 ≤ n) : ∃ w', zX5_readsNumber n w (nI (5 * k0 + j)) 1 = some (1, w') ∧ QO L t w0 k0 s (j + 1) w' := by
  refine ⟨_, reads_1 (QO_T h hT) h.1 (by omega) (by omega) hd hn, by rw [up2_o (by decide), up2_s]; rfl, fun k a b => by rw [up2_o b, up2_o a]; exact h.2.1 k a b, fun i hi => by rw [up2_o (by decide), up2_i hi]; exact h.2.2.1 i hi, fun i hi => ?_, fun i hi => by rw [up2_i (by omega), up2_o (by decide)]; exact h.2.2.2.2 i hi⟩
  by_cases e : i = j
  · subst e; rw [up2_s]
  · rw [up2_i (by omega), up2_o (by decide)]; exact h.2.2.2.1 i (by omega)
theorem ones_all {n : Nat} {L : Nat} {t : Nat → Nat} {w0 : MU} {k0 s O : Nat} {s1 : Int32} {k : Int32 → MU → Option (Int32 × MU)} (hT : TM w0 L t) (hs : s ≤ 100) (hO : O ≤ 4) (hk : k0 < 39) (hn : 20 ≤ n) :
    ∀ (d j m : Nat) (w : MU), j + d = O → d < m → QO L t w0 k0 s j w → (∀ i, j ≤ i → i < O → dg L t (s + 1 + i) = true) → ∃ w', QO L t w0 k0 s O w' ∧ zX5_statement_L59 n s1 (nI O) (nI (5 * k0)) k m (nI j) w = k (nI O) w' := by
  intro d
  induction d with
  | zero =>
    intro j m w hj hm hw _
    obtain ⟨m, rfl⟩ : ∃ e, m = e + 1 := ⟨m - 1, by omega⟩
    obtain rfl : j = O := by omega
    refine ⟨w, hw, ?_⟩
    rw [zX5_statement_L59, if_pos (nI_le (Nat.le_refl _) (by omega))]
  | succ d ih =>
    intro j m w hj hm hw hd
    obtain ⟨m, rfl⟩ : ∃ e, m = e + 1 := ⟨m - 1, by omega⟩
    obtain ⟨w1, e1, e2⟩ := QO_step (n := n) hw hT hs (by omega) hk (hd j (Nat.le_refl _) (by omega)) hn
    obtain ⟨w', g1, g2⟩ := ih (j + 1) m w1 (by omega) (by omega) e2 (fun i a b => hd i (by omega) b)
    refine ⟨w', g1, ?_⟩
    rw [zX5_statement_L59, if_neg (by rw [le_nI (by omega) (by omega)]; omega), nI_add, e1, Option.bind_some, if_neg n10, nI_1]
    exact g2
theorem ones_bad {n : Nat} {L : Nat} {t : Nat → Nat} {w0 : MU} {k0 s O I : Nat} {s1 : Int32} {k : Int32 → MU → Option (Int32 × MU)} (hT : TM w0 L t) (hs : s ≤ 100) (hO : O ≤ 4) (hI : I < O) (hk : k0 < 39) (hn : 20 ≤ n) (hb : ¬ dg L t (s + 1 + I) = true) :
    ∀ (d j m : Nat) (w : MU), j + d = I → d < m → QO L t w0 k0 s j w → (∀ i, j ≤ i → i < I → dg L t (s + 1 + i) = true) → ∃ w', QO L t w0 k0 s I w' ∧ zX5_statement_L59 n s1 (nI O) (nI (5 * k0)) k m (nI j) w = some (0, w') := by
  intro d
  induction d with
  | zero =>
    intro j m w hj hm hw _
    obtain ⟨m, rfl⟩ : ∃ e, m = e + 1 := ⟨m - 1, by omega⟩
    obtain rfl : j = I := by omega
    refine ⟨w, hw, ?_⟩
    rw [zX5_statement_L59, if_neg (by rw [le_nI (by omega) (by omega)]; omega), reads_no (QO_T hw hT) hw.1 (by omega) hb, Option.bind_some, if_pos rfl]
  | succ d ih =>
    intro j m w hj hm hw hd
    obtain ⟨m, rfl⟩ : ∃ e, m = e + 1 := ⟨m - 1, by omega⟩
    obtain ⟨w1, e1, e2⟩ := QO_step (n := n) hw hT hs (by omega) hk (hd j (Nat.le_refl _) (by omega)) hn
    obtain ⟨w', g1, g2⟩ := ih (j + 1) m w1 (by omega) (by omega) e2 (fun i a b => hd i (by omega) b)
    refine ⟨w', g1, ?_⟩
    rw [zX5_statement_L59, if_neg (by rw [le_nI (by omega) (by omega)]; omega), nI_add, e1, Option.bind_some, if_neg n10, nI_1]
    exact g2
def PF (w w' : MU) : Prop := (∀ k, k ≠ 53 → k ≠ 67 → k ≠ 68 → k ≠ 69 → w' k = w k) ∧ (∀ i, i ≠ 21 → i ≠ 22 → w' 53 i = w 53 i)
def RC (L : Nat) (t : Nat → Nat) (w : MU) (i : Nat) : Prop := w 67 i = nI (t (sq L t i)) ∧ w 68 i = nI (sq L t i) ∧ (∀ j, j < onN (t (sq L t i)) → w 69 (5 * i + j) = nI (dv L t (sq L t i + 1 + j))) ∧ (t (sq L t i) = 112 → w 69 (5 * i + 4) = nI (wm L t (sq L t i + 5)))
theorem on_all : ∀ b, b < 256 → onN b ≤ leN b := by decide +kernel
theorem statement_eq {n : Nat} {w : MU} {L : Nat} {t : Nat → Nat} {k0 : Nat} (hT : TM w L t) (h21 : w 53 21 = nI (sq L t k0)) (h22 : w 53 22 = nI k0) (hs : sq L t k0 ≤ 100) (hk : k0 < 39) (hn : 20 ≤ n) :
    (gdS L t (sq L t k0) ∧ ∃ w', zX5_statement n w = some (1, w') ∧ PF w w' ∧ w' 53 21 = nI (sq L t (k0 + 1)) ∧ w' 53 22 = nI k0 ∧ RC L t w' k0 ∧ (∀ i, i < k0 → w' 67 i = w 67 i ∧ w' 68 i = w 68 i) ∧ (∀ i, i < 5 * k0 → w' 69 i = w 69 i)) ∨
    (¬ gdS L t (sq L t k0) ∧ ∃ w', zX5_statement n w = some (0, w') ∧ PF w w' ∧ w' 53 21 = nI (er L t (sq L t k0)) ∧ w' 53 22 = nI k0) := by
  have hL := hT.2.1
  have hsq : sq L t (k0 + 1) = ed L t (sq L t k0) + 1 := rfl
  unfold RC
  generalize sq L t k0 = s at *
  unfold zX5_statement
  rw [next_eq hT h21 (by omega), Option.bind_some]
  by_cases h : s < L
  · have h255 := (hT.2.2 s h).1
    obtain ⟨b1, b2, b3, b4, b5, b6⟩ := le_bd (t s) (by omega)
    have hon := on_all (t s) (by omega)
    have hr := rn_le (L := L) (t := t) (moN (t s)) (s + 1)
    have hed : ed L t s = s + 1 + rn L t (moN (t s)) (s + 1) := rfl
    have e1 : zX5_onesOf n w (nI (t s)) = some (nI (onN (t s))) := on_fin (t s) (by omega)
    rw [if_pos h, e1, Option.bind_some]
    by_cases h0 : leN (t s) = 0
    · rw [b5.mpr h0, if_pos (by decide)]
      refine Or.inr ⟨fun z => by have := z.2.1; omega, w, rfl, ⟨fun _ _ _ _ _ => rfl, fun _ _ _ => rfl⟩, ?_, h22⟩
      unfold er
      rw [if_neg (by omega)]
      exact h21
    · have hon0 : 0 < onN (t s) := by
        by_cases z : onN (t s) = 0
        · exact absurd (b5.mp z) h0
        · omega
      have her : er L t s = ed L t s := by unfold er; rw [if_pos ⟨h, by omega⟩]
      have g22 : up2 w 67 k0 (nI (t s)) 53 22 = nI k0 := by rw [up2_o (by decide)]; exact h22
      have g21 : up2 w 67 k0 (nI (t s)) 53 21 = nI s := by rw [up2_o (by decide)]; exact h21
      have g21' : up2 (up2 w 67 k0 (nI (t s))) 68 k0 (nI s) 53 21 = nI s := by rw [up2_o (by decide)]; exact g21
      have g22' : up2 (up2 (up2 w 67 k0 (nI (t s))) 68 k0 (nI s)) 53 21 (nI (s + 1)) 53 22 = nI k0 := by rw [up2_i (by decide), up2_o (by decide)]; exact g22
      have h5k : (5 : Int32) * nI k0 = nI (5 * k0) := by rw [show (5 : Int32) = nI 5 from rfl, pk_mul]
      rw [if_neg (nI_ne0 (by omega) (by omega)), h22, oob_no (show k0 < 40 by omega) (by omega), tn_nI (by omega)]
      simp only [Bool.false_eq_true, if_false, letb]
      rw [g22, oob_no (show k0 < 40 by omega) (by omega), tn_nI (by omega), g21]
      simp only [Bool.false_eq_true, if_false]
      rw [g21', nI_1, g22', h5k]
      have hT0 : TM (up2 (up2 w 67 k0 (nI (t s))) 68 k0 (nI s)) L t := TM_fr hT (by rw [up2_o (by decide), up2_o (by decide)]) (by rw [up2_o (by decide), up2_o (by decide)])
      have hQ0 : QO L t (up2 (up2 w 67 k0 (nI (t s))) 68 k0 (nI s)) k0 s 0 (up2 (up2 (up2 w 67 k0 (nI (t s))) 68 k0 (nI s)) 53 21 (nI (s + 1))) :=
        ⟨up2_s, fun k a _ => up2_o a, fun i hi => up2_i hi, fun i hi => absurd hi (by omega), fun i _ => by rw [up2_o (by decide)]⟩
      have hfr : ∀ j w', QO L t (up2 (up2 w 67 k0 (nI (t s))) 68 k0 (nI s)) k0 s j w' → PF w w' ∧ w' 53 22 = nI k0 ∧ w' 67 k0 = nI (t s) ∧ w' 68 k0 = nI s ∧ (∀ i, i < k0 → w' 67 i = w 67 i ∧ w' 68 i = w 68 i) ∧ (∀ i, i < 5 * k0 → w' 69 i = w 69 i) := fun j w' q => by
        refine ⟨⟨fun k a b d e => by rw [q.2.1 k a e, up2_o d, up2_o b], fun i a b => by rw [q.2.2.1 i a, up2_o (by decide), up2_o (by decide)]⟩, by rw [q.2.2.1 22 (by decide), up2_o (by decide)]; exact g22, by rw [q.2.1 67 (by decide) (by decide), up2_o (by decide), up2_s], by rw [q.2.1 68 (by decide) (by decide), up2_s], fun i hi => ⟨by rw [q.2.1 67 (by decide) (by decide), up2_o (by decide), up2_i (by omega)], by rw [q.2.1 68 (by decide) (by decide), up2_i (by omega), up2_o (by decide)]⟩, fun i hi => by rw [q.2.2.2.2 i hi, up2_o (by decide), up2_o (by decide)]⟩
      have hQ0' := hQ0
      generalize up2 (up2 (up2 w 67 k0 (nI (t s))) 68 k0 (nI s)) 53 21 (nI (s + 1)) = wa at *
      generalize up2 (up2 w 67 k0 (nI (t s))) 68 k0 (nI s) = wb at *
      clear g21 g22 g21' g22' hQ0'
      by_cases hlt : rn L t (moN (t s)) (s + 1) < onN (t s)
      · obtain ⟨w', q1, q2⟩ := ones_bad (n := n) (s1 := nI (t s)) (O := onN (t s)) (I := rn L t (moN (t s)) (s + 1)) (k := fun y16 w17 => if nI (t s) = 112 then (Option.bind (zX5_readsNumber n w17 (nI (5 * k0) + 4) 2) (fun q23 => if q23.1 = 0 then (some (0, q23.2)) else (Option.bind (zX5_next n q23.2) (fun q26 => if q26 = 59 then (some (1, up2 q23.2 53 21 ((q23.2 53 21) + 1))) else (some (0, q23.2)))))) else (Option.bind (zX5_next n w17) (fun q19 => if q19 = 59 then (some (1, up2 w17 53 21 ((w17 53 21) + 1))) else (some (0, w17))))) hT0 hs b4 hlt hk hn (rn_stop _ _ (by omega)) (rn L t (moN (t s)) (s + 1)) 0 n wa (by omega) (by omega) hQ0 (fun i _ hi => rn_dg _ _ i hi)
        rw [nI_0] at q2
        obtain ⟨f1, f2, -⟩ := hfr _ w' q1
        exact Or.inr ⟨fun z => by have := z.2.2.1; omega, w', q2, f1, by rw [q1.1, her, hed], f2⟩
      · obtain ⟨w', q1, q2⟩ := ones_all (n := n) (s1 := nI (t s)) (O := onN (t s)) (k := fun y16 w17 => if nI (t s) = 112 then (Option.bind (zX5_readsNumber n w17 (nI (5 * k0) + 4) 2) (fun q23 => if q23.1 = 0 then (some (0, q23.2)) else (Option.bind (zX5_next n q23.2) (fun q26 => if q26 = 59 then (some (1, up2 q23.2 53 21 ((q23.2 53 21) + 1))) else (some (0, q23.2)))))) else (Option.bind (zX5_next n w17) (fun q19 => if q19 = 59 then (some (1, up2 w17 53 21 ((w17 53 21) + 1))) else (some (0, w17))))) hT0 hs b4 hk hn (onN (t s)) 0 n wa (by omega) (by omega) hQ0 (fun i _ hi => rn_dg (moN (t s)) (s + 1) i (by omega))
        rw [nI_0] at q2
        rw [q2]
        obtain ⟨f1, f2, f3, f4, f5, f6⟩ := hfr _ w' q1
        have hTw := QO_T q1 hT0
        by_cases h112 : t s = 112
        · have hon4 : onN (t s) = 4 := by rw [h112]; rfl
          have hmo6 : moN (t s) = 6 := by rw [h112]; rfl
          have hle5 : leN (t s) = 5 := by rw [h112]; rfl
          have hw21 : w' 53 21 = nI (s + 5) := by rw [q1.1, hon4]
          rw [if_pos (by rw [h112]; rfl), show (4 : Int32) = nI 4 from rfl, nI_add]
          by_cases hd5 : dg L t (s + 5) = true
          · have hrd := reads_2 (n := n) (a := 5 * k0 + 4) hTw hw21 (by omega) (by omega) hd5 hn
            have hge5 : 5 ≤ rn L t (moN (t s)) (s + 1) := by
              by_cases z : 5 ≤ rn L t (moN (t s)) (s + 1)
              · exact z
              · exfalso
                have h4 : rn L t (moN (t s)) (s + 1) = 4 := by omega
                have := rn_stop (L := L) (t := t) (moN (t s)) (s + 1) (by omega)
                rw [h4] at this
                exact this hd5
            have hend : (if dg L t (s + 5 + 1) = true then s + 5 + 2 else s + 5 + 1) = ed L t s := by
              by_cases z : dg L t (s + 5 + 1) = true
              · rw [if_pos z, hed]
                have : rn L t (moN (t s)) (s + 1) = 6 := by
                  by_cases y : rn L t (moN (t s)) (s + 1) = 6
                  · exact y
                  · exfalso
                    have h5 : rn L t (moN (t s)) (s + 1) = 5 := by omega
                    have := rn_stop (L := L) (t := t) (moN (t s)) (s + 1) (by omega)
                    rw [h5] at this
                    exact this z
                omega
              · rw [if_neg z, hed]
                have : rn L t (moN (t s)) (s + 1) = 5 := by
                  by_cases y : rn L t (moN (t s)) (s + 1) = 5
                  · exact y
                  · exfalso
                    exact z (rn_dg (L := L) (t := t) (moN (t s)) (s + 1) 5 (by omega))
                omega
            rw [hend] at hrd
            rw [hrd, Option.bind_some, if_neg n10]
            simp only []
            have hT3 : TM (up2 (up2 (up2 w' 53 21 (nI (s + 5 + 1))) 53 21 (nI (ed L t s))) 69 (5 * k0 + 4) (nI (wm L t (s + 5)))) L t := TM_fr hTw (by rw [up2_o (by decide), up2_i (by decide), up2_i (by decide)]) (by rw [up2_o (by decide), up2_o (by decide), up2_o (by decide)])
            have h321 : up2 (up2 (up2 w' 53 21 (nI (s + 5 + 1))) 53 21 (nI (ed L t s))) 69 (5 * k0 + 4) (nI (wm L t (s + 5))) 53 21 = nI (ed L t s) := by rw [up2_o (by decide), up2_s]
            have e3 : ∀ k, k ≠ 53 → k ≠ 69 → up2 (up2 (up2 w' 53 21 (nI (s + 5 + 1))) 53 21 (nI (ed L t s))) 69 (5 * k0 + 4) (nI (wm L t (s + 5))) k = w' k := fun k a b => by rw [up2_o b, up2_o a, up2_o a]
            have e4 : ∀ i, i ≠ 21 → up2 (up2 (up2 w' 53 21 (nI (s + 5 + 1))) 53 21 (nI (ed L t s))) 69 (5 * k0 + 4) (nI (wm L t (s + 5))) 53 i = w' 53 i := fun i hi => by rw [up2_o (by decide), up2_i hi, up2_i hi]
            have e5 : ∀ i, i ≠ 5 * k0 + 4 → up2 (up2 (up2 w' 53 21 (nI (s + 5 + 1))) 53 21 (nI (ed L t s))) 69 (5 * k0 + 4) (nI (wm L t (s + 5))) 69 i = w' 69 i := fun i hi => by rw [up2_i hi, up2_o (by decide), up2_o (by decide)]
            have e6 : up2 (up2 (up2 w' 53 21 (nI (s + 5 + 1))) 53 21 (nI (ed L t s))) 69 (5 * k0 + 4) (nI (wm L t (s + 5))) 69 (5 * k0 + 4) = nI (wm L t (s + 5)) := up2_s
            generalize up2 (up2 (up2 w' 53 21 (nI (s + 5 + 1))) 53 21 (nI (ed L t s))) 69 (5 * k0 + 4) (nI (wm L t (s + 5))) = w3 at *
            rw [next_eq hT3 h321 (by omega), Option.bind_some, h321, nI_1]
            have fPF : PF w w3 := ⟨fun k a b d e => by rw [e3 k a e]; exact f1.1 k a b d e, fun i a b => by rw [e4 i a]; exact f1.2 i a b⟩
            by_cases hg : ed L t s < L ∧ t (ed L t s) = 59
            · rw [if_pos hg.1, hg.2, if_pos (show nI 59 = 59 from rfl)]
              refine Or.inl ⟨⟨h, by omega, by omega, hg.1, hg.2⟩, _, rfl, ⟨fun k a b d e => by rw [up2_o a]; exact fPF.1 k a b d e, fun i a b => by rw [up2_i a]; exact fPF.2 i a b⟩, by rw [up2_s, hsq], by rw [up2_i (by decide), e4 22 (by decide)]; exact f2, ⟨by rw [up2_o (by decide), e3 67 (by decide) (by decide)]; exact f3, by rw [up2_o (by decide), e3 68 (by decide) (by decide)]; exact f4, fun j hj => by rw [up2_o (by decide), e5 _ (by omega)]; exact q1.2.2.2.1 j hj, fun _ => by rw [up2_o (by decide)]; exact e6⟩, fun i hi => by rw [up2_o (by decide), up2_o (by decide), e3 67 (by decide) (by decide), e3 68 (by decide) (by decide)]; exact f5 i hi, fun i hi => by rw [up2_o (by decide), e5 i (by omega)]; exact f6 i hi⟩
            · have hng : ¬ gdS L t s := fun z => hg ⟨z.2.2.2.1, z.2.2.2.2⟩
              have hx : ¬ (if ed L t s < L then nI (t (ed L t s)) else -1) = 59 := by
                by_cases y : ed L t s < L
                · have := (hT.2.2 _ y).1
                  rw [if_pos y, show (59 : Int32) = nI 59 from rfl, eq_nI (by omega) (by omega)]
                  exact fun z => hg ⟨y, z⟩
                · rw [if_neg y]; decide
              rw [if_neg hx]
              exact Or.inr ⟨hng, w3, rfl, fPF, by rw [h321, her], by rw [e4 22 (by decide)]; exact f2⟩
          · have h4 : rn L t (moN (t s)) (s + 1) = 4 := by
              by_cases z : rn L t (moN (t s)) (s + 1) = 4
              · exact z
              · exfalso
                exact hd5 (rn_dg (L := L) (t := t) (moN (t s)) (s + 1) 4 (by omega))
            rw [reads_no hTw hw21 (by omega) hd5, Option.bind_some, if_pos rfl]
            exact Or.inr ⟨fun z => by have := z.2.2.1; omega, w', rfl, f1, by rw [hw21, her, hed, h4], f2⟩
        · obtain ⟨b7, b8⟩ := b6 h112
          have hx112 : ¬ nI (t s) = 112 := by rw [show (112 : Int32) = nI 112 from rfl, eq_nI (by omega) (by omega)]; exact h112
          have hw21 : w' 53 21 = nI (ed L t s) := by rw [q1.1, hed, show rn L t (moN (t s)) (s + 1) = onN (t s) by omega]
          rw [if_neg hx112, next_eq hTw hw21 (by omega), Option.bind_some, hw21, nI_1]
          by_cases hg : ed L t s < L ∧ t (ed L t s) = 59
          · rw [if_pos hg.1, hg.2, if_pos (show nI 59 = 59 from rfl)]
            exact Or.inl ⟨⟨h, by omega, by omega, hg.1, hg.2⟩, _, rfl, ⟨fun k a b d e => by rw [up2_o a]; exact f1.1 k a b d e, fun i a b => by rw [up2_i a]; exact f1.2 i a b⟩, by rw [up2_s, hsq], by rw [up2_i (by decide)]; exact f2, ⟨by rw [up2_o (by decide)]; exact f3, by rw [up2_o (by decide)]; exact f4, fun j hj => by rw [up2_o (by decide)]; exact q1.2.2.2.1 j hj, fun z => absurd z h112⟩, fun i hi => by rw [up2_o (by decide), up2_o (by decide)]; exact f5 i hi, fun i hi => by rw [up2_o (by decide)]; exact f6 i hi⟩
          · have hng : ¬ gdS L t s := fun z => hg ⟨z.2.2.2.1, z.2.2.2.2⟩
            have hx : ¬ (if ed L t s < L then nI (t (ed L t s)) else -1) = 59 := by
              by_cases y : ed L t s < L
              · have := (hT.2.2 _ y).1
                rw [if_pos y, show (59 : Int32) = nI 59 from rfl, eq_nI (by omega) (by omega)]
                exact fun z => hg ⟨y, z⟩
              · rw [if_neg y]; decide
            rw [if_neg hx]
            exact Or.inr ⟨hng, w', rfl, f1, by rw [hw21, her], f2⟩
  · rw [if_neg h]
    have e0 : zX5_onesOf n w (-1) = some 0 := by unfold zX5_onesOf; decide
    rw [e0, Option.bind_some, if_pos rfl]
    refine Or.inr ⟨fun z => h z.1, w, rfl, ⟨fun _ _ _ _ _ => rfl, fun _ _ _ => rfl⟩, ?_, h22⟩
    unfold er
    rw [if_neg (fun z => h z.1)]
    exact h21
theorem river_L {n : Nat} {w0 : MU} {L K : Nat} {t : Nat → Nat} {k : Int32 → MU → Option (Int32 × MU)} (hL : L ≤ 80) (hK : K < 28) (hg : ∀ i, i < K → gdS L t (sq L t i)) (hb : ¬ gdS L t (sq L t K)) (hn : 20 ≤ n) :
    ∀ (d j m : Nat) (w : MU), j + d = K → d + 1 < m → PF w0 w → TM w L t → w 53 21 = nI (sq L t j) → w 53 22 = nI j → (∀ i, i < j → RC L t w i) →
      ((K = 0 ∨ sq L t K < L) ∧ ∃ w', PF w0 w' ∧ w' 53 21 = nI (er L t (sq L t K)) ∧ zX5_river_L12 n k m 1 w = k 0 w') ∨
      (¬ (K = 0 ∨ sq L t K < L) ∧ ∃ w', PF w0 w' ∧ w' 53 22 = nI K ∧ (∀ i, i < K → RC L t w' i) ∧ zX5_river_L12 n k m 1 w = k 1 w') := by
  intro d
  induction d with
  | zero =>
    intro j m w hj hm hF hT h21 h22 hr
    obtain ⟨m, rfl⟩ : ∃ e, m = e + 1 + 1 := ⟨m - 2, by omega⟩
    obtain rfl : j = K := by omega
    obtain ⟨-, hs⟩ := sq_ge j hg
    by_cases q : j = 0 ∨ sq L t j < L
    · refine Or.inl ⟨q, ?_⟩
      rcases statement_eq (n := n) hT h21 h22 (by omega) (by omega) hn with ⟨z, -⟩ | ⟨-, w', e1, e2, e3, e4⟩
      · exact absurd z hb
      · refine ⟨up2 w' 53 22 (nI j), ⟨fun k a b d e => by rw [up2_o a, e2.1 k a b d e]; exact hF.1 k a b d e, fun i a b => by rw [up2_i b, e2.2 i a b]; exact hF.2 i a b⟩, by rw [up2_i (by decide)]; exact e3, ?_⟩
        have hst : zX5_river_L12 n k (m + 1 + 1) 1 w = zX5_river_L12 n k (m + 1) 0 (up2 w' 53 22 (nI j)) := by
          rw [zX5_river_L12, if_neg (by decide), h21, hT.1, e1, h22]
          simp only [Option.bind_some, letb, if_true, e4, Int32.add_zero]
          by_cases q2 : sq L t j < L
          · rw [if_pos (nI_lt q2 (by omega))]
          · rw [if_neg (by rw [lt_nI (by omega) (by omega)]; exact q2), if_pos (by rw [q.resolve_right q2]; rfl)]
        rw [hst, zX5_river_L12, if_pos rfl]
    · refine Or.inr ⟨q, w, hF, h22, hr, ?_⟩
      have q1 : ¬ j = 0 := fun z => q (Or.inl z)
      have q2 : ¬ sq L t j < L := fun z => q (Or.inr z)
      rw [zX5_river_L12, if_neg (by decide), h21, hT.1, if_neg (by rw [lt_nI (by omega) (by omega)]; exact q2), h22, if_neg (nI_ne0 (by omega) (by omega))]
  | succ d ih =>
    intro j m w hj hm hF hT h21 h22 hr
    obtain ⟨m, rfl⟩ : ∃ e, m = e + 1 := ⟨m - 1, by omega⟩
    have hgj := hg j (by omega)
    have hs := hgj.1
    rcases statement_eq (n := n) hT h21 h22 (by omega) (by omega) hn with ⟨-, w', e1, e2, e3, e4, e5, e6, e7⟩ | ⟨z, -⟩
    · have hst : zX5_river_L12 n k (m + 1) 1 w = zX5_river_L12 n k m 1 (up2 w' 53 22 (nI (j + 1))) := by
        rw [zX5_river_L12, if_neg (by decide), h21, hT.1, if_pos (nI_lt hs (by omega)), e1, Option.bind_some]
        simp only [letb]
        rw [if_neg (by decide), e4, nI_1]
      rw [hst]
      have hon := fun i (hi : i < K) => (le_bd (t (sq L t i)) (by have := (hT.2.2 _ (hg i hi).1).1; omega)).2.2.2.1
      refine ih (j + 1) m (up2 w' 53 22 (nI (j + 1))) (by omega) (by omega) ⟨fun k a b d e => by rw [up2_o a, e2.1 k a b d e]; exact hF.1 k a b d e, fun i a b => by rw [up2_i b, e2.2 i a b]; exact hF.2 i a b⟩ (TM_fr hT (by rw [up2_i (by decide)]; exact e2.2 20 (by decide) (by decide)) (by rw [up2_o (by decide)]; exact e2.1 66 (by decide) (by decide) (by decide) (by decide))) (by rw [up2_i (by decide)]; exact e3) up2_s (fun i hi => ?_)
      unfold RC
      rw [up2_o (show (67 : Nat) ≠ 53 by decide), up2_o (show (68 : Nat) ≠ 53 by decide), up2_o (show (69 : Nat) ≠ 53 by decide)]
      by_cases e : i = j
      · subst e; exact e5
      · obtain ⟨r1, r2, r3, r4⟩ := hr i (by omega)
        have := hon i (by omega)
        refine ⟨by rw [(e6 i (by omega)).1]; exact r1, by rw [(e6 i (by omega)).2]; exact r2, fun x hx => by rw [e7 _ (by omega)]; exact r3 x hx, fun z => by rw [e7 _ (by omega)]; exact r4 z⟩
    · exact absurd hgj z
