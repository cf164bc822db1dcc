/-! ===== letters: the class's reading ===== -/
def TP (c : MU) (L : Nat) (t : Nat → Nat) : Prop := c 43 1 = nI L ∧ L ≤ 80 ∧ ∀ i, i < L → t i ≤ 255 ∧ c 44 i = nI (t i)
def dg (L : Nat) (t : Nat → Nat) (s : Nat) : Bool := decide (s < L ∧ 48 ≤ t s ∧ t s ≤ 57)
def dv (L : Nat) (t : Nat → Nat) (s : Nat) : Nat := if dg L t s = true then t s - 48 else 0
theorem dg_iff {L : Nat} {t : Nat → Nat} {s : Nat} : dg L t s = true ↔ s < L ∧ 48 ≤ t s ∧ t s ≤ 57 := by
  unfold dg
  exact decide_eq_true_iff
theorem dv_le {L : Nat} {t : Nat → Nat} {s : Nat} : dv L t s ≤ 9 := by
  unfold dv
  by_cases h : dg L t s = true
  · rw [if_pos h]
    have := dg_iff.mp h
    omega
  · rw [if_neg h]; omega
theorem at_eq {n : Nat} {c : MU} {L : Nat} {t : Nat → Nat} {s : Nat} (hT : TP c L t) (hs : s < 1000) : zX0_at n c (nI s) = some (if s < L then nI (t s) else -9) := by
  have hL := hT.2.1
  unfold zX0_at
  rw [if_neg (nI_pos (by omega)), hT.1]
  by_cases h : s < L
  · rw [if_neg (by rw [le_nI (by omega) (by omega)]; omega), oob_no (show s < 80 by omega) (by omega), tn_nI (by omega), (hT.2.2 s h).2, if_pos h]
    rfl
  · rw [if_pos (nI_le (by omega) (by omega)), if_neg h]
theorem isDigit_eq {n : Nat} {c : MU} {L : Nat} {t : Nat → Nat} {s : Nat} (hT : TP c L t) (hs : s < 1000) : zX0_isDigit n c (nI s) = some (if dg L t s = true then 1 else 0) := by
  have hL := hT.2.1
  unfold zX0_isDigit
  rw [at_eq hT hs, Option.bind_some, Option.bind_some]
  by_cases h : s < L
  · have h255 := (hT.2.2 s h).1
    rw [if_pos h]
    by_cases h1 : t s < 48
    · have e1 : nI (t s) < 48 := nI_lt (b := 48) h1 (by omega)
      have e2 : ¬ dg L t s = true := fun z => by have := dg_iff.mp z; omega
      rw [if_pos e1, if_neg e2]
    · have e1 : ¬ nI (t s) < 48 := nI_nlt (b := 48) (by omega) (by omega)
      rw [if_neg e1]
      by_cases h2 : 57 < t s
      · have e2 : (57 : Int32) < nI (t s) := nI_lt (a := 57) h2 (by omega)
        have e3 : ¬ dg L t s = true := fun z => by have := dg_iff.mp z; omega
        rw [if_pos e2, if_neg e3]
      · have e2 : ¬ (57 : Int32) < nI (t s) := nI_nlt (a := 57) (by omega) (by omega)
        rw [if_neg e2, if_pos (dg_iff.mpr ⟨h, by omega, by omega⟩)]
  · have e3 : ¬ dg L t s = true := fun z => by have := dg_iff.mp z; omega
    rw [if_neg h, if_pos (by decide), if_neg e3]
theorem digit_eq {n : Nat} {c : MU} {L : Nat} {t : Nat → Nat} {s : Nat} (hT : TP c L t) (hs : s < 1000) : zX0_digit n c (nI s) = some (nI (dv L t s)) := by
  unfold zX0_digit dv
  rw [isDigit_eq hT hs, Option.bind_some]
  by_cases h : dg L t s = true
  · obtain ⟨h1, h2, h3⟩ := dg_iff.mp h
    rw [if_pos h, if_neg (by decide), at_eq hT hs, Option.bind_some, if_pos h1, show (48 : Int32) = nI 48 from rfl, pk_sub h2, if_pos h]
  · rw [if_neg h, if_pos rfl, if_neg h]
    rfl
def rn (L : Nat) (t : Nat → Nat) : Nat → Nat → Nat
  | 0, _ => 0
  | m + 1, s => if dg L t s = true then rn L t m (s + 1) + 1 else 0
theorem rn_le {L : Nat} {t : Nat → Nat} : ∀ (m s : Nat), rn L t m s ≤ m := by
  intro m
  induction m with
  | zero => intro s; exact Nat.le_refl _
  | succ m ih =>
    intro s
    simp only [rn]
    have := ih (s + 1)
    split <;> omega
theorem rn_dg {L : Nat} {t : Nat → Nat} : ∀ (m s i : Nat), i < rn L t m s → dg L t (s + i) = true := by
  intro m
  induction m with
  | zero => intro s i h; exact absurd h (by simp [rn])
  | succ m ih =>
    intro s i h
    simp only [rn] at h
    by_cases q : dg L t s = true
    · rw [if_pos q] at h
      by_cases z : i = 0
      · rw [z]; exact q
      · have := ih (s + 1) (i - 1) (by omega)
        rw [show s + 1 + (i - 1) = s + i by omega] at this
        exact this
    · rw [if_neg q] at h; omega
theorem rn_stop {L : Nat} {t : Nat → Nat} : ∀ (m s : Nat), rn L t m s < m → ¬ dg L t (s + rn L t m s) = true := by
  intro m
  induction m with
  | zero => intro s h; exact absurd h (by omega)
  | succ m ih =>
    intro s h
    simp only [rn] at h ⊢
    by_cases q : dg L t s = true
    · rw [if_pos q] at h ⊢
      have := ih (s + 1) (by omega)
      rw [show s + (rn L t m (s + 1) + 1) = s + 1 + rn L t m (s + 1) by omega]
      exact this
    · rw [if_neg q]; exact q
theorem digitsFrom_L {n : Nat} {c : MU} {L : Nat} {t : Nat → Nat} {s M : Nat} (hT : TP c L t) (hs : s < 500) (hM : M ≤ 10) :
    ∀ (d j m : Nat), j + d = M → d < m → zX0_digitsFrom_L2 n c (nI s) (nI M) (fun y5 => some y5) m (nI j) = some (nI (j + rn L t d (s + j))) := by
  intro d
  induction d with
  | zero =>
    intro j m hj hm
    obtain ⟨m, rfl⟩ : ∃ e, m = e + 1 := ⟨m - 1, by omega⟩
    obtain rfl : j = M := by omega
    rw [zX0_digitsFrom_L2, if_pos (nI_le (Nat.le_refl _) (by omega))]
    rfl
  | succ d ih =>
    intro j m hj hm
    obtain ⟨m, rfl⟩ : ∃ e, m = e + 1 := ⟨m - 1, by omega⟩
    rw [zX0_digitsFrom_L2, if_neg (by rw [le_nI (by omega) (by omega)]; omega), nI_add, isDigit_eq hT (by omega), Option.bind_some, nI_1]
    simp only [rn]
    by_cases q : dg L t (s + j) = true
    · rw [if_pos q, if_neg (by decide), if_pos q, ih (j + 1) m (by omega) (by omega)]
      congr 2
      rw [show s + (j + 1) = s + j + 1 by omega]
      omega
    · rw [if_neg q, if_pos rfl, if_neg q]
      rfl
def leN (b : Nat) : Nat := if b = 99 then 1 else if b = 100 then 3 else if b = 103 then 2 else if b = 105 then 2 else if b = 112 then 5 else if b = 121 then 1 else 0
def moN (b : Nat) : Nat := if b = 112 then 6 else leN b
def onN (b : Nat) : Nat := if b = 112 then 4 else leN b
theorem le_fin : ∀ b, b < 256 → (if nI b = 99 then some (1 : Int32) else if nI b = 100 then some 3 else if nI b = 103 then some 2 else if nI b = 105 then some 2 else if nI b = 112 then some 5 else if nI b = 121 then some 1 else some 0) = some (nI (leN b)) := by decide +kernel
theorem on_fin : ∀ b, b < 256 → (if nI b = 99 then some (1 : Int32) else if nI b = 100 then some 3 else if nI b = 103 then some 2 else if nI b = 105 then some 2 else if nI b = 112 then some 4 else if nI b = 121 then some 1 else some 0) = some (nI (onN b)) := by decide +kernel
theorem le_bd : ∀ b, b < 256 → leN b ≤ 5 ∧ moN b ≤ 6 ∧ leN b ≤ moN b ∧ onN b ≤ 4 ∧ (onN b = 0 ↔ leN b = 0) ∧ (b ≠ 112 → onN b = leN b ∧ moN b = leN b) := by decide +kernel
theorem leastDigits_eq {n : Nat} {c : MU} {b : Nat} (hb : b ≤ 255) : zX0_leastDigits n c (nI b) = some (nI (leN b)) := le_fin b (by omega)
theorem mostDigits_eq {n : Nat} {c : MU} {b : Nat} (hb : b ≤ 255) : zX0_mostDigits n c (nI b) = some (nI (moN b)) := by
  unfold zX0_mostDigits moN
  rw [leastDigits_eq hb, Option.bind_some]
  by_cases h : b = 112
  · rw [if_pos (by rw [h]; rfl), if_pos h]
    rfl
  · rw [if_neg (by rw [show (112 : Int32) = nI 112 from rfl, eq_nI (by omega) (by omega)]; exact h), if_neg h]
def ed (L : Nat) (t : Nat → Nat) (s : Nat) : Nat := s + 1 + rn L t (moN (t s)) (s + 1)
def gdS (L : Nat) (t : Nat → Nat) (s : Nat) : Prop := s < L ∧ 0 < leN (t s) ∧ leN (t s) ≤ rn L t (moN (t s)) (s + 1) ∧ ed L t s < L ∧ t (ed L t s) = 59
def er (L : Nat) (t : Nat → Nat) (s : Nat) : Nat := if s < L ∧ 0 < leN (t s) then ed L t s else s
theorem endOf_eq {n : Nat} {c : MU} {L : Nat} {t : Nat → Nat} {s : Nat} (hT : TP c L t) (hs : s ≤ 100) (hn : 20 ≤ n) : (gdS L t s ∧ zX0_endOf n c (nI s) = some (nI (ed L t s))) ∨ (¬ gdS L t s ∧ zX0_endOf n c (nI s) = some (-1 - nI (er L t s))) := by
  have hL := hT.2.1
  unfold zX0_endOf
  rw [at_eq hT (by omega), Option.bind_some]
  by_cases h : s < L
  · have h255 := (hT.2.2 s h).1
    obtain ⟨b1, b2, b3, -⟩ := le_bd (t s) (by omega)
    have hr := rn_le (L := L) (t := t) (moN (t s)) (s + 1)
    rw [if_pos h, leastDigits_eq h255, Option.bind_some]
    by_cases h0 : leN (t s) = 0
    · rw [h0, if_pos (by decide)]
      refine Or.inr ⟨fun z => by have := z.2.1; omega, ?_⟩
      unfold er
      rw [if_neg (by omega)]
    · have hd := digitsFrom_L (n := n) (s := s + 1) (M := moN (t s)) hT (by omega) (by omega) (moN (t s)) 0 n (by omega) (by omega)
      rw [nI_0, Nat.zero_add, Nat.add_zero] at hd
      have hd' : zX0_digitsFrom n c (nI (s + 1)) (nI (moN (t s))) = some (nI (rn L t (moN (t s)) (s + 1))) := hd
      rw [if_neg (nI_ne0 (by omega) (by omega)), Option.bind_some, mostDigits_eq h255, Option.bind_some, nI_1, hd', Option.bind_some]
      simp only [letb]
      rw [nI_add, show s + 1 + rn L t (moN (t s)) (s + 1) = ed L t s from rfl]
      have her : er L t s = ed L t s := by unfold er; rw [if_pos ⟨h, by omega⟩]
      have hed : ed L t s = s + 1 + rn L t (moN (t s)) (s + 1) := rfl
      by_cases h1 : rn L t (moN (t s)) (s + 1) < leN (t s)
      · rw [if_pos (nI_lt h1 (by omega))]
        exact Or.inr ⟨fun z => by have := z.2.2.1; omega, by rw [her]⟩
      · rw [if_neg (by rw [lt_nI (by omega) (by omega)]; exact h1), at_eq hT (by omega), Option.bind_some]
        by_cases h2 : ed L t s < L
        · have h255' := (hT.2.2 _ h2).1
          rw [if_pos h2]
          by_cases h3 : t (ed L t s) = 59
          · rw [h3, if_pos (show nI 59 = 59 from rfl)]
            exact Or.inl ⟨⟨h, by omega, by omega, h2, h3⟩, rfl⟩
          · have e59 : ¬ nI (t (ed L t s)) = 59 := by
              rw [show (59 : Int32) = nI 59 from rfl, eq_nI (by omega) (by omega)]
              exact h3
            rw [if_neg e59]
            exact Or.inr ⟨fun z => h3 z.2.2.2.2, by rw [her]⟩
        · rw [if_neg h2, if_neg (by decide)]
          exact Or.inr ⟨fun z => h2 z.2.2.2.1, by rw [her]⟩
  · rw [if_neg h]
    have e0 : zX0_leastDigits n c (-9) = some 0 := by unfold zX0_leastDigits; decide
    rw [e0, Option.bind_some, if_pos rfl]
    refine Or.inr ⟨fun z => h z.1, ?_⟩
    unfold er
    rw [if_neg (fun z => h z.1)]
def sq (L : Nat) (t : Nat → Nat) : Nat → Nat
  | 0 => 0
  | k + 1 => ed L t (sq L t k) + 1
theorem sq_ge {L : Nat} {t : Nat → Nat} : ∀ (k : Nat), (∀ i, i < k → gdS L t (sq L t i)) → 3 * k ≤ sq L t k ∧ sq L t k ≤ L := by
  intro k
  induction k with
  | zero => intro _; exact ⟨Nat.le_refl _, Nat.zero_le _⟩
  | succ k ih =>
    intro h
    obtain ⟨h1, h2⟩ := ih (fun i hi => h i (by omega))
    obtain ⟨g1, g2, g3, g4, -⟩ := h k (by omega)
    have e : sq L t (k + 1) = ed L t (sq L t k) + 1 := rfl
    have e2 : ed L t (sq L t k) = sq L t k + 1 + rn L t (moN (t (sq L t k))) (sq L t k + 1) := rfl
    omega
theorem K_ex {L : Nat} {t : Nat → Nat} (hL : L ≤ 80) : ∃ K, K < 28 ∧ (∀ i, i < K → gdS L t (sq L t i)) ∧ ¬ gdS L t (sq L t K) := by
  rcases fo (G := fun k => gdS L t (sq L t k)) 28 with h | h
  · exact h
  · obtain ⟨h1, -⟩ := sq_ge 27 (fun i hi => h i (by omega))
    have := (h 27 (by omega)).1
    omega
theorem er_le {L : Nat} {t : Nat → Nat} {s : Nat} (hs : s ≤ 100) (ht : s < L → t s ≤ 255) : er L t s ≤ 120 := by
  unfold er
  by_cases h : s < L ∧ 0 < leN (t s)
  · rw [if_pos h]
    have h255 := ht h.1
    obtain ⟨-, b2, -⟩ := le_bd (t s) (by omega)
    have hr := rn_le (L := L) (t := t) (moN (t s)) (s + 1)
    have e2 : ed L t s = s + 1 + rn L t (moN (t s)) (s + 1) := rfl
    omega
  · rw [if_neg h]; omega
theorem m1_fin : ∀ e, e < 200 → (-1 : Int32) - ((-1) - nI e) = nI e ∧ ¬ (0 : Int32) ≤ (-1) - nI e := by decide +kernel
theorem fw_L {n : Nat} {c : MU} {L K : Nat} {t : Nat → Nat} (hT : TP c L t) (hK : K < 28) (hg : ∀ i, i < K → gdS L t (sq L t i)) (hb : ¬ gdS L t (sq L t K)) (hn : 20 ≤ n) :
    ∀ (d k m : Nat), k + d = K → d < m → zX0_firstWrong_L13 n c (fun y8 y9 => some (-9)) m (nI (sq L t k)) (nI k) = if sq L t K < L then some (nI (er L t (sq L t K))) else some (-9) := by
  have hL := hT.2.1
  intro d
  induction d with
  | zero =>
    intro k m hk hm
    obtain ⟨m, rfl⟩ : ∃ e, m = e + 1 := ⟨m - 1, by omega⟩
    obtain rfl : k = K := by omega
    obtain ⟨-, hs⟩ := sq_ge k hg
    rw [zX0_firstWrong_L13, if_neg (by rw [show (80 : Int32) = nI 80 from rfl, le_nI (by omega) (by omega)]; omega), hT.1]
    by_cases q : sq L t k < L
    · rw [if_neg (by rw [le_nI (by omega) (by omega)]; omega), if_pos q]
      rcases endOf_eq (n := n) hT (show sq L t k ≤ 100 by omega) hn with ⟨z, -⟩ | ⟨-, z⟩
      · exact absurd z hb
      · have he := er_le (L := L) (t := t) (s := sq L t k) (by omega) (fun h => (hT.2.2 _ h).1)
        obtain ⟨m1, m2⟩ := m1_fin (er L t (sq L t k)) (by omega)
        rw [z, Option.bind_some, if_neg m2, m1]
    · rw [if_pos (nI_le (by omega) (by omega)), if_neg q]
  | succ d ih =>
    intro k m hk hm
    obtain ⟨m, rfl⟩ : ∃ e, m = e + 1 := ⟨m - 1, by omega⟩
    have hgk := hg k (by omega)
    have hs := hgk.1
    rw [zX0_firstWrong_L13, if_neg (by rw [show (80 : Int32) = nI 80 from rfl, le_nI (by omega) (by omega)]; omega), hT.1, if_neg (by rw [le_nI (by omega) (by omega)]; omega)]
    rcases endOf_eq (n := n) hT (show sq L t k ≤ 100 by omega) hn with ⟨-, z⟩ | ⟨z, -⟩
    · have := hgk.2.2.2.1
      rw [z, Option.bind_some, if_pos (nI_pos' (by omega))]
      simp only [letb]
      rw [nI_1, nI_1]
      exact ih (k + 1) m (by omega) (by omega)
    · exact absurd hgk z
theorem firstWrong_eq {n : Nat} {c : MU} {L K : Nat} {t : Nat → Nat} (hT : TP c L t) (hK : K < 28) (hg : ∀ i, i < K → gdS L t (sq L t i)) (hb : ¬ gdS L t (sq L t K)) (hn : 100 ≤ n) :
    zX0_firstWrong n c = if K = 0 ∨ sq L t K < L then some (nI (er L t (sq L t K))) else some (-9) := by
  have hL := hT.2.1
  unfold zX0_firstWrong
  rw [hT.1]
  by_cases h0 : L = 0
  · have hK0 : K = 0 := by
      by_cases z : K = 0
      · exact z
      · have := (hg 0 (by omega)).1
        omega
    subst hK0
    rw [if_pos (by rw [h0]; rfl), if_pos (Or.inl rfl)]
    unfold er
    rw [if_neg (by omega)]
    rfl
  · rw [if_neg (nI_ne0 (by omega) (by omega))]
    have := fw_L (n := n) hT hK hg hb (by omega) K 0 n (by omega) (by omega)
    rw [nI_0] at this
    have e0 : nI (sq L t 0) = 0 := rfl
    rw [e0] at this
    rw [this]
    by_cases q : sq L t K < L
    · rw [if_pos q, if_pos (Or.inr q)]
    · rw [if_neg q, if_neg]
      rintro (z | z)
      · subst z
        have : sq L t 0 = 0 := rfl
        omega
      · exact q z
