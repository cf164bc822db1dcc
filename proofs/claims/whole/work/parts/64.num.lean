/-! ===== all chains: numbers, their digits, the next one ===== -/
def dgt (P y N i : Nat) : Nat := N / P ^ (y - 1 - i) % P
def dI (P y N : Nat) : Nat → Int32 := fun i => nI (dgt P y N i)
theorem dgt_lt {P y N i : Nat} (h : 0 < P) : dgt P y N i < P := Nat.mod_lt _ h
theorem dgt_last {P y N p : Nat} (hp : p < P) : dgt P (y + 1) (N * P + p) y = p := by
  unfold dgt
  rw [show y + 1 - 1 - y = 0 by omega, Nat.pow_zero, Nat.div_one, Nat.add_comm, Nat.add_mul_mod_self_right, Nat.mod_eq_of_lt hp]
theorem dgt_pre {P y N p i : Nat} (hp : p < P) (hi : i < y) : dgt P (y + 1) (N * P + p) i = dgt P y N i := by
  unfold dgt
  rw [show y + 1 - 1 - i = (y - 1 - i) + 1 by omega, Nat.pow_succ, Nat.mul_comm (P ^ (y - 1 - i)) P, ← Nat.div_div_eq_div_mul, Nat.add_comm (N * P) p, Nat.add_mul_div_right p N (by omega), Nat.div_eq_of_lt hp, Nat.zero_add]
theorem dgt_full {P y d N M i : Nat} (hN : N / P ^ d = M) (hi : i < y) : dgt P (y + d) N i = dgt P y M i := by
  unfold dgt
  rw [show y + d - 1 - i = d + (y - 1 - i) by omega, Nat.pow_add, ← Nat.div_div_eq_div_mul, hN]
theorem dgt_rng {P d N M : Nat} (h1 : M * P ^ d ≤ N) (h2 : N < M * P ^ d + P ^ d) : N / P ^ d = M := by
  refine Nat.div_eq_of_lt_le h1 ?_
  rw [Nat.add_mul, Nat.one_mul]
  exact h2
def lin {σ : Type} (f : Nat → σ → σ) : Nat → Nat → σ → σ
  | 0, _, s => s
  | d + 1, j, s => lin f d (j + 1) (f j s)
theorem lin_add {σ : Type} {f : Nat → σ → σ} {e : Nat} : ∀ (d j : Nat) (s : σ), lin f (d + e) j s = lin f e (j + d) (lin f d j s) := by
  intro d
  induction d with
  | zero => intro j s; rw [Nat.zero_add]; rfl
  | succ d ih =>
    intro j s
    rw [show d + 1 + e = (d + e) + 1 by omega]
    simp only [lin]
    rw [ih, show j + 1 + d = j + (d + 1) by omega]
theorem lin_id {σ : Type} {f : Nat → σ → σ} : ∀ (d j : Nat) (s : σ), (∀ i, j ≤ i → i < j + d → ∀ t, f i t = t) → lin f d j s = s := by
  intro d
  induction d with
  | zero => intro j s _; rfl
  | succ d ih =>
    intro j s h
    simp only [lin]
    rw [h j (Nat.le_refl _) (by omega)]
    exact ih (j + 1) s (fun i h1 h2 => h i (by omega) (by omega))
/-- the first step that does something -/
theorem lin_first {σ : Type} {f : Nat → σ → σ} {N N1 T : Nat} {s : σ} (h1 : N ≤ N1) (h2 : N1 < T) (h : ∀ i, N ≤ i → i < N1 → ∀ t, f i t = t) : lin f (T - N) N s = lin f (T - (N1 + 1)) (N1 + 1) (f N1 s) := by
  have := lin_add (f := f) (e := (T - (N1 + 1)) + 1) (N1 - N) N s
  rw [show N1 - N + (T - (N1 + 1) + 1) = T - N by omega, lin_id (N1 - N) N s (fun i q1 q2 => h i q1 (by omega)), show N + (N1 - N) = N1 by omega] at this
  exact this
theorem pow_le7 {P Y : Nat} (hP : P ≤ 7) (hY : Y ≤ 5) : P ^ Y ≤ 16807 := by
  have h1 : P ^ Y ≤ 7 ^ Y := Nat.pow_le_pow_left hP Y
  have h2 : 7 ^ Y ≤ 7 ^ 5 := Nat.pow_le_pow_right (by omega) hY
  have h3 : (7 : Nat) ^ 5 = 16807 := by decide
  omega
def unl (c : MU) (r Y P N : Nat) : Prop := ∀ i, i < Y → cnC c r P (dI P Y N) i
theorem nc_pow {n : Nat} {u : MU} {Y P a : Nat} {k : Int32 → Int32 → Option (Int32 × MU)} (hY : u 53 12 = nI Y) (hP : u 53 13 = nI P) (hY5 : Y ≤ 5) :
    ∀ (d j m : Nat), j + d = Y → d < m → zX5_nextChain_L15 n u k m (nI (a * P ^ j)) (nI j) = k (nI (a * P ^ Y)) (nI Y) := by
  intro d
  induction d with
  | zero =>
    intro j m hj hm
    obtain ⟨m, rfl⟩ : ∃ e, m = e + 1 := ⟨m - 1, by omega⟩
    obtain rfl : j = Y := by omega
    rw [zX5_nextChain_L15, hY, if_pos (nI_le (Nat.le_refl _) (by omega))]
  | succ d ih =>
    intro j m hj hm
    obtain ⟨m, rfl⟩ : ∃ e, m = e + 1 := ⟨m - 1, by omega⟩
    rw [zX5_nextChain_L15, hY, if_neg (by rw [le_nI (by omega) (by omega)]; omega), hP, pk_mul, nI_1]
    simp only [letb]
    have := ih (j + 1) m (by omega) (by omega)
    rw [Nat.pow_succ, ← Nat.mul_assoc] at this
    exact this
theorem nc_dig {n : Nat} {P : Nat} {s1 : Int32} {k : Int32 → Int32 → MU → Option (Int32 × MU)} (hP0 : 0 < P) (hP7 : P ≤ 7) :
    ∀ (e L m : Nat) (v : MU), e ≤ 5 → v 53 13 = nI P → e < m → L < 2147483648 → ∃ w, zX5_nextChain_L66 n s1 k m (nI L) (nI e - 1) v = k (nI (L / P ^ e)) (-1) w ∧ (∀ i, i < e → w 57 i = nI (L / P ^ (e - 1 - i) % P)) ∧ (∀ i, e ≤ i → w 57 i = v 57 i) ∧ (∀ a, a ≠ 57 → w a = v a) := by
  intro e
  induction e with
  | zero =>
    intro L m v _ hv hm _
    obtain ⟨m, rfl⟩ : ∃ e, m = e + 1 := ⟨m - 1, by omega⟩
    refine ⟨v, ?_, fun i hi => absurd hi (by omega), fun i _ => rfl, fun a _ => rfl⟩
    rw [zX5_nextChain_L66, show nI 0 - 1 = (-1 : Int32) from by decide, if_pos (by decide), Nat.pow_zero, Nat.div_one]
  | succ e ih =>
    intro L m v he hv hm hL
    obtain ⟨m, rfl⟩ : ∃ e, m = e + 1 := ⟨m - 1, by omega⟩
    have hv' : up2 v 57 e (nI (L % P)) 53 13 = nI P := by rw [up2_o (by decide)]; exact hv
    have hdec : nI e + (-1) = nI e - 1 := by rw [Int32.sub_eq_add_neg]
    have hLP : L / P < 2147483648 := Nat.lt_of_le_of_lt (Nat.div_le_self _ _) hL
    obtain ⟨w, h1, h2, h3, h4⟩ := ih (L / P) m (up2 v 57 e (nI (L % P))) (by omega) hv' (by omega) hLP
    refine ⟨w, ?_, fun i hi => ?_, fun i hi => ?_, fun a ha => by rw [h4 a ha, up2_o ha]⟩
    · rw [zX5_nextChain_L66, nI_m1, if_neg (nI_pos (by omega)), hv, if_neg (nI_ne0 hP0 (by omega)), oob_no (show e < 5 by omega) (by omega), tn_nI (by omega), pk_rem hL hP0 (by omega)]
      simp only [Bool.false_eq_true, if_false, letb]
      rw [hv', if_neg (nI_ne0 hP0 (by omega)), pk_div hL hP0 (by omega), hdec, h1, Nat.pow_succ, Nat.mul_comm, Nat.div_div_eq_div_mul]
    · by_cases q : i = e
      · subst q
        rw [h3 i (Nat.le_refl _), up2_s, show i + 1 - 1 - i = 0 by omega, Nat.pow_zero, Nat.div_one]
      · rw [h2 i (by omega), show e + 1 - 1 - i = (e - 1 - i) + 1 by omega, Nat.pow_succ, Nat.mul_comm (P ^ (e - 1 - i)) P, Nat.div_div_eq_div_mul]
    · rw [h3 i (by omega), up2_i (by omega)]
theorem nc_L {n : Nat} {c u : MU} {r Y P T : Nat} (hI : RInv c r Y P) (hX : MX c r u) (hT : T = P ^ Y) (hTb : T ≤ 16807) (hn : 100 ≤ n) :
    ∀ (d N m : Nat) (v : MU), N + d = T → d < m → SC u v → v 53 30 = nI N →
      (∃ v', (∀ i, N ≤ i → i < T → ¬ unl c r Y P i) ∧ zX5_nextChain_L46 n (nI T) (fun w => some (0, w)) m v = some (0, v') ∧ SC u v' ∧ v' 72 = v 72 ∧ v' 53 32 = v 53 32) ∨
      (∃ N1 v', N ≤ N1 ∧ N1 < T ∧ (∀ i, N ≤ i → i < N1 → ¬ unl c r Y P i) ∧ unl c r Y P N1 ∧ zX5_nextChain_L46 n (nI T) (fun w => some (0, w)) m v = some (1, v') ∧ SC u v' ∧ v' 53 30 = nI N1 ∧ (∀ i, i < Y → v' 57 i = dI P Y N1 i) ∧ v' 72 = v 72 ∧ v' 53 32 = v 53 32) := by
  have hY5 := hI.1.2.1
  have hY1 := hI.1.1
  have hP7 := hI.1.2.2.1
  intro d
  induction d with
  | zero =>
    intro N m v hN hm hv h30
    obtain ⟨m, rfl⟩ : ∃ e, m = e + 1 := ⟨m - 1, by omega⟩
    refine Or.inl ⟨v, fun i h1 h2 => absurd h2 (by omega), ?_, hv, rfl, rfl⟩
    rw [zX5_nextChain_L46, h30, if_pos (nI_le (by omega) (by omega))]
  | succ d ih =>
    intro N m v hN hm hv h30
    obtain ⟨m, rfl⟩ : ∃ e, m = e + 1 := ⟨m - 1, by omega⟩
    have hP0 : 0 < P := by
      by_cases z : P = 0
      · subst z
        rw [Nat.zero_pow (by omega)] at hT
        omega
      · omega
    have hXv := SC_MX hv hX
    have hYv : v 53 12 = nI Y := hXv.1.1.trans hI.1.2.2.2.1
    obtain ⟨w, g1, g2, g3, g4⟩ := nc_dig (n := n) (s1 := nI T) (k := fun y16 y17 w18 => Option.bind (zX5_areUnlike n w18) (fun q19 => if q19 = 0 then (letb (up2 w18 53 30 ((w18 53 30) + 1)) (fun u22 => zX5_nextChain_L46 n (nI T) (fun w => some (0, w)) m u22)) else (some (1, w18)))) hP0 hP7 Y N n v hY5 (hXv.1.2.1.trans hI.1.2.2.2.2.1) (by omega) (by omega)
    have hw : SC u w := by
      obtain ⟨s1, s2, s3, s4⟩ := hv
      exact ⟨fun k a b x y => by rw [g4 k b]; exact s1 k a b x y, fun i a b x y => by rw [g4 53 (by decide)]; exact s2 i a b x y, fun i hi => by rw [g3 i (by omega)]; exact s3 i hi, fun i hi => by rw [g4 71 (by decide)]; exact s4 i hi⟩
    have hXw := SC_MX hw hX
    have hdg : ∀ i, i < Y → w 57 i = dI P Y N i := g2
    have hper : ∀ j, j < Y → ∃ p, p < P ∧ w 57 j = nI p := fun j hj => ⟨_, dgt_lt hP0, hdg j hj⟩
    have hun : ∀ i, i < Y → (cnC c r P (w 57) i ↔ cnC c r P (dI P Y N) i) := fun i hi => cnC_cg (fun j hj => hdg j (by omega))
    have h30w : w 53 30 = nI N := by rw [g4 53 (by decide)]; exact h30
    rw [zX5_nextChain_L46, h30, if_neg (by rw [le_nI (by omega) (by omega)]; omega)]
    simp only [letb]
    rw [hYv]
    simp only [letb] at g1
    rw [g1]
    rcases zX5_areUnlike_eq (n := n) hI hXw hper (by omega) with ⟨a1, a2⟩ | ⟨⟨j, hj, a1⟩, a2⟩
    · rw [a2, Option.bind_some, if_neg (by decide)]
      exact Or.inr ⟨N, w, Nat.le_refl _, by omega, fun i h1 h2 => absurd h2 (by omega), fun i hi => (hun i hi).mp (a1 i hi), rfl, hw, h30w, hdg, g4 72 (by decide), by rw [g4 53 (by decide)]⟩
    · have hno : ¬ unl c r Y P N := fun z => a1 ((hun j hj).mpr (z j hj))
      rw [a2, Option.bind_some, if_pos rfl, h30w, nI_1]
      rcases ih (N + 1) m (up2 w 53 30 (nI (N + 1))) (by omega) (by omega) (SC_30 hw) up2_s with ⟨v', b1, b2, b3, b4, b5⟩ | ⟨N1, v', b0, b1, b2, b3, b4, b5, b6, b7, b8, b9⟩
      · refine Or.inl ⟨v', fun i h1 h2 => ?_, b2, b3, ?_, ?_⟩
        · by_cases e : i = N
          · rw [e]; exact hno
          · exact b1 i (by omega) h2
        · rw [b4, up2_o (by decide), g4 72 (by decide)]
        · rw [b5, up2_i (by decide), g4 53 (by decide)]
      · refine Or.inr ⟨N1, v', by omega, b1, fun i h1 h2 => ?_, b3, b4, b5, b6, b7, ?_, ?_⟩
        · by_cases e : i = N
          · rw [e]; exact hno
          · exact b2 i (by omega) h2
        · rw [b8, up2_o (by decide), g4 72 (by decide)]
        · rw [b9, up2_i (by decide), g4 53 (by decide)]
theorem nextChain_eq {n : Nat} {c u v : MU} {r Y P N : Nat} (hI : RInv c r Y P) (hX : MX c r u) (hN : N ≤ P ^ Y) (hv : SC u v) (h30 : v 53 30 + 1 = nI N) (hn : 20000 ≤ n) :
      (∃ v', (∀ i, N ≤ i → i < P ^ Y → ¬ unl c r Y P i) ∧ zX5_nextChain n v = some (0, v') ∧ SC u v' ∧ v' 72 = v 72 ∧ v' 53 32 = v 53 32) ∨
      (∃ N1 v', N ≤ N1 ∧ N1 < P ^ Y ∧ (∀ i, N ≤ i → i < N1 → ¬ unl c r Y P i) ∧ unl c r Y P N1 ∧ zX5_nextChain n v = some (1, v') ∧ SC u v' ∧ v' 53 30 = nI N1 ∧ (∀ i, i < Y → v' 57 i = dI P Y N1 i) ∧ v' 72 = v 72 ∧ v' 53 32 = v 53 32) := by
  have hY5 := hI.1.2.1
  have hY1 := hI.1.1
  have hP7 := hI.1.2.2.1
  have hT := pow_le7 hP7 hY5
  have hXv := SC_MX hv hX
  have hYv : v 53 12 = nI Y := hXv.1.1.trans hI.1.2.2.2.1
  have hPv : v 53 13 = nI P := hXv.1.2.1.trans hI.1.2.2.2.2.1
  have hgo : zX5_nextChain n v = zX5_nextChain_L46 n (nI (P ^ Y)) (fun w => some (0, w)) n (up2 v 53 30 (nI N)) := by
    unfold zX5_nextChain
    by_cases z : P = 0
    · have e0 : v 53 13 = 0 := by rw [hPv, z]; rfl
      rw [if_pos e0]
      have h1 := nc_pow (n := n) (u := v) (a := 0) (k := fun y24 y25 => letb (up2 v 53 30 ((v 53 30) + 1)) (fun u26 => zX5_nextChain_L46 n y24 (fun w27 => some (0, w27)) n u26)) hYv hPv hY5 Y 0 n (by omega) (by omega)
      rw [Nat.zero_mul, Nat.zero_mul, nI_0] at h1
      rw [h1, h30, z, Nat.zero_pow (by omega), nI_0]
      rfl
    · have e0 : ¬ v 53 13 = 0 := by rw [hPv]; exact nI_ne0 (by omega) (by omega)
      rw [if_neg e0]
      have h1 := nc_pow (n := n) (u := v) (a := 1) (k := fun y4 y5 => letb (up2 v 53 30 ((v 53 30) + 1)) (fun u6 => zX5_nextChain_L46 n y4 (fun w23 => some (0, w23)) n u6)) hYv hPv hY5 Y 0 n (by omega) (by omega)
      rw [Nat.one_mul, Nat.one_mul, Nat.pow_zero, nI_0] at h1
      have h1' : zX5_nextChain_L15 n v (fun y4 y5 => letb (up2 v 53 30 ((v 53 30) + 1)) (fun u6 => zX5_nextChain_L46 n y4 (fun w23 => some (0, w23)) n u6)) n 1 0 = _ := h1
      rw [h1', h30]
      rfl
  rw [hgo]
  rcases nc_L (n := n) hI hX rfl hT (by omega) (P ^ Y - N) N n (up2 v 53 30 (nI N)) (by omega) (by omega) (SC_30 hv) up2_s with ⟨v', b1, b2, b3, b4, b5⟩ | ⟨N1, v', b0, b1, b2, b3, b4, b5, b6, b7, b8, b9⟩
  · exact Or.inl ⟨v', b1, b2, b3, by rw [b4, up2_o (by decide)], by rw [b5, up2_i (by decide)]⟩
  · exact Or.inr ⟨N1, v', b0, b1, b2, b3, b4, b5, b6, b7, by rw [b8, up2_o (by decide)], by rw [b9, up2_i (by decide)]⟩
