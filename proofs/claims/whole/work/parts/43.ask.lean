/-! ===== lasts, overs, owed, count; the class's side writes nothing ===== -/
/-- a call that writes nothing of the class's -/
def OPP (fc : MU → Option Int32) (fm : MU → Option (Int32 × MU)) : Prop := ∀ c u, CINV c → MREL c u → ∃ v u', fc c = some v ∧ fm u = some (v, u') ∧ MREL c u'
def OPQ (fc fm : MU → Option Int32) : Prop := ∀ c u, CINV c → MREL c u → ∃ v, fc c = some v ∧ fm u = some v
theorem fs_per {c : MU} {r Y P : Nat} {h : Nat → Int32} (hP7 : P ≤ 7) (hY5 : Y ≤ 5) (e : fsl (whyS c r Y P h) Y 0 = -9) : ∀ j, j < Y → ∃ p, p < P ∧ h j = nI p := fun j hj => whyS_per hP7 ((fsl_all Y 0 (by omega)).mp e j (by omega) (by omega))
theorem op_lasts (n : Nat) (hn : 10 ≤ n) : OPP (fun c => zX4_lasts n c) (fun u => zX5_lasts n u) := by
  intro c u hI hM
  obtain ⟨⟨Y, P, hR⟩, -⟩ := id hI
  have hX := hM.1
  have hP7 := hR.1.2.2.1
  have hY5 := hR.1.2.1
  obtain ⟨u', f1, f4, f5⟩ := zX5_doesStand_eq (n := n) hR hX (by rw [hM.2.1]; exact who_chn hR) hn
  have hM' := MREL_sc f4 f5 hM
  have hmin := zX3_minutesOf_eq (n := n) (r := 1) (ch := 1 + 3) (cn := 5) hR.1.2.2.2.1 hY5 hR.1.2.2.2.2.1 hP7 (by omega) (by omega) hn
  refine ⟨mntR c 1 Y P (1 + 3), u', by simp [zX4_lasts, hmin], ?_, hM'⟩
  show zX5_lasts n u = _
  unfold zX5_lasts
  rw [f1, Option.bind_some, hM.2.1]
  show (if (if fslR c 1 Y P (1 + 3) = -9 then (1 : Int32) else 0) = 0 then _ else _) = _
  unfold mntR
  by_cases h : fslR c 1 Y P (1 + 3) = -9
  · rw [if_pos h, if_neg (by decide), if_pos h]
    have hp : ∀ j, j < Y → ∃ p, p < 7 ∧ u' 57 j = nI p := fun j hj => by
      rw [f4 57 (by omega), hM.2.1]
      obtain ⟨p, hp, e⟩ := fs_per hP7 hY5 h j hj
      exact ⟨p, by omega, e⟩
    rw [zX5_lastsNow_eq (n := n) hR hM'.1 hp hn, Option.bind_some, hM'.2.1]
    rfl
  · rw [if_neg h, if_pos rfl, if_neg h]
/-! hours owed -/
def owS (f : Nat → Int32) (p : Nat) : Nat → Int32
  | 0 => 0
  | k + 1 => owS f p k + (f (7 * k + p) - f (7 * p + k))
theorem zX4_owed_L {n : Nat} {c : MU} {p P : Nat} {k : Int32 → Int32 → Option (Int32 × MU)} (hP : c 1 3 = nI P) (hP7 : P ≤ 7) (hp : p < 7) :
    ∀ (d j m : Nat), j + d = P → d < m → zX4_owed_L24 n c (nI p) k m (owS (c 7) p j) (nI j) = k (owS (c 7) p P) (nI P) := by
  intro d
  induction d with
  | zero =>
    intro j m hj hm
    obtain ⟨m, rfl⟩ : ∃ e, m = e + 1 := ⟨m - 1, by omega⟩
    obtain rfl : j = P := by omega
    rw [zX4_owed_L24, hP, if_pos (nI_le (Nat.le_refl _) (by omega))]
  | succ d ih =>
    intro j m hj hm
    obtain ⟨m, rfl⟩ : ∃ e, m = e + 1 := ⟨m - 1, by omega⟩
    rw [zX4_owed_L24, hP, if_neg (by rw [le_nI (by omega) (by omega)]; omega), zX3_hoursOf_eq (by omega) hp, Option.bind_some, zX3_hoursOf_eq hp (by omega), Option.bind_some, nI_1, ← ih (j + 1) m (by omega) (by omega)]
    rfl
theorem zX5_owed_eq0 {n : Nat} {u : MU} {p P : Nat} {k : Int32 → Int32 → Option (Int32 × MU)} (hP : u 53 13 = nI P) (hP7 : P ≤ 7) (hp : p < 7) :
    ∀ (d j m : Nat), j + d = P → d < m → zX5_owed_L18 n u (nI p) k m (owS (u 65) p j) (nI j) = k (owS (u 65) p P) (nI P) := by
  intro d
  induction d with
  | zero =>
    intro j m hj hm
    obtain ⟨m, rfl⟩ : ∃ e, m = e + 1 := ⟨m - 1, by omega⟩
    obtain rfl : j = P := by omega
    rw [zX5_owed_L18, hP, if_pos (nI_le (Nat.le_refl _) (by omega))]
  | succ d ih =>
    intro j m hj hm
    obtain ⟨m, rfl⟩ : ∃ e, m = e + 1 := ⟨m - 1, by omega⟩
    rw [zX5_owed_L18, hP, if_neg (by rw [le_nI (by omega) (by omega)]; omega), ix7, ix7, oob_no (show 7 * j + p < 49 by omega) (by omega), oob_no (show 7 * p + j < 49 by omega) (by omega), tn_nI (by omega), tn_nI (by omega), nI_1, ← ih (j + 1) m (by omega) (by omega)]
    simp only [Bool.false_eq_true, if_false, letb]
    rfl
theorem zX5_lower_eq {n : Nat} {u : MU} : zX5_lower n u (-1) = some (1000000000 - (-1), up2 u 54 1 (u 54 1 + 1)) := by
  obtain ⟨h1, h2⟩ := ref_fin 1 (by decide)
  have h1' : oob (-(-1 : Int32)) 7 = false := h1
  have h2' : (-(-1 : Int32)).toNatClampNeg = 1 := h2
  unfold zX5_lower
  rw [h1', h2']
  simp [letb]
theorem zX4_refuse1 {n : Nat} {c : MU} : zX4_refuse n c (-1) = some (-1, up2 c 52 1 (c 52 1 + 1)) := zX4_refuse_eq (k := 1) (by decide)
theorem op_owed (n : Nat) (hn : 10 ≤ n) (a : Int32) : OPT (fun c => zX4_owed n c a) (fun u => zX5_owed n u a) := by
  intro c u hI hM
  obtain ⟨⟨Y, P, hR⟩, -⟩ := id hI
  have hX := hM.1
  have hP7 := hR.1.2.2.1
  have hP := hR.1.2.2.2.2.1
  have hm := m_isOne (n := n) (a := a) hX
  rcases zX3_isPerson_eq (n := n) (u := c) (r := 1) (a := a) hP hP7 with ⟨p, hp, rfl, hz⟩ | ⟨-, hz⟩
  · rw [hz] at hm
    have h1 := zX4_owed_L (n := n) (c := c) (k := fun y10 y11 => some (y10, c)) hP hP7 (show p < 7 by omega) P 0 n (by omega) (by omega)
    have h2 := zX5_owed_eq0 (n := n) (u := u) (k := fun y10 y11 => some (y10, u)) (hX.1.2.1.trans hP) hP7 (show p < 7 by omega) P 0 n (by omega) (by omega)
    rw [nI_0] at h1 h2
    have h65 : u 65 = c 7 := hX.2.2.2.1
    rw [h65] at h2
    refine opt_same (v := owS (c 7) p P) hI hM ?_ ?_
    · show zX4_owed n c (nI p) = _
      unfold zX4_owed
      rw [hz, Option.bind_some, if_neg (by decide)]
      exact h1
    · show zX5_owed n u (nI p) = _
      unfold zX5_owed
      rw [hm, Option.bind_some, if_neg (by decide)]
      exact h2
  · rw [hz] at hm
    refine ⟨1000000000 - (-1), _, _, ?_, ?_, (ref_rel (k := 1) hI hM).1, (ref_rel (k := 1) hI hM).2⟩
    · show zX4_owed n c a = _
      unfold zX4_owed
      rw [hz, Option.bind_some, if_pos rfl, zX4_refuse1, Option.bind_some]
    · show zX5_owed n u a = _
      unfold zX5_owed
      rw [hm, Option.bind_some, if_pos rfl, zX5_lower_eq, Option.bind_some]
