/-! ===== cross ===== -/
theorem wm_fin : ∀ k, k < 6 → ∀ c, c < 10 → ∀ w, w < 100 → 1 ≤ mnt (nI k) (nI w) (nI c) → 0 ≤ nI w - col (nI k) (nI c) ∧ nI w - col (nI k) (nI c) ≤ 99 := by decide +kernel
theorem hr_fin : ∀ h, h < 100 → 0 ≤ mn 99 (nI h + 1) ∧ mn 99 (nI h + 1) ≤ 99 := by decide +kernel
def csx (c : MU) (a p : Nat) : MU := up2 (up2 c (8 + p) 4 (c (8 + p) 4 - colP c 1 p)) 7 (7 * a + p) (mn 99 (c 7 (7 * a + p) + 1))
def usx (c u : MU) (a p : Nat) : MU := up2 (up2 u 62 p (u 62 p - colP c 1 p)) 65 (7 * a + p) (mn 99 (u 65 (7 * a + p) + 1))
theorem csx_o {c : MU} {a p k : Nat} (h1 : k ≠ 8 + p) (h2 : k ≠ 7) : csx c a p k = c k := by unfold csx; rw [up2_o h2, up2_o h1]
theorem csx_p {c : MU} {a p q i : Nat} : csx c a p (8 + q) i = if q = p ∧ i = 4 then c (8 + p) 4 - colP c 1 p else c (8 + q) i := by
  unfold csx
  rw [up2_o (by omega)]
  by_cases h : q = p
  · subst h
    by_cases h2 : i = 4
    · subst h2; rw [up2_s, if_pos ⟨rfl, rfl⟩]
    · rw [up2_i h2, if_neg (fun z => h2 z.2)]
  · rw [up2_o (by omega), if_neg (fun z => h z.1)]
theorem csx_h {c : MU} {a p b : Nat} : csx c a p 7 b = if b = 7 * a + p then mn 99 (c 7 (7 * a + p) + 1) else c 7 b := by
  unfold csx
  by_cases h : b = 7 * a + p
  · subst h; rw [up2_s, if_pos rfl]
  · rw [up2_i h, up2_o (by omega), if_neg h]
theorem RInv_csx {c : MU} {Y P a p : Nat} (hI : RInv c 1 Y P) (ha : a < P) (hp : p < P) (hap : p ≠ a) (hm : 1 ≤ mntP c 1 p) : RInv (csx c a p) 1 Y P := by
  obtain ⟨j1, j2, j3, j4, j5, j6, j7, j8⟩ := id hI
  have hP7 := j1.2.2.1
  have o : ∀ k, k < 7 → csx c a p k = c k := fun k hk => csx_o (by omega) (by omega)
  have hg : ∀ x y, gb (csx c a p) 1 x y = gb c 1 x y := fun x y => by unfold gb; rw [o (1 + 5) (by omega)]
  refine ⟨by rw [o 1 (by omega)]; exact j1, fun k hk => by rw [o (1 + 1) (by omega), o (1 + 2) (by omega)]; exact j2 k hk, fun k hk => ?_, fun x k hx hk => by rw [o (1 + 3) (by omega)]; exact j4 x k hx hk, fun q hq => ?_, fun x hx => by rw [o (1 + 5) (by omega)]; exact j6 x hx, fun x y hx hy => by rw [hg, hg]; exact j7 x y hx hy, fun x y hx hy => ?_⟩
  · rw [o (1 + 3) (by omega)]
    rcases j3 k hk with e | ⟨q, p2, hp2, e, e2⟩
    · exact Or.inl e
    · refine Or.inr ⟨q, p2, hp2, e, ?_⟩
      show csx c a p (8 + p2) 5 = 0
      rw [csx_p, if_neg (fun z => absurd z.2 (by decide))]
      exact e2
  · obtain ⟨p0, p1, p2, p3, p4, p5⟩ := j5 q hq
    have e : ∀ i, i ≠ 4 → csx c a p (8 + q) i = c (8 + q) i := fun i hi => by rw [csx_p, if_neg (fun z => hi z.2)]
    refine ⟨?_, ?_, ?_, ?_, ?_, ?_⟩
    · show isD 5 (csx c a p (8 + q) 0); rw [e 0 (by decide)]; exact p0
    · show isD 9 (csx c a p (8 + q) 1); rw [e 1 (by decide)]; exact p1
    · show isD 9 (csx c a p (8 + q) 2); rw [e 2 (by decide)]; exact p2
    · show isD 9 (csx c a p (8 + q) 3); rw [e 3 (by decide)]; exact p3
    · show isD 99 (csx c a p (8 + q) 4)
      rw [csx_p]
      by_cases h : q = p
      · subst h
        rw [if_pos ⟨rfl, rfl⟩]
        obtain ⟨k, hk, ek⟩ := p0
        obtain ⟨w, hw, ew⟩ := p4
        obtain ⟨cc, hcc, ec⟩ := j1.2.2.2.2.2
        have ek' : c (8 + q) 0 = nI k := ek
        have ew' : c (8 + q) 4 = nI w := ew
        have hm' : 1 ≤ mnt (nI k) (nI w) (nI cc) := by
          have : mntP c 1 q = mnt (c (8 + q) 0) (c (8 + q) 4) (c 1 1) := rfl
          rw [this, ek', ew', ec] at hm
          exact hm
        have hc' : colP c 1 q = col (nI k) (nI cc) := by
          have : colP c 1 q = col (c (8 + q) 0) (c 1 1) := rfl
          rw [this, ek', ec]
        obtain ⟨g1, g2⟩ := wm_fin k (by omega) cc (by omega) w (by omega) hm'
        rw [hc', ew']
        exact btw_of (k := 99) (by omega) g1 g2
      · rw [if_neg (fun z => h z.1)]
        exact p4
    · show csx c a p (8 + q) 5 = 0 ∨ csx c a p (8 + q) 5 = 1; rw [e 5 (by decide)]; exact p5
  · show isD 99 (csx c a p 7 (7 * x + y)) ∧ (P ≤ x ∨ P ≤ y ∨ x = y → csx c a p 7 (7 * x + y) = 0)
    rw [csx_h]
    by_cases h : 7 * x + y = 7 * a + p
    · rw [if_pos h]
      obtain ⟨hh, hh2, eh⟩ := (j8 a p (by omega) (by omega)).1
      have eh' : c 7 (7 * a + p) = nI hh := eh
      obtain ⟨g1, g2⟩ := hr_fin hh (by omega)
      rw [eh']
      exact ⟨btw_of (k := 99) (by omega) g1 g2, fun z => absurd z (by omega)⟩
    · rw [if_neg h]
      exact j8 x y hx hy
theorem MX_csx {c u : MU} {Y P a p : Nat} (hI : RInv c 1 Y P) (hM : MX c 1 u) (hp : p < 7) : MX (csx c a p) 1 (usx c u a p) := by
  obtain ⟨m1, m2, m3, m4, m5, m6⟩ := hM
  have o : ∀ k, k < 7 → csx c a p k = c k := fun k hk => csx_o (by omega) (by omega)
  have hg : ∀ x y, gb (csx c a p) 1 x y = gb c 1 x y := fun x y => by unfold gb; rw [o (1 + 5) (by omega)]
  have hu : ∀ k, k ≠ 62 → k ≠ 65 → usx c u a p k = u k := fun k h1 h2 => by unfold usx; rw [up2_o h2, up2_o h1]
  refine ⟨by rw [hu 53 (by decide) (by decide), o 1 (by omega)]; exact m1, by rw [hu 55 (by decide) (by decide), o (1 + 1) (by omega)]; exact m2, by rw [hu 56 (by decide) (by decide), o (1 + 2) (by omega)]; exact m3, ?_, fun q hq => ?_, fun x y hx hy => by rw [hu 64 (by decide) (by decide), hg]; exact m6 x y hx hy⟩
  · funext b
    show usx c u a p 65 b = csx c a p 7 b
    rw [csx_h]
    unfold usx
    have m4' : u 65 = c 7 := m4
    by_cases h : b = 7 * a + p
    · subst h; rw [up2_s, if_pos rfl, m4']
    · rw [up2_i h, up2_o (by decide), if_neg h, m4']
  · obtain ⟨p0, p1, p2, p3, p4, p5⟩ := m5 q hq
    have e : ∀ i, i ≠ 4 → csx c a p (8 + q) i = c (8 + q) i := fun i hi => by rw [csx_p, if_neg (fun z => hi z.2)]
    refine ⟨?_, ?_, ?_, ?_, ?_, ?_⟩
    · rw [hu 58 (by decide) (by decide)]; exact p0.trans (e 0 (by decide)).symm
    · rw [hu 59 (by decide) (by decide)]; exact p1.trans (e 1 (by decide)).symm
    · rw [hu 60 (by decide) (by decide)]; exact p2.trans (e 2 (by decide)).symm
    · rw [hu 61 (by decide) (by decide)]; exact p3.trans (e 3 (by decide)).symm
    · show usx c u a p 62 q = csx c a p (8 + q) 4
      rw [csx_p]
      unfold usx
      rw [up2_o (by decide)]
      by_cases h : q = p
      · subst h
        rw [up2_s, if_pos ⟨rfl, rfl⟩]
        have p4' : u 62 q = c (8 + q) 4 := p4
        rw [p4']
      · rw [up2_i h, if_neg (fun z => h z.1)]
        exact p4
    · rw [hu 63 (by decide) (by decide)]; exact p5.trans (e 5 (by decide)).symm
theorem cross_L {n Y P a : Nat} {k1 : Int32 → MU → Option MU} {k2 : Int32 → MU → Option (Int32 × MU)} (ha : a < P) :
    ∀ (d j m : Nat) (c u : MU), j + d = Y → d < m → RInv c 1 Y P → MX c 1 u → u 57 = c 4 → (∀ k, j ≤ k → k < Y → ∃ p, p < P ∧ c 4 k = nI p ∧ p ≠ a ∧ 1 ≤ mntP c 1 p) →
      ∃ c' u', zX3_bringOver_L2 n 1 (nI a) k1 m (nI j) c = k1 (nI Y) c' ∧ zX5_cross_L48 n (nI a) k2 m (nI j) u = k2 (nI Y) u' ∧ RInv c' 1 Y P ∧ MX c' 1 u' ∧ (∀ q, (q < 7 ∨ 15 ≤ q) → c' q = c q) ∧ (∀ q i, q < 7 → i ≠ 4 → c' (8 + q) i = c (8 + q) i) ∧ (∀ q, q ≠ 62 → q ≠ 65 → u' q = u q) ∧ (∀ i, 49 ≤ i → c' 7 i = c 7 i) := by
  intro d
  induction d with
  | zero =>
    intro j m c u hj hm hI hM h57 hper
    obtain ⟨m, rfl⟩ : ∃ e, m = e + 1 := ⟨m - 1, by omega⟩
    obtain rfl : j = Y := by omega
    have hY5 := hI.1.2.1
    refine ⟨c, u, ?_, ?_, hI, hM, fun _ _ => rfl, fun _ _ _ _ => rfl, fun _ _ _ => rfl, fun _ _ => rfl⟩
    · rw [zX3_bringOver_L2, hI.1.2.2.2.1, if_pos (nI_le (Nat.le_refl _) (by omega))]
    · rw [zX5_cross_L48, hM.1.1, hI.1.2.2.2.1, if_pos (nI_le (Nat.le_refl _) (by omega))]
  | succ d ih =>
    intro j m c u hj hm hI hM h57 hper
    obtain ⟨m, rfl⟩ : ∃ e, m = e + 1 := ⟨m - 1, by omega⟩
    have hY5 := hI.1.2.1
    have hP7 := hI.1.2.2.1
    obtain ⟨p, hp, ep, hpa, hmp⟩ := hper j (Nat.le_refl _) (by omega)
    have hI2 := RInv_csx hI ha hp hpa hmp
    have hM2 := MX_csx (a := a) hI hM (show p < 7 by omega)
    obtain ⟨c', u', r1, r2, r3, r4, r5, r6, r7, r8⟩ := ih (j + 1) m (csx c a p) (usx c u a p) (by omega) (by omega) hI2 hM2 (by
      show usx c u a p 57 = csx c a p 4
      rw [csx_o (by omega) (by omega)]
      unfold usx
      rw [up2_o (by decide), up2_o (by decide)]
      exact h57) (fun k h1 h2 => by
      obtain ⟨p2, hp2, e2, h3, h4⟩ := hper k (by omega) h2
      refine ⟨p2, hp2, by rw [csx_o (by omega) (by omega)]; exact e2, h3, ?_⟩
      have hne : p2 ≠ p := fun z => by
        have := hI.2.2.2.1 j k (by omega) (by omega) (by show c 4 j = c 4 k; rw [ep, e2, z])
        rcases this with e | e
        · have e' : c 4 j = -9 := e
          rw [ep] at e'
          exact m9_ne' (by omega) e'
        · omega
      have e : mntP (csx c a p) 1 p2 = mntP c 1 p2 := by
        show mnt (csx c a p (8 + p2) 0) (csx c a p (8 + p2) 4) (csx c a p 1 1) = mnt (c (8 + p2) 0) (c (8 + p2) 4) (c 1 1)
        rw [csx_p, csx_p, csx_o (by omega) (by omega), if_neg (fun z => hne z.1), if_neg (fun z => hne z.1)]
      rw [e]; exact h4)
    refine ⟨c', u', ?_, ?_, r3, r4, fun q hq => ?_, fun q i hq hi => ?_, fun q h1 h2 => ?_, fun i hi => ?_⟩
    · rw [zX3_bringOver_L2, hI.1.2.2.2.1, if_neg (by rw [le_nI (by omega) (by omega)]; omega), oob_no (show j < 5 by omega) (by omega), tn_nI (by omega)]
      simp only [Bool.false_eq_true, if_false, letb]
      have e4 : c (1 + 3) j = nI p := ep
      have t7 := tn_nI (show p < 2147483648 by omega)
      have o7 := oob_no (show p < 7 by omega) (show p < 2147483648 by omega)
      rw [e4, zX3_isPerson_in hI.1.2.2.2.2.1 hP7 hp, Option.bind_some, if_neg (by decide), o7, t7, zX2_cools_eq]
      simp only [Bool.false_eq_true, if_false, Option.bind_some]
      rw [zX3_hoursOf_eq (show a < 7 by omega) (show p < 7 by omega), Option.bind_some]
      unfold zX3_setHours
      rw [ix7', oob_no (show 7 * a + p < 49 by omega) (by omega), tn_nI (by omega), nI_1, ← r1]
      simp only [Bool.false_eq_true, if_false, letb, Option.bind_some]
      rw [up2_o (show 1 + 6 ≠ 1 + 7 + p by omega)]
      rfl
    · rw [zX5_cross_L48, hM.1.1, hI.1.2.2.2.1, if_neg (by rw [le_nI (by omega) (by omega)]; omega), oob_no (show j < 5 by omega) (by omega), tn_nI (by omega), h57, ep]
      simp only [Bool.false_eq_true, if_false, letb]
      have t7 := tn_nI (show p < 2147483648 by omega)
      have o7 := oob_no (show p < 7 by omega) (show p < 2147483648 by omega)
      rw [o7, zX5_coolOf_eq hI hM (show p < 7 by omega), t7, ix7, oob_no (show 7 * a + p < 49 by omega) (by omega), tn_nI (by omega), nI_1, ← r2]
      simp only [Bool.false_eq_true, if_false, Option.bind_some, zX5_least_eq]
      rfl
    · rw [r5 q hq, csx_o (by omega) (by omega)]
    · rw [r6 q i hq hi, csx_p, if_neg (fun z => hi z.2)]
    · rw [r7 q h1 h2]
      unfold usx
      rw [up2_o h2, up2_o h1]
    · rw [r8 i hi, csx_h, if_neg (by omega)]
theorem mfold_ge {g : Nat → Int32} : ∀ (d j : Nat) (a : Int32), 1 ≤ mfold g d j a → 1 ≤ a ∧ ∀ i, j ≤ i → i < j + d → 1 ≤ g i := by
  intro d
  induction d with
  | zero => intro j a h; exact ⟨h, fun i h1 h2 => absurd h2 (by omega)⟩
  | succ d ih =>
    intro j a h
    simp only [mfold] at h
    obtain ⟨h1, h2⟩ := ih (j + 1) _ h
    have h3 : 1 ≤ a ∧ 1 ≤ g j := by
      unfold mn at h1
      by_cases q : g j < a
      · rw [if_pos q] at h1
        refine ⟨?_, h1⟩
        rw [fa_lt'] at q; rw [fa_le'] at h1 ⊢; omega
      · rw [if_neg q] at h1
        refine ⟨h1, ?_⟩
        rw [fa_lt'] at q; rw [fa_le'] at h1 ⊢; omega
    refine ⟨h3.1, fun i q1 q2 => ?_⟩
    by_cases e : i = j
    · rw [e]; exact h3.2
    · exact h2 i (by omega) (by omega)
theorem op_cross (n : Nat) (hn : 10 ≤ n) (x : Int32) : OPT (fun c => zX4_cross n c x) (fun u => zX5_cross n u x) := by
  intro c u hI hM
  obtain ⟨⟨Y, P, hR⟩, hZ, iK, iT, iW⟩ := id hI
  have hX := hM.1
  have hY5 := hR.1.2.1
  have hP7 := hR.1.2.2.1
  have hY := hR.1.2.2.2.1
  have hP := hR.1.2.2.2.2.1
  have hm := m_isOne (n := n) (a := x) hX
  rcases zX3_isPerson_eq (n := n) (u := c) (r := 1) (a := x) hP hP7 with ⟨a, ha, rfl, hz⟩ | ⟨-, hz⟩
  · rw [hz] at hm
    have hnear := zX3_isNear_eq (n := n) (r := 1) hY hY5 (show a < 7 by omega) hn
    have hyard := zX5_yardOf_eq (n := n) hR hX hM.2.1 (show a < 7 by omega) hn
    by_cases hpl : plc c 1 Y a = -9
    · rw [if_pos hpl] at hnear
      rw [hpl] at hyard
      obtain ⟨u1, f1, f4, f5⟩ := zX5_doesStand_eq (n := n) hR hX (by rw [hM.2.1]; exact who_chn hR) hn
      have hM1 := MREL_sc f4 f5 hM
      have hmin := zX3_minutesOf_eq (n := n) (r := 1) (ch := 1 + 3) (cn := 5) hY hY5 hP hP7 (by omega) (by omega) hn
      rw [hM.2.1] at f1
      have f1' : zX5_doesStand n u = some (if fslR c 1 Y P (1 + 3) = -9 then 1 else 0, u1) := f1
      by_cases hst : fslR c 1 Y P (1 + 3) = -9
      · rw [if_pos hst] at f1'
        have hmr : mntR c 1 Y P (1 + 3) = lstR c 1 Y (1 + 3) := by unfold mntR; rw [if_pos hst]
        rw [hmr] at hmin
        have hpp : ∀ k, k < Y → ∃ p, p < P ∧ c 4 k = nI p := fs_per hP7 hY5 hst
        have hl : zX5_lastsNow n u1 = some (lstR c 1 Y (1 + 3)) := by
          have h := zX5_lastsNow_eq (n := n) hR hM1.1 (fun k hk => by
            obtain ⟨p, hp, e⟩ := hpp k hk
            exact ⟨p, by omega, by rw [hM1.2.1]; exact e⟩) hn
          rw [hM1.2.1] at h
          exact h
        by_cases h1 : 1 ≤ lstR c 1 Y (1 + 3)
        · have hover : c (8 + a) 5 = 0 := by
            unfold plc at hpl
            by_cases z : c (1 + 7 + a) 5 = 0
            · exact z
            · rw [if_neg z] at hpl; exact absurd hpl (by decide)
          have hno : ∀ k, k < Y → ¬ c 4 k = nI a := by
            unfold plc at hpl
            have z : c (1 + 7 + a) 5 = 0 := hover
            rw [if_pos z] at hpl
            rcases srch_found (f := c (1 + 3)) (v := nI a) (e := -9) Y 0 with ⟨-, q2⟩ | ⟨i, q1, q2, q3, q4⟩
            · exact fun k hk => q2 k (by omega) (by omega)
            · rw [q4] at hpl; exact absurd hpl (m9_ne' (by omega))
          have hge := (mfold_ge Y 0 _ h1).2
          obtain ⟨c', u', r1, r2, r3, r4, r5, r6, r7, r8⟩ := cross_L (n := n) (Y := Y) (P := P) (a := a) (k1 := fun y17 w18 => if oob (nI a) 7 = true then none else letb (up2 w18 (1 + 7 + (nI a).toNatClampNeg) 5 1) (fun u20 => letb (up2 u20 1 2 ((u20 1 2) + 1)) (fun u21 => some u21))) (k2 := fun y30 w31 => if oob (nI a) 7 = true then none else letb (up2 w31 63 (nI a).toNatClampNeg 1) (fun u33 => letb (up2 u33 53 15 ((u33 53 15) + 1)) (fun u34 => (zX5_overMany n u34).bind (fun q35 => some (q35, u34))))) ha Y 0 n c u1 (by omega) (by omega) hR hM1.1 hM1.2.1 (fun k _ hk => by
              obtain ⟨p, hp, e⟩ := hpp k hk
              have g := hge k (by omega) (by omega)
              have e' : c (1 + 3) k = nI p := e
              rw [e', tn_nI (by omega)] at g
              exact ⟨p, hp, e, fun z => hno k hk (by rw [e, z]), g⟩)
          rw [nI_0] at r1 r2
          have o7 := oob_no (show a < 7 by omega) (show a < 2147483648 by omega)
          have t7 := tn_nI (show a < 2147483648 by omega)
          have c2 : up2 c' (8 + a) 5 1 1 2 = c' 1 2 := by rw [up2_o (by omega)]
          have u2 : up2 u' 63 a 1 53 15 = u' 53 15 := by rw [up2_o (by decide)]
          have cO : ∀ k, k ≠ 1 → k ≠ 8 + a → up2 (up2 c' (8 + a) 5 1) 1 2 (c' 1 2 + 1) k = c' k := fun k h1 h2 => by rw [up2_o h1, up2_o h2]
          have cS : ∀ i, i ≠ 2 → up2 (up2 c' (8 + a) 5 1) 1 2 (c' 1 2 + 1) 1 i = c' 1 i := fun i hi => by rw [up2_i hi, up2_o (by omega)]
          have cP : ∀ q i, up2 (up2 c' (8 + a) 5 1) 1 2 (c' 1 2 + 1) (8 + q) i = if q = a ∧ i = 5 then 1 else c' (8 + q) i := fun q i => by
            rw [up2_o (by omega)]
            by_cases h : q = a
            · subst h
              by_cases h2 : i = 5
              · subst h2; rw [up2_s, if_pos ⟨rfl, rfl⟩]
              · rw [up2_i h2, if_neg (fun z => h2 z.2)]
            · rw [up2_o (by omega), if_neg (fun z => h z.1)]
          have uO : ∀ k, k ≠ 53 → k ≠ 63 → up2 (up2 u' 63 a 1) 53 15 (u' 53 15 + 1) k = u' k := fun k h1 h2 => by rw [up2_o h1, up2_o h2]
          have uS : ∀ i, i ≠ 15 → up2 (up2 u' 63 a 1) 53 15 (u' 53 15 + 1) 53 i = u' 53 i := fun i hi => by rw [up2_i hi, up2_o (by decide)]
          have hg : ∀ y z, gb (up2 (up2 c' (8 + a) 5 1) 1 2 (c' 1 2 + 1)) 1 y z = gb c' 1 y z := fun y z => by unfold gb; rw [cO (1 + 5) (by omega) (by omega)]
          have hR' : RInv (up2 (up2 c' (8 + a) 5 1) 1 2 (c' 1 2 + 1)) 1 Y P := by
            obtain ⟨j1, j2, j3, j4, j5, j6, j7, j8⟩ := r3
            refine ⟨⟨j1.1, j1.2.1, j1.2.2.1, by rw [cS 0 (by decide)]; exact j1.2.2.2.1, by rw [cS 3 (by decide)]; exact j1.2.2.2.2.1, by rw [cS 1 (by decide)]; exact j1.2.2.2.2.2⟩, fun k hk => by rw [cO (1 + 1) (by omega) (by omega), cO (1 + 2) (by omega) (by omega)]; exact j2 k hk, fun k hk => ?_, fun y k hy hk => by rw [cO (1 + 3) (by omega) (by omega)]; exact j4 y k hy hk, fun q hq => ?_, fun y hy => by rw [cO (1 + 5) (by omega) (by omega)]; exact j6 y hy, fun y z hy hz => by rw [hg, hg]; exact j7 y z hy hz, fun y z hy hz => by rw [cO (1 + 6) (by omega) (by omega)]; exact j8 y z hy hz⟩
            · rw [cO (1 + 3) (by omega) (by omega)]
              rcases j3 k hk with e | ⟨q, p2, hp2, e, e2⟩
              · exact Or.inl e
              · refine Or.inr ⟨q, p2, hp2, e, ?_⟩
                have hne : p2 ≠ a := fun z => hno k q (by
                  have : c' 4 k = nI p2 := e
                  rw [r5 4 (by omega)] at this
                  rw [this, z])
                exact (cP p2 5).trans (by rw [if_neg (fun z => hne z.1)]; exact e2)
            · obtain ⟨p0, p1, p2, p3, p4, p5⟩ := j5 q hq
              have e : ∀ i, i ≠ 5 → up2 (up2 c' (8 + a) 5 1) 1 2 (c' 1 2 + 1) (8 + q) i = c' (8 + q) i := fun i hi => by rw [cP, if_neg (fun z => hi z.2)]
              refine ⟨?_, ?_, ?_, ?_, ?_, ?_⟩
              · exact (e 0 (by decide)).symm ▸ p0
              · exact (e 1 (by decide)).symm ▸ p1
              · exact (e 2 (by decide)).symm ▸ p2
              · exact (e 3 (by decide)).symm ▸ p3
              · exact (e 4 (by decide)).symm ▸ p4
              · have := cP q 5
                show up2 (up2 c' (8 + a) 5 1) 1 2 (c' 1 2 + 1) (8 + q) 5 = 0 ∨ up2 (up2 c' (8 + a) 5 1) 1 2 (c' 1 2 + 1) (8 + q) 5 = 1
                rw [this]
                split
                · exact Or.inr rfl
                · exact p5
          have hX' : MX (up2 (up2 c' (8 + a) 5 1) 1 2 (c' 1 2 + 1)) 1 (up2 (up2 u' 63 a 1) 53 15 (u' 53 15 + 1)) := by
            obtain ⟨⟨a1, a2, a3, a4⟩, m2, m3, m4, m5, m6⟩ := r4
            refine ⟨⟨by rw [uS 12 (by decide), cS 0 (by decide)]; exact a1, by rw [uS 13 (by decide), cS 3 (by decide)]; exact a2, by rw [uS 14 (by decide), cS 1 (by decide)]; exact a3, by rw [up2_s, up2_s, a4]⟩, by rw [uO 55 (by decide) (by decide), cO (1 + 1) (by omega) (by omega)]; exact m2, by rw [uO 56 (by decide) (by decide), cO (1 + 2) (by omega) (by omega)]; exact m3, by rw [uO 65 (by decide) (by decide), cO (1 + 6) (by omega) (by omega)]; exact m4, fun q hq => ?_, fun y z hy hz => by rw [uO 64 (by decide) (by decide), hg]; exact m6 y z hy hz⟩
            obtain ⟨p0, p1, p2, p3, p4, p5⟩ := m5 q hq
            have e : ∀ i, i ≠ 5 → up2 (up2 c' (8 + a) 5 1) 1 2 (c' 1 2 + 1) (8 + q) i = c' (8 + q) i := fun i hi => by rw [cP, if_neg (fun z => hi z.2)]
            refine ⟨?_, ?_, ?_, ?_, ?_, ?_⟩
            · rw [uO 58 (by decide) (by decide)]; exact p0.trans (e 0 (by decide)).symm
            · rw [uO 59 (by decide) (by decide)]; exact p1.trans (e 1 (by decide)).symm
            · rw [uO 60 (by decide) (by decide)]; exact p2.trans (e 2 (by decide)).symm
            · rw [uO 61 (by decide) (by decide)]; exact p3.trans (e 3 (by decide)).symm
            · rw [uO 62 (by decide) (by decide)]; exact p4.trans (e 4 (by decide)).symm
            · refine Eq.trans ?_ (cP q 5).symm
              rw [up2_o (by decide)]
              by_cases h : q = a
              · subst h; rw [up2_s, if_pos ⟨rfl, rfl⟩]
              · rw [up2_i h, if_neg (fun z => h z.1)]
                exact p5
          refine ⟨ovT (up2 (up2 c' (8 + a) 5 1) 1 2 (c' 1 2 + 1)) 1 P, up2 (up2 c' (8 + a) 5 1) 1 2 (c' 1 2 + 1), up2 (up2 u' 63 a 1) 53 15 (u' 53 15 + 1), ?_, ?_, ?_, ?_⟩
          · show zX4_cross n c (nI a) = _
            unfold zX4_cross zX3_bringOver
            rw [hz, Option.bind_some, if_neg (by decide), hnear, Option.bind_some, if_neg (by decide), hmin, Option.bind_some, if_pos h1, r1, o7, t7]
            simp only [Bool.false_eq_true, if_false, letb, Option.bind_some]
            show (zX3_overThere n (up2 (up2 c' (8 + a) 5 1) 1 2 (up2 c' (8 + a) 5 1 1 2 + 1)) 1).bind _ = _
            rw [c2, zX3_overThere_eq (r := 1) hR'.1.2.2.2.2.1 hP7 hn]
            rfl
          · show zX5_cross n u (nI a) = _
            unfold zX5_cross
            rw [hm, Option.bind_some, if_neg (by decide), hyard, Option.bind_some, if_pos rfl, f1', Option.bind_some, if_neg (fun z => absurd z (by decide : ¬ (1 : Int32) = 0)), hl, Option.bind_some, if_pos h1]
            refine r2.trans ?_
            rw [o7, t7]
            simp only [Bool.false_eq_true, if_false, letb, u2]
            rw [zX5_overMany_eq (n := n) hR' hX' hn, Option.bind_some]
          · have cc : ∀ k, (k < 1 ∨ 15 ≤ k) → up2 (up2 c' (8 + a) 5 1) 1 2 (c' 1 2 + 1) k = c k := fun k hk => by rw [cO k (by omega) (by omega), r5 k (by omega)]
            refine ⟨⟨Y, P, hR'⟩, ⟨fun i hi => ?_, fun i hi => ?_⟩, ?_, by rw [cc 43 (by omega), cc 44 (by omega)]; exact iT, by rw [cc 0 (by omega), cc 51 (by omega)]; exact iW⟩
            · rw [cO (1 + 1) (by omega) (by omega), cO (1 + 2) (by omega) (by omega), cO (1 + 3) (by omega) (by omega), r5 (1 + 1) (by omega), r5 (1 + 2) (by omega), r5 (1 + 3) (by omega)]
              exact hZ.1 i hi
            · rw [cO (1 + 6) (by omega) (by omega)]
              exact fun _ => (r8 i hi).trans (hZ.2 i hi (by omega))
            · rw [cc 0 (by omega)]
              rcases iK with e | ⟨e, ⟨Y2, P2, i2⟩, z⟩
              · exact Or.inl e
              · exact Or.inr ⟨e, ⟨Y2, P2, RInv_cg (fun f _ => cc _ (by omega)) i2⟩, ZR_cg (fun f _ => cc _ (by omega)) z⟩
          · have cc : ∀ k, (k < 1 ∨ 15 ≤ k) → up2 (up2 c' (8 + a) 5 1) 1 2 (c' 1 2 + 1) k = c k := fun k hk => by rw [cO k (by omega) (by omega), r5 k (by omega)]
            have uu : ∀ k, k ≠ 53 → k ≠ 62 → k ≠ 63 → k ≠ 65 → up2 (up2 u' 63 a 1) 53 15 (u' 53 15 + 1) k = u1 k := fun k h1 h2 h3 h4 => by rw [uO k h1 h3, r7 k h2 h4]
            have us : ∀ i, i ≠ 15 → up2 (up2 u' 63 a 1) 53 15 (u' 53 15 + 1) 53 i = u1 53 i := fun i hi => by rw [uS i hi, r7 53 (by decide) (by decide)]
            obtain ⟨-, w2, w3, w4, w5, w6, w7, w8, w9⟩ := hM1
            refine ⟨hX', ?_, by rw [uu 54 (by decide) (by decide) (by decide) (by decide), cc 52 (by omega)]; exact w3, by rw [uu 66 (by decide) (by decide) (by decide) (by decide), cc 44 (by omega)]; exact w4, by rw [us 20 (by decide), cc 43 (by omega)]; exact w5, by rw [uu 73 (by decide) (by decide) (by decide) (by decide), cc 51 (by omega)]; exact w6, by rw [us 34 (by decide), cc 0 (by omega)]; exact w7, by rw [us 24 (by decide), cc 0 (by omega)]; exact w8, ?_⟩
            · rw [uu 57 (by decide) (by decide) (by decide) (by decide), cO 4 (by omega) (by omega), r5 4 (by omega)]
              exact w2
            · intro e
              rw [cc 0 (by omega)] at e
              exact KI_cg (fun f _ => cc _ (by omega)) (fun i _ => by rw [uu 70 (by decide) (by decide) (by decide) (by decide)]) (w9 e)
        · have e1 : zX4_cross n c (nI a) = (zX4_refuse n c (-3)).bind (fun q => some (q.1, q.2)) := by
            unfold zX4_cross
            rw [hz, Option.bind_some, if_neg (by decide), hnear, Option.bind_some, if_neg (by decide), hmin, Option.bind_some, if_neg h1]
          have e2 : zX5_cross n u (nI a) = (zX5_no n u1 (-3)).bind (fun q => some (q.1, q.2)) := by
            unfold zX5_cross
            rw [hm, Option.bind_some, if_neg (by decide), hyard, Option.bind_some, if_pos rfl, f1', Option.bind_some, if_neg (fun z => absurd z (by decide : ¬ (1 : Int32) = 0)), hl, Option.bind_some, if_neg h1]
          exact opt_ref 3 (by decide) (n := n) hI hM1 e1 e2
      · rw [if_neg hst] at f1'
        have hmr : mntR c 1 Y P (1 + 3) = -9 := by unfold mntR; rw [if_neg hst]
        rw [hmr] at hmin
        have e1 : zX4_cross n c (nI a) = (zX4_refuse n c (-3)).bind (fun q => some (q.1, q.2)) := by
          unfold zX4_cross
          rw [hz, Option.bind_some, if_neg (by decide), hnear, Option.bind_some, if_neg (by decide), hmin, Option.bind_some, if_neg (by decide)]
        have e2 : zX5_cross n u (nI a) = (zX5_no n u1 (-3)).bind (fun q => some (q.1, q.2)) := by
          unfold zX5_cross
          rw [hm, Option.bind_some, if_neg (by decide), hyard, Option.bind_some, if_pos rfl, f1', Option.bind_some, if_pos rfl]
        exact opt_ref 3 (by decide) (n := n) hI hM1 e1 e2
    · rw [if_neg hpl] at hnear
      refine opt_ref 3 (by decide) (n := n) hI hM ?_ ?_
      · show zX4_cross n c (nI a) = _
        unfold zX4_cross
        rw [hz, Option.bind_some, if_neg (by decide), hnear, Option.bind_some, if_pos rfl]
        rfl
      · show zX5_cross n u (nI a) = _
        unfold zX5_cross
        rw [hm, Option.bind_some, if_neg (by decide), hyard, Option.bind_some, if_neg hpl]
        rfl
  · rw [hz] at hm
    refine opt_ref 1 (by decide) (n := n) hI hM ?_ ?_
    · simp only [zX4_cross, hz, Option.bind_some]
      rfl
    · simp only [zX5_cross, hm, Option.bind_some]
      rfl
