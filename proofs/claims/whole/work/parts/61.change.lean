/-! ===== change: one of the near bank in another's place ===== -/
def Wc (c : MU) (y : Nat) (w : MU) : Prop := (∀ k, k ≠ 46 → w k = c k) ∧ ∀ i, i < 5 → i ≠ y → w 46 i = c 4 i
def Vc (u : MU) (y : Nat) (v : MU) : Prop := (∀ k, k ≠ 53 → k ≠ 57 → v k = u k) ∧ (∀ i, i ≠ 27 → i ≠ 28 → v 53 i = u 53 i) ∧ ∀ i, i ≠ y → v 57 i = u 57 i
theorem Vc_MX {c u v : MU} {r y : Nat} (h : Vc u y v) (hM : MX c r u) : MX c r v :=
  MX_cg (fun _ _ => rfl) (fun k h1 h2 h3 => h.1 k (by omega) h3) (h.2.1 12 (by decide) (by decide)) (h.2.1 13 (by decide) (by decide)) (h.2.1 14 (by decide) (by decide)) (h.2.1 15 (by decide) (by decide)) hM
theorem Vc_57 {u v : MU} {y : Nat} {x : Int32} (h : Vc u y v) : Vc u y (up2 v 57 y x) :=
  ⟨fun k a b => by rw [up2_o b]; exact h.1 k a b, fun i a b => by rw [up2_o (by decide)]; exact h.2.1 i a b, fun i hi => by rw [up2_i hi]; exact h.2.2 i hi⟩
theorem Vc_sc {u v v' : MU} {y : Nat} (h : Vc u y v) (q1 : ∀ k, k ≠ 53 → v' k = v k) (q2 : ∀ i, i ≠ 27 → i ≠ 28 → v' 53 i = v 53 i) : Vc u y v' :=
  ⟨fun k a b => by rw [q1 k a]; exact h.1 k a b, fun i a b => by rw [q2 i a b]; exact h.2.1 i a b, fun i hi => by rw [q1 57 (by decide)]; exact h.2.2 i hi⟩
theorem m9_le {t : Int32} (h : 0 ≤ t) : (-9 : Int32) ≤ t := by
  rw [fa_le'] at *
  have e9 : (-9 : Int32).toInt = -9 := by decide
  have e0 : (0 : Int32).toInt = 0 := by decide
  omega
theorem chg_in {n : Nat} {c u : MU} {Y P y a : Nat} {k1 k2 : Int32 → Int32 → Int32 → MU → Option (Int32 × MU)} (hR : RInv c 1 Y P) (hX : MX c 1 u) (h57 : u 57 = c 4) (hy : y < Y) (ha : a < P) (ea : c 4 y = nI a) (hn : 20 ≤ n) :
    ∀ (d p m : Nat) (t f : Int32) (w v : MU), p + d = P → d < m → 0 ≤ t → Wc c y w → Vc u y v → ∃ t' f' w' v', 0 ≤ t' ∧ Wc c y w' ∧ Vc u y v' ∧ zX1_bestChange_L45 n 1 (nI y) k1 m t f (nI p) w = k1 t' f' (nI P) w' ∧ zX5_change_L40 n (nI y) (nI a) k2 m t f (nI p) v = k2 t' f' (nI P) v' := by
  have hY5 := hR.1.2.1
  have hP7 := hR.1.2.2.1
  intro d
  induction d with
  | zero =>
    intro p m t f w v hp hm ht hw hv
    obtain ⟨m, rfl⟩ : ∃ e, m = e + 1 := ⟨m - 1, by omega⟩
    obtain rfl : p = P := by omega
    have hw3 : w 1 3 = nI p := by rw [hw.1 1 (by decide)]; exact hR.1.2.2.2.2.1
    have hv3 : v 53 13 = nI p := (Vc_MX hv hX).1.2.1.trans hR.1.2.2.2.2.1
    refine ⟨t, f, w, v, ht, hw, hv, ?_, ?_⟩
    · rw [zX1_bestChange_L45, hw3, if_pos (nI_le (Nat.le_refl _) (by omega))]
    · rw [zX5_change_L40, hv3, if_pos (nI_le (Nat.le_refl _) (by omega))]
  | succ d ih =>
    intro p m t f w v hp hm ht hw hv
    obtain ⟨m, rfl⟩ : ∃ e, m = e + 1 := ⟨m - 1, by omega⟩
    have hw3 : w 1 3 = nI P := by rw [hw.1 1 (by decide)]; exact hR.1.2.2.2.2.1
    have hv3 : v 53 13 = nI P := (Vc_MX hv hX).1.2.1.trans hR.1.2.2.2.2.1
    have hw4 : w (1 + 3) y = nI a := by rw [hw.1 (1 + 3) (by decide)]; exact ea
    have hw1 : ∀ k, k ≠ 46 → up2 w 46 y (nI p) k = c k := fun k hk => by rw [up2_o hk]; exact hw.1 k hk
    have hW1 : Wc c y (up2 w 46 y (nI p)) := ⟨hw1, fun i h1 h2 => by rw [up2_i h2]; exact hw.2 i h1 h2⟩
    have hR1 : RInv (up2 w 46 y (nI p)) 1 Y P := RInv_cg (fun f hf => hw1 _ (by omega)) hR
    have hV1 : Vc u y (up2 v 57 y (nI a)) := Vc_57 hv
    have hX1 : MX (up2 w 46 y (nI p)) 1 (up2 v 57 y (nI a)) := MX_cg (fun f hf => hw1 _ (by omega)) (fun _ _ _ _ => rfl) rfl rfl rfl rfl (Vc_MX hV1 hX)
    have e57 : up2 v 57 y (nI a) 57 = up2 w 46 y (nI p) (1 + 3) := by
      rw [hw1 (1 + 3) (by decide)]
      funext i
      by_cases e : i = y
      · subst e; rw [up2_s]; exact ea.symm
      · rw [hV1.2.2 i e, h57]
    have hnear := zX3_isNear_eq (n := n) (r := 1) (p := p) hR1.1.2.2.2.1 hY5 (by omega) (by omega)
    have hyo := zX5_yardOf_eq (n := n) (p := p) hR1 hX1 e57 (by omega) (by omega)
    have go : ∀ t2 f2 v2, 0 ≤ t2 → Vc u y v2 → zX1_bestChange_L45 n 1 (nI y) k1 (m + 1) t f (nI p) w = zX1_bestChange_L45 n 1 (nI y) k1 m t2 f2 (nI (p + 1)) (up2 w 46 y (nI p)) → zX5_change_L40 n (nI y) (nI a) k2 (m + 1) t f (nI p) v = zX5_change_L40 n (nI y) (nI a) k2 m t2 f2 (nI (p + 1)) v2 → ∃ t' f' w' v', 0 ≤ t' ∧ Wc c y w' ∧ Vc u y v' ∧ zX1_bestChange_L45 n 1 (nI y) k1 (m + 1) t f (nI p) w = k1 t' f' (nI P) w' ∧ zX5_change_L40 n (nI y) (nI a) k2 (m + 1) t f (nI p) v = k2 t' f' (nI P) v' := by
      intro t2 f2 v2 g1 g2 g3 g4
      rw [g3, g4]
      exact ih (p + 1) m t2 f2 _ v2 (by omega) (by omega) g1 hW1 g2
    have cst : zX1_bestChange_L45 n 1 (nI y) k1 (m + 1) t f (nI p) w = Option.bind (zX3_isNear n (up2 w 46 y (nI p)) 1 (nI p)) (fun q11 => if q11 = 0 then (if (-9) ≤ t then (zX1_bestChange_L45 n 1 (nI y) k1 m t f (nI (p + 1)) (up2 w 46 y (nI p))) else (letb ((10 * nI y) + nI p) (fun x15 => zX1_bestChange_L45 n 1 (nI y) k1 m (-9) x15 (nI (p + 1)) (up2 w 46 y (nI p))))) else (Option.bind (zX3_minutesOf n (up2 w 46 y (nI p)) 1 46 5) (fun q16 => if q16 ≤ t then (zX1_bestChange_L45 n 1 (nI y) k1 m t f (nI (p + 1)) (up2 w 46 y (nI p))) else (letb ((10 * nI y) + nI p) (fun x19 => zX1_bestChange_L45 n 1 (nI y) k1 m q16 x19 (nI (p + 1)) (up2 w 46 y (nI p))))))) := by
      rw [zX1_bestChange_L45, hw3, if_neg (by rw [le_nI (by omega) (by omega)]; omega), oob_no (show y < 5 by omega) (by omega), tn_nI (show y < 2147483648 by omega), hw4, if_neg (m9_ne' (by omega)), nI_1]
      simp only [Bool.false_eq_true, if_false, letb]
    have mst : zX5_change_L40 n (nI y) (nI a) k2 (m + 1) t f (nI p) v = Option.bind (zX5_yardOf n (up2 v 57 y (nI a)) (nI p)) (fun q11 => if q11 = (-9) then (Option.bind (zX5_doesStand n (up2 (up2 v 57 y (nI a)) 57 y (nI p))) (fun q16 => if q16.1 = 0 then (zX5_change_L40 n (nI y) (nI a) k2 m t f (nI (p + 1)) q16.2) else (Option.bind (zX5_lastsNow n q16.2) (fun q19 => if t < q19 then (Option.bind (zX5_lastsNow n q16.2) (fun q22 => letb ((10 * nI y) + nI p) (fun x24 => zX5_change_L40 n (nI y) (nI a) k2 m q22 x24 (nI (p + 1)) q16.2))) else (zX5_change_L40 n (nI y) (nI a) k2 m t f (nI (p + 1)) q16.2))))) else (zX5_change_L40 n (nI y) (nI a) k2 m t f (nI (p + 1)) (up2 v 57 y (nI a)))) := by
      rw [zX5_change_L40, hv3, if_neg (by rw [le_nI (by omega) (by omega)]; omega), if_neg (nI_pos (by omega)), oob_no (show y < 5 by omega) (by omega), tn_nI (show y < 2147483648 by omega), nI_1]
      simp only [Bool.false_eq_true, if_false, letb]
    rw [hnear, Option.bind_some] at cst
    rw [hyo, Option.bind_some] at mst
    by_cases hpl : plc (up2 w 46 y (nI p)) 1 Y p = -9
    · rw [if_pos hpl, if_neg (by decide)] at cst
      rw [if_pos hpl] at mst
      have hV2 : Vc u y (up2 (up2 v 57 y (nI a)) 57 y (nI p)) := Vc_57 hV1
      have hX2 : MX (up2 w 46 y (nI p)) 1 (up2 (up2 v 57 y (nI a)) 57 y (nI p)) := MX_cg (fun f hf => hw1 _ (by omega)) (fun _ _ _ _ => rfl) rfl rfl rfl rfl (Vc_MX hV2 hX)
      have hh : ∀ i, i < 5 → up2 w 46 y (nI p) 46 i = up2 (up2 v 57 y (nI a)) 57 y (nI p) 57 i := fun i hi => by
        by_cases e : i = y
        · subst e; rw [up2_s, up2_s]
        · rw [hW1.2 i hi e, hV2.2.2 i e, h57]
      have hch : chn Y P (up2 (up2 v 57 y (nI a)) 57 y (nI p) 57) := fun j hj => by
        by_cases e : j = y
        · subst e; rw [up2_s]; exact Or.inr ⟨p, by omega, rfl⟩
        · rw [hV2.2.2 j e, h57]; exact who_chn hR j hj
      obtain ⟨v3, f1, f4, f5⟩ := zX5_doesStand_eq (n := n) hR1 hX2 hch (by omega)
      have hV3 : Vc u y v3 := Vc_sc hV2 f4 f5
      have hmin := zX3_minutesOf_eq (n := n) (r := 1) (ch := 46) (cn := 5) hR1.1.2.2.2.1 hY5 hR1.1.2.2.2.2.1 hP7 (by omega) (by omega) (by omega)
      have hfs : fslR (up2 w 46 y (nI p)) 1 Y P 46 = fsl (whyS (up2 w 46 y (nI p)) 1 Y P (up2 (up2 v 57 y (nI a)) 57 y (nI p) 57)) Y 0 := fsl_cg Y 0 (fun i _ hi => whyS_cg (fun j hj => hh j (by omega)))
      rw [hmin, Option.bind_some] at cst
      rw [f1, Option.bind_some] at mst
      unfold mntR at cst
      rw [hfs] at cst
      by_cases hs : fsl (whyS (up2 w 46 y (nI p)) 1 Y P (up2 (up2 v 57 y (nI a)) 57 y (nI p) 57)) Y 0 = -9
      · rw [if_pos hs] at cst
        simp only [if_pos hs] at mst
        rw [if_neg (by decide)] at mst
        have hX3 : MX (up2 w 46 y (nI p)) 1 v3 := MX_cg (fun f hf => hw1 _ (by omega)) (fun _ _ _ _ => rfl) rfl rfl rfl rfl (Vc_MX hV3 hX)
        have hper : ∀ j, j < Y → ∃ q, q < 7 ∧ v3 57 j = nI q := fun j hj => by
          rw [f4 57 (by decide)]
          obtain ⟨q, hq, e⟩ := fs_per hP7 hY5 hs j hj
          exact ⟨q, by omega, e⟩
        have hl := zX5_lastsNow_eq (n := n) hR1 hX3 hper (by omega)
        have hle : mfold (fun j => mntP (up2 w 46 y (nI p)) 1 (v3 57 j).toNatClampNeg) Y 0 2147483647 = lstR (up2 w 46 y (nI p)) 1 Y 46 := mfold_cg Y 0 _ (fun i _ hi => by rw [f4 57 (by decide), hh i (by omega)])
        rw [hle] at hl
        rw [hl, Option.bind_some, Option.bind_some] at mst
        by_cases hlt : lstR (up2 w 46 y (nI p)) 1 Y 46 ≤ t
        · rw [if_pos hlt] at cst
          rw [if_neg (nlt_le.mpr hlt)] at mst
          exact go t f v3 ht hV3 cst mst
        · have hlt' : t < lstR (up2 w 46 y (nI p)) 1 Y 46 := by rw [fa_lt']; rw [fa_le'] at hlt; omega
          rw [if_neg hlt] at cst
          rw [if_pos hlt'] at mst
          exact go _ _ v3 (by rw [fa_le'] at *; rw [fa_lt'] at hlt'; omega) hV3 cst mst
      · rw [if_neg hs, if_pos (m9_le ht)] at cst
        simp only [if_neg hs] at mst
        rw [if_pos trivial] at mst
        exact go t f v3 ht hV3 cst mst
    · rw [if_neg hpl, if_pos rfl, if_pos (m9_le ht)] at cst
      rw [if_neg hpl] at mst
      exact go t f _ ht hV1 cst mst
theorem chg_ec {n y m : Nat} {k : Int32 → Int32 → Int32 → MU → Option (Int32 × MU)} {t f x : Int32} {w : MU} (hy : y < 5) (hm : 0 < m) (h : w (1 + 3) y = -9) : zX1_bestChange_L45 n 1 (nI y) k m t f x w = k t f x w := by
  obtain ⟨m, rfl⟩ : ∃ e, m = e + 1 := ⟨m - 1, by omega⟩
  rw [zX1_bestChange_L45, oob_no hy (by omega), tn_nI (by omega), h]
  simp
theorem chg_em {n y m : Nat} {k : Int32 → Int32 → Int32 → MU → Option (Int32 × MU)} {t f x : Int32} {v : MU} (hm : 0 < m) : zX5_change_L40 n (nI y) (-9) k m t f x v = k t f x v := by
  obtain ⟨m, rfl⟩ : ∃ e, m = e + 1 := ⟨m - 1, by omega⟩
  rw [zX5_change_L40, if_pos (show (-9 : Int32) < 0 by decide)]
  simp
theorem chg_out {n : Nat} {c u : MU} {Y P : Nat} (hR : RInv c 1 Y P) (hX : MX c 1 u) (h57 : u 57 = c 4) (hn : 20 ≤ n) :
    ∀ (d y m : Nat) (t f : Int32) (w v : MU), y + d = Y → d < m → 0 ≤ t → (∀ k, k ≠ 46 → w k = c k) → (∀ i, i < 5 → w 46 i = c 4 i) → (∀ k, k ≠ 53 → v k = u k) → (∀ i, i ≠ 27 → i ≠ 28 → v 53 i = u 53 i) →
      ∃ f' w' v', (∀ k, k ≠ 46 → w' k = c k) ∧ (∀ k, k ≠ 53 → v' k = u k) ∧ (∀ i, i ≠ 27 → i ≠ 28 → v' 53 i = u 53 i) ∧ zX1_bestChange_L33 n 1 (fun y27 y28 y29 w30 => some (y28, w30)) m t f (nI y) w = some (f', w') ∧ zX5_change_L21 n (fun y31 y32 y33 w34 => some (y32, w34)) m t f (nI y) v = some (f', v') := by
  have hY5 := hR.1.2.1
  have hP7 := hR.1.2.2.1
  intro d
  induction d with
  | zero =>
    intro y m t f w v hy hm ht hw hw2 hv hv2
    obtain ⟨m, rfl⟩ : ∃ e, m = e + 1 := ⟨m - 1, by omega⟩
    obtain rfl : y = Y := by omega
    have hw0 : w 1 0 = nI y := by rw [hw 1 (by decide)]; exact hR.1.2.2.2.1
    have hv0 : v 53 12 = nI y := by rw [hv2 12 (by decide) (by decide)]; exact hX.1.1.trans hR.1.2.2.2.1
    refine ⟨f, w, v, hw, hv, hv2, ?_, ?_⟩
    · rw [zX1_bestChange_L33, hw0, if_pos (nI_le (Nat.le_refl _) (by omega))]
    · rw [zX5_change_L21, hv0, if_pos (nI_le (Nat.le_refl _) (by omega))]
  | succ d ih =>
    intro y m t f w v hy hm ht hw hw2 hv hv2
    obtain ⟨m, rfl⟩ : ∃ e, m = e + 1 := ⟨m - 1, by omega⟩
    have hw0 : w 1 0 = nI Y := by rw [hw 1 (by decide)]; exact hR.1.2.2.2.1
    have hv0 : v 53 12 = nI Y := by rw [hv2 12 (by decide) (by decide)]; exact hX.1.1.trans hR.1.2.2.2.1
    have hWc : Wc c y w := ⟨hw, fun i h1 _ => hw2 i h1⟩
    have hVc : Vc u y v := ⟨fun k a _ => hv k a, hv2, fun i _ => by rw [hv 57 (by decide)]⟩
    have e57 : v 57 y = c 4 y := by rw [hv 57 (by decide), h57]
    have fin : ∀ t2 f2 w2 v2, 0 ≤ t2 → Wc c y w2 → Vc u y v2 → ∃ f' w' v', (∀ k, k ≠ 46 → w' k = c k) ∧ (∀ k, k ≠ 53 → v' k = u k) ∧ (∀ i, i ≠ 27 → i ≠ 28 → v' 53 i = u 53 i) ∧ zX1_bestChange_L33 n 1 (fun y27 y28 y29 w30 => some (y28, w30)) m t2 f2 (nI (y + 1)) (up2 w2 46 y (w2 (1 + 3) y)) = some (f', w') ∧ zX5_change_L21 n (fun y31 y32 y33 w34 => some (y32, w34)) m t2 f2 (nI (y + 1)) (up2 v2 57 y (c 4 y)) = some (f', v') := by
      intro t2 f2 w2 v2 g1 g2 g3
      refine ih (y + 1) m t2 f2 _ _ (by omega) (by omega) g1 (fun k hk => by rw [up2_o hk]; exact g2.1 k hk) (fun i hi => ?_) (fun k hk => ?_) (fun i a b => by rw [up2_o (by decide)]; exact g3.2.1 i a b)
      · by_cases e : i = y
        · subst e; rw [up2_s, g2.1 (1 + 3) (by decide)]
        · rw [up2_i e]; exact g2.2 i hi e
      · by_cases e : k = 57
        · subst e
          funext i
          by_cases e : i = y
          · subst e; rw [up2_s, h57]
          · rw [up2_i e]; exact g3.2.2 i e
        · rw [up2_o e]; exact g3.1 k hk e
    have cst : zX1_bestChange_L33 n 1 (fun y27 y28 y29 w30 => some (y28, w30)) (m + 1) t f (nI y) w = zX1_bestChange_L45 n 1 (nI y) (fun y20 y21 y22 w23 => letb (up2 w23 46 y (w23 (1 + 3) y)) (fun u26 => zX1_bestChange_L33 n 1 (fun y27 y28 y29 w30 => some (y28, w30)) m y20 y21 (nI (y + 1)) u26)) n t f 0 w := by
      rw [zX1_bestChange_L33, hw0, if_neg (by rw [le_nI (by omega) (by omega)]; omega), oob_no (show y < 5 by omega) (by omega), tn_nI (show y < 2147483648 by omega), nI_1]
      simp only [Bool.false_eq_true, if_false]
    have mst : zX5_change_L21 n (fun y31 y32 y33 w34 => some (y32, w34)) (m + 1) t f (nI y) v = zX5_change_L40 n (nI y) (c 4 y) (fun y25 y26 y27 w28 => letb (up2 w28 57 y (c 4 y)) (fun u30 => zX5_change_L21 n (fun y31 y32 y33 w34 => some (y32, w34)) m y25 y26 (nI (y + 1)) u30)) n t f 0 v := by
      rw [zX5_change_L21, hv0, if_neg (by rw [le_nI (by omega) (by omega)]; omega), oob_no (show y < 5 by omega) (by omega), tn_nI (show y < 2147483648 by omega), nI_1, e57]
      simp only [Bool.false_eq_true, if_false, letb]
    rcases hR.2.2.1 y (by omega) with e9 | ⟨-, a, ha, ea, -⟩
    · have e9' : c 4 y = -9 := e9
      obtain ⟨f', w', v', g1, g2, g3, g4, g5⟩ := fin t f w v ht hWc hVc
      refine ⟨f', w', v', g1, g2, g3, ?_, ?_⟩
      · rw [cst, chg_ec (show y < 5 by omega) (by omega) (by rw [hw (1 + 3) (by decide)]; exact e9)]
        exact g4
      · rw [mst]
        rw [e9'] at g5 ⊢
        rw [chg_em (by omega)]
        exact g5
    · have ea' : c 4 y = nI a := ea
      obtain ⟨t2, f2, w2, v2, q1, q2, q3, q4, q5⟩ := chg_in (n := n) (k1 := fun y20 y21 y22 w23 => letb (up2 w23 46 y (w23 (1 + 3) y)) (fun u26 => zX1_bestChange_L33 n 1 (fun y27 y28 y29 w30 => some (y28, w30)) m y20 y21 (nI (y + 1)) u26)) (k2 := fun y25 y26 y27 w28 => letb (up2 w28 57 y (c 4 y)) (fun u30 => zX5_change_L21 n (fun y31 y32 y33 w34 => some (y32, w34)) m y25 y26 (nI (y + 1)) u30)) hR hX h57 (show y < Y by omega) ha ea' hn P 0 n t f w v (by omega) (by omega) ht hWc hVc
      rw [nI_0] at q4 q5
      obtain ⟨f', w', v', g1, g2, g3, g4, g5⟩ := fin t2 f2 w2 v2 q1 q2 q3
      refine ⟨f', w', v', g1, g2, g3, ?_, ?_⟩
      · rw [cst, q4]
        exact g4
      · rw [mst]
        rw [← ea'] at q5
        rw [q5]
        exact g5
theorem cap_nn (q : Int32) : 0 ≤ (if 0 < q then q else 0) := by
  by_cases h : 0 < q
  · rw [if_pos h]
    rw [fa_lt'] at h
    rw [fa_le']
    omega
  · rw [if_neg h]; decide
theorem op_change (n : Nat) (hn : 20 ≤ n) : OPT (fun c => zX4_change n c) (fun u => zX5_change n u) := by
  intro c u hI hM
  obtain ⟨⟨Y, P, hR⟩, -⟩ := id hI
  have hX := hM.1
  have hP7 := hR.1.2.2.1
  have hY5 := hR.1.2.1
  have hY := hR.1.2.2.2.1
  have hP := hR.1.2.2.2.2.1
  obtain ⟨u', f1, f4, f5⟩ := zX5_doesStand_eq (n := n) hR hX (by rw [hM.2.1]; exact who_chn hR) (by omega)
  have hM' := MREL_sc f4 f5 hM
  have hmin := zX3_minutesOf_eq (n := n) (r := 1) (ch := 1 + 3) (cn := 5) hY hY5 hP hP7 (by omega) (by omega) (by omega)
  have hk : ∀ k, k ≠ 46 → upc c (1 + 3) 46 0 0 (5 : Int32).toNatClampNeg k = c k := fun k hk => by
    funext b
    rw [upc_at, if_neg (by omega)]
  have h46 : ∀ i, i < 5 → upc c (1 + 3) 46 0 0 (5 : Int32).toNatClampNeg 46 i = c 4 i := fun i hi => by
    rw [upc_at, if_pos ⟨rfl, hi⟩]
  obtain ⟨f', w', v', g1, g2, g3, g4, g5⟩ := chg_out (n := n) hR hX hM.2.1 hn Y 0 n (if 0 < mntR c 1 Y P (1 + 3) then mntR c 1 Y P (1 + 3) else 0) (-9) _ u' (by omega) (by omega) (cap_nn _) hk h46 f4 f5
  rw [nI_0] at g4 g5
  have hsm : Sm c w' := fun k hk => g1 k (by omega)
  refine ⟨f', w', v', ?_, ?_, CINV_sm hsm hI, MREL_sm hsm (MREL_sc g2 g3 hM)⟩
  · show zX4_change n c = _
    unfold zX4_change zX1_bestChange
    rw [hmin, Option.bind_some]
    simp only [letb]
    rw [g4, Option.bind_some]
  · show zX5_change n u = _
    unfold zX5_change
    rw [f1, Option.bind_some, hM.2.1]
    show (if (if fslR c 1 Y P (1 + 3) = -9 then (1 : Int32) else 0) = 0 then _ else _) = _
    unfold mntR at g5
    by_cases h : fslR c 1 Y P (1 + 3) = -9
    · rw [if_pos h, if_neg (by decide)]
      have hw : ∀ j, j < Y → ∃ p, p < P ∧ c (1 + 3) j = nI p := fs_per hP7 hY5 h
      have hp : ∀ j, j < Y → ∃ p, p < 7 ∧ u' 57 j = nI p := fun j hj => by
        rw [f4 57 (by omega), hM.2.1]
        obtain ⟨p, hp, e⟩ := hw j hj
        exact ⟨p, by omega, e⟩
      have hl := zX5_lastsNow_eq (n := n) hR hM'.1 hp (by omega)
      rw [hM'.2.1] at hl
      have hl' : zX5_lastsNow n u' = some (lstR c 1 Y (1 + 3)) := hl
      have hl0 : 0 ≤ lstR c 1 Y (1 + 3) := lst_nn hR hw
      rw [if_pos h, cap0 hl0] at g5
      show (zX5_lastsNow n u').bind _ = _
      rw [hl', Option.bind_some]
      exact g5
    · rw [if_neg h, if_pos rfl]
      rw [if_neg h, if_neg (by decide)] at g5
      exact g5
