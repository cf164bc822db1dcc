/-! ===== chains, longest, makeUp ===== -/
theorem gb01_fin : ∀ g, g < 128 → ∀ b, b < 7 → ((nI g >>> (nI b &&& 31)) &&& 1 = 0 ∨ (nI g >>> (nI b &&& 31)) &&& 1 = 1) := by decide +kernel
theorem gb01 {c : MU} {r Y P a b : Nat} (hI : RInv c r Y P) (ha : a < 7) (hb : b < 7) : gb c r a b = 0 ∨ gb c r a b = 1 := by
  obtain ⟨g, hg, e⟩ := hI.2.2.2.2.2.1 a ha
  unfold gb
  rw [e]
  exact gb01_fin g (by omega) b hb
theorem gsm_N {c : MU} {r Y P : Nat} {h : Nat → Nat} (hI : RInv c r Y P) : ∀ (y : Nat), (∀ i, i < y → h i < 7) → ∃ m, m ≤ y ∧ gsm c r h y = nI m ∧ (m = 0 ↔ ∀ i, i < y → i ≠ 0 → ¬ gb c r (h (i - 1)) (h i) = 1) := by
  intro y
  induction y with
  | zero => intro _; exact ⟨0, Nat.le_refl _, rfl, ⟨fun _ i hi => absurd hi (by omega), fun _ => rfl⟩⟩
  | succ y ih =>
    intro hh
    obtain ⟨m, h1, h2, h3⟩ := ih (fun i hi => hh i (by omega))
    simp only [gsm]
    rw [h2]
    by_cases q : y = 0
    · subst q
      refine ⟨m, by omega, by rw [if_pos rfl, Int32.add_zero], ?_⟩
      constructor
      · intro _ i hi h0; omega
      · intro _; omega
    · rw [if_neg q]
      rcases gb01 hI (hh (y - 1) (by omega)) (hh y (by omega)) with e | e
      · refine ⟨m, by omega, by rw [e, Int32.add_zero], ?_⟩
        rw [h3]
        constructor
        · intro z i hi h0
          by_cases w : i = y
          · rw [w, e]; decide
          · exact z i (by omega) h0
        · intro z i hi h0
          exact z i (by omega) h0
      · refine ⟨m + 1, by omega, by rw [e, nI_1], ?_⟩
        constructor
        · intro z; omega
        · intro z; exact absurd e (z y (by omega) q)
theorem gsm_le {c : MU} {r Y P y : Nat} {h : Nat → Nat} (hI : RInv c r Y P) (hy : y ≤ 5) (hh : ∀ i, i < y → h i < 7) : (gsm c r h y ≤ 0 ↔ ∀ i, i < y → i ≠ 0 → ¬ gb c r (h (i - 1)) (h i) = 1) := by
  obtain ⟨m, h1, h2, h3⟩ := gsm_N hI y hh
  rw [h2, ← h3]
  constructor
  · intro z
    by_cases q : m = 0
    · exact q
    · exact absurd z (nI_nle (by omega) (by omega))
  · intro z; rw [z]; decide
theorem whyS_dI {c : MU} {r Y P j : Nat} {h : Nat → Nat} (hP7 : P ≤ 7) (hh : ∀ i, i ≤ j → h i < P) : (whyS c r Y P (fun i => nI (h i)) j = -9 ↔ whyN c r Y j (h j) = -9 ∧ (j ≠ 0 → ¬ gb c r (h (j - 1)) (h j) = 1)) := by
  have w1 := hh j (Nat.le_refl _)
  have w2 := hh (j - 1) (by omega)
  unfold whyS
  rw [if_pos ((inP_iff hP7).mpr ⟨_, w1, rfl⟩), tn_nI (show h j < 2147483648 by omega), if_pos ((inP_iff hP7).mpr ⟨_, w2, rfl⟩), tn_nI (show h (j - 1) < 2147483648 by omega)]
  by_cases q : whyN c r Y j (h j) = -9
  · rw [if_pos q]
    by_cases z : j = 0
    · rw [if_pos z]
      exact ⟨fun _ => ⟨q, fun w => absurd z w⟩, fun _ => rfl⟩
    · rw [if_neg z]
      by_cases w : gb c r (h (j - 1)) (h j) = 1
      · rw [if_pos w]
        exact ⟨fun e => absurd e (by decide), fun e => absurd w (e.2 z)⟩
      · rw [if_neg w]
        exact ⟨fun _ => ⟨q, fun _ => w⟩, fun _ => rfl⟩
  · rw [if_neg q]
    exact ⟨fun e => absurd e q, fun e => absurd e.1 q⟩
theorem stands_iff {c : MU} {r Y P N : Nat} (hI : RInv c r Y P) (hP0 : 0 < P) : (fsl (whyS c r Y P (dI P Y N)) Y 0 = -9 ↔ (∀ i, i < Y → whyN c r Y i (dgt P Y N i) = -9) ∧ gsm c r (dgt P Y N) Y ≤ 0) := by
  have hY5 := hI.1.2.1
  have hP7 := hI.1.2.2.1
  have hd : ∀ i, dgt P Y N i < P := fun i => dgt_lt hP0
  rw [fsl_all Y 0 (by omega), gsm_le hI hY5 (fun i _ => Nat.lt_of_lt_of_le (hd i) hP7)]
  constructor
  · intro z
    exact ⟨fun i hi => ((whyS_dI hP7 (fun k _ => hd k)).mp (z i (by omega) (by omega))).1, fun i hi h0 => ((whyS_dI hP7 (fun k _ => hd k)).mp (z i (by omega) (by omega))).2 h0⟩
  · rintro ⟨z1, z2⟩ i _ hi
    exact (whyS_dI hP7 (fun k _ => hd k)).mpr ⟨z1 i (by omega), fun h0 => z2 i (by omega) h0⟩
theorem unl_iff {c : MU} {r Y P N : Nat} (hP0 : 0 < P) (hP7 : P ≤ 7) : (unl c r Y P N ↔ ∀ i, i < Y → (c (r + 7 + dgt P Y N i) 5 = 0 ∧ ∀ j, j < i → ¬ dgt P Y N j = dgt P Y N i)) := by
  have hd : ∀ i, dgt P Y N i < P := fun i => dgt_lt hP0
  have hd7 : ∀ i, dgt P Y N i < 2147483648 := fun i => by have := hd i; omega
  constructor
  · intro z i hi
    obtain ⟨⟨p, hp, e, o⟩, w⟩ := z i hi
    have e' : nI (dgt P Y N i) = nI p := e
    rw [eq_nI (hd7 i) (by omega)] at e'
    rw [e']
    refine ⟨o, fun j hj q => w j hj ?_⟩
    show nI (dgt P Y N j) = nI (dgt P Y N i)
    rw [q, e']
  · intro z i hi
    obtain ⟨z1, z2⟩ := z i hi
    refine ⟨⟨_, hd i, rfl, z1⟩, fun j hj q => z2 j hj ?_⟩
    have q' : nI (dgt P Y N j) = nI (dgt P Y N i) := q
    rw [eq_nI (hd7 j) (hd7 i)] at q'
    exact q'
theorem okC_iff {c : MU} {r Y P F N : Nat} (hP0 : 0 < P) (hP7 : P ≤ 7) (hF : MK (fun q => c (r + 7 + q) 5 = 0) F P) : (okC c r Y F (dgt P Y N) Y ↔ unl c r Y P N ∧ ∀ i, i < Y → whyN c r Y i (dgt P Y N i) = -9) := by
  have hd : ∀ i, dgt P Y N i < P := fun i => dgt_lt hP0
  rw [unl_iff hP0 hP7]
  constructor
  · intro z
    refine ⟨fun i hi => ⟨((hF.2 _ (by have := hd i; omega)).mp (z i hi).1).2, (z i hi).2.2⟩, fun i hi => (z i hi).2.1⟩
  · rintro ⟨z1, z2⟩ i hi
    exact ⟨(hF.2 _ (by have := hd i; omega)).mpr ⟨hd i, (z1 i hi).1⟩, z2 i hi, (z1 i hi).2⟩
/-! what a step does to the class's rows -/
theorem st_no {c : MU} {r Y P F N : Nat} {R : Row3} (h : ¬ (okC c r Y F (dgt P Y N) Y ∧ gsm c r (dgt P Y N) Y ≤ 0)) : (stC c r Y P F N R).1 3 = R.1 3 ∧ (stC c r Y P F N R).1 4 = R.1 4 ∧ (stC c r Y P F N R).2 = R.2 := by
  by_cases q : okC c r Y F (dgt P Y N) Y
  · rw [stC_y q]
    have hg : ¬ gsm c r (dgt P Y N) Y ≤ 0 := fun z => h ⟨q, z⟩
    unfold Wg Wt
    rw [if_neg hg]
    by_cases w : R.1 6 = -9 ∨ gsm c r (dgt P Y N) Y < R.1 6
    · rw [if_pos w]
      dsimp only
      exact ⟨ub_n (show (3 : Nat) ≠ 6 by decide), ub_n (show (4 : Nat) ≠ 6 by decide), rfl⟩
    · rw [if_neg w]
      exact ⟨rfl, rfl, rfl⟩
  · rw [stC_n q]
    exact ⟨rfl, rfl, rfl⟩
theorem st_yes {c : MU} {r Y P F N : Nat} {R : Row3} (h1 : okC c r Y F (dgt P Y N) Y) (h2 : gsm c r (dgt P Y N) Y ≤ 0) :
    (stC c r Y P F N R).1 3 = R.1 3 + 1 ∧ (stC c r Y P F N R).2.2 = W50 (dI P Y N) Y 0 R.2.2 ∧
    ((R.1 3 = 0 ∨ R.1 4 < lsm c r (dgt P Y N) Y) → (stC c r Y P F N R).1 4 = lsm c r (dgt P Y N) Y ∧ ∀ i, i < Y → (stC c r Y P F N R).2.1 i = dI P Y N i) ∧
    (¬ (R.1 3 = 0 ∨ R.1 4 < lsm c r (dgt P Y N) Y) → (stC c r Y P F N R).1 4 = R.1 4 ∧ (stC c r Y P F N R).2.1 = R.2.1) := by
  rw [stC_y h1]
  unfold Wg Wt
  rw [if_pos h2]
  by_cases w : R.1 6 = -9 ∨ gsm c r (dgt P Y N) Y < R.1 6
  · rw [if_pos w]
    simp only []
    rw [ub_n (show (3 : Nat) ≠ 6 by decide), ub_n (show (4 : Nat) ≠ 6 by decide)]
    by_cases z : R.1 3 = 0 ∨ R.1 4 < lsm c r (dgt P Y N) Y
    · rw [if_pos z]
      dsimp only
      refine ⟨ub_s, rfl, fun _ => ⟨?_, fun i hi => ?_⟩, fun e => absurd z e⟩
      · rw [ub_n (show (4 : Nat) ≠ 3 by decide), ub_s]
      · rw [if_pos hi]
    · rw [if_neg z]
      dsimp only
      refine ⟨ub_s, rfl, fun e => absurd e z, fun _ => ⟨?_, rfl⟩⟩
      rw [ub_n (show (4 : Nat) ≠ 3 by decide), ub_n (show (4 : Nat) ≠ 6 by decide)]
  · rw [if_neg w]
    by_cases z : R.1 3 = 0 ∨ R.1 4 < lsm c r (dgt P Y N) Y
    · rw [if_pos z]
      dsimp only
      refine ⟨ub_s, rfl, fun _ => ⟨?_, fun i hi => ?_⟩, fun e => absurd z e⟩
      · rw [ub_n (show (4 : Nat) ≠ 3 by decide), ub_s]
      · rw [if_pos hi]
    · rw [if_neg z]
      dsimp only
      refine ⟨ub_s, rfl, fun e => absurd e z, fun _ => ⟨?_, rfl⟩⟩
      rw [ub_n (show (4 : Nat) ≠ 3 by decide)]
theorem st_six {c : MU} {r Y P F N : Nat} {R : Row3} (h1 : okC c r Y F (dgt P Y N) Y) : (stC c r Y P F N R).1 6 = if R.1 6 = -9 ∨ gsm c r (dgt P Y N) Y < R.1 6 then gsm c r (dgt P Y N) Y else R.1 6 := by
  rw [stC_y h1]
  have key : ∀ R' : Row3, (Wt Y (dI P Y N) (gsm c r (dgt P Y N) Y) (lsm c r (dgt P Y N) Y) R').1 6 = R'.1 6 := fun R' => by
    unfold Wt
    split
    · split
      · dsimp only
        rw [ub_n (show (6 : Nat) ≠ 3 by decide), ub_n (show (6 : Nat) ≠ 4 by decide)]
      · dsimp only
        rw [ub_n (show (6 : Nat) ≠ 3 by decide)]
    · rfl
  unfold Wg
  rw [key]
  by_cases w : R.1 6 = -9 ∨ gsm c r (dgt P Y N) Y < R.1 6
  · rw [if_pos w, if_pos w]
    dsimp only
    exact ub_s
  · rw [if_neg w, if_neg w]
/-! a loop over all chains of the model, beside the class's pass -/
theorem loop_gen {σ β : Type} {n : Nat} {c u : MU} {r Y P : Nat} {f : Nat → Row3 → Row3} (hI : RInv c r Y P) (hX : MX c r u) (hn : 20000 ≤ n) (LP : Nat → σ → MU → Option β) (K : σ → MU → Option β) (Rel : Nat → Row3 → σ → MU → Prop)
    (hmono : ∀ N N' R s v v', N ≤ N' → Rel N R s v → v' 72 = v 72 → v' 53 32 = v 53 32 → Rel N' R s v')
    (hid : ∀ N, ¬ unl c r Y P N → ∀ R, f N R = R)
    (h0 : ∀ m s v v', zX5_nextChain n v = some (0, v') → LP (m + 1) s v = K s v')
    (h1 : ∀ m N R s v v', N < P ^ Y → unl c r Y P N → zX5_nextChain n v = some (1, v') → SC u v' → v' 53 30 = nI N → (∀ i, i < Y → v' 57 i = dI P Y N i) → Rel N R s v' → ∃ s2 v2, LP (m + 1) s v = LP m s2 v2 ∧ SC u v2 ∧ v2 53 30 = nI N ∧ Rel (N + 1) (f N R) s2 v2) :
    ∀ (d N m : Nat) (s : σ) (v : MU) (R : Row3), N ≤ P ^ Y → P ^ Y - N ≤ d → d < m → SC u v → v 53 30 + 1 = nI N → Rel N R s v → ∃ s' v', LP m s v = K s' v' ∧ SC u v' ∧ Rel (P ^ Y) (lin f (P ^ Y - N) N R) s' v' := by
  intro d
  induction d with
  | zero =>
    intro N m s v R hN hd hm hv h30 hr
    obtain ⟨m, rfl⟩ : ∃ e, m = e + 1 := ⟨m - 1, by omega⟩
    rcases nextChain_eq hI hX hN hv h30 hn with ⟨v', b1, b2, b3, b4, b5⟩ | ⟨N1, v', b0, b1, -⟩
    · refine ⟨s, v', h0 m s v v' b2, b3, ?_⟩
      rw [lin_id _ _ _ (fun i q1 q2 t => hid i (b1 i q1 (by omega)) t)]
      exact hmono N _ R s v v' hN hr b4 b5
    · omega
  | succ d ih =>
    intro N m s v R hN hd hm hv h30 hr
    obtain ⟨m, rfl⟩ : ∃ e, m = e + 1 := ⟨m - 1, by omega⟩
    rcases nextChain_eq hI hX hN hv h30 hn with ⟨v', b1, b2, b3, b4, b5⟩ | ⟨N1, v', b0, b1, b2, b3, b4, b5, b6, b7, b8, b9⟩
    · refine ⟨s, v', h0 m s v v' b2, b3, ?_⟩
      rw [lin_id _ _ _ (fun i q1 q2 t => hid i (b1 i q1 (by omega)) t)]
      exact hmono N _ R s v v' hN hr b4 b5
    · obtain ⟨s2, v2, g1, g2, g3, g4⟩ := h1 m N1 R s v v' b1 b3 b4 b5 b6 b7 (hmono N N1 R s v v' b0 hr b8 b9)
      obtain ⟨s', v3, k1, k2, k3⟩ := ih (N1 + 1) m s2 v2 (f N1 R) (by omega) (by omega) (by omega) g2 (by rw [g3, nI_1]) g4
      refine ⟨s', v3, by rw [g1]; exact k1, k2, ?_⟩
      rw [lin_first b0 b1 (fun i q1 q2 t => hid i (b2 i q1 q2) t)]
      exact k3
theorem hid_of {c : MU} {r Y P F : Nat} (hY1 : 1 ≤ Y) (hP7 : P ≤ 7) (hF : MK (fun q => c (r + 7 + q) 5 = 0) F P) : ∀ N, ¬ unl c r Y P N → ∀ R, stC c r Y P F N R = R := by
  intro N hu R
  refine stC_n (fun z => hu ?_)
  by_cases q : 0 < P
  · exact ((okC_iff q hP7 hF).mp z).1
  · exfalso
    obtain ⟨z1, -⟩ := z 0 (by omega)
    have hd : dgt P Y N 0 < 128 ∨ True := Or.inr trivial
    have hP : P = 0 := by omega
    subst hP
    have hz : F = 0 := by
      have : ∀ q, q < 7 → ¬ F.testBit q = true := fun q hq w => by
        have := ((hF.2 q hq).mp w).1
        omega
      have fin : ∀ F, F < 128 → (∀ q, q < 7 → ¬ F.testBit q = true) → F = 0 := by decide +kernel
      exact fin F hF.1 this
    rw [hz, Nat.zero_testBit] at z1
    exact absurd z1 (by decide)
theorem P0_of {c : MU} {r Y P N : Nat} (hu : unl c r Y P N) (hY1 : 1 ≤ Y) : 0 < P := by
  obtain ⟨⟨p, hp, -⟩, -⟩ := hu 0 (by omega)
  omega
/-- doesStand and lastsNow over the chain of number N -/
theorem ds_N {n : Nat} {c u v : MU} {r Y P N : Nat} (hI : RInv c r Y P) (hX : MX c r u) (hv : SC u v) (hP0 : 0 < P) (hd : ∀ i, i < Y → v 57 i = dI P Y N i) (hn : 20 ≤ n) :
    ∃ v', ((((∀ i, i < Y → whyN c r Y i (dgt P Y N i) = -9) ∧ gsm c r (dgt P Y N) Y ≤ 0) ∧ zX5_doesStand n v = some (1, v')) ∨ (¬ ((∀ i, i < Y → whyN c r Y i (dgt P Y N i) = -9) ∧ gsm c r (dgt P Y N) Y ≤ 0) ∧ zX5_doesStand n v = some (0, v'))) ∧ SC u v' ∧ v' 57 = v 57 ∧ v' 72 = v 72 ∧ (∀ i, i ≠ 27 → i ≠ 28 → v' 53 i = v 53 i) ∧ zX5_lastsNow n v' = some (lsm c r (dgt P Y N) Y) := by
  have hY5 := hI.1.2.1
  have hP7 := hI.1.2.2.1
  have hper : ∀ j, j < Y → ∃ p, p < P ∧ v 57 j = nI p := fun j hj => ⟨_, dgt_lt hP0, hd j hj⟩
  obtain ⟨v', f1, f4, f5⟩ := zX5_doesStand_eq (n := n) hI (SC_MX hv hX) (fun j hj => Or.inr (hper j hj)) (by omega)
  have hv' : SC u v' := SC_sc hv f4 f5
  have e1 : fsl (whyS c r Y P (v 57)) Y 0 = fsl (whyS c r Y P (dI P Y N)) Y 0 := fsl_cg Y 0 (fun i _ hi => whyS_cg (fun j hj => hd j (by omega)))
  rw [e1] at f1
  have hl := zX5_lastsNow_eq (n := n) hI (SC_MX hv' hX) (fun j hj => by
    rw [f4 57 (by decide)]
    obtain ⟨p, hp, e⟩ := hper j hj
    exact ⟨p, by omega, e⟩) (by omega)
  have e2 : mfold (fun j => mntP c r (v' 57 j).toNatClampNeg) Y 0 2147483647 = lsm c r (dgt P Y N) Y := mfold_cg Y 0 _ (fun i _ hi => by
    rw [f4 57 (by decide), hd i (by omega)]
    show mntP c r (nI (dgt P Y N i)).toNatClampNeg = _
    rw [tn_nI (by have := dgt_lt (P := P) (y := Y) (N := N) (i := i) hP0; omega)])
  rw [e2] at hl
  refine ⟨v', ?_, hv', f4 57 (by decide), f4 72 (by decide), f5, hl⟩
  by_cases q : fsl (whyS c r Y P (dI P Y N)) Y 0 = -9
  · rw [if_pos q] at f1
    exact Or.inl ⟨(stands_iff hI hP0).mp q, f1⟩
  · rw [if_neg q] at f1
    exact Or.inr ⟨fun z => q ((stands_iff hI hP0).mpr z), f1⟩
theorem chains_m {n : Nat} {c u : MU} {r Y P F : Nat} {R0 : Row3} (hI : RInv c r Y P) (hX : MX c r u) (hF : MK (fun q => c (r + 7 + q) 5 = 0) F P) (h3 : R0.1 3 = 0) (hn : 20000 ≤ n) :
    ∃ q, zX5_chains n u = some ((lin (stC c r Y P F) (P ^ Y) 0 R0).1 3, q) ∧ (∀ k, k ≠ 53 → k ≠ 71 → k ≠ 72 → q k = u k) ∧ (∀ i, i ≠ 27 → i ≠ 28 → i ≠ 30 → i ≠ 32 → q 53 i = u 53 i) := by
  have hY1 := hI.1.1
  have hY5 := hI.1.2.1
  have hP7 := hI.1.2.2.1
  have hT := pow_le7 hP7 hY5
  obtain ⟨v, p1, p2, p3, p4, p5, p6⟩ := zX5_putsAway_eq (n := n) (u := u) (by omega)
  obtain ⟨s', v', g1, g2, g3⟩ := loop_gen (n := n) (f := stC c r Y P F) hI hX hn (fun m s v => zX5_chains_L6 n (fun y11 w12 => Option.bind (zX5_putsBack n w12) (fun q13 => some (y11, q13))) m s v) (fun s v => Option.bind (zX5_putsBack n v) (fun q13 => some (s, q13))) (fun _ R s _ => R.1 3 = s)
    (fun N N' R s v v' _ h _ _ => h) (hid_of hY1 hP7 hF)
    (fun m s v v' e => by
      show zX5_chains_L6 n (fun y11 w12 => Option.bind (zX5_putsBack n w12) (fun q13 => some (y11, q13))) (m + 1) s v = _
      rw [zX5_chains_L6, e, Option.bind_some, if_pos rfl])
    (fun m N R s v v' hN hu e hv' h30 hd hr => by
      have hP0 := P0_of hu hY1
      obtain ⟨v2, q1, q2, q3, q4, q5, q6⟩ := ds_N (n := n) hI hX hv' hP0 hd (by omega)
      rcases q1 with ⟨w1, w2⟩ | ⟨w1, w2⟩
      · refine ⟨s + 1, v2, ?_, q2, by rw [q5 30 (by decide) (by decide)]; exact h30, ?_⟩
        · show zX5_chains_L6 n (fun y11 w12 => Option.bind (zX5_putsBack n w12) (fun q13 => some (y11, q13))) (m + 1) s v = _
          rw [zX5_chains_L6, e, Option.bind_some, if_neg n10, w2, Option.bind_some, if_neg n10]
          rfl
        · show (stC c r Y P F N R).1 3 = s + 1
          rw [(st_yes ((okC_iff hP0 hP7 hF).mpr ⟨hu, w1.1⟩) w1.2).1, hr]
      · refine ⟨s, v2, ?_, q2, by rw [q5 30 (by decide) (by decide)]; exact h30, ?_⟩
        · show zX5_chains_L6 n (fun y11 w12 => Option.bind (zX5_putsBack n w12) (fun q13 => some (y11, q13))) (m + 1) s v = _
          rw [zX5_chains_L6, e, Option.bind_some, if_neg n10, w2, Option.bind_some, if_pos rfl]
          simp only [letb]
          rw [Int32.add_zero]
        · show (stC c r Y P F N R).1 3 = s
          rw [(st_no (fun z => w1 ⟨((okC_iff hP0 hP7 hF).mp z.1).2, z.2⟩)).1, hr])
    (P ^ Y) 0 n 0 v R0 (by omega) (by omega) (by omega) p2 (by rw [p4]; decide) h3
  obtain ⟨q, b1, b2, b3, -⟩ := zX5_putsBack_eq (n := n) g2 (by omega)
  refine ⟨q, ?_, b2, b3⟩
  unfold zX5_chains
  rw [p1, Option.bind_some]
  have g1' : zX5_chains_L6 n (fun y11 w12 => Option.bind (zX5_putsBack n w12) (fun q13 => some (y11, q13))) n 0 v = Option.bind (zX5_putsBack n v') (fun q13 => some (s', q13)) := g1
  rw [g1', b1, Option.bind_some]
  have g3' : (lin (stC c r Y P F) (P ^ Y - 0) 0 R0).1 3 = s' := g3
  rw [Nat.sub_zero] at g3'
  rw [g3']
theorem Sm_th {c c' : MU} (h : ∀ k, (k < 45 ∨ 50 < k) → c' k = c k) : Sm c c' := fun k hk => h k (by omega)
theorem op_chains (n : Nat) (hn : 20000 ≤ n) : OPT (fun c => zX4_chains n c) (fun u => zX5_chains n u) := by
  intro c u hI hM
  obtain ⟨⟨Y, P, hR⟩, -⟩ := id hI
  have hX := hM.1
  have hP7 := hR.1.2.2.1
  obtain ⟨F, hF, eF⟩ := zX3_notOver_eq (n := n) (r := 1) hR.1.2.2.2.2.1 hP7 (by omega)
  obtain ⟨c', R0, t1, t2, t3, t4, t5, t6, t7⟩ := thinkOf_eq (n := n) hR (by omega) hF.1 (by omega)
  obtain ⟨q, m1, m2, m3⟩ := chains_m (n := n) hR hX hF t3 hn
  refine ⟨_, c', q, ?_, m1, CINV_sm (Sm_th t2) hI, MREL_sm (Sm_th t2) (MREL_back m2 m3 hM)⟩
  show zX4_chains n c = _
  unfold zX4_chains
  rw [eF, Option.bind_some, t1, Option.bind_some, ← t7]
  rfl
