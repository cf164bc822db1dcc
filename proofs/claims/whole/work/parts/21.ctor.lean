/-! ===== the constructors, and the law up to its loop, with the numbers themselves ===== -/
def rz : List (Nat × Nat × Nat) := [(53, 33, 73), (53, 31, 72), (53, 29, 71), (53, 23, 70), (53, 19, 69), (53, 18, 68), (53, 17, 67), (53, 16, 66), (53, 11, 65), (53, 10, 64), (53, 9, 63), (53, 8, 62), (53, 7, 61), (53, 6, 60), (53, 5, 59), (53, 4, 58), (53, 3, 57), (53, 2, 56), (53, 1, 55), (53, 0, 54), (0, 8, 52), (0, 6, 51), (0, 5, 45), (45, 7, 50), (45, 5, 49), (45, 2, 48), (45, 1, 47), (45, 0, 46), (0, 4, 43), (43, 0, 44), (0, 2, 29), (33, 6, 42), (33, 5, 41), (33, 4, 40), (33, 3, 39), (33, 2, 38), (33, 1, 37), (33, 0, 36), (29, 9, 35), (29, 8, 34), (29, 7, 33), (29, 6, 32), (29, 5, 31), (29, 4, 30), (0, 1, 15), (19, 6, 28), (19, 5, 27), (19, 4, 26), (19, 3, 25), (19, 2, 24), (19, 1, 23), (19, 0, 22), (15, 9, 21), (15, 8, 20), (15, 7, 19), (15, 6, 18), (15, 5, 17), (15, 4, 16), (0, 0, 1), (5, 6, 14), (5, 5, 13), (5, 4, 12), (5, 3, 11), (5, 2, 10), (5, 1, 9), (5, 0, 8), (1, 9, 7), (1, 8, 6), (1, 7, 5), (1, 6, 4), (1, 5, 3), (1, 4, 2)]
def gz : List (Nat × Nat × Nat) → Nat → Nat → Option Nat
  | [] => fun _ _ => none
  | e :: l => upr (gz l) e.1 e.2.1 e.2.2
theorem gz_upn (k : Nat) : ∀ (Ls : List (Nat × Nat × Nat)), Ls.all (fun e => e.1 != k) = true → upn (gz Ls) k = gz Ls
  | [], _ => by funext a b; simp [upn, gz]
  | e :: l, h => by
    simp only [List.all_cons, Bool.and_eq_true, bne_iff_ne, ne_eq] at h
    have ih := gz_upn k l h.2
    funext a b
    have ih2 : upn (gz l) k a b = gz l a b := by rw [ih]
    simp only [upn] at ih2
    simp only [upn, gz, upr]
    by_cases hk : a = k
    · rw [if_pos hk] at ih2 ⊢
      rw [if_neg (fun z => h.1 (z.1.symm.trans hk)), ← ih2]
    · rw [if_neg hk]
theorem A_Tn {G : GG} {d : Nat} {mi : MI} {pc : Nat} {L st : List Value} {sh sh' : List (Nat × Nat)} {z : Nat × Nat} {Ls : List (Nat × Nat × Nat)} (k : Nat) {u : MU} {kc ks : Nat} {Q : QQ} (hk : sh.length = k) (hs : sh ++ [z] = sh') (hn : Ls.all (fun e => e.1 != k) = true) (h : AW G d mi pc L (.ref k :: st) (sh', gz Ls) (upz u k) kc ks Q) : AW G d mi pc L (.ref sh.length :: st) (sh ++ [z], upn (gz Ls) sh.length) (upz u sh.length) kc ks Q := by
  subst hk; subst hs
  rw [gz_upn _ _ hn]
  exact h
theorem A_Te {G : GG} {d : Nat} {mi : MI} {pc : Nat} {L st : List Value} {T T' : TT} {u : MU} {kc ks : Nat} {Q : QQ} (hT : T = T') (h : AW G d mi pc L st T' u kc ks Q) : AW G d mi pc L st T u kc ks Q := by subst hT; exact h
theorem wctor_P {G : GG} {d k : Nat} {T : TT} {u : MU} : AW G (d + 1) mX2_init 0 [.ref k] [] T u 0 0 (QV T u) := by
  refine A_aloadn (pc := 0) dX2_init_0 rfl ?_
  refine A_obj (pc := 1) dX2_init_1 lX2_3 aobj_2 aobj_3 (Nat.le_of_ble_eq_true rfl) ?_
  exact A_vret (pc := 4) dX2_init_4 rfl ⟨rfl, rfl, rfl⟩
def us1 : MU := (upz (fun _ _ => 0) 0)
def us2 : MU := (upz us1 1)
def us3 : MU := (up2 (up2 (up2 (up2 (up2 (up2 (up2 (up2 (up2 (up2 (up2 (up2 (up2 (up2 (up2 (upz (upz (upz (upz (upz (upz (upz (upz (upz (upz (upz (upz (upz (up2 (up2 (up2 (up2 us2 1 0 3) 1 1 1) 1 2 0) 1 3 0) 2) 3) 4) 5) 6) 7) 8) 9) 10) 11) 12) 13) 14) 2 (Int32.toNatClampNeg 0) 2) 3 (Int32.toNatClampNeg 0) 2) 4 (Int32.toNatClampNeg 0) (-9)) 2 (Int32.toNatClampNeg 1) 2) 3 (Int32.toNatClampNeg 1) 2) 4 (Int32.toNatClampNeg 1) (-9)) 2 (Int32.toNatClampNeg 2) 2) 3 (Int32.toNatClampNeg 2) 2) 4 (Int32.toNatClampNeg 2) (-9)) 2 (Int32.toNatClampNeg 3) 2) 3 (Int32.toNatClampNeg 3) 2) 4 (Int32.toNatClampNeg 3) (-9)) 2 (Int32.toNatClampNeg 4) 2) 3 (Int32.toNatClampNeg 4) 2) 4 (Int32.toNatClampNeg 4) (-9))
set_option maxHeartbeats 4000000 in
set_option maxRecDepth 100000 in
theorem wctor_X3_init_1 {G : GG} {d : Nat} : AW G (d + 2) mX3_init 0 [.ref 1, .null] [] (sh0.take 2, gz (rz.drop 72)) us2 13 120 (QV (sh0.take 15, gz (rz.drop 59)) us3) := by
  refine A_aloadn (pc := 0) dX3_init_0 rfl ?_
  refine A_obj (pc := 1) dX3_init_1 lX3_3 aobj_2 aobj_3 (Nat.le_of_ble_eq_true rfl) ?_
  refine A_aloadn (pc := 4) dX3_init_4 rfl ?_
  refine A_iconst (pc := 5) 3 dX3_init_5 rfl ?_
  refine A_putI (pc := 6) dX3_init_6 gX3_9 rfl (Nat.le_of_ble_eq_true rfl) rfl rfl rfl rfl ?_
  refine A_aloadn (pc := 9) dX3_init_9 rfl ?_
  refine A_iconst (pc := 10) 1 dX3_init_10 rfl ?_
  refine A_putI (pc := 11) dX3_init_11 gX3_15 rfl (Nat.le_of_ble_eq_true rfl) rfl rfl rfl rfl ?_
  refine A_aloadn (pc := 14) dX3_init_14 rfl ?_
  refine A_iconst (pc := 15) 0 dX3_init_15 rfl ?_
  refine A_putI (pc := 16) dX3_init_16 gX3_18 rfl (Nat.le_of_ble_eq_true rfl) rfl rfl rfl rfl ?_
  refine A_aloadn (pc := 19) dX3_init_19 rfl ?_
  refine A_iconst (pc := 20) 0 dX3_init_20 rfl ?_
  refine A_putI (pc := 21) dX3_init_21 gX3_21 rfl (Nat.le_of_ble_eq_true rfl) rfl rfl rfl rfl ?_
  refine A_aloadn (pc := 24) dX3_init_24 rfl ?_
  refine A_iconst (pc := 25) 5 dX3_init_25 rfl ?_
  refine A_newa (pc := 26) 5 dX3_init_26 aw_arr (by decide) rfl (Nat.le_of_ble_eq_true rfl) (Nat.le_of_ble_eq_true rfl) ?_
  refine A_Tn 2 (sh' := sh0.take 3) rfl rfl (by decide) ?_
  refine A_putR (pc := 28) dX3_init_28 gX3_24 rfl (Nat.le_of_ble_eq_true rfl) ⟨rfl, rfl, rfl⟩ rfl (Nat.le_of_ble_eq_true rfl) (fun _ => rfl) (fun _ => rfl) ?_
  refine A_Te (T' := (sh0.take 3, gz (rz.drop 71))) rfl ?_
  refine A_aloadn (pc := 31) dX3_init_31 rfl ?_
  refine A_iconst (pc := 32) 5 dX3_init_32 rfl ?_
  refine A_newa (pc := 33) 5 dX3_init_33 aw_arr (by decide) rfl (Nat.le_of_ble_eq_true rfl) (Nat.le_of_ble_eq_true rfl) ?_
  refine A_Tn 3 (sh' := sh0.take 4) rfl rfl (by decide) ?_
  refine A_putR (pc := 35) dX3_init_35 gX3_28 rfl (Nat.le_of_ble_eq_true rfl) ⟨rfl, rfl, rfl⟩ rfl (Nat.le_of_ble_eq_true rfl) (fun _ => rfl) (fun _ => rfl) ?_
  refine A_Te (T' := (sh0.take 4, gz (rz.drop 70))) rfl ?_
  refine A_aloadn (pc := 38) dX3_init_38 rfl ?_
  refine A_iconst (pc := 39) 5 dX3_init_39 rfl ?_
  refine A_newa (pc := 40) 5 dX3_init_40 aw_arr (by decide) rfl (Nat.le_of_ble_eq_true rfl) (Nat.le_of_ble_eq_true rfl) ?_
  refine A_Tn 4 (sh' := sh0.take 5) rfl rfl (by decide) ?_
  refine A_putR (pc := 42) dX3_init_42 gX3_31 rfl (Nat.le_of_ble_eq_true rfl) ⟨rfl, rfl, rfl⟩ rfl (Nat.le_of_ble_eq_true rfl) (fun _ => rfl) (fun _ => rfl) ?_
  refine A_Te (T' := (sh0.take 5, gz (rz.drop 69))) rfl ?_
  refine A_aloadn (pc := 45) dX3_init_45 rfl ?_
  refine A_bipush (pc := 46) 7 dX3_init_46 rfl ?_
  refine A_anew (pc := 48) 7 dX3_init_48 cX3_34 (by decide) rfl (Nat.le_of_ble_eq_true rfl) (Nat.le_of_ble_eq_true rfl) ?_
  refine A_Tn 5 (sh' := sh0.take 6) rfl rfl (by decide) ?_
  refine A_putR (pc := 51) dX3_init_51 gX3_36 rfl (Nat.le_of_ble_eq_true rfl) ⟨rfl, rfl, rfl⟩ rfl (Nat.le_of_ble_eq_true rfl) (fun _ => rfl) (fun _ => rfl) ?_
  refine A_Te (T' := (sh0.take 6, gz (rz.drop 68))) rfl ?_
  refine A_aloadn (pc := 54) dX3_init_54 rfl ?_
  refine A_bipush (pc := 55) 7 dX3_init_55 rfl ?_
  refine A_newa (pc := 57) 7 dX3_init_57 aw_arr (by decide) rfl (Nat.le_of_ble_eq_true rfl) (Nat.le_of_ble_eq_true rfl) ?_
  refine A_Tn 6 (sh' := sh0.take 7) rfl rfl (by decide) ?_
  refine A_putR (pc := 59) dX3_init_59 gX3_40 rfl (Nat.le_of_ble_eq_true rfl) ⟨rfl, rfl, rfl⟩ rfl (Nat.le_of_ble_eq_true rfl) (fun _ => rfl) (fun _ => rfl) ?_
  refine A_Te (T' := (sh0.take 7, gz (rz.drop 67))) rfl ?_
  refine A_aloadn (pc := 62) dX3_init_62 rfl ?_
  refine A_bipush (pc := 63) 49 dX3_init_63 rfl ?_
  refine A_newa (pc := 65) 49 dX3_init_65 aw_arr (by decide) rfl (Nat.le_of_ble_eq_true rfl) (Nat.le_of_ble_eq_true rfl) ?_
  refine A_Tn 7 (sh' := sh0.take 8) rfl rfl (by decide) ?_
  refine A_putR (pc := 67) dX3_init_67 gX3_43 rfl (Nat.le_of_ble_eq_true rfl) ⟨rfl, rfl, rfl⟩ rfl (Nat.le_of_ble_eq_true rfl) (fun _ => rfl) (fun _ => rfl) ?_
  refine A_Te (T' := (sh0.take 8, gz (rz.drop 66))) rfl ?_
  refine A_iconst (pc := 70) 0 dX3_init_70 rfl ?_
  refine A_istn (pc := 71) (L2 := [.ref 1, .int 0]) dX3_init_71 (Nat.le_of_ble_eq_true rfl) rfl ?_
  refine A_iloadn (pc := 72) dX3_init_72 rfl ?_
  refine A_bipush (pc := 73) 7 dX3_init_73 rfl ?_
  refine A_icmp_ge (pc := 75) 97 dX3_init_75 (by decide) (fun c9 => absurd c9 (by decide)) (fun _ => ?_)
  refine A_aloadn (pc := 78) dX3_init_78 rfl ?_
  refine A_getR (pc := 79) dX3_init_79 gX3_36 rfl (Nat.le_of_ble_eq_true rfl) rfl (q := 5) rfl ?_
  refine A_iloadn (pc := 82) dX3_init_82 rfl ?_
  refine A_new (pc := 83) (ci := 2) (N := 6) dX3_init_83 kX2 cX3_34 tX2 oX2 (by decide +kernel) (Nat.le_of_ble_eq_true rfl) ?_
  refine A_Tn 8 (sh' := sh0.take 9) rfl rfl (by decide) ?_
  refine A_dup (pc := 86) dX3_init_86 ?_
  refine A_callI (mi2 := mX2_init) (kc0 := 0) (ks0 := 0) (kc := 6) (ks := 36) (As := []) (rest := [.ref 8, .int 0, .ref 5]) (pc := 87) dX3_init_87 lX3_46 fX2_init vX2_init rfl rfl (Nat.le_of_ble_eq_true rfl) rfl (Nat.le_of_ble_eq_true rfl) wctor_P ?_
  intro r9 T9 u9 hq9
  obtain ⟨rfl, rfl, rfl⟩ := hq9
  refine A_aast (pc := 90) dX3_init_90 (n := 7) (N := 6) rfl (by unfold vp_in; decide) rfl ?_
  refine A_Te (T' := (sh0.take 9, gz (rz.drop 65))) rfl ?_
  refine A_inc (pc := 91) (L2 := [.ref 1, .int 1]) 1 dX3_init_91 rfl (by decide) rfl ?_
  refine A_goto (pc := 94) 72 dX3_init_94 (by decide) ?_
  refine A_iloadn (pc := 72) dX3_init_72 rfl ?_
  refine A_bipush (pc := 73) 7 dX3_init_73 rfl ?_
  refine A_icmp_ge (pc := 75) 97 dX3_init_75 (by decide) (fun c9 => absurd c9 (by decide)) (fun _ => ?_)
  refine A_aloadn (pc := 78) dX3_init_78 rfl ?_
  refine A_getR (pc := 79) dX3_init_79 gX3_36 rfl (Nat.le_of_ble_eq_true rfl) rfl (q := 5) rfl ?_
  refine A_iloadn (pc := 82) dX3_init_82 rfl ?_
  refine A_new (pc := 83) (ci := 2) (N := 6) dX3_init_83 kX2 cX3_34 tX2 oX2 (by decide +kernel) (Nat.le_of_ble_eq_true rfl) ?_
  refine A_Tn 9 (sh' := sh0.take 10) rfl rfl (by decide) ?_
  refine A_dup (pc := 86) dX3_init_86 ?_
  refine A_callI (mi2 := mX2_init) (kc0 := 0) (ks0 := 0) (kc := 5) (ks := 30) (As := []) (rest := [.ref 9, .int 1, .ref 5]) (pc := 87) dX3_init_87 lX3_46 fX2_init vX2_init rfl rfl (Nat.le_of_ble_eq_true rfl) rfl (Nat.le_of_ble_eq_true rfl) wctor_P ?_
  intro r9 T9 u9 hq9
  obtain ⟨rfl, rfl, rfl⟩ := hq9
  refine A_aast (pc := 90) dX3_init_90 (n := 7) (N := 6) rfl (by unfold vp_in; decide) rfl ?_
  refine A_Te (T' := (sh0.take 10, gz (rz.drop 64))) rfl ?_
  refine A_inc (pc := 91) (L2 := [.ref 1, .int 2]) 2 dX3_init_91 rfl (by decide) rfl ?_
  refine A_goto (pc := 94) 72 dX3_init_94 (by decide) ?_
  refine A_iloadn (pc := 72) dX3_init_72 rfl ?_
  refine A_bipush (pc := 73) 7 dX3_init_73 rfl ?_
  refine A_icmp_ge (pc := 75) 97 dX3_init_75 (by decide) (fun c9 => absurd c9 (by decide)) (fun _ => ?_)
  refine A_aloadn (pc := 78) dX3_init_78 rfl ?_
  refine A_getR (pc := 79) dX3_init_79 gX3_36 rfl (Nat.le_of_ble_eq_true rfl) rfl (q := 5) rfl ?_
  refine A_iloadn (pc := 82) dX3_init_82 rfl ?_
  refine A_new (pc := 83) (ci := 2) (N := 6) dX3_init_83 kX2 cX3_34 tX2 oX2 (by decide +kernel) (Nat.le_of_ble_eq_true rfl) ?_
  refine A_Tn 10 (sh' := sh0.take 11) rfl rfl (by decide) ?_
  refine A_dup (pc := 86) dX3_init_86 ?_
  refine A_callI (mi2 := mX2_init) (kc0 := 0) (ks0 := 0) (kc := 4) (ks := 24) (As := []) (rest := [.ref 10, .int 2, .ref 5]) (pc := 87) dX3_init_87 lX3_46 fX2_init vX2_init rfl rfl (Nat.le_of_ble_eq_true rfl) rfl (Nat.le_of_ble_eq_true rfl) wctor_P ?_
  intro r9 T9 u9 hq9
  obtain ⟨rfl, rfl, rfl⟩ := hq9
  refine A_aast (pc := 90) dX3_init_90 (n := 7) (N := 6) rfl (by unfold vp_in; decide) rfl ?_
  refine A_Te (T' := (sh0.take 11, gz (rz.drop 63))) rfl ?_
  refine A_inc (pc := 91) (L2 := [.ref 1, .int 3]) 3 dX3_init_91 rfl (by decide) rfl ?_
  refine A_goto (pc := 94) 72 dX3_init_94 (by decide) ?_
  refine A_iloadn (pc := 72) dX3_init_72 rfl ?_
  refine A_bipush (pc := 73) 7 dX3_init_73 rfl ?_
  refine A_icmp_ge (pc := 75) 97 dX3_init_75 (by decide) (fun c9 => absurd c9 (by decide)) (fun _ => ?_)
  refine A_aloadn (pc := 78) dX3_init_78 rfl ?_
  refine A_getR (pc := 79) dX3_init_79 gX3_36 rfl (Nat.le_of_ble_eq_true rfl) rfl (q := 5) rfl ?_
  refine A_iloadn (pc := 82) dX3_init_82 rfl ?_
  refine A_new (pc := 83) (ci := 2) (N := 6) dX3_init_83 kX2 cX3_34 tX2 oX2 (by decide +kernel) (Nat.le_of_ble_eq_true rfl) ?_
  refine A_Tn 11 (sh' := sh0.take 12) rfl rfl (by decide) ?_
  refine A_dup (pc := 86) dX3_init_86 ?_
  refine A_callI (mi2 := mX2_init) (kc0 := 0) (ks0 := 0) (kc := 3) (ks := 18) (As := []) (rest := [.ref 11, .int 3, .ref 5]) (pc := 87) dX3_init_87 lX3_46 fX2_init vX2_init rfl rfl (Nat.le_of_ble_eq_true rfl) rfl (Nat.le_of_ble_eq_true rfl) wctor_P ?_
  intro r9 T9 u9 hq9
  obtain ⟨rfl, rfl, rfl⟩ := hq9
  refine A_aast (pc := 90) dX3_init_90 (n := 7) (N := 6) rfl (by unfold vp_in; decide) rfl ?_
  refine A_Te (T' := (sh0.take 12, gz (rz.drop 62))) rfl ?_
  refine A_inc (pc := 91) (L2 := [.ref 1, .int 4]) 4 dX3_init_91 rfl (by decide) rfl ?_
  refine A_goto (pc := 94) 72 dX3_init_94 (by decide) ?_
  refine A_iloadn (pc := 72) dX3_init_72 rfl ?_
  refine A_bipush (pc := 73) 7 dX3_init_73 rfl ?_
  refine A_icmp_ge (pc := 75) 97 dX3_init_75 (by decide) (fun c9 => absurd c9 (by decide)) (fun _ => ?_)
  refine A_aloadn (pc := 78) dX3_init_78 rfl ?_
  refine A_getR (pc := 79) dX3_init_79 gX3_36 rfl (Nat.le_of_ble_eq_true rfl) rfl (q := 5) rfl ?_
  refine A_iloadn (pc := 82) dX3_init_82 rfl ?_
  refine A_new (pc := 83) (ci := 2) (N := 6) dX3_init_83 kX2 cX3_34 tX2 oX2 (by decide +kernel) (Nat.le_of_ble_eq_true rfl) ?_
  refine A_Tn 12 (sh' := sh0.take 13) rfl rfl (by decide) ?_
  refine A_dup (pc := 86) dX3_init_86 ?_
  refine A_callI (mi2 := mX2_init) (kc0 := 0) (ks0 := 0) (kc := 2) (ks := 12) (As := []) (rest := [.ref 12, .int 4, .ref 5]) (pc := 87) dX3_init_87 lX3_46 fX2_init vX2_init rfl rfl (Nat.le_of_ble_eq_true rfl) rfl (Nat.le_of_ble_eq_true rfl) wctor_P ?_
  intro r9 T9 u9 hq9
  obtain ⟨rfl, rfl, rfl⟩ := hq9
  refine A_aast (pc := 90) dX3_init_90 (n := 7) (N := 6) rfl (by unfold vp_in; decide) rfl ?_
  refine A_Te (T' := (sh0.take 13, gz (rz.drop 61))) rfl ?_
  refine A_inc (pc := 91) (L2 := [.ref 1, .int 5]) 5 dX3_init_91 rfl (by decide) rfl ?_
  refine A_goto (pc := 94) 72 dX3_init_94 (by decide) ?_
  refine A_iloadn (pc := 72) dX3_init_72 rfl ?_
  refine A_bipush (pc := 73) 7 dX3_init_73 rfl ?_
  refine A_icmp_ge (pc := 75) 97 dX3_init_75 (by decide) (fun c9 => absurd c9 (by decide)) (fun _ => ?_)
  refine A_aloadn (pc := 78) dX3_init_78 rfl ?_
  refine A_getR (pc := 79) dX3_init_79 gX3_36 rfl (Nat.le_of_ble_eq_true rfl) rfl (q := 5) rfl ?_
  refine A_iloadn (pc := 82) dX3_init_82 rfl ?_
  refine A_new (pc := 83) (ci := 2) (N := 6) dX3_init_83 kX2 cX3_34 tX2 oX2 (by decide +kernel) (Nat.le_of_ble_eq_true rfl) ?_
  refine A_Tn 13 (sh' := sh0.take 14) rfl rfl (by decide) ?_
  refine A_dup (pc := 86) dX3_init_86 ?_
  refine A_callI (mi2 := mX2_init) (kc0 := 0) (ks0 := 0) (kc := 1) (ks := 6) (As := []) (rest := [.ref 13, .int 5, .ref 5]) (pc := 87) dX3_init_87 lX3_46 fX2_init vX2_init rfl rfl (Nat.le_of_ble_eq_true rfl) rfl (Nat.le_of_ble_eq_true rfl) wctor_P ?_
  intro r9 T9 u9 hq9
  obtain ⟨rfl, rfl, rfl⟩ := hq9
  refine A_aast (pc := 90) dX3_init_90 (n := 7) (N := 6) rfl (by unfold vp_in; decide) rfl ?_
  refine A_Te (T' := (sh0.take 14, gz (rz.drop 60))) rfl ?_
  refine A_inc (pc := 91) (L2 := [.ref 1, .int 6]) 6 dX3_init_91 rfl (by decide) rfl ?_
  refine A_goto (pc := 94) 72 dX3_init_94 (by decide) ?_
  refine A_iloadn (pc := 72) dX3_init_72 rfl ?_
  refine A_bipush (pc := 73) 7 dX3_init_73 rfl ?_
  refine A_icmp_ge (pc := 75) 97 dX3_init_75 (by decide) (fun c9 => absurd c9 (by decide)) (fun _ => ?_)
  refine A_aloadn (pc := 78) dX3_init_78 rfl ?_
  refine A_getR (pc := 79) dX3_init_79 gX3_36 rfl (Nat.le_of_ble_eq_true rfl) rfl (q := 5) rfl ?_
  refine A_iloadn (pc := 82) dX3_init_82 rfl ?_
  refine A_new (pc := 83) (ci := 2) (N := 6) dX3_init_83 kX2 cX3_34 tX2 oX2 (by decide +kernel) (Nat.le_of_ble_eq_true rfl) ?_
  refine A_Tn 14 (sh' := sh0.take 15) rfl rfl (by decide) ?_
  refine A_dup (pc := 86) dX3_init_86 ?_
  refine A_callI (mi2 := mX2_init) (kc0 := 0) (ks0 := 0) (kc := 0) (ks := 0) (As := []) (rest := [.ref 14, .int 6, .ref 5]) (pc := 87) dX3_init_87 lX3_46 fX2_init vX2_init rfl rfl (Nat.le_of_ble_eq_true rfl) rfl (Nat.le_of_ble_eq_true rfl) wctor_P ?_
  intro r9 T9 u9 hq9
  obtain ⟨rfl, rfl, rfl⟩ := hq9
  refine A_aast (pc := 90) dX3_init_90 (n := 7) (N := 6) rfl (by unfold vp_in; decide) rfl ?_
  refine A_Te (T' := (sh0.take 15, gz (rz.drop 59))) rfl ?_
  refine A_inc (pc := 91) (L2 := [.ref 1, .int 7]) 7 dX3_init_91 rfl (by decide) rfl ?_
  refine A_goto (pc := 94) 72 dX3_init_94 (by decide) ?_
  refine A_iloadn (pc := 72) dX3_init_72 rfl ?_
  refine A_bipush (pc := 73) 7 dX3_init_73 rfl ?_
  refine A_icmp_ge (pc := 75) 97 dX3_init_75 (by decide) (fun _ => ?_) (fun c9 => absurd (by decide) c9)
  refine A_iconst (pc := 97) 0 dX3_init_97 rfl ?_
  refine A_istn (pc := 98) (L2 := [.ref 1, .int 0]) dX3_init_98 (Nat.le_of_ble_eq_true rfl) rfl ?_
  refine A_iloadn (pc := 99) dX3_init_99 rfl ?_
  refine A_iconst (pc := 100) 5 dX3_init_100 rfl ?_
  refine A_icmp_ge (pc := 101) 132 dX3_init_101 (by decide) (fun c9 => absurd c9 (by decide)) (fun _ => ?_)
  refine A_aloadn (pc := 104) dX3_init_104 rfl ?_
  refine A_getR (pc := 105) dX3_init_105 gX3_24 rfl (Nat.le_of_ble_eq_true rfl) rfl (q := 2) rfl ?_
  refine A_iloadn (pc := 108) dX3_init_108 rfl ?_
  refine A_iconst (pc := 109) 2 dX3_init_109 rfl ?_
  refine A_iast (pc := 110) dX3_init_110 (n := 5) rfl (by unfold vp_in; decide) ?_
  refine A_aloadn (pc := 111) dX3_init_111 rfl ?_
  refine A_getR (pc := 112) dX3_init_112 gX3_28 rfl (Nat.le_of_ble_eq_true rfl) rfl (q := 3) rfl ?_
  refine A_iloadn (pc := 115) dX3_init_115 rfl ?_
  refine A_iconst (pc := 116) 2 dX3_init_116 rfl ?_
  refine A_iast (pc := 117) dX3_init_117 (n := 5) rfl (by unfold vp_in; decide) ?_
  refine A_aloadn (pc := 118) dX3_init_118 rfl ?_
  refine A_getR (pc := 119) dX3_init_119 gX3_31 rfl (Nat.le_of_ble_eq_true rfl) rfl (q := 4) rfl ?_
  refine A_iloadn (pc := 122) dX3_init_122 rfl ?_
  refine A_bipush (pc := 123) (-9) dX3_init_123 rfl ?_
  refine A_iast (pc := 125) dX3_init_125 (n := 5) rfl (by unfold vp_in; decide) ?_
  refine A_inc (pc := 126) (L2 := [.ref 1, .int 1]) 1 dX3_init_126 rfl (by decide) rfl ?_
  refine A_goto (pc := 129) 99 dX3_init_129 (by decide) ?_
  refine A_iloadn (pc := 99) dX3_init_99 rfl ?_
  refine A_iconst (pc := 100) 5 dX3_init_100 rfl ?_
  refine A_icmp_ge (pc := 101) 132 dX3_init_101 (by decide) (fun c9 => absurd c9 (by decide)) (fun _ => ?_)
  refine A_aloadn (pc := 104) dX3_init_104 rfl ?_
  refine A_getR (pc := 105) dX3_init_105 gX3_24 rfl (Nat.le_of_ble_eq_true rfl) rfl (q := 2) rfl ?_
  refine A_iloadn (pc := 108) dX3_init_108 rfl ?_
  refine A_iconst (pc := 109) 2 dX3_init_109 rfl ?_
  refine A_iast (pc := 110) dX3_init_110 (n := 5) rfl (by unfold vp_in; decide) ?_
  refine A_aloadn (pc := 111) dX3_init_111 rfl ?_
  refine A_getR (pc := 112) dX3_init_112 gX3_28 rfl (Nat.le_of_ble_eq_true rfl) rfl (q := 3) rfl ?_
  refine A_iloadn (pc := 115) dX3_init_115 rfl ?_
  refine A_iconst (pc := 116) 2 dX3_init_116 rfl ?_
  refine A_iast (pc := 117) dX3_init_117 (n := 5) rfl (by unfold vp_in; decide) ?_
  refine A_aloadn (pc := 118) dX3_init_118 rfl ?_
  refine A_getR (pc := 119) dX3_init_119 gX3_31 rfl (Nat.le_of_ble_eq_true rfl) rfl (q := 4) rfl ?_
  refine A_iloadn (pc := 122) dX3_init_122 rfl ?_
  refine A_bipush (pc := 123) (-9) dX3_init_123 rfl ?_
  refine A_iast (pc := 125) dX3_init_125 (n := 5) rfl (by unfold vp_in; decide) ?_
  refine A_inc (pc := 126) (L2 := [.ref 1, .int 2]) 2 dX3_init_126 rfl (by decide) rfl ?_
  refine A_goto (pc := 129) 99 dX3_init_129 (by decide) ?_
  refine A_iloadn (pc := 99) dX3_init_99 rfl ?_
  refine A_iconst (pc := 100) 5 dX3_init_100 rfl ?_
  refine A_icmp_ge (pc := 101) 132 dX3_init_101 (by decide) (fun c9 => absurd c9 (by decide)) (fun _ => ?_)
  refine A_aloadn (pc := 104) dX3_init_104 rfl ?_
  refine A_getR (pc := 105) dX3_init_105 gX3_24 rfl (Nat.le_of_ble_eq_true rfl) rfl (q := 2) rfl ?_
  refine A_iloadn (pc := 108) dX3_init_108 rfl ?_
  refine A_iconst (pc := 109) 2 dX3_init_109 rfl ?_
  refine A_iast (pc := 110) dX3_init_110 (n := 5) rfl (by unfold vp_in; decide) ?_
  refine A_aloadn (pc := 111) dX3_init_111 rfl ?_
  refine A_getR (pc := 112) dX3_init_112 gX3_28 rfl (Nat.le_of_ble_eq_true rfl) rfl (q := 3) rfl ?_
  refine A_iloadn (pc := 115) dX3_init_115 rfl ?_
  refine A_iconst (pc := 116) 2 dX3_init_116 rfl ?_
  refine A_iast (pc := 117) dX3_init_117 (n := 5) rfl (by unfold vp_in; decide) ?_
  refine A_aloadn (pc := 118) dX3_init_118 rfl ?_
  refine A_getR (pc := 119) dX3_init_119 gX3_31 rfl (Nat.le_of_ble_eq_true rfl) rfl (q := 4) rfl ?_
  refine A_iloadn (pc := 122) dX3_init_122 rfl ?_
  refine A_bipush (pc := 123) (-9) dX3_init_123 rfl ?_
  refine A_iast (pc := 125) dX3_init_125 (n := 5) rfl (by unfold vp_in; decide) ?_
  refine A_inc (pc := 126) (L2 := [.ref 1, .int 3]) 3 dX3_init_126 rfl (by decide) rfl ?_
  refine A_goto (pc := 129) 99 dX3_init_129 (by decide) ?_
  refine A_iloadn (pc := 99) dX3_init_99 rfl ?_
  refine A_iconst (pc := 100) 5 dX3_init_100 rfl ?_
  refine A_icmp_ge (pc := 101) 132 dX3_init_101 (by decide) (fun c9 => absurd c9 (by decide)) (fun _ => ?_)
  refine A_aloadn (pc := 104) dX3_init_104 rfl ?_
  refine A_getR (pc := 105) dX3_init_105 gX3_24 rfl (Nat.le_of_ble_eq_true rfl) rfl (q := 2) rfl ?_
  refine A_iloadn (pc := 108) dX3_init_108 rfl ?_
  refine A_iconst (pc := 109) 2 dX3_init_109 rfl ?_
  refine A_iast (pc := 110) dX3_init_110 (n := 5) rfl (by unfold vp_in; decide) ?_
  refine A_aloadn (pc := 111) dX3_init_111 rfl ?_
  refine A_getR (pc := 112) dX3_init_112 gX3_28 rfl (Nat.le_of_ble_eq_true rfl) rfl (q := 3) rfl ?_
  refine A_iloadn (pc := 115) dX3_init_115 rfl ?_
  refine A_iconst (pc := 116) 2 dX3_init_116 rfl ?_
  refine A_iast (pc := 117) dX3_init_117 (n := 5) rfl (by unfold vp_in; decide) ?_
  refine A_aloadn (pc := 118) dX3_init_118 rfl ?_
  refine A_getR (pc := 119) dX3_init_119 gX3_31 rfl (Nat.le_of_ble_eq_true rfl) rfl (q := 4) rfl ?_
  refine A_iloadn (pc := 122) dX3_init_122 rfl ?_
  refine A_bipush (pc := 123) (-9) dX3_init_123 rfl ?_
  refine A_iast (pc := 125) dX3_init_125 (n := 5) rfl (by unfold vp_in; decide) ?_
  refine A_inc (pc := 126) (L2 := [.ref 1, .int 4]) 4 dX3_init_126 rfl (by decide) rfl ?_
  refine A_goto (pc := 129) 99 dX3_init_129 (by decide) ?_
  refine A_iloadn (pc := 99) dX3_init_99 rfl ?_
  refine A_iconst (pc := 100) 5 dX3_init_100 rfl ?_
  refine A_icmp_ge (pc := 101) 132 dX3_init_101 (by decide) (fun c9 => absurd c9 (by decide)) (fun _ => ?_)
  refine A_aloadn (pc := 104) dX3_init_104 rfl ?_
  refine A_getR (pc := 105) dX3_init_105 gX3_24 rfl (Nat.le_of_ble_eq_true rfl) rfl (q := 2) rfl ?_
  refine A_iloadn (pc := 108) dX3_init_108 rfl ?_
  refine A_iconst (pc := 109) 2 dX3_init_109 rfl ?_
  refine A_iast (pc := 110) dX3_init_110 (n := 5) rfl (by unfold vp_in; decide) ?_
  refine A_aloadn (pc := 111) dX3_init_111 rfl ?_
  refine A_getR (pc := 112) dX3_init_112 gX3_28 rfl (Nat.le_of_ble_eq_true rfl) rfl (q := 3) rfl ?_
  refine A_iloadn (pc := 115) dX3_init_115 rfl ?_
  refine A_iconst (pc := 116) 2 dX3_init_116 rfl ?_
  refine A_iast (pc := 117) dX3_init_117 (n := 5) rfl (by unfold vp_in; decide) ?_
  refine A_aloadn (pc := 118) dX3_init_118 rfl ?_
  refine A_getR (pc := 119) dX3_init_119 gX3_31 rfl (Nat.le_of_ble_eq_true rfl) rfl (q := 4) rfl ?_
  refine A_iloadn (pc := 122) dX3_init_122 rfl ?_
  refine A_bipush (pc := 123) (-9) dX3_init_123 rfl ?_
  refine A_iast (pc := 125) dX3_init_125 (n := 5) rfl (by unfold vp_in; decide) ?_
  refine A_inc (pc := 126) (L2 := [.ref 1, .int 5]) 5 dX3_init_126 rfl (by decide) rfl ?_
  refine A_goto (pc := 129) 99 dX3_init_129 (by decide) ?_
  refine A_iloadn (pc := 99) dX3_init_99 rfl ?_
  refine A_iconst (pc := 100) 5 dX3_init_100 rfl ?_
  refine A_icmp_ge (pc := 101) 132 dX3_init_101 (by decide) (fun _ => ?_) (fun c9 => absurd (by decide) c9)
  exact A_vret (pc := 132) dX3_init_132 rfl ⟨rfl, rfl, rfl⟩
def us4 : MU := (upz us3 15)
def us5 : MU := (up2 (up2 (up2 (up2 (up2 (up2 (up2 (up2 (up2 (up2 (up2 (up2 (up2 (up2 (up2 (upz (upz (upz (upz (upz (upz (upz (upz (upz (upz (upz (upz (upz (up2 (up2 (up2 (up2 us4 15 0 3) 15 1 1) 15 2 0) 15 3 0) 16) 17) 18) 19) 20) 21) 22) 23) 24) 25) 26) 27) 28) 16 (Int32.toNatClampNeg 0) 2) 17 (Int32.toNatClampNeg 0) 2) 18 (Int32.toNatClampNeg 0) (-9)) 16 (Int32.toNatClampNeg 1) 2) 17 (Int32.toNatClampNeg 1) 2) 18 (Int32.toNatClampNeg 1) (-9)) 16 (Int32.toNatClampNeg 2) 2) 17 (Int32.toNatClampNeg 2) 2) 18 (Int32.toNatClampNeg 2) (-9)) 16 (Int32.toNatClampNeg 3) 2) 17 (Int32.toNatClampNeg 3) 2) 18 (Int32.toNatClampNeg 3) (-9)) 16 (Int32.toNatClampNeg 4) 2) 17 (Int32.toNatClampNeg 4) 2) 18 (Int32.toNatClampNeg 4) (-9))
set_option maxHeartbeats 4000000 in
set_option maxRecDepth 100000 in
theorem wctor_X3_init_15 {G : GG} {d : Nat} : AW G (d + 2) mX3_init 0 [.ref 15, .null] [] (sh0.take 16, gz (rz.drop 58)) us4 13 120 (QV (sh0.take 29, gz (rz.drop 45)) us5) := by
  refine A_aloadn (pc := 0) dX3_init_0 rfl ?_
  refine A_obj (pc := 1) dX3_init_1 lX3_3 aobj_2 aobj_3 (Nat.le_of_ble_eq_true rfl) ?_
  refine A_aloadn (pc := 4) dX3_init_4 rfl ?_
  refine A_iconst (pc := 5) 3 dX3_init_5 rfl ?_
  refine A_putI (pc := 6) dX3_init_6 gX3_9 rfl (Nat.le_of_ble_eq_true rfl) rfl rfl rfl rfl ?_
  refine A_aloadn (pc := 9) dX3_init_9 rfl ?_
  refine A_iconst (pc := 10) 1 dX3_init_10 rfl ?_
  refine A_putI (pc := 11) dX3_init_11 gX3_15 rfl (Nat.le_of_ble_eq_true rfl) rfl rfl rfl rfl ?_
  refine A_aloadn (pc := 14) dX3_init_14 rfl ?_
  refine A_iconst (pc := 15) 0 dX3_init_15 rfl ?_
  refine A_putI (pc := 16) dX3_init_16 gX3_18 rfl (Nat.le_of_ble_eq_true rfl) rfl rfl rfl rfl ?_
  refine A_aloadn (pc := 19) dX3_init_19 rfl ?_
  refine A_iconst (pc := 20) 0 dX3_init_20 rfl ?_
  refine A_putI (pc := 21) dX3_init_21 gX3_21 rfl (Nat.le_of_ble_eq_true rfl) rfl rfl rfl rfl ?_
  refine A_aloadn (pc := 24) dX3_init_24 rfl ?_
  refine A_iconst (pc := 25) 5 dX3_init_25 rfl ?_
  refine A_newa (pc := 26) 5 dX3_init_26 aw_arr (by decide) rfl (Nat.le_of_ble_eq_true rfl) (Nat.le_of_ble_eq_true rfl) ?_
  refine A_Tn 16 (sh' := sh0.take 17) rfl rfl (by decide) ?_
  refine A_putR (pc := 28) dX3_init_28 gX3_24 rfl (Nat.le_of_ble_eq_true rfl) ⟨rfl, rfl, rfl⟩ rfl (Nat.le_of_ble_eq_true rfl) (fun _ => rfl) (fun _ => rfl) ?_
  refine A_Te (T' := (sh0.take 17, gz (rz.drop 57))) rfl ?_
  refine A_aloadn (pc := 31) dX3_init_31 rfl ?_
  refine A_iconst (pc := 32) 5 dX3_init_32 rfl ?_
  refine A_newa (pc := 33) 5 dX3_init_33 aw_arr (by decide) rfl (Nat.le_of_ble_eq_true rfl) (Nat.le_of_ble_eq_true rfl) ?_
  refine A_Tn 17 (sh' := sh0.take 18) rfl rfl (by decide) ?_
  refine A_putR (pc := 35) dX3_init_35 gX3_28 rfl (Nat.le_of_ble_eq_true rfl) ⟨rfl, rfl, rfl⟩ rfl (Nat.le_of_ble_eq_true rfl) (fun _ => rfl) (fun _ => rfl) ?_
  refine A_Te (T' := (sh0.take 18, gz (rz.drop 56))) rfl ?_
  refine A_aloadn (pc := 38) dX3_init_38 rfl ?_
  refine A_iconst (pc := 39) 5 dX3_init_39 rfl ?_
  refine A_newa (pc := 40) 5 dX3_init_40 aw_arr (by decide) rfl (Nat.le_of_ble_eq_true rfl) (Nat.le_of_ble_eq_true rfl) ?_
  refine A_Tn 18 (sh' := sh0.take 19) rfl rfl (by decide) ?_
  refine A_putR (pc := 42) dX3_init_42 gX3_31 rfl (Nat.le_of_ble_eq_true rfl) ⟨rfl, rfl, rfl⟩ rfl (Nat.le_of_ble_eq_true rfl) (fun _ => rfl) (fun _ => rfl) ?_
  refine A_Te (T' := (sh0.take 19, gz (rz.drop 55))) rfl ?_
  refine A_aloadn (pc := 45) dX3_init_45 rfl ?_
  refine A_bipush (pc := 46) 7 dX3_init_46 rfl ?_
  refine A_anew (pc := 48) 7 dX3_init_48 cX3_34 (by decide) rfl (Nat.le_of_ble_eq_true rfl) (Nat.le_of_ble_eq_true rfl) ?_
  refine A_Tn 19 (sh' := sh0.take 20) rfl rfl (by decide) ?_
  refine A_putR (pc := 51) dX3_init_51 gX3_36 rfl (Nat.le_of_ble_eq_true rfl) ⟨rfl, rfl, rfl⟩ rfl (Nat.le_of_ble_eq_true rfl) (fun _ => rfl) (fun _ => rfl) ?_
  refine A_Te (T' := (sh0.take 20, gz (rz.drop 54))) rfl ?_
  refine A_aloadn (pc := 54) dX3_init_54 rfl ?_
  refine A_bipush (pc := 55) 7 dX3_init_55 rfl ?_
  refine A_newa (pc := 57) 7 dX3_init_57 aw_arr (by decide) rfl (Nat.le_of_ble_eq_true rfl) (Nat.le_of_ble_eq_true rfl) ?_
  refine A_Tn 20 (sh' := sh0.take 21) rfl rfl (by decide) ?_
  refine A_putR (pc := 59) dX3_init_59 gX3_40 rfl (Nat.le_of_ble_eq_true rfl) ⟨rfl, rfl, rfl⟩ rfl (Nat.le_of_ble_eq_true rfl) (fun _ => rfl) (fun _ => rfl) ?_
  refine A_Te (T' := (sh0.take 21, gz (rz.drop 53))) rfl ?_
  refine A_aloadn (pc := 62) dX3_init_62 rfl ?_
  refine A_bipush (pc := 63) 49 dX3_init_63 rfl ?_
  refine A_newa (pc := 65) 49 dX3_init_65 aw_arr (by decide) rfl (Nat.le_of_ble_eq_true rfl) (Nat.le_of_ble_eq_true rfl) ?_
  refine A_Tn 21 (sh' := sh0.take 22) rfl rfl (by decide) ?_
  refine A_putR (pc := 67) dX3_init_67 gX3_43 rfl (Nat.le_of_ble_eq_true rfl) ⟨rfl, rfl, rfl⟩ rfl (Nat.le_of_ble_eq_true rfl) (fun _ => rfl) (fun _ => rfl) ?_
  refine A_Te (T' := (sh0.take 22, gz (rz.drop 52))) rfl ?_
  refine A_iconst (pc := 70) 0 dX3_init_70 rfl ?_
  refine A_istn (pc := 71) (L2 := [.ref 15, .int 0]) dX3_init_71 (Nat.le_of_ble_eq_true rfl) rfl ?_
  refine A_iloadn (pc := 72) dX3_init_72 rfl ?_
  refine A_bipush (pc := 73) 7 dX3_init_73 rfl ?_
  refine A_icmp_ge (pc := 75) 97 dX3_init_75 (by decide) (fun c9 => absurd c9 (by decide)) (fun _ => ?_)
  refine A_aloadn (pc := 78) dX3_init_78 rfl ?_
  refine A_getR (pc := 79) dX3_init_79 gX3_36 rfl (Nat.le_of_ble_eq_true rfl) rfl (q := 19) rfl ?_
  refine A_iloadn (pc := 82) dX3_init_82 rfl ?_
  refine A_new (pc := 83) (ci := 2) (N := 6) dX3_init_83 kX2 cX3_34 tX2 oX2 (by decide +kernel) (Nat.le_of_ble_eq_true rfl) ?_
  refine A_Tn 22 (sh' := sh0.take 23) rfl rfl (by decide) ?_
  refine A_dup (pc := 86) dX3_init_86 ?_
  refine A_callI (mi2 := mX2_init) (kc0 := 0) (ks0 := 0) (kc := 6) (ks := 36) (As := []) (rest := [.ref 22, .int 0, .ref 19]) (pc := 87) dX3_init_87 lX3_46 fX2_init vX2_init rfl rfl (Nat.le_of_ble_eq_true rfl) rfl (Nat.le_of_ble_eq_true rfl) wctor_P ?_
  intro r9 T9 u9 hq9
  obtain ⟨rfl, rfl, rfl⟩ := hq9
  refine A_aast (pc := 90) dX3_init_90 (n := 7) (N := 6) rfl (by unfold vp_in; decide) rfl ?_
  refine A_Te (T' := (sh0.take 23, gz (rz.drop 51))) rfl ?_
  refine A_inc (pc := 91) (L2 := [.ref 15, .int 1]) 1 dX3_init_91 rfl (by decide) rfl ?_
  refine A_goto (pc := 94) 72 dX3_init_94 (by decide) ?_
  refine A_iloadn (pc := 72) dX3_init_72 rfl ?_
  refine A_bipush (pc := 73) 7 dX3_init_73 rfl ?_
  refine A_icmp_ge (pc := 75) 97 dX3_init_75 (by decide) (fun c9 => absurd c9 (by decide)) (fun _ => ?_)
  refine A_aloadn (pc := 78) dX3_init_78 rfl ?_
  refine A_getR (pc := 79) dX3_init_79 gX3_36 rfl (Nat.le_of_ble_eq_true rfl) rfl (q := 19) rfl ?_
  refine A_iloadn (pc := 82) dX3_init_82 rfl ?_
  refine A_new (pc := 83) (ci := 2) (N := 6) dX3_init_83 kX2 cX3_34 tX2 oX2 (by decide +kernel) (Nat.le_of_ble_eq_true rfl) ?_
  refine A_Tn 23 (sh' := sh0.take 24) rfl rfl (by decide) ?_
  refine A_dup (pc := 86) dX3_init_86 ?_
  refine A_callI (mi2 := mX2_init) (kc0 := 0) (ks0 := 0) (kc := 5) (ks := 30) (As := []) (rest := [.ref 23, .int 1, .ref 19]) (pc := 87) dX3_init_87 lX3_46 fX2_init vX2_init rfl rfl (Nat.le_of_ble_eq_true rfl) rfl (Nat.le_of_ble_eq_true rfl) wctor_P ?_
  intro r9 T9 u9 hq9
  obtain ⟨rfl, rfl, rfl⟩ := hq9
  refine A_aast (pc := 90) dX3_init_90 (n := 7) (N := 6) rfl (by unfold vp_in; decide) rfl ?_
  refine A_Te (T' := (sh0.take 24, gz (rz.drop 50))) rfl ?_
  refine A_inc (pc := 91) (L2 := [.ref 15, .int 2]) 2 dX3_init_91 rfl (by decide) rfl ?_
  refine A_goto (pc := 94) 72 dX3_init_94 (by decide) ?_
  refine A_iloadn (pc := 72) dX3_init_72 rfl ?_
  refine A_bipush (pc := 73) 7 dX3_init_73 rfl ?_
  refine A_icmp_ge (pc := 75) 97 dX3_init_75 (by decide) (fun c9 => absurd c9 (by decide)) (fun _ => ?_)
  refine A_aloadn (pc := 78) dX3_init_78 rfl ?_
  refine A_getR (pc := 79) dX3_init_79 gX3_36 rfl (Nat.le_of_ble_eq_true rfl) rfl (q := 19) rfl ?_
  refine A_iloadn (pc := 82) dX3_init_82 rfl ?_
  refine A_new (pc := 83) (ci := 2) (N := 6) dX3_init_83 kX2 cX3_34 tX2 oX2 (by decide +kernel) (Nat.le_of_ble_eq_true rfl) ?_
  refine A_Tn 24 (sh' := sh0.take 25) rfl rfl (by decide) ?_
  refine A_dup (pc := 86) dX3_init_86 ?_
  refine A_callI (mi2 := mX2_init) (kc0 := 0) (ks0 := 0) (kc := 4) (ks := 24) (As := []) (rest := [.ref 24, .int 2, .ref 19]) (pc := 87) dX3_init_87 lX3_46 fX2_init vX2_init rfl rfl (Nat.le_of_ble_eq_true rfl) rfl (Nat.le_of_ble_eq_true rfl) wctor_P ?_
  intro r9 T9 u9 hq9
  obtain ⟨rfl, rfl, rfl⟩ := hq9
  refine A_aast (pc := 90) dX3_init_90 (n := 7) (N := 6) rfl (by unfold vp_in; decide) rfl ?_
  refine A_Te (T' := (sh0.take 25, gz (rz.drop 49))) rfl ?_
  refine A_inc (pc := 91) (L2 := [.ref 15, .int 3]) 3 dX3_init_91 rfl (by decide) rfl ?_
  refine A_goto (pc := 94) 72 dX3_init_94 (by decide) ?_
  refine A_iloadn (pc := 72) dX3_init_72 rfl ?_
  refine A_bipush (pc := 73) 7 dX3_init_73 rfl ?_
  refine A_icmp_ge (pc := 75) 97 dX3_init_75 (by decide) (fun c9 => absurd c9 (by decide)) (fun _ => ?_)
  refine A_aloadn (pc := 78) dX3_init_78 rfl ?_
  refine A_getR (pc := 79) dX3_init_79 gX3_36 rfl (Nat.le_of_ble_eq_true rfl) rfl (q := 19) rfl ?_
  refine A_iloadn (pc := 82) dX3_init_82 rfl ?_
  refine A_new (pc := 83) (ci := 2) (N := 6) dX3_init_83 kX2 cX3_34 tX2 oX2 (by decide +kernel) (Nat.le_of_ble_eq_true rfl) ?_
  refine A_Tn 25 (sh' := sh0.take 26) rfl rfl (by decide) ?_
  refine A_dup (pc := 86) dX3_init_86 ?_
  refine A_callI (mi2 := mX2_init) (kc0 := 0) (ks0 := 0) (kc := 3) (ks := 18) (As := []) (rest := [.ref 25, .int 3, .ref 19]) (pc := 87) dX3_init_87 lX3_46 fX2_init vX2_init rfl rfl (Nat.le_of_ble_eq_true rfl) rfl (Nat.le_of_ble_eq_true rfl) wctor_P ?_
  intro r9 T9 u9 hq9
  obtain ⟨rfl, rfl, rfl⟩ := hq9
  refine A_aast (pc := 90) dX3_init_90 (n := 7) (N := 6) rfl (by unfold vp_in; decide) rfl ?_
  refine A_Te (T' := (sh0.take 26, gz (rz.drop 48))) rfl ?_
  refine A_inc (pc := 91) (L2 := [.ref 15, .int 4]) 4 dX3_init_91 rfl (by decide) rfl ?_
  refine A_goto (pc := 94) 72 dX3_init_94 (by decide) ?_
  refine A_iloadn (pc := 72) dX3_init_72 rfl ?_
  refine A_bipush (pc := 73) 7 dX3_init_73 rfl ?_
  refine A_icmp_ge (pc := 75) 97 dX3_init_75 (by decide) (fun c9 => absurd c9 (by decide)) (fun _ => ?_)
  refine A_aloadn (pc := 78) dX3_init_78 rfl ?_
  refine A_getR (pc := 79) dX3_init_79 gX3_36 rfl (Nat.le_of_ble_eq_true rfl) rfl (q := 19) rfl ?_
  refine A_iloadn (pc := 82) dX3_init_82 rfl ?_
  refine A_new (pc := 83) (ci := 2) (N := 6) dX3_init_83 kX2 cX3_34 tX2 oX2 (by decide +kernel) (Nat.le_of_ble_eq_true rfl) ?_
  refine A_Tn 26 (sh' := sh0.take 27) rfl rfl (by decide) ?_
  refine A_dup (pc := 86) dX3_init_86 ?_
  refine A_callI (mi2 := mX2_init) (kc0 := 0) (ks0 := 0) (kc := 2) (ks := 12) (As := []) (rest := [.ref 26, .int 4, .ref 19]) (pc := 87) dX3_init_87 lX3_46 fX2_init vX2_init rfl rfl (Nat.le_of_ble_eq_true rfl) rfl (Nat.le_of_ble_eq_true rfl) wctor_P ?_
  intro r9 T9 u9 hq9
  obtain ⟨rfl, rfl, rfl⟩ := hq9
  refine A_aast (pc := 90) dX3_init_90 (n := 7) (N := 6) rfl (by unfold vp_in; decide) rfl ?_
  refine A_Te (T' := (sh0.take 27, gz (rz.drop 47))) rfl ?_
  refine A_inc (pc := 91) (L2 := [.ref 15, .int 5]) 5 dX3_init_91 rfl (by decide) rfl ?_
  refine A_goto (pc := 94) 72 dX3_init_94 (by decide) ?_
  refine A_iloadn (pc := 72) dX3_init_72 rfl ?_
  refine A_bipush (pc := 73) 7 dX3_init_73 rfl ?_
  refine A_icmp_ge (pc := 75) 97 dX3_init_75 (by decide) (fun c9 => absurd c9 (by decide)) (fun _ => ?_)
  refine A_aloadn (pc := 78) dX3_init_78 rfl ?_
  refine A_getR (pc := 79) dX3_init_79 gX3_36 rfl (Nat.le_of_ble_eq_true rfl) rfl (q := 19) rfl ?_
  refine A_iloadn (pc := 82) dX3_init_82 rfl ?_
  refine A_new (pc := 83) (ci := 2) (N := 6) dX3_init_83 kX2 cX3_34 tX2 oX2 (by decide +kernel) (Nat.le_of_ble_eq_true rfl) ?_
  refine A_Tn 27 (sh' := sh0.take 28) rfl rfl (by decide) ?_
  refine A_dup (pc := 86) dX3_init_86 ?_
  refine A_callI (mi2 := mX2_init) (kc0 := 0) (ks0 := 0) (kc := 1) (ks := 6) (As := []) (rest := [.ref 27, .int 5, .ref 19]) (pc := 87) dX3_init_87 lX3_46 fX2_init vX2_init rfl rfl (Nat.le_of_ble_eq_true rfl) rfl (Nat.le_of_ble_eq_true rfl) wctor_P ?_
  intro r9 T9 u9 hq9
  obtain ⟨rfl, rfl, rfl⟩ := hq9
  refine A_aast (pc := 90) dX3_init_90 (n := 7) (N := 6) rfl (by unfold vp_in; decide) rfl ?_
  refine A_Te (T' := (sh0.take 28, gz (rz.drop 46))) rfl ?_
  refine A_inc (pc := 91) (L2 := [.ref 15, .int 6]) 6 dX3_init_91 rfl (by decide) rfl ?_
  refine A_goto (pc := 94) 72 dX3_init_94 (by decide) ?_
  refine A_iloadn (pc := 72) dX3_init_72 rfl ?_
  refine A_bipush (pc := 73) 7 dX3_init_73 rfl ?_
  refine A_icmp_ge (pc := 75) 97 dX3_init_75 (by decide) (fun c9 => absurd c9 (by decide)) (fun _ => ?_)
  refine A_aloadn (pc := 78) dX3_init_78 rfl ?_
  refine A_getR (pc := 79) dX3_init_79 gX3_36 rfl (Nat.le_of_ble_eq_true rfl) rfl (q := 19) rfl ?_
  refine A_iloadn (pc := 82) dX3_init_82 rfl ?_
  refine A_new (pc := 83) (ci := 2) (N := 6) dX3_init_83 kX2 cX3_34 tX2 oX2 (by decide +kernel) (Nat.le_of_ble_eq_true rfl) ?_
  refine A_Tn 28 (sh' := sh0.take 29) rfl rfl (by decide) ?_
  refine A_dup (pc := 86) dX3_init_86 ?_
  refine A_callI (mi2 := mX2_init) (kc0 := 0) (ks0 := 0) (kc := 0) (ks := 0) (As := []) (rest := [.ref 28, .int 6, .ref 19]) (pc := 87) dX3_init_87 lX3_46 fX2_init vX2_init rfl rfl (Nat.le_of_ble_eq_true rfl) rfl (Nat.le_of_ble_eq_true rfl) wctor_P ?_
  intro r9 T9 u9 hq9
  obtain ⟨rfl, rfl, rfl⟩ := hq9
  refine A_aast (pc := 90) dX3_init_90 (n := 7) (N := 6) rfl (by unfold vp_in; decide) rfl ?_
  refine A_Te (T' := (sh0.take 29, gz (rz.drop 45))) rfl ?_
  refine A_inc (pc := 91) (L2 := [.ref 15, .int 7]) 7 dX3_init_91 rfl (by decide) rfl ?_
  refine A_goto (pc := 94) 72 dX3_init_94 (by decide) ?_
  refine A_iloadn (pc := 72) dX3_init_72 rfl ?_
  refine A_bipush (pc := 73) 7 dX3_init_73 rfl ?_
  refine A_icmp_ge (pc := 75) 97 dX3_init_75 (by decide) (fun _ => ?_) (fun c9 => absurd (by decide) c9)
  refine A_iconst (pc := 97) 0 dX3_init_97 rfl ?_
  refine A_istn (pc := 98) (L2 := [.ref 15, .int 0]) dX3_init_98 (Nat.le_of_ble_eq_true rfl) rfl ?_
  refine A_iloadn (pc := 99) dX3_init_99 rfl ?_
  refine A_iconst (pc := 100) 5 dX3_init_100 rfl ?_
  refine A_icmp_ge (pc := 101) 132 dX3_init_101 (by decide) (fun c9 => absurd c9 (by decide)) (fun _ => ?_)
  refine A_aloadn (pc := 104) dX3_init_104 rfl ?_
  refine A_getR (pc := 105) dX3_init_105 gX3_24 rfl (Nat.le_of_ble_eq_true rfl) rfl (q := 16) rfl ?_
  refine A_iloadn (pc := 108) dX3_init_108 rfl ?_
  refine A_iconst (pc := 109) 2 dX3_init_109 rfl ?_
  refine A_iast (pc := 110) dX3_init_110 (n := 5) rfl (by unfold vp_in; decide) ?_
  refine A_aloadn (pc := 111) dX3_init_111 rfl ?_
  refine A_getR (pc := 112) dX3_init_112 gX3_28 rfl (Nat.le_of_ble_eq_true rfl) rfl (q := 17) rfl ?_
  refine A_iloadn (pc := 115) dX3_init_115 rfl ?_
  refine A_iconst (pc := 116) 2 dX3_init_116 rfl ?_
  refine A_iast (pc := 117) dX3_init_117 (n := 5) rfl (by unfold vp_in; decide) ?_
  refine A_aloadn (pc := 118) dX3_init_118 rfl ?_
  refine A_getR (pc := 119) dX3_init_119 gX3_31 rfl (Nat.le_of_ble_eq_true rfl) rfl (q := 18) rfl ?_
  refine A_iloadn (pc := 122) dX3_init_122 rfl ?_
  refine A_bipush (pc := 123) (-9) dX3_init_123 rfl ?_
  refine A_iast (pc := 125) dX3_init_125 (n := 5) rfl (by unfold vp_in; decide) ?_
  refine A_inc (pc := 126) (L2 := [.ref 15, .int 1]) 1 dX3_init_126 rfl (by decide) rfl ?_
  refine A_goto (pc := 129) 99 dX3_init_129 (by decide) ?_
  refine A_iloadn (pc := 99) dX3_init_99 rfl ?_
  refine A_iconst (pc := 100) 5 dX3_init_100 rfl ?_
  refine A_icmp_ge (pc := 101) 132 dX3_init_101 (by decide) (fun c9 => absurd c9 (by decide)) (fun _ => ?_)
  refine A_aloadn (pc := 104) dX3_init_104 rfl ?_
  refine A_getR (pc := 105) dX3_init_105 gX3_24 rfl (Nat.le_of_ble_eq_true rfl) rfl (q := 16) rfl ?_
  refine A_iloadn (pc := 108) dX3_init_108 rfl ?_
  refine A_iconst (pc := 109) 2 dX3_init_109 rfl ?_
  refine A_iast (pc := 110) dX3_init_110 (n := 5) rfl (by unfold vp_in; decide) ?_
  refine A_aloadn (pc := 111) dX3_init_111 rfl ?_
  refine A_getR (pc := 112) dX3_init_112 gX3_28 rfl (Nat.le_of_ble_eq_true rfl) rfl (q := 17) rfl ?_
  refine A_iloadn (pc := 115) dX3_init_115 rfl ?_
  refine A_iconst (pc := 116) 2 dX3_init_116 rfl ?_
  refine A_iast (pc := 117) dX3_init_117 (n := 5) rfl (by unfold vp_in; decide) ?_
  refine A_aloadn (pc := 118) dX3_init_118 rfl ?_
  refine A_getR (pc := 119) dX3_init_119 gX3_31 rfl (Nat.le_of_ble_eq_true rfl) rfl (q := 18) rfl ?_
  refine A_iloadn (pc := 122) dX3_init_122 rfl ?_
  refine A_bipush (pc := 123) (-9) dX3_init_123 rfl ?_
  refine A_iast (pc := 125) dX3_init_125 (n := 5) rfl (by unfold vp_in; decide) ?_
  refine A_inc (pc := 126) (L2 := [.ref 15, .int 2]) 2 dX3_init_126 rfl (by decide) rfl ?_
  refine A_goto (pc := 129) 99 dX3_init_129 (by decide) ?_
  refine A_iloadn (pc := 99) dX3_init_99 rfl ?_
  refine A_iconst (pc := 100) 5 dX3_init_100 rfl ?_
  refine A_icmp_ge (pc := 101) 132 dX3_init_101 (by decide) (fun c9 => absurd c9 (by decide)) (fun _ => ?_)
  refine A_aloadn (pc := 104) dX3_init_104 rfl ?_
  refine A_getR (pc := 105) dX3_init_105 gX3_24 rfl (Nat.le_of_ble_eq_true rfl) rfl (q := 16) rfl ?_
  refine A_iloadn (pc := 108) dX3_init_108 rfl ?_
  refine A_iconst (pc := 109) 2 dX3_init_109 rfl ?_
  refine A_iast (pc := 110) dX3_init_110 (n := 5) rfl (by unfold vp_in; decide) ?_
  refine A_aloadn (pc := 111) dX3_init_111 rfl ?_
  refine A_getR (pc := 112) dX3_init_112 gX3_28 rfl (Nat.le_of_ble_eq_true rfl) rfl (q := 17) rfl ?_
  refine A_iloadn (pc := 115) dX3_init_115 rfl ?_
  refine A_iconst (pc := 116) 2 dX3_init_116 rfl ?_
  refine A_iast (pc := 117) dX3_init_117 (n := 5) rfl (by unfold vp_in; decide) ?_
  refine A_aloadn (pc := 118) dX3_init_118 rfl ?_
  refine A_getR (pc := 119) dX3_init_119 gX3_31 rfl (Nat.le_of_ble_eq_true rfl) rfl (q := 18) rfl ?_
  refine A_iloadn (pc := 122) dX3_init_122 rfl ?_
  refine A_bipush (pc := 123) (-9) dX3_init_123 rfl ?_
  refine A_iast (pc := 125) dX3_init_125 (n := 5) rfl (by unfold vp_in; decide) ?_
  refine A_inc (pc := 126) (L2 := [.ref 15, .int 3]) 3 dX3_init_126 rfl (by decide) rfl ?_
  refine A_goto (pc := 129) 99 dX3_init_129 (by decide) ?_
  refine A_iloadn (pc := 99) dX3_init_99 rfl ?_
  refine A_iconst (pc := 100) 5 dX3_init_100 rfl ?_
  refine A_icmp_ge (pc := 101) 132 dX3_init_101 (by decide) (fun c9 => absurd c9 (by decide)) (fun _ => ?_)
  refine A_aloadn (pc := 104) dX3_init_104 rfl ?_
  refine A_getR (pc := 105) dX3_init_105 gX3_24 rfl (Nat.le_of_ble_eq_true rfl) rfl (q := 16) rfl ?_
  refine A_iloadn (pc := 108) dX3_init_108 rfl ?_
  refine A_iconst (pc := 109) 2 dX3_init_109 rfl ?_
  refine A_iast (pc := 110) dX3_init_110 (n := 5) rfl (by unfold vp_in; decide) ?_
  refine A_aloadn (pc := 111) dX3_init_111 rfl ?_
  refine A_getR (pc := 112) dX3_init_112 gX3_28 rfl (Nat.le_of_ble_eq_true rfl) rfl (q := 17) rfl ?_
  refine A_iloadn (pc := 115) dX3_init_115 rfl ?_
  refine A_iconst (pc := 116) 2 dX3_init_116 rfl ?_
  refine A_iast (pc := 117) dX3_init_117 (n := 5) rfl (by unfold vp_in; decide) ?_
  refine A_aloadn (pc := 118) dX3_init_118 rfl ?_
  refine A_getR (pc := 119) dX3_init_119 gX3_31 rfl (Nat.le_of_ble_eq_true rfl) rfl (q := 18) rfl ?_
  refine A_iloadn (pc := 122) dX3_init_122 rfl ?_
  refine A_bipush (pc := 123) (-9) dX3_init_123 rfl ?_
  refine A_iast (pc := 125) dX3_init_125 (n := 5) rfl (by unfold vp_in; decide) ?_
  refine A_inc (pc := 126) (L2 := [.ref 15, .int 4]) 4 dX3_init_126 rfl (by decide) rfl ?_
  refine A_goto (pc := 129) 99 dX3_init_129 (by decide) ?_
  refine A_iloadn (pc := 99) dX3_init_99 rfl ?_
  refine A_iconst (pc := 100) 5 dX3_init_100 rfl ?_
  refine A_icmp_ge (pc := 101) 132 dX3_init_101 (by decide) (fun c9 => absurd c9 (by decide)) (fun _ => ?_)
  refine A_aloadn (pc := 104) dX3_init_104 rfl ?_
  refine A_getR (pc := 105) dX3_init_105 gX3_24 rfl (Nat.le_of_ble_eq_true rfl) rfl (q := 16) rfl ?_
  refine A_iloadn (pc := 108) dX3_init_108 rfl ?_
  refine A_iconst (pc := 109) 2 dX3_init_109 rfl ?_
  refine A_iast (pc := 110) dX3_init_110 (n := 5) rfl (by unfold vp_in; decide) ?_
  refine A_aloadn (pc := 111) dX3_init_111 rfl ?_
  refine A_getR (pc := 112) dX3_init_112 gX3_28 rfl (Nat.le_of_ble_eq_true rfl) rfl (q := 17) rfl ?_
  refine A_iloadn (pc := 115) dX3_init_115 rfl ?_
  refine A_iconst (pc := 116) 2 dX3_init_116 rfl ?_
  refine A_iast (pc := 117) dX3_init_117 (n := 5) rfl (by unfold vp_in; decide) ?_
  refine A_aloadn (pc := 118) dX3_init_118 rfl ?_
  refine A_getR (pc := 119) dX3_init_119 gX3_31 rfl (Nat.le_of_ble_eq_true rfl) rfl (q := 18) rfl ?_
  refine A_iloadn (pc := 122) dX3_init_122 rfl ?_
  refine A_bipush (pc := 123) (-9) dX3_init_123 rfl ?_
  refine A_iast (pc := 125) dX3_init_125 (n := 5) rfl (by unfold vp_in; decide) ?_
  refine A_inc (pc := 126) (L2 := [.ref 15, .int 5]) 5 dX3_init_126 rfl (by decide) rfl ?_
  refine A_goto (pc := 129) 99 dX3_init_129 (by decide) ?_
  refine A_iloadn (pc := 99) dX3_init_99 rfl ?_
  refine A_iconst (pc := 100) 5 dX3_init_100 rfl ?_
  refine A_icmp_ge (pc := 101) 132 dX3_init_101 (by decide) (fun _ => ?_) (fun c9 => absurd (by decide) c9)
  exact A_vret (pc := 132) dX3_init_132 rfl ⟨rfl, rfl, rfl⟩
def us6 : MU := (upz us5 29)
def us7 : MU := (up2 (up2 (up2 (up2 (up2 (up2 (up2 (up2 (up2 (up2 (up2 (up2 (up2 (up2 (up2 (upz (upz (upz (upz (upz (upz (upz (upz (upz (upz (upz (upz (upz (up2 (up2 (up2 (up2 us6 29 0 3) 29 1 1) 29 2 0) 29 3 0) 30) 31) 32) 33) 34) 35) 36) 37) 38) 39) 40) 41) 42) 30 (Int32.toNatClampNeg 0) 2) 31 (Int32.toNatClampNeg 0) 2) 32 (Int32.toNatClampNeg 0) (-9)) 30 (Int32.toNatClampNeg 1) 2) 31 (Int32.toNatClampNeg 1) 2) 32 (Int32.toNatClampNeg 1) (-9)) 30 (Int32.toNatClampNeg 2) 2) 31 (Int32.toNatClampNeg 2) 2) 32 (Int32.toNatClampNeg 2) (-9)) 30 (Int32.toNatClampNeg 3) 2) 31 (Int32.toNatClampNeg 3) 2) 32 (Int32.toNatClampNeg 3) (-9)) 30 (Int32.toNatClampNeg 4) 2) 31 (Int32.toNatClampNeg 4) 2) 32 (Int32.toNatClampNeg 4) (-9))
set_option maxHeartbeats 4000000 in
set_option maxRecDepth 100000 in
theorem wctor_X3_init_29 {G : GG} {d : Nat} : AW G (d + 2) mX3_init 0 [.ref 29, .null] [] (sh0.take 30, gz (rz.drop 44)) us6 13 120 (QV (sh0.take 43, gz (rz.drop 31)) us7) := by
  refine A_aloadn (pc := 0) dX3_init_0 rfl ?_
  refine A_obj (pc := 1) dX3_init_1 lX3_3 aobj_2 aobj_3 (Nat.le_of_ble_eq_true rfl) ?_
  refine A_aloadn (pc := 4) dX3_init_4 rfl ?_
  refine A_iconst (pc := 5) 3 dX3_init_5 rfl ?_
  refine A_putI (pc := 6) dX3_init_6 gX3_9 rfl (Nat.le_of_ble_eq_true rfl) rfl rfl rfl rfl ?_
  refine A_aloadn (pc := 9) dX3_init_9 rfl ?_
  refine A_iconst (pc := 10) 1 dX3_init_10 rfl ?_
  refine A_putI (pc := 11) dX3_init_11 gX3_15 rfl (Nat.le_of_ble_eq_true rfl) rfl rfl rfl rfl ?_
  refine A_aloadn (pc := 14) dX3_init_14 rfl ?_
  refine A_iconst (pc := 15) 0 dX3_init_15 rfl ?_
  refine A_putI (pc := 16) dX3_init_16 gX3_18 rfl (Nat.le_of_ble_eq_true rfl) rfl rfl rfl rfl ?_
  refine A_aloadn (pc := 19) dX3_init_19 rfl ?_
  refine A_iconst (pc := 20) 0 dX3_init_20 rfl ?_
  refine A_putI (pc := 21) dX3_init_21 gX3_21 rfl (Nat.le_of_ble_eq_true rfl) rfl rfl rfl rfl ?_
  refine A_aloadn (pc := 24) dX3_init_24 rfl ?_
  refine A_iconst (pc := 25) 5 dX3_init_25 rfl ?_
  refine A_newa (pc := 26) 5 dX3_init_26 aw_arr (by decide) rfl (Nat.le_of_ble_eq_true rfl) (Nat.le_of_ble_eq_true rfl) ?_
  refine A_Tn 30 (sh' := sh0.take 31) rfl rfl (by decide) ?_
  refine A_putR (pc := 28) dX3_init_28 gX3_24 rfl (Nat.le_of_ble_eq_true rfl) ⟨rfl, rfl, rfl⟩ rfl (Nat.le_of_ble_eq_true rfl) (fun _ => rfl) (fun _ => rfl) ?_
  refine A_Te (T' := (sh0.take 31, gz (rz.drop 43))) rfl ?_
  refine A_aloadn (pc := 31) dX3_init_31 rfl ?_
  refine A_iconst (pc := 32) 5 dX3_init_32 rfl ?_
  refine A_newa (pc := 33) 5 dX3_init_33 aw_arr (by decide) rfl (Nat.le_of_ble_eq_true rfl) (Nat.le_of_ble_eq_true rfl) ?_
  refine A_Tn 31 (sh' := sh0.take 32) rfl rfl (by decide) ?_
  refine A_putR (pc := 35) dX3_init_35 gX3_28 rfl (Nat.le_of_ble_eq_true rfl) ⟨rfl, rfl, rfl⟩ rfl (Nat.le_of_ble_eq_true rfl) (fun _ => rfl) (fun _ => rfl) ?_
  refine A_Te (T' := (sh0.take 32, gz (rz.drop 42))) rfl ?_
  refine A_aloadn (pc := 38) dX3_init_38 rfl ?_
  refine A_iconst (pc := 39) 5 dX3_init_39 rfl ?_
  refine A_newa (pc := 40) 5 dX3_init_40 aw_arr (by decide) rfl (Nat.le_of_ble_eq_true rfl) (Nat.le_of_ble_eq_true rfl) ?_
  refine A_Tn 32 (sh' := sh0.take 33) rfl rfl (by decide) ?_
  refine A_putR (pc := 42) dX3_init_42 gX3_31 rfl (Nat.le_of_ble_eq_true rfl) ⟨rfl, rfl, rfl⟩ rfl (Nat.le_of_ble_eq_true rfl) (fun _ => rfl) (fun _ => rfl) ?_
  refine A_Te (T' := (sh0.take 33, gz (rz.drop 41))) rfl ?_
  refine A_aloadn (pc := 45) dX3_init_45 rfl ?_
  refine A_bipush (pc := 46) 7 dX3_init_46 rfl ?_
  refine A_anew (pc := 48) 7 dX3_init_48 cX3_34 (by decide) rfl (Nat.le_of_ble_eq_true rfl) (Nat.le_of_ble_eq_true rfl) ?_
  refine A_Tn 33 (sh' := sh0.take 34) rfl rfl (by decide) ?_
  refine A_putR (pc := 51) dX3_init_51 gX3_36 rfl (Nat.le_of_ble_eq_true rfl) ⟨rfl, rfl, rfl⟩ rfl (Nat.le_of_ble_eq_true rfl) (fun _ => rfl) (fun _ => rfl) ?_
  refine A_Te (T' := (sh0.take 34, gz (rz.drop 40))) rfl ?_
  refine A_aloadn (pc := 54) dX3_init_54 rfl ?_
  refine A_bipush (pc := 55) 7 dX3_init_55 rfl ?_
  refine A_newa (pc := 57) 7 dX3_init_57 aw_arr (by decide) rfl (Nat.le_of_ble_eq_true rfl) (Nat.le_of_ble_eq_true rfl) ?_
  refine A_Tn 34 (sh' := sh0.take 35) rfl rfl (by decide) ?_
  refine A_putR (pc := 59) dX3_init_59 gX3_40 rfl (Nat.le_of_ble_eq_true rfl) ⟨rfl, rfl, rfl⟩ rfl (Nat.le_of_ble_eq_true rfl) (fun _ => rfl) (fun _ => rfl) ?_
  refine A_Te (T' := (sh0.take 35, gz (rz.drop 39))) rfl ?_
  refine A_aloadn (pc := 62) dX3_init_62 rfl ?_
  refine A_bipush (pc := 63) 49 dX3_init_63 rfl ?_
  refine A_newa (pc := 65) 49 dX3_init_65 aw_arr (by decide) rfl (Nat.le_of_ble_eq_true rfl) (Nat.le_of_ble_eq_true rfl) ?_
  refine A_Tn 35 (sh' := sh0.take 36) rfl rfl (by decide) ?_
  refine A_putR (pc := 67) dX3_init_67 gX3_43 rfl (Nat.le_of_ble_eq_true rfl) ⟨rfl, rfl, rfl⟩ rfl (Nat.le_of_ble_eq_true rfl) (fun _ => rfl) (fun _ => rfl) ?_
  refine A_Te (T' := (sh0.take 36, gz (rz.drop 38))) rfl ?_
  refine A_iconst (pc := 70) 0 dX3_init_70 rfl ?_
  refine A_istn (pc := 71) (L2 := [.ref 29, .int 0]) dX3_init_71 (Nat.le_of_ble_eq_true rfl) rfl ?_
  refine A_iloadn (pc := 72) dX3_init_72 rfl ?_
  refine A_bipush (pc := 73) 7 dX3_init_73 rfl ?_
  refine A_icmp_ge (pc := 75) 97 dX3_init_75 (by decide) (fun c9 => absurd c9 (by decide)) (fun _ => ?_)
  refine A_aloadn (pc := 78) dX3_init_78 rfl ?_
  refine A_getR (pc := 79) dX3_init_79 gX3_36 rfl (Nat.le_of_ble_eq_true rfl) rfl (q := 33) rfl ?_
  refine A_iloadn (pc := 82) dX3_init_82 rfl ?_
  refine A_new (pc := 83) (ci := 2) (N := 6) dX3_init_83 kX2 cX3_34 tX2 oX2 (by decide +kernel) (Nat.le_of_ble_eq_true rfl) ?_
  refine A_Tn 36 (sh' := sh0.take 37) rfl rfl (by decide) ?_
  refine A_dup (pc := 86) dX3_init_86 ?_
  refine A_callI (mi2 := mX2_init) (kc0 := 0) (ks0 := 0) (kc := 6) (ks := 36) (As := []) (rest := [.ref 36, .int 0, .ref 33]) (pc := 87) dX3_init_87 lX3_46 fX2_init vX2_init rfl rfl (Nat.le_of_ble_eq_true rfl) rfl (Nat.le_of_ble_eq_true rfl) wctor_P ?_
  intro r9 T9 u9 hq9
  obtain ⟨rfl, rfl, rfl⟩ := hq9
  refine A_aast (pc := 90) dX3_init_90 (n := 7) (N := 6) rfl (by unfold vp_in; decide) rfl ?_
  refine A_Te (T' := (sh0.take 37, gz (rz.drop 37))) rfl ?_
  refine A_inc (pc := 91) (L2 := [.ref 29, .int 1]) 1 dX3_init_91 rfl (by decide) rfl ?_
  refine A_goto (pc := 94) 72 dX3_init_94 (by decide) ?_
  refine A_iloadn (pc := 72) dX3_init_72 rfl ?_
  refine A_bipush (pc := 73) 7 dX3_init_73 rfl ?_
  refine A_icmp_ge (pc := 75) 97 dX3_init_75 (by decide) (fun c9 => absurd c9 (by decide)) (fun _ => ?_)
  refine A_aloadn (pc := 78) dX3_init_78 rfl ?_
  refine A_getR (pc := 79) dX3_init_79 gX3_36 rfl (Nat.le_of_ble_eq_true rfl) rfl (q := 33) rfl ?_
  refine A_iloadn (pc := 82) dX3_init_82 rfl ?_
  refine A_new (pc := 83) (ci := 2) (N := 6) dX3_init_83 kX2 cX3_34 tX2 oX2 (by decide +kernel) (Nat.le_of_ble_eq_true rfl) ?_
  refine A_Tn 37 (sh' := sh0.take 38) rfl rfl (by decide) ?_
  refine A_dup (pc := 86) dX3_init_86 ?_
  refine A_callI (mi2 := mX2_init) (kc0 := 0) (ks0 := 0) (kc := 5) (ks := 30) (As := []) (rest := [.ref 37, .int 1, .ref 33]) (pc := 87) dX3_init_87 lX3_46 fX2_init vX2_init rfl rfl (Nat.le_of_ble_eq_true rfl) rfl (Nat.le_of_ble_eq_true rfl) wctor_P ?_
  intro r9 T9 u9 hq9
  obtain ⟨rfl, rfl, rfl⟩ := hq9
  refine A_aast (pc := 90) dX3_init_90 (n := 7) (N := 6) rfl (by unfold vp_in; decide) rfl ?_
  refine A_Te (T' := (sh0.take 38, gz (rz.drop 36))) rfl ?_
  refine A_inc (pc := 91) (L2 := [.ref 29, .int 2]) 2 dX3_init_91 rfl (by decide) rfl ?_
  refine A_goto (pc := 94) 72 dX3_init_94 (by decide) ?_
  refine A_iloadn (pc := 72) dX3_init_72 rfl ?_
  refine A_bipush (pc := 73) 7 dX3_init_73 rfl ?_
  refine A_icmp_ge (pc := 75) 97 dX3_init_75 (by decide) (fun c9 => absurd c9 (by decide)) (fun _ => ?_)
  refine A_aloadn (pc := 78) dX3_init_78 rfl ?_
  refine A_getR (pc := 79) dX3_init_79 gX3_36 rfl (Nat.le_of_ble_eq_true rfl) rfl (q := 33) rfl ?_
  refine A_iloadn (pc := 82) dX3_init_82 rfl ?_
  refine A_new (pc := 83) (ci := 2) (N := 6) dX3_init_83 kX2 cX3_34 tX2 oX2 (by decide +kernel) (Nat.le_of_ble_eq_true rfl) ?_
  refine A_Tn 38 (sh' := sh0.take 39) rfl rfl (by decide) ?_
  refine A_dup (pc := 86) dX3_init_86 ?_
  refine A_callI (mi2 := mX2_init) (kc0 := 0) (ks0 := 0) (kc := 4) (ks := 24) (As := []) (rest := [.ref 38, .int 2, .ref 33]) (pc := 87) dX3_init_87 lX3_46 fX2_init vX2_init rfl rfl (Nat.le_of_ble_eq_true rfl) rfl (Nat.le_of_ble_eq_true rfl) wctor_P ?_
  intro r9 T9 u9 hq9
  obtain ⟨rfl, rfl, rfl⟩ := hq9
  refine A_aast (pc := 90) dX3_init_90 (n := 7) (N := 6) rfl (by unfold vp_in; decide) rfl ?_
  refine A_Te (T' := (sh0.take 39, gz (rz.drop 35))) rfl ?_
  refine A_inc (pc := 91) (L2 := [.ref 29, .int 3]) 3 dX3_init_91 rfl (by decide) rfl ?_
  refine A_goto (pc := 94) 72 dX3_init_94 (by decide) ?_
  refine A_iloadn (pc := 72) dX3_init_72 rfl ?_
  refine A_bipush (pc := 73) 7 dX3_init_73 rfl ?_
  refine A_icmp_ge (pc := 75) 97 dX3_init_75 (by decide) (fun c9 => absurd c9 (by decide)) (fun _ => ?_)
  refine A_aloadn (pc := 78) dX3_init_78 rfl ?_
  refine A_getR (pc := 79) dX3_init_79 gX3_36 rfl (Nat.le_of_ble_eq_true rfl) rfl (q := 33) rfl ?_
  refine A_iloadn (pc := 82) dX3_init_82 rfl ?_
  refine A_new (pc := 83) (ci := 2) (N := 6) dX3_init_83 kX2 cX3_34 tX2 oX2 (by decide +kernel) (Nat.le_of_ble_eq_true rfl) ?_
  refine A_Tn 39 (sh' := sh0.take 40) rfl rfl (by decide) ?_
  refine A_dup (pc := 86) dX3_init_86 ?_
  refine A_callI (mi2 := mX2_init) (kc0 := 0) (ks0 := 0) (kc := 3) (ks := 18) (As := []) (rest := [.ref 39, .int 3, .ref 33]) (pc := 87) dX3_init_87 lX3_46 fX2_init vX2_init rfl rfl (Nat.le_of_ble_eq_true rfl) rfl (Nat.le_of_ble_eq_true rfl) wctor_P ?_
  intro r9 T9 u9 hq9
  obtain ⟨rfl, rfl, rfl⟩ := hq9
  refine A_aast (pc := 90) dX3_init_90 (n := 7) (N := 6) rfl (by unfold vp_in; decide) rfl ?_
  refine A_Te (T' := (sh0.take 40, gz (rz.drop 34))) rfl ?_
  refine A_inc (pc := 91) (L2 := [.ref 29, .int 4]) 4 dX3_init_91 rfl (by decide) rfl ?_
  refine A_goto (pc := 94) 72 dX3_init_94 (by decide) ?_
  refine A_iloadn (pc := 72) dX3_init_72 rfl ?_
  refine A_bipush (pc := 73) 7 dX3_init_73 rfl ?_
  refine A_icmp_ge (pc := 75) 97 dX3_init_75 (by decide) (fun c9 => absurd c9 (by decide)) (fun _ => ?_)
  refine A_aloadn (pc := 78) dX3_init_78 rfl ?_
  refine A_getR (pc := 79) dX3_init_79 gX3_36 rfl (Nat.le_of_ble_eq_true rfl) rfl (q := 33) rfl ?_
  refine A_iloadn (pc := 82) dX3_init_82 rfl ?_
  refine A_new (pc := 83) (ci := 2) (N := 6) dX3_init_83 kX2 cX3_34 tX2 oX2 (by decide +kernel) (Nat.le_of_ble_eq_true rfl) ?_
  refine A_Tn 40 (sh' := sh0.take 41) rfl rfl (by decide) ?_
  refine A_dup (pc := 86) dX3_init_86 ?_
  refine A_callI (mi2 := mX2_init) (kc0 := 0) (ks0 := 0) (kc := 2) (ks := 12) (As := []) (rest := [.ref 40, .int 4, .ref 33]) (pc := 87) dX3_init_87 lX3_46 fX2_init vX2_init rfl rfl (Nat.le_of_ble_eq_true rfl) rfl (Nat.le_of_ble_eq_true rfl) wctor_P ?_
  intro r9 T9 u9 hq9
  obtain ⟨rfl, rfl, rfl⟩ := hq9
  refine A_aast (pc := 90) dX3_init_90 (n := 7) (N := 6) rfl (by unfold vp_in; decide) rfl ?_
  refine A_Te (T' := (sh0.take 41, gz (rz.drop 33))) rfl ?_
  refine A_inc (pc := 91) (L2 := [.ref 29, .int 5]) 5 dX3_init_91 rfl (by decide) rfl ?_
  refine A_goto (pc := 94) 72 dX3_init_94 (by decide) ?_
  refine A_iloadn (pc := 72) dX3_init_72 rfl ?_
  refine A_bipush (pc := 73) 7 dX3_init_73 rfl ?_
  refine A_icmp_ge (pc := 75) 97 dX3_init_75 (by decide) (fun c9 => absurd c9 (by decide)) (fun _ => ?_)
  refine A_aloadn (pc := 78) dX3_init_78 rfl ?_
  refine A_getR (pc := 79) dX3_init_79 gX3_36 rfl (Nat.le_of_ble_eq_true rfl) rfl (q := 33) rfl ?_
  refine A_iloadn (pc := 82) dX3_init_82 rfl ?_
  refine A_new (pc := 83) (ci := 2) (N := 6) dX3_init_83 kX2 cX3_34 tX2 oX2 (by decide +kernel) (Nat.le_of_ble_eq_true rfl) ?_
  refine A_Tn 41 (sh' := sh0.take 42) rfl rfl (by decide) ?_
  refine A_dup (pc := 86) dX3_init_86 ?_
  refine A_callI (mi2 := mX2_init) (kc0 := 0) (ks0 := 0) (kc := 1) (ks := 6) (As := []) (rest := [.ref 41, .int 5, .ref 33]) (pc := 87) dX3_init_87 lX3_46 fX2_init vX2_init rfl rfl (Nat.le_of_ble_eq_true rfl) rfl (Nat.le_of_ble_eq_true rfl) wctor_P ?_
  intro r9 T9 u9 hq9
  obtain ⟨rfl, rfl, rfl⟩ := hq9
  refine A_aast (pc := 90) dX3_init_90 (n := 7) (N := 6) rfl (by unfold vp_in; decide) rfl ?_
  refine A_Te (T' := (sh0.take 42, gz (rz.drop 32))) rfl ?_
  refine A_inc (pc := 91) (L2 := [.ref 29, .int 6]) 6 dX3_init_91 rfl (by decide) rfl ?_
  refine A_goto (pc := 94) 72 dX3_init_94 (by decide) ?_
  refine A_iloadn (pc := 72) dX3_init_72 rfl ?_
  refine A_bipush (pc := 73) 7 dX3_init_73 rfl ?_
  refine A_icmp_ge (pc := 75) 97 dX3_init_75 (by decide) (fun c9 => absurd c9 (by decide)) (fun _ => ?_)
  refine A_aloadn (pc := 78) dX3_init_78 rfl ?_
  refine A_getR (pc := 79) dX3_init_79 gX3_36 rfl (Nat.le_of_ble_eq_true rfl) rfl (q := 33) rfl ?_
  refine A_iloadn (pc := 82) dX3_init_82 rfl ?_
  refine A_new (pc := 83) (ci := 2) (N := 6) dX3_init_83 kX2 cX3_34 tX2 oX2 (by decide +kernel) (Nat.le_of_ble_eq_true rfl) ?_
  refine A_Tn 42 (sh' := sh0.take 43) rfl rfl (by decide) ?_
  refine A_dup (pc := 86) dX3_init_86 ?_
  refine A_callI (mi2 := mX2_init) (kc0 := 0) (ks0 := 0) (kc := 0) (ks := 0) (As := []) (rest := [.ref 42, .int 6, .ref 33]) (pc := 87) dX3_init_87 lX3_46 fX2_init vX2_init rfl rfl (Nat.le_of_ble_eq_true rfl) rfl (Nat.le_of_ble_eq_true rfl) wctor_P ?_
  intro r9 T9 u9 hq9
  obtain ⟨rfl, rfl, rfl⟩ := hq9
  refine A_aast (pc := 90) dX3_init_90 (n := 7) (N := 6) rfl (by unfold vp_in; decide) rfl ?_
  refine A_Te (T' := (sh0.take 43, gz (rz.drop 31))) rfl ?_
  refine A_inc (pc := 91) (L2 := [.ref 29, .int 7]) 7 dX3_init_91 rfl (by decide) rfl ?_
  refine A_goto (pc := 94) 72 dX3_init_94 (by decide) ?_
  refine A_iloadn (pc := 72) dX3_init_72 rfl ?_
  refine A_bipush (pc := 73) 7 dX3_init_73 rfl ?_
  refine A_icmp_ge (pc := 75) 97 dX3_init_75 (by decide) (fun _ => ?_) (fun c9 => absurd (by decide) c9)
  refine A_iconst (pc := 97) 0 dX3_init_97 rfl ?_
  refine A_istn (pc := 98) (L2 := [.ref 29, .int 0]) dX3_init_98 (Nat.le_of_ble_eq_true rfl) rfl ?_
  refine A_iloadn (pc := 99) dX3_init_99 rfl ?_
  refine A_iconst (pc := 100) 5 dX3_init_100 rfl ?_
  refine A_icmp_ge (pc := 101) 132 dX3_init_101 (by decide) (fun c9 => absurd c9 (by decide)) (fun _ => ?_)
  refine A_aloadn (pc := 104) dX3_init_104 rfl ?_
  refine A_getR (pc := 105) dX3_init_105 gX3_24 rfl (Nat.le_of_ble_eq_true rfl) rfl (q := 30) rfl ?_
  refine A_iloadn (pc := 108) dX3_init_108 rfl ?_
  refine A_iconst (pc := 109) 2 dX3_init_109 rfl ?_
  refine A_iast (pc := 110) dX3_init_110 (n := 5) rfl (by unfold vp_in; decide) ?_
  refine A_aloadn (pc := 111) dX3_init_111 rfl ?_
  refine A_getR (pc := 112) dX3_init_112 gX3_28 rfl (Nat.le_of_ble_eq_true rfl) rfl (q := 31) rfl ?_
  refine A_iloadn (pc := 115) dX3_init_115 rfl ?_
  refine A_iconst (pc := 116) 2 dX3_init_116 rfl ?_
  refine A_iast (pc := 117) dX3_init_117 (n := 5) rfl (by unfold vp_in; decide) ?_
  refine A_aloadn (pc := 118) dX3_init_118 rfl ?_
  refine A_getR (pc := 119) dX3_init_119 gX3_31 rfl (Nat.le_of_ble_eq_true rfl) rfl (q := 32) rfl ?_
  refine A_iloadn (pc := 122) dX3_init_122 rfl ?_
  refine A_bipush (pc := 123) (-9) dX3_init_123 rfl ?_
  refine A_iast (pc := 125) dX3_init_125 (n := 5) rfl (by unfold vp_in; decide) ?_
  refine A_inc (pc := 126) (L2 := [.ref 29, .int 1]) 1 dX3_init_126 rfl (by decide) rfl ?_
  refine A_goto (pc := 129) 99 dX3_init_129 (by decide) ?_
  refine A_iloadn (pc := 99) dX3_init_99 rfl ?_
  refine A_iconst (pc := 100) 5 dX3_init_100 rfl ?_
  refine A_icmp_ge (pc := 101) 132 dX3_init_101 (by decide) (fun c9 => absurd c9 (by decide)) (fun _ => ?_)
  refine A_aloadn (pc := 104) dX3_init_104 rfl ?_
  refine A_getR (pc := 105) dX3_init_105 gX3_24 rfl (Nat.le_of_ble_eq_true rfl) rfl (q := 30) rfl ?_
  refine A_iloadn (pc := 108) dX3_init_108 rfl ?_
  refine A_iconst (pc := 109) 2 dX3_init_109 rfl ?_
  refine A_iast (pc := 110) dX3_init_110 (n := 5) rfl (by unfold vp_in; decide) ?_
  refine A_aloadn (pc := 111) dX3_init_111 rfl ?_
  refine A_getR (pc := 112) dX3_init_112 gX3_28 rfl (Nat.le_of_ble_eq_true rfl) rfl (q := 31) rfl ?_
  refine A_iloadn (pc := 115) dX3_init_115 rfl ?_
  refine A_iconst (pc := 116) 2 dX3_init_116 rfl ?_
  refine A_iast (pc := 117) dX3_init_117 (n := 5) rfl (by unfold vp_in; decide) ?_
  refine A_aloadn (pc := 118) dX3_init_118 rfl ?_
  refine A_getR (pc := 119) dX3_init_119 gX3_31 rfl (Nat.le_of_ble_eq_true rfl) rfl (q := 32) rfl ?_
  refine A_iloadn (pc := 122) dX3_init_122 rfl ?_
  refine A_bipush (pc := 123) (-9) dX3_init_123 rfl ?_
  refine A_iast (pc := 125) dX3_init_125 (n := 5) rfl (by unfold vp_in; decide) ?_
  refine A_inc (pc := 126) (L2 := [.ref 29, .int 2]) 2 dX3_init_126 rfl (by decide) rfl ?_
  refine A_goto (pc := 129) 99 dX3_init_129 (by decide) ?_
  refine A_iloadn (pc := 99) dX3_init_99 rfl ?_
  refine A_iconst (pc := 100) 5 dX3_init_100 rfl ?_
  refine A_icmp_ge (pc := 101) 132 dX3_init_101 (by decide) (fun c9 => absurd c9 (by decide)) (fun _ => ?_)
  refine A_aloadn (pc := 104) dX3_init_104 rfl ?_
  refine A_getR (pc := 105) dX3_init_105 gX3_24 rfl (Nat.le_of_ble_eq_true rfl) rfl (q := 30) rfl ?_
  refine A_iloadn (pc := 108) dX3_init_108 rfl ?_
  refine A_iconst (pc := 109) 2 dX3_init_109 rfl ?_
  refine A_iast (pc := 110) dX3_init_110 (n := 5) rfl (by unfold vp_in; decide) ?_
  refine A_aloadn (pc := 111) dX3_init_111 rfl ?_
  refine A_getR (pc := 112) dX3_init_112 gX3_28 rfl (Nat.le_of_ble_eq_true rfl) rfl (q := 31) rfl ?_
  refine A_iloadn (pc := 115) dX3_init_115 rfl ?_
  refine A_iconst (pc := 116) 2 dX3_init_116 rfl ?_
  refine A_iast (pc := 117) dX3_init_117 (n := 5) rfl (by unfold vp_in; decide) ?_
  refine A_aloadn (pc := 118) dX3_init_118 rfl ?_
  refine A_getR (pc := 119) dX3_init_119 gX3_31 rfl (Nat.le_of_ble_eq_true rfl) rfl (q := 32) rfl ?_
  refine A_iloadn (pc := 122) dX3_init_122 rfl ?_
  refine A_bipush (pc := 123) (-9) dX3_init_123 rfl ?_
  refine A_iast (pc := 125) dX3_init_125 (n := 5) rfl (by unfold vp_in; decide) ?_
  refine A_inc (pc := 126) (L2 := [.ref 29, .int 3]) 3 dX3_init_126 rfl (by decide) rfl ?_
  refine A_goto (pc := 129) 99 dX3_init_129 (by decide) ?_
  refine A_iloadn (pc := 99) dX3_init_99 rfl ?_
  refine A_iconst (pc := 100) 5 dX3_init_100 rfl ?_
  refine A_icmp_ge (pc := 101) 132 dX3_init_101 (by decide) (fun c9 => absurd c9 (by decide)) (fun _ => ?_)
  refine A_aloadn (pc := 104) dX3_init_104 rfl ?_
  refine A_getR (pc := 105) dX3_init_105 gX3_24 rfl (Nat.le_of_ble_eq_true rfl) rfl (q := 30) rfl ?_
  refine A_iloadn (pc := 108) dX3_init_108 rfl ?_
  refine A_iconst (pc := 109) 2 dX3_init_109 rfl ?_
  refine A_iast (pc := 110) dX3_init_110 (n := 5) rfl (by unfold vp_in; decide) ?_
  refine A_aloadn (pc := 111) dX3_init_111 rfl ?_
  refine A_getR (pc := 112) dX3_init_112 gX3_28 rfl (Nat.le_of_ble_eq_true rfl) rfl (q := 31) rfl ?_
  refine A_iloadn (pc := 115) dX3_init_115 rfl ?_
  refine A_iconst (pc := 116) 2 dX3_init_116 rfl ?_
  refine A_iast (pc := 117) dX3_init_117 (n := 5) rfl (by unfold vp_in; decide) ?_
  refine A_aloadn (pc := 118) dX3_init_118 rfl ?_
  refine A_getR (pc := 119) dX3_init_119 gX3_31 rfl (Nat.le_of_ble_eq_true rfl) rfl (q := 32) rfl ?_
  refine A_iloadn (pc := 122) dX3_init_122 rfl ?_
  refine A_bipush (pc := 123) (-9) dX3_init_123 rfl ?_
  refine A_iast (pc := 125) dX3_init_125 (n := 5) rfl (by unfold vp_in; decide) ?_
  refine A_inc (pc := 126) (L2 := [.ref 29, .int 4]) 4 dX3_init_126 rfl (by decide) rfl ?_
  refine A_goto (pc := 129) 99 dX3_init_129 (by decide) ?_
  refine A_iloadn (pc := 99) dX3_init_99 rfl ?_
  refine A_iconst (pc := 100) 5 dX3_init_100 rfl ?_
  refine A_icmp_ge (pc := 101) 132 dX3_init_101 (by decide) (fun c9 => absurd c9 (by decide)) (fun _ => ?_)
  refine A_aloadn (pc := 104) dX3_init_104 rfl ?_
  refine A_getR (pc := 105) dX3_init_105 gX3_24 rfl (Nat.le_of_ble_eq_true rfl) rfl (q := 30) rfl ?_
  refine A_iloadn (pc := 108) dX3_init_108 rfl ?_
  refine A_iconst (pc := 109) 2 dX3_init_109 rfl ?_
  refine A_iast (pc := 110) dX3_init_110 (n := 5) rfl (by unfold vp_in; decide) ?_
  refine A_aloadn (pc := 111) dX3_init_111 rfl ?_
  refine A_getR (pc := 112) dX3_init_112 gX3_28 rfl (Nat.le_of_ble_eq_true rfl) rfl (q := 31) rfl ?_
  refine A_iloadn (pc := 115) dX3_init_115 rfl ?_
  refine A_iconst (pc := 116) 2 dX3_init_116 rfl ?_
  refine A_iast (pc := 117) dX3_init_117 (n := 5) rfl (by unfold vp_in; decide) ?_
  refine A_aloadn (pc := 118) dX3_init_118 rfl ?_
  refine A_getR (pc := 119) dX3_init_119 gX3_31 rfl (Nat.le_of_ble_eq_true rfl) rfl (q := 32) rfl ?_
  refine A_iloadn (pc := 122) dX3_init_122 rfl ?_
  refine A_bipush (pc := 123) (-9) dX3_init_123 rfl ?_
  refine A_iast (pc := 125) dX3_init_125 (n := 5) rfl (by unfold vp_in; decide) ?_
  refine A_inc (pc := 126) (L2 := [.ref 29, .int 5]) 5 dX3_init_126 rfl (by decide) rfl ?_
  refine A_goto (pc := 129) 99 dX3_init_129 (by decide) ?_
  refine A_iloadn (pc := 99) dX3_init_99 rfl ?_
  refine A_iconst (pc := 100) 5 dX3_init_100 rfl ?_
  refine A_icmp_ge (pc := 101) 132 dX3_init_101 (by decide) (fun _ => ?_) (fun c9 => absurd (by decide) c9)
  exact A_vret (pc := 132) dX3_init_132 rfl ⟨rfl, rfl, rfl⟩
def us8 : MU := (upz (up2 us7 0 3 0) 43)
def us9 : MU := (up2 (upz us8 44) 43 1 0)
set_option maxHeartbeats 4000000 in
set_option maxRecDepth 100000 in
theorem wctor_X0_init_43 {G : GG} {d : Nat} : AW G (d + 1) mX0_init 0 [.ref 43] [] (sh0.take 44, gz (rz.drop 30)) us8 1 80 (QV (sh0.take 45, gz (rz.drop 29)) us9) := by
  refine A_aloadn (pc := 0) dX0_init_0 rfl ?_
  refine A_obj (pc := 1) dX0_init_1 lX0_3 aobj_2 aobj_3 (Nat.le_of_ble_eq_true rfl) ?_
  refine A_aloadn (pc := 4) dX0_init_4 rfl ?_
  refine A_bipush (pc := 5) 80 dX0_init_5 rfl ?_
  refine A_newa (pc := 7) 80 dX0_init_7 aw_arr (by decide) rfl (Nat.le_of_ble_eq_true rfl) (Nat.le_of_ble_eq_true rfl) ?_
  refine A_Tn 44 (sh' := sh0.take 45) rfl rfl (by decide) ?_
  refine A_putR (pc := 9) dX0_init_9 gX0_9 rfl (Nat.le_of_ble_eq_true rfl) ⟨rfl, rfl, rfl⟩ rfl (Nat.le_of_ble_eq_true rfl) (fun _ => rfl) (fun _ => rfl) ?_
  refine A_Te (T' := (sh0.take 45, gz (rz.drop 29))) rfl ?_
  refine A_aloadn (pc := 12) dX0_init_12 rfl ?_
  refine A_iconst (pc := 13) 0 dX0_init_13 rfl ?_
  refine A_putI (pc := 14) dX0_init_14 gX0_15 rfl (Nat.le_of_ble_eq_true rfl) rfl rfl rfl rfl ?_
  exact A_vret (pc := 17) dX0_init_17 rfl ⟨rfl, rfl, rfl⟩
def us10 : MU := (upz us9 45)
def us11 : MU := (upz (up2 (upz (up2 (up2 (upz (upz (upz us10 46) 47) 48) 45 3 0) 45 4 0) 49) 45 6 (-9)) 50)
set_option maxHeartbeats 4000000 in
set_option maxRecDepth 100000 in
theorem wctor_X1_init_45 {G : GG} {d : Nat} : AW G (d + 1) mX1_init 0 [.ref 45] [] (sh0.take 46, gz (rz.drop 28)) us10 5 29 (QV (sh0.take 51, gz (rz.drop 23)) us11) := by
  refine A_aloadn (pc := 0) dX1_init_0 rfl ?_
  refine A_obj (pc := 1) dX1_init_1 lX1_3 aobj_2 aobj_3 (Nat.le_of_ble_eq_true rfl) ?_
  refine A_aloadn (pc := 4) dX1_init_4 rfl ?_
  refine A_iconst (pc := 5) 5 dX1_init_5 rfl ?_
  refine A_newa (pc := 6) 5 dX1_init_6 aw_arr (by decide) rfl (Nat.le_of_ble_eq_true rfl) (Nat.le_of_ble_eq_true rfl) ?_
  refine A_Tn 46 (sh' := sh0.take 47) rfl rfl (by decide) ?_
  refine A_putR (pc := 8) dX1_init_8 gX1_9 rfl (Nat.le_of_ble_eq_true rfl) ⟨rfl, rfl, rfl⟩ rfl (Nat.le_of_ble_eq_true rfl) (fun _ => rfl) (fun _ => rfl) ?_
  refine A_Te (T' := (sh0.take 47, gz (rz.drop 27))) rfl ?_
  refine A_aloadn (pc := 11) dX1_init_11 rfl ?_
  refine A_iconst (pc := 12) 5 dX1_init_12 rfl ?_
  refine A_newa (pc := 13) 5 dX1_init_13 aw_arr (by decide) rfl (Nat.le_of_ble_eq_true rfl) (Nat.le_of_ble_eq_true rfl) ?_
  refine A_Tn 47 (sh' := sh0.take 48) rfl rfl (by decide) ?_
  refine A_putR (pc := 15) dX1_init_15 gX1_15 rfl (Nat.le_of_ble_eq_true rfl) ⟨rfl, rfl, rfl⟩ rfl (Nat.le_of_ble_eq_true rfl) (fun _ => rfl) (fun _ => rfl) ?_
  refine A_Te (T' := (sh0.take 48, gz (rz.drop 26))) rfl ?_
  refine A_aloadn (pc := 18) dX1_init_18 rfl ?_
  refine A_bipush (pc := 19) 7 dX1_init_19 rfl ?_
  refine A_newa (pc := 21) 7 dX1_init_21 aw_arr (by decide) rfl (Nat.le_of_ble_eq_true rfl) (Nat.le_of_ble_eq_true rfl) ?_
  refine A_Tn 48 (sh' := sh0.take 49) rfl rfl (by decide) ?_
  refine A_putR (pc := 23) dX1_init_23 gX1_18 rfl (Nat.le_of_ble_eq_true rfl) ⟨rfl, rfl, rfl⟩ rfl (Nat.le_of_ble_eq_true rfl) (fun _ => rfl) (fun _ => rfl) ?_
  refine A_Te (T' := (sh0.take 49, gz (rz.drop 25))) rfl ?_
  refine A_aloadn (pc := 26) dX1_init_26 rfl ?_
  refine A_iconst (pc := 27) 0 dX1_init_27 rfl ?_
  refine A_putI (pc := 28) dX1_init_28 gX1_21 rfl (Nat.le_of_ble_eq_true rfl) rfl rfl rfl rfl ?_
  refine A_aloadn (pc := 31) dX1_init_31 rfl ?_
  refine A_iconst (pc := 32) 0 dX1_init_32 rfl ?_
  refine A_putI (pc := 33) dX1_init_33 gX1_25 rfl (Nat.le_of_ble_eq_true rfl) rfl rfl rfl rfl ?_
  refine A_aloadn (pc := 36) dX1_init_36 rfl ?_
  refine A_iconst (pc := 37) 5 dX1_init_37 rfl ?_
  refine A_newa (pc := 38) 5 dX1_init_38 aw_arr (by decide) rfl (Nat.le_of_ble_eq_true rfl) (Nat.le_of_ble_eq_true rfl) ?_
  refine A_Tn 49 (sh' := sh0.take 50) rfl rfl (by decide) ?_
  refine A_putR (pc := 40) dX1_init_40 gX1_28 rfl (Nat.le_of_ble_eq_true rfl) ⟨rfl, rfl, rfl⟩ rfl (Nat.le_of_ble_eq_true rfl) (fun _ => rfl) (fun _ => rfl) ?_
  refine A_Te (T' := (sh0.take 50, gz (rz.drop 24))) rfl ?_
  refine A_aloadn (pc := 43) dX1_init_43 rfl ?_
  refine A_bipush (pc := 44) (-9) dX1_init_44 rfl ?_
  refine A_putI (pc := 46) dX1_init_46 gX1_31 rfl (Nat.le_of_ble_eq_true rfl) rfl rfl rfl rfl ?_
  refine A_aloadn (pc := 49) dX1_init_49 rfl ?_
  refine A_bipush (pc := 50) 7 dX1_init_50 rfl ?_
  refine A_newa (pc := 52) 7 dX1_init_52 aw_arr (by decide) rfl (Nat.le_of_ble_eq_true rfl) (Nat.le_of_ble_eq_true rfl) ?_
  refine A_Tn 50 (sh' := sh0.take 51) rfl rfl (by decide) ?_
  refine A_putR (pc := 54) dX1_init_54 gX1_34 rfl (Nat.le_of_ble_eq_true rfl) ⟨rfl, rfl, rfl⟩ rfl (Nat.le_of_ble_eq_true rfl) (fun _ => rfl) (fun _ => rfl) ?_
  refine A_Te (T' := (sh0.take 51, gz (rz.drop 23))) rfl ?_
  exact A_vret (pc := 57) dX1_init_57 rfl ⟨rfl, rfl, rfl⟩
def us12 : MU := (upz (up2 (upz us11 51) 0 7 0) 52)
set_option maxHeartbeats 4000000 in
set_option maxRecDepth 100000 in
theorem wctor_X4_init_0 {G : GG} {d : Nat} : AW G (d + 3) mX4_init 0 [.ref 0] [] (sh0.take 1, gz (rz.drop 72)) us1 52 521 (QV (sh0.take 53, gz (rz.drop 20)) us12) := by
  refine A_aloadn (pc := 0) dX4_init_0 rfl ?_
  refine A_obj (pc := 1) dX4_init_1 lX4_1 aobj_2 aobj_3 (Nat.le_of_ble_eq_true rfl) ?_
  refine A_aloadn (pc := 4) dX4_init_4 rfl ?_
  refine A_new (pc := 5) (ci := 3) (N := 10) dX4_init_5 kX3 cX4_7 tX3 oX3 (by decide +kernel) (Nat.le_of_ble_eq_true rfl) ?_
  refine A_Tn 1 (sh' := sh0.take 2) rfl rfl (by decide) ?_
  refine A_dup (pc := 8) dX4_init_8 ?_
  refine A_callI (mi2 := mX3_init) (kc0 := 13) (ks0 := 120) (kc := 38) (ks := 391) (As := []) (rest := [.ref 1, .ref 0]) (pc := 9) dX4_init_9 lX4_9 fX3_init vX3_init rfl rfl (Nat.le_of_ble_eq_true rfl) rfl (Nat.le_of_ble_eq_true rfl) wctor_X3_init_1 ?_
  intro r9 T9 u9 hq9
  obtain ⟨rfl, rfl, rfl⟩ := hq9
  refine A_putR (pc := 12) dX4_init_12 gX4_10 rfl (Nat.le_of_ble_eq_true rfl) ⟨rfl, rfl, rfl⟩ rfl (Nat.le_of_ble_eq_true rfl) (fun _ => rfl) (fun _ => rfl) ?_
  refine A_Te (T' := (sh0.take 15, gz (rz.drop 58))) rfl ?_
  refine A_aloadn (pc := 15) dX4_init_15 rfl ?_
  refine A_new (pc := 16) (ci := 3) (N := 10) dX4_init_16 kX3 cX4_7 tX3 oX3 (by decide +kernel) (Nat.le_of_ble_eq_true rfl) ?_
  refine A_Tn 15 (sh' := sh0.take 16) rfl rfl (by decide) ?_
  refine A_dup (pc := 19) dX4_init_19 ?_
  refine A_callI (mi2 := mX3_init) (kc0 := 13) (ks0 := 120) (kc := 24) (ks := 261) (As := []) (rest := [.ref 15, .ref 0]) (pc := 20) dX4_init_20 lX4_9 fX3_init vX3_init rfl rfl (Nat.le_of_ble_eq_true rfl) rfl (Nat.le_of_ble_eq_true rfl) wctor_X3_init_15 ?_
  intro r9 T9 u9 hq9
  obtain ⟨rfl, rfl, rfl⟩ := hq9
  refine A_putR (pc := 23) dX4_init_23 gX4_16 rfl (Nat.le_of_ble_eq_true rfl) ⟨rfl, rfl, rfl⟩ rfl (Nat.le_of_ble_eq_true rfl) (fun _ => rfl) (fun _ => rfl) ?_
  refine A_Te (T' := (sh0.take 29, gz (rz.drop 44))) rfl ?_
  refine A_aloadn (pc := 26) dX4_init_26 rfl ?_
  refine A_new (pc := 27) (ci := 3) (N := 10) dX4_init_27 kX3 cX4_7 tX3 oX3 (by decide +kernel) (Nat.le_of_ble_eq_true rfl) ?_
  refine A_Tn 29 (sh' := sh0.take 30) rfl rfl (by decide) ?_
  refine A_dup (pc := 30) dX4_init_30 ?_
  refine A_callI (mi2 := mX3_init) (kc0 := 13) (ks0 := 120) (kc := 10) (ks := 131) (As := []) (rest := [.ref 29, .ref 0]) (pc := 31) dX4_init_31 lX4_9 fX3_init vX3_init rfl rfl (Nat.le_of_ble_eq_true rfl) rfl (Nat.le_of_ble_eq_true rfl) wctor_X3_init_29 ?_
  intro r9 T9 u9 hq9
  obtain ⟨rfl, rfl, rfl⟩ := hq9
  refine A_putR (pc := 34) dX4_init_34 gX4_19 rfl (Nat.le_of_ble_eq_true rfl) ⟨rfl, rfl, rfl⟩ rfl (Nat.le_of_ble_eq_true rfl) (fun _ => rfl) (fun _ => rfl) ?_
  refine A_Te (T' := (sh0.take 43, gz (rz.drop 30))) rfl ?_
  refine A_aloadn (pc := 37) dX4_init_37 rfl ?_
  refine A_iconst (pc := 38) 0 dX4_init_38 rfl ?_
  refine A_putI (pc := 39) dX4_init_39 gX4_22 rfl (Nat.le_of_ble_eq_true rfl) rfl rfl rfl rfl ?_
  refine A_aloadn (pc := 42) dX4_init_42 rfl ?_
  refine A_new (pc := 43) (ci := 0) (N := 2) dX4_init_43 kX0 cX4_26 tX0 oX0 (by decide +kernel) (Nat.le_of_ble_eq_true rfl) ?_
  refine A_Tn 43 (sh' := sh0.take 44) rfl rfl (by decide) ?_
  refine A_dup (pc := 46) dX4_init_46 ?_
  refine A_callI (mi2 := mX0_init) (kc0 := 1) (ks0 := 80) (kc := 8) (ks := 49) (As := []) (rest := [.ref 43, .ref 0]) (pc := 47) dX4_init_47 lX4_28 fX0_init vX0_init rfl rfl (Nat.le_of_ble_eq_true rfl) rfl (Nat.le_of_ble_eq_true rfl) wctor_X0_init_43 ?_
  intro r9 T9 u9 hq9
  obtain ⟨rfl, rfl, rfl⟩ := hq9
  refine A_putR (pc := 50) dX4_init_50 gX4_29 rfl (Nat.le_of_ble_eq_true rfl) ⟨rfl, rfl, rfl⟩ rfl (Nat.le_of_ble_eq_true rfl) (fun _ => rfl) (fun _ => rfl) ?_
  refine A_Te (T' := (sh0.take 45, gz (rz.drop 28))) rfl ?_
  refine A_aloadn (pc := 53) dX4_init_53 rfl ?_
  refine A_new (pc := 54) (ci := 1) (N := 8) dX4_init_54 kX1 cX4_33 tX1 oX1 (by decide +kernel) (Nat.le_of_ble_eq_true rfl) ?_
  refine A_Tn 45 (sh' := sh0.take 46) rfl rfl (by decide) ?_
  refine A_dup (pc := 57) dX4_init_57 ?_
  refine A_callI (mi2 := mX1_init) (kc0 := 5) (ks0 := 29) (kc := 2) (ks := 12) (As := []) (rest := [.ref 45, .ref 0]) (pc := 58) dX4_init_58 lX4_35 fX1_init vX1_init rfl rfl (Nat.le_of_ble_eq_true rfl) rfl (Nat.le_of_ble_eq_true rfl) wctor_X1_init_45 ?_
  intro r9 T9 u9 hq9
  obtain ⟨rfl, rfl, rfl⟩ := hq9
  refine A_putR (pc := 61) dX4_init_61 gX4_36 rfl (Nat.le_of_ble_eq_true rfl) ⟨rfl, rfl, rfl⟩ rfl (Nat.le_of_ble_eq_true rfl) (fun _ => rfl) (fun _ => rfl) ?_
  refine A_Te (T' := (sh0.take 51, gz (rz.drop 22))) rfl ?_
  refine A_aloadn (pc := 64) dX4_init_64 rfl ?_
  refine A_iconst (pc := 65) 5 dX4_init_65 rfl ?_
  refine A_newa (pc := 66) 5 dX4_init_66 aw_arr (by decide) rfl (Nat.le_of_ble_eq_true rfl) (Nat.le_of_ble_eq_true rfl) ?_
  refine A_Tn 51 (sh' := sh0.take 52) rfl rfl (by decide) ?_
  refine A_putR (pc := 68) dX4_init_68 gX4_40 rfl (Nat.le_of_ble_eq_true rfl) ⟨rfl, rfl, rfl⟩ rfl (Nat.le_of_ble_eq_true rfl) (fun _ => rfl) (fun _ => rfl) ?_
  refine A_Te (T' := (sh0.take 52, gz (rz.drop 21))) rfl ?_
  refine A_aloadn (pc := 71) dX4_init_71 rfl ?_
  refine A_iconst (pc := 72) 0 dX4_init_72 rfl ?_
  refine A_putI (pc := 73) dX4_init_73 gX4_44 rfl (Nat.le_of_ble_eq_true rfl) rfl rfl rfl rfl ?_
  refine A_aloadn (pc := 76) dX4_init_76 rfl ?_
  refine A_bipush (pc := 77) 7 dX4_init_77 rfl ?_
  refine A_newa (pc := 79) 7 dX4_init_79 aw_arr (by decide) rfl (Nat.le_of_ble_eq_true rfl) (Nat.le_of_ble_eq_true rfl) ?_
  refine A_Tn 52 (sh' := sh0.take 53) rfl rfl (by decide) ?_
  refine A_putR (pc := 81) dX4_init_81 gX4_48 rfl (Nat.le_of_ble_eq_true rfl) ⟨rfl, rfl, rfl⟩ rfl (Nat.le_of_ble_eq_true rfl) (fun _ => rfl) (fun _ => rfl) ?_
  refine A_Te (T' := (sh0.take 53, gz (rz.drop 20))) rfl ?_
  exact A_vret (pc := 84) dX4_init_84 rfl ⟨rfl, rfl, rfl⟩
def us13 : MU := (upz us12 53)
def us14 : MU := (upz (upz (upz (upz (upz (upz (upz (upz (up2 (up2 (upz (upz (upz (upz (upz (upz (upz (upz (up2 (up2 (up2 (up2 (up2 (upz (up2 (up2 (up2 (up2 (up2 (upz (up2 (up2 (up2 (up2 (up2 (upz (upz us13 54) 55) 55 (Int32.toNatClampNeg 0) 2) 55 (Int32.toNatClampNeg 1) 2) 55 (Int32.toNatClampNeg 2) 2) 55 (Int32.toNatClampNeg 3) 2) 55 (Int32.toNatClampNeg 4) 2) 56) 56 (Int32.toNatClampNeg 0) 2) 56 (Int32.toNatClampNeg 1) 2) 56 (Int32.toNatClampNeg 2) 2) 56 (Int32.toNatClampNeg 3) 2) 56 (Int32.toNatClampNeg 4) 2) 57) 57 (Int32.toNatClampNeg 0) (-9)) 57 (Int32.toNatClampNeg 1) (-9)) 57 (Int32.toNatClampNeg 2) (-9)) 57 (Int32.toNatClampNeg 3) (-9)) 57 (Int32.toNatClampNeg 4) (-9)) 58) 59) 60) 61) 62) 63) 64) 65) 53 12 3) 53 14 1) 66) 67) 68) 69) 70) 71) 72) 73)
set_option maxHeartbeats 4000000 in
set_option maxRecDepth 100000 in
theorem wctor_X5_init_53 {G : GG} {d : Nat} : AW G (d + 1) mX5_init 0 [.ref 53] [] (sh0.take 54, gz (rz.drop 20)) us13 20 877 (QV (sh0.take 74, gz (rz.drop 0)) us14) := by
  refine A_aloadn (pc := 0) dX5_init_0 rfl ?_
  refine A_obj (pc := 1) dX5_init_1 lX5_1 aobj_2 aobj_3 (Nat.le_of_ble_eq_true rfl) ?_
  refine A_aloadn (pc := 4) dX5_init_4 rfl ?_
  refine A_bipush (pc := 5) 7 dX5_init_5 rfl ?_
  refine A_newa (pc := 7) 7 dX5_init_7 aw_arr (by decide) rfl (Nat.le_of_ble_eq_true rfl) (Nat.le_of_ble_eq_true rfl) ?_
  refine A_Tn 54 (sh' := sh0.take 55) rfl rfl (by decide) ?_
  refine A_putR (pc := 9) dX5_init_9 gX5_7 rfl (Nat.le_of_ble_eq_true rfl) ⟨rfl, rfl, rfl⟩ rfl (Nat.le_of_ble_eq_true rfl) (fun _ => rfl) (fun _ => rfl) ?_
  refine A_Te (T' := (sh0.take 55, gz (rz.drop 19))) rfl ?_
  refine A_aloadn (pc := 12) dX5_init_12 rfl ?_
  refine A_iconst (pc := 13) 5 dX5_init_13 rfl ?_
  refine A_newa (pc := 14) 5 dX5_init_14 aw_arr (by decide) rfl (Nat.le_of_ble_eq_true rfl) (Nat.le_of_ble_eq_true rfl) ?_
  refine A_Tn 55 (sh' := sh0.take 56) rfl rfl (by decide) ?_
  refine A_dup (pc := 16) dX5_init_16 ?_
  refine A_iconst (pc := 17) 0 dX5_init_17 rfl ?_
  refine A_iconst (pc := 18) 2 dX5_init_18 rfl ?_
  refine A_iast (pc := 19) dX5_init_19 (n := 5) rfl (by unfold vp_in; decide) ?_
  refine A_dup (pc := 20) dX5_init_20 ?_
  refine A_iconst (pc := 21) 1 dX5_init_21 rfl ?_
  refine A_iconst (pc := 22) 2 dX5_init_22 rfl ?_
  refine A_iast (pc := 23) dX5_init_23 (n := 5) rfl (by unfold vp_in; decide) ?_
  refine A_dup (pc := 24) dX5_init_24 ?_
  refine A_iconst (pc := 25) 2 dX5_init_25 rfl ?_
  refine A_iconst (pc := 26) 2 dX5_init_26 rfl ?_
  refine A_iast (pc := 27) dX5_init_27 (n := 5) rfl (by unfold vp_in; decide) ?_
  refine A_dup (pc := 28) dX5_init_28 ?_
  refine A_iconst (pc := 29) 3 dX5_init_29 rfl ?_
  refine A_iconst (pc := 30) 2 dX5_init_30 rfl ?_
  refine A_iast (pc := 31) dX5_init_31 (n := 5) rfl (by unfold vp_in; decide) ?_
  refine A_dup (pc := 32) dX5_init_32 ?_
  refine A_iconst (pc := 33) 4 dX5_init_33 rfl ?_
  refine A_iconst (pc := 34) 2 dX5_init_34 rfl ?_
  refine A_iast (pc := 35) dX5_init_35 (n := 5) rfl (by unfold vp_in; decide) ?_
  refine A_putR (pc := 36) dX5_init_36 gX5_13 rfl (Nat.le_of_ble_eq_true rfl) ⟨rfl, rfl, rfl⟩ rfl (Nat.le_of_ble_eq_true rfl) (fun _ => rfl) (fun _ => rfl) ?_
  refine A_Te (T' := (sh0.take 56, gz (rz.drop 18))) rfl ?_
  refine A_aloadn (pc := 39) dX5_init_39 rfl ?_
  refine A_iconst (pc := 40) 5 dX5_init_40 rfl ?_
  refine A_newa (pc := 41) 5 dX5_init_41 aw_arr (by decide) rfl (Nat.le_of_ble_eq_true rfl) (Nat.le_of_ble_eq_true rfl) ?_
  refine A_Tn 56 (sh' := sh0.take 57) rfl rfl (by decide) ?_
  refine A_dup (pc := 43) dX5_init_43 ?_
  refine A_iconst (pc := 44) 0 dX5_init_44 rfl ?_
  refine A_iconst (pc := 45) 2 dX5_init_45 rfl ?_
  refine A_iast (pc := 46) dX5_init_46 (n := 5) rfl (by unfold vp_in; decide) ?_
  refine A_dup (pc := 47) dX5_init_47 ?_
  refine A_iconst (pc := 48) 1 dX5_init_48 rfl ?_
  refine A_iconst (pc := 49) 2 dX5_init_49 rfl ?_
  refine A_iast (pc := 50) dX5_init_50 (n := 5) rfl (by unfold vp_in; decide) ?_
  refine A_dup (pc := 51) dX5_init_51 ?_
  refine A_iconst (pc := 52) 2 dX5_init_52 rfl ?_
  refine A_iconst (pc := 53) 2 dX5_init_53 rfl ?_
  refine A_iast (pc := 54) dX5_init_54 (n := 5) rfl (by unfold vp_in; decide) ?_
  refine A_dup (pc := 55) dX5_init_55 ?_
  refine A_iconst (pc := 56) 3 dX5_init_56 rfl ?_
  refine A_iconst (pc := 57) 2 dX5_init_57 rfl ?_
  refine A_iast (pc := 58) dX5_init_58 (n := 5) rfl (by unfold vp_in; decide) ?_
  refine A_dup (pc := 59) dX5_init_59 ?_
  refine A_iconst (pc := 60) 4 dX5_init_60 rfl ?_
  refine A_iconst (pc := 61) 2 dX5_init_61 rfl ?_
  refine A_iast (pc := 62) dX5_init_62 (n := 5) rfl (by unfold vp_in; decide) ?_
  refine A_putR (pc := 63) dX5_init_63 gX5_16 rfl (Nat.le_of_ble_eq_true rfl) ⟨rfl, rfl, rfl⟩ rfl (Nat.le_of_ble_eq_true rfl) (fun _ => rfl) (fun _ => rfl) ?_
  refine A_Te (T' := (sh0.take 57, gz (rz.drop 17))) rfl ?_
  refine A_aloadn (pc := 66) dX5_init_66 rfl ?_
  refine A_iconst (pc := 67) 5 dX5_init_67 rfl ?_
  refine A_newa (pc := 68) 5 dX5_init_68 aw_arr (by decide) rfl (Nat.le_of_ble_eq_true rfl) (Nat.le_of_ble_eq_true rfl) ?_
  refine A_Tn 57 (sh' := sh0.take 58) rfl rfl (by decide) ?_
  refine A_dup (pc := 70) dX5_init_70 ?_
  refine A_iconst (pc := 71) 0 dX5_init_71 rfl ?_
  refine A_bipush (pc := 72) (-9) dX5_init_72 rfl ?_
  refine A_iast (pc := 74) dX5_init_74 (n := 5) rfl (by unfold vp_in; decide) ?_
  refine A_dup (pc := 75) dX5_init_75 ?_
  refine A_iconst (pc := 76) 1 dX5_init_76 rfl ?_
  refine A_bipush (pc := 77) (-9) dX5_init_77 rfl ?_
  refine A_iast (pc := 79) dX5_init_79 (n := 5) rfl (by unfold vp_in; decide) ?_
  refine A_dup (pc := 80) dX5_init_80 ?_
  refine A_iconst (pc := 81) 2 dX5_init_81 rfl ?_
  refine A_bipush (pc := 82) (-9) dX5_init_82 rfl ?_
  refine A_iast (pc := 84) dX5_init_84 (n := 5) rfl (by unfold vp_in; decide) ?_
  refine A_dup (pc := 85) dX5_init_85 ?_
  refine A_iconst (pc := 86) 3 dX5_init_86 rfl ?_
  refine A_bipush (pc := 87) (-9) dX5_init_87 rfl ?_
  refine A_iast (pc := 89) dX5_init_89 (n := 5) rfl (by unfold vp_in; decide) ?_
  refine A_dup (pc := 90) dX5_init_90 ?_
  refine A_iconst (pc := 91) 4 dX5_init_91 rfl ?_
  refine A_bipush (pc := 92) (-9) dX5_init_92 rfl ?_
  refine A_iast (pc := 94) dX5_init_94 (n := 5) rfl (by unfold vp_in; decide) ?_
  refine A_putR (pc := 95) dX5_init_95 gX5_19 rfl (Nat.le_of_ble_eq_true rfl) ⟨rfl, rfl, rfl⟩ rfl (Nat.le_of_ble_eq_true rfl) (fun _ => rfl) (fun _ => rfl) ?_
  refine A_Te (T' := (sh0.take 58, gz (rz.drop 16))) rfl ?_
  refine A_aloadn (pc := 98) dX5_init_98 rfl ?_
  refine A_bipush (pc := 99) 7 dX5_init_99 rfl ?_
  refine A_newa (pc := 101) 7 dX5_init_101 aw_arr (by decide) rfl (Nat.le_of_ble_eq_true rfl) (Nat.le_of_ble_eq_true rfl) ?_
  refine A_Tn 58 (sh' := sh0.take 59) rfl rfl (by decide) ?_
  refine A_putR (pc := 103) dX5_init_103 gX5_22 rfl (Nat.le_of_ble_eq_true rfl) ⟨rfl, rfl, rfl⟩ rfl (Nat.le_of_ble_eq_true rfl) (fun _ => rfl) (fun _ => rfl) ?_
  refine A_Te (T' := (sh0.take 59, gz (rz.drop 15))) rfl ?_
  refine A_aloadn (pc := 106) dX5_init_106 rfl ?_
  refine A_bipush (pc := 107) 7 dX5_init_107 rfl ?_
  refine A_newa (pc := 109) 7 dX5_init_109 aw_arr (by decide) rfl (Nat.le_of_ble_eq_true rfl) (Nat.le_of_ble_eq_true rfl) ?_
  refine A_Tn 59 (sh' := sh0.take 60) rfl rfl (by decide) ?_
  refine A_putR (pc := 111) dX5_init_111 gX5_25 rfl (Nat.le_of_ble_eq_true rfl) ⟨rfl, rfl, rfl⟩ rfl (Nat.le_of_ble_eq_true rfl) (fun _ => rfl) (fun _ => rfl) ?_
  refine A_Te (T' := (sh0.take 60, gz (rz.drop 14))) rfl ?_
  refine A_aloadn (pc := 114) dX5_init_114 rfl ?_
  refine A_bipush (pc := 115) 7 dX5_init_115 rfl ?_
  refine A_newa (pc := 117) 7 dX5_init_117 aw_arr (by decide) rfl (Nat.le_of_ble_eq_true rfl) (Nat.le_of_ble_eq_true rfl) ?_
  refine A_Tn 60 (sh' := sh0.take 61) rfl rfl (by decide) ?_
  refine A_putR (pc := 119) dX5_init_119 gX5_28 rfl (Nat.le_of_ble_eq_true rfl) ⟨rfl, rfl, rfl⟩ rfl (Nat.le_of_ble_eq_true rfl) (fun _ => rfl) (fun _ => rfl) ?_
  refine A_Te (T' := (sh0.take 61, gz (rz.drop 13))) rfl ?_
  refine A_aloadn (pc := 122) dX5_init_122 rfl ?_
  refine A_bipush (pc := 123) 7 dX5_init_123 rfl ?_
  refine A_newa (pc := 125) 7 dX5_init_125 aw_arr (by decide) rfl (Nat.le_of_ble_eq_true rfl) (Nat.le_of_ble_eq_true rfl) ?_
  refine A_Tn 61 (sh' := sh0.take 62) rfl rfl (by decide) ?_
  refine A_putR (pc := 127) dX5_init_127 gX5_31 rfl (Nat.le_of_ble_eq_true rfl) ⟨rfl, rfl, rfl⟩ rfl (Nat.le_of_ble_eq_true rfl) (fun _ => rfl) (fun _ => rfl) ?_
  refine A_Te (T' := (sh0.take 62, gz (rz.drop 12))) rfl ?_
  refine A_aloadn (pc := 130) dX5_init_130 rfl ?_
  refine A_bipush (pc := 131) 7 dX5_init_131 rfl ?_
  refine A_newa (pc := 133) 7 dX5_init_133 aw_arr (by decide) rfl (Nat.le_of_ble_eq_true rfl) (Nat.le_of_ble_eq_true rfl) ?_
  refine A_Tn 62 (sh' := sh0.take 63) rfl rfl (by decide) ?_
  refine A_putR (pc := 135) dX5_init_135 gX5_34 rfl (Nat.le_of_ble_eq_true rfl) ⟨rfl, rfl, rfl⟩ rfl (Nat.le_of_ble_eq_true rfl) (fun _ => rfl) (fun _ => rfl) ?_
  refine A_Te (T' := (sh0.take 63, gz (rz.drop 11))) rfl ?_
  refine A_aloadn (pc := 138) dX5_init_138 rfl ?_
  refine A_bipush (pc := 139) 7 dX5_init_139 rfl ?_
  refine A_newa (pc := 141) 7 dX5_init_141 aw_arr (by decide) rfl (Nat.le_of_ble_eq_true rfl) (Nat.le_of_ble_eq_true rfl) ?_
  refine A_Tn 63 (sh' := sh0.take 64) rfl rfl (by decide) ?_
  refine A_putR (pc := 143) dX5_init_143 gX5_37 rfl (Nat.le_of_ble_eq_true rfl) ⟨rfl, rfl, rfl⟩ rfl (Nat.le_of_ble_eq_true rfl) (fun _ => rfl) (fun _ => rfl) ?_
  refine A_Te (T' := (sh0.take 64, gz (rz.drop 10))) rfl ?_
  refine A_aloadn (pc := 146) dX5_init_146 rfl ?_
  refine A_bipush (pc := 147) 49 dX5_init_147 rfl ?_
  refine A_newa (pc := 149) 49 dX5_init_149 aw_arr (by decide) rfl (Nat.le_of_ble_eq_true rfl) (Nat.le_of_ble_eq_true rfl) ?_
  refine A_Tn 64 (sh' := sh0.take 65) rfl rfl (by decide) ?_
  refine A_putR (pc := 151) dX5_init_151 gX5_40 rfl (Nat.le_of_ble_eq_true rfl) ⟨rfl, rfl, rfl⟩ rfl (Nat.le_of_ble_eq_true rfl) (fun _ => rfl) (fun _ => rfl) ?_
  refine A_Te (T' := (sh0.take 65, gz (rz.drop 9))) rfl ?_
  refine A_aloadn (pc := 154) dX5_init_154 rfl ?_
  refine A_bipush (pc := 155) 49 dX5_init_155 rfl ?_
  refine A_newa (pc := 157) 49 dX5_init_157 aw_arr (by decide) rfl (Nat.le_of_ble_eq_true rfl) (Nat.le_of_ble_eq_true rfl) ?_
  refine A_Tn 65 (sh' := sh0.take 66) rfl rfl (by decide) ?_
  refine A_putR (pc := 159) dX5_init_159 gX5_43 rfl (Nat.le_of_ble_eq_true rfl) ⟨rfl, rfl, rfl⟩ rfl (Nat.le_of_ble_eq_true rfl) (fun _ => rfl) (fun _ => rfl) ?_
  refine A_Te (T' := (sh0.take 66, gz (rz.drop 8))) rfl ?_
  refine A_aloadn (pc := 162) dX5_init_162 rfl ?_
  refine A_iconst (pc := 163) 3 dX5_init_163 rfl ?_
  refine A_putI (pc := 164) dX5_init_164 gX5_46 rfl (Nat.le_of_ble_eq_true rfl) rfl rfl rfl rfl ?_
  refine A_aloadn (pc := 167) dX5_init_167 rfl ?_
  refine A_iconst (pc := 168) 1 dX5_init_168 rfl ?_
  refine A_putI (pc := 169) dX5_init_169 gX5_50 rfl (Nat.le_of_ble_eq_true rfl) rfl rfl rfl rfl ?_
  refine A_aloadn (pc := 172) dX5_init_172 rfl ?_
  refine A_bipush (pc := 173) 80 dX5_init_173 rfl ?_
  refine A_newa (pc := 175) 80 dX5_init_175 aw_arr (by decide) rfl (Nat.le_of_ble_eq_true rfl) (Nat.le_of_ble_eq_true rfl) ?_
  refine A_Tn 66 (sh' := sh0.take 67) rfl rfl (by decide) ?_
  refine A_putR (pc := 177) dX5_init_177 gX5_53 rfl (Nat.le_of_ble_eq_true rfl) ⟨rfl, rfl, rfl⟩ rfl (Nat.le_of_ble_eq_true rfl) (fun _ => rfl) (fun _ => rfl) ?_
  refine A_Te (T' := (sh0.take 67, gz (rz.drop 7))) rfl ?_
  refine A_aloadn (pc := 180) dX5_init_180 rfl ?_
  refine A_bipush (pc := 181) 40 dX5_init_181 rfl ?_
  refine A_newa (pc := 183) 40 dX5_init_183 aw_arr (by decide) rfl (Nat.le_of_ble_eq_true rfl) (Nat.le_of_ble_eq_true rfl) ?_
  refine A_Tn 67 (sh' := sh0.take 68) rfl rfl (by decide) ?_
  refine A_putR (pc := 185) dX5_init_185 gX5_56 rfl (Nat.le_of_ble_eq_true rfl) ⟨rfl, rfl, rfl⟩ rfl (Nat.le_of_ble_eq_true rfl) (fun _ => rfl) (fun _ => rfl) ?_
  refine A_Te (T' := (sh0.take 68, gz (rz.drop 6))) rfl ?_
  refine A_aloadn (pc := 188) dX5_init_188 rfl ?_
  refine A_bipush (pc := 189) 40 dX5_init_189 rfl ?_
  refine A_newa (pc := 191) 40 dX5_init_191 aw_arr (by decide) rfl (Nat.le_of_ble_eq_true rfl) (Nat.le_of_ble_eq_true rfl) ?_
  refine A_Tn 68 (sh' := sh0.take 69) rfl rfl (by decide) ?_
  refine A_putR (pc := 193) dX5_init_193 gX5_59 rfl (Nat.le_of_ble_eq_true rfl) ⟨rfl, rfl, rfl⟩ rfl (Nat.le_of_ble_eq_true rfl) (fun _ => rfl) (fun _ => rfl) ?_
  refine A_Te (T' := (sh0.take 69, gz (rz.drop 5))) rfl ?_
  refine A_aloadn (pc := 196) dX5_init_196 rfl ?_
  refine A_sipush (pc := 197) 200 dX5_init_197 rfl ?_
  refine A_newa (pc := 200) 200 dX5_init_200 aw_arr (by decide) rfl (Nat.le_of_ble_eq_true rfl) (Nat.le_of_ble_eq_true rfl) ?_
  refine A_Tn 69 (sh' := sh0.take 70) rfl rfl (by decide) ?_
  refine A_putR (pc := 202) dX5_init_202 gX5_62 rfl (Nat.le_of_ble_eq_true rfl) ⟨rfl, rfl, rfl⟩ rfl (Nat.le_of_ble_eq_true rfl) (fun _ => rfl) (fun _ => rfl) ?_
  refine A_Te (T' := (sh0.take 70, gz (rz.drop 4))) rfl ?_
  refine A_aloadn (pc := 205) dX5_init_205 rfl ?_
  refine A_sipush (pc := 206) 340 dX5_init_206 rfl ?_
  refine A_newa (pc := 209) 340 dX5_init_209 aw_arr (by decide) rfl (Nat.le_of_ble_eq_true rfl) (Nat.le_of_ble_eq_true rfl) ?_
  refine A_Tn 70 (sh' := sh0.take 71) rfl rfl (by decide) ?_
  refine A_putR (pc := 211) dX5_init_211 gX5_65 rfl (Nat.le_of_ble_eq_true rfl) ⟨rfl, rfl, rfl⟩ rfl (Nat.le_of_ble_eq_true rfl) (fun _ => rfl) (fun _ => rfl) ?_
  refine A_Te (T' := (sh0.take 71, gz (rz.drop 3))) rfl ?_
  refine A_aloadn (pc := 214) dX5_init_214 rfl ?_
  refine A_iconst (pc := 215) 5 dX5_init_215 rfl ?_
  refine A_newa (pc := 216) 5 dX5_init_216 aw_arr (by decide) rfl (Nat.le_of_ble_eq_true rfl) (Nat.le_of_ble_eq_true rfl) ?_
  refine A_Tn 71 (sh' := sh0.take 72) rfl rfl (by decide) ?_
  refine A_putR (pc := 218) dX5_init_218 gX5_68 rfl (Nat.le_of_ble_eq_true rfl) ⟨rfl, rfl, rfl⟩ rfl (Nat.le_of_ble_eq_true rfl) (fun _ => rfl) (fun _ => rfl) ?_
  refine A_Te (T' := (sh0.take 72, gz (rz.drop 2))) rfl ?_
  refine A_aloadn (pc := 221) dX5_init_221 rfl ?_
  refine A_iconst (pc := 222) 5 dX5_init_222 rfl ?_
  refine A_newa (pc := 223) 5 dX5_init_223 aw_arr (by decide) rfl (Nat.le_of_ble_eq_true rfl) (Nat.le_of_ble_eq_true rfl) ?_
  refine A_Tn 72 (sh' := sh0.take 73) rfl rfl (by decide) ?_
  refine A_putR (pc := 225) dX5_init_225 gX5_71 rfl (Nat.le_of_ble_eq_true rfl) ⟨rfl, rfl, rfl⟩ rfl (Nat.le_of_ble_eq_true rfl) (fun _ => rfl) (fun _ => rfl) ?_
  refine A_Te (T' := (sh0.take 73, gz (rz.drop 1))) rfl ?_
  refine A_aloadn (pc := 228) dX5_init_228 rfl ?_
  refine A_iconst (pc := 229) 5 dX5_init_229 rfl ?_
  refine A_newa (pc := 230) 5 dX5_init_230 aw_arr (by decide) rfl (Nat.le_of_ble_eq_true rfl) (Nat.le_of_ble_eq_true rfl) ?_
  refine A_Tn 73 (sh' := sh0.take 74) rfl rfl (by decide) ?_
  refine A_putR (pc := 232) dX5_init_232 gX5_74 rfl (Nat.le_of_ble_eq_true rfl) ⟨rfl, rfl, rfl⟩ rfl (Nat.le_of_ble_eq_true rfl) (fun _ => rfl) (fun _ => rfl) ?_
  refine A_Te (T' := (sh0.take 74, gz (rz.drop 0))) rfl ?_
  exact A_vret (pc := 235) dX5_init_235 rfl ⟨rfl, rfl, rfl⟩
def usz : MU := us14
set_option maxHeartbeats 4000000 in
set_option maxRecDepth 100000 in
theorem wlaw_start {G : GG} {d : Nat} {Q : QQ} (hk : AW G (d + 4) mL_law 18 [.ref aw_S, .ref 0, .ref 53, .int 0] [] (sh0.take 74, gz (rz.drop 0)) usz 0 0 Q) : AW G (d + 4) mL_law 0 [.ref aw_S, .null, .null, .null] [] (sh0.take 0, gz (rz.drop 72)) (fun _ _ => 0) 74 1442 Q := by
  refine A_new (pc := 0) (ci := 4) (N := 9) dL_law_0 kX4 cL_7 tX4 oX4 (by decide +kernel) (Nat.le_of_ble_eq_true rfl) ?_
  refine A_Tn 0 (sh' := sh0.take 1) rfl rfl (by decide) ?_
  refine A_dup (pc := 3) dL_law_3 ?_
  refine A_callI (mi2 := mX4_init) (kc0 := 52) (ks0 := 521) (kc := 21) (ks := 912) (As := []) (rest := [.ref 0]) (pc := 4) dL_law_4 lL_9 fX4_init vX4_init rfl rfl (Nat.le_of_ble_eq_true rfl) rfl (Nat.le_of_ble_eq_true rfl) wctor_X4_init_0 ?_
  intro r9 T9 u9 hq9
  obtain ⟨rfl, rfl, rfl⟩ := hq9
  refine A_astn (pc := 7) (L2 := [.ref aw_S, .ref 0, .null, .null]) dL_law_7 (Nat.le_of_ble_eq_true rfl) rfl ?_
  refine A_new (pc := 8) (ci := 5) (N := 35) dL_law_8 kX5 cL_10 tX5 oX5 (by decide +kernel) (Nat.le_of_ble_eq_true rfl) ?_
  refine A_Tn 53 (sh' := sh0.take 54) rfl rfl (by decide) ?_
  refine A_dup (pc := 11) dL_law_11 ?_
  refine A_callI (mi2 := mX5_init) (kc0 := 20) (ks0 := 877) (kc := 0) (ks := 0) (As := []) (rest := [.ref 53]) (pc := 12) dL_law_12 lL_12 fX5_init vX5_init rfl rfl (Nat.le_of_ble_eq_true rfl) rfl (Nat.le_of_ble_eq_true rfl) wctor_X5_init_53 ?_
  intro r9 T9 u9 hq9
  obtain ⟨rfl, rfl, rfl⟩ := hq9
  refine A_astn (pc := 15) (L2 := [.ref aw_S, .ref 0, .ref 53, .null]) dL_law_15 (Nat.le_of_ble_eq_true rfl) rfl ?_
  refine A_iconst (pc := 16) 0 dL_law_16 rfl ?_
  refine A_istn (pc := 17) (L2 := [.ref aw_S, .ref 0, .ref 53, .int 0]) dL_law_17 (Nat.le_of_ble_eq_true rfl) rfl ?_
  exact hk
theorem lay_z : LAY (sh0.take 74, gz (rz.drop 0)) := ⟨rfl, by decide +kernel⟩
