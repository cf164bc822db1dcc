def zX1_ableIn_L5 (n : Nat) (u : MU) (r1 : Nat) (s2 : Int32) (k : Int32 → Int32 → Option (Int32)) : Nat → Int32 → Int32 → Option (Int32)
  | 0, _, _ => none
  | m + 1, t3, t4 => if (u r1 3) ≤ t4 then (k t3 t4) else (Option.bind (zX3_whyNot n u r1 s2 t4) (fun q2 => if q2 = (-9) then (letb (t3 ||| (1 <<< (t4 &&& 31))) (fun x5 => zX1_ableIn_L5 n u r1 s2 k m x5 (t4 + 1))) else (zX1_ableIn_L5 n u r1 s2 k m t3 (t4 + 1))))
def zX1_ableIn (n : Nat) (u : MU) (r1 : Nat) (a2 : Int32) : Option (Int32) := zX1_ableIn_L5 n u r1 a2 (fun y6 y7 => some y6) n 0 0
set_option maxHeartbeats 4000000 in
set_option maxRecDepth 100000 in
theorem wX1_ableIn_L5 {G : GG} {T : TT} {n d : Nat} (hd : 3 ≤ d) {u : MU} {r1 : Nat} {s2 : Int32} {k : Int32 → Int32 → Option (Int32)} (hT : LAY T) (hR1 : RV T r1) (hk : ∀ (t3 : Int32) (t4 : Int32) (q : Int32), k t3 t4 = some q → AW G d mX1_ableIn 39 [.null, .ref r1, .int s2, .int t3, .int t4] [] T u 0 0 (QS T q u)) : ∀ (m : Nat) (t3 : Int32) (t4 : Int32) (q : Int32), zX1_ableIn_L5 n u r1 s2 k m t3 t4 = some q → AW G d mX1_ableIn 5 [.null, .ref r1, .int s2, .int t3, .int t4] [] T u 0 0 (QS T q u) := by
  intro m
  obtain ⟨d, rfl⟩ : ∃ e, d = e + 1 := ⟨d - 1, by omega⟩
  induction m with
  | zero =>
    intro t3 t4 q hf
    have h0 : (none : Option (Int32)) = some q := hf
    cases h0
  | succ m ih =>
    intro t3 t4 q hf
    rw [zX1_ableIn_L5] at hf
    refine A_iload (pc := 5) dX1_ableIn_5 rfl ?_
    refine A_aloadn (pc := 7) dX1_ableIn_7 rfl ?_
    refine A_getI (pc := 8) dX1_ableIn_8 gX1_65 (rv_0 hR1) (Nat.le_of_ble_eq_true rfl) rfl ?_
    refine A_icmp_ge (pc := 11) 39 dX1_ableIn_11 (by decide) (fun cc1 => ?_) (fun cc1 => ?_)
    · have hf := oi_t cc1 hf
      exact hk _ _ _ hf
    have hf := oi_f cc1 hf
    refine A_aloadn (pc := 14) dX1_ableIn_14 rfl ?_
    refine A_iloadn (pc := 15) dX1_ableIn_15 rfl ?_
    refine A_iload (pc := 16) dX1_ableIn_16 rfl ?_
    obtain ⟨q2, h3, hf⟩ := oi_b hf
    refine A_cV2i (mi2 := mX3_whyNot) (pc := 18) dX1_ableIn_18 lX1_68 fX3_whyNot vX3_whyNot (rv_0 hR1) rfl (Nat.le_of_ble_eq_true rfl) rfl (Nat.le_of_ble_eq_true rfl) (wX3_whyNot (by omega) hT hR1 h3) ?_
    refine A_bipush (pc := 21) (-9) dX1_ableIn_21 rfl ?_
    refine A_icmp_ne (pc := 23) 33 dX1_ableIn_23 (by decide) (fun cc4 => ?_) (fun cc4 => ?_)
    · have hf := oi_f cc4 hf
      refine A_inc (pc := 33) (L2 := [.null, .ref r1, .int s2, .int t3, .int (t4 + 1)]) (t4 + 1) dX1_ableIn_33 rfl rfl rfl ?_
      refine A_goto (pc := 36) 5 dX1_ableIn_36 (by decide) ?_
      exact ih _ _ _ hf
    have hf := oi_t cc4 hf
    refine A_iloadn (pc := 26) dX1_ableIn_26 rfl ?_
    refine A_iconst (pc := 27) 1 dX1_ableIn_27 rfl ?_
    refine A_iload (pc := 28) dX1_ableIn_28 rfl ?_
    refine A_ishl (pc := 30) dX1_ableIn_30 ?_
    refine A_ior (pc := 31) dX1_ableIn_31 ?_
    have hf := oi_l hf
    refine A_istn (pc := 32) (L2 := [.null, .ref r1, .int s2, .int (t3 ||| (1 <<< (t4 &&& 31))), .int t4]) dX1_ableIn_32 (Nat.le_of_ble_eq_true rfl) rfl ?_
    refine A_inc (pc := 33) (L2 := [.null, .ref r1, .int s2, .int (t3 ||| (1 <<< (t4 &&& 31))), .int (t4 + 1)]) (t4 + 1) dX1_ableIn_33 rfl rfl rfl ?_
    refine A_goto (pc := 36) 5 dX1_ableIn_36 (by decide) ?_
    exact ih _ _ _ hf
set_option maxHeartbeats 4000000 in
set_option maxRecDepth 100000 in
theorem wX1_ableIn {G : GG} {T : TT} {n d : Nat} (hd : 3 ≤ d) {q : Int32} {u : MU} {r1 : Nat} {a2 : Int32} (hT : LAY T) (hR1 : RV T r1) (hf : zX1_ableIn n u r1 a2 = some q) : AW G d mX1_ableIn 0 [.ref 45, .ref r1, .int a2, .null, .null] [] T u 0 0 (QS T q u) := by
  obtain ⟨d, rfl⟩ : ∃ e, d = e + 1 := ⟨d - 1, by omega⟩
  rw [zX1_ableIn] at hf
  refine A_iconst (pc := 0) 0 dX1_ableIn_0 rfl ?_
  refine A_istn (pc := 1) (L2 := [.ref 45, .ref r1, .int a2, .int 0, .null]) dX1_ableIn_1 (Nat.le_of_ble_eq_true rfl) rfl ?_
  refine A_iconst (pc := 2) 0 dX1_ableIn_2 rfl ?_
  refine A_ist (pc := 3) (L2 := [.ref 45, .ref r1, .int a2, .int 0, .int 0]) dX1_ableIn_3 (Nat.le_of_ble_eq_true rfl) rfl ?_
  refine A_fgt 0 (L' := [.null, .ref r1, .int a2, .int 0, .int 0]) rfl ?_
  exact wX1_ableIn_L5 (by omega) hT hR1 (fun y6 y7 q0 hf => by
    refine A_iloadn (pc := 39) dX1_ableIn_39 rfl ?_
    obtain rfl := Option.some.inj hf
    exact A_iret (pc := 40) dX1_ableIn_40 rfl rfl ⟨rfl, rfl, rfl⟩) _ _ _ _ hf
def zX1_weigh_L74 (n : Nat) (s1 : Int32) (k : Int32 → MU → Option (MU)) : Nat → Int32 → MU → Option (MU)
  | 0, _, _ => none
  | m + 1, t4, u => if s1 ≤ t4 then (k t4 u) else (if oob t4 5 then none else if oob (u 46 t4.toNatClampNeg) 7 then none else if oob (u 46 t4.toNatClampNeg) 7 then none else letb (up2 u 50 (u 46 t4.toNatClampNeg).toNatClampNeg ((u 50 (u 46 t4.toNatClampNeg).toNatClampNeg) ||| (1 <<< (t4 &&& 31)))) (fun u13 => zX1_weigh_L74 n  s1 k m (t4 + 1) u13))
def zX1_weigh (n : Nat) (u : MU) (a1 : Int32) (a2 : Int32) (a3 : Int32) : Option (MU) := if (u 45 6) = (-9) then (letb (up2 u 45 6 a2) (fun u2 => if a2 ≤ 0 then (if (u2 45 3) = 0 then (letb (up2 u2 45 4 a3) (fun u5 => if a1 < 0 ∨ 5 < a1.toNatClampNeg ∨ 5 < a1.toNatClampNeg then none else letb (upc u5 46 49 0 0 (a1 : Int32).toNatClampNeg) (fun u7 => letb (up2 u7 45 3 ((u7 45 3) + 1)) (fun u8 => zX1_weigh_L74 n  a1 (fun y14 w15 => some w15) n 0 u8)))) else (if a3 ≤ (u2 45 4) then (letb (up2 u2 45 3 ((u2 45 3) + 1)) (fun u17 => zX1_weigh_L74 n  a1 (fun y18 w19 => some w19) n 0 u17)) else (letb (up2 u2 45 4 a3) (fun u20 => if a1 < 0 ∨ 5 < a1.toNatClampNeg ∨ 5 < a1.toNatClampNeg then none else letb (upc u20 46 49 0 0 (a1 : Int32).toNatClampNeg) (fun u22 => letb (up2 u22 45 3 ((u22 45 3) + 1)) (fun u23 => zX1_weigh_L74 n  a1 (fun y24 w25 => some w25) n 0 u23)))))) else (some u2))) else (if (u 45 6) ≤ a2 then (if a2 ≤ 0 then (if (u 45 3) = 0 then (letb (up2 u 45 4 a3) (fun u29 => if a1 < 0 ∨ 5 < a1.toNatClampNeg ∨ 5 < a1.toNatClampNeg then none else letb (upc u29 46 49 0 0 (a1 : Int32).toNatClampNeg) (fun u31 => letb (up2 u31 45 3 ((u31 45 3) + 1)) (fun u32 => zX1_weigh_L74 n  a1 (fun y33 w34 => some w34) n 0 u32)))) else (if a3 ≤ (u 45 4) then (letb (up2 u 45 3 ((u 45 3) + 1)) (fun u36 => zX1_weigh_L74 n  a1 (fun y37 w38 => some w38) n 0 u36)) else (letb (up2 u 45 4 a3) (fun u39 => if a1 < 0 ∨ 5 < a1.toNatClampNeg ∨ 5 < a1.toNatClampNeg then none else letb (upc u39 46 49 0 0 (a1 : Int32).toNatClampNeg) (fun u41 => letb (up2 u41 45 3 ((u41 45 3) + 1)) (fun u42 => zX1_weigh_L74 n  a1 (fun y43 w44 => some w44) n 0 u42)))))) else (some u)) else (letb (up2 u 45 6 a2) (fun u45 => if a2 ≤ 0 then (if (u45 45 3) = 0 then (letb (up2 u45 45 4 a3) (fun u48 => if a1 < 0 ∨ 5 < a1.toNatClampNeg ∨ 5 < a1.toNatClampNeg then none else letb (upc u48 46 49 0 0 (a1 : Int32).toNatClampNeg) (fun u50 => letb (up2 u50 45 3 ((u50 45 3) + 1)) (fun u51 => zX1_weigh_L74 n  a1 (fun y52 w53 => some w53) n 0 u51)))) else (if a3 ≤ (u45 45 4) then (letb (up2 u45 45 3 ((u45 45 3) + 1)) (fun u55 => zX1_weigh_L74 n  a1 (fun y56 w57 => some w57) n 0 u55)) else (letb (up2 u45 45 4 a3) (fun u58 => if a1 < 0 ∨ 5 < a1.toNatClampNeg ∨ 5 < a1.toNatClampNeg then none else letb (upc u58 46 49 0 0 (a1 : Int32).toNatClampNeg) (fun u60 => letb (up2 u60 45 3 ((u60 45 3) + 1)) (fun u61 => zX1_weigh_L74 n  a1 (fun y62 w63 => some w63) n 0 u61)))))) else (some u45))))
set_option maxHeartbeats 4000000 in
set_option maxRecDepth 100000 in
theorem wX1_weigh_L74 {G : GG} {T : TT} {n d : Nat} (hd : 1 ≤ d) {s1 : Int32} {k : Int32 → MU → Option (MU)} (hT : LAY T) (hk : ∀ (t4 : Int32) (u : MU) (q : MU), k t4 u = some q → AW G d mX1_weigh 105 [.ref 45, .int s1, .null, .null, .int t4] [] T u 0 0 (QV T q)) : ∀ (m : Nat) (t4 : Int32) (u : MU) (q : MU), zX1_weigh_L74 n  s1 k m t4 u = some q → AW G d mX1_weigh 74 [.ref 45, .int s1, .null, .null, .int t4] [] T u 0 0 (QV T q) := by
  intro m
  obtain ⟨d, rfl⟩ : ∃ e, d = e + 1 := ⟨d - 1, by omega⟩
  induction m with
  | zero =>
    intro t4 u q hf
    have h0 : (none : Option (MU)) = some q := hf
    cases h0
  | succ m ih =>
    intro t4 u q hf
    rw [zX1_weigh_L74] at hf
    refine A_iload (pc := 74) dX1_weigh_74 rfl ?_
    refine A_iloadn (pc := 76) dX1_weigh_76 rfl ?_
    refine A_icmp_ge (pc := 77) 105 dX1_weigh_77 (by decide) (fun cc9 => ?_) (fun cc9 => ?_)
    · have hf := oi_t cc9 hf
      exact hk _ _ _ hf
    have hf := oi_f cc9 hf
    refine A_aloadn (pc := 80) dX1_weigh_80 rfl ?_
    refine A_getR (pc := 81) dX1_weigh_81 gX1_34 (lay_s hT (k := 45) (q := (3, 8)) rfl) (Nat.le_of_ble_eq_true rfl) rfl (lay_r hT 48 rfl) ?_
    refine A_aloadn (pc := 84) dX1_weigh_84 rfl ?_
    refine A_getR (pc := 85) dX1_weigh_85 gX1_9 (lay_s hT (k := 45) (q := (3, 8)) rfl) (Nat.le_of_ble_eq_true rfl) rfl (lay_r hT 44 rfl) ?_
    refine A_iload (pc := 88) dX1_weigh_88 rfl ?_
    obtain ⟨h10, hf⟩ := oi_cf hf
    refine A_iald (pc := 90) dX1_weigh_90 (lay_s hT (k := 46) (q := (0, 5)) rfl) (oob_f h10) ?_
    refine A_dup2 (pc := 91) dX1_weigh_91 ?_
    obtain ⟨h11, hf⟩ := oi_cf hf
    refine A_iald (pc := 92) dX1_weigh_92 (lay_s hT (k := 50) (q := (0, 7)) rfl) (oob_f h11) ?_
    refine A_iconst (pc := 93) 1 dX1_weigh_93 rfl ?_
    refine A_iload (pc := 94) dX1_weigh_94 rfl ?_
    refine A_ishl (pc := 96) dX1_weigh_96 ?_
    refine A_ior (pc := 97) dX1_weigh_97 ?_
    obtain ⟨h12, hf⟩ := oi_cf hf
    have hf := oi_l hf
    refine A_iast (pc := 98) dX1_weigh_98 (lay_s hT (k := 50) (q := (0, 7)) rfl) (oob_f h12) ?_
    refine A_inc (pc := 99) (L2 := [.ref 45, .int s1, .null, .null, .int (t4 + 1)]) (t4 + 1) dX1_weigh_99 rfl rfl rfl ?_
    refine A_goto (pc := 102) 74 dX1_weigh_102 (by decide) ?_
    exact ih _ _ _ hf
set_option maxHeartbeats 4000000 in
set_option maxRecDepth 100000 in
theorem wX1_weigh {G : GG} {T : TT} {n d : Nat} (hd : 1 ≤ d) {q : MU} {u : MU} {a1 : Int32} {a2 : Int32} {a3 : Int32} (hT : LAY T) (hf : zX1_weigh n u a1 a2 a3 = some q) : AW G d mX1_weigh 0 [.ref 45, .int a1, .int a2, .int a3, .null] [] T u 0 0 (QV T q) := by
  obtain ⟨d, rfl⟩ : ∃ e, d = e + 1 := ⟨d - 1, by omega⟩
  rw [zX1_weigh] at hf
  refine A_aloadn (pc := 0) dX1_weigh_0 rfl ?_
  refine A_getI (pc := 1) dX1_weigh_1 gX1_31 (lay_s hT (k := 45) (q := (3, 8)) rfl) (Nat.le_of_ble_eq_true rfl) rfl ?_
  refine A_bipush (pc := 4) (-9) dX1_weigh_4 rfl ?_
  refine A_icmp_eq (pc := 6) 17 dX1_weigh_6 (by decide) (fun cc1 => ?_) (fun cc1 => ?_)
  · have hf := oi_t cc1 hf
    refine A_aloadn (pc := 17) dX1_weigh_17 rfl ?_
    refine A_iloadn (pc := 18) dX1_weigh_18 rfl ?_
    have hf := oi_l hf
    refine A_putI (pc := 19) dX1_weigh_19 gX1_31 (lay_s hT (k := 45) (q := (3, 8)) rfl) (Nat.le_of_ble_eq_true rfl) rfl rfl rfl rfl ?_
    refine A_iloadn (pc := 22) dX1_weigh_22 rfl ?_
    refine A_if_le (pc := 23) (w := 0) 27 dX1_weigh_23 (by decide) (fun cc3 => ?_) (fun cc3 => ?_)
    · have hf := oi_t cc3 hf
      refine A_aloadn (pc := 27) dX1_weigh_27 rfl ?_
      refine A_getI (pc := 28) dX1_weigh_28 gX1_21 (lay_s hT (k := 45) (q := (3, 8)) rfl) (Nat.le_of_ble_eq_true rfl) rfl ?_
      refine A_if_eq (pc := 31) (w := 0) 42 dX1_weigh_31 (by decide) (fun cc4 => ?_) (fun cc4 => ?_)
      · have hf := oi_t cc4 hf
        refine A_aloadn (pc := 42) dX1_weigh_42 rfl ?_
        refine A_iloadn (pc := 43) dX1_weigh_43 rfl ?_
        have hf := oi_l hf
        refine A_putI (pc := 44) dX1_weigh_44 gX1_25 (lay_s hT (k := 45) (q := (3, 8)) rfl) (Nat.le_of_ble_eq_true rfl) rfl rfl rfl rfl ?_
        refine A_aloadn (pc := 47) dX1_weigh_47 rfl ?_
        refine A_getR (pc := 48) dX1_weigh_48 gX1_9 (lay_s hT (k := 45) (q := (3, 8)) rfl) (Nat.le_of_ble_eq_true rfl) rfl (lay_r hT 44 rfl) ?_
        refine A_iconst (pc := 51) 0 dX1_weigh_51 rfl ?_
        refine A_aloadn (pc := 52) dX1_weigh_52 rfl ?_
        refine A_getR (pc := 53) dX1_weigh_53 gX1_28 (lay_s hT (k := 45) (q := (3, 8)) rfl) (Nat.le_of_ble_eq_true rfl) rfl (lay_r hT 47 rfl) ?_
        refine A_iconst (pc := 56) 0 dX1_weigh_56 rfl ?_
        refine A_iloadn (pc := 57) dX1_weigh_57 rfl ?_
        obtain ⟨h6, hf⟩ := oi_cf hf
        have h6 := cp_of h6
        have hf := oi_l hf
        refine A_copyi (pc := 58) dX1_weigh_58 lX1_84 acopy_1 acopy_2 oJ10 (lay_s hT (k := 46) (q := (0, 5)) rfl) (lay_s hT (k := 49) (q := (0, 5)) rfl) (by decide) (by decide) h6.1 h6.2.1 h6.2.2 (Nat.le_of_ble_eq_true rfl) ?_
        refine A_aloadn (pc := 61) dX1_weigh_61 rfl ?_
        refine A_dup (pc := 62) dX1_weigh_62 ?_
        refine A_getI (pc := 63) dX1_weigh_63 gX1_21 (lay_s hT (k := 45) (q := (3, 8)) rfl) (Nat.le_of_ble_eq_true rfl) rfl ?_
        refine A_iconst (pc := 66) 1 dX1_weigh_66 rfl ?_
        refine A_iadd (pc := 67) dX1_weigh_67 ?_
        have hf := oi_l hf
        refine A_putI (pc := 68) dX1_weigh_68 gX1_21 (lay_s hT (k := 45) (q := (3, 8)) rfl) (Nat.le_of_ble_eq_true rfl) rfl rfl rfl rfl ?_
        refine A_iconst (pc := 71) 0 dX1_weigh_71 rfl ?_
        refine A_ist (pc := 72) (L2 := [.ref 45, .int a1, .int a2, .int a3, .int 0]) dX1_weigh_72 (Nat.le_of_ble_eq_true rfl) rfl ?_
        refine A_fgt 2 (L' := [.ref 45, .int a1, .null, .int a3, .int 0]) rfl ?_
        refine A_fgt 3 (L' := [.ref 45, .int a1, .null, .null, .int 0]) rfl ?_
        exact wX1_weigh_L74 (by omega) hT  (fun y14 w15 q0 hf => by
          obtain rfl := Option.some.inj hf
          exact A_vret (pc := 105) dX1_weigh_105 rfl ⟨rfl, rfl, rfl⟩) _ _ _ _ hf
      have hf := oi_f cc4 hf
      refine A_iloadn (pc := 34) dX1_weigh_34 rfl ?_
      refine A_aloadn (pc := 35) dX1_weigh_35 rfl ?_
      refine A_getI (pc := 36) dX1_weigh_36 gX1_25 (lay_s hT (k := 45) (q := (3, 8)) rfl) (Nat.le_of_ble_eq_true rfl) rfl ?_
      refine A_icmp_le (pc := 39) 61 dX1_weigh_39 (by decide) (fun cc16 => ?_) (fun cc16 => ?_)
      · have hf := oi_t cc16 hf
        refine A_aloadn (pc := 61) dX1_weigh_61 rfl ?_
        refine A_dup (pc := 62) dX1_weigh_62 ?_
        refine A_getI (pc := 63) dX1_weigh_63 gX1_21 (lay_s hT (k := 45) (q := (3, 8)) rfl) (Nat.le_of_ble_eq_true rfl) rfl ?_
        refine A_iconst (pc := 66) 1 dX1_weigh_66 rfl ?_
        refine A_iadd (pc := 67) dX1_weigh_67 ?_
        have hf := oi_l hf
        refine A_putI (pc := 68) dX1_weigh_68 gX1_21 (lay_s hT (k := 45) (q := (3, 8)) rfl) (Nat.le_of_ble_eq_true rfl) rfl rfl rfl rfl ?_
        refine A_iconst (pc := 71) 0 dX1_weigh_71 rfl ?_
        refine A_ist (pc := 72) (L2 := [.ref 45, .int a1, .int a2, .int a3, .int 0]) dX1_weigh_72 (Nat.le_of_ble_eq_true rfl) rfl ?_
        refine A_fgt 2 (L' := [.ref 45, .int a1, .null, .int a3, .int 0]) rfl ?_
        refine A_fgt 3 (L' := [.ref 45, .int a1, .null, .null, .int 0]) rfl ?_
        exact wX1_weigh_L74 (by omega) hT  (fun y18 w19 q0 hf => by
          obtain rfl := Option.some.inj hf
          exact A_vret (pc := 105) dX1_weigh_105 rfl ⟨rfl, rfl, rfl⟩) _ _ _ _ hf
      have hf := oi_f cc16 hf
      refine A_aloadn (pc := 42) dX1_weigh_42 rfl ?_
      refine A_iloadn (pc := 43) dX1_weigh_43 rfl ?_
      have hf := oi_l hf
      refine A_putI (pc := 44) dX1_weigh_44 gX1_25 (lay_s hT (k := 45) (q := (3, 8)) rfl) (Nat.le_of_ble_eq_true rfl) rfl rfl rfl rfl ?_
      refine A_aloadn (pc := 47) dX1_weigh_47 rfl ?_
      refine A_getR (pc := 48) dX1_weigh_48 gX1_9 (lay_s hT (k := 45) (q := (3, 8)) rfl) (Nat.le_of_ble_eq_true rfl) rfl (lay_r hT 44 rfl) ?_
      refine A_iconst (pc := 51) 0 dX1_weigh_51 rfl ?_
      refine A_aloadn (pc := 52) dX1_weigh_52 rfl ?_
      refine A_getR (pc := 53) dX1_weigh_53 gX1_28 (lay_s hT (k := 45) (q := (3, 8)) rfl) (Nat.le_of_ble_eq_true rfl) rfl (lay_r hT 47 rfl) ?_
      refine A_iconst (pc := 56) 0 dX1_weigh_56 rfl ?_
      refine A_iloadn (pc := 57) dX1_weigh_57 rfl ?_
      obtain ⟨h21, hf⟩ := oi_cf hf
      have h21 := cp_of h21
      have hf := oi_l hf
      refine A_copyi (pc := 58) dX1_weigh_58 lX1_84 acopy_1 acopy_2 oJ10 (lay_s hT (k := 46) (q := (0, 5)) rfl) (lay_s hT (k := 49) (q := (0, 5)) rfl) (by decide) (by decide) h21.1 h21.2.1 h21.2.2 (Nat.le_of_ble_eq_true rfl) ?_
      refine A_aloadn (pc := 61) dX1_weigh_61 rfl ?_
      refine A_dup (pc := 62) dX1_weigh_62 ?_
      refine A_getI (pc := 63) dX1_weigh_63 gX1_21 (lay_s hT (k := 45) (q := (3, 8)) rfl) (Nat.le_of_ble_eq_true rfl) rfl ?_
      refine A_iconst (pc := 66) 1 dX1_weigh_66 rfl ?_
      refine A_iadd (pc := 67) dX1_weigh_67 ?_
      have hf := oi_l hf
      refine A_putI (pc := 68) dX1_weigh_68 gX1_21 (lay_s hT (k := 45) (q := (3, 8)) rfl) (Nat.le_of_ble_eq_true rfl) rfl rfl rfl rfl ?_
      refine A_iconst (pc := 71) 0 dX1_weigh_71 rfl ?_
      refine A_ist (pc := 72) (L2 := [.ref 45, .int a1, .int a2, .int a3, .int 0]) dX1_weigh_72 (Nat.le_of_ble_eq_true rfl) rfl ?_
      refine A_fgt 2 (L' := [.ref 45, .int a1, .null, .int a3, .int 0]) rfl ?_
      refine A_fgt 3 (L' := [.ref 45, .int a1, .null, .null, .int 0]) rfl ?_
      exact wX1_weigh_L74 (by omega) hT  (fun y24 w25 q0 hf => by
        obtain rfl := Option.some.inj hf
        exact A_vret (pc := 105) dX1_weigh_105 rfl ⟨rfl, rfl, rfl⟩) _ _ _ _ hf
    have hf := oi_f cc3 hf
    obtain rfl := Option.some.inj hf
    exact A_vret (pc := 26) dX1_weigh_26 rfl ⟨rfl, rfl, rfl⟩
  have hf := oi_f cc1 hf
  refine A_iloadn (pc := 9) dX1_weigh_9 rfl ?_
  refine A_aloadn (pc := 10) dX1_weigh_10 rfl ?_
  refine A_getI (pc := 11) dX1_weigh_11 gX1_31 (lay_s hT (k := 45) (q := (3, 8)) rfl) (Nat.le_of_ble_eq_true rfl) rfl ?_
  refine A_icmp_ge (pc := 14) 22 dX1_weigh_14 (by decide) (fun cc26 => ?_) (fun cc26 => ?_)
  · have hf := oi_t cc26 hf
    refine A_iloadn (pc := 22) dX1_weigh_22 rfl ?_
    refine A_if_le (pc := 23) (w := 0) 27 dX1_weigh_23 (by decide) (fun cc27 => ?_) (fun cc27 => ?_)
    · have hf := oi_t cc27 hf
      refine A_aloadn (pc := 27) dX1_weigh_27 rfl ?_
      refine A_getI (pc := 28) dX1_weigh_28 gX1_21 (lay_s hT (k := 45) (q := (3, 8)) rfl) (Nat.le_of_ble_eq_true rfl) rfl ?_
      refine A_if_eq (pc := 31) (w := 0) 42 dX1_weigh_31 (by decide) (fun cc28 => ?_) (fun cc28 => ?_)
      · have hf := oi_t cc28 hf
        refine A_aloadn (pc := 42) dX1_weigh_42 rfl ?_
        refine A_iloadn (pc := 43) dX1_weigh_43 rfl ?_
        have hf := oi_l hf
        refine A_putI (pc := 44) dX1_weigh_44 gX1_25 (lay_s hT (k := 45) (q := (3, 8)) rfl) (Nat.le_of_ble_eq_true rfl) rfl rfl rfl rfl ?_
        refine A_aloadn (pc := 47) dX1_weigh_47 rfl ?_
        refine A_getR (pc := 48) dX1_weigh_48 gX1_9 (lay_s hT (k := 45) (q := (3, 8)) rfl) (Nat.le_of_ble_eq_true rfl) rfl (lay_r hT 44 rfl) ?_
        refine A_iconst (pc := 51) 0 dX1_weigh_51 rfl ?_
        refine A_aloadn (pc := 52) dX1_weigh_52 rfl ?_
        refine A_getR (pc := 53) dX1_weigh_53 gX1_28 (lay_s hT (k := 45) (q := (3, 8)) rfl) (Nat.le_of_ble_eq_true rfl) rfl (lay_r hT 47 rfl) ?_
        refine A_iconst (pc := 56) 0 dX1_weigh_56 rfl ?_
        refine A_iloadn (pc := 57) dX1_weigh_57 rfl ?_
        obtain ⟨h30, hf⟩ := oi_cf hf
        have h30 := cp_of h30
        have hf := oi_l hf
        refine A_copyi (pc := 58) dX1_weigh_58 lX1_84 acopy_1 acopy_2 oJ10 (lay_s hT (k := 46) (q := (0, 5)) rfl) (lay_s hT (k := 49) (q := (0, 5)) rfl) (by decide) (by decide) h30.1 h30.2.1 h30.2.2 (Nat.le_of_ble_eq_true rfl) ?_
        refine A_aloadn (pc := 61) dX1_weigh_61 rfl ?_
        refine A_dup (pc := 62) dX1_weigh_62 ?_
        refine A_getI (pc := 63) dX1_weigh_63 gX1_21 (lay_s hT (k := 45) (q := (3, 8)) rfl) (Nat.le_of_ble_eq_true rfl) rfl ?_
        refine A_iconst (pc := 66) 1 dX1_weigh_66 rfl ?_
        refine A_iadd (pc := 67) dX1_weigh_67 ?_
        have hf := oi_l hf
        refine A_putI (pc := 68) dX1_weigh_68 gX1_21 (lay_s hT (k := 45) (q := (3, 8)) rfl) (Nat.le_of_ble_eq_true rfl) rfl rfl rfl rfl ?_
        refine A_iconst (pc := 71) 0 dX1_weigh_71 rfl ?_
        refine A_ist (pc := 72) (L2 := [.ref 45, .int a1, .int a2, .int a3, .int 0]) dX1_weigh_72 (Nat.le_of_ble_eq_true rfl) rfl ?_
        refine A_fgt 2 (L' := [.ref 45, .int a1, .null, .int a3, .int 0]) rfl ?_
        refine A_fgt 3 (L' := [.ref 45, .int a1, .null, .null, .int 0]) rfl ?_
        exact wX1_weigh_L74 (by omega) hT  (fun y33 w34 q0 hf => by
          obtain rfl := Option.some.inj hf
          exact A_vret (pc := 105) dX1_weigh_105 rfl ⟨rfl, rfl, rfl⟩) _ _ _ _ hf
      have hf := oi_f cc28 hf
      refine A_iloadn (pc := 34) dX1_weigh_34 rfl ?_
      refine A_aloadn (pc := 35) dX1_weigh_35 rfl ?_
      refine A_getI (pc := 36) dX1_weigh_36 gX1_25 (lay_s hT (k := 45) (q := (3, 8)) rfl) (Nat.le_of_ble_eq_true rfl) rfl ?_
      refine A_icmp_le (pc := 39) 61 dX1_weigh_39 (by decide) (fun cc35 => ?_) (fun cc35 => ?_)
      · have hf := oi_t cc35 hf
        refine A_aloadn (pc := 61) dX1_weigh_61 rfl ?_
        refine A_dup (pc := 62) dX1_weigh_62 ?_
        refine A_getI (pc := 63) dX1_weigh_63 gX1_21 (lay_s hT (k := 45) (q := (3, 8)) rfl) (Nat.le_of_ble_eq_true rfl) rfl ?_
        refine A_iconst (pc := 66) 1 dX1_weigh_66 rfl ?_
        refine A_iadd (pc := 67) dX1_weigh_67 ?_
        have hf := oi_l hf
        refine A_putI (pc := 68) dX1_weigh_68 gX1_21 (lay_s hT (k := 45) (q := (3, 8)) rfl) (Nat.le_of_ble_eq_true rfl) rfl rfl rfl rfl ?_
        refine A_iconst (pc := 71) 0 dX1_weigh_71 rfl ?_
        refine A_ist (pc := 72) (L2 := [.ref 45, .int a1, .int a2, .int a3, .int 0]) dX1_weigh_72 (Nat.le_of_ble_eq_true rfl) rfl ?_
        refine A_fgt 2 (L' := [.ref 45, .int a1, .null, .int a3, .int 0]) rfl ?_
        refine A_fgt 3 (L' := [.ref 45, .int a1, .null, .null, .int 0]) rfl ?_
        exact wX1_weigh_L74 (by omega) hT  (fun y37 w38 q0 hf => by
          obtain rfl := Option.some.inj hf
          exact A_vret (pc := 105) dX1_weigh_105 rfl ⟨rfl, rfl, rfl⟩) _ _ _ _ hf
      have hf := oi_f cc35 hf
      refine A_aloadn (pc := 42) dX1_weigh_42 rfl ?_
      refine A_iloadn (pc := 43) dX1_weigh_43 rfl ?_
      have hf := oi_l hf
      refine A_putI (pc := 44) dX1_weigh_44 gX1_25 (lay_s hT (k := 45) (q := (3, 8)) rfl) (Nat.le_of_ble_eq_true rfl) rfl rfl rfl rfl ?_
      refine A_aloadn (pc := 47) dX1_weigh_47 rfl ?_
      refine A_getR (pc := 48) dX1_weigh_48 gX1_9 (lay_s hT (k := 45) (q := (3, 8)) rfl) (Nat.le_of_ble_eq_true rfl) rfl (lay_r hT 44 rfl) ?_
      refine A_iconst (pc := 51) 0 dX1_weigh_51 rfl ?_
      refine A_aloadn (pc := 52) dX1_weigh_52 rfl ?_
      refine A_getR (pc := 53) dX1_weigh_53 gX1_28 (lay_s hT (k := 45) (q := (3, 8)) rfl) (Nat.le_of_ble_eq_true rfl) rfl (lay_r hT 47 rfl) ?_
      refine A_iconst (pc := 56) 0 dX1_weigh_56 rfl ?_
      refine A_iloadn (pc := 57) dX1_weigh_57 rfl ?_
      obtain ⟨h40, hf⟩ := oi_cf hf
      have h40 := cp_of h40
      have hf := oi_l hf
      refine A_copyi (pc := 58) dX1_weigh_58 lX1_84 acopy_1 acopy_2 oJ10 (lay_s hT (k := 46) (q := (0, 5)) rfl) (lay_s hT (k := 49) (q := (0, 5)) rfl) (by decide) (by decide) h40.1 h40.2.1 h40.2.2 (Nat.le_of_ble_eq_true rfl) ?_
      refine A_aloadn (pc := 61) dX1_weigh_61 rfl ?_
      refine A_dup (pc := 62) dX1_weigh_62 ?_
      refine A_getI (pc := 63) dX1_weigh_63 gX1_21 (lay_s hT (k := 45) (q := (3, 8)) rfl) (Nat.le_of_ble_eq_true rfl) rfl ?_
      refine A_iconst (pc := 66) 1 dX1_weigh_66 rfl ?_
      refine A_iadd (pc := 67) dX1_weigh_67 ?_
      have hf := oi_l hf
      refine A_putI (pc := 68) dX1_weigh_68 gX1_21 (lay_s hT (k := 45) (q := (3, 8)) rfl) (Nat.le_of_ble_eq_true rfl) rfl rfl rfl rfl ?_
      refine A_iconst (pc := 71) 0 dX1_weigh_71 rfl ?_
      refine A_ist (pc := 72) (L2 := [.ref 45, .int a1, .int a2, .int a3, .int 0]) dX1_weigh_72 (Nat.le_of_ble_eq_true rfl) rfl ?_
      refine A_fgt 2 (L' := [.ref 45, .int a1, .null, .int a3, .int 0]) rfl ?_
      refine A_fgt 3 (L' := [.ref 45, .int a1, .null, .null, .int 0]) rfl ?_
      exact wX1_weigh_L74 (by omega) hT  (fun y43 w44 q0 hf => by
        obtain rfl := Option.some.inj hf
        exact A_vret (pc := 105) dX1_weigh_105 rfl ⟨rfl, rfl, rfl⟩) _ _ _ _ hf
    have hf := oi_f cc27 hf
    obtain rfl := Option.some.inj hf
    exact A_vret (pc := 26) dX1_weigh_26 rfl ⟨rfl, rfl, rfl⟩
  have hf := oi_f cc26 hf
  refine A_aloadn (pc := 17) dX1_weigh_17 rfl ?_
  refine A_iloadn (pc := 18) dX1_weigh_18 rfl ?_
  have hf := oi_l hf
  refine A_putI (pc := 19) dX1_weigh_19 gX1_31 (lay_s hT (k := 45) (q := (3, 8)) rfl) (Nat.le_of_ble_eq_true rfl) rfl rfl rfl rfl ?_
  refine A_iloadn (pc := 22) dX1_weigh_22 rfl ?_
  refine A_if_le (pc := 23) (w := 0) 27 dX1_weigh_23 (by decide) (fun cc46 => ?_) (fun cc46 => ?_)
  · have hf := oi_t cc46 hf
    refine A_aloadn (pc := 27) dX1_weigh_27 rfl ?_
    refine A_getI (pc := 28) dX1_weigh_28 gX1_21 (lay_s hT (k := 45) (q := (3, 8)) rfl) (Nat.le_of_ble_eq_true rfl) rfl ?_
    refine A_if_eq (pc := 31) (w := 0) 42 dX1_weigh_31 (by decide) (fun cc47 => ?_) (fun cc47 => ?_)
    · have hf := oi_t cc47 hf
      refine A_aloadn (pc := 42) dX1_weigh_42 rfl ?_
      refine A_iloadn (pc := 43) dX1_weigh_43 rfl ?_
      have hf := oi_l hf
      refine A_putI (pc := 44) dX1_weigh_44 gX1_25 (lay_s hT (k := 45) (q := (3, 8)) rfl) (Nat.le_of_ble_eq_true rfl) rfl rfl rfl rfl ?_
      refine A_aloadn (pc := 47) dX1_weigh_47 rfl ?_
      refine A_getR (pc := 48) dX1_weigh_48 gX1_9 (lay_s hT (k := 45) (q := (3, 8)) rfl) (Nat.le_of_ble_eq_true rfl) rfl (lay_r hT 44 rfl) ?_
      refine A_iconst (pc := 51) 0 dX1_weigh_51 rfl ?_
      refine A_aloadn (pc := 52) dX1_weigh_52 rfl ?_
      refine A_getR (pc := 53) dX1_weigh_53 gX1_28 (lay_s hT (k := 45) (q := (3, 8)) rfl) (Nat.le_of_ble_eq_true rfl) rfl (lay_r hT 47 rfl) ?_
      refine A_iconst (pc := 56) 0 dX1_weigh_56 rfl ?_
      refine A_iloadn (pc := 57) dX1_weigh_57 rfl ?_
      obtain ⟨h49, hf⟩ := oi_cf hf
      have h49 := cp_of h49
      have hf := oi_l hf
      refine A_copyi (pc := 58) dX1_weigh_58 lX1_84 acopy_1 acopy_2 oJ10 (lay_s hT (k := 46) (q := (0, 5)) rfl) (lay_s hT (k := 49) (q := (0, 5)) rfl) (by decide) (by decide) h49.1 h49.2.1 h49.2.2 (Nat.le_of_ble_eq_true rfl) ?_
      refine A_aloadn (pc := 61) dX1_weigh_61 rfl ?_
      refine A_dup (pc := 62) dX1_weigh_62 ?_
      refine A_getI (pc := 63) dX1_weigh_63 gX1_21 (lay_s hT (k := 45) (q := (3, 8)) rfl) (Nat.le_of_ble_eq_true rfl) rfl ?_
      refine A_iconst (pc := 66) 1 dX1_weigh_66 rfl ?_
      refine A_iadd (pc := 67) dX1_weigh_67 ?_
      have hf := oi_l hf
      refine A_putI (pc := 68) dX1_weigh_68 gX1_21 (lay_s hT (k := 45) (q := (3, 8)) rfl) (Nat.le_of_ble_eq_true rfl) rfl rfl rfl rfl ?_
      refine A_iconst (pc := 71) 0 dX1_weigh_71 rfl ?_
      refine A_ist (pc := 72) (L2 := [.ref 45, .int a1, .int a2, .int a3, .int 0]) dX1_weigh_72 (Nat.le_of_ble_eq_true rfl) rfl ?_
      refine A_fgt 2 (L' := [.ref 45, .int a1, .null, .int a3, .int 0]) rfl ?_
      refine A_fgt 3 (L' := [.ref 45, .int a1, .null, .null, .int 0]) rfl ?_
      exact wX1_weigh_L74 (by omega) hT  (fun y52 w53 q0 hf => by
        obtain rfl := Option.some.inj hf
        exact A_vret (pc := 105) dX1_weigh_105 rfl ⟨rfl, rfl, rfl⟩) _ _ _ _ hf
    have hf := oi_f cc47 hf
    refine A_iloadn (pc := 34) dX1_weigh_34 rfl ?_
    refine A_aloadn (pc := 35) dX1_weigh_35 rfl ?_
    refine A_getI (pc := 36) dX1_weigh_36 gX1_25 (lay_s hT (k := 45) (q := (3, 8)) rfl) (Nat.le_of_ble_eq_true rfl) rfl ?_
    refine A_icmp_le (pc := 39) 61 dX1_weigh_39 (by decide) (fun cc54 => ?_) (fun cc54 => ?_)
    · have hf := oi_t cc54 hf
      refine A_aloadn (pc := 61) dX1_weigh_61 rfl ?_
      refine A_dup (pc := 62) dX1_weigh_62 ?_
      refine A_getI (pc := 63) dX1_weigh_63 gX1_21 (lay_s hT (k := 45) (q := (3, 8)) rfl) (Nat.le_of_ble_eq_true rfl) rfl ?_
      refine A_iconst (pc := 66) 1 dX1_weigh_66 rfl ?_
      refine A_iadd (pc := 67) dX1_weigh_67 ?_
      have hf := oi_l hf
      refine A_putI (pc := 68) dX1_weigh_68 gX1_21 (lay_s hT (k := 45) (q := (3, 8)) rfl) (Nat.le_of_ble_eq_true rfl) rfl rfl rfl rfl ?_
      refine A_iconst (pc := 71) 0 dX1_weigh_71 rfl ?_
      refine A_ist (pc := 72) (L2 := [.ref 45, .int a1, .int a2, .int a3, .int 0]) dX1_weigh_72 (Nat.le_of_ble_eq_true rfl) rfl ?_
      refine A_fgt 2 (L' := [.ref 45, .int a1, .null, .int a3, .int 0]) rfl ?_
      refine A_fgt 3 (L' := [.ref 45, .int a1, .null, .null, .int 0]) rfl ?_
      exact wX1_weigh_L74 (by omega) hT  (fun y56 w57 q0 hf => by
        obtain rfl := Option.some.inj hf
        exact A_vret (pc := 105) dX1_weigh_105 rfl ⟨rfl, rfl, rfl⟩) _ _ _ _ hf
    have hf := oi_f cc54 hf
    refine A_aloadn (pc := 42) dX1_weigh_42 rfl ?_
    refine A_iloadn (pc := 43) dX1_weigh_43 rfl ?_
    have hf := oi_l hf
    refine A_putI (pc := 44) dX1_weigh_44 gX1_25 (lay_s hT (k := 45) (q := (3, 8)) rfl) (Nat.le_of_ble_eq_true rfl) rfl rfl rfl rfl ?_
    refine A_aloadn (pc := 47) dX1_weigh_47 rfl ?_
    refine A_getR (pc := 48) dX1_weigh_48 gX1_9 (lay_s hT (k := 45) (q := (3, 8)) rfl) (Nat.le_of_ble_eq_true rfl) rfl (lay_r hT 44 rfl) ?_
    refine A_iconst (pc := 51) 0 dX1_weigh_51 rfl ?_
    refine A_aloadn (pc := 52) dX1_weigh_52 rfl ?_
    refine A_getR (pc := 53) dX1_weigh_53 gX1_28 (lay_s hT (k := 45) (q := (3, 8)) rfl) (Nat.le_of_ble_eq_true rfl) rfl (lay_r hT 47 rfl) ?_
    refine A_iconst (pc := 56) 0 dX1_weigh_56 rfl ?_
    refine A_iloadn (pc := 57) dX1_weigh_57 rfl ?_
    obtain ⟨h59, hf⟩ := oi_cf hf
    have h59 := cp_of h59
    have hf := oi_l hf
    refine A_copyi (pc := 58) dX1_weigh_58 lX1_84 acopy_1 acopy_2 oJ10 (lay_s hT (k := 46) (q := (0, 5)) rfl) (lay_s hT (k := 49) (q := (0, 5)) rfl) (by decide) (by decide) h59.1 h59.2.1 h59.2.2 (Nat.le_of_ble_eq_true rfl) ?_
    refine A_aloadn (pc := 61) dX1_weigh_61 rfl ?_
    refine A_dup (pc := 62) dX1_weigh_62 ?_
    refine A_getI (pc := 63) dX1_weigh_63 gX1_21 (lay_s hT (k := 45) (q := (3, 8)) rfl) (Nat.le_of_ble_eq_true rfl) rfl ?_
    refine A_iconst (pc := 66) 1 dX1_weigh_66 rfl ?_
    refine A_iadd (pc := 67) dX1_weigh_67 ?_
    have hf := oi_l hf
    refine A_putI (pc := 68) dX1_weigh_68 gX1_21 (lay_s hT (k := 45) (q := (3, 8)) rfl) (Nat.le_of_ble_eq_true rfl) rfl rfl rfl rfl ?_
    refine A_iconst (pc := 71) 0 dX1_weigh_71 rfl ?_
    refine A_ist (pc := 72) (L2 := [.ref 45, .int a1, .int a2, .int a3, .int 0]) dX1_weigh_72 (Nat.le_of_ble_eq_true rfl) rfl ?_
    refine A_fgt 2 (L' := [.ref 45, .int a1, .null, .int a3, .int 0]) rfl ?_
    refine A_fgt 3 (L' := [.ref 45, .int a1, .null, .null, .int 0]) rfl ?_
    exact wX1_weigh_L74 (by omega) hT  (fun y62 w63 q0 hf => by
      obtain rfl := Option.some.inj hf
      exact A_vret (pc := 105) dX1_weigh_105 rfl ⟨rfl, rfl, rfl⟩) _ _ _ _ hf
  have hf := oi_f cc46 hf
  obtain rfl := Option.some.inj hf
  exact A_vret (pc := 26) dX1_weigh_26 rfl ⟨rfl, rfl, rfl⟩
def zX1_extend_L24 (n : Nat) (rec : MU → Nat → Int32 → Int32 → Int32 → Int32 → Option (MU)) (r1 : Nat) (s2 : Int32) (s3 : Int32) (s4 : Int32) (s5 : Int32) (k : Int32 → MU → Option (MU)) : Nat → Int32 → MU → Option (MU)
  | 0, _, _ => none
  | m + 1, t6, u => if (u r1 3) ≤ t6 then (k t6 u) else (if oob s2 5 then none else if ((s3 &&& (u 47 s2.toNatClampNeg)) &&& (1 <<< (t6 &&& 31))) = 0 then (zX1_extend_L24 n rec r1 s2 s3 s4 s5 k m (t6 + 1) u) else (if oob s2 5 then none else letb (up2 u 46 s2.toNatClampNeg t6) (fun u6 => if s2 = 0 then (if oob t6 7 then none else Option.bind (rec u6 r1 (s2 + 1) (s3 &&& ((1 <<< (t6 &&& 31)) ^^^ (-1))) (s4 + 0) (if (u6 48 t6.toNatClampNeg) < s5 then (u6 48 t6.toNatClampNeg) else s5)) (fun q15 => zX1_extend_L24 n rec r1 s2 s3 s4 s5 k m (t6 + 1) q15)) else (if oob (s2 - 1) 5 then none else Option.bind (zX3_grudgeOf n u6 r1 (u6 46 (s2 - 1).toNatClampNeg) t6) (fun q9 => if oob t6 7 then none else Option.bind (rec u6 r1 (s2 + 1) (s3 &&& ((1 <<< (t6 &&& 31)) ^^^ (-1))) (s4 + q9) (if (u6 48 t6.toNatClampNeg) < s5 then (u6 48 t6.toNatClampNeg) else s5)) (fun q12 => zX1_extend_L24 n rec r1 s2 s3 s4 s5 k m (t6 + 1) q12))))))
def zX1_extend_B (n : Nat) (rec : MU → Nat → Int32 → Int32 → Int32 → Int32 → Option (MU)) (u : MU) (r1 : Nat) (a2 : Int32) (a3 : Int32) (a4 : Int32) (a5 : Int32) : Option (MU) := if a2 < (u r1 0) then (zX1_extend_L24 n rec r1 a2 a3 a4 a5 (fun y17 w18 => some w18) n 0 u) else (Option.bind (zX1_weigh n u (u r1 0) a4 a5) (fun q19 => some q19))
def zX1_extend (n : Nat) : Nat → MU → Nat → Int32 → Int32 → Int32 → Int32 → Option (MU)
  | 0, _, _, _, _, _, _ => none
  | p + 1, u, r1, a2, a3, a4, a5 => zX1_extend_B n (zX1_extend n p) u r1 a2 a3 a4 a5
set_option maxHeartbeats 4000000 in
set_option maxRecDepth 100000 in
theorem wX1_extend_L24 {G : GG} {T : TT} {n d : Nat} (hd : 2 ≤ d + 1) {rec : MU → Nat → Int32 → Int32 → Int32 → Int32 → Option (MU)} {r1 : Nat} {s2 : Int32} {s3 : Int32} {s4 : Int32} {s5 : Int32} {k : Int32 → MU → Option (MU)} (hT : LAY T) (hrec : ∀ {q : MU} {u : MU} {r1 : Nat} {a2 : Int32} {a3 : Int32} {a4 : Int32} {a5 : Int32}, RV T r1 → rec u r1 a2 a3 a4 a5 = some q → AW G d mX1_extend 0 [.ref 45, .ref r1, .int a2, .int a3, .int a4, .int a5, .null, .null] [] T u 0 0 (QV T q)) (hR1 : RV T r1) (hk : ∀ (t6 : Int32) (u : MU) (q : MU), k t6 u = some q → AW G (d + 1) mX1_extend 120 [.ref 45, .ref r1, .int s2, .int s3, .int s4, .int s5, .int t6, .null] [] T u 0 0 (QV T q)) : ∀ (m : Nat) (t6 : Int32) (u : MU) (q : MU), zX1_extend_L24 n rec r1 s2 s3 s4 s5 k m t6 u = some q → AW G (d + 1) mX1_extend 24 [.ref 45, .ref r1, .int s2, .int s3, .int s4, .int s5, .int t6, .null] [] T u 0 0 (QV T q) := by
  intro m
  induction m with
  | zero =>
    intro t6 u q hf
    have h0 : (none : Option (MU)) = some q := hf
    cases h0
  | succ m ih =>
    intro t6 u q hf
    rw [zX1_extend_L24] at hf
    refine A_iload (pc := 24) dX1_extend_24 rfl ?_
    refine A_aloadn (pc := 26) dX1_extend_26 rfl ?_
    refine A_getI (pc := 27) dX1_extend_27 gX1_65 (rv_0 hR1) (Nat.le_of_ble_eq_true rfl) rfl ?_
    refine A_icmp_ge (pc := 30) 120 dX1_extend_30 (by decide) (fun cc2 => ?_) (fun cc2 => ?_)
    · have hf := oi_t cc2 hf
      exact hk _ _ _ hf
    have hf := oi_f cc2 hf
    refine A_iloadn (pc := 33) dX1_extend_33 rfl ?_
    refine A_aloadn (pc := 34) dX1_extend_34 rfl ?_
    refine A_getR (pc := 35) dX1_extend_35 gX1_15 (lay_s hT (k := 45) (q := (3, 8)) rfl) (Nat.le_of_ble_eq_true rfl) rfl (lay_r hT 45 rfl) ?_
    refine A_iloadn (pc := 38) dX1_extend_38 rfl ?_
    obtain ⟨h3, hf⟩ := oi_cf hf
    refine A_iald (pc := 39) dX1_extend_39 (lay_s hT (k := 47) (q := (0, 5)) rfl) (oob_f h3) ?_
    refine A_iand (pc := 40) dX1_extend_40 ?_
    refine A_iconst (pc := 41) 1 dX1_extend_41 rfl ?_
    refine A_iload (pc := 42) dX1_extend_42 rfl ?_
    refine A_ishl (pc := 44) dX1_extend_44 ?_
    refine A_iand (pc := 45) dX1_extend_45 ?_
    refine A_if_eq (pc := 46) (w := 0) 114 dX1_extend_46 (by decide) (fun cc4 => ?_) (fun cc4 => ?_)
    · have hf := oi_t cc4 hf
      refine A_inc (pc := 114) (L2 := [.ref 45, .ref r1, .int s2, .int s3, .int s4, .int s5, .int (t6 + 1), .null]) (t6 + 1) dX1_extend_114 rfl rfl rfl ?_
      refine A_goto (pc := 117) 24 dX1_extend_117 (by decide) ?_
      exact ih _ _ _ hf
    have hf := oi_f cc4 hf
    refine A_aloadn (pc := 49) dX1_extend_49 rfl ?_
    refine A_getR (pc := 50) dX1_extend_50 gX1_9 (lay_s hT (k := 45) (q := (3, 8)) rfl) (Nat.le_of_ble_eq_true rfl) rfl (lay_r hT 44 rfl) ?_
    refine A_iloadn (pc := 53) dX1_extend_53 rfl ?_
    refine A_iload (pc := 54) dX1_extend_54 rfl ?_
    obtain ⟨h5, hf⟩ := oi_cf hf
    have hf := oi_l hf
    refine A_iast (pc := 56) dX1_extend_56 (lay_s hT (k := 46) (q := (0, 5)) rfl) (oob_f h5) ?_
    refine A_iloadn (pc := 57) dX1_extend_57 rfl ?_
    refine A_if_ne (pc := 58) (w := 0) 65 dX1_extend_58 (by decide) (fun cc7 => ?_) (fun cc7 => ?_)
    · have hf := oi_f cc7 hf
      refine A_aloadn (pc := 65) dX1_extend_65 rfl ?_
      refine A_aloadn (pc := 66) dX1_extend_66 rfl ?_
      refine A_getR (pc := 67) dX1_extend_67 gX1_9 (lay_s hT (k := 45) (q := (3, 8)) rfl) (Nat.le_of_ble_eq_true rfl) rfl (lay_r hT 44 rfl) ?_
      refine A_iloadn (pc := 70) dX1_extend_70 rfl ?_
      refine A_iconst (pc := 71) 1 dX1_extend_71 rfl ?_
      refine A_isub (pc := 72) dX1_extend_72 ?_
      obtain ⟨h8, hf⟩ := oi_cf hf
      refine A_iald (pc := 73) dX1_extend_73 (lay_s hT (k := 46) (q := (0, 5)) rfl) (oob_f h8) ?_
      refine A_iload (pc := 74) dX1_extend_74 rfl ?_
      obtain ⟨q9, h10, hf⟩ := oi_b hf
      refine A_cV2i (mi2 := mX3_grudgeOf) (pc := 76) dX1_extend_76 lX1_76 fX3_grudgeOf vX3_grudgeOf (rv_0 hR1) rfl (Nat.le_of_ble_eq_true rfl) rfl (Nat.le_of_ble_eq_true rfl) (wX3_grudgeOf (by omega) hT hR1 h10) ?_
      refine A_ist (pc := 79) (L2 := [.ref 45, .ref r1, .int s2, .int s3, .int s4, .int s5, .int t6, .int q9]) dX1_extend_79 (Nat.le_of_ble_eq_true rfl) rfl ?_
      refine A_aloadn (pc := 81) dX1_extend_81 rfl ?_
      refine A_aloadn (pc := 82) dX1_extend_82 rfl ?_
      refine A_iloadn (pc := 83) dX1_extend_83 rfl ?_
      refine A_iconst (pc := 84) 1 dX1_extend_84 rfl ?_
      refine A_iadd (pc := 85) dX1_extend_85 ?_
      refine A_iloadn (pc := 86) dX1_extend_86 rfl ?_
      refine A_iconst (pc := 87) 1 dX1_extend_87 rfl ?_
      refine A_iload (pc := 88) dX1_extend_88 rfl ?_
      refine A_ishl (pc := 90) dX1_extend_90 ?_
      refine A_iconst (pc := 91) (-1) dX1_extend_91 rfl ?_
      refine A_ixor (pc := 92) dX1_extend_92 ?_
      refine A_iand (pc := 93) dX1_extend_93 ?_
      refine A_iload (pc := 94) dX1_extend_94 rfl ?_
      refine A_iload (pc := 96) dX1_extend_96 rfl ?_
      refine A_iadd (pc := 98) dX1_extend_98 ?_
      refine A_iload (pc := 99) dX1_extend_99 rfl ?_
      refine A_aloadn (pc := 101) dX1_extend_101 rfl ?_
      refine A_getR (pc := 102) dX1_extend_102 gX1_18 (lay_s hT (k := 45) (q := (3, 8)) rfl) (Nat.le_of_ble_eq_true rfl) rfl (lay_r hT 46 rfl) ?_
      refine A_iload (pc := 105) dX1_extend_105 rfl ?_
      obtain ⟨h11, hf⟩ := oi_cf hf
      refine A_iald (pc := 107) dX1_extend_107 (lay_s hT (k := 48) (q := (0, 7)) rfl) (oob_f h11) ?_
      refine A_mmin (pc := 108) dX1_extend_108 lX1_79 amin_1 oJ9 amin_3 (Nat.le_of_ble_eq_true rfl) ?_
      obtain ⟨q12, h13, hf⟩ := oi_b hf
      refine A_cV5v (mi2 := mX1_extend) (pc := 111) dX1_extend_111 lX1_61 fX1_extend vX1_extend (lay_s hT (k := 45) (q := (3, 8)) rfl) rfl (Nat.le_of_ble_eq_true rfl) rfl (Nat.le_of_ble_eq_true rfl) (hrec hR1 h13) ?_
      refine A_inc (pc := 114) (L2 := [.ref 45, .ref r1, .int s2, .int s3, .int s4, .int s5, .int (t6 + 1), .int q9]) (t6 + 1) dX1_extend_114 rfl rfl rfl ?_
      refine A_goto (pc := 117) 24 dX1_extend_117 (by decide) ?_
      refine A_fgt 7 (L' := [.ref 45, .ref r1, .int s2, .int s3, .int s4, .int s5, .int (t6 + 1), .null]) rfl ?_
      exact ih _ _ _ hf
    have hf := oi_t cc7 hf
    refine A_iconst (pc := 61) 0 dX1_extend_61 rfl ?_
    refine A_goto (pc := 62) 79 dX1_extend_62 (by decide) ?_
    refine A_ist (pc := 79) (L2 := [.ref 45, .ref r1, .int s2, .int s3, .int s4, .int s5, .int t6, .int 0]) dX1_extend_79 (Nat.le_of_ble_eq_true rfl) rfl ?_
    refine A_aloadn (pc := 81) dX1_extend_81 rfl ?_
    refine A_aloadn (pc := 82) dX1_extend_82 rfl ?_
    refine A_iloadn (pc := 83) dX1_extend_83 rfl ?_
    refine A_iconst (pc := 84) 1 dX1_extend_84 rfl ?_
    refine A_iadd (pc := 85) dX1_extend_85 ?_
    refine A_iloadn (pc := 86) dX1_extend_86 rfl ?_
    refine A_iconst (pc := 87) 1 dX1_extend_87 rfl ?_
    refine A_iload (pc := 88) dX1_extend_88 rfl ?_
    refine A_ishl (pc := 90) dX1_extend_90 ?_
    refine A_iconst (pc := 91) (-1) dX1_extend_91 rfl ?_
    refine A_ixor (pc := 92) dX1_extend_92 ?_
    refine A_iand (pc := 93) dX1_extend_93 ?_
    refine A_iload (pc := 94) dX1_extend_94 rfl ?_
    refine A_iload (pc := 96) dX1_extend_96 rfl ?_
    refine A_iadd (pc := 98) dX1_extend_98 ?_
    refine A_iload (pc := 99) dX1_extend_99 rfl ?_
    refine A_aloadn (pc := 101) dX1_extend_101 rfl ?_
    refine A_getR (pc := 102) dX1_extend_102 gX1_18 (lay_s hT (k := 45) (q := (3, 8)) rfl) (Nat.le_of_ble_eq_true rfl) rfl (lay_r hT 46 rfl) ?_
    refine A_iload (pc := 105) dX1_extend_105 rfl ?_
    obtain ⟨h14, hf⟩ := oi_cf hf
    refine A_iald (pc := 107) dX1_extend_107 (lay_s hT (k := 48) (q := (0, 7)) rfl) (oob_f h14) ?_
    refine A_mmin (pc := 108) dX1_extend_108 lX1_79 amin_1 oJ9 amin_3 (Nat.le_of_ble_eq_true rfl) ?_
    obtain ⟨q15, h16, hf⟩ := oi_b hf
    refine A_cV5v (mi2 := mX1_extend) (pc := 111) dX1_extend_111 lX1_61 fX1_extend vX1_extend (lay_s hT (k := 45) (q := (3, 8)) rfl) rfl (Nat.le_of_ble_eq_true rfl) rfl (Nat.le_of_ble_eq_true rfl) (hrec hR1 h16) ?_
    refine A_inc (pc := 114) (L2 := [.ref 45, .ref r1, .int s2, .int s3, .int s4, .int s5, .int (t6 + 1), .int 0]) (t6 + 1) dX1_extend_114 rfl rfl rfl ?_
    refine A_goto (pc := 117) 24 dX1_extend_117 (by decide) ?_
    refine A_fgt 7 (L' := [.ref 45, .ref r1, .int s2, .int s3, .int s4, .int s5, .int (t6 + 1), .null]) rfl ?_
    exact ih _ _ _ hf
set_option maxHeartbeats 4000000 in
set_option maxRecDepth 100000 in
theorem wX1_extend_B {G : GG} {T : TT} {n d : Nat} (hd : 2 ≤ d + 1) {rec : MU → Nat → Int32 → Int32 → Int32 → Int32 → Option (MU)} {q : MU} {u : MU} {r1 : Nat} {a2 : Int32} {a3 : Int32} {a4 : Int32} {a5 : Int32} (hT : LAY T) (hrec : ∀ {q : MU} {u : MU} {r1 : Nat} {a2 : Int32} {a3 : Int32} {a4 : Int32} {a5 : Int32}, RV T r1 → rec u r1 a2 a3 a4 a5 = some q → AW G d mX1_extend 0 [.ref 45, .ref r1, .int a2, .int a3, .int a4, .int a5, .null, .null] [] T u 0 0 (QV T q)) (hR1 : RV T r1) (hf : zX1_extend_B n rec u r1 a2 a3 a4 a5 = some q) : AW G (d + 1) mX1_extend 0 [.ref 45, .ref r1, .int a2, .int a3, .int a4, .int a5, .null, .null] [] T u 0 0 (QV T q) := by
  rw [zX1_extend_B] at hf
  refine A_iloadn (pc := 0) dX1_extend_0 rfl ?_
  refine A_aloadn (pc := 1) dX1_extend_1 rfl ?_
  refine A_getI (pc := 2) dX1_extend_2 gX1_51 (rv_0 hR1) (Nat.le_of_ble_eq_true rfl) rfl ?_
  refine A_icmp_lt (pc := 5) 21 dX1_extend_5 (by decide) (fun cc1 => ?_) (fun cc1 => ?_)
  · have hf := oi_t cc1 hf
    refine A_iconst (pc := 21) 0 dX1_extend_21 rfl ?_
    refine A_ist (pc := 22) (L2 := [.ref 45, .ref r1, .int a2, .int a3, .int a4, .int a5, .int 0, .null]) dX1_extend_22 (Nat.le_of_ble_eq_true rfl) rfl ?_
    exact wX1_extend_L24 (by omega) hT hrec hR1 (fun y17 w18 q0 hf => by
      obtain rfl := Option.some.inj hf
      exact A_vret (pc := 120) dX1_extend_120 rfl ⟨rfl, rfl, rfl⟩) _ _ _ _ hf
  have hf := oi_f cc1 hf
  refine A_aloadn (pc := 8) dX1_extend_8 rfl ?_
  refine A_aloadn (pc := 9) dX1_extend_9 rfl ?_
  refine A_getI (pc := 10) dX1_extend_10 gX1_51 (rv_0 hR1) (Nat.le_of_ble_eq_true rfl) rfl ?_
  refine A_iload (pc := 13) dX1_extend_13 rfl ?_
  refine A_iload (pc := 15) dX1_extend_15 rfl ?_
  obtain ⟨q19, h20, hf⟩ := oi_b hf
  refine A_cV3v (mi2 := mX1_weigh) (pc := 17) dX1_extend_17 lX1_72 fX1_weigh vX1_weigh (lay_s hT (k := 45) (q := (3, 8)) rfl) rfl (Nat.le_of_ble_eq_true rfl) rfl (Nat.le_of_ble_eq_true rfl) (wX1_weigh (by omega) hT  h20) ?_
  obtain rfl := Option.some.inj hf
  exact A_vret (pc := 20) dX1_extend_20 rfl ⟨rfl, rfl, rfl⟩
theorem wX1_extend {G : GG} {T : TT} {n : Nat} (hT : LAY T) : ∀ (p d : Nat), 2 + p ≤ d → ∀ {q : MU} {u : MU} {r1 : Nat} {a2 : Int32} {a3 : Int32} {a4 : Int32} {a5 : Int32}, RV T r1 → zX1_extend n p u r1 a2 a3 a4 a5 = some q → AW G d mX1_extend 0 [.ref 45, .ref r1, .int a2, .int a3, .int a4, .int a5, .null, .null] [] T u 0 0 (QV T q) := by
  intro p
  induction p with
  | zero =>
    intro d hd q u r1 a2 a3 a4 a5 hR1 hf
    have h0 : (none : Option (MU)) = some q := hf
    cases h0
  | succ p ih =>
    intro d hd q u r1 a2 a3 a4 a5 hR1 hf
    obtain ⟨d, rfl⟩ : ∃ e, d = e + 1 := ⟨d - 1, by omega⟩
    rw [zX1_extend] at hf
    exact wX1_extend_B (by omega) hT (fun h0 h => ih d (by omega) h0 h) hR1 hf
def zX1_thinkOf_L18 (n : Nat) (r1 : Nat) (s2 : Int32) (k : Int32 → MU → Option (MU)) : Nat → Int32 → MU → Option (MU)
  | 0, _, _ => none
  | m + 1, t3, u => if 7 ≤ t3 then (k t3 u) else (if oob t3 7 then none else letb (up2 u 50 t3.toNatClampNeg 0) (fun u6 => if oob t3 7 then none else Option.bind (zX2_minutes n u6 (r1 + 7 + t3.toNatClampNeg) (u6 r1 1)) (fun q8 => if oob t3 7 then none else letb (up2 u6 48 t3.toNatClampNeg q8) (fun u11 => zX1_thinkOf_L18 n r1 s2 k m (t3 + 1) u11))))
def zX1_thinkOf_L58 (n : Nat) (r1 : Nat) (s2 : Int32) (k : Int32 → MU → Option (MU)) : Nat → Int32 → MU → Option (MU)
  | 0, _, _ => none
  | m + 1, t3, u => if (u r1 0) ≤ t3 then (k t3 u) else (Option.bind (zX1_ableIn n u r1 t3) (fun q15 => if oob t3 5 then none else letb (up2 u 47 t3.toNatClampNeg q15) (fun u18 => zX1_thinkOf_L58 n r1 s2 k m (t3 + 1) u18)))
def zX1_thinkOf (n : Nat) (u : MU) (r1 : Nat) (a2 : Int32) : Option (MU) := letb (up2 u 45 3 0) (fun u1 => letb (up2 u1 45 4 0) (fun u2 => letb (up2 u2 45 6 (-9)) (fun u3 => zX1_thinkOf_L18 n r1 a2 (fun y12 w13 => zX1_thinkOf_L58 n r1 a2 (fun y19 w20 => Option.bind (zX1_extend n 8 w20 r1 0 a2 0 2147483647) (fun q21 => some q21)) n 0 w13) n 0 u3)))
set_option maxHeartbeats 4000000 in
set_option maxRecDepth 100000 in
theorem wX1_thinkOf_L18 {G : GG} {T : TT} {n d : Nat} (hd : 12 ≤ d) {r1 : Nat} {s2 : Int32} {k : Int32 → MU → Option (MU)} (hT : LAY T) (hR1 : RV T r1) (hk : ∀ (t3 : Int32) (u : MU) (q : MU), k t3 u = some q → AW G d mX1_thinkOf 56 [.ref 45, .ref r1, .int s2, .int t3] [] T u 0 0 (QV T q)) : ∀ (m : Nat) (t3 : Int32) (u : MU) (q : MU), zX1_thinkOf_L18 n r1 s2 k m t3 u = some q → AW G d mX1_thinkOf 18 [.ref 45, .ref r1, .int s2, .int t3] [] T u 0 0 (QV T q) := by
  intro m
  obtain ⟨d, rfl⟩ : ∃ e, d = e + 1 := ⟨d - 1, by omega⟩
  induction m with
  | zero =>
    intro t3 u q hf
    have h0 : (none : Option (MU)) = some q := hf
    cases h0
  | succ m ih =>
    intro t3 u q hf
    rw [zX1_thinkOf_L18] at hf
    refine A_iloadn (pc := 18) dX1_thinkOf_18 rfl ?_
    refine A_bipush (pc := 19) 7 dX1_thinkOf_19 rfl ?_
    refine A_icmp_ge (pc := 21) 56 dX1_thinkOf_21 (by decide) (fun cc4 => ?_) (fun cc4 => ?_)
    · have hf := oi_t cc4 hf
      exact hk _ _ _ hf
    have hf := oi_f cc4 hf
    refine A_aloadn (pc := 24) dX1_thinkOf_24 rfl ?_
    refine A_getR (pc := 25) dX1_thinkOf_25 gX1_34 (lay_s hT (k := 45) (q := (3, 8)) rfl) (Nat.le_of_ble_eq_true rfl) rfl (lay_r hT 48 rfl) ?_
    refine A_iloadn (pc := 28) dX1_thinkOf_28 rfl ?_
    refine A_iconst (pc := 29) 0 dX1_thinkOf_29 rfl ?_
    obtain ⟨h5, hf⟩ := oi_cf hf
    have hf := oi_l hf
    refine A_iast (pc := 30) dX1_thinkOf_30 (lay_s hT (k := 50) (q := (0, 7)) rfl) (oob_f h5) ?_
    refine A_aloadn (pc := 31) dX1_thinkOf_31 rfl ?_
    refine A_getR (pc := 32) dX1_thinkOf_32 gX1_18 (lay_s hT (k := 45) (q := (3, 8)) rfl) (Nat.le_of_ble_eq_true rfl) rfl (lay_r hT 46 rfl) ?_
    refine A_iloadn (pc := 35) dX1_thinkOf_35 rfl ?_
    refine A_aloadn (pc := 36) dX1_thinkOf_36 rfl ?_
    refine A_getR (pc := 37) dX1_thinkOf_37 gX1_37 (rv_0 hR1) (Nat.le_of_ble_eq_true rfl) rfl (rv_f7 hR1) ?_
    refine A_iloadn (pc := 40) dX1_thinkOf_40 rfl ?_
    obtain ⟨h7, hf⟩ := oi_cf hf
    refine A_aald (pc := 41) dX1_thinkOf_41 (rv_4 hR1) (oob_f h7) (rv_q hR1 (vpin_lt (oob_f h7))) ?_
    refine A_aloadn (pc := 42) dX1_thinkOf_42 rfl ?_
    refine A_getI (pc := 43) dX1_thinkOf_43 gX1_43 (rv_0 hR1) (Nat.le_of_ble_eq_true rfl) rfl ?_
    obtain ⟨q8, h9, hf⟩ := oi_b hf
    refine A_cV1i (mi2 := mX2_minutes) (pc := 46) dX1_thinkOf_46 lX1_46 fX2_minutes vX2_minutes (rv_p hR1 (vpin_lt (oob_f h7))) rfl (Nat.le_of_ble_eq_true rfl) rfl (Nat.le_of_ble_eq_true rfl) (wX2_minutes (by omega) hT (rv_p hR1 (vpin_lt (oob_f h7))) h9) ?_
    obtain ⟨h10, hf⟩ := oi_cf hf
    have hf := oi_l hf
    refine A_iast (pc := 49) dX1_thinkOf_49 (lay_s hT (k := 48) (q := (0, 7)) rfl) (oob_f h10) ?_
    refine A_inc (pc := 50) (L2 := [.ref 45, .ref r1, .int s2, .int (t3 + 1)]) (t3 + 1) dX1_thinkOf_50 rfl rfl rfl ?_
    refine A_goto (pc := 53) 18 dX1_thinkOf_53 (by decide) ?_
    exact ih _ _ _ hf
set_option maxHeartbeats 4000000 in
set_option maxRecDepth 100000 in
theorem wX1_thinkOf_L58 {G : GG} {T : TT} {n d : Nat} (hd : 12 ≤ d) {r1 : Nat} {s2 : Int32} {k : Int32 → MU → Option (MU)} (hT : LAY T) (hR1 : RV T r1) (hk : ∀ (t3 : Int32) (u : MU) (q : MU), k t3 u = some q → AW G d mX1_thinkOf 84 [.ref 45, .ref r1, .int s2, .int t3] [] T u 0 0 (QV T q)) : ∀ (m : Nat) (t3 : Int32) (u : MU) (q : MU), zX1_thinkOf_L58 n r1 s2 k m t3 u = some q → AW G d mX1_thinkOf 58 [.ref 45, .ref r1, .int s2, .int t3] [] T u 0 0 (QV T q) := by
  intro m
  obtain ⟨d, rfl⟩ : ∃ e, d = e + 1 := ⟨d - 1, by omega⟩
  induction m with
  | zero =>
    intro t3 u q hf
    have h0 : (none : Option (MU)) = some q := hf
    cases h0
  | succ m ih =>
    intro t3 u q hf
    rw [zX1_thinkOf_L58] at hf
    refine A_iloadn (pc := 58) dX1_thinkOf_58 rfl ?_
    refine A_aloadn (pc := 59) dX1_thinkOf_59 rfl ?_
    refine A_getI (pc := 60) dX1_thinkOf_60 gX1_51 (rv_0 hR1) (Nat.le_of_ble_eq_true rfl) rfl ?_
    refine A_icmp_ge (pc := 63) 84 dX1_thinkOf_63 (by decide) (fun cc14 => ?_) (fun cc14 => ?_)
    · have hf := oi_t cc14 hf
      exact hk _ _ _ hf
    have hf := oi_f cc14 hf
    refine A_aloadn (pc := 66) dX1_thinkOf_66 rfl ?_
    refine A_getR (pc := 67) dX1_thinkOf_67 gX1_15 (lay_s hT (k := 45) (q := (3, 8)) rfl) (Nat.le_of_ble_eq_true rfl) rfl (lay_r hT 45 rfl) ?_
    refine A_iloadn (pc := 70) dX1_thinkOf_70 rfl ?_
    refine A_aloadn (pc := 71) dX1_thinkOf_71 rfl ?_
    refine A_aloadn (pc := 72) dX1_thinkOf_72 rfl ?_
    refine A_iloadn (pc := 73) dX1_thinkOf_73 rfl ?_
    obtain ⟨q15, h16, hf⟩ := oi_b hf
    refine A_cV2i (mi2 := mX1_ableIn) (pc := 74) dX1_thinkOf_74 lX1_54 fX1_ableIn vX1_ableIn (lay_s hT (k := 45) (q := (3, 8)) rfl) rfl (Nat.le_of_ble_eq_true rfl) rfl (Nat.le_of_ble_eq_true rfl) (wX1_ableIn (by omega) hT hR1 h16) ?_
    obtain ⟨h17, hf⟩ := oi_cf hf
    have hf := oi_l hf
    refine A_iast (pc := 77) dX1_thinkOf_77 (lay_s hT (k := 47) (q := (0, 5)) rfl) (oob_f h17) ?_
    refine A_inc (pc := 78) (L2 := [.ref 45, .ref r1, .int s2, .int (t3 + 1)]) (t3 + 1) dX1_thinkOf_78 rfl rfl rfl ?_
    refine A_goto (pc := 81) 58 dX1_thinkOf_81 (by decide) ?_
    exact ih _ _ _ hf
set_option maxHeartbeats 4000000 in
set_option maxRecDepth 100000 in
theorem wX1_thinkOf {G : GG} {T : TT} {n d : Nat} (hd : 12 ≤ d) {q : MU} {u : MU} {r1 : Nat} {a2 : Int32} (hT : LAY T) (hR1 : RV T r1) (hf : zX1_thinkOf n u r1 a2 = some q) : AW G d mX1_thinkOf 0 [.ref 45, .ref r1, .int a2, .null] [] T u 0 0 (QV T q) := by
  obtain ⟨d, rfl⟩ : ∃ e, d = e + 1 := ⟨d - 1, by omega⟩
  rw [zX1_thinkOf] at hf
  refine A_aloadn (pc := 0) dX1_thinkOf_0 rfl ?_
  refine A_iconst (pc := 1) 0 dX1_thinkOf_1 rfl ?_
  have hf := oi_l hf
  refine A_putI (pc := 2) dX1_thinkOf_2 gX1_21 (lay_s hT (k := 45) (q := (3, 8)) rfl) (Nat.le_of_ble_eq_true rfl) rfl rfl rfl rfl ?_
  refine A_aloadn (pc := 5) dX1_thinkOf_5 rfl ?_
  refine A_iconst (pc := 6) 0 dX1_thinkOf_6 rfl ?_
  have hf := oi_l hf
  refine A_putI (pc := 7) dX1_thinkOf_7 gX1_25 (lay_s hT (k := 45) (q := (3, 8)) rfl) (Nat.le_of_ble_eq_true rfl) rfl rfl rfl rfl ?_
  refine A_aloadn (pc := 10) dX1_thinkOf_10 rfl ?_
  refine A_bipush (pc := 11) (-9) dX1_thinkOf_11 rfl ?_
  have hf := oi_l hf
  refine A_putI (pc := 13) dX1_thinkOf_13 gX1_31 (lay_s hT (k := 45) (q := (3, 8)) rfl) (Nat.le_of_ble_eq_true rfl) rfl rfl rfl rfl ?_
  refine A_iconst (pc := 16) 0 dX1_thinkOf_16 rfl ?_
  refine A_istn (pc := 17) (L2 := [.ref 45, .ref r1, .int a2, .int 0]) dX1_thinkOf_17 (Nat.le_of_ble_eq_true rfl) rfl ?_
  exact wX1_thinkOf_L18 (by omega) hT hR1 (fun y12 w13 q0 hf => by
    refine A_iconst (pc := 56) 0 dX1_thinkOf_56 rfl ?_
    refine A_istn (pc := 57) (L2 := [.ref 45, .ref r1, .int a2, .int 0]) dX1_thinkOf_57 (Nat.le_of_ble_eq_true rfl) rfl ?_
    exact wX1_thinkOf_L58 (by omega) hT hR1 (fun y19 w20 q0 hf => by
      refine A_aloadn (pc := 84) dX1_thinkOf_84 rfl ?_
      refine A_aloadn (pc := 85) dX1_thinkOf_85 rfl ?_
      refine A_iconst (pc := 86) 0 dX1_thinkOf_86 rfl ?_
      refine A_iloadn (pc := 87) dX1_thinkOf_87 rfl ?_
      refine A_iconst (pc := 88) 0 dX1_thinkOf_88 rfl ?_
      refine A_ldc (pc := 89) dX1_thinkOf_89 nX1_60 ?_
      obtain ⟨q21, h22, hf⟩ := oi_b hf
      refine A_cV5v (mi2 := mX1_extend) (pc := 91) dX1_thinkOf_91 lX1_61 fX1_extend vX1_extend (lay_s hT (k := 45) (q := (3, 8)) rfl) rfl (Nat.le_of_ble_eq_true rfl) rfl (Nat.le_of_ble_eq_true rfl) (wX1_extend hT 8 _ (by omega) hR1 h22) ?_
      obtain rfl := Option.some.inj hf
      exact A_vret (pc := 94) dX1_thinkOf_94 rfl ⟨rfl, rfl, rfl⟩) _ _ _ _ hf) _ _ _ _ hf
def zX1_bestChange_L45 (n : Nat) (r1 : Nat) (s4 : Int32) (k : Int32 → Int32 → Int32 → MU → Option (Int32 × MU)) : Nat → Int32 → Int32 → Int32 → MU → Option (Int32 × MU)
  | 0, _, _, _, _ => none
  | m + 1, t2, t3, t5, u => if (u r1 3) ≤ t5 then (k t2 t3 t5 u) else (if oob s4 5 then none else if (u (r1 + 3) s4.toNatClampNeg) = (-9) then (k t2 t3 t5 u) else (if oob s4 5 then none else letb (up2 u 46 s4.toNatClampNeg t5) (fun u10 => Option.bind (zX3_isNear n u10 r1 t5) (fun q11 => if q11 = 0 then (if (-9) ≤ t2 then (zX1_bestChange_L45 n r1 s4 k m t2 t3 (t5 + 1) u10) else (letb ((10 * s4) + t5) (fun x15 => zX1_bestChange_L45 n r1 s4 k m (-9) x15 (t5 + 1) u10))) else (Option.bind (zX3_minutesOf n u10 r1 46 5) (fun q16 => if q16 ≤ t2 then (zX1_bestChange_L45 n r1 s4 k m t2 t3 (t5 + 1) u10) else (letb ((10 * s4) + t5) (fun x19 => zX1_bestChange_L45 n r1 s4 k m q16 x19 (t5 + 1) u10))))))))
def zX1_bestChange_L33 (n : Nat) (r1 : Nat) (k : Int32 → Int32 → Int32 → MU → Option (Int32 × MU)) : Nat → Int32 → Int32 → Int32 → MU → Option (Int32 × MU)
  | 0, _, _, _, _ => none
  | m + 1, t2, t3, t4, u => if (u r1 0) ≤ t4 then (k t2 t3 t4 u) else (zX1_bestChange_L45 n r1 t4 (fun y20 y21 y22 w23 => if oob t4 5 then none else if oob t4 5 then none else letb (up2 w23 46 t4.toNatClampNeg (w23 (r1 + 3) t4.toNatClampNeg)) (fun u26 => zX1_bestChange_L33 n r1  k m y20 y21 (t4 + 1) u26)) n t2 t3 0 u)
def zX1_bestChange (n : Nat) (u : MU) (r1 : Nat) : Option (Int32 × MU) := Option.bind (zX3_minutesOf n u r1 (r1 + 3) 5) (fun q1 => letb (if 0 < q1 then q1 else 0) (fun x3 => letb (upc u (r1 + 3) 46 0 0 (5 : Int32).toNatClampNeg) (fun u4 => zX1_bestChange_L33 n r1  (fun y27 y28 y29 w30 => some (y28, w30)) n x3 (-9) 0 u4)))
set_option maxHeartbeats 4000000 in
set_option maxRecDepth 100000 in
theorem wX1_bestChange_L45 {G : GG} {T : TT} {n d : Nat} (hd : 6 ≤ d) {r1 : Nat} {s4 : Int32} {k : Int32 → Int32 → Int32 → MU → Option (Int32 × MU)} (hT : LAY T) (hR1 : RV T r1) (hk : ∀ (t2 : Int32) (t3 : Int32) (t5 : Int32) (u : MU) (q : Int32 × MU), k t2 t3 t5 u = some q → AW G d mX1_bestChange 123 [.ref 45, .ref r1, .int t2, .int t3, .int s4, .int t5, .null] [] T u 0 0 (QS T q.1 q.2)) : ∀ (m : Nat) (t2 : Int32) (t3 : Int32) (t5 : Int32) (u : MU) (q : Int32 × MU), zX1_bestChange_L45 n r1 s4 k m t2 t3 t5 u = some q → AW G d mX1_bestChange 45 [.ref 45, .ref r1, .int t2, .int t3, .int s4, .int t5, .null] [] T u 0 0 (QS T q.1 q.2) := by
  intro m
  obtain ⟨d, rfl⟩ : ∃ e, d = e + 1 := ⟨d - 1, by omega⟩
  induction m with
  | zero =>
    intro t2 t3 t5 u q hf
    have h0 : (none : Option (Int32 × MU)) = some q := hf
    cases h0
  | succ m ih =>
    intro t2 t3 t5 u q hf
    rw [zX1_bestChange_L45] at hf
    refine A_iload (pc := 45) dX1_bestChange_45 rfl ?_
    refine A_aloadn (pc := 47) dX1_bestChange_47 rfl ?_
    refine A_getI (pc := 48) dX1_bestChange_48 gX1_65 (rv_0 hR1) (Nat.le_of_ble_eq_true rfl) rfl ?_
    refine A_icmp_ge (pc := 51) 123 dX1_bestChange_51 (by decide) (fun cc6 => ?_) (fun cc6 => ?_)
    · have hf := oi_t cc6 hf
      exact hk _ _ _ _ _ hf
    have hf := oi_f cc6 hf
    refine A_aloadn (pc := 54) dX1_bestChange_54 rfl ?_
    refine A_getR (pc := 55) dX1_bestChange_55 gX1_90 (rv_0 hR1) (Nat.le_of_ble_eq_true rfl) rfl (rv_f6 hR1) ?_
    refine A_iload (pc := 58) dX1_bestChange_58 rfl ?_
    obtain ⟨h7, hf⟩ := oi_cf hf
    refine A_iald (pc := 60) dX1_bestChange_60 (rv_3 hR1) (oob_f h7) ?_
    refine A_bipush (pc := 61) (-9) dX1_bestChange_61 rfl ?_
    refine A_icmp_eq (pc := 63) 123 dX1_bestChange_63 (by decide) (fun cc8 => ?_) (fun cc8 => ?_)
    · have hf := oi_t cc8 hf
      exact hk _ _ _ _ _ hf
    have hf := oi_f cc8 hf
    refine A_aloadn (pc := 66) dX1_bestChange_66 rfl ?_
    refine A_getR (pc := 67) dX1_bestChange_67 gX1_9 (lay_s hT (k := 45) (q := (3, 8)) rfl) (Nat.le_of_ble_eq_true rfl) rfl (lay_r hT 44 rfl) ?_
    refine A_iload (pc := 70) dX1_bestChange_70 rfl ?_
    refine A_iload (pc := 72) dX1_bestChange_72 rfl ?_
    obtain ⟨h9, hf⟩ := oi_cf hf
    have hf := oi_l hf
    refine A_iast (pc := 74) dX1_bestChange_74 (lay_s hT (k := 46) (q := (0, 5)) rfl) (oob_f h9) ?_
    refine A_aloadn (pc := 75) dX1_bestChange_75 rfl ?_
    refine A_iload (pc := 76) dX1_bestChange_76 rfl ?_
    obtain ⟨q11, h12, hf⟩ := oi_b hf
    refine A_cV1i (mi2 := mX3_isNear) (pc := 78) dX1_bestChange_78 lX1_100 fX3_isNear vX3_isNear (rv_0 hR1) rfl (Nat.le_of_ble_eq_true rfl) rfl (Nat.le_of_ble_eq_true rfl) (wX3_isNear (by omega) hT hR1 h12) ?_
    refine A_if_eq (pc := 81) (w := 0) 95 dX1_bestChange_81 (by decide) (fun cc13 => ?_) (fun cc13 => ?_)
    · have hf := oi_t cc13 hf
      refine A_bipush (pc := 95) (-9) dX1_bestChange_95 rfl ?_
      refine A_ist (pc := 97) (L2 := [.ref 45, .ref r1, .int t2, .int t3, .int s4, .int t5, .int (-9)]) dX1_bestChange_97 (Nat.le_of_ble_eq_true rfl) rfl ?_
      refine A_iload (pc := 99) dX1_bestChange_99 rfl ?_
      refine A_iloadn (pc := 101) dX1_bestChange_101 rfl ?_
      refine A_icmp_le (pc := 102) 117 dX1_bestChange_102 (by decide) (fun cc14 => ?_) (fun cc14 => ?_)
      · have hf := oi_t cc14 hf
        refine A_inc (pc := 117) (L2 := [.ref 45, .ref r1, .int t2, .int t3, .int s4, .int (t5 + 1), .int (-9)]) (t5 + 1) dX1_bestChange_117 rfl rfl rfl ?_
        refine A_goto (pc := 120) 45 dX1_bestChange_120 (by decide) ?_
        refine A_fgt 6 (L' := [.ref 45, .ref r1, .int t2, .int t3, .int s4, .int (t5 + 1), .null]) rfl ?_
        exact ih _ _ _ _ _ hf
      have hf := oi_f cc14 hf
      refine A_iload (pc := 105) dX1_bestChange_105 rfl ?_
      refine A_istn (pc := 107) (L2 := [.ref 45, .ref r1, .int (-9), .int t3, .int s4, .int t5, .int (-9)]) dX1_bestChange_107 (Nat.le_of_ble_eq_true rfl) rfl ?_
      refine A_bipush (pc := 108) 10 dX1_bestChange_108 rfl ?_
      refine A_iload (pc := 110) dX1_bestChange_110 rfl ?_
      refine A_imul (pc := 112) dX1_bestChange_112 ?_
      refine A_iload (pc := 113) dX1_bestChange_113 rfl ?_
      refine A_iadd (pc := 115) dX1_bestChange_115 ?_
      have hf := oi_l hf
      refine A_istn (pc := 116) (L2 := [.ref 45, .ref r1, .int (-9), .int ((10 * s4) + t5), .int s4, .int t5, .int (-9)]) dX1_bestChange_116 (Nat.le_of_ble_eq_true rfl) rfl ?_
      refine A_inc (pc := 117) (L2 := [.ref 45, .ref r1, .int (-9), .int ((10 * s4) + t5), .int s4, .int (t5 + 1), .int (-9)]) (t5 + 1) dX1_bestChange_117 rfl rfl rfl ?_
      refine A_goto (pc := 120) 45 dX1_bestChange_120 (by decide) ?_
      refine A_fgt 6 (L' := [.ref 45, .ref r1, .int (-9), .int ((10 * s4) + t5), .int s4, .int (t5 + 1), .null]) rfl ?_
      exact ih _ _ _ _ _ hf
    have hf := oi_f cc13 hf
    refine A_aloadn (pc := 84) dX1_bestChange_84 rfl ?_
    refine A_aloadn (pc := 85) dX1_bestChange_85 rfl ?_
    refine A_getR (pc := 86) dX1_bestChange_86 gX1_9 (lay_s hT (k := 45) (q := (3, 8)) rfl) (Nat.le_of_ble_eq_true rfl) rfl (lay_r hT 44 rfl) ?_
    obtain ⟨q16, h17, hf⟩ := oi_b hf
    refine A_cV1i (mi2 := mX3_minutesOf) (pc := 89) dX1_bestChange_89 lX1_93 fX3_minutesOf vX3_minutesOf (rv_0 hR1) rfl (Nat.le_of_ble_eq_true rfl) rfl (Nat.le_of_ble_eq_true rfl) (wX3_minutesOf (by omega) hT hR1 (lay_s hT (k := 46) (q := (0, 5)) rfl) h17) ?_
    refine A_goto (pc := 92) 97 dX1_bestChange_92 (by decide) ?_
    refine A_ist (pc := 97) (L2 := [.ref 45, .ref r1, .int t2, .int t3, .int s4, .int t5, .int q16]) dX1_bestChange_97 (Nat.le_of_ble_eq_true rfl) rfl ?_
    refine A_iload (pc := 99) dX1_bestChange_99 rfl ?_
    refine A_iloadn (pc := 101) dX1_bestChange_101 rfl ?_
    refine A_icmp_le (pc := 102) 117 dX1_bestChange_102 (by decide) (fun cc18 => ?_) (fun cc18 => ?_)
    · have hf := oi_t cc18 hf
      refine A_inc (pc := 117) (L2 := [.ref 45, .ref r1, .int t2, .int t3, .int s4, .int (t5 + 1), .int q16]) (t5 + 1) dX1_bestChange_117 rfl rfl rfl ?_
      refine A_goto (pc := 120) 45 dX1_bestChange_120 (by decide) ?_
      refine A_fgt 6 (L' := [.ref 45, .ref r1, .int t2, .int t3, .int s4, .int (t5 + 1), .null]) rfl ?_
      exact ih _ _ _ _ _ hf
    have hf := oi_f cc18 hf
    refine A_iload (pc := 105) dX1_bestChange_105 rfl ?_
    refine A_istn (pc := 107) (L2 := [.ref 45, .ref r1, .int q16, .int t3, .int s4, .int t5, .int q16]) dX1_bestChange_107 (Nat.le_of_ble_eq_true rfl) rfl ?_
    refine A_bipush (pc := 108) 10 dX1_bestChange_108 rfl ?_
    refine A_iload (pc := 110) dX1_bestChange_110 rfl ?_
    refine A_imul (pc := 112) dX1_bestChange_112 ?_
    refine A_iload (pc := 113) dX1_bestChange_113 rfl ?_
    refine A_iadd (pc := 115) dX1_bestChange_115 ?_
    have hf := oi_l hf
    refine A_istn (pc := 116) (L2 := [.ref 45, .ref r1, .int q16, .int ((10 * s4) + t5), .int s4, .int t5, .int q16]) dX1_bestChange_116 (Nat.le_of_ble_eq_true rfl) rfl ?_
    refine A_inc (pc := 117) (L2 := [.ref 45, .ref r1, .int q16, .int ((10 * s4) + t5), .int s4, .int (t5 + 1), .int q16]) (t5 + 1) dX1_bestChange_117 rfl rfl rfl ?_
    refine A_goto (pc := 120) 45 dX1_bestChange_120 (by decide) ?_
    refine A_fgt 6 (L' := [.ref 45, .ref r1, .int q16, .int ((10 * s4) + t5), .int s4, .int (t5 + 1), .null]) rfl ?_
    exact ih _ _ _ _ _ hf
set_option maxHeartbeats 4000000 in
set_option maxRecDepth 100000 in
theorem wX1_bestChange_L33 {G : GG} {T : TT} {n d : Nat} (hd : 6 ≤ d) {r1 : Nat} {k : Int32 → Int32 → Int32 → MU → Option (Int32 × MU)} (hT : LAY T) (hR1 : RV T r1) (hk : ∀ (t2 : Int32) (t3 : Int32) (t4 : Int32) (u : MU) (q : Int32 × MU), k t2 t3 t4 u = some q → AW G d mX1_bestChange 143 [.ref 45, .ref r1, .int t2, .int t3, .int t4, .null, .null] [] T u 0 0 (QS T q.1 q.2)) : ∀ (m : Nat) (t2 : Int32) (t3 : Int32) (t4 : Int32) (u : MU) (q : Int32 × MU), zX1_bestChange_L33 n r1 k m t2 t3 t4 u = some q → AW G d mX1_bestChange 33 [.ref 45, .ref r1, .int t2, .int t3, .int t4, .null, .null] [] T u 0 0 (QS T q.1 q.2) := by
  intro m
  obtain ⟨d, rfl⟩ : ∃ e, d = e + 1 := ⟨d - 1, by omega⟩
  induction m with
  | zero =>
    intro t2 t3 t4 u q hf
    have h0 : (none : Option (Int32 × MU)) = some q := hf
    cases h0
  | succ m ih =>
    intro t2 t3 t4 u q hf
    rw [zX1_bestChange_L33] at hf
    refine A_iload (pc := 33) dX1_bestChange_33 rfl ?_
    refine A_aloadn (pc := 35) dX1_bestChange_35 rfl ?_
    refine A_getI (pc := 36) dX1_bestChange_36 gX1_51 (rv_0 hR1) (Nat.le_of_ble_eq_true rfl) rfl ?_
    refine A_icmp_ge (pc := 39) 143 dX1_bestChange_39 (by decide) (fun cc5 => ?_) (fun cc5 => ?_)
    · have hf := oi_t cc5 hf
      exact hk _ _ _ _ _ hf
    have hf := oi_f cc5 hf
    refine A_iconst (pc := 42) 0 dX1_bestChange_42 rfl ?_
    refine A_ist (pc := 43) (L2 := [.ref 45, .ref r1, .int t2, .int t3, .int t4, .int 0, .null]) dX1_bestChange_43 (Nat.le_of_ble_eq_true rfl) rfl ?_
    exact wX1_bestChange_L45 (by omega) hT hR1 (fun y20 y21 y22 w23 q0 hf => by
      refine A_aloadn (pc := 123) dX1_bestChange_123 rfl ?_
      refine A_getR (pc := 124) dX1_bestChange_124 gX1_9 (lay_s hT (k := 45) (q := (3, 8)) rfl) (Nat.le_of_ble_eq_true rfl) rfl (lay_r hT 44 rfl) ?_
      refine A_iload (pc := 127) dX1_bestChange_127 rfl ?_
      refine A_aloadn (pc := 129) dX1_bestChange_129 rfl ?_
      refine A_getR (pc := 130) dX1_bestChange_130 gX1_90 (rv_0 hR1) (Nat.le_of_ble_eq_true rfl) rfl (rv_f6 hR1) ?_
      refine A_iload (pc := 133) dX1_bestChange_133 rfl ?_
      obtain ⟨h24, hf⟩ := oi_cf hf
      refine A_iald (pc := 135) dX1_bestChange_135 (rv_3 hR1) (oob_f h24) ?_
      obtain ⟨h25, hf⟩ := oi_cf hf
      have hf := oi_l hf
      refine A_iast (pc := 136) dX1_bestChange_136 (lay_s hT (k := 46) (q := (0, 5)) rfl) (oob_f h25) ?_
      refine A_inc (pc := 137) (L2 := [.ref 45, .ref r1, .int y20, .int y21, .int (t4 + 1), .int y22, .null]) (t4 + 1) dX1_bestChange_137 rfl rfl rfl ?_
      refine A_goto (pc := 140) 33 dX1_bestChange_140 (by decide) ?_
      refine A_fgt 5 (L' := [.ref 45, .ref r1, .int y20, .int y21, .int (t4 + 1), .null, .null]) rfl ?_
      exact ih _ _ _ _ _ hf) _ _ _ _ _ _ hf
set_option maxHeartbeats 4000000 in
set_option maxRecDepth 100000 in
theorem wX1_bestChange {G : GG} {T : TT} {n d : Nat} (hd : 6 ≤ d) {q : Int32 × MU} {u : MU} {r1 : Nat} (hT : LAY T) (hR1 : RV T r1) (hf : zX1_bestChange n u r1 = some q) : AW G d mX1_bestChange 0 [.ref 45, .ref r1, .null, .null, .null, .null, .null] [] T u 0 0 (QS T q.1 q.2) := by
  obtain ⟨d, rfl⟩ : ∃ e, d = e + 1 := ⟨d - 1, by omega⟩
  rw [zX1_bestChange] at hf
  refine A_iconst (pc := 0) 0 dX1_bestChange_0 rfl ?_
  refine A_aloadn (pc := 1) dX1_bestChange_1 rfl ?_
  refine A_aloadn (pc := 2) dX1_bestChange_2 rfl ?_
  refine A_getR (pc := 3) dX1_bestChange_3 gX1_90 (rv_0 hR1) (Nat.le_of_ble_eq_true rfl) rfl (rv_f6 hR1) ?_
  obtain ⟨q1, h2, hf⟩ := oi_b hf
  refine A_cV1i (mi2 := mX3_minutesOf) (pc := 6) dX1_bestChange_6 lX1_93 fX3_minutesOf vX3_minutesOf (rv_0 hR1) rfl (Nat.le_of_ble_eq_true rfl) rfl (Nat.le_of_ble_eq_true rfl) (wX3_minutesOf (by omega) hT hR1 (rv_3 hR1) h2) ?_
  refine A_mmax (pc := 9) dX1_bestChange_9 lX1_97 amax_1 oJ9 amax_3 (Nat.le_of_ble_eq_true rfl) ?_
  have hf := oi_l hf
  refine A_istn (pc := 12) (L2 := [.ref 45, .ref r1, .int (if 0 < q1 then q1 else 0), .null, .null, .null, .null]) dX1_bestChange_12 (Nat.le_of_ble_eq_true rfl) rfl ?_
  refine A_bipush (pc := 13) (-9) dX1_bestChange_13 rfl ?_
  refine A_istn (pc := 15) (L2 := [.ref 45, .ref r1, .int (if 0 < q1 then q1 else 0), .int (-9), .null, .null, .null]) dX1_bestChange_15 (Nat.le_of_ble_eq_true rfl) rfl ?_
  refine A_aloadn (pc := 16) dX1_bestChange_16 rfl ?_
  refine A_getR (pc := 17) dX1_bestChange_17 gX1_90 (rv_0 hR1) (Nat.le_of_ble_eq_true rfl) rfl (rv_f6 hR1) ?_
  refine A_iconst (pc := 20) 0 dX1_bestChange_20 rfl ?_
  refine A_aloadn (pc := 21) dX1_bestChange_21 rfl ?_
  refine A_getR (pc := 22) dX1_bestChange_22 gX1_9 (lay_s hT (k := 45) (q := (3, 8)) rfl) (Nat.le_of_ble_eq_true rfl) rfl (lay_r hT 44 rfl) ?_
  refine A_iconst (pc := 25) 0 dX1_bestChange_25 rfl ?_
  refine A_iconst (pc := 26) 5 dX1_bestChange_26 rfl ?_
  have hf := oi_l hf
  refine A_copyi (pc := 27) dX1_bestChange_27 lX1_84 acopy_1 acopy_2 oJ10 (rv_3 hR1) (lay_s hT (k := 46) (q := (0, 5)) rfl) (by decide) (by decide) (by decide) (Nat.le_of_ble_eq_true rfl) (Nat.le_of_ble_eq_true rfl) (Nat.le_of_ble_eq_true rfl) ?_
  refine A_iconst (pc := 30) 0 dX1_bestChange_30 rfl ?_
  refine A_ist (pc := 31) (L2 := [.ref 45, .ref r1, .int (if 0 < q1 then q1 else 0), .int (-9), .int 0, .null, .null]) dX1_bestChange_31 (Nat.le_of_ble_eq_true rfl) rfl ?_
  exact wX1_bestChange_L33 (by omega) hT hR1 (fun y27 y28 y29 w30 q0 hf => by
    refine A_iloadn (pc := 143) dX1_bestChange_143 rfl ?_
    obtain rfl := Option.some.inj hf
    exact A_iret (pc := 144) dX1_bestChange_144 rfl rfl ⟨rfl, rfl, rfl⟩) _ _ _ _ _ _ hf
def zX1_drawBelow (n : Nat) (u : MU) (a0 : Int32) (a1 : Int32) : Option (Int32) := if 1 ≤ a0 then (if a0 = 0 then none else some (((a1 &&& 2147483647) / 65536) - ((a1 &&& 2147483647) / 65536) / a0 * a0)) else (some 0)
set_option maxHeartbeats 4000000 in
set_option maxRecDepth 100000 in
theorem wX1_drawBelow {G : GG} {T : TT} {n d : Nat} (hd : 0 ≤ d) {q : Int32} {u : MU} {a0 : Int32} {a1 : Int32} (hT : LAY T) (hf : zX1_drawBelow n u a0 a1 = some q) : AW G d mX1_drawBelow 0 [.int a0, .int a1] [] T u 0 0 (QS T q u) := by
  rw [zX1_drawBelow] at hf
  refine A_iloadn (pc := 0) dX1_drawBelow_0 rfl ?_
  refine A_iconst (pc := 1) 1 dX1_drawBelow_1 rfl ?_
  refine A_icmp_ge (pc := 2) 9 dX1_drawBelow_2 (by decide) (fun cc1 => ?_) (fun cc1 => ?_)
  · have hf := oi_t cc1 hf
    refine A_iloadn (pc := 9) dX1_drawBelow_9 rfl ?_
    refine A_ldc (pc := 10) dX1_drawBelow_10 nX1_60 ?_
    refine A_iand (pc := 12) dX1_drawBelow_12 ?_
    refine A_ldc (pc := 13) dX1_drawBelow_13 nX1_112 ?_
    refine A_idiv (pc := 15) dX1_drawBelow_15 (by decide) ?_
    refine A_iloadn (pc := 16) dX1_drawBelow_16 rfl ?_
    obtain ⟨h2, hf⟩ := oi_cf hf
    refine A_irem (pc := 17) dX1_drawBelow_17 h2 ?_
    obtain rfl := Option.some.inj hf
    exact A_iret (pc := 18) dX1_drawBelow_18 rfl rfl ⟨rfl, rfl, rfl⟩
  have hf := oi_f cc1 hf
  refine A_iconst (pc := 5) 0 dX1_drawBelow_5 rfl ?_
  refine A_goto (pc := 6) 18 dX1_drawBelow_6 (by decide) ?_
  obtain rfl := Option.some.inj hf
  exact A_iret (pc := 18) dX1_drawBelow_18 rfl rfl ⟨rfl, rfl, rfl⟩
def zX1_standingBySeed_L18 (n : Nat) (r1 : Nat) (s2 : Int32) (s5 : Int32) (s6 : Int32) (k : Int32 → Int32 → MU → Option (Int32 × MU)) : Nat → Int32 → Int32 → MU → Option (Int32 × MU)
  | 0, _, _, _ => none
  | m + 1, t4, t7, u => if (u r1 0) ≤ t7 then (k t4 t7 u) else (letb ((t4 * 1103515245) + 12345) (fun x3 => Option.bind (zX1_drawBelow n u (u r1 3) x3) (fun q4 => if oob t7 5 then none else letb (up2 u 46 t7.toNatClampNeg q4) (fun u7 => zX1_standingBySeed_L18 n r1 s2 s5 s6 k m x3 (t7 + 1) u7))))
def zX1_standingBySeed_L9 (n : Nat) (r1 : Nat) (s2 : Int32) (k : Int32 → Int32 → Int32 → MU → Option (Int32 × MU)) : Nat → Int32 → Int32 → Int32 → MU → Option (Int32 × MU)
  | 0, _, _, _, _ => none
  | m + 1, t4, t5, t6, u => if s2 ≤ t6 then (k t4 t5 t6 u) else (zX1_standingBySeed_L18 n r1 s2 t5 t6 (fun y8 y9 w10 => Option.bind (zX3_firstAmiss n w10 r1 46 5 (w10 r1 0)) (fun q11 => if q11 = (-9) then (zX1_standingBySeed_L9 n r1 s2 k m y8 (t5 + 1) (t6 + 1) w10) else (zX1_standingBySeed_L9 n r1 s2 k m y8 t5 (t6 + 1) w10))) n t4 0 u)
def zX1_standingBySeed (n : Nat) (u : MU) (r1 : Nat) (a2 : Int32) (a3 : Int32) : Option (Int32 × MU) := zX1_standingBySeed_L9 n r1 a2 (fun y14 y15 y16 w17 => some (y15, w17)) n a3 0 0 u
set_option maxHeartbeats 4000000 in
set_option maxRecDepth 100000 in
theorem wX1_standingBySeed_L18 {G : GG} {T : TT} {n d : Nat} (hd : 5 ≤ d) {r1 : Nat} {s2 : Int32} {s5 : Int32} {s6 : Int32} {k : Int32 → Int32 → MU → Option (Int32 × MU)} (hT : LAY T) (hR1 : RV T r1) (hk : ∀ (t4 : Int32) (t7 : Int32) (u : MU) (q : Int32 × MU), k t4 t7 u = some q → AW G d mX1_standingBySeed 60 [.ref 45, .ref r1, .int s2, .null, .int t4, .int s5, .int s6, .int t7] [] T u 0 0 (QS T q.1 q.2)) : ∀ (m : Nat) (t4 : Int32) (t7 : Int32) (u : MU) (q : Int32 × MU), zX1_standingBySeed_L18 n r1 s2 s5 s6 k m t4 t7 u = some q → AW G d mX1_standingBySeed 18 [.ref 45, .ref r1, .int s2, .null, .int t4, .int s5, .int s6, .int t7] [] T u 0 0 (QS T q.1 q.2) := by
  intro m
  obtain ⟨d, rfl⟩ : ∃ e, d = e + 1 := ⟨d - 1, by omega⟩
  induction m with
  | zero =>
    intro t4 t7 u q hf
    have h0 : (none : Option (Int32 × MU)) = some q := hf
    cases h0
  | succ m ih =>
    intro t4 t7 u q hf
    rw [zX1_standingBySeed_L18] at hf
    refine A_iload (pc := 18) dX1_standingBySeed_18 rfl ?_
    refine A_aloadn (pc := 20) dX1_standingBySeed_20 rfl ?_
    refine A_getI (pc := 21) dX1_standingBySeed_21 gX1_51 (rv_0 hR1) (Nat.le_of_ble_eq_true rfl) rfl ?_
    refine A_icmp_ge (pc := 24) 60 dX1_standingBySeed_24 (by decide) (fun cc2 => ?_) (fun cc2 => ?_)
    · have hf := oi_t cc2 hf
      exact hk _ _ _ _ hf
    have hf := oi_f cc2 hf
    refine A_iload (pc := 27) dX1_standingBySeed_27 rfl ?_
    refine A_ldc (pc := 29) dX1_standingBySeed_29 nX1_104 ?_
    refine A_imul (pc := 31) dX1_standingBySeed_31 ?_
    refine A_sipush (pc := 32) 12345 dX1_standingBySeed_32 rfl ?_
    refine A_iadd (pc := 35) dX1_standingBySeed_35 ?_
    have hf := oi_l hf
    refine A_ist (pc := 36) (L2 := [.ref 45, .ref r1, .int s2, .null, .int ((t4 * 1103515245) + 12345), .int s5, .int s6, .int t7]) dX1_standingBySeed_36 (Nat.le_of_ble_eq_true rfl) rfl ?_
    refine A_aloadn (pc := 38) dX1_standingBySeed_38 rfl ?_
    refine A_getR (pc := 39) dX1_standingBySeed_39 gX1_9 (lay_s hT (k := 45) (q := (3, 8)) rfl) (Nat.le_of_ble_eq_true rfl) rfl (lay_r hT 44 rfl) ?_
    refine A_iload (pc := 42) dX1_standingBySeed_42 rfl ?_
    refine A_aloadn (pc := 44) dX1_standingBySeed_44 rfl ?_
    refine A_getI (pc := 45) dX1_standingBySeed_45 gX1_65 (rv_0 hR1) (Nat.le_of_ble_eq_true rfl) rfl ?_
    refine A_iload (pc := 48) dX1_standingBySeed_48 rfl ?_
    obtain ⟨q4, h5, hf⟩ := oi_b hf
    refine A_cS2i (mi2 := mX1_drawBelow) (pc := 50) dX1_standingBySeed_50 lX1_105 fX1_drawBelow sX1_drawBelow (Nat.le_of_ble_eq_true rfl) rfl (Nat.le_of_ble_eq_true rfl) (wX1_drawBelow (by omega) hT  h5) ?_
    obtain ⟨h6, hf⟩ := oi_cf hf
    have hf := oi_l hf
    refine A_iast (pc := 53) dX1_standingBySeed_53 (lay_s hT (k := 46) (q := (0, 5)) rfl) (oob_f h6) ?_
    refine A_inc (pc := 54) (L2 := [.ref 45, .ref r1, .int s2, .null, .int ((t4 * 1103515245) + 12345), .int s5, .int s6, .int (t7 + 1)]) (t7 + 1) dX1_standingBySeed_54 rfl rfl rfl ?_
    refine A_goto (pc := 57) 18 dX1_standingBySeed_57 (by decide) ?_
    exact ih _ _ _ _ hf
set_option maxHeartbeats 4000000 in
set_option maxRecDepth 100000 in
theorem wX1_standingBySeed_L9 {G : GG} {T : TT} {n d : Nat} (hd : 5 ≤ d) {r1 : Nat} {s2 : Int32} {k : Int32 → Int32 → Int32 → MU → Option (Int32 × MU)} (hT : LAY T) (hR1 : RV T r1) (hk : ∀ (t4 : Int32) (t5 : Int32) (t6 : Int32) (u : MU) (q : Int32 × MU), k t4 t5 t6 u = some q → AW G d mX1_standingBySeed 86 [.ref 45, .ref r1, .int s2, .null, .int t4, .int t5, .int t6, .null] [] T u 0 0 (QS T q.1 q.2)) : ∀ (m : Nat) (t4 : Int32) (t5 : Int32) (t6 : Int32) (u : MU) (q : Int32 × MU), zX1_standingBySeed_L9 n r1 s2 k m t4 t5 t6 u = some q → AW G d mX1_standingBySeed 9 [.ref 45, .ref r1, .int s2, .null, .int t4, .int t5, .int t6, .null] [] T u 0 0 (QS T q.1 q.2) := by
  intro m
  obtain ⟨d, rfl⟩ : ∃ e, d = e + 1 := ⟨d - 1, by omega⟩
  induction m with
  | zero =>
    intro t4 t5 t6 u q hf
    have h0 : (none : Option (Int32 × MU)) = some q := hf
    cases h0
  | succ m ih =>
    intro t4 t5 t6 u q hf
    rw [zX1_standingBySeed_L9] at hf
    refine A_iload (pc := 9) dX1_standingBySeed_9 rfl ?_
    refine A_iloadn (pc := 11) dX1_standingBySeed_11 rfl ?_
    refine A_icmp_ge (pc := 12) 86 dX1_standingBySeed_12 (by decide) (fun cc1 => ?_) (fun cc1 => ?_)
    · have hf := oi_t cc1 hf
      exact hk _ _ _ _ _ hf
    have hf := oi_f cc1 hf
    refine A_iconst (pc := 15) 0 dX1_standingBySeed_15 rfl ?_
    refine A_ist (pc := 16) (L2 := [.ref 45, .ref r1, .int s2, .null, .int t4, .int t5, .int t6, .int 0]) dX1_standingBySeed_16 (Nat.le_of_ble_eq_true rfl) rfl ?_
    exact wX1_standingBySeed_L18 (by omega) hT hR1 (fun y8 y9 w10 q0 hf => by
      refine A_aloadn (pc := 60) dX1_standingBySeed_60 rfl ?_
      refine A_aloadn (pc := 61) dX1_standingBySeed_61 rfl ?_
      refine A_getR (pc := 62) dX1_standingBySeed_62 gX1_9 (lay_s hT (k := 45) (q := (3, 8)) rfl) (Nat.le_of_ble_eq_true rfl) rfl (lay_r hT 44 rfl) ?_
      refine A_aloadn (pc := 65) dX1_standingBySeed_65 rfl ?_
      refine A_getI (pc := 66) dX1_standingBySeed_66 gX1_51 (rv_0 hR1) (Nat.le_of_ble_eq_true rfl) rfl ?_
      obtain ⟨q11, h12, hf⟩ := oi_b hf
      refine A_cV2i (mi2 := mX3_firstAmiss) (pc := 69) dX1_standingBySeed_69 lX1_108 fX3_firstAmiss vX3_firstAmiss (rv_0 hR1) rfl (Nat.le_of_ble_eq_true rfl) rfl (Nat.le_of_ble_eq_true rfl) (wX3_firstAmiss (by omega) hT hR1 (lay_s hT (k := 46) (q := (0, 5)) rfl) h12) ?_
      refine A_bipush (pc := 72) (-9) dX1_standingBySeed_72 rfl ?_
      refine A_icmp_ne (pc := 74) 80 dX1_standingBySeed_74 (by decide) (fun cc13 => ?_) (fun cc13 => ?_)
      · have hf := oi_f cc13 hf
        refine A_inc (pc := 80) (L2 := [.ref 45, .ref r1, .int s2, .null, .int y8, .int t5, .int (t6 + 1), .int y9]) (t6 + 1) dX1_standingBySeed_80 rfl rfl rfl ?_
        refine A_goto (pc := 83) 9 dX1_standingBySeed_83 (by decide) ?_
        refine A_fgt 7 (L' := [.ref 45, .ref r1, .int s2, .null, .int y8, .int t5, .int (t6 + 1), .null]) rfl ?_
        exact ih _ _ _ _ _ hf
      have hf := oi_t cc13 hf
      refine A_inc (pc := 77) (L2 := [.ref 45, .ref r1, .int s2, .null, .int y8, .int (t5 + 1), .int t6, .int y9]) (t5 + 1) dX1_standingBySeed_77 rfl rfl rfl ?_
      refine A_inc (pc := 80) (L2 := [.ref 45, .ref r1, .int s2, .null, .int y8, .int (t5 + 1), .int (t6 + 1), .int y9]) (t6 + 1) dX1_standingBySeed_80 rfl rfl rfl ?_
      refine A_goto (pc := 83) 9 dX1_standingBySeed_83 (by decide) ?_
      refine A_fgt 7 (L' := [.ref 45, .ref r1, .int s2, .null, .int y8, .int (t5 + 1), .int (t6 + 1), .null]) rfl ?_
      exact ih _ _ _ _ _ hf) _ _ _ _ _ hf
set_option maxHeartbeats 4000000 in
set_option maxRecDepth 100000 in
theorem wX1_standingBySeed {G : GG} {T : TT} {n d : Nat} (hd : 5 ≤ d) {q : Int32 × MU} {u : MU} {r1 : Nat} {a2 : Int32} {a3 : Int32} (hT : LAY T) (hR1 : RV T r1) (hf : zX1_standingBySeed n u r1 a2 a3 = some q) : AW G d mX1_standingBySeed 0 [.ref 45, .ref r1, .int a2, .int a3, .null, .null, .null, .null] [] T u 0 0 (QS T q.1 q.2) := by
  obtain ⟨d, rfl⟩ : ∃ e, d = e + 1 := ⟨d - 1, by omega⟩
  rw [zX1_standingBySeed] at hf
  refine A_iloadn (pc := 0) dX1_standingBySeed_0 rfl ?_
  refine A_ist (pc := 1) (L2 := [.ref 45, .ref r1, .int a2, .int a3, .int a3, .null, .null, .null]) dX1_standingBySeed_1 (Nat.le_of_ble_eq_true rfl) rfl ?_
  refine A_iconst (pc := 3) 0 dX1_standingBySeed_3 rfl ?_
  refine A_ist (pc := 4) (L2 := [.ref 45, .ref r1, .int a2, .int a3, .int a3, .int 0, .null, .null]) dX1_standingBySeed_4 (Nat.le_of_ble_eq_true rfl) rfl ?_
  refine A_iconst (pc := 6) 0 dX1_standingBySeed_6 rfl ?_
  refine A_ist (pc := 7) (L2 := [.ref 45, .ref r1, .int a2, .int a3, .int a3, .int 0, .int 0, .null]) dX1_standingBySeed_7 (Nat.le_of_ble_eq_true rfl) rfl ?_
  refine A_fgt 3 (L' := [.ref 45, .ref r1, .int a2, .null, .int a3, .int 0, .int 0, .null]) rfl ?_
  exact wX1_standingBySeed_L9 (by omega) hT hR1 (fun y14 y15 y16 w17 q0 hf => by
    refine A_iload (pc := 86) dX1_standingBySeed_86 rfl ?_
    obtain rfl := Option.some.inj hf
    exact A_iret (pc := 88) dX1_standingBySeed_88 rfl rfl ⟨rfl, rfl, rfl⟩) _ _ _ _ _ _ hf
