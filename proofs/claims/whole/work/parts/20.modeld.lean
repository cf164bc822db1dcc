def zX5_lasts (n : Nat) (u : MU) : Option (Int32 × MU) := Option.bind (zX5_doesStand n u) (fun q1 => if q1.1 = 0 then (some ((-9), q1.2)) else (Option.bind (zX5_lastsNow n q1.2) (fun q4 => some (q4, q1.2))))
set_option maxHeartbeats 4000000 in
set_option maxRecDepth 100000 in
theorem wX5_lasts {G : GG} {T : TT} {n d : Nat} (hd : 6 ≤ d) {q : Int32 × MU} {u : MU} (hT : LAY T) (hf : zX5_lasts n u = some q) : AW G d mX5_lasts 0 [.ref 53] [] T u 0 0 (QS T q.1 q.2) := by
  obtain ⟨d, rfl⟩ : ∃ e, d = e + 1 := ⟨d - 1, by omega⟩
  rw [zX5_lasts] at hf
  refine A_aloadn (pc := 0) dX5_lasts_0 rfl ?_
  obtain ⟨q1, h2, hf⟩ := oi_b hf
  refine A_cV0i (mi2 := mX5_doesStand) (pc := 1) dX5_lasts_1 lX5_207 fX5_doesStand vX5_doesStand (lay_s hT (k := 53) (q := (7, 35)) rfl) rfl (Nat.le_of_ble_eq_true rfl) rfl (Nat.le_of_ble_eq_true rfl) (wX5_doesStand (by omega) hT  h2) ?_
  refine A_if_eq (pc := 4) (w := 0) 14 dX5_lasts_4 (by decide) (fun cc3 => ?_) (fun cc3 => ?_)
  · have hf := oi_t cc3 hf
    refine A_bipush (pc := 14) (-9) dX5_lasts_14 rfl ?_
    obtain rfl := Option.some.inj hf
    exact A_iret (pc := 16) dX5_lasts_16 rfl rfl ⟨rfl, rfl, rfl⟩
  have hf := oi_f cc3 hf
  refine A_aloadn (pc := 7) dX5_lasts_7 rfl ?_
  obtain ⟨q4, h5, hf⟩ := oi_b hf
  refine A_cV0i (mi2 := mX5_lastsNow) (pc := 8) dX5_lasts_8 lX5_210 fX5_lastsNow vX5_lastsNow (lay_s hT (k := 53) (q := (7, 35)) rfl) rfl (Nat.le_of_ble_eq_true rfl) rfl (Nat.le_of_ble_eq_true rfl) (wX5_lastsNow (by omega) hT  h5) ?_
  refine A_goto (pc := 11) 16 dX5_lasts_11 (by decide) ?_
  obtain rfl := Option.some.inj hf
  exact A_iret (pc := 16) dX5_lasts_16 rfl rfl ⟨rfl, rfl, rfl⟩
def zX5_cross_L48 (n : Nat) (s1 : Int32) (k : Int32 → MU → Option (Int32 × MU)) : Nat → Int32 → MU → Option (Int32 × MU)
  | 0, _, _ => none
  | m + 1, t2, u => if (u 53 12) ≤ t2 then (k t2 u) else (if oob t2 5 then none else letb (u 57 t2.toNatClampNeg) (fun x19 => if oob x19 7 then none else Option.bind (zX5_coolOf n u x19) (fun q21 => if oob x19 7 then none else letb (up2 u 62 x19.toNatClampNeg ((u 62 x19.toNatClampNeg) - q21)) (fun u24 => if oob ((7 * s1) + x19) 49 then none else Option.bind (zX5_least n u24 99 ((u24 65 ((7 * s1) + x19).toNatClampNeg) + 1)) (fun q26 => if oob ((7 * s1) + x19) 49 then none else letb (up2 u24 65 ((7 * s1) + x19).toNatClampNeg q26) (fun u29 => zX5_cross_L48 n  s1 k m (t2 + 1) u29))))))
def zX5_cross (n : Nat) (u : MU) (a1 : Int32) : Option (Int32 × MU) := Option.bind (zX5_isOne n u a1) (fun q1 => if q1 = 0 then (Option.bind (zX5_no n u (-1)) (fun q39 => some (q39.1, q39.2))) else (Option.bind (zX5_yardOf n u a1) (fun q4 => if q4 = (-9) then (Option.bind (zX5_doesStand n u) (fun q9 => if q9.1 = 0 then (Option.bind (zX5_no n q9.2 (-3)) (fun q12 => some (q12.1, q12.2))) else (Option.bind (zX5_lastsNow n q9.2) (fun q14 => if 1 ≤ q14 then (zX5_cross_L48 n  a1 (fun y30 w31 => if oob a1 7 then none else letb (up2 w31 63 a1.toNatClampNeg 1) (fun u33 => letb (up2 u33 53 15 ((u33 53 15) + 1)) (fun u34 => Option.bind (zX5_overMany n u34) (fun q35 => some (q35, u34))))) n 0 q9.2) else (Option.bind (zX5_no n q9.2 (-3)) (fun q37 => some (q37.1, q37.2))))))) else (Option.bind (zX5_no n u (-3)) (fun q7 => some (q7.1, q7.2))))))
set_option maxHeartbeats 4000000 in
set_option maxRecDepth 100000 in
theorem wX5_cross_L48 {G : GG} {T : TT} {n d : Nat} (hd : 6 ≤ d) {s1 : Int32} {k : Int32 → MU → Option (Int32 × MU)} (hT : LAY T) (hk : ∀ (t2 : Int32) (u : MU) (q : Int32 × MU), k t2 u = some q → AW G d mX5_cross 112 [.ref 53, .int s1, .int t2, .null] [] T u 0 0 (QS T q.1 q.2)) : ∀ (m : Nat) (t2 : Int32) (u : MU) (q : Int32 × MU), zX5_cross_L48 n  s1 k m t2 u = some q → AW G d mX5_cross 48 [.ref 53, .int s1, .int t2, .null] [] T u 0 0 (QS T q.1 q.2) := by
  intro m
  obtain ⟨d, rfl⟩ : ∃ e, d = e + 1 := ⟨d - 1, by omega⟩
  induction m with
  | zero =>
    intro t2 u q hf
    have h0 : (none : Option (Int32 × MU)) = some q := hf
    cases h0
  | succ m ih =>
    intro t2 u q hf
    rw [zX5_cross_L48] at hf
    refine A_iloadn (pc := 48) dX5_cross_48 rfl ?_
    refine A_aloadn (pc := 49) dX5_cross_49 rfl ?_
    refine A_getI (pc := 50) dX5_cross_50 gX5_46 (lay_s hT (k := 53) (q := (7, 35)) rfl) (Nat.le_of_ble_eq_true rfl) rfl ?_
    refine A_icmp_ge (pc := 53) 112 dX5_cross_53 (by decide) (fun cc17 => ?_) (fun cc17 => ?_)
    · have hf := oi_t cc17 hf
      exact hk _ _ _ hf
    have hf := oi_f cc17 hf
    refine A_aloadn (pc := 56) dX5_cross_56 rfl ?_
    refine A_getR (pc := 57) dX5_cross_57 gX5_19 (lay_s hT (k := 53) (q := (7, 35)) rfl) (Nat.le_of_ble_eq_true rfl) rfl (lay_r hT 55 rfl) ?_
    refine A_iloadn (pc := 60) dX5_cross_60 rfl ?_
    obtain ⟨h18, hf⟩ := oi_cf hf
    refine A_iald (pc := 61) dX5_cross_61 (lay_s hT (k := 57) (q := (0, 5)) rfl) (oob_f h18) ?_
    have hf := oi_l hf
    refine A_istn (pc := 62) (L2 := [.ref 53, .int s1, .int t2, .int (u 57 t2.toNatClampNeg)]) dX5_cross_62 (Nat.le_of_ble_eq_true rfl) rfl ?_
    refine A_aloadn (pc := 63) dX5_cross_63 rfl ?_
    refine A_getR (pc := 64) dX5_cross_64 gX5_34 (lay_s hT (k := 53) (q := (7, 35)) rfl) (Nat.le_of_ble_eq_true rfl) rfl (lay_r hT 60 rfl) ?_
    refine A_iloadn (pc := 67) dX5_cross_67 rfl ?_
    refine A_dup2 (pc := 68) dX5_cross_68 ?_
    obtain ⟨h20, hf⟩ := oi_cf hf
    refine A_iald (pc := 69) dX5_cross_69 (lay_s hT (k := 62) (q := (0, 7)) rfl) (oob_f h20) ?_
    refine A_aloadn (pc := 70) dX5_cross_70 rfl ?_
    refine A_iloadn (pc := 71) dX5_cross_71 rfl ?_
    obtain ⟨q21, h22, hf⟩ := oi_b hf
    refine A_cV1i (mi2 := mX5_coolOf) (pc := 72) dX5_cross_72 lX5_173 fX5_coolOf vX5_coolOf (lay_s hT (k := 53) (q := (7, 35)) rfl) rfl (Nat.le_of_ble_eq_true rfl) rfl (Nat.le_of_ble_eq_true rfl) (wX5_coolOf (by omega) hT  h22) ?_
    refine A_isub (pc := 75) dX5_cross_75 ?_
    obtain ⟨h23, hf⟩ := oi_cf hf
    have hf := oi_l hf
    refine A_iast (pc := 76) dX5_cross_76 (lay_s hT (k := 62) (q := (0, 7)) rfl) (oob_f h23) ?_
    refine A_aloadn (pc := 77) dX5_cross_77 rfl ?_
    refine A_getR (pc := 78) dX5_cross_78 gX5_43 (lay_s hT (k := 53) (q := (7, 35)) rfl) (Nat.le_of_ble_eq_true rfl) rfl (lay_r hT 63 rfl) ?_
    refine A_bipush (pc := 81) 7 dX5_cross_81 rfl ?_
    refine A_iloadn (pc := 83) dX5_cross_83 rfl ?_
    refine A_imul (pc := 84) dX5_cross_84 ?_
    refine A_iloadn (pc := 85) dX5_cross_85 rfl ?_
    refine A_iadd (pc := 86) dX5_cross_86 ?_
    refine A_bipush (pc := 87) 99 dX5_cross_87 rfl ?_
    refine A_aloadn (pc := 89) dX5_cross_89 rfl ?_
    refine A_getR (pc := 90) dX5_cross_90 gX5_43 (lay_s hT (k := 53) (q := (7, 35)) rfl) (Nat.le_of_ble_eq_true rfl) rfl (lay_r hT 63 rfl) ?_
    refine A_bipush (pc := 93) 7 dX5_cross_93 rfl ?_
    refine A_iloadn (pc := 95) dX5_cross_95 rfl ?_
    refine A_imul (pc := 96) dX5_cross_96 ?_
    refine A_iloadn (pc := 97) dX5_cross_97 rfl ?_
    refine A_iadd (pc := 98) dX5_cross_98 ?_
    obtain ⟨h25, hf⟩ := oi_cf hf
    refine A_iald (pc := 99) dX5_cross_99 (lay_s hT (k := 65) (q := (0, 49)) rfl) (oob_f h25) ?_
    refine A_iconst (pc := 100) 1 dX5_cross_100 rfl ?_
    refine A_iadd (pc := 101) dX5_cross_101 ?_
    obtain ⟨q26, h27, hf⟩ := oi_b hf
    refine A_cS2i (mi2 := mX5_least) (pc := 102) dX5_cross_102 lX5_182 fX5_least sX5_least (Nat.le_of_ble_eq_true rfl) rfl (Nat.le_of_ble_eq_true rfl) (wX5_least (by omega) hT  h27) ?_
    obtain ⟨h28, hf⟩ := oi_cf hf
    have hf := oi_l hf
    refine A_iast (pc := 105) dX5_cross_105 (lay_s hT (k := 65) (q := (0, 49)) rfl) (oob_f h28) ?_
    refine A_inc (pc := 106) (L2 := [.ref 53, .int s1, .int (t2 + 1), .int (u 57 t2.toNatClampNeg)]) (t2 + 1) dX5_cross_106 rfl rfl rfl ?_
    refine A_goto (pc := 109) 48 dX5_cross_109 (by decide) ?_
    refine A_fgt 3 (L' := [.ref 53, .int s1, .int (t2 + 1), .null]) rfl ?_
    exact ih _ _ _ hf
set_option maxHeartbeats 4000000 in
set_option maxRecDepth 100000 in
theorem wX5_cross {G : GG} {T : TT} {n d : Nat} (hd : 6 ≤ d) {q : Int32 × MU} {u : MU} {a1 : Int32} (hT : LAY T) (hf : zX5_cross n u a1 = some q) : AW G d mX5_cross 0 [.ref 53, .int a1, .null, .null] [] T u 0 0 (QS T q.1 q.2) := by
  obtain ⟨d, rfl⟩ : ∃ e, d = e + 1 := ⟨d - 1, by omega⟩
  rw [zX5_cross] at hf
  refine A_aloadn (pc := 0) dX5_cross_0 rfl ?_
  refine A_iloadn (pc := 1) dX5_cross_1 rfl ?_
  obtain ⟨q1, h2, hf⟩ := oi_b hf
  refine A_cV1i (mi2 := mX5_isOne) (pc := 2) dX5_cross_2 lX5_81 fX5_isOne vX5_isOne (lay_s hT (k := 53) (q := (7, 35)) rfl) rfl (Nat.le_of_ble_eq_true rfl) rfl (Nat.le_of_ble_eq_true rfl) (wX5_isOne (by omega) hT  h2) ?_
  refine A_if_ne (pc := 5) (w := 0) 14 dX5_cross_5 (by decide) (fun cc3 => ?_) (fun cc3 => ?_)
  · have hf := oi_f cc3 hf
    refine A_aloadn (pc := 14) dX5_cross_14 rfl ?_
    refine A_iloadn (pc := 15) dX5_cross_15 rfl ?_
    obtain ⟨q4, h5, hf⟩ := oi_b hf
    refine A_cV1i (mi2 := mX5_yardOf) (pc := 16) dX5_cross_16 lX5_117 fX5_yardOf vX5_yardOf (lay_s hT (k := 53) (q := (7, 35)) rfl) rfl (Nat.le_of_ble_eq_true rfl) rfl (Nat.le_of_ble_eq_true rfl) (wX5_yardOf (by omega) hT  h5) ?_
    refine A_bipush (pc := 19) (-9) dX5_cross_19 rfl ?_
    refine A_icmp_ne (pc := 21) 39 dX5_cross_21 (by decide) (fun cc6 => ?_) (fun cc6 => ?_)
    · have hf := oi_f cc6 hf
      refine A_aloadn (pc := 39) dX5_cross_39 rfl ?_
      refine A_bipush (pc := 40) (-3) dX5_cross_40 rfl ?_
      obtain ⟨q7, h8, hf⟩ := oi_b hf
      refine A_cV1i (mi2 := mX5_no) (pc := 42) dX5_cross_42 lX5_92 fX5_no vX5_no (lay_s hT (k := 53) (q := (7, 35)) rfl) rfl (Nat.le_of_ble_eq_true rfl) rfl (Nat.le_of_ble_eq_true rfl) (wX5_no (by omega) hT  h8) ?_
      obtain rfl := Option.some.inj hf
      exact A_iret (pc := 45) dX5_cross_45 rfl rfl ⟨rfl, rfl, rfl⟩
    have hf := oi_t cc6 hf
    refine A_aloadn (pc := 24) dX5_cross_24 rfl ?_
    obtain ⟨q9, h10, hf⟩ := oi_b hf
    refine A_cV0i (mi2 := mX5_doesStand) (pc := 25) dX5_cross_25 lX5_207 fX5_doesStand vX5_doesStand (lay_s hT (k := 53) (q := (7, 35)) rfl) rfl (Nat.le_of_ble_eq_true rfl) rfl (Nat.le_of_ble_eq_true rfl) (wX5_doesStand (by omega) hT  h10) ?_
    refine A_if_eq (pc := 28) (w := 0) 39 dX5_cross_28 (by decide) (fun cc11 => ?_) (fun cc11 => ?_)
    · have hf := oi_t cc11 hf
      refine A_aloadn (pc := 39) dX5_cross_39 rfl ?_
      refine A_bipush (pc := 40) (-3) dX5_cross_40 rfl ?_
      obtain ⟨q12, h13, hf⟩ := oi_b hf
      refine A_cV1i (mi2 := mX5_no) (pc := 42) dX5_cross_42 lX5_92 fX5_no vX5_no (lay_s hT (k := 53) (q := (7, 35)) rfl) rfl (Nat.le_of_ble_eq_true rfl) rfl (Nat.le_of_ble_eq_true rfl) (wX5_no (by omega) hT  h13) ?_
      obtain rfl := Option.some.inj hf
      exact A_iret (pc := 45) dX5_cross_45 rfl rfl ⟨rfl, rfl, rfl⟩
    have hf := oi_f cc11 hf
    refine A_aloadn (pc := 31) dX5_cross_31 rfl ?_
    obtain ⟨q14, h15, hf⟩ := oi_b hf
    refine A_cV0i (mi2 := mX5_lastsNow) (pc := 32) dX5_cross_32 lX5_210 fX5_lastsNow vX5_lastsNow (lay_s hT (k := 53) (q := (7, 35)) rfl) rfl (Nat.le_of_ble_eq_true rfl) rfl (Nat.le_of_ble_eq_true rfl) (wX5_lastsNow (by omega) hT  h15) ?_
    refine A_iconst (pc := 35) 1 dX5_cross_35 rfl ?_
    refine A_icmp_ge (pc := 36) 46 dX5_cross_36 (by decide) (fun cc16 => ?_) (fun cc16 => ?_)
    · have hf := oi_t cc16 hf
      refine A_iconst (pc := 46) 0 dX5_cross_46 rfl ?_
      refine A_istn (pc := 47) (L2 := [.ref 53, .int a1, .int 0, .null]) dX5_cross_47 (Nat.le_of_ble_eq_true rfl) rfl ?_
      exact wX5_cross_L48 (by omega) hT  (fun y30 w31 q0 hf => by
        refine A_aloadn (pc := 112) dX5_cross_112 rfl ?_
        refine A_getR (pc := 113) dX5_cross_113 gX5_37 (lay_s hT (k := 53) (q := (7, 35)) rfl) (Nat.le_of_ble_eq_true rfl) rfl (lay_r hT 61 rfl) ?_
        refine A_iloadn (pc := 116) dX5_cross_116 rfl ?_
        refine A_iconst (pc := 117) 1 dX5_cross_117 rfl ?_
        obtain ⟨h32, hf⟩ := oi_cf hf
        have hf := oi_l hf
        refine A_iast (pc := 118) dX5_cross_118 (lay_s hT (k := 63) (q := (0, 7)) rfl) (oob_f h32) ?_
        refine A_aloadn (pc := 119) dX5_cross_119 rfl ?_
        refine A_dup (pc := 120) dX5_cross_120 ?_
        refine A_getI (pc := 121) dX5_cross_121 gX5_161 (lay_s hT (k := 53) (q := (7, 35)) rfl) (Nat.le_of_ble_eq_true rfl) rfl ?_
        refine A_iconst (pc := 124) 1 dX5_cross_124 rfl ?_
        refine A_iadd (pc := 125) dX5_cross_125 ?_
        have hf := oi_l hf
        refine A_putI (pc := 126) dX5_cross_126 gX5_161 (lay_s hT (k := 53) (q := (7, 35)) rfl) (Nat.le_of_ble_eq_true rfl) rfl rfl rfl rfl ?_
        refine A_aloadn (pc := 129) dX5_cross_129 rfl ?_
        obtain ⟨q35, h36, hf⟩ := oi_b hf
        refine A_cV0i (mi2 := mX5_overMany) (pc := 130) dX5_cross_130 lX5_179 fX5_overMany vX5_overMany (lay_s hT (k := 53) (q := (7, 35)) rfl) rfl (Nat.le_of_ble_eq_true rfl) rfl (Nat.le_of_ble_eq_true rfl) (wX5_overMany (by omega) hT  h36) ?_
        obtain rfl := Option.some.inj hf
        exact A_iret (pc := 133) dX5_cross_133 rfl rfl ⟨rfl, rfl, rfl⟩) _ _ _ _ hf
    have hf := oi_f cc16 hf
    refine A_aloadn (pc := 39) dX5_cross_39 rfl ?_
    refine A_bipush (pc := 40) (-3) dX5_cross_40 rfl ?_
    obtain ⟨q37, h38, hf⟩ := oi_b hf
    refine A_cV1i (mi2 := mX5_no) (pc := 42) dX5_cross_42 lX5_92 fX5_no vX5_no (lay_s hT (k := 53) (q := (7, 35)) rfl) rfl (Nat.le_of_ble_eq_true rfl) rfl (Nat.le_of_ble_eq_true rfl) (wX5_no (by omega) hT  h38) ?_
    obtain rfl := Option.some.inj hf
    exact A_iret (pc := 45) dX5_cross_45 rfl rfl ⟨rfl, rfl, rfl⟩
  have hf := oi_t cc3 hf
  refine A_aloadn (pc := 8) dX5_cross_8 rfl ?_
  refine A_iconst (pc := 9) (-1) dX5_cross_9 rfl ?_
  obtain ⟨q39, h40, hf⟩ := oi_b hf
  refine A_cV1i (mi2 := mX5_no) (pc := 10) dX5_cross_10 lX5_92 fX5_no vX5_no (lay_s hT (k := 53) (q := (7, 35)) rfl) rfl (Nat.le_of_ble_eq_true rfl) rfl (Nat.le_of_ble_eq_true rfl) (wX5_no (by omega) hT  h40) ?_
  obtain rfl := Option.some.inj hf
  exact A_iret (pc := 13) dX5_cross_13 rfl rfl ⟨rfl, rfl, rfl⟩
def zX5_putsAway_L2 (n : Nat) (k : Int32 → MU → Option (MU)) : Nat → Int32 → MU → Option (MU)
  | 0, _, _ => none
  | m + 1, t1, u => if 5 ≤ t1 then (k t1 u) else (if oob t1 5 then none else if oob t1 5 then none else letb (up2 u 71 t1.toNatClampNeg (u 57 t1.toNatClampNeg)) (fun u4 => zX5_putsAway_L2 n   k m (t1 + 1) u4))
def zX5_putsAway (n : Nat) (u : MU) : Option (MU) := zX5_putsAway_L2 n   (fun y5 w6 => letb (up2 w6 53 30 (-1)) (fun u7 => some u7)) n 0 u
set_option maxHeartbeats 4000000 in
set_option maxRecDepth 100000 in
theorem wX5_putsAway_L2 {G : GG} {T : TT} {n d : Nat} (hd : 0 ≤ d) {k : Int32 → MU → Option (MU)} (hT : LAY T) (hk : ∀ (t1 : Int32) (u : MU) (q : MU), k t1 u = some q → AW G d mX5_putsAway 25 [.ref 53, .int t1] [] T u 0 0 (QV T q)) : ∀ (m : Nat) (t1 : Int32) (u : MU) (q : MU), zX5_putsAway_L2 n  k m t1 u = some q → AW G d mX5_putsAway 2 [.ref 53, .int t1] [] T u 0 0 (QV T q) := by
  intro m
  induction m with
  | zero =>
    intro t1 u q hf
    have h0 : (none : Option (MU)) = some q := hf
    cases h0
  | succ m ih =>
    intro t1 u q hf
    rw [zX5_putsAway_L2] at hf
    refine A_iloadn (pc := 2) dX5_putsAway_2 rfl ?_
    refine A_iconst (pc := 3) 5 dX5_putsAway_3 rfl ?_
    refine A_icmp_ge (pc := 4) 25 dX5_putsAway_4 (by decide) (fun cc1 => ?_) (fun cc1 => ?_)
    · have hf := oi_t cc1 hf
      exact hk _ _ _ hf
    have hf := oi_f cc1 hf
    refine A_aloadn (pc := 7) dX5_putsAway_7 rfl ?_
    refine A_getR (pc := 8) dX5_putsAway_8 gX5_68 (lay_s hT (k := 53) (q := (7, 35)) rfl) (Nat.le_of_ble_eq_true rfl) rfl (lay_r hT 69 rfl) ?_
    refine A_iloadn (pc := 11) dX5_putsAway_11 rfl ?_
    refine A_aloadn (pc := 12) dX5_putsAway_12 rfl ?_
    refine A_getR (pc := 13) dX5_putsAway_13 gX5_19 (lay_s hT (k := 53) (q := (7, 35)) rfl) (Nat.le_of_ble_eq_true rfl) rfl (lay_r hT 55 rfl) ?_
    refine A_iloadn (pc := 16) dX5_putsAway_16 rfl ?_
    obtain ⟨h2, hf⟩ := oi_cf hf
    refine A_iald (pc := 17) dX5_putsAway_17 (lay_s hT (k := 57) (q := (0, 5)) rfl) (oob_f h2) ?_
    obtain ⟨h3, hf⟩ := oi_cf hf
    have hf := oi_l hf
    refine A_iast (pc := 18) dX5_putsAway_18 (lay_s hT (k := 71) (q := (0, 5)) rfl) (oob_f h3) ?_
    refine A_inc (pc := 19) (L2 := [.ref 53, .int (t1 + 1)]) (t1 + 1) dX5_putsAway_19 rfl rfl rfl ?_
    refine A_goto (pc := 22) 2 dX5_putsAway_22 (by decide) ?_
    exact ih _ _ _ hf
set_option maxHeartbeats 4000000 in
set_option maxRecDepth 100000 in
theorem wX5_putsAway {G : GG} {T : TT} {n d : Nat} (hd : 0 ≤ d) {q : MU} {u : MU} (hT : LAY T) (hf : zX5_putsAway n u = some q) : AW G d mX5_putsAway 0 [.ref 53, .null] [] T u 0 0 (QV T q) := by
  rw [zX5_putsAway] at hf
  refine A_iconst (pc := 0) 0 dX5_putsAway_0 rfl ?_
  refine A_istn (pc := 1) (L2 := [.ref 53, .int 0]) dX5_putsAway_1 (Nat.le_of_ble_eq_true rfl) rfl ?_
  exact wX5_putsAway_L2 (by omega) hT  (fun y5 w6 q0 hf => by
    refine A_aloadn (pc := 25) dX5_putsAway_25 rfl ?_
    refine A_iconst (pc := 26) (-1) dX5_putsAway_26 rfl ?_
    have hf := oi_l hf
    refine A_putI (pc := 27) dX5_putsAway_27 gX5_213 (lay_s hT (k := 53) (q := (7, 35)) rfl) (Nat.le_of_ble_eq_true rfl) rfl rfl rfl rfl ?_
    obtain rfl := Option.some.inj hf
    exact A_vret (pc := 30) dX5_putsAway_30 rfl ⟨rfl, rfl, rfl⟩) _ _ _ _ hf
def zX5_putsBack_L2 (n : Nat) (k : Int32 → MU → Option (MU)) : Nat → Int32 → MU → Option (MU)
  | 0, _, _ => none
  | m + 1, t1, u => if 5 ≤ t1 then (k t1 u) else (if oob t1 5 then none else if oob t1 5 then none else letb (up2 u 57 t1.toNatClampNeg (u 71 t1.toNatClampNeg)) (fun u4 => zX5_putsBack_L2 n   k m (t1 + 1) u4))
def zX5_putsBack (n : Nat) (u : MU) : Option (MU) := zX5_putsBack_L2 n   (fun y5 w6 => some w6) n 0 u
set_option maxHeartbeats 4000000 in
set_option maxRecDepth 100000 in
theorem wX5_putsBack_L2 {G : GG} {T : TT} {n d : Nat} (hd : 0 ≤ d) {k : Int32 → MU → Option (MU)} (hT : LAY T) (hk : ∀ (t1 : Int32) (u : MU) (q : MU), k t1 u = some q → AW G d mX5_putsBack 25 [.ref 53, .int t1] [] T u 0 0 (QV T q)) : ∀ (m : Nat) (t1 : Int32) (u : MU) (q : MU), zX5_putsBack_L2 n  k m t1 u = some q → AW G d mX5_putsBack 2 [.ref 53, .int t1] [] T u 0 0 (QV T q) := by
  intro m
  induction m with
  | zero =>
    intro t1 u q hf
    have h0 : (none : Option (MU)) = some q := hf
    cases h0
  | succ m ih =>
    intro t1 u q hf
    rw [zX5_putsBack_L2] at hf
    refine A_iloadn (pc := 2) dX5_putsBack_2 rfl ?_
    refine A_iconst (pc := 3) 5 dX5_putsBack_3 rfl ?_
    refine A_icmp_ge (pc := 4) 25 dX5_putsBack_4 (by decide) (fun cc1 => ?_) (fun cc1 => ?_)
    · have hf := oi_t cc1 hf
      exact hk _ _ _ hf
    have hf := oi_f cc1 hf
    refine A_aloadn (pc := 7) dX5_putsBack_7 rfl ?_
    refine A_getR (pc := 8) dX5_putsBack_8 gX5_19 (lay_s hT (k := 53) (q := (7, 35)) rfl) (Nat.le_of_ble_eq_true rfl) rfl (lay_r hT 55 rfl) ?_
    refine A_iloadn (pc := 11) dX5_putsBack_11 rfl ?_
    refine A_aloadn (pc := 12) dX5_putsBack_12 rfl ?_
    refine A_getR (pc := 13) dX5_putsBack_13 gX5_68 (lay_s hT (k := 53) (q := (7, 35)) rfl) (Nat.le_of_ble_eq_true rfl) rfl (lay_r hT 69 rfl) ?_
    refine A_iloadn (pc := 16) dX5_putsBack_16 rfl ?_
    obtain ⟨h2, hf⟩ := oi_cf hf
    refine A_iald (pc := 17) dX5_putsBack_17 (lay_s hT (k := 71) (q := (0, 5)) rfl) (oob_f h2) ?_
    obtain ⟨h3, hf⟩ := oi_cf hf
    have hf := oi_l hf
    refine A_iast (pc := 18) dX5_putsBack_18 (lay_s hT (k := 57) (q := (0, 5)) rfl) (oob_f h3) ?_
    refine A_inc (pc := 19) (L2 := [.ref 53, .int (t1 + 1)]) (t1 + 1) dX5_putsBack_19 rfl rfl rfl ?_
    refine A_goto (pc := 22) 2 dX5_putsBack_22 (by decide) ?_
    exact ih _ _ _ hf
set_option maxHeartbeats 4000000 in
set_option maxRecDepth 100000 in
theorem wX5_putsBack {G : GG} {T : TT} {n d : Nat} (hd : 0 ≤ d) {q : MU} {u : MU} (hT : LAY T) (hf : zX5_putsBack n u = some q) : AW G d mX5_putsBack 0 [.ref 53, .null] [] T u 0 0 (QV T q) := by
  rw [zX5_putsBack] at hf
  refine A_iconst (pc := 0) 0 dX5_putsBack_0 rfl ?_
  refine A_istn (pc := 1) (L2 := [.ref 53, .int 0]) dX5_putsBack_1 (Nat.le_of_ble_eq_true rfl) rfl ?_
  exact wX5_putsBack_L2 (by omega) hT  (fun y5 w6 q0 hf => by
    obtain rfl := Option.some.inj hf
    exact A_vret (pc := 25) dX5_putsBack_25 rfl ⟨rfl, rfl, rfl⟩) _ _ _ _ hf
def zX5_areUnlike_L29 (n : Nat) (u : MU) (s1 : Int32) (k : Int32 → Option (Int32)) : Nat → Int32 → Option (Int32)
  | 0, _ => none
  | m + 1, t2 => if s1 ≤ t2 then (k t2) else (if oob t2 5 then none else if oob s1 5 then none else if (u 57 t2.toNatClampNeg) = (u 57 s1.toNatClampNeg) then (some 0) else (zX5_areUnlike_L29 n u  s1 k m (t2 + 1)))
def zX5_areUnlike_L2 (n : Nat) (u : MU) (k : Int32 → Option (Int32)) : Nat → Int32 → Option (Int32)
  | 0, _ => none
  | m + 1, t1 => if (u 53 12) ≤ t1 then (k t1) else (if oob t1 5 then none else if oob (u 57 t1.toNatClampNeg) 7 then none else if (u 63 (u 57 t1.toNatClampNeg).toNatClampNeg) = 1 then (some 0) else (zX5_areUnlike_L29 n u  t1 (fun y9 => zX5_areUnlike_L2 n u   k m (t1 + 1)) n 0))
def zX5_areUnlike (n : Nat) (u : MU) : Option (Int32) := zX5_areUnlike_L2 n u   (fun y10 => some 1) n 0
set_option maxHeartbeats 4000000 in
set_option maxRecDepth 100000 in
theorem wX5_areUnlike_L29 {G : GG} {T : TT} {n d : Nat} (hd : 0 ≤ d) {u : MU} {s1 : Int32} {k : Int32 → Option (Int32)} (hT : LAY T) (hk : ∀ (t2 : Int32) (q : Int32), k t2 = some q → AW G d mX5_areUnlike 57 [.ref 53, .int s1, .int t2] [] T u 0 0 (QS T q u)) : ∀ (m : Nat) (t2 : Int32) (q : Int32), zX5_areUnlike_L29 n u  s1 k m t2 = some q → AW G d mX5_areUnlike 29 [.ref 53, .int s1, .int t2] [] T u 0 0 (QS T q u) := by
  intro m
  induction m with
  | zero =>
    intro t2 q hf
    have h0 : (none : Option (Int32)) = some q := hf
    cases h0
  | succ m ih =>
    intro t2 q hf
    rw [zX5_areUnlike_L29] at hf
    refine A_iloadn (pc := 29) dX5_areUnlike_29 rfl ?_
    refine A_iloadn (pc := 30) dX5_areUnlike_30 rfl ?_
    refine A_icmp_ge (pc := 31) 57 dX5_areUnlike_31 (by decide) (fun cc5 => ?_) (fun cc5 => ?_)
    · have hf := oi_t cc5 hf
      exact hk _ _ hf
    have hf := oi_f cc5 hf
    refine A_aloadn (pc := 34) dX5_areUnlike_34 rfl ?_
    refine A_getR (pc := 35) dX5_areUnlike_35 gX5_19 (lay_s hT (k := 53) (q := (7, 35)) rfl) (Nat.le_of_ble_eq_true rfl) rfl (lay_r hT 55 rfl) ?_
    refine A_iloadn (pc := 38) dX5_areUnlike_38 rfl ?_
    obtain ⟨h6, hf⟩ := oi_cf hf
    refine A_iald (pc := 39) dX5_areUnlike_39 (lay_s hT (k := 57) (q := (0, 5)) rfl) (oob_f h6) ?_
    refine A_aloadn (pc := 40) dX5_areUnlike_40 rfl ?_
    refine A_getR (pc := 41) dX5_areUnlike_41 gX5_19 (lay_s hT (k := 53) (q := (7, 35)) rfl) (Nat.le_of_ble_eq_true rfl) rfl (lay_r hT 55 rfl) ?_
    refine A_iloadn (pc := 44) dX5_areUnlike_44 rfl ?_
    obtain ⟨h7, hf⟩ := oi_cf hf
    refine A_iald (pc := 45) dX5_areUnlike_45 (lay_s hT (k := 57) (q := (0, 5)) rfl) (oob_f h7) ?_
    refine A_icmp_ne (pc := 46) 51 dX5_areUnlike_46 (by decide) (fun cc8 => ?_) (fun cc8 => ?_)
    · have hf := oi_f cc8 hf
      refine A_inc (pc := 51) (L2 := [.ref 53, .int s1, .int (t2 + 1)]) (t2 + 1) dX5_areUnlike_51 rfl rfl rfl ?_
      refine A_goto (pc := 54) 29 dX5_areUnlike_54 (by decide) ?_
      exact ih _ _ hf
    have hf := oi_t cc8 hf
    refine A_iconst (pc := 49) 0 dX5_areUnlike_49 rfl ?_
    obtain rfl := Option.some.inj hf
    exact A_iret (pc := 50) dX5_areUnlike_50 rfl rfl ⟨rfl, rfl, rfl⟩
set_option maxHeartbeats 4000000 in
set_option maxRecDepth 100000 in
theorem wX5_areUnlike_L2 {G : GG} {T : TT} {n d : Nat} (hd : 0 ≤ d) {u : MU} {k : Int32 → Option (Int32)} (hT : LAY T) (hk : ∀ (t1 : Int32) (q : Int32), k t1 = some q → AW G d mX5_areUnlike 63 [.ref 53, .int t1, .null] [] T u 0 0 (QS T q u)) : ∀ (m : Nat) (t1 : Int32) (q : Int32), zX5_areUnlike_L2 n u  k m t1 = some q → AW G d mX5_areUnlike 2 [.ref 53, .int t1, .null] [] T u 0 0 (QS T q u) := by
  intro m
  induction m with
  | zero =>
    intro t1 q hf
    have h0 : (none : Option (Int32)) = some q := hf
    cases h0
  | succ m ih =>
    intro t1 q hf
    rw [zX5_areUnlike_L2] at hf
    refine A_iloadn (pc := 2) dX5_areUnlike_2 rfl ?_
    refine A_aloadn (pc := 3) dX5_areUnlike_3 rfl ?_
    refine A_getI (pc := 4) dX5_areUnlike_4 gX5_46 (lay_s hT (k := 53) (q := (7, 35)) rfl) (Nat.le_of_ble_eq_true rfl) rfl ?_
    refine A_icmp_ge (pc := 7) 63 dX5_areUnlike_7 (by decide) (fun cc1 => ?_) (fun cc1 => ?_)
    · have hf := oi_t cc1 hf
      exact hk _ _ hf
    have hf := oi_f cc1 hf
    refine A_aloadn (pc := 10) dX5_areUnlike_10 rfl ?_
    refine A_getR (pc := 11) dX5_areUnlike_11 gX5_37 (lay_s hT (k := 53) (q := (7, 35)) rfl) (Nat.le_of_ble_eq_true rfl) rfl (lay_r hT 61 rfl) ?_
    refine A_aloadn (pc := 14) dX5_areUnlike_14 rfl ?_
    refine A_getR (pc := 15) dX5_areUnlike_15 gX5_19 (lay_s hT (k := 53) (q := (7, 35)) rfl) (Nat.le_of_ble_eq_true rfl) rfl (lay_r hT 55 rfl) ?_
    refine A_iloadn (pc := 18) dX5_areUnlike_18 rfl ?_
    obtain ⟨h2, hf⟩ := oi_cf hf
    refine A_iald (pc := 19) dX5_areUnlike_19 (lay_s hT (k := 57) (q := (0, 5)) rfl) (oob_f h2) ?_
    obtain ⟨h3, hf⟩ := oi_cf hf
    refine A_iald (pc := 20) dX5_areUnlike_20 (lay_s hT (k := 63) (q := (0, 7)) rfl) (oob_f h3) ?_
    refine A_iconst (pc := 21) 1 dX5_areUnlike_21 rfl ?_
    refine A_icmp_ne (pc := 22) 27 dX5_areUnlike_22 (by decide) (fun cc4 => ?_) (fun cc4 => ?_)
    · have hf := oi_f cc4 hf
      refine A_iconst (pc := 27) 0 dX5_areUnlike_27 rfl ?_
      refine A_istn (pc := 28) (L2 := [.ref 53, .int t1, .int 0]) dX5_areUnlike_28 (Nat.le_of_ble_eq_true rfl) rfl ?_
      exact wX5_areUnlike_L29 (by omega) hT  (fun y9 q0 hf => by
        refine A_inc (pc := 57) (L2 := [.ref 53, .int (t1 + 1), .int y9]) (t1 + 1) dX5_areUnlike_57 rfl rfl rfl ?_
        refine A_goto (pc := 60) 2 dX5_areUnlike_60 (by decide) ?_
        refine A_fgt 2 (L' := [.ref 53, .int (t1 + 1), .null]) rfl ?_
        exact ih _ _ hf) _ _ _ hf
    have hf := oi_t cc4 hf
    refine A_iconst (pc := 25) 0 dX5_areUnlike_25 rfl ?_
    obtain rfl := Option.some.inj hf
    exact A_iret (pc := 26) dX5_areUnlike_26 rfl rfl ⟨rfl, rfl, rfl⟩
set_option maxHeartbeats 4000000 in
set_option maxRecDepth 100000 in
theorem wX5_areUnlike {G : GG} {T : TT} {n d : Nat} (hd : 0 ≤ d) {q : Int32} {u : MU} (hT : LAY T) (hf : zX5_areUnlike n u = some q) : AW G d mX5_areUnlike 0 [.ref 53, .null, .null] [] T u 0 0 (QS T q u) := by
  rw [zX5_areUnlike] at hf
  refine A_iconst (pc := 0) 0 dX5_areUnlike_0 rfl ?_
  refine A_istn (pc := 1) (L2 := [.ref 53, .int 0, .null]) dX5_areUnlike_1 (Nat.le_of_ble_eq_true rfl) rfl ?_
  exact wX5_areUnlike_L2 (by omega) hT  (fun y10 q0 hf => by
    refine A_iconst (pc := 63) 1 dX5_areUnlike_63 rfl ?_
    obtain rfl := Option.some.inj hf
    exact A_iret (pc := 64) dX5_areUnlike_64 rfl rfl ⟨rfl, rfl, rfl⟩) _ _ _ hf
def zX5_nextChain_L15 (n : Nat) (u : MU) (k : Int32 → Int32 → Option (Int32 × MU)) : Nat → Int32 → Int32 → Option (Int32 × MU)
  | 0, _, _ => none
  | m + 1, t1, t2 => if (u 53 12) ≤ t2 then (k t1 t2) else (letb (t1 * (u 53 13)) (fun x3 => zX5_nextChain_L15 n u   k m x3 (t2 + 1)))
def zX5_nextChain_L66 (n : Nat) (s1 : Int32) (k : Int32 → Int32 → MU → Option (Int32 × MU)) : Nat → Int32 → Int32 → MU → Option (Int32 × MU)
  | 0, _, _, _ => none
  | m + 1, t2, t3, u => if t3 < 0 then (k t2 t3 u) else (if (u 53 13) = 0 then none else if oob t3 5 then none else letb (up2 u 57 t3.toNatClampNeg (t2 - t2 / (u 53 13) * (u 53 13))) (fun u13 => if (u13 53 13) = 0 then none else letb (t2 / (u13 53 13)) (fun x15 => zX5_nextChain_L66 n  s1 k m x15 (t3 + (-1)) u13)))
def zX5_nextChain_L46 (n : Nat) (s1 : Int32) (k : MU → Option (Int32 × MU)) : Nat → MU → Option (Int32 × MU)
  | 0, _ => none
  | m + 1, u => if s1 ≤ (u 53 30) then (k  u) else (letb (u 53 30) (fun x8 => letb ((u 53 12) - 1) (fun x9 => zX5_nextChain_L66 n  s1 (fun y16 y17 w18 => Option.bind (zX5_areUnlike n w18) (fun q19 => if q19 = 0 then (letb (up2 w18 53 30 ((w18 53 30) + 1)) (fun u22 => zX5_nextChain_L46 n  s1 k m  u22)) else (some (1, w18)))) n x8 x9 u)))
def zX5_nextChain (n : Nat) (u : MU) : Option (Int32 × MU) := if (u 53 13) = 0 then (zX5_nextChain_L15 n u   (fun y24 y25 => letb (up2 u 53 30 ((u 53 30) + 1)) (fun u26 => zX5_nextChain_L46 n  y24 (fun w27 => some (0, w27)) n  u26)) n 0 0) else (zX5_nextChain_L15 n u   (fun y4 y5 => letb (up2 u 53 30 ((u 53 30) + 1)) (fun u6 => zX5_nextChain_L46 n  y4 (fun w23 => some (0, w23)) n  u6)) n 1 0)
set_option maxHeartbeats 4000000 in
set_option maxRecDepth 100000 in
theorem wX5_nextChain_L15 {G : GG} {T : TT} {n d : Nat} (hd : 1 ≤ d) {u : MU} {k : Int32 → Int32 → Option (Int32 × MU)} (hT : LAY T) (hk : ∀ (t1 : Int32) (t2 : Int32) (q : Int32 × MU), k t1 t2 = some q → AW G d mX5_nextChain 36 [.ref 53, .int t1, .int t2, .null] [] T u 0 0 (QS T q.1 q.2)) : ∀ (m : Nat) (t1 : Int32) (t2 : Int32) (q : Int32 × MU), zX5_nextChain_L15 n u  k m t1 t2 = some q → AW G d mX5_nextChain 15 [.ref 53, .int t1, .int t2, .null] [] T u 0 0 (QS T q.1 q.2) := by
  intro m
  obtain ⟨d, rfl⟩ : ∃ e, d = e + 1 := ⟨d - 1, by omega⟩
  induction m with
  | zero =>
    intro t1 t2 q hf
    have h0 : (none : Option (Int32 × MU)) = some q := hf
    cases h0
  | succ m ih =>
    intro t1 t2 q hf
    rw [zX5_nextChain_L15] at hf
    refine A_iloadn (pc := 15) dX5_nextChain_15 rfl ?_
    refine A_aloadn (pc := 16) dX5_nextChain_16 rfl ?_
    refine A_getI (pc := 17) dX5_nextChain_17 gX5_46 (lay_s hT (k := 53) (q := (7, 35)) rfl) (Nat.le_of_ble_eq_true rfl) rfl ?_
    refine A_icmp_ge (pc := 20) 36 dX5_nextChain_20 (by decide) (fun cc2 => ?_) (fun cc2 => ?_)
    · have hf := oi_t cc2 hf
      exact hk _ _ _ hf
    have hf := oi_f cc2 hf
    refine A_iloadn (pc := 23) dX5_nextChain_23 rfl ?_
    refine A_aloadn (pc := 24) dX5_nextChain_24 rfl ?_
    refine A_getI (pc := 25) dX5_nextChain_25 gX5_78 (lay_s hT (k := 53) (q := (7, 35)) rfl) (Nat.le_of_ble_eq_true rfl) rfl ?_
    refine A_imul (pc := 28) dX5_nextChain_28 ?_
    have hf := oi_l hf
    refine A_istn (pc := 29) (L2 := [.ref 53, .int (t1 * (u 53 13)), .int t2, .null]) dX5_nextChain_29 (Nat.le_of_ble_eq_true rfl) rfl ?_
    refine A_inc (pc := 30) (L2 := [.ref 53, .int (t1 * (u 53 13)), .int (t2 + 1), .null]) (t2 + 1) dX5_nextChain_30 rfl rfl rfl ?_
    refine A_goto (pc := 33) 15 dX5_nextChain_33 (by decide) ?_
    exact ih _ _ _ hf
set_option maxHeartbeats 4000000 in
set_option maxRecDepth 100000 in
theorem wX5_nextChain_L66 {G : GG} {T : TT} {n d : Nat} (hd : 1 ≤ d) {s1 : Int32} {k : Int32 → Int32 → MU → Option (Int32 × MU)} (hT : LAY T) (hk : ∀ (t2 : Int32) (t3 : Int32) (u : MU) (q : Int32 × MU), k t2 t3 u = some q → AW G d mX5_nextChain 95 [.ref 53, .int s1, .int t2, .int t3] [] T u 0 0 (QS T q.1 q.2)) : ∀ (m : Nat) (t2 : Int32) (t3 : Int32) (u : MU) (q : Int32 × MU), zX5_nextChain_L66 n  s1 k m t2 t3 u = some q → AW G d mX5_nextChain 66 [.ref 53, .int s1, .int t2, .int t3] [] T u 0 0 (QS T q.1 q.2) := by
  intro m
  obtain ⟨d, rfl⟩ : ∃ e, d = e + 1 := ⟨d - 1, by omega⟩
  induction m with
  | zero =>
    intro t2 t3 u q hf
    have h0 : (none : Option (Int32 × MU)) = some q := hf
    cases h0
  | succ m ih =>
    intro t2 t3 u q hf
    rw [zX5_nextChain_L66] at hf
    refine A_iloadn (pc := 66) dX5_nextChain_66 rfl ?_
    refine A_if_lt (pc := 67) (w := 0) 95 dX5_nextChain_67 (by decide) (fun cc10 => ?_) (fun cc10 => ?_)
    · have hf := oi_t cc10 hf
      exact hk _ _ _ _ hf
    have hf := oi_f cc10 hf
    refine A_aloadn (pc := 70) dX5_nextChain_70 rfl ?_
    refine A_getR (pc := 71) dX5_nextChain_71 gX5_19 (lay_s hT (k := 53) (q := (7, 35)) rfl) (Nat.le_of_ble_eq_true rfl) rfl (lay_r hT 55 rfl) ?_
    refine A_iloadn (pc := 74) dX5_nextChain_74 rfl ?_
    refine A_iloadn (pc := 75) dX5_nextChain_75 rfl ?_
    refine A_aloadn (pc := 76) dX5_nextChain_76 rfl ?_
    refine A_getI (pc := 77) dX5_nextChain_77 gX5_78 (lay_s hT (k := 53) (q := (7, 35)) rfl) (Nat.le_of_ble_eq_true rfl) rfl ?_
    obtain ⟨h11, hf⟩ := oi_cf hf
    refine A_irem (pc := 80) dX5_nextChain_80 h11 ?_
    obtain ⟨h12, hf⟩ := oi_cf hf
    have hf := oi_l hf
    refine A_iast (pc := 81) dX5_nextChain_81 (lay_s hT (k := 57) (q := (0, 5)) rfl) (oob_f h12) ?_
    refine A_iloadn (pc := 82) dX5_nextChain_82 rfl ?_
    refine A_aloadn (pc := 83) dX5_nextChain_83 rfl ?_
    refine A_getI (pc := 84) dX5_nextChain_84 gX5_78 (lay_s hT (k := 53) (q := (7, 35)) rfl) (Nat.le_of_ble_eq_true rfl) rfl ?_
    obtain ⟨h14, hf⟩ := oi_cf hf
    refine A_idiv (pc := 87) dX5_nextChain_87 h14 ?_
    have hf := oi_l hf
    refine A_istn (pc := 88) (L2 := [.ref 53, .int s1, .int (t2 / ((up2 u 57 t3.toNatClampNeg (t2 - t2 / (u 53 13) * (u 53 13))) 53 13)), .int t3]) dX5_nextChain_88 (Nat.le_of_ble_eq_true rfl) rfl ?_
    refine A_inc (pc := 89) (L2 := [.ref 53, .int s1, .int (t2 / ((up2 u 57 t3.toNatClampNeg (t2 - t2 / (u 53 13) * (u 53 13))) 53 13)), .int (t3 + (-1))]) (t3 + (-1)) dX5_nextChain_89 rfl rfl rfl ?_
    refine A_goto (pc := 92) 66 dX5_nextChain_92 (by decide) ?_
    exact ih _ _ _ _ hf
set_option maxHeartbeats 4000000 in
set_option maxRecDepth 100000 in
theorem wX5_nextChain_L46 {G : GG} {T : TT} {n d : Nat} (hd : 1 ≤ d) {s1 : Int32} {k : MU → Option (Int32 × MU)} (hT : LAY T) (hk : ∀ (u : MU) (q : Int32 × MU), k u = some q → AW G d mX5_nextChain 117 [.ref 53, .int s1, .null, .null] [] T u 0 0 (QS T q.1 q.2)) : ∀ (m : Nat) (u : MU) (q : Int32 × MU), zX5_nextChain_L46 n  s1 k m u = some q → AW G d mX5_nextChain 46 [.ref 53, .int s1, .null, .null] [] T u 0 0 (QS T q.1 q.2) := by
  intro m
  obtain ⟨d, rfl⟩ : ∃ e, d = e + 1 := ⟨d - 1, by omega⟩
  induction m with
  | zero =>
    intro u q hf
    have h0 : (none : Option (Int32 × MU)) = some q := hf
    cases h0
  | succ m ih =>
    intro u q hf
    rw [zX5_nextChain_L46] at hf
    refine A_aloadn (pc := 46) dX5_nextChain_46 rfl ?_
    refine A_getI (pc := 47) dX5_nextChain_47 gX5_213 (lay_s hT (k := 53) (q := (7, 35)) rfl) (Nat.le_of_ble_eq_true rfl) rfl ?_
    refine A_iloadn (pc := 50) dX5_nextChain_50 rfl ?_
    refine A_icmp_ge (pc := 51) 117 dX5_nextChain_51 (by decide) (fun cc7 => ?_) (fun cc7 => ?_)
    · have hf := oi_t cc7 hf
      exact hk _ _ hf
    have hf := oi_f cc7 hf
    refine A_aloadn (pc := 54) dX5_nextChain_54 rfl ?_
    refine A_getI (pc := 55) dX5_nextChain_55 gX5_213 (lay_s hT (k := 53) (q := (7, 35)) rfl) (Nat.le_of_ble_eq_true rfl) rfl ?_
    have hf := oi_l hf
    refine A_istn (pc := 58) (L2 := [.ref 53, .int s1, .int (u 53 30), .null]) dX5_nextChain_58 (Nat.le_of_ble_eq_true rfl) rfl ?_
    refine A_aloadn (pc := 59) dX5_nextChain_59 rfl ?_
    refine A_getI (pc := 60) dX5_nextChain_60 gX5_46 (lay_s hT (k := 53) (q := (7, 35)) rfl) (Nat.le_of_ble_eq_true rfl) rfl ?_
    refine A_iconst (pc := 63) 1 dX5_nextChain_63 rfl ?_
    refine A_isub (pc := 64) dX5_nextChain_64 ?_
    have hf := oi_l hf
    refine A_istn (pc := 65) (L2 := [.ref 53, .int s1, .int (u 53 30), .int ((u 53 12) - 1)]) dX5_nextChain_65 (Nat.le_of_ble_eq_true rfl) rfl ?_
    exact wX5_nextChain_L66 (by omega) hT  (fun y16 y17 w18 q0 hf => by
      refine A_aloadn (pc := 95) dX5_nextChain_95 rfl ?_
      obtain ⟨q19, h20, hf⟩ := oi_b hf
      refine A_cV0i (mi2 := mX5_areUnlike) (pc := 96) dX5_nextChain_96 lX5_216 fX5_areUnlike vX5_areUnlike (lay_s hT (k := 53) (q := (7, 35)) rfl) rfl (Nat.le_of_ble_eq_true rfl) rfl (Nat.le_of_ble_eq_true rfl) (wX5_areUnlike (by omega) hT  h20) ?_
      refine A_if_eq (pc := 99) (w := 0) 104 dX5_nextChain_99 (by decide) (fun cc21 => ?_) (fun cc21 => ?_)
      · have hf := oi_t cc21 hf
        refine A_aloadn (pc := 104) dX5_nextChain_104 rfl ?_
        refine A_dup (pc := 105) dX5_nextChain_105 ?_
        refine A_getI (pc := 106) dX5_nextChain_106 gX5_213 (lay_s hT (k := 53) (q := (7, 35)) rfl) (Nat.le_of_ble_eq_true rfl) rfl ?_
        refine A_iconst (pc := 109) 1 dX5_nextChain_109 rfl ?_
        refine A_iadd (pc := 110) dX5_nextChain_110 ?_
        have hf := oi_l hf
        refine A_putI (pc := 111) dX5_nextChain_111 gX5_213 (lay_s hT (k := 53) (q := (7, 35)) rfl) (Nat.le_of_ble_eq_true rfl) rfl rfl rfl rfl ?_
        refine A_goto (pc := 114) 46 dX5_nextChain_114 (by decide) ?_
        refine A_fgt 2 (L' := [.ref 53, .int s1, .null, .int y17]) rfl ?_
        refine A_fgt 3 (L' := [.ref 53, .int s1, .null, .null]) rfl ?_
        exact ih _ _ hf
      have hf := oi_f cc21 hf
      refine A_iconst (pc := 102) 1 dX5_nextChain_102 rfl ?_
      obtain rfl := Option.some.inj hf
      exact A_iret (pc := 103) dX5_nextChain_103 rfl rfl ⟨rfl, rfl, rfl⟩) _ _ _ _ _ hf
set_option maxHeartbeats 4000000 in
set_option maxRecDepth 100000 in
theorem wX5_nextChain {G : GG} {T : TT} {n d : Nat} (hd : 1 ≤ d) {q : Int32 × MU} {u : MU} (hT : LAY T) (hf : zX5_nextChain n u = some q) : AW G d mX5_nextChain 0 [.ref 53, .null, .null, .null] [] T u 0 0 (QS T q.1 q.2) := by
  obtain ⟨d, rfl⟩ : ∃ e, d = e + 1 := ⟨d - 1, by omega⟩
  rw [zX5_nextChain] at hf
  refine A_aloadn (pc := 0) dX5_nextChain_0 rfl ?_
  refine A_getI (pc := 1) dX5_nextChain_1 gX5_78 (lay_s hT (k := 53) (q := (7, 35)) rfl) (Nat.le_of_ble_eq_true rfl) rfl ?_
  refine A_if_ne (pc := 4) (w := 0) 11 dX5_nextChain_4 (by decide) (fun cc1 => ?_) (fun cc1 => ?_)
  · have hf := oi_f cc1 hf
    refine A_iconst (pc := 11) 1 dX5_nextChain_11 rfl ?_
    refine A_istn (pc := 12) (L2 := [.ref 53, .int 1, .null, .null]) dX5_nextChain_12 (Nat.le_of_ble_eq_true rfl) rfl ?_
    refine A_iconst (pc := 13) 0 dX5_nextChain_13 rfl ?_
    refine A_istn (pc := 14) (L2 := [.ref 53, .int 1, .int 0, .null]) dX5_nextChain_14 (Nat.le_of_ble_eq_true rfl) rfl ?_
    exact wX5_nextChain_L15 (by omega) hT  (fun y4 y5 q0 hf => by
      refine A_aloadn (pc := 36) dX5_nextChain_36 rfl ?_
      refine A_dup (pc := 37) dX5_nextChain_37 ?_
      refine A_getI (pc := 38) dX5_nextChain_38 gX5_213 (lay_s hT (k := 53) (q := (7, 35)) rfl) (Nat.le_of_ble_eq_true rfl) rfl ?_
      refine A_iconst (pc := 41) 1 dX5_nextChain_41 rfl ?_
      refine A_iadd (pc := 42) dX5_nextChain_42 ?_
      have hf := oi_l hf
      refine A_putI (pc := 43) dX5_nextChain_43 gX5_213 (lay_s hT (k := 53) (q := (7, 35)) rfl) (Nat.le_of_ble_eq_true rfl) rfl rfl rfl rfl ?_
      refine A_fgt 2 (L' := [.ref 53, .int y4, .null, .null]) rfl ?_
      exact wX5_nextChain_L46 (by omega) hT  (fun w23 q0 hf => by
        refine A_iconst (pc := 117) 0 dX5_nextChain_117 rfl ?_
        obtain rfl := Option.some.inj hf
        exact A_iret (pc := 118) dX5_nextChain_118 rfl rfl ⟨rfl, rfl, rfl⟩) _ _ _ hf) _ _ _ _ hf
  have hf := oi_t cc1 hf
  refine A_iconst (pc := 7) 0 dX5_nextChain_7 rfl ?_
  refine A_goto (pc := 8) 12 dX5_nextChain_8 (by decide) ?_
  refine A_istn (pc := 12) (L2 := [.ref 53, .int 0, .null, .null]) dX5_nextChain_12 (Nat.le_of_ble_eq_true rfl) rfl ?_
  refine A_iconst (pc := 13) 0 dX5_nextChain_13 rfl ?_
  refine A_istn (pc := 14) (L2 := [.ref 53, .int 0, .int 0, .null]) dX5_nextChain_14 (Nat.le_of_ble_eq_true rfl) rfl ?_
  exact wX5_nextChain_L15 (by omega) hT  (fun y24 y25 q0 hf => by
    refine A_aloadn (pc := 36) dX5_nextChain_36 rfl ?_
    refine A_dup (pc := 37) dX5_nextChain_37 ?_
    refine A_getI (pc := 38) dX5_nextChain_38 gX5_213 (lay_s hT (k := 53) (q := (7, 35)) rfl) (Nat.le_of_ble_eq_true rfl) rfl ?_
    refine A_iconst (pc := 41) 1 dX5_nextChain_41 rfl ?_
    refine A_iadd (pc := 42) dX5_nextChain_42 ?_
    have hf := oi_l hf
    refine A_putI (pc := 43) dX5_nextChain_43 gX5_213 (lay_s hT (k := 53) (q := (7, 35)) rfl) (Nat.le_of_ble_eq_true rfl) rfl rfl rfl rfl ?_
    refine A_fgt 2 (L' := [.ref 53, .int y24, .null, .null]) rfl ?_
    exact wX5_nextChain_L46 (by omega) hT  (fun w27 q0 hf => by
      refine A_iconst (pc := 117) 0 dX5_nextChain_117 rfl ?_
      obtain rfl := Option.some.inj hf
      exact A_iret (pc := 118) dX5_nextChain_118 rfl rfl ⟨rfl, rfl, rfl⟩) _ _ _ hf) _ _ _ _ hf
def zX5_chains_L6 (n : Nat) (k : Int32 → MU → Option (Int32 × MU)) : Nat → Int32 → MU → Option (Int32 × MU)
  | 0, _, _ => none
  | m + 1, t1, u => Option.bind (zX5_nextChain n u) (fun q3 => if q3.1 = 0 then (k t1 q3.2) else (Option.bind (zX5_doesStand n q3.2) (fun q6 => if q6.1 = 0 then (letb (t1 + 0) (fun x9 => zX5_chains_L6 n   k m x9 q6.2)) else (letb (t1 + 1) (fun x10 => zX5_chains_L6 n   k m x10 q6.2)))))
def zX5_chains (n : Nat) (u : MU) : Option (Int32 × MU) := Option.bind (zX5_putsAway n u) (fun q1 => zX5_chains_L6 n   (fun y11 w12 => Option.bind (zX5_putsBack n w12) (fun q13 => some (y11, q13))) n 0 q1)
set_option maxHeartbeats 4000000 in
set_option maxRecDepth 100000 in
theorem wX5_chains_L6 {G : GG} {T : TT} {n d : Nat} (hd : 6 ≤ d) {k : Int32 → MU → Option (Int32 × MU)} (hT : LAY T) (hk : ∀ (t1 : Int32) (u : MU) (q : Int32 × MU), k t1 u = some q → AW G d mX5_chains 31 [.ref 53, .int t1] [] T u 0 0 (QS T q.1 q.2)) : ∀ (m : Nat) (t1 : Int32) (u : MU) (q : Int32 × MU), zX5_chains_L6 n  k m t1 u = some q → AW G d mX5_chains 6 [.ref 53, .int t1] [] T u 0 0 (QS T q.1 q.2) := by
  intro m
  obtain ⟨d, rfl⟩ : ∃ e, d = e + 1 := ⟨d - 1, by omega⟩
  induction m with
  | zero =>
    intro t1 u q hf
    have h0 : (none : Option (Int32 × MU)) = some q := hf
    cases h0
  | succ m ih =>
    intro t1 u q hf
    rw [zX5_chains_L6] at hf
    refine A_aloadn (pc := 6) dX5_chains_6 rfl ?_
    obtain ⟨q3, h4, hf⟩ := oi_b hf
    refine A_cV0i (mi2 := mX5_nextChain) (pc := 7) dX5_chains_7 lX5_222 fX5_nextChain vX5_nextChain (lay_s hT (k := 53) (q := (7, 35)) rfl) rfl (Nat.le_of_ble_eq_true rfl) rfl (Nat.le_of_ble_eq_true rfl) (wX5_nextChain (by omega) hT  h4) ?_
    refine A_if_eq (pc := 10) (w := 0) 31 dX5_chains_10 (by decide) (fun cc5 => ?_) (fun cc5 => ?_)
    · have hf := oi_t cc5 hf
      exact hk _ _ _ hf
    have hf := oi_f cc5 hf
    refine A_iloadn (pc := 13) dX5_chains_13 rfl ?_
    refine A_aloadn (pc := 14) dX5_chains_14 rfl ?_
    obtain ⟨q6, h7, hf⟩ := oi_b hf
    refine A_cV0i (mi2 := mX5_doesStand) (pc := 15) dX5_chains_15 lX5_207 fX5_doesStand vX5_doesStand (lay_s hT (k := 53) (q := (7, 35)) rfl) rfl (Nat.le_of_ble_eq_true rfl) rfl (Nat.le_of_ble_eq_true rfl) (wX5_doesStand (by omega) hT  h7) ?_
    refine A_if_eq (pc := 18) (w := 0) 25 dX5_chains_18 (by decide) (fun cc8 => ?_) (fun cc8 => ?_)
    · have hf := oi_t cc8 hf
      refine A_iconst (pc := 25) 0 dX5_chains_25 rfl ?_
      refine A_iadd (pc := 26) dX5_chains_26 ?_
      have hf := oi_l hf
      refine A_istn (pc := 27) (L2 := [.ref 53, .int (t1 + 0)]) dX5_chains_27 (Nat.le_of_ble_eq_true rfl) rfl ?_
      refine A_goto (pc := 28) 6 dX5_chains_28 (by decide) ?_
      exact ih _ _ _ hf
    have hf := oi_f cc8 hf
    refine A_iconst (pc := 21) 1 dX5_chains_21 rfl ?_
    refine A_goto (pc := 22) 26 dX5_chains_22 (by decide) ?_
    refine A_iadd (pc := 26) dX5_chains_26 ?_
    have hf := oi_l hf
    refine A_istn (pc := 27) (L2 := [.ref 53, .int (t1 + 1)]) dX5_chains_27 (Nat.le_of_ble_eq_true rfl) rfl ?_
    refine A_goto (pc := 28) 6 dX5_chains_28 (by decide) ?_
    exact ih _ _ _ hf
set_option maxHeartbeats 4000000 in
set_option maxRecDepth 100000 in
theorem wX5_chains {G : GG} {T : TT} {n d : Nat} (hd : 6 ≤ d) {q : Int32 × MU} {u : MU} (hT : LAY T) (hf : zX5_chains n u = some q) : AW G d mX5_chains 0 [.ref 53, .null] [] T u 0 0 (QS T q.1 q.2) := by
  obtain ⟨d, rfl⟩ : ∃ e, d = e + 1 := ⟨d - 1, by omega⟩
  rw [zX5_chains] at hf
  refine A_aloadn (pc := 0) dX5_chains_0 rfl ?_
  obtain ⟨q1, h2, hf⟩ := oi_b hf
  refine A_cV0v (mi2 := mX5_putsAway) (pc := 1) dX5_chains_1 lX5_219 fX5_putsAway vX5_putsAway (lay_s hT (k := 53) (q := (7, 35)) rfl) rfl (Nat.le_of_ble_eq_true rfl) rfl (Nat.le_of_ble_eq_true rfl) (wX5_putsAway (by omega) hT  h2) ?_
  refine A_iconst (pc := 4) 0 dX5_chains_4 rfl ?_
  refine A_istn (pc := 5) (L2 := [.ref 53, .int 0]) dX5_chains_5 (Nat.le_of_ble_eq_true rfl) rfl ?_
  exact wX5_chains_L6 (by omega) hT  (fun y11 w12 q0 hf => by
    refine A_aloadn (pc := 31) dX5_chains_31 rfl ?_
    obtain ⟨q13, h14, hf⟩ := oi_b hf
    refine A_cV0v (mi2 := mX5_putsBack) (pc := 32) dX5_chains_32 lX5_225 fX5_putsBack vX5_putsBack (lay_s hT (k := 53) (q := (7, 35)) rfl) rfl (Nat.le_of_ble_eq_true rfl) rfl (Nat.le_of_ble_eq_true rfl) (wX5_putsBack (by omega) hT  h14) ?_
    refine A_iloadn (pc := 35) dX5_chains_35 rfl ?_
    obtain rfl := Option.some.inj hf
    exact A_iret (pc := 36) dX5_chains_36 rfl rfl ⟨rfl, rfl, rfl⟩) _ _ _ _ hf
def zX5_findLongest_L12 (n : Nat) (k : Int32 → MU → Option (MU)) : Nat → Int32 → MU → Option (MU)
  | 0, _, _ => none
  | m + 1, t1, u => if 5 ≤ t1 then (k t1 u) else (if oob t1 5 then none else letb (up2 u 72 t1.toNatClampNeg (-9)) (fun u6 => zX5_findLongest_L12 n   k m (t1 + 1) u6))
def zX5_findLongest_L69 (n : Nat) (k : Int32 → MU → Option (MU)) : Nat → Int32 → MU → Option (MU)
  | 0, _, _ => none
  | m + 1, t1, u => if (u 53 12) ≤ t1 then (k t1 u) else (if oob t1 5 then none else if oob t1 5 then none else letb (up2 u 72 t1.toNatClampNeg (u 57 t1.toNatClampNeg)) (fun u24 => zX5_findLongest_L69 n   k m (t1 + 1) u24))
def zX5_findLongest_L31 (n : Nat) (k : MU → Option (MU)) : Nat → MU → Option (MU)
  | 0, _ => none
  | m + 1, u => Option.bind (zX5_nextChain n u) (fun q9 => if q9.1 = 0 then (k  q9.2) else (Option.bind (zX5_doesStand n q9.2) (fun q12 => if q12.1 = 0 then (zX5_findLongest_L31 n   k m  q12.2) else (Option.bind (zX5_lastsNow n q12.2) (fun q15 => if (q12.2 53 32) < q15 then (Option.bind (zX5_lastsNow n q12.2) (fun q18 => letb (up2 q12.2 53 32 q18) (fun u20 => zX5_findLongest_L69 n   (fun y25 w26 => zX5_findLongest_L31 n   k m  w26) n 0 u20))) else (zX5_findLongest_L31 n   k m  q12.2))))))
def zX5_findLongest (n : Nat) (u : MU) : Option (MU) := Option.bind (zX5_putsAway n u) (fun q1 => letb (up2 q1 53 32 (-9)) (fun u3 => zX5_findLongest_L12 n   (fun y7 w8 => zX5_findLongest_L31 n   (fun w27 => Option.bind (zX5_putsBack n w27) (fun q28 => some q28)) n  w8) n 0 u3))
set_option maxHeartbeats 4000000 in
set_option maxRecDepth 100000 in
theorem wX5_findLongest_L12 {G : GG} {T : TT} {n d : Nat} (hd : 6 ≤ d) {k : Int32 → MU → Option (MU)} (hT : LAY T) (hk : ∀ (t1 : Int32) (u : MU) (q : MU), k t1 u = some q → AW G d mX5_findLongest 31 [.ref 53, .int t1] [] T u 0 0 (QV T q)) : ∀ (m : Nat) (t1 : Int32) (u : MU) (q : MU), zX5_findLongest_L12 n  k m t1 u = some q → AW G d mX5_findLongest 12 [.ref 53, .int t1] [] T u 0 0 (QV T q) := by
  intro m
  obtain ⟨d, rfl⟩ : ∃ e, d = e + 1 := ⟨d - 1, by omega⟩
  induction m with
  | zero =>
    intro t1 u q hf
    have h0 : (none : Option (MU)) = some q := hf
    cases h0
  | succ m ih =>
    intro t1 u q hf
    rw [zX5_findLongest_L12] at hf
    refine A_iloadn (pc := 12) dX5_findLongest_12 rfl ?_
    refine A_iconst (pc := 13) 5 dX5_findLongest_13 rfl ?_
    refine A_icmp_ge (pc := 14) 31 dX5_findLongest_14 (by decide) (fun cc4 => ?_) (fun cc4 => ?_)
    · have hf := oi_t cc4 hf
      exact hk _ _ _ hf
    have hf := oi_f cc4 hf
    refine A_aloadn (pc := 17) dX5_findLongest_17 rfl ?_
    refine A_getR (pc := 18) dX5_findLongest_18 gX5_71 (lay_s hT (k := 53) (q := (7, 35)) rfl) (Nat.le_of_ble_eq_true rfl) rfl (lay_r hT 70 rfl) ?_
    refine A_iloadn (pc := 21) dX5_findLongest_21 rfl ?_
    refine A_bipush (pc := 22) (-9) dX5_findLongest_22 rfl ?_
    obtain ⟨h5, hf⟩ := oi_cf hf
    have hf := oi_l hf
    refine A_iast (pc := 24) dX5_findLongest_24 (lay_s hT (k := 72) (q := (0, 5)) rfl) (oob_f h5) ?_
    refine A_inc (pc := 25) (L2 := [.ref 53, .int (t1 + 1)]) (t1 + 1) dX5_findLongest_25 rfl rfl rfl ?_
    refine A_goto (pc := 28) 12 dX5_findLongest_28 (by decide) ?_
    exact ih _ _ _ hf
set_option maxHeartbeats 4000000 in
set_option maxRecDepth 100000 in
theorem wX5_findLongest_L69 {G : GG} {T : TT} {n d : Nat} (hd : 6 ≤ d) {k : Int32 → MU → Option (MU)} (hT : LAY T) (hk : ∀ (t1 : Int32) (u : MU) (q : MU), k t1 u = some q → AW G d mX5_findLongest 95 [.ref 53, .int t1] [] T u 0 0 (QV T q)) : ∀ (m : Nat) (t1 : Int32) (u : MU) (q : MU), zX5_findLongest_L69 n  k m t1 u = some q → AW G d mX5_findLongest 69 [.ref 53, .int t1] [] T u 0 0 (QV T q) := by
  intro m
  obtain ⟨d, rfl⟩ : ∃ e, d = e + 1 := ⟨d - 1, by omega⟩
  induction m with
  | zero =>
    intro t1 u q hf
    have h0 : (none : Option (MU)) = some q := hf
    cases h0
  | succ m ih =>
    intro t1 u q hf
    rw [zX5_findLongest_L69] at hf
    refine A_iloadn (pc := 69) dX5_findLongest_69 rfl ?_
    refine A_aloadn (pc := 70) dX5_findLongest_70 rfl ?_
    refine A_getI (pc := 71) dX5_findLongest_71 gX5_46 (lay_s hT (k := 53) (q := (7, 35)) rfl) (Nat.le_of_ble_eq_true rfl) rfl ?_
    refine A_icmp_ge (pc := 74) 95 dX5_findLongest_74 (by decide) (fun cc21 => ?_) (fun cc21 => ?_)
    · have hf := oi_t cc21 hf
      exact hk _ _ _ hf
    have hf := oi_f cc21 hf
    refine A_aloadn (pc := 77) dX5_findLongest_77 rfl ?_
    refine A_getR (pc := 78) dX5_findLongest_78 gX5_71 (lay_s hT (k := 53) (q := (7, 35)) rfl) (Nat.le_of_ble_eq_true rfl) rfl (lay_r hT 70 rfl) ?_
    refine A_iloadn (pc := 81) dX5_findLongest_81 rfl ?_
    refine A_aloadn (pc := 82) dX5_findLongest_82 rfl ?_
    refine A_getR (pc := 83) dX5_findLongest_83 gX5_19 (lay_s hT (k := 53) (q := (7, 35)) rfl) (Nat.le_of_ble_eq_true rfl) rfl (lay_r hT 55 rfl) ?_
    refine A_iloadn (pc := 86) dX5_findLongest_86 rfl ?_
    obtain ⟨h22, hf⟩ := oi_cf hf
    refine A_iald (pc := 87) dX5_findLongest_87 (lay_s hT (k := 57) (q := (0, 5)) rfl) (oob_f h22) ?_
    obtain ⟨h23, hf⟩ := oi_cf hf
    have hf := oi_l hf
    refine A_iast (pc := 88) dX5_findLongest_88 (lay_s hT (k := 72) (q := (0, 5)) rfl) (oob_f h23) ?_
    refine A_inc (pc := 89) (L2 := [.ref 53, .int (t1 + 1)]) (t1 + 1) dX5_findLongest_89 rfl rfl rfl ?_
    refine A_goto (pc := 92) 69 dX5_findLongest_92 (by decide) ?_
    exact ih _ _ _ hf
set_option maxHeartbeats 4000000 in
set_option maxRecDepth 100000 in
theorem wX5_findLongest_L31 {G : GG} {T : TT} {n d : Nat} (hd : 6 ≤ d) {k : MU → Option (MU)} (hT : LAY T) (hk : ∀ (u : MU) (q : MU), k u = some q → AW G d mX5_findLongest 98 [.ref 53, .null] [] T u 0 0 (QV T q)) : ∀ (m : Nat) (u : MU) (q : MU), zX5_findLongest_L31 n  k m u = some q → AW G d mX5_findLongest 31 [.ref 53, .null] [] T u 0 0 (QV T q) := by
  intro m
  obtain ⟨d, rfl⟩ : ∃ e, d = e + 1 := ⟨d - 1, by omega⟩
  induction m with
  | zero =>
    intro u q hf
    have h0 : (none : Option (MU)) = some q := hf
    cases h0
  | succ m ih =>
    intro u q hf
    rw [zX5_findLongest_L31] at hf
    refine A_aloadn (pc := 31) dX5_findLongest_31 rfl ?_
    obtain ⟨q9, h10, hf⟩ := oi_b hf
    refine A_cV0i (mi2 := mX5_nextChain) (pc := 32) dX5_findLongest_32 lX5_222 fX5_nextChain vX5_nextChain (lay_s hT (k := 53) (q := (7, 35)) rfl) rfl (Nat.le_of_ble_eq_true rfl) rfl (Nat.le_of_ble_eq_true rfl) (wX5_nextChain (by omega) hT  h10) ?_
    refine A_if_eq (pc := 35) (w := 0) 98 dX5_findLongest_35 (by decide) (fun cc11 => ?_) (fun cc11 => ?_)
    · have hf := oi_t cc11 hf
      exact hk _ _ hf
    have hf := oi_f cc11 hf
    refine A_aloadn (pc := 38) dX5_findLongest_38 rfl ?_
    obtain ⟨q12, h13, hf⟩ := oi_b hf
    refine A_cV0i (mi2 := mX5_doesStand) (pc := 39) dX5_findLongest_39 lX5_207 fX5_doesStand vX5_doesStand (lay_s hT (k := 53) (q := (7, 35)) rfl) rfl (Nat.le_of_ble_eq_true rfl) rfl (Nat.le_of_ble_eq_true rfl) (wX5_doesStand (by omega) hT  h13) ?_
    refine A_if_eq (pc := 42) (w := 0) 31 dX5_findLongest_42 (by decide) (fun cc14 => ?_) (fun cc14 => ?_)
    · have hf := oi_t cc14 hf
      exact ih _ _ hf
    have hf := oi_f cc14 hf
    refine A_aloadn (pc := 45) dX5_findLongest_45 rfl ?_
    obtain ⟨q15, h16, hf⟩ := oi_b hf
    refine A_cV0i (mi2 := mX5_lastsNow) (pc := 46) dX5_findLongest_46 lX5_210 fX5_lastsNow vX5_lastsNow (lay_s hT (k := 53) (q := (7, 35)) rfl) rfl (Nat.le_of_ble_eq_true rfl) rfl (Nat.le_of_ble_eq_true rfl) (wX5_lastsNow (by omega) hT  h16) ?_
    refine A_aloadn (pc := 49) dX5_findLongest_49 rfl ?_
    refine A_getI (pc := 50) dX5_findLongest_50 gX5_228 (lay_s hT (k := 53) (q := (7, 35)) rfl) (Nat.le_of_ble_eq_true rfl) rfl ?_
    refine A_icmp_gt (pc := 53) 59 dX5_findLongest_53 (by decide) (fun cc17 => ?_) (fun cc17 => ?_)
    · have hf := oi_t cc17 hf
      refine A_aloadn (pc := 59) dX5_findLongest_59 rfl ?_
      refine A_aloadn (pc := 60) dX5_findLongest_60 rfl ?_
      obtain ⟨q18, h19, hf⟩ := oi_b hf
      refine A_cV0i (mi2 := mX5_lastsNow) (pc := 61) dX5_findLongest_61 lX5_210 fX5_lastsNow vX5_lastsNow (lay_s hT (k := 53) (q := (7, 35)) rfl) rfl (Nat.le_of_ble_eq_true rfl) rfl (Nat.le_of_ble_eq_true rfl) (wX5_lastsNow (by omega) hT  h19) ?_
      have hf := oi_l hf
      refine A_putI (pc := 64) dX5_findLongest_64 gX5_228 (lay_s hT (k := 53) (q := (7, 35)) rfl) (Nat.le_of_ble_eq_true rfl) rfl rfl rfl rfl ?_
      refine A_iconst (pc := 67) 0 dX5_findLongest_67 rfl ?_
      refine A_istn (pc := 68) (L2 := [.ref 53, .int 0]) dX5_findLongest_68 (Nat.le_of_ble_eq_true rfl) rfl ?_
      exact wX5_findLongest_L69 (by omega) hT  (fun y25 w26 q0 hf => by
        refine A_goto (pc := 95) 31 dX5_findLongest_95 (by decide) ?_
        refine A_fgt 1 (L' := [.ref 53, .null]) rfl ?_
        exact ih _ _ hf) _ _ _ _ hf
    have hf := oi_f cc17 hf
    refine A_goto (pc := 56) 31 dX5_findLongest_56 (by decide) ?_
    exact ih _ _ hf
set_option maxHeartbeats 4000000 in
set_option maxRecDepth 100000 in
theorem wX5_findLongest {G : GG} {T : TT} {n d : Nat} (hd : 6 ≤ d) {q : MU} {u : MU} (hT : LAY T) (hf : zX5_findLongest n u = some q) : AW G d mX5_findLongest 0 [.ref 53, .null] [] T u 0 0 (QV T q) := by
  obtain ⟨d, rfl⟩ : ∃ e, d = e + 1 := ⟨d - 1, by omega⟩
  rw [zX5_findLongest] at hf
  refine A_aloadn (pc := 0) dX5_findLongest_0 rfl ?_
  obtain ⟨q1, h2, hf⟩ := oi_b hf
  refine A_cV0v (mi2 := mX5_putsAway) (pc := 1) dX5_findLongest_1 lX5_219 fX5_putsAway vX5_putsAway (lay_s hT (k := 53) (q := (7, 35)) rfl) rfl (Nat.le_of_ble_eq_true rfl) rfl (Nat.le_of_ble_eq_true rfl) (wX5_putsAway (by omega) hT  h2) ?_
  refine A_aloadn (pc := 4) dX5_findLongest_4 rfl ?_
  refine A_bipush (pc := 5) (-9) dX5_findLongest_5 rfl ?_
  have hf := oi_l hf
  refine A_putI (pc := 7) dX5_findLongest_7 gX5_228 (lay_s hT (k := 53) (q := (7, 35)) rfl) (Nat.le_of_ble_eq_true rfl) rfl rfl rfl rfl ?_
  refine A_iconst (pc := 10) 0 dX5_findLongest_10 rfl ?_
  refine A_istn (pc := 11) (L2 := [.ref 53, .int 0]) dX5_findLongest_11 (Nat.le_of_ble_eq_true rfl) rfl ?_
  exact wX5_findLongest_L12 (by omega) hT  (fun y7 w8 q0 hf => by
    refine A_fgt 1 (L' := [.ref 53, .null]) rfl ?_
    exact wX5_findLongest_L31 (by omega) hT  (fun w27 q0 hf => by
      refine A_aloadn (pc := 98) dX5_findLongest_98 rfl ?_
      obtain ⟨q28, h29, hf⟩ := oi_b hf
      refine A_cV0v (mi2 := mX5_putsBack) (pc := 99) dX5_findLongest_99 lX5_225 fX5_putsBack vX5_putsBack (lay_s hT (k := 53) (q := (7, 35)) rfl) rfl (Nat.le_of_ble_eq_true rfl) rfl (Nat.le_of_ble_eq_true rfl) (wX5_putsBack (by omega) hT  h29) ?_
      obtain rfl := Option.some.inj hf
      exact A_vret (pc := 102) dX5_findLongest_102 rfl ⟨rfl, rfl, rfl⟩) _ _ _ hf) _ _ _ _ hf
def zX5_longest (n : Nat) (u : MU) (a1 : Int32) : Option (Int32 × MU) := if a1 = (-1) then (Option.bind (zX5_findLongest n u) (fun q2 => if a1 = (-1) then (some ((q2 53 32), q2)) else (if oob a1 5 then none else some ((q2 72 a1.toNatClampNeg), q2)))) else (Option.bind (zX5_isYard n u a1) (fun q6 => if q6 = 0 then (Option.bind (zX5_no n u (-1)) (fun q13 => some (q13.1, q13.2))) else (Option.bind (zX5_findLongest n u) (fun q9 => if a1 = (-1) then (some ((q9 53 32), q9)) else (if oob a1 5 then none else some ((q9 72 a1.toNatClampNeg), q9))))))
set_option maxHeartbeats 4000000 in
set_option maxRecDepth 100000 in
theorem wX5_longest {G : GG} {T : TT} {n d : Nat} (hd : 7 ≤ d) {q : Int32 × MU} {u : MU} {a1 : Int32} (hT : LAY T) (hf : zX5_longest n u a1 = some q) : AW G d mX5_longest 0 [.ref 53, .int a1] [] T u 0 0 (QS T q.1 q.2) := by
  obtain ⟨d, rfl⟩ : ∃ e, d = e + 1 := ⟨d - 1, by omega⟩
  rw [zX5_longest] at hf
  refine A_iloadn (pc := 0) dX5_longest_0 rfl ?_
  refine A_iconst (pc := 1) (-1) dX5_longest_1 rfl ?_
  refine A_icmp_eq (pc := 2) 19 dX5_longest_2 (by decide) (fun cc1 => ?_) (fun cc1 => ?_)
  · have hf := oi_t cc1 hf
    refine A_aloadn (pc := 19) dX5_longest_19 rfl ?_
    obtain ⟨q2, h3, hf⟩ := oi_b hf
    refine A_cV0v (mi2 := mX5_findLongest) (pc := 20) dX5_longest_20 lX5_231 fX5_findLongest vX5_findLongest (lay_s hT (k := 53) (q := (7, 35)) rfl) rfl (Nat.le_of_ble_eq_true rfl) rfl (Nat.le_of_ble_eq_true rfl) (wX5_findLongest (by omega) hT  h3) ?_
    refine A_iloadn (pc := 23) dX5_longest_23 rfl ?_
    refine A_iconst (pc := 24) (-1) dX5_longest_24 rfl ?_
    refine A_icmp_ne (pc := 25) 35 dX5_longest_25 (by decide) (fun cc4 => ?_) (fun cc4 => ?_)
    · have hf := oi_f cc4 hf
      refine A_aloadn (pc := 35) dX5_longest_35 rfl ?_
      refine A_getR (pc := 36) dX5_longest_36 gX5_71 (lay_s hT (k := 53) (q := (7, 35)) rfl) (Nat.le_of_ble_eq_true rfl) rfl (lay_r hT 70 rfl) ?_
      refine A_iloadn (pc := 39) dX5_longest_39 rfl ?_
      obtain ⟨h5, hf⟩ := oi_cf hf
      refine A_iald (pc := 40) dX5_longest_40 (lay_s hT (k := 72) (q := (0, 5)) rfl) (oob_f h5) ?_
      obtain rfl := Option.some.inj hf
      exact A_iret (pc := 41) dX5_longest_41 rfl rfl ⟨rfl, rfl, rfl⟩
    have hf := oi_t cc4 hf
    refine A_aloadn (pc := 28) dX5_longest_28 rfl ?_
    refine A_getI (pc := 29) dX5_longest_29 gX5_228 (lay_s hT (k := 53) (q := (7, 35)) rfl) (Nat.le_of_ble_eq_true rfl) rfl ?_
    refine A_goto (pc := 32) 41 dX5_longest_32 (by decide) ?_
    obtain rfl := Option.some.inj hf
    exact A_iret (pc := 41) dX5_longest_41 rfl rfl ⟨rfl, rfl, rfl⟩
  have hf := oi_f cc1 hf
  refine A_aloadn (pc := 5) dX5_longest_5 rfl ?_
  refine A_iloadn (pc := 6) dX5_longest_6 rfl ?_
  obtain ⟨q6, h7, hf⟩ := oi_b hf
  refine A_cV1i (mi2 := mX5_isYard) (pc := 7) dX5_longest_7 lX5_123 fX5_isYard vX5_isYard (lay_s hT (k := 53) (q := (7, 35)) rfl) rfl (Nat.le_of_ble_eq_true rfl) rfl (Nat.le_of_ble_eq_true rfl) (wX5_isYard (by omega) hT  h7) ?_
  refine A_if_ne (pc := 10) (w := 0) 19 dX5_longest_10 (by decide) (fun cc8 => ?_) (fun cc8 => ?_)
  · have hf := oi_f cc8 hf
    refine A_aloadn (pc := 19) dX5_longest_19 rfl ?_
    obtain ⟨q9, h10, hf⟩ := oi_b hf
    refine A_cV0v (mi2 := mX5_findLongest) (pc := 20) dX5_longest_20 lX5_231 fX5_findLongest vX5_findLongest (lay_s hT (k := 53) (q := (7, 35)) rfl) rfl (Nat.le_of_ble_eq_true rfl) rfl (Nat.le_of_ble_eq_true rfl) (wX5_findLongest (by omega) hT  h10) ?_
    refine A_iloadn (pc := 23) dX5_longest_23 rfl ?_
    refine A_iconst (pc := 24) (-1) dX5_longest_24 rfl ?_
    refine A_icmp_ne (pc := 25) 35 dX5_longest_25 (by decide) (fun cc11 => ?_) (fun cc11 => ?_)
    · have hf := oi_f cc11 hf
      refine A_aloadn (pc := 35) dX5_longest_35 rfl ?_
      refine A_getR (pc := 36) dX5_longest_36 gX5_71 (lay_s hT (k := 53) (q := (7, 35)) rfl) (Nat.le_of_ble_eq_true rfl) rfl (lay_r hT 70 rfl) ?_
      refine A_iloadn (pc := 39) dX5_longest_39 rfl ?_
      obtain ⟨h12, hf⟩ := oi_cf hf
      refine A_iald (pc := 40) dX5_longest_40 (lay_s hT (k := 72) (q := (0, 5)) rfl) (oob_f h12) ?_
      obtain rfl := Option.some.inj hf
      exact A_iret (pc := 41) dX5_longest_41 rfl rfl ⟨rfl, rfl, rfl⟩
    have hf := oi_t cc11 hf
    refine A_aloadn (pc := 28) dX5_longest_28 rfl ?_
    refine A_getI (pc := 29) dX5_longest_29 gX5_228 (lay_s hT (k := 53) (q := (7, 35)) rfl) (Nat.le_of_ble_eq_true rfl) rfl ?_
    refine A_goto (pc := 32) 41 dX5_longest_32 (by decide) ?_
    obtain rfl := Option.some.inj hf
    exact A_iret (pc := 41) dX5_longest_41 rfl rfl ⟨rfl, rfl, rfl⟩
  have hf := oi_t cc8 hf
  refine A_aloadn (pc := 13) dX5_longest_13 rfl ?_
  refine A_iconst (pc := 14) (-1) dX5_longest_14 rfl ?_
  obtain ⟨q13, h14, hf⟩ := oi_b hf
  refine A_cV1i (mi2 := mX5_no) (pc := 15) dX5_longest_15 lX5_92 fX5_no vX5_no (lay_s hT (k := 53) (q := (7, 35)) rfl) rfl (Nat.le_of_ble_eq_true rfl) rfl (Nat.le_of_ble_eq_true rfl) (wX5_no (by omega) hT  h14) ?_
  obtain rfl := Option.some.inj hf
  exact A_iret (pc := 18) dX5_longest_18 rfl rfl ⟨rfl, rfl, rfl⟩
def zX5_grudgesIn_L4 (n : Nat) (u : MU) (k : Int32 → Int32 → Option (Int32)) : Nat → Int32 → Int32 → Option (Int32)
  | 0, _, _ => none
  | m + 1, t1, t2 => if (u 53 12) ≤ t2 then (k t1 t2) else (if oob t2 5 then none else letb (u 57 t2.toNatClampNeg) (fun x3 => Option.bind (zX5_doesReach n u t2 x3 0) (fun q4 => if q4 = 0 then (some (-9)) else (Option.bind (zX5_doesHold n u t2 x3) (fun q7 => if q7 = 0 then (some (-9)) else (if t2 ≤ 0 then (letb (t1 + 0) (fun x11 => zX5_grudgesIn_L4 n u   k m x11 (t2 + 1))) else (if oob (t2 - 1) 5 then none else if oob ((7 * x3) + (u 57 (t2 - 1).toNatClampNeg)) 49 then none else letb (t1 + (u 64 ((7 * x3) + (u 57 (t2 - 1).toNatClampNeg)).toNatClampNeg)) (fun x14 => zX5_grudgesIn_L4 n u   k m x14 (t2 + 1)))))))))
def zX5_grudgesIn (n : Nat) (u : MU) : Option (Int32) := zX5_grudgesIn_L4 n u   (fun y15 y16 => some y15) n 0 0
set_option maxHeartbeats 4000000 in
set_option maxRecDepth 100000 in
theorem wX5_grudgesIn_L4 {G : GG} {T : TT} {n d : Nat} (hd : 3 ≤ d) {u : MU} {k : Int32 → Int32 → Option (Int32)} (hT : LAY T) (hk : ∀ (t1 : Int32) (t2 : Int32) (q : Int32), k t1 t2 = some q → AW G d mX5_grudgesIn 76 [.ref 53, .int t1, .int t2, .null] [] T u 0 0 (QS T q u)) : ∀ (m : Nat) (t1 : Int32) (t2 : Int32) (q : Int32), zX5_grudgesIn_L4 n u  k m t1 t2 = some q → AW G d mX5_grudgesIn 4 [.ref 53, .int t1, .int t2, .null] [] T u 0 0 (QS T q u) := by
  intro m
  obtain ⟨d, rfl⟩ : ∃ e, d = e + 1 := ⟨d - 1, by omega⟩
  induction m with
  | zero =>
    intro t1 t2 q hf
    have h0 : (none : Option (Int32)) = some q := hf
    cases h0
  | succ m ih =>
    intro t1 t2 q hf
    rw [zX5_grudgesIn_L4] at hf
    refine A_iloadn (pc := 4) dX5_grudgesIn_4 rfl ?_
    refine A_aloadn (pc := 5) dX5_grudgesIn_5 rfl ?_
    refine A_getI (pc := 6) dX5_grudgesIn_6 gX5_46 (lay_s hT (k := 53) (q := (7, 35)) rfl) (Nat.le_of_ble_eq_true rfl) rfl ?_
    refine A_icmp_ge (pc := 9) 76 dX5_grudgesIn_9 (by decide) (fun cc1 => ?_) (fun cc1 => ?_)
    · have hf := oi_t cc1 hf
      exact hk _ _ _ hf
    have hf := oi_f cc1 hf
    refine A_aloadn (pc := 12) dX5_grudgesIn_12 rfl ?_
    refine A_getR (pc := 13) dX5_grudgesIn_13 gX5_19 (lay_s hT (k := 53) (q := (7, 35)) rfl) (Nat.le_of_ble_eq_true rfl) rfl (lay_r hT 55 rfl) ?_
    refine A_iloadn (pc := 16) dX5_grudgesIn_16 rfl ?_
    obtain ⟨h2, hf⟩ := oi_cf hf
    refine A_iald (pc := 17) dX5_grudgesIn_17 (lay_s hT (k := 57) (q := (0, 5)) rfl) (oob_f h2) ?_
    have hf := oi_l hf
    refine A_istn (pc := 18) (L2 := [.ref 53, .int t1, .int t2, .int (u 57 t2.toNatClampNeg)]) dX5_grudgesIn_18 (Nat.le_of_ble_eq_true rfl) rfl ?_
    refine A_aloadn (pc := 19) dX5_grudgesIn_19 rfl ?_
    refine A_iloadn (pc := 20) dX5_grudgesIn_20 rfl ?_
    refine A_iloadn (pc := 21) dX5_grudgesIn_21 rfl ?_
    refine A_iconst (pc := 22) 0 dX5_grudgesIn_22 rfl ?_
    obtain ⟨q4, h5, hf⟩ := oi_b hf
    refine A_cV3i (mi2 := mX5_doesReach) (pc := 23) dX5_grudgesIn_23 lX5_189 fX5_doesReach vX5_doesReach (lay_s hT (k := 53) (q := (7, 35)) rfl) rfl (Nat.le_of_ble_eq_true rfl) rfl (Nat.le_of_ble_eq_true rfl) (wX5_doesReach (by omega) hT  h5) ?_
    refine A_if_eq (pc := 26) (w := 0) 38 dX5_grudgesIn_26 (by decide) (fun cc6 => ?_) (fun cc6 => ?_)
    · have hf := oi_t cc6 hf
      refine A_bipush (pc := 38) (-9) dX5_grudgesIn_38 rfl ?_
      obtain rfl := Option.some.inj hf
      exact A_iret (pc := 40) dX5_grudgesIn_40 rfl rfl ⟨rfl, rfl, rfl⟩
    have hf := oi_f cc6 hf
    refine A_aloadn (pc := 29) dX5_grudgesIn_29 rfl ?_
    refine A_iloadn (pc := 30) dX5_grudgesIn_30 rfl ?_
    refine A_iloadn (pc := 31) dX5_grudgesIn_31 rfl ?_
    obtain ⟨q7, h8, hf⟩ := oi_b hf
    refine A_cV2i (mi2 := mX5_doesHold) (pc := 32) dX5_grudgesIn_32 lX5_192 fX5_doesHold vX5_doesHold (lay_s hT (k := 53) (q := (7, 35)) rfl) rfl (Nat.le_of_ble_eq_true rfl) rfl (Nat.le_of_ble_eq_true rfl) (wX5_doesHold (by omega) hT  h8) ?_
    refine A_if_ne (pc := 35) (w := 0) 41 dX5_grudgesIn_35 (by decide) (fun cc9 => ?_) (fun cc9 => ?_)
    · have hf := oi_f cc9 hf
      refine A_iloadn (pc := 41) dX5_grudgesIn_41 rfl ?_
      refine A_iloadn (pc := 42) dX5_grudgesIn_42 rfl ?_
      refine A_if_le (pc := 43) (w := 0) 67 dX5_grudgesIn_43 (by decide) (fun cc10 => ?_) (fun cc10 => ?_)
      · have hf := oi_t cc10 hf
        refine A_iconst (pc := 67) 0 dX5_grudgesIn_67 rfl ?_
        refine A_iadd (pc := 68) dX5_grudgesIn_68 ?_
        have hf := oi_l hf
        refine A_istn (pc := 69) (L2 := [.ref 53, .int (t1 + 0), .int t2, .int (u 57 t2.toNatClampNeg)]) dX5_grudgesIn_69 (Nat.le_of_ble_eq_true rfl) rfl ?_
        refine A_inc (pc := 70) (L2 := [.ref 53, .int (t1 + 0), .int (t2 + 1), .int (u 57 t2.toNatClampNeg)]) (t2 + 1) dX5_grudgesIn_70 rfl rfl rfl ?_
        refine A_goto (pc := 73) 4 dX5_grudgesIn_73 (by decide) ?_
        refine A_fgt 3 (L' := [.ref 53, .int (t1 + 0), .int (t2 + 1), .null]) rfl ?_
        exact ih _ _ _ hf
      have hf := oi_f cc10 hf
      refine A_aloadn (pc := 46) dX5_grudgesIn_46 rfl ?_
      refine A_getR (pc := 47) dX5_grudgesIn_47 gX5_40 (lay_s hT (k := 53) (q := (7, 35)) rfl) (Nat.le_of_ble_eq_true rfl) rfl (lay_r hT 62 rfl) ?_
      refine A_bipush (pc := 50) 7 dX5_grudgesIn_50 rfl ?_
      refine A_iloadn (pc := 52) dX5_grudgesIn_52 rfl ?_
      refine A_imul (pc := 53) dX5_grudgesIn_53 ?_
      refine A_aloadn (pc := 54) dX5_grudgesIn_54 rfl ?_
      refine A_getR (pc := 55) dX5_grudgesIn_55 gX5_19 (lay_s hT (k := 53) (q := (7, 35)) rfl) (Nat.le_of_ble_eq_true rfl) rfl (lay_r hT 55 rfl) ?_
      refine A_iloadn (pc := 58) dX5_grudgesIn_58 rfl ?_
      refine A_iconst (pc := 59) 1 dX5_grudgesIn_59 rfl ?_
      refine A_isub (pc := 60) dX5_grudgesIn_60 ?_
      obtain ⟨h12, hf⟩ := oi_cf hf
      refine A_iald (pc := 61) dX5_grudgesIn_61 (lay_s hT (k := 57) (q := (0, 5)) rfl) (oob_f h12) ?_
      refine A_iadd (pc := 62) dX5_grudgesIn_62 ?_
      obtain ⟨h13, hf⟩ := oi_cf hf
      refine A_iald (pc := 63) dX5_grudgesIn_63 (lay_s hT (k := 64) (q := (0, 49)) rfl) (oob_f h13) ?_
      refine A_goto (pc := 64) 68 dX5_grudgesIn_64 (by decide) ?_
      refine A_iadd (pc := 68) dX5_grudgesIn_68 ?_
      have hf := oi_l hf
      refine A_istn (pc := 69) (L2 := [.ref 53, .int (t1 + (u 64 ((7 * (u 57 t2.toNatClampNeg)) + (u 57 (t2 - 1).toNatClampNeg)).toNatClampNeg)), .int t2, .int (u 57 t2.toNatClampNeg)]) dX5_grudgesIn_69 (Nat.le_of_ble_eq_true rfl) rfl ?_
      refine A_inc (pc := 70) (L2 := [.ref 53, .int (t1 + (u 64 ((7 * (u 57 t2.toNatClampNeg)) + (u 57 (t2 - 1).toNatClampNeg)).toNatClampNeg)), .int (t2 + 1), .int (u 57 t2.toNatClampNeg)]) (t2 + 1) dX5_grudgesIn_70 rfl rfl rfl ?_
      refine A_goto (pc := 73) 4 dX5_grudgesIn_73 (by decide) ?_
      refine A_fgt 3 (L' := [.ref 53, .int (t1 + (u 64 ((7 * (u 57 t2.toNatClampNeg)) + (u 57 (t2 - 1).toNatClampNeg)).toNatClampNeg)), .int (t2 + 1), .null]) rfl ?_
      exact ih _ _ _ hf
    have hf := oi_t cc9 hf
    refine A_bipush (pc := 38) (-9) dX5_grudgesIn_38 rfl ?_
    obtain rfl := Option.some.inj hf
    exact A_iret (pc := 40) dX5_grudgesIn_40 rfl rfl ⟨rfl, rfl, rfl⟩
set_option maxHeartbeats 4000000 in
set_option maxRecDepth 100000 in
theorem wX5_grudgesIn {G : GG} {T : TT} {n d : Nat} (hd : 3 ≤ d) {q : Int32} {u : MU} (hT : LAY T) (hf : zX5_grudgesIn n u = some q) : AW G d mX5_grudgesIn 0 [.ref 53, .null, .null, .null] [] T u 0 0 (QS T q u) := by
  obtain ⟨d, rfl⟩ : ∃ e, d = e + 1 := ⟨d - 1, by omega⟩
  rw [zX5_grudgesIn] at hf
  refine A_iconst (pc := 0) 0 dX5_grudgesIn_0 rfl ?_
  refine A_istn (pc := 1) (L2 := [.ref 53, .int 0, .null, .null]) dX5_grudgesIn_1 (Nat.le_of_ble_eq_true rfl) rfl ?_
  refine A_iconst (pc := 2) 0 dX5_grudgesIn_2 rfl ?_
  refine A_istn (pc := 3) (L2 := [.ref 53, .int 0, .int 0, .null]) dX5_grudgesIn_3 (Nat.le_of_ble_eq_true rfl) rfl ?_
  exact wX5_grudgesIn_L4 (by omega) hT  (fun y15 y16 q0 hf => by
    refine A_iloadn (pc := 76) dX5_grudgesIn_76 rfl ?_
    obtain rfl := Option.some.inj hf
    exact A_iret (pc := 77) dX5_grudgesIn_77 rfl rfl ⟨rfl, rfl, rfl⟩) _ _ _ _ hf
def zX5_makeUp_L7 (n : Nat) (k : Int32 → MU → Option (Int32 × MU)) : Nat → Int32 → MU → Option (Int32 × MU)
  | 0, _, _ => none
  | m + 1, t1, u => Option.bind (zX5_nextChain n u) (fun q3 => if q3.1 = 0 then (k t1 q3.2) else (Option.bind (zX5_grudgesIn n q3.2) (fun q6 => if q6 < 0 then (zX5_makeUp_L7 n   k m t1 q3.2) else (if t1 < 0 then (zX5_makeUp_L7 n   k m q6 q3.2) else (if t1 ≤ q6 then (zX5_makeUp_L7 n   k m t1 q3.2) else (zX5_makeUp_L7 n   k m q6 q3.2))))))
def zX5_makeUp (n : Nat) (u : MU) : Option (Int32 × MU) := Option.bind (zX5_putsAway n u) (fun q1 => zX5_makeUp_L7 n   (fun y11 w12 => Option.bind (zX5_putsBack n w12) (fun q13 => some (y11, q13))) n (-9) q1)
set_option maxHeartbeats 4000000 in
set_option maxRecDepth 100000 in
theorem wX5_makeUp_L7 {G : GG} {T : TT} {n d : Nat} (hd : 4 ≤ d) {k : Int32 → MU → Option (Int32 × MU)} (hT : LAY T) (hk : ∀ (t1 : Int32) (u : MU) (q : Int32 × MU), k t1 u = some q → AW G d mX5_makeUp 37 [.ref 53, .int t1, .null] [] T u 0 0 (QS T q.1 q.2)) : ∀ (m : Nat) (t1 : Int32) (u : MU) (q : Int32 × MU), zX5_makeUp_L7 n  k m t1 u = some q → AW G d mX5_makeUp 7 [.ref 53, .int t1, .null] [] T u 0 0 (QS T q.1 q.2) := by
  intro m
  obtain ⟨d, rfl⟩ : ∃ e, d = e + 1 := ⟨d - 1, by omega⟩
  induction m with
  | zero =>
    intro t1 u q hf
    have h0 : (none : Option (Int32 × MU)) = some q := hf
    cases h0
  | succ m ih =>
    intro t1 u q hf
    rw [zX5_makeUp_L7] at hf
    refine A_aloadn (pc := 7) dX5_makeUp_7 rfl ?_
    obtain ⟨q3, h4, hf⟩ := oi_b hf
    refine A_cV0i (mi2 := mX5_nextChain) (pc := 8) dX5_makeUp_8 lX5_222 fX5_nextChain vX5_nextChain (lay_s hT (k := 53) (q := (7, 35)) rfl) rfl (Nat.le_of_ble_eq_true rfl) rfl (Nat.le_of_ble_eq_true rfl) (wX5_nextChain (by omega) hT  h4) ?_
    refine A_if_eq (pc := 11) (w := 0) 37 dX5_makeUp_11 (by decide) (fun cc5 => ?_) (fun cc5 => ?_)
    · have hf := oi_t cc5 hf
      exact hk _ _ _ hf
    have hf := oi_f cc5 hf
    refine A_aloadn (pc := 14) dX5_makeUp_14 rfl ?_
    obtain ⟨q6, h7, hf⟩ := oi_b hf
    refine A_cV0i (mi2 := mX5_grudgesIn) (pc := 15) dX5_makeUp_15 lX5_234 fX5_grudgesIn vX5_grudgesIn (lay_s hT (k := 53) (q := (7, 35)) rfl) rfl (Nat.le_of_ble_eq_true rfl) rfl (Nat.le_of_ble_eq_true rfl) (wX5_grudgesIn (by omega) hT  h7) ?_
    refine A_istn (pc := 18) (L2 := [.ref 53, .int t1, .int q6]) dX5_makeUp_18 (Nat.le_of_ble_eq_true rfl) rfl ?_
    refine A_iloadn (pc := 19) dX5_makeUp_19 rfl ?_
    refine A_if_lt (pc := 20) (w := 0) 34 dX5_makeUp_20 (by decide) (fun cc8 => ?_) (fun cc8 => ?_)
    · have hf := oi_t cc8 hf
      refine A_goto (pc := 34) 7 dX5_makeUp_34 (by decide) ?_
      refine A_fgt 2 (L' := [.ref 53, .int t1, .null]) rfl ?_
      exact ih _ _ _ hf
    have hf := oi_f cc8 hf
    refine A_iloadn (pc := 23) dX5_makeUp_23 rfl ?_
    refine A_if_lt (pc := 24) (w := 0) 32 dX5_makeUp_24 (by decide) (fun cc9 => ?_) (fun cc9 => ?_)
    · have hf := oi_t cc9 hf
      refine A_iloadn (pc := 32) dX5_makeUp_32 rfl ?_
      refine A_istn (pc := 33) (L2 := [.ref 53, .int q6, .int q6]) dX5_makeUp_33 (Nat.le_of_ble_eq_true rfl) rfl ?_
      refine A_goto (pc := 34) 7 dX5_makeUp_34 (by decide) ?_
      refine A_fgt 2 (L' := [.ref 53, .int q6, .null]) rfl ?_
      exact ih _ _ _ hf
    have hf := oi_f cc9 hf
    refine A_iloadn (pc := 27) dX5_makeUp_27 rfl ?_
    refine A_iloadn (pc := 28) dX5_makeUp_28 rfl ?_
    refine A_icmp_ge (pc := 29) 34 dX5_makeUp_29 (by decide) (fun cc10 => ?_) (fun cc10 => ?_)
    · have hf := oi_t cc10 hf
      refine A_goto (pc := 34) 7 dX5_makeUp_34 (by decide) ?_
      refine A_fgt 2 (L' := [.ref 53, .int t1, .null]) rfl ?_
      exact ih _ _ _ hf
    have hf := oi_f cc10 hf
    refine A_iloadn (pc := 32) dX5_makeUp_32 rfl ?_
    refine A_istn (pc := 33) (L2 := [.ref 53, .int q6, .int q6]) dX5_makeUp_33 (Nat.le_of_ble_eq_true rfl) rfl ?_
    refine A_goto (pc := 34) 7 dX5_makeUp_34 (by decide) ?_
    refine A_fgt 2 (L' := [.ref 53, .int q6, .null]) rfl ?_
    exact ih _ _ _ hf
set_option maxHeartbeats 4000000 in
set_option maxRecDepth 100000 in
theorem wX5_makeUp {G : GG} {T : TT} {n d : Nat} (hd : 4 ≤ d) {q : Int32 × MU} {u : MU} (hT : LAY T) (hf : zX5_makeUp n u = some q) : AW G d mX5_makeUp 0 [.ref 53, .null, .null] [] T u 0 0 (QS T q.1 q.2) := by
  obtain ⟨d, rfl⟩ : ∃ e, d = e + 1 := ⟨d - 1, by omega⟩
  rw [zX5_makeUp] at hf
  refine A_aloadn (pc := 0) dX5_makeUp_0 rfl ?_
  obtain ⟨q1, h2, hf⟩ := oi_b hf
  refine A_cV0v (mi2 := mX5_putsAway) (pc := 1) dX5_makeUp_1 lX5_219 fX5_putsAway vX5_putsAway (lay_s hT (k := 53) (q := (7, 35)) rfl) rfl (Nat.le_of_ble_eq_true rfl) rfl (Nat.le_of_ble_eq_true rfl) (wX5_putsAway (by omega) hT  h2) ?_
  refine A_bipush (pc := 4) (-9) dX5_makeUp_4 rfl ?_
  refine A_istn (pc := 6) (L2 := [.ref 53, .int (-9), .null]) dX5_makeUp_6 (Nat.le_of_ble_eq_true rfl) rfl ?_
  exact wX5_makeUp_L7 (by omega) hT  (fun y11 w12 q0 hf => by
    refine A_aloadn (pc := 37) dX5_makeUp_37 rfl ?_
    obtain ⟨q13, h14, hf⟩ := oi_b hf
    refine A_cV0v (mi2 := mX5_putsBack) (pc := 38) dX5_makeUp_38 lX5_225 fX5_putsBack vX5_putsBack (lay_s hT (k := 53) (q := (7, 35)) rfl) rfl (Nat.le_of_ble_eq_true rfl) rfl (Nat.le_of_ble_eq_true rfl) (wX5_putsBack (by omega) hT  h14) ?_
    refine A_iloadn (pc := 41) dX5_makeUp_41 rfl ?_
    obtain rfl := Option.some.inj hf
    exact A_iret (pc := 42) dX5_makeUp_42 rfl rfl ⟨rfl, rfl, rfl⟩) _ _ _ _ hf
def zX5_longestOrNothing (n : Nat) (u : MU) : Option (Int32 × MU) := Option.bind (zX5_findLongest n u) (fun q1 => if 0 ≤ (q1 53 32) then (some ((q1 53 32), q1)) else (some (0, q1)))
set_option maxHeartbeats 4000000 in
set_option maxRecDepth 100000 in
theorem wX5_longestOrNothing {G : GG} {T : TT} {n d : Nat} (hd : 7 ≤ d) {q : Int32 × MU} {u : MU} (hT : LAY T) (hf : zX5_longestOrNothing n u = some q) : AW G d mX5_longestOrNothing 0 [.ref 53] [] T u 0 0 (QS T q.1 q.2) := by
  obtain ⟨d, rfl⟩ : ∃ e, d = e + 1 := ⟨d - 1, by omega⟩
  rw [zX5_longestOrNothing] at hf
  refine A_aloadn (pc := 0) dX5_longestOrNothing_0 rfl ?_
  obtain ⟨q1, h2, hf⟩ := oi_b hf
  refine A_cV0v (mi2 := mX5_findLongest) (pc := 1) dX5_longestOrNothing_1 lX5_231 fX5_findLongest vX5_findLongest (lay_s hT (k := 53) (q := (7, 35)) rfl) rfl (Nat.le_of_ble_eq_true rfl) rfl (Nat.le_of_ble_eq_true rfl) (wX5_findLongest (by omega) hT  h2) ?_
  refine A_aloadn (pc := 4) dX5_longestOrNothing_4 rfl ?_
  refine A_getI (pc := 5) dX5_longestOrNothing_5 gX5_228 (lay_s hT (k := 53) (q := (7, 35)) rfl) (Nat.le_of_ble_eq_true rfl) rfl ?_
  refine A_if_ge (pc := 8) (w := 0) 15 dX5_longestOrNothing_8 (by decide) (fun cc3 => ?_) (fun cc3 => ?_)
  · have hf := oi_t cc3 hf
    refine A_aloadn (pc := 15) dX5_longestOrNothing_15 rfl ?_
    refine A_getI (pc := 16) dX5_longestOrNothing_16 gX5_228 (lay_s hT (k := 53) (q := (7, 35)) rfl) (Nat.le_of_ble_eq_true rfl) rfl ?_
    obtain rfl := Option.some.inj hf
    exact A_iret (pc := 19) dX5_longestOrNothing_19 rfl rfl ⟨rfl, rfl, rfl⟩
  have hf := oi_f cc3 hf
  refine A_iconst (pc := 11) 0 dX5_longestOrNothing_11 rfl ?_
  refine A_goto (pc := 12) 19 dX5_longestOrNothing_12 (by decide) ?_
  obtain rfl := Option.some.inj hf
  exact A_iret (pc := 19) dX5_longestOrNothing_19 rfl rfl ⟨rfl, rfl, rfl⟩
def zX5_worth (n : Nat) (u : MU) (a1 : Int32) (a2 : Int32) : Option (Int32 × MU) := Option.bind (zX5_areTwo n u a1 a2) (fun q1 => if q1 = 0 then (Option.bind (zX5_no n u (-1)) (fun q22 => some (q22.1, q22.2))) else (if oob ((7 * a1) + a2) 49 then none else if (u 64 ((7 * a1) + a2).toNatClampNeg) = 0 then (Option.bind (zX5_no n u (-3)) (fun q20 => some (q20.1, q20.2))) else (Option.bind (zX5_longestOrNothing n u) (fun q6 => letb q6.1 (fun x8 => if oob ((7 * a1) + a2) 49 then none else letb (up2 q6.2 64 ((7 * a1) + a2).toNatClampNeg 0) (fun u10 => if oob ((7 * a2) + a1) 49 then none else letb (up2 u10 64 ((7 * a2) + a1).toNatClampNeg 0) (fun u12 => Option.bind (zX5_longestOrNothing n u12) (fun q13 => letb q13.1 (fun x15 => if oob ((7 * a1) + a2) 49 then none else letb (up2 q13.2 64 ((7 * a1) + a2).toNatClampNeg 1) (fun u17 => if oob ((7 * a2) + a1) 49 then none else letb (up2 u17 64 ((7 * a2) + a1).toNatClampNeg 1) (fun u19 => some ((x15 - x8), u19))))))))))))
set_option maxHeartbeats 4000000 in
set_option maxRecDepth 100000 in
theorem wX5_worth {G : GG} {T : TT} {n d : Nat} (hd : 8 ≤ d) {q : Int32 × MU} {u : MU} {a1 : Int32} {a2 : Int32} (hT : LAY T) (hf : zX5_worth n u a1 a2 = some q) : AW G d mX5_worth 0 [.ref 53, .int a1, .int a2, .null, .null] [] T u 0 0 (QS T q.1 q.2) := by
  obtain ⟨d, rfl⟩ : ∃ e, d = e + 1 := ⟨d - 1, by omega⟩
  rw [zX5_worth] at hf
  refine A_aloadn (pc := 0) dX5_worth_0 rfl ?_
  refine A_iloadn (pc := 1) dX5_worth_1 rfl ?_
  refine A_iloadn (pc := 2) dX5_worth_2 rfl ?_
  obtain ⟨q1, h2, hf⟩ := oi_b hf
  refine A_cV2i (mi2 := mX5_areTwo) (pc := 3) dX5_worth_3 lX5_129 fX5_areTwo vX5_areTwo (lay_s hT (k := 53) (q := (7, 35)) rfl) rfl (Nat.le_of_ble_eq_true rfl) rfl (Nat.le_of_ble_eq_true rfl) (wX5_areTwo (by omega) hT  h2) ?_
  refine A_if_ne (pc := 6) (w := 0) 15 dX5_worth_6 (by decide) (fun cc3 => ?_) (fun cc3 => ?_)
  · have hf := oi_f cc3 hf
    refine A_aloadn (pc := 15) dX5_worth_15 rfl ?_
    refine A_getR (pc := 16) dX5_worth_16 gX5_40 (lay_s hT (k := 53) (q := (7, 35)) rfl) (Nat.le_of_ble_eq_true rfl) rfl (lay_r hT 62 rfl) ?_
    refine A_bipush (pc := 19) 7 dX5_worth_19 rfl ?_
    refine A_iloadn (pc := 21) dX5_worth_21 rfl ?_
    refine A_imul (pc := 22) dX5_worth_22 ?_
    refine A_iloadn (pc := 23) dX5_worth_23 rfl ?_
    refine A_iadd (pc := 24) dX5_worth_24 ?_
    obtain ⟨h4, hf⟩ := oi_cf hf
    refine A_iald (pc := 25) dX5_worth_25 (lay_s hT (k := 64) (q := (0, 49)) rfl) (oob_f h4) ?_
    refine A_if_ne (pc := 26) (w := 0) 36 dX5_worth_26 (by decide) (fun cc5 => ?_) (fun cc5 => ?_)
    · have hf := oi_f cc5 hf
      refine A_aloadn (pc := 36) dX5_worth_36 rfl ?_
      obtain ⟨q6, h7, hf⟩ := oi_b hf
      refine A_cV0i (mi2 := mX5_longestOrNothing) (pc := 37) dX5_worth_37 lX5_237 fX5_longestOrNothing vX5_longestOrNothing (lay_s hT (k := 53) (q := (7, 35)) rfl) rfl (Nat.le_of_ble_eq_true rfl) rfl (Nat.le_of_ble_eq_true rfl) (wX5_longestOrNothing (by omega) hT  h7) ?_
      have hf := oi_l hf
      refine A_istn (pc := 40) (L2 := [.ref 53, .int a1, .int a2, .int q6.1, .null]) dX5_worth_40 (Nat.le_of_ble_eq_true rfl) rfl ?_
      refine A_aloadn (pc := 41) dX5_worth_41 rfl ?_
      refine A_getR (pc := 42) dX5_worth_42 gX5_40 (lay_s hT (k := 53) (q := (7, 35)) rfl) (Nat.le_of_ble_eq_true rfl) rfl (lay_r hT 62 rfl) ?_
      refine A_bipush (pc := 45) 7 dX5_worth_45 rfl ?_
      refine A_iloadn (pc := 47) dX5_worth_47 rfl ?_
      refine A_imul (pc := 48) dX5_worth_48 ?_
      refine A_iloadn (pc := 49) dX5_worth_49 rfl ?_
      refine A_iadd (pc := 50) dX5_worth_50 ?_
      refine A_iconst (pc := 51) 0 dX5_worth_51 rfl ?_
      obtain ⟨h9, hf⟩ := oi_cf hf
      have hf := oi_l hf
      refine A_iast (pc := 52) dX5_worth_52 (lay_s hT (k := 64) (q := (0, 49)) rfl) (oob_f h9) ?_
      refine A_aloadn (pc := 53) dX5_worth_53 rfl ?_
      refine A_getR (pc := 54) dX5_worth_54 gX5_40 (lay_s hT (k := 53) (q := (7, 35)) rfl) (Nat.le_of_ble_eq_true rfl) rfl (lay_r hT 62 rfl) ?_
      refine A_bipush (pc := 57) 7 dX5_worth_57 rfl ?_
      refine A_iloadn (pc := 59) dX5_worth_59 rfl ?_
      refine A_imul (pc := 60) dX5_worth_60 ?_
      refine A_iloadn (pc := 61) dX5_worth_61 rfl ?_
      refine A_iadd (pc := 62) dX5_worth_62 ?_
      refine A_iconst (pc := 63) 0 dX5_worth_63 rfl ?_
      obtain ⟨h11, hf⟩ := oi_cf hf
      have hf := oi_l hf
      refine A_iast (pc := 64) dX5_worth_64 (lay_s hT (k := 64) (q := (0, 49)) rfl) (oob_f h11) ?_
      refine A_aloadn (pc := 65) dX5_worth_65 rfl ?_
      obtain ⟨q13, h14, hf⟩ := oi_b hf
      refine A_cV0i (mi2 := mX5_longestOrNothing) (pc := 66) dX5_worth_66 lX5_237 fX5_longestOrNothing vX5_longestOrNothing (lay_s hT (k := 53) (q := (7, 35)) rfl) rfl (Nat.le_of_ble_eq_true rfl) rfl (Nat.le_of_ble_eq_true rfl) (wX5_longestOrNothing (by omega) hT  h14) ?_
      have hf := oi_l hf
      refine A_ist (pc := 69) (L2 := [.ref 53, .int a1, .int a2, .int q6.1, .int q13.1]) dX5_worth_69 (Nat.le_of_ble_eq_true rfl) rfl ?_
      refine A_aloadn (pc := 71) dX5_worth_71 rfl ?_
      refine A_getR (pc := 72) dX5_worth_72 gX5_40 (lay_s hT (k := 53) (q := (7, 35)) rfl) (Nat.le_of_ble_eq_true rfl) rfl (lay_r hT 62 rfl) ?_
      refine A_bipush (pc := 75) 7 dX5_worth_75 rfl ?_
      refine A_iloadn (pc := 77) dX5_worth_77 rfl ?_
      refine A_imul (pc := 78) dX5_worth_78 ?_
      refine A_iloadn (pc := 79) dX5_worth_79 rfl ?_
      refine A_iadd (pc := 80) dX5_worth_80 ?_
      refine A_iconst (pc := 81) 1 dX5_worth_81 rfl ?_
      obtain ⟨h16, hf⟩ := oi_cf hf
      have hf := oi_l hf
      refine A_iast (pc := 82) dX5_worth_82 (lay_s hT (k := 64) (q := (0, 49)) rfl) (oob_f h16) ?_
      refine A_aloadn (pc := 83) dX5_worth_83 rfl ?_
      refine A_getR (pc := 84) dX5_worth_84 gX5_40 (lay_s hT (k := 53) (q := (7, 35)) rfl) (Nat.le_of_ble_eq_true rfl) rfl (lay_r hT 62 rfl) ?_
      refine A_bipush (pc := 87) 7 dX5_worth_87 rfl ?_
      refine A_iloadn (pc := 89) dX5_worth_89 rfl ?_
      refine A_imul (pc := 90) dX5_worth_90 ?_
      refine A_iloadn (pc := 91) dX5_worth_91 rfl ?_
      refine A_iadd (pc := 92) dX5_worth_92 ?_
      refine A_iconst (pc := 93) 1 dX5_worth_93 rfl ?_
      obtain ⟨h18, hf⟩ := oi_cf hf
      have hf := oi_l hf
      refine A_iast (pc := 94) dX5_worth_94 (lay_s hT (k := 64) (q := (0, 49)) rfl) (oob_f h18) ?_
      refine A_iload (pc := 95) dX5_worth_95 rfl ?_
      refine A_iloadn (pc := 97) dX5_worth_97 rfl ?_
      refine A_isub (pc := 98) dX5_worth_98 ?_
      obtain rfl := Option.some.inj hf
      exact A_iret (pc := 99) dX5_worth_99 rfl rfl ⟨rfl, rfl, rfl⟩
    have hf := oi_t cc5 hf
    refine A_aloadn (pc := 29) dX5_worth_29 rfl ?_
    refine A_bipush (pc := 30) (-3) dX5_worth_30 rfl ?_
    obtain ⟨q20, h21, hf⟩ := oi_b hf
    refine A_cV1i (mi2 := mX5_no) (pc := 32) dX5_worth_32 lX5_92 fX5_no vX5_no (lay_s hT (k := 53) (q := (7, 35)) rfl) rfl (Nat.le_of_ble_eq_true rfl) rfl (Nat.le_of_ble_eq_true rfl) (wX5_no (by omega) hT  h21) ?_
    obtain rfl := Option.some.inj hf
    exact A_iret (pc := 35) dX5_worth_35 rfl rfl ⟨rfl, rfl, rfl⟩
  have hf := oi_t cc3 hf
  refine A_aloadn (pc := 9) dX5_worth_9 rfl ?_
  refine A_iconst (pc := 10) (-1) dX5_worth_10 rfl ?_
  obtain ⟨q22, h23, hf⟩ := oi_b hf
  refine A_cV1i (mi2 := mX5_no) (pc := 11) dX5_worth_11 lX5_92 fX5_no vX5_no (lay_s hT (k := 53) (q := (7, 35)) rfl) rfl (Nat.le_of_ble_eq_true rfl) rfl (Nat.le_of_ble_eq_true rfl) (wX5_no (by omega) hT  h23) ?_
  obtain rfl := Option.some.inj hf
  exact A_iret (pc := 14) dX5_worth_14 rfl rfl ⟨rfl, rfl, rfl⟩
def zX5_change_L40 (n : Nat) (s3 : Int32) (s4 : Int32) (k : Int32 → Int32 → Int32 → MU → Option (Int32 × MU)) : Nat → Int32 → Int32 → Int32 → MU → Option (Int32 × MU)
  | 0, _, _, _, _ => none
  | m + 1, t1, t2, t5, u => if (u 53 13) ≤ t5 then (k t1 t2 t5 u) else (if s4 < 0 then (k t1 t2 t5 u) else (if oob s3 5 then none else letb (up2 u 57 s3.toNatClampNeg s4) (fun u10 => Option.bind (zX5_yardOf n u10 t5) (fun q11 => if q11 = (-9) then (if oob s3 5 then none else letb (up2 u10 57 s3.toNatClampNeg t5) (fun u15 => Option.bind (zX5_doesStand n u15) (fun q16 => if q16.1 = 0 then (zX5_change_L40 n  s3 s4 k m t1 t2 (t5 + 1) q16.2) else (Option.bind (zX5_lastsNow n q16.2) (fun q19 => if t1 < q19 then (Option.bind (zX5_lastsNow n q16.2) (fun q22 => letb ((10 * s3) + t5) (fun x24 => zX5_change_L40 n  s3 s4 k m q22 x24 (t5 + 1) q16.2))) else (zX5_change_L40 n  s3 s4 k m t1 t2 (t5 + 1) q16.2)))))) else (zX5_change_L40 n  s3 s4 k m t1 t2 (t5 + 1) u10)))))
def zX5_change_L21 (n : Nat) (k : Int32 → Int32 → Int32 → MU → Option (Int32 × MU)) : Nat → Int32 → Int32 → Int32 → MU → Option (Int32 × MU)
  | 0, _, _, _, _ => none
  | m + 1, t1, t2, t3, u => if (u 53 12) ≤ t3 then (k t1 t2 t3 u) else (if oob t3 5 then none else letb (u 57 t3.toNatClampNeg) (fun x6 => zX5_change_L40 n  t3 x6 (fun y25 y26 y27 w28 => if oob t3 5 then none else letb (up2 w28 57 t3.toNatClampNeg x6) (fun u30 => zX5_change_L21 n   k m y25 y26 (t3 + 1) u30)) n t1 t2 0 u))
def zX5_change (n : Nat) (u : MU) : Option (Int32 × MU) := Option.bind (zX5_doesStand n u) (fun q1 => if q1.1 = 0 then (zX5_change_L21 n   (fun y31 y32 y33 w34 => some (y32, w34)) n 0 (-9) 0 q1.2) else (Option.bind (zX5_lastsNow n q1.2) (fun q35 => zX5_change_L21 n   (fun y37 y38 y39 w40 => some (y38, w40)) n q35 (-9) 0 q1.2)))
set_option maxHeartbeats 4000000 in
set_option maxRecDepth 100000 in
theorem wX5_change_L40 {G : GG} {T : TT} {n d : Nat} (hd : 6 ≤ d) {s3 : Int32} {s4 : Int32} {k : Int32 → Int32 → Int32 → MU → Option (Int32 × MU)} (hT : LAY T) (hk : ∀ (t1 : Int32) (t2 : Int32) (t5 : Int32) (u : MU) (q : Int32 × MU), k t1 t2 t5 u = some q → AW G d mX5_change 121 [.ref 53, .int t1, .int t2, .int s3, .int s4, .int t5] [] T u 0 0 (QS T q.1 q.2)) : ∀ (m : Nat) (t1 : Int32) (t2 : Int32) (t5 : Int32) (u : MU) (q : Int32 × MU), zX5_change_L40 n  s3 s4 k m t1 t2 t5 u = some q → AW G d mX5_change 40 [.ref 53, .int t1, .int t2, .int s3, .int s4, .int t5] [] T u 0 0 (QS T q.1 q.2) := by
  intro m
  obtain ⟨d, rfl⟩ : ∃ e, d = e + 1 := ⟨d - 1, by omega⟩
  induction m with
  | zero =>
    intro t1 t2 t5 u q hf
    have h0 : (none : Option (Int32 × MU)) = some q := hf
    cases h0
  | succ m ih =>
    intro t1 t2 t5 u q hf
    rw [zX5_change_L40] at hf
    refine A_iload (pc := 40) dX5_change_40 rfl ?_
    refine A_aloadn (pc := 42) dX5_change_42 rfl ?_
    refine A_getI (pc := 43) dX5_change_43 gX5_78 (lay_s hT (k := 53) (q := (7, 35)) rfl) (Nat.le_of_ble_eq_true rfl) rfl ?_
    refine A_icmp_ge (pc := 46) 121 dX5_change_46 (by decide) (fun cc7 => ?_) (fun cc7 => ?_)
    · have hf := oi_t cc7 hf
      exact hk _ _ _ _ _ hf
    have hf := oi_f cc7 hf
    refine A_iload (pc := 49) dX5_change_49 rfl ?_
    refine A_if_lt (pc := 51) (w := 0) 121 dX5_change_51 (by decide) (fun cc8 => ?_) (fun cc8 => ?_)
    · have hf := oi_t cc8 hf
      exact hk _ _ _ _ _ hf
    have hf := oi_f cc8 hf
    refine A_aloadn (pc := 54) dX5_change_54 rfl ?_
    refine A_getR (pc := 55) dX5_change_55 gX5_19 (lay_s hT (k := 53) (q := (7, 35)) rfl) (Nat.le_of_ble_eq_true rfl) rfl (lay_r hT 55 rfl) ?_
    refine A_iloadn (pc := 58) dX5_change_58 rfl ?_
    refine A_iload (pc := 59) dX5_change_59 rfl ?_
    obtain ⟨h9, hf⟩ := oi_cf hf
    have hf := oi_l hf
    refine A_iast (pc := 61) dX5_change_61 (lay_s hT (k := 57) (q := (0, 5)) rfl) (oob_f h9) ?_
    refine A_aloadn (pc := 62) dX5_change_62 rfl ?_
    refine A_iload (pc := 63) dX5_change_63 rfl ?_
    obtain ⟨q11, h12, hf⟩ := oi_b hf
    refine A_cV1i (mi2 := mX5_yardOf) (pc := 65) dX5_change_65 lX5_117 fX5_yardOf vX5_yardOf (lay_s hT (k := 53) (q := (7, 35)) rfl) rfl (Nat.le_of_ble_eq_true rfl) rfl (Nat.le_of_ble_eq_true rfl) (wX5_yardOf (by omega) hT  h12) ?_
    refine A_bipush (pc := 68) (-9) dX5_change_68 rfl ?_
    refine A_icmp_eq (pc := 70) 76 dX5_change_70 (by decide) (fun cc13 => ?_) (fun cc13 => ?_)
    · have hf := oi_t cc13 hf
      refine A_aloadn (pc := 76) dX5_change_76 rfl ?_
      refine A_getR (pc := 77) dX5_change_77 gX5_19 (lay_s hT (k := 53) (q := (7, 35)) rfl) (Nat.le_of_ble_eq_true rfl) rfl (lay_r hT 55 rfl) ?_
      refine A_iloadn (pc := 80) dX5_change_80 rfl ?_
      refine A_iload (pc := 81) dX5_change_81 rfl ?_
      obtain ⟨h14, hf⟩ := oi_cf hf
      have hf := oi_l hf
      refine A_iast (pc := 83) dX5_change_83 (lay_s hT (k := 57) (q := (0, 5)) rfl) (oob_f h14) ?_
      refine A_aloadn (pc := 84) dX5_change_84 rfl ?_
      obtain ⟨q16, h17, hf⟩ := oi_b hf
      refine A_cV0i (mi2 := mX5_doesStand) (pc := 85) dX5_change_85 lX5_207 fX5_doesStand vX5_doesStand (lay_s hT (k := 53) (q := (7, 35)) rfl) rfl (Nat.le_of_ble_eq_true rfl) rfl (Nat.le_of_ble_eq_true rfl) (wX5_doesStand (by omega) hT  h17) ?_
      refine A_if_eq (pc := 88) (w := 0) 115 dX5_change_88 (by decide) (fun cc18 => ?_) (fun cc18 => ?_)
      · have hf := oi_t cc18 hf
        refine A_inc (pc := 115) (L2 := [.ref 53, .int t1, .int t2, .int s3, .int s4, .int (t5 + 1)]) (t5 + 1) dX5_change_115 rfl rfl rfl ?_
        refine A_goto (pc := 118) 40 dX5_change_118 (by decide) ?_
        exact ih _ _ _ _ _ hf
      have hf := oi_f cc18 hf
      refine A_aloadn (pc := 91) dX5_change_91 rfl ?_
      obtain ⟨q19, h20, hf⟩ := oi_b hf
      refine A_cV0i (mi2 := mX5_lastsNow) (pc := 92) dX5_change_92 lX5_210 fX5_lastsNow vX5_lastsNow (lay_s hT (k := 53) (q := (7, 35)) rfl) rfl (Nat.le_of_ble_eq_true rfl) rfl (Nat.le_of_ble_eq_true rfl) (wX5_lastsNow (by omega) hT  h20) ?_
      refine A_iloadn (pc := 95) dX5_change_95 rfl ?_
      refine A_icmp_gt (pc := 96) 102 dX5_change_96 (by decide) (fun cc21 => ?_) (fun cc21 => ?_)
      · have hf := oi_t cc21 hf
        refine A_aloadn (pc := 102) dX5_change_102 rfl ?_
        obtain ⟨q22, h23, hf⟩ := oi_b hf
        refine A_cV0i (mi2 := mX5_lastsNow) (pc := 103) dX5_change_103 lX5_210 fX5_lastsNow vX5_lastsNow (lay_s hT (k := 53) (q := (7, 35)) rfl) rfl (Nat.le_of_ble_eq_true rfl) rfl (Nat.le_of_ble_eq_true rfl) (wX5_lastsNow (by omega) hT  h23) ?_
        refine A_istn (pc := 106) (L2 := [.ref 53, .int q22, .int t2, .int s3, .int s4, .int t5]) dX5_change_106 (Nat.le_of_ble_eq_true rfl) rfl ?_
        refine A_bipush (pc := 107) 10 dX5_change_107 rfl ?_
        refine A_iloadn (pc := 109) dX5_change_109 rfl ?_
        refine A_imul (pc := 110) dX5_change_110 ?_
        refine A_iload (pc := 111) dX5_change_111 rfl ?_
        refine A_iadd (pc := 113) dX5_change_113 ?_
        have hf := oi_l hf
        refine A_istn (pc := 114) (L2 := [.ref 53, .int q22, .int ((10 * s3) + t5), .int s3, .int s4, .int t5]) dX5_change_114 (Nat.le_of_ble_eq_true rfl) rfl ?_
        refine A_inc (pc := 115) (L2 := [.ref 53, .int q22, .int ((10 * s3) + t5), .int s3, .int s4, .int (t5 + 1)]) (t5 + 1) dX5_change_115 rfl rfl rfl ?_
        refine A_goto (pc := 118) 40 dX5_change_118 (by decide) ?_
        exact ih _ _ _ _ _ hf
      have hf := oi_f cc21 hf
      refine A_goto (pc := 99) 115 dX5_change_99 (by decide) ?_
      refine A_inc (pc := 115) (L2 := [.ref 53, .int t1, .int t2, .int s3, .int s4, .int (t5 + 1)]) (t5 + 1) dX5_change_115 rfl rfl rfl ?_
      refine A_goto (pc := 118) 40 dX5_change_118 (by decide) ?_
      exact ih _ _ _ _ _ hf
    have hf := oi_f cc13 hf
    refine A_goto (pc := 73) 115 dX5_change_73 (by decide) ?_
    refine A_inc (pc := 115) (L2 := [.ref 53, .int t1, .int t2, .int s3, .int s4, .int (t5 + 1)]) (t5 + 1) dX5_change_115 rfl rfl rfl ?_
    refine A_goto (pc := 118) 40 dX5_change_118 (by decide) ?_
    exact ih _ _ _ _ _ hf
set_option maxHeartbeats 4000000 in
set_option maxRecDepth 100000 in
theorem wX5_change_L21 {G : GG} {T : TT} {n d : Nat} (hd : 6 ≤ d) {k : Int32 → Int32 → Int32 → MU → Option (Int32 × MU)} (hT : LAY T) (hk : ∀ (t1 : Int32) (t2 : Int32) (t3 : Int32) (u : MU) (q : Int32 × MU), k t1 t2 t3 u = some q → AW G d mX5_change 135 [.ref 53, .int t1, .int t2, .int t3, .null, .null] [] T u 0 0 (QS T q.1 q.2)) : ∀ (m : Nat) (t1 : Int32) (t2 : Int32) (t3 : Int32) (u : MU) (q : Int32 × MU), zX5_change_L21 n  k m t1 t2 t3 u = some q → AW G d mX5_change 21 [.ref 53, .int t1, .int t2, .int t3, .null, .null] [] T u 0 0 (QS T q.1 q.2) := by
  intro m
  obtain ⟨d, rfl⟩ : ∃ e, d = e + 1 := ⟨d - 1, by omega⟩
  induction m with
  | zero =>
    intro t1 t2 t3 u q hf
    have h0 : (none : Option (Int32 × MU)) = some q := hf
    cases h0
  | succ m ih =>
    intro t1 t2 t3 u q hf
    rw [zX5_change_L21] at hf
    refine A_iloadn (pc := 21) dX5_change_21 rfl ?_
    refine A_aloadn (pc := 22) dX5_change_22 rfl ?_
    refine A_getI (pc := 23) dX5_change_23 gX5_46 (lay_s hT (k := 53) (q := (7, 35)) rfl) (Nat.le_of_ble_eq_true rfl) rfl ?_
    refine A_icmp_ge (pc := 26) 135 dX5_change_26 (by decide) (fun cc4 => ?_) (fun cc4 => ?_)
    · have hf := oi_t cc4 hf
      exact hk _ _ _ _ _ hf
    have hf := oi_f cc4 hf
    refine A_aloadn (pc := 29) dX5_change_29 rfl ?_
    refine A_getR (pc := 30) dX5_change_30 gX5_19 (lay_s hT (k := 53) (q := (7, 35)) rfl) (Nat.le_of_ble_eq_true rfl) rfl (lay_r hT 55 rfl) ?_
    refine A_iloadn (pc := 33) dX5_change_33 rfl ?_
    obtain ⟨h5, hf⟩ := oi_cf hf
    refine A_iald (pc := 34) dX5_change_34 (lay_s hT (k := 57) (q := (0, 5)) rfl) (oob_f h5) ?_
    have hf := oi_l hf
    refine A_ist (pc := 35) (L2 := [.ref 53, .int t1, .int t2, .int t3, .int (u 57 t3.toNatClampNeg), .null]) dX5_change_35 (Nat.le_of_ble_eq_true rfl) rfl ?_
    refine A_iconst (pc := 37) 0 dX5_change_37 rfl ?_
    refine A_ist (pc := 38) (L2 := [.ref 53, .int t1, .int t2, .int t3, .int (u 57 t3.toNatClampNeg), .int 0]) dX5_change_38 (Nat.le_of_ble_eq_true rfl) rfl ?_
    exact wX5_change_L40 (by omega) hT  (fun y25 y26 y27 w28 q0 hf => by
      refine A_aloadn (pc := 121) dX5_change_121 rfl ?_
      refine A_getR (pc := 122) dX5_change_122 gX5_19 (lay_s hT (k := 53) (q := (7, 35)) rfl) (Nat.le_of_ble_eq_true rfl) rfl (lay_r hT 55 rfl) ?_
      refine A_iloadn (pc := 125) dX5_change_125 rfl ?_
      refine A_iload (pc := 126) dX5_change_126 rfl ?_
      obtain ⟨h29, hf⟩ := oi_cf hf
      have hf := oi_l hf
      refine A_iast (pc := 128) dX5_change_128 (lay_s hT (k := 57) (q := (0, 5)) rfl) (oob_f h29) ?_
      refine A_inc (pc := 129) (L2 := [.ref 53, .int y25, .int y26, .int (t3 + 1), .int (u 57 t3.toNatClampNeg), .int y27]) (t3 + 1) dX5_change_129 rfl rfl rfl ?_
      refine A_goto (pc := 132) 21 dX5_change_132 (by decide) ?_
      refine A_fgt 4 (L' := [.ref 53, .int y25, .int y26, .int (t3 + 1), .null, .int y27]) rfl ?_
      refine A_fgt 5 (L' := [.ref 53, .int y25, .int y26, .int (t3 + 1), .null, .null]) rfl ?_
      exact ih _ _ _ _ _ hf) _ _ _ _ _ _ hf
set_option maxHeartbeats 4000000 in
set_option maxRecDepth 100000 in
theorem wX5_change {G : GG} {T : TT} {n d : Nat} (hd : 6 ≤ d) {q : Int32 × MU} {u : MU} (hT : LAY T) (hf : zX5_change n u = some q) : AW G d mX5_change 0 [.ref 53, .null, .null, .null, .null, .null] [] T u 0 0 (QS T q.1 q.2) := by
  obtain ⟨d, rfl⟩ : ∃ e, d = e + 1 := ⟨d - 1, by omega⟩
  rw [zX5_change] at hf
  refine A_aloadn (pc := 0) dX5_change_0 rfl ?_
  obtain ⟨q1, h2, hf⟩ := oi_b hf
  refine A_cV0i (mi2 := mX5_doesStand) (pc := 1) dX5_change_1 lX5_207 fX5_doesStand vX5_doesStand (lay_s hT (k := 53) (q := (7, 35)) rfl) rfl (Nat.le_of_ble_eq_true rfl) rfl (Nat.le_of_ble_eq_true rfl) (wX5_doesStand (by omega) hT  h2) ?_
  refine A_if_eq (pc := 4) (w := 0) 14 dX5_change_4 (by decide) (fun cc3 => ?_) (fun cc3 => ?_)
  · have hf := oi_t cc3 hf
    refine A_iconst (pc := 14) 0 dX5_change_14 rfl ?_
    refine A_istn (pc := 15) (L2 := [.ref 53, .int 0, .null, .null, .null, .null]) dX5_change_15 (Nat.le_of_ble_eq_true rfl) rfl ?_
    refine A_bipush (pc := 16) (-9) dX5_change_16 rfl ?_
    refine A_istn (pc := 18) (L2 := [.ref 53, .int 0, .int (-9), .null, .null, .null]) dX5_change_18 (Nat.le_of_ble_eq_true rfl) rfl ?_
    refine A_iconst (pc := 19) 0 dX5_change_19 rfl ?_
    refine A_istn (pc := 20) (L2 := [.ref 53, .int 0, .int (-9), .int 0, .null, .null]) dX5_change_20 (Nat.le_of_ble_eq_true rfl) rfl ?_
    exact wX5_change_L21 (by omega) hT  (fun y31 y32 y33 w34 q0 hf => by
      refine A_iloadn (pc := 135) dX5_change_135 rfl ?_
      obtain rfl := Option.some.inj hf
      exact A_iret (pc := 136) dX5_change_136 rfl rfl ⟨rfl, rfl, rfl⟩) _ _ _ _ _ _ hf
  have hf := oi_f cc3 hf
  refine A_aloadn (pc := 7) dX5_change_7 rfl ?_
  obtain ⟨q35, h36, hf⟩ := oi_b hf
  refine A_cV0i (mi2 := mX5_lastsNow) (pc := 8) dX5_change_8 lX5_210 fX5_lastsNow vX5_lastsNow (lay_s hT (k := 53) (q := (7, 35)) rfl) rfl (Nat.le_of_ble_eq_true rfl) rfl (Nat.le_of_ble_eq_true rfl) (wX5_lastsNow (by omega) hT  h36) ?_
  refine A_goto (pc := 11) 15 dX5_change_11 (by decide) ?_
  refine A_istn (pc := 15) (L2 := [.ref 53, .int q35, .null, .null, .null, .null]) dX5_change_15 (Nat.le_of_ble_eq_true rfl) rfl ?_
  refine A_bipush (pc := 16) (-9) dX5_change_16 rfl ?_
  refine A_istn (pc := 18) (L2 := [.ref 53, .int q35, .int (-9), .null, .null, .null]) dX5_change_18 (Nat.le_of_ble_eq_true rfl) rfl ?_
  refine A_iconst (pc := 19) 0 dX5_change_19 rfl ?_
  refine A_istn (pc := 20) (L2 := [.ref 53, .int q35, .int (-9), .int 0, .null, .null]) dX5_change_20 (Nat.le_of_ble_eq_true rfl) rfl ?_
  exact wX5_change_L21 (by omega) hT  (fun y37 y38 y39 w40 q0 hf => by
    refine A_iloadn (pc := 135) dX5_change_135 rfl ?_
    obtain rfl := Option.some.inj hf
    exact A_iret (pc := 136) dX5_change_136 rfl rfl ⟨rfl, rfl, rfl⟩) _ _ _ _ _ _ hf
def zX5_flood_L26 (n : Nat) (u : MU) (s1 : Int32) (k : Int32 → Int32 → Option (Int32 × MU)) : Nat → Int32 → Int32 → Option (Int32 × MU)
  | 0, _, _ => none
  | m + 1, t2, t3 => if (u 53 12) ≤ t3 then (k t2 t3) else (if t2 = 0 then (zX5_flood_L26 n u  s1 k m 0 (t3 + 1)) else (if oob t3 5 then none else Option.bind (zX5_doesReach n u t3 (u 57 t3.toNatClampNeg) s1) (fun q9 => if q9 = 0 then (zX5_flood_L26 n u  s1 k m 0 (t3 + 1)) else (zX5_flood_L26 n u  s1 k m 1 (t3 + 1)))))
def zX5_flood_L14 (n : Nat) (u : MU) (k : Int32 → Int32 → Option (Int32 × MU)) : Nat → Int32 → Int32 → Option (Int32 × MU)
  | 0, _, _ => none
  | m + 1, t1, t2 => if t2 = 0 then (k t1 t2) else (if 10 ≤ t1 then (k t1 t2) else (zX5_flood_L26 n u  t1 (fun y12 y13 => zX5_flood_L14 n u   k m (t1 + 1) y12) n t2 0))
def zX5_flood (n : Nat) (u : MU) : Option (Int32 × MU) := Option.bind (zX5_doesStand n u) (fun q1 => if q1.1 = 0 then (some ((-9), q1.2)) else (zX5_flood_L14 n q1.2   (fun y14 y15 => if y15 = 0 then (some ((y14 - 2), q1.2)) else (some (9, q1.2))) n 0 1))
set_option maxHeartbeats 4000000 in
set_option maxRecDepth 100000 in
theorem wX5_flood_L26 {G : GG} {T : TT} {n d : Nat} (hd : 6 ≤ d) {u : MU} {s1 : Int32} {k : Int32 → Int32 → Option (Int32 × MU)} (hT : LAY T) (hk : ∀ (t2 : Int32) (t3 : Int32) (q : Int32 × MU), k t2 t3 = some q → AW G d mX5_flood 65 [.ref 53, .int s1, .int t2, .int t3] [] T u 0 0 (QS T q.1 q.2)) : ∀ (m : Nat) (t2 : Int32) (t3 : Int32) (q : Int32 × MU), zX5_flood_L26 n u  s1 k m t2 t3 = some q → AW G d mX5_flood 26 [.ref 53, .int s1, .int t2, .int t3] [] T u 0 0 (QS T q.1 q.2) := by
  intro m
  obtain ⟨d, rfl⟩ : ∃ e, d = e + 1 := ⟨d - 1, by omega⟩
  induction m with
  | zero =>
    intro t2 t3 q hf
    have h0 : (none : Option (Int32 × MU)) = some q := hf
    cases h0
  | succ m ih =>
    intro t2 t3 q hf
    rw [zX5_flood_L26] at hf
    refine A_iloadn (pc := 26) dX5_flood_26 rfl ?_
    refine A_aloadn (pc := 27) dX5_flood_27 rfl ?_
    refine A_getI (pc := 28) dX5_flood_28 gX5_46 (lay_s hT (k := 53) (q := (7, 35)) rfl) (Nat.le_of_ble_eq_true rfl) rfl ?_
    refine A_icmp_ge (pc := 31) 65 dX5_flood_31 (by decide) (fun cc6 => ?_) (fun cc6 => ?_)
    · have hf := oi_t cc6 hf
      exact hk _ _ _ hf
    have hf := oi_f cc6 hf
    refine A_iloadn (pc := 34) dX5_flood_34 rfl ?_
    refine A_if_eq (pc := 35) (w := 0) 57 dX5_flood_35 (by decide) (fun cc7 => ?_) (fun cc7 => ?_)
    · have hf := oi_t cc7 hf
      refine A_iconst (pc := 57) 0 dX5_flood_57 rfl ?_
      refine A_istn (pc := 58) (L2 := [.ref 53, .int s1, .int 0, .int t3]) dX5_flood_58 (Nat.le_of_ble_eq_true rfl) rfl ?_
      refine A_inc (pc := 59) (L2 := [.ref 53, .int s1, .int 0, .int (t3 + 1)]) (t3 + 1) dX5_flood_59 rfl rfl rfl ?_
      refine A_goto (pc := 62) 26 dX5_flood_62 (by decide) ?_
      exact ih _ _ _ hf
    have hf := oi_f cc7 hf
    refine A_aloadn (pc := 38) dX5_flood_38 rfl ?_
    refine A_iloadn (pc := 39) dX5_flood_39 rfl ?_
    refine A_aloadn (pc := 40) dX5_flood_40 rfl ?_
    refine A_getR (pc := 41) dX5_flood_41 gX5_19 (lay_s hT (k := 53) (q := (7, 35)) rfl) (Nat.le_of_ble_eq_true rfl) rfl (lay_r hT 55 rfl) ?_
    refine A_iloadn (pc := 44) dX5_flood_44 rfl ?_
    obtain ⟨h8, hf⟩ := oi_cf hf
    refine A_iald (pc := 45) dX5_flood_45 (lay_s hT (k := 57) (q := (0, 5)) rfl) (oob_f h8) ?_
    refine A_iloadn (pc := 46) dX5_flood_46 rfl ?_
    obtain ⟨q9, h10, hf⟩ := oi_b hf
    refine A_cV3i (mi2 := mX5_doesReach) (pc := 47) dX5_flood_47 lX5_189 fX5_doesReach vX5_doesReach (lay_s hT (k := 53) (q := (7, 35)) rfl) rfl (Nat.le_of_ble_eq_true rfl) rfl (Nat.le_of_ble_eq_true rfl) (wX5_doesReach (by omega) hT  h10) ?_
    refine A_if_eq (pc := 50) (w := 0) 57 dX5_flood_50 (by decide) (fun cc11 => ?_) (fun cc11 => ?_)
    · have hf := oi_t cc11 hf
      refine A_iconst (pc := 57) 0 dX5_flood_57 rfl ?_
      refine A_istn (pc := 58) (L2 := [.ref 53, .int s1, .int 0, .int t3]) dX5_flood_58 (Nat.le_of_ble_eq_true rfl) rfl ?_
      refine A_inc (pc := 59) (L2 := [.ref 53, .int s1, .int 0, .int (t3 + 1)]) (t3 + 1) dX5_flood_59 rfl rfl rfl ?_
      refine A_goto (pc := 62) 26 dX5_flood_62 (by decide) ?_
      exact ih _ _ _ hf
    have hf := oi_f cc11 hf
    refine A_iconst (pc := 53) 1 dX5_flood_53 rfl ?_
    refine A_goto (pc := 54) 58 dX5_flood_54 (by decide) ?_
    refine A_istn (pc := 58) (L2 := [.ref 53, .int s1, .int 1, .int t3]) dX5_flood_58 (Nat.le_of_ble_eq_true rfl) rfl ?_
    refine A_inc (pc := 59) (L2 := [.ref 53, .int s1, .int 1, .int (t3 + 1)]) (t3 + 1) dX5_flood_59 rfl rfl rfl ?_
    refine A_goto (pc := 62) 26 dX5_flood_62 (by decide) ?_
    exact ih _ _ _ hf
set_option maxHeartbeats 4000000 in
set_option maxRecDepth 100000 in
theorem wX5_flood_L14 {G : GG} {T : TT} {n d : Nat} (hd : 6 ≤ d) {u : MU} {k : Int32 → Int32 → Option (Int32 × MU)} (hT : LAY T) (hk : ∀ (t1 : Int32) (t2 : Int32) (q : Int32 × MU), k t1 t2 = some q → AW G d mX5_flood 71 [.ref 53, .int t1, .int t2, .null] [] T u 0 0 (QS T q.1 q.2)) : ∀ (m : Nat) (t1 : Int32) (t2 : Int32) (q : Int32 × MU), zX5_flood_L14 n u  k m t1 t2 = some q → AW G d mX5_flood 14 [.ref 53, .int t1, .int t2, .null] [] T u 0 0 (QS T q.1 q.2) := by
  intro m
  obtain ⟨d, rfl⟩ : ∃ e, d = e + 1 := ⟨d - 1, by omega⟩
  induction m with
  | zero =>
    intro t1 t2 q hf
    have h0 : (none : Option (Int32 × MU)) = some q := hf
    cases h0
  | succ m ih =>
    intro t1 t2 q hf
    rw [zX5_flood_L14] at hf
    refine A_iloadn (pc := 14) dX5_flood_14 rfl ?_
    refine A_if_eq (pc := 15) (w := 0) 71 dX5_flood_15 (by decide) (fun cc4 => ?_) (fun cc4 => ?_)
    · have hf := oi_t cc4 hf
      exact hk _ _ _ hf
    have hf := oi_f cc4 hf
    refine A_iloadn (pc := 18) dX5_flood_18 rfl ?_
    refine A_bipush (pc := 19) 10 dX5_flood_19 rfl ?_
    refine A_icmp_ge (pc := 21) 71 dX5_flood_21 (by decide) (fun cc5 => ?_) (fun cc5 => ?_)
    · have hf := oi_t cc5 hf
      exact hk _ _ _ hf
    have hf := oi_f cc5 hf
    refine A_iconst (pc := 24) 0 dX5_flood_24 rfl ?_
    refine A_istn (pc := 25) (L2 := [.ref 53, .int t1, .int t2, .int 0]) dX5_flood_25 (Nat.le_of_ble_eq_true rfl) rfl ?_
    exact wX5_flood_L26 (by omega) hT  (fun y12 y13 q0 hf => by
      refine A_inc (pc := 65) (L2 := [.ref 53, .int (t1 + 1), .int y12, .int y13]) (t1 + 1) dX5_flood_65 rfl rfl rfl ?_
      refine A_goto (pc := 68) 14 dX5_flood_68 (by decide) ?_
      refine A_fgt 3 (L' := [.ref 53, .int (t1 + 1), .int y12, .null]) rfl ?_
      exact ih _ _ _ hf) _ _ _ _ hf
set_option maxHeartbeats 4000000 in
set_option maxRecDepth 100000 in
theorem wX5_flood {G : GG} {T : TT} {n d : Nat} (hd : 6 ≤ d) {q : Int32 × MU} {u : MU} (hT : LAY T) (hf : zX5_flood n u = some q) : AW G d mX5_flood 0 [.ref 53, .null, .null, .null] [] T u 0 0 (QS T q.1 q.2) := by
  obtain ⟨d, rfl⟩ : ∃ e, d = e + 1 := ⟨d - 1, by omega⟩
  rw [zX5_flood] at hf
  refine A_aloadn (pc := 0) dX5_flood_0 rfl ?_
  obtain ⟨q1, h2, hf⟩ := oi_b hf
  refine A_cV0i (mi2 := mX5_doesStand) (pc := 1) dX5_flood_1 lX5_207 fX5_doesStand vX5_doesStand (lay_s hT (k := 53) (q := (7, 35)) rfl) rfl (Nat.le_of_ble_eq_true rfl) rfl (Nat.le_of_ble_eq_true rfl) (wX5_doesStand (by omega) hT  h2) ?_
  refine A_if_ne (pc := 4) (w := 0) 10 dX5_flood_4 (by decide) (fun cc3 => ?_) (fun cc3 => ?_)
  · have hf := oi_f cc3 hf
    refine A_iconst (pc := 10) 0 dX5_flood_10 rfl ?_
    refine A_istn (pc := 11) (L2 := [.ref 53, .int 0, .null, .null]) dX5_flood_11 (Nat.le_of_ble_eq_true rfl) rfl ?_
    refine A_iconst (pc := 12) 1 dX5_flood_12 rfl ?_
    refine A_istn (pc := 13) (L2 := [.ref 53, .int 0, .int 1, .null]) dX5_flood_13 (Nat.le_of_ble_eq_true rfl) rfl ?_
    exact wX5_flood_L14 (by omega) hT  (fun y14 y15 q0 hf => by
      refine A_iloadn (pc := 71) dX5_flood_71 rfl ?_
      refine A_if_eq (pc := 72) (w := 0) 80 dX5_flood_72 (by decide) (fun cc16 => ?_) (fun cc16 => ?_)
      · have hf := oi_t cc16 hf
        refine A_iloadn (pc := 80) dX5_flood_80 rfl ?_
        refine A_iconst (pc := 81) 2 dX5_flood_81 rfl ?_
        refine A_isub (pc := 82) dX5_flood_82 ?_
        obtain rfl := Option.some.inj hf
        exact A_iret (pc := 83) dX5_flood_83 rfl rfl ⟨rfl, rfl, rfl⟩
      have hf := oi_f cc16 hf
      refine A_bipush (pc := 75) 9 dX5_flood_75 rfl ?_
      refine A_goto (pc := 77) 83 dX5_flood_77 (by decide) ?_
      obtain rfl := Option.some.inj hf
      exact A_iret (pc := 83) dX5_flood_83 rfl rfl ⟨rfl, rfl, rfl⟩) _ _ _ _ hf
  have hf := oi_t cc3 hf
  refine A_bipush (pc := 7) (-9) dX5_flood_7 rfl ?_
  obtain rfl := Option.some.inj hf
  exact A_iret (pc := 9) dX5_flood_9 rfl rfl ⟨rfl, rfl, rfl⟩
