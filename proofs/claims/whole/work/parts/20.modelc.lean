def zX5_quarrel (n : Nat) (u : MU) (a1 : Int32) (a2 : Int32) (a3 : Int32) : Option (Int32 × MU) := Option.bind (zX5_areTwo n u a1 a2) (fun q1 => if q1 = 0 then (Option.bind (zX5_no n u (-1)) (fun q15 => some (q15.1, q15.2))) else (Option.bind (zX5_isIn n u a3 0 1) (fun q4 => if q4 = 0 then (Option.bind (zX5_no n u (-2)) (fun q13 => some (q13.1, q13.2))) else (if oob ((7 * a1) + a2) 49 then none else letb (u 64 ((7 * a1) + a2).toNatClampNeg) (fun x8 => if oob ((7 * a1) + a2) 49 then none else letb (up2 u 64 ((7 * a1) + a2).toNatClampNeg a3) (fun u10 => if oob ((7 * a2) + a1) 49 then none else letb (up2 u10 64 ((7 * a2) + a1).toNatClampNeg a3) (fun u12 => some (x8, u12))))))))
set_option maxHeartbeats 4000000 in
set_option maxRecDepth 100000 in
theorem wX5_quarrel {G : GG} {T : TT} {n d : Nat} (hd : 2 ≤ d) {q : Int32 × MU} {u : MU} {a1 : Int32} {a2 : Int32} {a3 : Int32} (hT : LAY T) (hf : zX5_quarrel n u a1 a2 a3 = some q) : AW G d mX5_quarrel 0 [.ref 53, .int a1, .int a2, .int a3, .null] [] T u 0 0 (QS T q.1 q.2) := by
  obtain ⟨d, rfl⟩ : ∃ e, d = e + 1 := ⟨d - 1, by omega⟩
  rw [zX5_quarrel] at hf
  refine A_aloadn (pc := 0) dX5_quarrel_0 rfl ?_
  refine A_iloadn (pc := 1) dX5_quarrel_1 rfl ?_
  refine A_iloadn (pc := 2) dX5_quarrel_2 rfl ?_
  obtain ⟨q1, h2, hf⟩ := oi_b hf
  refine A_cV2i (mi2 := mX5_areTwo) (pc := 3) dX5_quarrel_3 lX5_129 fX5_areTwo vX5_areTwo (lay_s hT (k := 53) (q := (7, 35)) rfl) rfl (Nat.le_of_ble_eq_true rfl) rfl (Nat.le_of_ble_eq_true rfl) (wX5_areTwo (by omega) hT  h2) ?_
  refine A_if_ne (pc := 6) (w := 0) 15 dX5_quarrel_6 (by decide) (fun cc3 => ?_) (fun cc3 => ?_)
  · have hf := oi_f cc3 hf
    refine A_iloadn (pc := 15) dX5_quarrel_15 rfl ?_
    refine A_iconst (pc := 16) 0 dX5_quarrel_16 rfl ?_
    refine A_iconst (pc := 17) 1 dX5_quarrel_17 rfl ?_
    obtain ⟨q4, h5, hf⟩ := oi_b hf
    refine A_cS3i (mi2 := mX5_isIn) (pc := 18) dX5_quarrel_18 lX5_103 fX5_isIn sX5_isIn (Nat.le_of_ble_eq_true rfl) rfl (Nat.le_of_ble_eq_true rfl) (wX5_isIn (by omega) hT  h5) ?_
    refine A_if_ne (pc := 21) (w := 0) 31 dX5_quarrel_21 (by decide) (fun cc6 => ?_) (fun cc6 => ?_)
    · have hf := oi_f cc6 hf
      refine A_aloadn (pc := 31) dX5_quarrel_31 rfl ?_
      refine A_getR (pc := 32) dX5_quarrel_32 gX5_40 (lay_s hT (k := 53) (q := (7, 35)) rfl) (Nat.le_of_ble_eq_true rfl) rfl (lay_r hT 62 rfl) ?_
      refine A_bipush (pc := 35) 7 dX5_quarrel_35 rfl ?_
      refine A_iloadn (pc := 37) dX5_quarrel_37 rfl ?_
      refine A_imul (pc := 38) dX5_quarrel_38 ?_
      refine A_iloadn (pc := 39) dX5_quarrel_39 rfl ?_
      refine A_iadd (pc := 40) dX5_quarrel_40 ?_
      obtain ⟨h7, hf⟩ := oi_cf hf
      refine A_iald (pc := 41) dX5_quarrel_41 (lay_s hT (k := 64) (q := (0, 49)) rfl) (oob_f h7) ?_
      have hf := oi_l hf
      refine A_ist (pc := 42) (L2 := [.ref 53, .int a1, .int a2, .int a3, .int (u 64 ((7 * a1) + a2).toNatClampNeg)]) dX5_quarrel_42 (Nat.le_of_ble_eq_true rfl) rfl ?_
      refine A_aloadn (pc := 44) dX5_quarrel_44 rfl ?_
      refine A_getR (pc := 45) dX5_quarrel_45 gX5_40 (lay_s hT (k := 53) (q := (7, 35)) rfl) (Nat.le_of_ble_eq_true rfl) rfl (lay_r hT 62 rfl) ?_
      refine A_bipush (pc := 48) 7 dX5_quarrel_48 rfl ?_
      refine A_iloadn (pc := 50) dX5_quarrel_50 rfl ?_
      refine A_imul (pc := 51) dX5_quarrel_51 ?_
      refine A_iloadn (pc := 52) dX5_quarrel_52 rfl ?_
      refine A_iadd (pc := 53) dX5_quarrel_53 ?_
      refine A_iloadn (pc := 54) dX5_quarrel_54 rfl ?_
      obtain ⟨h9, hf⟩ := oi_cf hf
      have hf := oi_l hf
      refine A_iast (pc := 55) dX5_quarrel_55 (lay_s hT (k := 64) (q := (0, 49)) rfl) (oob_f h9) ?_
      refine A_aloadn (pc := 56) dX5_quarrel_56 rfl ?_
      refine A_getR (pc := 57) dX5_quarrel_57 gX5_40 (lay_s hT (k := 53) (q := (7, 35)) rfl) (Nat.le_of_ble_eq_true rfl) rfl (lay_r hT 62 rfl) ?_
      refine A_bipush (pc := 60) 7 dX5_quarrel_60 rfl ?_
      refine A_iloadn (pc := 62) dX5_quarrel_62 rfl ?_
      refine A_imul (pc := 63) dX5_quarrel_63 ?_
      refine A_iloadn (pc := 64) dX5_quarrel_64 rfl ?_
      refine A_iadd (pc := 65) dX5_quarrel_65 ?_
      refine A_iloadn (pc := 66) dX5_quarrel_66 rfl ?_
      obtain ⟨h11, hf⟩ := oi_cf hf
      have hf := oi_l hf
      refine A_iast (pc := 67) dX5_quarrel_67 (lay_s hT (k := 64) (q := (0, 49)) rfl) (oob_f h11) ?_
      refine A_iload (pc := 68) dX5_quarrel_68 rfl ?_
      obtain rfl := Option.some.inj hf
      exact A_iret (pc := 70) dX5_quarrel_70 rfl rfl ⟨rfl, rfl, rfl⟩
    have hf := oi_t cc6 hf
    refine A_aloadn (pc := 24) dX5_quarrel_24 rfl ?_
    refine A_bipush (pc := 25) (-2) dX5_quarrel_25 rfl ?_
    obtain ⟨q13, h14, hf⟩ := oi_b hf
    refine A_cV1i (mi2 := mX5_no) (pc := 27) dX5_quarrel_27 lX5_92 fX5_no vX5_no (lay_s hT (k := 53) (q := (7, 35)) rfl) rfl (Nat.le_of_ble_eq_true rfl) rfl (Nat.le_of_ble_eq_true rfl) (wX5_no (by omega) hT  h14) ?_
    obtain rfl := Option.some.inj hf
    exact A_iret (pc := 30) dX5_quarrel_30 rfl rfl ⟨rfl, rfl, rfl⟩
  have hf := oi_t cc3 hf
  refine A_aloadn (pc := 9) dX5_quarrel_9 rfl ?_
  refine A_iconst (pc := 10) (-1) dX5_quarrel_10 rfl ?_
  obtain ⟨q15, h16, hf⟩ := oi_b hf
  refine A_cV1i (mi2 := mX5_no) (pc := 11) dX5_quarrel_11 lX5_92 fX5_no vX5_no (lay_s hT (k := 53) (q := (7, 35)) rfl) rfl (Nat.le_of_ble_eq_true rfl) rfl (Nat.le_of_ble_eq_true rfl) (wX5_no (by omega) hT  h16) ?_
  obtain rfl := Option.some.inj hf
  exact A_iret (pc := 14) dX5_quarrel_14 rfl rfl ⟨rfl, rfl, rfl⟩
def zX5_cold (n : Nat) (u : MU) (a1 : Int32) : Option (Int32 × MU) := Option.bind (zX5_bound n u a1 0 9) (fun q1 => if q1 = 0 then (letb (u 53 14) (fun x4 => letb (up2 u 53 14 a1) (fun u5 => some (x4, u5)))) else (Option.bind (zX5_no n u q1) (fun q6 => some (q6.1, q6.2))))
set_option maxHeartbeats 4000000 in
set_option maxRecDepth 100000 in
theorem wX5_cold {G : GG} {T : TT} {n d : Nat} (hd : 1 ≤ d) {q : Int32 × MU} {u : MU} {a1 : Int32} (hT : LAY T) (hf : zX5_cold n u a1 = some q) : AW G d mX5_cold 0 [.ref 53, .int a1, .null, .null] [] T u 0 0 (QS T q.1 q.2) := by
  obtain ⟨d, rfl⟩ : ∃ e, d = e + 1 := ⟨d - 1, by omega⟩
  rw [zX5_cold] at hf
  refine A_iloadn (pc := 0) dX5_cold_0 rfl ?_
  refine A_iconst (pc := 1) 0 dX5_cold_1 rfl ?_
  refine A_bipush (pc := 2) 9 dX5_cold_2 rfl ?_
  obtain ⟨q1, h2, hf⟩ := oi_b hf
  refine A_cS3i (mi2 := mX5_bound) (pc := 4) dX5_cold_4 lX5_85 fX5_bound sX5_bound (Nat.le_of_ble_eq_true rfl) rfl (Nat.le_of_ble_eq_true rfl) (wX5_bound (by omega) hT  h2) ?_
  refine A_istn (pc := 7) (L2 := [.ref 53, .int a1, .int q1, .null]) dX5_cold_7 (Nat.le_of_ble_eq_true rfl) rfl ?_
  refine A_iloadn (pc := 8) dX5_cold_8 rfl ?_
  refine A_if_eq (pc := 9) (w := 0) 18 dX5_cold_9 (by decide) (fun cc3 => ?_) (fun cc3 => ?_)
  · have hf := oi_t cc3 hf
    refine A_aloadn (pc := 18) dX5_cold_18 rfl ?_
    refine A_getI (pc := 19) dX5_cold_19 gX5_50 (lay_s hT (k := 53) (q := (7, 35)) rfl) (Nat.le_of_ble_eq_true rfl) rfl ?_
    have hf := oi_l hf
    refine A_istn (pc := 22) (L2 := [.ref 53, .int a1, .int q1, .int (u 53 14)]) dX5_cold_22 (Nat.le_of_ble_eq_true rfl) rfl ?_
    refine A_aloadn (pc := 23) dX5_cold_23 rfl ?_
    refine A_iloadn (pc := 24) dX5_cold_24 rfl ?_
    have hf := oi_l hf
    refine A_putI (pc := 25) dX5_cold_25 gX5_50 (lay_s hT (k := 53) (q := (7, 35)) rfl) (Nat.le_of_ble_eq_true rfl) rfl rfl rfl rfl ?_
    refine A_iloadn (pc := 28) dX5_cold_28 rfl ?_
    obtain rfl := Option.some.inj hf
    exact A_iret (pc := 29) dX5_cold_29 rfl rfl ⟨rfl, rfl, rfl⟩
  have hf := oi_f cc3 hf
  refine A_aloadn (pc := 12) dX5_cold_12 rfl ?_
  refine A_iloadn (pc := 13) dX5_cold_13 rfl ?_
  obtain ⟨q6, h7, hf⟩ := oi_b hf
  refine A_cV1i (mi2 := mX5_no) (pc := 14) dX5_cold_14 lX5_92 fX5_no vX5_no (lay_s hT (k := 53) (q := (7, 35)) rfl) rfl (Nat.le_of_ble_eq_true rfl) rfl (Nat.le_of_ble_eq_true rfl) (wX5_no (by omega) hT  h7) ?_
  obtain rfl := Option.some.inj hf
  exact A_iret (pc := 17) dX5_cold_17 rfl rfl ⟨rfl, rfl, rfl⟩
def zX5_put (n : Nat) (u : MU) (a1 : Int32) (a2 : Int32) : Option (Int32 × MU) := Option.bind (zX5_isYard n u a1) (fun q1 => if q1 = 0 then (Option.bind (zX5_no n u (-1)) (fun q4 => some (q4.1, q4.2))) else (Option.bind (zX5_isOne n u a2) (fun q6 => if q6 = 0 then (Option.bind (zX5_no n u (-1)) (fun q17 => some (q17.1, q17.2))) else (if oob a2 7 then none else if (u 63 a2.toNatClampNeg) = 1 then (Option.bind (zX5_no n u (-3)) (fun q15 => some (q15.1, q15.2))) else (if oob a1 5 then none else letb (u 57 a1.toNatClampNeg) (fun x12 => Option.bind (zX5_sets n u a1 a2) (fun q13 => some (x12, q13))))))))
set_option maxHeartbeats 4000000 in
set_option maxRecDepth 100000 in
theorem wX5_put {G : GG} {T : TT} {n d : Nat} (hd : 2 ≤ d) {q : Int32 × MU} {u : MU} {a1 : Int32} {a2 : Int32} (hT : LAY T) (hf : zX5_put n u a1 a2 = some q) : AW G d mX5_put 0 [.ref 53, .int a1, .int a2, .null] [] T u 0 0 (QS T q.1 q.2) := by
  obtain ⟨d, rfl⟩ : ∃ e, d = e + 1 := ⟨d - 1, by omega⟩
  rw [zX5_put] at hf
  refine A_aloadn (pc := 0) dX5_put_0 rfl ?_
  refine A_iloadn (pc := 1) dX5_put_1 rfl ?_
  obtain ⟨q1, h2, hf⟩ := oi_b hf
  refine A_cV1i (mi2 := mX5_isYard) (pc := 2) dX5_put_2 lX5_123 fX5_isYard vX5_isYard (lay_s hT (k := 53) (q := (7, 35)) rfl) rfl (Nat.le_of_ble_eq_true rfl) rfl (Nat.le_of_ble_eq_true rfl) (wX5_isYard (by omega) hT  h2) ?_
  refine A_if_eq (pc := 5) (w := 0) 16 dX5_put_5 (by decide) (fun cc3 => ?_) (fun cc3 => ?_)
  · have hf := oi_t cc3 hf
    refine A_aloadn (pc := 16) dX5_put_16 rfl ?_
    refine A_iconst (pc := 17) (-1) dX5_put_17 rfl ?_
    obtain ⟨q4, h5, hf⟩ := oi_b hf
    refine A_cV1i (mi2 := mX5_no) (pc := 18) dX5_put_18 lX5_92 fX5_no vX5_no (lay_s hT (k := 53) (q := (7, 35)) rfl) rfl (Nat.le_of_ble_eq_true rfl) rfl (Nat.le_of_ble_eq_true rfl) (wX5_no (by omega) hT  h5) ?_
    obtain rfl := Option.some.inj hf
    exact A_iret (pc := 21) dX5_put_21 rfl rfl ⟨rfl, rfl, rfl⟩
  have hf := oi_f cc3 hf
  refine A_aloadn (pc := 8) dX5_put_8 rfl ?_
  refine A_iloadn (pc := 9) dX5_put_9 rfl ?_
  obtain ⟨q6, h7, hf⟩ := oi_b hf
  refine A_cV1i (mi2 := mX5_isOne) (pc := 10) dX5_put_10 lX5_81 fX5_isOne vX5_isOne (lay_s hT (k := 53) (q := (7, 35)) rfl) rfl (Nat.le_of_ble_eq_true rfl) rfl (Nat.le_of_ble_eq_true rfl) (wX5_isOne (by omega) hT  h7) ?_
  refine A_if_ne (pc := 13) (w := 0) 22 dX5_put_13 (by decide) (fun cc8 => ?_) (fun cc8 => ?_)
  · have hf := oi_f cc8 hf
    refine A_aloadn (pc := 22) dX5_put_22 rfl ?_
    refine A_getR (pc := 23) dX5_put_23 gX5_37 (lay_s hT (k := 53) (q := (7, 35)) rfl) (Nat.le_of_ble_eq_true rfl) rfl (lay_r hT 61 rfl) ?_
    refine A_iloadn (pc := 26) dX5_put_26 rfl ?_
    obtain ⟨h9, hf⟩ := oi_cf hf
    refine A_iald (pc := 27) dX5_put_27 (lay_s hT (k := 63) (q := (0, 7)) rfl) (oob_f h9) ?_
    refine A_iconst (pc := 28) 1 dX5_put_28 rfl ?_
    refine A_icmp_ne (pc := 29) 39 dX5_put_29 (by decide) (fun cc10 => ?_) (fun cc10 => ?_)
    · have hf := oi_f cc10 hf
      refine A_aloadn (pc := 39) dX5_put_39 rfl ?_
      refine A_getR (pc := 40) dX5_put_40 gX5_19 (lay_s hT (k := 53) (q := (7, 35)) rfl) (Nat.le_of_ble_eq_true rfl) rfl (lay_r hT 55 rfl) ?_
      refine A_iloadn (pc := 43) dX5_put_43 rfl ?_
      obtain ⟨h11, hf⟩ := oi_cf hf
      refine A_iald (pc := 44) dX5_put_44 (lay_s hT (k := 57) (q := (0, 5)) rfl) (oob_f h11) ?_
      have hf := oi_l hf
      refine A_istn (pc := 45) (L2 := [.ref 53, .int a1, .int a2, .int (u 57 a1.toNatClampNeg)]) dX5_put_45 (Nat.le_of_ble_eq_true rfl) rfl ?_
      refine A_aloadn (pc := 46) dX5_put_46 rfl ?_
      refine A_iloadn (pc := 47) dX5_put_47 rfl ?_
      refine A_iloadn (pc := 48) dX5_put_48 rfl ?_
      obtain ⟨q13, h14, hf⟩ := oi_b hf
      refine A_cV2v (mi2 := mX5_sets) (pc := 49) dX5_put_49 lX5_132 fX5_sets vX5_sets (lay_s hT (k := 53) (q := (7, 35)) rfl) rfl (Nat.le_of_ble_eq_true rfl) rfl (Nat.le_of_ble_eq_true rfl) (wX5_sets (by omega) hT  h14) ?_
      refine A_iloadn (pc := 52) dX5_put_52 rfl ?_
      obtain rfl := Option.some.inj hf
      exact A_iret (pc := 53) dX5_put_53 rfl rfl ⟨rfl, rfl, rfl⟩
    have hf := oi_t cc10 hf
    refine A_aloadn (pc := 32) dX5_put_32 rfl ?_
    refine A_bipush (pc := 33) (-3) dX5_put_33 rfl ?_
    obtain ⟨q15, h16, hf⟩ := oi_b hf
    refine A_cV1i (mi2 := mX5_no) (pc := 35) dX5_put_35 lX5_92 fX5_no vX5_no (lay_s hT (k := 53) (q := (7, 35)) rfl) rfl (Nat.le_of_ble_eq_true rfl) rfl (Nat.le_of_ble_eq_true rfl) (wX5_no (by omega) hT  h16) ?_
    obtain rfl := Option.some.inj hf
    exact A_iret (pc := 38) dX5_put_38 rfl rfl ⟨rfl, rfl, rfl⟩
  have hf := oi_t cc8 hf
  refine A_aloadn (pc := 16) dX5_put_16 rfl ?_
  refine A_iconst (pc := 17) (-1) dX5_put_17 rfl ?_
  obtain ⟨q17, h18, hf⟩ := oi_b hf
  refine A_cV1i (mi2 := mX5_no) (pc := 18) dX5_put_18 lX5_92 fX5_no vX5_no (lay_s hT (k := 53) (q := (7, 35)) rfl) rfl (Nat.le_of_ble_eq_true rfl) rfl (Nat.le_of_ble_eq_true rfl) (wX5_no (by omega) hT  h18) ?_
  obtain rfl := Option.some.inj hf
  exact A_iret (pc := 21) dX5_put_21 rfl rfl ⟨rfl, rfl, rfl⟩
def zX5_wetMany_L4 (n : Nat) (u : MU) (k : Int32 → Int32 → Option (Int32)) : Nat → Int32 → Int32 → Option (Int32)
  | 0, _, _ => none
  | m + 1, t1, t2 => if (u 53 12) ≤ t2 then (k t1 t2) else (if oob t2 5 then none else if (u 57 t2.toNatClampNeg) < 0 then (letb (t1 + 0) (fun x4 => zX5_wetMany_L4 n u   k m x4 (t2 + 1))) else (letb (t1 + 1) (fun x5 => zX5_wetMany_L4 n u   k m x5 (t2 + 1))))
def zX5_wetMany (n : Nat) (u : MU) : Option (Int32) := zX5_wetMany_L4 n u   (fun y6 y7 => some y6) n 0 0
set_option maxHeartbeats 4000000 in
set_option maxRecDepth 100000 in
theorem wX5_wetMany_L4 {G : GG} {T : TT} {n d : Nat} (hd : 0 ≤ d) {u : MU} {k : Int32 → Int32 → Option (Int32)} (hT : LAY T) (hk : ∀ (t1 : Int32) (t2 : Int32) (q : Int32), k t1 t2 = some q → AW G d mX5_wetMany 35 [.ref 53, .int t1, .int t2] [] T u 0 0 (QS T q u)) : ∀ (m : Nat) (t1 : Int32) (t2 : Int32) (q : Int32), zX5_wetMany_L4 n u  k m t1 t2 = some q → AW G d mX5_wetMany 4 [.ref 53, .int t1, .int t2] [] T u 0 0 (QS T q u) := by
  intro m
  induction m with
  | zero =>
    intro t1 t2 q hf
    have h0 : (none : Option (Int32)) = some q := hf
    cases h0
  | succ m ih =>
    intro t1 t2 q hf
    rw [zX5_wetMany_L4] at hf
    refine A_iloadn (pc := 4) dX5_wetMany_4 rfl ?_
    refine A_aloadn (pc := 5) dX5_wetMany_5 rfl ?_
    refine A_getI (pc := 6) dX5_wetMany_6 gX5_46 (lay_s hT (k := 53) (q := (7, 35)) rfl) (Nat.le_of_ble_eq_true rfl) rfl ?_
    refine A_icmp_ge (pc := 9) 35 dX5_wetMany_9 (by decide) (fun cc1 => ?_) (fun cc1 => ?_)
    · have hf := oi_t cc1 hf
      exact hk _ _ _ hf
    have hf := oi_f cc1 hf
    refine A_iloadn (pc := 12) dX5_wetMany_12 rfl ?_
    refine A_aloadn (pc := 13) dX5_wetMany_13 rfl ?_
    refine A_getR (pc := 14) dX5_wetMany_14 gX5_19 (lay_s hT (k := 53) (q := (7, 35)) rfl) (Nat.le_of_ble_eq_true rfl) rfl (lay_r hT 55 rfl) ?_
    refine A_iloadn (pc := 17) dX5_wetMany_17 rfl ?_
    obtain ⟨h2, hf⟩ := oi_cf hf
    refine A_iald (pc := 18) dX5_wetMany_18 (lay_s hT (k := 57) (q := (0, 5)) rfl) (oob_f h2) ?_
    refine A_if_lt (pc := 19) (w := 0) 26 dX5_wetMany_19 (by decide) (fun cc3 => ?_) (fun cc3 => ?_)
    · have hf := oi_t cc3 hf
      refine A_iconst (pc := 26) 0 dX5_wetMany_26 rfl ?_
      refine A_iadd (pc := 27) dX5_wetMany_27 ?_
      have hf := oi_l hf
      refine A_istn (pc := 28) (L2 := [.ref 53, .int (t1 + 0), .int t2]) dX5_wetMany_28 (Nat.le_of_ble_eq_true rfl) rfl ?_
      refine A_inc (pc := 29) (L2 := [.ref 53, .int (t1 + 0), .int (t2 + 1)]) (t2 + 1) dX5_wetMany_29 rfl rfl rfl ?_
      refine A_goto (pc := 32) 4 dX5_wetMany_32 (by decide) ?_
      exact ih _ _ _ hf
    have hf := oi_f cc3 hf
    refine A_iconst (pc := 22) 1 dX5_wetMany_22 rfl ?_
    refine A_goto (pc := 23) 27 dX5_wetMany_23 (by decide) ?_
    refine A_iadd (pc := 27) dX5_wetMany_27 ?_
    have hf := oi_l hf
    refine A_istn (pc := 28) (L2 := [.ref 53, .int (t1 + 1), .int t2]) dX5_wetMany_28 (Nat.le_of_ble_eq_true rfl) rfl ?_
    refine A_inc (pc := 29) (L2 := [.ref 53, .int (t1 + 1), .int (t2 + 1)]) (t2 + 1) dX5_wetMany_29 rfl rfl rfl ?_
    refine A_goto (pc := 32) 4 dX5_wetMany_32 (by decide) ?_
    exact ih _ _ _ hf
set_option maxHeartbeats 4000000 in
set_option maxRecDepth 100000 in
theorem wX5_wetMany {G : GG} {T : TT} {n d : Nat} (hd : 0 ≤ d) {q : Int32} {u : MU} (hT : LAY T) (hf : zX5_wetMany n u = some q) : AW G d mX5_wetMany 0 [.ref 53, .null, .null] [] T u 0 0 (QS T q u) := by
  rw [zX5_wetMany] at hf
  refine A_iconst (pc := 0) 0 dX5_wetMany_0 rfl ?_
  refine A_istn (pc := 1) (L2 := [.ref 53, .int 0, .null]) dX5_wetMany_1 (Nat.le_of_ble_eq_true rfl) rfl ?_
  refine A_iconst (pc := 2) 0 dX5_wetMany_2 rfl ?_
  refine A_istn (pc := 3) (L2 := [.ref 53, .int 0, .int 0]) dX5_wetMany_3 (Nat.le_of_ble_eq_true rfl) rfl ?_
  exact wX5_wetMany_L4 (by omega) hT  (fun y6 y7 q0 hf => by
    refine A_iloadn (pc := 35) dX5_wetMany_35 rfl ?_
    obtain rfl := Option.some.inj hf
    exact A_iret (pc := 36) dX5_wetMany_36 rfl rfl ⟨rfl, rfl, rfl⟩) _ _ _ _ hf
def zX5_overMany_L4 (n : Nat) (u : MU) (k : Int32 → Int32 → Option (Int32)) : Nat → Int32 → Int32 → Option (Int32)
  | 0, _, _ => none
  | m + 1, t1, t2 => if (u 53 13) ≤ t2 then (k t1 t2) else (if oob t2 7 then none else letb (t1 + (u 63 t2.toNatClampNeg)) (fun x3 => zX5_overMany_L4 n u   k m x3 (t2 + 1)))
def zX5_overMany (n : Nat) (u : MU) : Option (Int32) := zX5_overMany_L4 n u   (fun y4 y5 => some y4) n 0 0
set_option maxHeartbeats 4000000 in
set_option maxRecDepth 100000 in
theorem wX5_overMany_L4 {G : GG} {T : TT} {n d : Nat} (hd : 0 ≤ d) {u : MU} {k : Int32 → Int32 → Option (Int32)} (hT : LAY T) (hk : ∀ (t1 : Int32) (t2 : Int32) (q : Int32), k t1 t2 = some q → AW G d mX5_overMany 27 [.ref 53, .int t1, .int t2] [] T u 0 0 (QS T q u)) : ∀ (m : Nat) (t1 : Int32) (t2 : Int32) (q : Int32), zX5_overMany_L4 n u  k m t1 t2 = some q → AW G d mX5_overMany 4 [.ref 53, .int t1, .int t2] [] T u 0 0 (QS T q u) := by
  intro m
  induction m with
  | zero =>
    intro t1 t2 q hf
    have h0 : (none : Option (Int32)) = some q := hf
    cases h0
  | succ m ih =>
    intro t1 t2 q hf
    rw [zX5_overMany_L4] at hf
    refine A_iloadn (pc := 4) dX5_overMany_4 rfl ?_
    refine A_aloadn (pc := 5) dX5_overMany_5 rfl ?_
    refine A_getI (pc := 6) dX5_overMany_6 gX5_78 (lay_s hT (k := 53) (q := (7, 35)) rfl) (Nat.le_of_ble_eq_true rfl) rfl ?_
    refine A_icmp_ge (pc := 9) 27 dX5_overMany_9 (by decide) (fun cc1 => ?_) (fun cc1 => ?_)
    · have hf := oi_t cc1 hf
      exact hk _ _ _ hf
    have hf := oi_f cc1 hf
    refine A_iloadn (pc := 12) dX5_overMany_12 rfl ?_
    refine A_aloadn (pc := 13) dX5_overMany_13 rfl ?_
    refine A_getR (pc := 14) dX5_overMany_14 gX5_37 (lay_s hT (k := 53) (q := (7, 35)) rfl) (Nat.le_of_ble_eq_true rfl) rfl (lay_r hT 61 rfl) ?_
    refine A_iloadn (pc := 17) dX5_overMany_17 rfl ?_
    obtain ⟨h2, hf⟩ := oi_cf hf
    refine A_iald (pc := 18) dX5_overMany_18 (lay_s hT (k := 63) (q := (0, 7)) rfl) (oob_f h2) ?_
    refine A_iadd (pc := 19) dX5_overMany_19 ?_
    have hf := oi_l hf
    refine A_istn (pc := 20) (L2 := [.ref 53, .int (t1 + (u 63 t2.toNatClampNeg)), .int t2]) dX5_overMany_20 (Nat.le_of_ble_eq_true rfl) rfl ?_
    refine A_inc (pc := 21) (L2 := [.ref 53, .int (t1 + (u 63 t2.toNatClampNeg)), .int (t2 + 1)]) (t2 + 1) dX5_overMany_21 rfl rfl rfl ?_
    refine A_goto (pc := 24) 4 dX5_overMany_24 (by decide) ?_
    exact ih _ _ _ hf
set_option maxHeartbeats 4000000 in
set_option maxRecDepth 100000 in
theorem wX5_overMany {G : GG} {T : TT} {n d : Nat} (hd : 0 ≤ d) {q : Int32} {u : MU} (hT : LAY T) (hf : zX5_overMany n u = some q) : AW G d mX5_overMany 0 [.ref 53, .null, .null] [] T u 0 0 (QS T q u) := by
  rw [zX5_overMany] at hf
  refine A_iconst (pc := 0) 0 dX5_overMany_0 rfl ?_
  refine A_istn (pc := 1) (L2 := [.ref 53, .int 0, .null]) dX5_overMany_1 (Nat.le_of_ble_eq_true rfl) rfl ?_
  refine A_iconst (pc := 2) 0 dX5_overMany_2 rfl ?_
  refine A_istn (pc := 3) (L2 := [.ref 53, .int 0, .int 0]) dX5_overMany_3 (Nat.le_of_ble_eq_true rfl) rfl ?_
  exact wX5_overMany_L4 (by omega) hT  (fun y4 y5 q0 hf => by
    refine A_iloadn (pc := 27) dX5_overMany_27 rfl ?_
    obtain rfl := Option.some.inj hf
    exact A_iret (pc := 28) dX5_overMany_28 rfl rfl ⟨rfl, rfl, rfl⟩) _ _ _ _ hf
def zX5_out_L12 (n : Nat) (s1 : Int32) (k : Int32 → MU → Option (Int32 × MU)) : Nat → Int32 → MU → Option (Int32 × MU)
  | 0, _, _ => none
  | m + 1, t2, u => if (u 53 12) ≤ t2 then (k t2 u) else (if oob t2 5 then none else letb (up2 u 57 t2.toNatClampNeg (-9)) (fun u8 => zX5_out_L12 n  s1 k m (t2 + 1) u8))
def zX5_out_L36 (n : Nat) (s1 : Int32) (k : Int32 → MU → Option (Int32 × MU)) : Nat → Int32 → MU → Option (Int32 × MU)
  | 0, _, _ => none
  | m + 1, t2, u => if (u 53 13) ≤ t2 then (k t2 u) else (if oob t2 7 then none else letb (up2 u 63 t2.toNatClampNeg 0) (fun u13 => zX5_out_L36 n  s1 k m (t2 + 1) u13))
def zX5_out (n : Nat) (u : MU) : Option (Int32 × MU) := Option.bind (zX5_wetMany n u) (fun q1 => Option.bind (zX5_overMany n u) (fun q3 => letb (q1 + q3) (fun x5 => zX5_out_L12 n  x5 (fun y9 w10 => zX5_out_L36 n  x5 (fun y14 w15 => some (x5, w15)) n 0 w10) n 0 u)))
set_option maxHeartbeats 4000000 in
set_option maxRecDepth 100000 in
theorem wX5_out_L12 {G : GG} {T : TT} {n d : Nat} (hd : 1 ≤ d) {s1 : Int32} {k : Int32 → MU → Option (Int32 × MU)} (hT : LAY T) (hk : ∀ (t2 : Int32) (u : MU) (q : Int32 × MU), k t2 u = some q → AW G d mX5_out 34 [.ref 53, .int s1, .int t2] [] T u 0 0 (QS T q.1 q.2)) : ∀ (m : Nat) (t2 : Int32) (u : MU) (q : Int32 × MU), zX5_out_L12 n  s1 k m t2 u = some q → AW G d mX5_out 12 [.ref 53, .int s1, .int t2] [] T u 0 0 (QS T q.1 q.2) := by
  intro m
  obtain ⟨d, rfl⟩ : ∃ e, d = e + 1 := ⟨d - 1, by omega⟩
  induction m with
  | zero =>
    intro t2 u q hf
    have h0 : (none : Option (Int32 × MU)) = some q := hf
    cases h0
  | succ m ih =>
    intro t2 u q hf
    rw [zX5_out_L12] at hf
    refine A_iloadn (pc := 12) dX5_out_12 rfl ?_
    refine A_aloadn (pc := 13) dX5_out_13 rfl ?_
    refine A_getI (pc := 14) dX5_out_14 gX5_46 (lay_s hT (k := 53) (q := (7, 35)) rfl) (Nat.le_of_ble_eq_true rfl) rfl ?_
    refine A_icmp_ge (pc := 17) 34 dX5_out_17 (by decide) (fun cc6 => ?_) (fun cc6 => ?_)
    · have hf := oi_t cc6 hf
      exact hk _ _ _ hf
    have hf := oi_f cc6 hf
    refine A_aloadn (pc := 20) dX5_out_20 rfl ?_
    refine A_getR (pc := 21) dX5_out_21 gX5_19 (lay_s hT (k := 53) (q := (7, 35)) rfl) (Nat.le_of_ble_eq_true rfl) rfl (lay_r hT 55 rfl) ?_
    refine A_iloadn (pc := 24) dX5_out_24 rfl ?_
    refine A_bipush (pc := 25) (-9) dX5_out_25 rfl ?_
    obtain ⟨h7, hf⟩ := oi_cf hf
    have hf := oi_l hf
    refine A_iast (pc := 27) dX5_out_27 (lay_s hT (k := 57) (q := (0, 5)) rfl) (oob_f h7) ?_
    refine A_inc (pc := 28) (L2 := [.ref 53, .int s1, .int (t2 + 1)]) (t2 + 1) dX5_out_28 rfl rfl rfl ?_
    refine A_goto (pc := 31) 12 dX5_out_31 (by decide) ?_
    exact ih _ _ _ hf
set_option maxHeartbeats 4000000 in
set_option maxRecDepth 100000 in
theorem wX5_out_L36 {G : GG} {T : TT} {n d : Nat} (hd : 1 ≤ d) {s1 : Int32} {k : Int32 → MU → Option (Int32 × MU)} (hT : LAY T) (hk : ∀ (t2 : Int32) (u : MU) (q : Int32 × MU), k t2 u = some q → AW G d mX5_out 57 [.ref 53, .int s1, .int t2] [] T u 0 0 (QS T q.1 q.2)) : ∀ (m : Nat) (t2 : Int32) (u : MU) (q : Int32 × MU), zX5_out_L36 n  s1 k m t2 u = some q → AW G d mX5_out 36 [.ref 53, .int s1, .int t2] [] T u 0 0 (QS T q.1 q.2) := by
  intro m
  obtain ⟨d, rfl⟩ : ∃ e, d = e + 1 := ⟨d - 1, by omega⟩
  induction m with
  | zero =>
    intro t2 u q hf
    have h0 : (none : Option (Int32 × MU)) = some q := hf
    cases h0
  | succ m ih =>
    intro t2 u q hf
    rw [zX5_out_L36] at hf
    refine A_iloadn (pc := 36) dX5_out_36 rfl ?_
    refine A_aloadn (pc := 37) dX5_out_37 rfl ?_
    refine A_getI (pc := 38) dX5_out_38 gX5_78 (lay_s hT (k := 53) (q := (7, 35)) rfl) (Nat.le_of_ble_eq_true rfl) rfl ?_
    refine A_icmp_ge (pc := 41) 57 dX5_out_41 (by decide) (fun cc11 => ?_) (fun cc11 => ?_)
    · have hf := oi_t cc11 hf
      exact hk _ _ _ hf
    have hf := oi_f cc11 hf
    refine A_aloadn (pc := 44) dX5_out_44 rfl ?_
    refine A_getR (pc := 45) dX5_out_45 gX5_37 (lay_s hT (k := 53) (q := (7, 35)) rfl) (Nat.le_of_ble_eq_true rfl) rfl (lay_r hT 61 rfl) ?_
    refine A_iloadn (pc := 48) dX5_out_48 rfl ?_
    refine A_iconst (pc := 49) 0 dX5_out_49 rfl ?_
    obtain ⟨h12, hf⟩ := oi_cf hf
    have hf := oi_l hf
    refine A_iast (pc := 50) dX5_out_50 (lay_s hT (k := 63) (q := (0, 7)) rfl) (oob_f h12) ?_
    refine A_inc (pc := 51) (L2 := [.ref 53, .int s1, .int (t2 + 1)]) (t2 + 1) dX5_out_51 rfl rfl rfl ?_
    refine A_goto (pc := 54) 36 dX5_out_54 (by decide) ?_
    exact ih _ _ _ hf
set_option maxHeartbeats 4000000 in
set_option maxRecDepth 100000 in
theorem wX5_out {G : GG} {T : TT} {n d : Nat} (hd : 1 ≤ d) {q : Int32 × MU} {u : MU} (hT : LAY T) (hf : zX5_out n u = some q) : AW G d mX5_out 0 [.ref 53, .null, .null] [] T u 0 0 (QS T q.1 q.2) := by
  obtain ⟨d, rfl⟩ : ∃ e, d = e + 1 := ⟨d - 1, by omega⟩
  rw [zX5_out] at hf
  refine A_aloadn (pc := 0) dX5_out_0 rfl ?_
  obtain ⟨q1, h2, hf⟩ := oi_b hf
  refine A_cV0i (mi2 := mX5_wetMany) (pc := 1) dX5_out_1 lX5_176 fX5_wetMany vX5_wetMany (lay_s hT (k := 53) (q := (7, 35)) rfl) rfl (Nat.le_of_ble_eq_true rfl) rfl (Nat.le_of_ble_eq_true rfl) (wX5_wetMany (by omega) hT  h2) ?_
  refine A_aloadn (pc := 4) dX5_out_4 rfl ?_
  obtain ⟨q3, h4, hf⟩ := oi_b hf
  refine A_cV0i (mi2 := mX5_overMany) (pc := 5) dX5_out_5 lX5_179 fX5_overMany vX5_overMany (lay_s hT (k := 53) (q := (7, 35)) rfl) rfl (Nat.le_of_ble_eq_true rfl) rfl (Nat.le_of_ble_eq_true rfl) (wX5_overMany (by omega) hT  h4) ?_
  refine A_iadd (pc := 8) dX5_out_8 ?_
  have hf := oi_l hf
  refine A_istn (pc := 9) (L2 := [.ref 53, .int (q1 + q3), .null]) dX5_out_9 (Nat.le_of_ble_eq_true rfl) rfl ?_
  refine A_iconst (pc := 10) 0 dX5_out_10 rfl ?_
  refine A_istn (pc := 11) (L2 := [.ref 53, .int (q1 + q3), .int 0]) dX5_out_11 (Nat.le_of_ble_eq_true rfl) rfl ?_
  exact wX5_out_L12 (by omega) hT  (fun y9 w10 q0 hf => by
    refine A_iconst (pc := 34) 0 dX5_out_34 rfl ?_
    refine A_istn (pc := 35) (L2 := [.ref 53, .int (q1 + q3), .int 0]) dX5_out_35 (Nat.le_of_ble_eq_true rfl) rfl ?_
    exact wX5_out_L36 (by omega) hT  (fun y14 w15 q0 hf => by
      refine A_iloadn (pc := 57) dX5_out_57 rfl ?_
      obtain rfl := Option.some.inj hf
      exact A_iret (pc := 58) dX5_out_58 rfl rfl ⟨rfl, rfl, rfl⟩) _ _ _ _ hf) _ _ _ _ hf
def zX5_loadOf_L7 (n : Nat) (u : MU) (s1 : Int32) (k : Int32 → Int32 → Int32 → Option (Int32)) : Nat → Int32 → Int32 → Int32 → Option (Int32)
  | 0, _, _, _ => none
  | m + 1, t2, t3, t4 => if (u 53 12) ≤ t4 then (k t2 t3 t4) else (if s1 ≤ t4 then (if oob t4 5 then none else letb (t3 + (u 56 t4.toNatClampNeg)) (fun x4 => zX5_loadOf_L7 n u  s1 k m t2 x4 (t4 + 1))) else (if oob t4 5 then none else letb (t2 + (u 56 t4.toNatClampNeg)) (fun x6 => zX5_loadOf_L7 n u  s1 k m x6 t3 (t4 + 1))))
def zX5_loadOf (n : Nat) (u : MU) (a1 : Int32) : Option (Int32) := zX5_loadOf_L7 n u  a1 (fun y7 y8 y9 => Option.bind (zX5_least n u y7 y8) (fun q10 => some q10)) n 0 0 0
set_option maxHeartbeats 4000000 in
set_option maxRecDepth 100000 in
theorem wX5_loadOf_L7 {G : GG} {T : TT} {n d : Nat} (hd : 1 ≤ d) {u : MU} {s1 : Int32} {k : Int32 → Int32 → Int32 → Option (Int32)} (hT : LAY T) (hk : ∀ (t2 : Int32) (t3 : Int32) (t4 : Int32) (q : Int32), k t2 t3 t4 = some q → AW G d mX5_loadOf 51 [.ref 53, .int s1, .int t2, .int t3, .int t4] [] T u 0 0 (QS T q u)) : ∀ (m : Nat) (t2 : Int32) (t3 : Int32) (t4 : Int32) (q : Int32), zX5_loadOf_L7 n u  s1 k m t2 t3 t4 = some q → AW G d mX5_loadOf 7 [.ref 53, .int s1, .int t2, .int t3, .int t4] [] T u 0 0 (QS T q u) := by
  intro m
  obtain ⟨d, rfl⟩ : ∃ e, d = e + 1 := ⟨d - 1, by omega⟩
  induction m with
  | zero =>
    intro t2 t3 t4 q hf
    have h0 : (none : Option (Int32)) = some q := hf
    cases h0
  | succ m ih =>
    intro t2 t3 t4 q hf
    rw [zX5_loadOf_L7] at hf
    refine A_iload (pc := 7) dX5_loadOf_7 rfl ?_
    refine A_aloadn (pc := 9) dX5_loadOf_9 rfl ?_
    refine A_getI (pc := 10) dX5_loadOf_10 gX5_46 (lay_s hT (k := 53) (q := (7, 35)) rfl) (Nat.le_of_ble_eq_true rfl) rfl ?_
    refine A_icmp_ge (pc := 13) 51 dX5_loadOf_13 (by decide) (fun cc1 => ?_) (fun cc1 => ?_)
    · have hf := oi_t cc1 hf
      exact hk _ _ _ _ hf
    have hf := oi_f cc1 hf
    refine A_iload (pc := 16) dX5_loadOf_16 rfl ?_
    refine A_iloadn (pc := 18) dX5_loadOf_18 rfl ?_
    refine A_icmp_ge (pc := 19) 35 dX5_loadOf_19 (by decide) (fun cc2 => ?_) (fun cc2 => ?_)
    · have hf := oi_t cc2 hf
      refine A_iloadn (pc := 35) dX5_loadOf_35 rfl ?_
      refine A_aloadn (pc := 36) dX5_loadOf_36 rfl ?_
      refine A_getR (pc := 37) dX5_loadOf_37 gX5_16 (lay_s hT (k := 53) (q := (7, 35)) rfl) (Nat.le_of_ble_eq_true rfl) rfl (lay_r hT 54 rfl) ?_
      refine A_iload (pc := 40) dX5_loadOf_40 rfl ?_
      obtain ⟨h3, hf⟩ := oi_cf hf
      refine A_iald (pc := 42) dX5_loadOf_42 (lay_s hT (k := 56) (q := (0, 5)) rfl) (oob_f h3) ?_
      refine A_iadd (pc := 43) dX5_loadOf_43 ?_
      have hf := oi_l hf
      refine A_istn (pc := 44) (L2 := [.ref 53, .int s1, .int t2, .int (t3 + (u 56 t4.toNatClampNeg)), .int t4]) dX5_loadOf_44 (Nat.le_of_ble_eq_true rfl) rfl ?_
      refine A_inc (pc := 45) (L2 := [.ref 53, .int s1, .int t2, .int (t3 + (u 56 t4.toNatClampNeg)), .int (t4 + 1)]) (t4 + 1) dX5_loadOf_45 rfl rfl rfl ?_
      refine A_goto (pc := 48) 7 dX5_loadOf_48 (by decide) ?_
      exact ih _ _ _ _ hf
    have hf := oi_f cc2 hf
    refine A_iloadn (pc := 22) dX5_loadOf_22 rfl ?_
    refine A_aloadn (pc := 23) dX5_loadOf_23 rfl ?_
    refine A_getR (pc := 24) dX5_loadOf_24 gX5_16 (lay_s hT (k := 53) (q := (7, 35)) rfl) (Nat.le_of_ble_eq_true rfl) rfl (lay_r hT 54 rfl) ?_
    refine A_iload (pc := 27) dX5_loadOf_27 rfl ?_
    obtain ⟨h5, hf⟩ := oi_cf hf
    refine A_iald (pc := 29) dX5_loadOf_29 (lay_s hT (k := 56) (q := (0, 5)) rfl) (oob_f h5) ?_
    refine A_iadd (pc := 30) dX5_loadOf_30 ?_
    have hf := oi_l hf
    refine A_istn (pc := 31) (L2 := [.ref 53, .int s1, .int (t2 + (u 56 t4.toNatClampNeg)), .int t3, .int t4]) dX5_loadOf_31 (Nat.le_of_ble_eq_true rfl) rfl ?_
    refine A_goto (pc := 32) 45 dX5_loadOf_32 (by decide) ?_
    refine A_inc (pc := 45) (L2 := [.ref 53, .int s1, .int (t2 + (u 56 t4.toNatClampNeg)), .int t3, .int (t4 + 1)]) (t4 + 1) dX5_loadOf_45 rfl rfl rfl ?_
    refine A_goto (pc := 48) 7 dX5_loadOf_48 (by decide) ?_
    exact ih _ _ _ _ hf
set_option maxHeartbeats 4000000 in
set_option maxRecDepth 100000 in
theorem wX5_loadOf {G : GG} {T : TT} {n d : Nat} (hd : 1 ≤ d) {q : Int32} {u : MU} {a1 : Int32} (hT : LAY T) (hf : zX5_loadOf n u a1 = some q) : AW G d mX5_loadOf 0 [.ref 53, .int a1, .null, .null, .null] [] T u 0 0 (QS T q u) := by
  obtain ⟨d, rfl⟩ : ∃ e, d = e + 1 := ⟨d - 1, by omega⟩
  rw [zX5_loadOf] at hf
  refine A_iconst (pc := 0) 0 dX5_loadOf_0 rfl ?_
  refine A_istn (pc := 1) (L2 := [.ref 53, .int a1, .int 0, .null, .null]) dX5_loadOf_1 (Nat.le_of_ble_eq_true rfl) rfl ?_
  refine A_iconst (pc := 2) 0 dX5_loadOf_2 rfl ?_
  refine A_istn (pc := 3) (L2 := [.ref 53, .int a1, .int 0, .int 0, .null]) dX5_loadOf_3 (Nat.le_of_ble_eq_true rfl) rfl ?_
  refine A_iconst (pc := 4) 0 dX5_loadOf_4 rfl ?_
  refine A_ist (pc := 5) (L2 := [.ref 53, .int a1, .int 0, .int 0, .int 0]) dX5_loadOf_5 (Nat.le_of_ble_eq_true rfl) rfl ?_
  exact wX5_loadOf_L7 (by omega) hT  (fun y7 y8 y9 q0 hf => by
    refine A_iloadn (pc := 51) dX5_loadOf_51 rfl ?_
    refine A_iloadn (pc := 52) dX5_loadOf_52 rfl ?_
    obtain ⟨q10, h11, hf⟩ := oi_b hf
    refine A_cS2i (mi2 := mX5_least) (pc := 53) dX5_loadOf_53 lX5_182 fX5_least sX5_least (Nat.le_of_ble_eq_true rfl) rfl (Nat.le_of_ble_eq_true rfl) (wX5_least (by omega) hT  h11) ?_
    obtain rfl := Option.some.inj hf
    exact A_iret (pc := 56) dX5_loadOf_56 rfl rfl ⟨rfl, rfl, rfl⟩) _ _ _ _ _ hf
def zX5_load (n : Nat) (u : MU) (a1 : Int32) : Option (Int32 × MU) := Option.bind (zX5_isIn n u a1 0 (u 53 12)) (fun q1 => if q1 = 0 then (Option.bind (zX5_no n u (-1)) (fun q4 => some (q4.1, q4.2))) else (Option.bind (zX5_loadOf n u a1) (fun q6 => some (q6, u))))
set_option maxHeartbeats 4000000 in
set_option maxRecDepth 100000 in
theorem wX5_load {G : GG} {T : TT} {n d : Nat} (hd : 2 ≤ d) {q : Int32 × MU} {u : MU} {a1 : Int32} (hT : LAY T) (hf : zX5_load n u a1 = some q) : AW G d mX5_load 0 [.ref 53, .int a1] [] T u 0 0 (QS T q.1 q.2) := by
  obtain ⟨d, rfl⟩ : ∃ e, d = e + 1 := ⟨d - 1, by omega⟩
  rw [zX5_load] at hf
  refine A_iloadn (pc := 0) dX5_load_0 rfl ?_
  refine A_iconst (pc := 1) 0 dX5_load_1 rfl ?_
  refine A_aloadn (pc := 2) dX5_load_2 rfl ?_
  refine A_getI (pc := 3) dX5_load_3 gX5_46 (lay_s hT (k := 53) (q := (7, 35)) rfl) (Nat.le_of_ble_eq_true rfl) rfl ?_
  obtain ⟨q1, h2, hf⟩ := oi_b hf
  refine A_cS3i (mi2 := mX5_isIn) (pc := 6) dX5_load_6 lX5_103 fX5_isIn sX5_isIn (Nat.le_of_ble_eq_true rfl) rfl (Nat.le_of_ble_eq_true rfl) (wX5_isIn (by omega) hT  h2) ?_
  refine A_if_eq (pc := 9) (w := 0) 20 dX5_load_9 (by decide) (fun cc3 => ?_) (fun cc3 => ?_)
  · have hf := oi_t cc3 hf
    refine A_aloadn (pc := 20) dX5_load_20 rfl ?_
    refine A_iconst (pc := 21) (-1) dX5_load_21 rfl ?_
    obtain ⟨q4, h5, hf⟩ := oi_b hf
    refine A_cV1i (mi2 := mX5_no) (pc := 22) dX5_load_22 lX5_92 fX5_no vX5_no (lay_s hT (k := 53) (q := (7, 35)) rfl) rfl (Nat.le_of_ble_eq_true rfl) rfl (Nat.le_of_ble_eq_true rfl) (wX5_no (by omega) hT  h5) ?_
    obtain rfl := Option.some.inj hf
    exact A_iret (pc := 25) dX5_load_25 rfl rfl ⟨rfl, rfl, rfl⟩
  have hf := oi_f cc3 hf
  refine A_aloadn (pc := 12) dX5_load_12 rfl ?_
  refine A_iloadn (pc := 13) dX5_load_13 rfl ?_
  obtain ⟨q6, h7, hf⟩ := oi_b hf
  refine A_cV1i (mi2 := mX5_loadOf) (pc := 14) dX5_load_14 lX5_186 fX5_loadOf vX5_loadOf (lay_s hT (k := 53) (q := (7, 35)) rfl) rfl (Nat.le_of_ble_eq_true rfl) rfl (Nat.le_of_ble_eq_true rfl) (wX5_loadOf (by omega) hT  h7) ?_
  refine A_goto (pc := 17) 25 dX5_load_17 (by decide) ?_
  obtain rfl := Option.some.inj hf
  exact A_iret (pc := 25) dX5_load_25 rfl rfl ⟨rfl, rfl, rfl⟩
def zX5_doesReach (n : Nat) (u : MU) (a1 : Int32) (a2 : Int32) (a3 : Int32) : Option (Int32) := Option.bind (zX5_reachOf n u a2) (fun q1 => if oob a1 5 then none else if q1 < ((u 55 a1.toNatClampNeg) + a3) then (some 0) else (some 1))
set_option maxHeartbeats 4000000 in
set_option maxRecDepth 100000 in
theorem wX5_doesReach {G : GG} {T : TT} {n d : Nat} (hd : 1 ≤ d) {q : Int32} {u : MU} {a1 : Int32} {a2 : Int32} {a3 : Int32} (hT : LAY T) (hf : zX5_doesReach n u a1 a2 a3 = some q) : AW G d mX5_doesReach 0 [.ref 53, .int a1, .int a2, .int a3] [] T u 0 0 (QS T q u) := by
  obtain ⟨d, rfl⟩ : ∃ e, d = e + 1 := ⟨d - 1, by omega⟩
  rw [zX5_doesReach] at hf
  refine A_aloadn (pc := 0) dX5_doesReach_0 rfl ?_
  refine A_iloadn (pc := 1) dX5_doesReach_1 rfl ?_
  obtain ⟨q1, h2, hf⟩ := oi_b hf
  refine A_cV1i (mi2 := mX5_reachOf) (pc := 2) dX5_doesReach_2 lX5_167 fX5_reachOf vX5_reachOf (lay_s hT (k := 53) (q := (7, 35)) rfl) rfl (Nat.le_of_ble_eq_true rfl) rfl (Nat.le_of_ble_eq_true rfl) (wX5_reachOf (by omega) hT  h2) ?_
  refine A_aloadn (pc := 5) dX5_doesReach_5 rfl ?_
  refine A_getR (pc := 6) dX5_doesReach_6 gX5_13 (lay_s hT (k := 53) (q := (7, 35)) rfl) (Nat.le_of_ble_eq_true rfl) rfl (lay_r hT 53 rfl) ?_
  refine A_iloadn (pc := 9) dX5_doesReach_9 rfl ?_
  obtain ⟨h3, hf⟩ := oi_cf hf
  refine A_iald (pc := 10) dX5_doesReach_10 (lay_s hT (k := 55) (q := (0, 5)) rfl) (oob_f h3) ?_
  refine A_iloadn (pc := 11) dX5_doesReach_11 rfl ?_
  refine A_iadd (pc := 12) dX5_doesReach_12 ?_
  refine A_icmp_lt (pc := 13) 20 dX5_doesReach_13 (by decide) (fun cc4 => ?_) (fun cc4 => ?_)
  · have hf := oi_t cc4 hf
    refine A_iconst (pc := 20) 0 dX5_doesReach_20 rfl ?_
    obtain rfl := Option.some.inj hf
    exact A_iret (pc := 21) dX5_doesReach_21 rfl rfl ⟨rfl, rfl, rfl⟩
  have hf := oi_f cc4 hf
  refine A_iconst (pc := 16) 1 dX5_doesReach_16 rfl ?_
  refine A_goto (pc := 17) 21 dX5_doesReach_17 (by decide) ?_
  obtain rfl := Option.some.inj hf
  exact A_iret (pc := 21) dX5_doesReach_21 rfl rfl ⟨rfl, rfl, rfl⟩
def zX5_doesHold (n : Nat) (u : MU) (a1 : Int32) (a2 : Int32) : Option (Int32) := Option.bind (zX5_holdOf n u a2) (fun q1 => Option.bind (zX5_loadOf n u a1) (fun q3 => if q1 < q3 then (some 0) else (Option.bind (zX5_holdOf n u a2) (fun q6 => Option.bind (zX5_loadOf n u (a1 + 1)) (fun q8 => if q6 < q8 then (some 0) else (some 1))))))
set_option maxHeartbeats 4000000 in
set_option maxRecDepth 100000 in
theorem wX5_doesHold {G : GG} {T : TT} {n d : Nat} (hd : 2 ≤ d) {q : Int32} {u : MU} {a1 : Int32} {a2 : Int32} (hT : LAY T) (hf : zX5_doesHold n u a1 a2 = some q) : AW G d mX5_doesHold 0 [.ref 53, .int a1, .int a2] [] T u 0 0 (QS T q u) := by
  obtain ⟨d, rfl⟩ : ∃ e, d = e + 1 := ⟨d - 1, by omega⟩
  rw [zX5_doesHold] at hf
  refine A_aloadn (pc := 0) dX5_doesHold_0 rfl ?_
  refine A_iloadn (pc := 1) dX5_doesHold_1 rfl ?_
  obtain ⟨q1, h2, hf⟩ := oi_b hf
  refine A_cV1i (mi2 := mX5_holdOf) (pc := 2) dX5_doesHold_2 lX5_170 fX5_holdOf vX5_holdOf (lay_s hT (k := 53) (q := (7, 35)) rfl) rfl (Nat.le_of_ble_eq_true rfl) rfl (Nat.le_of_ble_eq_true rfl) (wX5_holdOf (by omega) hT  h2) ?_
  refine A_aloadn (pc := 5) dX5_doesHold_5 rfl ?_
  refine A_iloadn (pc := 6) dX5_doesHold_6 rfl ?_
  obtain ⟨q3, h4, hf⟩ := oi_b hf
  refine A_cV1i (mi2 := mX5_loadOf) (pc := 7) dX5_doesHold_7 lX5_186 fX5_loadOf vX5_loadOf (lay_s hT (k := 53) (q := (7, 35)) rfl) rfl (Nat.le_of_ble_eq_true rfl) rfl (Nat.le_of_ble_eq_true rfl) (wX5_loadOf (by omega) hT  h4) ?_
  refine A_icmp_lt (pc := 10) 32 dX5_doesHold_10 (by decide) (fun cc5 => ?_) (fun cc5 => ?_)
  · have hf := oi_t cc5 hf
    refine A_iconst (pc := 32) 0 dX5_doesHold_32 rfl ?_
    obtain rfl := Option.some.inj hf
    exact A_iret (pc := 33) dX5_doesHold_33 rfl rfl ⟨rfl, rfl, rfl⟩
  have hf := oi_f cc5 hf
  refine A_aloadn (pc := 13) dX5_doesHold_13 rfl ?_
  refine A_iloadn (pc := 14) dX5_doesHold_14 rfl ?_
  obtain ⟨q6, h7, hf⟩ := oi_b hf
  refine A_cV1i (mi2 := mX5_holdOf) (pc := 15) dX5_doesHold_15 lX5_170 fX5_holdOf vX5_holdOf (lay_s hT (k := 53) (q := (7, 35)) rfl) rfl (Nat.le_of_ble_eq_true rfl) rfl (Nat.le_of_ble_eq_true rfl) (wX5_holdOf (by omega) hT  h7) ?_
  refine A_aloadn (pc := 18) dX5_doesHold_18 rfl ?_
  refine A_iloadn (pc := 19) dX5_doesHold_19 rfl ?_
  refine A_iconst (pc := 20) 1 dX5_doesHold_20 rfl ?_
  refine A_iadd (pc := 21) dX5_doesHold_21 ?_
  obtain ⟨q8, h9, hf⟩ := oi_b hf
  refine A_cV1i (mi2 := mX5_loadOf) (pc := 22) dX5_doesHold_22 lX5_186 fX5_loadOf vX5_loadOf (lay_s hT (k := 53) (q := (7, 35)) rfl) rfl (Nat.le_of_ble_eq_true rfl) rfl (Nat.le_of_ble_eq_true rfl) (wX5_loadOf (by omega) hT  h9) ?_
  refine A_icmp_lt (pc := 25) 32 dX5_doesHold_25 (by decide) (fun cc10 => ?_) (fun cc10 => ?_)
  · have hf := oi_t cc10 hf
    refine A_iconst (pc := 32) 0 dX5_doesHold_32 rfl ?_
    obtain rfl := Option.some.inj hf
    exact A_iret (pc := 33) dX5_doesHold_33 rfl rfl ⟨rfl, rfl, rfl⟩
  have hf := oi_f cc10 hf
  refine A_iconst (pc := 28) 1 dX5_doesHold_28 rfl ?_
  refine A_goto (pc := 29) 33 dX5_doesHold_29 (by decide) ?_
  obtain rfl := Option.some.inj hf
  exact A_iret (pc := 33) dX5_doesHold_33 rfl rfl ⟨rfl, rfl, rfl⟩
def zX5_slipsIn (n : Nat) (u : MU) (a1 : Int32) (a2 : Int32) (a3 : Int32) : Option (Int32) := Option.bind (zX5_doesReach n u a1 a2 0) (fun q1 => if q1 = 0 then (some 1) else (Option.bind (zX5_doesHold n u a1 a2) (fun q4 => if q4 = 0 then (some 2) else (if a3 < 0 then (some (-1)) else (if oob ((7 * a2) + a3) 49 then none else if (u 64 ((7 * a2) + a3).toNatClampNeg) = 1 then (some 3) else (some (-1)))))))
set_option maxHeartbeats 4000000 in
set_option maxRecDepth 100000 in
theorem wX5_slipsIn {G : GG} {T : TT} {n d : Nat} (hd : 3 ≤ d) {q : Int32} {u : MU} {a1 : Int32} {a2 : Int32} {a3 : Int32} (hT : LAY T) (hf : zX5_slipsIn n u a1 a2 a3 = some q) : AW G d mX5_slipsIn 0 [.ref 53, .int a1, .int a2, .int a3] [] T u 0 0 (QS T q u) := by
  obtain ⟨d, rfl⟩ : ∃ e, d = e + 1 := ⟨d - 1, by omega⟩
  rw [zX5_slipsIn] at hf
  refine A_aloadn (pc := 0) dX5_slipsIn_0 rfl ?_
  refine A_iloadn (pc := 1) dX5_slipsIn_1 rfl ?_
  refine A_iloadn (pc := 2) dX5_slipsIn_2 rfl ?_
  refine A_iconst (pc := 3) 0 dX5_slipsIn_3 rfl ?_
  obtain ⟨q1, h2, hf⟩ := oi_b hf
  refine A_cV3i (mi2 := mX5_doesReach) (pc := 4) dX5_slipsIn_4 lX5_189 fX5_doesReach vX5_doesReach (lay_s hT (k := 53) (q := (7, 35)) rfl) rfl (Nat.le_of_ble_eq_true rfl) rfl (Nat.le_of_ble_eq_true rfl) (wX5_doesReach (by omega) hT  h2) ?_
  refine A_if_ne (pc := 7) (w := 0) 12 dX5_slipsIn_7 (by decide) (fun cc3 => ?_) (fun cc3 => ?_)
  · have hf := oi_f cc3 hf
    refine A_aloadn (pc := 12) dX5_slipsIn_12 rfl ?_
    refine A_iloadn (pc := 13) dX5_slipsIn_13 rfl ?_
    refine A_iloadn (pc := 14) dX5_slipsIn_14 rfl ?_
    obtain ⟨q4, h5, hf⟩ := oi_b hf
    refine A_cV2i (mi2 := mX5_doesHold) (pc := 15) dX5_slipsIn_15 lX5_192 fX5_doesHold vX5_doesHold (lay_s hT (k := 53) (q := (7, 35)) rfl) rfl (Nat.le_of_ble_eq_true rfl) rfl (Nat.le_of_ble_eq_true rfl) (wX5_doesHold (by omega) hT  h5) ?_
    refine A_if_ne (pc := 18) (w := 0) 23 dX5_slipsIn_18 (by decide) (fun cc6 => ?_) (fun cc6 => ?_)
    · have hf := oi_f cc6 hf
      refine A_iloadn (pc := 23) dX5_slipsIn_23 rfl ?_
      refine A_if_lt (pc := 24) (w := 0) 46 dX5_slipsIn_24 (by decide) (fun cc7 => ?_) (fun cc7 => ?_)
      · have hf := oi_t cc7 hf
        refine A_iconst (pc := 46) (-1) dX5_slipsIn_46 rfl ?_
        obtain rfl := Option.some.inj hf
        exact A_iret (pc := 47) dX5_slipsIn_47 rfl rfl ⟨rfl, rfl, rfl⟩
      have hf := oi_f cc7 hf
      refine A_aloadn (pc := 27) dX5_slipsIn_27 rfl ?_
      refine A_getR (pc := 28) dX5_slipsIn_28 gX5_40 (lay_s hT (k := 53) (q := (7, 35)) rfl) (Nat.le_of_ble_eq_true rfl) rfl (lay_r hT 62 rfl) ?_
      refine A_bipush (pc := 31) 7 dX5_slipsIn_31 rfl ?_
      refine A_iloadn (pc := 33) dX5_slipsIn_33 rfl ?_
      refine A_imul (pc := 34) dX5_slipsIn_34 ?_
      refine A_iloadn (pc := 35) dX5_slipsIn_35 rfl ?_
      refine A_iadd (pc := 36) dX5_slipsIn_36 ?_
      obtain ⟨h8, hf⟩ := oi_cf hf
      refine A_iald (pc := 37) dX5_slipsIn_37 (lay_s hT (k := 64) (q := (0, 49)) rfl) (oob_f h8) ?_
      refine A_iconst (pc := 38) 1 dX5_slipsIn_38 rfl ?_
      refine A_icmp_ne (pc := 39) 46 dX5_slipsIn_39 (by decide) (fun cc9 => ?_) (fun cc9 => ?_)
      · have hf := oi_f cc9 hf
        refine A_iconst (pc := 46) (-1) dX5_slipsIn_46 rfl ?_
        obtain rfl := Option.some.inj hf
        exact A_iret (pc := 47) dX5_slipsIn_47 rfl rfl ⟨rfl, rfl, rfl⟩
      have hf := oi_t cc9 hf
      refine A_iconst (pc := 42) 3 dX5_slipsIn_42 rfl ?_
      refine A_goto (pc := 43) 47 dX5_slipsIn_43 (by decide) ?_
      obtain rfl := Option.some.inj hf
      exact A_iret (pc := 47) dX5_slipsIn_47 rfl rfl ⟨rfl, rfl, rfl⟩
    have hf := oi_t cc6 hf
    refine A_iconst (pc := 21) 2 dX5_slipsIn_21 rfl ?_
    obtain rfl := Option.some.inj hf
    exact A_iret (pc := 22) dX5_slipsIn_22 rfl rfl ⟨rfl, rfl, rfl⟩
  have hf := oi_t cc3 hf
  refine A_iconst (pc := 10) 1 dX5_slipsIn_10 rfl ?_
  obtain rfl := Option.some.inj hf
  exact A_iret (pc := 11) dX5_slipsIn_11 rfl rfl ⟨rfl, rfl, rfl⟩
def zX5_findSlip_L14 (n : Nat) (k : Int32 → MU → Option (MU)) : Nat → Int32 → MU → Option (MU)
  | 0, _, _ => none
  | m + 1, t1, u => if (u 53 12) ≤ t1 then (k t1 u) else (if 0 ≤ (u 53 27) then (k t1 u) else (if oob t1 5 then none else if 0 ≤ (u 57 t1.toNatClampNeg) then (if oob t1 5 then none else if t1 ≤ 0 then (Option.bind (zX5_slipsIn n u t1 (u 57 t1.toNatClampNeg) (-9)) (fun q9 => if q9 = (-1) then (zX5_findSlip_L14 n   k m (t1 + 1) u) else (letb (up2 u 53 27 t1) (fun u12 => letb (up2 u12 53 28 q9) (fun u13 => zX5_findSlip_L14 n   k m (t1 + 1) u13))))) else (if oob (t1 - 1) 5 then none else Option.bind (zX5_slipsIn n u t1 (u 57 t1.toNatClampNeg) (u 57 (t1 - 1).toNatClampNeg)) (fun q15 => if q15 = (-1) then (zX5_findSlip_L14 n   k m (t1 + 1) u) else (letb (up2 u 53 27 t1) (fun u18 => letb (up2 u18 53 28 q15) (fun u19 => zX5_findSlip_L14 n   k m (t1 + 1) u19)))))) else (letb (up2 u 53 27 t1) (fun u20 => letb (up2 u20 53 28 0) (fun u21 => zX5_findSlip_L14 n   k m (t1 + 1) u21)))))
def zX5_findSlip (n : Nat) (u : MU) : Option (MU) := letb (up2 u 53 27 (-9)) (fun u1 => letb (up2 u1 53 28 (-9)) (fun u2 => zX5_findSlip_L14 n   (fun y22 w23 => some w23) n 0 u2))
set_option maxHeartbeats 4000000 in
set_option maxRecDepth 100000 in
theorem wX5_findSlip_L14 {G : GG} {T : TT} {n d : Nat} (hd : 4 ≤ d) {k : Int32 → MU → Option (MU)} (hT : LAY T) (hk : ∀ (t1 : Int32) (u : MU) (q : MU), k t1 u = some q → AW G d mX5_findSlip 95 [.ref 53, .int t1, .null] [] T u 0 0 (QV T q)) : ∀ (m : Nat) (t1 : Int32) (u : MU) (q : MU), zX5_findSlip_L14 n  k m t1 u = some q → AW G d mX5_findSlip 14 [.ref 53, .int t1, .null] [] T u 0 0 (QV T q) := by
  intro m
  obtain ⟨d, rfl⟩ : ∃ e, d = e + 1 := ⟨d - 1, by omega⟩
  induction m with
  | zero =>
    intro t1 u q hf
    have h0 : (none : Option (MU)) = some q := hf
    cases h0
  | succ m ih =>
    intro t1 u q hf
    rw [zX5_findSlip_L14] at hf
    refine A_iloadn (pc := 14) dX5_findSlip_14 rfl ?_
    refine A_aloadn (pc := 15) dX5_findSlip_15 rfl ?_
    refine A_getI (pc := 16) dX5_findSlip_16 gX5_46 (lay_s hT (k := 53) (q := (7, 35)) rfl) (Nat.le_of_ble_eq_true rfl) rfl ?_
    refine A_icmp_ge (pc := 19) 95 dX5_findSlip_19 (by decide) (fun cc3 => ?_) (fun cc3 => ?_)
    · have hf := oi_t cc3 hf
      exact hk _ _ _ hf
    have hf := oi_f cc3 hf
    refine A_aloadn (pc := 22) dX5_findSlip_22 rfl ?_
    refine A_getI (pc := 23) dX5_findSlip_23 gX5_195 (lay_s hT (k := 53) (q := (7, 35)) rfl) (Nat.le_of_ble_eq_true rfl) rfl ?_
    refine A_if_ge (pc := 26) (w := 0) 95 dX5_findSlip_26 (by decide) (fun cc4 => ?_) (fun cc4 => ?_)
    · have hf := oi_t cc4 hf
      exact hk _ _ _ hf
    have hf := oi_f cc4 hf
    refine A_aloadn (pc := 29) dX5_findSlip_29 rfl ?_
    refine A_getR (pc := 30) dX5_findSlip_30 gX5_19 (lay_s hT (k := 53) (q := (7, 35)) rfl) (Nat.le_of_ble_eq_true rfl) rfl (lay_r hT 55 rfl) ?_
    refine A_iloadn (pc := 33) dX5_findSlip_33 rfl ?_
    obtain ⟨h5, hf⟩ := oi_cf hf
    refine A_iald (pc := 34) dX5_findSlip_34 (lay_s hT (k := 57) (q := (0, 5)) rfl) (oob_f h5) ?_
    refine A_if_ge (pc := 35) (w := 0) 42 dX5_findSlip_35 (by decide) (fun cc6 => ?_) (fun cc6 => ?_)
    · have hf := oi_t cc6 hf
      refine A_aloadn (pc := 42) dX5_findSlip_42 rfl ?_
      refine A_iloadn (pc := 43) dX5_findSlip_43 rfl ?_
      refine A_aloadn (pc := 44) dX5_findSlip_44 rfl ?_
      refine A_getR (pc := 45) dX5_findSlip_45 gX5_19 (lay_s hT (k := 53) (q := (7, 35)) rfl) (Nat.le_of_ble_eq_true rfl) rfl (lay_r hT 55 rfl) ?_
      refine A_iloadn (pc := 48) dX5_findSlip_48 rfl ?_
      obtain ⟨h7, hf⟩ := oi_cf hf
      refine A_iald (pc := 49) dX5_findSlip_49 (lay_s hT (k := 57) (q := (0, 5)) rfl) (oob_f h7) ?_
      refine A_iloadn (pc := 50) dX5_findSlip_50 rfl ?_
      refine A_if_le (pc := 51) (w := 0) 65 dX5_findSlip_51 (by decide) (fun cc8 => ?_) (fun cc8 => ?_)
      · have hf := oi_t cc8 hf
        refine A_bipush (pc := 65) (-9) dX5_findSlip_65 rfl ?_
        obtain ⟨q9, h10, hf⟩ := oi_b hf
        refine A_cV3i (mi2 := mX5_slipsIn) (pc := 67) dX5_findSlip_67 lX5_201 fX5_slipsIn vX5_slipsIn (lay_s hT (k := 53) (q := (7, 35)) rfl) rfl (Nat.le_of_ble_eq_true rfl) rfl (Nat.le_of_ble_eq_true rfl) (wX5_slipsIn (by omega) hT  h10) ?_
        refine A_istn (pc := 70) (L2 := [.ref 53, .int t1, .int q9]) dX5_findSlip_70 (Nat.le_of_ble_eq_true rfl) rfl ?_
        refine A_iloadn (pc := 71) dX5_findSlip_71 rfl ?_
        refine A_iconst (pc := 72) (-1) dX5_findSlip_72 rfl ?_
        refine A_icmp_ne (pc := 73) 79 dX5_findSlip_73 (by decide) (fun cc11 => ?_) (fun cc11 => ?_)
        · have hf := oi_f cc11 hf
          refine A_aloadn (pc := 79) dX5_findSlip_79 rfl ?_
          refine A_iloadn (pc := 80) dX5_findSlip_80 rfl ?_
          have hf := oi_l hf
          refine A_putI (pc := 81) dX5_findSlip_81 gX5_195 (lay_s hT (k := 53) (q := (7, 35)) rfl) (Nat.le_of_ble_eq_true rfl) rfl rfl rfl rfl ?_
          refine A_aloadn (pc := 84) dX5_findSlip_84 rfl ?_
          refine A_iloadn (pc := 85) dX5_findSlip_85 rfl ?_
          have hf := oi_l hf
          refine A_putI (pc := 86) dX5_findSlip_86 gX5_198 (lay_s hT (k := 53) (q := (7, 35)) rfl) (Nat.le_of_ble_eq_true rfl) rfl rfl rfl rfl ?_
          refine A_inc (pc := 89) (L2 := [.ref 53, .int (t1 + 1), .int q9]) (t1 + 1) dX5_findSlip_89 rfl rfl rfl ?_
          refine A_goto (pc := 92) 14 dX5_findSlip_92 (by decide) ?_
          refine A_fgt 2 (L' := [.ref 53, .int (t1 + 1), .null]) rfl ?_
          exact ih _ _ _ hf
        have hf := oi_t cc11 hf
        refine A_goto (pc := 76) 89 dX5_findSlip_76 (by decide) ?_
        refine A_inc (pc := 89) (L2 := [.ref 53, .int (t1 + 1), .int q9]) (t1 + 1) dX5_findSlip_89 rfl rfl rfl ?_
        refine A_goto (pc := 92) 14 dX5_findSlip_92 (by decide) ?_
        refine A_fgt 2 (L' := [.ref 53, .int (t1 + 1), .null]) rfl ?_
        exact ih _ _ _ hf
      have hf := oi_f cc8 hf
      refine A_aloadn (pc := 54) dX5_findSlip_54 rfl ?_
      refine A_getR (pc := 55) dX5_findSlip_55 gX5_19 (lay_s hT (k := 53) (q := (7, 35)) rfl) (Nat.le_of_ble_eq_true rfl) rfl (lay_r hT 55 rfl) ?_
      refine A_iloadn (pc := 58) dX5_findSlip_58 rfl ?_
      refine A_iconst (pc := 59) 1 dX5_findSlip_59 rfl ?_
      refine A_isub (pc := 60) dX5_findSlip_60 ?_
      obtain ⟨h14, hf⟩ := oi_cf hf
      refine A_iald (pc := 61) dX5_findSlip_61 (lay_s hT (k := 57) (q := (0, 5)) rfl) (oob_f h14) ?_
      refine A_goto (pc := 62) 67 dX5_findSlip_62 (by decide) ?_
      obtain ⟨q15, h16, hf⟩ := oi_b hf
      refine A_cV3i (mi2 := mX5_slipsIn) (pc := 67) dX5_findSlip_67 lX5_201 fX5_slipsIn vX5_slipsIn (lay_s hT (k := 53) (q := (7, 35)) rfl) rfl (Nat.le_of_ble_eq_true rfl) rfl (Nat.le_of_ble_eq_true rfl) (wX5_slipsIn (by omega) hT  h16) ?_
      refine A_istn (pc := 70) (L2 := [.ref 53, .int t1, .int q15]) dX5_findSlip_70 (Nat.le_of_ble_eq_true rfl) rfl ?_
      refine A_iloadn (pc := 71) dX5_findSlip_71 rfl ?_
      refine A_iconst (pc := 72) (-1) dX5_findSlip_72 rfl ?_
      refine A_icmp_ne (pc := 73) 79 dX5_findSlip_73 (by decide) (fun cc17 => ?_) (fun cc17 => ?_)
      · have hf := oi_f cc17 hf
        refine A_aloadn (pc := 79) dX5_findSlip_79 rfl ?_
        refine A_iloadn (pc := 80) dX5_findSlip_80 rfl ?_
        have hf := oi_l hf
        refine A_putI (pc := 81) dX5_findSlip_81 gX5_195 (lay_s hT (k := 53) (q := (7, 35)) rfl) (Nat.le_of_ble_eq_true rfl) rfl rfl rfl rfl ?_
        refine A_aloadn (pc := 84) dX5_findSlip_84 rfl ?_
        refine A_iloadn (pc := 85) dX5_findSlip_85 rfl ?_
        have hf := oi_l hf
        refine A_putI (pc := 86) dX5_findSlip_86 gX5_198 (lay_s hT (k := 53) (q := (7, 35)) rfl) (Nat.le_of_ble_eq_true rfl) rfl rfl rfl rfl ?_
        refine A_inc (pc := 89) (L2 := [.ref 53, .int (t1 + 1), .int q15]) (t1 + 1) dX5_findSlip_89 rfl rfl rfl ?_
        refine A_goto (pc := 92) 14 dX5_findSlip_92 (by decide) ?_
        refine A_fgt 2 (L' := [.ref 53, .int (t1 + 1), .null]) rfl ?_
        exact ih _ _ _ hf
      have hf := oi_t cc17 hf
      refine A_goto (pc := 76) 89 dX5_findSlip_76 (by decide) ?_
      refine A_inc (pc := 89) (L2 := [.ref 53, .int (t1 + 1), .int q15]) (t1 + 1) dX5_findSlip_89 rfl rfl rfl ?_
      refine A_goto (pc := 92) 14 dX5_findSlip_92 (by decide) ?_
      refine A_fgt 2 (L' := [.ref 53, .int (t1 + 1), .null]) rfl ?_
      exact ih _ _ _ hf
    have hf := oi_f cc6 hf
    refine A_iconst (pc := 38) 0 dX5_findSlip_38 rfl ?_
    refine A_goto (pc := 39) 70 dX5_findSlip_39 (by decide) ?_
    refine A_istn (pc := 70) (L2 := [.ref 53, .int t1, .int 0]) dX5_findSlip_70 (Nat.le_of_ble_eq_true rfl) rfl ?_
    refine A_iloadn (pc := 71) dX5_findSlip_71 rfl ?_
    refine A_iconst (pc := 72) (-1) dX5_findSlip_72 rfl ?_
    refine A_icmp_ne (pc := 73) 79 dX5_findSlip_73 (by decide) (fun _ => ?_) (fun c9 => absurd c9 (by decide))
    refine A_aloadn (pc := 79) dX5_findSlip_79 rfl ?_
    refine A_iloadn (pc := 80) dX5_findSlip_80 rfl ?_
    have hf := oi_l hf
    refine A_putI (pc := 81) dX5_findSlip_81 gX5_195 (lay_s hT (k := 53) (q := (7, 35)) rfl) (Nat.le_of_ble_eq_true rfl) rfl rfl rfl rfl ?_
    refine A_aloadn (pc := 84) dX5_findSlip_84 rfl ?_
    refine A_iloadn (pc := 85) dX5_findSlip_85 rfl ?_
    have hf := oi_l hf
    refine A_putI (pc := 86) dX5_findSlip_86 gX5_198 (lay_s hT (k := 53) (q := (7, 35)) rfl) (Nat.le_of_ble_eq_true rfl) rfl rfl rfl rfl ?_
    refine A_inc (pc := 89) (L2 := [.ref 53, .int (t1 + 1), .int 0]) (t1 + 1) dX5_findSlip_89 rfl rfl rfl ?_
    refine A_goto (pc := 92) 14 dX5_findSlip_92 (by decide) ?_
    refine A_fgt 2 (L' := [.ref 53, .int (t1 + 1), .null]) rfl ?_
    exact ih _ _ _ hf
set_option maxHeartbeats 4000000 in
set_option maxRecDepth 100000 in
theorem wX5_findSlip {G : GG} {T : TT} {n d : Nat} (hd : 4 ≤ d) {q : MU} {u : MU} (hT : LAY T) (hf : zX5_findSlip n u = some q) : AW G d mX5_findSlip 0 [.ref 53, .null, .null] [] T u 0 0 (QV T q) := by
  obtain ⟨d, rfl⟩ : ∃ e, d = e + 1 := ⟨d - 1, by omega⟩
  rw [zX5_findSlip] at hf
  refine A_aloadn (pc := 0) dX5_findSlip_0 rfl ?_
  refine A_bipush (pc := 1) (-9) dX5_findSlip_1 rfl ?_
  have hf := oi_l hf
  refine A_putI (pc := 3) dX5_findSlip_3 gX5_195 (lay_s hT (k := 53) (q := (7, 35)) rfl) (Nat.le_of_ble_eq_true rfl) rfl rfl rfl rfl ?_
  refine A_aloadn (pc := 6) dX5_findSlip_6 rfl ?_
  refine A_bipush (pc := 7) (-9) dX5_findSlip_7 rfl ?_
  have hf := oi_l hf
  refine A_putI (pc := 9) dX5_findSlip_9 gX5_198 (lay_s hT (k := 53) (q := (7, 35)) rfl) (Nat.le_of_ble_eq_true rfl) rfl rfl rfl rfl ?_
  refine A_iconst (pc := 12) 0 dX5_findSlip_12 rfl ?_
  refine A_istn (pc := 13) (L2 := [.ref 53, .int 0, .null]) dX5_findSlip_13 (Nat.le_of_ble_eq_true rfl) rfl ?_
  exact wX5_findSlip_L14 (by omega) hT  (fun y22 w23 q0 hf => by
    obtain rfl := Option.some.inj hf
    exact A_vret (pc := 95) dX5_findSlip_95 rfl ⟨rfl, rfl, rfl⟩) _ _ _ _ hf
def zX5_doesStand (n : Nat) (u : MU) : Option (Int32 × MU) := Option.bind (zX5_findSlip n u) (fun q1 => if 0 ≤ (q1 53 27) then (some (0, q1)) else (some (1, q1)))
set_option maxHeartbeats 4000000 in
set_option maxRecDepth 100000 in
theorem wX5_doesStand {G : GG} {T : TT} {n d : Nat} (hd : 5 ≤ d) {q : Int32 × MU} {u : MU} (hT : LAY T) (hf : zX5_doesStand n u = some q) : AW G d mX5_doesStand 0 [.ref 53] [] T u 0 0 (QS T q.1 q.2) := by
  obtain ⟨d, rfl⟩ : ∃ e, d = e + 1 := ⟨d - 1, by omega⟩
  rw [zX5_doesStand] at hf
  refine A_aloadn (pc := 0) dX5_doesStand_0 rfl ?_
  obtain ⟨q1, h2, hf⟩ := oi_b hf
  refine A_cV0v (mi2 := mX5_findSlip) (pc := 1) dX5_doesStand_1 lX5_204 fX5_findSlip vX5_findSlip (lay_s hT (k := 53) (q := (7, 35)) rfl) rfl (Nat.le_of_ble_eq_true rfl) rfl (Nat.le_of_ble_eq_true rfl) (wX5_findSlip (by omega) hT  h2) ?_
  refine A_aloadn (pc := 4) dX5_doesStand_4 rfl ?_
  refine A_getI (pc := 5) dX5_doesStand_5 gX5_195 (lay_s hT (k := 53) (q := (7, 35)) rfl) (Nat.le_of_ble_eq_true rfl) rfl ?_
  refine A_if_ge (pc := 8) (w := 0) 15 dX5_doesStand_8 (by decide) (fun cc3 => ?_) (fun cc3 => ?_)
  · have hf := oi_t cc3 hf
    refine A_iconst (pc := 15) 0 dX5_doesStand_15 rfl ?_
    obtain rfl := Option.some.inj hf
    exact A_iret (pc := 16) dX5_doesStand_16 rfl rfl ⟨rfl, rfl, rfl⟩
  have hf := oi_f cc3 hf
  refine A_iconst (pc := 11) 1 dX5_doesStand_11 rfl ?_
  refine A_goto (pc := 12) 16 dX5_doesStand_12 (by decide) ?_
  obtain rfl := Option.some.inj hf
  exact A_iret (pc := 16) dX5_doesStand_16 rfl rfl ⟨rfl, rfl, rfl⟩
def zX5_lastsNow_L5 (n : Nat) (u : MU) (k : Int32 → Int32 → Option (Int32)) : Nat → Int32 → Int32 → Option (Int32)
  | 0, _, _ => none
  | m + 1, t1, t2 => if (u 53 12) ≤ t2 then (k t1 t2) else (if oob t2 5 then none else if oob (u 57 t2.toNatClampNeg) 7 then none else if oob t2 5 then none else Option.bind (zX5_coolOf n u (u 57 t2.toNatClampNeg)) (fun q5 => if q5 = 0 then none else Option.bind (zX5_least n u t1 ((u 62 (u 57 t2.toNatClampNeg).toNatClampNeg) / q5)) (fun q8 => zX5_lastsNow_L5 n u   k m q8 (t2 + 1))))
def zX5_lastsNow (n : Nat) (u : MU) : Option (Int32) := zX5_lastsNow_L5 n u   (fun y10 y11 => some y10) n 99 0
set_option maxHeartbeats 4000000 in
set_option maxRecDepth 100000 in
theorem wX5_lastsNow_L5 {G : GG} {T : TT} {n d : Nat} (hd : 1 ≤ d) {u : MU} {k : Int32 → Int32 → Option (Int32)} (hT : LAY T) (hk : ∀ (t1 : Int32) (t2 : Int32) (q : Int32), k t1 t2 = some q → AW G d mX5_lastsNow 46 [.ref 53, .int t1, .int t2] [] T u 0 0 (QS T q u)) : ∀ (m : Nat) (t1 : Int32) (t2 : Int32) (q : Int32), zX5_lastsNow_L5 n u  k m t1 t2 = some q → AW G d mX5_lastsNow 5 [.ref 53, .int t1, .int t2] [] T u 0 0 (QS T q u) := by
  intro m
  obtain ⟨d, rfl⟩ : ∃ e, d = e + 1 := ⟨d - 1, by omega⟩
  induction m with
  | zero =>
    intro t1 t2 q hf
    have h0 : (none : Option (Int32)) = some q := hf
    cases h0
  | succ m ih =>
    intro t1 t2 q hf
    rw [zX5_lastsNow_L5] at hf
    refine A_iloadn (pc := 5) dX5_lastsNow_5 rfl ?_
    refine A_aloadn (pc := 6) dX5_lastsNow_6 rfl ?_
    refine A_getI (pc := 7) dX5_lastsNow_7 gX5_46 (lay_s hT (k := 53) (q := (7, 35)) rfl) (Nat.le_of_ble_eq_true rfl) rfl ?_
    refine A_icmp_ge (pc := 10) 46 dX5_lastsNow_10 (by decide) (fun cc1 => ?_) (fun cc1 => ?_)
    · have hf := oi_t cc1 hf
      exact hk _ _ _ hf
    have hf := oi_f cc1 hf
    refine A_iloadn (pc := 13) dX5_lastsNow_13 rfl ?_
    refine A_aloadn (pc := 14) dX5_lastsNow_14 rfl ?_
    refine A_getR (pc := 15) dX5_lastsNow_15 gX5_34 (lay_s hT (k := 53) (q := (7, 35)) rfl) (Nat.le_of_ble_eq_true rfl) rfl (lay_r hT 60 rfl) ?_
    refine A_aloadn (pc := 18) dX5_lastsNow_18 rfl ?_
    refine A_getR (pc := 19) dX5_lastsNow_19 gX5_19 (lay_s hT (k := 53) (q := (7, 35)) rfl) (Nat.le_of_ble_eq_true rfl) rfl (lay_r hT 55 rfl) ?_
    refine A_iloadn (pc := 22) dX5_lastsNow_22 rfl ?_
    obtain ⟨h2, hf⟩ := oi_cf hf
    refine A_iald (pc := 23) dX5_lastsNow_23 (lay_s hT (k := 57) (q := (0, 5)) rfl) (oob_f h2) ?_
    obtain ⟨h3, hf⟩ := oi_cf hf
    refine A_iald (pc := 24) dX5_lastsNow_24 (lay_s hT (k := 62) (q := (0, 7)) rfl) (oob_f h3) ?_
    refine A_aloadn (pc := 25) dX5_lastsNow_25 rfl ?_
    refine A_aloadn (pc := 26) dX5_lastsNow_26 rfl ?_
    refine A_getR (pc := 27) dX5_lastsNow_27 gX5_19 (lay_s hT (k := 53) (q := (7, 35)) rfl) (Nat.le_of_ble_eq_true rfl) rfl (lay_r hT 55 rfl) ?_
    refine A_iloadn (pc := 30) dX5_lastsNow_30 rfl ?_
    obtain ⟨h4, hf⟩ := oi_cf hf
    refine A_iald (pc := 31) dX5_lastsNow_31 (lay_s hT (k := 57) (q := (0, 5)) rfl) (oob_f h4) ?_
    obtain ⟨q5, h6, hf⟩ := oi_b hf
    refine A_cV1i (mi2 := mX5_coolOf) (pc := 32) dX5_lastsNow_32 lX5_173 fX5_coolOf vX5_coolOf (lay_s hT (k := 53) (q := (7, 35)) rfl) rfl (Nat.le_of_ble_eq_true rfl) rfl (Nat.le_of_ble_eq_true rfl) (wX5_coolOf (by omega) hT  h6) ?_
    obtain ⟨h7, hf⟩ := oi_cf hf
    refine A_idiv (pc := 35) dX5_lastsNow_35 h7 ?_
    obtain ⟨q8, h9, hf⟩ := oi_b hf
    refine A_cS2i (mi2 := mX5_least) (pc := 36) dX5_lastsNow_36 lX5_182 fX5_least sX5_least (Nat.le_of_ble_eq_true rfl) rfl (Nat.le_of_ble_eq_true rfl) (wX5_least (by omega) hT  h9) ?_
    refine A_istn (pc := 39) (L2 := [.ref 53, .int q8, .int t2]) dX5_lastsNow_39 (Nat.le_of_ble_eq_true rfl) rfl ?_
    refine A_inc (pc := 40) (L2 := [.ref 53, .int q8, .int (t2 + 1)]) (t2 + 1) dX5_lastsNow_40 rfl rfl rfl ?_
    refine A_goto (pc := 43) 5 dX5_lastsNow_43 (by decide) ?_
    exact ih _ _ _ hf
set_option maxHeartbeats 4000000 in
set_option maxRecDepth 100000 in
theorem wX5_lastsNow {G : GG} {T : TT} {n d : Nat} (hd : 1 ≤ d) {q : Int32} {u : MU} (hT : LAY T) (hf : zX5_lastsNow n u = some q) : AW G d mX5_lastsNow 0 [.ref 53, .null, .null] [] T u 0 0 (QS T q u) := by
  obtain ⟨d, rfl⟩ : ∃ e, d = e + 1 := ⟨d - 1, by omega⟩
  rw [zX5_lastsNow] at hf
  refine A_bipush (pc := 0) 99 dX5_lastsNow_0 rfl ?_
  refine A_istn (pc := 2) (L2 := [.ref 53, .int 99, .null]) dX5_lastsNow_2 (Nat.le_of_ble_eq_true rfl) rfl ?_
  refine A_iconst (pc := 3) 0 dX5_lastsNow_3 rfl ?_
  refine A_istn (pc := 4) (L2 := [.ref 53, .int 99, .int 0]) dX5_lastsNow_4 (Nat.le_of_ble_eq_true rfl) rfl ?_
  exact wX5_lastsNow_L5 (by omega) hT  (fun y10 y11 q0 hf => by
    refine A_iloadn (pc := 46) dX5_lastsNow_46 rfl ?_
    obtain rfl := Option.some.inj hf
    exact A_iret (pc := 47) dX5_lastsNow_47 rfl rfl ⟨rfl, rfl, rfl⟩) _ _ _ _ hf
def zX5_slips (n : Nat) (u : MU) (a1 : Int32) : Option (Int32 × MU) := Option.bind (zX5_isIn n u a1 0 1) (fun q1 => if q1 = 0 then (Option.bind (zX5_no n u (-2)) (fun q7 => some (q7.1, q7.2))) else (Option.bind (zX5_findSlip n u) (fun q4 => if a1 = 0 then (some ((q4 53 27), q4)) else (some ((q4 53 28), q4)))))
set_option maxHeartbeats 4000000 in
set_option maxRecDepth 100000 in
theorem wX5_slips {G : GG} {T : TT} {n d : Nat} (hd : 5 ≤ d) {q : Int32 × MU} {u : MU} {a1 : Int32} (hT : LAY T) (hf : zX5_slips n u a1 = some q) : AW G d mX5_slips 0 [.ref 53, .int a1] [] T u 0 0 (QS T q.1 q.2) := by
  obtain ⟨d, rfl⟩ : ∃ e, d = e + 1 := ⟨d - 1, by omega⟩
  rw [zX5_slips] at hf
  refine A_iloadn (pc := 0) dX5_slips_0 rfl ?_
  refine A_iconst (pc := 1) 0 dX5_slips_1 rfl ?_
  refine A_iconst (pc := 2) 1 dX5_slips_2 rfl ?_
  obtain ⟨q1, h2, hf⟩ := oi_b hf
  refine A_cS3i (mi2 := mX5_isIn) (pc := 3) dX5_slips_3 lX5_103 fX5_isIn sX5_isIn (Nat.le_of_ble_eq_true rfl) rfl (Nat.le_of_ble_eq_true rfl) (wX5_isIn (by omega) hT  h2) ?_
  refine A_if_ne (pc := 6) (w := 0) 16 dX5_slips_6 (by decide) (fun cc3 => ?_) (fun cc3 => ?_)
  · have hf := oi_f cc3 hf
    refine A_aloadn (pc := 16) dX5_slips_16 rfl ?_
    obtain ⟨q4, h5, hf⟩ := oi_b hf
    refine A_cV0v (mi2 := mX5_findSlip) (pc := 17) dX5_slips_17 lX5_204 fX5_findSlip vX5_findSlip (lay_s hT (k := 53) (q := (7, 35)) rfl) rfl (Nat.le_of_ble_eq_true rfl) rfl (Nat.le_of_ble_eq_true rfl) (wX5_findSlip (by omega) hT  h5) ?_
    refine A_iloadn (pc := 20) dX5_slips_20 rfl ?_
    refine A_if_ne (pc := 21) (w := 0) 31 dX5_slips_21 (by decide) (fun cc6 => ?_) (fun cc6 => ?_)
    · have hf := oi_f cc6 hf
      refine A_aloadn (pc := 31) dX5_slips_31 rfl ?_
      refine A_getI (pc := 32) dX5_slips_32 gX5_198 (lay_s hT (k := 53) (q := (7, 35)) rfl) (Nat.le_of_ble_eq_true rfl) rfl ?_
      obtain rfl := Option.some.inj hf
      exact A_iret (pc := 35) dX5_slips_35 rfl rfl ⟨rfl, rfl, rfl⟩
    have hf := oi_t cc6 hf
    refine A_aloadn (pc := 24) dX5_slips_24 rfl ?_
    refine A_getI (pc := 25) dX5_slips_25 gX5_195 (lay_s hT (k := 53) (q := (7, 35)) rfl) (Nat.le_of_ble_eq_true rfl) rfl ?_
    refine A_goto (pc := 28) 35 dX5_slips_28 (by decide) ?_
    obtain rfl := Option.some.inj hf
    exact A_iret (pc := 35) dX5_slips_35 rfl rfl ⟨rfl, rfl, rfl⟩
  have hf := oi_t cc3 hf
  refine A_aloadn (pc := 9) dX5_slips_9 rfl ?_
  refine A_bipush (pc := 10) (-2) dX5_slips_10 rfl ?_
  obtain ⟨q7, h8, hf⟩ := oi_b hf
  refine A_cV1i (mi2 := mX5_no) (pc := 12) dX5_slips_12 lX5_92 fX5_no vX5_no (lay_s hT (k := 53) (q := (7, 35)) rfl) rfl (Nat.le_of_ble_eq_true rfl) rfl (Nat.le_of_ble_eq_true rfl) (wX5_no (by omega) hT  h8) ?_
  obtain rfl := Option.some.inj hf
  exact A_iret (pc := 15) dX5_slips_15 rfl rfl ⟨rfl, rfl, rfl⟩
