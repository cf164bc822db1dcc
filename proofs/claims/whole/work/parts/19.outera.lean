def zX4_refuse (n : Nat) (u : MU) (a1 : Int32) : Option (Int32 × MU) := if oob (-a1) 7 then none else if oob (-a1) 7 then none else letb (up2 u 52 (-a1).toNatClampNeg ((u 52 (-a1).toNatClampNeg) + 1)) (fun u3 => some (a1, u3))
set_option maxHeartbeats 4000000 in
set_option maxRecDepth 100000 in
theorem wX4_refuse {G : GG} {T : TT} {n d : Nat} (hd : 0 ≤ d) {q : Int32 × MU} {u : MU} {a1 : Int32} (hT : LAY T) (hf : zX4_refuse n u a1 = some q) : AW G d mX4_refuse 0 [.ref 0, .int a1] [] T u 0 0 (QS T q.1 q.2) := by
  rw [zX4_refuse] at hf
  refine A_aloadn (pc := 0) dX4_refuse_0 rfl ?_
  refine A_getR (pc := 1) dX4_refuse_1 gX4_48 (lay_s hT (k := 0) (q := (6, 9)) rfl) (Nat.le_of_ble_eq_true rfl) rfl (lay_r hT 51 rfl) ?_
  refine A_iloadn (pc := 4) dX4_refuse_4 rfl ?_
  refine A_ineg (pc := 5) dX4_refuse_5 ?_
  refine A_dup2 (pc := 6) dX4_refuse_6 ?_
  obtain ⟨h1, hf⟩ := oi_cf hf
  refine A_iald (pc := 7) dX4_refuse_7 (lay_s hT (k := 52) (q := (0, 7)) rfl) (oob_f h1) ?_
  refine A_iconst (pc := 8) 1 dX4_refuse_8 rfl ?_
  refine A_iadd (pc := 9) dX4_refuse_9 ?_
  obtain ⟨h2, hf⟩ := oi_cf hf
  have hf := oi_l hf
  refine A_iast (pc := 10) dX4_refuse_10 (lay_s hT (k := 52) (q := (0, 7)) rfl) (oob_f h2) ?_
  refine A_iloadn (pc := 11) dX4_refuse_11 rfl ?_
  obtain rfl := Option.some.inj hf
  exact A_iret (pc := 12) dX4_refuse_12 rfl rfl ⟨rfl, rfl, rfl⟩
def zX4_feed (n : Nat) (u : MU) (a1 : Int32) : Option (Int32 × MU) := if 0 ≤ a1 then (if 255 < a1 then (Option.bind (zX4_refuse n u (-6)) (fun q3 => some (q3.1, q3.2))) else (if (u 43 1) < 80 then (Option.bind (zX0_take n u a1) (fun q6 => some ((q6 43 1), q6))) else (Option.bind (zX4_refuse n u (-6)) (fun q8 => some (q8.1, q8.2))))) else (Option.bind (zX4_refuse n u (-4)) (fun q10 => some (q10.1, q10.2)))
set_option maxHeartbeats 4000000 in
set_option maxRecDepth 100000 in
theorem wX4_feed {G : GG} {T : TT} {n d : Nat} (hd : 1 ≤ d) {q : Int32 × MU} {u : MU} {a1 : Int32} (hT : LAY T) (hf : zX4_feed n u a1 = some q) : AW G d mX4_feed 0 [.ref 0, .int a1] [] T u 0 0 (QS T q.1 q.2) := by
  obtain ⟨d, rfl⟩ : ∃ e, d = e + 1 := ⟨d - 1, by omega⟩
  rw [zX4_feed] at hf
  refine A_iloadn (pc := 0) dX4_feed_0 rfl ?_
  refine A_if_ge (pc := 1) (w := 0) 11 dX4_feed_1 (by decide) (fun cc1 => ?_) (fun cc1 => ?_)
  · have hf := oi_t cc1 hf
    refine A_iloadn (pc := 11) dX4_feed_11 rfl ?_
    refine A_sipush (pc := 12) 255 dX4_feed_12 rfl ?_
    refine A_icmp_gt (pc := 15) 30 dX4_feed_15 (by decide) (fun cc2 => ?_) (fun cc2 => ?_)
    · have hf := oi_t cc2 hf
      refine A_aloadn (pc := 30) dX4_feed_30 rfl ?_
      refine A_bipush (pc := 31) (-6) dX4_feed_31 rfl ?_
      obtain ⟨q3, h4, hf⟩ := oi_b hf
      refine A_cV1i (mi2 := mX4_refuse) (pc := 33) dX4_feed_33 lX4_51 fX4_refuse vX4_refuse (lay_s hT (k := 0) (q := (6, 9)) rfl) rfl (Nat.le_of_ble_eq_true rfl) rfl (Nat.le_of_ble_eq_true rfl) (wX4_refuse (by omega) hT  h4) ?_
      obtain rfl := Option.some.inj hf
      exact A_iret (pc := 36) dX4_feed_36 rfl rfl ⟨rfl, rfl, rfl⟩
    have hf := oi_f cc2 hf
    refine A_aloadn (pc := 18) dX4_feed_18 rfl ?_
    refine A_getR (pc := 19) dX4_feed_19 gX4_29 (lay_s hT (k := 0) (q := (6, 9)) rfl) (Nat.le_of_ble_eq_true rfl) rfl (lay_r hT 43 rfl) ?_
    refine A_getI (pc := 22) dX4_feed_22 gX4_55 (lay_s hT (k := 43) (q := (2, 2)) rfl) (Nat.le_of_ble_eq_true rfl) rfl ?_
    refine A_bipush (pc := 25) 80 dX4_feed_25 rfl ?_
    refine A_icmp_lt (pc := 27) 37 dX4_feed_27 (by decide) (fun cc5 => ?_) (fun cc5 => ?_)
    · have hf := oi_t cc5 hf
      refine A_aloadn (pc := 37) dX4_feed_37 rfl ?_
      refine A_getR (pc := 38) dX4_feed_38 gX4_29 (lay_s hT (k := 0) (q := (6, 9)) rfl) (Nat.le_of_ble_eq_true rfl) rfl (lay_r hT 43 rfl) ?_
      refine A_iloadn (pc := 41) dX4_feed_41 rfl ?_
      obtain ⟨q6, h7, hf⟩ := oi_b hf
      refine A_cV1v (mi2 := mX0_take) (pc := 42) dX4_feed_42 lX4_58 fX0_take vX0_take (lay_s hT (k := 43) (q := (2, 2)) rfl) rfl (Nat.le_of_ble_eq_true rfl) rfl (Nat.le_of_ble_eq_true rfl) (wX0_take (by omega) hT  h7) ?_
      refine A_aloadn (pc := 45) dX4_feed_45 rfl ?_
      refine A_getR (pc := 46) dX4_feed_46 gX4_29 (lay_s hT (k := 0) (q := (6, 9)) rfl) (Nat.le_of_ble_eq_true rfl) rfl (lay_r hT 43 rfl) ?_
      refine A_getI (pc := 49) dX4_feed_49 gX4_55 (lay_s hT (k := 43) (q := (2, 2)) rfl) (Nat.le_of_ble_eq_true rfl) rfl ?_
      obtain rfl := Option.some.inj hf
      exact A_iret (pc := 52) dX4_feed_52 rfl rfl ⟨rfl, rfl, rfl⟩
    have hf := oi_f cc5 hf
    refine A_aloadn (pc := 30) dX4_feed_30 rfl ?_
    refine A_bipush (pc := 31) (-6) dX4_feed_31 rfl ?_
    obtain ⟨q8, h9, hf⟩ := oi_b hf
    refine A_cV1i (mi2 := mX4_refuse) (pc := 33) dX4_feed_33 lX4_51 fX4_refuse vX4_refuse (lay_s hT (k := 0) (q := (6, 9)) rfl) rfl (Nat.le_of_ble_eq_true rfl) rfl (Nat.le_of_ble_eq_true rfl) (wX4_refuse (by omega) hT  h9) ?_
    obtain rfl := Option.some.inj hf
    exact A_iret (pc := 36) dX4_feed_36 rfl rfl ⟨rfl, rfl, rfl⟩
  have hf := oi_f cc1 hf
  refine A_aloadn (pc := 4) dX4_feed_4 rfl ?_
  refine A_bipush (pc := 5) (-4) dX4_feed_5 rfl ?_
  obtain ⟨q10, h11, hf⟩ := oi_b hf
  refine A_cV1i (mi2 := mX4_refuse) (pc := 7) dX4_feed_7 lX4_51 fX4_refuse vX4_refuse (lay_s hT (k := 0) (q := (6, 9)) rfl) rfl (Nat.le_of_ble_eq_true rfl) rfl (Nat.le_of_ble_eq_true rfl) (wX4_refuse (by omega) hT  h11) ?_
  obtain rfl := Option.some.inj hf
  exact A_iret (pc := 10) dX4_feed_10 rfl rfl ⟨rfl, rfl, rfl⟩
def zX4_tellRiver (n : Nat) (u : MU) : Option (Int32 × MU) := Option.bind (zX0_firstWrong n u) (fun q1 => if q1 = (-9) then (Option.bind (zX3_copyFrom n u 15 1) (fun q4 => Option.bind (zX0_tellTo n q4 15) (fun q6 => letb q6.1 (fun x8 => if x8 < 0 then (some (x8, q6.2)) else (Option.bind (zX3_copyFrom n q6.2 1 15) (fun q10 => some (x8, q10))))))) else (some (((-1000) - q1), u)))
set_option maxHeartbeats 4000000 in
set_option maxRecDepth 100000 in
theorem wX4_tellRiver {G : GG} {T : TT} {n d : Nat} (hd : 6 ≤ d) {q : Int32 × MU} {u : MU} (hT : LAY T) (hf : zX4_tellRiver n u = some q) : AW G d mX4_tellRiver 0 [.ref 0, .null, .null] [] T u 0 0 (QS T q.1 q.2) := by
  obtain ⟨d, rfl⟩ : ∃ e, d = e + 1 := ⟨d - 1, by omega⟩
  rw [zX4_tellRiver] at hf
  refine A_aloadn (pc := 0) dX4_tellRiver_0 rfl ?_
  refine A_getR (pc := 1) dX4_tellRiver_1 gX4_29 (lay_s hT (k := 0) (q := (6, 9)) rfl) (Nat.le_of_ble_eq_true rfl) rfl (lay_r hT 43 rfl) ?_
  obtain ⟨q1, h2, hf⟩ := oi_b hf
  refine A_cV0i (mi2 := mX0_firstWrong) (pc := 4) dX4_tellRiver_4 lX4_244 fX0_firstWrong vX0_firstWrong (lay_s hT (k := 43) (q := (2, 2)) rfl) rfl (Nat.le_of_ble_eq_true rfl) rfl (Nat.le_of_ble_eq_true rfl) (wX0_firstWrong (by omega) hT  h2) ?_
  refine A_istn (pc := 7) (L2 := [.ref 0, .int q1, .null]) dX4_tellRiver_7 (Nat.le_of_ble_eq_true rfl) rfl ?_
  refine A_iloadn (pc := 8) dX4_tellRiver_8 rfl ?_
  refine A_bipush (pc := 9) (-9) dX4_tellRiver_9 rfl ?_
  refine A_icmp_eq (pc := 11) 20 dX4_tellRiver_11 (by decide) (fun cc3 => ?_) (fun cc3 => ?_)
  · have hf := oi_t cc3 hf
    refine A_aloadn (pc := 20) dX4_tellRiver_20 rfl ?_
    refine A_getR (pc := 21) dX4_tellRiver_21 gX4_16 (lay_s hT (k := 0) (q := (6, 9)) rfl) (Nat.le_of_ble_eq_true rfl) rfl (lay_r hT 27 rfl) ?_
    refine A_aloadn (pc := 24) dX4_tellRiver_24 rfl ?_
    refine A_getR (pc := 25) dX4_tellRiver_25 gX4_10 (lay_s hT (k := 0) (q := (6, 9)) rfl) (Nat.le_of_ble_eq_true rfl) rfl (lay_r hT 13 rfl) ?_
    obtain ⟨q4, h5, hf⟩ := oi_b hf
    refine A_cV1v (mi2 := mX3_copyFrom) (pc := 28) dX4_tellRiver_28 lX4_191 fX3_copyFrom vX3_copyFrom (rv_0 (lay_rv15 hT)) rfl (Nat.le_of_ble_eq_true rfl) rfl (Nat.le_of_ble_eq_true rfl) (wX3_copyFrom (by omega) hT (lay_rv15 hT) (lay_rv1 hT) h5) ?_
    refine A_aloadn (pc := 31) dX4_tellRiver_31 rfl ?_
    refine A_getR (pc := 32) dX4_tellRiver_32 gX4_29 (lay_s hT (k := 0) (q := (6, 9)) rfl) (Nat.le_of_ble_eq_true rfl) rfl (lay_r hT 43 rfl) ?_
    refine A_aloadn (pc := 35) dX4_tellRiver_35 rfl ?_
    refine A_getR (pc := 36) dX4_tellRiver_36 gX4_16 (lay_s hT (k := 0) (q := (6, 9)) rfl) (Nat.le_of_ble_eq_true rfl) rfl (lay_r hT 27 rfl) ?_
    obtain ⟨q6, h7, hf⟩ := oi_b hf
    refine A_cV1i (mi2 := mX0_tellTo) (pc := 39) dX4_tellRiver_39 lX4_247 fX0_tellTo vX0_tellTo (lay_s hT (k := 43) (q := (2, 2)) rfl) rfl (Nat.le_of_ble_eq_true rfl) rfl (Nat.le_of_ble_eq_true rfl) (wX0_tellTo (by omega) hT (lay_rv15 hT) h7) ?_
    have hf := oi_l hf
    refine A_istn (pc := 42) (L2 := [.ref 0, .int q1, .int q6.1]) dX4_tellRiver_42 (Nat.le_of_ble_eq_true rfl) rfl ?_
    refine A_iloadn (pc := 43) dX4_tellRiver_43 rfl ?_
    refine A_if_lt (pc := 44) (w := 0) 58 dX4_tellRiver_44 (by decide) (fun cc9 => ?_) (fun cc9 => ?_)
    · have hf := oi_t cc9 hf
      refine A_iloadn (pc := 58) dX4_tellRiver_58 rfl ?_
      obtain rfl := Option.some.inj hf
      exact A_iret (pc := 59) dX4_tellRiver_59 rfl rfl ⟨rfl, rfl, rfl⟩
    have hf := oi_f cc9 hf
    refine A_aloadn (pc := 47) dX4_tellRiver_47 rfl ?_
    refine A_getR (pc := 48) dX4_tellRiver_48 gX4_10 (lay_s hT (k := 0) (q := (6, 9)) rfl) (Nat.le_of_ble_eq_true rfl) rfl (lay_r hT 13 rfl) ?_
    refine A_aloadn (pc := 51) dX4_tellRiver_51 rfl ?_
    refine A_getR (pc := 52) dX4_tellRiver_52 gX4_16 (lay_s hT (k := 0) (q := (6, 9)) rfl) (Nat.le_of_ble_eq_true rfl) rfl (lay_r hT 27 rfl) ?_
    obtain ⟨q10, h11, hf⟩ := oi_b hf
    refine A_cV1v (mi2 := mX3_copyFrom) (pc := 55) dX4_tellRiver_55 lX4_191 fX3_copyFrom vX3_copyFrom (rv_0 (lay_rv1 hT)) rfl (Nat.le_of_ble_eq_true rfl) rfl (Nat.le_of_ble_eq_true rfl) (wX3_copyFrom (by omega) hT (lay_rv1 hT) (lay_rv15 hT) h11) ?_
    refine A_iloadn (pc := 58) dX4_tellRiver_58 rfl ?_
    obtain rfl := Option.some.inj hf
    exact A_iret (pc := 59) dX4_tellRiver_59 rfl rfl ⟨rfl, rfl, rfl⟩
  have hf := oi_f cc3 hf
  refine A_sipush (pc := 14) (-1000) dX4_tellRiver_14 rfl ?_
  refine A_iloadn (pc := 17) dX4_tellRiver_17 rfl ?_
  refine A_isub (pc := 18) dX4_tellRiver_18 ?_
  obtain rfl := Option.some.inj hf
  exact A_iret (pc := 19) dX4_tellRiver_19 rfl rfl ⟨rfl, rfl, rfl⟩
def zX4_river (n : Nat) (u : MU) : Option (Int32 × MU) := Option.bind (zX4_tellRiver n u) (fun q1 => letb q1.1 (fun x3 => letb (up2 q1.2 43 1 0) (fun u4 => some (x3, u4))))
set_option maxHeartbeats 4000000 in
set_option maxRecDepth 100000 in
theorem wX4_river {G : GG} {T : TT} {n d : Nat} (hd : 7 ≤ d) {q : Int32 × MU} {u : MU} (hT : LAY T) (hf : zX4_river n u = some q) : AW G d mX4_river 0 [.ref 0, .null] [] T u 0 0 (QS T q.1 q.2) := by
  obtain ⟨d, rfl⟩ : ∃ e, d = e + 1 := ⟨d - 1, by omega⟩
  rw [zX4_river] at hf
  refine A_aloadn (pc := 0) dX4_river_0 rfl ?_
  obtain ⟨q1, h2, hf⟩ := oi_b hf
  refine A_cV0i (mi2 := mX4_tellRiver) (pc := 1) dX4_river_1 lX4_62 fX4_tellRiver vX4_tellRiver (lay_s hT (k := 0) (q := (6, 9)) rfl) rfl (Nat.le_of_ble_eq_true rfl) rfl (Nat.le_of_ble_eq_true rfl) (wX4_tellRiver (by omega) hT  h2) ?_
  have hf := oi_l hf
  refine A_istn (pc := 4) (L2 := [.ref 0, .int q1.1]) dX4_river_4 (Nat.le_of_ble_eq_true rfl) rfl ?_
  refine A_aloadn (pc := 5) dX4_river_5 rfl ?_
  refine A_getR (pc := 6) dX4_river_6 gX4_29 (lay_s hT (k := 0) (q := (6, 9)) rfl) (Nat.le_of_ble_eq_true rfl) rfl (lay_r hT 43 rfl) ?_
  refine A_iconst (pc := 9) 0 dX4_river_9 rfl ?_
  have hf := oi_l hf
  refine A_putI (pc := 10) dX4_river_10 gX4_55 (lay_s hT (k := 43) (q := (2, 2)) rfl) (Nat.le_of_ble_eq_true rfl) rfl rfl rfl rfl ?_
  refine A_iloadn (pc := 13) dX4_river_13 rfl ?_
  obtain rfl := Option.some.inj hf
  exact A_iret (pc := 14) dX4_river_14 rfl rfl ⟨rfl, rfl, rfl⟩
def zX4_yard (n : Nat) (u : MU) (a1 : Int32) (a2 : Int32) : Option (Int32 × MU) := Option.bind (zX3_isYard n u 1 a1) (fun q1 => if q1 = 0 then (Option.bind (zX4_refuse n u (-1)) (fun q12 => some (q12.1, q12.2))) else (if a2 = 0 then (if oob a1 5 then none else some ((u (1 + 1) a1.toNatClampNeg), u)) else if a2 = 1 then (if oob a1 5 then none else some ((u (1 + 2) a1.toNatClampNeg), u)) else if a2 = 2 then (if oob a1 5 then none else some ((u (1 + 3) a1.toNatClampNeg), u)) else (Option.bind (zX4_refuse n u (-2)) (fun q10 => some (q10.1, q10.2)))))
set_option maxHeartbeats 4000000 in
set_option maxRecDepth 100000 in
theorem wX4_yard {G : GG} {T : TT} {n d : Nat} (hd : 1 ≤ d) {q : Int32 × MU} {u : MU} {a1 : Int32} {a2 : Int32} (hT : LAY T) (hf : zX4_yard n u a1 a2 = some q) : AW G d mX4_yard 0 [.ref 0, .int a1, .int a2] [] T u 0 0 (QS T q.1 q.2) := by
  obtain ⟨d, rfl⟩ : ∃ e, d = e + 1 := ⟨d - 1, by omega⟩
  rw [zX4_yard] at hf
  refine A_aloadn (pc := 0) dX4_yard_0 rfl ?_
  refine A_getR (pc := 1) dX4_yard_1 gX4_10 (lay_s hT (k := 0) (q := (6, 9)) rfl) (Nat.le_of_ble_eq_true rfl) rfl (lay_r hT 13 rfl) ?_
  refine A_iloadn (pc := 4) dX4_yard_4 rfl ?_
  obtain ⟨q1, h2, hf⟩ := oi_b hf
  refine A_cV1i (mi2 := mX3_isYard) (pc := 5) dX4_yard_5 lX4_66 fX3_isYard vX3_isYard (rv_0 (lay_rv1 hT)) rfl (Nat.le_of_ble_eq_true rfl) rfl (Nat.le_of_ble_eq_true rfl) (wX3_isYard (by omega) hT (lay_rv1 hT) h2) ?_
  refine A_if_ne (pc := 8) (w := 0) 17 dX4_yard_8 (by decide) (fun cc3 => ?_) (fun cc3 => ?_)
  · have hf := oi_f cc3 hf
    refine A_iloadn (pc := 17) dX4_yard_17 rfl ?_
    by_cases cc4 : a2 = 0
    · have hf := oi_t cc4 hf
      refine A_tabIn (pc := 18) 44 dX4_yard_18 (by rw [cc4]; decide) (by rw [cc4]; decide) (off := 26) (by rw [cc4]; decide) (by decide) ?_
      refine A_aloadn (pc := 44) dX4_yard_44 rfl ?_
      refine A_getR (pc := 45) dX4_yard_45 gX4_10 (lay_s hT (k := 0) (q := (6, 9)) rfl) (Nat.le_of_ble_eq_true rfl) rfl (lay_r hT 13 rfl) ?_
      refine A_getR (pc := 48) dX4_yard_48 gX4_70 (rv_0 (lay_rv1 hT)) (Nat.le_of_ble_eq_true rfl) rfl (rv_f4 (lay_rv1 hT)) ?_
      refine A_iloadn (pc := 51) dX4_yard_51 rfl ?_
      obtain ⟨h5, hf⟩ := oi_cf hf
      refine A_iald (pc := 52) dX4_yard_52 (rv_1 (lay_rv1 hT)) (oob_f h5) ?_
      obtain rfl := Option.some.inj hf
      exact A_iret (pc := 53) dX4_yard_53 rfl rfl ⟨rfl, rfl, rfl⟩
    have hf := oi_f cc4 hf
    by_cases cc6 : a2 = 1
    · have hf := oi_t cc6 hf
      refine A_tabIn (pc := 18) 54 dX4_yard_18 (by rw [cc6]; decide) (by rw [cc6]; decide) (off := 36) (by rw [cc6]; decide) (by decide) ?_
      refine A_aloadn (pc := 54) dX4_yard_54 rfl ?_
      refine A_getR (pc := 55) dX4_yard_55 gX4_10 (lay_s hT (k := 0) (q := (6, 9)) rfl) (Nat.le_of_ble_eq_true rfl) rfl (lay_r hT 13 rfl) ?_
      refine A_getR (pc := 58) dX4_yard_58 gX4_73 (rv_0 (lay_rv1 hT)) (Nat.le_of_ble_eq_true rfl) rfl (rv_f5 (lay_rv1 hT)) ?_
      refine A_iloadn (pc := 61) dX4_yard_61 rfl ?_
      obtain ⟨h7, hf⟩ := oi_cf hf
      refine A_iald (pc := 62) dX4_yard_62 (rv_2 (lay_rv1 hT)) (oob_f h7) ?_
      obtain rfl := Option.some.inj hf
      exact A_iret (pc := 63) dX4_yard_63 rfl rfl ⟨rfl, rfl, rfl⟩
    have hf := oi_f cc6 hf
    by_cases cc8 : a2 = 2
    · have hf := oi_t cc8 hf
      refine A_tabIn (pc := 18) 64 dX4_yard_18 (by rw [cc8]; decide) (by rw [cc8]; decide) (off := 46) (by rw [cc8]; decide) (by decide) ?_
      refine A_aloadn (pc := 64) dX4_yard_64 rfl ?_
      refine A_getR (pc := 65) dX4_yard_65 gX4_10 (lay_s hT (k := 0) (q := (6, 9)) rfl) (Nat.le_of_ble_eq_true rfl) rfl (lay_r hT 13 rfl) ?_
      refine A_getR (pc := 68) dX4_yard_68 gX4_76 (rv_0 (lay_rv1 hT)) (Nat.le_of_ble_eq_true rfl) rfl (rv_f6 (lay_rv1 hT)) ?_
      refine A_iloadn (pc := 71) dX4_yard_71 rfl ?_
      obtain ⟨h9, hf⟩ := oi_cf hf
      refine A_iald (pc := 72) dX4_yard_72 (rv_3 (lay_rv1 hT)) (oob_f h9) ?_
      obtain rfl := Option.some.inj hf
      exact A_iret (pc := 73) dX4_yard_73 rfl rfl ⟨rfl, rfl, rfl⟩
    have hf := oi_f cc8 hf
    have ecc4 : a2.toInt ≠ 0 := fun h9 => cc4 (Int32.toInt_inj.mp (h9.trans (by decide : (0 : Int) = (0 : Int32).toInt)))
    have ecc6 : a2.toInt ≠ 1 := fun h9 => cc6 (Int32.toInt_inj.mp (h9.trans (by decide : (1 : Int) = (1 : Int32).toInt)))
    have ecc8 : a2.toInt ≠ 2 := fun h9 => cc8 (Int32.toInt_inj.mp (h9.trans (by decide : (2 : Int) = (2 : Int32).toInt)))
    refine A_tabOut (pc := 18) 74 dX4_yard_18 (by omega) (by decide) ?_
    refine A_aloadn (pc := 74) dX4_yard_74 rfl ?_
    refine A_bipush (pc := 75) (-2) dX4_yard_75 rfl ?_
    obtain ⟨q10, h11, hf⟩ := oi_b hf
    refine A_cV1i (mi2 := mX4_refuse) (pc := 77) dX4_yard_77 lX4_51 fX4_refuse vX4_refuse (lay_s hT (k := 0) (q := (6, 9)) rfl) rfl (Nat.le_of_ble_eq_true rfl) rfl (Nat.le_of_ble_eq_true rfl) (wX4_refuse (by omega) hT  h11) ?_
    obtain rfl := Option.some.inj hf
    exact A_iret (pc := 80) dX4_yard_80 rfl rfl ⟨rfl, rfl, rfl⟩
  have hf := oi_t cc3 hf
  refine A_aloadn (pc := 11) dX4_yard_11 rfl ?_
  refine A_iconst (pc := 12) (-1) dX4_yard_12 rfl ?_
  obtain ⟨q12, h13, hf⟩ := oi_b hf
  refine A_cV1i (mi2 := mX4_refuse) (pc := 13) dX4_yard_13 lX4_51 fX4_refuse vX4_refuse (lay_s hT (k := 0) (q := (6, 9)) rfl) rfl (Nat.le_of_ble_eq_true rfl) rfl (Nat.le_of_ble_eq_true rfl) (wX4_refuse (by omega) hT  h13) ?_
  obtain rfl := Option.some.inj hf
  exact A_iret (pc := 16) dX4_yard_16 rfl rfl ⟨rfl, rfl, rfl⟩
def zX4_person (n : Nat) (u : MU) (a1 : Int32) (a2 : Int32) : Option (Int32 × MU) := Option.bind (zX3_isPerson n u 1 a1) (fun q1 => if q1 = 0 then (Option.bind (zX4_refuse n u (-1)) (fun q24 => some (q24.1, q24.2))) else (if oob a1 7 then none else if a2 = 0 then (some ((u (1 + 7 + a1.toNatClampNeg) 0), u)) else if a2 = 1 then (some ((u (1 + 7 + a1.toNatClampNeg) 1), u)) else if a2 = 2 then (some ((u (1 + 7 + a1.toNatClampNeg) 2), u)) else if a2 = 3 then (some ((u (1 + 7 + a1.toNatClampNeg) 3), u)) else if a2 = 4 then (some ((u (1 + 7 + a1.toNatClampNeg) 4), u)) else if a2 = 5 then (Option.bind (zX2_reaches n u (1 + 7 + a1.toNatClampNeg)) (fun q11 => some (q11, u))) else if a2 = 6 then (Option.bind (zX2_holds n u (1 + 7 + a1.toNatClampNeg)) (fun q14 => some (q14, u))) else if a2 = 7 then (Option.bind (zX2_cools n u (1 + 7 + a1.toNatClampNeg) (u 1 1)) (fun q17 => some (q17, u))) else if a2 = 8 then (Option.bind (zX3_placeOf n u 1 a1) (fun q20 => some (q20, u))) else (Option.bind (zX4_refuse n u (-2)) (fun q22 => some (q22.1, q22.2)))))
set_option maxHeartbeats 4000000 in
set_option maxRecDepth 100000 in
theorem wX4_person {G : GG} {T : TT} {n d : Nat} (hd : 2 ≤ d) {q : Int32 × MU} {u : MU} {a1 : Int32} {a2 : Int32} (hT : LAY T) (hf : zX4_person n u a1 a2 = some q) : AW G d mX4_person 0 [.ref 0, .int a1, .int a2, .null] [] T u 0 0 (QS T q.1 q.2) := by
  obtain ⟨d, rfl⟩ : ∃ e, d = e + 1 := ⟨d - 1, by omega⟩
  rw [zX4_person] at hf
  refine A_aloadn (pc := 0) dX4_person_0 rfl ?_
  refine A_getR (pc := 1) dX4_person_1 gX4_10 (lay_s hT (k := 0) (q := (6, 9)) rfl) (Nat.le_of_ble_eq_true rfl) rfl (lay_r hT 13 rfl) ?_
  refine A_iloadn (pc := 4) dX4_person_4 rfl ?_
  obtain ⟨q1, h2, hf⟩ := oi_b hf
  refine A_cV1i (mi2 := mX3_isPerson) (pc := 5) dX4_person_5 lX4_79 fX3_isPerson vX3_isPerson (rv_0 (lay_rv1 hT)) rfl (Nat.le_of_ble_eq_true rfl) rfl (Nat.le_of_ble_eq_true rfl) (wX3_isPerson (by omega) hT (lay_rv1 hT) h2) ?_
  refine A_if_ne (pc := 8) (w := 0) 17 dX4_person_8 (by decide) (fun cc3 => ?_) (fun cc3 => ?_)
  · have hf := oi_f cc3 hf
    refine A_aloadn (pc := 17) dX4_person_17 rfl ?_
    refine A_getR (pc := 18) dX4_person_18 gX4_10 (lay_s hT (k := 0) (q := (6, 9)) rfl) (Nat.le_of_ble_eq_true rfl) rfl (lay_r hT 13 rfl) ?_
    refine A_getR (pc := 21) dX4_person_21 gX4_82 (rv_0 (lay_rv1 hT)) (Nat.le_of_ble_eq_true rfl) rfl (rv_f7 (lay_rv1 hT)) ?_
    refine A_iloadn (pc := 24) dX4_person_24 rfl ?_
    obtain ⟨h4, hf⟩ := oi_cf hf
    refine A_aald (pc := 25) dX4_person_25 (rv_4 (lay_rv1 hT)) (oob_f h4) (rv_q (lay_rv1 hT) (vpin_lt (oob_f h4))) ?_
    refine A_astn (pc := 26) (L2 := [.ref 0, .int a1, .int a2, .ref (1 + 7 + a1.toNatClampNeg)]) dX4_person_26 (Nat.le_of_ble_eq_true rfl) rfl ?_
    refine A_iloadn (pc := 27) dX4_person_27 rfl ?_
    by_cases cc5 : a2 = 0
    · have hf := oi_t cc5 hf
      refine A_tabIn (pc := 28) 80 dX4_person_28 (by rw [cc5]; decide) (by rw [cc5]; decide) (off := 52) (by rw [cc5]; decide) (by decide) ?_
      refine A_aloadn (pc := 80) dX4_person_80 rfl ?_
      refine A_getI (pc := 81) dX4_person_81 gX4_86 (rv_p (lay_rv1 hT) (vpin_lt (oob_f h4))) (Nat.le_of_ble_eq_true rfl) rfl ?_
      obtain rfl := Option.some.inj hf
      exact A_iret (pc := 84) dX4_person_84 rfl rfl ⟨rfl, rfl, rfl⟩
    have hf := oi_f cc5 hf
    by_cases cc6 : a2 = 1
    · have hf := oi_t cc6 hf
      refine A_tabIn (pc := 28) 85 dX4_person_28 (by rw [cc6]; decide) (by rw [cc6]; decide) (off := 57) (by rw [cc6]; decide) (by decide) ?_
      refine A_aloadn (pc := 85) dX4_person_85 rfl ?_
      refine A_getI (pc := 86) dX4_person_86 gX4_91 (rv_p (lay_rv1 hT) (vpin_lt (oob_f h4))) (Nat.le_of_ble_eq_true rfl) rfl ?_
      obtain rfl := Option.some.inj hf
      exact A_iret (pc := 89) dX4_person_89 rfl rfl ⟨rfl, rfl, rfl⟩
    have hf := oi_f cc6 hf
    by_cases cc7 : a2 = 2
    · have hf := oi_t cc7 hf
      refine A_tabIn (pc := 28) 90 dX4_person_28 (by rw [cc7]; decide) (by rw [cc7]; decide) (off := 62) (by rw [cc7]; decide) (by decide) ?_
      refine A_aloadn (pc := 90) dX4_person_90 rfl ?_
      refine A_getI (pc := 91) dX4_person_91 gX4_94 (rv_p (lay_rv1 hT) (vpin_lt (oob_f h4))) (Nat.le_of_ble_eq_true rfl) rfl ?_
      obtain rfl := Option.some.inj hf
      exact A_iret (pc := 94) dX4_person_94 rfl rfl ⟨rfl, rfl, rfl⟩
    have hf := oi_f cc7 hf
    by_cases cc8 : a2 = 3
    · have hf := oi_t cc8 hf
      refine A_tabIn (pc := 28) 95 dX4_person_28 (by rw [cc8]; decide) (by rw [cc8]; decide) (off := 67) (by rw [cc8]; decide) (by decide) ?_
      refine A_aloadn (pc := 95) dX4_person_95 rfl ?_
      refine A_getI (pc := 96) dX4_person_96 gX4_97 (rv_p (lay_rv1 hT) (vpin_lt (oob_f h4))) (Nat.le_of_ble_eq_true rfl) rfl ?_
      obtain rfl := Option.some.inj hf
      exact A_iret (pc := 99) dX4_person_99 rfl rfl ⟨rfl, rfl, rfl⟩
    have hf := oi_f cc8 hf
    by_cases cc9 : a2 = 4
    · have hf := oi_t cc9 hf
      refine A_tabIn (pc := 28) 100 dX4_person_28 (by rw [cc9]; decide) (by rw [cc9]; decide) (off := 72) (by rw [cc9]; decide) (by decide) ?_
      refine A_aloadn (pc := 100) dX4_person_100 rfl ?_
      refine A_getI (pc := 101) dX4_person_101 gX4_100 (rv_p (lay_rv1 hT) (vpin_lt (oob_f h4))) (Nat.le_of_ble_eq_true rfl) rfl ?_
      obtain rfl := Option.some.inj hf
      exact A_iret (pc := 104) dX4_person_104 rfl rfl ⟨rfl, rfl, rfl⟩
    have hf := oi_f cc9 hf
    by_cases cc10 : a2 = 5
    · have hf := oi_t cc10 hf
      refine A_tabIn (pc := 28) 105 dX4_person_28 (by rw [cc10]; decide) (by rw [cc10]; decide) (off := 77) (by rw [cc10]; decide) (by decide) ?_
      refine A_aloadn (pc := 105) dX4_person_105 rfl ?_
      obtain ⟨q11, h12, hf⟩ := oi_b hf
      refine A_cV0i (mi2 := mX2_reaches) (pc := 106) dX4_person_106 lX4_103 fX2_reaches vX2_reaches (rv_p (lay_rv1 hT) (vpin_lt (oob_f h4))) rfl (Nat.le_of_ble_eq_true rfl) rfl (Nat.le_of_ble_eq_true rfl) (wX2_reaches (by omega) hT (rv_p (lay_rv1 hT) (vpin_lt (oob_f h4))) h12) ?_
      obtain rfl := Option.some.inj hf
      exact A_iret (pc := 109) dX4_person_109 rfl rfl ⟨rfl, rfl, rfl⟩
    have hf := oi_f cc10 hf
    by_cases cc13 : a2 = 6
    · have hf := oi_t cc13 hf
      refine A_tabIn (pc := 28) 110 dX4_person_28 (by rw [cc13]; decide) (by rw [cc13]; decide) (off := 82) (by rw [cc13]; decide) (by decide) ?_
      refine A_aloadn (pc := 110) dX4_person_110 rfl ?_
      obtain ⟨q14, h15, hf⟩ := oi_b hf
      refine A_cV0i (mi2 := mX2_holds) (pc := 111) dX4_person_111 lX4_106 fX2_holds vX2_holds (rv_p (lay_rv1 hT) (vpin_lt (oob_f h4))) rfl (Nat.le_of_ble_eq_true rfl) rfl (Nat.le_of_ble_eq_true rfl) (wX2_holds (by omega) hT (rv_p (lay_rv1 hT) (vpin_lt (oob_f h4))) h15) ?_
      obtain rfl := Option.some.inj hf
      exact A_iret (pc := 114) dX4_person_114 rfl rfl ⟨rfl, rfl, rfl⟩
    have hf := oi_f cc13 hf
    by_cases cc16 : a2 = 7
    · have hf := oi_t cc16 hf
      refine A_tabIn (pc := 28) 115 dX4_person_28 (by rw [cc16]; decide) (by rw [cc16]; decide) (off := 87) (by rw [cc16]; decide) (by decide) ?_
      refine A_aloadn (pc := 115) dX4_person_115 rfl ?_
      refine A_aloadn (pc := 116) dX4_person_116 rfl ?_
      refine A_getR (pc := 117) dX4_person_117 gX4_10 (lay_s hT (k := 0) (q := (6, 9)) rfl) (Nat.le_of_ble_eq_true rfl) rfl (lay_r hT 13 rfl) ?_
      refine A_getI (pc := 120) dX4_person_120 gX4_109 (rv_0 (lay_rv1 hT)) (Nat.le_of_ble_eq_true rfl) rfl ?_
      obtain ⟨q17, h18, hf⟩ := oi_b hf
      refine A_cV1i (mi2 := mX2_cools) (pc := 123) dX4_person_123 lX4_112 fX2_cools vX2_cools (rv_p (lay_rv1 hT) (vpin_lt (oob_f h4))) rfl (Nat.le_of_ble_eq_true rfl) rfl (Nat.le_of_ble_eq_true rfl) (wX2_cools (by omega) hT (rv_p (lay_rv1 hT) (vpin_lt (oob_f h4))) h18) ?_
      obtain rfl := Option.some.inj hf
      exact A_iret (pc := 126) dX4_person_126 rfl rfl ⟨rfl, rfl, rfl⟩
    have hf := oi_f cc16 hf
    by_cases cc19 : a2 = 8
    · have hf := oi_t cc19 hf
      refine A_tabIn (pc := 28) 127 dX4_person_28 (by rw [cc19]; decide) (by rw [cc19]; decide) (off := 99) (by rw [cc19]; decide) (by decide) ?_
      refine A_aloadn (pc := 127) dX4_person_127 rfl ?_
      refine A_getR (pc := 128) dX4_person_128 gX4_10 (lay_s hT (k := 0) (q := (6, 9)) rfl) (Nat.le_of_ble_eq_true rfl) rfl (lay_r hT 13 rfl) ?_
      refine A_iloadn (pc := 131) dX4_person_131 rfl ?_
      obtain ⟨q20, h21, hf⟩ := oi_b hf
      refine A_cV1i (mi2 := mX3_placeOf) (pc := 132) dX4_person_132 lX4_115 fX3_placeOf vX3_placeOf (rv_0 (lay_rv1 hT)) rfl (Nat.le_of_ble_eq_true rfl) rfl (Nat.le_of_ble_eq_true rfl) (wX3_placeOf (by omega) hT (lay_rv1 hT) h21) ?_
      obtain rfl := Option.some.inj hf
      exact A_iret (pc := 135) dX4_person_135 rfl rfl ⟨rfl, rfl, rfl⟩
    have hf := oi_f cc19 hf
    have ecc5 : a2.toInt ≠ 0 := fun h9 => cc5 (Int32.toInt_inj.mp (h9.trans (by decide : (0 : Int) = (0 : Int32).toInt)))
    have ecc6 : a2.toInt ≠ 1 := fun h9 => cc6 (Int32.toInt_inj.mp (h9.trans (by decide : (1 : Int) = (1 : Int32).toInt)))
    have ecc7 : a2.toInt ≠ 2 := fun h9 => cc7 (Int32.toInt_inj.mp (h9.trans (by decide : (2 : Int) = (2 : Int32).toInt)))
    have ecc8 : a2.toInt ≠ 3 := fun h9 => cc8 (Int32.toInt_inj.mp (h9.trans (by decide : (3 : Int) = (3 : Int32).toInt)))
    have ecc9 : a2.toInt ≠ 4 := fun h9 => cc9 (Int32.toInt_inj.mp (h9.trans (by decide : (4 : Int) = (4 : Int32).toInt)))
    have ecc10 : a2.toInt ≠ 5 := fun h9 => cc10 (Int32.toInt_inj.mp (h9.trans (by decide : (5 : Int) = (5 : Int32).toInt)))
    have ecc13 : a2.toInt ≠ 6 := fun h9 => cc13 (Int32.toInt_inj.mp (h9.trans (by decide : (6 : Int) = (6 : Int32).toInt)))
    have ecc16 : a2.toInt ≠ 7 := fun h9 => cc16 (Int32.toInt_inj.mp (h9.trans (by decide : (7 : Int) = (7 : Int32).toInt)))
    have ecc19 : a2.toInt ≠ 8 := fun h9 => cc19 (Int32.toInt_inj.mp (h9.trans (by decide : (8 : Int) = (8 : Int32).toInt)))
    refine A_tabOut (pc := 28) 136 dX4_person_28 (by omega) (by decide) ?_
    refine A_aloadn (pc := 136) dX4_person_136 rfl ?_
    refine A_bipush (pc := 137) (-2) dX4_person_137 rfl ?_
    obtain ⟨q22, h23, hf⟩ := oi_b hf
    refine A_cV1i (mi2 := mX4_refuse) (pc := 139) dX4_person_139 lX4_51 fX4_refuse vX4_refuse (lay_s hT (k := 0) (q := (6, 9)) rfl) rfl (Nat.le_of_ble_eq_true rfl) rfl (Nat.le_of_ble_eq_true rfl) (wX4_refuse (by omega) hT  h23) ?_
    obtain rfl := Option.some.inj hf
    exact A_iret (pc := 142) dX4_person_142 rfl rfl ⟨rfl, rfl, rfl⟩
  have hf := oi_t cc3 hf
  refine A_aloadn (pc := 11) dX4_person_11 rfl ?_
  refine A_iconst (pc := 12) (-1) dX4_person_12 rfl ?_
  obtain ⟨q24, h25, hf⟩ := oi_b hf
  refine A_cV1i (mi2 := mX4_refuse) (pc := 13) dX4_person_13 lX4_51 fX4_refuse vX4_refuse (lay_s hT (k := 0) (q := (6, 9)) rfl) rfl (Nat.le_of_ble_eq_true rfl) rfl (Nat.le_of_ble_eq_true rfl) (wX4_refuse (by omega) hT  h25) ?_
  obtain rfl := Option.some.inj hf
  exact A_iret (pc := 16) dX4_person_16 rfl rfl ⟨rfl, rfl, rfl⟩
def zX4_grudge (n : Nat) (u : MU) (a1 : Int32) (a2 : Int32) : Option (Int32 × MU) := Option.bind (zX3_areTwo n u 1 a1 a2) (fun q1 => if q1 = 0 then (Option.bind (zX4_refuse n u (-1)) (fun q6 => some (q6.1, q6.2))) else (Option.bind (zX3_grudgeOf n u 1 a1 a2) (fun q4 => some (q4, u))))
set_option maxHeartbeats 4000000 in
set_option maxRecDepth 100000 in
theorem wX4_grudge {G : GG} {T : TT} {n d : Nat} (hd : 2 ≤ d) {q : Int32 × MU} {u : MU} {a1 : Int32} {a2 : Int32} (hT : LAY T) (hf : zX4_grudge n u a1 a2 = some q) : AW G d mX4_grudge 0 [.ref 0, .int a1, .int a2] [] T u 0 0 (QS T q.1 q.2) := by
  obtain ⟨d, rfl⟩ : ∃ e, d = e + 1 := ⟨d - 1, by omega⟩
  rw [zX4_grudge] at hf
  refine A_aloadn (pc := 0) dX4_grudge_0 rfl ?_
  refine A_getR (pc := 1) dX4_grudge_1 gX4_10 (lay_s hT (k := 0) (q := (6, 9)) rfl) (Nat.le_of_ble_eq_true rfl) rfl (lay_r hT 13 rfl) ?_
  refine A_iloadn (pc := 4) dX4_grudge_4 rfl ?_
  refine A_iloadn (pc := 5) dX4_grudge_5 rfl ?_
  obtain ⟨q1, h2, hf⟩ := oi_b hf
  refine A_cV2i (mi2 := mX3_areTwo) (pc := 6) dX4_grudge_6 lX4_118 fX3_areTwo vX3_areTwo (rv_0 (lay_rv1 hT)) rfl (Nat.le_of_ble_eq_true rfl) rfl (Nat.le_of_ble_eq_true rfl) (wX3_areTwo (by omega) hT (lay_rv1 hT) h2) ?_
  refine A_if_ne (pc := 9) (w := 0) 18 dX4_grudge_9 (by decide) (fun cc3 => ?_) (fun cc3 => ?_)
  · have hf := oi_f cc3 hf
    refine A_aloadn (pc := 18) dX4_grudge_18 rfl ?_
    refine A_getR (pc := 19) dX4_grudge_19 gX4_10 (lay_s hT (k := 0) (q := (6, 9)) rfl) (Nat.le_of_ble_eq_true rfl) rfl (lay_r hT 13 rfl) ?_
    refine A_iloadn (pc := 22) dX4_grudge_22 rfl ?_
    refine A_iloadn (pc := 23) dX4_grudge_23 rfl ?_
    obtain ⟨q4, h5, hf⟩ := oi_b hf
    refine A_cV2i (mi2 := mX3_grudgeOf) (pc := 24) dX4_grudge_24 lX4_122 fX3_grudgeOf vX3_grudgeOf (rv_0 (lay_rv1 hT)) rfl (Nat.le_of_ble_eq_true rfl) rfl (Nat.le_of_ble_eq_true rfl) (wX3_grudgeOf (by omega) hT (lay_rv1 hT) h5) ?_
    obtain rfl := Option.some.inj hf
    exact A_iret (pc := 27) dX4_grudge_27 rfl rfl ⟨rfl, rfl, rfl⟩
  have hf := oi_t cc3 hf
  refine A_aloadn (pc := 12) dX4_grudge_12 rfl ?_
  refine A_iconst (pc := 13) (-1) dX4_grudge_13 rfl ?_
  obtain ⟨q6, h7, hf⟩ := oi_b hf
  refine A_cV1i (mi2 := mX4_refuse) (pc := 14) dX4_grudge_14 lX4_51 fX4_refuse vX4_refuse (lay_s hT (k := 0) (q := (6, 9)) rfl) rfl (Nat.le_of_ble_eq_true rfl) rfl (Nat.le_of_ble_eq_true rfl) (wX4_refuse (by omega) hT  h7) ?_
  obtain rfl := Option.some.inj hf
  exact A_iret (pc := 17) dX4_grudge_17 rfl rfl ⟨rfl, rfl, rfl⟩
def zX4_quarrel (n : Nat) (u : MU) (a1 : Int32) (a2 : Int32) (a3 : Int32) : Option (Int32 × MU) := Option.bind (zX3_areTwo n u 1 a1 a2) (fun q1 => if q1 = 0 then (Option.bind (zX4_refuse n u (-1)) (fun q16 => some (q16.1, q16.2))) else (if a3 = 0 then (Option.bind (zX3_grudgeOf n u 1 a1 a2) (fun q5 => Option.bind (zX3_setGrudge n u 1 a1 a2 a3) (fun q7 => some (q5, q7)))) else (if a3 = 1 then (Option.bind (zX3_grudgeOf n u 1 a1 a2) (fun q10 => Option.bind (zX3_setGrudge n u 1 a1 a2 a3) (fun q12 => some (q10, q12)))) else (Option.bind (zX4_refuse n u (-2)) (fun q14 => some (q14.1, q14.2))))))
set_option maxHeartbeats 4000000 in
set_option maxRecDepth 100000 in
theorem wX4_quarrel {G : GG} {T : TT} {n d : Nat} (hd : 2 ≤ d) {q : Int32 × MU} {u : MU} {a1 : Int32} {a2 : Int32} {a3 : Int32} (hT : LAY T) (hf : zX4_quarrel n u a1 a2 a3 = some q) : AW G d mX4_quarrel 0 [.ref 0, .int a1, .int a2, .int a3, .null] [] T u 0 0 (QS T q.1 q.2) := by
  obtain ⟨d, rfl⟩ : ∃ e, d = e + 1 := ⟨d - 1, by omega⟩
  rw [zX4_quarrel] at hf
  refine A_aloadn (pc := 0) dX4_quarrel_0 rfl ?_
  refine A_getR (pc := 1) dX4_quarrel_1 gX4_10 (lay_s hT (k := 0) (q := (6, 9)) rfl) (Nat.le_of_ble_eq_true rfl) rfl (lay_r hT 13 rfl) ?_
  refine A_iloadn (pc := 4) dX4_quarrel_4 rfl ?_
  refine A_iloadn (pc := 5) dX4_quarrel_5 rfl ?_
  obtain ⟨q1, h2, hf⟩ := oi_b hf
  refine A_cV2i (mi2 := mX3_areTwo) (pc := 6) dX4_quarrel_6 lX4_118 fX3_areTwo vX3_areTwo (rv_0 (lay_rv1 hT)) rfl (Nat.le_of_ble_eq_true rfl) rfl (Nat.le_of_ble_eq_true rfl) (wX3_areTwo (by omega) hT (lay_rv1 hT) h2) ?_
  refine A_if_ne (pc := 9) (w := 0) 18 dX4_quarrel_9 (by decide) (fun cc3 => ?_) (fun cc3 => ?_)
  · have hf := oi_f cc3 hf
    refine A_iloadn (pc := 18) dX4_quarrel_18 rfl ?_
    refine A_if_eq (pc := 19) (w := 0) 34 dX4_quarrel_19 (by decide) (fun cc4 => ?_) (fun cc4 => ?_)
    · have hf := oi_t cc4 hf
      refine A_aloadn (pc := 34) dX4_quarrel_34 rfl ?_
      refine A_getR (pc := 35) dX4_quarrel_35 gX4_10 (lay_s hT (k := 0) (q := (6, 9)) rfl) (Nat.le_of_ble_eq_true rfl) rfl (lay_r hT 13 rfl) ?_
      refine A_iloadn (pc := 38) dX4_quarrel_38 rfl ?_
      refine A_iloadn (pc := 39) dX4_quarrel_39 rfl ?_
      obtain ⟨q5, h6, hf⟩ := oi_b hf
      refine A_cV2i (mi2 := mX3_grudgeOf) (pc := 40) dX4_quarrel_40 lX4_122 fX3_grudgeOf vX3_grudgeOf (rv_0 (lay_rv1 hT)) rfl (Nat.le_of_ble_eq_true rfl) rfl (Nat.le_of_ble_eq_true rfl) (wX3_grudgeOf (by omega) hT (lay_rv1 hT) h6) ?_
      refine A_ist (pc := 43) (L2 := [.ref 0, .int a1, .int a2, .int a3, .int q5]) dX4_quarrel_43 (Nat.le_of_ble_eq_true rfl) rfl ?_
      refine A_aloadn (pc := 45) dX4_quarrel_45 rfl ?_
      refine A_getR (pc := 46) dX4_quarrel_46 gX4_10 (lay_s hT (k := 0) (q := (6, 9)) rfl) (Nat.le_of_ble_eq_true rfl) rfl (lay_r hT 13 rfl) ?_
      refine A_iloadn (pc := 49) dX4_quarrel_49 rfl ?_
      refine A_iloadn (pc := 50) dX4_quarrel_50 rfl ?_
      refine A_iloadn (pc := 51) dX4_quarrel_51 rfl ?_
      obtain ⟨q7, h8, hf⟩ := oi_b hf
      refine A_cV3v (mi2 := mX3_setGrudge) (pc := 52) dX4_quarrel_52 lX4_126 fX3_setGrudge vX3_setGrudge (rv_0 (lay_rv1 hT)) rfl (Nat.le_of_ble_eq_true rfl) rfl (Nat.le_of_ble_eq_true rfl) (wX3_setGrudge (by omega) hT (lay_rv1 hT) h8) ?_
      refine A_iload (pc := 55) dX4_quarrel_55 rfl ?_
      obtain rfl := Option.some.inj hf
      exact A_iret (pc := 57) dX4_quarrel_57 rfl rfl ⟨rfl, rfl, rfl⟩
    have hf := oi_f cc4 hf
    refine A_iloadn (pc := 22) dX4_quarrel_22 rfl ?_
    refine A_iconst (pc := 23) 1 dX4_quarrel_23 rfl ?_
    refine A_icmp_eq (pc := 24) 34 dX4_quarrel_24 (by decide) (fun cc9 => ?_) (fun cc9 => ?_)
    · have hf := oi_t cc9 hf
      refine A_aloadn (pc := 34) dX4_quarrel_34 rfl ?_
      refine A_getR (pc := 35) dX4_quarrel_35 gX4_10 (lay_s hT (k := 0) (q := (6, 9)) rfl) (Nat.le_of_ble_eq_true rfl) rfl (lay_r hT 13 rfl) ?_
      refine A_iloadn (pc := 38) dX4_quarrel_38 rfl ?_
      refine A_iloadn (pc := 39) dX4_quarrel_39 rfl ?_
      obtain ⟨q10, h11, hf⟩ := oi_b hf
      refine A_cV2i (mi2 := mX3_grudgeOf) (pc := 40) dX4_quarrel_40 lX4_122 fX3_grudgeOf vX3_grudgeOf (rv_0 (lay_rv1 hT)) rfl (Nat.le_of_ble_eq_true rfl) rfl (Nat.le_of_ble_eq_true rfl) (wX3_grudgeOf (by omega) hT (lay_rv1 hT) h11) ?_
      refine A_ist (pc := 43) (L2 := [.ref 0, .int a1, .int a2, .int a3, .int q10]) dX4_quarrel_43 (Nat.le_of_ble_eq_true rfl) rfl ?_
      refine A_aloadn (pc := 45) dX4_quarrel_45 rfl ?_
      refine A_getR (pc := 46) dX4_quarrel_46 gX4_10 (lay_s hT (k := 0) (q := (6, 9)) rfl) (Nat.le_of_ble_eq_true rfl) rfl (lay_r hT 13 rfl) ?_
      refine A_iloadn (pc := 49) dX4_quarrel_49 rfl ?_
      refine A_iloadn (pc := 50) dX4_quarrel_50 rfl ?_
      refine A_iloadn (pc := 51) dX4_quarrel_51 rfl ?_
      obtain ⟨q12, h13, hf⟩ := oi_b hf
      refine A_cV3v (mi2 := mX3_setGrudge) (pc := 52) dX4_quarrel_52 lX4_126 fX3_setGrudge vX3_setGrudge (rv_0 (lay_rv1 hT)) rfl (Nat.le_of_ble_eq_true rfl) rfl (Nat.le_of_ble_eq_true rfl) (wX3_setGrudge (by omega) hT (lay_rv1 hT) h13) ?_
      refine A_iload (pc := 55) dX4_quarrel_55 rfl ?_
      obtain rfl := Option.some.inj hf
      exact A_iret (pc := 57) dX4_quarrel_57 rfl rfl ⟨rfl, rfl, rfl⟩
    have hf := oi_f cc9 hf
    refine A_aloadn (pc := 27) dX4_quarrel_27 rfl ?_
    refine A_bipush (pc := 28) (-2) dX4_quarrel_28 rfl ?_
    obtain ⟨q14, h15, hf⟩ := oi_b hf
    refine A_cV1i (mi2 := mX4_refuse) (pc := 30) dX4_quarrel_30 lX4_51 fX4_refuse vX4_refuse (lay_s hT (k := 0) (q := (6, 9)) rfl) rfl (Nat.le_of_ble_eq_true rfl) rfl (Nat.le_of_ble_eq_true rfl) (wX4_refuse (by omega) hT  h15) ?_
    obtain rfl := Option.some.inj hf
    exact A_iret (pc := 33) dX4_quarrel_33 rfl rfl ⟨rfl, rfl, rfl⟩
  have hf := oi_t cc3 hf
  refine A_aloadn (pc := 12) dX4_quarrel_12 rfl ?_
  refine A_iconst (pc := 13) (-1) dX4_quarrel_13 rfl ?_
  obtain ⟨q16, h17, hf⟩ := oi_b hf
  refine A_cV1i (mi2 := mX4_refuse) (pc := 14) dX4_quarrel_14 lX4_51 fX4_refuse vX4_refuse (lay_s hT (k := 0) (q := (6, 9)) rfl) rfl (Nat.le_of_ble_eq_true rfl) rfl (Nat.le_of_ble_eq_true rfl) (wX4_refuse (by omega) hT  h17) ?_
  obtain rfl := Option.some.inj hf
  exact A_iret (pc := 17) dX4_quarrel_17 rfl rfl ⟨rfl, rfl, rfl⟩
def zX4_cold (n : Nat) (u : MU) (a1 : Int32) : Option (Int32 × MU) := if 0 ≤ a1 then (if a1 ≤ 9 then (letb (u 1 1) (fun x3 => letb (up2 u 1 1 a1) (fun u4 => some (x3, u4)))) else (Option.bind (zX4_refuse n u (-6)) (fun q5 => some (q5.1, q5.2)))) else (Option.bind (zX4_refuse n u (-4)) (fun q7 => some (q7.1, q7.2)))
set_option maxHeartbeats 4000000 in
set_option maxRecDepth 100000 in
theorem wX4_cold {G : GG} {T : TT} {n d : Nat} (hd : 1 ≤ d) {q : Int32 × MU} {u : MU} {a1 : Int32} (hT : LAY T) (hf : zX4_cold n u a1 = some q) : AW G d mX4_cold 0 [.ref 0, .int a1, .null] [] T u 0 0 (QS T q.1 q.2) := by
  obtain ⟨d, rfl⟩ : ∃ e, d = e + 1 := ⟨d - 1, by omega⟩
  rw [zX4_cold] at hf
  refine A_iloadn (pc := 0) dX4_cold_0 rfl ?_
  refine A_if_ge (pc := 1) (w := 0) 11 dX4_cold_1 (by decide) (fun cc1 => ?_) (fun cc1 => ?_)
  · have hf := oi_t cc1 hf
    refine A_iloadn (pc := 11) dX4_cold_11 rfl ?_
    refine A_bipush (pc := 12) 9 dX4_cold_12 rfl ?_
    refine A_icmp_le (pc := 14) 24 dX4_cold_14 (by decide) (fun cc2 => ?_) (fun cc2 => ?_)
    · have hf := oi_t cc2 hf
      refine A_aloadn (pc := 24) dX4_cold_24 rfl ?_
      refine A_getR (pc := 25) dX4_cold_25 gX4_10 (lay_s hT (k := 0) (q := (6, 9)) rfl) (Nat.le_of_ble_eq_true rfl) rfl (lay_r hT 13 rfl) ?_
      refine A_getI (pc := 28) dX4_cold_28 gX4_109 (rv_0 (lay_rv1 hT)) (Nat.le_of_ble_eq_true rfl) rfl ?_
      have hf := oi_l hf
      refine A_istn (pc := 31) (L2 := [.ref 0, .int a1, .int (u 1 1)]) dX4_cold_31 (Nat.le_of_ble_eq_true rfl) rfl ?_
      refine A_aloadn (pc := 32) dX4_cold_32 rfl ?_
      refine A_getR (pc := 33) dX4_cold_33 gX4_10 (lay_s hT (k := 0) (q := (6, 9)) rfl) (Nat.le_of_ble_eq_true rfl) rfl (lay_r hT 13 rfl) ?_
      refine A_iloadn (pc := 36) dX4_cold_36 rfl ?_
      have hf := oi_l hf
      refine A_putI (pc := 37) dX4_cold_37 gX4_109 (rv_0 (lay_rv1 hT)) (Nat.le_of_ble_eq_true rfl) rfl rfl rfl rfl ?_
      refine A_iloadn (pc := 40) dX4_cold_40 rfl ?_
      obtain rfl := Option.some.inj hf
      exact A_iret (pc := 41) dX4_cold_41 rfl rfl ⟨rfl, rfl, rfl⟩
    have hf := oi_f cc2 hf
    refine A_aloadn (pc := 17) dX4_cold_17 rfl ?_
    refine A_bipush (pc := 18) (-6) dX4_cold_18 rfl ?_
    obtain ⟨q5, h6, hf⟩ := oi_b hf
    refine A_cV1i (mi2 := mX4_refuse) (pc := 20) dX4_cold_20 lX4_51 fX4_refuse vX4_refuse (lay_s hT (k := 0) (q := (6, 9)) rfl) rfl (Nat.le_of_ble_eq_true rfl) rfl (Nat.le_of_ble_eq_true rfl) (wX4_refuse (by omega) hT  h6) ?_
    obtain rfl := Option.some.inj hf
    exact A_iret (pc := 23) dX4_cold_23 rfl rfl ⟨rfl, rfl, rfl⟩
  have hf := oi_f cc1 hf
  refine A_aloadn (pc := 4) dX4_cold_4 rfl ?_
  refine A_bipush (pc := 5) (-4) dX4_cold_5 rfl ?_
  obtain ⟨q7, h8, hf⟩ := oi_b hf
  refine A_cV1i (mi2 := mX4_refuse) (pc := 7) dX4_cold_7 lX4_51 fX4_refuse vX4_refuse (lay_s hT (k := 0) (q := (6, 9)) rfl) rfl (Nat.le_of_ble_eq_true rfl) rfl (Nat.le_of_ble_eq_true rfl) (wX4_refuse (by omega) hT  h8) ?_
  obtain rfl := Option.some.inj hf
  exact A_iret (pc := 10) dX4_cold_10 rfl rfl ⟨rfl, rfl, rfl⟩
def zX4_put (n : Nat) (u : MU) (a1 : Int32) (a2 : Int32) : Option (Int32 × MU) := Option.bind (zX3_isYard n u 1 a1) (fun q1 => if q1 = 0 then (Option.bind (zX4_refuse n u (-1)) (fun q4 => some (q4.1, q4.2))) else (Option.bind (zX3_isPerson n u 1 a2) (fun q6 => if q6 = 0 then (Option.bind (zX4_refuse n u (-1)) (fun q17 => some (q17.1, q17.2))) else (if oob a2 7 then none else if (u (1 + 7 + a2.toNatClampNeg) 5) = 0 then (if oob a1 5 then none else letb (u (1 + 3) a1.toNatClampNeg) (fun x12 => Option.bind (zX3_enter n u 1 a1 a2) (fun q13 => some (x12, q13)))) else (Option.bind (zX4_refuse n u (-3)) (fun q15 => some (q15.1, q15.2)))))))
set_option maxHeartbeats 4000000 in
set_option maxRecDepth 100000 in
theorem wX4_put {G : GG} {T : TT} {n d : Nat} (hd : 1 ≤ d) {q : Int32 × MU} {u : MU} {a1 : Int32} {a2 : Int32} (hT : LAY T) (hf : zX4_put n u a1 a2 = some q) : AW G d mX4_put 0 [.ref 0, .int a1, .int a2, .null] [] T u 0 0 (QS T q.1 q.2) := by
  obtain ⟨d, rfl⟩ : ∃ e, d = e + 1 := ⟨d - 1, by omega⟩
  rw [zX4_put] at hf
  refine A_aloadn (pc := 0) dX4_put_0 rfl ?_
  refine A_getR (pc := 1) dX4_put_1 gX4_10 (lay_s hT (k := 0) (q := (6, 9)) rfl) (Nat.le_of_ble_eq_true rfl) rfl (lay_r hT 13 rfl) ?_
  refine A_iloadn (pc := 4) dX4_put_4 rfl ?_
  obtain ⟨q1, h2, hf⟩ := oi_b hf
  refine A_cV1i (mi2 := mX3_isYard) (pc := 5) dX4_put_5 lX4_66 fX3_isYard vX3_isYard (rv_0 (lay_rv1 hT)) rfl (Nat.le_of_ble_eq_true rfl) rfl (Nat.le_of_ble_eq_true rfl) (wX3_isYard (by omega) hT (lay_rv1 hT) h2) ?_
  refine A_if_eq (pc := 8) (w := 0) 22 dX4_put_8 (by decide) (fun cc3 => ?_) (fun cc3 => ?_)
  · have hf := oi_t cc3 hf
    refine A_aloadn (pc := 22) dX4_put_22 rfl ?_
    refine A_iconst (pc := 23) (-1) dX4_put_23 rfl ?_
    obtain ⟨q4, h5, hf⟩ := oi_b hf
    refine A_cV1i (mi2 := mX4_refuse) (pc := 24) dX4_put_24 lX4_51 fX4_refuse vX4_refuse (lay_s hT (k := 0) (q := (6, 9)) rfl) rfl (Nat.le_of_ble_eq_true rfl) rfl (Nat.le_of_ble_eq_true rfl) (wX4_refuse (by omega) hT  h5) ?_
    obtain rfl := Option.some.inj hf
    exact A_iret (pc := 27) dX4_put_27 rfl rfl ⟨rfl, rfl, rfl⟩
  have hf := oi_f cc3 hf
  refine A_aloadn (pc := 11) dX4_put_11 rfl ?_
  refine A_getR (pc := 12) dX4_put_12 gX4_10 (lay_s hT (k := 0) (q := (6, 9)) rfl) (Nat.le_of_ble_eq_true rfl) rfl (lay_r hT 13 rfl) ?_
  refine A_iloadn (pc := 15) dX4_put_15 rfl ?_
  obtain ⟨q6, h7, hf⟩ := oi_b hf
  refine A_cV1i (mi2 := mX3_isPerson) (pc := 16) dX4_put_16 lX4_79 fX3_isPerson vX3_isPerson (rv_0 (lay_rv1 hT)) rfl (Nat.le_of_ble_eq_true rfl) rfl (Nat.le_of_ble_eq_true rfl) (wX3_isPerson (by omega) hT (lay_rv1 hT) h7) ?_
  refine A_if_ne (pc := 19) (w := 0) 28 dX4_put_19 (by decide) (fun cc8 => ?_) (fun cc8 => ?_)
  · have hf := oi_f cc8 hf
    refine A_aloadn (pc := 28) dX4_put_28 rfl ?_
    refine A_getR (pc := 29) dX4_put_29 gX4_10 (lay_s hT (k := 0) (q := (6, 9)) rfl) (Nat.le_of_ble_eq_true rfl) rfl (lay_r hT 13 rfl) ?_
    refine A_getR (pc := 32) dX4_put_32 gX4_82 (rv_0 (lay_rv1 hT)) (Nat.le_of_ble_eq_true rfl) rfl (rv_f7 (lay_rv1 hT)) ?_
    refine A_iloadn (pc := 35) dX4_put_35 rfl ?_
    obtain ⟨h9, hf⟩ := oi_cf hf
    refine A_aald (pc := 36) dX4_put_36 (rv_4 (lay_rv1 hT)) (oob_f h9) (rv_q (lay_rv1 hT) (vpin_lt (oob_f h9))) ?_
    refine A_getI (pc := 37) dX4_put_37 gX4_130 (rv_p (lay_rv1 hT) (vpin_lt (oob_f h9))) (Nat.le_of_ble_eq_true rfl) rfl ?_
    refine A_if_eq (pc := 40) (w := 0) 50 dX4_put_40 (by decide) (fun cc10 => ?_) (fun cc10 => ?_)
    · have hf := oi_t cc10 hf
      refine A_aloadn (pc := 50) dX4_put_50 rfl ?_
      refine A_getR (pc := 51) dX4_put_51 gX4_10 (lay_s hT (k := 0) (q := (6, 9)) rfl) (Nat.le_of_ble_eq_true rfl) rfl (lay_r hT 13 rfl) ?_
      refine A_getR (pc := 54) dX4_put_54 gX4_76 (rv_0 (lay_rv1 hT)) (Nat.le_of_ble_eq_true rfl) rfl (rv_f6 (lay_rv1 hT)) ?_
      refine A_iloadn (pc := 57) dX4_put_57 rfl ?_
      obtain ⟨h11, hf⟩ := oi_cf hf
      refine A_iald (pc := 58) dX4_put_58 (rv_3 (lay_rv1 hT)) (oob_f h11) ?_
      have hf := oi_l hf
      refine A_istn (pc := 59) (L2 := [.ref 0, .int a1, .int a2, .int (u (1 + 3) a1.toNatClampNeg)]) dX4_put_59 (Nat.le_of_ble_eq_true rfl) rfl ?_
      refine A_aloadn (pc := 60) dX4_put_60 rfl ?_
      refine A_getR (pc := 61) dX4_put_61 gX4_10 (lay_s hT (k := 0) (q := (6, 9)) rfl) (Nat.le_of_ble_eq_true rfl) rfl (lay_r hT 13 rfl) ?_
      refine A_iloadn (pc := 64) dX4_put_64 rfl ?_
      refine A_iloadn (pc := 65) dX4_put_65 rfl ?_
      obtain ⟨q13, h14, hf⟩ := oi_b hf
      refine A_cV2v (mi2 := mX3_enter) (pc := 66) dX4_put_66 lX4_133 fX3_enter vX3_enter (rv_0 (lay_rv1 hT)) rfl (Nat.le_of_ble_eq_true rfl) rfl (Nat.le_of_ble_eq_true rfl) (wX3_enter (by omega) hT (lay_rv1 hT) h14) ?_
      refine A_iloadn (pc := 69) dX4_put_69 rfl ?_
      obtain rfl := Option.some.inj hf
      exact A_iret (pc := 70) dX4_put_70 rfl rfl ⟨rfl, rfl, rfl⟩
    have hf := oi_f cc10 hf
    refine A_aloadn (pc := 43) dX4_put_43 rfl ?_
    refine A_bipush (pc := 44) (-3) dX4_put_44 rfl ?_
    obtain ⟨q15, h16, hf⟩ := oi_b hf
    refine A_cV1i (mi2 := mX4_refuse) (pc := 46) dX4_put_46 lX4_51 fX4_refuse vX4_refuse (lay_s hT (k := 0) (q := (6, 9)) rfl) rfl (Nat.le_of_ble_eq_true rfl) rfl (Nat.le_of_ble_eq_true rfl) (wX4_refuse (by omega) hT  h16) ?_
    obtain rfl := Option.some.inj hf
    exact A_iret (pc := 49) dX4_put_49 rfl rfl ⟨rfl, rfl, rfl⟩
  have hf := oi_t cc8 hf
  refine A_aloadn (pc := 22) dX4_put_22 rfl ?_
  refine A_iconst (pc := 23) (-1) dX4_put_23 rfl ?_
  obtain ⟨q17, h18, hf⟩ := oi_b hf
  refine A_cV1i (mi2 := mX4_refuse) (pc := 24) dX4_put_24 lX4_51 fX4_refuse vX4_refuse (lay_s hT (k := 0) (q := (6, 9)) rfl) rfl (Nat.le_of_ble_eq_true rfl) rfl (Nat.le_of_ble_eq_true rfl) (wX4_refuse (by omega) hT  h18) ?_
  obtain rfl := Option.some.inj hf
  exact A_iret (pc := 27) dX4_put_27 rfl rfl ⟨rfl, rfl, rfl⟩
def zX4_out_L25 (n : Nat) (s1 : Int32) (k : Int32 → MU → Option (Int32 × MU)) : Nat → Int32 → MU → Option (Int32 × MU)
  | 0, _, _ => none
  | m + 1, t2, u => if (u 1 3) ≤ t2 then (k t2 u) else (if oob t2 7 then none else letb (up2 u (1 + 7 + t2.toNatClampNeg) 5 0) (fun u10 => zX4_out_L25 n  s1 k m (t2 + 1) u10))
def zX4_out (n : Nat) (u : MU) : Option (Int32 × MU) := Option.bind (zX3_inWater n u 1) (fun q1 => Option.bind (zX3_overThere n u 1) (fun q3 => letb (q1 + q3) (fun x5 => Option.bind (zX3_emptyWater n u 1) (fun q6 => zX4_out_L25 n  x5 (fun y11 w12 => some (x5, w12)) n 0 q6))))
set_option maxHeartbeats 4000000 in
set_option maxRecDepth 100000 in
theorem wX4_out_L25 {G : GG} {T : TT} {n d : Nat} (hd : 1 ≤ d) {s1 : Int32} {k : Int32 → MU → Option (Int32 × MU)} (hT : LAY T) (hk : ∀ (t2 : Int32) (u : MU) (q : Int32 × MU), k t2 u = some q → AW G d mX4_out 55 [.ref 0, .int s1, .int t2] [] T u 0 0 (QS T q.1 q.2)) : ∀ (m : Nat) (t2 : Int32) (u : MU) (q : Int32 × MU), zX4_out_L25 n  s1 k m t2 u = some q → AW G d mX4_out 25 [.ref 0, .int s1, .int t2] [] T u 0 0 (QS T q.1 q.2) := by
  intro m
  obtain ⟨d, rfl⟩ : ∃ e, d = e + 1 := ⟨d - 1, by omega⟩
  induction m with
  | zero =>
    intro t2 u q hf
    have h0 : (none : Option (Int32 × MU)) = some q := hf
    cases h0
  | succ m ih =>
    intro t2 u q hf
    rw [zX4_out_L25] at hf
    refine A_iloadn (pc := 25) dX4_out_25 rfl ?_
    refine A_aloadn (pc := 26) dX4_out_26 rfl ?_
    refine A_getR (pc := 27) dX4_out_27 gX4_10 (lay_s hT (k := 0) (q := (6, 9)) rfl) (Nat.le_of_ble_eq_true rfl) rfl (lay_r hT 13 rfl) ?_
    refine A_getI (pc := 30) dX4_out_30 gX4_146 (rv_0 (lay_rv1 hT)) (Nat.le_of_ble_eq_true rfl) rfl ?_
    refine A_icmp_ge (pc := 33) 55 dX4_out_33 (by decide) (fun cc8 => ?_) (fun cc8 => ?_)
    · have hf := oi_t cc8 hf
      exact hk _ _ _ hf
    have hf := oi_f cc8 hf
    refine A_aloadn (pc := 36) dX4_out_36 rfl ?_
    refine A_getR (pc := 37) dX4_out_37 gX4_10 (lay_s hT (k := 0) (q := (6, 9)) rfl) (Nat.le_of_ble_eq_true rfl) rfl (lay_r hT 13 rfl) ?_
    refine A_getR (pc := 40) dX4_out_40 gX4_82 (rv_0 (lay_rv1 hT)) (Nat.le_of_ble_eq_true rfl) rfl (rv_f7 (lay_rv1 hT)) ?_
    refine A_iloadn (pc := 43) dX4_out_43 rfl ?_
    obtain ⟨h9, hf⟩ := oi_cf hf
    refine A_aald (pc := 44) dX4_out_44 (rv_4 (lay_rv1 hT)) (oob_f h9) (rv_q (lay_rv1 hT) (vpin_lt (oob_f h9))) ?_
    refine A_iconst (pc := 45) 0 dX4_out_45 rfl ?_
    have hf := oi_l hf
    refine A_putI (pc := 46) dX4_out_46 gX4_130 (rv_p (lay_rv1 hT) (vpin_lt (oob_f h9))) (Nat.le_of_ble_eq_true rfl) rfl rfl rfl rfl ?_
    refine A_inc (pc := 49) (L2 := [.ref 0, .int s1, .int (t2 + 1)]) (t2 + 1) dX4_out_49 rfl rfl rfl ?_
    refine A_goto (pc := 52) 25 dX4_out_52 (by decide) ?_
    exact ih _ _ _ hf
set_option maxHeartbeats 4000000 in
set_option maxRecDepth 100000 in
theorem wX4_out {G : GG} {T : TT} {n d : Nat} (hd : 1 ≤ d) {q : Int32 × MU} {u : MU} (hT : LAY T) (hf : zX4_out n u = some q) : AW G d mX4_out 0 [.ref 0, .null, .null] [] T u 0 0 (QS T q.1 q.2) := by
  obtain ⟨d, rfl⟩ : ∃ e, d = e + 1 := ⟨d - 1, by omega⟩
  rw [zX4_out] at hf
  refine A_aloadn (pc := 0) dX4_out_0 rfl ?_
  refine A_getR (pc := 1) dX4_out_1 gX4_10 (lay_s hT (k := 0) (q := (6, 9)) rfl) (Nat.le_of_ble_eq_true rfl) rfl (lay_r hT 13 rfl) ?_
  obtain ⟨q1, h2, hf⟩ := oi_b hf
  refine A_cV0i (mi2 := mX3_inWater) (pc := 4) dX4_out_4 lX4_137 fX3_inWater vX3_inWater (rv_0 (lay_rv1 hT)) rfl (Nat.le_of_ble_eq_true rfl) rfl (Nat.le_of_ble_eq_true rfl) (wX3_inWater (by omega) hT (lay_rv1 hT) h2) ?_
  refine A_aloadn (pc := 7) dX4_out_7 rfl ?_
  refine A_getR (pc := 8) dX4_out_8 gX4_10 (lay_s hT (k := 0) (q := (6, 9)) rfl) (Nat.le_of_ble_eq_true rfl) rfl (lay_r hT 13 rfl) ?_
  obtain ⟨q3, h4, hf⟩ := oi_b hf
  refine A_cV0i (mi2 := mX3_overThere) (pc := 11) dX4_out_11 lX4_140 fX3_overThere vX3_overThere (rv_0 (lay_rv1 hT)) rfl (Nat.le_of_ble_eq_true rfl) rfl (Nat.le_of_ble_eq_true rfl) (wX3_overThere (by omega) hT (lay_rv1 hT) h4) ?_
  refine A_iadd (pc := 14) dX4_out_14 ?_
  have hf := oi_l hf
  refine A_istn (pc := 15) (L2 := [.ref 0, .int (q1 + q3), .null]) dX4_out_15 (Nat.le_of_ble_eq_true rfl) rfl ?_
  refine A_aloadn (pc := 16) dX4_out_16 rfl ?_
  refine A_getR (pc := 17) dX4_out_17 gX4_10 (lay_s hT (k := 0) (q := (6, 9)) rfl) (Nat.le_of_ble_eq_true rfl) rfl (lay_r hT 13 rfl) ?_
  obtain ⟨q6, h7, hf⟩ := oi_b hf
  refine A_cV0v (mi2 := mX3_emptyWater) (pc := 20) dX4_out_20 lX4_143 fX3_emptyWater vX3_emptyWater (rv_0 (lay_rv1 hT)) rfl (Nat.le_of_ble_eq_true rfl) rfl (Nat.le_of_ble_eq_true rfl) (wX3_emptyWater (by omega) hT (lay_rv1 hT) h7) ?_
  refine A_iconst (pc := 23) 0 dX4_out_23 rfl ?_
  refine A_istn (pc := 24) (L2 := [.ref 0, .int (q1 + q3), .int 0]) dX4_out_24 (Nat.le_of_ble_eq_true rfl) rfl ?_
  exact wX4_out_L25 (by omega) hT  (fun y11 w12 q0 hf => by
    refine A_iloadn (pc := 55) dX4_out_55 rfl ?_
    obtain rfl := Option.some.inj hf
    exact A_iret (pc := 56) dX4_out_56 rfl rfl ⟨rfl, rfl, rfl⟩) _ _ _ _ hf
def zX4_load (n : Nat) (u : MU) (a1 : Int32) : Option (Int32 × MU) := if a1 < 0 then (Option.bind (zX4_refuse n u (-1)) (fun q2 => some (q2.1, q2.2))) else (if a1 ≤ (u 1 0) then (Option.bind (zX3_loadOf n u 1 a1) (fun q5 => some (q5, u))) else (Option.bind (zX4_refuse n u (-1)) (fun q7 => some (q7.1, q7.2))))
set_option maxHeartbeats 4000000 in
set_option maxRecDepth 100000 in
theorem wX4_load {G : GG} {T : TT} {n d : Nat} (hd : 2 ≤ d) {q : Int32 × MU} {u : MU} {a1 : Int32} (hT : LAY T) (hf : zX4_load n u a1 = some q) : AW G d mX4_load 0 [.ref 0, .int a1] [] T u 0 0 (QS T q.1 q.2) := by
  obtain ⟨d, rfl⟩ : ∃ e, d = e + 1 := ⟨d - 1, by omega⟩
  rw [zX4_load] at hf
  refine A_iloadn (pc := 0) dX4_load_0 rfl ?_
  refine A_if_lt (pc := 1) (w := 0) 15 dX4_load_1 (by decide) (fun cc1 => ?_) (fun cc1 => ?_)
  · have hf := oi_t cc1 hf
    refine A_aloadn (pc := 15) dX4_load_15 rfl ?_
    refine A_iconst (pc := 16) (-1) dX4_load_16 rfl ?_
    obtain ⟨q2, h3, hf⟩ := oi_b hf
    refine A_cV1i (mi2 := mX4_refuse) (pc := 17) dX4_load_17 lX4_51 fX4_refuse vX4_refuse (lay_s hT (k := 0) (q := (6, 9)) rfl) rfl (Nat.le_of_ble_eq_true rfl) rfl (Nat.le_of_ble_eq_true rfl) (wX4_refuse (by omega) hT  h3) ?_
    obtain rfl := Option.some.inj hf
    exact A_iret (pc := 20) dX4_load_20 rfl rfl ⟨rfl, rfl, rfl⟩
  have hf := oi_f cc1 hf
  refine A_iloadn (pc := 4) dX4_load_4 rfl ?_
  refine A_aloadn (pc := 5) dX4_load_5 rfl ?_
  refine A_getR (pc := 6) dX4_load_6 gX4_10 (lay_s hT (k := 0) (q := (6, 9)) rfl) (Nat.le_of_ble_eq_true rfl) rfl (lay_r hT 13 rfl) ?_
  refine A_getI (pc := 9) dX4_load_9 gX4_149 (rv_0 (lay_rv1 hT)) (Nat.le_of_ble_eq_true rfl) rfl ?_
  refine A_icmp_le (pc := 12) 21 dX4_load_12 (by decide) (fun cc4 => ?_) (fun cc4 => ?_)
  · have hf := oi_t cc4 hf
    refine A_aloadn (pc := 21) dX4_load_21 rfl ?_
    refine A_getR (pc := 22) dX4_load_22 gX4_10 (lay_s hT (k := 0) (q := (6, 9)) rfl) (Nat.le_of_ble_eq_true rfl) rfl (lay_r hT 13 rfl) ?_
    refine A_iloadn (pc := 25) dX4_load_25 rfl ?_
    obtain ⟨q5, h6, hf⟩ := oi_b hf
    refine A_cV1i (mi2 := mX3_loadOf) (pc := 26) dX4_load_26 lX4_152 fX3_loadOf vX3_loadOf (rv_0 (lay_rv1 hT)) rfl (Nat.le_of_ble_eq_true rfl) rfl (Nat.le_of_ble_eq_true rfl) (wX3_loadOf (by omega) hT (lay_rv1 hT) h6) ?_
    obtain rfl := Option.some.inj hf
    exact A_iret (pc := 29) dX4_load_29 rfl rfl ⟨rfl, rfl, rfl⟩
  have hf := oi_f cc4 hf
  refine A_aloadn (pc := 15) dX4_load_15 rfl ?_
  refine A_iconst (pc := 16) (-1) dX4_load_16 rfl ?_
  obtain ⟨q7, h8, hf⟩ := oi_b hf
  refine A_cV1i (mi2 := mX4_refuse) (pc := 17) dX4_load_17 lX4_51 fX4_refuse vX4_refuse (lay_s hT (k := 0) (q := (6, 9)) rfl) rfl (Nat.le_of_ble_eq_true rfl) rfl (Nat.le_of_ble_eq_true rfl) (wX4_refuse (by omega) hT  h8) ?_
  obtain rfl := Option.some.inj hf
  exact A_iret (pc := 20) dX4_load_20 rfl rfl ⟨rfl, rfl, rfl⟩
def zX4_slips (n : Nat) (u : MU) (a1 : Int32) : Option (Int32 × MU) := if a1 = 0 then (Option.bind (zX3_firstSlip n u 1 (1 + 3) 5) (fun q2 => if q2 = (-9) then (some (q2, u)) else (if a1 = 0 then (some (q2, u)) else (Option.bind (zX3_whySlips n u 1 (1 + 3) 5 q2) (fun q6 => some (q6, u)))))) else (if a1 = 1 then (Option.bind (zX3_firstSlip n u 1 (1 + 3) 5) (fun q9 => if q9 = (-9) then (some (q9, u)) else (if a1 = 0 then (some (q9, u)) else (Option.bind (zX3_whySlips n u 1 (1 + 3) 5 q9) (fun q13 => some (q13, u)))))) else (Option.bind (zX4_refuse n u (-2)) (fun q15 => some (q15.1, q15.2))))
set_option maxHeartbeats 4000000 in
set_option maxRecDepth 100000 in
theorem wX4_slips {G : GG} {T : TT} {n d : Nat} (hd : 5 ≤ d) {q : Int32 × MU} {u : MU} {a1 : Int32} (hT : LAY T) (hf : zX4_slips n u a1 = some q) : AW G d mX4_slips 0 [.ref 0, .int a1, .null] [] T u 0 0 (QS T q.1 q.2) := by
  obtain ⟨d, rfl⟩ : ∃ e, d = e + 1 := ⟨d - 1, by omega⟩
  rw [zX4_slips] at hf
  refine A_iloadn (pc := 0) dX4_slips_0 rfl ?_
  refine A_if_eq (pc := 1) (w := 0) 16 dX4_slips_1 (by decide) (fun cc1 => ?_) (fun cc1 => ?_)
  · have hf := oi_t cc1 hf
    refine A_aloadn (pc := 16) dX4_slips_16 rfl ?_
    refine A_getR (pc := 17) dX4_slips_17 gX4_10 (lay_s hT (k := 0) (q := (6, 9)) rfl) (Nat.le_of_ble_eq_true rfl) rfl (lay_r hT 13 rfl) ?_
    refine A_aloadn (pc := 20) dX4_slips_20 rfl ?_
    refine A_getR (pc := 21) dX4_slips_21 gX4_10 (lay_s hT (k := 0) (q := (6, 9)) rfl) (Nat.le_of_ble_eq_true rfl) rfl (lay_r hT 13 rfl) ?_
    refine A_getR (pc := 24) dX4_slips_24 gX4_76 (rv_0 (lay_rv1 hT)) (Nat.le_of_ble_eq_true rfl) rfl (rv_f6 (lay_rv1 hT)) ?_
    obtain ⟨q2, h3, hf⟩ := oi_b hf
    refine A_cV1i (mi2 := mX3_firstSlip) (pc := 27) dX4_slips_27 lX4_155 fX3_firstSlip vX3_firstSlip (rv_0 (lay_rv1 hT)) rfl (Nat.le_of_ble_eq_true rfl) rfl (Nat.le_of_ble_eq_true rfl) (wX3_firstSlip (by omega) hT (lay_rv1 hT) (rv_3 (lay_rv1 hT)) h3) ?_
    refine A_istn (pc := 30) (L2 := [.ref 0, .int a1, .int q2]) dX4_slips_30 (Nat.le_of_ble_eq_true rfl) rfl ?_
    refine A_iloadn (pc := 31) dX4_slips_31 rfl ?_
    refine A_bipush (pc := 32) (-9) dX4_slips_32 rfl ?_
    refine A_icmp_eq (pc := 34) 41 dX4_slips_34 (by decide) (fun cc4 => ?_) (fun cc4 => ?_)
    · have hf := oi_t cc4 hf
      refine A_iloadn (pc := 41) dX4_slips_41 rfl ?_
      obtain rfl := Option.some.inj hf
      exact A_iret (pc := 42) dX4_slips_42 rfl rfl ⟨rfl, rfl, rfl⟩
    have hf := oi_f cc4 hf
    refine A_iloadn (pc := 37) dX4_slips_37 rfl ?_
    refine A_if_ne (pc := 38) (w := 0) 43 dX4_slips_38 (by decide) (fun cc5 => ?_) (fun cc5 => ?_)
    · have hf := oi_f cc5 hf
      refine A_aloadn (pc := 43) dX4_slips_43 rfl ?_
      refine A_getR (pc := 44) dX4_slips_44 gX4_10 (lay_s hT (k := 0) (q := (6, 9)) rfl) (Nat.le_of_ble_eq_true rfl) rfl (lay_r hT 13 rfl) ?_
      refine A_aloadn (pc := 47) dX4_slips_47 rfl ?_
      refine A_getR (pc := 48) dX4_slips_48 gX4_10 (lay_s hT (k := 0) (q := (6, 9)) rfl) (Nat.le_of_ble_eq_true rfl) rfl (lay_r hT 13 rfl) ?_
      refine A_getR (pc := 51) dX4_slips_51 gX4_76 (rv_0 (lay_rv1 hT)) (Nat.le_of_ble_eq_true rfl) rfl (rv_f6 (lay_rv1 hT)) ?_
      refine A_iloadn (pc := 54) dX4_slips_54 rfl ?_
      obtain ⟨q6, h7, hf⟩ := oi_b hf
      refine A_cV2i (mi2 := mX3_whySlips) (pc := 55) dX4_slips_55 lX4_159 fX3_whySlips vX3_whySlips (rv_0 (lay_rv1 hT)) rfl (Nat.le_of_ble_eq_true rfl) rfl (Nat.le_of_ble_eq_true rfl) (wX3_whySlips (by omega) hT (lay_rv1 hT) (rv_3 (lay_rv1 hT)) h7) ?_
      obtain rfl := Option.some.inj hf
      exact A_iret (pc := 58) dX4_slips_58 rfl rfl ⟨rfl, rfl, rfl⟩
    have hf := oi_t cc5 hf
    refine A_iloadn (pc := 41) dX4_slips_41 rfl ?_
    obtain rfl := Option.some.inj hf
    exact A_iret (pc := 42) dX4_slips_42 rfl rfl ⟨rfl, rfl, rfl⟩
  have hf := oi_f cc1 hf
  refine A_iloadn (pc := 4) dX4_slips_4 rfl ?_
  refine A_iconst (pc := 5) 1 dX4_slips_5 rfl ?_
  refine A_icmp_eq (pc := 6) 16 dX4_slips_6 (by decide) (fun cc8 => ?_) (fun cc8 => ?_)
  · have hf := oi_t cc8 hf
    refine A_aloadn (pc := 16) dX4_slips_16 rfl ?_
    refine A_getR (pc := 17) dX4_slips_17 gX4_10 (lay_s hT (k := 0) (q := (6, 9)) rfl) (Nat.le_of_ble_eq_true rfl) rfl (lay_r hT 13 rfl) ?_
    refine A_aloadn (pc := 20) dX4_slips_20 rfl ?_
    refine A_getR (pc := 21) dX4_slips_21 gX4_10 (lay_s hT (k := 0) (q := (6, 9)) rfl) (Nat.le_of_ble_eq_true rfl) rfl (lay_r hT 13 rfl) ?_
    refine A_getR (pc := 24) dX4_slips_24 gX4_76 (rv_0 (lay_rv1 hT)) (Nat.le_of_ble_eq_true rfl) rfl (rv_f6 (lay_rv1 hT)) ?_
    obtain ⟨q9, h10, hf⟩ := oi_b hf
    refine A_cV1i (mi2 := mX3_firstSlip) (pc := 27) dX4_slips_27 lX4_155 fX3_firstSlip vX3_firstSlip (rv_0 (lay_rv1 hT)) rfl (Nat.le_of_ble_eq_true rfl) rfl (Nat.le_of_ble_eq_true rfl) (wX3_firstSlip (by omega) hT (lay_rv1 hT) (rv_3 (lay_rv1 hT)) h10) ?_
    refine A_istn (pc := 30) (L2 := [.ref 0, .int a1, .int q9]) dX4_slips_30 (Nat.le_of_ble_eq_true rfl) rfl ?_
    refine A_iloadn (pc := 31) dX4_slips_31 rfl ?_
    refine A_bipush (pc := 32) (-9) dX4_slips_32 rfl ?_
    refine A_icmp_eq (pc := 34) 41 dX4_slips_34 (by decide) (fun cc11 => ?_) (fun cc11 => ?_)
    · have hf := oi_t cc11 hf
      refine A_iloadn (pc := 41) dX4_slips_41 rfl ?_
      obtain rfl := Option.some.inj hf
      exact A_iret (pc := 42) dX4_slips_42 rfl rfl ⟨rfl, rfl, rfl⟩
    have hf := oi_f cc11 hf
    refine A_iloadn (pc := 37) dX4_slips_37 rfl ?_
    refine A_if_ne (pc := 38) (w := 0) 43 dX4_slips_38 (by decide) (fun cc12 => ?_) (fun cc12 => ?_)
    · have hf := oi_f cc12 hf
      refine A_aloadn (pc := 43) dX4_slips_43 rfl ?_
      refine A_getR (pc := 44) dX4_slips_44 gX4_10 (lay_s hT (k := 0) (q := (6, 9)) rfl) (Nat.le_of_ble_eq_true rfl) rfl (lay_r hT 13 rfl) ?_
      refine A_aloadn (pc := 47) dX4_slips_47 rfl ?_
      refine A_getR (pc := 48) dX4_slips_48 gX4_10 (lay_s hT (k := 0) (q := (6, 9)) rfl) (Nat.le_of_ble_eq_true rfl) rfl (lay_r hT 13 rfl) ?_
      refine A_getR (pc := 51) dX4_slips_51 gX4_76 (rv_0 (lay_rv1 hT)) (Nat.le_of_ble_eq_true rfl) rfl (rv_f6 (lay_rv1 hT)) ?_
      refine A_iloadn (pc := 54) dX4_slips_54 rfl ?_
      obtain ⟨q13, h14, hf⟩ := oi_b hf
      refine A_cV2i (mi2 := mX3_whySlips) (pc := 55) dX4_slips_55 lX4_159 fX3_whySlips vX3_whySlips (rv_0 (lay_rv1 hT)) rfl (Nat.le_of_ble_eq_true rfl) rfl (Nat.le_of_ble_eq_true rfl) (wX3_whySlips (by omega) hT (lay_rv1 hT) (rv_3 (lay_rv1 hT)) h14) ?_
      obtain rfl := Option.some.inj hf
      exact A_iret (pc := 58) dX4_slips_58 rfl rfl ⟨rfl, rfl, rfl⟩
    have hf := oi_t cc12 hf
    refine A_iloadn (pc := 41) dX4_slips_41 rfl ?_
    obtain rfl := Option.some.inj hf
    exact A_iret (pc := 42) dX4_slips_42 rfl rfl ⟨rfl, rfl, rfl⟩
  have hf := oi_f cc8 hf
  refine A_aloadn (pc := 9) dX4_slips_9 rfl ?_
  refine A_bipush (pc := 10) (-2) dX4_slips_10 rfl ?_
  obtain ⟨q15, h16, hf⟩ := oi_b hf
  refine A_cV1i (mi2 := mX4_refuse) (pc := 12) dX4_slips_12 lX4_51 fX4_refuse vX4_refuse (lay_s hT (k := 0) (q := (6, 9)) rfl) rfl (Nat.le_of_ble_eq_true rfl) rfl (Nat.le_of_ble_eq_true rfl) (wX4_refuse (by omega) hT  h16) ?_
  obtain rfl := Option.some.inj hf
  exact A_iret (pc := 15) dX4_slips_15 rfl rfl ⟨rfl, rfl, rfl⟩
def zX4_lasts (n : Nat) (u : MU) : Option (Int32) := Option.bind (zX3_minutesOf n u 1 (1 + 3) 5) (fun q1 => some q1)
set_option maxHeartbeats 4000000 in
set_option maxRecDepth 100000 in
theorem wX4_lasts {G : GG} {T : TT} {n d : Nat} (hd : 6 ≤ d) {q : Int32} {u : MU} (hT : LAY T) (hf : zX4_lasts n u = some q) : AW G d mX4_lasts 0 [.ref 0] [] T u 0 0 (QS T q u) := by
  obtain ⟨d, rfl⟩ : ∃ e, d = e + 1 := ⟨d - 1, by omega⟩
  rw [zX4_lasts] at hf
  refine A_aloadn (pc := 0) dX4_lasts_0 rfl ?_
  refine A_getR (pc := 1) dX4_lasts_1 gX4_10 (lay_s hT (k := 0) (q := (6, 9)) rfl) (Nat.le_of_ble_eq_true rfl) rfl (lay_r hT 13 rfl) ?_
  refine A_aloadn (pc := 4) dX4_lasts_4 rfl ?_
  refine A_getR (pc := 5) dX4_lasts_5 gX4_10 (lay_s hT (k := 0) (q := (6, 9)) rfl) (Nat.le_of_ble_eq_true rfl) rfl (lay_r hT 13 rfl) ?_
  refine A_getR (pc := 8) dX4_lasts_8 gX4_76 (rv_0 (lay_rv1 hT)) (Nat.le_of_ble_eq_true rfl) rfl (rv_f6 (lay_rv1 hT)) ?_
  obtain ⟨q1, h2, hf⟩ := oi_b hf
  refine A_cV1i (mi2 := mX3_minutesOf) (pc := 11) dX4_lasts_11 lX4_163 fX3_minutesOf vX3_minutesOf (rv_0 (lay_rv1 hT)) rfl (Nat.le_of_ble_eq_true rfl) rfl (Nat.le_of_ble_eq_true rfl) (wX3_minutesOf (by omega) hT (lay_rv1 hT) (rv_3 (lay_rv1 hT)) h2) ?_
  obtain rfl := Option.some.inj hf
  exact A_iret (pc := 14) dX4_lasts_14 rfl rfl ⟨rfl, rfl, rfl⟩
def zX4_cross (n : Nat) (u : MU) (a1 : Int32) : Option (Int32 × MU) := Option.bind (zX3_isPerson n u 1 a1) (fun q1 => if q1 = 0 then (Option.bind (zX4_refuse n u (-1)) (fun q18 => some (q18.1, q18.2))) else (Option.bind (zX3_isNear n u 1 a1) (fun q4 => if q4 = 0 then (Option.bind (zX4_refuse n u (-3)) (fun q7 => some (q7.1, q7.2))) else (Option.bind (zX3_minutesOf n u 1 (1 + 3) 5) (fun q9 => if 1 ≤ q9 then (Option.bind (zX3_bringOver n u 1 a1) (fun q12 => Option.bind (zX3_overThere n q12 1) (fun q14 => some (q14, q12)))) else (Option.bind (zX4_refuse n u (-3)) (fun q16 => some (q16.1, q16.2))))))))
set_option maxHeartbeats 4000000 in
set_option maxRecDepth 100000 in
theorem wX4_cross {G : GG} {T : TT} {n d : Nat} (hd : 6 ≤ d) {q : Int32 × MU} {u : MU} {a1 : Int32} (hT : LAY T) (hf : zX4_cross n u a1 = some q) : AW G d mX4_cross 0 [.ref 0, .int a1] [] T u 0 0 (QS T q.1 q.2) := by
  obtain ⟨d, rfl⟩ : ∃ e, d = e + 1 := ⟨d - 1, by omega⟩
  rw [zX4_cross] at hf
  refine A_aloadn (pc := 0) dX4_cross_0 rfl ?_
  refine A_getR (pc := 1) dX4_cross_1 gX4_10 (lay_s hT (k := 0) (q := (6, 9)) rfl) (Nat.le_of_ble_eq_true rfl) rfl (lay_r hT 13 rfl) ?_
  refine A_iloadn (pc := 4) dX4_cross_4 rfl ?_
  obtain ⟨q1, h2, hf⟩ := oi_b hf
  refine A_cV1i (mi2 := mX3_isPerson) (pc := 5) dX4_cross_5 lX4_79 fX3_isPerson vX3_isPerson (rv_0 (lay_rv1 hT)) rfl (Nat.le_of_ble_eq_true rfl) rfl (Nat.le_of_ble_eq_true rfl) (wX3_isPerson (by omega) hT (lay_rv1 hT) h2) ?_
  refine A_if_ne (pc := 8) (w := 0) 17 dX4_cross_8 (by decide) (fun cc3 => ?_) (fun cc3 => ?_)
  · have hf := oi_f cc3 hf
    refine A_aloadn (pc := 17) dX4_cross_17 rfl ?_
    refine A_getR (pc := 18) dX4_cross_18 gX4_10 (lay_s hT (k := 0) (q := (6, 9)) rfl) (Nat.le_of_ble_eq_true rfl) rfl (lay_r hT 13 rfl) ?_
    refine A_iloadn (pc := 21) dX4_cross_21 rfl ?_
    obtain ⟨q4, h5, hf⟩ := oi_b hf
    refine A_cV1i (mi2 := mX3_isNear) (pc := 22) dX4_cross_22 lX4_166 fX3_isNear vX3_isNear (rv_0 (lay_rv1 hT)) rfl (Nat.le_of_ble_eq_true rfl) rfl (Nat.le_of_ble_eq_true rfl) (wX3_isNear (by omega) hT (lay_rv1 hT) h5) ?_
    refine A_if_eq (pc := 25) (w := 0) 46 dX4_cross_25 (by decide) (fun cc6 => ?_) (fun cc6 => ?_)
    · have hf := oi_t cc6 hf
      refine A_aloadn (pc := 46) dX4_cross_46 rfl ?_
      refine A_bipush (pc := 47) (-3) dX4_cross_47 rfl ?_
      obtain ⟨q7, h8, hf⟩ := oi_b hf
      refine A_cV1i (mi2 := mX4_refuse) (pc := 49) dX4_cross_49 lX4_51 fX4_refuse vX4_refuse (lay_s hT (k := 0) (q := (6, 9)) rfl) rfl (Nat.le_of_ble_eq_true rfl) rfl (Nat.le_of_ble_eq_true rfl) (wX4_refuse (by omega) hT  h8) ?_
      obtain rfl := Option.some.inj hf
      exact A_iret (pc := 52) dX4_cross_52 rfl rfl ⟨rfl, rfl, rfl⟩
    have hf := oi_f cc6 hf
    refine A_aloadn (pc := 28) dX4_cross_28 rfl ?_
    refine A_getR (pc := 29) dX4_cross_29 gX4_10 (lay_s hT (k := 0) (q := (6, 9)) rfl) (Nat.le_of_ble_eq_true rfl) rfl (lay_r hT 13 rfl) ?_
    refine A_aloadn (pc := 32) dX4_cross_32 rfl ?_
    refine A_getR (pc := 33) dX4_cross_33 gX4_10 (lay_s hT (k := 0) (q := (6, 9)) rfl) (Nat.le_of_ble_eq_true rfl) rfl (lay_r hT 13 rfl) ?_
    refine A_getR (pc := 36) dX4_cross_36 gX4_76 (rv_0 (lay_rv1 hT)) (Nat.le_of_ble_eq_true rfl) rfl (rv_f6 (lay_rv1 hT)) ?_
    obtain ⟨q9, h10, hf⟩ := oi_b hf
    refine A_cV1i (mi2 := mX3_minutesOf) (pc := 39) dX4_cross_39 lX4_163 fX3_minutesOf vX3_minutesOf (rv_0 (lay_rv1 hT)) rfl (Nat.le_of_ble_eq_true rfl) rfl (Nat.le_of_ble_eq_true rfl) (wX3_minutesOf (by omega) hT (lay_rv1 hT) (rv_3 (lay_rv1 hT)) h10) ?_
    refine A_iconst (pc := 42) 1 dX4_cross_42 rfl ?_
    refine A_icmp_ge (pc := 43) 53 dX4_cross_43 (by decide) (fun cc11 => ?_) (fun cc11 => ?_)
    · have hf := oi_t cc11 hf
      refine A_aloadn (pc := 53) dX4_cross_53 rfl ?_
      refine A_getR (pc := 54) dX4_cross_54 gX4_10 (lay_s hT (k := 0) (q := (6, 9)) rfl) (Nat.le_of_ble_eq_true rfl) rfl (lay_r hT 13 rfl) ?_
      refine A_iloadn (pc := 57) dX4_cross_57 rfl ?_
      obtain ⟨q12, h13, hf⟩ := oi_b hf
      refine A_cV1v (mi2 := mX3_bringOver) (pc := 58) dX4_cross_58 lX4_169 fX3_bringOver vX3_bringOver (rv_0 (lay_rv1 hT)) rfl (Nat.le_of_ble_eq_true rfl) rfl (Nat.le_of_ble_eq_true rfl) (wX3_bringOver (by omega) hT (lay_rv1 hT) h13) ?_
      refine A_aloadn (pc := 61) dX4_cross_61 rfl ?_
      refine A_getR (pc := 62) dX4_cross_62 gX4_10 (lay_s hT (k := 0) (q := (6, 9)) rfl) (Nat.le_of_ble_eq_true rfl) rfl (lay_r hT 13 rfl) ?_
      obtain ⟨q14, h15, hf⟩ := oi_b hf
      refine A_cV0i (mi2 := mX3_overThere) (pc := 65) dX4_cross_65 lX4_140 fX3_overThere vX3_overThere (rv_0 (lay_rv1 hT)) rfl (Nat.le_of_ble_eq_true rfl) rfl (Nat.le_of_ble_eq_true rfl) (wX3_overThere (by omega) hT (lay_rv1 hT) h15) ?_
      obtain rfl := Option.some.inj hf
      exact A_iret (pc := 68) dX4_cross_68 rfl rfl ⟨rfl, rfl, rfl⟩
    have hf := oi_f cc11 hf
    refine A_aloadn (pc := 46) dX4_cross_46 rfl ?_
    refine A_bipush (pc := 47) (-3) dX4_cross_47 rfl ?_
    obtain ⟨q16, h17, hf⟩ := oi_b hf
    refine A_cV1i (mi2 := mX4_refuse) (pc := 49) dX4_cross_49 lX4_51 fX4_refuse vX4_refuse (lay_s hT (k := 0) (q := (6, 9)) rfl) rfl (Nat.le_of_ble_eq_true rfl) rfl (Nat.le_of_ble_eq_true rfl) (wX4_refuse (by omega) hT  h17) ?_
    obtain rfl := Option.some.inj hf
    exact A_iret (pc := 52) dX4_cross_52 rfl rfl ⟨rfl, rfl, rfl⟩
  have hf := oi_t cc3 hf
  refine A_aloadn (pc := 11) dX4_cross_11 rfl ?_
  refine A_iconst (pc := 12) (-1) dX4_cross_12 rfl ?_
  obtain ⟨q18, h19, hf⟩ := oi_b hf
  refine A_cV1i (mi2 := mX4_refuse) (pc := 13) dX4_cross_13 lX4_51 fX4_refuse vX4_refuse (lay_s hT (k := 0) (q := (6, 9)) rfl) rfl (Nat.le_of_ble_eq_true rfl) rfl (Nat.le_of_ble_eq_true rfl) (wX4_refuse (by omega) hT  h19) ?_
  obtain rfl := Option.some.inj hf
  exact A_iret (pc := 16) dX4_cross_16 rfl rfl ⟨rfl, rfl, rfl⟩
def zX4_chains (n : Nat) (u : MU) : Option (Int32 × MU) := Option.bind (zX3_notOver n u 1) (fun q1 => Option.bind (zX1_thinkOf n u 1 q1) (fun q3 => some ((q3 45 3), q3)))
set_option maxHeartbeats 4000000 in
set_option maxRecDepth 100000 in
theorem wX4_chains {G : GG} {T : TT} {n d : Nat} (hd : 13 ≤ d) {q : Int32 × MU} {u : MU} (hT : LAY T) (hf : zX4_chains n u = some q) : AW G d mX4_chains 0 [.ref 0] [] T u 0 0 (QS T q.1 q.2) := by
  obtain ⟨d, rfl⟩ : ∃ e, d = e + 1 := ⟨d - 1, by omega⟩
  rw [zX4_chains] at hf
  refine A_aloadn (pc := 0) dX4_chains_0 rfl ?_
  refine A_getR (pc := 1) dX4_chains_1 gX4_36 (lay_s hT (k := 0) (q := (6, 9)) rfl) (Nat.le_of_ble_eq_true rfl) rfl (lay_r hT 49 rfl) ?_
  refine A_aloadn (pc := 4) dX4_chains_4 rfl ?_
  refine A_getR (pc := 5) dX4_chains_5 gX4_10 (lay_s hT (k := 0) (q := (6, 9)) rfl) (Nat.le_of_ble_eq_true rfl) rfl (lay_r hT 13 rfl) ?_
  refine A_aloadn (pc := 8) dX4_chains_8 rfl ?_
  refine A_getR (pc := 9) dX4_chains_9 gX4_10 (lay_s hT (k := 0) (q := (6, 9)) rfl) (Nat.le_of_ble_eq_true rfl) rfl (lay_r hT 13 rfl) ?_
  obtain ⟨q1, h2, hf⟩ := oi_b hf
  refine A_cV0i (mi2 := mX3_notOver) (pc := 12) dX4_chains_12 lX4_172 fX3_notOver vX3_notOver (rv_0 (lay_rv1 hT)) rfl (Nat.le_of_ble_eq_true rfl) rfl (Nat.le_of_ble_eq_true rfl) (wX3_notOver (by omega) hT (lay_rv1 hT) h2) ?_
  obtain ⟨q3, h4, hf⟩ := oi_b hf
  refine A_cV2v (mi2 := mX1_thinkOf) (pc := 15) dX4_chains_15 lX4_175 fX1_thinkOf vX1_thinkOf (lay_s hT (k := 45) (q := (3, 8)) rfl) rfl (Nat.le_of_ble_eq_true rfl) rfl (Nat.le_of_ble_eq_true rfl) (wX1_thinkOf (by omega) hT (lay_rv1 hT) h4) ?_
  refine A_aloadn (pc := 18) dX4_chains_18 rfl ?_
  refine A_getR (pc := 19) dX4_chains_19 gX4_36 (lay_s hT (k := 0) (q := (6, 9)) rfl) (Nat.le_of_ble_eq_true rfl) rfl (lay_r hT 49 rfl) ?_
  refine A_getI (pc := 22) dX4_chains_22 gX4_179 (lay_s hT (k := 45) (q := (3, 8)) rfl) (Nat.le_of_ble_eq_true rfl) rfl ?_
  obtain rfl := Option.some.inj hf
  exact A_iret (pc := 25) dX4_chains_25 rfl rfl ⟨rfl, rfl, rfl⟩
