def zX4_longest (n : Nat) (u : MU) (a1 : Int32) : Option (Int32 × MU) := if a1 = (-1) then (Option.bind (zX3_notOver n u 1) (fun q2 => Option.bind (zX1_thinkOf n u 1 q2) (fun q4 => if (q4 45 3) = 0 then (some ((-9), q4)) else (if a1 = (-1) then (some ((q4 45 4), q4)) else (if oob a1 5 then none else some ((q4 49 a1.toNatClampNeg), q4)))))) else (Option.bind (zX3_isYard n u 1 a1) (fun q9 => if q9 = 0 then (Option.bind (zX4_refuse n u (-1)) (fun q19 => some (q19.1, q19.2))) else (Option.bind (zX3_notOver n u 1) (fun q12 => Option.bind (zX1_thinkOf n u 1 q12) (fun q14 => if (q14 45 3) = 0 then (some ((-9), q14)) else (if a1 = (-1) then (some ((q14 45 4), q14)) else (if oob a1 5 then none else some ((q14 49 a1.toNatClampNeg), q14))))))))
set_option maxHeartbeats 4000000 in
set_option maxRecDepth 100000 in
theorem wX4_longest {G : GG} {T : TT} {n d : Nat} (hd : 13 ≤ d) {q : Int32 × MU} {u : MU} {a1 : Int32} (hT : LAY T) (hf : zX4_longest n u a1 = some q) : AW G d mX4_longest 0 [.ref 0, .int a1] [] T u 0 0 (QS T q.1 q.2) := by
  obtain ⟨d, rfl⟩ : ∃ e, d = e + 1 := ⟨d - 1, by omega⟩
  rw [zX4_longest] at hf
  refine A_iloadn (pc := 0) dX4_longest_0 rfl ?_
  refine A_iconst (pc := 1) (-1) dX4_longest_1 rfl ?_
  refine A_icmp_eq (pc := 2) 22 dX4_longest_2 (by decide) (fun cc1 => ?_) (fun cc1 => ?_)
  · have hf := oi_t cc1 hf
    refine A_aloadn (pc := 22) dX4_longest_22 rfl ?_
    refine A_getR (pc := 23) dX4_longest_23 gX4_36 (lay_s hT (k := 0) (q := (6, 9)) rfl) (Nat.le_of_ble_eq_true rfl) rfl (lay_r hT 49 rfl) ?_
    refine A_aloadn (pc := 26) dX4_longest_26 rfl ?_
    refine A_getR (pc := 27) dX4_longest_27 gX4_10 (lay_s hT (k := 0) (q := (6, 9)) rfl) (Nat.le_of_ble_eq_true rfl) rfl (lay_r hT 13 rfl) ?_
    refine A_aloadn (pc := 30) dX4_longest_30 rfl ?_
    refine A_getR (pc := 31) dX4_longest_31 gX4_10 (lay_s hT (k := 0) (q := (6, 9)) rfl) (Nat.le_of_ble_eq_true rfl) rfl (lay_r hT 13 rfl) ?_
    obtain ⟨q2, h3, hf⟩ := oi_b hf
    refine A_cV0i (mi2 := mX3_notOver) (pc := 34) dX4_longest_34 lX4_172 fX3_notOver vX3_notOver (rv_0 (lay_rv1 hT)) rfl (Nat.le_of_ble_eq_true rfl) rfl (Nat.le_of_ble_eq_true rfl) (wX3_notOver (by omega) hT (lay_rv1 hT) h3) ?_
    obtain ⟨q4, h5, hf⟩ := oi_b hf
    refine A_cV2v (mi2 := mX1_thinkOf) (pc := 37) dX4_longest_37 lX4_175 fX1_thinkOf vX1_thinkOf (lay_s hT (k := 45) (q := (3, 8)) rfl) rfl (Nat.le_of_ble_eq_true rfl) rfl (Nat.le_of_ble_eq_true rfl) (wX1_thinkOf (by omega) hT (lay_rv1 hT) h5) ?_
    refine A_aloadn (pc := 40) dX4_longest_40 rfl ?_
    refine A_getR (pc := 41) dX4_longest_41 gX4_36 (lay_s hT (k := 0) (q := (6, 9)) rfl) (Nat.le_of_ble_eq_true rfl) rfl (lay_r hT 49 rfl) ?_
    refine A_getI (pc := 44) dX4_longest_44 gX4_179 (lay_s hT (k := 45) (q := (3, 8)) rfl) (Nat.le_of_ble_eq_true rfl) rfl ?_
    refine A_if_ne (pc := 47) (w := 0) 53 dX4_longest_47 (by decide) (fun cc6 => ?_) (fun cc6 => ?_)
    · have hf := oi_f cc6 hf
      refine A_iloadn (pc := 53) dX4_longest_53 rfl ?_
      refine A_iconst (pc := 54) (-1) dX4_longest_54 rfl ?_
      refine A_icmp_ne (pc := 55) 68 dX4_longest_55 (by decide) (fun cc7 => ?_) (fun cc7 => ?_)
      · have hf := oi_f cc7 hf
        refine A_aloadn (pc := 68) dX4_longest_68 rfl ?_
        refine A_getR (pc := 69) dX4_longest_69 gX4_36 (lay_s hT (k := 0) (q := (6, 9)) rfl) (Nat.le_of_ble_eq_true rfl) rfl (lay_r hT 49 rfl) ?_
        refine A_getR (pc := 72) dX4_longest_72 gX4_185 (lay_s hT (k := 45) (q := (3, 8)) rfl) (Nat.le_of_ble_eq_true rfl) rfl (lay_r hT 47 rfl) ?_
        refine A_iloadn (pc := 75) dX4_longest_75 rfl ?_
        obtain ⟨h8, hf⟩ := oi_cf hf
        refine A_iald (pc := 76) dX4_longest_76 (lay_s hT (k := 49) (q := (0, 5)) rfl) (oob_f h8) ?_
        obtain rfl := Option.some.inj hf
        exact A_iret (pc := 77) dX4_longest_77 rfl rfl ⟨rfl, rfl, rfl⟩
      have hf := oi_t cc7 hf
      refine A_aloadn (pc := 58) dX4_longest_58 rfl ?_
      refine A_getR (pc := 59) dX4_longest_59 gX4_36 (lay_s hT (k := 0) (q := (6, 9)) rfl) (Nat.le_of_ble_eq_true rfl) rfl (lay_r hT 49 rfl) ?_
      refine A_getI (pc := 62) dX4_longest_62 gX4_182 (lay_s hT (k := 45) (q := (3, 8)) rfl) (Nat.le_of_ble_eq_true rfl) rfl ?_
      refine A_goto (pc := 65) 77 dX4_longest_65 (by decide) ?_
      obtain rfl := Option.some.inj hf
      exact A_iret (pc := 77) dX4_longest_77 rfl rfl ⟨rfl, rfl, rfl⟩
    have hf := oi_t cc6 hf
    refine A_bipush (pc := 50) (-9) dX4_longest_50 rfl ?_
    obtain rfl := Option.some.inj hf
    exact A_iret (pc := 52) dX4_longest_52 rfl rfl ⟨rfl, rfl, rfl⟩
  have hf := oi_f cc1 hf
  refine A_aloadn (pc := 5) dX4_longest_5 rfl ?_
  refine A_getR (pc := 6) dX4_longest_6 gX4_10 (lay_s hT (k := 0) (q := (6, 9)) rfl) (Nat.le_of_ble_eq_true rfl) rfl (lay_r hT 13 rfl) ?_
  refine A_iloadn (pc := 9) dX4_longest_9 rfl ?_
  obtain ⟨q9, h10, hf⟩ := oi_b hf
  refine A_cV1i (mi2 := mX3_isYard) (pc := 10) dX4_longest_10 lX4_66 fX3_isYard vX3_isYard (rv_0 (lay_rv1 hT)) rfl (Nat.le_of_ble_eq_true rfl) rfl (Nat.le_of_ble_eq_true rfl) (wX3_isYard (by omega) hT (lay_rv1 hT) h10) ?_
  refine A_if_ne (pc := 13) (w := 0) 22 dX4_longest_13 (by decide) (fun cc11 => ?_) (fun cc11 => ?_)
  · have hf := oi_f cc11 hf
    refine A_aloadn (pc := 22) dX4_longest_22 rfl ?_
    refine A_getR (pc := 23) dX4_longest_23 gX4_36 (lay_s hT (k := 0) (q := (6, 9)) rfl) (Nat.le_of_ble_eq_true rfl) rfl (lay_r hT 49 rfl) ?_
    refine A_aloadn (pc := 26) dX4_longest_26 rfl ?_
    refine A_getR (pc := 27) dX4_longest_27 gX4_10 (lay_s hT (k := 0) (q := (6, 9)) rfl) (Nat.le_of_ble_eq_true rfl) rfl (lay_r hT 13 rfl) ?_
    refine A_aloadn (pc := 30) dX4_longest_30 rfl ?_
    refine A_getR (pc := 31) dX4_longest_31 gX4_10 (lay_s hT (k := 0) (q := (6, 9)) rfl) (Nat.le_of_ble_eq_true rfl) rfl (lay_r hT 13 rfl) ?_
    obtain ⟨q12, h13, hf⟩ := oi_b hf
    refine A_cV0i (mi2 := mX3_notOver) (pc := 34) dX4_longest_34 lX4_172 fX3_notOver vX3_notOver (rv_0 (lay_rv1 hT)) rfl (Nat.le_of_ble_eq_true rfl) rfl (Nat.le_of_ble_eq_true rfl) (wX3_notOver (by omega) hT (lay_rv1 hT) h13) ?_
    obtain ⟨q14, h15, hf⟩ := oi_b hf
    refine A_cV2v (mi2 := mX1_thinkOf) (pc := 37) dX4_longest_37 lX4_175 fX1_thinkOf vX1_thinkOf (lay_s hT (k := 45) (q := (3, 8)) rfl) rfl (Nat.le_of_ble_eq_true rfl) rfl (Nat.le_of_ble_eq_true rfl) (wX1_thinkOf (by omega) hT (lay_rv1 hT) h15) ?_
    refine A_aloadn (pc := 40) dX4_longest_40 rfl ?_
    refine A_getR (pc := 41) dX4_longest_41 gX4_36 (lay_s hT (k := 0) (q := (6, 9)) rfl) (Nat.le_of_ble_eq_true rfl) rfl (lay_r hT 49 rfl) ?_
    refine A_getI (pc := 44) dX4_longest_44 gX4_179 (lay_s hT (k := 45) (q := (3, 8)) rfl) (Nat.le_of_ble_eq_true rfl) rfl ?_
    refine A_if_ne (pc := 47) (w := 0) 53 dX4_longest_47 (by decide) (fun cc16 => ?_) (fun cc16 => ?_)
    · have hf := oi_f cc16 hf
      refine A_iloadn (pc := 53) dX4_longest_53 rfl ?_
      refine A_iconst (pc := 54) (-1) dX4_longest_54 rfl ?_
      refine A_icmp_ne (pc := 55) 68 dX4_longest_55 (by decide) (fun cc17 => ?_) (fun cc17 => ?_)
      · have hf := oi_f cc17 hf
        refine A_aloadn (pc := 68) dX4_longest_68 rfl ?_
        refine A_getR (pc := 69) dX4_longest_69 gX4_36 (lay_s hT (k := 0) (q := (6, 9)) rfl) (Nat.le_of_ble_eq_true rfl) rfl (lay_r hT 49 rfl) ?_
        refine A_getR (pc := 72) dX4_longest_72 gX4_185 (lay_s hT (k := 45) (q := (3, 8)) rfl) (Nat.le_of_ble_eq_true rfl) rfl (lay_r hT 47 rfl) ?_
        refine A_iloadn (pc := 75) dX4_longest_75 rfl ?_
        obtain ⟨h18, hf⟩ := oi_cf hf
        refine A_iald (pc := 76) dX4_longest_76 (lay_s hT (k := 49) (q := (0, 5)) rfl) (oob_f h18) ?_
        obtain rfl := Option.some.inj hf
        exact A_iret (pc := 77) dX4_longest_77 rfl rfl ⟨rfl, rfl, rfl⟩
      have hf := oi_t cc17 hf
      refine A_aloadn (pc := 58) dX4_longest_58 rfl ?_
      refine A_getR (pc := 59) dX4_longest_59 gX4_36 (lay_s hT (k := 0) (q := (6, 9)) rfl) (Nat.le_of_ble_eq_true rfl) rfl (lay_r hT 49 rfl) ?_
      refine A_getI (pc := 62) dX4_longest_62 gX4_182 (lay_s hT (k := 45) (q := (3, 8)) rfl) (Nat.le_of_ble_eq_true rfl) rfl ?_
      refine A_goto (pc := 65) 77 dX4_longest_65 (by decide) ?_
      obtain rfl := Option.some.inj hf
      exact A_iret (pc := 77) dX4_longest_77 rfl rfl ⟨rfl, rfl, rfl⟩
    have hf := oi_t cc16 hf
    refine A_bipush (pc := 50) (-9) dX4_longest_50 rfl ?_
    obtain rfl := Option.some.inj hf
    exact A_iret (pc := 52) dX4_longest_52 rfl rfl ⟨rfl, rfl, rfl⟩
  have hf := oi_t cc11 hf
  refine A_aloadn (pc := 16) dX4_longest_16 rfl ?_
  refine A_iconst (pc := 17) (-1) dX4_longest_17 rfl ?_
  obtain ⟨q19, h20, hf⟩ := oi_b hf
  refine A_cV1i (mi2 := mX4_refuse) (pc := 18) dX4_longest_18 lX4_51 fX4_refuse vX4_refuse (lay_s hT (k := 0) (q := (6, 9)) rfl) rfl (Nat.le_of_ble_eq_true rfl) rfl (Nat.le_of_ble_eq_true rfl) (wX4_refuse (by omega) hT  h20) ?_
  obtain rfl := Option.some.inj hf
  exact A_iret (pc := 21) dX4_longest_21 rfl rfl ⟨rfl, rfl, rfl⟩
def zX4_makeUp (n : Nat) (u : MU) : Option (Int32 × MU) := Option.bind (zX3_notOver n u 1) (fun q1 => Option.bind (zX1_thinkOf n u 1 q1) (fun q3 => some ((q3 45 6), q3)))
set_option maxHeartbeats 4000000 in
set_option maxRecDepth 100000 in
theorem wX4_makeUp {G : GG} {T : TT} {n d : Nat} (hd : 13 ≤ d) {q : Int32 × MU} {u : MU} (hT : LAY T) (hf : zX4_makeUp n u = some q) : AW G d mX4_makeUp 0 [.ref 0] [] T u 0 0 (QS T q.1 q.2) := by
  obtain ⟨d, rfl⟩ : ∃ e, d = e + 1 := ⟨d - 1, by omega⟩
  rw [zX4_makeUp] at hf
  refine A_aloadn (pc := 0) dX4_makeUp_0 rfl ?_
  refine A_getR (pc := 1) dX4_makeUp_1 gX4_36 (lay_s hT (k := 0) (q := (6, 9)) rfl) (Nat.le_of_ble_eq_true rfl) rfl (lay_r hT 49 rfl) ?_
  refine A_aloadn (pc := 4) dX4_makeUp_4 rfl ?_
  refine A_getR (pc := 5) dX4_makeUp_5 gX4_10 (lay_s hT (k := 0) (q := (6, 9)) rfl) (Nat.le_of_ble_eq_true rfl) rfl (lay_r hT 13 rfl) ?_
  refine A_aloadn (pc := 8) dX4_makeUp_8 rfl ?_
  refine A_getR (pc := 9) dX4_makeUp_9 gX4_10 (lay_s hT (k := 0) (q := (6, 9)) rfl) (Nat.le_of_ble_eq_true rfl) rfl (lay_r hT 13 rfl) ?_
  obtain ⟨q1, h2, hf⟩ := oi_b hf
  refine A_cV0i (mi2 := mX3_notOver) (pc := 12) dX4_makeUp_12 lX4_172 fX3_notOver vX3_notOver (rv_0 (lay_rv1 hT)) rfl (Nat.le_of_ble_eq_true rfl) rfl (Nat.le_of_ble_eq_true rfl) (wX3_notOver (by omega) hT (lay_rv1 hT) h2) ?_
  obtain ⟨q3, h4, hf⟩ := oi_b hf
  refine A_cV2v (mi2 := mX1_thinkOf) (pc := 15) dX4_makeUp_15 lX4_175 fX1_thinkOf vX1_thinkOf (lay_s hT (k := 45) (q := (3, 8)) rfl) rfl (Nat.le_of_ble_eq_true rfl) rfl (Nat.le_of_ble_eq_true rfl) (wX1_thinkOf (by omega) hT (lay_rv1 hT) h4) ?_
  refine A_aloadn (pc := 18) dX4_makeUp_18 rfl ?_
  refine A_getR (pc := 19) dX4_makeUp_19 gX4_36 (lay_s hT (k := 0) (q := (6, 9)) rfl) (Nat.le_of_ble_eq_true rfl) rfl (lay_r hT 49 rfl) ?_
  refine A_getI (pc := 22) dX4_makeUp_22 gX4_188 (lay_s hT (k := 45) (q := (3, 8)) rfl) (Nat.le_of_ble_eq_true rfl) rfl ?_
  obtain rfl := Option.some.inj hf
  exact A_iret (pc := 25) dX4_makeUp_25 rfl rfl ⟨rfl, rfl, rfl⟩
def zX4_worth (n : Nat) (u : MU) (a1 : Int32) (a2 : Int32) : Option (Int32 × MU) := Option.bind (zX3_areTwo n u 1 a1 a2) (fun q1 => if q1 = 0 then (Option.bind (zX4_refuse n u (-1)) (fun q22 => some (q22.1, q22.2))) else (Option.bind (zX3_grudgeOf n u 1 a1 a2) (fun q4 => if q4 = 0 then (Option.bind (zX4_refuse n u (-3)) (fun q20 => some (q20.1, q20.2))) else (Option.bind (zX3_notOver n u 1) (fun q7 => Option.bind (zX1_thinkOf n u 1 q7) (fun q9 => letb (q9 45 4) (fun x11 => Option.bind (zX3_copyFrom n q9 15 1) (fun q12 => Option.bind (zX3_setGrudge n q12 15 a1 a2 0) (fun q14 => Option.bind (zX3_notOver n q14 15) (fun q16 => Option.bind (zX1_thinkOf n q14 15 q16) (fun q18 => some (((q18 45 4) - x11), q18))))))))))))
set_option maxHeartbeats 4000000 in
set_option maxRecDepth 100000 in
theorem wX4_worth {G : GG} {T : TT} {n d : Nat} (hd : 13 ≤ d) {q : Int32 × MU} {u : MU} {a1 : Int32} {a2 : Int32} (hT : LAY T) (hf : zX4_worth n u a1 a2 = some q) : AW G d mX4_worth 0 [.ref 0, .int a1, .int a2, .null] [] T u 0 0 (QS T q.1 q.2) := by
  obtain ⟨d, rfl⟩ : ∃ e, d = e + 1 := ⟨d - 1, by omega⟩
  rw [zX4_worth] at hf
  refine A_aloadn (pc := 0) dX4_worth_0 rfl ?_
  refine A_getR (pc := 1) dX4_worth_1 gX4_10 (lay_s hT (k := 0) (q := (6, 9)) rfl) (Nat.le_of_ble_eq_true rfl) rfl (lay_r hT 13 rfl) ?_
  refine A_iloadn (pc := 4) dX4_worth_4 rfl ?_
  refine A_iloadn (pc := 5) dX4_worth_5 rfl ?_
  obtain ⟨q1, h2, hf⟩ := oi_b hf
  refine A_cV2i (mi2 := mX3_areTwo) (pc := 6) dX4_worth_6 lX4_118 fX3_areTwo vX3_areTwo (rv_0 (lay_rv1 hT)) rfl (Nat.le_of_ble_eq_true rfl) rfl (Nat.le_of_ble_eq_true rfl) (wX3_areTwo (by omega) hT (lay_rv1 hT) h2) ?_
  refine A_if_ne (pc := 9) (w := 0) 18 dX4_worth_9 (by decide) (fun cc3 => ?_) (fun cc3 => ?_)
  · have hf := oi_f cc3 hf
    refine A_aloadn (pc := 18) dX4_worth_18 rfl ?_
    refine A_getR (pc := 19) dX4_worth_19 gX4_10 (lay_s hT (k := 0) (q := (6, 9)) rfl) (Nat.le_of_ble_eq_true rfl) rfl (lay_r hT 13 rfl) ?_
    refine A_iloadn (pc := 22) dX4_worth_22 rfl ?_
    refine A_iloadn (pc := 23) dX4_worth_23 rfl ?_
    obtain ⟨q4, h5, hf⟩ := oi_b hf
    refine A_cV2i (mi2 := mX3_grudgeOf) (pc := 24) dX4_worth_24 lX4_122 fX3_grudgeOf vX3_grudgeOf (rv_0 (lay_rv1 hT)) rfl (Nat.le_of_ble_eq_true rfl) rfl (Nat.le_of_ble_eq_true rfl) (wX3_grudgeOf (by omega) hT (lay_rv1 hT) h5) ?_
    refine A_if_ne (pc := 27) (w := 0) 37 dX4_worth_27 (by decide) (fun cc6 => ?_) (fun cc6 => ?_)
    · have hf := oi_f cc6 hf
      refine A_aloadn (pc := 37) dX4_worth_37 rfl ?_
      refine A_getR (pc := 38) dX4_worth_38 gX4_36 (lay_s hT (k := 0) (q := (6, 9)) rfl) (Nat.le_of_ble_eq_true rfl) rfl (lay_r hT 49 rfl) ?_
      refine A_aloadn (pc := 41) dX4_worth_41 rfl ?_
      refine A_getR (pc := 42) dX4_worth_42 gX4_10 (lay_s hT (k := 0) (q := (6, 9)) rfl) (Nat.le_of_ble_eq_true rfl) rfl (lay_r hT 13 rfl) ?_
      refine A_aloadn (pc := 45) dX4_worth_45 rfl ?_
      refine A_getR (pc := 46) dX4_worth_46 gX4_10 (lay_s hT (k := 0) (q := (6, 9)) rfl) (Nat.le_of_ble_eq_true rfl) rfl (lay_r hT 13 rfl) ?_
      obtain ⟨q7, h8, hf⟩ := oi_b hf
      refine A_cV0i (mi2 := mX3_notOver) (pc := 49) dX4_worth_49 lX4_172 fX3_notOver vX3_notOver (rv_0 (lay_rv1 hT)) rfl (Nat.le_of_ble_eq_true rfl) rfl (Nat.le_of_ble_eq_true rfl) (wX3_notOver (by omega) hT (lay_rv1 hT) h8) ?_
      obtain ⟨q9, h10, hf⟩ := oi_b hf
      refine A_cV2v (mi2 := mX1_thinkOf) (pc := 52) dX4_worth_52 lX4_175 fX1_thinkOf vX1_thinkOf (lay_s hT (k := 45) (q := (3, 8)) rfl) rfl (Nat.le_of_ble_eq_true rfl) rfl (Nat.le_of_ble_eq_true rfl) (wX1_thinkOf (by omega) hT (lay_rv1 hT) h10) ?_
      refine A_aloadn (pc := 55) dX4_worth_55 rfl ?_
      refine A_getR (pc := 56) dX4_worth_56 gX4_36 (lay_s hT (k := 0) (q := (6, 9)) rfl) (Nat.le_of_ble_eq_true rfl) rfl (lay_r hT 49 rfl) ?_
      refine A_getI (pc := 59) dX4_worth_59 gX4_182 (lay_s hT (k := 45) (q := (3, 8)) rfl) (Nat.le_of_ble_eq_true rfl) rfl ?_
      have hf := oi_l hf
      refine A_istn (pc := 62) (L2 := [.ref 0, .int a1, .int a2, .int (q9 45 4)]) dX4_worth_62 (Nat.le_of_ble_eq_true rfl) rfl ?_
      refine A_aloadn (pc := 63) dX4_worth_63 rfl ?_
      refine A_getR (pc := 64) dX4_worth_64 gX4_16 (lay_s hT (k := 0) (q := (6, 9)) rfl) (Nat.le_of_ble_eq_true rfl) rfl (lay_r hT 27 rfl) ?_
      refine A_aloadn (pc := 67) dX4_worth_67 rfl ?_
      refine A_getR (pc := 68) dX4_worth_68 gX4_10 (lay_s hT (k := 0) (q := (6, 9)) rfl) (Nat.le_of_ble_eq_true rfl) rfl (lay_r hT 13 rfl) ?_
      obtain ⟨q12, h13, hf⟩ := oi_b hf
      refine A_cV1v (mi2 := mX3_copyFrom) (pc := 71) dX4_worth_71 lX4_191 fX3_copyFrom vX3_copyFrom (rv_0 (lay_rv15 hT)) rfl (Nat.le_of_ble_eq_true rfl) rfl (Nat.le_of_ble_eq_true rfl) (wX3_copyFrom (by omega) hT (lay_rv15 hT) (lay_rv1 hT) h13) ?_
      refine A_aloadn (pc := 74) dX4_worth_74 rfl ?_
      refine A_getR (pc := 75) dX4_worth_75 gX4_16 (lay_s hT (k := 0) (q := (6, 9)) rfl) (Nat.le_of_ble_eq_true rfl) rfl (lay_r hT 27 rfl) ?_
      refine A_iloadn (pc := 78) dX4_worth_78 rfl ?_
      refine A_iloadn (pc := 79) dX4_worth_79 rfl ?_
      refine A_iconst (pc := 80) 0 dX4_worth_80 rfl ?_
      obtain ⟨q14, h15, hf⟩ := oi_b hf
      refine A_cV3v (mi2 := mX3_setGrudge) (pc := 81) dX4_worth_81 lX4_126 fX3_setGrudge vX3_setGrudge (rv_0 (lay_rv15 hT)) rfl (Nat.le_of_ble_eq_true rfl) rfl (Nat.le_of_ble_eq_true rfl) (wX3_setGrudge (by omega) hT (lay_rv15 hT) h15) ?_
      refine A_aloadn (pc := 84) dX4_worth_84 rfl ?_
      refine A_getR (pc := 85) dX4_worth_85 gX4_36 (lay_s hT (k := 0) (q := (6, 9)) rfl) (Nat.le_of_ble_eq_true rfl) rfl (lay_r hT 49 rfl) ?_
      refine A_aloadn (pc := 88) dX4_worth_88 rfl ?_
      refine A_getR (pc := 89) dX4_worth_89 gX4_16 (lay_s hT (k := 0) (q := (6, 9)) rfl) (Nat.le_of_ble_eq_true rfl) rfl (lay_r hT 27 rfl) ?_
      refine A_aloadn (pc := 92) dX4_worth_92 rfl ?_
      refine A_getR (pc := 93) dX4_worth_93 gX4_16 (lay_s hT (k := 0) (q := (6, 9)) rfl) (Nat.le_of_ble_eq_true rfl) rfl (lay_r hT 27 rfl) ?_
      obtain ⟨q16, h17, hf⟩ := oi_b hf
      refine A_cV0i (mi2 := mX3_notOver) (pc := 96) dX4_worth_96 lX4_172 fX3_notOver vX3_notOver (rv_0 (lay_rv15 hT)) rfl (Nat.le_of_ble_eq_true rfl) rfl (Nat.le_of_ble_eq_true rfl) (wX3_notOver (by omega) hT (lay_rv15 hT) h17) ?_
      obtain ⟨q18, h19, hf⟩ := oi_b hf
      refine A_cV2v (mi2 := mX1_thinkOf) (pc := 99) dX4_worth_99 lX4_175 fX1_thinkOf vX1_thinkOf (lay_s hT (k := 45) (q := (3, 8)) rfl) rfl (Nat.le_of_ble_eq_true rfl) rfl (Nat.le_of_ble_eq_true rfl) (wX1_thinkOf (by omega) hT (lay_rv15 hT) h19) ?_
      refine A_aloadn (pc := 102) dX4_worth_102 rfl ?_
      refine A_getR (pc := 103) dX4_worth_103 gX4_36 (lay_s hT (k := 0) (q := (6, 9)) rfl) (Nat.le_of_ble_eq_true rfl) rfl (lay_r hT 49 rfl) ?_
      refine A_getI (pc := 106) dX4_worth_106 gX4_182 (lay_s hT (k := 45) (q := (3, 8)) rfl) (Nat.le_of_ble_eq_true rfl) rfl ?_
      refine A_iloadn (pc := 109) dX4_worth_109 rfl ?_
      refine A_isub (pc := 110) dX4_worth_110 ?_
      obtain rfl := Option.some.inj hf
      exact A_iret (pc := 111) dX4_worth_111 rfl rfl ⟨rfl, rfl, rfl⟩
    have hf := oi_t cc6 hf
    refine A_aloadn (pc := 30) dX4_worth_30 rfl ?_
    refine A_bipush (pc := 31) (-3) dX4_worth_31 rfl ?_
    obtain ⟨q20, h21, hf⟩ := oi_b hf
    refine A_cV1i (mi2 := mX4_refuse) (pc := 33) dX4_worth_33 lX4_51 fX4_refuse vX4_refuse (lay_s hT (k := 0) (q := (6, 9)) rfl) rfl (Nat.le_of_ble_eq_true rfl) rfl (Nat.le_of_ble_eq_true rfl) (wX4_refuse (by omega) hT  h21) ?_
    obtain rfl := Option.some.inj hf
    exact A_iret (pc := 36) dX4_worth_36 rfl rfl ⟨rfl, rfl, rfl⟩
  have hf := oi_t cc3 hf
  refine A_aloadn (pc := 12) dX4_worth_12 rfl ?_
  refine A_iconst (pc := 13) (-1) dX4_worth_13 rfl ?_
  obtain ⟨q22, h23, hf⟩ := oi_b hf
  refine A_cV1i (mi2 := mX4_refuse) (pc := 14) dX4_worth_14 lX4_51 fX4_refuse vX4_refuse (lay_s hT (k := 0) (q := (6, 9)) rfl) rfl (Nat.le_of_ble_eq_true rfl) rfl (Nat.le_of_ble_eq_true rfl) (wX4_refuse (by omega) hT  h23) ?_
  obtain rfl := Option.some.inj hf
  exact A_iret (pc := 17) dX4_worth_17 rfl rfl ⟨rfl, rfl, rfl⟩
def zX4_change (n : Nat) (u : MU) : Option (Int32 × MU) := Option.bind (zX1_bestChange n u 1) (fun q1 => some (q1.1, q1.2))
set_option maxHeartbeats 4000000 in
set_option maxRecDepth 100000 in
theorem wX4_change {G : GG} {T : TT} {n d : Nat} (hd : 7 ≤ d) {q : Int32 × MU} {u : MU} (hT : LAY T) (hf : zX4_change n u = some q) : AW G d mX4_change 0 [.ref 0] [] T u 0 0 (QS T q.1 q.2) := by
  obtain ⟨d, rfl⟩ : ∃ e, d = e + 1 := ⟨d - 1, by omega⟩
  rw [zX4_change] at hf
  refine A_aloadn (pc := 0) dX4_change_0 rfl ?_
  refine A_getR (pc := 1) dX4_change_1 gX4_36 (lay_s hT (k := 0) (q := (6, 9)) rfl) (Nat.le_of_ble_eq_true rfl) rfl (lay_r hT 49 rfl) ?_
  refine A_aloadn (pc := 4) dX4_change_4 rfl ?_
  refine A_getR (pc := 5) dX4_change_5 gX4_10 (lay_s hT (k := 0) (q := (6, 9)) rfl) (Nat.le_of_ble_eq_true rfl) rfl (lay_r hT 13 rfl) ?_
  obtain ⟨q1, h2, hf⟩ := oi_b hf
  refine A_cV1i (mi2 := mX1_bestChange) (pc := 8) dX4_change_8 lX4_195 fX1_bestChange vX1_bestChange (lay_s hT (k := 45) (q := (3, 8)) rfl) rfl (Nat.le_of_ble_eq_true rfl) rfl (Nat.le_of_ble_eq_true rfl) (wX1_bestChange (by omega) hT (lay_rv1 hT) h2) ?_
  obtain rfl := Option.some.inj hf
  exact A_iret (pc := 11) dX4_change_11 rfl rfl ⟨rfl, rfl, rfl⟩
def zX4_flood_L27 (n : Nat) (u : MU) (k : Int32 → Int32 → Option (Int32)) : Nat → Int32 → Int32 → Option (Int32)
  | 0, _, _ => none
  | m + 1, t1, t2 => if (u 1 0) ≤ t2 then (k t1 t2) else (if oob t2 5 then none else if oob (u (1 + 3) t2.toNatClampNeg) 7 then none else Option.bind (zX2_reaches n u (1 + 7 + (u (1 + 3) t2.toNatClampNeg).toNatClampNeg)) (fun q7 => if oob t2 5 then none else letb (if (q7 - (u (1 + 1) t2.toNatClampNeg)) < t1 then (q7 - (u (1 + 1) t2.toNatClampNeg)) else t1) (fun x10 => zX4_flood_L27 n u   k m x10 (t2 + 1))))
def zX4_flood (n : Nat) (u : MU) : Option (Int32) := Option.bind (zX3_firstSlip n u 1 (1 + 3) 5) (fun q1 => if q1 = (-9) then (zX4_flood_L27 n u   (fun y11 y12 => some y11) n 9 0) else (some (-9)))
set_option maxHeartbeats 4000000 in
set_option maxRecDepth 100000 in
theorem wX4_flood_L27 {G : GG} {T : TT} {n d : Nat} (hd : 5 ≤ d) {u : MU} {k : Int32 → Int32 → Option (Int32)} (hT : LAY T) (hk : ∀ (t1 : Int32) (t2 : Int32) (q : Int32), k t1 t2 = some q → AW G d mX4_flood 79 [.ref 0, .int t1, .int t2] [] T u 0 0 (QS T q u)) : ∀ (m : Nat) (t1 : Int32) (t2 : Int32) (q : Int32), zX4_flood_L27 n u  k m t1 t2 = some q → AW G d mX4_flood 27 [.ref 0, .int t1, .int t2] [] T u 0 0 (QS T q u) := by
  intro m
  obtain ⟨d, rfl⟩ : ∃ e, d = e + 1 := ⟨d - 1, by omega⟩
  induction m with
  | zero =>
    intro t1 t2 q hf
    have h0 : (none : Option (Int32)) = some q := hf
    cases h0
  | succ m ih =>
    intro t1 t2 q hf
    rw [zX4_flood_L27] at hf
    refine A_iloadn (pc := 27) dX4_flood_27 rfl ?_
    refine A_aloadn (pc := 28) dX4_flood_28 rfl ?_
    refine A_getR (pc := 29) dX4_flood_29 gX4_10 (lay_s hT (k := 0) (q := (6, 9)) rfl) (Nat.le_of_ble_eq_true rfl) rfl (lay_r hT 13 rfl) ?_
    refine A_getI (pc := 32) dX4_flood_32 gX4_149 (rv_0 (lay_rv1 hT)) (Nat.le_of_ble_eq_true rfl) rfl ?_
    refine A_icmp_ge (pc := 35) 79 dX4_flood_35 (by decide) (fun cc4 => ?_) (fun cc4 => ?_)
    · have hf := oi_t cc4 hf
      exact hk _ _ _ hf
    have hf := oi_f cc4 hf
    refine A_iloadn (pc := 38) dX4_flood_38 rfl ?_
    refine A_aloadn (pc := 39) dX4_flood_39 rfl ?_
    refine A_getR (pc := 40) dX4_flood_40 gX4_10 (lay_s hT (k := 0) (q := (6, 9)) rfl) (Nat.le_of_ble_eq_true rfl) rfl (lay_r hT 13 rfl) ?_
    refine A_getR (pc := 43) dX4_flood_43 gX4_82 (rv_0 (lay_rv1 hT)) (Nat.le_of_ble_eq_true rfl) rfl (rv_f7 (lay_rv1 hT)) ?_
    refine A_aloadn (pc := 46) dX4_flood_46 rfl ?_
    refine A_getR (pc := 47) dX4_flood_47 gX4_10 (lay_s hT (k := 0) (q := (6, 9)) rfl) (Nat.le_of_ble_eq_true rfl) rfl (lay_r hT 13 rfl) ?_
    refine A_getR (pc := 50) dX4_flood_50 gX4_76 (rv_0 (lay_rv1 hT)) (Nat.le_of_ble_eq_true rfl) rfl (rv_f6 (lay_rv1 hT)) ?_
    refine A_iloadn (pc := 53) dX4_flood_53 rfl ?_
    obtain ⟨h5, hf⟩ := oi_cf hf
    refine A_iald (pc := 54) dX4_flood_54 (rv_3 (lay_rv1 hT)) (oob_f h5) ?_
    obtain ⟨h6, hf⟩ := oi_cf hf
    refine A_aald (pc := 55) dX4_flood_55 (rv_4 (lay_rv1 hT)) (oob_f h6) (rv_q (lay_rv1 hT) (vpin_lt (oob_f h6))) ?_
    obtain ⟨q7, h8, hf⟩ := oi_b hf
    refine A_cV0i (mi2 := mX2_reaches) (pc := 56) dX4_flood_56 lX4_103 fX2_reaches vX2_reaches (rv_p (lay_rv1 hT) (vpin_lt (oob_f h6))) rfl (Nat.le_of_ble_eq_true rfl) rfl (Nat.le_of_ble_eq_true rfl) (wX2_reaches (by omega) hT (rv_p (lay_rv1 hT) (vpin_lt (oob_f h6))) h8) ?_
    refine A_aloadn (pc := 59) dX4_flood_59 rfl ?_
    refine A_getR (pc := 60) dX4_flood_60 gX4_10 (lay_s hT (k := 0) (q := (6, 9)) rfl) (Nat.le_of_ble_eq_true rfl) rfl (lay_r hT 13 rfl) ?_
    refine A_getR (pc := 63) dX4_flood_63 gX4_70 (rv_0 (lay_rv1 hT)) (Nat.le_of_ble_eq_true rfl) rfl (rv_f4 (lay_rv1 hT)) ?_
    refine A_iloadn (pc := 66) dX4_flood_66 rfl ?_
    obtain ⟨h9, hf⟩ := oi_cf hf
    refine A_iald (pc := 67) dX4_flood_67 (rv_1 (lay_rv1 hT)) (oob_f h9) ?_
    refine A_isub (pc := 68) dX4_flood_68 ?_
    refine A_mmin (pc := 69) dX4_flood_69 lX4_199 amin_1 oJ9 amin_3 (Nat.le_of_ble_eq_true rfl) ?_
    have hf := oi_l hf
    refine A_istn (pc := 72) (L2 := [.ref 0, .int (if (q7 - (u (1 + 1) t2.toNatClampNeg)) < t1 then (q7 - (u (1 + 1) t2.toNatClampNeg)) else t1), .int t2]) dX4_flood_72 (Nat.le_of_ble_eq_true rfl) rfl ?_
    refine A_inc (pc := 73) (L2 := [.ref 0, .int (if (q7 - (u (1 + 1) t2.toNatClampNeg)) < t1 then (q7 - (u (1 + 1) t2.toNatClampNeg)) else t1), .int (t2 + 1)]) (t2 + 1) dX4_flood_73 rfl rfl rfl ?_
    refine A_goto (pc := 76) 27 dX4_flood_76 (by decide) ?_
    exact ih _ _ _ hf
set_option maxHeartbeats 4000000 in
set_option maxRecDepth 100000 in
theorem wX4_flood {G : GG} {T : TT} {n d : Nat} (hd : 5 ≤ d) {q : Int32} {u : MU} (hT : LAY T) (hf : zX4_flood n u = some q) : AW G d mX4_flood 0 [.ref 0, .null, .null] [] T u 0 0 (QS T q u) := by
  obtain ⟨d, rfl⟩ : ∃ e, d = e + 1 := ⟨d - 1, by omega⟩
  rw [zX4_flood] at hf
  refine A_aloadn (pc := 0) dX4_flood_0 rfl ?_
  refine A_getR (pc := 1) dX4_flood_1 gX4_10 (lay_s hT (k := 0) (q := (6, 9)) rfl) (Nat.le_of_ble_eq_true rfl) rfl (lay_r hT 13 rfl) ?_
  refine A_aloadn (pc := 4) dX4_flood_4 rfl ?_
  refine A_getR (pc := 5) dX4_flood_5 gX4_10 (lay_s hT (k := 0) (q := (6, 9)) rfl) (Nat.le_of_ble_eq_true rfl) rfl (lay_r hT 13 rfl) ?_
  refine A_getR (pc := 8) dX4_flood_8 gX4_76 (rv_0 (lay_rv1 hT)) (Nat.le_of_ble_eq_true rfl) rfl (rv_f6 (lay_rv1 hT)) ?_
  obtain ⟨q1, h2, hf⟩ := oi_b hf
  refine A_cV1i (mi2 := mX3_firstSlip) (pc := 11) dX4_flood_11 lX4_155 fX3_firstSlip vX3_firstSlip (rv_0 (lay_rv1 hT)) rfl (Nat.le_of_ble_eq_true rfl) rfl (Nat.le_of_ble_eq_true rfl) (wX3_firstSlip (by omega) hT (lay_rv1 hT) (rv_3 (lay_rv1 hT)) h2) ?_
  refine A_bipush (pc := 14) (-9) dX4_flood_14 rfl ?_
  refine A_icmp_eq (pc := 16) 22 dX4_flood_16 (by decide) (fun cc3 => ?_) (fun cc3 => ?_)
  · have hf := oi_t cc3 hf
    refine A_bipush (pc := 22) 9 dX4_flood_22 rfl ?_
    refine A_istn (pc := 24) (L2 := [.ref 0, .int 9, .null]) dX4_flood_24 (Nat.le_of_ble_eq_true rfl) rfl ?_
    refine A_iconst (pc := 25) 0 dX4_flood_25 rfl ?_
    refine A_istn (pc := 26) (L2 := [.ref 0, .int 9, .int 0]) dX4_flood_26 (Nat.le_of_ble_eq_true rfl) rfl ?_
    exact wX4_flood_L27 (by omega) hT  (fun y11 y12 q0 hf => by
      refine A_iloadn (pc := 79) dX4_flood_79 rfl ?_
      obtain rfl := Option.some.inj hf
      exact A_iret (pc := 80) dX4_flood_80 rfl rfl ⟨rfl, rfl, rfl⟩) _ _ _ _ hf
  have hf := oi_f cc3 hf
  refine A_bipush (pc := 19) (-9) dX4_flood_19 rfl ?_
  obtain rfl := Option.some.inj hf
  exact A_iret (pc := 21) dX4_flood_21 rfl rfl ⟨rfl, rfl, rfl⟩
def zX4_overs (n : Nat) (u : MU) : Option (Int32) := Option.bind (zX3_minutesOf n u 1 (1 + 3) 5) (fun q1 => Option.bind (zX3_nearBank n u 1) (fun q3 => some (if 0 < (if q3 < q1 then q3 else q1) then (if q3 < q1 then q3 else q1) else 0)))
set_option maxHeartbeats 4000000 in
set_option maxRecDepth 100000 in
theorem wX4_overs {G : GG} {T : TT} {n d : Nat} (hd : 6 ≤ d) {q : Int32} {u : MU} (hT : LAY T) (hf : zX4_overs n u = some q) : AW G d mX4_overs 0 [.ref 0] [] T u 0 0 (QS T q u) := by
  obtain ⟨d, rfl⟩ : ∃ e, d = e + 1 := ⟨d - 1, by omega⟩
  rw [zX4_overs] at hf
  refine A_iconst (pc := 0) 0 dX4_overs_0 rfl ?_
  refine A_aloadn (pc := 1) dX4_overs_1 rfl ?_
  refine A_getR (pc := 2) dX4_overs_2 gX4_10 (lay_s hT (k := 0) (q := (6, 9)) rfl) (Nat.le_of_ble_eq_true rfl) rfl (lay_r hT 13 rfl) ?_
  refine A_aloadn (pc := 5) dX4_overs_5 rfl ?_
  refine A_getR (pc := 6) dX4_overs_6 gX4_10 (lay_s hT (k := 0) (q := (6, 9)) rfl) (Nat.le_of_ble_eq_true rfl) rfl (lay_r hT 13 rfl) ?_
  refine A_getR (pc := 9) dX4_overs_9 gX4_76 (rv_0 (lay_rv1 hT)) (Nat.le_of_ble_eq_true rfl) rfl (rv_f6 (lay_rv1 hT)) ?_
  obtain ⟨q1, h2, hf⟩ := oi_b hf
  refine A_cV1i (mi2 := mX3_minutesOf) (pc := 12) dX4_overs_12 lX4_163 fX3_minutesOf vX3_minutesOf (rv_0 (lay_rv1 hT)) rfl (Nat.le_of_ble_eq_true rfl) rfl (Nat.le_of_ble_eq_true rfl) (wX3_minutesOf (by omega) hT (lay_rv1 hT) (rv_3 (lay_rv1 hT)) h2) ?_
  refine A_aloadn (pc := 15) dX4_overs_15 rfl ?_
  refine A_getR (pc := 16) dX4_overs_16 gX4_10 (lay_s hT (k := 0) (q := (6, 9)) rfl) (Nat.le_of_ble_eq_true rfl) rfl (lay_r hT 13 rfl) ?_
  obtain ⟨q3, h4, hf⟩ := oi_b hf
  refine A_cV0i (mi2 := mX3_nearBank) (pc := 19) dX4_overs_19 lX4_204 fX3_nearBank vX3_nearBank (rv_0 (lay_rv1 hT)) rfl (Nat.le_of_ble_eq_true rfl) rfl (Nat.le_of_ble_eq_true rfl) (wX3_nearBank (by omega) hT (lay_rv1 hT) h4) ?_
  refine A_mmin (pc := 22) dX4_overs_22 lX4_199 amin_1 oJ9 amin_3 (Nat.le_of_ble_eq_true rfl) ?_
  refine A_mmax (pc := 25) dX4_overs_25 lX4_207 amax_1 oJ9 amax_3 (Nat.le_of_ble_eq_true rfl) ?_
  obtain rfl := Option.some.inj hf
  exact A_iret (pc := 28) dX4_overs_28 rfl rfl ⟨rfl, rfl, rfl⟩
def zX4_owes (n : Nat) (u : MU) (a1 : Int32) (a2 : Int32) : Option (Int32 × MU) := Option.bind (zX3_areTwo n u 1 a1 a2) (fun q1 => if q1 = 0 then (Option.bind (zX4_refuse n u (-1)) (fun q6 => some (q6.1, q6.2))) else (Option.bind (zX3_hoursOf n u 1 a1 a2) (fun q4 => some (q4, u))))
set_option maxHeartbeats 4000000 in
set_option maxRecDepth 100000 in
theorem wX4_owes {G : GG} {T : TT} {n d : Nat} (hd : 2 ≤ d) {q : Int32 × MU} {u : MU} {a1 : Int32} {a2 : Int32} (hT : LAY T) (hf : zX4_owes n u a1 a2 = some q) : AW G d mX4_owes 0 [.ref 0, .int a1, .int a2] [] T u 0 0 (QS T q.1 q.2) := by
  obtain ⟨d, rfl⟩ : ∃ e, d = e + 1 := ⟨d - 1, by omega⟩
  rw [zX4_owes] at hf
  refine A_aloadn (pc := 0) dX4_owes_0 rfl ?_
  refine A_getR (pc := 1) dX4_owes_1 gX4_10 (lay_s hT (k := 0) (q := (6, 9)) rfl) (Nat.le_of_ble_eq_true rfl) rfl (lay_r hT 13 rfl) ?_
  refine A_iloadn (pc := 4) dX4_owes_4 rfl ?_
  refine A_iloadn (pc := 5) dX4_owes_5 rfl ?_
  obtain ⟨q1, h2, hf⟩ := oi_b hf
  refine A_cV2i (mi2 := mX3_areTwo) (pc := 6) dX4_owes_6 lX4_118 fX3_areTwo vX3_areTwo (rv_0 (lay_rv1 hT)) rfl (Nat.le_of_ble_eq_true rfl) rfl (Nat.le_of_ble_eq_true rfl) (wX3_areTwo (by omega) hT (lay_rv1 hT) h2) ?_
  refine A_if_ne (pc := 9) (w := 0) 18 dX4_owes_9 (by decide) (fun cc3 => ?_) (fun cc3 => ?_)
  · have hf := oi_f cc3 hf
    refine A_aloadn (pc := 18) dX4_owes_18 rfl ?_
    refine A_getR (pc := 19) dX4_owes_19 gX4_10 (lay_s hT (k := 0) (q := (6, 9)) rfl) (Nat.le_of_ble_eq_true rfl) rfl (lay_r hT 13 rfl) ?_
    refine A_iloadn (pc := 22) dX4_owes_22 rfl ?_
    refine A_iloadn (pc := 23) dX4_owes_23 rfl ?_
    obtain ⟨q4, h5, hf⟩ := oi_b hf
    refine A_cV2i (mi2 := mX3_hoursOf) (pc := 24) dX4_owes_24 lX4_210 fX3_hoursOf vX3_hoursOf (rv_0 (lay_rv1 hT)) rfl (Nat.le_of_ble_eq_true rfl) rfl (Nat.le_of_ble_eq_true rfl) (wX3_hoursOf (by omega) hT (lay_rv1 hT) h5) ?_
    obtain rfl := Option.some.inj hf
    exact A_iret (pc := 27) dX4_owes_27 rfl rfl ⟨rfl, rfl, rfl⟩
  have hf := oi_t cc3 hf
  refine A_aloadn (pc := 12) dX4_owes_12 rfl ?_
  refine A_iconst (pc := 13) (-1) dX4_owes_13 rfl ?_
  obtain ⟨q6, h7, hf⟩ := oi_b hf
  refine A_cV1i (mi2 := mX4_refuse) (pc := 14) dX4_owes_14 lX4_51 fX4_refuse vX4_refuse (lay_s hT (k := 0) (q := (6, 9)) rfl) rfl (Nat.le_of_ble_eq_true rfl) rfl (Nat.le_of_ble_eq_true rfl) (wX4_refuse (by omega) hT  h7) ?_
  obtain rfl := Option.some.inj hf
  exact A_iret (pc := 17) dX4_owes_17 rfl rfl ⟨rfl, rfl, rfl⟩
def zX4_owed_L24 (n : Nat) (u : MU) (s1 : Int32) (k : Int32 → Int32 → Option (Int32 × MU)) : Nat → Int32 → Int32 → Option (Int32 × MU)
  | 0, _, _ => none
  | m + 1, t2, t3 => if (u 1 3) ≤ t3 then (k t2 t3) else (Option.bind (zX3_hoursOf n u 1 t3 s1) (fun q5 => Option.bind (zX3_hoursOf n u 1 s1 t3) (fun q7 => letb (t2 + (q5 - q7)) (fun x9 => zX4_owed_L24 n u  s1 k m x9 (t3 + 1)))))
def zX4_owed (n : Nat) (u : MU) (a1 : Int32) : Option (Int32 × MU) := Option.bind (zX3_isPerson n u 1 a1) (fun q1 => if q1 = 0 then (Option.bind (zX4_refuse n u (-1)) (fun q12 => some ((1000000000 - q12.1), q12.2))) else (zX4_owed_L24 n u  a1 (fun y10 y11 => some (y10, u)) n 0 0))
set_option maxHeartbeats 4000000 in
set_option maxRecDepth 100000 in
theorem wX4_owed_L24 {G : GG} {T : TT} {n d : Nat} (hd : 1 ≤ d) {u : MU} {s1 : Int32} {k : Int32 → Int32 → Option (Int32 × MU)} (hT : LAY T) (hk : ∀ (t2 : Int32) (t3 : Int32) (q : Int32 × MU), k t2 t3 = some q → AW G d mX4_owed 63 [.ref 0, .int s1, .int t2, .int t3] [] T u 0 0 (QS T q.1 q.2)) : ∀ (m : Nat) (t2 : Int32) (t3 : Int32) (q : Int32 × MU), zX4_owed_L24 n u  s1 k m t2 t3 = some q → AW G d mX4_owed 24 [.ref 0, .int s1, .int t2, .int t3] [] T u 0 0 (QS T q.1 q.2) := by
  intro m
  obtain ⟨d, rfl⟩ : ∃ e, d = e + 1 := ⟨d - 1, by omega⟩
  induction m with
  | zero =>
    intro t2 t3 q hf
    have h0 : (none : Option (Int32 × MU)) = some q := hf
    cases h0
  | succ m ih =>
    intro t2 t3 q hf
    rw [zX4_owed_L24] at hf
    refine A_iloadn (pc := 24) dX4_owed_24 rfl ?_
    refine A_aloadn (pc := 25) dX4_owed_25 rfl ?_
    refine A_getR (pc := 26) dX4_owed_26 gX4_10 (lay_s hT (k := 0) (q := (6, 9)) rfl) (Nat.le_of_ble_eq_true rfl) rfl (lay_r hT 13 rfl) ?_
    refine A_getI (pc := 29) dX4_owed_29 gX4_146 (rv_0 (lay_rv1 hT)) (Nat.le_of_ble_eq_true rfl) rfl ?_
    refine A_icmp_ge (pc := 32) 63 dX4_owed_32 (by decide) (fun cc4 => ?_) (fun cc4 => ?_)
    · have hf := oi_t cc4 hf
      exact hk _ _ _ hf
    have hf := oi_f cc4 hf
    refine A_iloadn (pc := 35) dX4_owed_35 rfl ?_
    refine A_aloadn (pc := 36) dX4_owed_36 rfl ?_
    refine A_getR (pc := 37) dX4_owed_37 gX4_10 (lay_s hT (k := 0) (q := (6, 9)) rfl) (Nat.le_of_ble_eq_true rfl) rfl (lay_r hT 13 rfl) ?_
    refine A_iloadn (pc := 40) dX4_owed_40 rfl ?_
    refine A_iloadn (pc := 41) dX4_owed_41 rfl ?_
    obtain ⟨q5, h6, hf⟩ := oi_b hf
    refine A_cV2i (mi2 := mX3_hoursOf) (pc := 42) dX4_owed_42 lX4_210 fX3_hoursOf vX3_hoursOf (rv_0 (lay_rv1 hT)) rfl (Nat.le_of_ble_eq_true rfl) rfl (Nat.le_of_ble_eq_true rfl) (wX3_hoursOf (by omega) hT (lay_rv1 hT) h6) ?_
    refine A_aloadn (pc := 45) dX4_owed_45 rfl ?_
    refine A_getR (pc := 46) dX4_owed_46 gX4_10 (lay_s hT (k := 0) (q := (6, 9)) rfl) (Nat.le_of_ble_eq_true rfl) rfl (lay_r hT 13 rfl) ?_
    refine A_iloadn (pc := 49) dX4_owed_49 rfl ?_
    refine A_iloadn (pc := 50) dX4_owed_50 rfl ?_
    obtain ⟨q7, h8, hf⟩ := oi_b hf
    refine A_cV2i (mi2 := mX3_hoursOf) (pc := 51) dX4_owed_51 lX4_210 fX3_hoursOf vX3_hoursOf (rv_0 (lay_rv1 hT)) rfl (Nat.le_of_ble_eq_true rfl) rfl (Nat.le_of_ble_eq_true rfl) (wX3_hoursOf (by omega) hT (lay_rv1 hT) h8) ?_
    refine A_isub (pc := 54) dX4_owed_54 ?_
    refine A_iadd (pc := 55) dX4_owed_55 ?_
    have hf := oi_l hf
    refine A_istn (pc := 56) (L2 := [.ref 0, .int s1, .int (t2 + (q5 - q7)), .int t3]) dX4_owed_56 (Nat.le_of_ble_eq_true rfl) rfl ?_
    refine A_inc (pc := 57) (L2 := [.ref 0, .int s1, .int (t2 + (q5 - q7)), .int (t3 + 1)]) (t3 + 1) dX4_owed_57 rfl rfl rfl ?_
    refine A_goto (pc := 60) 24 dX4_owed_60 (by decide) ?_
    exact ih _ _ _ hf
set_option maxHeartbeats 4000000 in
set_option maxRecDepth 100000 in
theorem wX4_owed {G : GG} {T : TT} {n d : Nat} (hd : 1 ≤ d) {q : Int32 × MU} {u : MU} {a1 : Int32} (hT : LAY T) (hf : zX4_owed n u a1 = some q) : AW G d mX4_owed 0 [.ref 0, .int a1, .null, .null] [] T u 0 0 (QS T q.1 q.2) := by
  obtain ⟨d, rfl⟩ : ∃ e, d = e + 1 := ⟨d - 1, by omega⟩
  rw [zX4_owed] at hf
  refine A_aloadn (pc := 0) dX4_owed_0 rfl ?_
  refine A_getR (pc := 1) dX4_owed_1 gX4_10 (lay_s hT (k := 0) (q := (6, 9)) rfl) (Nat.le_of_ble_eq_true rfl) rfl (lay_r hT 13 rfl) ?_
  refine A_iloadn (pc := 4) dX4_owed_4 rfl ?_
  obtain ⟨q1, h2, hf⟩ := oi_b hf
  refine A_cV1i (mi2 := mX3_isPerson) (pc := 5) dX4_owed_5 lX4_79 fX3_isPerson vX3_isPerson (rv_0 (lay_rv1 hT)) rfl (Nat.le_of_ble_eq_true rfl) rfl (Nat.le_of_ble_eq_true rfl) (wX3_isPerson (by omega) hT (lay_rv1 hT) h2) ?_
  refine A_if_ne (pc := 8) (w := 0) 20 dX4_owed_8 (by decide) (fun cc3 => ?_) (fun cc3 => ?_)
  · have hf := oi_f cc3 hf
    refine A_iconst (pc := 20) 0 dX4_owed_20 rfl ?_
    refine A_istn (pc := 21) (L2 := [.ref 0, .int a1, .int 0, .null]) dX4_owed_21 (Nat.le_of_ble_eq_true rfl) rfl ?_
    refine A_iconst (pc := 22) 0 dX4_owed_22 rfl ?_
    refine A_istn (pc := 23) (L2 := [.ref 0, .int a1, .int 0, .int 0]) dX4_owed_23 (Nat.le_of_ble_eq_true rfl) rfl ?_
    exact wX4_owed_L24 (by omega) hT  (fun y10 y11 q0 hf => by
      refine A_iloadn (pc := 63) dX4_owed_63 rfl ?_
      obtain rfl := Option.some.inj hf
      exact A_iret (pc := 64) dX4_owed_64 rfl rfl ⟨rfl, rfl, rfl⟩) _ _ _ _ hf
  have hf := oi_t cc3 hf
  refine A_ldc (pc := 11) dX4_owed_11 nX4_213 ?_
  refine A_aloadn (pc := 13) dX4_owed_13 rfl ?_
  refine A_iconst (pc := 14) (-1) dX4_owed_14 rfl ?_
  obtain ⟨q12, h13, hf⟩ := oi_b hf
  refine A_cV1i (mi2 := mX4_refuse) (pc := 15) dX4_owed_15 lX4_51 fX4_refuse vX4_refuse (lay_s hT (k := 0) (q := (6, 9)) rfl) rfl (Nat.le_of_ble_eq_true rfl) rfl (Nat.le_of_ble_eq_true rfl) (wX4_refuse (by omega) hT  h13) ?_
  refine A_isub (pc := 18) dX4_owed_18 ?_
  obtain rfl := Option.some.inj hf
  exact A_iret (pc := 19) dX4_owed_19 rfl rfl ⟨rfl, rfl, rfl⟩
def zX4_strike (n : Nat) (u : MU) : Option (Int32 × MU) := Option.bind (zX3_strikeTwos n u 1) (fun q1 => Option.bind (zX3_strikeThrees n q1.2 1) (fun q3 => some ((q1.1 + q3.1), q3.2)))
set_option maxHeartbeats 4000000 in
set_option maxRecDepth 100000 in
theorem wX4_strike {G : GG} {T : TT} {n d : Nat} (hd : 4 ≤ d) {q : Int32 × MU} {u : MU} (hT : LAY T) (hf : zX4_strike n u = some q) : AW G d mX4_strike 0 [.ref 0] [] T u 0 0 (QS T q.1 q.2) := by
  obtain ⟨d, rfl⟩ : ∃ e, d = e + 1 := ⟨d - 1, by omega⟩
  rw [zX4_strike] at hf
  refine A_aloadn (pc := 0) dX4_strike_0 rfl ?_
  refine A_getR (pc := 1) dX4_strike_1 gX4_10 (lay_s hT (k := 0) (q := (6, 9)) rfl) (Nat.le_of_ble_eq_true rfl) rfl (lay_r hT 13 rfl) ?_
  obtain ⟨q1, h2, hf⟩ := oi_b hf
  refine A_cV0i (mi2 := mX3_strikeTwos) (pc := 4) dX4_strike_4 lX4_214 fX3_strikeTwos vX3_strikeTwos (rv_0 (lay_rv1 hT)) rfl (Nat.le_of_ble_eq_true rfl) rfl (Nat.le_of_ble_eq_true rfl) (wX3_strikeTwos (by omega) hT (lay_rv1 hT) h2) ?_
  refine A_aloadn (pc := 7) dX4_strike_7 rfl ?_
  refine A_getR (pc := 8) dX4_strike_8 gX4_10 (lay_s hT (k := 0) (q := (6, 9)) rfl) (Nat.le_of_ble_eq_true rfl) rfl (lay_r hT 13 rfl) ?_
  obtain ⟨q3, h4, hf⟩ := oi_b hf
  refine A_cV0i (mi2 := mX3_strikeThrees) (pc := 11) dX4_strike_11 lX4_217 fX3_strikeThrees vX3_strikeThrees (rv_0 (lay_rv1 hT)) rfl (Nat.le_of_ble_eq_true rfl) rfl (Nat.le_of_ble_eq_true rfl) (wX3_strikeThrees (by omega) hT (lay_rv1 hT) h4) ?_
  refine A_iadd (pc := 14) dX4_strike_14 ?_
  obtain rfl := Option.some.inj hf
  exact A_iret (pc := 15) dX4_strike_15 rfl rfl ⟨rfl, rfl, rfl⟩
def zX4_wet (n : Nat) (u : MU) (a1 : Int32) (a2 : Int32) : Option (Int32 × MU) := Option.bind (zX3_notOver n u 1) (fun q1 => if (a1 &&& (q1 ^^^ (-1))) = 0 then (if a2 = (-1) then (Option.bind (zJ6_bitCount_0f7a4 n u a1) (fun q5 => if q5 = (u 1 0) then (Option.bind (zX1_thinkOf n u 1 a1) (fun q8 => if a2 = (-1) then (some ((q8 45 3), q8)) else (if oob a2 7 then none else some ((q8 50 a2.toNatClampNeg), q8)))) else (some (0, u)))) else (Option.bind (zX3_isPerson n u 1 a2) (fun q12 => if q12 = 0 then (Option.bind (zX4_refuse n u (-1)) (fun q15 => some (q15.1, q15.2))) else (if (a1 &&& (1 <<< (a2 &&& 31))) = 0 then (Option.bind (zX4_refuse n u (-1)) (fun q25 => some (q25.1, q25.2))) else (Option.bind (zJ6_bitCount_0f7a4 n u a1) (fun q18 => if q18 = (u 1 0) then (Option.bind (zX1_thinkOf n u 1 a1) (fun q21 => if a2 = (-1) then (some ((q21 45 3), q21)) else (if oob a2 7 then none else some ((q21 50 a2.toNatClampNeg), q21)))) else (some (0, u)))))))) else (Option.bind (zX4_refuse n u (-1)) (fun q27 => some (q27.1, q27.2))))
set_option maxHeartbeats 4000000 in
set_option maxRecDepth 100000 in
theorem wX4_wet {G : GG} {T : TT} {n d : Nat} (hd : 13 ≤ d) {q : Int32 × MU} {u : MU} {a1 : Int32} {a2 : Int32} (hT : LAY T) (hf : zX4_wet n u a1 a2 = some q) : AW G d mX4_wet 0 [.ref 0, .int a1, .int a2] [] T u 0 0 (QS T q.1 q.2) := by
  obtain ⟨d, rfl⟩ : ∃ e, d = e + 1 := ⟨d - 1, by omega⟩
  rw [zX4_wet] at hf
  refine A_iloadn (pc := 0) dX4_wet_0 rfl ?_
  refine A_aloadn (pc := 1) dX4_wet_1 rfl ?_
  refine A_getR (pc := 2) dX4_wet_2 gX4_10 (lay_s hT (k := 0) (q := (6, 9)) rfl) (Nat.le_of_ble_eq_true rfl) rfl (lay_r hT 13 rfl) ?_
  obtain ⟨q1, h2, hf⟩ := oi_b hf
  refine A_cV0i (mi2 := mX3_notOver) (pc := 5) dX4_wet_5 lX4_172 fX3_notOver vX3_notOver (rv_0 (lay_rv1 hT)) rfl (Nat.le_of_ble_eq_true rfl) rfl (Nat.le_of_ble_eq_true rfl) (wX3_notOver (by omega) hT (lay_rv1 hT) h2) ?_
  refine A_iconst (pc := 8) (-1) dX4_wet_8 rfl ?_
  refine A_ixor (pc := 9) dX4_wet_9 ?_
  refine A_iand (pc := 10) dX4_wet_10 ?_
  refine A_if_eq (pc := 11) (w := 0) 20 dX4_wet_11 (by decide) (fun cc3 => ?_) (fun cc3 => ?_)
  · have hf := oi_t cc3 hf
    refine A_iloadn (pc := 20) dX4_wet_20 rfl ?_
    refine A_iconst (pc := 21) (-1) dX4_wet_21 rfl ?_
    refine A_icmp_eq (pc := 22) 50 dX4_wet_22 (by decide) (fun cc4 => ?_) (fun cc4 => ?_)
    · have hf := oi_t cc4 hf
      refine A_iloadn (pc := 50) dX4_wet_50 rfl ?_
      obtain ⟨q5, h6, hf⟩ := oi_b hf
      refine A_cS1i (mi2 := mJ6_bitCount_0f7a4) (pc := 51) dX4_wet_51 lX4_220 fJ6_bitCount_0f7a4 sJ6_bitCount_0f7a4 (Nat.le_of_ble_eq_true rfl) rfl (Nat.le_of_ble_eq_true rfl) (wJ6_bitCount_0f7a4 (by omega) hT  h6) ?_
      refine A_aloadn (pc := 54) dX4_wet_54 rfl ?_
      refine A_getR (pc := 55) dX4_wet_55 gX4_10 (lay_s hT (k := 0) (q := (6, 9)) rfl) (Nat.le_of_ble_eq_true rfl) rfl (lay_r hT 13 rfl) ?_
      refine A_getI (pc := 58) dX4_wet_58 gX4_149 (rv_0 (lay_rv1 hT)) (Nat.le_of_ble_eq_true rfl) rfl ?_
      refine A_icmp_eq (pc := 61) 66 dX4_wet_61 (by decide) (fun cc7 => ?_) (fun cc7 => ?_)
      · have hf := oi_t cc7 hf
        refine A_aloadn (pc := 66) dX4_wet_66 rfl ?_
        refine A_getR (pc := 67) dX4_wet_67 gX4_36 (lay_s hT (k := 0) (q := (6, 9)) rfl) (Nat.le_of_ble_eq_true rfl) rfl (lay_r hT 49 rfl) ?_
        refine A_aloadn (pc := 70) dX4_wet_70 rfl ?_
        refine A_getR (pc := 71) dX4_wet_71 gX4_10 (lay_s hT (k := 0) (q := (6, 9)) rfl) (Nat.le_of_ble_eq_true rfl) rfl (lay_r hT 13 rfl) ?_
        refine A_iloadn (pc := 74) dX4_wet_74 rfl ?_
        obtain ⟨q8, h9, hf⟩ := oi_b hf
        refine A_cV2v (mi2 := mX1_thinkOf) (pc := 75) dX4_wet_75 lX4_175 fX1_thinkOf vX1_thinkOf (lay_s hT (k := 45) (q := (3, 8)) rfl) rfl (Nat.le_of_ble_eq_true rfl) rfl (Nat.le_of_ble_eq_true rfl) (wX1_thinkOf (by omega) hT (lay_rv1 hT) h9) ?_
        refine A_iloadn (pc := 78) dX4_wet_78 rfl ?_
        refine A_iconst (pc := 79) (-1) dX4_wet_79 rfl ?_
        refine A_icmp_ne (pc := 80) 93 dX4_wet_80 (by decide) (fun cc10 => ?_) (fun cc10 => ?_)
        · have hf := oi_f cc10 hf
          refine A_aloadn (pc := 93) dX4_wet_93 rfl ?_
          refine A_getR (pc := 94) dX4_wet_94 gX4_36 (lay_s hT (k := 0) (q := (6, 9)) rfl) (Nat.le_of_ble_eq_true rfl) rfl (lay_r hT 49 rfl) ?_
          refine A_getR (pc := 97) dX4_wet_97 gX4_225 (lay_s hT (k := 45) (q := (3, 8)) rfl) (Nat.le_of_ble_eq_true rfl) rfl (lay_r hT 48 rfl) ?_
          refine A_iloadn (pc := 100) dX4_wet_100 rfl ?_
          obtain ⟨h11, hf⟩ := oi_cf hf
          refine A_iald (pc := 101) dX4_wet_101 (lay_s hT (k := 50) (q := (0, 7)) rfl) (oob_f h11) ?_
          obtain rfl := Option.some.inj hf
          exact A_iret (pc := 102) dX4_wet_102 rfl rfl ⟨rfl, rfl, rfl⟩
        have hf := oi_t cc10 hf
        refine A_aloadn (pc := 83) dX4_wet_83 rfl ?_
        refine A_getR (pc := 84) dX4_wet_84 gX4_36 (lay_s hT (k := 0) (q := (6, 9)) rfl) (Nat.le_of_ble_eq_true rfl) rfl (lay_r hT 49 rfl) ?_
        refine A_getI (pc := 87) dX4_wet_87 gX4_179 (lay_s hT (k := 45) (q := (3, 8)) rfl) (Nat.le_of_ble_eq_true rfl) rfl ?_
        refine A_goto (pc := 90) 102 dX4_wet_90 (by decide) ?_
        obtain rfl := Option.some.inj hf
        exact A_iret (pc := 102) dX4_wet_102 rfl rfl ⟨rfl, rfl, rfl⟩
      have hf := oi_f cc7 hf
      refine A_iconst (pc := 64) 0 dX4_wet_64 rfl ?_
      obtain rfl := Option.some.inj hf
      exact A_iret (pc := 65) dX4_wet_65 rfl rfl ⟨rfl, rfl, rfl⟩
    have hf := oi_f cc4 hf
    refine A_aloadn (pc := 25) dX4_wet_25 rfl ?_
    refine A_getR (pc := 26) dX4_wet_26 gX4_10 (lay_s hT (k := 0) (q := (6, 9)) rfl) (Nat.le_of_ble_eq_true rfl) rfl (lay_r hT 13 rfl) ?_
    refine A_iloadn (pc := 29) dX4_wet_29 rfl ?_
    obtain ⟨q12, h13, hf⟩ := oi_b hf
    refine A_cV1i (mi2 := mX3_isPerson) (pc := 30) dX4_wet_30 lX4_79 fX3_isPerson vX3_isPerson (rv_0 (lay_rv1 hT)) rfl (Nat.le_of_ble_eq_true rfl) rfl (Nat.le_of_ble_eq_true rfl) (wX3_isPerson (by omega) hT (lay_rv1 hT) h13) ?_
    refine A_if_eq (pc := 33) (w := 0) 44 dX4_wet_33 (by decide) (fun cc14 => ?_) (fun cc14 => ?_)
    · have hf := oi_t cc14 hf
      refine A_aloadn (pc := 44) dX4_wet_44 rfl ?_
      refine A_iconst (pc := 45) (-1) dX4_wet_45 rfl ?_
      obtain ⟨q15, h16, hf⟩ := oi_b hf
      refine A_cV1i (mi2 := mX4_refuse) (pc := 46) dX4_wet_46 lX4_51 fX4_refuse vX4_refuse (lay_s hT (k := 0) (q := (6, 9)) rfl) rfl (Nat.le_of_ble_eq_true rfl) rfl (Nat.le_of_ble_eq_true rfl) (wX4_refuse (by omega) hT  h16) ?_
      obtain rfl := Option.some.inj hf
      exact A_iret (pc := 49) dX4_wet_49 rfl rfl ⟨rfl, rfl, rfl⟩
    have hf := oi_f cc14 hf
    refine A_iloadn (pc := 36) dX4_wet_36 rfl ?_
    refine A_iconst (pc := 37) 1 dX4_wet_37 rfl ?_
    refine A_iloadn (pc := 38) dX4_wet_38 rfl ?_
    refine A_ishl (pc := 39) dX4_wet_39 ?_
    refine A_iand (pc := 40) dX4_wet_40 ?_
    refine A_if_ne (pc := 41) (w := 0) 50 dX4_wet_41 (by decide) (fun cc17 => ?_) (fun cc17 => ?_)
    · have hf := oi_f cc17 hf
      refine A_iloadn (pc := 50) dX4_wet_50 rfl ?_
      obtain ⟨q18, h19, hf⟩ := oi_b hf
      refine A_cS1i (mi2 := mJ6_bitCount_0f7a4) (pc := 51) dX4_wet_51 lX4_220 fJ6_bitCount_0f7a4 sJ6_bitCount_0f7a4 (Nat.le_of_ble_eq_true rfl) rfl (Nat.le_of_ble_eq_true rfl) (wJ6_bitCount_0f7a4 (by omega) hT  h19) ?_
      refine A_aloadn (pc := 54) dX4_wet_54 rfl ?_
      refine A_getR (pc := 55) dX4_wet_55 gX4_10 (lay_s hT (k := 0) (q := (6, 9)) rfl) (Nat.le_of_ble_eq_true rfl) rfl (lay_r hT 13 rfl) ?_
      refine A_getI (pc := 58) dX4_wet_58 gX4_149 (rv_0 (lay_rv1 hT)) (Nat.le_of_ble_eq_true rfl) rfl ?_
      refine A_icmp_eq (pc := 61) 66 dX4_wet_61 (by decide) (fun cc20 => ?_) (fun cc20 => ?_)
      · have hf := oi_t cc20 hf
        refine A_aloadn (pc := 66) dX4_wet_66 rfl ?_
        refine A_getR (pc := 67) dX4_wet_67 gX4_36 (lay_s hT (k := 0) (q := (6, 9)) rfl) (Nat.le_of_ble_eq_true rfl) rfl (lay_r hT 49 rfl) ?_
        refine A_aloadn (pc := 70) dX4_wet_70 rfl ?_
        refine A_getR (pc := 71) dX4_wet_71 gX4_10 (lay_s hT (k := 0) (q := (6, 9)) rfl) (Nat.le_of_ble_eq_true rfl) rfl (lay_r hT 13 rfl) ?_
        refine A_iloadn (pc := 74) dX4_wet_74 rfl ?_
        obtain ⟨q21, h22, hf⟩ := oi_b hf
        refine A_cV2v (mi2 := mX1_thinkOf) (pc := 75) dX4_wet_75 lX4_175 fX1_thinkOf vX1_thinkOf (lay_s hT (k := 45) (q := (3, 8)) rfl) rfl (Nat.le_of_ble_eq_true rfl) rfl (Nat.le_of_ble_eq_true rfl) (wX1_thinkOf (by omega) hT (lay_rv1 hT) h22) ?_
        refine A_iloadn (pc := 78) dX4_wet_78 rfl ?_
        refine A_iconst (pc := 79) (-1) dX4_wet_79 rfl ?_
        refine A_icmp_ne (pc := 80) 93 dX4_wet_80 (by decide) (fun cc23 => ?_) (fun cc23 => ?_)
        · have hf := oi_f cc23 hf
          refine A_aloadn (pc := 93) dX4_wet_93 rfl ?_
          refine A_getR (pc := 94) dX4_wet_94 gX4_36 (lay_s hT (k := 0) (q := (6, 9)) rfl) (Nat.le_of_ble_eq_true rfl) rfl (lay_r hT 49 rfl) ?_
          refine A_getR (pc := 97) dX4_wet_97 gX4_225 (lay_s hT (k := 45) (q := (3, 8)) rfl) (Nat.le_of_ble_eq_true rfl) rfl (lay_r hT 48 rfl) ?_
          refine A_iloadn (pc := 100) dX4_wet_100 rfl ?_
          obtain ⟨h24, hf⟩ := oi_cf hf
          refine A_iald (pc := 101) dX4_wet_101 (lay_s hT (k := 50) (q := (0, 7)) rfl) (oob_f h24) ?_
          obtain rfl := Option.some.inj hf
          exact A_iret (pc := 102) dX4_wet_102 rfl rfl ⟨rfl, rfl, rfl⟩
        have hf := oi_t cc23 hf
        refine A_aloadn (pc := 83) dX4_wet_83 rfl ?_
        refine A_getR (pc := 84) dX4_wet_84 gX4_36 (lay_s hT (k := 0) (q := (6, 9)) rfl) (Nat.le_of_ble_eq_true rfl) rfl (lay_r hT 49 rfl) ?_
        refine A_getI (pc := 87) dX4_wet_87 gX4_179 (lay_s hT (k := 45) (q := (3, 8)) rfl) (Nat.le_of_ble_eq_true rfl) rfl ?_
        refine A_goto (pc := 90) 102 dX4_wet_90 (by decide) ?_
        obtain rfl := Option.some.inj hf
        exact A_iret (pc := 102) dX4_wet_102 rfl rfl ⟨rfl, rfl, rfl⟩
      have hf := oi_f cc20 hf
      refine A_iconst (pc := 64) 0 dX4_wet_64 rfl ?_
      obtain rfl := Option.some.inj hf
      exact A_iret (pc := 65) dX4_wet_65 rfl rfl ⟨rfl, rfl, rfl⟩
    have hf := oi_t cc17 hf
    refine A_aloadn (pc := 44) dX4_wet_44 rfl ?_
    refine A_iconst (pc := 45) (-1) dX4_wet_45 rfl ?_
    obtain ⟨q25, h26, hf⟩ := oi_b hf
    refine A_cV1i (mi2 := mX4_refuse) (pc := 46) dX4_wet_46 lX4_51 fX4_refuse vX4_refuse (lay_s hT (k := 0) (q := (6, 9)) rfl) rfl (Nat.le_of_ble_eq_true rfl) rfl (Nat.le_of_ble_eq_true rfl) (wX4_refuse (by omega) hT  h26) ?_
    obtain rfl := Option.some.inj hf
    exact A_iret (pc := 49) dX4_wet_49 rfl rfl ⟨rfl, rfl, rfl⟩
  have hf := oi_f cc3 hf
  refine A_aloadn (pc := 14) dX4_wet_14 rfl ?_
  refine A_iconst (pc := 15) (-1) dX4_wet_15 rfl ?_
  obtain ⟨q27, h28, hf⟩ := oi_b hf
  refine A_cV1i (mi2 := mX4_refuse) (pc := 16) dX4_wet_16 lX4_51 fX4_refuse vX4_refuse (lay_s hT (k := 0) (q := (6, 9)) rfl) rfl (Nat.le_of_ble_eq_true rfl) rfl (Nat.le_of_ble_eq_true rfl) (wX4_refuse (by omega) hT  h28) ?_
  obtain rfl := Option.some.inj hf
  exact A_iret (pc := 19) dX4_wet_19 rfl rfl ⟨rfl, rfl, rfl⟩
def zX4_row (n : Nat) (u : MU) (a1 : Int32) : Option (Int32 × MU) := if 0 ≤ a1 then (if 7 ≤ a1 then (Option.bind (zX4_refuse n u (-6)) (fun q3 => some (q3.1, q3.2))) else (if (u 0 7) < 5 then (if oob (u 0 7) 5 then none else letb (up2 u 51 (u 0 7).toNatClampNeg a1) (fun u7 => letb (up2 u7 0 7 ((u7 0 7) + 1)) (fun u8 => some ((u8 0 7), u8)))) else (Option.bind (zX4_refuse n u (-6)) (fun q9 => some (q9.1, q9.2))))) else (Option.bind (zX4_refuse n u (-4)) (fun q11 => some (q11.1, q11.2)))
set_option maxHeartbeats 4000000 in
set_option maxRecDepth 100000 in
theorem wX4_row {G : GG} {T : TT} {n d : Nat} (hd : 1 ≤ d) {q : Int32 × MU} {u : MU} {a1 : Int32} (hT : LAY T) (hf : zX4_row n u a1 = some q) : AW G d mX4_row 0 [.ref 0, .int a1] [] T u 0 0 (QS T q.1 q.2) := by
  obtain ⟨d, rfl⟩ : ∃ e, d = e + 1 := ⟨d - 1, by omega⟩
  rw [zX4_row] at hf
  refine A_iloadn (pc := 0) dX4_row_0 rfl ?_
  refine A_if_ge (pc := 1) (w := 0) 11 dX4_row_1 (by decide) (fun cc1 => ?_) (fun cc1 => ?_)
  · have hf := oi_t cc1 hf
    refine A_iloadn (pc := 11) dX4_row_11 rfl ?_
    refine A_bipush (pc := 12) 7 dX4_row_12 rfl ?_
    refine A_icmp_ge (pc := 14) 25 dX4_row_14 (by decide) (fun cc2 => ?_) (fun cc2 => ?_)
    · have hf := oi_t cc2 hf
      refine A_aloadn (pc := 25) dX4_row_25 rfl ?_
      refine A_bipush (pc := 26) (-6) dX4_row_26 rfl ?_
      obtain ⟨q3, h4, hf⟩ := oi_b hf
      refine A_cV1i (mi2 := mX4_refuse) (pc := 28) dX4_row_28 lX4_51 fX4_refuse vX4_refuse (lay_s hT (k := 0) (q := (6, 9)) rfl) rfl (Nat.le_of_ble_eq_true rfl) rfl (Nat.le_of_ble_eq_true rfl) (wX4_refuse (by omega) hT  h4) ?_
      obtain rfl := Option.some.inj hf
      exact A_iret (pc := 31) dX4_row_31 rfl rfl ⟨rfl, rfl, rfl⟩
    have hf := oi_f cc2 hf
    refine A_aloadn (pc := 17) dX4_row_17 rfl ?_
    refine A_getI (pc := 18) dX4_row_18 gX4_44 (lay_s hT (k := 0) (q := (6, 9)) rfl) (Nat.le_of_ble_eq_true rfl) rfl ?_
    refine A_iconst (pc := 21) 5 dX4_row_21 rfl ?_
    refine A_icmp_lt (pc := 22) 32 dX4_row_22 (by decide) (fun cc5 => ?_) (fun cc5 => ?_)
    · have hf := oi_t cc5 hf
      refine A_aloadn (pc := 32) dX4_row_32 rfl ?_
      refine A_getR (pc := 33) dX4_row_33 gX4_40 (lay_s hT (k := 0) (q := (6, 9)) rfl) (Nat.le_of_ble_eq_true rfl) rfl (lay_r hT 50 rfl) ?_
      refine A_aloadn (pc := 36) dX4_row_36 rfl ?_
      refine A_getI (pc := 37) dX4_row_37 gX4_44 (lay_s hT (k := 0) (q := (6, 9)) rfl) (Nat.le_of_ble_eq_true rfl) rfl ?_
      refine A_iloadn (pc := 40) dX4_row_40 rfl ?_
      obtain ⟨h6, hf⟩ := oi_cf hf
      have hf := oi_l hf
      refine A_iast (pc := 41) dX4_row_41 (lay_s hT (k := 51) (q := (0, 5)) rfl) (oob_f h6) ?_
      refine A_aloadn (pc := 42) dX4_row_42 rfl ?_
      refine A_dup (pc := 43) dX4_row_43 ?_
      refine A_getI (pc := 44) dX4_row_44 gX4_44 (lay_s hT (k := 0) (q := (6, 9)) rfl) (Nat.le_of_ble_eq_true rfl) rfl ?_
      refine A_iconst (pc := 47) 1 dX4_row_47 rfl ?_
      refine A_iadd (pc := 48) dX4_row_48 ?_
      have hf := oi_l hf
      refine A_putI (pc := 49) dX4_row_49 gX4_44 (lay_s hT (k := 0) (q := (6, 9)) rfl) (Nat.le_of_ble_eq_true rfl) rfl rfl rfl rfl ?_
      refine A_aloadn (pc := 52) dX4_row_52 rfl ?_
      refine A_getI (pc := 53) dX4_row_53 gX4_44 (lay_s hT (k := 0) (q := (6, 9)) rfl) (Nat.le_of_ble_eq_true rfl) rfl ?_
      obtain rfl := Option.some.inj hf
      exact A_iret (pc := 56) dX4_row_56 rfl rfl ⟨rfl, rfl, rfl⟩
    have hf := oi_f cc5 hf
    refine A_aloadn (pc := 25) dX4_row_25 rfl ?_
    refine A_bipush (pc := 26) (-6) dX4_row_26 rfl ?_
    obtain ⟨q9, h10, hf⟩ := oi_b hf
    refine A_cV1i (mi2 := mX4_refuse) (pc := 28) dX4_row_28 lX4_51 fX4_refuse vX4_refuse (lay_s hT (k := 0) (q := (6, 9)) rfl) rfl (Nat.le_of_ble_eq_true rfl) rfl (Nat.le_of_ble_eq_true rfl) (wX4_refuse (by omega) hT  h10) ?_
    obtain rfl := Option.some.inj hf
    exact A_iret (pc := 31) dX4_row_31 rfl rfl ⟨rfl, rfl, rfl⟩
  have hf := oi_f cc1 hf
  refine A_aloadn (pc := 4) dX4_row_4 rfl ?_
  refine A_bipush (pc := 5) (-4) dX4_row_5 rfl ?_
  obtain ⟨q11, h12, hf⟩ := oi_b hf
  refine A_cV1i (mi2 := mX4_refuse) (pc := 7) dX4_row_7 lX4_51 fX4_refuse vX4_refuse (lay_s hT (k := 0) (q := (6, 9)) rfl) rfl (Nat.le_of_ble_eq_true rfl) rfl (Nat.le_of_ble_eq_true rfl) (wX4_refuse (by omega) hT  h12) ?_
  obtain rfl := Option.some.inj hf
  exact A_iret (pc := 10) dX4_row_10 rfl rfl ⟨rfl, rfl, rfl⟩
def zX4_judge (n : Nat) (u : MU) : Option (Int32 × MU) := Option.bind (zX3_firstAmiss n u 1 51 5 (u 0 7)) (fun q1 => letb (up2 u 0 7 0) (fun u3 => some (q1, u3)))
set_option maxHeartbeats 4000000 in
set_option maxRecDepth 100000 in
theorem wX4_judge {G : GG} {T : TT} {n d : Nat} (hd : 5 ≤ d) {q : Int32 × MU} {u : MU} (hT : LAY T) (hf : zX4_judge n u = some q) : AW G d mX4_judge 0 [.ref 0, .null] [] T u 0 0 (QS T q.1 q.2) := by
  obtain ⟨d, rfl⟩ : ∃ e, d = e + 1 := ⟨d - 1, by omega⟩
  rw [zX4_judge] at hf
  refine A_aloadn (pc := 0) dX4_judge_0 rfl ?_
  refine A_getR (pc := 1) dX4_judge_1 gX4_10 (lay_s hT (k := 0) (q := (6, 9)) rfl) (Nat.le_of_ble_eq_true rfl) rfl (lay_r hT 13 rfl) ?_
  refine A_aloadn (pc := 4) dX4_judge_4 rfl ?_
  refine A_getR (pc := 5) dX4_judge_5 gX4_40 (lay_s hT (k := 0) (q := (6, 9)) rfl) (Nat.le_of_ble_eq_true rfl) rfl (lay_r hT 50 rfl) ?_
  refine A_aloadn (pc := 8) dX4_judge_8 rfl ?_
  refine A_getI (pc := 9) dX4_judge_9 gX4_44 (lay_s hT (k := 0) (q := (6, 9)) rfl) (Nat.le_of_ble_eq_true rfl) rfl ?_
  obtain ⟨q1, h2, hf⟩ := oi_b hf
  refine A_cV2i (mi2 := mX3_firstAmiss) (pc := 12) dX4_judge_12 lX4_228 fX3_firstAmiss vX3_firstAmiss (rv_0 (lay_rv1 hT)) rfl (Nat.le_of_ble_eq_true rfl) rfl (Nat.le_of_ble_eq_true rfl) (wX3_firstAmiss (by omega) hT (lay_rv1 hT) (lay_s hT (k := 51) (q := (0, 5)) rfl) h2) ?_
  refine A_istn (pc := 15) (L2 := [.ref 0, .int q1]) dX4_judge_15 (Nat.le_of_ble_eq_true rfl) rfl ?_
  refine A_aloadn (pc := 16) dX4_judge_16 rfl ?_
  refine A_iconst (pc := 17) 0 dX4_judge_17 rfl ?_
  have hf := oi_l hf
  refine A_putI (pc := 18) dX4_judge_18 gX4_44 (lay_s hT (k := 0) (q := (6, 9)) rfl) (Nat.le_of_ble_eq_true rfl) rfl rfl rfl rfl ?_
  refine A_iloadn (pc := 21) dX4_judge_21 rfl ?_
  obtain rfl := Option.some.inj hf
  exact A_iret (pc := 22) dX4_judge_22 rfl rfl ⟨rfl, rfl, rfl⟩
def zX4_seeds (n : Nat) (u : MU) (a1 : Int32) (a2 : Int32) : Option (Int32 × MU) := if 1 ≤ a1 then (if a1 ≤ 60 then (if (u 1 3) = 0 then (Option.bind (zX4_refuse n u (-3)) (fun q6 => some (q6.1, q6.2))) else (Option.bind (zX1_standingBySeed n u 1 a1 a2) (fun q4 => some (q4.1, q4.2)))) else (Option.bind (zX4_refuse n u (-6)) (fun q8 => some (q8.1, q8.2)))) else (Option.bind (zX4_refuse n u (-4)) (fun q10 => some (q10.1, q10.2)))
set_option maxHeartbeats 4000000 in
set_option maxRecDepth 100000 in
theorem wX4_seeds {G : GG} {T : TT} {n d : Nat} (hd : 6 ≤ d) {q : Int32 × MU} {u : MU} {a1 : Int32} {a2 : Int32} (hT : LAY T) (hf : zX4_seeds n u a1 a2 = some q) : AW G d mX4_seeds 0 [.ref 0, .int a1, .int a2] [] T u 0 0 (QS T q.1 q.2) := by
  obtain ⟨d, rfl⟩ : ∃ e, d = e + 1 := ⟨d - 1, by omega⟩
  rw [zX4_seeds] at hf
  refine A_iloadn (pc := 0) dX4_seeds_0 rfl ?_
  refine A_iconst (pc := 1) 1 dX4_seeds_1 rfl ?_
  refine A_icmp_ge (pc := 2) 12 dX4_seeds_2 (by decide) (fun cc1 => ?_) (fun cc1 => ?_)
  · have hf := oi_t cc1 hf
    refine A_iloadn (pc := 12) dX4_seeds_12 rfl ?_
    refine A_bipush (pc := 13) 60 dX4_seeds_13 rfl ?_
    refine A_icmp_le (pc := 15) 25 dX4_seeds_15 (by decide) (fun cc2 => ?_) (fun cc2 => ?_)
    · have hf := oi_t cc2 hf
      refine A_aloadn (pc := 25) dX4_seeds_25 rfl ?_
      refine A_getR (pc := 26) dX4_seeds_26 gX4_10 (lay_s hT (k := 0) (q := (6, 9)) rfl) (Nat.le_of_ble_eq_true rfl) rfl (lay_r hT 13 rfl) ?_
      refine A_getI (pc := 29) dX4_seeds_29 gX4_146 (rv_0 (lay_rv1 hT)) (Nat.le_of_ble_eq_true rfl) rfl ?_
      refine A_if_ne (pc := 32) (w := 0) 42 dX4_seeds_32 (by decide) (fun cc3 => ?_) (fun cc3 => ?_)
      · have hf := oi_f cc3 hf
        refine A_aloadn (pc := 42) dX4_seeds_42 rfl ?_
        refine A_getR (pc := 43) dX4_seeds_43 gX4_36 (lay_s hT (k := 0) (q := (6, 9)) rfl) (Nat.le_of_ble_eq_true rfl) rfl (lay_r hT 49 rfl) ?_
        refine A_aloadn (pc := 46) dX4_seeds_46 rfl ?_
        refine A_getR (pc := 47) dX4_seeds_47 gX4_10 (lay_s hT (k := 0) (q := (6, 9)) rfl) (Nat.le_of_ble_eq_true rfl) rfl (lay_r hT 13 rfl) ?_
        refine A_iloadn (pc := 50) dX4_seeds_50 rfl ?_
        refine A_iloadn (pc := 51) dX4_seeds_51 rfl ?_
        obtain ⟨q4, h5, hf⟩ := oi_b hf
        refine A_cV3i (mi2 := mX1_standingBySeed) (pc := 52) dX4_seeds_52 lX4_231 fX1_standingBySeed vX1_standingBySeed (lay_s hT (k := 45) (q := (3, 8)) rfl) rfl (Nat.le_of_ble_eq_true rfl) rfl (Nat.le_of_ble_eq_true rfl) (wX1_standingBySeed (by omega) hT (lay_rv1 hT) h5) ?_
        obtain rfl := Option.some.inj hf
        exact A_iret (pc := 55) dX4_seeds_55 rfl rfl ⟨rfl, rfl, rfl⟩
      have hf := oi_t cc3 hf
      refine A_aloadn (pc := 35) dX4_seeds_35 rfl ?_
      refine A_bipush (pc := 36) (-3) dX4_seeds_36 rfl ?_
      obtain ⟨q6, h7, hf⟩ := oi_b hf
      refine A_cV1i (mi2 := mX4_refuse) (pc := 38) dX4_seeds_38 lX4_51 fX4_refuse vX4_refuse (lay_s hT (k := 0) (q := (6, 9)) rfl) rfl (Nat.le_of_ble_eq_true rfl) rfl (Nat.le_of_ble_eq_true rfl) (wX4_refuse (by omega) hT  h7) ?_
      obtain rfl := Option.some.inj hf
      exact A_iret (pc := 41) dX4_seeds_41 rfl rfl ⟨rfl, rfl, rfl⟩
    have hf := oi_f cc2 hf
    refine A_aloadn (pc := 18) dX4_seeds_18 rfl ?_
    refine A_bipush (pc := 19) (-6) dX4_seeds_19 rfl ?_
    obtain ⟨q8, h9, hf⟩ := oi_b hf
    refine A_cV1i (mi2 := mX4_refuse) (pc := 21) dX4_seeds_21 lX4_51 fX4_refuse vX4_refuse (lay_s hT (k := 0) (q := (6, 9)) rfl) rfl (Nat.le_of_ble_eq_true rfl) rfl (Nat.le_of_ble_eq_true rfl) (wX4_refuse (by omega) hT  h9) ?_
    obtain rfl := Option.some.inj hf
    exact A_iret (pc := 24) dX4_seeds_24 rfl rfl ⟨rfl, rfl, rfl⟩
  have hf := oi_f cc1 hf
  refine A_aloadn (pc := 5) dX4_seeds_5 rfl ?_
  refine A_bipush (pc := 6) (-4) dX4_seeds_6 rfl ?_
  obtain ⟨q10, h11, hf⟩ := oi_b hf
  refine A_cV1i (mi2 := mX4_refuse) (pc := 8) dX4_seeds_8 lX4_51 fX4_refuse vX4_refuse (lay_s hT (k := 0) (q := (6, 9)) rfl) rfl (Nat.le_of_ble_eq_true rfl) rfl (Nat.le_of_ble_eq_true rfl) (wX4_refuse (by omega) hT  h11) ?_
  obtain rfl := Option.some.inj hf
  exact A_iret (pc := 11) dX4_seeds_11 rfl rfl ⟨rfl, rfl, rfl⟩
def zX4_image (n : Nat) (u : MU) : Option (Int32 × MU) := Option.bind (zX3_copyFrom n u 29 1) (fun q1 => letb (up2 q1 0 3 1) (fun u3 => some ((u3 1 2), u3)))
set_option maxHeartbeats 4000000 in
set_option maxRecDepth 100000 in
theorem wX4_image {G : GG} {T : TT} {n d : Nat} (hd : 2 ≤ d) {q : Int32 × MU} {u : MU} (hT : LAY T) (hf : zX4_image n u = some q) : AW G d mX4_image 0 [.ref 0] [] T u 0 0 (QS T q.1 q.2) := by
  obtain ⟨d, rfl⟩ : ∃ e, d = e + 1 := ⟨d - 1, by omega⟩
  rw [zX4_image] at hf
  refine A_aloadn (pc := 0) dX4_image_0 rfl ?_
  refine A_getR (pc := 1) dX4_image_1 gX4_19 (lay_s hT (k := 0) (q := (6, 9)) rfl) (Nat.le_of_ble_eq_true rfl) rfl (lay_r hT 41 rfl) ?_
  refine A_aloadn (pc := 4) dX4_image_4 rfl ?_
  refine A_getR (pc := 5) dX4_image_5 gX4_10 (lay_s hT (k := 0) (q := (6, 9)) rfl) (Nat.le_of_ble_eq_true rfl) rfl (lay_r hT 13 rfl) ?_
  obtain ⟨q1, h2, hf⟩ := oi_b hf
  refine A_cV1v (mi2 := mX3_copyFrom) (pc := 8) dX4_image_8 lX4_191 fX3_copyFrom vX3_copyFrom (rv_0 (lay_rv29 hT)) rfl (Nat.le_of_ble_eq_true rfl) rfl (Nat.le_of_ble_eq_true rfl) (wX3_copyFrom (by omega) hT (lay_rv29 hT) (lay_rv1 hT) h2) ?_
  refine A_aloadn (pc := 11) dX4_image_11 rfl ?_
  refine A_iconst (pc := 12) 1 dX4_image_12 rfl ?_
  have hf := oi_l hf
  refine A_putI (pc := 13) dX4_image_13 gX4_22 (lay_s hT (k := 0) (q := (6, 9)) rfl) (Nat.le_of_ble_eq_true rfl) rfl rfl rfl rfl ?_
  refine A_aloadn (pc := 16) dX4_image_16 rfl ?_
  refine A_getR (pc := 17) dX4_image_17 gX4_10 (lay_s hT (k := 0) (q := (6, 9)) rfl) (Nat.le_of_ble_eq_true rfl) rfl (lay_r hT 13 rfl) ?_
  refine A_getI (pc := 20) dX4_image_20 gX4_235 (rv_0 (lay_rv1 hT)) (Nat.le_of_ble_eq_true rfl) rfl ?_
  obtain rfl := Option.some.inj hf
  exact A_iret (pc := 23) dX4_image_23 rfl rfl ⟨rfl, rfl, rfl⟩
def zX4_restore (n : Nat) (u : MU) : Option (Int32 × MU) := if (u 0 3) = 0 then (Option.bind (zX4_refuse n u (-3)) (fun q4 => some (q4.1, q4.2))) else (Option.bind (zX3_copyFrom n u 1 29) (fun q2 => some ((q2 1 2), q2)))
set_option maxHeartbeats 4000000 in
set_option maxRecDepth 100000 in
theorem wX4_restore {G : GG} {T : TT} {n d : Nat} (hd : 2 ≤ d) {q : Int32 × MU} {u : MU} (hT : LAY T) (hf : zX4_restore n u = some q) : AW G d mX4_restore 0 [.ref 0] [] T u 0 0 (QS T q.1 q.2) := by
  obtain ⟨d, rfl⟩ : ∃ e, d = e + 1 := ⟨d - 1, by omega⟩
  rw [zX4_restore] at hf
  refine A_aloadn (pc := 0) dX4_restore_0 rfl ?_
  refine A_getI (pc := 1) dX4_restore_1 gX4_22 (lay_s hT (k := 0) (q := (6, 9)) rfl) (Nat.le_of_ble_eq_true rfl) rfl ?_
  refine A_if_ne (pc := 4) (w := 0) 14 dX4_restore_4 (by decide) (fun cc1 => ?_) (fun cc1 => ?_)
  · have hf := oi_f cc1 hf
    refine A_aloadn (pc := 14) dX4_restore_14 rfl ?_
    refine A_getR (pc := 15) dX4_restore_15 gX4_10 (lay_s hT (k := 0) (q := (6, 9)) rfl) (Nat.le_of_ble_eq_true rfl) rfl (lay_r hT 13 rfl) ?_
    refine A_aloadn (pc := 18) dX4_restore_18 rfl ?_
    refine A_getR (pc := 19) dX4_restore_19 gX4_19 (lay_s hT (k := 0) (q := (6, 9)) rfl) (Nat.le_of_ble_eq_true rfl) rfl (lay_r hT 41 rfl) ?_
    obtain ⟨q2, h3, hf⟩ := oi_b hf
    refine A_cV1v (mi2 := mX3_copyFrom) (pc := 22) dX4_restore_22 lX4_191 fX3_copyFrom vX3_copyFrom (rv_0 (lay_rv1 hT)) rfl (Nat.le_of_ble_eq_true rfl) rfl (Nat.le_of_ble_eq_true rfl) (wX3_copyFrom (by omega) hT (lay_rv1 hT) (lay_rv29 hT) h3) ?_
    refine A_aloadn (pc := 25) dX4_restore_25 rfl ?_
    refine A_getR (pc := 26) dX4_restore_26 gX4_10 (lay_s hT (k := 0) (q := (6, 9)) rfl) (Nat.le_of_ble_eq_true rfl) rfl (lay_r hT 13 rfl) ?_
    refine A_getI (pc := 29) dX4_restore_29 gX4_235 (rv_0 (lay_rv1 hT)) (Nat.le_of_ble_eq_true rfl) rfl ?_
    obtain rfl := Option.some.inj hf
    exact A_iret (pc := 32) dX4_restore_32 rfl rfl ⟨rfl, rfl, rfl⟩
  have hf := oi_t cc1 hf
  refine A_aloadn (pc := 7) dX4_restore_7 rfl ?_
  refine A_bipush (pc := 8) (-3) dX4_restore_8 rfl ?_
  obtain ⟨q4, h5, hf⟩ := oi_b hf
  refine A_cV1i (mi2 := mX4_refuse) (pc := 10) dX4_restore_10 lX4_51 fX4_refuse vX4_refuse (lay_s hT (k := 0) (q := (6, 9)) rfl) rfl (Nat.le_of_ble_eq_true rfl) rfl (Nat.le_of_ble_eq_true rfl) (wX4_refuse (by omega) hT  h5) ?_
  obtain rfl := Option.some.inj hf
  exact A_iret (pc := 13) dX4_restore_13 rfl rfl ⟨rfl, rfl, rfl⟩
def zX4_count (n : Nat) (u : MU) (a1 : Int32) : Option (Int32) := if a1 = 0 then (some (u 1 0)) else if a1 = 1 then (some (u 1 3)) else if a1 = 2 then (some (u 1 1)) else if a1 = 3 then (some (u 1 2)) else if a1 = 4 then (Option.bind (zX3_inWater n u 1) (fun q6 => some q6)) else if a1 = 5 then (Option.bind (zX3_overThere n u 1) (fun q9 => some q9)) else if a1 = 6 then (Option.bind (zX3_allGrudges n u 1) (fun q12 => some q12)) else if a1 = 7 then (Option.bind (zX3_allHours n u 1) (fun q15 => some q15)) else if a1 = 8 then (some (u 43 1)) else if a1 = 9 then (some (u 0 7)) else (if a1 < 11 then (some (-9)) else (if 16 < a1 then (some (-9)) else (if oob (a1 - 10) 7 then none else some (u 52 (a1 - 10).toNatClampNeg))))
set_option maxHeartbeats 4000000 in
set_option maxRecDepth 100000 in
theorem wX4_count {G : GG} {T : TT} {n d : Nat} (hd : 2 ≤ d) {q : Int32} {u : MU} {a1 : Int32} (hT : LAY T) (hf : zX4_count n u a1 = some q) : AW G d mX4_count 0 [.ref 0, .int a1] [] T u 0 0 (QS T q u) := by
  obtain ⟨d, rfl⟩ : ∃ e, d = e + 1 := ⟨d - 1, by omega⟩
  rw [zX4_count] at hf
  refine A_iloadn (pc := 0) dX4_count_0 rfl ?_
  by_cases cc1 : a1 = 0
  · have hf := oi_t cc1 hf
    refine A_tabIn (pc := 1) 56 dX4_count_1 (by rw [cc1]; decide) (by rw [cc1]; decide) (off := 55) (by rw [cc1]; decide) (by decide) ?_
    refine A_aloadn (pc := 56) dX4_count_56 rfl ?_
    refine A_getR (pc := 57) dX4_count_57 gX4_10 (lay_s hT (k := 0) (q := (6, 9)) rfl) (Nat.le_of_ble_eq_true rfl) rfl (lay_r hT 13 rfl) ?_
    refine A_getI (pc := 60) dX4_count_60 gX4_149 (rv_0 (lay_rv1 hT)) (Nat.le_of_ble_eq_true rfl) rfl ?_
    obtain rfl := Option.some.inj hf
    exact A_iret (pc := 63) dX4_count_63 rfl rfl ⟨rfl, rfl, rfl⟩
  have hf := oi_f cc1 hf
  by_cases cc2 : a1 = 1
  · have hf := oi_t cc2 hf
    refine A_tabIn (pc := 1) 64 dX4_count_1 (by rw [cc2]; decide) (by rw [cc2]; decide) (off := 63) (by rw [cc2]; decide) (by decide) ?_
    refine A_aloadn (pc := 64) dX4_count_64 rfl ?_
    refine A_getR (pc := 65) dX4_count_65 gX4_10 (lay_s hT (k := 0) (q := (6, 9)) rfl) (Nat.le_of_ble_eq_true rfl) rfl (lay_r hT 13 rfl) ?_
    refine A_getI (pc := 68) dX4_count_68 gX4_146 (rv_0 (lay_rv1 hT)) (Nat.le_of_ble_eq_true rfl) rfl ?_
    obtain rfl := Option.some.inj hf
    exact A_iret (pc := 71) dX4_count_71 rfl rfl ⟨rfl, rfl, rfl⟩
  have hf := oi_f cc2 hf
  by_cases cc3 : a1 = 2
  · have hf := oi_t cc3 hf
    refine A_tabIn (pc := 1) 72 dX4_count_1 (by rw [cc3]; decide) (by rw [cc3]; decide) (off := 71) (by rw [cc3]; decide) (by decide) ?_
    refine A_aloadn (pc := 72) dX4_count_72 rfl ?_
    refine A_getR (pc := 73) dX4_count_73 gX4_10 (lay_s hT (k := 0) (q := (6, 9)) rfl) (Nat.le_of_ble_eq_true rfl) rfl (lay_r hT 13 rfl) ?_
    refine A_getI (pc := 76) dX4_count_76 gX4_109 (rv_0 (lay_rv1 hT)) (Nat.le_of_ble_eq_true rfl) rfl ?_
    obtain rfl := Option.some.inj hf
    exact A_iret (pc := 79) dX4_count_79 rfl rfl ⟨rfl, rfl, rfl⟩
  have hf := oi_f cc3 hf
  by_cases cc4 : a1 = 3
  · have hf := oi_t cc4 hf
    refine A_tabIn (pc := 1) 80 dX4_count_1 (by rw [cc4]; decide) (by rw [cc4]; decide) (off := 79) (by rw [cc4]; decide) (by decide) ?_
    refine A_aloadn (pc := 80) dX4_count_80 rfl ?_
    refine A_getR (pc := 81) dX4_count_81 gX4_10 (lay_s hT (k := 0) (q := (6, 9)) rfl) (Nat.le_of_ble_eq_true rfl) rfl (lay_r hT 13 rfl) ?_
    refine A_getI (pc := 84) dX4_count_84 gX4_235 (rv_0 (lay_rv1 hT)) (Nat.le_of_ble_eq_true rfl) rfl ?_
    obtain rfl := Option.some.inj hf
    exact A_iret (pc := 87) dX4_count_87 rfl rfl ⟨rfl, rfl, rfl⟩
  have hf := oi_f cc4 hf
  by_cases cc5 : a1 = 4
  · have hf := oi_t cc5 hf
    refine A_tabIn (pc := 1) 88 dX4_count_1 (by rw [cc5]; decide) (by rw [cc5]; decide) (off := 87) (by rw [cc5]; decide) (by decide) ?_
    refine A_aloadn (pc := 88) dX4_count_88 rfl ?_
    refine A_getR (pc := 89) dX4_count_89 gX4_10 (lay_s hT (k := 0) (q := (6, 9)) rfl) (Nat.le_of_ble_eq_true rfl) rfl (lay_r hT 13 rfl) ?_
    obtain ⟨q6, h7, hf⟩ := oi_b hf
    refine A_cV0i (mi2 := mX3_inWater) (pc := 92) dX4_count_92 lX4_137 fX3_inWater vX3_inWater (rv_0 (lay_rv1 hT)) rfl (Nat.le_of_ble_eq_true rfl) rfl (Nat.le_of_ble_eq_true rfl) (wX3_inWater (by omega) hT (lay_rv1 hT) h7) ?_
    obtain rfl := Option.some.inj hf
    exact A_iret (pc := 95) dX4_count_95 rfl rfl ⟨rfl, rfl, rfl⟩
  have hf := oi_f cc5 hf
  by_cases cc8 : a1 = 5
  · have hf := oi_t cc8 hf
    refine A_tabIn (pc := 1) 96 dX4_count_1 (by rw [cc8]; decide) (by rw [cc8]; decide) (off := 95) (by rw [cc8]; decide) (by decide) ?_
    refine A_aloadn (pc := 96) dX4_count_96 rfl ?_
    refine A_getR (pc := 97) dX4_count_97 gX4_10 (lay_s hT (k := 0) (q := (6, 9)) rfl) (Nat.le_of_ble_eq_true rfl) rfl (lay_r hT 13 rfl) ?_
    obtain ⟨q9, h10, hf⟩ := oi_b hf
    refine A_cV0i (mi2 := mX3_overThere) (pc := 100) dX4_count_100 lX4_140 fX3_overThere vX3_overThere (rv_0 (lay_rv1 hT)) rfl (Nat.le_of_ble_eq_true rfl) rfl (Nat.le_of_ble_eq_true rfl) (wX3_overThere (by omega) hT (lay_rv1 hT) h10) ?_
    obtain rfl := Option.some.inj hf
    exact A_iret (pc := 103) dX4_count_103 rfl rfl ⟨rfl, rfl, rfl⟩
  have hf := oi_f cc8 hf
  by_cases cc11 : a1 = 6
  · have hf := oi_t cc11 hf
    refine A_tabIn (pc := 1) 104 dX4_count_1 (by rw [cc11]; decide) (by rw [cc11]; decide) (off := 103) (by rw [cc11]; decide) (by decide) ?_
    refine A_aloadn (pc := 104) dX4_count_104 rfl ?_
    refine A_getR (pc := 105) dX4_count_105 gX4_10 (lay_s hT (k := 0) (q := (6, 9)) rfl) (Nat.le_of_ble_eq_true rfl) rfl (lay_r hT 13 rfl) ?_
    obtain ⟨q12, h13, hf⟩ := oi_b hf
    refine A_cV0i (mi2 := mX3_allGrudges) (pc := 108) dX4_count_108 lX4_238 fX3_allGrudges vX3_allGrudges (rv_0 (lay_rv1 hT)) rfl (Nat.le_of_ble_eq_true rfl) rfl (Nat.le_of_ble_eq_true rfl) (wX3_allGrudges (by omega) hT (lay_rv1 hT) h13) ?_
    obtain rfl := Option.some.inj hf
    exact A_iret (pc := 111) dX4_count_111 rfl rfl ⟨rfl, rfl, rfl⟩
  have hf := oi_f cc11 hf
  by_cases cc14 : a1 = 7
  · have hf := oi_t cc14 hf
    refine A_tabIn (pc := 1) 112 dX4_count_1 (by rw [cc14]; decide) (by rw [cc14]; decide) (off := 111) (by rw [cc14]; decide) (by decide) ?_
    refine A_aloadn (pc := 112) dX4_count_112 rfl ?_
    refine A_getR (pc := 113) dX4_count_113 gX4_10 (lay_s hT (k := 0) (q := (6, 9)) rfl) (Nat.le_of_ble_eq_true rfl) rfl (lay_r hT 13 rfl) ?_
    obtain ⟨q15, h16, hf⟩ := oi_b hf
    refine A_cV0i (mi2 := mX3_allHours) (pc := 116) dX4_count_116 lX4_241 fX3_allHours vX3_allHours (rv_0 (lay_rv1 hT)) rfl (Nat.le_of_ble_eq_true rfl) rfl (Nat.le_of_ble_eq_true rfl) (wX3_allHours (by omega) hT (lay_rv1 hT) h16) ?_
    obtain rfl := Option.some.inj hf
    exact A_iret (pc := 119) dX4_count_119 rfl rfl ⟨rfl, rfl, rfl⟩
  have hf := oi_f cc14 hf
  by_cases cc17 : a1 = 8
  · have hf := oi_t cc17 hf
    refine A_tabIn (pc := 1) 120 dX4_count_1 (by rw [cc17]; decide) (by rw [cc17]; decide) (off := 119) (by rw [cc17]; decide) (by decide) ?_
    refine A_aloadn (pc := 120) dX4_count_120 rfl ?_
    refine A_getR (pc := 121) dX4_count_121 gX4_29 (lay_s hT (k := 0) (q := (6, 9)) rfl) (Nat.le_of_ble_eq_true rfl) rfl (lay_r hT 43 rfl) ?_
    refine A_getI (pc := 124) dX4_count_124 gX4_55 (lay_s hT (k := 43) (q := (2, 2)) rfl) (Nat.le_of_ble_eq_true rfl) rfl ?_
    obtain rfl := Option.some.inj hf
    exact A_iret (pc := 127) dX4_count_127 rfl rfl ⟨rfl, rfl, rfl⟩
  have hf := oi_f cc17 hf
  by_cases cc18 : a1 = 9
  · have hf := oi_t cc18 hf
    refine A_tabIn (pc := 1) 128 dX4_count_1 (by rw [cc18]; decide) (by rw [cc18]; decide) (off := 127) (by rw [cc18]; decide) (by decide) ?_
    refine A_aloadn (pc := 128) dX4_count_128 rfl ?_
    refine A_getI (pc := 129) dX4_count_129 gX4_44 (lay_s hT (k := 0) (q := (6, 9)) rfl) (Nat.le_of_ble_eq_true rfl) rfl ?_
    obtain rfl := Option.some.inj hf
    exact A_iret (pc := 132) dX4_count_132 rfl rfl ⟨rfl, rfl, rfl⟩
  have hf := oi_f cc18 hf
  have ecc1 : a1.toInt ≠ 0 := fun h9 => cc1 (Int32.toInt_inj.mp (h9.trans (by decide : (0 : Int) = (0 : Int32).toInt)))
  have ecc2 : a1.toInt ≠ 1 := fun h9 => cc2 (Int32.toInt_inj.mp (h9.trans (by decide : (1 : Int) = (1 : Int32).toInt)))
  have ecc3 : a1.toInt ≠ 2 := fun h9 => cc3 (Int32.toInt_inj.mp (h9.trans (by decide : (2 : Int) = (2 : Int32).toInt)))
  have ecc4 : a1.toInt ≠ 3 := fun h9 => cc4 (Int32.toInt_inj.mp (h9.trans (by decide : (3 : Int) = (3 : Int32).toInt)))
  have ecc5 : a1.toInt ≠ 4 := fun h9 => cc5 (Int32.toInt_inj.mp (h9.trans (by decide : (4 : Int) = (4 : Int32).toInt)))
  have ecc8 : a1.toInt ≠ 5 := fun h9 => cc8 (Int32.toInt_inj.mp (h9.trans (by decide : (5 : Int) = (5 : Int32).toInt)))
  have ecc11 : a1.toInt ≠ 6 := fun h9 => cc11 (Int32.toInt_inj.mp (h9.trans (by decide : (6 : Int) = (6 : Int32).toInt)))
  have ecc14 : a1.toInt ≠ 7 := fun h9 => cc14 (Int32.toInt_inj.mp (h9.trans (by decide : (7 : Int) = (7 : Int32).toInt)))
  have ecc17 : a1.toInt ≠ 8 := fun h9 => cc17 (Int32.toInt_inj.mp (h9.trans (by decide : (8 : Int) = (8 : Int32).toInt)))
  have ecc18 : a1.toInt ≠ 9 := fun h9 => cc18 (Int32.toInt_inj.mp (h9.trans (by decide : (9 : Int) = (9 : Int32).toInt)))
  refine A_tabOut (pc := 1) 133 dX4_count_1 (by omega) (by decide) ?_
  refine A_iloadn (pc := 133) dX4_count_133 rfl ?_
  refine A_bipush (pc := 134) 11 dX4_count_134 rfl ?_
  refine A_icmp_lt (pc := 136) 157 dX4_count_136 (by decide) (fun cc19 => ?_) (fun cc19 => ?_)
  · have hf := oi_t cc19 hf
    refine A_bipush (pc := 157) (-9) dX4_count_157 rfl ?_
    obtain rfl := Option.some.inj hf
    exact A_iret (pc := 159) dX4_count_159 rfl rfl ⟨rfl, rfl, rfl⟩
  have hf := oi_f cc19 hf
  refine A_iloadn (pc := 139) dX4_count_139 rfl ?_
  refine A_bipush (pc := 140) 16 dX4_count_140 rfl ?_
  refine A_icmp_gt (pc := 142) 157 dX4_count_142 (by decide) (fun cc20 => ?_) (fun cc20 => ?_)
  · have hf := oi_t cc20 hf
    refine A_bipush (pc := 157) (-9) dX4_count_157 rfl ?_
    obtain rfl := Option.some.inj hf
    exact A_iret (pc := 159) dX4_count_159 rfl rfl ⟨rfl, rfl, rfl⟩
  have hf := oi_f cc20 hf
  refine A_aloadn (pc := 145) dX4_count_145 rfl ?_
  refine A_getR (pc := 146) dX4_count_146 gX4_48 (lay_s hT (k := 0) (q := (6, 9)) rfl) (Nat.le_of_ble_eq_true rfl) rfl (lay_r hT 51 rfl) ?_
  refine A_iloadn (pc := 149) dX4_count_149 rfl ?_
  refine A_bipush (pc := 150) 10 dX4_count_150 rfl ?_
  refine A_isub (pc := 152) dX4_count_152 ?_
  obtain ⟨h21, hf⟩ := oi_cf hf
  refine A_iald (pc := 153) dX4_count_153 (lay_s hT (k := 52) (q := (0, 7)) rfl) (oob_f h21) ?_
  refine A_goto (pc := 154) 159 dX4_count_154 (by decide) ?_
  obtain rfl := Option.some.inj hf
  exact A_iret (pc := 159) dX4_count_159 rfl rfl ⟨rfl, rfl, rfl⟩
