def zX5_overs (n : Nat) (u : MU) : Option (Int32 × MU) := Option.bind (zX5_doesStand n u) (fun q1 => if q1.1 = 0 then (some (0, q1.2)) else (Option.bind (zX5_lastsNow n q1.2) (fun q4 => Option.bind (zX5_overMany n q1.2) (fun q6 => Option.bind (zX5_least n q1.2 q4 (((q1.2 53 13) - q6) - (q1.2 53 12))) (fun q8 => some (q8, q1.2))))))
set_option maxHeartbeats 4000000 in
set_option maxRecDepth 100000 in
theorem wX5_overs {G : GG} {T : TT} {n d : Nat} (hd : 6 ≤ d) {q : Int32 × MU} {u : MU} (hT : LAY T) (hf : zX5_overs n u = some q) : AW G d mX5_overs 0 [.ref 53] [] T u 0 0 (QS T q.1 q.2) := by
  obtain ⟨d, rfl⟩ : ∃ e, d = e + 1 := ⟨d - 1, by omega⟩
  rw [zX5_overs] at hf
  refine A_aloadn (pc := 0) dX5_overs_0 rfl ?_
  obtain ⟨q1, h2, hf⟩ := oi_b hf
  refine A_cV0i (mi2 := mX5_doesStand) (pc := 1) dX5_overs_1 lX5_207 fX5_doesStand vX5_doesStand (lay_s hT (k := 53) (q := (7, 35)) rfl) rfl (Nat.le_of_ble_eq_true rfl) rfl (Nat.le_of_ble_eq_true rfl) (wX5_doesStand (by omega) hT  h2) ?_
  refine A_if_eq (pc := 4) (w := 0) 31 dX5_overs_4 (by decide) (fun cc3 => ?_) (fun cc3 => ?_)
  · have hf := oi_t cc3 hf
    refine A_iconst (pc := 31) 0 dX5_overs_31 rfl ?_
    obtain rfl := Option.some.inj hf
    exact A_iret (pc := 32) dX5_overs_32 rfl rfl ⟨rfl, rfl, rfl⟩
  have hf := oi_f cc3 hf
  refine A_aloadn (pc := 7) dX5_overs_7 rfl ?_
  obtain ⟨q4, h5, hf⟩ := oi_b hf
  refine A_cV0i (mi2 := mX5_lastsNow) (pc := 8) dX5_overs_8 lX5_210 fX5_lastsNow vX5_lastsNow (lay_s hT (k := 53) (q := (7, 35)) rfl) rfl (Nat.le_of_ble_eq_true rfl) rfl (Nat.le_of_ble_eq_true rfl) (wX5_lastsNow (by omega) hT  h5) ?_
  refine A_aloadn (pc := 11) dX5_overs_11 rfl ?_
  refine A_getI (pc := 12) dX5_overs_12 gX5_78 (lay_s hT (k := 53) (q := (7, 35)) rfl) (Nat.le_of_ble_eq_true rfl) rfl ?_
  refine A_aloadn (pc := 15) dX5_overs_15 rfl ?_
  obtain ⟨q6, h7, hf⟩ := oi_b hf
  refine A_cV0i (mi2 := mX5_overMany) (pc := 16) dX5_overs_16 lX5_179 fX5_overMany vX5_overMany (lay_s hT (k := 53) (q := (7, 35)) rfl) rfl (Nat.le_of_ble_eq_true rfl) rfl (Nat.le_of_ble_eq_true rfl) (wX5_overMany (by omega) hT  h7) ?_
  refine A_isub (pc := 19) dX5_overs_19 ?_
  refine A_aloadn (pc := 20) dX5_overs_20 rfl ?_
  refine A_getI (pc := 21) dX5_overs_21 gX5_46 (lay_s hT (k := 53) (q := (7, 35)) rfl) (Nat.le_of_ble_eq_true rfl) rfl ?_
  refine A_isub (pc := 24) dX5_overs_24 ?_
  obtain ⟨q8, h9, hf⟩ := oi_b hf
  refine A_cS2i (mi2 := mX5_least) (pc := 25) dX5_overs_25 lX5_182 fX5_least sX5_least (Nat.le_of_ble_eq_true rfl) rfl (Nat.le_of_ble_eq_true rfl) (wX5_least (by omega) hT  h9) ?_
  refine A_goto (pc := 28) 32 dX5_overs_28 (by decide) ?_
  obtain rfl := Option.some.inj hf
  exact A_iret (pc := 32) dX5_overs_32 rfl rfl ⟨rfl, rfl, rfl⟩
def zX5_owes (n : Nat) (u : MU) (a1 : Int32) (a2 : Int32) : Option (Int32 × MU) := Option.bind (zX5_areTwo n u a1 a2) (fun q1 => if q1 = 0 then (Option.bind (zX5_no n u (-1)) (fun q4 => some (q4.1, q4.2))) else (if oob ((7 * a1) + a2) 49 then none else some ((u 65 ((7 * a1) + a2).toNatClampNeg), u)))
set_option maxHeartbeats 4000000 in
set_option maxRecDepth 100000 in
theorem wX5_owes {G : GG} {T : TT} {n d : Nat} (hd : 2 ≤ d) {q : Int32 × MU} {u : MU} {a1 : Int32} {a2 : Int32} (hT : LAY T) (hf : zX5_owes n u a1 a2 = some q) : AW G d mX5_owes 0 [.ref 53, .int a1, .int a2] [] T u 0 0 (QS T q.1 q.2) := by
  obtain ⟨d, rfl⟩ : ∃ e, d = e + 1 := ⟨d - 1, by omega⟩
  rw [zX5_owes] at hf
  refine A_aloadn (pc := 0) dX5_owes_0 rfl ?_
  refine A_iloadn (pc := 1) dX5_owes_1 rfl ?_
  refine A_iloadn (pc := 2) dX5_owes_2 rfl ?_
  obtain ⟨q1, h2, hf⟩ := oi_b hf
  refine A_cV2i (mi2 := mX5_areTwo) (pc := 3) dX5_owes_3 lX5_129 fX5_areTwo vX5_areTwo (lay_s hT (k := 53) (q := (7, 35)) rfl) rfl (Nat.le_of_ble_eq_true rfl) rfl (Nat.le_of_ble_eq_true rfl) (wX5_areTwo (by omega) hT  h2) ?_
  refine A_if_eq (pc := 6) (w := 0) 23 dX5_owes_6 (by decide) (fun cc3 => ?_) (fun cc3 => ?_)
  · have hf := oi_t cc3 hf
    refine A_aloadn (pc := 23) dX5_owes_23 rfl ?_
    refine A_iconst (pc := 24) (-1) dX5_owes_24 rfl ?_
    obtain ⟨q4, h5, hf⟩ := oi_b hf
    refine A_cV1i (mi2 := mX5_no) (pc := 25) dX5_owes_25 lX5_92 fX5_no vX5_no (lay_s hT (k := 53) (q := (7, 35)) rfl) rfl (Nat.le_of_ble_eq_true rfl) rfl (Nat.le_of_ble_eq_true rfl) (wX5_no (by omega) hT  h5) ?_
    obtain rfl := Option.some.inj hf
    exact A_iret (pc := 28) dX5_owes_28 rfl rfl ⟨rfl, rfl, rfl⟩
  have hf := oi_f cc3 hf
  refine A_aloadn (pc := 9) dX5_owes_9 rfl ?_
  refine A_getR (pc := 10) dX5_owes_10 gX5_43 (lay_s hT (k := 53) (q := (7, 35)) rfl) (Nat.le_of_ble_eq_true rfl) rfl (lay_r hT 63 rfl) ?_
  refine A_bipush (pc := 13) 7 dX5_owes_13 rfl ?_
  refine A_iloadn (pc := 15) dX5_owes_15 rfl ?_
  refine A_imul (pc := 16) dX5_owes_16 ?_
  refine A_iloadn (pc := 17) dX5_owes_17 rfl ?_
  refine A_iadd (pc := 18) dX5_owes_18 ?_
  obtain ⟨h6, hf⟩ := oi_cf hf
  refine A_iald (pc := 19) dX5_owes_19 (lay_s hT (k := 65) (q := (0, 49)) rfl) (oob_f h6) ?_
  refine A_goto (pc := 20) 28 dX5_owes_20 (by decide) ?_
  obtain rfl := Option.some.inj hf
  exact A_iret (pc := 28) dX5_owes_28 rfl rfl ⟨rfl, rfl, rfl⟩
def zX5_owed_L18 (n : Nat) (u : MU) (s1 : Int32) (k : Int32 → Int32 → Option (Int32 × MU)) : Nat → Int32 → Int32 → Option (Int32 × MU)
  | 0, _, _ => none
  | m + 1, t2, t3 => if (u 53 13) ≤ t3 then (k t2 t3) else (if oob ((7 * t3) + s1) 49 then none else if oob ((7 * s1) + t3) 49 then none else letb (t2 + ((u 65 ((7 * t3) + s1).toNatClampNeg) - (u 65 ((7 * s1) + t3).toNatClampNeg))) (fun x7 => zX5_owed_L18 n u  s1 k m x7 (t3 + 1)))
def zX5_owed (n : Nat) (u : MU) (a1 : Int32) : Option (Int32 × MU) := Option.bind (zX5_isOne n u a1) (fun q1 => if q1 = 0 then (Option.bind (zX5_lower n u (-1)) (fun q10 => some (q10.1, q10.2))) else (zX5_owed_L18 n u  a1 (fun y8 y9 => some (y8, u)) n 0 0))
set_option maxHeartbeats 4000000 in
set_option maxRecDepth 100000 in
theorem wX5_owed_L18 {G : GG} {T : TT} {n d : Nat} (hd : 1 ≤ d) {u : MU} {s1 : Int32} {k : Int32 → Int32 → Option (Int32 × MU)} (hT : LAY T) (hk : ∀ (t2 : Int32) (t3 : Int32) (q : Int32 × MU), k t2 t3 = some q → AW G d mX5_owed 58 [.ref 53, .int s1, .int t2, .int t3] [] T u 0 0 (QS T q.1 q.2)) : ∀ (m : Nat) (t2 : Int32) (t3 : Int32) (q : Int32 × MU), zX5_owed_L18 n u  s1 k m t2 t3 = some q → AW G d mX5_owed 18 [.ref 53, .int s1, .int t2, .int t3] [] T u 0 0 (QS T q.1 q.2) := by
  intro m
  obtain ⟨d, rfl⟩ : ∃ e, d = e + 1 := ⟨d - 1, by omega⟩
  induction m with
  | zero =>
    intro t2 t3 q hf
    have h0 : (none : Option (Int32 × MU)) = some q := hf
    cases h0
  | succ m ih =>
    intro t2 t3 q hf
    rw [zX5_owed_L18] at hf
    refine A_iloadn (pc := 18) dX5_owed_18 rfl ?_
    refine A_aloadn (pc := 19) dX5_owed_19 rfl ?_
    refine A_getI (pc := 20) dX5_owed_20 gX5_78 (lay_s hT (k := 53) (q := (7, 35)) rfl) (Nat.le_of_ble_eq_true rfl) rfl ?_
    refine A_icmp_ge (pc := 23) 58 dX5_owed_23 (by decide) (fun cc4 => ?_) (fun cc4 => ?_)
    · have hf := oi_t cc4 hf
      exact hk _ _ _ hf
    have hf := oi_f cc4 hf
    refine A_iloadn (pc := 26) dX5_owed_26 rfl ?_
    refine A_aloadn (pc := 27) dX5_owed_27 rfl ?_
    refine A_getR (pc := 28) dX5_owed_28 gX5_43 (lay_s hT (k := 53) (q := (7, 35)) rfl) (Nat.le_of_ble_eq_true rfl) rfl (lay_r hT 63 rfl) ?_
    refine A_bipush (pc := 31) 7 dX5_owed_31 rfl ?_
    refine A_iloadn (pc := 33) dX5_owed_33 rfl ?_
    refine A_imul (pc := 34) dX5_owed_34 ?_
    refine A_iloadn (pc := 35) dX5_owed_35 rfl ?_
    refine A_iadd (pc := 36) dX5_owed_36 ?_
    obtain ⟨h5, hf⟩ := oi_cf hf
    refine A_iald (pc := 37) dX5_owed_37 (lay_s hT (k := 65) (q := (0, 49)) rfl) (oob_f h5) ?_
    refine A_aloadn (pc := 38) dX5_owed_38 rfl ?_
    refine A_getR (pc := 39) dX5_owed_39 gX5_43 (lay_s hT (k := 53) (q := (7, 35)) rfl) (Nat.le_of_ble_eq_true rfl) rfl (lay_r hT 63 rfl) ?_
    refine A_bipush (pc := 42) 7 dX5_owed_42 rfl ?_
    refine A_iloadn (pc := 44) dX5_owed_44 rfl ?_
    refine A_imul (pc := 45) dX5_owed_45 ?_
    refine A_iloadn (pc := 46) dX5_owed_46 rfl ?_
    refine A_iadd (pc := 47) dX5_owed_47 ?_
    obtain ⟨h6, hf⟩ := oi_cf hf
    refine A_iald (pc := 48) dX5_owed_48 (lay_s hT (k := 65) (q := (0, 49)) rfl) (oob_f h6) ?_
    refine A_isub (pc := 49) dX5_owed_49 ?_
    refine A_iadd (pc := 50) dX5_owed_50 ?_
    have hf := oi_l hf
    refine A_istn (pc := 51) (L2 := [.ref 53, .int s1, .int (t2 + ((u 65 ((7 * t3) + s1).toNatClampNeg) - (u 65 ((7 * s1) + t3).toNatClampNeg))), .int t3]) dX5_owed_51 (Nat.le_of_ble_eq_true rfl) rfl ?_
    refine A_inc (pc := 52) (L2 := [.ref 53, .int s1, .int (t2 + ((u 65 ((7 * t3) + s1).toNatClampNeg) - (u 65 ((7 * s1) + t3).toNatClampNeg))), .int (t3 + 1)]) (t3 + 1) dX5_owed_52 rfl rfl rfl ?_
    refine A_goto (pc := 55) 18 dX5_owed_55 (by decide) ?_
    exact ih _ _ _ hf
set_option maxHeartbeats 4000000 in
set_option maxRecDepth 100000 in
theorem wX5_owed {G : GG} {T : TT} {n d : Nat} (hd : 1 ≤ d) {q : Int32 × MU} {u : MU} {a1 : Int32} (hT : LAY T) (hf : zX5_owed n u a1 = some q) : AW G d mX5_owed 0 [.ref 53, .int a1, .null, .null] [] T u 0 0 (QS T q.1 q.2) := by
  obtain ⟨d, rfl⟩ : ∃ e, d = e + 1 := ⟨d - 1, by omega⟩
  rw [zX5_owed] at hf
  refine A_aloadn (pc := 0) dX5_owed_0 rfl ?_
  refine A_iloadn (pc := 1) dX5_owed_1 rfl ?_
  obtain ⟨q1, h2, hf⟩ := oi_b hf
  refine A_cV1i (mi2 := mX5_isOne) (pc := 2) dX5_owed_2 lX5_81 fX5_isOne vX5_isOne (lay_s hT (k := 53) (q := (7, 35)) rfl) rfl (Nat.le_of_ble_eq_true rfl) rfl (Nat.le_of_ble_eq_true rfl) (wX5_isOne (by omega) hT  h2) ?_
  refine A_if_ne (pc := 5) (w := 0) 14 dX5_owed_5 (by decide) (fun cc3 => ?_) (fun cc3 => ?_)
  · have hf := oi_f cc3 hf
    refine A_iconst (pc := 14) 0 dX5_owed_14 rfl ?_
    refine A_istn (pc := 15) (L2 := [.ref 53, .int a1, .int 0, .null]) dX5_owed_15 (Nat.le_of_ble_eq_true rfl) rfl ?_
    refine A_iconst (pc := 16) 0 dX5_owed_16 rfl ?_
    refine A_istn (pc := 17) (L2 := [.ref 53, .int a1, .int 0, .int 0]) dX5_owed_17 (Nat.le_of_ble_eq_true rfl) rfl ?_
    exact wX5_owed_L18 (by omega) hT  (fun y8 y9 q0 hf => by
      refine A_iloadn (pc := 58) dX5_owed_58 rfl ?_
      obtain rfl := Option.some.inj hf
      exact A_iret (pc := 59) dX5_owed_59 rfl rfl ⟨rfl, rfl, rfl⟩) _ _ _ _ hf
  have hf := oi_t cc3 hf
  refine A_aloadn (pc := 8) dX5_owed_8 rfl ?_
  refine A_iconst (pc := 9) (-1) dX5_owed_9 rfl ?_
  obtain ⟨q10, h11, hf⟩ := oi_b hf
  refine A_cV1i (mi2 := mX5_lower) (pc := 10) dX5_owed_10 lX5_240 fX5_lower vX5_lower (lay_s hT (k := 53) (q := (7, 35)) rfl) rfl (Nat.le_of_ble_eq_true rfl) rfl (Nat.le_of_ble_eq_true rfl) (wX5_lower (by omega) hT  h11) ?_
  obtain rfl := Option.some.inj hf
  exact A_iret (pc := 13) dX5_owed_13 rfl rfl ⟨rfl, rfl, rfl⟩
def zX5_doesOwe (n : Nat) (u : MU) (a1 : Int32) (a2 : Int32) : Option (Int32) := if oob ((7 * a1) + a2) 49 then none else if (u 65 ((7 * a1) + a2).toNatClampNeg) ≤ 0 then (some 0) else (some 1)
set_option maxHeartbeats 4000000 in
set_option maxRecDepth 100000 in
theorem wX5_doesOwe {G : GG} {T : TT} {n d : Nat} (hd : 0 ≤ d) {q : Int32} {u : MU} {a1 : Int32} {a2 : Int32} (hT : LAY T) (hf : zX5_doesOwe n u a1 a2 = some q) : AW G d mX5_doesOwe 0 [.ref 53, .int a1, .int a2] [] T u 0 0 (QS T q u) := by
  rw [zX5_doesOwe] at hf
  refine A_aloadn (pc := 0) dX5_doesOwe_0 rfl ?_
  refine A_getR (pc := 1) dX5_doesOwe_1 gX5_43 (lay_s hT (k := 53) (q := (7, 35)) rfl) (Nat.le_of_ble_eq_true rfl) rfl (lay_r hT 63 rfl) ?_
  refine A_bipush (pc := 4) 7 dX5_doesOwe_4 rfl ?_
  refine A_iloadn (pc := 6) dX5_doesOwe_6 rfl ?_
  refine A_imul (pc := 7) dX5_doesOwe_7 ?_
  refine A_iloadn (pc := 8) dX5_doesOwe_8 rfl ?_
  refine A_iadd (pc := 9) dX5_doesOwe_9 ?_
  obtain ⟨h1, hf⟩ := oi_cf hf
  refine A_iald (pc := 10) dX5_doesOwe_10 (lay_s hT (k := 65) (q := (0, 49)) rfl) (oob_f h1) ?_
  refine A_if_le (pc := 11) (w := 0) 18 dX5_doesOwe_11 (by decide) (fun cc2 => ?_) (fun cc2 => ?_)
  · have hf := oi_t cc2 hf
    refine A_iconst (pc := 18) 0 dX5_doesOwe_18 rfl ?_
    obtain rfl := Option.some.inj hf
    exact A_iret (pc := 19) dX5_doesOwe_19 rfl rfl ⟨rfl, rfl, rfl⟩
  have hf := oi_f cc2 hf
  refine A_iconst (pc := 14) 1 dX5_doesOwe_14 rfl ?_
  refine A_goto (pc := 15) 19 dX5_doesOwe_15 (by decide) ?_
  obtain rfl := Option.some.inj hf
  exact A_iret (pc := 19) dX5_doesOwe_19 rfl rfl ⟨rfl, rfl, rfl⟩
def zX5_strikesTwo_L14 (n : Nat) (s1 : Int32) (k : Int32 → MU → Option (Int32 × MU)) : Nat → Int32 → MU → Option (Int32 × MU)
  | 0, _, _ => none
  | m + 1, t2, u => if (u 53 13) ≤ t2 then (k t2 u) else (Option.bind (zX5_doesOwe n u s1 t2) (fun q4 => if q4 = 0 then (zX5_strikesTwo_L14 n  s1 k m (t2 + 1) u) else (Option.bind (zX5_doesOwe n u t2 s1) (fun q7 => if q7 = 0 then (zX5_strikesTwo_L14 n  s1 k m (t2 + 1) u) else (if oob ((7 * s1) + t2) 49 then none else if oob ((7 * t2) + s1) 49 then none else Option.bind (zX5_least n u (u 65 ((7 * s1) + t2).toNatClampNeg) (u 65 ((7 * t2) + s1).toNatClampNeg)) (fun q12 => if oob ((7 * s1) + t2) 49 then none else if oob ((7 * s1) + t2) 49 then none else letb (up2 u 65 ((7 * s1) + t2).toNatClampNeg ((u 65 ((7 * s1) + t2).toNatClampNeg) - q12)) (fun u16 => if oob ((7 * t2) + s1) 49 then none else if oob ((7 * t2) + s1) 49 then none else letb (up2 u16 65 ((7 * t2) + s1).toNatClampNeg ((u16 65 ((7 * t2) + s1).toNatClampNeg) - q12)) (fun u19 => some (1, u19)))))))))
def zX5_strikesTwo_L2 (n : Nat) (k : Int32 → MU → Option (Int32 × MU)) : Nat → Int32 → MU → Option (Int32 × MU)
  | 0, _, _ => none
  | m + 1, t1, u => if (u 53 13) ≤ t1 then (k t1 u) else (letb (t1 + 1) (fun x2 => zX5_strikesTwo_L14 n  t1 (fun y20 w21 => zX5_strikesTwo_L2 n   k m (t1 + 1) w21) n x2 u))
def zX5_strikesTwo (n : Nat) (u : MU) : Option (Int32 × MU) := zX5_strikesTwo_L2 n   (fun y22 w23 => some (0, w23)) n 0 u
set_option maxHeartbeats 4000000 in
set_option maxRecDepth 100000 in
theorem wX5_strikesTwo_L14 {G : GG} {T : TT} {n d : Nat} (hd : 1 ≤ d) {s1 : Int32} {k : Int32 → MU → Option (Int32 × MU)} (hT : LAY T) (hk : ∀ (t2 : Int32) (u : MU) (q : Int32 × MU), k t2 u = some q → AW G d mX5_strikesTwo 107 [.ref 53, .int s1, .int t2, .null] [] T u 0 0 (QS T q.1 q.2)) : ∀ (m : Nat) (t2 : Int32) (u : MU) (q : Int32 × MU), zX5_strikesTwo_L14 n  s1 k m t2 u = some q → AW G d mX5_strikesTwo 14 [.ref 53, .int s1, .int t2, .null] [] T u 0 0 (QS T q.1 q.2) := by
  intro m
  obtain ⟨d, rfl⟩ : ∃ e, d = e + 1 := ⟨d - 1, by omega⟩
  induction m with
  | zero =>
    intro t2 u q hf
    have h0 : (none : Option (Int32 × MU)) = some q := hf
    cases h0
  | succ m ih =>
    intro t2 u q hf
    rw [zX5_strikesTwo_L14] at hf
    refine A_iloadn (pc := 14) dX5_strikesTwo_14 rfl ?_
    refine A_aloadn (pc := 15) dX5_strikesTwo_15 rfl ?_
    refine A_getI (pc := 16) dX5_strikesTwo_16 gX5_78 (lay_s hT (k := 53) (q := (7, 35)) rfl) (Nat.le_of_ble_eq_true rfl) rfl ?_
    refine A_icmp_ge (pc := 19) 107 dX5_strikesTwo_19 (by decide) (fun cc3 => ?_) (fun cc3 => ?_)
    · have hf := oi_t cc3 hf
      exact hk _ _ _ hf
    have hf := oi_f cc3 hf
    refine A_aloadn (pc := 22) dX5_strikesTwo_22 rfl ?_
    refine A_iloadn (pc := 23) dX5_strikesTwo_23 rfl ?_
    refine A_iloadn (pc := 24) dX5_strikesTwo_24 rfl ?_
    obtain ⟨q4, h5, hf⟩ := oi_b hf
    refine A_cV2i (mi2 := mX5_doesOwe) (pc := 25) dX5_strikesTwo_25 lX5_243 fX5_doesOwe vX5_doesOwe (lay_s hT (k := 53) (q := (7, 35)) rfl) rfl (Nat.le_of_ble_eq_true rfl) rfl (Nat.le_of_ble_eq_true rfl) (wX5_doesOwe (by omega) hT  h5) ?_
    refine A_if_eq (pc := 28) (w := 0) 101 dX5_strikesTwo_28 (by decide) (fun cc6 => ?_) (fun cc6 => ?_)
    · have hf := oi_t cc6 hf
      refine A_inc (pc := 101) (L2 := [.ref 53, .int s1, .int (t2 + 1), .null]) (t2 + 1) dX5_strikesTwo_101 rfl rfl rfl ?_
      refine A_goto (pc := 104) 14 dX5_strikesTwo_104 (by decide) ?_
      exact ih _ _ _ hf
    have hf := oi_f cc6 hf
    refine A_aloadn (pc := 31) dX5_strikesTwo_31 rfl ?_
    refine A_iloadn (pc := 32) dX5_strikesTwo_32 rfl ?_
    refine A_iloadn (pc := 33) dX5_strikesTwo_33 rfl ?_
    obtain ⟨q7, h8, hf⟩ := oi_b hf
    refine A_cV2i (mi2 := mX5_doesOwe) (pc := 34) dX5_strikesTwo_34 lX5_243 fX5_doesOwe vX5_doesOwe (lay_s hT (k := 53) (q := (7, 35)) rfl) rfl (Nat.le_of_ble_eq_true rfl) rfl (Nat.le_of_ble_eq_true rfl) (wX5_doesOwe (by omega) hT  h8) ?_
    refine A_if_ne (pc := 37) (w := 0) 43 dX5_strikesTwo_37 (by decide) (fun cc9 => ?_) (fun cc9 => ?_)
    · have hf := oi_f cc9 hf
      refine A_aloadn (pc := 43) dX5_strikesTwo_43 rfl ?_
      refine A_getR (pc := 44) dX5_strikesTwo_44 gX5_43 (lay_s hT (k := 53) (q := (7, 35)) rfl) (Nat.le_of_ble_eq_true rfl) rfl (lay_r hT 63 rfl) ?_
      refine A_bipush (pc := 47) 7 dX5_strikesTwo_47 rfl ?_
      refine A_iloadn (pc := 49) dX5_strikesTwo_49 rfl ?_
      refine A_imul (pc := 50) dX5_strikesTwo_50 ?_
      refine A_iloadn (pc := 51) dX5_strikesTwo_51 rfl ?_
      refine A_iadd (pc := 52) dX5_strikesTwo_52 ?_
      obtain ⟨h10, hf⟩ := oi_cf hf
      refine A_iald (pc := 53) dX5_strikesTwo_53 (lay_s hT (k := 65) (q := (0, 49)) rfl) (oob_f h10) ?_
      refine A_aloadn (pc := 54) dX5_strikesTwo_54 rfl ?_
      refine A_getR (pc := 55) dX5_strikesTwo_55 gX5_43 (lay_s hT (k := 53) (q := (7, 35)) rfl) (Nat.le_of_ble_eq_true rfl) rfl (lay_r hT 63 rfl) ?_
      refine A_bipush (pc := 58) 7 dX5_strikesTwo_58 rfl ?_
      refine A_iloadn (pc := 60) dX5_strikesTwo_60 rfl ?_
      refine A_imul (pc := 61) dX5_strikesTwo_61 ?_
      refine A_iloadn (pc := 62) dX5_strikesTwo_62 rfl ?_
      refine A_iadd (pc := 63) dX5_strikesTwo_63 ?_
      obtain ⟨h11, hf⟩ := oi_cf hf
      refine A_iald (pc := 64) dX5_strikesTwo_64 (lay_s hT (k := 65) (q := (0, 49)) rfl) (oob_f h11) ?_
      obtain ⟨q12, h13, hf⟩ := oi_b hf
      refine A_cS2i (mi2 := mX5_least) (pc := 65) dX5_strikesTwo_65 lX5_182 fX5_least sX5_least (Nat.le_of_ble_eq_true rfl) rfl (Nat.le_of_ble_eq_true rfl) (wX5_least (by omega) hT  h13) ?_
      refine A_istn (pc := 68) (L2 := [.ref 53, .int s1, .int t2, .int q12]) dX5_strikesTwo_68 (Nat.le_of_ble_eq_true rfl) rfl ?_
      refine A_aloadn (pc := 69) dX5_strikesTwo_69 rfl ?_
      refine A_getR (pc := 70) dX5_strikesTwo_70 gX5_43 (lay_s hT (k := 53) (q := (7, 35)) rfl) (Nat.le_of_ble_eq_true rfl) rfl (lay_r hT 63 rfl) ?_
      refine A_bipush (pc := 73) 7 dX5_strikesTwo_73 rfl ?_
      refine A_iloadn (pc := 75) dX5_strikesTwo_75 rfl ?_
      refine A_imul (pc := 76) dX5_strikesTwo_76 ?_
      refine A_iloadn (pc := 77) dX5_strikesTwo_77 rfl ?_
      refine A_iadd (pc := 78) dX5_strikesTwo_78 ?_
      refine A_dup2 (pc := 79) dX5_strikesTwo_79 ?_
      obtain ⟨h14, hf⟩ := oi_cf hf
      refine A_iald (pc := 80) dX5_strikesTwo_80 (lay_s hT (k := 65) (q := (0, 49)) rfl) (oob_f h14) ?_
      refine A_iloadn (pc := 81) dX5_strikesTwo_81 rfl ?_
      refine A_isub (pc := 82) dX5_strikesTwo_82 ?_
      obtain ⟨h15, hf⟩ := oi_cf hf
      have hf := oi_l hf
      refine A_iast (pc := 83) dX5_strikesTwo_83 (lay_s hT (k := 65) (q := (0, 49)) rfl) (oob_f h15) ?_
      refine A_aloadn (pc := 84) dX5_strikesTwo_84 rfl ?_
      refine A_getR (pc := 85) dX5_strikesTwo_85 gX5_43 (lay_s hT (k := 53) (q := (7, 35)) rfl) (Nat.le_of_ble_eq_true rfl) rfl (lay_r hT 63 rfl) ?_
      refine A_bipush (pc := 88) 7 dX5_strikesTwo_88 rfl ?_
      refine A_iloadn (pc := 90) dX5_strikesTwo_90 rfl ?_
      refine A_imul (pc := 91) dX5_strikesTwo_91 ?_
      refine A_iloadn (pc := 92) dX5_strikesTwo_92 rfl ?_
      refine A_iadd (pc := 93) dX5_strikesTwo_93 ?_
      refine A_dup2 (pc := 94) dX5_strikesTwo_94 ?_
      obtain ⟨h17, hf⟩ := oi_cf hf
      refine A_iald (pc := 95) dX5_strikesTwo_95 (lay_s hT (k := 65) (q := (0, 49)) rfl) (oob_f h17) ?_
      refine A_iloadn (pc := 96) dX5_strikesTwo_96 rfl ?_
      refine A_isub (pc := 97) dX5_strikesTwo_97 ?_
      obtain ⟨h18, hf⟩ := oi_cf hf
      have hf := oi_l hf
      refine A_iast (pc := 98) dX5_strikesTwo_98 (lay_s hT (k := 65) (q := (0, 49)) rfl) (oob_f h18) ?_
      refine A_iconst (pc := 99) 1 dX5_strikesTwo_99 rfl ?_
      obtain rfl := Option.some.inj hf
      exact A_iret (pc := 100) dX5_strikesTwo_100 rfl rfl ⟨rfl, rfl, rfl⟩
    have hf := oi_t cc9 hf
    refine A_goto (pc := 40) 101 dX5_strikesTwo_40 (by decide) ?_
    refine A_inc (pc := 101) (L2 := [.ref 53, .int s1, .int (t2 + 1), .null]) (t2 + 1) dX5_strikesTwo_101 rfl rfl rfl ?_
    refine A_goto (pc := 104) 14 dX5_strikesTwo_104 (by decide) ?_
    exact ih _ _ _ hf
set_option maxHeartbeats 4000000 in
set_option maxRecDepth 100000 in
theorem wX5_strikesTwo_L2 {G : GG} {T : TT} {n d : Nat} (hd : 1 ≤ d) {k : Int32 → MU → Option (Int32 × MU)} (hT : LAY T) (hk : ∀ (t1 : Int32) (u : MU) (q : Int32 × MU), k t1 u = some q → AW G d mX5_strikesTwo 113 [.ref 53, .int t1, .null, .null] [] T u 0 0 (QS T q.1 q.2)) : ∀ (m : Nat) (t1 : Int32) (u : MU) (q : Int32 × MU), zX5_strikesTwo_L2 n  k m t1 u = some q → AW G d mX5_strikesTwo 2 [.ref 53, .int t1, .null, .null] [] T u 0 0 (QS T q.1 q.2) := by
  intro m
  obtain ⟨d, rfl⟩ : ∃ e, d = e + 1 := ⟨d - 1, by omega⟩
  induction m with
  | zero =>
    intro t1 u q hf
    have h0 : (none : Option (Int32 × MU)) = some q := hf
    cases h0
  | succ m ih =>
    intro t1 u q hf
    rw [zX5_strikesTwo_L2] at hf
    refine A_iloadn (pc := 2) dX5_strikesTwo_2 rfl ?_
    refine A_aloadn (pc := 3) dX5_strikesTwo_3 rfl ?_
    refine A_getI (pc := 4) dX5_strikesTwo_4 gX5_78 (lay_s hT (k := 53) (q := (7, 35)) rfl) (Nat.le_of_ble_eq_true rfl) rfl ?_
    refine A_icmp_ge (pc := 7) 113 dX5_strikesTwo_7 (by decide) (fun cc1 => ?_) (fun cc1 => ?_)
    · have hf := oi_t cc1 hf
      exact hk _ _ _ hf
    have hf := oi_f cc1 hf
    refine A_iloadn (pc := 10) dX5_strikesTwo_10 rfl ?_
    refine A_iconst (pc := 11) 1 dX5_strikesTwo_11 rfl ?_
    refine A_iadd (pc := 12) dX5_strikesTwo_12 ?_
    have hf := oi_l hf
    refine A_istn (pc := 13) (L2 := [.ref 53, .int t1, .int (t1 + 1), .null]) dX5_strikesTwo_13 (Nat.le_of_ble_eq_true rfl) rfl ?_
    exact wX5_strikesTwo_L14 (by omega) hT  (fun y20 w21 q0 hf => by
      refine A_inc (pc := 107) (L2 := [.ref 53, .int (t1 + 1), .int y20, .null]) (t1 + 1) dX5_strikesTwo_107 rfl rfl rfl ?_
      refine A_goto (pc := 110) 2 dX5_strikesTwo_110 (by decide) ?_
      refine A_fgt 2 (L' := [.ref 53, .int (t1 + 1), .null, .null]) rfl ?_
      exact ih _ _ _ hf) _ _ _ _ hf
set_option maxHeartbeats 4000000 in
set_option maxRecDepth 100000 in
theorem wX5_strikesTwo {G : GG} {T : TT} {n d : Nat} (hd : 1 ≤ d) {q : Int32 × MU} {u : MU} (hT : LAY T) (hf : zX5_strikesTwo n u = some q) : AW G d mX5_strikesTwo 0 [.ref 53, .null, .null, .null] [] T u 0 0 (QS T q.1 q.2) := by
  obtain ⟨d, rfl⟩ : ∃ e, d = e + 1 := ⟨d - 1, by omega⟩
  rw [zX5_strikesTwo] at hf
  refine A_iconst (pc := 0) 0 dX5_strikesTwo_0 rfl ?_
  refine A_istn (pc := 1) (L2 := [.ref 53, .int 0, .null, .null]) dX5_strikesTwo_1 (Nat.le_of_ble_eq_true rfl) rfl ?_
  exact wX5_strikesTwo_L2 (by omega) hT  (fun y22 w23 q0 hf => by
    refine A_iconst (pc := 113) 0 dX5_strikesTwo_113 rfl ?_
    obtain rfl := Option.some.inj hf
    exact A_iret (pc := 114) dX5_strikesTwo_114 rfl rfl ⟨rfl, rfl, rfl⟩) _ _ _ _ hf
def zX5_strikesThree_L2 (n : Nat) (k : Int32 → MU → Option (Int32 × MU)) : Nat → Int32 → MU → Option (Int32 × MU)
  | 0, _, _ => none
  | m + 1, t1, u => if 343 ≤ t1 then (k t1 u) else (letb (t1 / 49) (fun x2 => letb ((t1 / 7) - (t1 / 7) / 7 * 7) (fun x3 => letb (t1 - t1 / 7 * 7) (fun x4 => if x3 ≤ x2 then (zX5_strikesThree_L2 n   k m (t1 + 1) u) else (if x4 ≤ x2 then (zX5_strikesThree_L2 n   k m (t1 + 1) u) else (if x3 = x4 then (zX5_strikesThree_L2 n   k m (t1 + 1) u) else (Option.bind (zX5_doesOwe n u x2 x3) (fun q8 => if q8 = 0 then (zX5_strikesThree_L2 n   k m (t1 + 1) u) else (Option.bind (zX5_doesOwe n u x3 x4) (fun q11 => if q11 = 0 then (zX5_strikesThree_L2 n   k m (t1 + 1) u) else (Option.bind (zX5_doesOwe n u x4 x2) (fun q14 => if q14 = 0 then (zX5_strikesThree_L2 n   k m (t1 + 1) u) else (if oob ((7 * x2) + x3) 49 then none else if oob ((7 * x3) + x4) 49 then none else if oob ((7 * x4) + x2) 49 then none else Option.bind (zX5_least n u (u 65 ((7 * x3) + x4).toNatClampNeg) (u 65 ((7 * x4) + x2).toNatClampNeg)) (fun q20 => Option.bind (zX5_least n u (u 65 ((7 * x2) + x3).toNatClampNeg) q20) (fun q22 => if oob ((7 * x2) + x3) 49 then none else if oob ((7 * x2) + x3) 49 then none else letb (up2 u 65 ((7 * x2) + x3).toNatClampNeg ((u 65 ((7 * x2) + x3).toNatClampNeg) - q22)) (fun u26 => if oob ((7 * x3) + x4) 49 then none else if oob ((7 * x3) + x4) 49 then none else letb (up2 u26 65 ((7 * x3) + x4).toNatClampNeg ((u26 65 ((7 * x3) + x4).toNatClampNeg) - q22)) (fun u29 => if oob ((7 * x4) + x2) 49 then none else if oob ((7 * x4) + x2) 49 then none else letb (up2 u29 65 ((7 * x4) + x2).toNatClampNeg ((u29 65 ((7 * x4) + x2).toNatClampNeg) - q22)) (fun u32 => some (1, u32)))))))))))))))))))
def zX5_strikesThree (n : Nat) (u : MU) : Option (Int32 × MU) := zX5_strikesThree_L2 n   (fun y33 w34 => some (0, w34)) n 0 u
set_option maxHeartbeats 4000000 in
set_option maxRecDepth 100000 in
theorem wX5_strikesThree_L2 {G : GG} {T : TT} {n d : Nat} (hd : 1 ≤ d) {k : Int32 → MU → Option (Int32 × MU)} (hT : LAY T) (hk : ∀ (t1 : Int32) (u : MU) (q : Int32 × MU), k t1 u = some q → AW G d mX5_strikesThree 178 [.ref 53, .int t1, .null, .null, .null, .null] [] T u 0 0 (QS T q.1 q.2)) : ∀ (m : Nat) (t1 : Int32) (u : MU) (q : Int32 × MU), zX5_strikesThree_L2 n  k m t1 u = some q → AW G d mX5_strikesThree 2 [.ref 53, .int t1, .null, .null, .null, .null] [] T u 0 0 (QS T q.1 q.2) := by
  intro m
  obtain ⟨d, rfl⟩ : ∃ e, d = e + 1 := ⟨d - 1, by omega⟩
  induction m with
  | zero =>
    intro t1 u q hf
    have h0 : (none : Option (Int32 × MU)) = some q := hf
    cases h0
  | succ m ih =>
    intro t1 u q hf
    rw [zX5_strikesThree_L2] at hf
    refine A_iloadn (pc := 2) dX5_strikesThree_2 rfl ?_
    refine A_sipush (pc := 3) 343 dX5_strikesThree_3 rfl ?_
    refine A_icmp_ge (pc := 6) 178 dX5_strikesThree_6 (by decide) (fun cc1 => ?_) (fun cc1 => ?_)
    · have hf := oi_t cc1 hf
      exact hk _ _ _ hf
    have hf := oi_f cc1 hf
    refine A_iloadn (pc := 9) dX5_strikesThree_9 rfl ?_
    refine A_bipush (pc := 10) 49 dX5_strikesThree_10 rfl ?_
    refine A_idiv (pc := 12) dX5_strikesThree_12 (by decide) ?_
    have hf := oi_l hf
    refine A_istn (pc := 13) (L2 := [.ref 53, .int t1, .int (t1 / 49), .null, .null, .null]) dX5_strikesThree_13 (Nat.le_of_ble_eq_true rfl) rfl ?_
    refine A_iloadn (pc := 14) dX5_strikesThree_14 rfl ?_
    refine A_bipush (pc := 15) 7 dX5_strikesThree_15 rfl ?_
    refine A_idiv (pc := 17) dX5_strikesThree_17 (by decide) ?_
    refine A_bipush (pc := 18) 7 dX5_strikesThree_18 rfl ?_
    refine A_irem (pc := 20) dX5_strikesThree_20 (by decide) ?_
    have hf := oi_l hf
    refine A_istn (pc := 21) (L2 := [.ref 53, .int t1, .int (t1 / 49), .int ((t1 / 7) - (t1 / 7) / 7 * 7), .null, .null]) dX5_strikesThree_21 (Nat.le_of_ble_eq_true rfl) rfl ?_
    refine A_iloadn (pc := 22) dX5_strikesThree_22 rfl ?_
    refine A_bipush (pc := 23) 7 dX5_strikesThree_23 rfl ?_
    refine A_irem (pc := 25) dX5_strikesThree_25 (by decide) ?_
    have hf := oi_l hf
    refine A_ist (pc := 26) (L2 := [.ref 53, .int t1, .int (t1 / 49), .int ((t1 / 7) - (t1 / 7) / 7 * 7), .int (t1 - t1 / 7 * 7), .null]) dX5_strikesThree_26 (Nat.le_of_ble_eq_true rfl) rfl ?_
    refine A_iloadn (pc := 28) dX5_strikesThree_28 rfl ?_
    refine A_iloadn (pc := 29) dX5_strikesThree_29 rfl ?_
    refine A_icmp_le (pc := 30) 172 dX5_strikesThree_30 (by decide) (fun cc5 => ?_) (fun cc5 => ?_)
    · have hf := oi_t cc5 hf
      refine A_inc (pc := 172) (L2 := [.ref 53, .int (t1 + 1), .int (t1 / 49), .int ((t1 / 7) - (t1 / 7) / 7 * 7), .int (t1 - t1 / 7 * 7), .null]) (t1 + 1) dX5_strikesThree_172 rfl rfl rfl ?_
      refine A_goto (pc := 175) 2 dX5_strikesThree_175 (by decide) ?_
      refine A_fgt 2 (L' := [.ref 53, .int (t1 + 1), .null, .int ((t1 / 7) - (t1 / 7) / 7 * 7), .int (t1 - t1 / 7 * 7), .null]) rfl ?_
      refine A_fgt 3 (L' := [.ref 53, .int (t1 + 1), .null, .null, .int (t1 - t1 / 7 * 7), .null]) rfl ?_
      refine A_fgt 4 (L' := [.ref 53, .int (t1 + 1), .null, .null, .null, .null]) rfl ?_
      exact ih _ _ _ hf
    have hf := oi_f cc5 hf
    refine A_iload (pc := 33) dX5_strikesThree_33 rfl ?_
    refine A_iloadn (pc := 35) dX5_strikesThree_35 rfl ?_
    refine A_icmp_le (pc := 36) 172 dX5_strikesThree_36 (by decide) (fun cc6 => ?_) (fun cc6 => ?_)
    · have hf := oi_t cc6 hf
      refine A_inc (pc := 172) (L2 := [.ref 53, .int (t1 + 1), .int (t1 / 49), .int ((t1 / 7) - (t1 / 7) / 7 * 7), .int (t1 - t1 / 7 * 7), .null]) (t1 + 1) dX5_strikesThree_172 rfl rfl rfl ?_
      refine A_goto (pc := 175) 2 dX5_strikesThree_175 (by decide) ?_
      refine A_fgt 2 (L' := [.ref 53, .int (t1 + 1), .null, .int ((t1 / 7) - (t1 / 7) / 7 * 7), .int (t1 - t1 / 7 * 7), .null]) rfl ?_
      refine A_fgt 3 (L' := [.ref 53, .int (t1 + 1), .null, .null, .int (t1 - t1 / 7 * 7), .null]) rfl ?_
      refine A_fgt 4 (L' := [.ref 53, .int (t1 + 1), .null, .null, .null, .null]) rfl ?_
      exact ih _ _ _ hf
    have hf := oi_f cc6 hf
    refine A_iloadn (pc := 39) dX5_strikesThree_39 rfl ?_
    refine A_iload (pc := 40) dX5_strikesThree_40 rfl ?_
    refine A_icmp_eq (pc := 42) 172 dX5_strikesThree_42 (by decide) (fun cc7 => ?_) (fun cc7 => ?_)
    · have hf := oi_t cc7 hf
      refine A_inc (pc := 172) (L2 := [.ref 53, .int (t1 + 1), .int (t1 / 49), .int ((t1 / 7) - (t1 / 7) / 7 * 7), .int (t1 - t1 / 7 * 7), .null]) (t1 + 1) dX5_strikesThree_172 rfl rfl rfl ?_
      refine A_goto (pc := 175) 2 dX5_strikesThree_175 (by decide) ?_
      refine A_fgt 2 (L' := [.ref 53, .int (t1 + 1), .null, .int ((t1 / 7) - (t1 / 7) / 7 * 7), .int (t1 - t1 / 7 * 7), .null]) rfl ?_
      refine A_fgt 3 (L' := [.ref 53, .int (t1 + 1), .null, .null, .int (t1 - t1 / 7 * 7), .null]) rfl ?_
      refine A_fgt 4 (L' := [.ref 53, .int (t1 + 1), .null, .null, .null, .null]) rfl ?_
      exact ih _ _ _ hf
    have hf := oi_f cc7 hf
    refine A_aloadn (pc := 45) dX5_strikesThree_45 rfl ?_
    refine A_iloadn (pc := 46) dX5_strikesThree_46 rfl ?_
    refine A_iloadn (pc := 47) dX5_strikesThree_47 rfl ?_
    obtain ⟨q8, h9, hf⟩ := oi_b hf
    refine A_cV2i (mi2 := mX5_doesOwe) (pc := 48) dX5_strikesThree_48 lX5_243 fX5_doesOwe vX5_doesOwe (lay_s hT (k := 53) (q := (7, 35)) rfl) rfl (Nat.le_of_ble_eq_true rfl) rfl (Nat.le_of_ble_eq_true rfl) (wX5_doesOwe (by omega) hT  h9) ?_
    refine A_if_eq (pc := 51) (w := 0) 172 dX5_strikesThree_51 (by decide) (fun cc10 => ?_) (fun cc10 => ?_)
    · have hf := oi_t cc10 hf
      refine A_inc (pc := 172) (L2 := [.ref 53, .int (t1 + 1), .int (t1 / 49), .int ((t1 / 7) - (t1 / 7) / 7 * 7), .int (t1 - t1 / 7 * 7), .null]) (t1 + 1) dX5_strikesThree_172 rfl rfl rfl ?_
      refine A_goto (pc := 175) 2 dX5_strikesThree_175 (by decide) ?_
      refine A_fgt 2 (L' := [.ref 53, .int (t1 + 1), .null, .int ((t1 / 7) - (t1 / 7) / 7 * 7), .int (t1 - t1 / 7 * 7), .null]) rfl ?_
      refine A_fgt 3 (L' := [.ref 53, .int (t1 + 1), .null, .null, .int (t1 - t1 / 7 * 7), .null]) rfl ?_
      refine A_fgt 4 (L' := [.ref 53, .int (t1 + 1), .null, .null, .null, .null]) rfl ?_
      exact ih _ _ _ hf
    have hf := oi_f cc10 hf
    refine A_aloadn (pc := 54) dX5_strikesThree_54 rfl ?_
    refine A_iloadn (pc := 55) dX5_strikesThree_55 rfl ?_
    refine A_iload (pc := 56) dX5_strikesThree_56 rfl ?_
    obtain ⟨q11, h12, hf⟩ := oi_b hf
    refine A_cV2i (mi2 := mX5_doesOwe) (pc := 58) dX5_strikesThree_58 lX5_243 fX5_doesOwe vX5_doesOwe (lay_s hT (k := 53) (q := (7, 35)) rfl) rfl (Nat.le_of_ble_eq_true rfl) rfl (Nat.le_of_ble_eq_true rfl) (wX5_doesOwe (by omega) hT  h12) ?_
    refine A_if_eq (pc := 61) (w := 0) 172 dX5_strikesThree_61 (by decide) (fun cc13 => ?_) (fun cc13 => ?_)
    · have hf := oi_t cc13 hf
      refine A_inc (pc := 172) (L2 := [.ref 53, .int (t1 + 1), .int (t1 / 49), .int ((t1 / 7) - (t1 / 7) / 7 * 7), .int (t1 - t1 / 7 * 7), .null]) (t1 + 1) dX5_strikesThree_172 rfl rfl rfl ?_
      refine A_goto (pc := 175) 2 dX5_strikesThree_175 (by decide) ?_
      refine A_fgt 2 (L' := [.ref 53, .int (t1 + 1), .null, .int ((t1 / 7) - (t1 / 7) / 7 * 7), .int (t1 - t1 / 7 * 7), .null]) rfl ?_
      refine A_fgt 3 (L' := [.ref 53, .int (t1 + 1), .null, .null, .int (t1 - t1 / 7 * 7), .null]) rfl ?_
      refine A_fgt 4 (L' := [.ref 53, .int (t1 + 1), .null, .null, .null, .null]) rfl ?_
      exact ih _ _ _ hf
    have hf := oi_f cc13 hf
    refine A_aloadn (pc := 64) dX5_strikesThree_64 rfl ?_
    refine A_iload (pc := 65) dX5_strikesThree_65 rfl ?_
    refine A_iloadn (pc := 67) dX5_strikesThree_67 rfl ?_
    obtain ⟨q14, h15, hf⟩ := oi_b hf
    refine A_cV2i (mi2 := mX5_doesOwe) (pc := 68) dX5_strikesThree_68 lX5_243 fX5_doesOwe vX5_doesOwe (lay_s hT (k := 53) (q := (7, 35)) rfl) rfl (Nat.le_of_ble_eq_true rfl) rfl (Nat.le_of_ble_eq_true rfl) (wX5_doesOwe (by omega) hT  h15) ?_
    refine A_if_ne (pc := 71) (w := 0) 77 dX5_strikesThree_71 (by decide) (fun cc16 => ?_) (fun cc16 => ?_)
    · have hf := oi_f cc16 hf
      refine A_aloadn (pc := 77) dX5_strikesThree_77 rfl ?_
      refine A_getR (pc := 78) dX5_strikesThree_78 gX5_43 (lay_s hT (k := 53) (q := (7, 35)) rfl) (Nat.le_of_ble_eq_true rfl) rfl (lay_r hT 63 rfl) ?_
      refine A_bipush (pc := 81) 7 dX5_strikesThree_81 rfl ?_
      refine A_iloadn (pc := 83) dX5_strikesThree_83 rfl ?_
      refine A_imul (pc := 84) dX5_strikesThree_84 ?_
      refine A_iloadn (pc := 85) dX5_strikesThree_85 rfl ?_
      refine A_iadd (pc := 86) dX5_strikesThree_86 ?_
      obtain ⟨h17, hf⟩ := oi_cf hf
      refine A_iald (pc := 87) dX5_strikesThree_87 (lay_s hT (k := 65) (q := (0, 49)) rfl) (oob_f h17) ?_
      refine A_aloadn (pc := 88) dX5_strikesThree_88 rfl ?_
      refine A_getR (pc := 89) dX5_strikesThree_89 gX5_43 (lay_s hT (k := 53) (q := (7, 35)) rfl) (Nat.le_of_ble_eq_true rfl) rfl (lay_r hT 63 rfl) ?_
      refine A_bipush (pc := 92) 7 dX5_strikesThree_92 rfl ?_
      refine A_iloadn (pc := 94) dX5_strikesThree_94 rfl ?_
      refine A_imul (pc := 95) dX5_strikesThree_95 ?_
      refine A_iload (pc := 96) dX5_strikesThree_96 rfl ?_
      refine A_iadd (pc := 98) dX5_strikesThree_98 ?_
      obtain ⟨h18, hf⟩ := oi_cf hf
      refine A_iald (pc := 99) dX5_strikesThree_99 (lay_s hT (k := 65) (q := (0, 49)) rfl) (oob_f h18) ?_
      refine A_aloadn (pc := 100) dX5_strikesThree_100 rfl ?_
      refine A_getR (pc := 101) dX5_strikesThree_101 gX5_43 (lay_s hT (k := 53) (q := (7, 35)) rfl) (Nat.le_of_ble_eq_true rfl) rfl (lay_r hT 63 rfl) ?_
      refine A_bipush (pc := 104) 7 dX5_strikesThree_104 rfl ?_
      refine A_iload (pc := 106) dX5_strikesThree_106 rfl ?_
      refine A_imul (pc := 108) dX5_strikesThree_108 ?_
      refine A_iloadn (pc := 109) dX5_strikesThree_109 rfl ?_
      refine A_iadd (pc := 110) dX5_strikesThree_110 ?_
      obtain ⟨h19, hf⟩ := oi_cf hf
      refine A_iald (pc := 111) dX5_strikesThree_111 (lay_s hT (k := 65) (q := (0, 49)) rfl) (oob_f h19) ?_
      obtain ⟨q20, h21, hf⟩ := oi_b hf
      refine A_cS2i (mi2 := mX5_least) (pc := 112) dX5_strikesThree_112 lX5_182 fX5_least sX5_least (Nat.le_of_ble_eq_true rfl) rfl (Nat.le_of_ble_eq_true rfl) (wX5_least (by omega) hT  h21) ?_
      obtain ⟨q22, h23, hf⟩ := oi_b hf
      refine A_cS2i (mi2 := mX5_least) (pc := 115) dX5_strikesThree_115 lX5_182 fX5_least sX5_least (Nat.le_of_ble_eq_true rfl) rfl (Nat.le_of_ble_eq_true rfl) (wX5_least (by omega) hT  h23) ?_
      refine A_ist (pc := 118) (L2 := [.ref 53, .int t1, .int (t1 / 49), .int ((t1 / 7) - (t1 / 7) / 7 * 7), .int (t1 - t1 / 7 * 7), .int q22]) dX5_strikesThree_118 (Nat.le_of_ble_eq_true rfl) rfl ?_
      refine A_aloadn (pc := 120) dX5_strikesThree_120 rfl ?_
      refine A_getR (pc := 121) dX5_strikesThree_121 gX5_43 (lay_s hT (k := 53) (q := (7, 35)) rfl) (Nat.le_of_ble_eq_true rfl) rfl (lay_r hT 63 rfl) ?_
      refine A_bipush (pc := 124) 7 dX5_strikesThree_124 rfl ?_
      refine A_iloadn (pc := 126) dX5_strikesThree_126 rfl ?_
      refine A_imul (pc := 127) dX5_strikesThree_127 ?_
      refine A_iloadn (pc := 128) dX5_strikesThree_128 rfl ?_
      refine A_iadd (pc := 129) dX5_strikesThree_129 ?_
      refine A_dup2 (pc := 130) dX5_strikesThree_130 ?_
      obtain ⟨h24, hf⟩ := oi_cf hf
      refine A_iald (pc := 131) dX5_strikesThree_131 (lay_s hT (k := 65) (q := (0, 49)) rfl) (oob_f h24) ?_
      refine A_iload (pc := 132) dX5_strikesThree_132 rfl ?_
      refine A_isub (pc := 134) dX5_strikesThree_134 ?_
      obtain ⟨h25, hf⟩ := oi_cf hf
      have hf := oi_l hf
      refine A_iast (pc := 135) dX5_strikesThree_135 (lay_s hT (k := 65) (q := (0, 49)) rfl) (oob_f h25) ?_
      refine A_aloadn (pc := 136) dX5_strikesThree_136 rfl ?_
      refine A_getR (pc := 137) dX5_strikesThree_137 gX5_43 (lay_s hT (k := 53) (q := (7, 35)) rfl) (Nat.le_of_ble_eq_true rfl) rfl (lay_r hT 63 rfl) ?_
      refine A_bipush (pc := 140) 7 dX5_strikesThree_140 rfl ?_
      refine A_iloadn (pc := 142) dX5_strikesThree_142 rfl ?_
      refine A_imul (pc := 143) dX5_strikesThree_143 ?_
      refine A_iload (pc := 144) dX5_strikesThree_144 rfl ?_
      refine A_iadd (pc := 146) dX5_strikesThree_146 ?_
      refine A_dup2 (pc := 147) dX5_strikesThree_147 ?_
      obtain ⟨h27, hf⟩ := oi_cf hf
      refine A_iald (pc := 148) dX5_strikesThree_148 (lay_s hT (k := 65) (q := (0, 49)) rfl) (oob_f h27) ?_
      refine A_iload (pc := 149) dX5_strikesThree_149 rfl ?_
      refine A_isub (pc := 151) dX5_strikesThree_151 ?_
      obtain ⟨h28, hf⟩ := oi_cf hf
      have hf := oi_l hf
      refine A_iast (pc := 152) dX5_strikesThree_152 (lay_s hT (k := 65) (q := (0, 49)) rfl) (oob_f h28) ?_
      refine A_aloadn (pc := 153) dX5_strikesThree_153 rfl ?_
      refine A_getR (pc := 154) dX5_strikesThree_154 gX5_43 (lay_s hT (k := 53) (q := (7, 35)) rfl) (Nat.le_of_ble_eq_true rfl) rfl (lay_r hT 63 rfl) ?_
      refine A_bipush (pc := 157) 7 dX5_strikesThree_157 rfl ?_
      refine A_iload (pc := 159) dX5_strikesThree_159 rfl ?_
      refine A_imul (pc := 161) dX5_strikesThree_161 ?_
      refine A_iloadn (pc := 162) dX5_strikesThree_162 rfl ?_
      refine A_iadd (pc := 163) dX5_strikesThree_163 ?_
      refine A_dup2 (pc := 164) dX5_strikesThree_164 ?_
      obtain ⟨h30, hf⟩ := oi_cf hf
      refine A_iald (pc := 165) dX5_strikesThree_165 (lay_s hT (k := 65) (q := (0, 49)) rfl) (oob_f h30) ?_
      refine A_iload (pc := 166) dX5_strikesThree_166 rfl ?_
      refine A_isub (pc := 168) dX5_strikesThree_168 ?_
      obtain ⟨h31, hf⟩ := oi_cf hf
      have hf := oi_l hf
      refine A_iast (pc := 169) dX5_strikesThree_169 (lay_s hT (k := 65) (q := (0, 49)) rfl) (oob_f h31) ?_
      refine A_iconst (pc := 170) 1 dX5_strikesThree_170 rfl ?_
      obtain rfl := Option.some.inj hf
      exact A_iret (pc := 171) dX5_strikesThree_171 rfl rfl ⟨rfl, rfl, rfl⟩
    have hf := oi_t cc16 hf
    refine A_goto (pc := 74) 172 dX5_strikesThree_74 (by decide) ?_
    refine A_inc (pc := 172) (L2 := [.ref 53, .int (t1 + 1), .int (t1 / 49), .int ((t1 / 7) - (t1 / 7) / 7 * 7), .int (t1 - t1 / 7 * 7), .null]) (t1 + 1) dX5_strikesThree_172 rfl rfl rfl ?_
    refine A_goto (pc := 175) 2 dX5_strikesThree_175 (by decide) ?_
    refine A_fgt 2 (L' := [.ref 53, .int (t1 + 1), .null, .int ((t1 / 7) - (t1 / 7) / 7 * 7), .int (t1 - t1 / 7 * 7), .null]) rfl ?_
    refine A_fgt 3 (L' := [.ref 53, .int (t1 + 1), .null, .null, .int (t1 - t1 / 7 * 7), .null]) rfl ?_
    refine A_fgt 4 (L' := [.ref 53, .int (t1 + 1), .null, .null, .null, .null]) rfl ?_
    exact ih _ _ _ hf
set_option maxHeartbeats 4000000 in
set_option maxRecDepth 100000 in
theorem wX5_strikesThree {G : GG} {T : TT} {n d : Nat} (hd : 1 ≤ d) {q : Int32 × MU} {u : MU} (hT : LAY T) (hf : zX5_strikesThree n u = some q) : AW G d mX5_strikesThree 0 [.ref 53, .null, .null, .null, .null, .null] [] T u 0 0 (QS T q.1 q.2) := by
  obtain ⟨d, rfl⟩ : ∃ e, d = e + 1 := ⟨d - 1, by omega⟩
  rw [zX5_strikesThree] at hf
  refine A_iconst (pc := 0) 0 dX5_strikesThree_0 rfl ?_
  refine A_istn (pc := 1) (L2 := [.ref 53, .int 0, .null, .null, .null, .null]) dX5_strikesThree_1 (Nat.le_of_ble_eq_true rfl) rfl ?_
  exact wX5_strikesThree_L2 (by omega) hT  (fun y33 w34 q0 hf => by
    refine A_iconst (pc := 178) 0 dX5_strikesThree_178 rfl ?_
    obtain rfl := Option.some.inj hf
    exact A_iret (pc := 179) dX5_strikesThree_179 rfl rfl ⟨rfl, rfl, rfl⟩) _ _ _ _ hf
def zX5_strike_L2 (n : Nat) (k : Int32 → MU → Option (Int32 × MU)) : Nat → Int32 → MU → Option (Int32 × MU)
  | 0, _, _ => none
  | m + 1, t1, u => Option.bind (zX5_strikesTwo n u) (fun q1 => if q1.1 = 0 then (Option.bind (zX5_strikesThree n q1.2) (fun q4 => if q4.1 = 0 then (k t1 q4.2) else (zX5_strike_L2 n   k m (t1 + 1) q4.2))) else (zX5_strike_L2 n   k m (t1 + 1) q1.2))
def zX5_strike (n : Nat) (u : MU) : Option (Int32 × MU) := zX5_strike_L2 n   (fun y7 w8 => some (y7, w8)) n 0 u
set_option maxHeartbeats 4000000 in
set_option maxRecDepth 100000 in
theorem wX5_strike_L2 {G : GG} {T : TT} {n d : Nat} (hd : 2 ≤ d) {k : Int32 → MU → Option (Int32 × MU)} (hT : LAY T) (hk : ∀ (t1 : Int32) (u : MU) (q : Int32 × MU), k t1 u = some q → AW G d mX5_strike 22 [.ref 53, .int t1] [] T u 0 0 (QS T q.1 q.2)) : ∀ (m : Nat) (t1 : Int32) (u : MU) (q : Int32 × MU), zX5_strike_L2 n  k m t1 u = some q → AW G d mX5_strike 2 [.ref 53, .int t1] [] T u 0 0 (QS T q.1 q.2) := by
  intro m
  obtain ⟨d, rfl⟩ : ∃ e, d = e + 1 := ⟨d - 1, by omega⟩
  induction m with
  | zero =>
    intro t1 u q hf
    have h0 : (none : Option (Int32 × MU)) = some q := hf
    cases h0
  | succ m ih =>
    intro t1 u q hf
    rw [zX5_strike_L2] at hf
    refine A_aloadn (pc := 2) dX5_strike_2 rfl ?_
    obtain ⟨q1, h2, hf⟩ := oi_b hf
    refine A_cV0i (mi2 := mX5_strikesTwo) (pc := 3) dX5_strike_3 lX5_246 fX5_strikesTwo vX5_strikesTwo (lay_s hT (k := 53) (q := (7, 35)) rfl) rfl (Nat.le_of_ble_eq_true rfl) rfl (Nat.le_of_ble_eq_true rfl) (wX5_strikesTwo (by omega) hT  h2) ?_
    refine A_if_ne (pc := 6) (w := 0) 16 dX5_strike_6 (by decide) (fun cc3 => ?_) (fun cc3 => ?_)
    · have hf := oi_f cc3 hf
      refine A_inc (pc := 16) (L2 := [.ref 53, .int (t1 + 1)]) (t1 + 1) dX5_strike_16 rfl rfl rfl ?_
      refine A_goto (pc := 19) 2 dX5_strike_19 (by decide) ?_
      exact ih _ _ _ hf
    have hf := oi_t cc3 hf
    refine A_aloadn (pc := 9) dX5_strike_9 rfl ?_
    obtain ⟨q4, h5, hf⟩ := oi_b hf
    refine A_cV0i (mi2 := mX5_strikesThree) (pc := 10) dX5_strike_10 lX5_249 fX5_strikesThree vX5_strikesThree (lay_s hT (k := 53) (q := (7, 35)) rfl) rfl (Nat.le_of_ble_eq_true rfl) rfl (Nat.le_of_ble_eq_true rfl) (wX5_strikesThree (by omega) hT  h5) ?_
    refine A_if_eq (pc := 13) (w := 0) 22 dX5_strike_13 (by decide) (fun cc6 => ?_) (fun cc6 => ?_)
    · have hf := oi_t cc6 hf
      exact hk _ _ _ hf
    have hf := oi_f cc6 hf
    refine A_inc (pc := 16) (L2 := [.ref 53, .int (t1 + 1)]) (t1 + 1) dX5_strike_16 rfl rfl rfl ?_
    refine A_goto (pc := 19) 2 dX5_strike_19 (by decide) ?_
    exact ih _ _ _ hf
set_option maxHeartbeats 4000000 in
set_option maxRecDepth 100000 in
theorem wX5_strike {G : GG} {T : TT} {n d : Nat} (hd : 2 ≤ d) {q : Int32 × MU} {u : MU} (hT : LAY T) (hf : zX5_strike n u = some q) : AW G d mX5_strike 0 [.ref 53, .null] [] T u 0 0 (QS T q.1 q.2) := by
  obtain ⟨d, rfl⟩ : ∃ e, d = e + 1 := ⟨d - 1, by omega⟩
  rw [zX5_strike] at hf
  refine A_iconst (pc := 0) 0 dX5_strike_0 rfl ?_
  refine A_istn (pc := 1) (L2 := [.ref 53, .int 0]) dX5_strike_1 (Nat.le_of_ble_eq_true rfl) rfl ?_
  exact wX5_strike_L2 (by omega) hT  (fun y7 w8 q0 hf => by
    refine A_iloadn (pc := 22) dX5_strike_22 rfl ?_
    obtain rfl := Option.some.inj hf
    exact A_iret (pc := 23) dX5_strike_23 rfl rfl ⟨rfl, rfl, rfl⟩) _ _ _ _ hf
def zX5_areDry_L17 (n : Nat) (u : MU) (s1 : Int32) (k : Int32 → Option (Int32)) : Nat → Int32 → Option (Int32)
  | 0, _ => none
  | m + 1, t2 => if (u 53 13) ≤ t2 then (k t2) else (if ((s1 >>> (t2 &&& 31)) &&& 1) = 1 then (if oob t2 7 then none else if (u 63 t2.toNatClampNeg) = 1 then (some 0) else (zX5_areDry_L17 n u  s1 k m (t2 + 1))) else (zX5_areDry_L17 n u  s1 k m (t2 + 1)))
def zX5_areDry (n : Nat) (u : MU) (a1 : Int32) : Option (Int32) := if a1 < 0 then (some 0) else (if (a1 >>> ((u 53 13) &&& 31)) = 0 then (zX5_areDry_L17 n u  a1 (fun y7 => some 1) n 0) else (some 0))
set_option maxHeartbeats 4000000 in
set_option maxRecDepth 100000 in
theorem wX5_areDry_L17 {G : GG} {T : TT} {n d : Nat} (hd : 0 ≤ d) {u : MU} {s1 : Int32} {k : Int32 → Option (Int32)} (hT : LAY T) (hk : ∀ (t2 : Int32) (q : Int32), k t2 = some q → AW G d mX5_areDry 52 [.ref 53, .int s1, .int t2] [] T u 0 0 (QS T q u)) : ∀ (m : Nat) (t2 : Int32) (q : Int32), zX5_areDry_L17 n u  s1 k m t2 = some q → AW G d mX5_areDry 17 [.ref 53, .int s1, .int t2] [] T u 0 0 (QS T q u) := by
  intro m
  induction m with
  | zero =>
    intro t2 q hf
    have h0 : (none : Option (Int32)) = some q := hf
    cases h0
  | succ m ih =>
    intro t2 q hf
    rw [zX5_areDry_L17] at hf
    refine A_iloadn (pc := 17) dX5_areDry_17 rfl ?_
    refine A_aloadn (pc := 18) dX5_areDry_18 rfl ?_
    refine A_getI (pc := 19) dX5_areDry_19 gX5_78 (lay_s hT (k := 53) (q := (7, 35)) rfl) (Nat.le_of_ble_eq_true rfl) rfl ?_
    refine A_icmp_ge (pc := 22) 52 dX5_areDry_22 (by decide) (fun cc3 => ?_) (fun cc3 => ?_)
    · have hf := oi_t cc3 hf
      exact hk _ _ hf
    have hf := oi_f cc3 hf
    refine A_iloadn (pc := 25) dX5_areDry_25 rfl ?_
    refine A_iloadn (pc := 26) dX5_areDry_26 rfl ?_
    refine A_ishr (pc := 27) dX5_areDry_27 ?_
    refine A_iconst (pc := 28) 1 dX5_areDry_28 rfl ?_
    refine A_iand (pc := 29) dX5_areDry_29 ?_
    refine A_iconst (pc := 30) 1 dX5_areDry_30 rfl ?_
    refine A_icmp_ne (pc := 31) 46 dX5_areDry_31 (by decide) (fun cc4 => ?_) (fun cc4 => ?_)
    · have hf := oi_f cc4 hf
      refine A_inc (pc := 46) (L2 := [.ref 53, .int s1, .int (t2 + 1)]) (t2 + 1) dX5_areDry_46 rfl rfl rfl ?_
      refine A_goto (pc := 49) 17 dX5_areDry_49 (by decide) ?_
      exact ih _ _ hf
    have hf := oi_t cc4 hf
    refine A_aloadn (pc := 34) dX5_areDry_34 rfl ?_
    refine A_getR (pc := 35) dX5_areDry_35 gX5_37 (lay_s hT (k := 53) (q := (7, 35)) rfl) (Nat.le_of_ble_eq_true rfl) rfl (lay_r hT 61 rfl) ?_
    refine A_iloadn (pc := 38) dX5_areDry_38 rfl ?_
    obtain ⟨h5, hf⟩ := oi_cf hf
    refine A_iald (pc := 39) dX5_areDry_39 (lay_s hT (k := 63) (q := (0, 7)) rfl) (oob_f h5) ?_
    refine A_iconst (pc := 40) 1 dX5_areDry_40 rfl ?_
    refine A_icmp_ne (pc := 41) 46 dX5_areDry_41 (by decide) (fun cc6 => ?_) (fun cc6 => ?_)
    · have hf := oi_f cc6 hf
      refine A_inc (pc := 46) (L2 := [.ref 53, .int s1, .int (t2 + 1)]) (t2 + 1) dX5_areDry_46 rfl rfl rfl ?_
      refine A_goto (pc := 49) 17 dX5_areDry_49 (by decide) ?_
      exact ih _ _ hf
    have hf := oi_t cc6 hf
    refine A_iconst (pc := 44) 0 dX5_areDry_44 rfl ?_
    obtain rfl := Option.some.inj hf
    exact A_iret (pc := 45) dX5_areDry_45 rfl rfl ⟨rfl, rfl, rfl⟩
set_option maxHeartbeats 4000000 in
set_option maxRecDepth 100000 in
theorem wX5_areDry {G : GG} {T : TT} {n d : Nat} (hd : 0 ≤ d) {q : Int32} {u : MU} {a1 : Int32} (hT : LAY T) (hf : zX5_areDry n u a1 = some q) : AW G d mX5_areDry 0 [.ref 53, .int a1, .null] [] T u 0 0 (QS T q u) := by
  rw [zX5_areDry] at hf
  refine A_iloadn (pc := 0) dX5_areDry_0 rfl ?_
  refine A_if_lt (pc := 1) (w := 0) 13 dX5_areDry_1 (by decide) (fun cc1 => ?_) (fun cc1 => ?_)
  · have hf := oi_t cc1 hf
    refine A_iconst (pc := 13) 0 dX5_areDry_13 rfl ?_
    obtain rfl := Option.some.inj hf
    exact A_iret (pc := 14) dX5_areDry_14 rfl rfl ⟨rfl, rfl, rfl⟩
  have hf := oi_f cc1 hf
  refine A_iloadn (pc := 4) dX5_areDry_4 rfl ?_
  refine A_aloadn (pc := 5) dX5_areDry_5 rfl ?_
  refine A_getI (pc := 6) dX5_areDry_6 gX5_78 (lay_s hT (k := 53) (q := (7, 35)) rfl) (Nat.le_of_ble_eq_true rfl) rfl ?_
  refine A_ishr (pc := 9) dX5_areDry_9 ?_
  refine A_if_eq (pc := 10) (w := 0) 15 dX5_areDry_10 (by decide) (fun cc2 => ?_) (fun cc2 => ?_)
  · have hf := oi_t cc2 hf
    refine A_iconst (pc := 15) 0 dX5_areDry_15 rfl ?_
    refine A_istn (pc := 16) (L2 := [.ref 53, .int a1, .int 0]) dX5_areDry_16 (Nat.le_of_ble_eq_true rfl) rfl ?_
    exact wX5_areDry_L17 (by omega) hT  (fun y7 q0 hf => by
      refine A_iconst (pc := 52) 1 dX5_areDry_52 rfl ?_
      obtain rfl := Option.some.inj hf
      exact A_iret (pc := 53) dX5_areDry_53 rfl rfl ⟨rfl, rfl, rfl⟩) _ _ _ hf
  have hf := oi_f cc2 hf
  refine A_iconst (pc := 13) 0 dX5_areDry_13 rfl ?_
  obtain rfl := Option.some.inj hf
  exact A_iret (pc := 14) dX5_areDry_14 rfl rfl ⟨rfl, rfl, rfl⟩
def zX5_wet_L57 (n : Nat) (u : MU) (s1 : Int32) (s2 : Int32) (s3 : Int32) (s4 : Int32) (k : Int32 → Int32 → Option (Int32 × MU)) : Nat → Int32 → Int32 → Option (Int32 × MU)
  | 0, _, _ => none
  | m + 1, t5, t6 => if (u 53 12) ≤ t6 then (k t5 t6) else (if oob t6 5 then none else letb (t5 ||| (1 <<< ((u 57 t6.toNatClampNeg) &&& 31))) (fun x14 => zX5_wet_L57 n u  s1 s2 s3 s4 k m x14 (t6 + 1)))
def zX5_wet_L108 (n : Nat) (u : MU) (s1 : Int32) (s2 : Int32) (s3 : Int32) (k : Int32 → Int32 → Option (Int32 × MU)) : Nat → Int32 → Int32 → Option (Int32 × MU)
  | 0, _, _ => none
  | m + 1, t4, t6 => if (u 53 12) ≤ t6 then (k t4 t6) else (if oob t6 5 then none else if (u 57 t6.toNatClampNeg) = s2 then (letb (t4 ||| (1 <<< (t6 &&& 31))) (fun x25 => zX5_wet_L108 n u  s1 s2 s3 k m x25 (t6 + 1))) else (letb (t4 ||| 0) (fun x24 => zX5_wet_L108 n u  s1 s2 s3 k m x24 (t6 + 1))))
def zX5_wet_L44 (n : Nat) (s1 : Int32) (s2 : Int32) (k : Int32 → Int32 → MU → Option (Int32 × MU)) : Nat → Int32 → Int32 → MU → Option (Int32 × MU)
  | 0, _, _, _ => none
  | m + 1, t3, t4, u => Option.bind (zX5_nextChain n u) (fun q9 => if q9.1 = 0 then (k t3 t4 q9.2) else (zX5_wet_L57 n q9.2  s1 s2 t3 t4 (fun y15 y16 => if y15 = s1 then (Option.bind (zX5_doesStand n q9.2) (fun q18 => if q18.1 = 0 then (zX5_wet_L44 n  s1 s2 k m t3 t4 q18.2) else (zX5_wet_L108 n q18.2  s1 s2 (t3 + 1) (fun y26 y27 => zX5_wet_L44 n  s1 s2 k m (t3 + 1) y26 q18.2) n t4 0))) else (zX5_wet_L44 n  s1 s2 k m t3 t4 q9.2)) n 0 0))
def zX5_wet (n : Nat) (u : MU) (a1 : Int32) (a2 : Int32) : Option (Int32 × MU) := Option.bind (zX5_areDry n u a1) (fun q1 => if q1 = 0 then (Option.bind (zX5_no n u (-1)) (fun q4 => some (q4.1, q4.2))) else (if a2 = (-1) then (Option.bind (zX5_putsAway n u) (fun q7 => zX5_wet_L44 n  a1 a2 (fun y28 y29 w30 => Option.bind (zX5_putsBack n w30) (fun q31 => if a2 = (-1) then (some (y28, q31)) else (some (y29, q31)))) n 0 0 q7)) else (Option.bind (zX5_isOne n u a2) (fun q34 => if q34 = 0 then (Option.bind (zX5_no n u (-1)) (fun q37 => some (q37.1, q37.2))) else (if ((a1 >>> (a2 &&& 31)) &&& 1) = 0 then (Option.bind (zX5_no n u (-1)) (fun q48 => some (q48.1, q48.2))) else (Option.bind (zX5_putsAway n u) (fun q40 => zX5_wet_L44 n  a1 a2 (fun y42 y43 w44 => Option.bind (zX5_putsBack n w44) (fun q45 => if a2 = (-1) then (some (y42, q45)) else (some (y43, q45)))) n 0 0 q40)))))))
set_option maxHeartbeats 4000000 in
set_option maxRecDepth 100000 in
theorem wX5_wet_L57 {G : GG} {T : TT} {n d : Nat} (hd : 6 ≤ d) {u : MU} {s1 : Int32} {s2 : Int32} {s3 : Int32} {s4 : Int32} {k : Int32 → Int32 → Option (Int32 × MU)} (hT : LAY T) (hk : ∀ (t5 : Int32) (t6 : Int32) (q : Int32 × MU), k t5 t6 = some q → AW G d mX5_wet 86 [.ref 53, .int s1, .int s2, .int s3, .int s4, .int t5, .int t6] [] T u 0 0 (QS T q.1 q.2)) : ∀ (m : Nat) (t5 : Int32) (t6 : Int32) (q : Int32 × MU), zX5_wet_L57 n u  s1 s2 s3 s4 k m t5 t6 = some q → AW G d mX5_wet 57 [.ref 53, .int s1, .int s2, .int s3, .int s4, .int t5, .int t6] [] T u 0 0 (QS T q.1 q.2) := by
  intro m
  obtain ⟨d, rfl⟩ : ∃ e, d = e + 1 := ⟨d - 1, by omega⟩
  induction m with
  | zero =>
    intro t5 t6 q hf
    have h0 : (none : Option (Int32 × MU)) = some q := hf
    cases h0
  | succ m ih =>
    intro t5 t6 q hf
    rw [zX5_wet_L57] at hf
    refine A_iload (pc := 57) dX5_wet_57 rfl ?_
    refine A_aloadn (pc := 59) dX5_wet_59 rfl ?_
    refine A_getI (pc := 60) dX5_wet_60 gX5_46 (lay_s hT (k := 53) (q := (7, 35)) rfl) (Nat.le_of_ble_eq_true rfl) rfl ?_
    refine A_icmp_ge (pc := 63) 86 dX5_wet_63 (by decide) (fun cc12 => ?_) (fun cc12 => ?_)
    · have hf := oi_t cc12 hf
      exact hk _ _ _ hf
    have hf := oi_f cc12 hf
    refine A_iload (pc := 66) dX5_wet_66 rfl ?_
    refine A_iconst (pc := 68) 1 dX5_wet_68 rfl ?_
    refine A_aloadn (pc := 69) dX5_wet_69 rfl ?_
    refine A_getR (pc := 70) dX5_wet_70 gX5_19 (lay_s hT (k := 53) (q := (7, 35)) rfl) (Nat.le_of_ble_eq_true rfl) rfl (lay_r hT 55 rfl) ?_
    refine A_iload (pc := 73) dX5_wet_73 rfl ?_
    obtain ⟨h13, hf⟩ := oi_cf hf
    refine A_iald (pc := 75) dX5_wet_75 (lay_s hT (k := 57) (q := (0, 5)) rfl) (oob_f h13) ?_
    refine A_ishl (pc := 76) dX5_wet_76 ?_
    refine A_ior (pc := 77) dX5_wet_77 ?_
    have hf := oi_l hf
    refine A_ist (pc := 78) (L2 := [.ref 53, .int s1, .int s2, .int s3, .int s4, .int (t5 ||| (1 <<< ((u 57 t6.toNatClampNeg) &&& 31))), .int t6]) dX5_wet_78 (Nat.le_of_ble_eq_true rfl) rfl ?_
    refine A_inc (pc := 80) (L2 := [.ref 53, .int s1, .int s2, .int s3, .int s4, .int (t5 ||| (1 <<< ((u 57 t6.toNatClampNeg) &&& 31))), .int (t6 + 1)]) (t6 + 1) dX5_wet_80 rfl rfl rfl ?_
    refine A_goto (pc := 83) 57 dX5_wet_83 (by decide) ?_
    exact ih _ _ _ hf
set_option maxHeartbeats 4000000 in
set_option maxRecDepth 100000 in
theorem wX5_wet_L108 {G : GG} {T : TT} {n d : Nat} (hd : 6 ≤ d) {u : MU} {s1 : Int32} {s2 : Int32} {s3 : Int32} {k : Int32 → Int32 → Option (Int32 × MU)} (hT : LAY T) (hk : ∀ (t4 : Int32) (t6 : Int32) (q : Int32 × MU), k t4 t6 = some q → AW G d mX5_wet 147 [.ref 53, .int s1, .int s2, .int s3, .int t4, .null, .int t6] [] T u 0 0 (QS T q.1 q.2)) : ∀ (m : Nat) (t4 : Int32) (t6 : Int32) (q : Int32 × MU), zX5_wet_L108 n u  s1 s2 s3 k m t4 t6 = some q → AW G d mX5_wet 108 [.ref 53, .int s1, .int s2, .int s3, .int t4, .null, .int t6] [] T u 0 0 (QS T q.1 q.2) := by
  intro m
  obtain ⟨d, rfl⟩ : ∃ e, d = e + 1 := ⟨d - 1, by omega⟩
  induction m with
  | zero =>
    intro t4 t6 q hf
    have h0 : (none : Option (Int32 × MU)) = some q := hf
    cases h0
  | succ m ih =>
    intro t4 t6 q hf
    rw [zX5_wet_L108] at hf
    refine A_iload (pc := 108) dX5_wet_108 rfl ?_
    refine A_aloadn (pc := 110) dX5_wet_110 rfl ?_
    refine A_getI (pc := 111) dX5_wet_111 gX5_46 (lay_s hT (k := 53) (q := (7, 35)) rfl) (Nat.le_of_ble_eq_true rfl) rfl ?_
    refine A_icmp_ge (pc := 114) 147 dX5_wet_114 (by decide) (fun cc21 => ?_) (fun cc21 => ?_)
    · have hf := oi_t cc21 hf
      exact hk _ _ _ hf
    have hf := oi_f cc21 hf
    refine A_iload (pc := 117) dX5_wet_117 rfl ?_
    refine A_aloadn (pc := 119) dX5_wet_119 rfl ?_
    refine A_getR (pc := 120) dX5_wet_120 gX5_19 (lay_s hT (k := 53) (q := (7, 35)) rfl) (Nat.le_of_ble_eq_true rfl) rfl (lay_r hT 55 rfl) ?_
    refine A_iload (pc := 123) dX5_wet_123 rfl ?_
    obtain ⟨h22, hf⟩ := oi_cf hf
    refine A_iald (pc := 125) dX5_wet_125 (lay_s hT (k := 57) (q := (0, 5)) rfl) (oob_f h22) ?_
    refine A_iloadn (pc := 126) dX5_wet_126 rfl ?_
    refine A_icmp_ne (pc := 127) 137 dX5_wet_127 (by decide) (fun cc23 => ?_) (fun cc23 => ?_)
    · have hf := oi_f cc23 hf
      refine A_iconst (pc := 137) 0 dX5_wet_137 rfl ?_
      refine A_ior (pc := 138) dX5_wet_138 ?_
      have hf := oi_l hf
      refine A_ist (pc := 139) (L2 := [.ref 53, .int s1, .int s2, .int s3, .int (t4 ||| 0), .null, .int t6]) dX5_wet_139 (Nat.le_of_ble_eq_true rfl) rfl ?_
      refine A_inc (pc := 141) (L2 := [.ref 53, .int s1, .int s2, .int s3, .int (t4 ||| 0), .null, .int (t6 + 1)]) (t6 + 1) dX5_wet_141 rfl rfl rfl ?_
      refine A_goto (pc := 144) 108 dX5_wet_144 (by decide) ?_
      exact ih _ _ _ hf
    have hf := oi_t cc23 hf
    refine A_iconst (pc := 130) 1 dX5_wet_130 rfl ?_
    refine A_iload (pc := 131) dX5_wet_131 rfl ?_
    refine A_ishl (pc := 133) dX5_wet_133 ?_
    refine A_goto (pc := 134) 138 dX5_wet_134 (by decide) ?_
    refine A_ior (pc := 138) dX5_wet_138 ?_
    have hf := oi_l hf
    refine A_ist (pc := 139) (L2 := [.ref 53, .int s1, .int s2, .int s3, .int (t4 ||| (1 <<< (t6 &&& 31))), .null, .int t6]) dX5_wet_139 (Nat.le_of_ble_eq_true rfl) rfl ?_
    refine A_inc (pc := 141) (L2 := [.ref 53, .int s1, .int s2, .int s3, .int (t4 ||| (1 <<< (t6 &&& 31))), .null, .int (t6 + 1)]) (t6 + 1) dX5_wet_141 rfl rfl rfl ?_
    refine A_goto (pc := 144) 108 dX5_wet_144 (by decide) ?_
    exact ih _ _ _ hf
set_option maxHeartbeats 4000000 in
set_option maxRecDepth 100000 in
theorem wX5_wet_L44 {G : GG} {T : TT} {n d : Nat} (hd : 6 ≤ d) {s1 : Int32} {s2 : Int32} {k : Int32 → Int32 → MU → Option (Int32 × MU)} (hT : LAY T) (hk : ∀ (t3 : Int32) (t4 : Int32) (u : MU) (q : Int32 × MU), k t3 t4 u = some q → AW G d mX5_wet 150 [.ref 53, .int s1, .int s2, .int t3, .int t4, .null, .null] [] T u 0 0 (QS T q.1 q.2)) : ∀ (m : Nat) (t3 : Int32) (t4 : Int32) (u : MU) (q : Int32 × MU), zX5_wet_L44 n  s1 s2 k m t3 t4 u = some q → AW G d mX5_wet 44 [.ref 53, .int s1, .int s2, .int t3, .int t4, .null, .null] [] T u 0 0 (QS T q.1 q.2) := by
  intro m
  obtain ⟨d, rfl⟩ : ∃ e, d = e + 1 := ⟨d - 1, by omega⟩
  induction m with
  | zero =>
    intro t3 t4 u q hf
    have h0 : (none : Option (Int32 × MU)) = some q := hf
    cases h0
  | succ m ih =>
    intro t3 t4 u q hf
    rw [zX5_wet_L44] at hf
    refine A_aloadn (pc := 44) dX5_wet_44 rfl ?_
    obtain ⟨q9, h10, hf⟩ := oi_b hf
    refine A_cV0i (mi2 := mX5_nextChain) (pc := 45) dX5_wet_45 lX5_222 fX5_nextChain vX5_nextChain (lay_s hT (k := 53) (q := (7, 35)) rfl) rfl (Nat.le_of_ble_eq_true rfl) rfl (Nat.le_of_ble_eq_true rfl) (wX5_nextChain (by omega) hT  h10) ?_
    refine A_if_eq (pc := 48) (w := 0) 150 dX5_wet_48 (by decide) (fun cc11 => ?_) (fun cc11 => ?_)
    · have hf := oi_t cc11 hf
      exact hk _ _ _ _ hf
    have hf := oi_f cc11 hf
    refine A_iconst (pc := 51) 0 dX5_wet_51 rfl ?_
    refine A_ist (pc := 52) (L2 := [.ref 53, .int s1, .int s2, .int t3, .int t4, .int 0, .null]) dX5_wet_52 (Nat.le_of_ble_eq_true rfl) rfl ?_
    refine A_iconst (pc := 54) 0 dX5_wet_54 rfl ?_
    refine A_ist (pc := 55) (L2 := [.ref 53, .int s1, .int s2, .int t3, .int t4, .int 0, .int 0]) dX5_wet_55 (Nat.le_of_ble_eq_true rfl) rfl ?_
    exact wX5_wet_L57 (by omega) hT  (fun y15 y16 q0 hf => by
      refine A_iload (pc := 86) dX5_wet_86 rfl ?_
      refine A_iloadn (pc := 88) dX5_wet_88 rfl ?_
      refine A_icmp_ne (pc := 89) 44 dX5_wet_89 (by decide) (fun cc17 => ?_) (fun cc17 => ?_)
      · have hf := oi_f cc17 hf
        refine A_fgt 5 (L' := [.ref 53, .int s1, .int s2, .int t3, .int t4, .null, .int y16]) rfl ?_
        refine A_fgt 6 (L' := [.ref 53, .int s1, .int s2, .int t3, .int t4, .null, .null]) rfl ?_
        exact ih _ _ _ _ hf
      have hf := oi_t cc17 hf
      refine A_aloadn (pc := 92) dX5_wet_92 rfl ?_
      obtain ⟨q18, h19, hf⟩ := oi_b hf
      refine A_cV0i (mi2 := mX5_doesStand) (pc := 93) dX5_wet_93 lX5_207 fX5_doesStand vX5_doesStand (lay_s hT (k := 53) (q := (7, 35)) rfl) rfl (Nat.le_of_ble_eq_true rfl) rfl (Nat.le_of_ble_eq_true rfl) (wX5_doesStand (by omega) hT  h19) ?_
      refine A_if_ne (pc := 96) (w := 0) 102 dX5_wet_96 (by decide) (fun cc20 => ?_) (fun cc20 => ?_)
      · have hf := oi_f cc20 hf
        refine A_inc (pc := 102) (L2 := [.ref 53, .int s1, .int s2, .int (t3 + 1), .int t4, .int y15, .int y16]) (t3 + 1) dX5_wet_102 rfl rfl rfl ?_
        refine A_iconst (pc := 105) 0 dX5_wet_105 rfl ?_
        refine A_ist (pc := 106) (L2 := [.ref 53, .int s1, .int s2, .int (t3 + 1), .int t4, .int y15, .int 0]) dX5_wet_106 (Nat.le_of_ble_eq_true rfl) rfl ?_
        refine A_fgt 5 (L' := [.ref 53, .int s1, .int s2, .int (t3 + 1), .int t4, .null, .int 0]) rfl ?_
        exact wX5_wet_L108 (by omega) hT  (fun y26 y27 q0 hf => by
          refine A_goto (pc := 147) 44 dX5_wet_147 (by decide) ?_
          refine A_fgt 6 (L' := [.ref 53, .int s1, .int s2, .int (t3 + 1), .int y26, .null, .null]) rfl ?_
          exact ih _ _ _ _ hf) _ _ _ _ hf
      have hf := oi_t cc20 hf
      refine A_goto (pc := 99) 44 dX5_wet_99 (by decide) ?_
      refine A_fgt 5 (L' := [.ref 53, .int s1, .int s2, .int t3, .int t4, .null, .int y16]) rfl ?_
      refine A_fgt 6 (L' := [.ref 53, .int s1, .int s2, .int t3, .int t4, .null, .null]) rfl ?_
      exact ih _ _ _ _ hf) _ _ _ _ hf
set_option maxHeartbeats 4000000 in
set_option maxRecDepth 100000 in
theorem wX5_wet {G : GG} {T : TT} {n d : Nat} (hd : 6 ≤ d) {q : Int32 × MU} {u : MU} {a1 : Int32} {a2 : Int32} (hT : LAY T) (hf : zX5_wet n u a1 a2 = some q) : AW G d mX5_wet 0 [.ref 53, .int a1, .int a2, .null, .null, .null, .null] [] T u 0 0 (QS T q.1 q.2) := by
  obtain ⟨d, rfl⟩ : ∃ e, d = e + 1 := ⟨d - 1, by omega⟩
  rw [zX5_wet] at hf
  refine A_aloadn (pc := 0) dX5_wet_0 rfl ?_
  refine A_iloadn (pc := 1) dX5_wet_1 rfl ?_
  obtain ⟨q1, h2, hf⟩ := oi_b hf
  refine A_cV1i (mi2 := mX5_areDry) (pc := 2) dX5_wet_2 lX5_252 fX5_areDry vX5_areDry (lay_s hT (k := 53) (q := (7, 35)) rfl) rfl (Nat.le_of_ble_eq_true rfl) rfl (Nat.le_of_ble_eq_true rfl) (wX5_areDry (by omega) hT  h2) ?_
  refine A_if_eq (pc := 5) (w := 0) 29 dX5_wet_5 (by decide) (fun cc3 => ?_) (fun cc3 => ?_)
  · have hf := oi_t cc3 hf
    refine A_aloadn (pc := 29) dX5_wet_29 rfl ?_
    refine A_iconst (pc := 30) (-1) dX5_wet_30 rfl ?_
    obtain ⟨q4, h5, hf⟩ := oi_b hf
    refine A_cV1i (mi2 := mX5_no) (pc := 31) dX5_wet_31 lX5_92 fX5_no vX5_no (lay_s hT (k := 53) (q := (7, 35)) rfl) rfl (Nat.le_of_ble_eq_true rfl) rfl (Nat.le_of_ble_eq_true rfl) (wX5_no (by omega) hT  h5) ?_
    obtain rfl := Option.some.inj hf
    exact A_iret (pc := 34) dX5_wet_34 rfl rfl ⟨rfl, rfl, rfl⟩
  have hf := oi_f cc3 hf
  refine A_iloadn (pc := 8) dX5_wet_8 rfl ?_
  refine A_iconst (pc := 9) (-1) dX5_wet_9 rfl ?_
  refine A_icmp_eq (pc := 10) 35 dX5_wet_10 (by decide) (fun cc6 => ?_) (fun cc6 => ?_)
  · have hf := oi_t cc6 hf
    refine A_aloadn (pc := 35) dX5_wet_35 rfl ?_
    obtain ⟨q7, h8, hf⟩ := oi_b hf
    refine A_cV0v (mi2 := mX5_putsAway) (pc := 36) dX5_wet_36 lX5_219 fX5_putsAway vX5_putsAway (lay_s hT (k := 53) (q := (7, 35)) rfl) rfl (Nat.le_of_ble_eq_true rfl) rfl (Nat.le_of_ble_eq_true rfl) (wX5_putsAway (by omega) hT  h8) ?_
    refine A_iconst (pc := 39) 0 dX5_wet_39 rfl ?_
    refine A_istn (pc := 40) (L2 := [.ref 53, .int a1, .int a2, .int 0, .null, .null, .null]) dX5_wet_40 (Nat.le_of_ble_eq_true rfl) rfl ?_
    refine A_iconst (pc := 41) 0 dX5_wet_41 rfl ?_
    refine A_ist (pc := 42) (L2 := [.ref 53, .int a1, .int a2, .int 0, .int 0, .null, .null]) dX5_wet_42 (Nat.le_of_ble_eq_true rfl) rfl ?_
    exact wX5_wet_L44 (by omega) hT  (fun y28 y29 w30 q0 hf => by
      refine A_aloadn (pc := 150) dX5_wet_150 rfl ?_
      obtain ⟨q31, h32, hf⟩ := oi_b hf
      refine A_cV0v (mi2 := mX5_putsBack) (pc := 151) dX5_wet_151 lX5_225 fX5_putsBack vX5_putsBack (lay_s hT (k := 53) (q := (7, 35)) rfl) rfl (Nat.le_of_ble_eq_true rfl) rfl (Nat.le_of_ble_eq_true rfl) (wX5_putsBack (by omega) hT  h32) ?_
      refine A_iloadn (pc := 154) dX5_wet_154 rfl ?_
      refine A_iconst (pc := 155) (-1) dX5_wet_155 rfl ?_
      refine A_icmp_ne (pc := 156) 163 dX5_wet_156 (by decide) (fun cc33 => ?_) (fun cc33 => ?_)
      · have hf := oi_f cc33 hf
        refine A_iload (pc := 163) dX5_wet_163 rfl ?_
        obtain rfl := Option.some.inj hf
        exact A_iret (pc := 165) dX5_wet_165 rfl rfl ⟨rfl, rfl, rfl⟩
      have hf := oi_t cc33 hf
      refine A_iloadn (pc := 159) dX5_wet_159 rfl ?_
      refine A_goto (pc := 160) 165 dX5_wet_160 (by decide) ?_
      obtain rfl := Option.some.inj hf
      exact A_iret (pc := 165) dX5_wet_165 rfl rfl ⟨rfl, rfl, rfl⟩) _ _ _ _ _ hf
  have hf := oi_f cc6 hf
  refine A_aloadn (pc := 13) dX5_wet_13 rfl ?_
  refine A_iloadn (pc := 14) dX5_wet_14 rfl ?_
  obtain ⟨q34, h35, hf⟩ := oi_b hf
  refine A_cV1i (mi2 := mX5_isOne) (pc := 15) dX5_wet_15 lX5_81 fX5_isOne vX5_isOne (lay_s hT (k := 53) (q := (7, 35)) rfl) rfl (Nat.le_of_ble_eq_true rfl) rfl (Nat.le_of_ble_eq_true rfl) (wX5_isOne (by omega) hT  h35) ?_
  refine A_if_eq (pc := 18) (w := 0) 29 dX5_wet_18 (by decide) (fun cc36 => ?_) (fun cc36 => ?_)
  · have hf := oi_t cc36 hf
    refine A_aloadn (pc := 29) dX5_wet_29 rfl ?_
    refine A_iconst (pc := 30) (-1) dX5_wet_30 rfl ?_
    obtain ⟨q37, h38, hf⟩ := oi_b hf
    refine A_cV1i (mi2 := mX5_no) (pc := 31) dX5_wet_31 lX5_92 fX5_no vX5_no (lay_s hT (k := 53) (q := (7, 35)) rfl) rfl (Nat.le_of_ble_eq_true rfl) rfl (Nat.le_of_ble_eq_true rfl) (wX5_no (by omega) hT  h38) ?_
    obtain rfl := Option.some.inj hf
    exact A_iret (pc := 34) dX5_wet_34 rfl rfl ⟨rfl, rfl, rfl⟩
  have hf := oi_f cc36 hf
  refine A_iloadn (pc := 21) dX5_wet_21 rfl ?_
  refine A_iloadn (pc := 22) dX5_wet_22 rfl ?_
  refine A_ishr (pc := 23) dX5_wet_23 ?_
  refine A_iconst (pc := 24) 1 dX5_wet_24 rfl ?_
  refine A_iand (pc := 25) dX5_wet_25 ?_
  refine A_if_ne (pc := 26) (w := 0) 35 dX5_wet_26 (by decide) (fun cc39 => ?_) (fun cc39 => ?_)
  · have hf := oi_f cc39 hf
    refine A_aloadn (pc := 35) dX5_wet_35 rfl ?_
    obtain ⟨q40, h41, hf⟩ := oi_b hf
    refine A_cV0v (mi2 := mX5_putsAway) (pc := 36) dX5_wet_36 lX5_219 fX5_putsAway vX5_putsAway (lay_s hT (k := 53) (q := (7, 35)) rfl) rfl (Nat.le_of_ble_eq_true rfl) rfl (Nat.le_of_ble_eq_true rfl) (wX5_putsAway (by omega) hT  h41) ?_
    refine A_iconst (pc := 39) 0 dX5_wet_39 rfl ?_
    refine A_istn (pc := 40) (L2 := [.ref 53, .int a1, .int a2, .int 0, .null, .null, .null]) dX5_wet_40 (Nat.le_of_ble_eq_true rfl) rfl ?_
    refine A_iconst (pc := 41) 0 dX5_wet_41 rfl ?_
    refine A_ist (pc := 42) (L2 := [.ref 53, .int a1, .int a2, .int 0, .int 0, .null, .null]) dX5_wet_42 (Nat.le_of_ble_eq_true rfl) rfl ?_
    exact wX5_wet_L44 (by omega) hT  (fun y42 y43 w44 q0 hf => by
      refine A_aloadn (pc := 150) dX5_wet_150 rfl ?_
      obtain ⟨q45, h46, hf⟩ := oi_b hf
      refine A_cV0v (mi2 := mX5_putsBack) (pc := 151) dX5_wet_151 lX5_225 fX5_putsBack vX5_putsBack (lay_s hT (k := 53) (q := (7, 35)) rfl) rfl (Nat.le_of_ble_eq_true rfl) rfl (Nat.le_of_ble_eq_true rfl) (wX5_putsBack (by omega) hT  h46) ?_
      refine A_iloadn (pc := 154) dX5_wet_154 rfl ?_
      refine A_iconst (pc := 155) (-1) dX5_wet_155 rfl ?_
      refine A_icmp_ne (pc := 156) 163 dX5_wet_156 (by decide) (fun cc47 => ?_) (fun cc47 => ?_)
      · have hf := oi_f cc47 hf
        refine A_iload (pc := 163) dX5_wet_163 rfl ?_
        obtain rfl := Option.some.inj hf
        exact A_iret (pc := 165) dX5_wet_165 rfl rfl ⟨rfl, rfl, rfl⟩
      have hf := oi_t cc47 hf
      refine A_iloadn (pc := 159) dX5_wet_159 rfl ?_
      refine A_goto (pc := 160) 165 dX5_wet_160 (by decide) ?_
      obtain rfl := Option.some.inj hf
      exact A_iret (pc := 165) dX5_wet_165 rfl rfl ⟨rfl, rfl, rfl⟩) _ _ _ _ _ hf
  have hf := oi_t cc39 hf
  refine A_aloadn (pc := 29) dX5_wet_29 rfl ?_
  refine A_iconst (pc := 30) (-1) dX5_wet_30 rfl ?_
  obtain ⟨q48, h49, hf⟩ := oi_b hf
  refine A_cV1i (mi2 := mX5_no) (pc := 31) dX5_wet_31 lX5_92 fX5_no vX5_no (lay_s hT (k := 53) (q := (7, 35)) rfl) rfl (Nat.le_of_ble_eq_true rfl) rfl (Nat.le_of_ble_eq_true rfl) (wX5_no (by omega) hT  h49) ?_
  obtain rfl := Option.some.inj hf
  exact A_iret (pc := 34) dX5_wet_34 rfl rfl ⟨rfl, rfl, rfl⟩
def zX5_row (n : Nat) (u : MU) (a1 : Int32) : Option (Int32 × MU) := Option.bind (zX5_bound n u a1 0 6) (fun q1 => if q1 = 0 then (if (u 53 34) = 5 then (Option.bind (zX5_no n u (-6)) (fun q17 => some (q17.1, q17.2))) else (if q1 = 0 then (if oob (u 53 34) 5 then none else letb (up2 u 73 (u 53 34).toNatClampNeg a1) (fun u13 => letb (up2 u13 53 34 ((u13 53 34) + 1)) (fun u14 => some ((u14 53 34), u14)))) else (Option.bind (zX5_no n u q1) (fun q15 => some (q15.1, q15.2))))) else (if q1 = 0 then (if oob (u 53 34) 5 then none else letb (up2 u 73 (u 53 34).toNatClampNeg a1) (fun u6 => letb (up2 u6 53 34 ((u6 53 34) + 1)) (fun u7 => some ((u7 53 34), u7)))) else (Option.bind (zX5_no n u q1) (fun q8 => some (q8.1, q8.2)))))
set_option maxHeartbeats 4000000 in
set_option maxRecDepth 100000 in
theorem wX5_row {G : GG} {T : TT} {n d : Nat} (hd : 1 ≤ d) {q : Int32 × MU} {u : MU} {a1 : Int32} (hT : LAY T) (hf : zX5_row n u a1 = some q) : AW G d mX5_row 0 [.ref 53, .int a1, .null] [] T u 0 0 (QS T q.1 q.2) := by
  obtain ⟨d, rfl⟩ : ∃ e, d = e + 1 := ⟨d - 1, by omega⟩
  rw [zX5_row] at hf
  refine A_iloadn (pc := 0) dX5_row_0 rfl ?_
  refine A_iconst (pc := 1) 0 dX5_row_1 rfl ?_
  refine A_bipush (pc := 2) 6 dX5_row_2 rfl ?_
  obtain ⟨q1, h2, hf⟩ := oi_b hf
  refine A_cS3i (mi2 := mX5_bound) (pc := 4) dX5_row_4 lX5_85 fX5_bound sX5_bound (Nat.le_of_ble_eq_true rfl) rfl (Nat.le_of_ble_eq_true rfl) (wX5_bound (by omega) hT  h2) ?_
  refine A_istn (pc := 7) (L2 := [.ref 53, .int a1, .int q1]) dX5_row_7 (Nat.le_of_ble_eq_true rfl) rfl ?_
  refine A_iloadn (pc := 8) dX5_row_8 rfl ?_
  refine A_if_ne (pc := 9) (w := 0) 23 dX5_row_9 (by decide) (fun cc3 => ?_) (fun cc3 => ?_)
  · have hf := oi_f cc3 hf
    refine A_iloadn (pc := 23) dX5_row_23 rfl ?_
    refine A_if_eq (pc := 24) (w := 0) 33 dX5_row_24 (by decide) (fun cc4 => ?_) (fun cc4 => ?_)
    · have hf := oi_t cc4 hf
      refine A_aloadn (pc := 33) dX5_row_33 rfl ?_
      refine A_getR (pc := 34) dX5_row_34 gX5_74 (lay_s hT (k := 53) (q := (7, 35)) rfl) (Nat.le_of_ble_eq_true rfl) rfl (lay_r hT 71 rfl) ?_
      refine A_aloadn (pc := 37) dX5_row_37 rfl ?_
      refine A_getI (pc := 38) dX5_row_38 gX5_255 (lay_s hT (k := 53) (q := (7, 35)) rfl) (Nat.le_of_ble_eq_true rfl) rfl ?_
      refine A_iloadn (pc := 41) dX5_row_41 rfl ?_
      obtain ⟨h5, hf⟩ := oi_cf hf
      have hf := oi_l hf
      refine A_iast (pc := 42) dX5_row_42 (lay_s hT (k := 73) (q := (0, 5)) rfl) (oob_f h5) ?_
      refine A_aloadn (pc := 43) dX5_row_43 rfl ?_
      refine A_dup (pc := 44) dX5_row_44 ?_
      refine A_getI (pc := 45) dX5_row_45 gX5_255 (lay_s hT (k := 53) (q := (7, 35)) rfl) (Nat.le_of_ble_eq_true rfl) rfl ?_
      refine A_iconst (pc := 48) 1 dX5_row_48 rfl ?_
      refine A_iadd (pc := 49) dX5_row_49 ?_
      have hf := oi_l hf
      refine A_putI (pc := 50) dX5_row_50 gX5_255 (lay_s hT (k := 53) (q := (7, 35)) rfl) (Nat.le_of_ble_eq_true rfl) rfl rfl rfl rfl ?_
      refine A_aloadn (pc := 53) dX5_row_53 rfl ?_
      refine A_getI (pc := 54) dX5_row_54 gX5_255 (lay_s hT (k := 53) (q := (7, 35)) rfl) (Nat.le_of_ble_eq_true rfl) rfl ?_
      obtain rfl := Option.some.inj hf
      exact A_iret (pc := 57) dX5_row_57 rfl rfl ⟨rfl, rfl, rfl⟩
    have hf := oi_f cc4 hf
    refine A_aloadn (pc := 27) dX5_row_27 rfl ?_
    refine A_iloadn (pc := 28) dX5_row_28 rfl ?_
    obtain ⟨q8, h9, hf⟩ := oi_b hf
    refine A_cV1i (mi2 := mX5_no) (pc := 29) dX5_row_29 lX5_92 fX5_no vX5_no (lay_s hT (k := 53) (q := (7, 35)) rfl) rfl (Nat.le_of_ble_eq_true rfl) rfl (Nat.le_of_ble_eq_true rfl) (wX5_no (by omega) hT  h9) ?_
    obtain rfl := Option.some.inj hf
    exact A_iret (pc := 32) dX5_row_32 rfl rfl ⟨rfl, rfl, rfl⟩
  have hf := oi_t cc3 hf
  refine A_aloadn (pc := 12) dX5_row_12 rfl ?_
  refine A_getI (pc := 13) dX5_row_13 gX5_255 (lay_s hT (k := 53) (q := (7, 35)) rfl) (Nat.le_of_ble_eq_true rfl) rfl ?_
  refine A_iconst (pc := 16) 5 dX5_row_16 rfl ?_
  refine A_icmp_ne (pc := 17) 23 dX5_row_17 (by decide) (fun cc10 => ?_) (fun cc10 => ?_)
  · have hf := oi_f cc10 hf
    refine A_iloadn (pc := 23) dX5_row_23 rfl ?_
    refine A_if_eq (pc := 24) (w := 0) 33 dX5_row_24 (by decide) (fun cc11 => ?_) (fun cc11 => ?_)
    · have hf := oi_t cc11 hf
      refine A_aloadn (pc := 33) dX5_row_33 rfl ?_
      refine A_getR (pc := 34) dX5_row_34 gX5_74 (lay_s hT (k := 53) (q := (7, 35)) rfl) (Nat.le_of_ble_eq_true rfl) rfl (lay_r hT 71 rfl) ?_
      refine A_aloadn (pc := 37) dX5_row_37 rfl ?_
      refine A_getI (pc := 38) dX5_row_38 gX5_255 (lay_s hT (k := 53) (q := (7, 35)) rfl) (Nat.le_of_ble_eq_true rfl) rfl ?_
      refine A_iloadn (pc := 41) dX5_row_41 rfl ?_
      obtain ⟨h12, hf⟩ := oi_cf hf
      have hf := oi_l hf
      refine A_iast (pc := 42) dX5_row_42 (lay_s hT (k := 73) (q := (0, 5)) rfl) (oob_f h12) ?_
      refine A_aloadn (pc := 43) dX5_row_43 rfl ?_
      refine A_dup (pc := 44) dX5_row_44 ?_
      refine A_getI (pc := 45) dX5_row_45 gX5_255 (lay_s hT (k := 53) (q := (7, 35)) rfl) (Nat.le_of_ble_eq_true rfl) rfl ?_
      refine A_iconst (pc := 48) 1 dX5_row_48 rfl ?_
      refine A_iadd (pc := 49) dX5_row_49 ?_
      have hf := oi_l hf
      refine A_putI (pc := 50) dX5_row_50 gX5_255 (lay_s hT (k := 53) (q := (7, 35)) rfl) (Nat.le_of_ble_eq_true rfl) rfl rfl rfl rfl ?_
      refine A_aloadn (pc := 53) dX5_row_53 rfl ?_
      refine A_getI (pc := 54) dX5_row_54 gX5_255 (lay_s hT (k := 53) (q := (7, 35)) rfl) (Nat.le_of_ble_eq_true rfl) rfl ?_
      obtain rfl := Option.some.inj hf
      exact A_iret (pc := 57) dX5_row_57 rfl rfl ⟨rfl, rfl, rfl⟩
    have hf := oi_f cc11 hf
    refine A_aloadn (pc := 27) dX5_row_27 rfl ?_
    refine A_iloadn (pc := 28) dX5_row_28 rfl ?_
    obtain ⟨q15, h16, hf⟩ := oi_b hf
    refine A_cV1i (mi2 := mX5_no) (pc := 29) dX5_row_29 lX5_92 fX5_no vX5_no (lay_s hT (k := 53) (q := (7, 35)) rfl) rfl (Nat.le_of_ble_eq_true rfl) rfl (Nat.le_of_ble_eq_true rfl) (wX5_no (by omega) hT  h16) ?_
    obtain rfl := Option.some.inj hf
    exact A_iret (pc := 32) dX5_row_32 rfl rfl ⟨rfl, rfl, rfl⟩
  have hf := oi_t cc10 hf
  refine A_bipush (pc := 20) (-6) dX5_row_20 rfl ?_
  refine A_istn (pc := 22) (L2 := [.ref 53, .int a1, .int (-6)]) dX5_row_22 (Nat.le_of_ble_eq_true rfl) rfl ?_
  refine A_iloadn (pc := 23) dX5_row_23 rfl ?_
  refine A_if_eq (pc := 24) (w := 0) 33 dX5_row_24 (by decide) (fun c9 => absurd c9 (by decide)) (fun _ => ?_)
  refine A_aloadn (pc := 27) dX5_row_27 rfl ?_
  refine A_iloadn (pc := 28) dX5_row_28 rfl ?_
  obtain ⟨q17, h18, hf⟩ := oi_b hf
  refine A_cV1i (mi2 := mX5_no) (pc := 29) dX5_row_29 lX5_92 fX5_no vX5_no (lay_s hT (k := 53) (q := (7, 35)) rfl) rfl (Nat.le_of_ble_eq_true rfl) rfl (Nat.le_of_ble_eq_true rfl) (wX5_no (by omega) hT  h18) ?_
  obtain rfl := Option.some.inj hf
  exact A_iret (pc := 32) dX5_row_32 rfl rfl ⟨rfl, rfl, rfl⟩
def zX5_judge_L14 (n : Nat) (u : MU) (s1 : Int32) (k : Int32 → Int32 → Option (Int32 × MU)) : Nat → Int32 → Int32 → Option (Int32 × MU)
  | 0, _, _ => none
  | m + 1, t2, t3 => if s1 ≤ t3 then (k t2 t3) else (if oob t3 5 then none else letb (u 73 t3.toNatClampNeg) (fun x5 => if t3 = (u 53 12) then (some ((u 53 12), u)) else (Option.bind (zX5_isOne n u x5) (fun q7 => if q7 = 0 then (some (t3, u)) else (if oob x5 7 then none else if (u 63 x5.toNatClampNeg) = 1 then (some (t3, u)) else (if ((t2 >>> (x5 &&& 31)) &&& 1) = 1 then (some (t3, u)) else (if t3 ≤ 0 then (Option.bind (zX5_slipsIn n u t3 x5 (-9)) (fun q14 => if q14 = (-1) then (letb (t2 ||| (1 <<< (x5 &&& 31))) (fun x17 => zX5_judge_L14 n u  s1 k m x17 (t3 + 1))) else (some (t3, u)))) else (if oob (t3 - 1) 5 then none else Option.bind (zX5_slipsIn n u t3 x5 (u 73 (t3 - 1).toNatClampNeg)) (fun q19 => if q19 = (-1) then (letb (t2 ||| (1 <<< (x5 &&& 31))) (fun x22 => zX5_judge_L14 n u  s1 k m x22 (t3 + 1))) else (some (t3, u)))))))))))
def zX5_judge (n : Nat) (u : MU) : Option (Int32 × MU) := letb (u 53 34) (fun x1 => letb (up2 u 53 34 0) (fun u2 => zX5_judge_L14 n u2  x1 (fun y23 y24 => if (u2 53 12) ≤ x1 then (some ((-9), u2)) else (some (x1, u2))) n 0 0))
set_option maxHeartbeats 4000000 in
set_option maxRecDepth 100000 in
theorem wX5_judge_L14 {G : GG} {T : TT} {n d : Nat} (hd : 4 ≤ d) {u : MU} {s1 : Int32} {k : Int32 → Int32 → Option (Int32 × MU)} (hT : LAY T) (hk : ∀ (t2 : Int32) (t3 : Int32) (q : Int32 × MU), k t2 t3 = some q → AW G d mX5_judge 113 [.ref 53, .int s1, .int t2, .int t3, .null] [] T u 0 0 (QS T q.1 q.2)) : ∀ (m : Nat) (t2 : Int32) (t3 : Int32) (q : Int32 × MU), zX5_judge_L14 n u  s1 k m t2 t3 = some q → AW G d mX5_judge 14 [.ref 53, .int s1, .int t2, .int t3, .null] [] T u 0 0 (QS T q.1 q.2) := by
  intro m
  obtain ⟨d, rfl⟩ : ∃ e, d = e + 1 := ⟨d - 1, by omega⟩
  induction m with
  | zero =>
    intro t2 t3 q hf
    have h0 : (none : Option (Int32 × MU)) = some q := hf
    cases h0
  | succ m ih =>
    intro t2 t3 q hf
    rw [zX5_judge_L14] at hf
    refine A_iloadn (pc := 14) dX5_judge_14 rfl ?_
    refine A_iloadn (pc := 15) dX5_judge_15 rfl ?_
    refine A_icmp_ge (pc := 16) 113 dX5_judge_16 (by decide) (fun cc3 => ?_) (fun cc3 => ?_)
    · have hf := oi_t cc3 hf
      exact hk _ _ _ hf
    have hf := oi_f cc3 hf
    refine A_aloadn (pc := 19) dX5_judge_19 rfl ?_
    refine A_getR (pc := 20) dX5_judge_20 gX5_74 (lay_s hT (k := 53) (q := (7, 35)) rfl) (Nat.le_of_ble_eq_true rfl) rfl (lay_r hT 71 rfl) ?_
    refine A_iloadn (pc := 23) dX5_judge_23 rfl ?_
    obtain ⟨h4, hf⟩ := oi_cf hf
    refine A_iald (pc := 24) dX5_judge_24 (lay_s hT (k := 73) (q := (0, 5)) rfl) (oob_f h4) ?_
    have hf := oi_l hf
    refine A_ist (pc := 25) (L2 := [.ref 53, .int s1, .int t2, .int t3, .int (u 73 t3.toNatClampNeg)]) dX5_judge_25 (Nat.le_of_ble_eq_true rfl) rfl ?_
    refine A_iloadn (pc := 27) dX5_judge_27 rfl ?_
    refine A_aloadn (pc := 28) dX5_judge_28 rfl ?_
    refine A_getI (pc := 29) dX5_judge_29 gX5_46 (lay_s hT (k := 53) (q := (7, 35)) rfl) (Nat.le_of_ble_eq_true rfl) rfl ?_
    refine A_icmp_ne (pc := 32) 40 dX5_judge_32 (by decide) (fun cc6 => ?_) (fun cc6 => ?_)
    · have hf := oi_f cc6 hf
      refine A_aloadn (pc := 40) dX5_judge_40 rfl ?_
      refine A_iload (pc := 41) dX5_judge_41 rfl ?_
      obtain ⟨q7, h8, hf⟩ := oi_b hf
      refine A_cV1i (mi2 := mX5_isOne) (pc := 43) dX5_judge_43 lX5_81 fX5_isOne vX5_isOne (lay_s hT (k := 53) (q := (7, 35)) rfl) rfl (Nat.le_of_ble_eq_true rfl) rfl (Nat.le_of_ble_eq_true rfl) (wX5_isOne (by omega) hT  h8) ?_
      refine A_if_eq (pc := 46) (w := 0) 98 dX5_judge_46 (by decide) (fun cc9 => ?_) (fun cc9 => ?_)
      · have hf := oi_t cc9 hf
        refine A_iloadn (pc := 98) dX5_judge_98 rfl ?_
        obtain rfl := Option.some.inj hf
        exact A_iret (pc := 99) dX5_judge_99 rfl rfl ⟨rfl, rfl, rfl⟩
      have hf := oi_f cc9 hf
      refine A_aloadn (pc := 49) dX5_judge_49 rfl ?_
      refine A_getR (pc := 50) dX5_judge_50 gX5_37 (lay_s hT (k := 53) (q := (7, 35)) rfl) (Nat.le_of_ble_eq_true rfl) rfl (lay_r hT 61 rfl) ?_
      refine A_iload (pc := 53) dX5_judge_53 rfl ?_
      obtain ⟨h10, hf⟩ := oi_cf hf
      refine A_iald (pc := 55) dX5_judge_55 (lay_s hT (k := 63) (q := (0, 7)) rfl) (oob_f h10) ?_
      refine A_iconst (pc := 56) 1 dX5_judge_56 rfl ?_
      refine A_icmp_eq (pc := 57) 98 dX5_judge_57 (by decide) (fun cc11 => ?_) (fun cc11 => ?_)
      · have hf := oi_t cc11 hf
        refine A_iloadn (pc := 98) dX5_judge_98 rfl ?_
        obtain rfl := Option.some.inj hf
        exact A_iret (pc := 99) dX5_judge_99 rfl rfl ⟨rfl, rfl, rfl⟩
      have hf := oi_f cc11 hf
      refine A_iloadn (pc := 60) dX5_judge_60 rfl ?_
      refine A_iload (pc := 61) dX5_judge_61 rfl ?_
      refine A_ishr (pc := 63) dX5_judge_63 ?_
      refine A_iconst (pc := 64) 1 dX5_judge_64 rfl ?_
      refine A_iand (pc := 65) dX5_judge_65 ?_
      refine A_iconst (pc := 66) 1 dX5_judge_66 rfl ?_
      refine A_icmp_eq (pc := 67) 98 dX5_judge_67 (by decide) (fun cc12 => ?_) (fun cc12 => ?_)
      · have hf := oi_t cc12 hf
        refine A_iloadn (pc := 98) dX5_judge_98 rfl ?_
        obtain rfl := Option.some.inj hf
        exact A_iret (pc := 99) dX5_judge_99 rfl rfl ⟨rfl, rfl, rfl⟩
      have hf := oi_f cc12 hf
      refine A_aloadn (pc := 70) dX5_judge_70 rfl ?_
      refine A_iloadn (pc := 71) dX5_judge_71 rfl ?_
      refine A_iload (pc := 72) dX5_judge_72 rfl ?_
      refine A_iloadn (pc := 74) dX5_judge_74 rfl ?_
      refine A_if_le (pc := 75) (w := 0) 89 dX5_judge_75 (by decide) (fun cc13 => ?_) (fun cc13 => ?_)
      · have hf := oi_t cc13 hf
        refine A_bipush (pc := 89) (-9) dX5_judge_89 rfl ?_
        obtain ⟨q14, h15, hf⟩ := oi_b hf
        refine A_cV3i (mi2 := mX5_slipsIn) (pc := 91) dX5_judge_91 lX5_201 fX5_slipsIn vX5_slipsIn (lay_s hT (k := 53) (q := (7, 35)) rfl) rfl (Nat.le_of_ble_eq_true rfl) rfl (Nat.le_of_ble_eq_true rfl) (wX5_slipsIn (by omega) hT  h15) ?_
        refine A_iconst (pc := 94) (-1) dX5_judge_94 rfl ?_
        refine A_icmp_eq (pc := 95) 100 dX5_judge_95 (by decide) (fun cc16 => ?_) (fun cc16 => ?_)
        · have hf := oi_t cc16 hf
          refine A_iloadn (pc := 100) dX5_judge_100 rfl ?_
          refine A_iconst (pc := 101) 1 dX5_judge_101 rfl ?_
          refine A_iload (pc := 102) dX5_judge_102 rfl ?_
          refine A_ishl (pc := 104) dX5_judge_104 ?_
          refine A_ior (pc := 105) dX5_judge_105 ?_
          have hf := oi_l hf
          refine A_istn (pc := 106) (L2 := [.ref 53, .int s1, .int (t2 ||| (1 <<< ((u 73 t3.toNatClampNeg) &&& 31))), .int t3, .int (u 73 t3.toNatClampNeg)]) dX5_judge_106 (Nat.le_of_ble_eq_true rfl) rfl ?_
          refine A_inc (pc := 107) (L2 := [.ref 53, .int s1, .int (t2 ||| (1 <<< ((u 73 t3.toNatClampNeg) &&& 31))), .int (t3 + 1), .int (u 73 t3.toNatClampNeg)]) (t3 + 1) dX5_judge_107 rfl rfl rfl ?_
          refine A_goto (pc := 110) 14 dX5_judge_110 (by decide) ?_
          refine A_fgt 4 (L' := [.ref 53, .int s1, .int (t2 ||| (1 <<< ((u 73 t3.toNatClampNeg) &&& 31))), .int (t3 + 1), .null]) rfl ?_
          exact ih _ _ _ hf
        have hf := oi_f cc16 hf
        refine A_iloadn (pc := 98) dX5_judge_98 rfl ?_
        obtain rfl := Option.some.inj hf
        exact A_iret (pc := 99) dX5_judge_99 rfl rfl ⟨rfl, rfl, rfl⟩
      have hf := oi_f cc13 hf
      refine A_aloadn (pc := 78) dX5_judge_78 rfl ?_
      refine A_getR (pc := 79) dX5_judge_79 gX5_74 (lay_s hT (k := 53) (q := (7, 35)) rfl) (Nat.le_of_ble_eq_true rfl) rfl (lay_r hT 71 rfl) ?_
      refine A_iloadn (pc := 82) dX5_judge_82 rfl ?_
      refine A_iconst (pc := 83) 1 dX5_judge_83 rfl ?_
      refine A_isub (pc := 84) dX5_judge_84 ?_
      obtain ⟨h18, hf⟩ := oi_cf hf
      refine A_iald (pc := 85) dX5_judge_85 (lay_s hT (k := 73) (q := (0, 5)) rfl) (oob_f h18) ?_
      refine A_goto (pc := 86) 91 dX5_judge_86 (by decide) ?_
      obtain ⟨q19, h20, hf⟩ := oi_b hf
      refine A_cV3i (mi2 := mX5_slipsIn) (pc := 91) dX5_judge_91 lX5_201 fX5_slipsIn vX5_slipsIn (lay_s hT (k := 53) (q := (7, 35)) rfl) rfl (Nat.le_of_ble_eq_true rfl) rfl (Nat.le_of_ble_eq_true rfl) (wX5_slipsIn (by omega) hT  h20) ?_
      refine A_iconst (pc := 94) (-1) dX5_judge_94 rfl ?_
      refine A_icmp_eq (pc := 95) 100 dX5_judge_95 (by decide) (fun cc21 => ?_) (fun cc21 => ?_)
      · have hf := oi_t cc21 hf
        refine A_iloadn (pc := 100) dX5_judge_100 rfl ?_
        refine A_iconst (pc := 101) 1 dX5_judge_101 rfl ?_
        refine A_iload (pc := 102) dX5_judge_102 rfl ?_
        refine A_ishl (pc := 104) dX5_judge_104 ?_
        refine A_ior (pc := 105) dX5_judge_105 ?_
        have hf := oi_l hf
        refine A_istn (pc := 106) (L2 := [.ref 53, .int s1, .int (t2 ||| (1 <<< ((u 73 t3.toNatClampNeg) &&& 31))), .int t3, .int (u 73 t3.toNatClampNeg)]) dX5_judge_106 (Nat.le_of_ble_eq_true rfl) rfl ?_
        refine A_inc (pc := 107) (L2 := [.ref 53, .int s1, .int (t2 ||| (1 <<< ((u 73 t3.toNatClampNeg) &&& 31))), .int (t3 + 1), .int (u 73 t3.toNatClampNeg)]) (t3 + 1) dX5_judge_107 rfl rfl rfl ?_
        refine A_goto (pc := 110) 14 dX5_judge_110 (by decide) ?_
        refine A_fgt 4 (L' := [.ref 53, .int s1, .int (t2 ||| (1 <<< ((u 73 t3.toNatClampNeg) &&& 31))), .int (t3 + 1), .null]) rfl ?_
        exact ih _ _ _ hf
      have hf := oi_f cc21 hf
      refine A_iloadn (pc := 98) dX5_judge_98 rfl ?_
      obtain rfl := Option.some.inj hf
      exact A_iret (pc := 99) dX5_judge_99 rfl rfl ⟨rfl, rfl, rfl⟩
    have hf := oi_t cc6 hf
    refine A_aloadn (pc := 35) dX5_judge_35 rfl ?_
    refine A_getI (pc := 36) dX5_judge_36 gX5_46 (lay_s hT (k := 53) (q := (7, 35)) rfl) (Nat.le_of_ble_eq_true rfl) rfl ?_
    obtain rfl := Option.some.inj hf
    exact A_iret (pc := 39) dX5_judge_39 rfl rfl ⟨rfl, rfl, rfl⟩
set_option maxHeartbeats 4000000 in
set_option maxRecDepth 100000 in
theorem wX5_judge {G : GG} {T : TT} {n d : Nat} (hd : 4 ≤ d) {q : Int32 × MU} {u : MU} (hT : LAY T) (hf : zX5_judge n u = some q) : AW G d mX5_judge 0 [.ref 53, .null, .null, .null, .null] [] T u 0 0 (QS T q.1 q.2) := by
  obtain ⟨d, rfl⟩ : ∃ e, d = e + 1 := ⟨d - 1, by omega⟩
  rw [zX5_judge] at hf
  refine A_aloadn (pc := 0) dX5_judge_0 rfl ?_
  refine A_getI (pc := 1) dX5_judge_1 gX5_255 (lay_s hT (k := 53) (q := (7, 35)) rfl) (Nat.le_of_ble_eq_true rfl) rfl ?_
  have hf := oi_l hf
  refine A_istn (pc := 4) (L2 := [.ref 53, .int (u 53 34), .null, .null, .null]) dX5_judge_4 (Nat.le_of_ble_eq_true rfl) rfl ?_
  refine A_aloadn (pc := 5) dX5_judge_5 rfl ?_
  refine A_iconst (pc := 6) 0 dX5_judge_6 rfl ?_
  have hf := oi_l hf
  refine A_putI (pc := 7) dX5_judge_7 gX5_255 (lay_s hT (k := 53) (q := (7, 35)) rfl) (Nat.le_of_ble_eq_true rfl) rfl rfl rfl rfl ?_
  refine A_iconst (pc := 10) 0 dX5_judge_10 rfl ?_
  refine A_istn (pc := 11) (L2 := [.ref 53, .int (u 53 34), .int 0, .null, .null]) dX5_judge_11 (Nat.le_of_ble_eq_true rfl) rfl ?_
  refine A_iconst (pc := 12) 0 dX5_judge_12 rfl ?_
  refine A_istn (pc := 13) (L2 := [.ref 53, .int (u 53 34), .int 0, .int 0, .null]) dX5_judge_13 (Nat.le_of_ble_eq_true rfl) rfl ?_
  exact wX5_judge_L14 (by omega) hT  (fun y23 y24 q0 hf => by
    refine A_iloadn (pc := 113) dX5_judge_113 rfl ?_
    refine A_aloadn (pc := 114) dX5_judge_114 rfl ?_
    refine A_getI (pc := 115) dX5_judge_115 gX5_46 (lay_s hT (k := 53) (q := (7, 35)) rfl) (Nat.le_of_ble_eq_true rfl) rfl ?_
    refine A_icmp_ge (pc := 118) 125 dX5_judge_118 (by decide) (fun cc25 => ?_) (fun cc25 => ?_)
    · have hf := oi_t cc25 hf
      refine A_bipush (pc := 125) (-9) dX5_judge_125 rfl ?_
      obtain rfl := Option.some.inj hf
      exact A_iret (pc := 127) dX5_judge_127 rfl rfl ⟨rfl, rfl, rfl⟩
    have hf := oi_f cc25 hf
    refine A_iloadn (pc := 121) dX5_judge_121 rfl ?_
    refine A_goto (pc := 122) 127 dX5_judge_122 (by decide) ?_
    obtain rfl := Option.some.inj hf
    exact A_iret (pc := 127) dX5_judge_127 rfl rfl ⟨rfl, rfl, rfl⟩) _ _ _ _ hf
def zX5_seeds_L54 (n : Nat) (s1 : Int32) (s5 : Int32) (s6 : Int32) (k : Int32 → Int32 → MU → Option (Int32 × MU)) : Nat → Int32 → Int32 → MU → Option (Int32 × MU)
  | 0, _, _, _ => none
  | m + 1, t4, t7, u => if (u 53 12) ≤ t7 then (k t4 t7 u) else (letb ((t4 * 1103515245) + 12345) (fun x9 => if (u 53 13) = 0 then none else if oob t7 5 then none else letb (up2 u 57 t7.toNatClampNeg (((x9 &&& 2147483647) / 65536) - ((x9 &&& 2147483647) / 65536) / (u 53 13) * (u 53 13))) (fun u12 => zX5_seeds_L54 n  s1 s5 s6 k m x9 (t7 + 1) u12)))
def zX5_seeds_L45 (n : Nat) (s1 : Int32) (k : Int32 → Int32 → Int32 → MU → Option (Int32 × MU)) : Nat → Int32 → Int32 → Int32 → MU → Option (Int32 × MU)
  | 0, _, _, _, _ => none
  | m + 1, t4, t5, t6, u => if s1 ≤ t6 then (k t4 t5 t6 u) else (zX5_seeds_L54 n  s1 t5 t6 (fun y13 y14 w15 => Option.bind (zX5_areUnlike n w15) (fun q16 => if q16 = 0 then (letb (t5 + 0) (fun x19 => zX5_seeds_L45 n  s1 k m y13 x19 (t6 + 1) w15)) else (Option.bind (zX5_doesStand n w15) (fun q20 => if q20.1 = 0 then (letb (t5 + 0) (fun x23 => zX5_seeds_L45 n  s1 k m y13 x23 (t6 + 1) q20.2)) else (letb (t5 + 1) (fun x24 => zX5_seeds_L45 n  s1 k m y13 x24 (t6 + 1) q20.2)))))) n t4 0 u)
def zX5_seeds (n : Nat) (u : MU) (a1 : Int32) (a2 : Int32) : Option (Int32 × MU) := Option.bind (zX5_bound n u a1 1 60) (fun q1 => if q1 = 0 then (if (u 53 13) = 0 then (Option.bind (zX5_no n u (-3)) (fun q45 => some (q45.1, q45.2))) else (if q1 = 0 then (Option.bind (zX5_putsAway n u) (fun q35 => zX5_seeds_L45 n  a1 (fun y37 y38 y39 w40 => Option.bind (zX5_putsBack n w40) (fun q41 => some (y38, q41))) n a2 0 0 q35)) else (Option.bind (zX5_no n u q1) (fun q43 => some (q43.1, q43.2))))) else (if q1 = 0 then (Option.bind (zX5_putsAway n u) (fun q5 => zX5_seeds_L45 n  a1 (fun y25 y26 y27 w28 => Option.bind (zX5_putsBack n w28) (fun q29 => some (y26, q29))) n a2 0 0 q5)) else (Option.bind (zX5_no n u q1) (fun q31 => some (q31.1, q31.2)))))
set_option maxHeartbeats 4000000 in
set_option maxRecDepth 100000 in
theorem wX5_seeds_L54 {G : GG} {T : TT} {n d : Nat} (hd : 6 ≤ d) {s1 : Int32} {s5 : Int32} {s6 : Int32} {k : Int32 → Int32 → MU → Option (Int32 × MU)} (hT : LAY T) (hk : ∀ (t4 : Int32) (t7 : Int32) (u : MU) (q : Int32 × MU), k t4 t7 u = some q → AW G d mX5_seeds 103 [.ref 53, .int s1, .null, .null, .int t4, .int s5, .int s6, .int t7] [] T u 0 0 (QS T q.1 q.2)) : ∀ (m : Nat) (t4 : Int32) (t7 : Int32) (u : MU) (q : Int32 × MU), zX5_seeds_L54 n  s1 s5 s6 k m t4 t7 u = some q → AW G d mX5_seeds 54 [.ref 53, .int s1, .null, .null, .int t4, .int s5, .int s6, .int t7] [] T u 0 0 (QS T q.1 q.2) := by
  intro m
  obtain ⟨d, rfl⟩ : ∃ e, d = e + 1 := ⟨d - 1, by omega⟩
  induction m with
  | zero =>
    intro t4 t7 u q hf
    have h0 : (none : Option (Int32 × MU)) = some q := hf
    cases h0
  | succ m ih =>
    intro t4 t7 u q hf
    rw [zX5_seeds_L54] at hf
    refine A_iload (pc := 54) dX5_seeds_54 rfl ?_
    refine A_aloadn (pc := 56) dX5_seeds_56 rfl ?_
    refine A_getI (pc := 57) dX5_seeds_57 gX5_46 (lay_s hT (k := 53) (q := (7, 35)) rfl) (Nat.le_of_ble_eq_true rfl) rfl ?_
    refine A_icmp_ge (pc := 60) 103 dX5_seeds_60 (by decide) (fun cc8 => ?_) (fun cc8 => ?_)
    · have hf := oi_t cc8 hf
      exact hk _ _ _ _ hf
    have hf := oi_f cc8 hf
    refine A_iload (pc := 63) dX5_seeds_63 rfl ?_
    refine A_ldcw (pc := 65) dX5_seeds_65 nX5_258 ?_
    refine A_imul (pc := 68) dX5_seeds_68 ?_
    refine A_sipush (pc := 69) 12345 dX5_seeds_69 rfl ?_
    refine A_iadd (pc := 72) dX5_seeds_72 ?_
    have hf := oi_l hf
    refine A_ist (pc := 73) (L2 := [.ref 53, .int s1, .null, .null, .int ((t4 * 1103515245) + 12345), .int s5, .int s6, .int t7]) dX5_seeds_73 (Nat.le_of_ble_eq_true rfl) rfl ?_
    refine A_aloadn (pc := 75) dX5_seeds_75 rfl ?_
    refine A_getR (pc := 76) dX5_seeds_76 gX5_19 (lay_s hT (k := 53) (q := (7, 35)) rfl) (Nat.le_of_ble_eq_true rfl) rfl (lay_r hT 55 rfl) ?_
    refine A_iload (pc := 79) dX5_seeds_79 rfl ?_
    refine A_iload (pc := 81) dX5_seeds_81 rfl ?_
    refine A_ldcw (pc := 83) dX5_seeds_83 nX5_259 ?_
    refine A_iand (pc := 86) dX5_seeds_86 ?_
    refine A_ldcw (pc := 87) dX5_seeds_87 nX5_260 ?_
    refine A_idiv (pc := 90) dX5_seeds_90 (by decide) ?_
    refine A_aloadn (pc := 91) dX5_seeds_91 rfl ?_
    refine A_getI (pc := 92) dX5_seeds_92 gX5_78 (lay_s hT (k := 53) (q := (7, 35)) rfl) (Nat.le_of_ble_eq_true rfl) rfl ?_
    obtain ⟨h10, hf⟩ := oi_cf hf
    refine A_irem (pc := 95) dX5_seeds_95 h10 ?_
    obtain ⟨h11, hf⟩ := oi_cf hf
    have hf := oi_l hf
    refine A_iast (pc := 96) dX5_seeds_96 (lay_s hT (k := 57) (q := (0, 5)) rfl) (oob_f h11) ?_
    refine A_inc (pc := 97) (L2 := [.ref 53, .int s1, .null, .null, .int ((t4 * 1103515245) + 12345), .int s5, .int s6, .int (t7 + 1)]) (t7 + 1) dX5_seeds_97 rfl rfl rfl ?_
    refine A_goto (pc := 100) 54 dX5_seeds_100 (by decide) ?_
    exact ih _ _ _ _ hf
set_option maxHeartbeats 4000000 in
set_option maxRecDepth 100000 in
theorem wX5_seeds_L45 {G : GG} {T : TT} {n d : Nat} (hd : 6 ≤ d) {s1 : Int32} {k : Int32 → Int32 → Int32 → MU → Option (Int32 × MU)} (hT : LAY T) (hk : ∀ (t4 : Int32) (t5 : Int32) (t6 : Int32) (u : MU) (q : Int32 × MU), k t4 t5 t6 u = some q → AW G d mX5_seeds 133 [.ref 53, .int s1, .null, .null, .int t4, .int t5, .int t6, .null] [] T u 0 0 (QS T q.1 q.2)) : ∀ (m : Nat) (t4 : Int32) (t5 : Int32) (t6 : Int32) (u : MU) (q : Int32 × MU), zX5_seeds_L45 n  s1 k m t4 t5 t6 u = some q → AW G d mX5_seeds 45 [.ref 53, .int s1, .null, .null, .int t4, .int t5, .int t6, .null] [] T u 0 0 (QS T q.1 q.2) := by
  intro m
  obtain ⟨d, rfl⟩ : ∃ e, d = e + 1 := ⟨d - 1, by omega⟩
  induction m with
  | zero =>
    intro t4 t5 t6 u q hf
    have h0 : (none : Option (Int32 × MU)) = some q := hf
    cases h0
  | succ m ih =>
    intro t4 t5 t6 u q hf
    rw [zX5_seeds_L45] at hf
    refine A_iload (pc := 45) dX5_seeds_45 rfl ?_
    refine A_iloadn (pc := 47) dX5_seeds_47 rfl ?_
    refine A_icmp_ge (pc := 48) 133 dX5_seeds_48 (by decide) (fun cc7 => ?_) (fun cc7 => ?_)
    · have hf := oi_t cc7 hf
      exact hk _ _ _ _ _ hf
    have hf := oi_f cc7 hf
    refine A_iconst (pc := 51) 0 dX5_seeds_51 rfl ?_
    refine A_ist (pc := 52) (L2 := [.ref 53, .int s1, .null, .null, .int t4, .int t5, .int t6, .int 0]) dX5_seeds_52 (Nat.le_of_ble_eq_true rfl) rfl ?_
    exact wX5_seeds_L54 (by omega) hT  (fun y13 y14 w15 q0 hf => by
      refine A_iload (pc := 103) dX5_seeds_103 rfl ?_
      refine A_aloadn (pc := 105) dX5_seeds_105 rfl ?_
      obtain ⟨q16, h17, hf⟩ := oi_b hf
      refine A_cV0i (mi2 := mX5_areUnlike) (pc := 106) dX5_seeds_106 lX5_216 fX5_areUnlike vX5_areUnlike (lay_s hT (k := 53) (q := (7, 35)) rfl) rfl (Nat.le_of_ble_eq_true rfl) rfl (Nat.le_of_ble_eq_true rfl) (wX5_areUnlike (by omega) hT  h17) ?_
      refine A_if_eq (pc := 109) (w := 0) 123 dX5_seeds_109 (by decide) (fun cc18 => ?_) (fun cc18 => ?_)
      · have hf := oi_t cc18 hf
        refine A_iconst (pc := 123) 0 dX5_seeds_123 rfl ?_
        refine A_iadd (pc := 124) dX5_seeds_124 ?_
        have hf := oi_l hf
        refine A_ist (pc := 125) (L2 := [.ref 53, .int s1, .null, .null, .int y13, .int (t5 + 0), .int t6, .int y14]) dX5_seeds_125 (Nat.le_of_ble_eq_true rfl) rfl ?_
        refine A_inc (pc := 127) (L2 := [.ref 53, .int s1, .null, .null, .int y13, .int (t5 + 0), .int (t6 + 1), .int y14]) (t6 + 1) dX5_seeds_127 rfl rfl rfl ?_
        refine A_goto (pc := 130) 45 dX5_seeds_130 (by decide) ?_
        refine A_fgt 7 (L' := [.ref 53, .int s1, .null, .null, .int y13, .int (t5 + 0), .int (t6 + 1), .null]) rfl ?_
        exact ih _ _ _ _ _ hf
      have hf := oi_f cc18 hf
      refine A_aloadn (pc := 112) dX5_seeds_112 rfl ?_
      obtain ⟨q20, h21, hf⟩ := oi_b hf
      refine A_cV0i (mi2 := mX5_doesStand) (pc := 113) dX5_seeds_113 lX5_207 fX5_doesStand vX5_doesStand (lay_s hT (k := 53) (q := (7, 35)) rfl) rfl (Nat.le_of_ble_eq_true rfl) rfl (Nat.le_of_ble_eq_true rfl) (wX5_doesStand (by omega) hT  h21) ?_
      refine A_if_eq (pc := 116) (w := 0) 123 dX5_seeds_116 (by decide) (fun cc22 => ?_) (fun cc22 => ?_)
      · have hf := oi_t cc22 hf
        refine A_iconst (pc := 123) 0 dX5_seeds_123 rfl ?_
        refine A_iadd (pc := 124) dX5_seeds_124 ?_
        have hf := oi_l hf
        refine A_ist (pc := 125) (L2 := [.ref 53, .int s1, .null, .null, .int y13, .int (t5 + 0), .int t6, .int y14]) dX5_seeds_125 (Nat.le_of_ble_eq_true rfl) rfl ?_
        refine A_inc (pc := 127) (L2 := [.ref 53, .int s1, .null, .null, .int y13, .int (t5 + 0), .int (t6 + 1), .int y14]) (t6 + 1) dX5_seeds_127 rfl rfl rfl ?_
        refine A_goto (pc := 130) 45 dX5_seeds_130 (by decide) ?_
        refine A_fgt 7 (L' := [.ref 53, .int s1, .null, .null, .int y13, .int (t5 + 0), .int (t6 + 1), .null]) rfl ?_
        exact ih _ _ _ _ _ hf
      have hf := oi_f cc22 hf
      refine A_iconst (pc := 119) 1 dX5_seeds_119 rfl ?_
      refine A_goto (pc := 120) 124 dX5_seeds_120 (by decide) ?_
      refine A_iadd (pc := 124) dX5_seeds_124 ?_
      have hf := oi_l hf
      refine A_ist (pc := 125) (L2 := [.ref 53, .int s1, .null, .null, .int y13, .int (t5 + 1), .int t6, .int y14]) dX5_seeds_125 (Nat.le_of_ble_eq_true rfl) rfl ?_
      refine A_inc (pc := 127) (L2 := [.ref 53, .int s1, .null, .null, .int y13, .int (t5 + 1), .int (t6 + 1), .int y14]) (t6 + 1) dX5_seeds_127 rfl rfl rfl ?_
      refine A_goto (pc := 130) 45 dX5_seeds_130 (by decide) ?_
      refine A_fgt 7 (L' := [.ref 53, .int s1, .null, .null, .int y13, .int (t5 + 1), .int (t6 + 1), .null]) rfl ?_
      exact ih _ _ _ _ _ hf) _ _ _ _ _ hf
set_option maxHeartbeats 4000000 in
set_option maxRecDepth 100000 in
theorem wX5_seeds {G : GG} {T : TT} {n d : Nat} (hd : 6 ≤ d) {q : Int32 × MU} {u : MU} {a1 : Int32} {a2 : Int32} (hT : LAY T) (hf : zX5_seeds n u a1 a2 = some q) : AW G d mX5_seeds 0 [.ref 53, .int a1, .int a2, .null, .null, .null, .null, .null] [] T u 0 0 (QS T q.1 q.2) := by
  obtain ⟨d, rfl⟩ : ∃ e, d = e + 1 := ⟨d - 1, by omega⟩
  rw [zX5_seeds] at hf
  refine A_iloadn (pc := 0) dX5_seeds_0 rfl ?_
  refine A_iconst (pc := 1) 1 dX5_seeds_1 rfl ?_
  refine A_bipush (pc := 2) 60 dX5_seeds_2 rfl ?_
  obtain ⟨q1, h2, hf⟩ := oi_b hf
  refine A_cS3i (mi2 := mX5_bound) (pc := 4) dX5_seeds_4 lX5_85 fX5_bound sX5_bound (Nat.le_of_ble_eq_true rfl) rfl (Nat.le_of_ble_eq_true rfl) (wX5_bound (by omega) hT  h2) ?_
  refine A_istn (pc := 7) (L2 := [.ref 53, .int a1, .int a2, .int q1, .null, .null, .null, .null]) dX5_seeds_7 (Nat.le_of_ble_eq_true rfl) rfl ?_
  refine A_iloadn (pc := 8) dX5_seeds_8 rfl ?_
  refine A_if_ne (pc := 9) (w := 0) 22 dX5_seeds_9 (by decide) (fun cc3 => ?_) (fun cc3 => ?_)
  · have hf := oi_f cc3 hf
    refine A_iloadn (pc := 22) dX5_seeds_22 rfl ?_
    refine A_if_eq (pc := 23) (w := 0) 32 dX5_seeds_23 (by decide) (fun cc4 => ?_) (fun cc4 => ?_)
    · have hf := oi_t cc4 hf
      refine A_aloadn (pc := 32) dX5_seeds_32 rfl ?_
      obtain ⟨q5, h6, hf⟩ := oi_b hf
      refine A_cV0v (mi2 := mX5_putsAway) (pc := 33) dX5_seeds_33 lX5_219 fX5_putsAway vX5_putsAway (lay_s hT (k := 53) (q := (7, 35)) rfl) rfl (Nat.le_of_ble_eq_true rfl) rfl (Nat.le_of_ble_eq_true rfl) (wX5_putsAway (by omega) hT  h6) ?_
      refine A_iloadn (pc := 36) dX5_seeds_36 rfl ?_
      refine A_ist (pc := 37) (L2 := [.ref 53, .int a1, .int a2, .int q1, .int a2, .null, .null, .null]) dX5_seeds_37 (Nat.le_of_ble_eq_true rfl) rfl ?_
      refine A_iconst (pc := 39) 0 dX5_seeds_39 rfl ?_
      refine A_ist (pc := 40) (L2 := [.ref 53, .int a1, .int a2, .int q1, .int a2, .int 0, .null, .null]) dX5_seeds_40 (Nat.le_of_ble_eq_true rfl) rfl ?_
      refine A_iconst (pc := 42) 0 dX5_seeds_42 rfl ?_
      refine A_ist (pc := 43) (L2 := [.ref 53, .int a1, .int a2, .int q1, .int a2, .int 0, .int 0, .null]) dX5_seeds_43 (Nat.le_of_ble_eq_true rfl) rfl ?_
      refine A_fgt 2 (L' := [.ref 53, .int a1, .null, .int q1, .int a2, .int 0, .int 0, .null]) rfl ?_
      refine A_fgt 3 (L' := [.ref 53, .int a1, .null, .null, .int a2, .int 0, .int 0, .null]) rfl ?_
      exact wX5_seeds_L45 (by omega) hT  (fun y25 y26 y27 w28 q0 hf => by
        refine A_aloadn (pc := 133) dX5_seeds_133 rfl ?_
        obtain ⟨q29, h30, hf⟩ := oi_b hf
        refine A_cV0v (mi2 := mX5_putsBack) (pc := 134) dX5_seeds_134 lX5_225 fX5_putsBack vX5_putsBack (lay_s hT (k := 53) (q := (7, 35)) rfl) rfl (Nat.le_of_ble_eq_true rfl) rfl (Nat.le_of_ble_eq_true rfl) (wX5_putsBack (by omega) hT  h30) ?_
        refine A_iload (pc := 137) dX5_seeds_137 rfl ?_
        obtain rfl := Option.some.inj hf
        exact A_iret (pc := 139) dX5_seeds_139 rfl rfl ⟨rfl, rfl, rfl⟩) _ _ _ _ _ _ hf
    have hf := oi_f cc4 hf
    refine A_aloadn (pc := 26) dX5_seeds_26 rfl ?_
    refine A_iloadn (pc := 27) dX5_seeds_27 rfl ?_
    obtain ⟨q31, h32, hf⟩ := oi_b hf
    refine A_cV1i (mi2 := mX5_no) (pc := 28) dX5_seeds_28 lX5_92 fX5_no vX5_no (lay_s hT (k := 53) (q := (7, 35)) rfl) rfl (Nat.le_of_ble_eq_true rfl) rfl (Nat.le_of_ble_eq_true rfl) (wX5_no (by omega) hT  h32) ?_
    obtain rfl := Option.some.inj hf
    exact A_iret (pc := 31) dX5_seeds_31 rfl rfl ⟨rfl, rfl, rfl⟩
  have hf := oi_t cc3 hf
  refine A_aloadn (pc := 12) dX5_seeds_12 rfl ?_
  refine A_getI (pc := 13) dX5_seeds_13 gX5_78 (lay_s hT (k := 53) (q := (7, 35)) rfl) (Nat.le_of_ble_eq_true rfl) rfl ?_
  refine A_if_ne (pc := 16) (w := 0) 22 dX5_seeds_16 (by decide) (fun cc33 => ?_) (fun cc33 => ?_)
  · have hf := oi_f cc33 hf
    refine A_iloadn (pc := 22) dX5_seeds_22 rfl ?_
    refine A_if_eq (pc := 23) (w := 0) 32 dX5_seeds_23 (by decide) (fun cc34 => ?_) (fun cc34 => ?_)
    · have hf := oi_t cc34 hf
      refine A_aloadn (pc := 32) dX5_seeds_32 rfl ?_
      obtain ⟨q35, h36, hf⟩ := oi_b hf
      refine A_cV0v (mi2 := mX5_putsAway) (pc := 33) dX5_seeds_33 lX5_219 fX5_putsAway vX5_putsAway (lay_s hT (k := 53) (q := (7, 35)) rfl) rfl (Nat.le_of_ble_eq_true rfl) rfl (Nat.le_of_ble_eq_true rfl) (wX5_putsAway (by omega) hT  h36) ?_
      refine A_iloadn (pc := 36) dX5_seeds_36 rfl ?_
      refine A_ist (pc := 37) (L2 := [.ref 53, .int a1, .int a2, .int q1, .int a2, .null, .null, .null]) dX5_seeds_37 (Nat.le_of_ble_eq_true rfl) rfl ?_
      refine A_iconst (pc := 39) 0 dX5_seeds_39 rfl ?_
      refine A_ist (pc := 40) (L2 := [.ref 53, .int a1, .int a2, .int q1, .int a2, .int 0, .null, .null]) dX5_seeds_40 (Nat.le_of_ble_eq_true rfl) rfl ?_
      refine A_iconst (pc := 42) 0 dX5_seeds_42 rfl ?_
      refine A_ist (pc := 43) (L2 := [.ref 53, .int a1, .int a2, .int q1, .int a2, .int 0, .int 0, .null]) dX5_seeds_43 (Nat.le_of_ble_eq_true rfl) rfl ?_
      refine A_fgt 2 (L' := [.ref 53, .int a1, .null, .int q1, .int a2, .int 0, .int 0, .null]) rfl ?_
      refine A_fgt 3 (L' := [.ref 53, .int a1, .null, .null, .int a2, .int 0, .int 0, .null]) rfl ?_
      exact wX5_seeds_L45 (by omega) hT  (fun y37 y38 y39 w40 q0 hf => by
        refine A_aloadn (pc := 133) dX5_seeds_133 rfl ?_
        obtain ⟨q41, h42, hf⟩ := oi_b hf
        refine A_cV0v (mi2 := mX5_putsBack) (pc := 134) dX5_seeds_134 lX5_225 fX5_putsBack vX5_putsBack (lay_s hT (k := 53) (q := (7, 35)) rfl) rfl (Nat.le_of_ble_eq_true rfl) rfl (Nat.le_of_ble_eq_true rfl) (wX5_putsBack (by omega) hT  h42) ?_
        refine A_iload (pc := 137) dX5_seeds_137 rfl ?_
        obtain rfl := Option.some.inj hf
        exact A_iret (pc := 139) dX5_seeds_139 rfl rfl ⟨rfl, rfl, rfl⟩) _ _ _ _ _ _ hf
    have hf := oi_f cc34 hf
    refine A_aloadn (pc := 26) dX5_seeds_26 rfl ?_
    refine A_iloadn (pc := 27) dX5_seeds_27 rfl ?_
    obtain ⟨q43, h44, hf⟩ := oi_b hf
    refine A_cV1i (mi2 := mX5_no) (pc := 28) dX5_seeds_28 lX5_92 fX5_no vX5_no (lay_s hT (k := 53) (q := (7, 35)) rfl) rfl (Nat.le_of_ble_eq_true rfl) rfl (Nat.le_of_ble_eq_true rfl) (wX5_no (by omega) hT  h44) ?_
    obtain rfl := Option.some.inj hf
    exact A_iret (pc := 31) dX5_seeds_31 rfl rfl ⟨rfl, rfl, rfl⟩
  have hf := oi_t cc33 hf
  refine A_bipush (pc := 19) (-3) dX5_seeds_19 rfl ?_
  refine A_istn (pc := 21) (L2 := [.ref 53, .int a1, .int a2, .int (-3), .null, .null, .null, .null]) dX5_seeds_21 (Nat.le_of_ble_eq_true rfl) rfl ?_
  refine A_iloadn (pc := 22) dX5_seeds_22 rfl ?_
  refine A_if_eq (pc := 23) (w := 0) 32 dX5_seeds_23 (by decide) (fun c9 => absurd c9 (by decide)) (fun _ => ?_)
  refine A_aloadn (pc := 26) dX5_seeds_26 rfl ?_
  refine A_iloadn (pc := 27) dX5_seeds_27 rfl ?_
  obtain ⟨q45, h46, hf⟩ := oi_b hf
  refine A_cV1i (mi2 := mX5_no) (pc := 28) dX5_seeds_28 lX5_92 fX5_no vX5_no (lay_s hT (k := 53) (q := (7, 35)) rfl) rfl (Nat.le_of_ble_eq_true rfl) rfl (Nat.le_of_ble_eq_true rfl) (wX5_no (by omega) hT  h46) ?_
  obtain rfl := Option.some.inj hf
  exact A_iret (pc := 31) dX5_seeds_31 rfl rfl ⟨rfl, rfl, rfl⟩
def zX5_sumOf_L4 (n : Nat) (u : MU) (c1 : Nat) (c1n : Nat) (k : Int32 → Int32 → Option (Int32)) : Nat → Int32 → Int32 → Option (Int32)
  | 0, _, _ => none
  | m + 1, t2, t3 => if (Int32.ofNat c1n) ≤ t3 then (k t2 t3) else (if oob t3 c1n then none else letb (t2 + (u c1 t3.toNatClampNeg)) (fun x3 => zX5_sumOf_L4 n u c1 c1n  k m x3 (t3 + 1)))
def zX5_sumOf (n : Nat) (u : MU) (c1 : Nat) (c1n : Nat) : Option (Int32) := zX5_sumOf_L4 n u c1 c1n  (fun y4 y5 => some y4) n 0 0
set_option maxHeartbeats 4000000 in
set_option maxRecDepth 100000 in
theorem wX5_sumOf_L4 {G : GG} {T : TT} {n d : Nat} (hd : 0 ≤ d) {u : MU} {c1 : Nat} {c1n : Nat} {k : Int32 → Int32 → Option (Int32)} (hT : LAY T) (hc1 : T.1[c1]? = some (0, c1n)) (hk : ∀ (t2 : Int32) (t3 : Int32) (q : Int32), k t2 t3 = some q → AW G d mX5_sumOf 22 [.null, .ref c1, .int t2, .int t3] [] T u 0 0 (QS T q u)) : ∀ (m : Nat) (t2 : Int32) (t3 : Int32) (q : Int32), zX5_sumOf_L4 n u c1 c1n k m t2 t3 = some q → AW G d mX5_sumOf 4 [.null, .ref c1, .int t2, .int t3] [] T u 0 0 (QS T q u) := by
  intro m
  induction m with
  | zero =>
    intro t2 t3 q hf
    have h0 : (none : Option (Int32)) = some q := hf
    cases h0
  | succ m ih =>
    intro t2 t3 q hf
    rw [zX5_sumOf_L4] at hf
    refine A_iloadn (pc := 4) dX5_sumOf_4 rfl ?_
    refine A_aloadn (pc := 5) dX5_sumOf_5 rfl ?_
    refine A_alen (pc := 6) _ dX5_sumOf_6 hc1 rfl ?_
    refine A_icmp_ge (pc := 7) 22 dX5_sumOf_7 (by decide) (fun cc1 => ?_) (fun cc1 => ?_)
    · have hf := oi_t cc1 hf
      exact hk _ _ _ hf
    have hf := oi_f cc1 hf
    refine A_iloadn (pc := 10) dX5_sumOf_10 rfl ?_
    refine A_aloadn (pc := 11) dX5_sumOf_11 rfl ?_
    refine A_iloadn (pc := 12) dX5_sumOf_12 rfl ?_
    obtain ⟨h2, hf⟩ := oi_cf hf
    refine A_iald (pc := 13) dX5_sumOf_13 hc1 (oob_f h2) ?_
    refine A_iadd (pc := 14) dX5_sumOf_14 ?_
    have hf := oi_l hf
    refine A_istn (pc := 15) (L2 := [.null, .ref c1, .int (t2 + (u c1 t3.toNatClampNeg)), .int t3]) dX5_sumOf_15 (Nat.le_of_ble_eq_true rfl) rfl ?_
    refine A_inc (pc := 16) (L2 := [.null, .ref c1, .int (t2 + (u c1 t3.toNatClampNeg)), .int (t3 + 1)]) (t3 + 1) dX5_sumOf_16 rfl rfl rfl ?_
    refine A_goto (pc := 19) 4 dX5_sumOf_19 (by decide) ?_
    exact ih _ _ _ hf
set_option maxHeartbeats 4000000 in
set_option maxRecDepth 100000 in
theorem wX5_sumOf {G : GG} {T : TT} {n d : Nat} (hd : 0 ≤ d) {q : Int32} {u : MU} {c1 : Nat} {c1n : Nat} (hT : LAY T) (hc1 : T.1[c1]? = some (0, c1n)) (hf : zX5_sumOf n u c1 c1n = some q) : AW G d mX5_sumOf 0 [.ref 53, .ref c1, .null, .null] [] T u 0 0 (QS T q u) := by
  rw [zX5_sumOf] at hf
  refine A_iconst (pc := 0) 0 dX5_sumOf_0 rfl ?_
  refine A_istn (pc := 1) (L2 := [.ref 53, .ref c1, .int 0, .null]) dX5_sumOf_1 (Nat.le_of_ble_eq_true rfl) rfl ?_
  refine A_iconst (pc := 2) 0 dX5_sumOf_2 rfl ?_
  refine A_istn (pc := 3) (L2 := [.ref 53, .ref c1, .int 0, .int 0]) dX5_sumOf_3 (Nat.le_of_ble_eq_true rfl) rfl ?_
  refine A_fgt 0 (L' := [.null, .ref c1, .int 0, .int 0]) rfl ?_
  exact wX5_sumOf_L4 (by omega) hT hc1 (fun y4 y5 q0 hf => by
    refine A_iloadn (pc := 22) dX5_sumOf_22 rfl ?_
    obtain rfl := Option.some.inj hf
    exact A_iret (pc := 23) dX5_sumOf_23 rfl rfl ⟨rfl, rfl, rfl⟩) _ _ _ _ hf
def zX5_count (n : Nat) (u : MU) (a1 : Int32) : Option (Int32) := Option.bind (zX5_isIn n u a1 11 16) (fun q1 => if q1 = 0 then (if a1 = 0 then (some (u 53 12)) else if a1 = 1 then (some (u 53 13)) else if a1 = 2 then (some (u 53 14)) else if a1 = 3 then (some (u 53 15)) else if a1 = 4 then (Option.bind (zX5_wetMany n u) (fun q9 => some q9)) else if a1 = 5 then (Option.bind (zX5_overMany n u) (fun q12 => some q12)) else if a1 = 6 then (Option.bind (zX5_sumOf n u 64 49) (fun q15 => some (q15 / 2))) else if a1 = 7 then (Option.bind (zX5_sumOf n u 65 49) (fun q18 => some q18)) else if a1 = 8 then (some (u 53 20)) else if a1 = 9 then (some (u 53 34)) else (some (-9))) else (if oob (a1 - 10) 7 then none else some (u 54 (a1 - 10).toNatClampNeg)))
set_option maxHeartbeats 4000000 in
set_option maxRecDepth 100000 in
theorem wX5_count {G : GG} {T : TT} {n d : Nat} (hd : 1 ≤ d) {q : Int32} {u : MU} {a1 : Int32} (hT : LAY T) (hf : zX5_count n u a1 = some q) : AW G d mX5_count 0 [.ref 53, .int a1] [] T u 0 0 (QS T q u) := by
  obtain ⟨d, rfl⟩ : ∃ e, d = e + 1 := ⟨d - 1, by omega⟩
  rw [zX5_count] at hf
  refine A_iloadn (pc := 0) dX5_count_0 rfl ?_
  refine A_bipush (pc := 1) 11 dX5_count_1 rfl ?_
  refine A_bipush (pc := 3) 16 dX5_count_3 rfl ?_
  obtain ⟨q1, h2, hf⟩ := oi_b hf
  refine A_cS3i (mi2 := mX5_isIn) (pc := 5) dX5_count_5 lX5_103 fX5_isIn sX5_isIn (Nat.le_of_ble_eq_true rfl) rfl (Nat.le_of_ble_eq_true rfl) (wX5_isIn (by omega) hT  h2) ?_
  refine A_if_eq (pc := 8) (w := 0) 21 dX5_count_8 (by decide) (fun cc3 => ?_) (fun cc3 => ?_)
  · have hf := oi_t cc3 hf
    refine A_iloadn (pc := 21) dX5_count_21 rfl ?_
    by_cases cc4 : a1 = 0
    · have hf := oi_t cc4 hf
      refine A_tabIn (pc := 22) 76 dX5_count_22 (by rw [cc4]; decide) (by rw [cc4]; decide) (off := 54) (by rw [cc4]; decide) (by decide) ?_
      refine A_aloadn (pc := 76) dX5_count_76 rfl ?_
      refine A_getI (pc := 77) dX5_count_77 gX5_46 (lay_s hT (k := 53) (q := (7, 35)) rfl) (Nat.le_of_ble_eq_true rfl) rfl ?_
      obtain rfl := Option.some.inj hf
      exact A_iret (pc := 80) dX5_count_80 rfl rfl ⟨rfl, rfl, rfl⟩
    have hf := oi_f cc4 hf
    by_cases cc5 : a1 = 1
    · have hf := oi_t cc5 hf
      refine A_tabIn (pc := 22) 81 dX5_count_22 (by rw [cc5]; decide) (by rw [cc5]; decide) (off := 59) (by rw [cc5]; decide) (by decide) ?_
      refine A_aloadn (pc := 81) dX5_count_81 rfl ?_
      refine A_getI (pc := 82) dX5_count_82 gX5_78 (lay_s hT (k := 53) (q := (7, 35)) rfl) (Nat.le_of_ble_eq_true rfl) rfl ?_
      obtain rfl := Option.some.inj hf
      exact A_iret (pc := 85) dX5_count_85 rfl rfl ⟨rfl, rfl, rfl⟩
    have hf := oi_f cc5 hf
    by_cases cc6 : a1 = 2
    · have hf := oi_t cc6 hf
      refine A_tabIn (pc := 22) 86 dX5_count_22 (by rw [cc6]; decide) (by rw [cc6]; decide) (off := 64) (by rw [cc6]; decide) (by decide) ?_
      refine A_aloadn (pc := 86) dX5_count_86 rfl ?_
      refine A_getI (pc := 87) dX5_count_87 gX5_50 (lay_s hT (k := 53) (q := (7, 35)) rfl) (Nat.le_of_ble_eq_true rfl) rfl ?_
      obtain rfl := Option.some.inj hf
      exact A_iret (pc := 90) dX5_count_90 rfl rfl ⟨rfl, rfl, rfl⟩
    have hf := oi_f cc6 hf
    by_cases cc7 : a1 = 3
    · have hf := oi_t cc7 hf
      refine A_tabIn (pc := 22) 91 dX5_count_22 (by rw [cc7]; decide) (by rw [cc7]; decide) (off := 69) (by rw [cc7]; decide) (by decide) ?_
      refine A_aloadn (pc := 91) dX5_count_91 rfl ?_
      refine A_getI (pc := 92) dX5_count_92 gX5_161 (lay_s hT (k := 53) (q := (7, 35)) rfl) (Nat.le_of_ble_eq_true rfl) rfl ?_
      obtain rfl := Option.some.inj hf
      exact A_iret (pc := 95) dX5_count_95 rfl rfl ⟨rfl, rfl, rfl⟩
    have hf := oi_f cc7 hf
    by_cases cc8 : a1 = 4
    · have hf := oi_t cc8 hf
      refine A_tabIn (pc := 22) 96 dX5_count_22 (by rw [cc8]; decide) (by rw [cc8]; decide) (off := 74) (by rw [cc8]; decide) (by decide) ?_
      refine A_aloadn (pc := 96) dX5_count_96 rfl ?_
      obtain ⟨q9, h10, hf⟩ := oi_b hf
      refine A_cV0i (mi2 := mX5_wetMany) (pc := 97) dX5_count_97 lX5_176 fX5_wetMany vX5_wetMany (lay_s hT (k := 53) (q := (7, 35)) rfl) rfl (Nat.le_of_ble_eq_true rfl) rfl (Nat.le_of_ble_eq_true rfl) (wX5_wetMany (by omega) hT  h10) ?_
      obtain rfl := Option.some.inj hf
      exact A_iret (pc := 100) dX5_count_100 rfl rfl ⟨rfl, rfl, rfl⟩
    have hf := oi_f cc8 hf
    by_cases cc11 : a1 = 5
    · have hf := oi_t cc11 hf
      refine A_tabIn (pc := 22) 101 dX5_count_22 (by rw [cc11]; decide) (by rw [cc11]; decide) (off := 79) (by rw [cc11]; decide) (by decide) ?_
      refine A_aloadn (pc := 101) dX5_count_101 rfl ?_
      obtain ⟨q12, h13, hf⟩ := oi_b hf
      refine A_cV0i (mi2 := mX5_overMany) (pc := 102) dX5_count_102 lX5_179 fX5_overMany vX5_overMany (lay_s hT (k := 53) (q := (7, 35)) rfl) rfl (Nat.le_of_ble_eq_true rfl) rfl (Nat.le_of_ble_eq_true rfl) (wX5_overMany (by omega) hT  h13) ?_
      obtain rfl := Option.some.inj hf
      exact A_iret (pc := 105) dX5_count_105 rfl rfl ⟨rfl, rfl, rfl⟩
    have hf := oi_f cc11 hf
    by_cases cc14 : a1 = 6
    · have hf := oi_t cc14 hf
      refine A_tabIn (pc := 22) 106 dX5_count_22 (by rw [cc14]; decide) (by rw [cc14]; decide) (off := 84) (by rw [cc14]; decide) (by decide) ?_
      refine A_aloadn (pc := 106) dX5_count_106 rfl ?_
      refine A_aloadn (pc := 107) dX5_count_107 rfl ?_
      refine A_getR (pc := 108) dX5_count_108 gX5_40 (lay_s hT (k := 53) (q := (7, 35)) rfl) (Nat.le_of_ble_eq_true rfl) rfl (lay_r hT 62 rfl) ?_
      obtain ⟨q15, h16, hf⟩ := oi_b hf
      refine A_cV1i (mi2 := mX5_sumOf) (pc := 111) dX5_count_111 lX5_261 fX5_sumOf vX5_sumOf (lay_s hT (k := 53) (q := (7, 35)) rfl) rfl (Nat.le_of_ble_eq_true rfl) rfl (Nat.le_of_ble_eq_true rfl) (wX5_sumOf (by omega) hT (lay_s hT (k := 64) (q := (0, 49)) rfl) h16) ?_
      refine A_iconst (pc := 114) 2 dX5_count_114 rfl ?_
      refine A_idiv (pc := 115) dX5_count_115 (by decide) ?_
      obtain rfl := Option.some.inj hf
      exact A_iret (pc := 116) dX5_count_116 rfl rfl ⟨rfl, rfl, rfl⟩
    have hf := oi_f cc14 hf
    by_cases cc17 : a1 = 7
    · have hf := oi_t cc17 hf
      refine A_tabIn (pc := 22) 117 dX5_count_22 (by rw [cc17]; decide) (by rw [cc17]; decide) (off := 95) (by rw [cc17]; decide) (by decide) ?_
      refine A_aloadn (pc := 117) dX5_count_117 rfl ?_
      refine A_aloadn (pc := 118) dX5_count_118 rfl ?_
      refine A_getR (pc := 119) dX5_count_119 gX5_43 (lay_s hT (k := 53) (q := (7, 35)) rfl) (Nat.le_of_ble_eq_true rfl) rfl (lay_r hT 63 rfl) ?_
      obtain ⟨q18, h19, hf⟩ := oi_b hf
      refine A_cV1i (mi2 := mX5_sumOf) (pc := 122) dX5_count_122 lX5_261 fX5_sumOf vX5_sumOf (lay_s hT (k := 53) (q := (7, 35)) rfl) rfl (Nat.le_of_ble_eq_true rfl) rfl (Nat.le_of_ble_eq_true rfl) (wX5_sumOf (by omega) hT (lay_s hT (k := 65) (q := (0, 49)) rfl) h19) ?_
      obtain rfl := Option.some.inj hf
      exact A_iret (pc := 125) dX5_count_125 rfl rfl ⟨rfl, rfl, rfl⟩
    have hf := oi_f cc17 hf
    by_cases cc20 : a1 = 8
    · have hf := oi_t cc20 hf
      refine A_tabIn (pc := 22) 126 dX5_count_22 (by rw [cc20]; decide) (by rw [cc20]; decide) (off := 104) (by rw [cc20]; decide) (by decide) ?_
      refine A_aloadn (pc := 126) dX5_count_126 rfl ?_
      refine A_getI (pc := 127) dX5_count_127 gX5_89 (lay_s hT (k := 53) (q := (7, 35)) rfl) (Nat.le_of_ble_eq_true rfl) rfl ?_
      obtain rfl := Option.some.inj hf
      exact A_iret (pc := 130) dX5_count_130 rfl rfl ⟨rfl, rfl, rfl⟩
    have hf := oi_f cc20 hf
    by_cases cc21 : a1 = 9
    · have hf := oi_t cc21 hf
      refine A_tabIn (pc := 22) 131 dX5_count_22 (by rw [cc21]; decide) (by rw [cc21]; decide) (off := 109) (by rw [cc21]; decide) (by decide) ?_
      refine A_aloadn (pc := 131) dX5_count_131 rfl ?_
      refine A_getI (pc := 132) dX5_count_132 gX5_255 (lay_s hT (k := 53) (q := (7, 35)) rfl) (Nat.le_of_ble_eq_true rfl) rfl ?_
      obtain rfl := Option.some.inj hf
      exact A_iret (pc := 135) dX5_count_135 rfl rfl ⟨rfl, rfl, rfl⟩
    have hf := oi_f cc21 hf
    have ecc4 : a1.toInt ≠ 0 := fun h9 => cc4 (Int32.toInt_inj.mp (h9.trans (by decide : (0 : Int) = (0 : Int32).toInt)))
    have ecc5 : a1.toInt ≠ 1 := fun h9 => cc5 (Int32.toInt_inj.mp (h9.trans (by decide : (1 : Int) = (1 : Int32).toInt)))
    have ecc6 : a1.toInt ≠ 2 := fun h9 => cc6 (Int32.toInt_inj.mp (h9.trans (by decide : (2 : Int) = (2 : Int32).toInt)))
    have ecc7 : a1.toInt ≠ 3 := fun h9 => cc7 (Int32.toInt_inj.mp (h9.trans (by decide : (3 : Int) = (3 : Int32).toInt)))
    have ecc8 : a1.toInt ≠ 4 := fun h9 => cc8 (Int32.toInt_inj.mp (h9.trans (by decide : (4 : Int) = (4 : Int32).toInt)))
    have ecc11 : a1.toInt ≠ 5 := fun h9 => cc11 (Int32.toInt_inj.mp (h9.trans (by decide : (5 : Int) = (5 : Int32).toInt)))
    have ecc14 : a1.toInt ≠ 6 := fun h9 => cc14 (Int32.toInt_inj.mp (h9.trans (by decide : (6 : Int) = (6 : Int32).toInt)))
    have ecc17 : a1.toInt ≠ 7 := fun h9 => cc17 (Int32.toInt_inj.mp (h9.trans (by decide : (7 : Int) = (7 : Int32).toInt)))
    have ecc20 : a1.toInt ≠ 8 := fun h9 => cc20 (Int32.toInt_inj.mp (h9.trans (by decide : (8 : Int) = (8 : Int32).toInt)))
    have ecc21 : a1.toInt ≠ 9 := fun h9 => cc21 (Int32.toInt_inj.mp (h9.trans (by decide : (9 : Int) = (9 : Int32).toInt)))
    refine A_tabOut (pc := 22) 136 dX5_count_22 (by omega) (by decide) ?_
    refine A_bipush (pc := 136) (-9) dX5_count_136 rfl ?_
    obtain rfl := Option.some.inj hf
    exact A_iret (pc := 138) dX5_count_138 rfl rfl ⟨rfl, rfl, rfl⟩
  have hf := oi_f cc3 hf
  refine A_aloadn (pc := 11) dX5_count_11 rfl ?_
  refine A_getR (pc := 12) dX5_count_12 gX5_7 (lay_s hT (k := 53) (q := (7, 35)) rfl) (Nat.le_of_ble_eq_true rfl) rfl (lay_r hT 52 rfl) ?_
  refine A_iloadn (pc := 15) dX5_count_15 rfl ?_
  refine A_bipush (pc := 16) 10 dX5_count_16 rfl ?_
  refine A_isub (pc := 18) dX5_count_18 ?_
  obtain ⟨h22, hf⟩ := oi_cf hf
  refine A_iald (pc := 19) dX5_count_19 (lay_s hT (k := 54) (q := (0, 7)) rfl) (oob_f h22) ?_
  obtain rfl := Option.some.inj hf
  exact A_iret (pc := 20) dX5_count_20 rfl rfl ⟨rfl, rfl, rfl⟩
