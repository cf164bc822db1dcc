def zX0_take (n : Nat) (u : MU) (a1 : Int32) : Option (MU) := if 80 ≤ (u 43 1) then (some u) else (if oob (u 43 1) 80 then none else letb (up2 u 44 (u 43 1).toNatClampNeg a1) (fun u3 => letb (up2 u3 43 1 ((u3 43 1) + 1)) (fun u4 => some u4)))
set_option maxHeartbeats 4000000 in
set_option maxRecDepth 100000 in
theorem wX0_take {G : GG} {T : TT} {n d : Nat} (hd : 0 ≤ d) {q : MU} {u : MU} {a1 : Int32} (hT : LAY T) (hf : zX0_take n u a1 = some q) : AW G d mX0_take 0 [.ref 43, .int a1] [] T u 0 0 (QV T q) := by
  rw [zX0_take] at hf
  refine A_aloadn (pc := 0) dX0_take_0 rfl ?_
  refine A_getI (pc := 1) dX0_take_1 gX0_15 (lay_s hT (k := 43) (q := (2, 2)) rfl) (Nat.le_of_ble_eq_true rfl) rfl ?_
  refine A_bipush (pc := 4) 80 dX0_take_4 rfl ?_
  refine A_icmp_ge (pc := 6) 29 dX0_take_6 (by decide) (fun cc1 => ?_) (fun cc1 => ?_)
  · have hf := oi_t cc1 hf
    obtain rfl := Option.some.inj hf
    exact A_vret (pc := 29) dX0_take_29 rfl ⟨rfl, rfl, rfl⟩
  have hf := oi_f cc1 hf
  refine A_aloadn (pc := 9) dX0_take_9 rfl ?_
  refine A_getR (pc := 10) dX0_take_10 gX0_9 (lay_s hT (k := 43) (q := (2, 2)) rfl) (Nat.le_of_ble_eq_true rfl) rfl (lay_r hT 42 rfl) ?_
  refine A_aloadn (pc := 13) dX0_take_13 rfl ?_
  refine A_getI (pc := 14) dX0_take_14 gX0_15 (lay_s hT (k := 43) (q := (2, 2)) rfl) (Nat.le_of_ble_eq_true rfl) rfl ?_
  refine A_iloadn (pc := 17) dX0_take_17 rfl ?_
  obtain ⟨h2, hf⟩ := oi_cf hf
  have hf := oi_l hf
  refine A_iast (pc := 18) dX0_take_18 (lay_s hT (k := 44) (q := (0, 80)) rfl) (oob_f h2) ?_
  refine A_aloadn (pc := 19) dX0_take_19 rfl ?_
  refine A_dup (pc := 20) dX0_take_20 ?_
  refine A_getI (pc := 21) dX0_take_21 gX0_15 (lay_s hT (k := 43) (q := (2, 2)) rfl) (Nat.le_of_ble_eq_true rfl) rfl ?_
  refine A_iconst (pc := 24) 1 dX0_take_24 rfl ?_
  refine A_iadd (pc := 25) dX0_take_25 ?_
  have hf := oi_l hf
  refine A_putI (pc := 26) dX0_take_26 gX0_15 (lay_s hT (k := 43) (q := (2, 2)) rfl) (Nat.le_of_ble_eq_true rfl) rfl rfl rfl rfl ?_
  obtain rfl := Option.some.inj hf
  exact A_vret (pc := 29) dX0_take_29 rfl ⟨rfl, rfl, rfl⟩
def zX0_at (n : Nat) (u : MU) (a1 : Int32) : Option (Int32) := if a1 < 0 then (some (-9)) else (if (u 43 1) ≤ a1 then (some (-9)) else (if oob a1 80 then none else some (u 44 a1.toNatClampNeg)))
set_option maxHeartbeats 4000000 in
set_option maxRecDepth 100000 in
theorem wX0_at {G : GG} {T : TT} {n d : Nat} (hd : 0 ≤ d) {q : Int32} {u : MU} {a1 : Int32} (hT : LAY T) (hf : zX0_at n u a1 = some q) : AW G d mX0_at 0 [.ref 43, .int a1] [] T u 0 0 (QS T q u) := by
  rw [zX0_at] at hf
  refine A_iloadn (pc := 0) dX0_at_0 rfl ?_
  refine A_if_lt (pc := 1) (w := 0) 21 dX0_at_1 (by decide) (fun cc1 => ?_) (fun cc1 => ?_)
  · have hf := oi_t cc1 hf
    refine A_bipush (pc := 21) (-9) dX0_at_21 rfl ?_
    obtain rfl := Option.some.inj hf
    exact A_iret (pc := 23) dX0_at_23 rfl rfl ⟨rfl, rfl, rfl⟩
  have hf := oi_f cc1 hf
  refine A_iloadn (pc := 4) dX0_at_4 rfl ?_
  refine A_aloadn (pc := 5) dX0_at_5 rfl ?_
  refine A_getI (pc := 6) dX0_at_6 gX0_15 (lay_s hT (k := 43) (q := (2, 2)) rfl) (Nat.le_of_ble_eq_true rfl) rfl ?_
  refine A_icmp_ge (pc := 9) 21 dX0_at_9 (by decide) (fun cc2 => ?_) (fun cc2 => ?_)
  · have hf := oi_t cc2 hf
    refine A_bipush (pc := 21) (-9) dX0_at_21 rfl ?_
    obtain rfl := Option.some.inj hf
    exact A_iret (pc := 23) dX0_at_23 rfl rfl ⟨rfl, rfl, rfl⟩
  have hf := oi_f cc2 hf
  refine A_aloadn (pc := 12) dX0_at_12 rfl ?_
  refine A_getR (pc := 13) dX0_at_13 gX0_9 (lay_s hT (k := 43) (q := (2, 2)) rfl) (Nat.le_of_ble_eq_true rfl) rfl (lay_r hT 42 rfl) ?_
  refine A_iloadn (pc := 16) dX0_at_16 rfl ?_
  obtain ⟨h3, hf⟩ := oi_cf hf
  refine A_iald (pc := 17) dX0_at_17 (lay_s hT (k := 44) (q := (0, 80)) rfl) (oob_f h3) ?_
  refine A_goto (pc := 18) 23 dX0_at_18 (by decide) ?_
  obtain rfl := Option.some.inj hf
  exact A_iret (pc := 23) dX0_at_23 rfl rfl ⟨rfl, rfl, rfl⟩
def zX0_isDigit (n : Nat) (u : MU) (a1 : Int32) : Option (Int32) := Option.bind (zX0_at n u a1) (fun q1 => if q1 < 48 then (some 0) else (Option.bind (zX0_at n u a1) (fun q4 => if 57 < q4 then (some 0) else (some 1))))
set_option maxHeartbeats 4000000 in
set_option maxRecDepth 100000 in
theorem wX0_isDigit {G : GG} {T : TT} {n d : Nat} (hd : 1 ≤ d) {q : Int32} {u : MU} {a1 : Int32} (hT : LAY T) (hf : zX0_isDigit n u a1 = some q) : AW G d mX0_isDigit 0 [.ref 43, .int a1] [] T u 0 0 (QS T q u) := by
  obtain ⟨d, rfl⟩ : ∃ e, d = e + 1 := ⟨d - 1, by omega⟩
  rw [zX0_isDigit] at hf
  refine A_aloadn (pc := 0) dX0_isDigit_0 rfl ?_
  refine A_iloadn (pc := 1) dX0_isDigit_1 rfl ?_
  obtain ⟨q1, h2, hf⟩ := oi_b hf
  refine A_cV1i (mi2 := mX0_at) (pc := 2) dX0_isDigit_2 lX0_19 fX0_at vX0_at (lay_s hT (k := 43) (q := (2, 2)) rfl) rfl (Nat.le_of_ble_eq_true rfl) rfl (Nat.le_of_ble_eq_true rfl) (wX0_at (by omega) hT  h2) ?_
  refine A_bipush (pc := 5) 48 dX0_isDigit_5 rfl ?_
  refine A_icmp_lt (pc := 7) 24 dX0_isDigit_7 (by decide) (fun cc3 => ?_) (fun cc3 => ?_)
  · have hf := oi_t cc3 hf
    refine A_iconst (pc := 24) 0 dX0_isDigit_24 rfl ?_
    obtain rfl := Option.some.inj hf
    exact A_iret (pc := 25) dX0_isDigit_25 rfl rfl ⟨rfl, rfl, rfl⟩
  have hf := oi_f cc3 hf
  refine A_aloadn (pc := 10) dX0_isDigit_10 rfl ?_
  refine A_iloadn (pc := 11) dX0_isDigit_11 rfl ?_
  obtain ⟨q4, h5, hf⟩ := oi_b hf
  refine A_cV1i (mi2 := mX0_at) (pc := 12) dX0_isDigit_12 lX0_19 fX0_at vX0_at (lay_s hT (k := 43) (q := (2, 2)) rfl) rfl (Nat.le_of_ble_eq_true rfl) rfl (Nat.le_of_ble_eq_true rfl) (wX0_at (by omega) hT  h5) ?_
  refine A_bipush (pc := 15) 57 dX0_isDigit_15 rfl ?_
  refine A_icmp_gt (pc := 17) 24 dX0_isDigit_17 (by decide) (fun cc6 => ?_) (fun cc6 => ?_)
  · have hf := oi_t cc6 hf
    refine A_iconst (pc := 24) 0 dX0_isDigit_24 rfl ?_
    obtain rfl := Option.some.inj hf
    exact A_iret (pc := 25) dX0_isDigit_25 rfl rfl ⟨rfl, rfl, rfl⟩
  have hf := oi_f cc6 hf
  refine A_iconst (pc := 20) 1 dX0_isDigit_20 rfl ?_
  refine A_goto (pc := 21) 25 dX0_isDigit_21 (by decide) ?_
  obtain rfl := Option.some.inj hf
  exact A_iret (pc := 25) dX0_isDigit_25 rfl rfl ⟨rfl, rfl, rfl⟩
def zX0_digit (n : Nat) (u : MU) (a1 : Int32) : Option (Int32) := Option.bind (zX0_isDigit n u a1) (fun q1 => if q1 = 0 then (some 0) else (Option.bind (zX0_at n u a1) (fun q4 => some (q4 - 48))))
set_option maxHeartbeats 4000000 in
set_option maxRecDepth 100000 in
theorem wX0_digit {G : GG} {T : TT} {n d : Nat} (hd : 2 ≤ d) {q : Int32} {u : MU} {a1 : Int32} (hT : LAY T) (hf : zX0_digit n u a1 = some q) : AW G d mX0_digit 0 [.ref 43, .int a1] [] T u 0 0 (QS T q u) := by
  obtain ⟨d, rfl⟩ : ∃ e, d = e + 1 := ⟨d - 1, by omega⟩
  rw [zX0_digit] at hf
  refine A_aloadn (pc := 0) dX0_digit_0 rfl ?_
  refine A_iloadn (pc := 1) dX0_digit_1 rfl ?_
  obtain ⟨q1, h2, hf⟩ := oi_b hf
  refine A_cV1i (mi2 := mX0_isDigit) (pc := 2) dX0_digit_2 lX0_23 fX0_isDigit vX0_isDigit (lay_s hT (k := 43) (q := (2, 2)) rfl) rfl (Nat.le_of_ble_eq_true rfl) rfl (Nat.le_of_ble_eq_true rfl) (wX0_isDigit (by omega) hT  h2) ?_
  refine A_if_eq (pc := 5) (w := 0) 19 dX0_digit_5 (by decide) (fun cc3 => ?_) (fun cc3 => ?_)
  · have hf := oi_t cc3 hf
    refine A_iconst (pc := 19) 0 dX0_digit_19 rfl ?_
    obtain rfl := Option.some.inj hf
    exact A_iret (pc := 20) dX0_digit_20 rfl rfl ⟨rfl, rfl, rfl⟩
  have hf := oi_f cc3 hf
  refine A_aloadn (pc := 8) dX0_digit_8 rfl ?_
  refine A_iloadn (pc := 9) dX0_digit_9 rfl ?_
  obtain ⟨q4, h5, hf⟩ := oi_b hf
  refine A_cV1i (mi2 := mX0_at) (pc := 10) dX0_digit_10 lX0_19 fX0_at vX0_at (lay_s hT (k := 43) (q := (2, 2)) rfl) rfl (Nat.le_of_ble_eq_true rfl) rfl (Nat.le_of_ble_eq_true rfl) (wX0_at (by omega) hT  h5) ?_
  refine A_bipush (pc := 13) 48 dX0_digit_13 rfl ?_
  refine A_isub (pc := 15) dX0_digit_15 ?_
  refine A_goto (pc := 16) 20 dX0_digit_16 (by decide) ?_
  obtain rfl := Option.some.inj hf
  exact A_iret (pc := 20) dX0_digit_20 rfl rfl ⟨rfl, rfl, rfl⟩
def zX0_leastDigits (n : Nat) (u : MU) (a0 : Int32) : Option (Int32) := if a0 = 99 then (some 1) else if a0 = 100 then (some 3) else if a0 = 103 then (some 2) else if a0 = 105 then (some 2) else if a0 = 112 then (some 5) else if a0 = 121 then (some 1) else (some 0)
set_option maxHeartbeats 4000000 in
set_option maxRecDepth 100000 in
theorem wX0_leastDigits {G : GG} {T : TT} {n d : Nat} (hd : 0 ≤ d) {q : Int32} {u : MU} {a0 : Int32} (hT : LAY T) (hf : zX0_leastDigits n u a0 = some q) : AW G d mX0_leastDigits 0 [.int a0] [] T u 0 0 (QS T q u) := by
  rw [zX0_leastDigits] at hf
  refine A_iloadn (pc := 0) dX0_leastDigits_0 rfl ?_
  by_cases cc1 : a0 = 99
  · have hf := oi_t cc1 hf
    refine A_lookup (pc := 1) (off := 59) 60 dX0_leastDigits_1 (by decide) (by rw [cc1]; decide) (by decide) ?_
    refine A_iconst (pc := 60) 1 dX0_leastDigits_60 rfl ?_
    obtain rfl := Option.some.inj hf
    exact A_iret (pc := 61) dX0_leastDigits_61 rfl rfl ⟨rfl, rfl, rfl⟩
  have hf := oi_f cc1 hf
  by_cases cc2 : a0 = 100
  · have hf := oi_t cc2 hf
    refine A_lookup (pc := 1) (off := 63) 64 dX0_leastDigits_1 (by decide) (by rw [cc2]; decide) (by decide) ?_
    refine A_iconst (pc := 64) 3 dX0_leastDigits_64 rfl ?_
    obtain rfl := Option.some.inj hf
    exact A_iret (pc := 65) dX0_leastDigits_65 rfl rfl ⟨rfl, rfl, rfl⟩
  have hf := oi_f cc2 hf
  by_cases cc3 : a0 = 103
  · have hf := oi_t cc3 hf
    refine A_lookup (pc := 1) (off := 61) 62 dX0_leastDigits_1 (by decide) (by rw [cc3]; decide) (by decide) ?_
    refine A_iconst (pc := 62) 2 dX0_leastDigits_62 rfl ?_
    obtain rfl := Option.some.inj hf
    exact A_iret (pc := 63) dX0_leastDigits_63 rfl rfl ⟨rfl, rfl, rfl⟩
  have hf := oi_f cc3 hf
  by_cases cc4 : a0 = 105
  · have hf := oi_t cc4 hf
    refine A_lookup (pc := 1) (off := 61) 62 dX0_leastDigits_1 (by decide) (by rw [cc4]; decide) (by decide) ?_
    refine A_iconst (pc := 62) 2 dX0_leastDigits_62 rfl ?_
    obtain rfl := Option.some.inj hf
    exact A_iret (pc := 63) dX0_leastDigits_63 rfl rfl ⟨rfl, rfl, rfl⟩
  have hf := oi_f cc4 hf
  by_cases cc5 : a0 = 112
  · have hf := oi_t cc5 hf
    refine A_lookup (pc := 1) (off := 65) 66 dX0_leastDigits_1 (by decide) (by rw [cc5]; decide) (by decide) ?_
    refine A_iconst (pc := 66) 5 dX0_leastDigits_66 rfl ?_
    obtain rfl := Option.some.inj hf
    exact A_iret (pc := 67) dX0_leastDigits_67 rfl rfl ⟨rfl, rfl, rfl⟩
  have hf := oi_f cc5 hf
  by_cases cc6 : a0 = 121
  · have hf := oi_t cc6 hf
    refine A_lookup (pc := 1) (off := 59) 60 dX0_leastDigits_1 (by decide) (by rw [cc6]; decide) (by decide) ?_
    refine A_iconst (pc := 60) 1 dX0_leastDigits_60 rfl ?_
    obtain rfl := Option.some.inj hf
    exact A_iret (pc := 61) dX0_leastDigits_61 rfl rfl ⟨rfl, rfl, rfl⟩
  have hf := oi_f cc6 hf
  have ecc1 : a0.toInt ≠ 99 := fun h9 => cc1 (Int32.toInt_inj.mp (h9.trans (by decide : (99 : Int) = (99 : Int32).toInt)))
  have ecc2 : a0.toInt ≠ 100 := fun h9 => cc2 (Int32.toInt_inj.mp (h9.trans (by decide : (100 : Int) = (100 : Int32).toInt)))
  have ecc3 : a0.toInt ≠ 103 := fun h9 => cc3 (Int32.toInt_inj.mp (h9.trans (by decide : (103 : Int) = (103 : Int32).toInt)))
  have ecc4 : a0.toInt ≠ 105 := fun h9 => cc4 (Int32.toInt_inj.mp (h9.trans (by decide : (105 : Int) = (105 : Int32).toInt)))
  have ecc5 : a0.toInt ≠ 112 := fun h9 => cc5 (Int32.toInt_inj.mp (h9.trans (by decide : (112 : Int) = (112 : Int32).toInt)))
  have ecc6 : a0.toInt ≠ 121 := fun h9 => cc6 (Int32.toInt_inj.mp (h9.trans (by decide : (121 : Int) = (121 : Int32).toInt)))
  refine A_lookup (pc := 1) (off := 67) 68 dX0_leastDigits_1 (by decide) (by simp [Op.lookupswitch.offset, ecc1, Ne.symm ecc1, ecc2, Ne.symm ecc2, ecc3, Ne.symm ecc3, ecc4, Ne.symm ecc4, ecc5, Ne.symm ecc5, ecc6, Ne.symm ecc6]) (by decide) ?_
  refine A_iconst (pc := 68) 0 dX0_leastDigits_68 rfl ?_
  obtain rfl := Option.some.inj hf
  exact A_iret (pc := 69) dX0_leastDigits_69 rfl rfl ⟨rfl, rfl, rfl⟩
def zX0_mostDigits (n : Nat) (u : MU) (a0 : Int32) : Option (Int32) := if a0 = 112 then (some 6) else (Option.bind (zX0_leastDigits n u a0) (fun q2 => some q2))
set_option maxHeartbeats 4000000 in
set_option maxRecDepth 100000 in
theorem wX0_mostDigits {G : GG} {T : TT} {n d : Nat} (hd : 1 ≤ d) {q : Int32} {u : MU} {a0 : Int32} (hT : LAY T) (hf : zX0_mostDigits n u a0 = some q) : AW G d mX0_mostDigits 0 [.int a0] [] T u 0 0 (QS T q u) := by
  obtain ⟨d, rfl⟩ : ∃ e, d = e + 1 := ⟨d - 1, by omega⟩
  rw [zX0_mostDigits] at hf
  refine A_iloadn (pc := 0) dX0_mostDigits_0 rfl ?_
  refine A_bipush (pc := 1) 112 dX0_mostDigits_1 rfl ?_
  refine A_icmp_ne (pc := 3) 11 dX0_mostDigits_3 (by decide) (fun cc1 => ?_) (fun cc1 => ?_)
  · have hf := oi_f cc1 hf
    refine A_iloadn (pc := 11) dX0_mostDigits_11 rfl ?_
    obtain ⟨q2, h3, hf⟩ := oi_b hf
    refine A_cS1i (mi2 := mX0_leastDigits) (pc := 12) dX0_mostDigits_12 lX0_27 fX0_leastDigits sX0_leastDigits (Nat.le_of_ble_eq_true rfl) rfl (Nat.le_of_ble_eq_true rfl) (wX0_leastDigits (by omega) hT  h3) ?_
    obtain rfl := Option.some.inj hf
    exact A_iret (pc := 15) dX0_mostDigits_15 rfl rfl ⟨rfl, rfl, rfl⟩
  have hf := oi_t cc1 hf
  refine A_bipush (pc := 6) 6 dX0_mostDigits_6 rfl ?_
  refine A_goto (pc := 8) 15 dX0_mostDigits_8 (by decide) ?_
  obtain rfl := Option.some.inj hf
  exact A_iret (pc := 15) dX0_mostDigits_15 rfl rfl ⟨rfl, rfl, rfl⟩
def zX0_digitsFrom_L2 (n : Nat) (u : MU) (s1 : Int32) (s2 : Int32) (k : Int32 → Option (Int32)) : Nat → Int32 → Option (Int32)
  | 0, _ => none
  | m + 1, t3 => if s2 ≤ t3 then (k t3) else (Option.bind (zX0_isDigit n u (s1 + t3)) (fun q2 => if q2 = 0 then (k t3) else (zX0_digitsFrom_L2 n u  s1 s2 k m (t3 + 1))))
def zX0_digitsFrom (n : Nat) (u : MU) (a1 : Int32) (a2 : Int32) : Option (Int32) := zX0_digitsFrom_L2 n u  a1 a2 (fun y5 => some y5) n 0
set_option maxHeartbeats 4000000 in
set_option maxRecDepth 100000 in
theorem wX0_digitsFrom_L2 {G : GG} {T : TT} {n d : Nat} (hd : 2 ≤ d) {u : MU} {s1 : Int32} {s2 : Int32} {k : Int32 → Option (Int32)} (hT : LAY T) (hk : ∀ (t3 : Int32) (q : Int32), k t3 = some q → AW G d mX0_digitsFrom 23 [.ref 43, .int s1, .int s2, .int t3] [] T u 0 0 (QS T q u)) : ∀ (m : Nat) (t3 : Int32) (q : Int32), zX0_digitsFrom_L2 n u  s1 s2 k m t3 = some q → AW G d mX0_digitsFrom 2 [.ref 43, .int s1, .int s2, .int t3] [] T u 0 0 (QS T q u) := by
  intro m
  obtain ⟨d, rfl⟩ : ∃ e, d = e + 1 := ⟨d - 1, by omega⟩
  induction m with
  | zero =>
    intro t3 q hf
    have h0 : (none : Option (Int32)) = some q := hf
    cases h0
  | succ m ih =>
    intro t3 q hf
    rw [zX0_digitsFrom_L2] at hf
    refine A_iloadn (pc := 2) dX0_digitsFrom_2 rfl ?_
    refine A_iloadn (pc := 3) dX0_digitsFrom_3 rfl ?_
    refine A_icmp_ge (pc := 4) 23 dX0_digitsFrom_4 (by decide) (fun cc1 => ?_) (fun cc1 => ?_)
    · have hf := oi_t cc1 hf
      exact hk _ _ hf
    have hf := oi_f cc1 hf
    refine A_aloadn (pc := 7) dX0_digitsFrom_7 rfl ?_
    refine A_iloadn (pc := 8) dX0_digitsFrom_8 rfl ?_
    refine A_iloadn (pc := 9) dX0_digitsFrom_9 rfl ?_
    refine A_iadd (pc := 10) dX0_digitsFrom_10 ?_
    obtain ⟨q2, h3, hf⟩ := oi_b hf
    refine A_cV1i (mi2 := mX0_isDigit) (pc := 11) dX0_digitsFrom_11 lX0_23 fX0_isDigit vX0_isDigit (lay_s hT (k := 43) (q := (2, 2)) rfl) rfl (Nat.le_of_ble_eq_true rfl) rfl (Nat.le_of_ble_eq_true rfl) (wX0_isDigit (by omega) hT  h3) ?_
    refine A_if_eq (pc := 14) (w := 0) 23 dX0_digitsFrom_14 (by decide) (fun cc4 => ?_) (fun cc4 => ?_)
    · have hf := oi_t cc4 hf
      exact hk _ _ hf
    have hf := oi_f cc4 hf
    refine A_inc (pc := 17) (L2 := [.ref 43, .int s1, .int s2, .int (t3 + 1)]) (t3 + 1) dX0_digitsFrom_17 rfl rfl rfl ?_
    refine A_goto (pc := 20) 2 dX0_digitsFrom_20 (by decide) ?_
    exact ih _ _ hf
set_option maxHeartbeats 4000000 in
set_option maxRecDepth 100000 in
theorem wX0_digitsFrom {G : GG} {T : TT} {n d : Nat} (hd : 2 ≤ d) {q : Int32} {u : MU} {a1 : Int32} {a2 : Int32} (hT : LAY T) (hf : zX0_digitsFrom n u a1 a2 = some q) : AW G d mX0_digitsFrom 0 [.ref 43, .int a1, .int a2, .null] [] T u 0 0 (QS T q u) := by
  obtain ⟨d, rfl⟩ : ∃ e, d = e + 1 := ⟨d - 1, by omega⟩
  rw [zX0_digitsFrom] at hf
  refine A_iconst (pc := 0) 0 dX0_digitsFrom_0 rfl ?_
  refine A_istn (pc := 1) (L2 := [.ref 43, .int a1, .int a2, .int 0]) dX0_digitsFrom_1 (Nat.le_of_ble_eq_true rfl) rfl ?_
  exact wX0_digitsFrom_L2 (by omega) hT  (fun y5 q0 hf => by
    refine A_iloadn (pc := 23) dX0_digitsFrom_23 rfl ?_
    obtain rfl := Option.some.inj hf
    exact A_iret (pc := 24) dX0_digitsFrom_24 rfl rfl ⟨rfl, rfl, rfl⟩) _ _ _ hf
def zX0_endOf (n : Nat) (u : MU) (a1 : Int32) : Option (Int32) := Option.bind (zX0_at n u a1) (fun q1 => Option.bind (zX0_leastDigits n u q1) (fun q3 => if q3 = 0 then (some ((-1) - a1)) else (Option.bind (zX0_at n u a1) (fun q6 => Option.bind (zX0_mostDigits n u q6) (fun q8 => Option.bind (zX0_digitsFrom n u (a1 + 1) q8) (fun q10 => letb ((a1 + 1) + q10) (fun x12 => if q10 < q3 then (some ((-1) - x12)) else (Option.bind (zX0_at n u x12) (fun q14 => if q14 = 59 then (some x12) else (some ((-1) - x12)))))))))))
set_option maxHeartbeats 4000000 in
set_option maxRecDepth 100000 in
theorem wX0_endOf {G : GG} {T : TT} {n d : Nat} (hd : 3 ≤ d) {q : Int32} {u : MU} {a1 : Int32} (hT : LAY T) (hf : zX0_endOf n u a1 = some q) : AW G d mX0_endOf 0 [.ref 43, .int a1, .null, .null, .null] [] T u 0 0 (QS T q u) := by
  obtain ⟨d, rfl⟩ : ∃ e, d = e + 1 := ⟨d - 1, by omega⟩
  rw [zX0_endOf] at hf
  refine A_aloadn (pc := 0) dX0_endOf_0 rfl ?_
  refine A_iloadn (pc := 1) dX0_endOf_1 rfl ?_
  obtain ⟨q1, h2, hf⟩ := oi_b hf
  refine A_cV1i (mi2 := mX0_at) (pc := 2) dX0_endOf_2 lX0_19 fX0_at vX0_at (lay_s hT (k := 43) (q := (2, 2)) rfl) rfl (Nat.le_of_ble_eq_true rfl) rfl (Nat.le_of_ble_eq_true rfl) (wX0_at (by omega) hT  h2) ?_
  obtain ⟨q3, h4, hf⟩ := oi_b hf
  refine A_cS1i (mi2 := mX0_leastDigits) (pc := 5) dX0_endOf_5 lX0_27 fX0_leastDigits sX0_leastDigits (Nat.le_of_ble_eq_true rfl) rfl (Nat.le_of_ble_eq_true rfl) (wX0_leastDigits (by omega) hT  h4) ?_
  refine A_istn (pc := 8) (L2 := [.ref 43, .int a1, .int q3, .null, .null]) dX0_endOf_8 (Nat.le_of_ble_eq_true rfl) rfl ?_
  refine A_iloadn (pc := 9) dX0_endOf_9 rfl ?_
  refine A_if_ne (pc := 10) (w := 0) 17 dX0_endOf_10 (by decide) (fun cc5 => ?_) (fun cc5 => ?_)
  · have hf := oi_f cc5 hf
    refine A_aloadn (pc := 17) dX0_endOf_17 rfl ?_
    refine A_iloadn (pc := 18) dX0_endOf_18 rfl ?_
    refine A_iconst (pc := 19) 1 dX0_endOf_19 rfl ?_
    refine A_iadd (pc := 20) dX0_endOf_20 ?_
    refine A_aloadn (pc := 21) dX0_endOf_21 rfl ?_
    refine A_iloadn (pc := 22) dX0_endOf_22 rfl ?_
    obtain ⟨q6, h7, hf⟩ := oi_b hf
    refine A_cV1i (mi2 := mX0_at) (pc := 23) dX0_endOf_23 lX0_19 fX0_at vX0_at (lay_s hT (k := 43) (q := (2, 2)) rfl) rfl (Nat.le_of_ble_eq_true rfl) rfl (Nat.le_of_ble_eq_true rfl) (wX0_at (by omega) hT  h7) ?_
    obtain ⟨q8, h9, hf⟩ := oi_b hf
    refine A_cS1i (mi2 := mX0_mostDigits) (pc := 26) dX0_endOf_26 lX0_30 fX0_mostDigits sX0_mostDigits (Nat.le_of_ble_eq_true rfl) rfl (Nat.le_of_ble_eq_true rfl) (wX0_mostDigits (by omega) hT  h9) ?_
    obtain ⟨q10, h11, hf⟩ := oi_b hf
    refine A_cV2i (mi2 := mX0_digitsFrom) (pc := 29) dX0_endOf_29 lX0_33 fX0_digitsFrom vX0_digitsFrom (lay_s hT (k := 43) (q := (2, 2)) rfl) rfl (Nat.le_of_ble_eq_true rfl) rfl (Nat.le_of_ble_eq_true rfl) (wX0_digitsFrom (by omega) hT  h11) ?_
    refine A_istn (pc := 32) (L2 := [.ref 43, .int a1, .int q3, .int q10, .null]) dX0_endOf_32 (Nat.le_of_ble_eq_true rfl) rfl ?_
    refine A_iloadn (pc := 33) dX0_endOf_33 rfl ?_
    refine A_iconst (pc := 34) 1 dX0_endOf_34 rfl ?_
    refine A_iadd (pc := 35) dX0_endOf_35 ?_
    refine A_iloadn (pc := 36) dX0_endOf_36 rfl ?_
    refine A_iadd (pc := 37) dX0_endOf_37 ?_
    have hf := oi_l hf
    refine A_ist (pc := 38) (L2 := [.ref 43, .int a1, .int q3, .int q10, .int ((a1 + 1) + q10)]) dX0_endOf_38 (Nat.le_of_ble_eq_true rfl) rfl ?_
    refine A_iloadn (pc := 40) dX0_endOf_40 rfl ?_
    refine A_iloadn (pc := 41) dX0_endOf_41 rfl ?_
    refine A_icmp_lt (pc := 42) 56 dX0_endOf_42 (by decide) (fun cc13 => ?_) (fun cc13 => ?_)
    · have hf := oi_t cc13 hf
      refine A_iconst (pc := 56) (-1) dX0_endOf_56 rfl ?_
      refine A_iload (pc := 57) dX0_endOf_57 rfl ?_
      refine A_isub (pc := 59) dX0_endOf_59 ?_
      refine A_goto (pc := 60) 65 dX0_endOf_60 (by decide) ?_
      obtain rfl := Option.some.inj hf
      exact A_iret (pc := 65) dX0_endOf_65 rfl rfl ⟨rfl, rfl, rfl⟩
    have hf := oi_f cc13 hf
    refine A_aloadn (pc := 45) dX0_endOf_45 rfl ?_
    refine A_iload (pc := 46) dX0_endOf_46 rfl ?_
    obtain ⟨q14, h15, hf⟩ := oi_b hf
    refine A_cV1i (mi2 := mX0_at) (pc := 48) dX0_endOf_48 lX0_19 fX0_at vX0_at (lay_s hT (k := 43) (q := (2, 2)) rfl) rfl (Nat.le_of_ble_eq_true rfl) rfl (Nat.le_of_ble_eq_true rfl) (wX0_at (by omega) hT  h15) ?_
    refine A_bipush (pc := 51) 59 dX0_endOf_51 rfl ?_
    refine A_icmp_eq (pc := 53) 63 dX0_endOf_53 (by decide) (fun cc16 => ?_) (fun cc16 => ?_)
    · have hf := oi_t cc16 hf
      refine A_iload (pc := 63) dX0_endOf_63 rfl ?_
      obtain rfl := Option.some.inj hf
      exact A_iret (pc := 65) dX0_endOf_65 rfl rfl ⟨rfl, rfl, rfl⟩
    have hf := oi_f cc16 hf
    refine A_iconst (pc := 56) (-1) dX0_endOf_56 rfl ?_
    refine A_iload (pc := 57) dX0_endOf_57 rfl ?_
    refine A_isub (pc := 59) dX0_endOf_59 ?_
    refine A_goto (pc := 60) 65 dX0_endOf_60 (by decide) ?_
    obtain rfl := Option.some.inj hf
    exact A_iret (pc := 65) dX0_endOf_65 rfl rfl ⟨rfl, rfl, rfl⟩
  have hf := oi_t cc5 hf
  refine A_iconst (pc := 13) (-1) dX0_endOf_13 rfl ?_
  refine A_iloadn (pc := 14) dX0_endOf_14 rfl ?_
  refine A_isub (pc := 15) dX0_endOf_15 ?_
  obtain rfl := Option.some.inj hf
  exact A_iret (pc := 16) dX0_endOf_16 rfl rfl ⟨rfl, rfl, rfl⟩
def zX0_firstWrong_L13 (n : Nat) (u : MU) (k : Int32 → Int32 → Option (Int32)) : Nat → Int32 → Int32 → Option (Int32)
  | 0, _, _ => none
  | m + 1, t1, t2 => if 80 ≤ t2 then (k t1 t2) else (if (u 43 1) ≤ t1 then (k t1 t2) else (Option.bind (zX0_endOf n u t1) (fun q4 => if 0 ≤ q4 then (letb (q4 + 1) (fun x7 => zX0_firstWrong_L13 n u   k m x7 (t2 + 1))) else (some ((-1) - q4)))))
def zX0_firstWrong (n : Nat) (u : MU) : Option (Int32) := if (u 43 1) = 0 then (some 0) else (zX0_firstWrong_L13 n u   (fun y8 y9 => some (-9)) n 0 0)
set_option maxHeartbeats 4000000 in
set_option maxRecDepth 100000 in
theorem wX0_firstWrong_L13 {G : GG} {T : TT} {n d : Nat} (hd : 4 ≤ d) {u : MU} {k : Int32 → Int32 → Option (Int32)} (hT : LAY T) (hk : ∀ (t1 : Int32) (t2 : Int32) (q : Int32), k t1 t2 = some q → AW G d mX0_firstWrong 51 [.ref 43, .int t1, .int t2, .null] [] T u 0 0 (QS T q u)) : ∀ (m : Nat) (t1 : Int32) (t2 : Int32) (q : Int32), zX0_firstWrong_L13 n u  k m t1 t2 = some q → AW G d mX0_firstWrong 13 [.ref 43, .int t1, .int t2, .null] [] T u 0 0 (QS T q u) := by
  intro m
  obtain ⟨d, rfl⟩ : ∃ e, d = e + 1 := ⟨d - 1, by omega⟩
  induction m with
  | zero =>
    intro t1 t2 q hf
    have h0 : (none : Option (Int32)) = some q := hf
    cases h0
  | succ m ih =>
    intro t1 t2 q hf
    rw [zX0_firstWrong_L13] at hf
    refine A_iloadn (pc := 13) dX0_firstWrong_13 rfl ?_
    refine A_bipush (pc := 14) 80 dX0_firstWrong_14 rfl ?_
    refine A_icmp_ge (pc := 16) 51 dX0_firstWrong_16 (by decide) (fun cc2 => ?_) (fun cc2 => ?_)
    · have hf := oi_t cc2 hf
      exact hk _ _ _ hf
    have hf := oi_f cc2 hf
    refine A_iloadn (pc := 19) dX0_firstWrong_19 rfl ?_
    refine A_aloadn (pc := 20) dX0_firstWrong_20 rfl ?_
    refine A_getI (pc := 21) dX0_firstWrong_21 gX0_15 (lay_s hT (k := 43) (q := (2, 2)) rfl) (Nat.le_of_ble_eq_true rfl) rfl ?_
    refine A_icmp_ge (pc := 24) 51 dX0_firstWrong_24 (by decide) (fun cc3 => ?_) (fun cc3 => ?_)
    · have hf := oi_t cc3 hf
      exact hk _ _ _ hf
    have hf := oi_f cc3 hf
    refine A_aloadn (pc := 27) dX0_firstWrong_27 rfl ?_
    refine A_iloadn (pc := 28) dX0_firstWrong_28 rfl ?_
    obtain ⟨q4, h5, hf⟩ := oi_b hf
    refine A_cV1i (mi2 := mX0_endOf) (pc := 29) dX0_firstWrong_29 lX0_37 fX0_endOf vX0_endOf (lay_s hT (k := 43) (q := (2, 2)) rfl) rfl (Nat.le_of_ble_eq_true rfl) rfl (Nat.le_of_ble_eq_true rfl) (wX0_endOf (by omega) hT  h5) ?_
    refine A_istn (pc := 32) (L2 := [.ref 43, .int t1, .int t2, .int q4]) dX0_firstWrong_32 (Nat.le_of_ble_eq_true rfl) rfl ?_
    refine A_iloadn (pc := 33) dX0_firstWrong_33 rfl ?_
    refine A_if_ge (pc := 34) (w := 0) 41 dX0_firstWrong_34 (by decide) (fun cc6 => ?_) (fun cc6 => ?_)
    · have hf := oi_t cc6 hf
      refine A_iloadn (pc := 41) dX0_firstWrong_41 rfl ?_
      refine A_iconst (pc := 42) 1 dX0_firstWrong_42 rfl ?_
      refine A_iadd (pc := 43) dX0_firstWrong_43 ?_
      have hf := oi_l hf
      refine A_istn (pc := 44) (L2 := [.ref 43, .int (q4 + 1), .int t2, .int q4]) dX0_firstWrong_44 (Nat.le_of_ble_eq_true rfl) rfl ?_
      refine A_inc (pc := 45) (L2 := [.ref 43, .int (q4 + 1), .int (t2 + 1), .int q4]) (t2 + 1) dX0_firstWrong_45 rfl rfl rfl ?_
      refine A_goto (pc := 48) 13 dX0_firstWrong_48 (by decide) ?_
      refine A_fgt 3 (L' := [.ref 43, .int (q4 + 1), .int (t2 + 1), .null]) rfl ?_
      exact ih _ _ _ hf
    have hf := oi_f cc6 hf
    refine A_iconst (pc := 37) (-1) dX0_firstWrong_37 rfl ?_
    refine A_iloadn (pc := 38) dX0_firstWrong_38 rfl ?_
    refine A_isub (pc := 39) dX0_firstWrong_39 ?_
    obtain rfl := Option.some.inj hf
    exact A_iret (pc := 40) dX0_firstWrong_40 rfl rfl ⟨rfl, rfl, rfl⟩
set_option maxHeartbeats 4000000 in
set_option maxRecDepth 100000 in
theorem wX0_firstWrong {G : GG} {T : TT} {n d : Nat} (hd : 4 ≤ d) {q : Int32} {u : MU} (hT : LAY T) (hf : zX0_firstWrong n u = some q) : AW G d mX0_firstWrong 0 [.ref 43, .null, .null, .null] [] T u 0 0 (QS T q u) := by
  obtain ⟨d, rfl⟩ : ∃ e, d = e + 1 := ⟨d - 1, by omega⟩
  rw [zX0_firstWrong] at hf
  refine A_aloadn (pc := 0) dX0_firstWrong_0 rfl ?_
  refine A_getI (pc := 1) dX0_firstWrong_1 gX0_15 (lay_s hT (k := 43) (q := (2, 2)) rfl) (Nat.le_of_ble_eq_true rfl) rfl ?_
  refine A_if_ne (pc := 4) (w := 0) 9 dX0_firstWrong_4 (by decide) (fun cc1 => ?_) (fun cc1 => ?_)
  · have hf := oi_f cc1 hf
    refine A_iconst (pc := 9) 0 dX0_firstWrong_9 rfl ?_
    refine A_istn (pc := 10) (L2 := [.ref 43, .int 0, .null, .null]) dX0_firstWrong_10 (Nat.le_of_ble_eq_true rfl) rfl ?_
    refine A_iconst (pc := 11) 0 dX0_firstWrong_11 rfl ?_
    refine A_istn (pc := 12) (L2 := [.ref 43, .int 0, .int 0, .null]) dX0_firstWrong_12 (Nat.le_of_ble_eq_true rfl) rfl ?_
    exact wX0_firstWrong_L13 (by omega) hT  (fun y8 y9 q0 hf => by
      refine A_bipush (pc := 51) (-9) dX0_firstWrong_51 rfl ?_
      obtain rfl := Option.some.inj hf
      exact A_iret (pc := 53) dX0_firstWrong_53 rfl rfl ⟨rfl, rfl, rfl⟩) _ _ _ _ hf
  have hf := oi_t cc1 hf
  refine A_iconst (pc := 7) 0 dX0_firstWrong_7 rfl ?_
  obtain rfl := Option.some.inj hf
  exact A_iret (pc := 8) dX0_firstWrong_8 rfl rfl ⟨rfl, rfl, rfl⟩
def zX0_warmthAt (n : Nat) (u : MU) (a1 : Int32) : Option (Int32) := Option.bind (zX0_isDigit n u (a1 + 1)) (fun q1 => if q1 = 0 then (Option.bind (zX0_digit n u a1) (fun q4 => some q4)) else (Option.bind (zX0_digit n u a1) (fun q6 => Option.bind (zX0_digit n u (a1 + 1)) (fun q8 => some ((10 * q6) + q8)))))
set_option maxHeartbeats 4000000 in
set_option maxRecDepth 100000 in
theorem wX0_warmthAt {G : GG} {T : TT} {n d : Nat} (hd : 3 ≤ d) {q : Int32} {u : MU} {a1 : Int32} (hT : LAY T) (hf : zX0_warmthAt n u a1 = some q) : AW G d mX0_warmthAt 0 [.ref 43, .int a1] [] T u 0 0 (QS T q u) := by
  obtain ⟨d, rfl⟩ : ∃ e, d = e + 1 := ⟨d - 1, by omega⟩
  rw [zX0_warmthAt] at hf
  refine A_aloadn (pc := 0) dX0_warmthAt_0 rfl ?_
  refine A_iloadn (pc := 1) dX0_warmthAt_1 rfl ?_
  refine A_iconst (pc := 2) 1 dX0_warmthAt_2 rfl ?_
  refine A_iadd (pc := 3) dX0_warmthAt_3 ?_
  obtain ⟨q1, h2, hf⟩ := oi_b hf
  refine A_cV1i (mi2 := mX0_isDigit) (pc := 4) dX0_warmthAt_4 lX0_23 fX0_isDigit vX0_isDigit (lay_s hT (k := 43) (q := (2, 2)) rfl) rfl (Nat.le_of_ble_eq_true rfl) rfl (Nat.le_of_ble_eq_true rfl) (wX0_isDigit (by omega) hT  h2) ?_
  refine A_if_eq (pc := 7) (w := 0) 29 dX0_warmthAt_7 (by decide) (fun cc3 => ?_) (fun cc3 => ?_)
  · have hf := oi_t cc3 hf
    refine A_aloadn (pc := 29) dX0_warmthAt_29 rfl ?_
    refine A_iloadn (pc := 30) dX0_warmthAt_30 rfl ?_
    obtain ⟨q4, h5, hf⟩ := oi_b hf
    refine A_cV1i (mi2 := mX0_digit) (pc := 31) dX0_warmthAt_31 lX0_44 fX0_digit vX0_digit (lay_s hT (k := 43) (q := (2, 2)) rfl) rfl (Nat.le_of_ble_eq_true rfl) rfl (Nat.le_of_ble_eq_true rfl) (wX0_digit (by omega) hT  h5) ?_
    obtain rfl := Option.some.inj hf
    exact A_iret (pc := 34) dX0_warmthAt_34 rfl rfl ⟨rfl, rfl, rfl⟩
  have hf := oi_f cc3 hf
  refine A_bipush (pc := 10) 10 dX0_warmthAt_10 rfl ?_
  refine A_aloadn (pc := 12) dX0_warmthAt_12 rfl ?_
  refine A_iloadn (pc := 13) dX0_warmthAt_13 rfl ?_
  obtain ⟨q6, h7, hf⟩ := oi_b hf
  refine A_cV1i (mi2 := mX0_digit) (pc := 14) dX0_warmthAt_14 lX0_44 fX0_digit vX0_digit (lay_s hT (k := 43) (q := (2, 2)) rfl) rfl (Nat.le_of_ble_eq_true rfl) rfl (Nat.le_of_ble_eq_true rfl) (wX0_digit (by omega) hT  h7) ?_
  refine A_imul (pc := 17) dX0_warmthAt_17 ?_
  refine A_aloadn (pc := 18) dX0_warmthAt_18 rfl ?_
  refine A_iloadn (pc := 19) dX0_warmthAt_19 rfl ?_
  refine A_iconst (pc := 20) 1 dX0_warmthAt_20 rfl ?_
  refine A_iadd (pc := 21) dX0_warmthAt_21 ?_
  obtain ⟨q8, h9, hf⟩ := oi_b hf
  refine A_cV1i (mi2 := mX0_digit) (pc := 22) dX0_warmthAt_22 lX0_44 fX0_digit vX0_digit (lay_s hT (k := 43) (q := (2, 2)) rfl) rfl (Nat.le_of_ble_eq_true rfl) rfl (Nat.le_of_ble_eq_true rfl) (wX0_digit (by omega) hT  h9) ?_
  refine A_iadd (pc := 25) dX0_warmthAt_25 ?_
  refine A_goto (pc := 26) 34 dX0_warmthAt_26 (by decide) ?_
  obtain rfl := Option.some.inj hf
  exact A_iret (pc := 34) dX0_warmthAt_34 rfl rfl ⟨rfl, rfl, rfl⟩
def zX0_tellStatement (n : Nat) (u : MU) (r1 : Nat) (a2 : Int32) : Option (Int32 × MU) := Option.bind (zX0_digit n u (a2 + 1)) (fun q1 => Option.bind (zX0_digit n u (a2 + 2)) (fun q3 => Option.bind (zX0_digit n u (a2 + 3)) (fun q5 => Option.bind (zX0_at n u a2) (fun q7 => if q7 = 99 then (letb (up2 u r1 1 q1) (fun u10 => some (1, u10))) else if q7 = 100 then (Option.bind (zX3_tellYard n u r1 q1 q3 q5) (fun q12 => if q12.1 = 0 ∨ q12.1 = 1 then some (q12.1, q12.2) else none)) else if q7 = 103 then (Option.bind (zX3_tellGrudge n u r1 q1 q3) (fun q16 => if q16.1 = 0 ∨ q16.1 = 1 then some (q16.1, q16.2) else none)) else if q7 = 105 then (Option.bind (zX3_tellIn n u r1 q1 q3) (fun q20 => if q20.1 = 0 ∨ q20.1 = 1 then some (q20.1, q20.2) else none)) else if q7 = 112 then (Option.bind (zX0_digit n u (a2 + 4)) (fun q24 => Option.bind (zX0_warmthAt n u (a2 + 5)) (fun q26 => Option.bind (zX3_tellPerson n u r1 q1 q3 q5 q24 q26) (fun q28 => if q28.1 = 0 ∨ q28.1 = 1 then some (q28.1, q28.2) else none)))) else if q7 = 121 then (Option.bind (zX3_tellYards n u r1 q1) (fun q32 => if q32.1 = 0 ∨ q32.1 = 1 then some (q32.1, q32.2) else none)) else (some (0, u))))))
set_option maxHeartbeats 4000000 in
set_option maxRecDepth 100000 in
theorem wX0_tellStatement {G : GG} {T : TT} {n d : Nat} (hd : 4 ≤ d) {q : Int32 × MU} {u : MU} {r1 : Nat} {a2 : Int32} (hT : LAY T) (hR1 : RV T r1) (hf : zX0_tellStatement n u r1 a2 = some q) : AW G d mX0_tellStatement 0 [.ref 43, .ref r1, .int a2, .null, .null, .null] [] T u 0 0 (QS T q.1 q.2) := by
  obtain ⟨d, rfl⟩ : ∃ e, d = e + 1 := ⟨d - 1, by omega⟩
  rw [zX0_tellStatement] at hf
  refine A_aloadn (pc := 0) dX0_tellStatement_0 rfl ?_
  refine A_iloadn (pc := 1) dX0_tellStatement_1 rfl ?_
  refine A_iconst (pc := 2) 1 dX0_tellStatement_2 rfl ?_
  refine A_iadd (pc := 3) dX0_tellStatement_3 ?_
  obtain ⟨q1, h2, hf⟩ := oi_b hf
  refine A_cV1i (mi2 := mX0_digit) (pc := 4) dX0_tellStatement_4 lX0_44 fX0_digit vX0_digit (lay_s hT (k := 43) (q := (2, 2)) rfl) rfl (Nat.le_of_ble_eq_true rfl) rfl (Nat.le_of_ble_eq_true rfl) (wX0_digit (by omega) hT  h2) ?_
  refine A_istn (pc := 7) (L2 := [.ref 43, .ref r1, .int a2, .int q1, .null, .null]) dX0_tellStatement_7 (Nat.le_of_ble_eq_true rfl) rfl ?_
  refine A_aloadn (pc := 8) dX0_tellStatement_8 rfl ?_
  refine A_iloadn (pc := 9) dX0_tellStatement_9 rfl ?_
  refine A_iconst (pc := 10) 2 dX0_tellStatement_10 rfl ?_
  refine A_iadd (pc := 11) dX0_tellStatement_11 ?_
  obtain ⟨q3, h4, hf⟩ := oi_b hf
  refine A_cV1i (mi2 := mX0_digit) (pc := 12) dX0_tellStatement_12 lX0_44 fX0_digit vX0_digit (lay_s hT (k := 43) (q := (2, 2)) rfl) rfl (Nat.le_of_ble_eq_true rfl) rfl (Nat.le_of_ble_eq_true rfl) (wX0_digit (by omega) hT  h4) ?_
  refine A_ist (pc := 15) (L2 := [.ref 43, .ref r1, .int a2, .int q1, .int q3, .null]) dX0_tellStatement_15 (Nat.le_of_ble_eq_true rfl) rfl ?_
  refine A_aloadn (pc := 17) dX0_tellStatement_17 rfl ?_
  refine A_iloadn (pc := 18) dX0_tellStatement_18 rfl ?_
  refine A_iconst (pc := 19) 3 dX0_tellStatement_19 rfl ?_
  refine A_iadd (pc := 20) dX0_tellStatement_20 ?_
  obtain ⟨q5, h6, hf⟩ := oi_b hf
  refine A_cV1i (mi2 := mX0_digit) (pc := 21) dX0_tellStatement_21 lX0_44 fX0_digit vX0_digit (lay_s hT (k := 43) (q := (2, 2)) rfl) rfl (Nat.le_of_ble_eq_true rfl) rfl (Nat.le_of_ble_eq_true rfl) (wX0_digit (by omega) hT  h6) ?_
  refine A_ist (pc := 24) (L2 := [.ref 43, .ref r1, .int a2, .int q1, .int q3, .int q5]) dX0_tellStatement_24 (Nat.le_of_ble_eq_true rfl) rfl ?_
  refine A_aloadn (pc := 26) dX0_tellStatement_26 rfl ?_
  refine A_iloadn (pc := 27) dX0_tellStatement_27 rfl ?_
  obtain ⟨q7, h8, hf⟩ := oi_b hf
  refine A_cV1i (mi2 := mX0_at) (pc := 28) dX0_tellStatement_28 lX0_19 fX0_at vX0_at (lay_s hT (k := 43) (q := (2, 2)) rfl) rfl (Nat.le_of_ble_eq_true rfl) rfl (Nat.le_of_ble_eq_true rfl) (wX0_at (by omega) hT  h8) ?_
  by_cases cc9 : q7 = 99
  · have hf := oi_t cc9 hf
    refine A_lookup (pc := 31) (off := 73) 104 dX0_tellStatement_31 (by decide) (by rw [cc9]; decide) (by decide) ?_
    refine A_aloadn (pc := 104) dX0_tellStatement_104 rfl ?_
    refine A_iloadn (pc := 105) dX0_tellStatement_105 rfl ?_
    have hf := oi_l hf
    refine A_putI (pc := 106) dX0_tellStatement_106 gX0_56 (rv_0 hR1) (Nat.le_of_ble_eq_true rfl) rfl rfl rfl rfl ?_
    refine A_iconst (pc := 109) 1 dX0_tellStatement_109 rfl ?_
    obtain rfl := Option.some.inj hf
    exact A_iret (pc := 110) dX0_tellStatement_110 rfl rfl ⟨rfl, rfl, rfl⟩
  have hf := oi_f cc9 hf
  by_cases cc11 : q7 = 100
  · have hf := oi_t cc11 hf
    refine A_lookup (pc := 31) (off := 63) 94 dX0_tellStatement_31 (by decide) (by rw [cc11]; decide) (by decide) ?_
    refine A_aloadn (pc := 94) dX0_tellStatement_94 rfl ?_
    refine A_iloadn (pc := 95) dX0_tellStatement_95 rfl ?_
    refine A_iload (pc := 96) dX0_tellStatement_96 rfl ?_
    refine A_iload (pc := 98) dX0_tellStatement_98 rfl ?_
    obtain ⟨q12, h13, hf⟩ := oi_b hf
    refine A_cV3i (mi2 := mX3_tellYard) (pc := 100) dX0_tellStatement_100 lX0_52 fX3_tellYard vX3_tellYard (rv_0 hR1) rfl (Nat.le_of_ble_eq_true rfl) rfl (Nat.le_of_ble_eq_true rfl) (wX3_tellYard (by omega) hT hR1 h13) ?_
    obtain ⟨h14, hf⟩ := oi_ck hf
    obtain rfl := Option.some.inj hf
    exact A_iret (pc := 103) dX0_tellStatement_103 rfl (bck_n h14) ⟨rfl, rfl, rfl⟩
  have hf := oi_f cc11 hf
  by_cases cc15 : q7 = 103
  · have hf := oi_t cc15 hf
    refine A_lookup (pc := 31) (off := 104) 135 dX0_tellStatement_31 (by decide) (by rw [cc15]; decide) (by decide) ?_
    refine A_aloadn (pc := 135) dX0_tellStatement_135 rfl ?_
    refine A_iloadn (pc := 136) dX0_tellStatement_136 rfl ?_
    refine A_iload (pc := 137) dX0_tellStatement_137 rfl ?_
    obtain ⟨q16, h17, hf⟩ := oi_b hf
    refine A_cV2i (mi2 := mX3_tellGrudge) (pc := 139) dX0_tellStatement_139 lX0_66 fX3_tellGrudge vX3_tellGrudge (rv_0 hR1) rfl (Nat.le_of_ble_eq_true rfl) rfl (Nat.le_of_ble_eq_true rfl) (wX3_tellGrudge (by omega) hT hR1 h17) ?_
    obtain ⟨h18, hf⟩ := oi_ck hf
    obtain rfl := Option.some.inj hf
    exact A_iret (pc := 142) dX0_tellStatement_142 rfl (bck_n h18) ⟨rfl, rfl, rfl⟩
  have hf := oi_f cc15 hf
  by_cases cc19 : q7 = 105
  · have hf := oi_t cc19 hf
    refine A_lookup (pc := 31) (off := 112) 143 dX0_tellStatement_31 (by decide) (by rw [cc19]; decide) (by decide) ?_
    refine A_aloadn (pc := 143) dX0_tellStatement_143 rfl ?_
    refine A_iloadn (pc := 144) dX0_tellStatement_144 rfl ?_
    refine A_iload (pc := 145) dX0_tellStatement_145 rfl ?_
    obtain ⟨q20, h21, hf⟩ := oi_b hf
    refine A_cV2i (mi2 := mX3_tellIn) (pc := 147) dX0_tellStatement_147 lX0_70 fX3_tellIn vX3_tellIn (rv_0 hR1) rfl (Nat.le_of_ble_eq_true rfl) rfl (Nat.le_of_ble_eq_true rfl) (wX3_tellIn (by omega) hT hR1 h21) ?_
    obtain ⟨h22, hf⟩ := oi_ck hf
    obtain rfl := Option.some.inj hf
    exact A_iret (pc := 150) dX0_tellStatement_150 rfl (bck_n h22) ⟨rfl, rfl, rfl⟩
  have hf := oi_f cc19 hf
  by_cases cc23 : q7 = 112
  · have hf := oi_t cc23 hf
    refine A_lookup (pc := 31) (off := 80) 111 dX0_tellStatement_31 (by decide) (by rw [cc23]; decide) (by decide) ?_
    refine A_aloadn (pc := 111) dX0_tellStatement_111 rfl ?_
    refine A_iloadn (pc := 112) dX0_tellStatement_112 rfl ?_
    refine A_iload (pc := 113) dX0_tellStatement_113 rfl ?_
    refine A_iload (pc := 115) dX0_tellStatement_115 rfl ?_
    refine A_aloadn (pc := 117) dX0_tellStatement_117 rfl ?_
    refine A_iloadn (pc := 118) dX0_tellStatement_118 rfl ?_
    refine A_iconst (pc := 119) 4 dX0_tellStatement_119 rfl ?_
    refine A_iadd (pc := 120) dX0_tellStatement_120 ?_
    obtain ⟨q24, h25, hf⟩ := oi_b hf
    refine A_cV1i (mi2 := mX0_digit) (pc := 121) dX0_tellStatement_121 lX0_44 fX0_digit vX0_digit (lay_s hT (k := 43) (q := (2, 2)) rfl) rfl (Nat.le_of_ble_eq_true rfl) rfl (Nat.le_of_ble_eq_true rfl) (wX0_digit (by omega) hT  h25) ?_
    refine A_aloadn (pc := 124) dX0_tellStatement_124 rfl ?_
    refine A_iloadn (pc := 125) dX0_tellStatement_125 rfl ?_
    refine A_iconst (pc := 126) 5 dX0_tellStatement_126 rfl ?_
    refine A_iadd (pc := 127) dX0_tellStatement_127 ?_
    obtain ⟨q26, h27, hf⟩ := oi_b hf
    refine A_cV1i (mi2 := mX0_warmthAt) (pc := 128) dX0_tellStatement_128 lX0_59 fX0_warmthAt vX0_warmthAt (lay_s hT (k := 43) (q := (2, 2)) rfl) rfl (Nat.le_of_ble_eq_true rfl) rfl (Nat.le_of_ble_eq_true rfl) (wX0_warmthAt (by omega) hT  h27) ?_
    obtain ⟨q28, h29, hf⟩ := oi_b hf
    refine A_cV5i (mi2 := mX3_tellPerson) (pc := 131) dX0_tellStatement_131 lX0_62 fX3_tellPerson vX3_tellPerson (rv_0 hR1) rfl (Nat.le_of_ble_eq_true rfl) rfl (Nat.le_of_ble_eq_true rfl) (wX3_tellPerson (by omega) hT hR1 h29) ?_
    obtain ⟨h30, hf⟩ := oi_ck hf
    obtain rfl := Option.some.inj hf
    exact A_iret (pc := 134) dX0_tellStatement_134 rfl (bck_n h30) ⟨rfl, rfl, rfl⟩
  have hf := oi_f cc23 hf
  by_cases cc31 : q7 = 121
  · have hf := oi_t cc31 hf
    refine A_lookup (pc := 31) (off := 57) 88 dX0_tellStatement_31 (by decide) (by rw [cc31]; decide) (by decide) ?_
    refine A_aloadn (pc := 88) dX0_tellStatement_88 rfl ?_
    refine A_iloadn (pc := 89) dX0_tellStatement_89 rfl ?_
    obtain ⟨q32, h33, hf⟩ := oi_b hf
    refine A_cV1i (mi2 := mX3_tellYards) (pc := 90) dX0_tellStatement_90 lX0_47 fX3_tellYards vX3_tellYards (rv_0 hR1) rfl (Nat.le_of_ble_eq_true rfl) rfl (Nat.le_of_ble_eq_true rfl) (wX3_tellYards (by omega) hT hR1 h33) ?_
    obtain ⟨h34, hf⟩ := oi_ck hf
    obtain rfl := Option.some.inj hf
    exact A_iret (pc := 93) dX0_tellStatement_93 rfl (bck_n h34) ⟨rfl, rfl, rfl⟩
  have hf := oi_f cc31 hf
  have ecc9 : q7.toInt ≠ 99 := fun h9 => cc9 (Int32.toInt_inj.mp (h9.trans (by decide : (99 : Int) = (99 : Int32).toInt)))
  have ecc11 : q7.toInt ≠ 100 := fun h9 => cc11 (Int32.toInt_inj.mp (h9.trans (by decide : (100 : Int) = (100 : Int32).toInt)))
  have ecc15 : q7.toInt ≠ 103 := fun h9 => cc15 (Int32.toInt_inj.mp (h9.trans (by decide : (103 : Int) = (103 : Int32).toInt)))
  have ecc19 : q7.toInt ≠ 105 := fun h9 => cc19 (Int32.toInt_inj.mp (h9.trans (by decide : (105 : Int) = (105 : Int32).toInt)))
  have ecc23 : q7.toInt ≠ 112 := fun h9 => cc23 (Int32.toInt_inj.mp (h9.trans (by decide : (112 : Int) = (112 : Int32).toInt)))
  have ecc31 : q7.toInt ≠ 121 := fun h9 => cc31 (Int32.toInt_inj.mp (h9.trans (by decide : (121 : Int) = (121 : Int32).toInt)))
  refine A_lookup (pc := 31) (off := 120) 151 dX0_tellStatement_31 (by decide) (by simp [Op.lookupswitch.offset, ecc9, Ne.symm ecc9, ecc11, Ne.symm ecc11, ecc15, Ne.symm ecc15, ecc19, Ne.symm ecc19, ecc23, Ne.symm ecc23, ecc31, Ne.symm ecc31]) (by decide) ?_
  refine A_iconst (pc := 151) 0 dX0_tellStatement_151 rfl ?_
  obtain rfl := Option.some.inj hf
  exact A_iret (pc := 152) dX0_tellStatement_152 rfl rfl ⟨rfl, rfl, rfl⟩
def zX0_tellTo_L4 (n : Nat) (r1 : Nat) (k : Int32 → Int32 → MU → Option (Int32 × MU)) : Nat → Int32 → Int32 → MU → Option (Int32 × MU)
  | 0, _, _, _ => none
  | m + 1, t2, t3, u => if 80 ≤ t3 then (k t2 t3 u) else (if (u 43 1) ≤ t2 then (k t2 t3 u) else (Option.bind (zX0_tellStatement n u r1 t2) (fun q3 => if q3.1 = 0 then (some (((-2000) - t2), q3.2)) else (Option.bind (zX0_endOf n q3.2 t2) (fun q6 => letb (q6 + 1) (fun x8 => zX0_tellTo_L4 n r1  k m x8 (t3 + 1) q3.2))))))
def zX0_tellTo (n : Nat) (u : MU) (r1 : Nat) : Option (Int32 × MU) := zX0_tellTo_L4 n r1  (fun y9 y10 w11 => some (y10, w11)) n 0 0 u
set_option maxHeartbeats 4000000 in
set_option maxRecDepth 100000 in
theorem wX0_tellTo_L4 {G : GG} {T : TT} {n d : Nat} (hd : 5 ≤ d) {r1 : Nat} {k : Int32 → Int32 → MU → Option (Int32 × MU)} (hT : LAY T) (hR1 : RV T r1) (hk : ∀ (t2 : Int32) (t3 : Int32) (u : MU) (q : Int32 × MU), k t2 t3 u = some q → AW G d mX0_tellTo 47 [.ref 43, .ref r1, .int t2, .int t3] [] T u 0 0 (QS T q.1 q.2)) : ∀ (m : Nat) (t2 : Int32) (t3 : Int32) (u : MU) (q : Int32 × MU), zX0_tellTo_L4 n r1 k m t2 t3 u = some q → AW G d mX0_tellTo 4 [.ref 43, .ref r1, .int t2, .int t3] [] T u 0 0 (QS T q.1 q.2) := by
  intro m
  obtain ⟨d, rfl⟩ : ∃ e, d = e + 1 := ⟨d - 1, by omega⟩
  induction m with
  | zero =>
    intro t2 t3 u q hf
    have h0 : (none : Option (Int32 × MU)) = some q := hf
    cases h0
  | succ m ih =>
    intro t2 t3 u q hf
    rw [zX0_tellTo_L4] at hf
    refine A_iloadn (pc := 4) dX0_tellTo_4 rfl ?_
    refine A_bipush (pc := 5) 80 dX0_tellTo_5 rfl ?_
    refine A_icmp_ge (pc := 7) 47 dX0_tellTo_7 (by decide) (fun cc1 => ?_) (fun cc1 => ?_)
    · have hf := oi_t cc1 hf
      exact hk _ _ _ _ hf
    have hf := oi_f cc1 hf
    refine A_iloadn (pc := 10) dX0_tellTo_10 rfl ?_
    refine A_aloadn (pc := 11) dX0_tellTo_11 rfl ?_
    refine A_getI (pc := 12) dX0_tellTo_12 gX0_15 (lay_s hT (k := 43) (q := (2, 2)) rfl) (Nat.le_of_ble_eq_true rfl) rfl ?_
    refine A_icmp_ge (pc := 15) 47 dX0_tellTo_15 (by decide) (fun cc2 => ?_) (fun cc2 => ?_)
    · have hf := oi_t cc2 hf
      exact hk _ _ _ _ hf
    have hf := oi_f cc2 hf
    refine A_aloadn (pc := 18) dX0_tellTo_18 rfl ?_
    refine A_aloadn (pc := 19) dX0_tellTo_19 rfl ?_
    refine A_iloadn (pc := 20) dX0_tellTo_20 rfl ?_
    obtain ⟨q3, h4, hf⟩ := oi_b hf
    refine A_cV2i (mi2 := mX0_tellStatement) (pc := 21) dX0_tellTo_21 lX0_40 fX0_tellStatement vX0_tellStatement (lay_s hT (k := 43) (q := (2, 2)) rfl) rfl (Nat.le_of_ble_eq_true rfl) rfl (Nat.le_of_ble_eq_true rfl) (wX0_tellStatement (by omega) hT hR1 h4) ?_
    refine A_if_ne (pc := 24) (w := 0) 33 dX0_tellTo_24 (by decide) (fun cc5 => ?_) (fun cc5 => ?_)
    · have hf := oi_f cc5 hf
      refine A_aloadn (pc := 33) dX0_tellTo_33 rfl ?_
      refine A_iloadn (pc := 34) dX0_tellTo_34 rfl ?_
      obtain ⟨q6, h7, hf⟩ := oi_b hf
      refine A_cV1i (mi2 := mX0_endOf) (pc := 35) dX0_tellTo_35 lX0_37 fX0_endOf vX0_endOf (lay_s hT (k := 43) (q := (2, 2)) rfl) rfl (Nat.le_of_ble_eq_true rfl) rfl (Nat.le_of_ble_eq_true rfl) (wX0_endOf (by omega) hT  h7) ?_
      refine A_iconst (pc := 38) 1 dX0_tellTo_38 rfl ?_
      refine A_iadd (pc := 39) dX0_tellTo_39 ?_
      have hf := oi_l hf
      refine A_istn (pc := 40) (L2 := [.ref 43, .ref r1, .int (q6 + 1), .int t3]) dX0_tellTo_40 (Nat.le_of_ble_eq_true rfl) rfl ?_
      refine A_inc (pc := 41) (L2 := [.ref 43, .ref r1, .int (q6 + 1), .int (t3 + 1)]) (t3 + 1) dX0_tellTo_41 rfl rfl rfl ?_
      refine A_goto (pc := 44) 4 dX0_tellTo_44 (by decide) ?_
      exact ih _ _ _ _ hf
    have hf := oi_t cc5 hf
    refine A_sipush (pc := 27) (-2000) dX0_tellTo_27 rfl ?_
    refine A_iloadn (pc := 30) dX0_tellTo_30 rfl ?_
    refine A_isub (pc := 31) dX0_tellTo_31 ?_
    obtain rfl := Option.some.inj hf
    exact A_iret (pc := 32) dX0_tellTo_32 rfl rfl ⟨rfl, rfl, rfl⟩
set_option maxHeartbeats 4000000 in
set_option maxRecDepth 100000 in
theorem wX0_tellTo {G : GG} {T : TT} {n d : Nat} (hd : 5 ≤ d) {q : Int32 × MU} {u : MU} {r1 : Nat} (hT : LAY T) (hR1 : RV T r1) (hf : zX0_tellTo n u r1 = some q) : AW G d mX0_tellTo 0 [.ref 43, .ref r1, .null, .null] [] T u 0 0 (QS T q.1 q.2) := by
  obtain ⟨d, rfl⟩ : ∃ e, d = e + 1 := ⟨d - 1, by omega⟩
  rw [zX0_tellTo] at hf
  refine A_iconst (pc := 0) 0 dX0_tellTo_0 rfl ?_
  refine A_istn (pc := 1) (L2 := [.ref 43, .ref r1, .int 0, .null]) dX0_tellTo_1 (Nat.le_of_ble_eq_true rfl) rfl ?_
  refine A_iconst (pc := 2) 0 dX0_tellTo_2 rfl ?_
  refine A_istn (pc := 3) (L2 := [.ref 43, .ref r1, .int 0, .int 0]) dX0_tellTo_3 (Nat.le_of_ble_eq_true rfl) rfl ?_
  exact wX0_tellTo_L4 (by omega) hT hR1 (fun y9 y10 w11 q0 hf => by
    refine A_iloadn (pc := 47) dX0_tellTo_47 rfl ?_
    obtain rfl := Option.some.inj hf
    exact A_iret (pc := 48) dX0_tellTo_48 rfl rfl ⟨rfl, rfl, rfl⟩) _ _ _ _ _ hf
