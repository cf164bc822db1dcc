def zX5_no (n : Nat) (u : MU) (a1 : Int32) : Option (Int32 × MU) := if oob (-a1) 7 then none else if oob (-a1) 7 then none else letb (up2 u 54 (-a1).toNatClampNeg ((u 54 (-a1).toNatClampNeg) + 1)) (fun u3 => some (a1, u3))
set_option maxHeartbeats 4000000 in
set_option maxRecDepth 100000 in
theorem wX5_no {G : GG} {T : TT} {n d : Nat} (hd : 0 ≤ d) {q : Int32 × MU} {u : MU} {a1 : Int32} (hT : LAY T) (hf : zX5_no n u a1 = some q) : AW G d mX5_no 0 [.ref 53, .int a1] [] T u 0 0 (QS T q.1 q.2) := by
  rw [zX5_no] at hf
  refine A_aloadn (pc := 0) dX5_no_0 rfl ?_
  refine A_getR (pc := 1) dX5_no_1 gX5_7 (lay_s hT (k := 53) (q := (7, 35)) rfl) (Nat.le_of_ble_eq_true rfl) rfl (lay_r hT 52 rfl) ?_
  refine A_iloadn (pc := 4) dX5_no_4 rfl ?_
  refine A_ineg (pc := 5) dX5_no_5 ?_
  refine A_dup2 (pc := 6) dX5_no_6 ?_
  obtain ⟨h1, hf⟩ := oi_cf hf
  refine A_iald (pc := 7) dX5_no_7 (lay_s hT (k := 54) (q := (0, 7)) rfl) (oob_f h1) ?_
  refine A_iconst (pc := 8) 1 dX5_no_8 rfl ?_
  refine A_iadd (pc := 9) dX5_no_9 ?_
  obtain ⟨h2, hf⟩ := oi_cf hf
  have hf := oi_l hf
  refine A_iast (pc := 10) dX5_no_10 (lay_s hT (k := 54) (q := (0, 7)) rfl) (oob_f h2) ?_
  refine A_iloadn (pc := 11) dX5_no_11 rfl ?_
  obtain rfl := Option.some.inj hf
  exact A_iret (pc := 12) dX5_no_12 rfl rfl ⟨rfl, rfl, rfl⟩
def zX5_lower (n : Nat) (u : MU) (a1 : Int32) : Option (Int32 × MU) := if oob (-a1) 7 then none else if oob (-a1) 7 then none else letb (up2 u 54 (-a1).toNatClampNeg ((u 54 (-a1).toNatClampNeg) + 1)) (fun u3 => some ((1000000000 - a1), u3))
set_option maxHeartbeats 4000000 in
set_option maxRecDepth 100000 in
theorem wX5_lower {G : GG} {T : TT} {n d : Nat} (hd : 0 ≤ d) {q : Int32 × MU} {u : MU} {a1 : Int32} (hT : LAY T) (hf : zX5_lower n u a1 = some q) : AW G d mX5_lower 0 [.ref 53, .int a1] [] T u 0 0 (QS T q.1 q.2) := by
  rw [zX5_lower] at hf
  refine A_aloadn (pc := 0) dX5_lower_0 rfl ?_
  refine A_getR (pc := 1) dX5_lower_1 gX5_7 (lay_s hT (k := 53) (q := (7, 35)) rfl) (Nat.le_of_ble_eq_true rfl) rfl (lay_r hT 52 rfl) ?_
  refine A_iloadn (pc := 4) dX5_lower_4 rfl ?_
  refine A_ineg (pc := 5) dX5_lower_5 ?_
  refine A_dup2 (pc := 6) dX5_lower_6 ?_
  obtain ⟨h1, hf⟩ := oi_cf hf
  refine A_iald (pc := 7) dX5_lower_7 (lay_s hT (k := 54) (q := (0, 7)) rfl) (oob_f h1) ?_
  refine A_iconst (pc := 8) 1 dX5_lower_8 rfl ?_
  refine A_iadd (pc := 9) dX5_lower_9 ?_
  obtain ⟨h2, hf⟩ := oi_cf hf
  have hf := oi_l hf
  refine A_iast (pc := 10) dX5_lower_10 (lay_s hT (k := 54) (q := (0, 7)) rfl) (oob_f h2) ?_
  refine A_ldc (pc := 11) dX5_lower_11 nX5_77 ?_
  refine A_iloadn (pc := 13) dX5_lower_13 rfl ?_
  refine A_isub (pc := 14) dX5_lower_14 ?_
  obtain rfl := Option.some.inj hf
  exact A_iret (pc := 15) dX5_lower_15 rfl rfl ⟨rfl, rfl, rfl⟩
def zX5_isIn (n : Nat) (u : MU) (a0 : Int32) (a1 : Int32) (a2 : Int32) : Option (Int32) := if a0 < a1 then (some 0) else (if a2 < a0 then (some 0) else (some 1))
set_option maxHeartbeats 4000000 in
set_option maxRecDepth 100000 in
theorem wX5_isIn {G : GG} {T : TT} {n d : Nat} (hd : 0 ≤ d) {q : Int32} {u : MU} {a0 : Int32} {a1 : Int32} {a2 : Int32} (hT : LAY T) (hf : zX5_isIn n u a0 a1 a2 = some q) : AW G d mX5_isIn 0 [.int a0, .int a1, .int a2] [] T u 0 0 (QS T q u) := by
  rw [zX5_isIn] at hf
  refine A_iloadn (pc := 0) dX5_isIn_0 rfl ?_
  refine A_iloadn (pc := 1) dX5_isIn_1 rfl ?_
  refine A_icmp_lt (pc := 2) 14 dX5_isIn_2 (by decide) (fun cc1 => ?_) (fun cc1 => ?_)
  · have hf := oi_t cc1 hf
    refine A_iconst (pc := 14) 0 dX5_isIn_14 rfl ?_
    obtain rfl := Option.some.inj hf
    exact A_iret (pc := 15) dX5_isIn_15 rfl rfl ⟨rfl, rfl, rfl⟩
  have hf := oi_f cc1 hf
  refine A_iloadn (pc := 5) dX5_isIn_5 rfl ?_
  refine A_iloadn (pc := 6) dX5_isIn_6 rfl ?_
  refine A_icmp_gt (pc := 7) 14 dX5_isIn_7 (by decide) (fun cc2 => ?_) (fun cc2 => ?_)
  · have hf := oi_t cc2 hf
    refine A_iconst (pc := 14) 0 dX5_isIn_14 rfl ?_
    obtain rfl := Option.some.inj hf
    exact A_iret (pc := 15) dX5_isIn_15 rfl rfl ⟨rfl, rfl, rfl⟩
  have hf := oi_f cc2 hf
  refine A_iconst (pc := 10) 1 dX5_isIn_10 rfl ?_
  refine A_goto (pc := 11) 15 dX5_isIn_11 (by decide) ?_
  obtain rfl := Option.some.inj hf
  exact A_iret (pc := 15) dX5_isIn_15 rfl rfl ⟨rfl, rfl, rfl⟩
def zX5_bound (n : Nat) (u : MU) (a0 : Int32) (a1 : Int32) (a2 : Int32) : Option (Int32) := if a1 ≤ a0 then (if a0 ≤ a2 then (some 0) else (some (-6))) else (some (-4))
set_option maxHeartbeats 4000000 in
set_option maxRecDepth 100000 in
theorem wX5_bound {G : GG} {T : TT} {n d : Nat} (hd : 0 ≤ d) {q : Int32} {u : MU} {a0 : Int32} {a1 : Int32} {a2 : Int32} (hT : LAY T) (hf : zX5_bound n u a0 a1 a2 = some q) : AW G d mX5_bound 0 [.int a0, .int a1, .int a2] [] T u 0 0 (QS T q u) := by
  rw [zX5_bound] at hf
  refine A_iloadn (pc := 0) dX5_bound_0 rfl ?_
  refine A_iloadn (pc := 1) dX5_bound_1 rfl ?_
  refine A_icmp_ge (pc := 2) 10 dX5_bound_2 (by decide) (fun cc1 => ?_) (fun cc1 => ?_)
  · have hf := oi_t cc1 hf
    refine A_iloadn (pc := 10) dX5_bound_10 rfl ?_
    refine A_iloadn (pc := 11) dX5_bound_11 rfl ?_
    refine A_icmp_le (pc := 12) 20 dX5_bound_12 (by decide) (fun cc2 => ?_) (fun cc2 => ?_)
    · have hf := oi_t cc2 hf
      refine A_iconst (pc := 20) 0 dX5_bound_20 rfl ?_
      obtain rfl := Option.some.inj hf
      exact A_iret (pc := 21) dX5_bound_21 rfl rfl ⟨rfl, rfl, rfl⟩
    have hf := oi_f cc2 hf
    refine A_bipush (pc := 15) (-6) dX5_bound_15 rfl ?_
    refine A_goto (pc := 17) 21 dX5_bound_17 (by decide) ?_
    obtain rfl := Option.some.inj hf
    exact A_iret (pc := 21) dX5_bound_21 rfl rfl ⟨rfl, rfl, rfl⟩
  have hf := oi_f cc1 hf
  refine A_bipush (pc := 5) (-4) dX5_bound_5 rfl ?_
  refine A_goto (pc := 7) 21 dX5_bound_7 (by decide) ?_
  obtain rfl := Option.some.inj hf
  exact A_iret (pc := 21) dX5_bound_21 rfl rfl ⟨rfl, rfl, rfl⟩
def zX5_least (n : Nat) (u : MU) (a0 : Int32) (a1 : Int32) : Option (Int32) := if a1 ≤ a0 then (some a1) else (some a0)
set_option maxHeartbeats 4000000 in
set_option maxRecDepth 100000 in
theorem wX5_least {G : GG} {T : TT} {n d : Nat} (hd : 0 ≤ d) {q : Int32} {u : MU} {a0 : Int32} {a1 : Int32} (hT : LAY T) (hf : zX5_least n u a0 a1 = some q) : AW G d mX5_least 0 [.int a0, .int a1] [] T u 0 0 (QS T q u) := by
  rw [zX5_least] at hf
  refine A_iloadn (pc := 0) dX5_least_0 rfl ?_
  refine A_iloadn (pc := 1) dX5_least_1 rfl ?_
  refine A_icmp_ge (pc := 2) 9 dX5_least_2 (by decide) (fun cc1 => ?_) (fun cc1 => ?_)
  · have hf := oi_t cc1 hf
    refine A_iloadn (pc := 9) dX5_least_9 rfl ?_
    obtain rfl := Option.some.inj hf
    exact A_iret (pc := 10) dX5_least_10 rfl rfl ⟨rfl, rfl, rfl⟩
  have hf := oi_f cc1 hf
  refine A_iloadn (pc := 5) dX5_least_5 rfl ?_
  refine A_goto (pc := 6) 10 dX5_least_6 (by decide) ?_
  obtain rfl := Option.some.inj hf
  exact A_iret (pc := 10) dX5_least_10 rfl rfl ⟨rfl, rfl, rfl⟩
def zX5_isYard (n : Nat) (u : MU) (a1 : Int32) : Option (Int32) := if a1 < 0 then (some 0) else (if (u 53 12) ≤ a1 then (some 0) else (some 1))
set_option maxHeartbeats 4000000 in
set_option maxRecDepth 100000 in
theorem wX5_isYard {G : GG} {T : TT} {n d : Nat} (hd : 0 ≤ d) {q : Int32} {u : MU} {a1 : Int32} (hT : LAY T) (hf : zX5_isYard n u a1 = some q) : AW G d mX5_isYard 0 [.ref 53, .int a1] [] T u 0 0 (QS T q u) := by
  rw [zX5_isYard] at hf
  refine A_iloadn (pc := 0) dX5_isYard_0 rfl ?_
  refine A_if_lt (pc := 1) (w := 0) 16 dX5_isYard_1 (by decide) (fun cc1 => ?_) (fun cc1 => ?_)
  · have hf := oi_t cc1 hf
    refine A_iconst (pc := 16) 0 dX5_isYard_16 rfl ?_
    obtain rfl := Option.some.inj hf
    exact A_iret (pc := 17) dX5_isYard_17 rfl rfl ⟨rfl, rfl, rfl⟩
  have hf := oi_f cc1 hf
  refine A_iloadn (pc := 4) dX5_isYard_4 rfl ?_
  refine A_aloadn (pc := 5) dX5_isYard_5 rfl ?_
  refine A_getI (pc := 6) dX5_isYard_6 gX5_46 (lay_s hT (k := 53) (q := (7, 35)) rfl) (Nat.le_of_ble_eq_true rfl) rfl ?_
  refine A_icmp_ge (pc := 9) 16 dX5_isYard_9 (by decide) (fun cc2 => ?_) (fun cc2 => ?_)
  · have hf := oi_t cc2 hf
    refine A_iconst (pc := 16) 0 dX5_isYard_16 rfl ?_
    obtain rfl := Option.some.inj hf
    exact A_iret (pc := 17) dX5_isYard_17 rfl rfl ⟨rfl, rfl, rfl⟩
  have hf := oi_f cc2 hf
  refine A_iconst (pc := 12) 1 dX5_isYard_12 rfl ?_
  refine A_goto (pc := 13) 17 dX5_isYard_13 (by decide) ?_
  obtain rfl := Option.some.inj hf
  exact A_iret (pc := 17) dX5_isYard_17 rfl rfl ⟨rfl, rfl, rfl⟩
def zX5_isOne (n : Nat) (u : MU) (a1 : Int32) : Option (Int32) := if a1 < 0 then (some 0) else (if (u 53 13) ≤ a1 then (some 0) else (some 1))
set_option maxHeartbeats 4000000 in
set_option maxRecDepth 100000 in
theorem wX5_isOne {G : GG} {T : TT} {n d : Nat} (hd : 0 ≤ d) {q : Int32} {u : MU} {a1 : Int32} (hT : LAY T) (hf : zX5_isOne n u a1 = some q) : AW G d mX5_isOne 0 [.ref 53, .int a1] [] T u 0 0 (QS T q u) := by
  rw [zX5_isOne] at hf
  refine A_iloadn (pc := 0) dX5_isOne_0 rfl ?_
  refine A_if_lt (pc := 1) (w := 0) 16 dX5_isOne_1 (by decide) (fun cc1 => ?_) (fun cc1 => ?_)
  · have hf := oi_t cc1 hf
    refine A_iconst (pc := 16) 0 dX5_isOne_16 rfl ?_
    obtain rfl := Option.some.inj hf
    exact A_iret (pc := 17) dX5_isOne_17 rfl rfl ⟨rfl, rfl, rfl⟩
  have hf := oi_f cc1 hf
  refine A_iloadn (pc := 4) dX5_isOne_4 rfl ?_
  refine A_aloadn (pc := 5) dX5_isOne_5 rfl ?_
  refine A_getI (pc := 6) dX5_isOne_6 gX5_78 (lay_s hT (k := 53) (q := (7, 35)) rfl) (Nat.le_of_ble_eq_true rfl) rfl ?_
  refine A_icmp_ge (pc := 9) 16 dX5_isOne_9 (by decide) (fun cc2 => ?_) (fun cc2 => ?_)
  · have hf := oi_t cc2 hf
    refine A_iconst (pc := 16) 0 dX5_isOne_16 rfl ?_
    obtain rfl := Option.some.inj hf
    exact A_iret (pc := 17) dX5_isOne_17 rfl rfl ⟨rfl, rfl, rfl⟩
  have hf := oi_f cc2 hf
  refine A_iconst (pc := 12) 1 dX5_isOne_12 rfl ?_
  refine A_goto (pc := 13) 17 dX5_isOne_13 (by decide) ?_
  obtain rfl := Option.some.inj hf
  exact A_iret (pc := 17) dX5_isOne_17 rfl rfl ⟨rfl, rfl, rfl⟩
def zX5_areTwo (n : Nat) (u : MU) (a1 : Int32) (a2 : Int32) : Option (Int32) := Option.bind (zX5_isOne n u a1) (fun q1 => if q1 = 0 then (some 0) else (Option.bind (zX5_isOne n u a2) (fun q4 => if q4 = 0 then (some 0) else (if a1 = a2 then (some 0) else (some 1)))))
set_option maxHeartbeats 4000000 in
set_option maxRecDepth 100000 in
theorem wX5_areTwo {G : GG} {T : TT} {n d : Nat} (hd : 1 ≤ d) {q : Int32} {u : MU} {a1 : Int32} {a2 : Int32} (hT : LAY T) (hf : zX5_areTwo n u a1 a2 = some q) : AW G d mX5_areTwo 0 [.ref 53, .int a1, .int a2] [] T u 0 0 (QS T q u) := by
  obtain ⟨d, rfl⟩ : ∃ e, d = e + 1 := ⟨d - 1, by omega⟩
  rw [zX5_areTwo] at hf
  refine A_aloadn (pc := 0) dX5_areTwo_0 rfl ?_
  refine A_iloadn (pc := 1) dX5_areTwo_1 rfl ?_
  obtain ⟨q1, h2, hf⟩ := oi_b hf
  refine A_cV1i (mi2 := mX5_isOne) (pc := 2) dX5_areTwo_2 lX5_81 fX5_isOne vX5_isOne (lay_s hT (k := 53) (q := (7, 35)) rfl) rfl (Nat.le_of_ble_eq_true rfl) rfl (Nat.le_of_ble_eq_true rfl) (wX5_isOne (by omega) hT  h2) ?_
  refine A_if_eq (pc := 5) (w := 0) 25 dX5_areTwo_5 (by decide) (fun cc3 => ?_) (fun cc3 => ?_)
  · have hf := oi_t cc3 hf
    refine A_iconst (pc := 25) 0 dX5_areTwo_25 rfl ?_
    obtain rfl := Option.some.inj hf
    exact A_iret (pc := 26) dX5_areTwo_26 rfl rfl ⟨rfl, rfl, rfl⟩
  have hf := oi_f cc3 hf
  refine A_aloadn (pc := 8) dX5_areTwo_8 rfl ?_
  refine A_iloadn (pc := 9) dX5_areTwo_9 rfl ?_
  obtain ⟨q4, h5, hf⟩ := oi_b hf
  refine A_cV1i (mi2 := mX5_isOne) (pc := 10) dX5_areTwo_10 lX5_81 fX5_isOne vX5_isOne (lay_s hT (k := 53) (q := (7, 35)) rfl) rfl (Nat.le_of_ble_eq_true rfl) rfl (Nat.le_of_ble_eq_true rfl) (wX5_isOne (by omega) hT  h5) ?_
  refine A_if_eq (pc := 13) (w := 0) 25 dX5_areTwo_13 (by decide) (fun cc6 => ?_) (fun cc6 => ?_)
  · have hf := oi_t cc6 hf
    refine A_iconst (pc := 25) 0 dX5_areTwo_25 rfl ?_
    obtain rfl := Option.some.inj hf
    exact A_iret (pc := 26) dX5_areTwo_26 rfl rfl ⟨rfl, rfl, rfl⟩
  have hf := oi_f cc6 hf
  refine A_iloadn (pc := 16) dX5_areTwo_16 rfl ?_
  refine A_iloadn (pc := 17) dX5_areTwo_17 rfl ?_
  refine A_icmp_eq (pc := 18) 25 dX5_areTwo_18 (by decide) (fun cc7 => ?_) (fun cc7 => ?_)
  · have hf := oi_t cc7 hf
    refine A_iconst (pc := 25) 0 dX5_areTwo_25 rfl ?_
    obtain rfl := Option.some.inj hf
    exact A_iret (pc := 26) dX5_areTwo_26 rfl rfl ⟨rfl, rfl, rfl⟩
  have hf := oi_f cc7 hf
  refine A_iconst (pc := 21) 1 dX5_areTwo_21 rfl ?_
  refine A_goto (pc := 22) 26 dX5_areTwo_22 (by decide) ?_
  obtain rfl := Option.some.inj hf
  exact A_iret (pc := 26) dX5_areTwo_26 rfl rfl ⟨rfl, rfl, rfl⟩
def zX5_yardOf_L2 (n : Nat) (u : MU) (s1 : Int32) (k : Int32 → Option (Int32)) : Nat → Int32 → Option (Int32)
  | 0, _ => none
  | m + 1, t2 => if (u 53 12) ≤ t2 then (k t2) else (if oob t2 5 then none else if (u 57 t2.toNatClampNeg) = s1 then (some t2) else (zX5_yardOf_L2 n u  s1 k m (t2 + 1)))
def zX5_yardOf (n : Nat) (u : MU) (a1 : Int32) : Option (Int32) := zX5_yardOf_L2 n u  a1 (fun y4 => if oob a1 7 then none else if (u 63 a1.toNatClampNeg) = 1 then (some 9) else (some (-9))) n 0
set_option maxHeartbeats 4000000 in
set_option maxRecDepth 100000 in
theorem wX5_yardOf_L2 {G : GG} {T : TT} {n d : Nat} (hd : 0 ≤ d) {u : MU} {s1 : Int32} {k : Int32 → Option (Int32)} (hT : LAY T) (hk : ∀ (t2 : Int32) (q : Int32), k t2 = some q → AW G d mX5_yardOf 28 [.ref 53, .int s1, .int t2] [] T u 0 0 (QS T q u)) : ∀ (m : Nat) (t2 : Int32) (q : Int32), zX5_yardOf_L2 n u  s1 k m t2 = some q → AW G d mX5_yardOf 2 [.ref 53, .int s1, .int t2] [] T u 0 0 (QS T q u) := by
  intro m
  induction m with
  | zero =>
    intro t2 q hf
    have h0 : (none : Option (Int32)) = some q := hf
    cases h0
  | succ m ih =>
    intro t2 q hf
    rw [zX5_yardOf_L2] at hf
    refine A_iloadn (pc := 2) dX5_yardOf_2 rfl ?_
    refine A_aloadn (pc := 3) dX5_yardOf_3 rfl ?_
    refine A_getI (pc := 4) dX5_yardOf_4 gX5_46 (lay_s hT (k := 53) (q := (7, 35)) rfl) (Nat.le_of_ble_eq_true rfl) rfl ?_
    refine A_icmp_ge (pc := 7) 28 dX5_yardOf_7 (by decide) (fun cc1 => ?_) (fun cc1 => ?_)
    · have hf := oi_t cc1 hf
      exact hk _ _ hf
    have hf := oi_f cc1 hf
    refine A_aloadn (pc := 10) dX5_yardOf_10 rfl ?_
    refine A_getR (pc := 11) dX5_yardOf_11 gX5_19 (lay_s hT (k := 53) (q := (7, 35)) rfl) (Nat.le_of_ble_eq_true rfl) rfl (lay_r hT 55 rfl) ?_
    refine A_iloadn (pc := 14) dX5_yardOf_14 rfl ?_
    obtain ⟨h2, hf⟩ := oi_cf hf
    refine A_iald (pc := 15) dX5_yardOf_15 (lay_s hT (k := 57) (q := (0, 5)) rfl) (oob_f h2) ?_
    refine A_iloadn (pc := 16) dX5_yardOf_16 rfl ?_
    refine A_icmp_ne (pc := 17) 22 dX5_yardOf_17 (by decide) (fun cc3 => ?_) (fun cc3 => ?_)
    · have hf := oi_f cc3 hf
      refine A_inc (pc := 22) (L2 := [.ref 53, .int s1, .int (t2 + 1)]) (t2 + 1) dX5_yardOf_22 rfl rfl rfl ?_
      refine A_goto (pc := 25) 2 dX5_yardOf_25 (by decide) ?_
      exact ih _ _ hf
    have hf := oi_t cc3 hf
    refine A_iloadn (pc := 20) dX5_yardOf_20 rfl ?_
    obtain rfl := Option.some.inj hf
    exact A_iret (pc := 21) dX5_yardOf_21 rfl rfl ⟨rfl, rfl, rfl⟩
set_option maxHeartbeats 4000000 in
set_option maxRecDepth 100000 in
theorem wX5_yardOf {G : GG} {T : TT} {n d : Nat} (hd : 0 ≤ d) {q : Int32} {u : MU} {a1 : Int32} (hT : LAY T) (hf : zX5_yardOf n u a1 = some q) : AW G d mX5_yardOf 0 [.ref 53, .int a1, .null] [] T u 0 0 (QS T q u) := by
  rw [zX5_yardOf] at hf
  refine A_iconst (pc := 0) 0 dX5_yardOf_0 rfl ?_
  refine A_istn (pc := 1) (L2 := [.ref 53, .int a1, .int 0]) dX5_yardOf_1 (Nat.le_of_ble_eq_true rfl) rfl ?_
  exact wX5_yardOf_L2 (by omega) hT  (fun y4 q0 hf => by
    refine A_aloadn (pc := 28) dX5_yardOf_28 rfl ?_
    refine A_getR (pc := 29) dX5_yardOf_29 gX5_37 (lay_s hT (k := 53) (q := (7, 35)) rfl) (Nat.le_of_ble_eq_true rfl) rfl (lay_r hT 61 rfl) ?_
    refine A_iloadn (pc := 32) dX5_yardOf_32 rfl ?_
    obtain ⟨h5, hf⟩ := oi_cf hf
    refine A_iald (pc := 33) dX5_yardOf_33 (lay_s hT (k := 63) (q := (0, 7)) rfl) (oob_f h5) ?_
    refine A_iconst (pc := 34) 1 dX5_yardOf_34 rfl ?_
    refine A_icmp_ne (pc := 35) 43 dX5_yardOf_35 (by decide) (fun cc6 => ?_) (fun cc6 => ?_)
    · have hf := oi_f cc6 hf
      refine A_bipush (pc := 43) (-9) dX5_yardOf_43 rfl ?_
      obtain rfl := Option.some.inj hf
      exact A_iret (pc := 45) dX5_yardOf_45 rfl rfl ⟨rfl, rfl, rfl⟩
    have hf := oi_t cc6 hf
    refine A_bipush (pc := 38) 9 dX5_yardOf_38 rfl ?_
    refine A_goto (pc := 40) 45 dX5_yardOf_40 (by decide) ?_
    obtain rfl := Option.some.inj hf
    exact A_iret (pc := 45) dX5_yardOf_45 rfl rfl ⟨rfl, rfl, rfl⟩) _ _ _ hf
def zX5_feed (n : Nat) (u : MU) (a1 : Int32) : Option (Int32 × MU) := Option.bind (zX5_bound n u a1 0 255) (fun q1 => if q1 = 0 then (if (u 53 20) = 80 then (Option.bind (zX5_no n u (-6)) (fun q17 => some (q17.1, q17.2))) else (if q1 = 0 then (if oob (u 53 20) 80 then none else letb (up2 u 66 (u 53 20).toNatClampNeg a1) (fun u13 => letb (up2 u13 53 20 ((u13 53 20) + 1)) (fun u14 => some ((u14 53 20), u14)))) else (Option.bind (zX5_no n u q1) (fun q15 => some (q15.1, q15.2))))) else (if q1 = 0 then (if oob (u 53 20) 80 then none else letb (up2 u 66 (u 53 20).toNatClampNeg a1) (fun u6 => letb (up2 u6 53 20 ((u6 53 20) + 1)) (fun u7 => some ((u7 53 20), u7)))) else (Option.bind (zX5_no n u q1) (fun q8 => some (q8.1, q8.2)))))
set_option maxHeartbeats 4000000 in
set_option maxRecDepth 100000 in
theorem wX5_feed {G : GG} {T : TT} {n d : Nat} (hd : 1 ≤ d) {q : Int32 × MU} {u : MU} {a1 : Int32} (hT : LAY T) (hf : zX5_feed n u a1 = some q) : AW G d mX5_feed 0 [.ref 53, .int a1, .null] [] T u 0 0 (QS T q.1 q.2) := by
  obtain ⟨d, rfl⟩ : ∃ e, d = e + 1 := ⟨d - 1, by omega⟩
  rw [zX5_feed] at hf
  refine A_iloadn (pc := 0) dX5_feed_0 rfl ?_
  refine A_iconst (pc := 1) 0 dX5_feed_1 rfl ?_
  refine A_sipush (pc := 2) 255 dX5_feed_2 rfl ?_
  obtain ⟨q1, h2, hf⟩ := oi_b hf
  refine A_cS3i (mi2 := mX5_bound) (pc := 5) dX5_feed_5 lX5_85 fX5_bound sX5_bound (Nat.le_of_ble_eq_true rfl) rfl (Nat.le_of_ble_eq_true rfl) (wX5_bound (by omega) hT  h2) ?_
  refine A_istn (pc := 8) (L2 := [.ref 53, .int a1, .int q1]) dX5_feed_8 (Nat.le_of_ble_eq_true rfl) rfl ?_
  refine A_iloadn (pc := 9) dX5_feed_9 rfl ?_
  refine A_if_ne (pc := 10) (w := 0) 25 dX5_feed_10 (by decide) (fun cc3 => ?_) (fun cc3 => ?_)
  · have hf := oi_f cc3 hf
    refine A_iloadn (pc := 25) dX5_feed_25 rfl ?_
    refine A_if_eq (pc := 26) (w := 0) 35 dX5_feed_26 (by decide) (fun cc4 => ?_) (fun cc4 => ?_)
    · have hf := oi_t cc4 hf
      refine A_aloadn (pc := 35) dX5_feed_35 rfl ?_
      refine A_getR (pc := 36) dX5_feed_36 gX5_53 (lay_s hT (k := 53) (q := (7, 35)) rfl) (Nat.le_of_ble_eq_true rfl) rfl (lay_r hT 64 rfl) ?_
      refine A_aloadn (pc := 39) dX5_feed_39 rfl ?_
      refine A_getI (pc := 40) dX5_feed_40 gX5_89 (lay_s hT (k := 53) (q := (7, 35)) rfl) (Nat.le_of_ble_eq_true rfl) rfl ?_
      refine A_iloadn (pc := 43) dX5_feed_43 rfl ?_
      obtain ⟨h5, hf⟩ := oi_cf hf
      have hf := oi_l hf
      refine A_iast (pc := 44) dX5_feed_44 (lay_s hT (k := 66) (q := (0, 80)) rfl) (oob_f h5) ?_
      refine A_aloadn (pc := 45) dX5_feed_45 rfl ?_
      refine A_dup (pc := 46) dX5_feed_46 ?_
      refine A_getI (pc := 47) dX5_feed_47 gX5_89 (lay_s hT (k := 53) (q := (7, 35)) rfl) (Nat.le_of_ble_eq_true rfl) rfl ?_
      refine A_iconst (pc := 50) 1 dX5_feed_50 rfl ?_
      refine A_iadd (pc := 51) dX5_feed_51 ?_
      have hf := oi_l hf
      refine A_putI (pc := 52) dX5_feed_52 gX5_89 (lay_s hT (k := 53) (q := (7, 35)) rfl) (Nat.le_of_ble_eq_true rfl) rfl rfl rfl rfl ?_
      refine A_aloadn (pc := 55) dX5_feed_55 rfl ?_
      refine A_getI (pc := 56) dX5_feed_56 gX5_89 (lay_s hT (k := 53) (q := (7, 35)) rfl) (Nat.le_of_ble_eq_true rfl) rfl ?_
      obtain rfl := Option.some.inj hf
      exact A_iret (pc := 59) dX5_feed_59 rfl rfl ⟨rfl, rfl, rfl⟩
    have hf := oi_f cc4 hf
    refine A_aloadn (pc := 29) dX5_feed_29 rfl ?_
    refine A_iloadn (pc := 30) dX5_feed_30 rfl ?_
    obtain ⟨q8, h9, hf⟩ := oi_b hf
    refine A_cV1i (mi2 := mX5_no) (pc := 31) dX5_feed_31 lX5_92 fX5_no vX5_no (lay_s hT (k := 53) (q := (7, 35)) rfl) rfl (Nat.le_of_ble_eq_true rfl) rfl (Nat.le_of_ble_eq_true rfl) (wX5_no (by omega) hT  h9) ?_
    obtain rfl := Option.some.inj hf
    exact A_iret (pc := 34) dX5_feed_34 rfl rfl ⟨rfl, rfl, rfl⟩
  have hf := oi_t cc3 hf
  refine A_aloadn (pc := 13) dX5_feed_13 rfl ?_
  refine A_getI (pc := 14) dX5_feed_14 gX5_89 (lay_s hT (k := 53) (q := (7, 35)) rfl) (Nat.le_of_ble_eq_true rfl) rfl ?_
  refine A_bipush (pc := 17) 80 dX5_feed_17 rfl ?_
  refine A_icmp_ne (pc := 19) 25 dX5_feed_19 (by decide) (fun cc10 => ?_) (fun cc10 => ?_)
  · have hf := oi_f cc10 hf
    refine A_iloadn (pc := 25) dX5_feed_25 rfl ?_
    refine A_if_eq (pc := 26) (w := 0) 35 dX5_feed_26 (by decide) (fun cc11 => ?_) (fun cc11 => ?_)
    · have hf := oi_t cc11 hf
      refine A_aloadn (pc := 35) dX5_feed_35 rfl ?_
      refine A_getR (pc := 36) dX5_feed_36 gX5_53 (lay_s hT (k := 53) (q := (7, 35)) rfl) (Nat.le_of_ble_eq_true rfl) rfl (lay_r hT 64 rfl) ?_
      refine A_aloadn (pc := 39) dX5_feed_39 rfl ?_
      refine A_getI (pc := 40) dX5_feed_40 gX5_89 (lay_s hT (k := 53) (q := (7, 35)) rfl) (Nat.le_of_ble_eq_true rfl) rfl ?_
      refine A_iloadn (pc := 43) dX5_feed_43 rfl ?_
      obtain ⟨h12, hf⟩ := oi_cf hf
      have hf := oi_l hf
      refine A_iast (pc := 44) dX5_feed_44 (lay_s hT (k := 66) (q := (0, 80)) rfl) (oob_f h12) ?_
      refine A_aloadn (pc := 45) dX5_feed_45 rfl ?_
      refine A_dup (pc := 46) dX5_feed_46 ?_
      refine A_getI (pc := 47) dX5_feed_47 gX5_89 (lay_s hT (k := 53) (q := (7, 35)) rfl) (Nat.le_of_ble_eq_true rfl) rfl ?_
      refine A_iconst (pc := 50) 1 dX5_feed_50 rfl ?_
      refine A_iadd (pc := 51) dX5_feed_51 ?_
      have hf := oi_l hf
      refine A_putI (pc := 52) dX5_feed_52 gX5_89 (lay_s hT (k := 53) (q := (7, 35)) rfl) (Nat.le_of_ble_eq_true rfl) rfl rfl rfl rfl ?_
      refine A_aloadn (pc := 55) dX5_feed_55 rfl ?_
      refine A_getI (pc := 56) dX5_feed_56 gX5_89 (lay_s hT (k := 53) (q := (7, 35)) rfl) (Nat.le_of_ble_eq_true rfl) rfl ?_
      obtain rfl := Option.some.inj hf
      exact A_iret (pc := 59) dX5_feed_59 rfl rfl ⟨rfl, rfl, rfl⟩
    have hf := oi_f cc11 hf
    refine A_aloadn (pc := 29) dX5_feed_29 rfl ?_
    refine A_iloadn (pc := 30) dX5_feed_30 rfl ?_
    obtain ⟨q15, h16, hf⟩ := oi_b hf
    refine A_cV1i (mi2 := mX5_no) (pc := 31) dX5_feed_31 lX5_92 fX5_no vX5_no (lay_s hT (k := 53) (q := (7, 35)) rfl) rfl (Nat.le_of_ble_eq_true rfl) rfl (Nat.le_of_ble_eq_true rfl) (wX5_no (by omega) hT  h16) ?_
    obtain rfl := Option.some.inj hf
    exact A_iret (pc := 34) dX5_feed_34 rfl rfl ⟨rfl, rfl, rfl⟩
  have hf := oi_t cc10 hf
  refine A_bipush (pc := 22) (-6) dX5_feed_22 rfl ?_
  refine A_istn (pc := 24) (L2 := [.ref 53, .int a1, .int (-6)]) dX5_feed_24 (Nat.le_of_ble_eq_true rfl) rfl ?_
  refine A_iloadn (pc := 25) dX5_feed_25 rfl ?_
  refine A_if_eq (pc := 26) (w := 0) 35 dX5_feed_26 (by decide) (fun c9 => absurd c9 (by decide)) (fun _ => ?_)
  refine A_aloadn (pc := 29) dX5_feed_29 rfl ?_
  refine A_iloadn (pc := 30) dX5_feed_30 rfl ?_
  obtain ⟨q17, h18, hf⟩ := oi_b hf
  refine A_cV1i (mi2 := mX5_no) (pc := 31) dX5_feed_31 lX5_92 fX5_no vX5_no (lay_s hT (k := 53) (q := (7, 35)) rfl) rfl (Nat.le_of_ble_eq_true rfl) rfl (Nat.le_of_ble_eq_true rfl) (wX5_no (by omega) hT  h18) ?_
  obtain rfl := Option.some.inj hf
  exact A_iret (pc := 34) dX5_feed_34 rfl rfl ⟨rfl, rfl, rfl⟩
def zX5_next (n : Nat) (u : MU) : Option (Int32) := if (u 53 20) ≤ (u 53 21) then (some (-1)) else (if oob (u 53 21) 80 then none else some (u 66 (u 53 21).toNatClampNeg))
set_option maxHeartbeats 4000000 in
set_option maxRecDepth 100000 in
theorem wX5_next {G : GG} {T : TT} {n d : Nat} (hd : 0 ≤ d) {q : Int32} {u : MU} (hT : LAY T) (hf : zX5_next n u = some q) : AW G d mX5_next 0 [.ref 53] [] T u 0 0 (QS T q u) := by
  rw [zX5_next] at hf
  refine A_aloadn (pc := 0) dX5_next_0 rfl ?_
  refine A_getI (pc := 1) dX5_next_1 gX5_96 (lay_s hT (k := 53) (q := (7, 35)) rfl) (Nat.le_of_ble_eq_true rfl) rfl ?_
  refine A_aloadn (pc := 4) dX5_next_4 rfl ?_
  refine A_getI (pc := 5) dX5_next_5 gX5_89 (lay_s hT (k := 53) (q := (7, 35)) rfl) (Nat.le_of_ble_eq_true rfl) rfl ?_
  refine A_icmp_ge (pc := 8) 23 dX5_next_8 (by decide) (fun cc1 => ?_) (fun cc1 => ?_)
  · have hf := oi_t cc1 hf
    refine A_iconst (pc := 23) (-1) dX5_next_23 rfl ?_
    obtain rfl := Option.some.inj hf
    exact A_iret (pc := 24) dX5_next_24 rfl rfl ⟨rfl, rfl, rfl⟩
  have hf := oi_f cc1 hf
  refine A_aloadn (pc := 11) dX5_next_11 rfl ?_
  refine A_getR (pc := 12) dX5_next_12 gX5_53 (lay_s hT (k := 53) (q := (7, 35)) rfl) (Nat.le_of_ble_eq_true rfl) rfl (lay_r hT 64 rfl) ?_
  refine A_aloadn (pc := 15) dX5_next_15 rfl ?_
  refine A_getI (pc := 16) dX5_next_16 gX5_96 (lay_s hT (k := 53) (q := (7, 35)) rfl) (Nat.le_of_ble_eq_true rfl) rfl ?_
  obtain ⟨h2, hf⟩ := oi_cf hf
  refine A_iald (pc := 19) dX5_next_19 (lay_s hT (k := 66) (q := (0, 80)) rfl) (oob_f h2) ?_
  refine A_goto (pc := 20) 24 dX5_next_20 (by decide) ?_
  obtain rfl := Option.some.inj hf
  exact A_iret (pc := 24) dX5_next_24 rfl rfl ⟨rfl, rfl, rfl⟩
def zX5_readsNumber_L21 (n : Nat) (s1 : Int32) (s2 : Int32) (k : Int32 → Int32 → MU → Option (Int32 × MU)) : Nat → Int32 → Int32 → MU → Option (Int32 × MU)
  | 0, _, _, _ => none
  | m + 1, t3, t4, u => if s2 ≤ t4 then (k t3 t4 u) else (Option.bind (zX5_next n u) (fun q7 => Option.bind (zX5_isIn n u q7 48 57) (fun q9 => if q9 = 0 then (k t3 t4 u) else (Option.bind (zX5_next n u) (fun q12 => letb (((10 * t3) + q12) - 48) (fun x14 => letb (up2 u 53 21 ((u 53 21) + 1)) (fun u15 => zX5_readsNumber_L21 n  s1 s2 k m x14 (t4 + 1) u15)))))))
def zX5_readsNumber (n : Nat) (u : MU) (a1 : Int32) (a2 : Int32) : Option (Int32 × MU) := Option.bind (zX5_next n u) (fun q1 => Option.bind (zX5_isIn n u q1 48 57) (fun q3 => if q3 = 0 then (some (0, u)) else (zX5_readsNumber_L21 n  a1 a2 (fun y16 y17 w18 => if oob a1 200 then none else letb (up2 w18 69 a1.toNatClampNeg y16) (fun u20 => some (1, u20))) n 0 0 u)))
set_option maxHeartbeats 4000000 in
set_option maxRecDepth 100000 in
theorem wX5_readsNumber_L21 {G : GG} {T : TT} {n d : Nat} (hd : 1 ≤ d) {s1 : Int32} {s2 : Int32} {k : Int32 → Int32 → MU → Option (Int32 × MU)} (hT : LAY T) (hk : ∀ (t3 : Int32) (t4 : Int32) (u : MU) (q : Int32 × MU), k t3 t4 u = some q → AW G d mX5_readsNumber 70 [.ref 53, .int s1, .int s2, .int t3, .int t4] [] T u 0 0 (QS T q.1 q.2)) : ∀ (m : Nat) (t3 : Int32) (t4 : Int32) (u : MU) (q : Int32 × MU), zX5_readsNumber_L21 n  s1 s2 k m t3 t4 u = some q → AW G d mX5_readsNumber 21 [.ref 53, .int s1, .int s2, .int t3, .int t4] [] T u 0 0 (QS T q.1 q.2) := by
  intro m
  obtain ⟨d, rfl⟩ : ∃ e, d = e + 1 := ⟨d - 1, by omega⟩
  induction m with
  | zero =>
    intro t3 t4 u q hf
    have h0 : (none : Option (Int32 × MU)) = some q := hf
    cases h0
  | succ m ih =>
    intro t3 t4 u q hf
    rw [zX5_readsNumber_L21] at hf
    refine A_iload (pc := 21) dX5_readsNumber_21 rfl ?_
    refine A_iloadn (pc := 23) dX5_readsNumber_23 rfl ?_
    refine A_icmp_ge (pc := 24) 70 dX5_readsNumber_24 (by decide) (fun cc6 => ?_) (fun cc6 => ?_)
    · have hf := oi_t cc6 hf
      exact hk _ _ _ _ hf
    have hf := oi_f cc6 hf
    refine A_aloadn (pc := 27) dX5_readsNumber_27 rfl ?_
    obtain ⟨q7, h8, hf⟩ := oi_b hf
    refine A_cV0i (mi2 := mX5_next) (pc := 28) dX5_readsNumber_28 lX5_99 fX5_next vX5_next (lay_s hT (k := 53) (q := (7, 35)) rfl) rfl (Nat.le_of_ble_eq_true rfl) rfl (Nat.le_of_ble_eq_true rfl) (wX5_next (by omega) hT  h8) ?_
    refine A_bipush (pc := 31) 48 dX5_readsNumber_31 rfl ?_
    refine A_bipush (pc := 33) 57 dX5_readsNumber_33 rfl ?_
    obtain ⟨q9, h10, hf⟩ := oi_b hf
    refine A_cS3i (mi2 := mX5_isIn) (pc := 35) dX5_readsNumber_35 lX5_103 fX5_isIn sX5_isIn (Nat.le_of_ble_eq_true rfl) rfl (Nat.le_of_ble_eq_true rfl) (wX5_isIn (by omega) hT  h10) ?_
    refine A_if_eq (pc := 38) (w := 0) 70 dX5_readsNumber_38 (by decide) (fun cc11 => ?_) (fun cc11 => ?_)
    · have hf := oi_t cc11 hf
      exact hk _ _ _ _ hf
    have hf := oi_f cc11 hf
    refine A_bipush (pc := 41) 10 dX5_readsNumber_41 rfl ?_
    refine A_iloadn (pc := 43) dX5_readsNumber_43 rfl ?_
    refine A_imul (pc := 44) dX5_readsNumber_44 ?_
    refine A_aloadn (pc := 45) dX5_readsNumber_45 rfl ?_
    obtain ⟨q12, h13, hf⟩ := oi_b hf
    refine A_cV0i (mi2 := mX5_next) (pc := 46) dX5_readsNumber_46 lX5_99 fX5_next vX5_next (lay_s hT (k := 53) (q := (7, 35)) rfl) rfl (Nat.le_of_ble_eq_true rfl) rfl (Nat.le_of_ble_eq_true rfl) (wX5_next (by omega) hT  h13) ?_
    refine A_iadd (pc := 49) dX5_readsNumber_49 ?_
    refine A_bipush (pc := 50) 48 dX5_readsNumber_50 rfl ?_
    refine A_isub (pc := 52) dX5_readsNumber_52 ?_
    have hf := oi_l hf
    refine A_istn (pc := 53) (L2 := [.ref 53, .int s1, .int s2, .int (((10 * t3) + q12) - 48), .int t4]) dX5_readsNumber_53 (Nat.le_of_ble_eq_true rfl) rfl ?_
    refine A_aloadn (pc := 54) dX5_readsNumber_54 rfl ?_
    refine A_dup (pc := 55) dX5_readsNumber_55 ?_
    refine A_getI (pc := 56) dX5_readsNumber_56 gX5_96 (lay_s hT (k := 53) (q := (7, 35)) rfl) (Nat.le_of_ble_eq_true rfl) rfl ?_
    refine A_iconst (pc := 59) 1 dX5_readsNumber_59 rfl ?_
    refine A_iadd (pc := 60) dX5_readsNumber_60 ?_
    have hf := oi_l hf
    refine A_putI (pc := 61) dX5_readsNumber_61 gX5_96 (lay_s hT (k := 53) (q := (7, 35)) rfl) (Nat.le_of_ble_eq_true rfl) rfl rfl rfl rfl ?_
    refine A_inc (pc := 64) (L2 := [.ref 53, .int s1, .int s2, .int (((10 * t3) + q12) - 48), .int (t4 + 1)]) (t4 + 1) dX5_readsNumber_64 rfl rfl rfl ?_
    refine A_goto (pc := 67) 21 dX5_readsNumber_67 (by decide) ?_
    exact ih _ _ _ _ hf
set_option maxHeartbeats 4000000 in
set_option maxRecDepth 100000 in
theorem wX5_readsNumber {G : GG} {T : TT} {n d : Nat} (hd : 1 ≤ d) {q : Int32 × MU} {u : MU} {a1 : Int32} {a2 : Int32} (hT : LAY T) (hf : zX5_readsNumber n u a1 a2 = some q) : AW G d mX5_readsNumber 0 [.ref 53, .int a1, .int a2, .null, .null] [] T u 0 0 (QS T q.1 q.2) := by
  obtain ⟨d, rfl⟩ : ∃ e, d = e + 1 := ⟨d - 1, by omega⟩
  rw [zX5_readsNumber] at hf
  refine A_aloadn (pc := 0) dX5_readsNumber_0 rfl ?_
  obtain ⟨q1, h2, hf⟩ := oi_b hf
  refine A_cV0i (mi2 := mX5_next) (pc := 1) dX5_readsNumber_1 lX5_99 fX5_next vX5_next (lay_s hT (k := 53) (q := (7, 35)) rfl) rfl (Nat.le_of_ble_eq_true rfl) rfl (Nat.le_of_ble_eq_true rfl) (wX5_next (by omega) hT  h2) ?_
  refine A_bipush (pc := 4) 48 dX5_readsNumber_4 rfl ?_
  refine A_bipush (pc := 6) 57 dX5_readsNumber_6 rfl ?_
  obtain ⟨q3, h4, hf⟩ := oi_b hf
  refine A_cS3i (mi2 := mX5_isIn) (pc := 8) dX5_readsNumber_8 lX5_103 fX5_isIn sX5_isIn (Nat.le_of_ble_eq_true rfl) rfl (Nat.le_of_ble_eq_true rfl) (wX5_isIn (by omega) hT  h4) ?_
  refine A_if_ne (pc := 11) (w := 0) 16 dX5_readsNumber_11 (by decide) (fun cc5 => ?_) (fun cc5 => ?_)
  · have hf := oi_f cc5 hf
    refine A_iconst (pc := 16) 0 dX5_readsNumber_16 rfl ?_
    refine A_istn (pc := 17) (L2 := [.ref 53, .int a1, .int a2, .int 0, .null]) dX5_readsNumber_17 (Nat.le_of_ble_eq_true rfl) rfl ?_
    refine A_iconst (pc := 18) 0 dX5_readsNumber_18 rfl ?_
    refine A_ist (pc := 19) (L2 := [.ref 53, .int a1, .int a2, .int 0, .int 0]) dX5_readsNumber_19 (Nat.le_of_ble_eq_true rfl) rfl ?_
    exact wX5_readsNumber_L21 (by omega) hT  (fun y16 y17 w18 q0 hf => by
      refine A_aloadn (pc := 70) dX5_readsNumber_70 rfl ?_
      refine A_getR (pc := 71) dX5_readsNumber_71 gX5_62 (lay_s hT (k := 53) (q := (7, 35)) rfl) (Nat.le_of_ble_eq_true rfl) rfl (lay_r hT 67 rfl) ?_
      refine A_iloadn (pc := 74) dX5_readsNumber_74 rfl ?_
      refine A_iloadn (pc := 75) dX5_readsNumber_75 rfl ?_
      obtain ⟨h19, hf⟩ := oi_cf hf
      have hf := oi_l hf
      refine A_iast (pc := 76) dX5_readsNumber_76 (lay_s hT (k := 69) (q := (0, 200)) rfl) (oob_f h19) ?_
      refine A_iconst (pc := 77) 1 dX5_readsNumber_77 rfl ?_
      obtain rfl := Option.some.inj hf
      exact A_iret (pc := 78) dX5_readsNumber_78 rfl rfl ⟨rfl, rfl, rfl⟩) _ _ _ _ _ hf
  have hf := oi_t cc5 hf
  refine A_iconst (pc := 14) 0 dX5_readsNumber_14 rfl ?_
  obtain rfl := Option.some.inj hf
  exact A_iret (pc := 15) dX5_readsNumber_15 rfl rfl ⟨rfl, rfl, rfl⟩
def zX5_onesOf (n : Nat) (u : MU) (a0 : Int32) : Option (Int32) := if a0 = 99 then (some 1) else if a0 = 100 then (some 3) else if a0 = 103 then (some 2) else if a0 = 105 then (some 2) else if a0 = 112 then (some 4) else if a0 = 121 then (some 1) else (some 0)
set_option maxHeartbeats 4000000 in
set_option maxRecDepth 100000 in
theorem wX5_onesOf {G : GG} {T : TT} {n d : Nat} (hd : 0 ≤ d) {q : Int32} {u : MU} {a0 : Int32} (hT : LAY T) (hf : zX5_onesOf n u a0 = some q) : AW G d mX5_onesOf 0 [.int a0] [] T u 0 0 (QS T q u) := by
  rw [zX5_onesOf] at hf
  refine A_iloadn (pc := 0) dX5_onesOf_0 rfl ?_
  by_cases cc1 : a0 = 99
  · have hf := oi_t cc1 hf
    refine A_lookup (pc := 1) (off := 59) 60 dX5_onesOf_1 (by decide) (by rw [cc1]; decide) (by decide) ?_
    refine A_iconst (pc := 60) 1 dX5_onesOf_60 rfl ?_
    obtain rfl := Option.some.inj hf
    exact A_iret (pc := 61) dX5_onesOf_61 rfl rfl ⟨rfl, rfl, rfl⟩
  have hf := oi_f cc1 hf
  by_cases cc2 : a0 = 100
  · have hf := oi_t cc2 hf
    refine A_lookup (pc := 1) (off := 63) 64 dX5_onesOf_1 (by decide) (by rw [cc2]; decide) (by decide) ?_
    refine A_iconst (pc := 64) 3 dX5_onesOf_64 rfl ?_
    obtain rfl := Option.some.inj hf
    exact A_iret (pc := 65) dX5_onesOf_65 rfl rfl ⟨rfl, rfl, rfl⟩
  have hf := oi_f cc2 hf
  by_cases cc3 : a0 = 103
  · have hf := oi_t cc3 hf
    refine A_lookup (pc := 1) (off := 61) 62 dX5_onesOf_1 (by decide) (by rw [cc3]; decide) (by decide) ?_
    refine A_iconst (pc := 62) 2 dX5_onesOf_62 rfl ?_
    obtain rfl := Option.some.inj hf
    exact A_iret (pc := 63) dX5_onesOf_63 rfl rfl ⟨rfl, rfl, rfl⟩
  have hf := oi_f cc3 hf
  by_cases cc4 : a0 = 105
  · have hf := oi_t cc4 hf
    refine A_lookup (pc := 1) (off := 61) 62 dX5_onesOf_1 (by decide) (by rw [cc4]; decide) (by decide) ?_
    refine A_iconst (pc := 62) 2 dX5_onesOf_62 rfl ?_
    obtain rfl := Option.some.inj hf
    exact A_iret (pc := 63) dX5_onesOf_63 rfl rfl ⟨rfl, rfl, rfl⟩
  have hf := oi_f cc4 hf
  by_cases cc5 : a0 = 112
  · have hf := oi_t cc5 hf
    refine A_lookup (pc := 1) (off := 65) 66 dX5_onesOf_1 (by decide) (by rw [cc5]; decide) (by decide) ?_
    refine A_iconst (pc := 66) 4 dX5_onesOf_66 rfl ?_
    obtain rfl := Option.some.inj hf
    exact A_iret (pc := 67) dX5_onesOf_67 rfl rfl ⟨rfl, rfl, rfl⟩
  have hf := oi_f cc5 hf
  by_cases cc6 : a0 = 121
  · have hf := oi_t cc6 hf
    refine A_lookup (pc := 1) (off := 59) 60 dX5_onesOf_1 (by decide) (by rw [cc6]; decide) (by decide) ?_
    refine A_iconst (pc := 60) 1 dX5_onesOf_60 rfl ?_
    obtain rfl := Option.some.inj hf
    exact A_iret (pc := 61) dX5_onesOf_61 rfl rfl ⟨rfl, rfl, rfl⟩
  have hf := oi_f cc6 hf
  have ecc1 : a0.toInt ≠ 99 := fun h9 => cc1 (Int32.toInt_inj.mp (h9.trans (by decide : (99 : Int) = (99 : Int32).toInt)))
  have ecc2 : a0.toInt ≠ 100 := fun h9 => cc2 (Int32.toInt_inj.mp (h9.trans (by decide : (100 : Int) = (100 : Int32).toInt)))
  have ecc3 : a0.toInt ≠ 103 := fun h9 => cc3 (Int32.toInt_inj.mp (h9.trans (by decide : (103 : Int) = (103 : Int32).toInt)))
  have ecc4 : a0.toInt ≠ 105 := fun h9 => cc4 (Int32.toInt_inj.mp (h9.trans (by decide : (105 : Int) = (105 : Int32).toInt)))
  have ecc5 : a0.toInt ≠ 112 := fun h9 => cc5 (Int32.toInt_inj.mp (h9.trans (by decide : (112 : Int) = (112 : Int32).toInt)))
  have ecc6 : a0.toInt ≠ 121 := fun h9 => cc6 (Int32.toInt_inj.mp (h9.trans (by decide : (121 : Int) = (121 : Int32).toInt)))
  refine A_lookup (pc := 1) (off := 67) 68 dX5_onesOf_1 (by decide) (by simp [Op.lookupswitch.offset, ecc1, Ne.symm ecc1, ecc2, Ne.symm ecc2, ecc3, Ne.symm ecc3, ecc4, Ne.symm ecc4, ecc5, Ne.symm ecc5, ecc6, Ne.symm ecc6]) (by decide) ?_
  refine A_iconst (pc := 68) 0 dX5_onesOf_68 rfl ?_
  obtain rfl := Option.some.inj hf
  exact A_iret (pc := 69) dX5_onesOf_69 rfl rfl ⟨rfl, rfl, rfl⟩
def zX5_statement_L59 (n : Nat) (s1 : Int32) (s2 : Int32) (s3 : Int32) (k : Int32 → MU → Option (Int32 × MU)) : Nat → Int32 → MU → Option (Int32 × MU)
  | 0, _, _ => none
  | m + 1, t4, u => if s2 ≤ t4 then (k t4 u) else (Option.bind (zX5_readsNumber n u (s3 + t4) 1) (fun q13 => if q13.1 = 0 then (some (0, q13.2)) else (zX5_statement_L59 n  s1 s2 s3 k m (t4 + 1) q13.2)))
def zX5_statement (n : Nat) (u : MU) : Option (Int32 × MU) := Option.bind (zX5_next n u) (fun q1 => Option.bind (zX5_onesOf n u q1) (fun q3 => if q3 = 0 then (some (0, u)) else (if oob (u 53 22) 40 then none else letb (up2 u 67 (u 53 22).toNatClampNeg q1) (fun u7 => if oob (u7 53 22) 40 then none else letb (up2 u7 68 (u7 53 22).toNatClampNeg (u7 53 21)) (fun u9 => letb (up2 u9 53 21 ((u9 53 21) + 1)) (fun u10 => letb (5 * (u10 53 22)) (fun x11 => zX5_statement_L59 n  q1 q3 x11 (fun y16 w17 => if q1 = 112 then (Option.bind (zX5_readsNumber n w17 (x11 + 4) 2) (fun q23 => if q23.1 = 0 then (some (0, q23.2)) else (Option.bind (zX5_next n q23.2) (fun q26 => if q26 = 59 then (letb (up2 q23.2 53 21 ((q23.2 53 21) + 1)) (fun u29 => some (1, u29))) else (some (0, q23.2)))))) else (Option.bind (zX5_next n w17) (fun q19 => if q19 = 59 then (letb (up2 w17 53 21 ((w17 53 21) + 1)) (fun u22 => some (1, u22))) else (some (0, w17))))) n 0 u10)))))))
set_option maxHeartbeats 4000000 in
set_option maxRecDepth 100000 in
theorem wX5_statement_L59 {G : GG} {T : TT} {n d : Nat} (hd : 2 ≤ d) {s1 : Int32} {s2 : Int32} {s3 : Int32} {k : Int32 → MU → Option (Int32 × MU)} (hT : LAY T) (hk : ∀ (t4 : Int32) (u : MU) (q : Int32 × MU), k t4 u = some q → AW G d mX5_statement 85 [.ref 53, .int s1, .int s2, .int s3, .int t4] [] T u 0 0 (QS T q.1 q.2)) : ∀ (m : Nat) (t4 : Int32) (u : MU) (q : Int32 × MU), zX5_statement_L59 n  s1 s2 s3 k m t4 u = some q → AW G d mX5_statement 59 [.ref 53, .int s1, .int s2, .int s3, .int t4] [] T u 0 0 (QS T q.1 q.2) := by
  intro m
  obtain ⟨d, rfl⟩ : ∃ e, d = e + 1 := ⟨d - 1, by omega⟩
  induction m with
  | zero =>
    intro t4 u q hf
    have h0 : (none : Option (Int32 × MU)) = some q := hf
    cases h0
  | succ m ih =>
    intro t4 u q hf
    rw [zX5_statement_L59] at hf
    refine A_iload (pc := 59) dX5_statement_59 rfl ?_
    refine A_iloadn (pc := 61) dX5_statement_61 rfl ?_
    refine A_icmp_ge (pc := 62) 85 dX5_statement_62 (by decide) (fun cc12 => ?_) (fun cc12 => ?_)
    · have hf := oi_t cc12 hf
      exact hk _ _ _ hf
    have hf := oi_f cc12 hf
    refine A_aloadn (pc := 65) dX5_statement_65 rfl ?_
    refine A_iloadn (pc := 66) dX5_statement_66 rfl ?_
    refine A_iload (pc := 67) dX5_statement_67 rfl ?_
    refine A_iadd (pc := 69) dX5_statement_69 ?_
    refine A_iconst (pc := 70) 1 dX5_statement_70 rfl ?_
    obtain ⟨q13, h14, hf⟩ := oi_b hf
    refine A_cV2i (mi2 := mX5_readsNumber) (pc := 71) dX5_statement_71 lX5_113 fX5_readsNumber vX5_readsNumber (lay_s hT (k := 53) (q := (7, 35)) rfl) rfl (Nat.le_of_ble_eq_true rfl) rfl (Nat.le_of_ble_eq_true rfl) (wX5_readsNumber (by omega) hT  h14) ?_
    refine A_if_ne (pc := 74) (w := 0) 79 dX5_statement_74 (by decide) (fun cc15 => ?_) (fun cc15 => ?_)
    · have hf := oi_f cc15 hf
      refine A_inc (pc := 79) (L2 := [.ref 53, .int s1, .int s2, .int s3, .int (t4 + 1)]) (t4 + 1) dX5_statement_79 rfl rfl rfl ?_
      refine A_goto (pc := 82) 59 dX5_statement_82 (by decide) ?_
      exact ih _ _ _ hf
    have hf := oi_t cc15 hf
    refine A_iconst (pc := 77) 0 dX5_statement_77 rfl ?_
    obtain rfl := Option.some.inj hf
    exact A_iret (pc := 78) dX5_statement_78 rfl rfl ⟨rfl, rfl, rfl⟩
set_option maxHeartbeats 4000000 in
set_option maxRecDepth 100000 in
theorem wX5_statement {G : GG} {T : TT} {n d : Nat} (hd : 2 ≤ d) {q : Int32 × MU} {u : MU} (hT : LAY T) (hf : zX5_statement n u = some q) : AW G d mX5_statement 0 [.ref 53, .null, .null, .null, .null] [] T u 0 0 (QS T q.1 q.2) := by
  obtain ⟨d, rfl⟩ : ∃ e, d = e + 1 := ⟨d - 1, by omega⟩
  rw [zX5_statement] at hf
  refine A_aloadn (pc := 0) dX5_statement_0 rfl ?_
  obtain ⟨q1, h2, hf⟩ := oi_b hf
  refine A_cV0i (mi2 := mX5_next) (pc := 1) dX5_statement_1 lX5_99 fX5_next vX5_next (lay_s hT (k := 53) (q := (7, 35)) rfl) rfl (Nat.le_of_ble_eq_true rfl) rfl (Nat.le_of_ble_eq_true rfl) (wX5_next (by omega) hT  h2) ?_
  refine A_istn (pc := 4) (L2 := [.ref 53, .int q1, .null, .null, .null]) dX5_statement_4 (Nat.le_of_ble_eq_true rfl) rfl ?_
  refine A_iloadn (pc := 5) dX5_statement_5 rfl ?_
  obtain ⟨q3, h4, hf⟩ := oi_b hf
  refine A_cS1i (mi2 := mX5_onesOf) (pc := 6) dX5_statement_6 lX5_107 fX5_onesOf sX5_onesOf (Nat.le_of_ble_eq_true rfl) rfl (Nat.le_of_ble_eq_true rfl) (wX5_onesOf (by omega) hT  h4) ?_
  refine A_istn (pc := 9) (L2 := [.ref 53, .int q1, .int q3, .null, .null]) dX5_statement_9 (Nat.le_of_ble_eq_true rfl) rfl ?_
  refine A_iloadn (pc := 10) dX5_statement_10 rfl ?_
  refine A_if_ne (pc := 11) (w := 0) 16 dX5_statement_11 (by decide) (fun cc5 => ?_) (fun cc5 => ?_)
  · have hf := oi_f cc5 hf
    refine A_aloadn (pc := 16) dX5_statement_16 rfl ?_
    refine A_getR (pc := 17) dX5_statement_17 gX5_56 (lay_s hT (k := 53) (q := (7, 35)) rfl) (Nat.le_of_ble_eq_true rfl) rfl (lay_r hT 65 rfl) ?_
    refine A_aloadn (pc := 20) dX5_statement_20 rfl ?_
    refine A_getI (pc := 21) dX5_statement_21 gX5_110 (lay_s hT (k := 53) (q := (7, 35)) rfl) (Nat.le_of_ble_eq_true rfl) rfl ?_
    refine A_iloadn (pc := 24) dX5_statement_24 rfl ?_
    obtain ⟨h6, hf⟩ := oi_cf hf
    have hf := oi_l hf
    refine A_iast (pc := 25) dX5_statement_25 (lay_s hT (k := 67) (q := (0, 40)) rfl) (oob_f h6) ?_
    refine A_aloadn (pc := 26) dX5_statement_26 rfl ?_
    refine A_getR (pc := 27) dX5_statement_27 gX5_59 (lay_s hT (k := 53) (q := (7, 35)) rfl) (Nat.le_of_ble_eq_true rfl) rfl (lay_r hT 66 rfl) ?_
    refine A_aloadn (pc := 30) dX5_statement_30 rfl ?_
    refine A_getI (pc := 31) dX5_statement_31 gX5_110 (lay_s hT (k := 53) (q := (7, 35)) rfl) (Nat.le_of_ble_eq_true rfl) rfl ?_
    refine A_aloadn (pc := 34) dX5_statement_34 rfl ?_
    refine A_getI (pc := 35) dX5_statement_35 gX5_96 (lay_s hT (k := 53) (q := (7, 35)) rfl) (Nat.le_of_ble_eq_true rfl) rfl ?_
    obtain ⟨h8, hf⟩ := oi_cf hf
    have hf := oi_l hf
    refine A_iast (pc := 38) dX5_statement_38 (lay_s hT (k := 68) (q := (0, 40)) rfl) (oob_f h8) ?_
    refine A_aloadn (pc := 39) dX5_statement_39 rfl ?_
    refine A_dup (pc := 40) dX5_statement_40 ?_
    refine A_getI (pc := 41) dX5_statement_41 gX5_96 (lay_s hT (k := 53) (q := (7, 35)) rfl) (Nat.le_of_ble_eq_true rfl) rfl ?_
    refine A_iconst (pc := 44) 1 dX5_statement_44 rfl ?_
    refine A_iadd (pc := 45) dX5_statement_45 ?_
    have hf := oi_l hf
    refine A_putI (pc := 46) dX5_statement_46 gX5_96 (lay_s hT (k := 53) (q := (7, 35)) rfl) (Nat.le_of_ble_eq_true rfl) rfl rfl rfl rfl ?_
    refine A_iconst (pc := 49) 5 dX5_statement_49 rfl ?_
    refine A_aloadn (pc := 50) dX5_statement_50 rfl ?_
    refine A_getI (pc := 51) dX5_statement_51 gX5_110 (lay_s hT (k := 53) (q := (7, 35)) rfl) (Nat.le_of_ble_eq_true rfl) rfl ?_
    refine A_imul (pc := 54) dX5_statement_54 ?_
    have hf := oi_l hf
    refine A_istn (pc := 55) (L2 := [.ref 53, .int q1, .int q3, .int (5 * ((up2 (up2 (up2 u 67 (u 53 22).toNatClampNeg q1) 68 ((up2 u 67 (u 53 22).toNatClampNeg q1) 53 22).toNatClampNeg ((up2 u 67 (u 53 22).toNatClampNeg q1) 53 21)) 53 21 (((up2 (up2 u 67 (u 53 22).toNatClampNeg q1) 68 ((up2 u 67 (u 53 22).toNatClampNeg q1) 53 22).toNatClampNeg ((up2 u 67 (u 53 22).toNatClampNeg q1) 53 21)) 53 21) + 1)) 53 22)), .null]) dX5_statement_55 (Nat.le_of_ble_eq_true rfl) rfl ?_
    refine A_iconst (pc := 56) 0 dX5_statement_56 rfl ?_
    refine A_ist (pc := 57) (L2 := [.ref 53, .int q1, .int q3, .int (5 * ((up2 (up2 (up2 u 67 (u 53 22).toNatClampNeg q1) 68 ((up2 u 67 (u 53 22).toNatClampNeg q1) 53 22).toNatClampNeg ((up2 u 67 (u 53 22).toNatClampNeg q1) 53 21)) 53 21 (((up2 (up2 u 67 (u 53 22).toNatClampNeg q1) 68 ((up2 u 67 (u 53 22).toNatClampNeg q1) 53 22).toNatClampNeg ((up2 u 67 (u 53 22).toNatClampNeg q1) 53 21)) 53 21) + 1)) 53 22)), .int 0]) dX5_statement_57 (Nat.le_of_ble_eq_true rfl) rfl ?_
    exact wX5_statement_L59 (by omega) hT  (fun y16 w17 q0 hf => by
      refine A_iloadn (pc := 85) dX5_statement_85 rfl ?_
      refine A_bipush (pc := 86) 112 dX5_statement_86 rfl ?_
      refine A_icmp_ne (pc := 88) 102 dX5_statement_88 (by decide) (fun cc18 => ?_) (fun cc18 => ?_)
      · have hf := oi_f cc18 hf
        refine A_aloadn (pc := 102) dX5_statement_102 rfl ?_
        obtain ⟨q19, h20, hf⟩ := oi_b hf
        refine A_cV0i (mi2 := mX5_next) (pc := 103) dX5_statement_103 lX5_99 fX5_next vX5_next (lay_s hT (k := 53) (q := (7, 35)) rfl) rfl (Nat.le_of_ble_eq_true rfl) rfl (Nat.le_of_ble_eq_true rfl) (wX5_next (by omega) hT  h20) ?_
        refine A_bipush (pc := 106) 59 dX5_statement_106 rfl ?_
        refine A_icmp_eq (pc := 108) 113 dX5_statement_108 (by decide) (fun cc21 => ?_) (fun cc21 => ?_)
        · have hf := oi_t cc21 hf
          refine A_aloadn (pc := 113) dX5_statement_113 rfl ?_
          refine A_dup (pc := 114) dX5_statement_114 ?_
          refine A_getI (pc := 115) dX5_statement_115 gX5_96 (lay_s hT (k := 53) (q := (7, 35)) rfl) (Nat.le_of_ble_eq_true rfl) rfl ?_
          refine A_iconst (pc := 118) 1 dX5_statement_118 rfl ?_
          refine A_iadd (pc := 119) dX5_statement_119 ?_
          have hf := oi_l hf
          refine A_putI (pc := 120) dX5_statement_120 gX5_96 (lay_s hT (k := 53) (q := (7, 35)) rfl) (Nat.le_of_ble_eq_true rfl) rfl rfl rfl rfl ?_
          refine A_iconst (pc := 123) 1 dX5_statement_123 rfl ?_
          obtain rfl := Option.some.inj hf
          exact A_iret (pc := 124) dX5_statement_124 rfl rfl ⟨rfl, rfl, rfl⟩
        have hf := oi_f cc21 hf
        refine A_iconst (pc := 111) 0 dX5_statement_111 rfl ?_
        obtain rfl := Option.some.inj hf
        exact A_iret (pc := 112) dX5_statement_112 rfl rfl ⟨rfl, rfl, rfl⟩
      have hf := oi_t cc18 hf
      refine A_aloadn (pc := 91) dX5_statement_91 rfl ?_
      refine A_iloadn (pc := 92) dX5_statement_92 rfl ?_
      refine A_iconst (pc := 93) 4 dX5_statement_93 rfl ?_
      refine A_iadd (pc := 94) dX5_statement_94 ?_
      refine A_iconst (pc := 95) 2 dX5_statement_95 rfl ?_
      obtain ⟨q23, h24, hf⟩ := oi_b hf
      refine A_cV2i (mi2 := mX5_readsNumber) (pc := 96) dX5_statement_96 lX5_113 fX5_readsNumber vX5_readsNumber (lay_s hT (k := 53) (q := (7, 35)) rfl) rfl (Nat.le_of_ble_eq_true rfl) rfl (Nat.le_of_ble_eq_true rfl) (wX5_readsNumber (by omega) hT  h24) ?_
      refine A_if_eq (pc := 99) (w := 0) 111 dX5_statement_99 (by decide) (fun cc25 => ?_) (fun cc25 => ?_)
      · have hf := oi_t cc25 hf
        refine A_iconst (pc := 111) 0 dX5_statement_111 rfl ?_
        obtain rfl := Option.some.inj hf
        exact A_iret (pc := 112) dX5_statement_112 rfl rfl ⟨rfl, rfl, rfl⟩
      have hf := oi_f cc25 hf
      refine A_aloadn (pc := 102) dX5_statement_102 rfl ?_
      obtain ⟨q26, h27, hf⟩ := oi_b hf
      refine A_cV0i (mi2 := mX5_next) (pc := 103) dX5_statement_103 lX5_99 fX5_next vX5_next (lay_s hT (k := 53) (q := (7, 35)) rfl) rfl (Nat.le_of_ble_eq_true rfl) rfl (Nat.le_of_ble_eq_true rfl) (wX5_next (by omega) hT  h27) ?_
      refine A_bipush (pc := 106) 59 dX5_statement_106 rfl ?_
      refine A_icmp_eq (pc := 108) 113 dX5_statement_108 (by decide) (fun cc28 => ?_) (fun cc28 => ?_)
      · have hf := oi_t cc28 hf
        refine A_aloadn (pc := 113) dX5_statement_113 rfl ?_
        refine A_dup (pc := 114) dX5_statement_114 ?_
        refine A_getI (pc := 115) dX5_statement_115 gX5_96 (lay_s hT (k := 53) (q := (7, 35)) rfl) (Nat.le_of_ble_eq_true rfl) rfl ?_
        refine A_iconst (pc := 118) 1 dX5_statement_118 rfl ?_
        refine A_iadd (pc := 119) dX5_statement_119 ?_
        have hf := oi_l hf
        refine A_putI (pc := 120) dX5_statement_120 gX5_96 (lay_s hT (k := 53) (q := (7, 35)) rfl) (Nat.le_of_ble_eq_true rfl) rfl rfl rfl rfl ?_
        refine A_iconst (pc := 123) 1 dX5_statement_123 rfl ?_
        obtain rfl := Option.some.inj hf
        exact A_iret (pc := 124) dX5_statement_124 rfl rfl ⟨rfl, rfl, rfl⟩
      have hf := oi_f cc28 hf
      refine A_iconst (pc := 111) 0 dX5_statement_111 rfl ?_
      obtain rfl := Option.some.inj hf
      exact A_iret (pc := 112) dX5_statement_112 rfl rfl ⟨rfl, rfl, rfl⟩) _ _ _ _ hf
  have hf := oi_t cc5 hf
  refine A_iconst (pc := 14) 0 dX5_statement_14 rfl ?_
  obtain rfl := Option.some.inj hf
  exact A_iret (pc := 15) dX5_statement_15 rfl rfl ⟨rfl, rfl, rfl⟩
def zX5_begins_L18 (n : Nat) (k : Int32 → MU → Option (Int32 × MU)) : Nat → Int32 → MU → Option (Int32 × MU)
  | 0, _, _ => none
  | m + 1, t2, u => if 5 ≤ t2 then (k t2 u) else (if oob t2 5 then none else letb (up2 u 55 t2.toNatClampNeg 2) (fun u7 => if oob t2 5 then none else letb (up2 u7 56 t2.toNatClampNeg 2) (fun u9 => if oob t2 5 then none else letb (up2 u9 57 t2.toNatClampNeg (-9)) (fun u11 => zX5_begins_L18 n   k m (t2 + 1) u11))))
def zX5_begins (n : Nat) (u : MU) (a1 : Int32) : Option (Int32 × MU) := Option.bind (zX5_isIn n u a1 1 5) (fun q1 => if q1 = 0 then (some (0, u)) else (letb (up2 u 53 12 a1) (fun u4 => zX5_begins_L18 n   (fun y12 w13 => some (1, w13)) n 0 u4)))
set_option maxHeartbeats 4000000 in
set_option maxRecDepth 100000 in
theorem wX5_begins_L18 {G : GG} {T : TT} {n d : Nat} (hd : 1 ≤ d) {k : Int32 → MU → Option (Int32 × MU)} (hT : LAY T) (hk : ∀ (t2 : Int32) (u : MU) (q : Int32 × MU), k t2 u = some q → AW G d mX5_begins 51 [.ref 53, .null, .int t2] [] T u 0 0 (QS T q.1 q.2)) : ∀ (m : Nat) (t2 : Int32) (u : MU) (q : Int32 × MU), zX5_begins_L18 n  k m t2 u = some q → AW G d mX5_begins 18 [.ref 53, .null, .int t2] [] T u 0 0 (QS T q.1 q.2) := by
  intro m
  obtain ⟨d, rfl⟩ : ∃ e, d = e + 1 := ⟨d - 1, by omega⟩
  induction m with
  | zero =>
    intro t2 u q hf
    have h0 : (none : Option (Int32 × MU)) = some q := hf
    cases h0
  | succ m ih =>
    intro t2 u q hf
    rw [zX5_begins_L18] at hf
    refine A_iloadn (pc := 18) dX5_begins_18 rfl ?_
    refine A_iconst (pc := 19) 5 dX5_begins_19 rfl ?_
    refine A_icmp_ge (pc := 20) 51 dX5_begins_20 (by decide) (fun cc5 => ?_) (fun cc5 => ?_)
    · have hf := oi_t cc5 hf
      exact hk _ _ _ hf
    have hf := oi_f cc5 hf
    refine A_aloadn (pc := 23) dX5_begins_23 rfl ?_
    refine A_getR (pc := 24) dX5_begins_24 gX5_13 (lay_s hT (k := 53) (q := (7, 35)) rfl) (Nat.le_of_ble_eq_true rfl) rfl (lay_r hT 53 rfl) ?_
    refine A_iloadn (pc := 27) dX5_begins_27 rfl ?_
    refine A_iconst (pc := 28) 2 dX5_begins_28 rfl ?_
    obtain ⟨h6, hf⟩ := oi_cf hf
    have hf := oi_l hf
    refine A_iast (pc := 29) dX5_begins_29 (lay_s hT (k := 55) (q := (0, 5)) rfl) (oob_f h6) ?_
    refine A_aloadn (pc := 30) dX5_begins_30 rfl ?_
    refine A_getR (pc := 31) dX5_begins_31 gX5_16 (lay_s hT (k := 53) (q := (7, 35)) rfl) (Nat.le_of_ble_eq_true rfl) rfl (lay_r hT 54 rfl) ?_
    refine A_iloadn (pc := 34) dX5_begins_34 rfl ?_
    refine A_iconst (pc := 35) 2 dX5_begins_35 rfl ?_
    obtain ⟨h8, hf⟩ := oi_cf hf
    have hf := oi_l hf
    refine A_iast (pc := 36) dX5_begins_36 (lay_s hT (k := 56) (q := (0, 5)) rfl) (oob_f h8) ?_
    refine A_aloadn (pc := 37) dX5_begins_37 rfl ?_
    refine A_getR (pc := 38) dX5_begins_38 gX5_19 (lay_s hT (k := 53) (q := (7, 35)) rfl) (Nat.le_of_ble_eq_true rfl) rfl (lay_r hT 55 rfl) ?_
    refine A_iloadn (pc := 41) dX5_begins_41 rfl ?_
    refine A_bipush (pc := 42) (-9) dX5_begins_42 rfl ?_
    obtain ⟨h10, hf⟩ := oi_cf hf
    have hf := oi_l hf
    refine A_iast (pc := 44) dX5_begins_44 (lay_s hT (k := 57) (q := (0, 5)) rfl) (oob_f h10) ?_
    refine A_inc (pc := 45) (L2 := [.ref 53, .null, .int (t2 + 1)]) (t2 + 1) dX5_begins_45 rfl rfl rfl ?_
    refine A_goto (pc := 48) 18 dX5_begins_48 (by decide) ?_
    exact ih _ _ _ hf
set_option maxHeartbeats 4000000 in
set_option maxRecDepth 100000 in
theorem wX5_begins {G : GG} {T : TT} {n d : Nat} (hd : 1 ≤ d) {q : Int32 × MU} {u : MU} {a1 : Int32} (hT : LAY T) (hf : zX5_begins n u a1 = some q) : AW G d mX5_begins 0 [.ref 53, .int a1, .null] [] T u 0 0 (QS T q.1 q.2) := by
  obtain ⟨d, rfl⟩ : ∃ e, d = e + 1 := ⟨d - 1, by omega⟩
  rw [zX5_begins] at hf
  refine A_iloadn (pc := 0) dX5_begins_0 rfl ?_
  refine A_iconst (pc := 1) 1 dX5_begins_1 rfl ?_
  refine A_iconst (pc := 2) 5 dX5_begins_2 rfl ?_
  obtain ⟨q1, h2, hf⟩ := oi_b hf
  refine A_cS3i (mi2 := mX5_isIn) (pc := 3) dX5_begins_3 lX5_103 fX5_isIn sX5_isIn (Nat.le_of_ble_eq_true rfl) rfl (Nat.le_of_ble_eq_true rfl) (wX5_isIn (by omega) hT  h2) ?_
  refine A_if_ne (pc := 6) (w := 0) 11 dX5_begins_6 (by decide) (fun cc3 => ?_) (fun cc3 => ?_)
  · have hf := oi_f cc3 hf
    refine A_aloadn (pc := 11) dX5_begins_11 rfl ?_
    refine A_iloadn (pc := 12) dX5_begins_12 rfl ?_
    have hf := oi_l hf
    refine A_putI (pc := 13) dX5_begins_13 gX5_46 (lay_s hT (k := 53) (q := (7, 35)) rfl) (Nat.le_of_ble_eq_true rfl) rfl rfl rfl rfl ?_
    refine A_iconst (pc := 16) 0 dX5_begins_16 rfl ?_
    refine A_istn (pc := 17) (L2 := [.ref 53, .int a1, .int 0]) dX5_begins_17 (Nat.le_of_ble_eq_true rfl) rfl ?_
    refine A_fgt 1 (L' := [.ref 53, .null, .int 0]) rfl ?_
    exact wX5_begins_L18 (by omega) hT  (fun y12 w13 q0 hf => by
      refine A_iconst (pc := 51) 1 dX5_begins_51 rfl ?_
      obtain rfl := Option.some.inj hf
      exact A_iret (pc := 52) dX5_begins_52 rfl rfl ⟨rfl, rfl, rfl⟩) _ _ _ _ hf
  have hf := oi_t cc3 hf
  refine A_iconst (pc := 9) 0 dX5_begins_9 rfl ?_
  obtain rfl := Option.some.inj hf
  exact A_iret (pc := 10) dX5_begins_10 rfl rfl ⟨rfl, rfl, rfl⟩
