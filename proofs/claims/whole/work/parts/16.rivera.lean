def zX3_emptyWater_L2 (n : Nat) (r : Nat) (k : Int32 → MU → Option (MU)) : Nat → Int32 → MU → Option (MU)
  | 0, _, _ => none
  | m + 1, t1, u => if 5 ≤ t1 then (k t1 u) else (if oob t1 5 then none else letb (up2 u (r + 3) t1.toNatClampNeg (-9)) (fun u3 => zX3_emptyWater_L2 n r  k m (t1 + 1) u3))
def zX3_emptyWater (n : Nat) (u : MU) (r : Nat) : Option (MU) := zX3_emptyWater_L2 n r  (fun y4 w5 => some w5) n 0 u
set_option maxHeartbeats 4000000 in
set_option maxRecDepth 100000 in
theorem wX3_emptyWater_L2 {G : GG} {T : TT} {n d : Nat} (hd : 0 ≤ d) {r : Nat} {k : Int32 → MU → Option (MU)} (hT : LAY T) (hR : RV T r) (hk : ∀ (t1 : Int32) (u : MU) (q : MU), k t1 u = some q → AW G d mX3_emptyWater 21 [.ref r, .int t1] [] T u 0 0 (QV T q)) : ∀ (m : Nat) (t1 : Int32) (u : MU) (q : MU), zX3_emptyWater_L2 n r k m t1 u = some q → AW G d mX3_emptyWater 2 [.ref r, .int t1] [] T u 0 0 (QV T q) := by
  intro m
  induction m with
  | zero =>
    intro t1 u q hf
    have h0 : (none : Option (MU)) = some q := hf
    cases h0
  | succ m ih =>
    intro t1 u q hf
    rw [zX3_emptyWater_L2] at hf
    refine A_iloadn (pc := 2) dX3_emptyWater_2 rfl ?_
    refine A_iconst (pc := 3) 5 dX3_emptyWater_3 rfl ?_
    refine A_icmp_ge (pc := 4) 21 dX3_emptyWater_4 (by decide) (fun cc1 => ?_) (fun cc1 => ?_)
    · have hf := oi_t cc1 hf
      exact hk _ _ _ hf
    have hf := oi_f cc1 hf
    refine A_aloadn (pc := 7) dX3_emptyWater_7 rfl ?_
    refine A_getR (pc := 8) dX3_emptyWater_8 gX3_31 (rv_0 hR) (Nat.le_of_ble_eq_true rfl) rfl (rv_f6 hR) ?_
    refine A_iloadn (pc := 11) dX3_emptyWater_11 rfl ?_
    refine A_bipush (pc := 12) (-9) dX3_emptyWater_12 rfl ?_
    obtain ⟨h2, hf⟩ := oi_cf hf
    have hf := oi_l hf
    refine A_iast (pc := 14) dX3_emptyWater_14 (rv_3 hR) (oob_f h2) ?_
    refine A_inc (pc := 15) (L2 := [.ref r, .int (t1 + 1)]) (t1 + 1) dX3_emptyWater_15 rfl rfl rfl ?_
    refine A_goto (pc := 18) 2 dX3_emptyWater_18 (by decide) ?_
    exact ih _ _ _ hf
set_option maxHeartbeats 4000000 in
set_option maxRecDepth 100000 in
theorem wX3_emptyWater {G : GG} {T : TT} {n d : Nat} (hd : 0 ≤ d) {q : MU} {u : MU} {r : Nat} (hT : LAY T) (hR : RV T r) (hf : zX3_emptyWater n u r = some q) : AW G d mX3_emptyWater 0 [.ref r, .null] [] T u 0 0 (QV T q) := by
  rw [zX3_emptyWater] at hf
  refine A_iconst (pc := 0) 0 dX3_emptyWater_0 rfl ?_
  refine A_istn (pc := 1) (L2 := [.ref r, .int 0]) dX3_emptyWater_1 (Nat.le_of_ble_eq_true rfl) rfl ?_
  exact wX3_emptyWater_L2 (by omega) hT hR (fun y4 w5 q0 hf => by
    cases hf
    exact A_vret (pc := 21) dX3_emptyWater_21 rfl ⟨rfl, rfl, rfl⟩) _ _ _ _ hf
def zX3_tellYards_L19 (n : Nat) (r : Nat) (k : Int32 → MU → Option (Int32 × MU)) : Nat → Int32 → MU → Option (Int32 × MU)
  | 0, _, _ => none
  | m + 1, t2, u => if 5 ≤ t2 then (k t2 u) else (if oob t2 5 then none else letb (up2 u (r + 1) t2.toNatClampNeg 2) (fun u6 => if oob t2 5 then none else letb (up2 u6 (r + 2) t2.toNatClampNeg 2) (fun u8 => zX3_tellYards_L19 n r  k m (t2 + 1) u8)))
def zX3_tellYards (n : Nat) (u : MU) (r : Nat) (a1 : Int32) : Option (Int32 × MU) := if a1 < 1 then (some (0, u)) else (if a1 ≤ 5 then (letb (up2 u r 0 a1) (fun u3 => zX3_tellYards_L19 n r  (fun y9 w10 => Option.bind (zX3_emptyWater n w10 r) (fun q11 => some (1, q11))) n 0 u3)) else (some (0, u)))
set_option maxHeartbeats 4000000 in
set_option maxRecDepth 100000 in
theorem wX3_tellYards_L19 {G : GG} {T : TT} {n d : Nat} (hd : 1 ≤ d) {r : Nat} {k : Int32 → MU → Option (Int32 × MU)} (hT : LAY T) (hR : RV T r) (hk : ∀ (t2 : Int32) (u : MU) (q : Int32 × MU), k t2 u = some q → AW G d mX3_tellYards 44 [.ref r, .null, .int t2] [] T u 0 0 (QS T q.1 q.2)) : ∀ (m : Nat) (t2 : Int32) (u : MU) (q : Int32 × MU), zX3_tellYards_L19 n r k m t2 u = some q → AW G d mX3_tellYards 19 [.ref r, .null, .int t2] [] T u 0 0 (QS T q.1 q.2) := by
  intro m
  obtain ⟨d, rfl⟩ : ∃ e, d = e + 1 := ⟨d - 1, by omega⟩
  induction m with
  | zero =>
    intro t2 u q hf
    have h0 : (none : Option (Int32 × MU)) = some q := hf
    cases h0
  | succ m ih =>
    intro t2 u q hf
    rw [zX3_tellYards_L19] at hf
    refine A_iloadn (pc := 19) dX3_tellYards_19 rfl ?_
    refine A_iconst (pc := 20) 5 dX3_tellYards_20 rfl ?_
    refine A_icmp_ge (pc := 21) 44 dX3_tellYards_21 (by decide) (fun cc4 => ?_) (fun cc4 => ?_)
    · have hf := oi_t cc4 hf
      exact hk _ _ _ hf
    have hf := oi_f cc4 hf
    refine A_aloadn (pc := 24) dX3_tellYards_24 rfl ?_
    refine A_getR (pc := 25) dX3_tellYards_25 gX3_24 (rv_0 hR) (Nat.le_of_ble_eq_true rfl) rfl (rv_f4 hR) ?_
    refine A_iloadn (pc := 28) dX3_tellYards_28 rfl ?_
    refine A_iconst (pc := 29) 2 dX3_tellYards_29 rfl ?_
    obtain ⟨h5, hf⟩ := oi_cf hf
    have hf := oi_l hf
    refine A_iast (pc := 30) dX3_tellYards_30 (rv_1 hR) (oob_f h5) ?_
    refine A_aloadn (pc := 31) dX3_tellYards_31 rfl ?_
    refine A_getR (pc := 32) dX3_tellYards_32 gX3_28 (rv_0 hR) (Nat.le_of_ble_eq_true rfl) rfl (rv_f5 hR) ?_
    refine A_iloadn (pc := 35) dX3_tellYards_35 rfl ?_
    refine A_iconst (pc := 36) 2 dX3_tellYards_36 rfl ?_
    obtain ⟨h7, hf⟩ := oi_cf hf
    have hf := oi_l hf
    refine A_iast (pc := 37) dX3_tellYards_37 (rv_2 hR) (oob_f h7) ?_
    refine A_inc (pc := 38) (L2 := [.ref r, .null, .int (t2 + 1)]) (t2 + 1) dX3_tellYards_38 rfl rfl rfl ?_
    refine A_goto (pc := 41) 19 dX3_tellYards_41 (by decide) ?_
    exact ih _ _ _ hf
set_option maxHeartbeats 4000000 in
set_option maxRecDepth 100000 in
theorem wX3_tellYards {G : GG} {T : TT} {n d : Nat} (hd : 1 ≤ d) {q : Int32 × MU} {u : MU} {r : Nat} {a1 : Int32} (hT : LAY T) (hR : RV T r) (hf : zX3_tellYards n u r a1 = some q) : AW G d mX3_tellYards 0 [.ref r, .int a1, .null] [] T u 0 0 (QS T q.1 q.2) := by
  obtain ⟨d, rfl⟩ : ∃ e, d = e + 1 := ⟨d - 1, by omega⟩
  rw [zX3_tellYards] at hf
  refine A_iloadn (pc := 0) dX3_tellYards_0 rfl ?_
  refine A_iconst (pc := 1) 1 dX3_tellYards_1 rfl ?_
  refine A_icmp_lt (pc := 2) 10 dX3_tellYards_2 (by decide) (fun cc1 => ?_) (fun cc1 => ?_)
  · have hf := oi_t cc1 hf
    refine A_iconst (pc := 10) 0 dX3_tellYards_10 rfl ?_
    cases hf
    exact A_iret (pc := 11) dX3_tellYards_11 rfl rfl ⟨rfl, rfl, rfl⟩
  have hf := oi_f cc1 hf
  refine A_iloadn (pc := 5) dX3_tellYards_5 rfl ?_
  refine A_iconst (pc := 6) 5 dX3_tellYards_6 rfl ?_
  refine A_icmp_le (pc := 7) 12 dX3_tellYards_7 (by decide) (fun cc2 => ?_) (fun cc2 => ?_)
  · have hf := oi_t cc2 hf
    refine A_aloadn (pc := 12) dX3_tellYards_12 rfl ?_
    refine A_iloadn (pc := 13) dX3_tellYards_13 rfl ?_
    have hf := oi_l hf
    refine A_putI (pc := 14) dX3_tellYards_14 gX3_9 (rv_0 hR) (Nat.le_of_ble_eq_true rfl) rfl rfl rfl rfl ?_
    refine A_iconst (pc := 17) 0 dX3_tellYards_17 rfl ?_
    refine A_istn (pc := 18) (L2 := [.ref r, .int a1, .int 0]) dX3_tellYards_18 (Nat.le_of_ble_eq_true rfl) rfl ?_
    refine A_fgt 1 (L' := [.ref r, .null, .int 0]) rfl ?_
    exact wX3_tellYards_L19 (by omega) hT hR (fun y9 w10 q0 hf => by
      refine A_aloadn (pc := 44) dX3_tellYards_44 rfl ?_
      obtain ⟨q11, h12, hf⟩ := oi_b hf
      refine A_cV0v (mi2 := mX3_emptyWater) (pc := 45) dX3_tellYards_45 lX3_141 fX3_emptyWater vX3_emptyWater (rv_0 hR) rfl (Nat.le_of_ble_eq_true rfl) rfl (Nat.le_of_ble_eq_true rfl) (wX3_emptyWater (by omega) hT hR h12) ?_
      refine A_iconst (pc := 48) 1 dX3_tellYards_48 rfl ?_
      cases hf
      exact A_iret (pc := 49) dX3_tellYards_49 rfl rfl ⟨rfl, rfl, rfl⟩) _ _ _ _ hf
  have hf := oi_f cc2 hf
  refine A_iconst (pc := 10) 0 dX3_tellYards_10 rfl ?_
  cases hf
  exact A_iret (pc := 11) dX3_tellYards_11 rfl rfl ⟨rfl, rfl, rfl⟩
def zX3_isYard (n : Nat) (u : MU) (r : Nat) (a1 : Int32) : Option (Int32) := if a1 < 0 then (some 0) else (if (u r 0) ≤ a1 then (some 0) else (some 1))
set_option maxHeartbeats 4000000 in
set_option maxRecDepth 100000 in
theorem wX3_isYard {G : GG} {T : TT} {n d : Nat} (hd : 0 ≤ d) {q : Int32} {u : MU} {r : Nat} {a1 : Int32} (hT : LAY T) (hR : RV T r) (hf : zX3_isYard n u r a1 = some q) : AW G d mX3_isYard 0 [.ref r, .int a1] [] T u 0 0 (QS T q u) := by
  rw [zX3_isYard] at hf
  refine A_iloadn (pc := 0) dX3_isYard_0 rfl ?_
  refine A_if_lt (pc := 1) (w := 0) 16 dX3_isYard_1 (by decide) (fun cc1 => ?_) (fun cc1 => ?_)
  · have hf := oi_t cc1 hf
    refine A_iconst (pc := 16) 0 dX3_isYard_16 rfl ?_
    cases hf
    exact A_iret (pc := 17) dX3_isYard_17 rfl rfl ⟨rfl, rfl, rfl⟩
  have hf := oi_f cc1 hf
  refine A_iloadn (pc := 4) dX3_isYard_4 rfl ?_
  refine A_aloadn (pc := 5) dX3_isYard_5 rfl ?_
  refine A_getI (pc := 6) dX3_isYard_6 gX3_9 (rv_0 hR) (Nat.le_of_ble_eq_true rfl) rfl ?_
  refine A_icmp_ge (pc := 9) 16 dX3_isYard_9 (by decide) (fun cc2 => ?_) (fun cc2 => ?_)
  · have hf := oi_t cc2 hf
    refine A_iconst (pc := 16) 0 dX3_isYard_16 rfl ?_
    cases hf
    exact A_iret (pc := 17) dX3_isYard_17 rfl rfl ⟨rfl, rfl, rfl⟩
  have hf := oi_f cc2 hf
  refine A_iconst (pc := 12) 1 dX3_isYard_12 rfl ?_
  refine A_goto (pc := 13) 17 dX3_isYard_13 (by decide) ?_
  cases hf
  exact A_iret (pc := 17) dX3_isYard_17 rfl rfl ⟨rfl, rfl, rfl⟩
def zX3_tellYard (n : Nat) (u : MU) (r : Nat) (a1 : Int32) (a2 : Int32) (a3 : Int32) : Option (Int32 × MU) := Option.bind (zX3_isYard n u r a1) (fun q1 => if q1 = 0 then (some (0, u)) else (if oob a1 5 then none else letb (up2 u (r + 1) a1.toNatClampNeg a2) (fun u5 => if oob a1 5 then none else letb (up2 u5 (r + 2) a1.toNatClampNeg a3) (fun u7 => some (1, u7)))))
set_option maxHeartbeats 4000000 in
set_option maxRecDepth 100000 in
theorem wX3_tellYard {G : GG} {T : TT} {n d : Nat} (hd : 1 ≤ d) {q : Int32 × MU} {u : MU} {r : Nat} {a1 : Int32} {a2 : Int32} {a3 : Int32} (hT : LAY T) (hR : RV T r) (hf : zX3_tellYard n u r a1 a2 a3 = some q) : AW G d mX3_tellYard 0 [.ref r, .int a1, .int a2, .int a3] [] T u 0 0 (QS T q.1 q.2) := by
  obtain ⟨d, rfl⟩ : ∃ e, d = e + 1 := ⟨d - 1, by omega⟩
  rw [zX3_tellYard] at hf
  refine A_aloadn (pc := 0) dX3_tellYard_0 rfl ?_
  refine A_iloadn (pc := 1) dX3_tellYard_1 rfl ?_
  obtain ⟨q1, h2, hf⟩ := oi_b hf
  refine A_cV1i (mi2 := mX3_isYard) (pc := 2) dX3_tellYard_2 lX3_144 fX3_isYard vX3_isYard (rv_0 hR) rfl (Nat.le_of_ble_eq_true rfl) rfl (Nat.le_of_ble_eq_true rfl) (wX3_isYard (by omega) hT hR h2) ?_
  refine A_if_ne (pc := 5) (w := 0) 10 dX3_tellYard_5 (by decide) (fun cc3 => ?_) (fun cc3 => ?_)
  · have hf := oi_f cc3 hf
    refine A_aloadn (pc := 10) dX3_tellYard_10 rfl ?_
    refine A_getR (pc := 11) dX3_tellYard_11 gX3_24 (rv_0 hR) (Nat.le_of_ble_eq_true rfl) rfl (rv_f4 hR) ?_
    refine A_iloadn (pc := 14) dX3_tellYard_14 rfl ?_
    refine A_iloadn (pc := 15) dX3_tellYard_15 rfl ?_
    obtain ⟨h4, hf⟩ := oi_cf hf
    have hf := oi_l hf
    refine A_iast (pc := 16) dX3_tellYard_16 (rv_1 hR) (oob_f h4) ?_
    refine A_aloadn (pc := 17) dX3_tellYard_17 rfl ?_
    refine A_getR (pc := 18) dX3_tellYard_18 gX3_28 (rv_0 hR) (Nat.le_of_ble_eq_true rfl) rfl (rv_f5 hR) ?_
    refine A_iloadn (pc := 21) dX3_tellYard_21 rfl ?_
    refine A_iloadn (pc := 22) dX3_tellYard_22 rfl ?_
    obtain ⟨h6, hf⟩ := oi_cf hf
    have hf := oi_l hf
    refine A_iast (pc := 23) dX3_tellYard_23 (rv_2 hR) (oob_f h6) ?_
    refine A_iconst (pc := 24) 1 dX3_tellYard_24 rfl ?_
    cases hf
    exact A_iret (pc := 25) dX3_tellYard_25 rfl rfl ⟨rfl, rfl, rfl⟩
  have hf := oi_t cc3 hf
  refine A_iconst (pc := 8) 0 dX3_tellYard_8 rfl ?_
  cases hf
  exact A_iret (pc := 9) dX3_tellYard_9 rfl rfl ⟨rfl, rfl, rfl⟩
def zX3_tellPerson (n : Nat) (u : MU) (r : Nat) (a1 : Int32) (a2 : Int32) (a3 : Int32) (a4 : Int32) (a5 : Int32) : Option (Int32 × MU) := if 5 < a1 then (some (0, u)) else (if (u r 3) < 7 then (if oob (u r 3) 7 then none else letb (up2 u (r + 7 + (u r 3).toNatClampNeg) 0 a1) (fun u4 => letb (up2 u4 (r + 7 + (u r 3).toNatClampNeg) 1 a2) (fun u5 => letb (up2 u5 (r + 7 + (u r 3).toNatClampNeg) 2 a3) (fun u6 => letb (up2 u6 (r + 7 + (u r 3).toNatClampNeg) 3 a4) (fun u7 => letb (up2 u7 (r + 7 + (u r 3).toNatClampNeg) 4 a5) (fun u8 => letb (up2 u8 (r + 7 + (u r 3).toNatClampNeg) 5 0) (fun u9 => letb (up2 u9 r 3 ((u9 r 3) + 1)) (fun u10 => some (1, u10))))))))) else (some (0, u)))
set_option maxHeartbeats 4000000 in
set_option maxRecDepth 100000 in
theorem wX3_tellPerson {G : GG} {T : TT} {n d : Nat} (hd : 0 ≤ d) {q : Int32 × MU} {u : MU} {r : Nat} {a1 : Int32} {a2 : Int32} {a3 : Int32} {a4 : Int32} {a5 : Int32} (hT : LAY T) (hR : RV T r) (hf : zX3_tellPerson n u r a1 a2 a3 a4 a5 = some q) : AW G d mX3_tellPerson 0 [.ref r, .int a1, .int a2, .int a3, .int a4, .int a5, .null] [] T u 0 0 (QS T q.1 q.2) := by
  rw [zX3_tellPerson] at hf
  refine A_iloadn (pc := 0) dX3_tellPerson_0 rfl ?_
  refine A_iconst (pc := 1) 5 dX3_tellPerson_1 rfl ?_
  refine A_icmp_gt (pc := 2) 14 dX3_tellPerson_2 (by decide) (fun cc1 => ?_) (fun cc1 => ?_)
  · have hf := oi_t cc1 hf
    refine A_iconst (pc := 14) 0 dX3_tellPerson_14 rfl ?_
    cases hf
    exact A_iret (pc := 15) dX3_tellPerson_15 rfl rfl ⟨rfl, rfl, rfl⟩
  have hf := oi_f cc1 hf
  refine A_aloadn (pc := 5) dX3_tellPerson_5 rfl ?_
  refine A_getI (pc := 6) dX3_tellPerson_6 gX3_21 (rv_0 hR) (Nat.le_of_ble_eq_true rfl) rfl ?_
  refine A_bipush (pc := 9) 7 dX3_tellPerson_9 rfl ?_
  refine A_icmp_lt (pc := 11) 16 dX3_tellPerson_11 (by decide) (fun cc2 => ?_) (fun cc2 => ?_)
  · have hf := oi_t cc2 hf
    refine A_aloadn (pc := 16) dX3_tellPerson_16 rfl ?_
    refine A_getR (pc := 17) dX3_tellPerson_17 gX3_36 (rv_0 hR) (Nat.le_of_ble_eq_true rfl) rfl (rv_f7 hR) ?_
    refine A_aloadn (pc := 20) dX3_tellPerson_20 rfl ?_
    refine A_getI (pc := 21) dX3_tellPerson_21 gX3_21 (rv_0 hR) (Nat.le_of_ble_eq_true rfl) rfl ?_
    obtain ⟨h3, hf⟩ := oi_cf hf
    refine A_aald (pc := 24) dX3_tellPerson_24 (rv_4 hR) (oob_f h3) (rv_q hR (vpin_lt (oob_f h3))) ?_
    refine A_ast (pc := 25) (L2 := [.ref r, .int a1, .int a2, .int a3, .int a4, .int a5, .ref (r + 7 + (u r 3).toNatClampNeg)]) dX3_tellPerson_25 (Nat.le_of_ble_eq_true rfl) rfl ?_
    refine A_aload (pc := 27) dX3_tellPerson_27 rfl ?_
    refine A_iloadn (pc := 29) dX3_tellPerson_29 rfl ?_
    have hf := oi_l hf
    refine A_putI (pc := 30) dX3_tellPerson_30 gX3_147 (rv_p hR (vpin_lt (oob_f h3))) (Nat.le_of_ble_eq_true rfl) rfl rfl rfl rfl ?_
    refine A_aload (pc := 33) dX3_tellPerson_33 rfl ?_
    refine A_iloadn (pc := 35) dX3_tellPerson_35 rfl ?_
    have hf := oi_l hf
    refine A_putI (pc := 36) dX3_tellPerson_36 gX3_150 (rv_p hR (vpin_lt (oob_f h3))) (Nat.le_of_ble_eq_true rfl) rfl rfl rfl rfl ?_
    refine A_aload (pc := 39) dX3_tellPerson_39 rfl ?_
    refine A_iloadn (pc := 41) dX3_tellPerson_41 rfl ?_
    have hf := oi_l hf
    refine A_putI (pc := 42) dX3_tellPerson_42 gX3_153 (rv_p hR (vpin_lt (oob_f h3))) (Nat.le_of_ble_eq_true rfl) rfl rfl rfl rfl ?_
    refine A_aload (pc := 45) dX3_tellPerson_45 rfl ?_
    refine A_iload (pc := 47) dX3_tellPerson_47 rfl ?_
    have hf := oi_l hf
    refine A_putI (pc := 49) dX3_tellPerson_49 gX3_156 (rv_p hR (vpin_lt (oob_f h3))) (Nat.le_of_ble_eq_true rfl) rfl rfl rfl rfl ?_
    refine A_aload (pc := 52) dX3_tellPerson_52 rfl ?_
    refine A_iload (pc := 54) dX3_tellPerson_54 rfl ?_
    have hf := oi_l hf
    refine A_putI (pc := 56) dX3_tellPerson_56 gX3_117 (rv_p hR (vpin_lt (oob_f h3))) (Nat.le_of_ble_eq_true rfl) rfl rfl rfl rfl ?_
    refine A_aload (pc := 59) dX3_tellPerson_59 rfl ?_
    refine A_iconst (pc := 61) 0 dX3_tellPerson_61 rfl ?_
    have hf := oi_l hf
    refine A_putI (pc := 62) dX3_tellPerson_62 gX3_61 (rv_p hR (vpin_lt (oob_f h3))) (Nat.le_of_ble_eq_true rfl) rfl rfl rfl rfl ?_
    refine A_aloadn (pc := 65) dX3_tellPerson_65 rfl ?_
    refine A_dup (pc := 66) dX3_tellPerson_66 ?_
    refine A_getI (pc := 67) dX3_tellPerson_67 gX3_21 (rv_0 hR) (Nat.le_of_ble_eq_true rfl) rfl ?_
    refine A_iconst (pc := 70) 1 dX3_tellPerson_70 rfl ?_
    refine A_iadd (pc := 71) dX3_tellPerson_71 ?_
    have hf := oi_l hf
    refine A_putI (pc := 72) dX3_tellPerson_72 gX3_21 (rv_0 hR) (Nat.le_of_ble_eq_true rfl) rfl rfl rfl rfl ?_
    refine A_iconst (pc := 75) 1 dX3_tellPerson_75 rfl ?_
    cases hf
    exact A_iret (pc := 76) dX3_tellPerson_76 rfl rfl ⟨rfl, rfl, rfl⟩
  have hf := oi_f cc2 hf
  refine A_iconst (pc := 14) 0 dX3_tellPerson_14 rfl ?_
  cases hf
  exact A_iret (pc := 15) dX3_tellPerson_15 rfl rfl ⟨rfl, rfl, rfl⟩
def zX3_isPerson (n : Nat) (u : MU) (r : Nat) (a1 : Int32) : Option (Int32) := if a1 < 0 then (some 0) else (if (u r 3) ≤ a1 then (some 0) else (some 1))
set_option maxHeartbeats 4000000 in
set_option maxRecDepth 100000 in
theorem wX3_isPerson {G : GG} {T : TT} {n d : Nat} (hd : 0 ≤ d) {q : Int32} {u : MU} {r : Nat} {a1 : Int32} (hT : LAY T) (hR : RV T r) (hf : zX3_isPerson n u r a1 = some q) : AW G d mX3_isPerson 0 [.ref r, .int a1] [] T u 0 0 (QS T q u) := by
  rw [zX3_isPerson] at hf
  refine A_iloadn (pc := 0) dX3_isPerson_0 rfl ?_
  refine A_if_lt (pc := 1) (w := 0) 16 dX3_isPerson_1 (by decide) (fun cc1 => ?_) (fun cc1 => ?_)
  · have hf := oi_t cc1 hf
    refine A_iconst (pc := 16) 0 dX3_isPerson_16 rfl ?_
    cases hf
    exact A_iret (pc := 17) dX3_isPerson_17 rfl rfl ⟨rfl, rfl, rfl⟩
  have hf := oi_f cc1 hf
  refine A_iloadn (pc := 4) dX3_isPerson_4 rfl ?_
  refine A_aloadn (pc := 5) dX3_isPerson_5 rfl ?_
  refine A_getI (pc := 6) dX3_isPerson_6 gX3_21 (rv_0 hR) (Nat.le_of_ble_eq_true rfl) rfl ?_
  refine A_icmp_ge (pc := 9) 16 dX3_isPerson_9 (by decide) (fun cc2 => ?_) (fun cc2 => ?_)
  · have hf := oi_t cc2 hf
    refine A_iconst (pc := 16) 0 dX3_isPerson_16 rfl ?_
    cases hf
    exact A_iret (pc := 17) dX3_isPerson_17 rfl rfl ⟨rfl, rfl, rfl⟩
  have hf := oi_f cc2 hf
  refine A_iconst (pc := 12) 1 dX3_isPerson_12 rfl ?_
  refine A_goto (pc := 13) 17 dX3_isPerson_13 (by decide) ?_
  cases hf
  exact A_iret (pc := 17) dX3_isPerson_17 rfl rfl ⟨rfl, rfl, rfl⟩
def zX3_areTwo (n : Nat) (u : MU) (r : Nat) (a1 : Int32) (a2 : Int32) : Option (Int32) := Option.bind (zX3_isPerson n u r a1) (fun q1 => if q1 = 0 then (some 0) else (Option.bind (zX3_isPerson n u r a2) (fun q4 => if q4 = 0 then (some 0) else (if a1 = a2 then (some 0) else (some 1)))))
set_option maxHeartbeats 4000000 in
set_option maxRecDepth 100000 in
theorem wX3_areTwo {G : GG} {T : TT} {n d : Nat} (hd : 1 ≤ d) {q : Int32} {u : MU} {r : Nat} {a1 : Int32} {a2 : Int32} (hT : LAY T) (hR : RV T r) (hf : zX3_areTwo n u r a1 a2 = some q) : AW G d mX3_areTwo 0 [.ref r, .int a1, .int a2] [] T u 0 0 (QS T q u) := by
  obtain ⟨d, rfl⟩ : ∃ e, d = e + 1 := ⟨d - 1, by omega⟩
  rw [zX3_areTwo] at hf
  refine A_aloadn (pc := 0) dX3_areTwo_0 rfl ?_
  refine A_iloadn (pc := 1) dX3_areTwo_1 rfl ?_
  obtain ⟨q1, h2, hf⟩ := oi_b hf
  refine A_cV1i (mi2 := mX3_isPerson) (pc := 2) dX3_areTwo_2 lX3_57 fX3_isPerson vX3_isPerson (rv_0 hR) rfl (Nat.le_of_ble_eq_true rfl) rfl (Nat.le_of_ble_eq_true rfl) (wX3_isPerson (by omega) hT hR h2) ?_
  refine A_if_eq (pc := 5) (w := 0) 25 dX3_areTwo_5 (by decide) (fun cc3 => ?_) (fun cc3 => ?_)
  · have hf := oi_t cc3 hf
    refine A_iconst (pc := 25) 0 dX3_areTwo_25 rfl ?_
    cases hf
    exact A_iret (pc := 26) dX3_areTwo_26 rfl rfl ⟨rfl, rfl, rfl⟩
  have hf := oi_f cc3 hf
  refine A_aloadn (pc := 8) dX3_areTwo_8 rfl ?_
  refine A_iloadn (pc := 9) dX3_areTwo_9 rfl ?_
  obtain ⟨q4, h5, hf⟩ := oi_b hf
  refine A_cV1i (mi2 := mX3_isPerson) (pc := 10) dX3_areTwo_10 lX3_57 fX3_isPerson vX3_isPerson (rv_0 hR) rfl (Nat.le_of_ble_eq_true rfl) rfl (Nat.le_of_ble_eq_true rfl) (wX3_isPerson (by omega) hT hR h5) ?_
  refine A_if_eq (pc := 13) (w := 0) 25 dX3_areTwo_13 (by decide) (fun cc6 => ?_) (fun cc6 => ?_)
  · have hf := oi_t cc6 hf
    refine A_iconst (pc := 25) 0 dX3_areTwo_25 rfl ?_
    cases hf
    exact A_iret (pc := 26) dX3_areTwo_26 rfl rfl ⟨rfl, rfl, rfl⟩
  have hf := oi_f cc6 hf
  refine A_iloadn (pc := 16) dX3_areTwo_16 rfl ?_
  refine A_iloadn (pc := 17) dX3_areTwo_17 rfl ?_
  refine A_icmp_eq (pc := 18) 25 dX3_areTwo_18 (by decide) (fun cc7 => ?_) (fun cc7 => ?_)
  · have hf := oi_t cc7 hf
    refine A_iconst (pc := 25) 0 dX3_areTwo_25 rfl ?_
    cases hf
    exact A_iret (pc := 26) dX3_areTwo_26 rfl rfl ⟨rfl, rfl, rfl⟩
  have hf := oi_f cc7 hf
  refine A_iconst (pc := 21) 1 dX3_areTwo_21 rfl ?_
  refine A_goto (pc := 22) 26 dX3_areTwo_22 (by decide) ?_
  cases hf
  exact A_iret (pc := 26) dX3_areTwo_26 rfl rfl ⟨rfl, rfl, rfl⟩
def zX3_grudgeOf (n : Nat) (u : MU) (r : Nat) (a1 : Int32) (a2 : Int32) : Option (Int32) := if oob a1 7 then none else some (((u (r + 5) a1.toNatClampNeg) >>> (a2 &&& 31)) &&& 1)
set_option maxHeartbeats 4000000 in
set_option maxRecDepth 100000 in
theorem wX3_grudgeOf {G : GG} {T : TT} {n d : Nat} (hd : 0 ≤ d) {q : Int32} {u : MU} {r : Nat} {a1 : Int32} {a2 : Int32} (hT : LAY T) (hR : RV T r) (hf : zX3_grudgeOf n u r a1 a2 = some q) : AW G d mX3_grudgeOf 0 [.ref r, .int a1, .int a2] [] T u 0 0 (QS T q u) := by
  rw [zX3_grudgeOf] at hf
  refine A_aloadn (pc := 0) dX3_grudgeOf_0 rfl ?_
  refine A_getR (pc := 1) dX3_grudgeOf_1 gX3_40 (rv_0 hR) (Nat.le_of_ble_eq_true rfl) rfl (rv_f8 hR) ?_
  refine A_iloadn (pc := 4) dX3_grudgeOf_4 rfl ?_
  obtain ⟨h1, hf⟩ := oi_cf hf
  refine A_iald (pc := 5) dX3_grudgeOf_5 (rv_5 hR) (oob_f h1) ?_
  refine A_iloadn (pc := 6) dX3_grudgeOf_6 rfl ?_
  refine A_ishr (pc := 7) dX3_grudgeOf_7 ?_
  refine A_iconst (pc := 8) 1 dX3_grudgeOf_8 rfl ?_
  refine A_iand (pc := 9) dX3_grudgeOf_9 ?_
  cases hf
  exact A_iret (pc := 10) dX3_grudgeOf_10 rfl rfl ⟨rfl, rfl, rfl⟩
def zX3_setGrudge (n : Nat) (u : MU) (r : Nat) (a1 : Int32) (a2 : Int32) (a3 : Int32) : Option (MU) := if oob a1 7 then none else if oob a1 7 then none else letb (up2 u (r + 5) a1.toNatClampNeg (((u (r + 5) a1.toNatClampNeg) &&& ((1 <<< (a2 &&& 31)) ^^^ (-1))) ||| (a3 <<< (a2 &&& 31)))) (fun u3 => if oob a2 7 then none else if oob a2 7 then none else letb (up2 u3 (r + 5) a2.toNatClampNeg (((u3 (r + 5) a2.toNatClampNeg) &&& ((1 <<< (a1 &&& 31)) ^^^ (-1))) ||| (a3 <<< (a1 &&& 31)))) (fun u6 => some u6))
set_option maxHeartbeats 4000000 in
set_option maxRecDepth 100000 in
theorem wX3_setGrudge {G : GG} {T : TT} {n d : Nat} (hd : 0 ≤ d) {q : MU} {u : MU} {r : Nat} {a1 : Int32} {a2 : Int32} {a3 : Int32} (hT : LAY T) (hR : RV T r) (hf : zX3_setGrudge n u r a1 a2 a3 = some q) : AW G d mX3_setGrudge 0 [.ref r, .int a1, .int a2, .int a3] [] T u 0 0 (QV T q) := by
  rw [zX3_setGrudge] at hf
  refine A_aloadn (pc := 0) dX3_setGrudge_0 rfl ?_
  refine A_getR (pc := 1) dX3_setGrudge_1 gX3_40 (rv_0 hR) (Nat.le_of_ble_eq_true rfl) rfl (rv_f8 hR) ?_
  refine A_iloadn (pc := 4) dX3_setGrudge_4 rfl ?_
  refine A_aloadn (pc := 5) dX3_setGrudge_5 rfl ?_
  refine A_getR (pc := 6) dX3_setGrudge_6 gX3_40 (rv_0 hR) (Nat.le_of_ble_eq_true rfl) rfl (rv_f8 hR) ?_
  refine A_iloadn (pc := 9) dX3_setGrudge_9 rfl ?_
  obtain ⟨h1, hf⟩ := oi_cf hf
  refine A_iald (pc := 10) dX3_setGrudge_10 (rv_5 hR) (oob_f h1) ?_
  refine A_iconst (pc := 11) 1 dX3_setGrudge_11 rfl ?_
  refine A_iloadn (pc := 12) dX3_setGrudge_12 rfl ?_
  refine A_ishl (pc := 13) dX3_setGrudge_13 ?_
  refine A_iconst (pc := 14) (-1) dX3_setGrudge_14 rfl ?_
  refine A_ixor (pc := 15) dX3_setGrudge_15 ?_
  refine A_iand (pc := 16) dX3_setGrudge_16 ?_
  refine A_iloadn (pc := 17) dX3_setGrudge_17 rfl ?_
  refine A_iloadn (pc := 18) dX3_setGrudge_18 rfl ?_
  refine A_ishl (pc := 19) dX3_setGrudge_19 ?_
  refine A_ior (pc := 20) dX3_setGrudge_20 ?_
  obtain ⟨h2, hf⟩ := oi_cf hf
  have hf := oi_l hf
  refine A_iast (pc := 21) dX3_setGrudge_21 (rv_5 hR) (oob_f h2) ?_
  refine A_aloadn (pc := 22) dX3_setGrudge_22 rfl ?_
  refine A_getR (pc := 23) dX3_setGrudge_23 gX3_40 (rv_0 hR) (Nat.le_of_ble_eq_true rfl) rfl (rv_f8 hR) ?_
  refine A_iloadn (pc := 26) dX3_setGrudge_26 rfl ?_
  refine A_aloadn (pc := 27) dX3_setGrudge_27 rfl ?_
  refine A_getR (pc := 28) dX3_setGrudge_28 gX3_40 (rv_0 hR) (Nat.le_of_ble_eq_true rfl) rfl (rv_f8 hR) ?_
  refine A_iloadn (pc := 31) dX3_setGrudge_31 rfl ?_
  obtain ⟨h4, hf⟩ := oi_cf hf
  refine A_iald (pc := 32) dX3_setGrudge_32 (rv_5 hR) (oob_f h4) ?_
  refine A_iconst (pc := 33) 1 dX3_setGrudge_33 rfl ?_
  refine A_iloadn (pc := 34) dX3_setGrudge_34 rfl ?_
  refine A_ishl (pc := 35) dX3_setGrudge_35 ?_
  refine A_iconst (pc := 36) (-1) dX3_setGrudge_36 rfl ?_
  refine A_ixor (pc := 37) dX3_setGrudge_37 ?_
  refine A_iand (pc := 38) dX3_setGrudge_38 ?_
  refine A_iloadn (pc := 39) dX3_setGrudge_39 rfl ?_
  refine A_iloadn (pc := 40) dX3_setGrudge_40 rfl ?_
  refine A_ishl (pc := 41) dX3_setGrudge_41 ?_
  refine A_ior (pc := 42) dX3_setGrudge_42 ?_
  obtain ⟨h5, hf⟩ := oi_cf hf
  have hf := oi_l hf
  refine A_iast (pc := 43) dX3_setGrudge_43 (rv_5 hR) (oob_f h5) ?_
  cases hf
  exact A_vret (pc := 44) dX3_setGrudge_44 rfl ⟨rfl, rfl, rfl⟩
def zX3_tellGrudge (n : Nat) (u : MU) (r : Nat) (a1 : Int32) (a2 : Int32) : Option (Int32 × MU) := Option.bind (zX3_areTwo n u r a1 a2) (fun q1 => if q1 = 0 then (some (0, u)) else (Option.bind (zX3_grudgeOf n u r a1 a2) (fun q4 => Option.bind (zX3_setGrudge n u r a1 a2 (1 - q4)) (fun q6 => some (1, q6)))))
set_option maxHeartbeats 4000000 in
set_option maxRecDepth 100000 in
theorem wX3_tellGrudge {G : GG} {T : TT} {n d : Nat} (hd : 2 ≤ d) {q : Int32 × MU} {u : MU} {r : Nat} {a1 : Int32} {a2 : Int32} (hT : LAY T) (hR : RV T r) (hf : zX3_tellGrudge n u r a1 a2 = some q) : AW G d mX3_tellGrudge 0 [.ref r, .int a1, .int a2] [] T u 0 0 (QS T q.1 q.2) := by
  obtain ⟨d, rfl⟩ : ∃ e, d = e + 1 := ⟨d - 1, by omega⟩
  rw [zX3_tellGrudge] at hf
  refine A_aloadn (pc := 0) dX3_tellGrudge_0 rfl ?_
  refine A_iloadn (pc := 1) dX3_tellGrudge_1 rfl ?_
  refine A_iloadn (pc := 2) dX3_tellGrudge_2 rfl ?_
  obtain ⟨q1, h2, hf⟩ := oi_b hf
  refine A_cV2i (mi2 := mX3_areTwo) (pc := 3) dX3_tellGrudge_3 lX3_159 fX3_areTwo vX3_areTwo (rv_0 hR) rfl (Nat.le_of_ble_eq_true rfl) rfl (Nat.le_of_ble_eq_true rfl) (wX3_areTwo (by omega) hT hR h2) ?_
  refine A_if_ne (pc := 6) (w := 0) 11 dX3_tellGrudge_6 (by decide) (fun cc3 => ?_) (fun cc3 => ?_)
  · have hf := oi_f cc3 hf
    refine A_aloadn (pc := 11) dX3_tellGrudge_11 rfl ?_
    refine A_iloadn (pc := 12) dX3_tellGrudge_12 rfl ?_
    refine A_iloadn (pc := 13) dX3_tellGrudge_13 rfl ?_
    refine A_iconst (pc := 14) 1 dX3_tellGrudge_14 rfl ?_
    refine A_aloadn (pc := 15) dX3_tellGrudge_15 rfl ?_
    refine A_iloadn (pc := 16) dX3_tellGrudge_16 rfl ?_
    refine A_iloadn (pc := 17) dX3_tellGrudge_17 rfl ?_
    obtain ⟨q4, h5, hf⟩ := oi_b hf
    refine A_cV2i (mi2 := mX3_grudgeOf) (pc := 18) dX3_tellGrudge_18 lX3_102 fX3_grudgeOf vX3_grudgeOf (rv_0 hR) rfl (Nat.le_of_ble_eq_true rfl) rfl (Nat.le_of_ble_eq_true rfl) (wX3_grudgeOf (by omega) hT hR h5) ?_
    refine A_isub (pc := 21) dX3_tellGrudge_21 ?_
    obtain ⟨q6, h7, hf⟩ := oi_b hf
    refine A_cV3v (mi2 := mX3_setGrudge) (pc := 22) dX3_tellGrudge_22 lX3_163 fX3_setGrudge vX3_setGrudge (rv_0 hR) rfl (Nat.le_of_ble_eq_true rfl) rfl (Nat.le_of_ble_eq_true rfl) (wX3_setGrudge (by omega) hT hR h7) ?_
    refine A_iconst (pc := 25) 1 dX3_tellGrudge_25 rfl ?_
    cases hf
    exact A_iret (pc := 26) dX3_tellGrudge_26 rfl rfl ⟨rfl, rfl, rfl⟩
  have hf := oi_t cc3 hf
  refine A_iconst (pc := 9) 0 dX3_tellGrudge_9 rfl ?_
  cases hf
  exact A_iret (pc := 10) dX3_tellGrudge_10 rfl rfl ⟨rfl, rfl, rfl⟩
def zX3_enter_L2 (n : Nat) (r : Nat) (s1 : Int32) (s2 : Int32) (k : Int32 → MU → Option (MU)) : Nat → Int32 → MU → Option (MU)
  | 0, _, _ => none
  | m + 1, t3, u => if (u r 0) ≤ t3 then (k t3 u) else (if oob t3 5 then none else if (u (r + 3) t3.toNatClampNeg) = s2 then (if oob t3 5 then none else letb (up2 u (r + 3) t3.toNatClampNeg (-9)) (fun u5 => zX3_enter_L2 n r s1 s2 k m (t3 + 1) u5)) else (zX3_enter_L2 n r s1 s2 k m (t3 + 1) u))
def zX3_enter (n : Nat) (u : MU) (r : Nat) (a1 : Int32) (a2 : Int32) : Option (MU) := zX3_enter_L2 n r a1 a2 (fun y6 w7 => if oob a1 5 then none else letb (up2 w7 (r + 3) a1.toNatClampNeg a2) (fun u9 => some u9)) n 0 u
set_option maxHeartbeats 4000000 in
set_option maxRecDepth 100000 in
theorem wX3_enter_L2 {G : GG} {T : TT} {n d : Nat} (hd : 0 ≤ d) {r : Nat} {s1 : Int32} {s2 : Int32} {k : Int32 → MU → Option (MU)} (hT : LAY T) (hR : RV T r) (hk : ∀ (t3 : Int32) (u : MU) (q : MU), k t3 u = some q → AW G d mX3_enter 34 [.ref r, .int s1, .int s2, .int t3] [] T u 0 0 (QV T q)) : ∀ (m : Nat) (t3 : Int32) (u : MU) (q : MU), zX3_enter_L2 n r s1 s2 k m t3 u = some q → AW G d mX3_enter 2 [.ref r, .int s1, .int s2, .int t3] [] T u 0 0 (QV T q) := by
  intro m
  induction m with
  | zero =>
    intro t3 u q hf
    have h0 : (none : Option (MU)) = some q := hf
    cases h0
  | succ m ih =>
    intro t3 u q hf
    rw [zX3_enter_L2] at hf
    refine A_iloadn (pc := 2) dX3_enter_2 rfl ?_
    refine A_aloadn (pc := 3) dX3_enter_3 rfl ?_
    refine A_getI (pc := 4) dX3_enter_4 gX3_9 (rv_0 hR) (Nat.le_of_ble_eq_true rfl) rfl ?_
    refine A_icmp_ge (pc := 7) 34 dX3_enter_7 (by decide) (fun cc1 => ?_) (fun cc1 => ?_)
    · have hf := oi_t cc1 hf
      exact hk _ _ _ hf
    have hf := oi_f cc1 hf
    refine A_aloadn (pc := 10) dX3_enter_10 rfl ?_
    refine A_getR (pc := 11) dX3_enter_11 gX3_31 (rv_0 hR) (Nat.le_of_ble_eq_true rfl) rfl (rv_f6 hR) ?_
    refine A_iloadn (pc := 14) dX3_enter_14 rfl ?_
    obtain ⟨h2, hf⟩ := oi_cf hf
    refine A_iald (pc := 15) dX3_enter_15 (rv_3 hR) (oob_f h2) ?_
    refine A_iloadn (pc := 16) dX3_enter_16 rfl ?_
    refine A_icmp_ne (pc := 17) 28 dX3_enter_17 (by decide) (fun cc3 => ?_) (fun cc3 => ?_)
    · have hf := oi_f cc3 hf
      refine A_inc (pc := 28) (L2 := [.ref r, .int s1, .int s2, .int (t3 + 1)]) (t3 + 1) dX3_enter_28 rfl rfl rfl ?_
      refine A_goto (pc := 31) 2 dX3_enter_31 (by decide) ?_
      exact ih _ _ _ hf
    have hf := oi_t cc3 hf
    refine A_aloadn (pc := 20) dX3_enter_20 rfl ?_
    refine A_getR (pc := 21) dX3_enter_21 gX3_31 (rv_0 hR) (Nat.le_of_ble_eq_true rfl) rfl (rv_f6 hR) ?_
    refine A_iloadn (pc := 24) dX3_enter_24 rfl ?_
    refine A_bipush (pc := 25) (-9) dX3_enter_25 rfl ?_
    obtain ⟨h4, hf⟩ := oi_cf hf
    have hf := oi_l hf
    refine A_iast (pc := 27) dX3_enter_27 (rv_3 hR) (oob_f h4) ?_
    refine A_inc (pc := 28) (L2 := [.ref r, .int s1, .int s2, .int (t3 + 1)]) (t3 + 1) dX3_enter_28 rfl rfl rfl ?_
    refine A_goto (pc := 31) 2 dX3_enter_31 (by decide) ?_
    exact ih _ _ _ hf
set_option maxHeartbeats 4000000 in
set_option maxRecDepth 100000 in
theorem wX3_enter {G : GG} {T : TT} {n d : Nat} (hd : 0 ≤ d) {q : MU} {u : MU} {r : Nat} {a1 : Int32} {a2 : Int32} (hT : LAY T) (hR : RV T r) (hf : zX3_enter n u r a1 a2 = some q) : AW G d mX3_enter 0 [.ref r, .int a1, .int a2, .null] [] T u 0 0 (QV T q) := by
  rw [zX3_enter] at hf
  refine A_iconst (pc := 0) 0 dX3_enter_0 rfl ?_
  refine A_istn (pc := 1) (L2 := [.ref r, .int a1, .int a2, .int 0]) dX3_enter_1 (Nat.le_of_ble_eq_true rfl) rfl ?_
  exact wX3_enter_L2 (by omega) hT hR (fun y6 w7 q0 hf => by
    refine A_aloadn (pc := 34) dX3_enter_34 rfl ?_
    refine A_getR (pc := 35) dX3_enter_35 gX3_31 (rv_0 hR) (Nat.le_of_ble_eq_true rfl) rfl (rv_f6 hR) ?_
    refine A_iloadn (pc := 38) dX3_enter_38 rfl ?_
    refine A_iloadn (pc := 39) dX3_enter_39 rfl ?_
    obtain ⟨h8, hf⟩ := oi_cf hf
    have hf := oi_l hf
    refine A_iast (pc := 40) dX3_enter_40 (rv_3 hR) (oob_f h8) ?_
    cases hf
    exact A_vret (pc := 41) dX3_enter_41 rfl ⟨rfl, rfl, rfl⟩) _ _ _ _ hf
def zX3_tellIn (n : Nat) (u : MU) (r : Nat) (a1 : Int32) (a2 : Int32) : Option (Int32 × MU) := Option.bind (zX3_isYard n u r a1) (fun q1 => if q1 = 0 then (some (0, u)) else (Option.bind (zX3_isPerson n u r a2) (fun q4 => if q4 = 0 then (some (0, u)) else (if oob a2 7 then none else if (u (r + 7 + a2.toNatClampNeg) 5) = 0 then (Option.bind (zX3_enter n u r a1 a2) (fun q9 => some (1, q9))) else (some (0, u))))))
set_option maxHeartbeats 4000000 in
set_option maxRecDepth 100000 in
theorem wX3_tellIn {G : GG} {T : TT} {n d : Nat} (hd : 1 ≤ d) {q : Int32 × MU} {u : MU} {r : Nat} {a1 : Int32} {a2 : Int32} (hT : LAY T) (hR : RV T r) (hf : zX3_tellIn n u r a1 a2 = some q) : AW G d mX3_tellIn 0 [.ref r, .int a1, .int a2] [] T u 0 0 (QS T q.1 q.2) := by
  obtain ⟨d, rfl⟩ : ∃ e, d = e + 1 := ⟨d - 1, by omega⟩
  rw [zX3_tellIn] at hf
  refine A_aloadn (pc := 0) dX3_tellIn_0 rfl ?_
  refine A_iloadn (pc := 1) dX3_tellIn_1 rfl ?_
  obtain ⟨q1, h2, hf⟩ := oi_b hf
  refine A_cV1i (mi2 := mX3_isYard) (pc := 2) dX3_tellIn_2 lX3_144 fX3_isYard vX3_isYard (rv_0 hR) rfl (Nat.le_of_ble_eq_true rfl) rfl (Nat.le_of_ble_eq_true rfl) (wX3_isYard (by omega) hT hR h2) ?_
  refine A_if_eq (pc := 5) (w := 0) 28 dX3_tellIn_5 (by decide) (fun cc3 => ?_) (fun cc3 => ?_)
  · have hf := oi_t cc3 hf
    refine A_iconst (pc := 28) 0 dX3_tellIn_28 rfl ?_
    cases hf
    exact A_iret (pc := 29) dX3_tellIn_29 rfl rfl ⟨rfl, rfl, rfl⟩
  have hf := oi_f cc3 hf
  refine A_aloadn (pc := 8) dX3_tellIn_8 rfl ?_
  refine A_iloadn (pc := 9) dX3_tellIn_9 rfl ?_
  obtain ⟨q4, h5, hf⟩ := oi_b hf
  refine A_cV1i (mi2 := mX3_isPerson) (pc := 10) dX3_tellIn_10 lX3_57 fX3_isPerson vX3_isPerson (rv_0 hR) rfl (Nat.le_of_ble_eq_true rfl) rfl (Nat.le_of_ble_eq_true rfl) (wX3_isPerson (by omega) hT hR h5) ?_
  refine A_if_eq (pc := 13) (w := 0) 28 dX3_tellIn_13 (by decide) (fun cc6 => ?_) (fun cc6 => ?_)
  · have hf := oi_t cc6 hf
    refine A_iconst (pc := 28) 0 dX3_tellIn_28 rfl ?_
    cases hf
    exact A_iret (pc := 29) dX3_tellIn_29 rfl rfl ⟨rfl, rfl, rfl⟩
  have hf := oi_f cc6 hf
  refine A_aloadn (pc := 16) dX3_tellIn_16 rfl ?_
  refine A_getR (pc := 17) dX3_tellIn_17 gX3_36 (rv_0 hR) (Nat.le_of_ble_eq_true rfl) rfl (rv_f7 hR) ?_
  refine A_iloadn (pc := 20) dX3_tellIn_20 rfl ?_
  obtain ⟨h7, hf⟩ := oi_cf hf
  refine A_aald (pc := 21) dX3_tellIn_21 (rv_4 hR) (oob_f h7) (rv_q hR (vpin_lt (oob_f h7))) ?_
  refine A_getI (pc := 22) dX3_tellIn_22 gX3_61 (rv_p hR (vpin_lt (oob_f h7))) (Nat.le_of_ble_eq_true rfl) rfl ?_
  refine A_if_eq (pc := 25) (w := 0) 30 dX3_tellIn_25 (by decide) (fun cc8 => ?_) (fun cc8 => ?_)
  · have hf := oi_t cc8 hf
    refine A_aloadn (pc := 30) dX3_tellIn_30 rfl ?_
    refine A_iloadn (pc := 31) dX3_tellIn_31 rfl ?_
    refine A_iloadn (pc := 32) dX3_tellIn_32 rfl ?_
    obtain ⟨q9, h10, hf⟩ := oi_b hf
    refine A_cV2v (mi2 := mX3_enter) (pc := 33) dX3_tellIn_33 lX3_166 fX3_enter vX3_enter (rv_0 hR) rfl (Nat.le_of_ble_eq_true rfl) rfl (Nat.le_of_ble_eq_true rfl) (wX3_enter (by omega) hT hR h10) ?_
    refine A_iconst (pc := 36) 1 dX3_tellIn_36 rfl ?_
    cases hf
    exact A_iret (pc := 37) dX3_tellIn_37 rfl rfl ⟨rfl, rfl, rfl⟩
  have hf := oi_f cc8 hf
  refine A_iconst (pc := 28) 0 dX3_tellIn_28 rfl ?_
  cases hf
  exact A_iret (pc := 29) dX3_tellIn_29 rfl rfl ⟨rfl, rfl, rfl⟩
def zX3_loadOf_L7 (n : Nat) (u : MU) (r : Nat) (s1 : Int32) (k : Int32 → Int32 → Int32 → Option (Int32)) : Nat → Int32 → Int32 → Int32 → Option (Int32)
  | 0, _, _, _ => none
  | m + 1, t2, t3, t4 => if (u r 0) ≤ t4 then (k t2 t3 t4) else (if s1 ≤ t4 then (if oob t4 5 then none else letb (t3 + (u (r + 2) t4.toNatClampNeg)) (fun x4 => zX3_loadOf_L7 n u r s1 k m t2 x4 (t4 + 1))) else (if oob t4 5 then none else letb (t2 + (u (r + 2) t4.toNatClampNeg)) (fun x6 => zX3_loadOf_L7 n u r s1 k m x6 t3 (t4 + 1))))
def zX3_loadOf (n : Nat) (u : MU) (r : Nat) (a1 : Int32) : Option (Int32) := zX3_loadOf_L7 n u r a1 (fun y7 y8 y9 => some (if y8 < y7 then y8 else y7)) n 0 0 0
set_option maxHeartbeats 4000000 in
set_option maxRecDepth 100000 in
theorem wX3_loadOf_L7 {G : GG} {T : TT} {n d : Nat} (hd : 1 ≤ d) {u : MU} {r : Nat} {s1 : Int32} {k : Int32 → Int32 → Int32 → Option (Int32)} (hT : LAY T) (hR : RV T r) (hk : ∀ (t2 : Int32) (t3 : Int32) (t4 : Int32) (q : Int32), k t2 t3 t4 = some q → AW G d mX3_loadOf 51 [.ref r, .int s1, .int t2, .int t3, .int t4] [] T u 0 0 (QS T q u)) : ∀ (m : Nat) (t2 : Int32) (t3 : Int32) (t4 : Int32) (q : Int32), zX3_loadOf_L7 n u r s1 k m t2 t3 t4 = some q → AW G d mX3_loadOf 7 [.ref r, .int s1, .int t2, .int t3, .int t4] [] T u 0 0 (QS T q u) := by
  intro m
  obtain ⟨d, rfl⟩ : ∃ e, d = e + 1 := ⟨d - 1, by omega⟩
  induction m with
  | zero =>
    intro t2 t3 t4 q hf
    have h0 : (none : Option (Int32)) = some q := hf
    cases h0
  | succ m ih =>
    intro t2 t3 t4 q hf
    rw [zX3_loadOf_L7] at hf
    refine A_iload (pc := 7) dX3_loadOf_7 rfl ?_
    refine A_aloadn (pc := 9) dX3_loadOf_9 rfl ?_
    refine A_getI (pc := 10) dX3_loadOf_10 gX3_9 (rv_0 hR) (Nat.le_of_ble_eq_true rfl) rfl ?_
    refine A_icmp_ge (pc := 13) 51 dX3_loadOf_13 (by decide) (fun cc1 => ?_) (fun cc1 => ?_)
    · have hf := oi_t cc1 hf
      exact hk _ _ _ _ hf
    have hf := oi_f cc1 hf
    refine A_iload (pc := 16) dX3_loadOf_16 rfl ?_
    refine A_iloadn (pc := 18) dX3_loadOf_18 rfl ?_
    refine A_icmp_ge (pc := 19) 35 dX3_loadOf_19 (by decide) (fun cc2 => ?_) (fun cc2 => ?_)
    · have hf := oi_t cc2 hf
      refine A_iloadn (pc := 35) dX3_loadOf_35 rfl ?_
      refine A_aloadn (pc := 36) dX3_loadOf_36 rfl ?_
      refine A_getR (pc := 37) dX3_loadOf_37 gX3_28 (rv_0 hR) (Nat.le_of_ble_eq_true rfl) rfl (rv_f5 hR) ?_
      refine A_iload (pc := 40) dX3_loadOf_40 rfl ?_
      obtain ⟨h3, hf⟩ := oi_cf hf
      refine A_iald (pc := 42) dX3_loadOf_42 (rv_2 hR) (oob_f h3) ?_
      refine A_iadd (pc := 43) dX3_loadOf_43 ?_
      have hf := oi_l hf
      refine A_istn (pc := 44) (L2 := [.ref r, .int s1, .int t2, .int (t3 + (u (r + 2) t4.toNatClampNeg)), .int t4]) dX3_loadOf_44 (Nat.le_of_ble_eq_true rfl) rfl ?_
      refine A_inc (pc := 45) (L2 := [.ref r, .int s1, .int t2, .int (t3 + (u (r + 2) t4.toNatClampNeg)), .int (t4 + 1)]) (t4 + 1) dX3_loadOf_45 rfl rfl rfl ?_
      refine A_goto (pc := 48) 7 dX3_loadOf_48 (by decide) ?_
      exact ih _ _ _ _ hf
    have hf := oi_f cc2 hf
    refine A_iloadn (pc := 22) dX3_loadOf_22 rfl ?_
    refine A_aloadn (pc := 23) dX3_loadOf_23 rfl ?_
    refine A_getR (pc := 24) dX3_loadOf_24 gX3_28 (rv_0 hR) (Nat.le_of_ble_eq_true rfl) rfl (rv_f5 hR) ?_
    refine A_iload (pc := 27) dX3_loadOf_27 rfl ?_
    obtain ⟨h5, hf⟩ := oi_cf hf
    refine A_iald (pc := 29) dX3_loadOf_29 (rv_2 hR) (oob_f h5) ?_
    refine A_iadd (pc := 30) dX3_loadOf_30 ?_
    have hf := oi_l hf
    refine A_istn (pc := 31) (L2 := [.ref r, .int s1, .int (t2 + (u (r + 2) t4.toNatClampNeg)), .int t3, .int t4]) dX3_loadOf_31 (Nat.le_of_ble_eq_true rfl) rfl ?_
    refine A_goto (pc := 32) 45 dX3_loadOf_32 (by decide) ?_
    refine A_inc (pc := 45) (L2 := [.ref r, .int s1, .int (t2 + (u (r + 2) t4.toNatClampNeg)), .int t3, .int (t4 + 1)]) (t4 + 1) dX3_loadOf_45 rfl rfl rfl ?_
    refine A_goto (pc := 48) 7 dX3_loadOf_48 (by decide) ?_
    exact ih _ _ _ _ hf
set_option maxHeartbeats 4000000 in
set_option maxRecDepth 100000 in
theorem wX3_loadOf {G : GG} {T : TT} {n d : Nat} (hd : 1 ≤ d) {q : Int32} {u : MU} {r : Nat} {a1 : Int32} (hT : LAY T) (hR : RV T r) (hf : zX3_loadOf n u r a1 = some q) : AW G d mX3_loadOf 0 [.ref r, .int a1, .null, .null, .null] [] T u 0 0 (QS T q u) := by
  obtain ⟨d, rfl⟩ : ∃ e, d = e + 1 := ⟨d - 1, by omega⟩
  rw [zX3_loadOf] at hf
  refine A_iconst (pc := 0) 0 dX3_loadOf_0 rfl ?_
  refine A_istn (pc := 1) (L2 := [.ref r, .int a1, .int 0, .null, .null]) dX3_loadOf_1 (Nat.le_of_ble_eq_true rfl) rfl ?_
  refine A_iconst (pc := 2) 0 dX3_loadOf_2 rfl ?_
  refine A_istn (pc := 3) (L2 := [.ref r, .int a1, .int 0, .int 0, .null]) dX3_loadOf_3 (Nat.le_of_ble_eq_true rfl) rfl ?_
  refine A_iconst (pc := 4) 0 dX3_loadOf_4 rfl ?_
  refine A_ist (pc := 5) (L2 := [.ref r, .int a1, .int 0, .int 0, .int 0]) dX3_loadOf_5 (Nat.le_of_ble_eq_true rfl) rfl ?_
  exact wX3_loadOf_L7 (by omega) hT hR (fun y7 y8 y9 q0 hf => by
    refine A_iloadn (pc := 51) dX3_loadOf_51 rfl ?_
    refine A_iloadn (pc := 52) dX3_loadOf_52 rfl ?_
    refine A_mmin (pc := 53) dX3_loadOf_53 lX3_81 amin_1 oJ9 amin_3 (Nat.le_of_ble_eq_true rfl) ?_
    cases hf
    exact A_iret (pc := 56) dX3_loadOf_56 rfl rfl ⟨rfl, rfl, rfl⟩) _ _ _ _ _ hf
def zX3_whyNot (n : Nat) (u : MU) (r : Nat) (a1 : Int32) (a2 : Int32) : Option (Int32) := if oob a2 7 then none else Option.bind (zX2_reaches n u (r + 7 + a2.toNatClampNeg)) (fun q2 => if oob a1 5 then none else if (u (r + 1) a1.toNatClampNeg) ≤ q2 then (if oob a2 7 then none else Option.bind (zX2_holds n u (r + 7 + a2.toNatClampNeg)) (fun q7 => Option.bind (zX3_loadOf n u r a1) (fun q9 => Option.bind (zX3_loadOf n u r (a1 + 1)) (fun q11 => if (if q9 < q11 then q11 else q9) ≤ q7 then (some (-9)) else (some 2))))) else (some 1))
set_option maxHeartbeats 4000000 in
set_option maxRecDepth 100000 in
theorem wX3_whyNot {G : GG} {T : TT} {n d : Nat} (hd : 2 ≤ d) {q : Int32} {u : MU} {r : Nat} {a1 : Int32} {a2 : Int32} (hT : LAY T) (hR : RV T r) (hf : zX3_whyNot n u r a1 a2 = some q) : AW G d mX3_whyNot 0 [.ref r, .int a1, .int a2] [] T u 0 0 (QS T q u) := by
  obtain ⟨d, rfl⟩ : ∃ e, d = e + 1 := ⟨d - 1, by omega⟩
  rw [zX3_whyNot] at hf
  refine A_aloadn (pc := 0) dX3_whyNot_0 rfl ?_
  refine A_getR (pc := 1) dX3_whyNot_1 gX3_36 (rv_0 hR) (Nat.le_of_ble_eq_true rfl) rfl (rv_f7 hR) ?_
  refine A_iloadn (pc := 4) dX3_whyNot_4 rfl ?_
  obtain ⟨h1, hf⟩ := oi_cf hf
  refine A_aald (pc := 5) dX3_whyNot_5 (rv_4 hR) (oob_f h1) (rv_q hR (vpin_lt (oob_f h1))) ?_
  obtain ⟨q2, h3, hf⟩ := oi_b hf
  refine A_cV0i (mi2 := mX2_reaches) (pc := 6) dX3_whyNot_6 lX3_87 fX2_reaches vX2_reaches (rv_p hR (vpin_lt (oob_f h1))) rfl (Nat.le_of_ble_eq_true rfl) rfl (Nat.le_of_ble_eq_true rfl) (wX2_reaches (by omega) hT (rv_p hR (vpin_lt (oob_f h1))) h3) ?_
  refine A_aloadn (pc := 9) dX3_whyNot_9 rfl ?_
  refine A_getR (pc := 10) dX3_whyNot_10 gX3_24 (rv_0 hR) (Nat.le_of_ble_eq_true rfl) rfl (rv_f4 hR) ?_
  refine A_iloadn (pc := 13) dX3_whyNot_13 rfl ?_
  obtain ⟨h4, hf⟩ := oi_cf hf
  refine A_iald (pc := 14) dX3_whyNot_14 (rv_1 hR) (oob_f h4) ?_
  refine A_icmp_ge (pc := 15) 20 dX3_whyNot_15 (by decide) (fun cc5 => ?_) (fun cc5 => ?_)
  · have hf := oi_t cc5 hf
    refine A_aloadn (pc := 20) dX3_whyNot_20 rfl ?_
    refine A_getR (pc := 21) dX3_whyNot_21 gX3_36 (rv_0 hR) (Nat.le_of_ble_eq_true rfl) rfl (rv_f7 hR) ?_
    refine A_iloadn (pc := 24) dX3_whyNot_24 rfl ?_
    obtain ⟨h6, hf⟩ := oi_cf hf
    refine A_aald (pc := 25) dX3_whyNot_25 (rv_4 hR) (oob_f h6) (rv_q hR (vpin_lt (oob_f h6))) ?_
    obtain ⟨q7, h8, hf⟩ := oi_b hf
    refine A_cV0i (mi2 := mX2_holds) (pc := 26) dX3_whyNot_26 lX3_90 fX2_holds vX2_holds (rv_p hR (vpin_lt (oob_f h6))) rfl (Nat.le_of_ble_eq_true rfl) rfl (Nat.le_of_ble_eq_true rfl) (wX2_holds (by omega) hT (rv_p hR (vpin_lt (oob_f h6))) h8) ?_
    refine A_aloadn (pc := 29) dX3_whyNot_29 rfl ?_
    refine A_iloadn (pc := 30) dX3_whyNot_30 rfl ?_
    obtain ⟨q9, h10, hf⟩ := oi_b hf
    refine A_cV1i (mi2 := mX3_loadOf) (pc := 31) dX3_whyNot_31 lX3_93 fX3_loadOf vX3_loadOf (rv_0 hR) rfl (Nat.le_of_ble_eq_true rfl) rfl (Nat.le_of_ble_eq_true rfl) (wX3_loadOf (by omega) hT hR h10) ?_
    refine A_aloadn (pc := 34) dX3_whyNot_34 rfl ?_
    refine A_iloadn (pc := 35) dX3_whyNot_35 rfl ?_
    refine A_iconst (pc := 36) 1 dX3_whyNot_36 rfl ?_
    refine A_iadd (pc := 37) dX3_whyNot_37 ?_
    obtain ⟨q11, h12, hf⟩ := oi_b hf
    refine A_cV1i (mi2 := mX3_loadOf) (pc := 38) dX3_whyNot_38 lX3_93 fX3_loadOf vX3_loadOf (rv_0 hR) rfl (Nat.le_of_ble_eq_true rfl) rfl (Nat.le_of_ble_eq_true rfl) (wX3_loadOf (by omega) hT hR h12) ?_
    refine A_mmax (pc := 41) dX3_whyNot_41 lX3_96 amax_1 oJ9 amax_3 (Nat.le_of_ble_eq_true rfl) ?_
    refine A_icmp_ge (pc := 44) 49 dX3_whyNot_44 (by decide) (fun cc13 => ?_) (fun cc13 => ?_)
    · have hf := oi_t cc13 hf
      refine A_bipush (pc := 49) (-9) dX3_whyNot_49 rfl ?_
      cases hf
      exact A_iret (pc := 51) dX3_whyNot_51 rfl rfl ⟨rfl, rfl, rfl⟩
    have hf := oi_f cc13 hf
    refine A_iconst (pc := 47) 2 dX3_whyNot_47 rfl ?_
    cases hf
    exact A_iret (pc := 48) dX3_whyNot_48 rfl rfl ⟨rfl, rfl, rfl⟩
  have hf := oi_f cc5 hf
  refine A_iconst (pc := 18) 1 dX3_whyNot_18 rfl ?_
  cases hf
  exact A_iret (pc := 19) dX3_whyNot_19 rfl rfl ⟨rfl, rfl, rfl⟩
def zX3_whySlips (n : Nat) (u : MU) (r : Nat) (c1 : Nat) (c1n : Nat) (a2 : Int32) : Option (Int32) := if oob a2 c1n then none else letb (u c1 a2.toNatClampNeg) (fun x2 => Option.bind (zX3_isPerson n u r x2) (fun q3 => if q3 = 0 then (some 0) else (Option.bind (zX3_whyNot n u r a2 x2) (fun q6 => if q6 = (-9) then (if a2 = 0 then (some q6) else (if oob (a2 - 1) c1n then none else letb (u c1 (a2 - 1).toNatClampNeg) (fun x11 => Option.bind (zX3_isPerson n u r x11) (fun q12 => if q12 = 0 then (some (-9)) else (Option.bind (zX3_grudgeOf n u r x11 x2) (fun q15 => if q15 = 1 then (some 3) else (some (-9)))))))) else (some q6)))))
set_option maxHeartbeats 4000000 in
set_option maxRecDepth 100000 in
theorem wX3_whySlips {G : GG} {T : TT} {n d : Nat} (hd : 3 ≤ d) {q : Int32} {u : MU} {r : Nat} {c1 : Nat} {c1n : Nat} {a2 : Int32} (hT : LAY T) (hR : RV T r) (hc1 : T.1[c1]? = some (0, c1n)) (hf : zX3_whySlips n u r c1 c1n a2 = some q) : AW G d mX3_whySlips 0 [.ref r, .ref c1, .int a2, .null, .null, .null] [] T u 0 0 (QS T q u) := by
  obtain ⟨d, rfl⟩ : ∃ e, d = e + 1 := ⟨d - 1, by omega⟩
  rw [zX3_whySlips] at hf
  refine A_aloadn (pc := 0) dX3_whySlips_0 rfl ?_
  refine A_iloadn (pc := 1) dX3_whySlips_1 rfl ?_
  obtain ⟨h1, hf⟩ := oi_cf hf
  refine A_iald (pc := 2) dX3_whySlips_2 hc1 (oob_f h1) ?_
  have hf := oi_l hf
  refine A_istn (pc := 3) (L2 := [.ref r, .ref c1, .int a2, .int (u c1 a2.toNatClampNeg), .null, .null]) dX3_whySlips_3 (Nat.le_of_ble_eq_true rfl) rfl ?_
  refine A_aloadn (pc := 4) dX3_whySlips_4 rfl ?_
  refine A_iloadn (pc := 5) dX3_whySlips_5 rfl ?_
  obtain ⟨q3, h4, hf⟩ := oi_b hf
  refine A_cV1i (mi2 := mX3_isPerson) (pc := 6) dX3_whySlips_6 lX3_57 fX3_isPerson vX3_isPerson (rv_0 hR) rfl (Nat.le_of_ble_eq_true rfl) rfl (Nat.le_of_ble_eq_true rfl) (wX3_isPerson (by omega) hT hR h4) ?_
  refine A_if_ne (pc := 9) (w := 0) 14 dX3_whySlips_9 (by decide) (fun cc5 => ?_) (fun cc5 => ?_)
  · have hf := oi_f cc5 hf
    refine A_aloadn (pc := 14) dX3_whySlips_14 rfl ?_
    refine A_iloadn (pc := 15) dX3_whySlips_15 rfl ?_
    refine A_iloadn (pc := 16) dX3_whySlips_16 rfl ?_
    obtain ⟨q6, h7, hf⟩ := oi_b hf
    refine A_cV2i (mi2 := mX3_whyNot) (pc := 17) dX3_whySlips_17 lX3_99 fX3_whyNot vX3_whyNot (rv_0 hR) rfl (Nat.le_of_ble_eq_true rfl) rfl (Nat.le_of_ble_eq_true rfl) (wX3_whyNot (by omega) hT hR h7) ?_
    refine A_ist (pc := 20) (L2 := [.ref r, .ref c1, .int a2, .int (u c1 a2.toNatClampNeg), .int q6, .null]) dX3_whySlips_20 (Nat.le_of_ble_eq_true rfl) rfl ?_
    refine A_iload (pc := 22) dX3_whySlips_22 rfl ?_
    refine A_bipush (pc := 24) (-9) dX3_whySlips_24 rfl ?_
    refine A_icmp_ne (pc := 26) 33 dX3_whySlips_26 (by decide) (fun cc8 => ?_) (fun cc8 => ?_)
    · have hf := oi_f cc8 hf
      refine A_iload (pc := 33) dX3_whySlips_33 rfl ?_
      cases hf
      exact A_iret (pc := 35) dX3_whySlips_35 rfl rfl ⟨rfl, rfl, rfl⟩
    have hf := oi_t cc8 hf
    refine A_iloadn (pc := 29) dX3_whySlips_29 rfl ?_
    refine A_if_ne (pc := 30) (w := 0) 36 dX3_whySlips_30 (by decide) (fun cc9 => ?_) (fun cc9 => ?_)
    · have hf := oi_f cc9 hf
      refine A_aloadn (pc := 36) dX3_whySlips_36 rfl ?_
      refine A_iloadn (pc := 37) dX3_whySlips_37 rfl ?_
      refine A_iconst (pc := 38) 1 dX3_whySlips_38 rfl ?_
      refine A_isub (pc := 39) dX3_whySlips_39 ?_
      obtain ⟨h10, hf⟩ := oi_cf hf
      refine A_iald (pc := 40) dX3_whySlips_40 hc1 (oob_f h10) ?_
      have hf := oi_l hf
      refine A_ist (pc := 41) (L2 := [.ref r, .ref c1, .int a2, .int (u c1 a2.toNatClampNeg), .int q6, .int (u c1 (a2 - 1).toNatClampNeg)]) dX3_whySlips_41 (Nat.le_of_ble_eq_true rfl) rfl ?_
      refine A_aloadn (pc := 43) dX3_whySlips_43 rfl ?_
      refine A_iload (pc := 44) dX3_whySlips_44 rfl ?_
      obtain ⟨q12, h13, hf⟩ := oi_b hf
      refine A_cV1i (mi2 := mX3_isPerson) (pc := 46) dX3_whySlips_46 lX3_57 fX3_isPerson vX3_isPerson (rv_0 hR) rfl (Nat.le_of_ble_eq_true rfl) rfl (Nat.le_of_ble_eq_true rfl) (wX3_isPerson (by omega) hT hR h13) ?_
      refine A_if_eq (pc := 49) (w := 0) 67 dX3_whySlips_49 (by decide) (fun cc14 => ?_) (fun cc14 => ?_)
      · have hf := oi_t cc14 hf
        refine A_bipush (pc := 67) (-9) dX3_whySlips_67 rfl ?_
        cases hf
        exact A_iret (pc := 69) dX3_whySlips_69 rfl rfl ⟨rfl, rfl, rfl⟩
      have hf := oi_f cc14 hf
      refine A_aloadn (pc := 52) dX3_whySlips_52 rfl ?_
      refine A_iload (pc := 53) dX3_whySlips_53 rfl ?_
      refine A_iloadn (pc := 55) dX3_whySlips_55 rfl ?_
      obtain ⟨q15, h16, hf⟩ := oi_b hf
      refine A_cV2i (mi2 := mX3_grudgeOf) (pc := 56) dX3_whySlips_56 lX3_102 fX3_grudgeOf vX3_grudgeOf (rv_0 hR) rfl (Nat.le_of_ble_eq_true rfl) rfl (Nat.le_of_ble_eq_true rfl) (wX3_grudgeOf (by omega) hT hR h16) ?_
      refine A_iconst (pc := 59) 1 dX3_whySlips_59 rfl ?_
      refine A_icmp_ne (pc := 60) 67 dX3_whySlips_60 (by decide) (fun cc17 => ?_) (fun cc17 => ?_)
      · have hf := oi_f cc17 hf
        refine A_bipush (pc := 67) (-9) dX3_whySlips_67 rfl ?_
        cases hf
        exact A_iret (pc := 69) dX3_whySlips_69 rfl rfl ⟨rfl, rfl, rfl⟩
      have hf := oi_t cc17 hf
      refine A_iconst (pc := 63) 3 dX3_whySlips_63 rfl ?_
      refine A_goto (pc := 64) 69 dX3_whySlips_64 (by decide) ?_
      cases hf
      exact A_iret (pc := 69) dX3_whySlips_69 rfl rfl ⟨rfl, rfl, rfl⟩
    have hf := oi_t cc9 hf
    refine A_iload (pc := 33) dX3_whySlips_33 rfl ?_
    cases hf
    exact A_iret (pc := 35) dX3_whySlips_35 rfl rfl ⟨rfl, rfl, rfl⟩
  have hf := oi_t cc5 hf
  refine A_iconst (pc := 12) 0 dX3_whySlips_12 rfl ?_
  cases hf
  exact A_iret (pc := 13) dX3_whySlips_13 rfl rfl ⟨rfl, rfl, rfl⟩
def zX3_firstSlip_L2 (n : Nat) (u : MU) (r : Nat) (c1 : Nat) (c1n : Nat) (k : Int32 → Option (Int32)) : Nat → Int32 → Option (Int32)
  | 0, _ => none
  | m + 1, t2 => if (u r 0) ≤ t2 then (k t2) else (Option.bind (zX3_whySlips n u r c1 c1n t2) (fun q2 => if q2 = (-9) then (zX3_firstSlip_L2 n u r c1 c1n  k m (t2 + 1)) else (some t2)))
def zX3_firstSlip (n : Nat) (u : MU) (r : Nat) (c1 : Nat) (c1n : Nat) : Option (Int32) := zX3_firstSlip_L2 n u r c1 c1n  (fun y5 => some (-9)) n 0
set_option maxHeartbeats 4000000 in
set_option maxRecDepth 100000 in
theorem wX3_firstSlip_L2 {G : GG} {T : TT} {n d : Nat} (hd : 4 ≤ d) {u : MU} {r : Nat} {c1 : Nat} {c1n : Nat} {k : Int32 → Option (Int32)} (hT : LAY T) (hR : RV T r) (hc1 : T.1[c1]? = some (0, c1n)) (hk : ∀ (t2 : Int32) (q : Int32), k t2 = some q → AW G d mX3_firstSlip 29 [.ref r, .ref c1, .int t2] [] T u 0 0 (QS T q u)) : ∀ (m : Nat) (t2 : Int32) (q : Int32), zX3_firstSlip_L2 n u r c1 c1n k m t2 = some q → AW G d mX3_firstSlip 2 [.ref r, .ref c1, .int t2] [] T u 0 0 (QS T q u) := by
  intro m
  obtain ⟨d, rfl⟩ : ∃ e, d = e + 1 := ⟨d - 1, by omega⟩
  induction m with
  | zero =>
    intro t2 q hf
    have h0 : (none : Option (Int32)) = some q := hf
    cases h0
  | succ m ih =>
    intro t2 q hf
    rw [zX3_firstSlip_L2] at hf
    refine A_iloadn (pc := 2) dX3_firstSlip_2 rfl ?_
    refine A_aloadn (pc := 3) dX3_firstSlip_3 rfl ?_
    refine A_getI (pc := 4) dX3_firstSlip_4 gX3_9 (rv_0 hR) (Nat.le_of_ble_eq_true rfl) rfl ?_
    refine A_icmp_ge (pc := 7) 29 dX3_firstSlip_7 (by decide) (fun cc1 => ?_) (fun cc1 => ?_)
    · have hf := oi_t cc1 hf
      exact hk _ _ hf
    have hf := oi_f cc1 hf
    refine A_aloadn (pc := 10) dX3_firstSlip_10 rfl ?_
    refine A_aloadn (pc := 11) dX3_firstSlip_11 rfl ?_
    refine A_iloadn (pc := 12) dX3_firstSlip_12 rfl ?_
    obtain ⟨q2, h3, hf⟩ := oi_b hf
    refine A_cV2i (mi2 := mX3_whySlips) (pc := 13) dX3_firstSlip_13 lX3_105 fX3_whySlips vX3_whySlips (rv_0 hR) rfl (Nat.le_of_ble_eq_true rfl) rfl (Nat.le_of_ble_eq_true rfl) (wX3_whySlips (by omega) hT hR hc1 h3) ?_
    refine A_bipush (pc := 16) (-9) dX3_firstSlip_16 rfl ?_
    refine A_icmp_eq (pc := 18) 23 dX3_firstSlip_18 (by decide) (fun cc4 => ?_) (fun cc4 => ?_)
    · have hf := oi_t cc4 hf
      refine A_inc (pc := 23) (L2 := [.ref r, .ref c1, .int (t2 + 1)]) (t2 + 1) dX3_firstSlip_23 rfl rfl rfl ?_
      refine A_goto (pc := 26) 2 dX3_firstSlip_26 (by decide) ?_
      exact ih _ _ hf
    have hf := oi_f cc4 hf
    refine A_iloadn (pc := 21) dX3_firstSlip_21 rfl ?_
    cases hf
    exact A_iret (pc := 22) dX3_firstSlip_22 rfl rfl ⟨rfl, rfl, rfl⟩
set_option maxHeartbeats 4000000 in
set_option maxRecDepth 100000 in
theorem wX3_firstSlip {G : GG} {T : TT} {n d : Nat} (hd : 4 ≤ d) {q : Int32} {u : MU} {r : Nat} {c1 : Nat} {c1n : Nat} (hT : LAY T) (hR : RV T r) (hc1 : T.1[c1]? = some (0, c1n)) (hf : zX3_firstSlip n u r c1 c1n = some q) : AW G d mX3_firstSlip 0 [.ref r, .ref c1, .null] [] T u 0 0 (QS T q u) := by
  obtain ⟨d, rfl⟩ : ∃ e, d = e + 1 := ⟨d - 1, by omega⟩
  rw [zX3_firstSlip] at hf
  refine A_iconst (pc := 0) 0 dX3_firstSlip_0 rfl ?_
  refine A_istn (pc := 1) (L2 := [.ref r, .ref c1, .int 0]) dX3_firstSlip_1 (Nat.le_of_ble_eq_true rfl) rfl ?_
  exact wX3_firstSlip_L2 (by omega) hT hR hc1 (fun y5 q0 hf => by
    refine A_bipush (pc := 29) (-9) dX3_firstSlip_29 rfl ?_
    cases hf
    exact A_iret (pc := 31) dX3_firstSlip_31 rfl rfl ⟨rfl, rfl, rfl⟩) _ _ _ hf
def zX3_minutesOf_L18 (n : Nat) (u : MU) (r : Nat) (c1 : Nat) (c1n : Nat) (k : Int32 → Int32 → Option (Int32)) : Nat → Int32 → Int32 → Option (Int32)
  | 0, _, _ => none
  | m + 1, t2, t3 => if (u r 0) ≤ t3 then (k t2 t3) else (if oob t3 c1n then none else if oob (u c1 t3.toNatClampNeg) 7 then none else Option.bind (zX2_minutes n u (r + 7 + (u c1 t3.toNatClampNeg).toNatClampNeg) (u r 1)) (fun q7 => letb (if q7 < t2 then q7 else t2) (fun x9 => zX3_minutesOf_L18 n u r c1 c1n  k m x9 (t3 + 1))))
def zX3_minutesOf (n : Nat) (u : MU) (r : Nat) (c1 : Nat) (c1n : Nat) : Option (Int32) := Option.bind (zX3_firstSlip n u r c1 c1n) (fun q1 => if q1 = (-9) then (zX3_minutesOf_L18 n u r c1 c1n  (fun y10 y11 => some y10) n 2147483647 0) else (some (-9)))
set_option maxHeartbeats 4000000 in
set_option maxRecDepth 100000 in
theorem wX3_minutesOf_L18 {G : GG} {T : TT} {n d : Nat} (hd : 5 ≤ d) {u : MU} {r : Nat} {c1 : Nat} {c1n : Nat} {k : Int32 → Int32 → Option (Int32)} (hT : LAY T) (hR : RV T r) (hc1 : T.1[c1]? = some (0, c1n)) (hk : ∀ (t2 : Int32) (t3 : Int32) (q : Int32), k t2 t3 = some q → AW G d mX3_minutesOf 52 [.ref r, .ref c1, .int t2, .int t3] [] T u 0 0 (QS T q u)) : ∀ (m : Nat) (t2 : Int32) (t3 : Int32) (q : Int32), zX3_minutesOf_L18 n u r c1 c1n k m t2 t3 = some q → AW G d mX3_minutesOf 18 [.ref r, .ref c1, .int t2, .int t3] [] T u 0 0 (QS T q u) := by
  intro m
  obtain ⟨d, rfl⟩ : ∃ e, d = e + 1 := ⟨d - 1, by omega⟩
  induction m with
  | zero =>
    intro t2 t3 q hf
    have h0 : (none : Option (Int32)) = some q := hf
    cases h0
  | succ m ih =>
    intro t2 t3 q hf
    rw [zX3_minutesOf_L18] at hf
    refine A_iloadn (pc := 18) dX3_minutesOf_18 rfl ?_
    refine A_aloadn (pc := 19) dX3_minutesOf_19 rfl ?_
    refine A_getI (pc := 20) dX3_minutesOf_20 gX3_9 (rv_0 hR) (Nat.le_of_ble_eq_true rfl) rfl ?_
    refine A_icmp_ge (pc := 23) 52 dX3_minutesOf_23 (by decide) (fun cc4 => ?_) (fun cc4 => ?_)
    · have hf := oi_t cc4 hf
      exact hk _ _ _ hf
    have hf := oi_f cc4 hf
    refine A_iloadn (pc := 26) dX3_minutesOf_26 rfl ?_
    refine A_aloadn (pc := 27) dX3_minutesOf_27 rfl ?_
    refine A_getR (pc := 28) dX3_minutesOf_28 gX3_36 (rv_0 hR) (Nat.le_of_ble_eq_true rfl) rfl (rv_f7 hR) ?_
    refine A_aloadn (pc := 31) dX3_minutesOf_31 rfl ?_
    refine A_iloadn (pc := 32) dX3_minutesOf_32 rfl ?_
    obtain ⟨h5, hf⟩ := oi_cf hf
    refine A_iald (pc := 33) dX3_minutesOf_33 hc1 (oob_f h5) ?_
    obtain ⟨h6, hf⟩ := oi_cf hf
    refine A_aald (pc := 34) dX3_minutesOf_34 (rv_4 hR) (oob_f h6) (rv_q hR (vpin_lt (oob_f h6))) ?_
    refine A_aloadn (pc := 35) dX3_minutesOf_35 rfl ?_
    refine A_getI (pc := 36) dX3_minutesOf_36 gX3_15 (rv_0 hR) (Nat.le_of_ble_eq_true rfl) rfl ?_
    obtain ⟨q7, h8, hf⟩ := oi_b hf
    refine A_cV1i (mi2 := mX2_minutes) (pc := 39) dX3_minutesOf_39 lX3_114 fX2_minutes vX2_minutes (rv_p hR (vpin_lt (oob_f h6))) rfl (Nat.le_of_ble_eq_true rfl) rfl (Nat.le_of_ble_eq_true rfl) (wX2_minutes (by omega) hT (rv_p hR (vpin_lt (oob_f h6))) h8) ?_
    refine A_mmin (pc := 42) dX3_minutesOf_42 lX3_81 amin_1 oJ9 amin_3 (Nat.le_of_ble_eq_true rfl) ?_
    have hf := oi_l hf
    refine A_istn (pc := 45) (L2 := [.ref r, .ref c1, .int (if q7 < t2 then q7 else t2), .int t3]) dX3_minutesOf_45 (Nat.le_of_ble_eq_true rfl) rfl ?_
    refine A_inc (pc := 46) (L2 := [.ref r, .ref c1, .int (if q7 < t2 then q7 else t2), .int (t3 + 1)]) (t3 + 1) dX3_minutesOf_46 rfl rfl rfl ?_
    refine A_goto (pc := 49) 18 dX3_minutesOf_49 (by decide) ?_
    exact ih _ _ _ hf
set_option maxHeartbeats 4000000 in
set_option maxRecDepth 100000 in
theorem wX3_minutesOf {G : GG} {T : TT} {n d : Nat} (hd : 5 ≤ d) {q : Int32} {u : MU} {r : Nat} {c1 : Nat} {c1n : Nat} (hT : LAY T) (hR : RV T r) (hc1 : T.1[c1]? = some (0, c1n)) (hf : zX3_minutesOf n u r c1 c1n = some q) : AW G d mX3_minutesOf 0 [.ref r, .ref c1, .null, .null] [] T u 0 0 (QS T q u) := by
  obtain ⟨d, rfl⟩ : ∃ e, d = e + 1 := ⟨d - 1, by omega⟩
  rw [zX3_minutesOf] at hf
  refine A_aloadn (pc := 0) dX3_minutesOf_0 rfl ?_
  refine A_aloadn (pc := 1) dX3_minutesOf_1 rfl ?_
  obtain ⟨q1, h2, hf⟩ := oi_b hf
  refine A_cV1i (mi2 := mX3_firstSlip) (pc := 2) dX3_minutesOf_2 lX3_109 fX3_firstSlip vX3_firstSlip (rv_0 hR) rfl (Nat.le_of_ble_eq_true rfl) rfl (Nat.le_of_ble_eq_true rfl) (wX3_firstSlip (by omega) hT hR hc1 h2) ?_
  refine A_bipush (pc := 5) (-9) dX3_minutesOf_5 rfl ?_
  refine A_icmp_eq (pc := 7) 13 dX3_minutesOf_7 (by decide) (fun cc3 => ?_) (fun cc3 => ?_)
  · have hf := oi_t cc3 hf
    refine A_ldc (pc := 13) dX3_minutesOf_13 nX3_113 ?_
    refine A_istn (pc := 15) (L2 := [.ref r, .ref c1, .int 2147483647, .null]) dX3_minutesOf_15 (Nat.le_of_ble_eq_true rfl) rfl ?_
    refine A_iconst (pc := 16) 0 dX3_minutesOf_16 rfl ?_
    refine A_istn (pc := 17) (L2 := [.ref r, .ref c1, .int 2147483647, .int 0]) dX3_minutesOf_17 (Nat.le_of_ble_eq_true rfl) rfl ?_
    exact wX3_minutesOf_L18 (by omega) hT hR hc1 (fun y10 y11 q0 hf => by
      refine A_iloadn (pc := 52) dX3_minutesOf_52 rfl ?_
      cases hf
      exact A_iret (pc := 53) dX3_minutesOf_53 rfl rfl ⟨rfl, rfl, rfl⟩) _ _ _ _ hf
  have hf := oi_f cc3 hf
  refine A_bipush (pc := 10) (-9) dX3_minutesOf_10 rfl ?_
  cases hf
  exact A_iret (pc := 12) dX3_minutesOf_12 rfl rfl ⟨rfl, rfl, rfl⟩
def zX3_placeOf_L17 (n : Nat) (u : MU) (r : Nat) (s1 : Int32) (k : Int32 → Option (Int32)) : Nat → Int32 → Option (Int32)
  | 0, _ => none
  | m + 1, t2 => if (u r 0) ≤ t2 then (k t2) else (if oob t2 5 then none else if (u (r + 3) t2.toNatClampNeg) = s1 then (some t2) else (zX3_placeOf_L17 n u r s1 k m (t2 + 1)))
def zX3_placeOf (n : Nat) (u : MU) (r : Nat) (a1 : Int32) : Option (Int32) := if oob a1 7 then none else if (u (r + 7 + a1.toNatClampNeg) 5) = 0 then (zX3_placeOf_L17 n u r a1 (fun y6 => some (-9)) n 0) else (some 9)
set_option maxHeartbeats 4000000 in
set_option maxRecDepth 100000 in
theorem wX3_placeOf_L17 {G : GG} {T : TT} {n d : Nat} (hd : 0 ≤ d) {u : MU} {r : Nat} {s1 : Int32} {k : Int32 → Option (Int32)} (hT : LAY T) (hR : RV T r) (hk : ∀ (t2 : Int32) (q : Int32), k t2 = some q → AW G d mX3_placeOf 43 [.ref r, .int s1, .int t2] [] T u 0 0 (QS T q u)) : ∀ (m : Nat) (t2 : Int32) (q : Int32), zX3_placeOf_L17 n u r s1 k m t2 = some q → AW G d mX3_placeOf 17 [.ref r, .int s1, .int t2] [] T u 0 0 (QS T q u) := by
  intro m
  induction m with
  | zero =>
    intro t2 q hf
    have h0 : (none : Option (Int32)) = some q := hf
    cases h0
  | succ m ih =>
    intro t2 q hf
    rw [zX3_placeOf_L17] at hf
    refine A_iloadn (pc := 17) dX3_placeOf_17 rfl ?_
    refine A_aloadn (pc := 18) dX3_placeOf_18 rfl ?_
    refine A_getI (pc := 19) dX3_placeOf_19 gX3_9 (rv_0 hR) (Nat.le_of_ble_eq_true rfl) rfl ?_
    refine A_icmp_ge (pc := 22) 43 dX3_placeOf_22 (by decide) (fun cc3 => ?_) (fun cc3 => ?_)
    · have hf := oi_t cc3 hf
      exact hk _ _ hf
    have hf := oi_f cc3 hf
    refine A_aloadn (pc := 25) dX3_placeOf_25 rfl ?_
    refine A_getR (pc := 26) dX3_placeOf_26 gX3_31 (rv_0 hR) (Nat.le_of_ble_eq_true rfl) rfl (rv_f6 hR) ?_
    refine A_iloadn (pc := 29) dX3_placeOf_29 rfl ?_
    obtain ⟨h4, hf⟩ := oi_cf hf
    refine A_iald (pc := 30) dX3_placeOf_30 (rv_3 hR) (oob_f h4) ?_
    refine A_iloadn (pc := 31) dX3_placeOf_31 rfl ?_
    refine A_icmp_ne (pc := 32) 37 dX3_placeOf_32 (by decide) (fun cc5 => ?_) (fun cc5 => ?_)
    · have hf := oi_f cc5 hf
      refine A_inc (pc := 37) (L2 := [.ref r, .int s1, .int (t2 + 1)]) (t2 + 1) dX3_placeOf_37 rfl rfl rfl ?_
      refine A_goto (pc := 40) 17 dX3_placeOf_40 (by decide) ?_
      exact ih _ _ hf
    have hf := oi_t cc5 hf
    refine A_iloadn (pc := 35) dX3_placeOf_35 rfl ?_
    cases hf
    exact A_iret (pc := 36) dX3_placeOf_36 rfl rfl ⟨rfl, rfl, rfl⟩
set_option maxHeartbeats 4000000 in
set_option maxRecDepth 100000 in
theorem wX3_placeOf {G : GG} {T : TT} {n d : Nat} (hd : 0 ≤ d) {q : Int32} {u : MU} {r : Nat} {a1 : Int32} (hT : LAY T) (hR : RV T r) (hf : zX3_placeOf n u r a1 = some q) : AW G d mX3_placeOf 0 [.ref r, .int a1, .null] [] T u 0 0 (QS T q u) := by
  rw [zX3_placeOf] at hf
  refine A_aloadn (pc := 0) dX3_placeOf_0 rfl ?_
  refine A_getR (pc := 1) dX3_placeOf_1 gX3_36 (rv_0 hR) (Nat.le_of_ble_eq_true rfl) rfl (rv_f7 hR) ?_
  refine A_iloadn (pc := 4) dX3_placeOf_4 rfl ?_
  obtain ⟨h1, hf⟩ := oi_cf hf
  refine A_aald (pc := 5) dX3_placeOf_5 (rv_4 hR) (oob_f h1) (rv_q hR (vpin_lt (oob_f h1))) ?_
  refine A_getI (pc := 6) dX3_placeOf_6 gX3_61 (rv_p hR (vpin_lt (oob_f h1))) (Nat.le_of_ble_eq_true rfl) rfl ?_
  refine A_if_eq (pc := 9) (w := 0) 15 dX3_placeOf_9 (by decide) (fun cc2 => ?_) (fun cc2 => ?_)
  · have hf := oi_t cc2 hf
    refine A_iconst (pc := 15) 0 dX3_placeOf_15 rfl ?_
    refine A_istn (pc := 16) (L2 := [.ref r, .int a1, .int 0]) dX3_placeOf_16 (Nat.le_of_ble_eq_true rfl) rfl ?_
    exact wX3_placeOf_L17 (by omega) hT hR (fun y6 q0 hf => by
      refine A_bipush (pc := 43) (-9) dX3_placeOf_43 rfl ?_
      cases hf
      exact A_iret (pc := 45) dX3_placeOf_45 rfl rfl ⟨rfl, rfl, rfl⟩) _ _ _ hf
  have hf := oi_f cc2 hf
  refine A_bipush (pc := 12) 9 dX3_placeOf_12 rfl ?_
  cases hf
  exact A_iret (pc := 14) dX3_placeOf_14 rfl rfl ⟨rfl, rfl, rfl⟩
