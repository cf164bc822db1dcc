def zX3_isNear (n : Nat) (u : MU) (r : Nat) (a1 : Int32) : Option (Int32) := Option.bind (zX3_placeOf n u r a1) (fun q1 => if q1 = (-9) then (some 1) else (some 0))
set_option maxHeartbeats 4000000 in
set_option maxRecDepth 100000 in
theorem wX3_isNear {G : GG} {T : TT} {n d : Nat} (hd : 1 ≤ d) {q : Int32} {u : MU} {r : Nat} {a1 : Int32} (hT : LAY T) (hR : RV T r) (hf : zX3_isNear n u r a1 = some q) : AW G d mX3_isNear 0 [.ref r, .int a1] [] T u 0 0 (QS T q u) := by
  obtain ⟨d, rfl⟩ : ∃ e, d = e + 1 := ⟨d - 1, by omega⟩
  rw [zX3_isNear] at hf
  refine A_aloadn (pc := 0) dX3_isNear_0 rfl ?_
  refine A_iloadn (pc := 1) dX3_isNear_1 rfl ?_
  obtain ⟨q1, h2, hf⟩ := oi_b hf
  refine A_cV1i (mi2 := mX3_placeOf) (pc := 2) dX3_isNear_2 lX3_65 fX3_placeOf vX3_placeOf (rv_0 hR) rfl (Nat.le_of_ble_eq_true rfl) rfl (Nat.le_of_ble_eq_true rfl) (wX3_placeOf (by omega) hT hR h2) ?_
  refine A_bipush (pc := 5) (-9) dX3_isNear_5 rfl ?_
  refine A_icmp_ne (pc := 7) 14 dX3_isNear_7 (by decide) (fun cc3 => ?_) (fun cc3 => ?_)
  · have hf := oi_f cc3 hf
    refine A_iconst (pc := 14) 0 dX3_isNear_14 rfl ?_
    cases hf
    exact A_iret (pc := 15) dX3_isNear_15 rfl rfl ⟨rfl, rfl, rfl⟩
  have hf := oi_t cc3 hf
  refine A_iconst (pc := 10) 1 dX3_isNear_10 rfl ?_
  refine A_goto (pc := 11) 15 dX3_isNear_11 (by decide) ?_
  cases hf
  exact A_iret (pc := 15) dX3_isNear_15 rfl rfl ⟨rfl, rfl, rfl⟩
def zX3_canCome_L29 (n : Nat) (u : MU) (r : Nat) (c1 : Nat) (c1n : Nat) (s2 : Int32) (s3 : Int32) (k : Int32 → Option (Int32)) : Nat → Int32 → Option (Int32)
  | 0, _ => none
  | m + 1, t4 => if s2 ≤ t4 then (k t4) else (if oob t4 c1n then none else if (u c1 t4.toNatClampNeg) = s3 then (some 0) else (zX3_canCome_L29 n u r c1 c1n s2 s3 k m (t4 + 1)))
def zX3_canCome (n : Nat) (u : MU) (r : Nat) (c1 : Nat) (c1n : Nat) (a2 : Int32) : Option (Int32) := if oob a2 c1n then none else letb (u c1 a2.toNatClampNeg) (fun x2 => Option.bind (zX3_isPerson n u r x2) (fun q3 => if q3 = 0 then (some 0) else (if oob x2 7 then none else if (u (r + 7 + x2.toNatClampNeg) 5) = 0 then (zX3_canCome_L29 n u r c1 c1n a2 x2 (fun y11 => some 1) n 0) else (some 0))))
set_option maxHeartbeats 4000000 in
set_option maxRecDepth 100000 in
theorem wX3_canCome_L29 {G : GG} {T : TT} {n d : Nat} (hd : 1 ≤ d) {u : MU} {r : Nat} {c1 : Nat} {c1n : Nat} {s2 : Int32} {s3 : Int32} {k : Int32 → Option (Int32)} (hT : LAY T) (hR : RV T r) (hc1 : T.1[c1]? = some (0, c1n)) (hk : ∀ (t4 : Int32) (q : Int32), k t4 = some q → AW G d mX3_canCome 51 [.null, .ref c1, .int s2, .int s3, .int t4] [] T u 0 0 (QS T q u)) : ∀ (m : Nat) (t4 : Int32) (q : Int32), zX3_canCome_L29 n u r c1 c1n s2 s3 k m t4 = some q → AW G d mX3_canCome 29 [.null, .ref c1, .int s2, .int s3, .int t4] [] T u 0 0 (QS T q u) := by
  intro m
  obtain ⟨d, rfl⟩ : ∃ e, d = e + 1 := ⟨d - 1, by omega⟩
  induction m with
  | zero =>
    intro t4 q hf
    have h0 : (none : Option (Int32)) = some q := hf
    cases h0
  | succ m ih =>
    intro t4 q hf
    rw [zX3_canCome_L29] at hf
    refine A_iload (pc := 29) dX3_canCome_29 rfl ?_
    refine A_iloadn (pc := 31) dX3_canCome_31 rfl ?_
    refine A_icmp_ge (pc := 32) 51 dX3_canCome_32 (by decide) (fun cc8 => ?_) (fun cc8 => ?_)
    · have hf := oi_t cc8 hf
      exact hk _ _ hf
    have hf := oi_f cc8 hf
    refine A_aloadn (pc := 35) dX3_canCome_35 rfl ?_
    refine A_iload (pc := 36) dX3_canCome_36 rfl ?_
    obtain ⟨h9, hf⟩ := oi_cf hf
    refine A_iald (pc := 38) dX3_canCome_38 hc1 (oob_f h9) ?_
    refine A_iloadn (pc := 39) dX3_canCome_39 rfl ?_
    refine A_icmp_ne (pc := 40) 45 dX3_canCome_40 (by decide) (fun cc10 => ?_) (fun cc10 => ?_)
    · have hf := oi_f cc10 hf
      refine A_inc (pc := 45) (L2 := [.null, .ref c1, .int s2, .int s3, .int (t4 + 1)]) (t4 + 1) dX3_canCome_45 rfl rfl rfl ?_
      refine A_goto (pc := 48) 29 dX3_canCome_48 (by decide) ?_
      exact ih _ _ hf
    have hf := oi_t cc10 hf
    refine A_iconst (pc := 43) 0 dX3_canCome_43 rfl ?_
    cases hf
    exact A_iret (pc := 44) dX3_canCome_44 rfl rfl ⟨rfl, rfl, rfl⟩
set_option maxHeartbeats 4000000 in
set_option maxRecDepth 100000 in
theorem wX3_canCome {G : GG} {T : TT} {n d : Nat} (hd : 1 ≤ d) {q : Int32} {u : MU} {r : Nat} {c1 : Nat} {c1n : Nat} {a2 : Int32} (hT : LAY T) (hR : RV T r) (hc1 : T.1[c1]? = some (0, c1n)) (hf : zX3_canCome n u r c1 c1n a2 = some q) : AW G d mX3_canCome 0 [.ref r, .ref c1, .int a2, .null, .null] [] T u 0 0 (QS T q u) := by
  obtain ⟨d, rfl⟩ : ∃ e, d = e + 1 := ⟨d - 1, by omega⟩
  rw [zX3_canCome] at hf
  refine A_aloadn (pc := 0) dX3_canCome_0 rfl ?_
  refine A_iloadn (pc := 1) dX3_canCome_1 rfl ?_
  obtain ⟨h1, hf⟩ := oi_cf hf
  refine A_iald (pc := 2) dX3_canCome_2 hc1 (oob_f h1) ?_
  have hf := oi_l hf
  refine A_istn (pc := 3) (L2 := [.ref r, .ref c1, .int a2, .int (u c1 a2.toNatClampNeg), .null]) dX3_canCome_3 (Nat.le_of_ble_eq_true rfl) rfl ?_
  refine A_aloadn (pc := 4) dX3_canCome_4 rfl ?_
  refine A_iloadn (pc := 5) dX3_canCome_5 rfl ?_
  obtain ⟨q3, h4, hf⟩ := oi_b hf
  refine A_cV1i (mi2 := mX3_isPerson) (pc := 6) dX3_canCome_6 lX3_57 fX3_isPerson vX3_isPerson (rv_0 hR) rfl (Nat.le_of_ble_eq_true rfl) rfl (Nat.le_of_ble_eq_true rfl) (wX3_isPerson (by omega) hT hR h4) ?_
  refine A_if_eq (pc := 9) (w := 0) 24 dX3_canCome_9 (by decide) (fun cc5 => ?_) (fun cc5 => ?_)
  · have hf := oi_t cc5 hf
    refine A_iconst (pc := 24) 0 dX3_canCome_24 rfl ?_
    cases hf
    exact A_iret (pc := 25) dX3_canCome_25 rfl rfl ⟨rfl, rfl, rfl⟩
  have hf := oi_f cc5 hf
  refine A_aloadn (pc := 12) dX3_canCome_12 rfl ?_
  refine A_getR (pc := 13) dX3_canCome_13 gX3_36 (rv_0 hR) (Nat.le_of_ble_eq_true rfl) rfl (rv_f7 hR) ?_
  refine A_iloadn (pc := 16) dX3_canCome_16 rfl ?_
  obtain ⟨h6, hf⟩ := oi_cf hf
  refine A_aald (pc := 17) dX3_canCome_17 (rv_4 hR) (oob_f h6) (rv_q hR (vpin_lt (oob_f h6))) ?_
  refine A_getI (pc := 18) dX3_canCome_18 gX3_61 (rv_p hR (vpin_lt (oob_f h6))) (Nat.le_of_ble_eq_true rfl) rfl ?_
  refine A_if_eq (pc := 21) (w := 0) 26 dX3_canCome_21 (by decide) (fun cc7 => ?_) (fun cc7 => ?_)
  · have hf := oi_t cc7 hf
    refine A_iconst (pc := 26) 0 dX3_canCome_26 rfl ?_
    refine A_ist (pc := 27) (L2 := [.ref r, .ref c1, .int a2, .int (u c1 a2.toNatClampNeg), .int 0]) dX3_canCome_27 (Nat.le_of_ble_eq_true rfl) rfl ?_
    refine A_fgt 0 (L' := [.null, .ref c1, .int a2, .int (u c1 a2.toNatClampNeg), .int 0]) rfl ?_
    exact wX3_canCome_L29 (by omega) hT hR hc1 (fun y11 q0 hf => by
      refine A_iconst (pc := 51) 1 dX3_canCome_51 rfl ?_
      cases hf
      exact A_iret (pc := 52) dX3_canCome_52 rfl rfl ⟨rfl, rfl, rfl⟩) _ _ _ hf
  have hf := oi_f cc7 hf
  refine A_iconst (pc := 24) 0 dX3_canCome_24 rfl ?_
  cases hf
  exact A_iret (pc := 25) dX3_canCome_25 rfl rfl ⟨rfl, rfl, rfl⟩
def zX3_firstAmiss_L12 (n : Nat) (u : MU) (r : Nat) (c1 : Nat) (c1n : Nat) (s2 : Int32) (s3 : Int32) (k : Int32 → Option (Int32)) : Nat → Int32 → Option (Int32)
  | 0, _ => none
  | m + 1, t4 => if s3 ≤ t4 then (k t4) else (Option.bind (zX3_canCome n u r c1 c1n t4) (fun q3 => if q3 = 0 then (some t4) else (Option.bind (zX3_whySlips n u r c1 c1n t4) (fun q6 => if q6 = (-9) then (zX3_firstAmiss_L12 n u r c1 c1n s2 s3 k m (t4 + 1)) else (some t4)))))
def zX3_firstAmiss (n : Nat) (u : MU) (r : Nat) (c1 : Nat) (c1n : Nat) (a2 : Int32) : Option (Int32) := letb (if (u r 0) < a2 then (u r 0) else a2) (fun x1 => zX3_firstAmiss_L12 n u r c1 c1n a2 x1 (fun y9 => if a2 = (u r 0) then (some (-9)) else (some x1)) n 0)
set_option maxHeartbeats 4000000 in
set_option maxRecDepth 100000 in
theorem wX3_firstAmiss_L12 {G : GG} {T : TT} {n d : Nat} (hd : 4 ≤ d) {u : MU} {r : Nat} {c1 : Nat} {c1n : Nat} {s2 : Int32} {s3 : Int32} {k : Int32 → Option (Int32)} (hT : LAY T) (hR : RV T r) (hc1 : T.1[c1]? = some (0, c1n)) (hk : ∀ (t4 : Int32) (q : Int32), k t4 = some q → AW G d mX3_firstAmiss 49 [.ref r, .ref c1, .int s2, .int s3, .int t4] [] T u 0 0 (QS T q u)) : ∀ (m : Nat) (t4 : Int32) (q : Int32), zX3_firstAmiss_L12 n u r c1 c1n s2 s3 k m t4 = some q → AW G d mX3_firstAmiss 12 [.ref r, .ref c1, .int s2, .int s3, .int t4] [] T u 0 0 (QS T q u) := by
  intro m
  obtain ⟨d, rfl⟩ : ∃ e, d = e + 1 := ⟨d - 1, by omega⟩
  induction m with
  | zero =>
    intro t4 q hf
    have h0 : (none : Option (Int32)) = some q := hf
    cases h0
  | succ m ih =>
    intro t4 q hf
    rw [zX3_firstAmiss_L12] at hf
    refine A_iload (pc := 12) dX3_firstAmiss_12 rfl ?_
    refine A_iloadn (pc := 14) dX3_firstAmiss_14 rfl ?_
    refine A_icmp_ge (pc := 15) 49 dX3_firstAmiss_15 (by decide) (fun cc2 => ?_) (fun cc2 => ?_)
    · have hf := oi_t cc2 hf
      exact hk _ _ hf
    have hf := oi_f cc2 hf
    refine A_aloadn (pc := 18) dX3_firstAmiss_18 rfl ?_
    refine A_aloadn (pc := 19) dX3_firstAmiss_19 rfl ?_
    refine A_iload (pc := 20) dX3_firstAmiss_20 rfl ?_
    obtain ⟨q3, h4, hf⟩ := oi_b hf
    refine A_cV2i (mi2 := mX3_canCome) (pc := 22) dX3_firstAmiss_22 lX3_130 fX3_canCome vX3_canCome (rv_0 hR) rfl (Nat.le_of_ble_eq_true rfl) rfl (Nat.le_of_ble_eq_true rfl) (wX3_canCome (by omega) hT hR hc1 h4) ?_
    refine A_if_eq (pc := 25) (w := 0) 40 dX3_firstAmiss_25 (by decide) (fun cc5 => ?_) (fun cc5 => ?_)
    · have hf := oi_t cc5 hf
      refine A_iload (pc := 40) dX3_firstAmiss_40 rfl ?_
      cases hf
      exact A_iret (pc := 42) dX3_firstAmiss_42 rfl rfl ⟨rfl, rfl, rfl⟩
    have hf := oi_f cc5 hf
    refine A_aloadn (pc := 28) dX3_firstAmiss_28 rfl ?_
    refine A_aloadn (pc := 29) dX3_firstAmiss_29 rfl ?_
    refine A_iload (pc := 30) dX3_firstAmiss_30 rfl ?_
    obtain ⟨q6, h7, hf⟩ := oi_b hf
    refine A_cV2i (mi2 := mX3_whySlips) (pc := 32) dX3_firstAmiss_32 lX3_105 fX3_whySlips vX3_whySlips (rv_0 hR) rfl (Nat.le_of_ble_eq_true rfl) rfl (Nat.le_of_ble_eq_true rfl) (wX3_whySlips (by omega) hT hR hc1 h7) ?_
    refine A_bipush (pc := 35) (-9) dX3_firstAmiss_35 rfl ?_
    refine A_icmp_eq (pc := 37) 43 dX3_firstAmiss_37 (by decide) (fun cc8 => ?_) (fun cc8 => ?_)
    · have hf := oi_t cc8 hf
      refine A_inc (pc := 43) (L2 := [.ref r, .ref c1, .int s2, .int s3, .int (t4 + 1)]) (t4 + 1) dX3_firstAmiss_43 rfl rfl rfl ?_
      refine A_goto (pc := 46) 12 dX3_firstAmiss_46 (by decide) ?_
      exact ih _ _ hf
    have hf := oi_f cc8 hf
    refine A_iload (pc := 40) dX3_firstAmiss_40 rfl ?_
    cases hf
    exact A_iret (pc := 42) dX3_firstAmiss_42 rfl rfl ⟨rfl, rfl, rfl⟩
set_option maxHeartbeats 4000000 in
set_option maxRecDepth 100000 in
theorem wX3_firstAmiss {G : GG} {T : TT} {n d : Nat} (hd : 4 ≤ d) {q : Int32} {u : MU} {r : Nat} {c1 : Nat} {c1n : Nat} {a2 : Int32} (hT : LAY T) (hR : RV T r) (hc1 : T.1[c1]? = some (0, c1n)) (hf : zX3_firstAmiss n u r c1 c1n a2 = some q) : AW G d mX3_firstAmiss 0 [.ref r, .ref c1, .int a2, .null, .null] [] T u 0 0 (QS T q u) := by
  obtain ⟨d, rfl⟩ : ∃ e, d = e + 1 := ⟨d - 1, by omega⟩
  rw [zX3_firstAmiss] at hf
  refine A_iloadn (pc := 0) dX3_firstAmiss_0 rfl ?_
  refine A_aloadn (pc := 1) dX3_firstAmiss_1 rfl ?_
  refine A_getI (pc := 2) dX3_firstAmiss_2 gX3_9 (rv_0 hR) (Nat.le_of_ble_eq_true rfl) rfl ?_
  refine A_mmin (pc := 5) dX3_firstAmiss_5 lX3_81 amin_1 oJ9 amin_3 (Nat.le_of_ble_eq_true rfl) ?_
  have hf := oi_l hf
  refine A_istn (pc := 8) (L2 := [.ref r, .ref c1, .int a2, .int (if (u r 0) < a2 then (u r 0) else a2), .null]) dX3_firstAmiss_8 (Nat.le_of_ble_eq_true rfl) rfl ?_
  refine A_iconst (pc := 9) 0 dX3_firstAmiss_9 rfl ?_
  refine A_ist (pc := 10) (L2 := [.ref r, .ref c1, .int a2, .int (if (u r 0) < a2 then (u r 0) else a2), .int 0]) dX3_firstAmiss_10 (Nat.le_of_ble_eq_true rfl) rfl ?_
  exact wX3_firstAmiss_L12 (by omega) hT hR hc1 (fun y9 q0 hf => by
    refine A_iloadn (pc := 49) dX3_firstAmiss_49 rfl ?_
    refine A_aloadn (pc := 50) dX3_firstAmiss_50 rfl ?_
    refine A_getI (pc := 51) dX3_firstAmiss_51 gX3_9 (rv_0 hR) (Nat.le_of_ble_eq_true rfl) rfl ?_
    refine A_icmp_ne (pc := 54) 62 dX3_firstAmiss_54 (by decide) (fun cc10 => ?_) (fun cc10 => ?_)
    · have hf := oi_f cc10 hf
      refine A_iloadn (pc := 62) dX3_firstAmiss_62 rfl ?_
      cases hf
      exact A_iret (pc := 63) dX3_firstAmiss_63 rfl rfl ⟨rfl, rfl, rfl⟩
    have hf := oi_t cc10 hf
    refine A_bipush (pc := 57) (-9) dX3_firstAmiss_57 rfl ?_
    refine A_goto (pc := 59) 63 dX3_firstAmiss_59 (by decide) ?_
    cases hf
    exact A_iret (pc := 63) dX3_firstAmiss_63 rfl rfl ⟨rfl, rfl, rfl⟩) _ _ _ hf
def zX3_copyFrom_L106 (n : Nat) (r : Nat) (r1 : Nat) (k : Int32 → MU → Option (MU)) : Nat → Int32 → MU → Option (MU)
  | 0, _, _ => none
  | m + 1, t2, u => if 7 ≤ t2 then (k t2 u) else (if oob t2 7 then none else if oob t2 7 then none else Option.bind (zX2_copyFrom n u (r + 7 + t2.toNatClampNeg) (r1 + 7 + t2.toNatClampNeg)) (fun q13 => zX3_copyFrom_L106 n r r1  k m (t2 + 1) q13))
def zX3_copyFrom (n : Nat) (u : MU) (r : Nat) (r1 : Nat) : Option (MU) := letb (up2 u r 0 (u r1 0)) (fun u1 => letb (up2 u1 r 1 (u1 r1 1)) (fun u2 => letb (up2 u2 r 2 (u2 r1 2)) (fun u3 => letb (up2 u3 r 3 (u3 r1 3)) (fun u4 => letb (upc u4 (r1 + 1) (r + 1) 0 0 (5 : Int32).toNatClampNeg) (fun u5 => letb (upc u5 (r1 + 2) (r + 2) 0 0 (5 : Int32).toNatClampNeg) (fun u6 => letb (upc u6 (r1 + 3) (r + 3) 0 0 (5 : Int32).toNatClampNeg) (fun u7 => letb (upc u7 (r1 + 5) (r + 5) 0 0 (7 : Int32).toNatClampNeg) (fun u8 => letb (upc u8 (r1 + 6) (r + 6) 0 0 (49 : Int32).toNatClampNeg) (fun u9 => zX3_copyFrom_L106 n r r1  (fun y15 w16 => some w16) n 0 u9)))))))))
set_option maxHeartbeats 4000000 in
set_option maxRecDepth 100000 in
theorem wX3_copyFrom_L106 {G : GG} {T : TT} {n d : Nat} (hd : 1 ≤ d) {r : Nat} {r1 : Nat} {k : Int32 → MU → Option (MU)} (hT : LAY T) (hR : RV T r) (hR1 : RV T r1) (hk : ∀ (t2 : Int32) (u : MU) (q : MU), k t2 u = some q → AW G d mX3_copyFrom 133 [.ref r, .ref r1, .int t2] [] T u 0 0 (QV T q)) : ∀ (m : Nat) (t2 : Int32) (u : MU) (q : MU), zX3_copyFrom_L106 n r r1 k m t2 u = some q → AW G d mX3_copyFrom 106 [.ref r, .ref r1, .int t2] [] T u 0 0 (QV T q) := by
  intro m
  obtain ⟨d, rfl⟩ : ∃ e, d = e + 1 := ⟨d - 1, by omega⟩
  induction m with
  | zero =>
    intro t2 u q hf
    have h0 : (none : Option (MU)) = some q := hf
    cases h0
  | succ m ih =>
    intro t2 u q hf
    rw [zX3_copyFrom_L106] at hf
    refine A_iloadn (pc := 106) dX3_copyFrom_106 rfl ?_
    refine A_bipush (pc := 107) 7 dX3_copyFrom_107 rfl ?_
    refine A_icmp_ge (pc := 109) 133 dX3_copyFrom_109 (by decide) (fun cc10 => ?_) (fun cc10 => ?_)
    · have hf := oi_t cc10 hf
      exact hk _ _ _ hf
    have hf := oi_f cc10 hf
    refine A_aloadn (pc := 112) dX3_copyFrom_112 rfl ?_
    refine A_getR (pc := 113) dX3_copyFrom_113 gX3_36 (rv_0 hR) (Nat.le_of_ble_eq_true rfl) rfl (rv_f7 hR) ?_
    refine A_iloadn (pc := 116) dX3_copyFrom_116 rfl ?_
    obtain ⟨h11, hf⟩ := oi_cf hf
    refine A_aald (pc := 117) dX3_copyFrom_117 (rv_4 hR) (oob_f h11) (rv_q hR (vpin_lt (oob_f h11))) ?_
    refine A_aloadn (pc := 118) dX3_copyFrom_118 rfl ?_
    refine A_getR (pc := 119) dX3_copyFrom_119 gX3_36 (rv_0 hR1) (Nat.le_of_ble_eq_true rfl) rfl (rv_f7 hR1) ?_
    refine A_iloadn (pc := 122) dX3_copyFrom_122 rfl ?_
    obtain ⟨h12, hf⟩ := oi_cf hf
    refine A_aald (pc := 123) dX3_copyFrom_123 (rv_4 hR1) (oob_f h12) (rv_q hR1 (vpin_lt (oob_f h12))) ?_
    obtain ⟨q13, h14, hf⟩ := oi_b hf
    refine A_cV1v (mi2 := mX2_copyFrom) (pc := 124) dX3_copyFrom_124 lX3_53 fX2_copyFrom vX2_copyFrom (rv_p hR (vpin_lt (oob_f h11))) rfl (Nat.le_of_ble_eq_true rfl) rfl (Nat.le_of_ble_eq_true rfl) (wX2_copyFrom (by omega) hT (rv_p hR (vpin_lt (oob_f h11))) (rv_p hR1 (vpin_lt (oob_f h12))) h14) ?_
    refine A_inc (pc := 127) (L2 := [.ref r, .ref r1, .int (t2 + 1)]) (t2 + 1) dX3_copyFrom_127 rfl rfl rfl ?_
    refine A_goto (pc := 130) 106 dX3_copyFrom_130 (by decide) ?_
    exact ih _ _ _ hf
set_option maxHeartbeats 4000000 in
set_option maxRecDepth 100000 in
theorem wX3_copyFrom {G : GG} {T : TT} {n d : Nat} (hd : 1 ≤ d) {q : MU} {u : MU} {r : Nat} {r1 : Nat} (hT : LAY T) (hR : RV T r) (hR1 : RV T r1) (hf : zX3_copyFrom n u r r1 = some q) : AW G d mX3_copyFrom 0 [.ref r, .ref r1, .null] [] T u 0 0 (QV T q) := by
  obtain ⟨d, rfl⟩ : ∃ e, d = e + 1 := ⟨d - 1, by omega⟩
  rw [zX3_copyFrom] at hf
  refine A_aloadn (pc := 0) dX3_copyFrom_0 rfl ?_
  refine A_aloadn (pc := 1) dX3_copyFrom_1 rfl ?_
  refine A_getI (pc := 2) dX3_copyFrom_2 gX3_9 (rv_0 hR1) (Nat.le_of_ble_eq_true rfl) rfl ?_
  have hf := oi_l hf
  refine A_putI (pc := 5) dX3_copyFrom_5 gX3_9 (rv_0 hR) (Nat.le_of_ble_eq_true rfl) rfl rfl rfl rfl ?_
  refine A_aloadn (pc := 8) dX3_copyFrom_8 rfl ?_
  refine A_aloadn (pc := 9) dX3_copyFrom_9 rfl ?_
  refine A_getI (pc := 10) dX3_copyFrom_10 gX3_15 (rv_0 hR1) (Nat.le_of_ble_eq_true rfl) rfl ?_
  have hf := oi_l hf
  refine A_putI (pc := 13) dX3_copyFrom_13 gX3_15 (rv_0 hR) (Nat.le_of_ble_eq_true rfl) rfl rfl rfl rfl ?_
  refine A_aloadn (pc := 16) dX3_copyFrom_16 rfl ?_
  refine A_aloadn (pc := 17) dX3_copyFrom_17 rfl ?_
  refine A_getI (pc := 18) dX3_copyFrom_18 gX3_18 (rv_0 hR1) (Nat.le_of_ble_eq_true rfl) rfl ?_
  have hf := oi_l hf
  refine A_putI (pc := 21) dX3_copyFrom_21 gX3_18 (rv_0 hR) (Nat.le_of_ble_eq_true rfl) rfl rfl rfl rfl ?_
  refine A_aloadn (pc := 24) dX3_copyFrom_24 rfl ?_
  refine A_aloadn (pc := 25) dX3_copyFrom_25 rfl ?_
  refine A_getI (pc := 26) dX3_copyFrom_26 gX3_21 (rv_0 hR1) (Nat.le_of_ble_eq_true rfl) rfl ?_
  have hf := oi_l hf
  refine A_putI (pc := 29) dX3_copyFrom_29 gX3_21 (rv_0 hR) (Nat.le_of_ble_eq_true rfl) rfl rfl rfl rfl ?_
  refine A_aloadn (pc := 32) dX3_copyFrom_32 rfl ?_
  refine A_getR (pc := 33) dX3_copyFrom_33 gX3_24 (rv_0 hR1) (Nat.le_of_ble_eq_true rfl) rfl (rv_f4 hR1) ?_
  refine A_iconst (pc := 36) 0 dX3_copyFrom_36 rfl ?_
  refine A_aloadn (pc := 37) dX3_copyFrom_37 rfl ?_
  refine A_getR (pc := 38) dX3_copyFrom_38 gX3_24 (rv_0 hR) (Nat.le_of_ble_eq_true rfl) rfl (rv_f4 hR) ?_
  refine A_iconst (pc := 41) 0 dX3_copyFrom_41 rfl ?_
  refine A_iconst (pc := 42) 5 dX3_copyFrom_42 rfl ?_
  have hf := oi_l hf
  refine A_copyi (pc := 43) dX3_copyFrom_43 lX3_47 acopy_1 acopy_2 oJ10 (rv_1 hR1) (rv_1 hR) (by decide) (by decide) (by decide) (Nat.le_of_ble_eq_true rfl) (Nat.le_of_ble_eq_true rfl) (Nat.le_of_ble_eq_true rfl) ?_
  refine A_aloadn (pc := 46) dX3_copyFrom_46 rfl ?_
  refine A_getR (pc := 47) dX3_copyFrom_47 gX3_28 (rv_0 hR1) (Nat.le_of_ble_eq_true rfl) rfl (rv_f5 hR1) ?_
  refine A_iconst (pc := 50) 0 dX3_copyFrom_50 rfl ?_
  refine A_aloadn (pc := 51) dX3_copyFrom_51 rfl ?_
  refine A_getR (pc := 52) dX3_copyFrom_52 gX3_28 (rv_0 hR) (Nat.le_of_ble_eq_true rfl) rfl (rv_f5 hR) ?_
  refine A_iconst (pc := 55) 0 dX3_copyFrom_55 rfl ?_
  refine A_iconst (pc := 56) 5 dX3_copyFrom_56 rfl ?_
  have hf := oi_l hf
  refine A_copyi (pc := 57) dX3_copyFrom_57 lX3_47 acopy_1 acopy_2 oJ10 (rv_2 hR1) (rv_2 hR) (by decide) (by decide) (by decide) (Nat.le_of_ble_eq_true rfl) (Nat.le_of_ble_eq_true rfl) (Nat.le_of_ble_eq_true rfl) ?_
  refine A_aloadn (pc := 60) dX3_copyFrom_60 rfl ?_
  refine A_getR (pc := 61) dX3_copyFrom_61 gX3_31 (rv_0 hR1) (Nat.le_of_ble_eq_true rfl) rfl (rv_f6 hR1) ?_
  refine A_iconst (pc := 64) 0 dX3_copyFrom_64 rfl ?_
  refine A_aloadn (pc := 65) dX3_copyFrom_65 rfl ?_
  refine A_getR (pc := 66) dX3_copyFrom_66 gX3_31 (rv_0 hR) (Nat.le_of_ble_eq_true rfl) rfl (rv_f6 hR) ?_
  refine A_iconst (pc := 69) 0 dX3_copyFrom_69 rfl ?_
  refine A_iconst (pc := 70) 5 dX3_copyFrom_70 rfl ?_
  have hf := oi_l hf
  refine A_copyi (pc := 71) dX3_copyFrom_71 lX3_47 acopy_1 acopy_2 oJ10 (rv_3 hR1) (rv_3 hR) (by decide) (by decide) (by decide) (Nat.le_of_ble_eq_true rfl) (Nat.le_of_ble_eq_true rfl) (Nat.le_of_ble_eq_true rfl) ?_
  refine A_aloadn (pc := 74) dX3_copyFrom_74 rfl ?_
  refine A_getR (pc := 75) dX3_copyFrom_75 gX3_40 (rv_0 hR1) (Nat.le_of_ble_eq_true rfl) rfl (rv_f8 hR1) ?_
  refine A_iconst (pc := 78) 0 dX3_copyFrom_78 rfl ?_
  refine A_aloadn (pc := 79) dX3_copyFrom_79 rfl ?_
  refine A_getR (pc := 80) dX3_copyFrom_80 gX3_40 (rv_0 hR) (Nat.le_of_ble_eq_true rfl) rfl (rv_f8 hR) ?_
  refine A_iconst (pc := 83) 0 dX3_copyFrom_83 rfl ?_
  refine A_bipush (pc := 84) 7 dX3_copyFrom_84 rfl ?_
  have hf := oi_l hf
  refine A_copyi (pc := 86) dX3_copyFrom_86 lX3_47 acopy_1 acopy_2 oJ10 (rv_5 hR1) (rv_5 hR) (by decide) (by decide) (by decide) (Nat.le_of_ble_eq_true rfl) (Nat.le_of_ble_eq_true rfl) (Nat.le_of_ble_eq_true rfl) ?_
  refine A_aloadn (pc := 89) dX3_copyFrom_89 rfl ?_
  refine A_getR (pc := 90) dX3_copyFrom_90 gX3_43 (rv_0 hR1) (Nat.le_of_ble_eq_true rfl) rfl (rv_f9 hR1) ?_
  refine A_iconst (pc := 93) 0 dX3_copyFrom_93 rfl ?_
  refine A_aloadn (pc := 94) dX3_copyFrom_94 rfl ?_
  refine A_getR (pc := 95) dX3_copyFrom_95 gX3_43 (rv_0 hR) (Nat.le_of_ble_eq_true rfl) rfl (rv_f9 hR) ?_
  refine A_iconst (pc := 98) 0 dX3_copyFrom_98 rfl ?_
  refine A_bipush (pc := 99) 49 dX3_copyFrom_99 rfl ?_
  have hf := oi_l hf
  refine A_copyi (pc := 101) dX3_copyFrom_101 lX3_47 acopy_1 acopy_2 oJ10 (rv_6 hR1) (rv_6 hR) (by decide) (by decide) (by decide) (Nat.le_of_ble_eq_true rfl) (Nat.le_of_ble_eq_true rfl) (Nat.le_of_ble_eq_true rfl) ?_
  refine A_iconst (pc := 104) 0 dX3_copyFrom_104 rfl ?_
  refine A_istn (pc := 105) (L2 := [.ref r, .ref r1, .int 0]) dX3_copyFrom_105 (Nat.le_of_ble_eq_true rfl) rfl ?_
  exact wX3_copyFrom_L106 (by omega) hT hR hR1 (fun y15 w16 q0 hf => by
    cases hf
    exact A_vret (pc := 133) dX3_copyFrom_133 rfl ⟨rfl, rfl, rfl⟩) _ _ _ _ hf
def zX3_inWater_L4 (n : Nat) (u : MU) (r : Nat) (k : Int32 → Int32 → Option (Int32)) : Nat → Int32 → Int32 → Option (Int32)
  | 0, _, _ => none
  | m + 1, t1, t2 => if (u r 0) ≤ t2 then (k t1 t2) else (if oob t2 5 then none else if (u (r + 3) t2.toNatClampNeg) = (-9) then (zX3_inWater_L4 n u r  k m t1 (t2 + 1)) else (zX3_inWater_L4 n u r  k m (t1 + 1) (t2 + 1)))
def zX3_inWater (n : Nat) (u : MU) (r : Nat) : Option (Int32) := zX3_inWater_L4 n u r  (fun y4 y5 => some y4) n 0 0
set_option maxHeartbeats 4000000 in
set_option maxRecDepth 100000 in
theorem wX3_inWater_L4 {G : GG} {T : TT} {n d : Nat} (hd : 0 ≤ d) {u : MU} {r : Nat} {k : Int32 → Int32 → Option (Int32)} (hT : LAY T) (hR : RV T r) (hk : ∀ (t1 : Int32) (t2 : Int32) (q : Int32), k t1 t2 = some q → AW G d mX3_inWater 32 [.ref r, .int t1, .int t2] [] T u 0 0 (QS T q u)) : ∀ (m : Nat) (t1 : Int32) (t2 : Int32) (q : Int32), zX3_inWater_L4 n u r k m t1 t2 = some q → AW G d mX3_inWater 4 [.ref r, .int t1, .int t2] [] T u 0 0 (QS T q u) := by
  intro m
  induction m with
  | zero =>
    intro t1 t2 q hf
    have h0 : (none : Option (Int32)) = some q := hf
    cases h0
  | succ m ih =>
    intro t1 t2 q hf
    rw [zX3_inWater_L4] at hf
    refine A_iloadn (pc := 4) dX3_inWater_4 rfl ?_
    refine A_aloadn (pc := 5) dX3_inWater_5 rfl ?_
    refine A_getI (pc := 6) dX3_inWater_6 gX3_9 (rv_0 hR) (Nat.le_of_ble_eq_true rfl) rfl ?_
    refine A_icmp_ge (pc := 9) 32 dX3_inWater_9 (by decide) (fun cc1 => ?_) (fun cc1 => ?_)
    · have hf := oi_t cc1 hf
      exact hk _ _ _ hf
    have hf := oi_f cc1 hf
    refine A_aloadn (pc := 12) dX3_inWater_12 rfl ?_
    refine A_getR (pc := 13) dX3_inWater_13 gX3_31 (rv_0 hR) (Nat.le_of_ble_eq_true rfl) rfl (rv_f6 hR) ?_
    refine A_iloadn (pc := 16) dX3_inWater_16 rfl ?_
    obtain ⟨h2, hf⟩ := oi_cf hf
    refine A_iald (pc := 17) dX3_inWater_17 (rv_3 hR) (oob_f h2) ?_
    refine A_bipush (pc := 18) (-9) dX3_inWater_18 rfl ?_
    refine A_icmp_eq (pc := 20) 26 dX3_inWater_20 (by decide) (fun cc3 => ?_) (fun cc3 => ?_)
    · have hf := oi_t cc3 hf
      refine A_inc (pc := 26) (L2 := [.ref r, .int t1, .int (t2 + 1)]) (t2 + 1) dX3_inWater_26 rfl rfl rfl ?_
      refine A_goto (pc := 29) 4 dX3_inWater_29 (by decide) ?_
      exact ih _ _ _ hf
    have hf := oi_f cc3 hf
    refine A_inc (pc := 23) (L2 := [.ref r, .int (t1 + 1), .int t2]) (t1 + 1) dX3_inWater_23 rfl rfl rfl ?_
    refine A_inc (pc := 26) (L2 := [.ref r, .int (t1 + 1), .int (t2 + 1)]) (t2 + 1) dX3_inWater_26 rfl rfl rfl ?_
    refine A_goto (pc := 29) 4 dX3_inWater_29 (by decide) ?_
    exact ih _ _ _ hf
set_option maxHeartbeats 4000000 in
set_option maxRecDepth 100000 in
theorem wX3_inWater {G : GG} {T : TT} {n d : Nat} (hd : 0 ≤ d) {q : Int32} {u : MU} {r : Nat} (hT : LAY T) (hR : RV T r) (hf : zX3_inWater n u r = some q) : AW G d mX3_inWater 0 [.ref r, .null, .null] [] T u 0 0 (QS T q u) := by
  rw [zX3_inWater] at hf
  refine A_iconst (pc := 0) 0 dX3_inWater_0 rfl ?_
  refine A_istn (pc := 1) (L2 := [.ref r, .int 0, .null]) dX3_inWater_1 (Nat.le_of_ble_eq_true rfl) rfl ?_
  refine A_iconst (pc := 2) 0 dX3_inWater_2 rfl ?_
  refine A_istn (pc := 3) (L2 := [.ref r, .int 0, .int 0]) dX3_inWater_3 (Nat.le_of_ble_eq_true rfl) rfl ?_
  exact wX3_inWater_L4 (by omega) hT hR (fun y4 y5 q0 hf => by
    refine A_iloadn (pc := 32) dX3_inWater_32 rfl ?_
    cases hf
    exact A_iret (pc := 33) dX3_inWater_33 rfl rfl ⟨rfl, rfl, rfl⟩) _ _ _ _ hf
def zX3_overThere_L4 (n : Nat) (u : MU) (r : Nat) (k : Int32 → Int32 → Option (Int32)) : Nat → Int32 → Int32 → Option (Int32)
  | 0, _, _ => none
  | m + 1, t1, t2 => if (u r 3) ≤ t2 then (k t1 t2) else (if oob t2 7 then none else if (u (r + 7 + t2.toNatClampNeg) 5) = 0 then (zX3_overThere_L4 n u r  k m t1 (t2 + 1)) else (zX3_overThere_L4 n u r  k m (t1 + 1) (t2 + 1)))
def zX3_overThere (n : Nat) (u : MU) (r : Nat) : Option (Int32) := zX3_overThere_L4 n u r  (fun y4 y5 => some y4) n 0 0
set_option maxHeartbeats 4000000 in
set_option maxRecDepth 100000 in
theorem wX3_overThere_L4 {G : GG} {T : TT} {n d : Nat} (hd : 0 ≤ d) {u : MU} {r : Nat} {k : Int32 → Int32 → Option (Int32)} (hT : LAY T) (hR : RV T r) (hk : ∀ (t1 : Int32) (t2 : Int32) (q : Int32), k t1 t2 = some q → AW G d mX3_overThere 33 [.ref r, .int t1, .int t2] [] T u 0 0 (QS T q u)) : ∀ (m : Nat) (t1 : Int32) (t2 : Int32) (q : Int32), zX3_overThere_L4 n u r k m t1 t2 = some q → AW G d mX3_overThere 4 [.ref r, .int t1, .int t2] [] T u 0 0 (QS T q u) := by
  intro m
  induction m with
  | zero =>
    intro t1 t2 q hf
    have h0 : (none : Option (Int32)) = some q := hf
    cases h0
  | succ m ih =>
    intro t1 t2 q hf
    rw [zX3_overThere_L4] at hf
    refine A_iloadn (pc := 4) dX3_overThere_4 rfl ?_
    refine A_aloadn (pc := 5) dX3_overThere_5 rfl ?_
    refine A_getI (pc := 6) dX3_overThere_6 gX3_21 (rv_0 hR) (Nat.le_of_ble_eq_true rfl) rfl ?_
    refine A_icmp_ge (pc := 9) 33 dX3_overThere_9 (by decide) (fun cc1 => ?_) (fun cc1 => ?_)
    · have hf := oi_t cc1 hf
      exact hk _ _ _ hf
    have hf := oi_f cc1 hf
    refine A_aloadn (pc := 12) dX3_overThere_12 rfl ?_
    refine A_getR (pc := 13) dX3_overThere_13 gX3_36 (rv_0 hR) (Nat.le_of_ble_eq_true rfl) rfl (rv_f7 hR) ?_
    refine A_iloadn (pc := 16) dX3_overThere_16 rfl ?_
    obtain ⟨h2, hf⟩ := oi_cf hf
    refine A_aald (pc := 17) dX3_overThere_17 (rv_4 hR) (oob_f h2) (rv_q hR (vpin_lt (oob_f h2))) ?_
    refine A_getI (pc := 18) dX3_overThere_18 gX3_61 (rv_p hR (vpin_lt (oob_f h2))) (Nat.le_of_ble_eq_true rfl) rfl ?_
    refine A_if_eq (pc := 21) (w := 0) 27 dX3_overThere_21 (by decide) (fun cc3 => ?_) (fun cc3 => ?_)
    · have hf := oi_t cc3 hf
      refine A_inc (pc := 27) (L2 := [.ref r, .int t1, .int (t2 + 1)]) (t2 + 1) dX3_overThere_27 rfl rfl rfl ?_
      refine A_goto (pc := 30) 4 dX3_overThere_30 (by decide) ?_
      exact ih _ _ _ hf
    have hf := oi_f cc3 hf
    refine A_inc (pc := 24) (L2 := [.ref r, .int (t1 + 1), .int t2]) (t1 + 1) dX3_overThere_24 rfl rfl rfl ?_
    refine A_inc (pc := 27) (L2 := [.ref r, .int (t1 + 1), .int (t2 + 1)]) (t2 + 1) dX3_overThere_27 rfl rfl rfl ?_
    refine A_goto (pc := 30) 4 dX3_overThere_30 (by decide) ?_
    exact ih _ _ _ hf
set_option maxHeartbeats 4000000 in
set_option maxRecDepth 100000 in
theorem wX3_overThere {G : GG} {T : TT} {n d : Nat} (hd : 0 ≤ d) {q : Int32} {u : MU} {r : Nat} (hT : LAY T) (hR : RV T r) (hf : zX3_overThere n u r = some q) : AW G d mX3_overThere 0 [.ref r, .null, .null] [] T u 0 0 (QS T q u) := by
  rw [zX3_overThere] at hf
  refine A_iconst (pc := 0) 0 dX3_overThere_0 rfl ?_
  refine A_istn (pc := 1) (L2 := [.ref r, .int 0, .null]) dX3_overThere_1 (Nat.le_of_ble_eq_true rfl) rfl ?_
  refine A_iconst (pc := 2) 0 dX3_overThere_2 rfl ?_
  refine A_istn (pc := 3) (L2 := [.ref r, .int 0, .int 0]) dX3_overThere_3 (Nat.le_of_ble_eq_true rfl) rfl ?_
  exact wX3_overThere_L4 (by omega) hT hR (fun y4 y5 q0 hf => by
    refine A_iloadn (pc := 33) dX3_overThere_33 rfl ?_
    cases hf
    exact A_iret (pc := 34) dX3_overThere_34 rfl rfl ⟨rfl, rfl, rfl⟩) _ _ _ _ hf
def zX3_nearBank (n : Nat) (u : MU) (r : Nat) : Option (Int32) := Option.bind (zX3_inWater n u r) (fun q1 => Option.bind (zX3_overThere n u r) (fun q3 => some (((u r 3) - q1) - q3)))
set_option maxHeartbeats 4000000 in
set_option maxRecDepth 100000 in
theorem wX3_nearBank {G : GG} {T : TT} {n d : Nat} (hd : 1 ≤ d) {q : Int32} {u : MU} {r : Nat} (hT : LAY T) (hR : RV T r) (hf : zX3_nearBank n u r = some q) : AW G d mX3_nearBank 0 [.ref r] [] T u 0 0 (QS T q u) := by
  obtain ⟨d, rfl⟩ : ∃ e, d = e + 1 := ⟨d - 1, by omega⟩
  rw [zX3_nearBank] at hf
  refine A_aloadn (pc := 0) dX3_nearBank_0 rfl ?_
  refine A_getI (pc := 1) dX3_nearBank_1 gX3_21 (rv_0 hR) (Nat.le_of_ble_eq_true rfl) rfl ?_
  refine A_aloadn (pc := 4) dX3_nearBank_4 rfl ?_
  obtain ⟨q1, h2, hf⟩ := oi_b hf
  refine A_cV0i (mi2 := mX3_inWater) (pc := 5) dX3_nearBank_5 lX3_69 fX3_inWater vX3_inWater (rv_0 hR) rfl (Nat.le_of_ble_eq_true rfl) rfl (Nat.le_of_ble_eq_true rfl) (wX3_inWater (by omega) hT hR h2) ?_
  refine A_isub (pc := 8) dX3_nearBank_8 ?_
  refine A_aloadn (pc := 9) dX3_nearBank_9 rfl ?_
  obtain ⟨q3, h4, hf⟩ := oi_b hf
  refine A_cV0i (mi2 := mX3_overThere) (pc := 10) dX3_nearBank_10 lX3_73 fX3_overThere vX3_overThere (rv_0 hR) rfl (Nat.le_of_ble_eq_true rfl) rfl (Nat.le_of_ble_eq_true rfl) (wX3_overThere (by omega) hT hR h4) ?_
  refine A_isub (pc := 13) dX3_nearBank_13 ?_
  cases hf
  exact A_iret (pc := 14) dX3_nearBank_14 rfl rfl ⟨rfl, rfl, rfl⟩
def zX3_notOver_L4 (n : Nat) (u : MU) (r : Nat) (k : Int32 → Int32 → Option (Int32)) : Nat → Int32 → Int32 → Option (Int32)
  | 0, _, _ => none
  | m + 1, t1, t2 => if (u r 3) ≤ t2 then (k t1 t2) else (if oob t2 7 then none else if (u (r + 7 + t2.toNatClampNeg) 5) = 0 then (letb (t1 ||| (1 <<< (t2 &&& 31))) (fun x4 => zX3_notOver_L4 n u r  k m x4 (t2 + 1))) else (zX3_notOver_L4 n u r  k m t1 (t2 + 1)))
def zX3_notOver (n : Nat) (u : MU) (r : Nat) : Option (Int32) := zX3_notOver_L4 n u r  (fun y5 y6 => some y5) n 0 0
set_option maxHeartbeats 4000000 in
set_option maxRecDepth 100000 in
theorem wX3_notOver_L4 {G : GG} {T : TT} {n d : Nat} (hd : 0 ≤ d) {u : MU} {r : Nat} {k : Int32 → Int32 → Option (Int32)} (hT : LAY T) (hR : RV T r) (hk : ∀ (t1 : Int32) (t2 : Int32) (q : Int32), k t1 t2 = some q → AW G d mX3_notOver 36 [.ref r, .int t1, .int t2] [] T u 0 0 (QS T q u)) : ∀ (m : Nat) (t1 : Int32) (t2 : Int32) (q : Int32), zX3_notOver_L4 n u r k m t1 t2 = some q → AW G d mX3_notOver 4 [.ref r, .int t1, .int t2] [] T u 0 0 (QS T q u) := by
  intro m
  induction m with
  | zero =>
    intro t1 t2 q hf
    have h0 : (none : Option (Int32)) = some q := hf
    cases h0
  | succ m ih =>
    intro t1 t2 q hf
    rw [zX3_notOver_L4] at hf
    refine A_iloadn (pc := 4) dX3_notOver_4 rfl ?_
    refine A_aloadn (pc := 5) dX3_notOver_5 rfl ?_
    refine A_getI (pc := 6) dX3_notOver_6 gX3_21 (rv_0 hR) (Nat.le_of_ble_eq_true rfl) rfl ?_
    refine A_icmp_ge (pc := 9) 36 dX3_notOver_9 (by decide) (fun cc1 => ?_) (fun cc1 => ?_)
    · have hf := oi_t cc1 hf
      exact hk _ _ _ hf
    have hf := oi_f cc1 hf
    refine A_aloadn (pc := 12) dX3_notOver_12 rfl ?_
    refine A_getR (pc := 13) dX3_notOver_13 gX3_36 (rv_0 hR) (Nat.le_of_ble_eq_true rfl) rfl (rv_f7 hR) ?_
    refine A_iloadn (pc := 16) dX3_notOver_16 rfl ?_
    obtain ⟨h2, hf⟩ := oi_cf hf
    refine A_aald (pc := 17) dX3_notOver_17 (rv_4 hR) (oob_f h2) (rv_q hR (vpin_lt (oob_f h2))) ?_
    refine A_getI (pc := 18) dX3_notOver_18 gX3_61 (rv_p hR (vpin_lt (oob_f h2))) (Nat.le_of_ble_eq_true rfl) rfl ?_
    refine A_if_ne (pc := 21) (w := 0) 30 dX3_notOver_21 (by decide) (fun cc3 => ?_) (fun cc3 => ?_)
    · have hf := oi_f cc3 hf
      refine A_inc (pc := 30) (L2 := [.ref r, .int t1, .int (t2 + 1)]) (t2 + 1) dX3_notOver_30 rfl rfl rfl ?_
      refine A_goto (pc := 33) 4 dX3_notOver_33 (by decide) ?_
      exact ih _ _ _ hf
    have hf := oi_t cc3 hf
    refine A_iloadn (pc := 24) dX3_notOver_24 rfl ?_
    refine A_iconst (pc := 25) 1 dX3_notOver_25 rfl ?_
    refine A_iloadn (pc := 26) dX3_notOver_26 rfl ?_
    refine A_ishl (pc := 27) dX3_notOver_27 ?_
    refine A_ior (pc := 28) dX3_notOver_28 ?_
    have hf := oi_l hf
    refine A_istn (pc := 29) (L2 := [.ref r, .int (t1 ||| (1 <<< (t2 &&& 31))), .int t2]) dX3_notOver_29 (Nat.le_of_ble_eq_true rfl) rfl ?_
    refine A_inc (pc := 30) (L2 := [.ref r, .int (t1 ||| (1 <<< (t2 &&& 31))), .int (t2 + 1)]) (t2 + 1) dX3_notOver_30 rfl rfl rfl ?_
    refine A_goto (pc := 33) 4 dX3_notOver_33 (by decide) ?_
    exact ih _ _ _ hf
set_option maxHeartbeats 4000000 in
set_option maxRecDepth 100000 in
theorem wX3_notOver {G : GG} {T : TT} {n d : Nat} (hd : 0 ≤ d) {q : Int32} {u : MU} {r : Nat} (hT : LAY T) (hR : RV T r) (hf : zX3_notOver n u r = some q) : AW G d mX3_notOver 0 [.ref r, .null, .null] [] T u 0 0 (QS T q u) := by
  rw [zX3_notOver] at hf
  refine A_iconst (pc := 0) 0 dX3_notOver_0 rfl ?_
  refine A_istn (pc := 1) (L2 := [.ref r, .int 0, .null]) dX3_notOver_1 (Nat.le_of_ble_eq_true rfl) rfl ?_
  refine A_iconst (pc := 2) 0 dX3_notOver_2 rfl ?_
  refine A_istn (pc := 3) (L2 := [.ref r, .int 0, .int 0]) dX3_notOver_3 (Nat.le_of_ble_eq_true rfl) rfl ?_
  exact wX3_notOver_L4 (by omega) hT hR (fun y5 y6 q0 hf => by
    refine A_iloadn (pc := 36) dX3_notOver_36 rfl ?_
    cases hf
    exact A_iret (pc := 37) dX3_notOver_37 rfl rfl ⟨rfl, rfl, rfl⟩) _ _ _ _ hf
def zX3_allGrudges_L4 (n : Nat) (u : MU) (r : Nat) (k : Int32 → Int32 → Option (Int32)) : Nat → Int32 → Int32 → Option (Int32)
  | 0, _, _ => none
  | m + 1, t1, t2 => if (u r 3) ≤ t2 then (k t1 t2) else (if oob t2 7 then none else Option.bind (zJ6_bitCount_0f7a4 n u (u (r + 5) t2.toNatClampNeg)) (fun q3 => letb (t1 + q3) (fun x5 => zX3_allGrudges_L4 n u r  k m x5 (t2 + 1))))
def zX3_allGrudges (n : Nat) (u : MU) (r : Nat) : Option (Int32) := zX3_allGrudges_L4 n u r  (fun y6 y7 => some (y6 / 2)) n 0 0
set_option maxHeartbeats 4000000 in
set_option maxRecDepth 100000 in
theorem wX3_allGrudges_L4 {G : GG} {T : TT} {n d : Nat} (hd : 1 ≤ d) {u : MU} {r : Nat} {k : Int32 → Int32 → Option (Int32)} (hT : LAY T) (hR : RV T r) (hk : ∀ (t1 : Int32) (t2 : Int32) (q : Int32), k t1 t2 = some q → AW G d mX3_allGrudges 30 [.ref r, .int t1, .int t2] [] T u 0 0 (QS T q u)) : ∀ (m : Nat) (t1 : Int32) (t2 : Int32) (q : Int32), zX3_allGrudges_L4 n u r k m t1 t2 = some q → AW G d mX3_allGrudges 4 [.ref r, .int t1, .int t2] [] T u 0 0 (QS T q u) := by
  intro m
  obtain ⟨d, rfl⟩ : ∃ e, d = e + 1 := ⟨d - 1, by omega⟩
  induction m with
  | zero =>
    intro t1 t2 q hf
    have h0 : (none : Option (Int32)) = some q := hf
    cases h0
  | succ m ih =>
    intro t1 t2 q hf
    rw [zX3_allGrudges_L4] at hf
    refine A_iloadn (pc := 4) dX3_allGrudges_4 rfl ?_
    refine A_aloadn (pc := 5) dX3_allGrudges_5 rfl ?_
    refine A_getI (pc := 6) dX3_allGrudges_6 gX3_21 (rv_0 hR) (Nat.le_of_ble_eq_true rfl) rfl ?_
    refine A_icmp_ge (pc := 9) 30 dX3_allGrudges_9 (by decide) (fun cc1 => ?_) (fun cc1 => ?_)
    · have hf := oi_t cc1 hf
      exact hk _ _ _ hf
    have hf := oi_f cc1 hf
    refine A_iloadn (pc := 12) dX3_allGrudges_12 rfl ?_
    refine A_aloadn (pc := 13) dX3_allGrudges_13 rfl ?_
    refine A_getR (pc := 14) dX3_allGrudges_14 gX3_40 (rv_0 hR) (Nat.le_of_ble_eq_true rfl) rfl (rv_f8 hR) ?_
    refine A_iloadn (pc := 17) dX3_allGrudges_17 rfl ?_
    obtain ⟨h2, hf⟩ := oi_cf hf
    refine A_iald (pc := 18) dX3_allGrudges_18 (rv_5 hR) (oob_f h2) ?_
    obtain ⟨q3, h4, hf⟩ := oi_b hf
    refine A_cS1i (mi2 := mJ6_bitCount_0f7a4) (pc := 19) dX3_allGrudges_19 lX3_76 fJ6_bitCount_0f7a4 sJ6_bitCount_0f7a4 (Nat.le_of_ble_eq_true rfl) rfl (Nat.le_of_ble_eq_true rfl) (wJ6_bitCount_0f7a4 (by omega) hT  h4) ?_
    refine A_iadd (pc := 22) dX3_allGrudges_22 ?_
    have hf := oi_l hf
    refine A_istn (pc := 23) (L2 := [.ref r, .int (t1 + q3), .int t2]) dX3_allGrudges_23 (Nat.le_of_ble_eq_true rfl) rfl ?_
    refine A_inc (pc := 24) (L2 := [.ref r, .int (t1 + q3), .int (t2 + 1)]) (t2 + 1) dX3_allGrudges_24 rfl rfl rfl ?_
    refine A_goto (pc := 27) 4 dX3_allGrudges_27 (by decide) ?_
    exact ih _ _ _ hf
set_option maxHeartbeats 4000000 in
set_option maxRecDepth 100000 in
theorem wX3_allGrudges {G : GG} {T : TT} {n d : Nat} (hd : 1 ≤ d) {q : Int32} {u : MU} {r : Nat} (hT : LAY T) (hR : RV T r) (hf : zX3_allGrudges n u r = some q) : AW G d mX3_allGrudges 0 [.ref r, .null, .null] [] T u 0 0 (QS T q u) := by
  obtain ⟨d, rfl⟩ : ∃ e, d = e + 1 := ⟨d - 1, by omega⟩
  rw [zX3_allGrudges] at hf
  refine A_iconst (pc := 0) 0 dX3_allGrudges_0 rfl ?_
  refine A_istn (pc := 1) (L2 := [.ref r, .int 0, .null]) dX3_allGrudges_1 (Nat.le_of_ble_eq_true rfl) rfl ?_
  refine A_iconst (pc := 2) 0 dX3_allGrudges_2 rfl ?_
  refine A_istn (pc := 3) (L2 := [.ref r, .int 0, .int 0]) dX3_allGrudges_3 (Nat.le_of_ble_eq_true rfl) rfl ?_
  exact wX3_allGrudges_L4 (by omega) hT hR (fun y6 y7 q0 hf => by
    refine A_iloadn (pc := 30) dX3_allGrudges_30 rfl ?_
    refine A_iconst (pc := 31) 2 dX3_allGrudges_31 rfl ?_
    refine A_idiv (pc := 32) dX3_allGrudges_32 (by decide) ?_
    cases hf
    exact A_iret (pc := 33) dX3_allGrudges_33 rfl rfl ⟨rfl, rfl, rfl⟩) _ _ _ _ hf
def zX3_hoursOf (n : Nat) (u : MU) (r : Nat) (a1 : Int32) (a2 : Int32) : Option (Int32) := if oob ((a1 * 7) + a2) 49 then none else some (u (r + 6) ((a1 * 7) + a2).toNatClampNeg)
set_option maxHeartbeats 4000000 in
set_option maxRecDepth 100000 in
theorem wX3_hoursOf {G : GG} {T : TT} {n d : Nat} (hd : 0 ≤ d) {q : Int32} {u : MU} {r : Nat} {a1 : Int32} {a2 : Int32} (hT : LAY T) (hR : RV T r) (hf : zX3_hoursOf n u r a1 a2 = some q) : AW G d mX3_hoursOf 0 [.ref r, .int a1, .int a2] [] T u 0 0 (QS T q u) := by
  rw [zX3_hoursOf] at hf
  refine A_aloadn (pc := 0) dX3_hoursOf_0 rfl ?_
  refine A_getR (pc := 1) dX3_hoursOf_1 gX3_43 (rv_0 hR) (Nat.le_of_ble_eq_true rfl) rfl (rv_f9 hR) ?_
  refine A_iloadn (pc := 4) dX3_hoursOf_4 rfl ?_
  refine A_bipush (pc := 5) 7 dX3_hoursOf_5 rfl ?_
  refine A_imul (pc := 7) dX3_hoursOf_7 ?_
  refine A_iloadn (pc := 8) dX3_hoursOf_8 rfl ?_
  refine A_iadd (pc := 9) dX3_hoursOf_9 ?_
  obtain ⟨h1, hf⟩ := oi_cf hf
  refine A_iald (pc := 10) dX3_hoursOf_10 (rv_6 hR) (oob_f h1) ?_
  cases hf
  exact A_iret (pc := 11) dX3_hoursOf_11 rfl rfl ⟨rfl, rfl, rfl⟩
def zX3_setHours (n : Nat) (u : MU) (r : Nat) (a1 : Int32) (a2 : Int32) (a3 : Int32) : Option (MU) := if oob ((a1 * 7) + a2) 49 then none else letb (up2 u (r + 6) ((a1 * 7) + a2).toNatClampNeg a3) (fun u2 => some u2)
set_option maxHeartbeats 4000000 in
set_option maxRecDepth 100000 in
theorem wX3_setHours {G : GG} {T : TT} {n d : Nat} (hd : 0 ≤ d) {q : MU} {u : MU} {r : Nat} {a1 : Int32} {a2 : Int32} {a3 : Int32} (hT : LAY T) (hR : RV T r) (hf : zX3_setHours n u r a1 a2 a3 = some q) : AW G d mX3_setHours 0 [.ref r, .int a1, .int a2, .int a3] [] T u 0 0 (QV T q) := by
  rw [zX3_setHours] at hf
  refine A_aloadn (pc := 0) dX3_setHours_0 rfl ?_
  refine A_getR (pc := 1) dX3_setHours_1 gX3_43 (rv_0 hR) (Nat.le_of_ble_eq_true rfl) rfl (rv_f9 hR) ?_
  refine A_iloadn (pc := 4) dX3_setHours_4 rfl ?_
  refine A_bipush (pc := 5) 7 dX3_setHours_5 rfl ?_
  refine A_imul (pc := 7) dX3_setHours_7 ?_
  refine A_iloadn (pc := 8) dX3_setHours_8 rfl ?_
  refine A_iadd (pc := 9) dX3_setHours_9 ?_
  refine A_iloadn (pc := 10) dX3_setHours_10 rfl ?_
  obtain ⟨h1, hf⟩ := oi_cf hf
  have hf := oi_l hf
  refine A_iast (pc := 11) dX3_setHours_11 (rv_6 hR) (oob_f h1) ?_
  cases hf
  exact A_vret (pc := 12) dX3_setHours_12 rfl ⟨rfl, rfl, rfl⟩
def zX3_bringOver_L2 (n : Nat) (r : Nat) (s1 : Int32) (k : Int32 → MU → Option (MU)) : Nat → Int32 → MU → Option (MU)
  | 0, _, _ => none
  | m + 1, t2, u => if (u r 0) ≤ t2 then (k t2 u) else (if oob t2 5 then none else letb (u (r + 3) t2.toNatClampNeg) (fun x3 => Option.bind (zX3_isPerson n u r x3) (fun q4 => if q4 = 0 then (zX3_bringOver_L2 n r s1 k m (t2 + 1) u) else (if oob x3 7 then none else if oob x3 7 then none else Option.bind (zX2_cools n u (r + 7 + x3.toNatClampNeg) (u r 1)) (fun q9 => letb (up2 u (r + 7 + x3.toNatClampNeg) 4 ((u (r + 7 + x3.toNatClampNeg) 4) - q9)) (fun u11 => Option.bind (zX3_hoursOf n u11 r s1 x3) (fun q12 => letb (q12 + 1) (fun x14 => Option.bind (zX3_setHours n u11 r s1 x3 (if x14 < 99 then x14 else 99)) (fun q15 => zX3_bringOver_L2 n r s1 k m (t2 + 1) q15)))))))))
def zX3_bringOver (n : Nat) (u : MU) (r : Nat) (a1 : Int32) : Option (MU) := zX3_bringOver_L2 n r a1 (fun y17 w18 => if oob a1 7 then none else letb (up2 w18 (r + 7 + a1.toNatClampNeg) 5 1) (fun u20 => letb (up2 u20 r 2 ((u20 r 2) + 1)) (fun u21 => some u21))) n 0 u
set_option maxHeartbeats 4000000 in
set_option maxRecDepth 100000 in
theorem wX3_bringOver_L2 {G : GG} {T : TT} {n d : Nat} (hd : 2 ≤ d) {r : Nat} {s1 : Int32} {k : Int32 → MU → Option (MU)} (hT : LAY T) (hR : RV T r) (hk : ∀ (t2 : Int32) (u : MU) (q : MU), k t2 u = some q → AW G d mX3_bringOver 81 [.ref r, .int s1, .int t2, .null, .null] [] T u 0 0 (QV T q)) : ∀ (m : Nat) (t2 : Int32) (u : MU) (q : MU), zX3_bringOver_L2 n r s1 k m t2 u = some q → AW G d mX3_bringOver 2 [.ref r, .int s1, .int t2, .null, .null] [] T u 0 0 (QV T q) := by
  intro m
  obtain ⟨d, rfl⟩ : ∃ e, d = e + 1 := ⟨d - 1, by omega⟩
  induction m with
  | zero =>
    intro t2 u q hf
    have h0 : (none : Option (MU)) = some q := hf
    cases h0
  | succ m ih =>
    intro t2 u q hf
    rw [zX3_bringOver_L2] at hf
    refine A_iloadn (pc := 2) dX3_bringOver_2 rfl ?_
    refine A_aloadn (pc := 3) dX3_bringOver_3 rfl ?_
    refine A_getI (pc := 4) dX3_bringOver_4 gX3_9 (rv_0 hR) (Nat.le_of_ble_eq_true rfl) rfl ?_
    refine A_icmp_ge (pc := 7) 81 dX3_bringOver_7 (by decide) (fun cc1 => ?_) (fun cc1 => ?_)
    · have hf := oi_t cc1 hf
      exact hk _ _ _ hf
    have hf := oi_f cc1 hf
    refine A_aloadn (pc := 10) dX3_bringOver_10 rfl ?_
    refine A_getR (pc := 11) dX3_bringOver_11 gX3_31 (rv_0 hR) (Nat.le_of_ble_eq_true rfl) rfl (rv_f6 hR) ?_
    refine A_iloadn (pc := 14) dX3_bringOver_14 rfl ?_
    obtain ⟨h2, hf⟩ := oi_cf hf
    refine A_iald (pc := 15) dX3_bringOver_15 (rv_3 hR) (oob_f h2) ?_
    have hf := oi_l hf
    refine A_istn (pc := 16) (L2 := [.ref r, .int s1, .int t2, .int (u (r + 3) t2.toNatClampNeg), .null]) dX3_bringOver_16 (Nat.le_of_ble_eq_true rfl) rfl ?_
    refine A_aloadn (pc := 17) dX3_bringOver_17 rfl ?_
    refine A_iloadn (pc := 18) dX3_bringOver_18 rfl ?_
    obtain ⟨q4, h5, hf⟩ := oi_b hf
    refine A_cV1i (mi2 := mX3_isPerson) (pc := 19) dX3_bringOver_19 lX3_57 fX3_isPerson vX3_isPerson (rv_0 hR) rfl (Nat.le_of_ble_eq_true rfl) rfl (Nat.le_of_ble_eq_true rfl) (wX3_isPerson (by omega) hT hR h5) ?_
    refine A_if_eq (pc := 22) (w := 0) 75 dX3_bringOver_22 (by decide) (fun cc6 => ?_) (fun cc6 => ?_)
    · have hf := oi_t cc6 hf
      refine A_inc (pc := 75) (L2 := [.ref r, .int s1, .int (t2 + 1), .int (u (r + 3) t2.toNatClampNeg), .null]) (t2 + 1) dX3_bringOver_75 rfl rfl rfl ?_
      refine A_goto (pc := 78) 2 dX3_bringOver_78 (by decide) ?_
      refine A_fgt 3 (L' := [.ref r, .int s1, .int (t2 + 1), .null, .null]) rfl ?_
      exact ih _ _ _ hf
    have hf := oi_f cc6 hf
    refine A_aloadn (pc := 25) dX3_bringOver_25 rfl ?_
    refine A_getR (pc := 26) dX3_bringOver_26 gX3_36 (rv_0 hR) (Nat.le_of_ble_eq_true rfl) rfl (rv_f7 hR) ?_
    refine A_iloadn (pc := 29) dX3_bringOver_29 rfl ?_
    obtain ⟨h7, hf⟩ := oi_cf hf
    refine A_aald (pc := 30) dX3_bringOver_30 (rv_4 hR) (oob_f h7) (rv_q hR (vpin_lt (oob_f h7))) ?_
    refine A_dup (pc := 31) dX3_bringOver_31 ?_
    refine A_getI (pc := 32) dX3_bringOver_32 gX3_117 (rv_p hR (vpin_lt (oob_f h7))) (Nat.le_of_ble_eq_true rfl) rfl ?_
    refine A_aloadn (pc := 35) dX3_bringOver_35 rfl ?_
    refine A_getR (pc := 36) dX3_bringOver_36 gX3_36 (rv_0 hR) (Nat.le_of_ble_eq_true rfl) rfl (rv_f7 hR) ?_
    refine A_iloadn (pc := 39) dX3_bringOver_39 rfl ?_
    obtain ⟨h8, hf⟩ := oi_cf hf
    refine A_aald (pc := 40) dX3_bringOver_40 (rv_4 hR) (oob_f h8) (rv_q hR (vpin_lt (oob_f h8))) ?_
    refine A_aloadn (pc := 41) dX3_bringOver_41 rfl ?_
    refine A_getI (pc := 42) dX3_bringOver_42 gX3_15 (rv_0 hR) (Nat.le_of_ble_eq_true rfl) rfl ?_
    obtain ⟨q9, h10, hf⟩ := oi_b hf
    refine A_cV1i (mi2 := mX2_cools) (pc := 45) dX3_bringOver_45 lX3_120 fX2_cools vX2_cools (rv_p hR (vpin_lt (oob_f h8))) rfl (Nat.le_of_ble_eq_true rfl) rfl (Nat.le_of_ble_eq_true rfl) (wX2_cools (by omega) hT (rv_p hR (vpin_lt (oob_f h8))) h10) ?_
    refine A_isub (pc := 48) dX3_bringOver_48 ?_
    have hf := oi_l hf
    refine A_putI (pc := 49) dX3_bringOver_49 gX3_117 (rv_p hR (vpin_lt (oob_f h7))) (Nat.le_of_ble_eq_true rfl) rfl rfl rfl rfl ?_
    refine A_aloadn (pc := 52) dX3_bringOver_52 rfl ?_
    refine A_iloadn (pc := 53) dX3_bringOver_53 rfl ?_
    refine A_iloadn (pc := 54) dX3_bringOver_54 rfl ?_
    obtain ⟨q12, h13, hf⟩ := oi_b hf
    refine A_cV2i (mi2 := mX3_hoursOf) (pc := 55) dX3_bringOver_55 lX3_123 fX3_hoursOf vX3_hoursOf (rv_0 hR) rfl (Nat.le_of_ble_eq_true rfl) rfl (Nat.le_of_ble_eq_true rfl) (wX3_hoursOf (by omega) hT hR h13) ?_
    refine A_iconst (pc := 58) 1 dX3_bringOver_58 rfl ?_
    refine A_iadd (pc := 59) dX3_bringOver_59 ?_
    have hf := oi_l hf
    refine A_ist (pc := 60) (L2 := [.ref r, .int s1, .int t2, .int (u (r + 3) t2.toNatClampNeg), .int (q12 + 1)]) dX3_bringOver_60 (Nat.le_of_ble_eq_true rfl) rfl ?_
    refine A_aloadn (pc := 62) dX3_bringOver_62 rfl ?_
    refine A_iloadn (pc := 63) dX3_bringOver_63 rfl ?_
    refine A_iloadn (pc := 64) dX3_bringOver_64 rfl ?_
    refine A_bipush (pc := 65) 99 dX3_bringOver_65 rfl ?_
    refine A_iload (pc := 67) dX3_bringOver_67 rfl ?_
    refine A_mmin (pc := 69) dX3_bringOver_69 lX3_81 amin_1 oJ9 amin_3 (Nat.le_of_ble_eq_true rfl) ?_
    obtain ⟨q15, h16, hf⟩ := oi_b hf
    refine A_cV3v (mi2 := mX3_setHours) (pc := 72) dX3_bringOver_72 lX3_126 fX3_setHours vX3_setHours (rv_0 hR) rfl (Nat.le_of_ble_eq_true rfl) rfl (Nat.le_of_ble_eq_true rfl) (wX3_setHours (by omega) hT hR h16) ?_
    refine A_inc (pc := 75) (L2 := [.ref r, .int s1, .int (t2 + 1), .int (u (r + 3) t2.toNatClampNeg), .int (q12 + 1)]) (t2 + 1) dX3_bringOver_75 rfl rfl rfl ?_
    refine A_goto (pc := 78) 2 dX3_bringOver_78 (by decide) ?_
    refine A_fgt 3 (L' := [.ref r, .int s1, .int (t2 + 1), .null, .int (q12 + 1)]) rfl ?_
    refine A_fgt 4 (L' := [.ref r, .int s1, .int (t2 + 1), .null, .null]) rfl ?_
    exact ih _ _ _ hf
set_option maxHeartbeats 4000000 in
set_option maxRecDepth 100000 in
theorem wX3_bringOver {G : GG} {T : TT} {n d : Nat} (hd : 2 ≤ d) {q : MU} {u : MU} {r : Nat} {a1 : Int32} (hT : LAY T) (hR : RV T r) (hf : zX3_bringOver n u r a1 = some q) : AW G d mX3_bringOver 0 [.ref r, .int a1, .null, .null, .null] [] T u 0 0 (QV T q) := by
  obtain ⟨d, rfl⟩ : ∃ e, d = e + 1 := ⟨d - 1, by omega⟩
  rw [zX3_bringOver] at hf
  refine A_iconst (pc := 0) 0 dX3_bringOver_0 rfl ?_
  refine A_istn (pc := 1) (L2 := [.ref r, .int a1, .int 0, .null, .null]) dX3_bringOver_1 (Nat.le_of_ble_eq_true rfl) rfl ?_
  exact wX3_bringOver_L2 (by omega) hT hR (fun y17 w18 q0 hf => by
    refine A_aloadn (pc := 81) dX3_bringOver_81 rfl ?_
    refine A_getR (pc := 82) dX3_bringOver_82 gX3_36 (rv_0 hR) (Nat.le_of_ble_eq_true rfl) rfl (rv_f7 hR) ?_
    refine A_iloadn (pc := 85) dX3_bringOver_85 rfl ?_
    obtain ⟨h19, hf⟩ := oi_cf hf
    refine A_aald (pc := 86) dX3_bringOver_86 (rv_4 hR) (oob_f h19) (rv_q hR (vpin_lt (oob_f h19))) ?_
    refine A_iconst (pc := 87) 1 dX3_bringOver_87 rfl ?_
    have hf := oi_l hf
    refine A_putI (pc := 88) dX3_bringOver_88 gX3_61 (rv_p hR (vpin_lt (oob_f h19))) (Nat.le_of_ble_eq_true rfl) rfl rfl rfl rfl ?_
    refine A_aloadn (pc := 91) dX3_bringOver_91 rfl ?_
    refine A_dup (pc := 92) dX3_bringOver_92 ?_
    refine A_getI (pc := 93) dX3_bringOver_93 gX3_18 (rv_0 hR) (Nat.le_of_ble_eq_true rfl) rfl ?_
    refine A_iconst (pc := 96) 1 dX3_bringOver_96 rfl ?_
    refine A_iadd (pc := 97) dX3_bringOver_97 ?_
    have hf := oi_l hf
    refine A_putI (pc := 98) dX3_bringOver_98 gX3_18 (rv_0 hR) (Nat.le_of_ble_eq_true rfl) rfl rfl rfl rfl ?_
    cases hf
    exact A_vret (pc := 101) dX3_bringOver_101 rfl ⟨rfl, rfl, rfl⟩) _ _ _ _ hf
def zX3_lessenHours (n : Nat) (u : MU) (r : Nat) (a1 : Int32) (a2 : Int32) (a3 : Int32) : Option (MU) := Option.bind (zX3_hoursOf n u r a1 a2) (fun q1 => Option.bind (zX3_setHours n u r a1 a2 (q1 - a3)) (fun q3 => some q3))
set_option maxHeartbeats 4000000 in
set_option maxRecDepth 100000 in
theorem wX3_lessenHours {G : GG} {T : TT} {n d : Nat} (hd : 1 ≤ d) {q : MU} {u : MU} {r : Nat} {a1 : Int32} {a2 : Int32} {a3 : Int32} (hT : LAY T) (hR : RV T r) (hf : zX3_lessenHours n u r a1 a2 a3 = some q) : AW G d mX3_lessenHours 0 [.ref r, .int a1, .int a2, .int a3] [] T u 0 0 (QV T q) := by
  obtain ⟨d, rfl⟩ : ∃ e, d = e + 1 := ⟨d - 1, by omega⟩
  rw [zX3_lessenHours] at hf
  refine A_aloadn (pc := 0) dX3_lessenHours_0 rfl ?_
  refine A_iloadn (pc := 1) dX3_lessenHours_1 rfl ?_
  refine A_iloadn (pc := 2) dX3_lessenHours_2 rfl ?_
  refine A_aloadn (pc := 3) dX3_lessenHours_3 rfl ?_
  refine A_iloadn (pc := 4) dX3_lessenHours_4 rfl ?_
  refine A_iloadn (pc := 5) dX3_lessenHours_5 rfl ?_
  obtain ⟨q1, h2, hf⟩ := oi_b hf
  refine A_cV2i (mi2 := mX3_hoursOf) (pc := 6) dX3_lessenHours_6 lX3_123 fX3_hoursOf vX3_hoursOf (rv_0 hR) rfl (Nat.le_of_ble_eq_true rfl) rfl (Nat.le_of_ble_eq_true rfl) (wX3_hoursOf (by omega) hT hR h2) ?_
  refine A_iloadn (pc := 9) dX3_lessenHours_9 rfl ?_
  refine A_isub (pc := 10) dX3_lessenHours_10 ?_
  obtain ⟨q3, h4, hf⟩ := oi_b hf
  refine A_cV3v (mi2 := mX3_setHours) (pc := 11) dX3_lessenHours_11 lX3_126 fX3_setHours vX3_setHours (rv_0 hR) rfl (Nat.le_of_ble_eq_true rfl) rfl (Nat.le_of_ble_eq_true rfl) (wX3_setHours (by omega) hT hR h4) ?_
  cases hf
  exact A_vret (pc := 14) dX3_lessenHours_14 rfl ⟨rfl, rfl, rfl⟩
def zX3_allHours_L4 (n : Nat) (u : MU) (r : Nat) (k : Int32 → Int32 → Option (Int32)) : Nat → Int32 → Int32 → Option (Int32)
  | 0, _, _ => none
  | m + 1, t1, t2 => if 49 ≤ t2 then (k t1 t2) else (if oob t2 49 then none else letb (t1 + (u (r + 6) t2.toNatClampNeg)) (fun x3 => zX3_allHours_L4 n u r  k m x3 (t2 + 1)))
def zX3_allHours (n : Nat) (u : MU) (r : Nat) : Option (Int32) := zX3_allHours_L4 n u r  (fun y4 y5 => some y4) n 0 0
set_option maxHeartbeats 4000000 in
set_option maxRecDepth 100000 in
theorem wX3_allHours_L4 {G : GG} {T : TT} {n d : Nat} (hd : 0 ≤ d) {u : MU} {r : Nat} {k : Int32 → Int32 → Option (Int32)} (hT : LAY T) (hR : RV T r) (hk : ∀ (t1 : Int32) (t2 : Int32) (q : Int32), k t1 t2 = some q → AW G d mX3_allHours 25 [.ref r, .int t1, .int t2] [] T u 0 0 (QS T q u)) : ∀ (m : Nat) (t1 : Int32) (t2 : Int32) (q : Int32), zX3_allHours_L4 n u r k m t1 t2 = some q → AW G d mX3_allHours 4 [.ref r, .int t1, .int t2] [] T u 0 0 (QS T q u) := by
  intro m
  induction m with
  | zero =>
    intro t1 t2 q hf
    have h0 : (none : Option (Int32)) = some q := hf
    cases h0
  | succ m ih =>
    intro t1 t2 q hf
    rw [zX3_allHours_L4] at hf
    refine A_iloadn (pc := 4) dX3_allHours_4 rfl ?_
    refine A_bipush (pc := 5) 49 dX3_allHours_5 rfl ?_
    refine A_icmp_ge (pc := 7) 25 dX3_allHours_7 (by decide) (fun cc1 => ?_) (fun cc1 => ?_)
    · have hf := oi_t cc1 hf
      exact hk _ _ _ hf
    have hf := oi_f cc1 hf
    refine A_iloadn (pc := 10) dX3_allHours_10 rfl ?_
    refine A_aloadn (pc := 11) dX3_allHours_11 rfl ?_
    refine A_getR (pc := 12) dX3_allHours_12 gX3_43 (rv_0 hR) (Nat.le_of_ble_eq_true rfl) rfl (rv_f9 hR) ?_
    refine A_iloadn (pc := 15) dX3_allHours_15 rfl ?_
    obtain ⟨h2, hf⟩ := oi_cf hf
    refine A_iald (pc := 16) dX3_allHours_16 (rv_6 hR) (oob_f h2) ?_
    refine A_iadd (pc := 17) dX3_allHours_17 ?_
    have hf := oi_l hf
    refine A_istn (pc := 18) (L2 := [.ref r, .int (t1 + (u (r + 6) t2.toNatClampNeg)), .int t2]) dX3_allHours_18 (Nat.le_of_ble_eq_true rfl) rfl ?_
    refine A_inc (pc := 19) (L2 := [.ref r, .int (t1 + (u (r + 6) t2.toNatClampNeg)), .int (t2 + 1)]) (t2 + 1) dX3_allHours_19 rfl rfl rfl ?_
    refine A_goto (pc := 22) 4 dX3_allHours_22 (by decide) ?_
    exact ih _ _ _ hf
set_option maxHeartbeats 4000000 in
set_option maxRecDepth 100000 in
theorem wX3_allHours {G : GG} {T : TT} {n d : Nat} (hd : 0 ≤ d) {q : Int32} {u : MU} {r : Nat} (hT : LAY T) (hR : RV T r) (hf : zX3_allHours n u r = some q) : AW G d mX3_allHours 0 [.ref r, .null, .null] [] T u 0 0 (QS T q u) := by
  rw [zX3_allHours] at hf
  refine A_iconst (pc := 0) 0 dX3_allHours_0 rfl ?_
  refine A_istn (pc := 1) (L2 := [.ref r, .int 0, .null]) dX3_allHours_1 (Nat.le_of_ble_eq_true rfl) rfl ?_
  refine A_iconst (pc := 2) 0 dX3_allHours_2 rfl ?_
  refine A_istn (pc := 3) (L2 := [.ref r, .int 0, .int 0]) dX3_allHours_3 (Nat.le_of_ble_eq_true rfl) rfl ?_
  exact wX3_allHours_L4 (by omega) hT hR (fun y4 y5 q0 hf => by
    refine A_iloadn (pc := 25) dX3_allHours_25 rfl ?_
    cases hf
    exact A_iret (pc := 26) dX3_allHours_26 rfl rfl ⟨rfl, rfl, rfl⟩) _ _ _ _ hf
def zX3_strikeTwos_L16 (n : Nat) (r : Nat) (s2 : Int32) (k : Int32 → Int32 → MU → Option (Int32 × MU)) : Nat → Int32 → Int32 → MU → Option (Int32 × MU)
  | 0, _, _, _ => none
  | m + 1, t1, t3, u => if (u r 3) ≤ t3 then (k t1 t3 u) else (Option.bind (zX3_hoursOf n u r s2 t3) (fun q4 => Option.bind (zX3_hoursOf n u r t3 s2) (fun q6 => letb (if q6 < q4 then q6 else q4) (fun x8 => if x8 ≤ 0 then (zX3_strikeTwos_L16 n r s2 k m t1 (t3 + 1) u) else (Option.bind (zX3_lessenHours n u r s2 t3 x8) (fun q10 => Option.bind (zX3_lessenHours n q10 r t3 s2 x8) (fun q12 => zX3_strikeTwos_L16 n r s2 k m (t1 + 1) (t3 + 1) q12)))))))
def zX3_strikeTwos_L4 (n : Nat) (r : Nat) (k : Int32 → Int32 → MU → Option (Int32 × MU)) : Nat → Int32 → Int32 → MU → Option (Int32 × MU)
  | 0, _, _, _ => none
  | m + 1, t1, t2, u => if (u r 3) ≤ t2 then (k t1 t2 u) else (letb (t2 + 1) (fun x2 => zX3_strikeTwos_L16 n r t2 (fun y14 y15 w16 => zX3_strikeTwos_L4 n r  k m y14 (t2 + 1) w16) n t1 x2 u))
def zX3_strikeTwos (n : Nat) (u : MU) (r : Nat) : Option (Int32 × MU) := zX3_strikeTwos_L4 n r  (fun y17 y18 w19 => some (y17, w19)) n 0 0 u
set_option maxHeartbeats 4000000 in
set_option maxRecDepth 100000 in
theorem wX3_strikeTwos_L16 {G : GG} {T : TT} {n d : Nat} (hd : 2 ≤ d) {r : Nat} {s2 : Int32} {k : Int32 → Int32 → MU → Option (Int32 × MU)} (hT : LAY T) (hR : RV T r) (hk : ∀ (t1 : Int32) (t3 : Int32) (u : MU) (q : Int32 × MU), k t1 t3 u = some q → AW G d mX3_strikeTwos 71 [.ref r, .int t1, .int s2, .int t3, .null] [] T u 0 0 (QS T q.1 q.2)) : ∀ (m : Nat) (t1 : Int32) (t3 : Int32) (u : MU) (q : Int32 × MU), zX3_strikeTwos_L16 n r s2 k m t1 t3 u = some q → AW G d mX3_strikeTwos 16 [.ref r, .int t1, .int s2, .int t3, .null] [] T u 0 0 (QS T q.1 q.2) := by
  intro m
  obtain ⟨d, rfl⟩ : ∃ e, d = e + 1 := ⟨d - 1, by omega⟩
  induction m with
  | zero =>
    intro t1 t3 u q hf
    have h0 : (none : Option (Int32 × MU)) = some q := hf
    cases h0
  | succ m ih =>
    intro t1 t3 u q hf
    rw [zX3_strikeTwos_L16] at hf
    refine A_iloadn (pc := 16) dX3_strikeTwos_16 rfl ?_
    refine A_aloadn (pc := 17) dX3_strikeTwos_17 rfl ?_
    refine A_getI (pc := 18) dX3_strikeTwos_18 gX3_21 (rv_0 hR) (Nat.le_of_ble_eq_true rfl) rfl ?_
    refine A_icmp_ge (pc := 21) 71 dX3_strikeTwos_21 (by decide) (fun cc3 => ?_) (fun cc3 => ?_)
    · have hf := oi_t cc3 hf
      exact hk _ _ _ _ hf
    have hf := oi_f cc3 hf
    refine A_aloadn (pc := 24) dX3_strikeTwos_24 rfl ?_
    refine A_iloadn (pc := 25) dX3_strikeTwos_25 rfl ?_
    refine A_iloadn (pc := 26) dX3_strikeTwos_26 rfl ?_
    obtain ⟨q4, h5, hf⟩ := oi_b hf
    refine A_cV2i (mi2 := mX3_hoursOf) (pc := 27) dX3_strikeTwos_27 lX3_123 fX3_hoursOf vX3_hoursOf (rv_0 hR) rfl (Nat.le_of_ble_eq_true rfl) rfl (Nat.le_of_ble_eq_true rfl) (wX3_hoursOf (by omega) hT hR h5) ?_
    refine A_aloadn (pc := 30) dX3_strikeTwos_30 rfl ?_
    refine A_iloadn (pc := 31) dX3_strikeTwos_31 rfl ?_
    refine A_iloadn (pc := 32) dX3_strikeTwos_32 rfl ?_
    obtain ⟨q6, h7, hf⟩ := oi_b hf
    refine A_cV2i (mi2 := mX3_hoursOf) (pc := 33) dX3_strikeTwos_33 lX3_123 fX3_hoursOf vX3_hoursOf (rv_0 hR) rfl (Nat.le_of_ble_eq_true rfl) rfl (Nat.le_of_ble_eq_true rfl) (wX3_hoursOf (by omega) hT hR h7) ?_
    refine A_mmin (pc := 36) dX3_strikeTwos_36 lX3_81 amin_1 oJ9 amin_3 (Nat.le_of_ble_eq_true rfl) ?_
    have hf := oi_l hf
    refine A_ist (pc := 39) (L2 := [.ref r, .int t1, .int s2, .int t3, .int (if q6 < q4 then q6 else q4)]) dX3_strikeTwos_39 (Nat.le_of_ble_eq_true rfl) rfl ?_
    refine A_iload (pc := 41) dX3_strikeTwos_41 rfl ?_
    refine A_if_le (pc := 43) (w := 0) 65 dX3_strikeTwos_43 (by decide) (fun cc9 => ?_) (fun cc9 => ?_)
    · have hf := oi_t cc9 hf
      refine A_inc (pc := 65) (L2 := [.ref r, .int t1, .int s2, .int (t3 + 1), .int (if q6 < q4 then q6 else q4)]) (t3 + 1) dX3_strikeTwos_65 rfl rfl rfl ?_
      refine A_goto (pc := 68) 16 dX3_strikeTwos_68 (by decide) ?_
      refine A_fgt 4 (L' := [.ref r, .int t1, .int s2, .int (t3 + 1), .null]) rfl ?_
      exact ih _ _ _ _ hf
    have hf := oi_f cc9 hf
    refine A_aloadn (pc := 46) dX3_strikeTwos_46 rfl ?_
    refine A_iloadn (pc := 47) dX3_strikeTwos_47 rfl ?_
    refine A_iloadn (pc := 48) dX3_strikeTwos_48 rfl ?_
    refine A_iload (pc := 49) dX3_strikeTwos_49 rfl ?_
    obtain ⟨q10, h11, hf⟩ := oi_b hf
    refine A_cV3v (mi2 := mX3_lessenHours) (pc := 51) dX3_strikeTwos_51 lX3_134 fX3_lessenHours vX3_lessenHours (rv_0 hR) rfl (Nat.le_of_ble_eq_true rfl) rfl (Nat.le_of_ble_eq_true rfl) (wX3_lessenHours (by omega) hT hR h11) ?_
    refine A_aloadn (pc := 54) dX3_strikeTwos_54 rfl ?_
    refine A_iloadn (pc := 55) dX3_strikeTwos_55 rfl ?_
    refine A_iloadn (pc := 56) dX3_strikeTwos_56 rfl ?_
    refine A_iload (pc := 57) dX3_strikeTwos_57 rfl ?_
    obtain ⟨q12, h13, hf⟩ := oi_b hf
    refine A_cV3v (mi2 := mX3_lessenHours) (pc := 59) dX3_strikeTwos_59 lX3_134 fX3_lessenHours vX3_lessenHours (rv_0 hR) rfl (Nat.le_of_ble_eq_true rfl) rfl (Nat.le_of_ble_eq_true rfl) (wX3_lessenHours (by omega) hT hR h13) ?_
    refine A_inc (pc := 62) (L2 := [.ref r, .int (t1 + 1), .int s2, .int t3, .int (if q6 < q4 then q6 else q4)]) (t1 + 1) dX3_strikeTwos_62 rfl rfl rfl ?_
    refine A_inc (pc := 65) (L2 := [.ref r, .int (t1 + 1), .int s2, .int (t3 + 1), .int (if q6 < q4 then q6 else q4)]) (t3 + 1) dX3_strikeTwos_65 rfl rfl rfl ?_
    refine A_goto (pc := 68) 16 dX3_strikeTwos_68 (by decide) ?_
    refine A_fgt 4 (L' := [.ref r, .int (t1 + 1), .int s2, .int (t3 + 1), .null]) rfl ?_
    exact ih _ _ _ _ hf
set_option maxHeartbeats 4000000 in
set_option maxRecDepth 100000 in
theorem wX3_strikeTwos_L4 {G : GG} {T : TT} {n d : Nat} (hd : 2 ≤ d) {r : Nat} {k : Int32 → Int32 → MU → Option (Int32 × MU)} (hT : LAY T) (hR : RV T r) (hk : ∀ (t1 : Int32) (t2 : Int32) (u : MU) (q : Int32 × MU), k t1 t2 u = some q → AW G d mX3_strikeTwos 77 [.ref r, .int t1, .int t2, .null, .null] [] T u 0 0 (QS T q.1 q.2)) : ∀ (m : Nat) (t1 : Int32) (t2 : Int32) (u : MU) (q : Int32 × MU), zX3_strikeTwos_L4 n r k m t1 t2 u = some q → AW G d mX3_strikeTwos 4 [.ref r, .int t1, .int t2, .null, .null] [] T u 0 0 (QS T q.1 q.2) := by
  intro m
  obtain ⟨d, rfl⟩ : ∃ e, d = e + 1 := ⟨d - 1, by omega⟩
  induction m with
  | zero =>
    intro t1 t2 u q hf
    have h0 : (none : Option (Int32 × MU)) = some q := hf
    cases h0
  | succ m ih =>
    intro t1 t2 u q hf
    rw [zX3_strikeTwos_L4] at hf
    refine A_iloadn (pc := 4) dX3_strikeTwos_4 rfl ?_
    refine A_aloadn (pc := 5) dX3_strikeTwos_5 rfl ?_
    refine A_getI (pc := 6) dX3_strikeTwos_6 gX3_21 (rv_0 hR) (Nat.le_of_ble_eq_true rfl) rfl ?_
    refine A_icmp_ge (pc := 9) 77 dX3_strikeTwos_9 (by decide) (fun cc1 => ?_) (fun cc1 => ?_)
    · have hf := oi_t cc1 hf
      exact hk _ _ _ _ hf
    have hf := oi_f cc1 hf
    refine A_iloadn (pc := 12) dX3_strikeTwos_12 rfl ?_
    refine A_iconst (pc := 13) 1 dX3_strikeTwos_13 rfl ?_
    refine A_iadd (pc := 14) dX3_strikeTwos_14 ?_
    have hf := oi_l hf
    refine A_istn (pc := 15) (L2 := [.ref r, .int t1, .int t2, .int (t2 + 1), .null]) dX3_strikeTwos_15 (Nat.le_of_ble_eq_true rfl) rfl ?_
    exact wX3_strikeTwos_L16 (by omega) hT hR (fun y14 y15 w16 q0 hf => by
      refine A_inc (pc := 71) (L2 := [.ref r, .int y14, .int (t2 + 1), .int y15, .null]) (t2 + 1) dX3_strikeTwos_71 rfl rfl rfl ?_
      refine A_goto (pc := 74) 4 dX3_strikeTwos_74 (by decide) ?_
      refine A_fgt 3 (L' := [.ref r, .int y14, .int (t2 + 1), .null, .null]) rfl ?_
      exact ih _ _ _ _ hf) _ _ _ _ _ hf
set_option maxHeartbeats 4000000 in
set_option maxRecDepth 100000 in
theorem wX3_strikeTwos {G : GG} {T : TT} {n d : Nat} (hd : 2 ≤ d) {q : Int32 × MU} {u : MU} {r : Nat} (hT : LAY T) (hR : RV T r) (hf : zX3_strikeTwos n u r = some q) : AW G d mX3_strikeTwos 0 [.ref r, .null, .null, .null, .null] [] T u 0 0 (QS T q.1 q.2) := by
  obtain ⟨d, rfl⟩ : ∃ e, d = e + 1 := ⟨d - 1, by omega⟩
  rw [zX3_strikeTwos] at hf
  refine A_iconst (pc := 0) 0 dX3_strikeTwos_0 rfl ?_
  refine A_istn (pc := 1) (L2 := [.ref r, .int 0, .null, .null, .null]) dX3_strikeTwos_1 (Nat.le_of_ble_eq_true rfl) rfl ?_
  refine A_iconst (pc := 2) 0 dX3_strikeTwos_2 rfl ?_
  refine A_istn (pc := 3) (L2 := [.ref r, .int 0, .int 0, .null, .null]) dX3_strikeTwos_3 (Nat.le_of_ble_eq_true rfl) rfl ?_
  exact wX3_strikeTwos_L4 (by omega) hT hR (fun y17 y18 w19 q0 hf => by
    refine A_iloadn (pc := 77) dX3_strikeTwos_77 rfl ?_
    cases hf
    exact A_iret (pc := 78) dX3_strikeTwos_78 rfl rfl ⟨rfl, rfl, rfl⟩) _ _ _ _ _ hf
def zX3_strikeThree (n : Nat) (u : MU) (r : Nat) (a1 : Int32) (a2 : Int32) (a3 : Int32) : Option (Int32 × MU) := Option.bind (zX3_hoursOf n u r a1 a2) (fun q1 => Option.bind (zX3_hoursOf n u r a2 a3) (fun q3 => Option.bind (zX3_hoursOf n u r a3 a1) (fun q5 => letb (if (if q5 < q3 then q5 else q3) < q1 then (if q5 < q3 then q5 else q3) else q1) (fun x7 => if 0 < x7 then (Option.bind (zX3_lessenHours n u r a1 a2 x7) (fun q9 => Option.bind (zX3_lessenHours n q9 r a2 a3 x7) (fun q11 => Option.bind (zX3_lessenHours n q11 r a3 a1 x7) (fun q13 => some (1, q13))))) else (some (0, u))))))
set_option maxHeartbeats 4000000 in
set_option maxRecDepth 100000 in
theorem wX3_strikeThree {G : GG} {T : TT} {n d : Nat} (hd : 2 ≤ d) {q : Int32 × MU} {u : MU} {r : Nat} {a1 : Int32} {a2 : Int32} {a3 : Int32} (hT : LAY T) (hR : RV T r) (hf : zX3_strikeThree n u r a1 a2 a3 = some q) : AW G d mX3_strikeThree 0 [.ref r, .int a1, .int a2, .int a3, .null] [] T u 0 0 (QS T q.1 q.2) := by
  obtain ⟨d, rfl⟩ : ∃ e, d = e + 1 := ⟨d - 1, by omega⟩
  rw [zX3_strikeThree] at hf
  refine A_aloadn (pc := 0) dX3_strikeThree_0 rfl ?_
  refine A_iloadn (pc := 1) dX3_strikeThree_1 rfl ?_
  refine A_iloadn (pc := 2) dX3_strikeThree_2 rfl ?_
  obtain ⟨q1, h2, hf⟩ := oi_b hf
  refine A_cV2i (mi2 := mX3_hoursOf) (pc := 3) dX3_strikeThree_3 lX3_123 fX3_hoursOf vX3_hoursOf (rv_0 hR) rfl (Nat.le_of_ble_eq_true rfl) rfl (Nat.le_of_ble_eq_true rfl) (wX3_hoursOf (by omega) hT hR h2) ?_
  refine A_aloadn (pc := 6) dX3_strikeThree_6 rfl ?_
  refine A_iloadn (pc := 7) dX3_strikeThree_7 rfl ?_
  refine A_iloadn (pc := 8) dX3_strikeThree_8 rfl ?_
  obtain ⟨q3, h4, hf⟩ := oi_b hf
  refine A_cV2i (mi2 := mX3_hoursOf) (pc := 9) dX3_strikeThree_9 lX3_123 fX3_hoursOf vX3_hoursOf (rv_0 hR) rfl (Nat.le_of_ble_eq_true rfl) rfl (Nat.le_of_ble_eq_true rfl) (wX3_hoursOf (by omega) hT hR h4) ?_
  refine A_aloadn (pc := 12) dX3_strikeThree_12 rfl ?_
  refine A_iloadn (pc := 13) dX3_strikeThree_13 rfl ?_
  refine A_iloadn (pc := 14) dX3_strikeThree_14 rfl ?_
  obtain ⟨q5, h6, hf⟩ := oi_b hf
  refine A_cV2i (mi2 := mX3_hoursOf) (pc := 15) dX3_strikeThree_15 lX3_123 fX3_hoursOf vX3_hoursOf (rv_0 hR) rfl (Nat.le_of_ble_eq_true rfl) rfl (Nat.le_of_ble_eq_true rfl) (wX3_hoursOf (by omega) hT hR h6) ?_
  refine A_mmin (pc := 18) dX3_strikeThree_18 lX3_81 amin_1 oJ9 amin_3 (Nat.le_of_ble_eq_true rfl) ?_
  refine A_mmin (pc := 21) dX3_strikeThree_21 lX3_81 amin_1 oJ9 amin_3 (Nat.le_of_ble_eq_true rfl) ?_
  have hf := oi_l hf
  refine A_ist (pc := 24) (L2 := [.ref r, .int a1, .int a2, .int a3, .int (if (if q5 < q3 then q5 else q3) < q1 then (if q5 < q3 then q5 else q3) else q1)]) dX3_strikeThree_24 (Nat.le_of_ble_eq_true rfl) rfl ?_
  refine A_iload (pc := 26) dX3_strikeThree_26 rfl ?_
  refine A_if_gt (pc := 28) (w := 0) 33 dX3_strikeThree_28 (by decide) (fun cc8 => ?_) (fun cc8 => ?_)
  · have hf := oi_t cc8 hf
    refine A_aloadn (pc := 33) dX3_strikeThree_33 rfl ?_
    refine A_iloadn (pc := 34) dX3_strikeThree_34 rfl ?_
    refine A_iloadn (pc := 35) dX3_strikeThree_35 rfl ?_
    refine A_iload (pc := 36) dX3_strikeThree_36 rfl ?_
    obtain ⟨q9, h10, hf⟩ := oi_b hf
    refine A_cV3v (mi2 := mX3_lessenHours) (pc := 38) dX3_strikeThree_38 lX3_134 fX3_lessenHours vX3_lessenHours (rv_0 hR) rfl (Nat.le_of_ble_eq_true rfl) rfl (Nat.le_of_ble_eq_true rfl) (wX3_lessenHours (by omega) hT hR h10) ?_
    refine A_aloadn (pc := 41) dX3_strikeThree_41 rfl ?_
    refine A_iloadn (pc := 42) dX3_strikeThree_42 rfl ?_
    refine A_iloadn (pc := 43) dX3_strikeThree_43 rfl ?_
    refine A_iload (pc := 44) dX3_strikeThree_44 rfl ?_
    obtain ⟨q11, h12, hf⟩ := oi_b hf
    refine A_cV3v (mi2 := mX3_lessenHours) (pc := 46) dX3_strikeThree_46 lX3_134 fX3_lessenHours vX3_lessenHours (rv_0 hR) rfl (Nat.le_of_ble_eq_true rfl) rfl (Nat.le_of_ble_eq_true rfl) (wX3_lessenHours (by omega) hT hR h12) ?_
    refine A_aloadn (pc := 49) dX3_strikeThree_49 rfl ?_
    refine A_iloadn (pc := 50) dX3_strikeThree_50 rfl ?_
    refine A_iloadn (pc := 51) dX3_strikeThree_51 rfl ?_
    refine A_iload (pc := 52) dX3_strikeThree_52 rfl ?_
    obtain ⟨q13, h14, hf⟩ := oi_b hf
    refine A_cV3v (mi2 := mX3_lessenHours) (pc := 54) dX3_strikeThree_54 lX3_134 fX3_lessenHours vX3_lessenHours (rv_0 hR) rfl (Nat.le_of_ble_eq_true rfl) rfl (Nat.le_of_ble_eq_true rfl) (wX3_lessenHours (by omega) hT hR h14) ?_
    refine A_iconst (pc := 57) 1 dX3_strikeThree_57 rfl ?_
    cases hf
    exact A_iret (pc := 58) dX3_strikeThree_58 rfl rfl ⟨rfl, rfl, rfl⟩
  have hf := oi_f cc8 hf
  refine A_iconst (pc := 31) 0 dX3_strikeThree_31 rfl ?_
  cases hf
  exact A_iret (pc := 32) dX3_strikeThree_32 rfl rfl ⟨rfl, rfl, rfl⟩
def zX3_strikeThrees_L29 (n : Nat) (r : Nat) (s2 : Int32) (s3 : Int32) (k : Int32 → Int32 → MU → Option (Int32 × MU)) : Nat → Int32 → Int32 → MU → Option (Int32 × MU)
  | 0, _, _, _ => none
  | m + 1, t1, t4, u => if (u r 3) ≤ t4 then (k t1 t4 u) else (if t4 = s3 then (letb (t1 + 0) (fun x10 => zX3_strikeThrees_L29 n r s2 s3 k m x10 (t4 + 1) u)) else (Option.bind (zX3_strikeThree n u r s2 s3 t4) (fun q7 => letb (t1 + q7.1) (fun x9 => zX3_strikeThrees_L29 n r s2 s3 k m x9 (t4 + 1) q7.2))))
def zX3_strikeThrees_L16 (n : Nat) (r : Nat) (s2 : Int32) (k : Int32 → Int32 → MU → Option (Int32 × MU)) : Nat → Int32 → Int32 → MU → Option (Int32 × MU)
  | 0, _, _, _ => none
  | m + 1, t1, t3, u => if (u r 3) ≤ t3 then (k t1 t3 u) else (letb (s2 + 1) (fun x4 => zX3_strikeThrees_L29 n r s2 t3 (fun y11 y12 w13 => zX3_strikeThrees_L16 n r s2 k m y11 (t3 + 1) w13) n t1 x4 u))
def zX3_strikeThrees_L4 (n : Nat) (r : Nat) (k : Int32 → Int32 → MU → Option (Int32 × MU)) : Nat → Int32 → Int32 → MU → Option (Int32 × MU)
  | 0, _, _, _ => none
  | m + 1, t1, t2, u => if (u r 3) ≤ t2 then (k t1 t2 u) else (letb (t2 + 1) (fun x2 => zX3_strikeThrees_L16 n r t2 (fun y14 y15 w16 => zX3_strikeThrees_L4 n r  k m y14 (t2 + 1) w16) n t1 x2 u))
def zX3_strikeThrees (n : Nat) (u : MU) (r : Nat) : Option (Int32 × MU) := zX3_strikeThrees_L4 n r  (fun y17 y18 w19 => some (y17, w19)) n 0 0 u
set_option maxHeartbeats 4000000 in
set_option maxRecDepth 100000 in
theorem wX3_strikeThrees_L29 {G : GG} {T : TT} {n d : Nat} (hd : 3 ≤ d) {r : Nat} {s2 : Int32} {s3 : Int32} {k : Int32 → Int32 → MU → Option (Int32 × MU)} (hT : LAY T) (hR : RV T r) (hk : ∀ (t1 : Int32) (t4 : Int32) (u : MU) (q : Int32 × MU), k t1 t4 u = some q → AW G d mX3_strikeThrees 65 [.ref r, .int t1, .int s2, .int s3, .int t4] [] T u 0 0 (QS T q.1 q.2)) : ∀ (m : Nat) (t1 : Int32) (t4 : Int32) (u : MU) (q : Int32 × MU), zX3_strikeThrees_L29 n r s2 s3 k m t1 t4 u = some q → AW G d mX3_strikeThrees 29 [.ref r, .int t1, .int s2, .int s3, .int t4] [] T u 0 0 (QS T q.1 q.2) := by
  intro m
  obtain ⟨d, rfl⟩ : ∃ e, d = e + 1 := ⟨d - 1, by omega⟩
  induction m with
  | zero =>
    intro t1 t4 u q hf
    have h0 : (none : Option (Int32 × MU)) = some q := hf
    cases h0
  | succ m ih =>
    intro t1 t4 u q hf
    rw [zX3_strikeThrees_L29] at hf
    refine A_iload (pc := 29) dX3_strikeThrees_29 rfl ?_
    refine A_aloadn (pc := 31) dX3_strikeThrees_31 rfl ?_
    refine A_getI (pc := 32) dX3_strikeThrees_32 gX3_21 (rv_0 hR) (Nat.le_of_ble_eq_true rfl) rfl ?_
    refine A_icmp_ge (pc := 35) 65 dX3_strikeThrees_35 (by decide) (fun cc5 => ?_) (fun cc5 => ?_)
    · have hf := oi_t cc5 hf
      exact hk _ _ _ _ hf
    have hf := oi_f cc5 hf
    refine A_iloadn (pc := 38) dX3_strikeThrees_38 rfl ?_
    refine A_iload (pc := 39) dX3_strikeThrees_39 rfl ?_
    refine A_iloadn (pc := 41) dX3_strikeThrees_41 rfl ?_
    refine A_icmp_ne (pc := 42) 49 dX3_strikeThrees_42 (by decide) (fun cc6 => ?_) (fun cc6 => ?_)
    · have hf := oi_f cc6 hf
      refine A_aloadn (pc := 49) dX3_strikeThrees_49 rfl ?_
      refine A_iloadn (pc := 50) dX3_strikeThrees_50 rfl ?_
      refine A_iloadn (pc := 51) dX3_strikeThrees_51 rfl ?_
      refine A_iload (pc := 52) dX3_strikeThrees_52 rfl ?_
      obtain ⟨q7, h8, hf⟩ := oi_b hf
      refine A_cV3i (mi2 := mX3_strikeThree) (pc := 54) dX3_strikeThrees_54 lX3_137 fX3_strikeThree vX3_strikeThree (rv_0 hR) rfl (Nat.le_of_ble_eq_true rfl) rfl (Nat.le_of_ble_eq_true rfl) (wX3_strikeThree (by omega) hT hR h8) ?_
      refine A_iadd (pc := 57) dX3_strikeThrees_57 ?_
      have hf := oi_l hf
      refine A_istn (pc := 58) (L2 := [.ref r, .int (t1 + q7.1), .int s2, .int s3, .int t4]) dX3_strikeThrees_58 (Nat.le_of_ble_eq_true rfl) rfl ?_
      refine A_inc (pc := 59) (L2 := [.ref r, .int (t1 + q7.1), .int s2, .int s3, .int (t4 + 1)]) (t4 + 1) dX3_strikeThrees_59 rfl rfl rfl ?_
      refine A_goto (pc := 62) 29 dX3_strikeThrees_62 (by decide) ?_
      exact ih _ _ _ _ hf
    have hf := oi_t cc6 hf
    refine A_iconst (pc := 45) 0 dX3_strikeThrees_45 rfl ?_
    refine A_goto (pc := 46) 57 dX3_strikeThrees_46 (by decide) ?_
    refine A_iadd (pc := 57) dX3_strikeThrees_57 ?_
    have hf := oi_l hf
    refine A_istn (pc := 58) (L2 := [.ref r, .int (t1 + 0), .int s2, .int s3, .int t4]) dX3_strikeThrees_58 (Nat.le_of_ble_eq_true rfl) rfl ?_
    refine A_inc (pc := 59) (L2 := [.ref r, .int (t1 + 0), .int s2, .int s3, .int (t4 + 1)]) (t4 + 1) dX3_strikeThrees_59 rfl rfl rfl ?_
    refine A_goto (pc := 62) 29 dX3_strikeThrees_62 (by decide) ?_
    exact ih _ _ _ _ hf
set_option maxHeartbeats 4000000 in
set_option maxRecDepth 100000 in
theorem wX3_strikeThrees_L16 {G : GG} {T : TT} {n d : Nat} (hd : 3 ≤ d) {r : Nat} {s2 : Int32} {k : Int32 → Int32 → MU → Option (Int32 × MU)} (hT : LAY T) (hR : RV T r) (hk : ∀ (t1 : Int32) (t3 : Int32) (u : MU) (q : Int32 × MU), k t1 t3 u = some q → AW G d mX3_strikeThrees 71 [.ref r, .int t1, .int s2, .int t3, .null] [] T u 0 0 (QS T q.1 q.2)) : ∀ (m : Nat) (t1 : Int32) (t3 : Int32) (u : MU) (q : Int32 × MU), zX3_strikeThrees_L16 n r s2 k m t1 t3 u = some q → AW G d mX3_strikeThrees 16 [.ref r, .int t1, .int s2, .int t3, .null] [] T u 0 0 (QS T q.1 q.2) := by
  intro m
  obtain ⟨d, rfl⟩ : ∃ e, d = e + 1 := ⟨d - 1, by omega⟩
  induction m with
  | zero =>
    intro t1 t3 u q hf
    have h0 : (none : Option (Int32 × MU)) = some q := hf
    cases h0
  | succ m ih =>
    intro t1 t3 u q hf
    rw [zX3_strikeThrees_L16] at hf
    refine A_iloadn (pc := 16) dX3_strikeThrees_16 rfl ?_
    refine A_aloadn (pc := 17) dX3_strikeThrees_17 rfl ?_
    refine A_getI (pc := 18) dX3_strikeThrees_18 gX3_21 (rv_0 hR) (Nat.le_of_ble_eq_true rfl) rfl ?_
    refine A_icmp_ge (pc := 21) 71 dX3_strikeThrees_21 (by decide) (fun cc3 => ?_) (fun cc3 => ?_)
    · have hf := oi_t cc3 hf
      exact hk _ _ _ _ hf
    have hf := oi_f cc3 hf
    refine A_iloadn (pc := 24) dX3_strikeThrees_24 rfl ?_
    refine A_iconst (pc := 25) 1 dX3_strikeThrees_25 rfl ?_
    refine A_iadd (pc := 26) dX3_strikeThrees_26 ?_
    have hf := oi_l hf
    refine A_ist (pc := 27) (L2 := [.ref r, .int t1, .int s2, .int t3, .int (s2 + 1)]) dX3_strikeThrees_27 (Nat.le_of_ble_eq_true rfl) rfl ?_
    exact wX3_strikeThrees_L29 (by omega) hT hR (fun y11 y12 w13 q0 hf => by
      refine A_inc (pc := 65) (L2 := [.ref r, .int y11, .int s2, .int (t3 + 1), .int y12]) (t3 + 1) dX3_strikeThrees_65 rfl rfl rfl ?_
      refine A_goto (pc := 68) 16 dX3_strikeThrees_68 (by decide) ?_
      refine A_fgt 4 (L' := [.ref r, .int y11, .int s2, .int (t3 + 1), .null]) rfl ?_
      exact ih _ _ _ _ hf) _ _ _ _ _ hf
set_option maxHeartbeats 4000000 in
set_option maxRecDepth 100000 in
theorem wX3_strikeThrees_L4 {G : GG} {T : TT} {n d : Nat} (hd : 3 ≤ d) {r : Nat} {k : Int32 → Int32 → MU → Option (Int32 × MU)} (hT : LAY T) (hR : RV T r) (hk : ∀ (t1 : Int32) (t2 : Int32) (u : MU) (q : Int32 × MU), k t1 t2 u = some q → AW G d mX3_strikeThrees 77 [.ref r, .int t1, .int t2, .null, .null] [] T u 0 0 (QS T q.1 q.2)) : ∀ (m : Nat) (t1 : Int32) (t2 : Int32) (u : MU) (q : Int32 × MU), zX3_strikeThrees_L4 n r k m t1 t2 u = some q → AW G d mX3_strikeThrees 4 [.ref r, .int t1, .int t2, .null, .null] [] T u 0 0 (QS T q.1 q.2) := by
  intro m
  obtain ⟨d, rfl⟩ : ∃ e, d = e + 1 := ⟨d - 1, by omega⟩
  induction m with
  | zero =>
    intro t1 t2 u q hf
    have h0 : (none : Option (Int32 × MU)) = some q := hf
    cases h0
  | succ m ih =>
    intro t1 t2 u q hf
    rw [zX3_strikeThrees_L4] at hf
    refine A_iloadn (pc := 4) dX3_strikeThrees_4 rfl ?_
    refine A_aloadn (pc := 5) dX3_strikeThrees_5 rfl ?_
    refine A_getI (pc := 6) dX3_strikeThrees_6 gX3_21 (rv_0 hR) (Nat.le_of_ble_eq_true rfl) rfl ?_
    refine A_icmp_ge (pc := 9) 77 dX3_strikeThrees_9 (by decide) (fun cc1 => ?_) (fun cc1 => ?_)
    · have hf := oi_t cc1 hf
      exact hk _ _ _ _ hf
    have hf := oi_f cc1 hf
    refine A_iloadn (pc := 12) dX3_strikeThrees_12 rfl ?_
    refine A_iconst (pc := 13) 1 dX3_strikeThrees_13 rfl ?_
    refine A_iadd (pc := 14) dX3_strikeThrees_14 ?_
    have hf := oi_l hf
    refine A_istn (pc := 15) (L2 := [.ref r, .int t1, .int t2, .int (t2 + 1), .null]) dX3_strikeThrees_15 (Nat.le_of_ble_eq_true rfl) rfl ?_
    exact wX3_strikeThrees_L16 (by omega) hT hR (fun y14 y15 w16 q0 hf => by
      refine A_inc (pc := 71) (L2 := [.ref r, .int y14, .int (t2 + 1), .int y15, .null]) (t2 + 1) dX3_strikeThrees_71 rfl rfl rfl ?_
      refine A_goto (pc := 74) 4 dX3_strikeThrees_74 (by decide) ?_
      refine A_fgt 3 (L' := [.ref r, .int y14, .int (t2 + 1), .null, .null]) rfl ?_
      exact ih _ _ _ _ hf) _ _ _ _ _ hf
set_option maxHeartbeats 4000000 in
set_option maxRecDepth 100000 in
theorem wX3_strikeThrees {G : GG} {T : TT} {n d : Nat} (hd : 3 ≤ d) {q : Int32 × MU} {u : MU} {r : Nat} (hT : LAY T) (hR : RV T r) (hf : zX3_strikeThrees n u r = some q) : AW G d mX3_strikeThrees 0 [.ref r, .null, .null, .null, .null] [] T u 0 0 (QS T q.1 q.2) := by
  obtain ⟨d, rfl⟩ : ∃ e, d = e + 1 := ⟨d - 1, by omega⟩
  rw [zX3_strikeThrees] at hf
  refine A_iconst (pc := 0) 0 dX3_strikeThrees_0 rfl ?_
  refine A_istn (pc := 1) (L2 := [.ref r, .int 0, .null, .null, .null]) dX3_strikeThrees_1 (Nat.le_of_ble_eq_true rfl) rfl ?_
  refine A_iconst (pc := 2) 0 dX3_strikeThrees_2 rfl ?_
  refine A_istn (pc := 3) (L2 := [.ref r, .int 0, .int 0, .null, .null]) dX3_strikeThrees_3 (Nat.le_of_ble_eq_true rfl) rfl ?_
  exact wX3_strikeThrees_L4 (by omega) hT hR (fun y17 y18 w19 q0 hf => by
    refine A_iloadn (pc := 77) dX3_strikeThrees_77 rfl ?_
    cases hf
    exact A_iret (pc := 78) dX3_strikeThrees_78 rfl rfl ⟨rfl, rfl, rfl⟩) _ _ _ _ _ hf
