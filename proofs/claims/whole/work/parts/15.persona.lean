def zX2_cools (n : Nat) (u : MU) (p : Nat) (a1 : Int32) : Option (Int32) := if (u p 0) = 2 then (some (2 * (a1 + 1))) else if (u p 0) = 4 then (some (if 1 < a1 then a1 else 1)) else if (u p 0) = 5 then (some 1) else (some (a1 + 1))
set_option maxHeartbeats 4000000 in
set_option maxRecDepth 100000 in
theorem wX2_cools {G : GG} {T : TT} {n d : Nat} (hd : 1 ≤ d) {q : Int32} {u : MU} {p : Nat} {a1 : Int32} (hT : LAY T) (hP : T.1[p]? = some (4, 6)) (hf : zX2_cools n u p a1 = some q) : AW G d mX2_cools 0 [.ref p, .int a1] [] T u 0 0 (QS T q u) := by
  obtain ⟨d, rfl⟩ : ∃ e, d = e + 1 := ⟨d - 1, by omega⟩
  rw [zX2_cools] at hf
  refine A_aloadn (pc := 0) dX2_cools_0 rfl ?_
  refine A_getI (pc := 1) dX2_cools_1 gX2_9 hP (Nat.le_of_ble_eq_true rfl) rfl ?_
  by_cases cc1 : (u p 0) = 2
  · have hf := oi_t cc1 hf
    refine A_tabIn (pc := 4) 36 dX2_cools_4 (by rw [cc1]; decide) (by rw [cc1]; decide) (off := 32) (by rw [cc1]; decide) (by decide) ?_
    refine A_iconst (pc := 36) 2 dX2_cools_36 rfl ?_
    refine A_iloadn (pc := 37) dX2_cools_37 rfl ?_
    refine A_iconst (pc := 38) 1 dX2_cools_38 rfl ?_
    refine A_iadd (pc := 39) dX2_cools_39 ?_
    refine A_imul (pc := 40) dX2_cools_40 ?_
    cases hf
    exact A_iret (pc := 41) dX2_cools_41 rfl rfl ⟨rfl, rfl, rfl⟩
  have hf := oi_f cc1 hf
  by_cases cc2 : (u p 0) = 4
  · have hf := oi_t cc2 hf
    refine A_tabIn (pc := 4) 42 dX2_cools_4 (by rw [cc2]; decide) (by rw [cc2]; decide) (off := 38) (by rw [cc2]; decide) (by decide) ?_
    refine A_iconst (pc := 42) 1 dX2_cools_42 rfl ?_
    refine A_iloadn (pc := 43) dX2_cools_43 rfl ?_
    refine A_mmax (pc := 44) dX2_cools_44 lX2_31 amax_1 oJ9 amax_3 (Nat.le_of_ble_eq_true rfl) ?_
    cases hf
    exact A_iret (pc := 47) dX2_cools_47 rfl rfl ⟨rfl, rfl, rfl⟩
  have hf := oi_f cc2 hf
  by_cases cc3 : (u p 0) = 5
  · have hf := oi_t cc3 hf
    refine A_tabIn (pc := 4) 48 dX2_cools_4 (by rw [cc3]; decide) (by rw [cc3]; decide) (off := 44) (by rw [cc3]; decide) (by decide) ?_
    refine A_iconst (pc := 48) 1 dX2_cools_48 rfl ?_
    cases hf
    exact A_iret (pc := 49) dX2_cools_49 rfl rfl ⟨rfl, rfl, rfl⟩
  have hf := oi_f cc3 hf
  have ecc1 : (u p 0).toInt ≠ 2 := fun h9 => cc1 (Int32.toInt_inj.mp (h9.trans (by decide : (2 : Int) = (2 : Int32).toInt)))
  have ecc2 : (u p 0).toInt ≠ 4 := fun h9 => cc2 (Int32.toInt_inj.mp (h9.trans (by decide : (4 : Int) = (4 : Int32).toInt)))
  have ecc3 : (u p 0).toInt ≠ 5 := fun h9 => cc3 (Int32.toInt_inj.mp (h9.trans (by decide : (5 : Int) = (5 : Int32).toInt)))
  by_cases z3 : (u p 0) = 3
  · refine A_tabIn (pc := 4) 50 dX2_cools_4 (by rw [z3]; decide) (by rw [z3]; decide) (off := 46) (by rw [z3]; decide) (by decide) ?_
    refine A_iloadn (pc := 50) dX2_cools_50 rfl ?_
    refine A_iconst (pc := 51) 1 dX2_cools_51 rfl ?_
    refine A_iadd (pc := 52) dX2_cools_52 ?_
    cases hf
    exact A_iret (pc := 53) dX2_cools_53 rfl rfl ⟨rfl, rfl, rfl⟩
  have ez3 : (u p 0).toInt ≠ 3 := fun h9 => z3 (Int32.toInt_inj.mp (h9.trans (by decide : (3 : Int) = (3 : Int32).toInt)))
  refine A_tabOut (pc := 4) 50 dX2_cools_4 (by omega) (by decide) ?_
  refine A_iloadn (pc := 50) dX2_cools_50 rfl ?_
  refine A_iconst (pc := 51) 1 dX2_cools_51 rfl ?_
  refine A_iadd (pc := 52) dX2_cools_52 ?_
  cases hf
  exact A_iret (pc := 53) dX2_cools_53 rfl rfl ⟨rfl, rfl, rfl⟩
def zX2_minutes (n : Nat) (u : MU) (p : Nat) (a1 : Int32) : Option (Int32) := Option.bind (zX2_cools n u p a1) (fun q1 => if 1 ≤ q1 then (if q1 = 0 then none else some ((u p 4) / q1)) else (some 0))
set_option maxHeartbeats 4000000 in
set_option maxRecDepth 100000 in
theorem wX2_minutes {G : GG} {T : TT} {n d : Nat} (hd : 2 ≤ d) {q : Int32} {u : MU} {p : Nat} {a1 : Int32} (hT : LAY T) (hP : T.1[p]? = some (4, 6)) (hf : zX2_minutes n u p a1 = some q) : AW G d mX2_minutes 0 [.ref p, .int a1, .null] [] T u 0 0 (QS T q u) := by
  obtain ⟨d, rfl⟩ : ∃ e, d = e + 1 := ⟨d - 1, by omega⟩
  rw [zX2_minutes] at hf
  refine A_aloadn (pc := 0) dX2_minutes_0 rfl ?_
  refine A_iloadn (pc := 1) dX2_minutes_1 rfl ?_
  obtain ⟨q1, h2, hf⟩ := oi_b hf
  refine A_cV1i (mi2 := mX2_cools) (pc := 2) dX2_minutes_2 lX2_37 fX2_cools vX2_cools hP rfl (Nat.le_of_ble_eq_true rfl) rfl (Nat.le_of_ble_eq_true rfl) (wX2_cools (by omega) hT hP h2) ?_
  refine A_istn (pc := 5) (L2 := [.ref p, .int a1, .int q1]) dX2_minutes_5 (Nat.le_of_ble_eq_true rfl) rfl ?_
  refine A_iloadn (pc := 6) dX2_minutes_6 rfl ?_
  refine A_iconst (pc := 7) 1 dX2_minutes_7 rfl ?_
  refine A_icmp_ge (pc := 8) 15 dX2_minutes_8 (by decide) (fun cc3 => ?_) (fun cc3 => ?_)
  · have hf := oi_t cc3 hf
    refine A_aloadn (pc := 15) dX2_minutes_15 rfl ?_
    refine A_getI (pc := 16) dX2_minutes_16 gX2_24 hP (Nat.le_of_ble_eq_true rfl) rfl ?_
    refine A_iloadn (pc := 19) dX2_minutes_19 rfl ?_
    obtain ⟨h4, hf⟩ := oi_cf hf
    refine A_idiv (pc := 20) dX2_minutes_20 h4 ?_
    cases hf
    exact A_iret (pc := 21) dX2_minutes_21 rfl rfl ⟨rfl, rfl, rfl⟩
  have hf := oi_f cc3 hf
  refine A_iconst (pc := 11) 0 dX2_minutes_11 rfl ?_
  refine A_goto (pc := 12) 21 dX2_minutes_12 (by decide) ?_
  cases hf
  exact A_iret (pc := 21) dX2_minutes_21 rfl rfl ⟨rfl, rfl, rfl⟩
def zX2_reaches (n : Nat) (u : MU) (p : Nat) : Option (Int32) := if (u p 0) = 1 then (some ((u p 2) + 2)) else if (u p 0) = 2 then (some ((u p 2) / 2)) else if (u p 0) = 3 then (some 99) else if (u p 0) = 4 then (some ((u p 2) + 2)) else if (u p 0) = 5 then (some ((u p 2) + 2)) else (some (u p 2))
set_option maxHeartbeats 4000000 in
set_option maxRecDepth 100000 in
theorem wX2_reaches {G : GG} {T : TT} {n d : Nat} (hd : 0 ≤ d) {q : Int32} {u : MU} {p : Nat} (hT : LAY T) (hP : T.1[p]? = some (4, 6)) (hf : zX2_reaches n u p = some q) : AW G d mX2_reaches 0 [.ref p] [] T u 0 0 (QS T q u) := by
  rw [zX2_reaches] at hf
  refine A_aloadn (pc := 0) dX2_reaches_0 rfl ?_
  refine A_getI (pc := 1) dX2_reaches_1 gX2_9 hP (Nat.le_of_ble_eq_true rfl) rfl ?_
  by_cases cc1 : (u p 0) = 1
  · have hf := oi_t cc1 hf
    refine A_tabIn (pc := 4) 40 dX2_reaches_4 (by rw [cc1]; decide) (by rw [cc1]; decide) (off := 36) (by rw [cc1]; decide) (by decide) ?_
    refine A_aloadn (pc := 40) dX2_reaches_40 rfl ?_
    refine A_getI (pc := 41) dX2_reaches_41 gX2_18 hP (Nat.le_of_ble_eq_true rfl) rfl ?_
    refine A_iconst (pc := 44) 2 dX2_reaches_44 rfl ?_
    refine A_iadd (pc := 45) dX2_reaches_45 ?_
    cases hf
    exact A_iret (pc := 46) dX2_reaches_46 rfl rfl ⟨rfl, rfl, rfl⟩
  have hf := oi_f cc1 hf
  by_cases cc2 : (u p 0) = 2
  · have hf := oi_t cc2 hf
    refine A_tabIn (pc := 4) 47 dX2_reaches_4 (by rw [cc2]; decide) (by rw [cc2]; decide) (off := 43) (by rw [cc2]; decide) (by decide) ?_
    refine A_aloadn (pc := 47) dX2_reaches_47 rfl ?_
    refine A_getI (pc := 48) dX2_reaches_48 gX2_18 hP (Nat.le_of_ble_eq_true rfl) rfl ?_
    refine A_iconst (pc := 51) 2 dX2_reaches_51 rfl ?_
    refine A_idiv (pc := 52) dX2_reaches_52 (by decide) ?_
    cases hf
    exact A_iret (pc := 53) dX2_reaches_53 rfl rfl ⟨rfl, rfl, rfl⟩
  have hf := oi_f cc2 hf
  by_cases cc3 : (u p 0) = 3
  · have hf := oi_t cc3 hf
    refine A_tabIn (pc := 4) 54 dX2_reaches_4 (by rw [cc3]; decide) (by rw [cc3]; decide) (off := 50) (by rw [cc3]; decide) (by decide) ?_
    refine A_bipush (pc := 54) 99 dX2_reaches_54 rfl ?_
    cases hf
    exact A_iret (pc := 56) dX2_reaches_56 rfl rfl ⟨rfl, rfl, rfl⟩
  have hf := oi_f cc3 hf
  by_cases cc4 : (u p 0) = 4
  · have hf := oi_t cc4 hf
    refine A_tabIn (pc := 4) 40 dX2_reaches_4 (by rw [cc4]; decide) (by rw [cc4]; decide) (off := 36) (by rw [cc4]; decide) (by decide) ?_
    refine A_aloadn (pc := 40) dX2_reaches_40 rfl ?_
    refine A_getI (pc := 41) dX2_reaches_41 gX2_18 hP (Nat.le_of_ble_eq_true rfl) rfl ?_
    refine A_iconst (pc := 44) 2 dX2_reaches_44 rfl ?_
    refine A_iadd (pc := 45) dX2_reaches_45 ?_
    cases hf
    exact A_iret (pc := 46) dX2_reaches_46 rfl rfl ⟨rfl, rfl, rfl⟩
  have hf := oi_f cc4 hf
  by_cases cc5 : (u p 0) = 5
  · have hf := oi_t cc5 hf
    refine A_tabIn (pc := 4) 40 dX2_reaches_4 (by rw [cc5]; decide) (by rw [cc5]; decide) (off := 36) (by rw [cc5]; decide) (by decide) ?_
    refine A_aloadn (pc := 40) dX2_reaches_40 rfl ?_
    refine A_getI (pc := 41) dX2_reaches_41 gX2_18 hP (Nat.le_of_ble_eq_true rfl) rfl ?_
    refine A_iconst (pc := 44) 2 dX2_reaches_44 rfl ?_
    refine A_iadd (pc := 45) dX2_reaches_45 ?_
    cases hf
    exact A_iret (pc := 46) dX2_reaches_46 rfl rfl ⟨rfl, rfl, rfl⟩
  have hf := oi_f cc5 hf
  have ecc1 : (u p 0).toInt ≠ 1 := fun h9 => cc1 (Int32.toInt_inj.mp (h9.trans (by decide : (1 : Int) = (1 : Int32).toInt)))
  have ecc2 : (u p 0).toInt ≠ 2 := fun h9 => cc2 (Int32.toInt_inj.mp (h9.trans (by decide : (2 : Int) = (2 : Int32).toInt)))
  have ecc3 : (u p 0).toInt ≠ 3 := fun h9 => cc3 (Int32.toInt_inj.mp (h9.trans (by decide : (3 : Int) = (3 : Int32).toInt)))
  have ecc4 : (u p 0).toInt ≠ 4 := fun h9 => cc4 (Int32.toInt_inj.mp (h9.trans (by decide : (4 : Int) = (4 : Int32).toInt)))
  have ecc5 : (u p 0).toInt ≠ 5 := fun h9 => cc5 (Int32.toInt_inj.mp (h9.trans (by decide : (5 : Int) = (5 : Int32).toInt)))
  refine A_tabOut (pc := 4) 57 dX2_reaches_4 (by omega) (by decide) ?_
  refine A_aloadn (pc := 57) dX2_reaches_57 rfl ?_
  refine A_getI (pc := 58) dX2_reaches_58 gX2_18 hP (Nat.le_of_ble_eq_true rfl) rfl ?_
  cases hf
  exact A_iret (pc := 61) dX2_reaches_61 rfl rfl ⟨rfl, rfl, rfl⟩
def zX2_holds (n : Nat) (u : MU) (p : Nat) : Option (Int32) := if (u p 0) = 2 then (some (if 0 < ((u p 3) - 2) then ((u p 3) - 2) else 0)) else if (u p 0) = 3 then (some ((u p 3) / 2)) else if (u p 0) = 4 then (some ((u p 3) + (u p 1))) else if (u p 0) = 5 then (some ((u p 3) + (u p 1))) else (some (u p 3))
set_option maxHeartbeats 4000000 in
set_option maxRecDepth 100000 in
theorem wX2_holds {G : GG} {T : TT} {n d : Nat} (hd : 1 ≤ d) {q : Int32} {u : MU} {p : Nat} (hT : LAY T) (hP : T.1[p]? = some (4, 6)) (hf : zX2_holds n u p = some q) : AW G d mX2_holds 0 [.ref p] [] T u 0 0 (QS T q u) := by
  obtain ⟨d, rfl⟩ : ∃ e, d = e + 1 := ⟨d - 1, by omega⟩
  rw [zX2_holds] at hf
  refine A_aloadn (pc := 0) dX2_holds_0 rfl ?_
  refine A_getI (pc := 1) dX2_holds_1 gX2_9 hP (Nat.le_of_ble_eq_true rfl) rfl ?_
  by_cases cc1 : (u p 0) = 2
  · have hf := oi_t cc1 hf
    refine A_tabIn (pc := 4) 36 dX2_holds_4 (by rw [cc1]; decide) (by rw [cc1]; decide) (off := 32) (by rw [cc1]; decide) (by decide) ?_
    refine A_iconst (pc := 36) 0 dX2_holds_36 rfl ?_
    refine A_aloadn (pc := 37) dX2_holds_37 rfl ?_
    refine A_getI (pc := 38) dX2_holds_38 gX2_21 hP (Nat.le_of_ble_eq_true rfl) rfl ?_
    refine A_iconst (pc := 41) 2 dX2_holds_41 rfl ?_
    refine A_isub (pc := 42) dX2_holds_42 ?_
    refine A_mmax (pc := 43) dX2_holds_43 lX2_31 amax_1 oJ9 amax_3 (Nat.le_of_ble_eq_true rfl) ?_
    cases hf
    exact A_iret (pc := 46) dX2_holds_46 rfl rfl ⟨rfl, rfl, rfl⟩
  have hf := oi_f cc1 hf
  by_cases cc2 : (u p 0) = 3
  · have hf := oi_t cc2 hf
    refine A_tabIn (pc := 4) 47 dX2_holds_4 (by rw [cc2]; decide) (by rw [cc2]; decide) (off := 43) (by rw [cc2]; decide) (by decide) ?_
    refine A_aloadn (pc := 47) dX2_holds_47 rfl ?_
    refine A_getI (pc := 48) dX2_holds_48 gX2_21 hP (Nat.le_of_ble_eq_true rfl) rfl ?_
    refine A_iconst (pc := 51) 2 dX2_holds_51 rfl ?_
    refine A_idiv (pc := 52) dX2_holds_52 (by decide) ?_
    cases hf
    exact A_iret (pc := 53) dX2_holds_53 rfl rfl ⟨rfl, rfl, rfl⟩
  have hf := oi_f cc2 hf
  by_cases cc3 : (u p 0) = 4
  · have hf := oi_t cc3 hf
    refine A_tabIn (pc := 4) 54 dX2_holds_4 (by rw [cc3]; decide) (by rw [cc3]; decide) (off := 50) (by rw [cc3]; decide) (by decide) ?_
    refine A_aloadn (pc := 54) dX2_holds_54 rfl ?_
    refine A_getI (pc := 55) dX2_holds_55 gX2_21 hP (Nat.le_of_ble_eq_true rfl) rfl ?_
    refine A_aloadn (pc := 58) dX2_holds_58 rfl ?_
    refine A_getI (pc := 59) dX2_holds_59 gX2_15 hP (Nat.le_of_ble_eq_true rfl) rfl ?_
    refine A_iadd (pc := 62) dX2_holds_62 ?_
    cases hf
    exact A_iret (pc := 63) dX2_holds_63 rfl rfl ⟨rfl, rfl, rfl⟩
  have hf := oi_f cc3 hf
  by_cases cc4 : (u p 0) = 5
  · have hf := oi_t cc4 hf
    refine A_tabIn (pc := 4) 54 dX2_holds_4 (by rw [cc4]; decide) (by rw [cc4]; decide) (off := 50) (by rw [cc4]; decide) (by decide) ?_
    refine A_aloadn (pc := 54) dX2_holds_54 rfl ?_
    refine A_getI (pc := 55) dX2_holds_55 gX2_21 hP (Nat.le_of_ble_eq_true rfl) rfl ?_
    refine A_aloadn (pc := 58) dX2_holds_58 rfl ?_
    refine A_getI (pc := 59) dX2_holds_59 gX2_15 hP (Nat.le_of_ble_eq_true rfl) rfl ?_
    refine A_iadd (pc := 62) dX2_holds_62 ?_
    cases hf
    exact A_iret (pc := 63) dX2_holds_63 rfl rfl ⟨rfl, rfl, rfl⟩
  have hf := oi_f cc4 hf
  have ecc1 : (u p 0).toInt ≠ 2 := fun h9 => cc1 (Int32.toInt_inj.mp (h9.trans (by decide : (2 : Int) = (2 : Int32).toInt)))
  have ecc2 : (u p 0).toInt ≠ 3 := fun h9 => cc2 (Int32.toInt_inj.mp (h9.trans (by decide : (3 : Int) = (3 : Int32).toInt)))
  have ecc3 : (u p 0).toInt ≠ 4 := fun h9 => cc3 (Int32.toInt_inj.mp (h9.trans (by decide : (4 : Int) = (4 : Int32).toInt)))
  have ecc4 : (u p 0).toInt ≠ 5 := fun h9 => cc4 (Int32.toInt_inj.mp (h9.trans (by decide : (5 : Int) = (5 : Int32).toInt)))
  refine A_tabOut (pc := 4) 64 dX2_holds_4 (by omega) (by decide) ?_
  refine A_aloadn (pc := 64) dX2_holds_64 rfl ?_
  refine A_getI (pc := 65) dX2_holds_65 gX2_21 hP (Nat.le_of_ble_eq_true rfl) rfl ?_
  cases hf
  exact A_iret (pc := 68) dX2_holds_68 rfl rfl ⟨rfl, rfl, rfl⟩
def zX2_copyFrom (n : Nat) (u : MU) (p : Nat) (p1 : Nat) : Option (MU) := letb (up2 u p 0 (u p1 0)) (fun u1 => letb (up2 u1 p 1 (u1 p1 1)) (fun u2 => letb (up2 u2 p 2 (u2 p1 2)) (fun u3 => letb (up2 u3 p 3 (u3 p1 3)) (fun u4 => letb (up2 u4 p 4 (u4 p1 4)) (fun u5 => if (u5 p1 5) = 0 ∨ (u5 p1 5) = 1 then (letb (up2 u5 p 5 (u5 p1 5)) (fun u7 => some u7)) else none)))))
set_option maxHeartbeats 4000000 in
set_option maxRecDepth 100000 in
theorem wX2_copyFrom {G : GG} {T : TT} {n d : Nat} (hd : 0 ≤ d) {q : MU} {u : MU} {p : Nat} {p1 : Nat} (hT : LAY T) (hP : T.1[p]? = some (4, 6)) (hP1 : T.1[p1]? = some (4, 6)) (hf : zX2_copyFrom n u p p1 = some q) : AW G d mX2_copyFrom 0 [.ref p, .ref p1] [] T u 0 0 (QV T q) := by
  rw [zX2_copyFrom] at hf
  refine A_aloadn (pc := 0) dX2_copyFrom_0 rfl ?_
  refine A_aloadn (pc := 1) dX2_copyFrom_1 rfl ?_
  refine A_getI (pc := 2) dX2_copyFrom_2 gX2_9 hP1 (Nat.le_of_ble_eq_true rfl) rfl ?_
  have hf := oi_l hf
  refine A_putI (pc := 5) dX2_copyFrom_5 gX2_9 hP (Nat.le_of_ble_eq_true rfl) rfl rfl rfl rfl ?_
  refine A_aloadn (pc := 8) dX2_copyFrom_8 rfl ?_
  refine A_aloadn (pc := 9) dX2_copyFrom_9 rfl ?_
  refine A_getI (pc := 10) dX2_copyFrom_10 gX2_15 hP1 (Nat.le_of_ble_eq_true rfl) rfl ?_
  have hf := oi_l hf
  refine A_putI (pc := 13) dX2_copyFrom_13 gX2_15 hP (Nat.le_of_ble_eq_true rfl) rfl rfl rfl rfl ?_
  refine A_aloadn (pc := 16) dX2_copyFrom_16 rfl ?_
  refine A_aloadn (pc := 17) dX2_copyFrom_17 rfl ?_
  refine A_getI (pc := 18) dX2_copyFrom_18 gX2_18 hP1 (Nat.le_of_ble_eq_true rfl) rfl ?_
  have hf := oi_l hf
  refine A_putI (pc := 21) dX2_copyFrom_21 gX2_18 hP (Nat.le_of_ble_eq_true rfl) rfl rfl rfl rfl ?_
  refine A_aloadn (pc := 24) dX2_copyFrom_24 rfl ?_
  refine A_aloadn (pc := 25) dX2_copyFrom_25 rfl ?_
  refine A_getI (pc := 26) dX2_copyFrom_26 gX2_21 hP1 (Nat.le_of_ble_eq_true rfl) rfl ?_
  have hf := oi_l hf
  refine A_putI (pc := 29) dX2_copyFrom_29 gX2_21 hP (Nat.le_of_ble_eq_true rfl) rfl rfl rfl rfl ?_
  refine A_aloadn (pc := 32) dX2_copyFrom_32 rfl ?_
  refine A_aloadn (pc := 33) dX2_copyFrom_33 rfl ?_
  refine A_getI (pc := 34) dX2_copyFrom_34 gX2_24 hP1 (Nat.le_of_ble_eq_true rfl) rfl ?_
  have hf := oi_l hf
  refine A_putI (pc := 37) dX2_copyFrom_37 gX2_24 hP (Nat.le_of_ble_eq_true rfl) rfl rfl rfl rfl ?_
  refine A_aloadn (pc := 40) dX2_copyFrom_40 rfl ?_
  refine A_aloadn (pc := 41) dX2_copyFrom_41 rfl ?_
  refine A_getI (pc := 42) dX2_copyFrom_42 gX2_27 hP1 (Nat.le_of_ble_eq_true rfl) rfl ?_
  obtain ⟨h6, hf⟩ := oi_ck hf
  have hf := oi_l hf
  refine A_putI (pc := 45) dX2_copyFrom_45 gX2_27 hP (Nat.le_of_ble_eq_true rfl) rfl rfl (bck_n h6) (bck_f h6) ?_
  cases hf
  exact A_vret (pc := 48) dX2_copyFrom_48 rfl ⟨rfl, rfl, rfl⟩
