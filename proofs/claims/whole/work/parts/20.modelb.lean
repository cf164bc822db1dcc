def zX5_comesOne_L116 (n : Nat) (k : Int32 → MU → Option (Int32 × MU)) : Nat → Int32 → MU → Option (Int32 × MU)
  | 0, _, _ => none
  | m + 1, t2, u => if 7 ≤ t2 then (k t2 u) else (if oob ((7 * (u 53 13)) + t2) 49 then none else letb (up2 u 64 ((7 * (u 53 13)) + t2).toNatClampNeg 0) (fun u23 => if oob ((7 * t2) + (u23 53 13)) 49 then none else letb (up2 u23 64 ((7 * t2) + (u23 53 13)).toNatClampNeg 0) (fun u25 => if oob ((7 * (u25 53 13)) + t2) 49 then none else letb (up2 u25 65 ((7 * (u25 53 13)) + t2).toNatClampNeg 0) (fun u27 => if oob ((7 * t2) + (u27 53 13)) 49 then none else letb (up2 u27 65 ((7 * t2) + (u27 53 13)).toNatClampNeg 0) (fun u29 => zX5_comesOne_L116 n   k m (t2 + 1) u29)))))
def zX5_comesOne (n : Nat) (u : MU) (a1 : Int32) : Option (Int32 × MU) := if oob a1 200 then none else if 5 < (u 69 a1.toNatClampNeg) then (some (0, u)) else (if (u 53 13) = 7 then (some (0, u)) else (if oob a1 200 then none else if oob (u 53 13) 7 then none else letb (up2 u 58 (u 53 13).toNatClampNeg (u 69 a1.toNatClampNeg)) (fun u6 => if oob (a1 + 1) 200 then none else if oob (u6 53 13) 7 then none else letb (up2 u6 59 (u6 53 13).toNatClampNeg (u6 69 (a1 + 1).toNatClampNeg)) (fun u9 => if oob (a1 + 2) 200 then none else if oob (u9 53 13) 7 then none else letb (up2 u9 60 (u9 53 13).toNatClampNeg (u9 69 (a1 + 2).toNatClampNeg)) (fun u12 => if oob (a1 + 3) 200 then none else if oob (u12 53 13) 7 then none else letb (up2 u12 61 (u12 53 13).toNatClampNeg (u12 69 (a1 + 3).toNatClampNeg)) (fun u15 => if oob (a1 + 4) 200 then none else if oob (u15 53 13) 7 then none else letb (up2 u15 62 (u15 53 13).toNatClampNeg (u15 69 (a1 + 4).toNatClampNeg)) (fun u18 => if oob (u18 53 13) 7 then none else letb (up2 u18 63 (u18 53 13).toNatClampNeg 0) (fun u20 => zX5_comesOne_L116 n   (fun y30 w31 => letb (up2 w31 53 13 ((w31 53 13) + 1)) (fun u32 => some (1, u32))) n 0 u20))))))))
set_option maxHeartbeats 4000000 in
set_option maxRecDepth 100000 in
theorem wX5_comesOne_L116 {G : GG} {T : TT} {n d : Nat} (hd : 0 ≤ d) {k : Int32 → MU → Option (Int32 × MU)} (hT : LAY T) (hk : ∀ (t2 : Int32) (u : MU) (q : Int32 × MU), k t2 u = some q → AW G d mX5_comesOne 188 [.ref 53, .null, .int t2] [] T u 0 0 (QS T q.1 q.2)) : ∀ (m : Nat) (t2 : Int32) (u : MU) (q : Int32 × MU), zX5_comesOne_L116 n  k m t2 u = some q → AW G d mX5_comesOne 116 [.ref 53, .null, .int t2] [] T u 0 0 (QS T q.1 q.2) := by
  intro m
  induction m with
  | zero =>
    intro t2 u q hf
    have h0 : (none : Option (Int32 × MU)) = some q := hf
    cases h0
  | succ m ih =>
    intro t2 u q hf
    rw [zX5_comesOne_L116] at hf
    refine A_iloadn (pc := 116) dX5_comesOne_116 rfl ?_
    refine A_bipush (pc := 117) 7 dX5_comesOne_117 rfl ?_
    refine A_icmp_ge (pc := 119) 188 dX5_comesOne_119 (by decide) (fun cc21 => ?_) (fun cc21 => ?_)
    · have hf := oi_t cc21 hf
      exact hk _ _ _ hf
    have hf := oi_f cc21 hf
    refine A_aloadn (pc := 122) dX5_comesOne_122 rfl ?_
    refine A_getR (pc := 123) dX5_comesOne_123 gX5_40 (lay_s hT (k := 53) (q := (7, 35)) rfl) (Nat.le_of_ble_eq_true rfl) rfl (lay_r hT 62 rfl) ?_
    refine A_bipush (pc := 126) 7 dX5_comesOne_126 rfl ?_
    refine A_aloadn (pc := 128) dX5_comesOne_128 rfl ?_
    refine A_getI (pc := 129) dX5_comesOne_129 gX5_78 (lay_s hT (k := 53) (q := (7, 35)) rfl) (Nat.le_of_ble_eq_true rfl) rfl ?_
    refine A_imul (pc := 132) dX5_comesOne_132 ?_
    refine A_iloadn (pc := 133) dX5_comesOne_133 rfl ?_
    refine A_iadd (pc := 134) dX5_comesOne_134 ?_
    refine A_iconst (pc := 135) 0 dX5_comesOne_135 rfl ?_
    obtain ⟨h22, hf⟩ := oi_cf hf
    have hf := oi_l hf
    refine A_iast (pc := 136) dX5_comesOne_136 (lay_s hT (k := 64) (q := (0, 49)) rfl) (oob_f h22) ?_
    refine A_aloadn (pc := 137) dX5_comesOne_137 rfl ?_
    refine A_getR (pc := 138) dX5_comesOne_138 gX5_40 (lay_s hT (k := 53) (q := (7, 35)) rfl) (Nat.le_of_ble_eq_true rfl) rfl (lay_r hT 62 rfl) ?_
    refine A_bipush (pc := 141) 7 dX5_comesOne_141 rfl ?_
    refine A_iloadn (pc := 143) dX5_comesOne_143 rfl ?_
    refine A_imul (pc := 144) dX5_comesOne_144 ?_
    refine A_aloadn (pc := 145) dX5_comesOne_145 rfl ?_
    refine A_getI (pc := 146) dX5_comesOne_146 gX5_78 (lay_s hT (k := 53) (q := (7, 35)) rfl) (Nat.le_of_ble_eq_true rfl) rfl ?_
    refine A_iadd (pc := 149) dX5_comesOne_149 ?_
    refine A_iconst (pc := 150) 0 dX5_comesOne_150 rfl ?_
    obtain ⟨h24, hf⟩ := oi_cf hf
    have hf := oi_l hf
    refine A_iast (pc := 151) dX5_comesOne_151 (lay_s hT (k := 64) (q := (0, 49)) rfl) (oob_f h24) ?_
    refine A_aloadn (pc := 152) dX5_comesOne_152 rfl ?_
    refine A_getR (pc := 153) dX5_comesOne_153 gX5_43 (lay_s hT (k := 53) (q := (7, 35)) rfl) (Nat.le_of_ble_eq_true rfl) rfl (lay_r hT 63 rfl) ?_
    refine A_bipush (pc := 156) 7 dX5_comesOne_156 rfl ?_
    refine A_aloadn (pc := 158) dX5_comesOne_158 rfl ?_
    refine A_getI (pc := 159) dX5_comesOne_159 gX5_78 (lay_s hT (k := 53) (q := (7, 35)) rfl) (Nat.le_of_ble_eq_true rfl) rfl ?_
    refine A_imul (pc := 162) dX5_comesOne_162 ?_
    refine A_iloadn (pc := 163) dX5_comesOne_163 rfl ?_
    refine A_iadd (pc := 164) dX5_comesOne_164 ?_
    refine A_iconst (pc := 165) 0 dX5_comesOne_165 rfl ?_
    obtain ⟨h26, hf⟩ := oi_cf hf
    have hf := oi_l hf
    refine A_iast (pc := 166) dX5_comesOne_166 (lay_s hT (k := 65) (q := (0, 49)) rfl) (oob_f h26) ?_
    refine A_aloadn (pc := 167) dX5_comesOne_167 rfl ?_
    refine A_getR (pc := 168) dX5_comesOne_168 gX5_43 (lay_s hT (k := 53) (q := (7, 35)) rfl) (Nat.le_of_ble_eq_true rfl) rfl (lay_r hT 63 rfl) ?_
    refine A_bipush (pc := 171) 7 dX5_comesOne_171 rfl ?_
    refine A_iloadn (pc := 173) dX5_comesOne_173 rfl ?_
    refine A_imul (pc := 174) dX5_comesOne_174 ?_
    refine A_aloadn (pc := 175) dX5_comesOne_175 rfl ?_
    refine A_getI (pc := 176) dX5_comesOne_176 gX5_78 (lay_s hT (k := 53) (q := (7, 35)) rfl) (Nat.le_of_ble_eq_true rfl) rfl ?_
    refine A_iadd (pc := 179) dX5_comesOne_179 ?_
    refine A_iconst (pc := 180) 0 dX5_comesOne_180 rfl ?_
    obtain ⟨h28, hf⟩ := oi_cf hf
    have hf := oi_l hf
    refine A_iast (pc := 181) dX5_comesOne_181 (lay_s hT (k := 65) (q := (0, 49)) rfl) (oob_f h28) ?_
    refine A_inc (pc := 182) (L2 := [.ref 53, .null, .int (t2 + 1)]) (t2 + 1) dX5_comesOne_182 rfl rfl rfl ?_
    refine A_goto (pc := 185) 116 dX5_comesOne_185 (by decide) ?_
    exact ih _ _ _ hf
set_option maxHeartbeats 4000000 in
set_option maxRecDepth 100000 in
theorem wX5_comesOne {G : GG} {T : TT} {n d : Nat} (hd : 0 ≤ d) {q : Int32 × MU} {u : MU} {a1 : Int32} (hT : LAY T) (hf : zX5_comesOne n u a1 = some q) : AW G d mX5_comesOne 0 [.ref 53, .int a1, .null] [] T u 0 0 (QS T q.1 q.2) := by
  rw [zX5_comesOne] at hf
  refine A_aloadn (pc := 0) dX5_comesOne_0 rfl ?_
  refine A_getR (pc := 1) dX5_comesOne_1 gX5_62 (lay_s hT (k := 53) (q := (7, 35)) rfl) (Nat.le_of_ble_eq_true rfl) rfl (lay_r hT 67 rfl) ?_
  refine A_iloadn (pc := 4) dX5_comesOne_4 rfl ?_
  obtain ⟨h1, hf⟩ := oi_cf hf
  refine A_iald (pc := 5) dX5_comesOne_5 (lay_s hT (k := 69) (q := (0, 200)) rfl) (oob_f h1) ?_
  refine A_iconst (pc := 6) 5 dX5_comesOne_6 rfl ?_
  refine A_icmp_gt (pc := 7) 19 dX5_comesOne_7 (by decide) (fun cc2 => ?_) (fun cc2 => ?_)
  · have hf := oi_t cc2 hf
    refine A_iconst (pc := 19) 0 dX5_comesOne_19 rfl ?_
    obtain rfl := Option.some.inj hf
    exact A_iret (pc := 20) dX5_comesOne_20 rfl rfl ⟨rfl, rfl, rfl⟩
  have hf := oi_f cc2 hf
  refine A_aloadn (pc := 10) dX5_comesOne_10 rfl ?_
  refine A_getI (pc := 11) dX5_comesOne_11 gX5_78 (lay_s hT (k := 53) (q := (7, 35)) rfl) (Nat.le_of_ble_eq_true rfl) rfl ?_
  refine A_bipush (pc := 14) 7 dX5_comesOne_14 rfl ?_
  refine A_icmp_ne (pc := 16) 21 dX5_comesOne_16 (by decide) (fun cc3 => ?_) (fun cc3 => ?_)
  · have hf := oi_f cc3 hf
    refine A_aloadn (pc := 21) dX5_comesOne_21 rfl ?_
    refine A_getR (pc := 22) dX5_comesOne_22 gX5_22 (lay_s hT (k := 53) (q := (7, 35)) rfl) (Nat.le_of_ble_eq_true rfl) rfl (lay_r hT 56 rfl) ?_
    refine A_aloadn (pc := 25) dX5_comesOne_25 rfl ?_
    refine A_getI (pc := 26) dX5_comesOne_26 gX5_78 (lay_s hT (k := 53) (q := (7, 35)) rfl) (Nat.le_of_ble_eq_true rfl) rfl ?_
    refine A_aloadn (pc := 29) dX5_comesOne_29 rfl ?_
    refine A_getR (pc := 30) dX5_comesOne_30 gX5_62 (lay_s hT (k := 53) (q := (7, 35)) rfl) (Nat.le_of_ble_eq_true rfl) rfl (lay_r hT 67 rfl) ?_
    refine A_iloadn (pc := 33) dX5_comesOne_33 rfl ?_
    obtain ⟨h4, hf⟩ := oi_cf hf
    refine A_iald (pc := 34) dX5_comesOne_34 (lay_s hT (k := 69) (q := (0, 200)) rfl) (oob_f h4) ?_
    obtain ⟨h5, hf⟩ := oi_cf hf
    have hf := oi_l hf
    refine A_iast (pc := 35) dX5_comesOne_35 (lay_s hT (k := 58) (q := (0, 7)) rfl) (oob_f h5) ?_
    refine A_aloadn (pc := 36) dX5_comesOne_36 rfl ?_
    refine A_getR (pc := 37) dX5_comesOne_37 gX5_25 (lay_s hT (k := 53) (q := (7, 35)) rfl) (Nat.le_of_ble_eq_true rfl) rfl (lay_r hT 57 rfl) ?_
    refine A_aloadn (pc := 40) dX5_comesOne_40 rfl ?_
    refine A_getI (pc := 41) dX5_comesOne_41 gX5_78 (lay_s hT (k := 53) (q := (7, 35)) rfl) (Nat.le_of_ble_eq_true rfl) rfl ?_
    refine A_aloadn (pc := 44) dX5_comesOne_44 rfl ?_
    refine A_getR (pc := 45) dX5_comesOne_45 gX5_62 (lay_s hT (k := 53) (q := (7, 35)) rfl) (Nat.le_of_ble_eq_true rfl) rfl (lay_r hT 67 rfl) ?_
    refine A_iloadn (pc := 48) dX5_comesOne_48 rfl ?_
    refine A_iconst (pc := 49) 1 dX5_comesOne_49 rfl ?_
    refine A_iadd (pc := 50) dX5_comesOne_50 ?_
    obtain ⟨h7, hf⟩ := oi_cf hf
    refine A_iald (pc := 51) dX5_comesOne_51 (lay_s hT (k := 69) (q := (0, 200)) rfl) (oob_f h7) ?_
    obtain ⟨h8, hf⟩ := oi_cf hf
    have hf := oi_l hf
    refine A_iast (pc := 52) dX5_comesOne_52 (lay_s hT (k := 59) (q := (0, 7)) rfl) (oob_f h8) ?_
    refine A_aloadn (pc := 53) dX5_comesOne_53 rfl ?_
    refine A_getR (pc := 54) dX5_comesOne_54 gX5_28 (lay_s hT (k := 53) (q := (7, 35)) rfl) (Nat.le_of_ble_eq_true rfl) rfl (lay_r hT 58 rfl) ?_
    refine A_aloadn (pc := 57) dX5_comesOne_57 rfl ?_
    refine A_getI (pc := 58) dX5_comesOne_58 gX5_78 (lay_s hT (k := 53) (q := (7, 35)) rfl) (Nat.le_of_ble_eq_true rfl) rfl ?_
    refine A_aloadn (pc := 61) dX5_comesOne_61 rfl ?_
    refine A_getR (pc := 62) dX5_comesOne_62 gX5_62 (lay_s hT (k := 53) (q := (7, 35)) rfl) (Nat.le_of_ble_eq_true rfl) rfl (lay_r hT 67 rfl) ?_
    refine A_iloadn (pc := 65) dX5_comesOne_65 rfl ?_
    refine A_iconst (pc := 66) 2 dX5_comesOne_66 rfl ?_
    refine A_iadd (pc := 67) dX5_comesOne_67 ?_
    obtain ⟨h10, hf⟩ := oi_cf hf
    refine A_iald (pc := 68) dX5_comesOne_68 (lay_s hT (k := 69) (q := (0, 200)) rfl) (oob_f h10) ?_
    obtain ⟨h11, hf⟩ := oi_cf hf
    have hf := oi_l hf
    refine A_iast (pc := 69) dX5_comesOne_69 (lay_s hT (k := 60) (q := (0, 7)) rfl) (oob_f h11) ?_
    refine A_aloadn (pc := 70) dX5_comesOne_70 rfl ?_
    refine A_getR (pc := 71) dX5_comesOne_71 gX5_31 (lay_s hT (k := 53) (q := (7, 35)) rfl) (Nat.le_of_ble_eq_true rfl) rfl (lay_r hT 59 rfl) ?_
    refine A_aloadn (pc := 74) dX5_comesOne_74 rfl ?_
    refine A_getI (pc := 75) dX5_comesOne_75 gX5_78 (lay_s hT (k := 53) (q := (7, 35)) rfl) (Nat.le_of_ble_eq_true rfl) rfl ?_
    refine A_aloadn (pc := 78) dX5_comesOne_78 rfl ?_
    refine A_getR (pc := 79) dX5_comesOne_79 gX5_62 (lay_s hT (k := 53) (q := (7, 35)) rfl) (Nat.le_of_ble_eq_true rfl) rfl (lay_r hT 67 rfl) ?_
    refine A_iloadn (pc := 82) dX5_comesOne_82 rfl ?_
    refine A_iconst (pc := 83) 3 dX5_comesOne_83 rfl ?_
    refine A_iadd (pc := 84) dX5_comesOne_84 ?_
    obtain ⟨h13, hf⟩ := oi_cf hf
    refine A_iald (pc := 85) dX5_comesOne_85 (lay_s hT (k := 69) (q := (0, 200)) rfl) (oob_f h13) ?_
    obtain ⟨h14, hf⟩ := oi_cf hf
    have hf := oi_l hf
    refine A_iast (pc := 86) dX5_comesOne_86 (lay_s hT (k := 61) (q := (0, 7)) rfl) (oob_f h14) ?_
    refine A_aloadn (pc := 87) dX5_comesOne_87 rfl ?_
    refine A_getR (pc := 88) dX5_comesOne_88 gX5_34 (lay_s hT (k := 53) (q := (7, 35)) rfl) (Nat.le_of_ble_eq_true rfl) rfl (lay_r hT 60 rfl) ?_
    refine A_aloadn (pc := 91) dX5_comesOne_91 rfl ?_
    refine A_getI (pc := 92) dX5_comesOne_92 gX5_78 (lay_s hT (k := 53) (q := (7, 35)) rfl) (Nat.le_of_ble_eq_true rfl) rfl ?_
    refine A_aloadn (pc := 95) dX5_comesOne_95 rfl ?_
    refine A_getR (pc := 96) dX5_comesOne_96 gX5_62 (lay_s hT (k := 53) (q := (7, 35)) rfl) (Nat.le_of_ble_eq_true rfl) rfl (lay_r hT 67 rfl) ?_
    refine A_iloadn (pc := 99) dX5_comesOne_99 rfl ?_
    refine A_iconst (pc := 100) 4 dX5_comesOne_100 rfl ?_
    refine A_iadd (pc := 101) dX5_comesOne_101 ?_
    obtain ⟨h16, hf⟩ := oi_cf hf
    refine A_iald (pc := 102) dX5_comesOne_102 (lay_s hT (k := 69) (q := (0, 200)) rfl) (oob_f h16) ?_
    obtain ⟨h17, hf⟩ := oi_cf hf
    have hf := oi_l hf
    refine A_iast (pc := 103) dX5_comesOne_103 (lay_s hT (k := 62) (q := (0, 7)) rfl) (oob_f h17) ?_
    refine A_aloadn (pc := 104) dX5_comesOne_104 rfl ?_
    refine A_getR (pc := 105) dX5_comesOne_105 gX5_37 (lay_s hT (k := 53) (q := (7, 35)) rfl) (Nat.le_of_ble_eq_true rfl) rfl (lay_r hT 61 rfl) ?_
    refine A_aloadn (pc := 108) dX5_comesOne_108 rfl ?_
    refine A_getI (pc := 109) dX5_comesOne_109 gX5_78 (lay_s hT (k := 53) (q := (7, 35)) rfl) (Nat.le_of_ble_eq_true rfl) rfl ?_
    refine A_iconst (pc := 112) 0 dX5_comesOne_112 rfl ?_
    obtain ⟨h19, hf⟩ := oi_cf hf
    have hf := oi_l hf
    refine A_iast (pc := 113) dX5_comesOne_113 (lay_s hT (k := 63) (q := (0, 7)) rfl) (oob_f h19) ?_
    refine A_iconst (pc := 114) 0 dX5_comesOne_114 rfl ?_
    refine A_istn (pc := 115) (L2 := [.ref 53, .int a1, .int 0]) dX5_comesOne_115 (Nat.le_of_ble_eq_true rfl) rfl ?_
    refine A_fgt 1 (L' := [.ref 53, .null, .int 0]) rfl ?_
    exact wX5_comesOne_L116 (by omega) hT  (fun y30 w31 q0 hf => by
      refine A_aloadn (pc := 188) dX5_comesOne_188 rfl ?_
      refine A_dup (pc := 189) dX5_comesOne_189 ?_
      refine A_getI (pc := 190) dX5_comesOne_190 gX5_78 (lay_s hT (k := 53) (q := (7, 35)) rfl) (Nat.le_of_ble_eq_true rfl) rfl ?_
      refine A_iconst (pc := 193) 1 dX5_comesOne_193 rfl ?_
      refine A_iadd (pc := 194) dX5_comesOne_194 ?_
      have hf := oi_l hf
      refine A_putI (pc := 195) dX5_comesOne_195 gX5_78 (lay_s hT (k := 53) (q := (7, 35)) rfl) (Nat.le_of_ble_eq_true rfl) rfl rfl rfl rfl ?_
      refine A_iconst (pc := 198) 1 dX5_comesOne_198 rfl ?_
      obtain rfl := Option.some.inj hf
      exact A_iret (pc := 199) dX5_comesOne_199 rfl rfl ⟨rfl, rfl, rfl⟩) _ _ _ _ hf
  have hf := oi_t cc3 hf
  refine A_iconst (pc := 19) 0 dX5_comesOne_19 rfl ?_
  obtain rfl := Option.some.inj hf
  exact A_iret (pc := 20) dX5_comesOne_20 rfl rfl ⟨rfl, rfl, rfl⟩
def zX5_sets (n : Nat) (u : MU) (a1 : Int32) (a2 : Int32) : Option (MU) := Option.bind (zX5_yardOf n u a2) (fun q1 => if q1 < 0 then (if oob a1 5 then none else letb (up2 u 57 a1.toNatClampNeg a2) (fun u5 => some u5)) else (if oob q1 5 then none else letb (up2 u 57 q1.toNatClampNeg (-9)) (fun u7 => if oob a1 5 then none else letb (up2 u7 57 a1.toNatClampNeg a2) (fun u9 => some u9))))
set_option maxHeartbeats 4000000 in
set_option maxRecDepth 100000 in
theorem wX5_sets {G : GG} {T : TT} {n d : Nat} (hd : 1 ≤ d) {q : MU} {u : MU} {a1 : Int32} {a2 : Int32} (hT : LAY T) (hf : zX5_sets n u a1 a2 = some q) : AW G d mX5_sets 0 [.ref 53, .int a1, .int a2, .null] [] T u 0 0 (QV T q) := by
  obtain ⟨d, rfl⟩ : ∃ e, d = e + 1 := ⟨d - 1, by omega⟩
  rw [zX5_sets] at hf
  refine A_aloadn (pc := 0) dX5_sets_0 rfl ?_
  refine A_iloadn (pc := 1) dX5_sets_1 rfl ?_
  obtain ⟨q1, h2, hf⟩ := oi_b hf
  refine A_cV1i (mi2 := mX5_yardOf) (pc := 2) dX5_sets_2 lX5_117 fX5_yardOf vX5_yardOf (lay_s hT (k := 53) (q := (7, 35)) rfl) rfl (Nat.le_of_ble_eq_true rfl) rfl (Nat.le_of_ble_eq_true rfl) (wX5_yardOf (by omega) hT  h2) ?_
  refine A_istn (pc := 5) (L2 := [.ref 53, .int a1, .int a2, .int q1]) dX5_sets_5 (Nat.le_of_ble_eq_true rfl) rfl ?_
  refine A_iloadn (pc := 6) dX5_sets_6 rfl ?_
  refine A_if_lt (pc := 7) (w := 0) 18 dX5_sets_7 (by decide) (fun cc3 => ?_) (fun cc3 => ?_)
  · have hf := oi_t cc3 hf
    refine A_aloadn (pc := 18) dX5_sets_18 rfl ?_
    refine A_getR (pc := 19) dX5_sets_19 gX5_19 (lay_s hT (k := 53) (q := (7, 35)) rfl) (Nat.le_of_ble_eq_true rfl) rfl (lay_r hT 55 rfl) ?_
    refine A_iloadn (pc := 22) dX5_sets_22 rfl ?_
    refine A_iloadn (pc := 23) dX5_sets_23 rfl ?_
    obtain ⟨h4, hf⟩ := oi_cf hf
    have hf := oi_l hf
    refine A_iast (pc := 24) dX5_sets_24 (lay_s hT (k := 57) (q := (0, 5)) rfl) (oob_f h4) ?_
    obtain rfl := Option.some.inj hf
    exact A_vret (pc := 25) dX5_sets_25 rfl ⟨rfl, rfl, rfl⟩
  have hf := oi_f cc3 hf
  refine A_aloadn (pc := 10) dX5_sets_10 rfl ?_
  refine A_getR (pc := 11) dX5_sets_11 gX5_19 (lay_s hT (k := 53) (q := (7, 35)) rfl) (Nat.le_of_ble_eq_true rfl) rfl (lay_r hT 55 rfl) ?_
  refine A_iloadn (pc := 14) dX5_sets_14 rfl ?_
  refine A_bipush (pc := 15) (-9) dX5_sets_15 rfl ?_
  obtain ⟨h6, hf⟩ := oi_cf hf
  have hf := oi_l hf
  refine A_iast (pc := 17) dX5_sets_17 (lay_s hT (k := 57) (q := (0, 5)) rfl) (oob_f h6) ?_
  refine A_aloadn (pc := 18) dX5_sets_18 rfl ?_
  refine A_getR (pc := 19) dX5_sets_19 gX5_19 (lay_s hT (k := 53) (q := (7, 35)) rfl) (Nat.le_of_ble_eq_true rfl) rfl (lay_r hT 55 rfl) ?_
  refine A_iloadn (pc := 22) dX5_sets_22 rfl ?_
  refine A_iloadn (pc := 23) dX5_sets_23 rfl ?_
  obtain ⟨h8, hf⟩ := oi_cf hf
  have hf := oi_l hf
  refine A_iast (pc := 24) dX5_sets_24 (lay_s hT (k := 57) (q := (0, 5)) rfl) (oob_f h8) ?_
  obtain rfl := Option.some.inj hf
  exact A_vret (pc := 25) dX5_sets_25 rfl ⟨rfl, rfl, rfl⟩
def zX5_comes (n : Nat) (u : MU) (a1 : Int32) : Option (Int32 × MU) := letb (5 * a1) (fun x1 => if oob x1 200 then none else letb (u 69 x1.toNatClampNeg) (fun x3 => if oob (x1 + 1) 200 then none else letb (u 69 (x1 + 1).toNatClampNeg) (fun x5 => if oob a1 40 then none else if (u 67 a1.toNatClampNeg) = 99 then (letb (up2 u 53 14 x3) (fun u8 => some (1, u8))) else if (u 67 a1.toNatClampNeg) = 100 then (Option.bind (zX5_isYard n u x3) (fun q10 => if q10 = 0 then (some (0, u)) else (if oob x3 5 then none else letb (up2 u 55 x3.toNatClampNeg x5) (fun u14 => if oob (x1 + 2) 200 then none else if oob x3 5 then none else letb (up2 u14 56 x3.toNatClampNeg (u14 69 (x1 + 2).toNatClampNeg)) (fun u17 => some (1, u17)))))) else if (u 67 a1.toNatClampNeg) = 103 then (Option.bind (zX5_areTwo n u x3 x5) (fun q19 => if q19 = 0 then (some (0, u)) else (if oob ((7 * x3) + x5) 49 then none else if oob ((7 * x3) + x5) 49 then none else letb (up2 u 64 ((7 * x3) + x5).toNatClampNeg (1 - (u 64 ((7 * x3) + x5).toNatClampNeg))) (fun u24 => if oob ((7 * x3) + x5) 49 then none else if oob ((7 * x5) + x3) 49 then none else letb (up2 u24 64 ((7 * x5) + x3).toNatClampNeg (u24 64 ((7 * x3) + x5).toNatClampNeg)) (fun u27 => some (1, u27)))))) else if (u 67 a1.toNatClampNeg) = 112 then (Option.bind (zX5_comesOne n u x1) (fun q29 => if q29.1 = 0 ∨ q29.1 = 1 then some (q29.1, q29.2) else none)) else if (u 67 a1.toNatClampNeg) = 121 then (Option.bind (zX5_begins n u x3) (fun q33 => if q33.1 = 0 ∨ q33.1 = 1 then some (q33.1, q33.2) else none)) else (Option.bind (zX5_isYard n u x3) (fun q36 => if q36 = 0 then (some (0, u)) else (Option.bind (zX5_isOne n u x5) (fun q39 => if q39 = 0 then (some (0, u)) else (if oob x5 7 then none else if (u 63 x5.toNatClampNeg) = 1 then (some (0, u)) else (Option.bind (zX5_sets n u x3 x5) (fun q44 => some (1, q44)))))))))))
set_option maxHeartbeats 4000000 in
set_option maxRecDepth 100000 in
theorem wX5_comes {G : GG} {T : TT} {n d : Nat} (hd : 2 ≤ d) {q : Int32 × MU} {u : MU} {a1 : Int32} (hT : LAY T) (hf : zX5_comes n u a1 = some q) : AW G d mX5_comes 0 [.ref 53, .int a1, .null, .null, .null] [] T u 0 0 (QS T q.1 q.2) := by
  obtain ⟨d, rfl⟩ : ∃ e, d = e + 1 := ⟨d - 1, by omega⟩
  rw [zX5_comes] at hf
  refine A_iconst (pc := 0) 5 dX5_comes_0 rfl ?_
  refine A_iloadn (pc := 1) dX5_comes_1 rfl ?_
  refine A_imul (pc := 2) dX5_comes_2 ?_
  have hf := oi_l hf
  refine A_istn (pc := 3) (L2 := [.ref 53, .int a1, .int (5 * a1), .null, .null]) dX5_comes_3 (Nat.le_of_ble_eq_true rfl) rfl ?_
  refine A_aloadn (pc := 4) dX5_comes_4 rfl ?_
  refine A_getR (pc := 5) dX5_comes_5 gX5_62 (lay_s hT (k := 53) (q := (7, 35)) rfl) (Nat.le_of_ble_eq_true rfl) rfl (lay_r hT 67 rfl) ?_
  refine A_iloadn (pc := 8) dX5_comes_8 rfl ?_
  obtain ⟨h2, hf⟩ := oi_cf hf
  refine A_iald (pc := 9) dX5_comes_9 (lay_s hT (k := 69) (q := (0, 200)) rfl) (oob_f h2) ?_
  have hf := oi_l hf
  refine A_istn (pc := 10) (L2 := [.ref 53, .int a1, .int (5 * a1), .int (u 69 (5 * a1).toNatClampNeg), .null]) dX5_comes_10 (Nat.le_of_ble_eq_true rfl) rfl ?_
  refine A_aloadn (pc := 11) dX5_comes_11 rfl ?_
  refine A_getR (pc := 12) dX5_comes_12 gX5_62 (lay_s hT (k := 53) (q := (7, 35)) rfl) (Nat.le_of_ble_eq_true rfl) rfl (lay_r hT 67 rfl) ?_
  refine A_iloadn (pc := 15) dX5_comes_15 rfl ?_
  refine A_iconst (pc := 16) 1 dX5_comes_16 rfl ?_
  refine A_iadd (pc := 17) dX5_comes_17 ?_
  obtain ⟨h4, hf⟩ := oi_cf hf
  refine A_iald (pc := 18) dX5_comes_18 (lay_s hT (k := 69) (q := (0, 200)) rfl) (oob_f h4) ?_
  have hf := oi_l hf
  refine A_ist (pc := 19) (L2 := [.ref 53, .int a1, .int (5 * a1), .int (u 69 (5 * a1).toNatClampNeg), .int (u 69 ((5 * a1) + 1).toNatClampNeg)]) dX5_comes_19 (Nat.le_of_ble_eq_true rfl) rfl ?_
  refine A_aloadn (pc := 21) dX5_comes_21 rfl ?_
  refine A_getR (pc := 22) dX5_comes_22 gX5_56 (lay_s hT (k := 53) (q := (7, 35)) rfl) (Nat.le_of_ble_eq_true rfl) rfl (lay_r hT 65 rfl) ?_
  refine A_iloadn (pc := 25) dX5_comes_25 rfl ?_
  obtain ⟨h6, hf⟩ := oi_cf hf
  refine A_iald (pc := 26) dX5_comes_26 (lay_s hT (k := 67) (q := (0, 40)) rfl) (oob_f h6) ?_
  by_cases cc7 : (u 67 a1.toNatClampNeg) = 99
  · have hf := oi_t cc7 hf
    refine A_lookup (pc := 27) (off := 89) 116 dX5_comes_27 (by decide) (by rw [cc7]; decide) (by decide) ?_
    refine A_aloadn (pc := 116) dX5_comes_116 rfl ?_
    refine A_iloadn (pc := 117) dX5_comes_117 rfl ?_
    have hf := oi_l hf
    refine A_putI (pc := 118) dX5_comes_118 gX5_50 (lay_s hT (k := 53) (q := (7, 35)) rfl) (Nat.le_of_ble_eq_true rfl) rfl rfl rfl rfl ?_
    refine A_iconst (pc := 121) 1 dX5_comes_121 rfl ?_
    obtain rfl := Option.some.inj hf
    exact A_iret (pc := 122) dX5_comes_122 rfl rfl ⟨rfl, rfl, rfl⟩
  have hf := oi_f cc7 hf
  by_cases cc9 : (u 67 a1.toNatClampNeg) = 100
  · have hf := oi_t cc9 hf
    refine A_lookup (pc := 27) (off := 55) 82 dX5_comes_27 (by decide) (by rw [cc9]; decide) (by decide) ?_
    refine A_aloadn (pc := 82) dX5_comes_82 rfl ?_
    refine A_iloadn (pc := 83) dX5_comes_83 rfl ?_
    obtain ⟨q10, h11, hf⟩ := oi_b hf
    refine A_cV1i (mi2 := mX5_isYard) (pc := 84) dX5_comes_84 lX5_123 fX5_isYard vX5_isYard (lay_s hT (k := 53) (q := (7, 35)) rfl) rfl (Nat.le_of_ble_eq_true rfl) rfl (Nat.le_of_ble_eq_true rfl) (wX5_isYard (by omega) hT  h11) ?_
    refine A_if_ne (pc := 87) (w := 0) 92 dX5_comes_87 (by decide) (fun cc12 => ?_) (fun cc12 => ?_)
    · have hf := oi_f cc12 hf
      refine A_aloadn (pc := 92) dX5_comes_92 rfl ?_
      refine A_getR (pc := 93) dX5_comes_93 gX5_13 (lay_s hT (k := 53) (q := (7, 35)) rfl) (Nat.le_of_ble_eq_true rfl) rfl (lay_r hT 53 rfl) ?_
      refine A_iloadn (pc := 96) dX5_comes_96 rfl ?_
      refine A_iload (pc := 97) dX5_comes_97 rfl ?_
      obtain ⟨h13, hf⟩ := oi_cf hf
      have hf := oi_l hf
      refine A_iast (pc := 99) dX5_comes_99 (lay_s hT (k := 55) (q := (0, 5)) rfl) (oob_f h13) ?_
      refine A_aloadn (pc := 100) dX5_comes_100 rfl ?_
      refine A_getR (pc := 101) dX5_comes_101 gX5_16 (lay_s hT (k := 53) (q := (7, 35)) rfl) (Nat.le_of_ble_eq_true rfl) rfl (lay_r hT 54 rfl) ?_
      refine A_iloadn (pc := 104) dX5_comes_104 rfl ?_
      refine A_aloadn (pc := 105) dX5_comes_105 rfl ?_
      refine A_getR (pc := 106) dX5_comes_106 gX5_62 (lay_s hT (k := 53) (q := (7, 35)) rfl) (Nat.le_of_ble_eq_true rfl) rfl (lay_r hT 67 rfl) ?_
      refine A_iloadn (pc := 109) dX5_comes_109 rfl ?_
      refine A_iconst (pc := 110) 2 dX5_comes_110 rfl ?_
      refine A_iadd (pc := 111) dX5_comes_111 ?_
      obtain ⟨h15, hf⟩ := oi_cf hf
      refine A_iald (pc := 112) dX5_comes_112 (lay_s hT (k := 69) (q := (0, 200)) rfl) (oob_f h15) ?_
      obtain ⟨h16, hf⟩ := oi_cf hf
      have hf := oi_l hf
      refine A_iast (pc := 113) dX5_comes_113 (lay_s hT (k := 56) (q := (0, 5)) rfl) (oob_f h16) ?_
      refine A_iconst (pc := 114) 1 dX5_comes_114 rfl ?_
      obtain rfl := Option.some.inj hf
      exact A_iret (pc := 115) dX5_comes_115 rfl rfl ⟨rfl, rfl, rfl⟩
    have hf := oi_t cc12 hf
    refine A_iconst (pc := 90) 0 dX5_comes_90 rfl ?_
    obtain rfl := Option.some.inj hf
    exact A_iret (pc := 91) dX5_comes_91 rfl rfl ⟨rfl, rfl, rfl⟩
  have hf := oi_f cc9 hf
  by_cases cc18 : (u 67 a1.toNatClampNeg) = 103
  · have hf := oi_t cc18 hf
    refine A_lookup (pc := 27) (off := 102) 129 dX5_comes_27 (by decide) (by rw [cc18]; decide) (by decide) ?_
    refine A_aloadn (pc := 129) dX5_comes_129 rfl ?_
    refine A_iloadn (pc := 130) dX5_comes_130 rfl ?_
    refine A_iload (pc := 131) dX5_comes_131 rfl ?_
    obtain ⟨q19, h20, hf⟩ := oi_b hf
    refine A_cV2i (mi2 := mX5_areTwo) (pc := 133) dX5_comes_133 lX5_129 fX5_areTwo vX5_areTwo (lay_s hT (k := 53) (q := (7, 35)) rfl) rfl (Nat.le_of_ble_eq_true rfl) rfl (Nat.le_of_ble_eq_true rfl) (wX5_areTwo (by omega) hT  h20) ?_
    refine A_if_ne (pc := 136) (w := 0) 141 dX5_comes_136 (by decide) (fun cc21 => ?_) (fun cc21 => ?_)
    · have hf := oi_f cc21 hf
      refine A_aloadn (pc := 141) dX5_comes_141 rfl ?_
      refine A_getR (pc := 142) dX5_comes_142 gX5_40 (lay_s hT (k := 53) (q := (7, 35)) rfl) (Nat.le_of_ble_eq_true rfl) rfl (lay_r hT 62 rfl) ?_
      refine A_bipush (pc := 145) 7 dX5_comes_145 rfl ?_
      refine A_iloadn (pc := 147) dX5_comes_147 rfl ?_
      refine A_imul (pc := 148) dX5_comes_148 ?_
      refine A_iload (pc := 149) dX5_comes_149 rfl ?_
      refine A_iadd (pc := 151) dX5_comes_151 ?_
      refine A_iconst (pc := 152) 1 dX5_comes_152 rfl ?_
      refine A_aloadn (pc := 153) dX5_comes_153 rfl ?_
      refine A_getR (pc := 154) dX5_comes_154 gX5_40 (lay_s hT (k := 53) (q := (7, 35)) rfl) (Nat.le_of_ble_eq_true rfl) rfl (lay_r hT 62 rfl) ?_
      refine A_bipush (pc := 157) 7 dX5_comes_157 rfl ?_
      refine A_iloadn (pc := 159) dX5_comes_159 rfl ?_
      refine A_imul (pc := 160) dX5_comes_160 ?_
      refine A_iload (pc := 161) dX5_comes_161 rfl ?_
      refine A_iadd (pc := 163) dX5_comes_163 ?_
      obtain ⟨h22, hf⟩ := oi_cf hf
      refine A_iald (pc := 164) dX5_comes_164 (lay_s hT (k := 64) (q := (0, 49)) rfl) (oob_f h22) ?_
      refine A_isub (pc := 165) dX5_comes_165 ?_
      obtain ⟨h23, hf⟩ := oi_cf hf
      have hf := oi_l hf
      refine A_iast (pc := 166) dX5_comes_166 (lay_s hT (k := 64) (q := (0, 49)) rfl) (oob_f h23) ?_
      refine A_aloadn (pc := 167) dX5_comes_167 rfl ?_
      refine A_getR (pc := 168) dX5_comes_168 gX5_40 (lay_s hT (k := 53) (q := (7, 35)) rfl) (Nat.le_of_ble_eq_true rfl) rfl (lay_r hT 62 rfl) ?_
      refine A_bipush (pc := 171) 7 dX5_comes_171 rfl ?_
      refine A_iload (pc := 173) dX5_comes_173 rfl ?_
      refine A_imul (pc := 175) dX5_comes_175 ?_
      refine A_iloadn (pc := 176) dX5_comes_176 rfl ?_
      refine A_iadd (pc := 177) dX5_comes_177 ?_
      refine A_aloadn (pc := 178) dX5_comes_178 rfl ?_
      refine A_getR (pc := 179) dX5_comes_179 gX5_40 (lay_s hT (k := 53) (q := (7, 35)) rfl) (Nat.le_of_ble_eq_true rfl) rfl (lay_r hT 62 rfl) ?_
      refine A_bipush (pc := 182) 7 dX5_comes_182 rfl ?_
      refine A_iloadn (pc := 184) dX5_comes_184 rfl ?_
      refine A_imul (pc := 185) dX5_comes_185 ?_
      refine A_iload (pc := 186) dX5_comes_186 rfl ?_
      refine A_iadd (pc := 188) dX5_comes_188 ?_
      obtain ⟨h25, hf⟩ := oi_cf hf
      refine A_iald (pc := 189) dX5_comes_189 (lay_s hT (k := 64) (q := (0, 49)) rfl) (oob_f h25) ?_
      obtain ⟨h26, hf⟩ := oi_cf hf
      have hf := oi_l hf
      refine A_iast (pc := 190) dX5_comes_190 (lay_s hT (k := 64) (q := (0, 49)) rfl) (oob_f h26) ?_
      refine A_iconst (pc := 191) 1 dX5_comes_191 rfl ?_
      obtain rfl := Option.some.inj hf
      exact A_iret (pc := 192) dX5_comes_192 rfl rfl ⟨rfl, rfl, rfl⟩
    have hf := oi_t cc21 hf
    refine A_iconst (pc := 139) 0 dX5_comes_139 rfl ?_
    obtain rfl := Option.some.inj hf
    exact A_iret (pc := 140) dX5_comes_140 rfl rfl ⟨rfl, rfl, rfl⟩
  have hf := oi_f cc18 hf
  by_cases cc28 : (u 67 a1.toNatClampNeg) = 112
  · have hf := oi_t cc28 hf
    refine A_lookup (pc := 27) (off := 96) 123 dX5_comes_27 (by decide) (by rw [cc28]; decide) (by decide) ?_
    refine A_aloadn (pc := 123) dX5_comes_123 rfl ?_
    refine A_iloadn (pc := 124) dX5_comes_124 rfl ?_
    obtain ⟨q29, h30, hf⟩ := oi_b hf
    refine A_cV1i (mi2 := mX5_comesOne) (pc := 125) dX5_comes_125 lX5_126 fX5_comesOne vX5_comesOne (lay_s hT (k := 53) (q := (7, 35)) rfl) rfl (Nat.le_of_ble_eq_true rfl) rfl (Nat.le_of_ble_eq_true rfl) (wX5_comesOne (by omega) hT  h30) ?_
    obtain ⟨h31, hf⟩ := oi_ck hf
    obtain rfl := Option.some.inj hf
    exact A_iret (pc := 128) dX5_comes_128 rfl (bck_n h31) ⟨rfl, rfl, rfl⟩
  have hf := oi_f cc28 hf
  by_cases cc32 : (u 67 a1.toNatClampNeg) = 121
  · have hf := oi_t cc32 hf
    refine A_lookup (pc := 27) (off := 49) 76 dX5_comes_27 (by decide) (by rw [cc32]; decide) (by decide) ?_
    refine A_aloadn (pc := 76) dX5_comes_76 rfl ?_
    refine A_iloadn (pc := 77) dX5_comes_77 rfl ?_
    obtain ⟨q33, h34, hf⟩ := oi_b hf
    refine A_cV1i (mi2 := mX5_begins) (pc := 78) dX5_comes_78 lX5_120 fX5_begins vX5_begins (lay_s hT (k := 53) (q := (7, 35)) rfl) rfl (Nat.le_of_ble_eq_true rfl) rfl (Nat.le_of_ble_eq_true rfl) (wX5_begins (by omega) hT  h34) ?_
    obtain ⟨h35, hf⟩ := oi_ck hf
    obtain rfl := Option.some.inj hf
    exact A_iret (pc := 81) dX5_comes_81 rfl (bck_n h35) ⟨rfl, rfl, rfl⟩
  have hf := oi_f cc32 hf
  have ecc7 : (u 67 a1.toNatClampNeg).toInt ≠ 99 := fun h9 => cc7 (Int32.toInt_inj.mp (h9.trans (by decide : (99 : Int) = (99 : Int32).toInt)))
  have ecc9 : (u 67 a1.toNatClampNeg).toInt ≠ 100 := fun h9 => cc9 (Int32.toInt_inj.mp (h9.trans (by decide : (100 : Int) = (100 : Int32).toInt)))
  have ecc18 : (u 67 a1.toNatClampNeg).toInt ≠ 103 := fun h9 => cc18 (Int32.toInt_inj.mp (h9.trans (by decide : (103 : Int) = (103 : Int32).toInt)))
  have ecc28 : (u 67 a1.toNatClampNeg).toInt ≠ 112 := fun h9 => cc28 (Int32.toInt_inj.mp (h9.trans (by decide : (112 : Int) = (112 : Int32).toInt)))
  have ecc32 : (u 67 a1.toNatClampNeg).toInt ≠ 121 := fun h9 => cc32 (Int32.toInt_inj.mp (h9.trans (by decide : (121 : Int) = (121 : Int32).toInt)))
  refine A_lookup (pc := 27) (off := 166) 193 dX5_comes_27 (by decide) (by simp [Op.lookupswitch.offset, ecc7, Ne.symm ecc7, ecc9, Ne.symm ecc9, ecc18, Ne.symm ecc18, ecc28, Ne.symm ecc28, ecc32, Ne.symm ecc32]) (by decide) ?_
  refine A_aloadn (pc := 193) dX5_comes_193 rfl ?_
  refine A_iloadn (pc := 194) dX5_comes_194 rfl ?_
  obtain ⟨q36, h37, hf⟩ := oi_b hf
  refine A_cV1i (mi2 := mX5_isYard) (pc := 195) dX5_comes_195 lX5_123 fX5_isYard vX5_isYard (lay_s hT (k := 53) (q := (7, 35)) rfl) rfl (Nat.le_of_ble_eq_true rfl) rfl (Nat.le_of_ble_eq_true rfl) (wX5_isYard (by omega) hT  h37) ?_
  refine A_if_eq (pc := 198) (w := 0) 221 dX5_comes_198 (by decide) (fun cc38 => ?_) (fun cc38 => ?_)
  · have hf := oi_t cc38 hf
    refine A_iconst (pc := 221) 0 dX5_comes_221 rfl ?_
    obtain rfl := Option.some.inj hf
    exact A_iret (pc := 222) dX5_comes_222 rfl rfl ⟨rfl, rfl, rfl⟩
  have hf := oi_f cc38 hf
  refine A_aloadn (pc := 201) dX5_comes_201 rfl ?_
  refine A_iload (pc := 202) dX5_comes_202 rfl ?_
  obtain ⟨q39, h40, hf⟩ := oi_b hf
  refine A_cV1i (mi2 := mX5_isOne) (pc := 204) dX5_comes_204 lX5_81 fX5_isOne vX5_isOne (lay_s hT (k := 53) (q := (7, 35)) rfl) rfl (Nat.le_of_ble_eq_true rfl) rfl (Nat.le_of_ble_eq_true rfl) (wX5_isOne (by omega) hT  h40) ?_
  refine A_if_eq (pc := 207) (w := 0) 221 dX5_comes_207 (by decide) (fun cc41 => ?_) (fun cc41 => ?_)
  · have hf := oi_t cc41 hf
    refine A_iconst (pc := 221) 0 dX5_comes_221 rfl ?_
    obtain rfl := Option.some.inj hf
    exact A_iret (pc := 222) dX5_comes_222 rfl rfl ⟨rfl, rfl, rfl⟩
  have hf := oi_f cc41 hf
  refine A_aloadn (pc := 210) dX5_comes_210 rfl ?_
  refine A_getR (pc := 211) dX5_comes_211 gX5_37 (lay_s hT (k := 53) (q := (7, 35)) rfl) (Nat.le_of_ble_eq_true rfl) rfl (lay_r hT 61 rfl) ?_
  refine A_iload (pc := 214) dX5_comes_214 rfl ?_
  obtain ⟨h42, hf⟩ := oi_cf hf
  refine A_iald (pc := 216) dX5_comes_216 (lay_s hT (k := 63) (q := (0, 7)) rfl) (oob_f h42) ?_
  refine A_iconst (pc := 217) 1 dX5_comes_217 rfl ?_
  refine A_icmp_ne (pc := 218) 223 dX5_comes_218 (by decide) (fun cc43 => ?_) (fun cc43 => ?_)
  · have hf := oi_f cc43 hf
    refine A_aloadn (pc := 223) dX5_comes_223 rfl ?_
    refine A_iloadn (pc := 224) dX5_comes_224 rfl ?_
    refine A_iload (pc := 225) dX5_comes_225 rfl ?_
    obtain ⟨q44, h45, hf⟩ := oi_b hf
    refine A_cV2v (mi2 := mX5_sets) (pc := 227) dX5_comes_227 lX5_132 fX5_sets vX5_sets (lay_s hT (k := 53) (q := (7, 35)) rfl) rfl (Nat.le_of_ble_eq_true rfl) rfl (Nat.le_of_ble_eq_true rfl) (wX5_sets (by omega) hT  h45) ?_
    refine A_iconst (pc := 230) 1 dX5_comes_230 rfl ?_
    obtain rfl := Option.some.inj hf
    exact A_iret (pc := 231) dX5_comes_231 rfl rfl ⟨rfl, rfl, rfl⟩
  have hf := oi_t cc43 hf
  refine A_iconst (pc := 221) 0 dX5_comes_221 rfl ?_
  obtain rfl := Option.some.inj hf
  exact A_iret (pc := 222) dX5_comes_222 rfl rfl ⟨rfl, rfl, rfl⟩
def zX5_passes_L2 (n : Nat) (c1 : Nat) (c1n : Nat) (k : Int32 → MU → Option (MU)) : Nat → Int32 → MU → Option (MU)
  | 0, _, _ => none
  | m + 1, t2, u => if (Int32.ofNat c1n) ≤ t2 then (k t2 u) else (if (u 53 25) = 0 then (if oob (u 53 26) 340 then none else if oob t2 c1n then none else letb (up2 u c1 t2.toNatClampNeg (u 70 (u 53 26).toNatClampNeg)) (fun u5 => letb (up2 u5 53 26 ((u5 53 26) + 1)) (fun u6 => zX5_passes_L2 n c1 c1n  k m (t2 + 1) u6))) else (if oob t2 c1n then none else if oob (u 53 26) 340 then none else letb (up2 u 70 (u 53 26).toNatClampNeg (u c1 t2.toNatClampNeg)) (fun u9 => letb (up2 u9 53 26 ((u9 53 26) + 1)) (fun u10 => zX5_passes_L2 n c1 c1n  k m (t2 + 1) u10))))
def zX5_passes (n : Nat) (u : MU) (c1 : Nat) (c1n : Nat) : Option (MU) := zX5_passes_L2 n c1 c1n  (fun y11 w12 => some w12) n 0 u
set_option maxHeartbeats 4000000 in
set_option maxRecDepth 100000 in
theorem wX5_passes_L2 {G : GG} {T : TT} {n d : Nat} (hd : 0 ≤ d) {c1 : Nat} {c1n : Nat} {k : Int32 → MU → Option (MU)} (hT : LAY T) (hc1 : T.1[c1]? = some (0, c1n)) (hk : ∀ (t2 : Int32) (u : MU) (q : MU), k t2 u = some q → AW G d mX5_passes 58 [.ref 53, .ref c1, .int t2] [] T u 0 0 (QV T q)) : ∀ (m : Nat) (t2 : Int32) (u : MU) (q : MU), zX5_passes_L2 n c1 c1n k m t2 u = some q → AW G d mX5_passes 2 [.ref 53, .ref c1, .int t2] [] T u 0 0 (QV T q) := by
  intro m
  induction m with
  | zero =>
    intro t2 u q hf
    have h0 : (none : Option (MU)) = some q := hf
    cases h0
  | succ m ih =>
    intro t2 u q hf
    rw [zX5_passes_L2] at hf
    refine A_iloadn (pc := 2) dX5_passes_2 rfl ?_
    refine A_aloadn (pc := 3) dX5_passes_3 rfl ?_
    refine A_alen (pc := 4) _ dX5_passes_4 hc1 rfl ?_
    refine A_icmp_ge (pc := 5) 58 dX5_passes_5 (by decide) (fun cc1 => ?_) (fun cc1 => ?_)
    · have hf := oi_t cc1 hf
      exact hk _ _ _ hf
    have hf := oi_f cc1 hf
    refine A_aloadn (pc := 8) dX5_passes_8 rfl ?_
    refine A_getI (pc := 9) dX5_passes_9 gX5_147 (lay_s hT (k := 53) (q := (7, 35)) rfl) (Nat.le_of_ble_eq_true rfl) rfl ?_
    refine A_if_eq (pc := 12) (w := 0) 30 dX5_passes_12 (by decide) (fun cc2 => ?_) (fun cc2 => ?_)
    · have hf := oi_t cc2 hf
      refine A_aloadn (pc := 30) dX5_passes_30 rfl ?_
      refine A_iloadn (pc := 31) dX5_passes_31 rfl ?_
      refine A_aloadn (pc := 32) dX5_passes_32 rfl ?_
      refine A_getR (pc := 33) dX5_passes_33 gX5_65 (lay_s hT (k := 53) (q := (7, 35)) rfl) (Nat.le_of_ble_eq_true rfl) rfl (lay_r hT 68 rfl) ?_
      refine A_aloadn (pc := 36) dX5_passes_36 rfl ?_
      refine A_getI (pc := 37) dX5_passes_37 gX5_151 (lay_s hT (k := 53) (q := (7, 35)) rfl) (Nat.le_of_ble_eq_true rfl) rfl ?_
      obtain ⟨h3, hf⟩ := oi_cf hf
      refine A_iald (pc := 40) dX5_passes_40 (lay_s hT (k := 70) (q := (0, 340)) rfl) (oob_f h3) ?_
      obtain ⟨h4, hf⟩ := oi_cf hf
      have hf := oi_l hf
      refine A_iast (pc := 41) dX5_passes_41 hc1 (oob_f h4) ?_
      refine A_aloadn (pc := 42) dX5_passes_42 rfl ?_
      refine A_dup (pc := 43) dX5_passes_43 ?_
      refine A_getI (pc := 44) dX5_passes_44 gX5_151 (lay_s hT (k := 53) (q := (7, 35)) rfl) (Nat.le_of_ble_eq_true rfl) rfl ?_
      refine A_iconst (pc := 47) 1 dX5_passes_47 rfl ?_
      refine A_iadd (pc := 48) dX5_passes_48 ?_
      have hf := oi_l hf
      refine A_putI (pc := 49) dX5_passes_49 gX5_151 (lay_s hT (k := 53) (q := (7, 35)) rfl) (Nat.le_of_ble_eq_true rfl) rfl rfl rfl rfl ?_
      refine A_inc (pc := 52) (L2 := [.ref 53, .ref c1, .int (t2 + 1)]) (t2 + 1) dX5_passes_52 rfl rfl rfl ?_
      refine A_goto (pc := 55) 2 dX5_passes_55 (by decide) ?_
      exact ih _ _ _ hf
    have hf := oi_f cc2 hf
    refine A_aloadn (pc := 15) dX5_passes_15 rfl ?_
    refine A_getR (pc := 16) dX5_passes_16 gX5_65 (lay_s hT (k := 53) (q := (7, 35)) rfl) (Nat.le_of_ble_eq_true rfl) rfl (lay_r hT 68 rfl) ?_
    refine A_aloadn (pc := 19) dX5_passes_19 rfl ?_
    refine A_getI (pc := 20) dX5_passes_20 gX5_151 (lay_s hT (k := 53) (q := (7, 35)) rfl) (Nat.le_of_ble_eq_true rfl) rfl ?_
    refine A_aloadn (pc := 23) dX5_passes_23 rfl ?_
    refine A_iloadn (pc := 24) dX5_passes_24 rfl ?_
    obtain ⟨h7, hf⟩ := oi_cf hf
    refine A_iald (pc := 25) dX5_passes_25 hc1 (oob_f h7) ?_
    obtain ⟨h8, hf⟩ := oi_cf hf
    have hf := oi_l hf
    refine A_iast (pc := 26) dX5_passes_26 (lay_s hT (k := 70) (q := (0, 340)) rfl) (oob_f h8) ?_
    refine A_goto (pc := 27) 42 dX5_passes_27 (by decide) ?_
    refine A_aloadn (pc := 42) dX5_passes_42 rfl ?_
    refine A_dup (pc := 43) dX5_passes_43 ?_
    refine A_getI (pc := 44) dX5_passes_44 gX5_151 (lay_s hT (k := 53) (q := (7, 35)) rfl) (Nat.le_of_ble_eq_true rfl) rfl ?_
    refine A_iconst (pc := 47) 1 dX5_passes_47 rfl ?_
    refine A_iadd (pc := 48) dX5_passes_48 ?_
    have hf := oi_l hf
    refine A_putI (pc := 49) dX5_passes_49 gX5_151 (lay_s hT (k := 53) (q := (7, 35)) rfl) (Nat.le_of_ble_eq_true rfl) rfl rfl rfl rfl ?_
    refine A_inc (pc := 52) (L2 := [.ref 53, .ref c1, .int (t2 + 1)]) (t2 + 1) dX5_passes_52 rfl rfl rfl ?_
    refine A_goto (pc := 55) 2 dX5_passes_55 (by decide) ?_
    exact ih _ _ _ hf
set_option maxHeartbeats 4000000 in
set_option maxRecDepth 100000 in
theorem wX5_passes {G : GG} {T : TT} {n d : Nat} (hd : 0 ≤ d) {q : MU} {u : MU} {c1 : Nat} {c1n : Nat} (hT : LAY T) (hc1 : T.1[c1]? = some (0, c1n)) (hf : zX5_passes n u c1 c1n = some q) : AW G d mX5_passes 0 [.ref 53, .ref c1, .null] [] T u 0 0 (QV T q) := by
  rw [zX5_passes] at hf
  refine A_iconst (pc := 0) 0 dX5_passes_0 rfl ?_
  refine A_istn (pc := 1) (L2 := [.ref 53, .ref c1, .int 0]) dX5_passes_1 (Nat.le_of_ble_eq_true rfl) rfl ?_
  exact wX5_passes_L2 (by omega) hT hc1 (fun y11 w12 q0 hf => by
    obtain rfl := Option.some.inj hf
    exact A_vret (pc := 58) dX5_passes_58 rfl ⟨rfl, rfl, rfl⟩) _ _ _ _ hf
def zX5_passOne (n : Nat) (u : MU) (a1 : Int32) : Option (Int32 × MU) := if (u 53 25) = 0 then (if oob (u 53 26) 340 then none else letb (u 70 (u 53 26).toNatClampNeg) (fun x3 => if (u 53 25) = 0 then (letb (up2 u 53 26 ((u 53 26) + 1)) (fun u5 => some (x3, u5))) else (if oob (u 53 26) 340 then none else letb (up2 u 70 (u 53 26).toNatClampNeg a1) (fun u7 => letb (up2 u7 53 26 ((u7 53 26) + 1)) (fun u8 => some (x3, u8)))))) else (if (u 53 25) = 0 then (letb (up2 u 53 26 ((u 53 26) + 1)) (fun u10 => some (a1, u10))) else (if oob (u 53 26) 340 then none else letb (up2 u 70 (u 53 26).toNatClampNeg a1) (fun u12 => letb (up2 u12 53 26 ((u12 53 26) + 1)) (fun u13 => some (a1, u13)))))
set_option maxHeartbeats 4000000 in
set_option maxRecDepth 100000 in
theorem wX5_passOne {G : GG} {T : TT} {n d : Nat} (hd : 0 ≤ d) {q : Int32 × MU} {u : MU} {a1 : Int32} (hT : LAY T) (hf : zX5_passOne n u a1 = some q) : AW G d mX5_passOne 0 [.ref 53, .int a1, .null] [] T u 0 0 (QS T q.1 q.2) := by
  rw [zX5_passOne] at hf
  refine A_aloadn (pc := 0) dX5_passOne_0 rfl ?_
  refine A_getI (pc := 1) dX5_passOne_1 gX5_147 (lay_s hT (k := 53) (q := (7, 35)) rfl) (Nat.le_of_ble_eq_true rfl) rfl ?_
  refine A_if_eq (pc := 4) (w := 0) 11 dX5_passOne_4 (by decide) (fun cc1 => ?_) (fun cc1 => ?_)
  · have hf := oi_t cc1 hf
    refine A_aloadn (pc := 11) dX5_passOne_11 rfl ?_
    refine A_getR (pc := 12) dX5_passOne_12 gX5_65 (lay_s hT (k := 53) (q := (7, 35)) rfl) (Nat.le_of_ble_eq_true rfl) rfl (lay_r hT 68 rfl) ?_
    refine A_aloadn (pc := 15) dX5_passOne_15 rfl ?_
    refine A_getI (pc := 16) dX5_passOne_16 gX5_151 (lay_s hT (k := 53) (q := (7, 35)) rfl) (Nat.le_of_ble_eq_true rfl) rfl ?_
    obtain ⟨h2, hf⟩ := oi_cf hf
    refine A_iald (pc := 19) dX5_passOne_19 (lay_s hT (k := 70) (q := (0, 340)) rfl) (oob_f h2) ?_
    have hf := oi_l hf
    refine A_istn (pc := 20) (L2 := [.ref 53, .int a1, .int (u 70 (u 53 26).toNatClampNeg)]) dX5_passOne_20 (Nat.le_of_ble_eq_true rfl) rfl ?_
    refine A_aloadn (pc := 21) dX5_passOne_21 rfl ?_
    refine A_getI (pc := 22) dX5_passOne_22 gX5_147 (lay_s hT (k := 53) (q := (7, 35)) rfl) (Nat.le_of_ble_eq_true rfl) rfl ?_
    refine A_if_eq (pc := 25) (w := 0) 38 dX5_passOne_25 (by decide) (fun cc4 => ?_) (fun cc4 => ?_)
    · have hf := oi_t cc4 hf
      refine A_aloadn (pc := 38) dX5_passOne_38 rfl ?_
      refine A_dup (pc := 39) dX5_passOne_39 ?_
      refine A_getI (pc := 40) dX5_passOne_40 gX5_151 (lay_s hT (k := 53) (q := (7, 35)) rfl) (Nat.le_of_ble_eq_true rfl) rfl ?_
      refine A_iconst (pc := 43) 1 dX5_passOne_43 rfl ?_
      refine A_iadd (pc := 44) dX5_passOne_44 ?_
      have hf := oi_l hf
      refine A_putI (pc := 45) dX5_passOne_45 gX5_151 (lay_s hT (k := 53) (q := (7, 35)) rfl) (Nat.le_of_ble_eq_true rfl) rfl rfl rfl rfl ?_
      refine A_iloadn (pc := 48) dX5_passOne_48 rfl ?_
      obtain rfl := Option.some.inj hf
      exact A_iret (pc := 49) dX5_passOne_49 rfl rfl ⟨rfl, rfl, rfl⟩
    have hf := oi_f cc4 hf
    refine A_aloadn (pc := 28) dX5_passOne_28 rfl ?_
    refine A_getR (pc := 29) dX5_passOne_29 gX5_65 (lay_s hT (k := 53) (q := (7, 35)) rfl) (Nat.le_of_ble_eq_true rfl) rfl (lay_r hT 68 rfl) ?_
    refine A_aloadn (pc := 32) dX5_passOne_32 rfl ?_
    refine A_getI (pc := 33) dX5_passOne_33 gX5_151 (lay_s hT (k := 53) (q := (7, 35)) rfl) (Nat.le_of_ble_eq_true rfl) rfl ?_
    refine A_iloadn (pc := 36) dX5_passOne_36 rfl ?_
    obtain ⟨h6, hf⟩ := oi_cf hf
    have hf := oi_l hf
    refine A_iast (pc := 37) dX5_passOne_37 (lay_s hT (k := 70) (q := (0, 340)) rfl) (oob_f h6) ?_
    refine A_aloadn (pc := 38) dX5_passOne_38 rfl ?_
    refine A_dup (pc := 39) dX5_passOne_39 ?_
    refine A_getI (pc := 40) dX5_passOne_40 gX5_151 (lay_s hT (k := 53) (q := (7, 35)) rfl) (Nat.le_of_ble_eq_true rfl) rfl ?_
    refine A_iconst (pc := 43) 1 dX5_passOne_43 rfl ?_
    refine A_iadd (pc := 44) dX5_passOne_44 ?_
    have hf := oi_l hf
    refine A_putI (pc := 45) dX5_passOne_45 gX5_151 (lay_s hT (k := 53) (q := (7, 35)) rfl) (Nat.le_of_ble_eq_true rfl) rfl rfl rfl rfl ?_
    refine A_iloadn (pc := 48) dX5_passOne_48 rfl ?_
    obtain rfl := Option.some.inj hf
    exact A_iret (pc := 49) dX5_passOne_49 rfl rfl ⟨rfl, rfl, rfl⟩
  have hf := oi_f cc1 hf
  refine A_iloadn (pc := 7) dX5_passOne_7 rfl ?_
  refine A_goto (pc := 8) 20 dX5_passOne_8 (by decide) ?_
  refine A_istn (pc := 20) (L2 := [.ref 53, .int a1, .int a1]) dX5_passOne_20 (Nat.le_of_ble_eq_true rfl) rfl ?_
  refine A_aloadn (pc := 21) dX5_passOne_21 rfl ?_
  refine A_getI (pc := 22) dX5_passOne_22 gX5_147 (lay_s hT (k := 53) (q := (7, 35)) rfl) (Nat.le_of_ble_eq_true rfl) rfl ?_
  refine A_if_eq (pc := 25) (w := 0) 38 dX5_passOne_25 (by decide) (fun cc9 => ?_) (fun cc9 => ?_)
  · have hf := oi_t cc9 hf
    refine A_aloadn (pc := 38) dX5_passOne_38 rfl ?_
    refine A_dup (pc := 39) dX5_passOne_39 ?_
    refine A_getI (pc := 40) dX5_passOne_40 gX5_151 (lay_s hT (k := 53) (q := (7, 35)) rfl) (Nat.le_of_ble_eq_true rfl) rfl ?_
    refine A_iconst (pc := 43) 1 dX5_passOne_43 rfl ?_
    refine A_iadd (pc := 44) dX5_passOne_44 ?_
    have hf := oi_l hf
    refine A_putI (pc := 45) dX5_passOne_45 gX5_151 (lay_s hT (k := 53) (q := (7, 35)) rfl) (Nat.le_of_ble_eq_true rfl) rfl rfl rfl rfl ?_
    refine A_iloadn (pc := 48) dX5_passOne_48 rfl ?_
    obtain rfl := Option.some.inj hf
    exact A_iret (pc := 49) dX5_passOne_49 rfl rfl ⟨rfl, rfl, rfl⟩
  have hf := oi_f cc9 hf
  refine A_aloadn (pc := 28) dX5_passOne_28 rfl ?_
  refine A_getR (pc := 29) dX5_passOne_29 gX5_65 (lay_s hT (k := 53) (q := (7, 35)) rfl) (Nat.le_of_ble_eq_true rfl) rfl (lay_r hT 68 rfl) ?_
  refine A_aloadn (pc := 32) dX5_passOne_32 rfl ?_
  refine A_getI (pc := 33) dX5_passOne_33 gX5_151 (lay_s hT (k := 53) (q := (7, 35)) rfl) (Nat.le_of_ble_eq_true rfl) rfl ?_
  refine A_iloadn (pc := 36) dX5_passOne_36 rfl ?_
  obtain ⟨h11, hf⟩ := oi_cf hf
  have hf := oi_l hf
  refine A_iast (pc := 37) dX5_passOne_37 (lay_s hT (k := 70) (q := (0, 340)) rfl) (oob_f h11) ?_
  refine A_aloadn (pc := 38) dX5_passOne_38 rfl ?_
  refine A_dup (pc := 39) dX5_passOne_39 ?_
  refine A_getI (pc := 40) dX5_passOne_40 gX5_151 (lay_s hT (k := 53) (q := (7, 35)) rfl) (Nat.le_of_ble_eq_true rfl) rfl ?_
  refine A_iconst (pc := 43) 1 dX5_passOne_43 rfl ?_
  refine A_iadd (pc := 44) dX5_passOne_44 ?_
  have hf := oi_l hf
  refine A_putI (pc := 45) dX5_passOne_45 gX5_151 (lay_s hT (k := 53) (q := (7, 35)) rfl) (Nat.le_of_ble_eq_true rfl) rfl rfl rfl rfl ?_
  refine A_iloadn (pc := 48) dX5_passOne_48 rfl ?_
  obtain rfl := Option.some.inj hf
  exact A_iret (pc := 49) dX5_passOne_49 rfl rfl ⟨rfl, rfl, rfl⟩
def zX5_passesAll (n : Nat) (u : MU) (a1 : Int32) (a2 : Int32) : Option (MU) := letb (up2 u 53 26 (170 * a1)) (fun u1 => if a2 = 0 ∨ a2 = 1 then (letb (up2 u1 53 25 a2) (fun u3 => Option.bind (zX5_passes n u3 55 5) (fun q4 => Option.bind (zX5_passes n q4 56 5) (fun q6 => Option.bind (zX5_passes n q6 57 5) (fun q8 => Option.bind (zX5_passes n q8 58 7) (fun q10 => Option.bind (zX5_passes n q10 59 7) (fun q12 => Option.bind (zX5_passes n q12 60 7) (fun q14 => Option.bind (zX5_passes n q14 61 7) (fun q16 => Option.bind (zX5_passes n q16 62 7) (fun q18 => Option.bind (zX5_passes n q18 63 7) (fun q20 => Option.bind (zX5_passes n q20 64 49) (fun q22 => Option.bind (zX5_passes n q22 65 49) (fun q24 => Option.bind (zX5_passOne n q24 (q24 53 12)) (fun q26 => letb (up2 q26.2 53 12 q26.1) (fun u28 => Option.bind (zX5_passOne n u28 (u28 53 13)) (fun q29 => letb (up2 q29.2 53 13 q29.1) (fun u31 => Option.bind (zX5_passOne n u31 (u31 53 14)) (fun q32 => letb (up2 q32.2 53 14 q32.1) (fun u34 => Option.bind (zX5_passOne n u34 (u34 53 15)) (fun q35 => letb (up2 q35.2 53 15 q35.1) (fun u37 => some u37))))))))))))))))))))) else none)
set_option maxHeartbeats 4000000 in
set_option maxRecDepth 100000 in
theorem wX5_passesAll {G : GG} {T : TT} {n d : Nat} (hd : 1 ≤ d) {q : MU} {u : MU} {a1 : Int32} {a2 : Int32} (hT : LAY T) (hf : zX5_passesAll n u a1 a2 = some q) : AW G d mX5_passesAll 0 [.ref 53, .int a1, .int a2] [] T u 0 0 (QV T q) := by
  obtain ⟨d, rfl⟩ : ∃ e, d = e + 1 := ⟨d - 1, by omega⟩
  rw [zX5_passesAll] at hf
  refine A_aloadn (pc := 0) dX5_passesAll_0 rfl ?_
  refine A_sipush (pc := 1) 170 dX5_passesAll_1 rfl ?_
  refine A_iloadn (pc := 4) dX5_passesAll_4 rfl ?_
  refine A_imul (pc := 5) dX5_passesAll_5 ?_
  have hf := oi_l hf
  refine A_putI (pc := 6) dX5_passesAll_6 gX5_151 (lay_s hT (k := 53) (q := (7, 35)) rfl) (Nat.le_of_ble_eq_true rfl) rfl rfl rfl rfl ?_
  refine A_aloadn (pc := 9) dX5_passesAll_9 rfl ?_
  refine A_iloadn (pc := 10) dX5_passesAll_10 rfl ?_
  obtain ⟨h2, hf⟩ := oi_ck hf
  have hf := oi_l hf
  refine A_putI (pc := 11) dX5_passesAll_11 gX5_147 (lay_s hT (k := 53) (q := (7, 35)) rfl) (Nat.le_of_ble_eq_true rfl) rfl rfl (bck_n h2) (bck_f h2) ?_
  refine A_aloadn (pc := 14) dX5_passesAll_14 rfl ?_
  refine A_aloadn (pc := 15) dX5_passesAll_15 rfl ?_
  refine A_getR (pc := 16) dX5_passesAll_16 gX5_13 (lay_s hT (k := 53) (q := (7, 35)) rfl) (Nat.le_of_ble_eq_true rfl) rfl (lay_r hT 53 rfl) ?_
  obtain ⟨q4, h5, hf⟩ := oi_b hf
  refine A_cV1v (mi2 := mX5_passes) (pc := 19) dX5_passesAll_19 lX5_154 fX5_passes vX5_passes (lay_s hT (k := 53) (q := (7, 35)) rfl) rfl (Nat.le_of_ble_eq_true rfl) rfl (Nat.le_of_ble_eq_true rfl) (wX5_passes (by omega) hT (lay_s hT (k := 55) (q := (0, 5)) rfl) h5) ?_
  refine A_aloadn (pc := 22) dX5_passesAll_22 rfl ?_
  refine A_aloadn (pc := 23) dX5_passesAll_23 rfl ?_
  refine A_getR (pc := 24) dX5_passesAll_24 gX5_16 (lay_s hT (k := 53) (q := (7, 35)) rfl) (Nat.le_of_ble_eq_true rfl) rfl (lay_r hT 54 rfl) ?_
  obtain ⟨q6, h7, hf⟩ := oi_b hf
  refine A_cV1v (mi2 := mX5_passes) (pc := 27) dX5_passesAll_27 lX5_154 fX5_passes vX5_passes (lay_s hT (k := 53) (q := (7, 35)) rfl) rfl (Nat.le_of_ble_eq_true rfl) rfl (Nat.le_of_ble_eq_true rfl) (wX5_passes (by omega) hT (lay_s hT (k := 56) (q := (0, 5)) rfl) h7) ?_
  refine A_aloadn (pc := 30) dX5_passesAll_30 rfl ?_
  refine A_aloadn (pc := 31) dX5_passesAll_31 rfl ?_
  refine A_getR (pc := 32) dX5_passesAll_32 gX5_19 (lay_s hT (k := 53) (q := (7, 35)) rfl) (Nat.le_of_ble_eq_true rfl) rfl (lay_r hT 55 rfl) ?_
  obtain ⟨q8, h9, hf⟩ := oi_b hf
  refine A_cV1v (mi2 := mX5_passes) (pc := 35) dX5_passesAll_35 lX5_154 fX5_passes vX5_passes (lay_s hT (k := 53) (q := (7, 35)) rfl) rfl (Nat.le_of_ble_eq_true rfl) rfl (Nat.le_of_ble_eq_true rfl) (wX5_passes (by omega) hT (lay_s hT (k := 57) (q := (0, 5)) rfl) h9) ?_
  refine A_aloadn (pc := 38) dX5_passesAll_38 rfl ?_
  refine A_aloadn (pc := 39) dX5_passesAll_39 rfl ?_
  refine A_getR (pc := 40) dX5_passesAll_40 gX5_22 (lay_s hT (k := 53) (q := (7, 35)) rfl) (Nat.le_of_ble_eq_true rfl) rfl (lay_r hT 56 rfl) ?_
  obtain ⟨q10, h11, hf⟩ := oi_b hf
  refine A_cV1v (mi2 := mX5_passes) (pc := 43) dX5_passesAll_43 lX5_154 fX5_passes vX5_passes (lay_s hT (k := 53) (q := (7, 35)) rfl) rfl (Nat.le_of_ble_eq_true rfl) rfl (Nat.le_of_ble_eq_true rfl) (wX5_passes (by omega) hT (lay_s hT (k := 58) (q := (0, 7)) rfl) h11) ?_
  refine A_aloadn (pc := 46) dX5_passesAll_46 rfl ?_
  refine A_aloadn (pc := 47) dX5_passesAll_47 rfl ?_
  refine A_getR (pc := 48) dX5_passesAll_48 gX5_25 (lay_s hT (k := 53) (q := (7, 35)) rfl) (Nat.le_of_ble_eq_true rfl) rfl (lay_r hT 57 rfl) ?_
  obtain ⟨q12, h13, hf⟩ := oi_b hf
  refine A_cV1v (mi2 := mX5_passes) (pc := 51) dX5_passesAll_51 lX5_154 fX5_passes vX5_passes (lay_s hT (k := 53) (q := (7, 35)) rfl) rfl (Nat.le_of_ble_eq_true rfl) rfl (Nat.le_of_ble_eq_true rfl) (wX5_passes (by omega) hT (lay_s hT (k := 59) (q := (0, 7)) rfl) h13) ?_
  refine A_aloadn (pc := 54) dX5_passesAll_54 rfl ?_
  refine A_aloadn (pc := 55) dX5_passesAll_55 rfl ?_
  refine A_getR (pc := 56) dX5_passesAll_56 gX5_28 (lay_s hT (k := 53) (q := (7, 35)) rfl) (Nat.le_of_ble_eq_true rfl) rfl (lay_r hT 58 rfl) ?_
  obtain ⟨q14, h15, hf⟩ := oi_b hf
  refine A_cV1v (mi2 := mX5_passes) (pc := 59) dX5_passesAll_59 lX5_154 fX5_passes vX5_passes (lay_s hT (k := 53) (q := (7, 35)) rfl) rfl (Nat.le_of_ble_eq_true rfl) rfl (Nat.le_of_ble_eq_true rfl) (wX5_passes (by omega) hT (lay_s hT (k := 60) (q := (0, 7)) rfl) h15) ?_
  refine A_aloadn (pc := 62) dX5_passesAll_62 rfl ?_
  refine A_aloadn (pc := 63) dX5_passesAll_63 rfl ?_
  refine A_getR (pc := 64) dX5_passesAll_64 gX5_31 (lay_s hT (k := 53) (q := (7, 35)) rfl) (Nat.le_of_ble_eq_true rfl) rfl (lay_r hT 59 rfl) ?_
  obtain ⟨q16, h17, hf⟩ := oi_b hf
  refine A_cV1v (mi2 := mX5_passes) (pc := 67) dX5_passesAll_67 lX5_154 fX5_passes vX5_passes (lay_s hT (k := 53) (q := (7, 35)) rfl) rfl (Nat.le_of_ble_eq_true rfl) rfl (Nat.le_of_ble_eq_true rfl) (wX5_passes (by omega) hT (lay_s hT (k := 61) (q := (0, 7)) rfl) h17) ?_
  refine A_aloadn (pc := 70) dX5_passesAll_70 rfl ?_
  refine A_aloadn (pc := 71) dX5_passesAll_71 rfl ?_
  refine A_getR (pc := 72) dX5_passesAll_72 gX5_34 (lay_s hT (k := 53) (q := (7, 35)) rfl) (Nat.le_of_ble_eq_true rfl) rfl (lay_r hT 60 rfl) ?_
  obtain ⟨q18, h19, hf⟩ := oi_b hf
  refine A_cV1v (mi2 := mX5_passes) (pc := 75) dX5_passesAll_75 lX5_154 fX5_passes vX5_passes (lay_s hT (k := 53) (q := (7, 35)) rfl) rfl (Nat.le_of_ble_eq_true rfl) rfl (Nat.le_of_ble_eq_true rfl) (wX5_passes (by omega) hT (lay_s hT (k := 62) (q := (0, 7)) rfl) h19) ?_
  refine A_aloadn (pc := 78) dX5_passesAll_78 rfl ?_
  refine A_aloadn (pc := 79) dX5_passesAll_79 rfl ?_
  refine A_getR (pc := 80) dX5_passesAll_80 gX5_37 (lay_s hT (k := 53) (q := (7, 35)) rfl) (Nat.le_of_ble_eq_true rfl) rfl (lay_r hT 61 rfl) ?_
  obtain ⟨q20, h21, hf⟩ := oi_b hf
  refine A_cV1v (mi2 := mX5_passes) (pc := 83) dX5_passesAll_83 lX5_154 fX5_passes vX5_passes (lay_s hT (k := 53) (q := (7, 35)) rfl) rfl (Nat.le_of_ble_eq_true rfl) rfl (Nat.le_of_ble_eq_true rfl) (wX5_passes (by omega) hT (lay_s hT (k := 63) (q := (0, 7)) rfl) h21) ?_
  refine A_aloadn (pc := 86) dX5_passesAll_86 rfl ?_
  refine A_aloadn (pc := 87) dX5_passesAll_87 rfl ?_
  refine A_getR (pc := 88) dX5_passesAll_88 gX5_40 (lay_s hT (k := 53) (q := (7, 35)) rfl) (Nat.le_of_ble_eq_true rfl) rfl (lay_r hT 62 rfl) ?_
  obtain ⟨q22, h23, hf⟩ := oi_b hf
  refine A_cV1v (mi2 := mX5_passes) (pc := 91) dX5_passesAll_91 lX5_154 fX5_passes vX5_passes (lay_s hT (k := 53) (q := (7, 35)) rfl) rfl (Nat.le_of_ble_eq_true rfl) rfl (Nat.le_of_ble_eq_true rfl) (wX5_passes (by omega) hT (lay_s hT (k := 64) (q := (0, 49)) rfl) h23) ?_
  refine A_aloadn (pc := 94) dX5_passesAll_94 rfl ?_
  refine A_aloadn (pc := 95) dX5_passesAll_95 rfl ?_
  refine A_getR (pc := 96) dX5_passesAll_96 gX5_43 (lay_s hT (k := 53) (q := (7, 35)) rfl) (Nat.le_of_ble_eq_true rfl) rfl (lay_r hT 63 rfl) ?_
  obtain ⟨q24, h25, hf⟩ := oi_b hf
  refine A_cV1v (mi2 := mX5_passes) (pc := 99) dX5_passesAll_99 lX5_154 fX5_passes vX5_passes (lay_s hT (k := 53) (q := (7, 35)) rfl) rfl (Nat.le_of_ble_eq_true rfl) rfl (Nat.le_of_ble_eq_true rfl) (wX5_passes (by omega) hT (lay_s hT (k := 65) (q := (0, 49)) rfl) h25) ?_
  refine A_aloadn (pc := 102) dX5_passesAll_102 rfl ?_
  refine A_aloadn (pc := 103) dX5_passesAll_103 rfl ?_
  refine A_aloadn (pc := 104) dX5_passesAll_104 rfl ?_
  refine A_getI (pc := 105) dX5_passesAll_105 gX5_46 (lay_s hT (k := 53) (q := (7, 35)) rfl) (Nat.le_of_ble_eq_true rfl) rfl ?_
  obtain ⟨q26, h27, hf⟩ := oi_b hf
  refine A_cV1i (mi2 := mX5_passOne) (pc := 108) dX5_passesAll_108 lX5_158 fX5_passOne vX5_passOne (lay_s hT (k := 53) (q := (7, 35)) rfl) rfl (Nat.le_of_ble_eq_true rfl) rfl (Nat.le_of_ble_eq_true rfl) (wX5_passOne (by omega) hT  h27) ?_
  have hf := oi_l hf
  refine A_putI (pc := 111) dX5_passesAll_111 gX5_46 (lay_s hT (k := 53) (q := (7, 35)) rfl) (Nat.le_of_ble_eq_true rfl) rfl rfl rfl rfl ?_
  refine A_aloadn (pc := 114) dX5_passesAll_114 rfl ?_
  refine A_aloadn (pc := 115) dX5_passesAll_115 rfl ?_
  refine A_aloadn (pc := 116) dX5_passesAll_116 rfl ?_
  refine A_getI (pc := 117) dX5_passesAll_117 gX5_78 (lay_s hT (k := 53) (q := (7, 35)) rfl) (Nat.le_of_ble_eq_true rfl) rfl ?_
  obtain ⟨q29, h30, hf⟩ := oi_b hf
  refine A_cV1i (mi2 := mX5_passOne) (pc := 120) dX5_passesAll_120 lX5_158 fX5_passOne vX5_passOne (lay_s hT (k := 53) (q := (7, 35)) rfl) rfl (Nat.le_of_ble_eq_true rfl) rfl (Nat.le_of_ble_eq_true rfl) (wX5_passOne (by omega) hT  h30) ?_
  have hf := oi_l hf
  refine A_putI (pc := 123) dX5_passesAll_123 gX5_78 (lay_s hT (k := 53) (q := (7, 35)) rfl) (Nat.le_of_ble_eq_true rfl) rfl rfl rfl rfl ?_
  refine A_aloadn (pc := 126) dX5_passesAll_126 rfl ?_
  refine A_aloadn (pc := 127) dX5_passesAll_127 rfl ?_
  refine A_aloadn (pc := 128) dX5_passesAll_128 rfl ?_
  refine A_getI (pc := 129) dX5_passesAll_129 gX5_50 (lay_s hT (k := 53) (q := (7, 35)) rfl) (Nat.le_of_ble_eq_true rfl) rfl ?_
  obtain ⟨q32, h33, hf⟩ := oi_b hf
  refine A_cV1i (mi2 := mX5_passOne) (pc := 132) dX5_passesAll_132 lX5_158 fX5_passOne vX5_passOne (lay_s hT (k := 53) (q := (7, 35)) rfl) rfl (Nat.le_of_ble_eq_true rfl) rfl (Nat.le_of_ble_eq_true rfl) (wX5_passOne (by omega) hT  h33) ?_
  have hf := oi_l hf
  refine A_putI (pc := 135) dX5_passesAll_135 gX5_50 (lay_s hT (k := 53) (q := (7, 35)) rfl) (Nat.le_of_ble_eq_true rfl) rfl rfl rfl rfl ?_
  refine A_aloadn (pc := 138) dX5_passesAll_138 rfl ?_
  refine A_aloadn (pc := 139) dX5_passesAll_139 rfl ?_
  refine A_aloadn (pc := 140) dX5_passesAll_140 rfl ?_
  refine A_getI (pc := 141) dX5_passesAll_141 gX5_161 (lay_s hT (k := 53) (q := (7, 35)) rfl) (Nat.le_of_ble_eq_true rfl) rfl ?_
  obtain ⟨q35, h36, hf⟩ := oi_b hf
  refine A_cV1i (mi2 := mX5_passOne) (pc := 144) dX5_passesAll_144 lX5_158 fX5_passOne vX5_passOne (lay_s hT (k := 53) (q := (7, 35)) rfl) rfl (Nat.le_of_ble_eq_true rfl) rfl (Nat.le_of_ble_eq_true rfl) (wX5_passOne (by omega) hT  h36) ?_
  have hf := oi_l hf
  refine A_putI (pc := 147) dX5_passesAll_147 gX5_161 (lay_s hT (k := 53) (q := (7, 35)) rfl) (Nat.le_of_ble_eq_true rfl) rfl rfl rfl rfl ?_
  obtain rfl := Option.some.inj hf
  exact A_vret (pc := 150) dX5_passesAll_150 rfl ⟨rfl, rfl, rfl⟩
def zX5_river_L12 (n : Nat) (k : Int32 → MU → Option (Int32 × MU)) : Nat → Int32 → MU → Option (Int32 × MU)
  | 0, _, _ => none
  | m + 1, t1, u => if t1 = 0 then (k t1 u) else (if (u 53 21) < (u 53 20) then (Option.bind (zX5_statement n u) (fun q5 => letb q5.1 (fun x7 => if x7 = 0 then (letb (up2 q5.2 53 22 ((q5.2 53 22) + 0)) (fun u9 => zX5_river_L12 n   k m x7 u9)) else (letb (up2 q5.2 53 22 ((q5.2 53 22) + 1)) (fun u10 => zX5_river_L12 n   k m x7 u10))))) else (if (u 53 22) = 0 then (Option.bind (zX5_statement n u) (fun q12 => letb q12.1 (fun x14 => if x14 = 0 then (letb (up2 q12.2 53 22 ((q12.2 53 22) + 0)) (fun u16 => zX5_river_L12 n   k m x14 u16)) else (letb (up2 q12.2 53 22 ((q12.2 53 22) + 1)) (fun u17 => zX5_river_L12 n   k m x14 u17))))) else (k t1 u)))
def zX5_river_L86 (n : Nat) (k : Int32 → MU → Option (Int32 × MU)) : Nat → Int32 → MU → Option (Int32 × MU)
  | 0, _, _ => none
  | m + 1, t2, u => if (u 53 22) ≤ t2 then (k t2 u) else (Option.bind (zX5_comes n u t2) (fun q25 => if q25.1 = 0 then (Option.bind (zX5_passesAll n q25.2 1 0) (fun q28 => if oob t2 40 then none else some (((-2000) - (q28 68 t2.toNatClampNeg)), q28))) else (zX5_river_L86 n   k m (t2 + 1) q25.2)))
def zX5_river (n : Nat) (u : MU) : Option (Int32 × MU) := letb (up2 u 53 21 0) (fun u1 => letb (up2 u1 53 22 0) (fun u2 => zX5_river_L12 n   (fun y18 w19 => letb (up2 w19 53 20 0) (fun u20 => if y18 = 0 then (some (((-1000) - (u20 53 21)), u20)) else (Option.bind (zX5_passesAll n u20 1 1) (fun q22 => zX5_river_L86 n   (fun y31 w32 => some ((w32 53 22), w32)) n 0 q22)))) n 1 u2))
set_option maxHeartbeats 4000000 in
set_option maxRecDepth 100000 in
theorem wX5_river_L12 {G : GG} {T : TT} {n d : Nat} (hd : 3 ≤ d) {k : Int32 → MU → Option (Int32 × MU)} (hT : LAY T) (hk : ∀ (t1 : Int32) (u : MU) (q : Int32 × MU), k t1 u = some q → AW G d mX5_river 60 [.ref 53, .int t1, .null] [] T u 0 0 (QS T q.1 q.2)) : ∀ (m : Nat) (t1 : Int32) (u : MU) (q : Int32 × MU), zX5_river_L12 n  k m t1 u = some q → AW G d mX5_river 12 [.ref 53, .int t1, .null] [] T u 0 0 (QS T q.1 q.2) := by
  intro m
  obtain ⟨d, rfl⟩ : ∃ e, d = e + 1 := ⟨d - 1, by omega⟩
  induction m with
  | zero =>
    intro t1 u q hf
    have h0 : (none : Option (Int32 × MU)) = some q := hf
    cases h0
  | succ m ih =>
    intro t1 u q hf
    rw [zX5_river_L12] at hf
    refine A_iloadn (pc := 12) dX5_river_12 rfl ?_
    refine A_if_eq (pc := 13) (w := 0) 60 dX5_river_13 (by decide) (fun cc3 => ?_) (fun cc3 => ?_)
    · have hf := oi_t cc3 hf
      exact hk _ _ _ hf
    have hf := oi_f cc3 hf
    refine A_aloadn (pc := 16) dX5_river_16 rfl ?_
    refine A_getI (pc := 17) dX5_river_17 gX5_96 (lay_s hT (k := 53) (q := (7, 35)) rfl) (Nat.le_of_ble_eq_true rfl) rfl ?_
    refine A_aloadn (pc := 20) dX5_river_20 rfl ?_
    refine A_getI (pc := 21) dX5_river_21 gX5_89 (lay_s hT (k := 53) (q := (7, 35)) rfl) (Nat.le_of_ble_eq_true rfl) rfl ?_
    refine A_icmp_lt (pc := 24) 34 dX5_river_24 (by decide) (fun cc4 => ?_) (fun cc4 => ?_)
    · have hf := oi_t cc4 hf
      refine A_aloadn (pc := 34) dX5_river_34 rfl ?_
      obtain ⟨q5, h6, hf⟩ := oi_b hf
      refine A_cV0i (mi2 := mX5_statement) (pc := 35) dX5_river_35 lX5_136 fX5_statement vX5_statement (lay_s hT (k := 53) (q := (7, 35)) rfl) rfl (Nat.le_of_ble_eq_true rfl) rfl (Nat.le_of_ble_eq_true rfl) (wX5_statement (by omega) hT  h6) ?_
      have hf := oi_l hf
      refine A_istn (pc := 38) (L2 := [.ref 53, .int q5.1, .null]) dX5_river_38 (Nat.le_of_ble_eq_true rfl) rfl ?_
      refine A_aloadn (pc := 39) dX5_river_39 rfl ?_
      refine A_dup (pc := 40) dX5_river_40 ?_
      refine A_getI (pc := 41) dX5_river_41 gX5_110 (lay_s hT (k := 53) (q := (7, 35)) rfl) (Nat.le_of_ble_eq_true rfl) rfl ?_
      refine A_iloadn (pc := 44) dX5_river_44 rfl ?_
      refine A_if_eq (pc := 45) (w := 0) 52 dX5_river_45 (by decide) (fun cc8 => ?_) (fun cc8 => ?_)
      · have hf := oi_t cc8 hf
        refine A_iconst (pc := 52) 0 dX5_river_52 rfl ?_
        refine A_iadd (pc := 53) dX5_river_53 ?_
        have hf := oi_l hf
        refine A_putI (pc := 54) dX5_river_54 gX5_110 (lay_s hT (k := 53) (q := (7, 35)) rfl) (Nat.le_of_ble_eq_true rfl) rfl rfl rfl rfl ?_
        refine A_goto (pc := 57) 12 dX5_river_57 (by decide) ?_
        exact ih _ _ _ hf
      have hf := oi_f cc8 hf
      refine A_iconst (pc := 48) 1 dX5_river_48 rfl ?_
      refine A_goto (pc := 49) 53 dX5_river_49 (by decide) ?_
      refine A_iadd (pc := 53) dX5_river_53 ?_
      have hf := oi_l hf
      refine A_putI (pc := 54) dX5_river_54 gX5_110 (lay_s hT (k := 53) (q := (7, 35)) rfl) (Nat.le_of_ble_eq_true rfl) rfl rfl rfl rfl ?_
      refine A_goto (pc := 57) 12 dX5_river_57 (by decide) ?_
      exact ih _ _ _ hf
    have hf := oi_f cc4 hf
    refine A_aloadn (pc := 27) dX5_river_27 rfl ?_
    refine A_getI (pc := 28) dX5_river_28 gX5_110 (lay_s hT (k := 53) (q := (7, 35)) rfl) (Nat.le_of_ble_eq_true rfl) rfl ?_
    refine A_if_ne (pc := 31) (w := 0) 60 dX5_river_31 (by decide) (fun cc11 => ?_) (fun cc11 => ?_)
    · have hf := oi_f cc11 hf
      exact hk _ _ _ hf
    have hf := oi_t cc11 hf
    refine A_aloadn (pc := 34) dX5_river_34 rfl ?_
    obtain ⟨q12, h13, hf⟩ := oi_b hf
    refine A_cV0i (mi2 := mX5_statement) (pc := 35) dX5_river_35 lX5_136 fX5_statement vX5_statement (lay_s hT (k := 53) (q := (7, 35)) rfl) rfl (Nat.le_of_ble_eq_true rfl) rfl (Nat.le_of_ble_eq_true rfl) (wX5_statement (by omega) hT  h13) ?_
    have hf := oi_l hf
    refine A_istn (pc := 38) (L2 := [.ref 53, .int q12.1, .null]) dX5_river_38 (Nat.le_of_ble_eq_true rfl) rfl ?_
    refine A_aloadn (pc := 39) dX5_river_39 rfl ?_
    refine A_dup (pc := 40) dX5_river_40 ?_
    refine A_getI (pc := 41) dX5_river_41 gX5_110 (lay_s hT (k := 53) (q := (7, 35)) rfl) (Nat.le_of_ble_eq_true rfl) rfl ?_
    refine A_iloadn (pc := 44) dX5_river_44 rfl ?_
    refine A_if_eq (pc := 45) (w := 0) 52 dX5_river_45 (by decide) (fun cc15 => ?_) (fun cc15 => ?_)
    · have hf := oi_t cc15 hf
      refine A_iconst (pc := 52) 0 dX5_river_52 rfl ?_
      refine A_iadd (pc := 53) dX5_river_53 ?_
      have hf := oi_l hf
      refine A_putI (pc := 54) dX5_river_54 gX5_110 (lay_s hT (k := 53) (q := (7, 35)) rfl) (Nat.le_of_ble_eq_true rfl) rfl rfl rfl rfl ?_
      refine A_goto (pc := 57) 12 dX5_river_57 (by decide) ?_
      exact ih _ _ _ hf
    have hf := oi_f cc15 hf
    refine A_iconst (pc := 48) 1 dX5_river_48 rfl ?_
    refine A_goto (pc := 49) 53 dX5_river_49 (by decide) ?_
    refine A_iadd (pc := 53) dX5_river_53 ?_
    have hf := oi_l hf
    refine A_putI (pc := 54) dX5_river_54 gX5_110 (lay_s hT (k := 53) (q := (7, 35)) rfl) (Nat.le_of_ble_eq_true rfl) rfl rfl rfl rfl ?_
    refine A_goto (pc := 57) 12 dX5_river_57 (by decide) ?_
    exact ih _ _ _ hf
set_option maxHeartbeats 4000000 in
set_option maxRecDepth 100000 in
theorem wX5_river_L86 {G : GG} {T : TT} {n d : Nat} (hd : 3 ≤ d) {k : Int32 → MU → Option (Int32 × MU)} (hT : LAY T) (hk : ∀ (t2 : Int32) (u : MU) (q : Int32 × MU), k t2 u = some q → AW G d mX5_river 128 [.ref 53, .null, .int t2] [] T u 0 0 (QS T q.1 q.2)) : ∀ (m : Nat) (t2 : Int32) (u : MU) (q : Int32 × MU), zX5_river_L86 n  k m t2 u = some q → AW G d mX5_river 86 [.ref 53, .null, .int t2] [] T u 0 0 (QS T q.1 q.2) := by
  intro m
  obtain ⟨d, rfl⟩ : ∃ e, d = e + 1 := ⟨d - 1, by omega⟩
  induction m with
  | zero =>
    intro t2 u q hf
    have h0 : (none : Option (Int32 × MU)) = some q := hf
    cases h0
  | succ m ih =>
    intro t2 u q hf
    rw [zX5_river_L86] at hf
    refine A_iloadn (pc := 86) dX5_river_86 rfl ?_
    refine A_aloadn (pc := 87) dX5_river_87 rfl ?_
    refine A_getI (pc := 88) dX5_river_88 gX5_110 (lay_s hT (k := 53) (q := (7, 35)) rfl) (Nat.le_of_ble_eq_true rfl) rfl ?_
    refine A_icmp_ge (pc := 91) 128 dX5_river_91 (by decide) (fun cc24 => ?_) (fun cc24 => ?_)
    · have hf := oi_t cc24 hf
      exact hk _ _ _ hf
    have hf := oi_f cc24 hf
    refine A_aloadn (pc := 94) dX5_river_94 rfl ?_
    refine A_iloadn (pc := 95) dX5_river_95 rfl ?_
    obtain ⟨q25, h26, hf⟩ := oi_b hf
    refine A_cV1i (mi2 := mX5_comes) (pc := 96) dX5_river_96 lX5_144 fX5_comes vX5_comes (lay_s hT (k := 53) (q := (7, 35)) rfl) rfl (Nat.le_of_ble_eq_true rfl) rfl (Nat.le_of_ble_eq_true rfl) (wX5_comes (by omega) hT  h26) ?_
    refine A_if_eq (pc := 99) (w := 0) 105 dX5_river_99 (by decide) (fun cc27 => ?_) (fun cc27 => ?_)
    · have hf := oi_t cc27 hf
      refine A_aloadn (pc := 105) dX5_river_105 rfl ?_
      refine A_iconst (pc := 106) 1 dX5_river_106 rfl ?_
      refine A_iconst (pc := 107) 0 dX5_river_107 rfl ?_
      obtain ⟨q28, h29, hf⟩ := oi_b hf
      refine A_cV2v (mi2 := mX5_passesAll) (pc := 108) dX5_river_108 lX5_140 fX5_passesAll vX5_passesAll (lay_s hT (k := 53) (q := (7, 35)) rfl) rfl (Nat.le_of_ble_eq_true rfl) rfl (Nat.le_of_ble_eq_true rfl) (wX5_passesAll (by omega) hT  h29) ?_
      refine A_sipush (pc := 111) (-2000) dX5_river_111 rfl ?_
      refine A_aloadn (pc := 114) dX5_river_114 rfl ?_
      refine A_getR (pc := 115) dX5_river_115 gX5_59 (lay_s hT (k := 53) (q := (7, 35)) rfl) (Nat.le_of_ble_eq_true rfl) rfl (lay_r hT 66 rfl) ?_
      refine A_iloadn (pc := 118) dX5_river_118 rfl ?_
      obtain ⟨h30, hf⟩ := oi_cf hf
      refine A_iald (pc := 119) dX5_river_119 (lay_s hT (k := 68) (q := (0, 40)) rfl) (oob_f h30) ?_
      refine A_isub (pc := 120) dX5_river_120 ?_
      obtain rfl := Option.some.inj hf
      exact A_iret (pc := 121) dX5_river_121 rfl rfl ⟨rfl, rfl, rfl⟩
    have hf := oi_f cc27 hf
    refine A_goto (pc := 102) 122 dX5_river_102 (by decide) ?_
    refine A_inc (pc := 122) (L2 := [.ref 53, .null, .int (t2 + 1)]) (t2 + 1) dX5_river_122 rfl rfl rfl ?_
    refine A_goto (pc := 125) 86 dX5_river_125 (by decide) ?_
    exact ih _ _ _ hf
set_option maxHeartbeats 4000000 in
set_option maxRecDepth 100000 in
theorem wX5_river {G : GG} {T : TT} {n d : Nat} (hd : 3 ≤ d) {q : Int32 × MU} {u : MU} (hT : LAY T) (hf : zX5_river n u = some q) : AW G d mX5_river 0 [.ref 53, .null, .null] [] T u 0 0 (QS T q.1 q.2) := by
  obtain ⟨d, rfl⟩ : ∃ e, d = e + 1 := ⟨d - 1, by omega⟩
  rw [zX5_river] at hf
  refine A_aloadn (pc := 0) dX5_river_0 rfl ?_
  refine A_iconst (pc := 1) 0 dX5_river_1 rfl ?_
  have hf := oi_l hf
  refine A_putI (pc := 2) dX5_river_2 gX5_96 (lay_s hT (k := 53) (q := (7, 35)) rfl) (Nat.le_of_ble_eq_true rfl) rfl rfl rfl rfl ?_
  refine A_aloadn (pc := 5) dX5_river_5 rfl ?_
  refine A_iconst (pc := 6) 0 dX5_river_6 rfl ?_
  have hf := oi_l hf
  refine A_putI (pc := 7) dX5_river_7 gX5_110 (lay_s hT (k := 53) (q := (7, 35)) rfl) (Nat.le_of_ble_eq_true rfl) rfl rfl rfl rfl ?_
  refine A_iconst (pc := 10) 1 dX5_river_10 rfl ?_
  refine A_istn (pc := 11) (L2 := [.ref 53, .int 1, .null]) dX5_river_11 (Nat.le_of_ble_eq_true rfl) rfl ?_
  exact wX5_river_L12 (by omega) hT  (fun y18 w19 q0 hf => by
    refine A_aloadn (pc := 60) dX5_river_60 rfl ?_
    refine A_iconst (pc := 61) 0 dX5_river_61 rfl ?_
    have hf := oi_l hf
    refine A_putI (pc := 62) dX5_river_62 gX5_89 (lay_s hT (k := 53) (q := (7, 35)) rfl) (Nat.le_of_ble_eq_true rfl) rfl rfl rfl rfl ?_
    refine A_iloadn (pc := 65) dX5_river_65 rfl ?_
    refine A_if_ne (pc := 66) (w := 0) 78 dX5_river_66 (by decide) (fun cc21 => ?_) (fun cc21 => ?_)
    · have hf := oi_f cc21 hf
      refine A_aloadn (pc := 78) dX5_river_78 rfl ?_
      refine A_iconst (pc := 79) 1 dX5_river_79 rfl ?_
      refine A_iconst (pc := 80) 1 dX5_river_80 rfl ?_
      obtain ⟨q22, h23, hf⟩ := oi_b hf
      refine A_cV2v (mi2 := mX5_passesAll) (pc := 81) dX5_river_81 lX5_140 fX5_passesAll vX5_passesAll (lay_s hT (k := 53) (q := (7, 35)) rfl) rfl (Nat.le_of_ble_eq_true rfl) rfl (Nat.le_of_ble_eq_true rfl) (wX5_passesAll (by omega) hT  h23) ?_
      refine A_iconst (pc := 84) 0 dX5_river_84 rfl ?_
      refine A_istn (pc := 85) (L2 := [.ref 53, .int y18, .int 0]) dX5_river_85 (Nat.le_of_ble_eq_true rfl) rfl ?_
      refine A_fgt 1 (L' := [.ref 53, .null, .int 0]) rfl ?_
      exact wX5_river_L86 (by omega) hT  (fun y31 w32 q0 hf => by
        refine A_aloadn (pc := 128) dX5_river_128 rfl ?_
        refine A_getI (pc := 129) dX5_river_129 gX5_110 (lay_s hT (k := 53) (q := (7, 35)) rfl) (Nat.le_of_ble_eq_true rfl) rfl ?_
        obtain rfl := Option.some.inj hf
        exact A_iret (pc := 132) dX5_river_132 rfl rfl ⟨rfl, rfl, rfl⟩) _ _ _ _ hf
    have hf := oi_t cc21 hf
    refine A_sipush (pc := 69) (-1000) dX5_river_69 rfl ?_
    refine A_aloadn (pc := 72) dX5_river_72 rfl ?_
    refine A_getI (pc := 73) dX5_river_73 gX5_96 (lay_s hT (k := 53) (q := (7, 35)) rfl) (Nat.le_of_ble_eq_true rfl) rfl ?_
    refine A_isub (pc := 76) dX5_river_76 ?_
    obtain rfl := Option.some.inj hf
    exact A_iret (pc := 77) dX5_river_77 rfl rfl ⟨rfl, rfl, rfl⟩) _ _ _ _ hf
def zX5_image (n : Nat) (u : MU) : Option (Int32 × MU) := letb (up2 u 53 24 1) (fun u1 => Option.bind (zX5_passesAll n u1 0 1) (fun q2 => some ((q2 53 15), q2)))
set_option maxHeartbeats 4000000 in
set_option maxRecDepth 100000 in
theorem wX5_image {G : GG} {T : TT} {n d : Nat} (hd : 2 ≤ d) {q : Int32 × MU} {u : MU} (hT : LAY T) (hf : zX5_image n u = some q) : AW G d mX5_image 0 [.ref 53] [] T u 0 0 (QS T q.1 q.2) := by
  obtain ⟨d, rfl⟩ : ∃ e, d = e + 1 := ⟨d - 1, by omega⟩
  rw [zX5_image] at hf
  refine A_aloadn (pc := 0) dX5_image_0 rfl ?_
  refine A_iconst (pc := 1) 1 dX5_image_1 rfl ?_
  have hf := oi_l hf
  refine A_putI (pc := 2) dX5_image_2 gX5_164 (lay_s hT (k := 53) (q := (7, 35)) rfl) (Nat.le_of_ble_eq_true rfl) rfl rfl rfl rfl ?_
  refine A_aloadn (pc := 5) dX5_image_5 rfl ?_
  refine A_iconst (pc := 6) 0 dX5_image_6 rfl ?_
  refine A_iconst (pc := 7) 1 dX5_image_7 rfl ?_
  obtain ⟨q2, h3, hf⟩ := oi_b hf
  refine A_cV2v (mi2 := mX5_passesAll) (pc := 8) dX5_image_8 lX5_140 fX5_passesAll vX5_passesAll (lay_s hT (k := 53) (q := (7, 35)) rfl) rfl (Nat.le_of_ble_eq_true rfl) rfl (Nat.le_of_ble_eq_true rfl) (wX5_passesAll (by omega) hT  h3) ?_
  refine A_aloadn (pc := 11) dX5_image_11 rfl ?_
  refine A_getI (pc := 12) dX5_image_12 gX5_161 (lay_s hT (k := 53) (q := (7, 35)) rfl) (Nat.le_of_ble_eq_true rfl) rfl ?_
  obtain rfl := Option.some.inj hf
  exact A_iret (pc := 15) dX5_image_15 rfl rfl ⟨rfl, rfl, rfl⟩
def zX5_restore (n : Nat) (u : MU) : Option (Int32 × MU) := if (u 53 24) = 0 then (Option.bind (zX5_no n u (-3)) (fun q4 => some (q4.1, q4.2))) else (Option.bind (zX5_passesAll n u 0 0) (fun q2 => some ((q2 53 15), q2)))
set_option maxHeartbeats 4000000 in
set_option maxRecDepth 100000 in
theorem wX5_restore {G : GG} {T : TT} {n d : Nat} (hd : 2 ≤ d) {q : Int32 × MU} {u : MU} (hT : LAY T) (hf : zX5_restore n u = some q) : AW G d mX5_restore 0 [.ref 53] [] T u 0 0 (QS T q.1 q.2) := by
  obtain ⟨d, rfl⟩ : ∃ e, d = e + 1 := ⟨d - 1, by omega⟩
  rw [zX5_restore] at hf
  refine A_aloadn (pc := 0) dX5_restore_0 rfl ?_
  refine A_getI (pc := 1) dX5_restore_1 gX5_164 (lay_s hT (k := 53) (q := (7, 35)) rfl) (Nat.le_of_ble_eq_true rfl) rfl ?_
  refine A_if_ne (pc := 4) (w := 0) 14 dX5_restore_4 (by decide) (fun cc1 => ?_) (fun cc1 => ?_)
  · have hf := oi_f cc1 hf
    refine A_aloadn (pc := 14) dX5_restore_14 rfl ?_
    refine A_iconst (pc := 15) 0 dX5_restore_15 rfl ?_
    refine A_iconst (pc := 16) 0 dX5_restore_16 rfl ?_
    obtain ⟨q2, h3, hf⟩ := oi_b hf
    refine A_cV2v (mi2 := mX5_passesAll) (pc := 17) dX5_restore_17 lX5_140 fX5_passesAll vX5_passesAll (lay_s hT (k := 53) (q := (7, 35)) rfl) rfl (Nat.le_of_ble_eq_true rfl) rfl (Nat.le_of_ble_eq_true rfl) (wX5_passesAll (by omega) hT  h3) ?_
    refine A_aloadn (pc := 20) dX5_restore_20 rfl ?_
    refine A_getI (pc := 21) dX5_restore_21 gX5_161 (lay_s hT (k := 53) (q := (7, 35)) rfl) (Nat.le_of_ble_eq_true rfl) rfl ?_
    obtain rfl := Option.some.inj hf
    exact A_iret (pc := 24) dX5_restore_24 rfl rfl ⟨rfl, rfl, rfl⟩
  have hf := oi_t cc1 hf
  refine A_aloadn (pc := 7) dX5_restore_7 rfl ?_
  refine A_bipush (pc := 8) (-3) dX5_restore_8 rfl ?_
  obtain ⟨q4, h5, hf⟩ := oi_b hf
  refine A_cV1i (mi2 := mX5_no) (pc := 10) dX5_restore_10 lX5_92 fX5_no vX5_no (lay_s hT (k := 53) (q := (7, 35)) rfl) rfl (Nat.le_of_ble_eq_true rfl) rfl (Nat.le_of_ble_eq_true rfl) (wX5_no (by omega) hT  h5) ?_
  obtain rfl := Option.some.inj hf
  exact A_iret (pc := 13) dX5_restore_13 rfl rfl ⟨rfl, rfl, rfl⟩
def zX5_reachOf (n : Nat) (u : MU) (a1 : Int32) : Option (Int32) := if oob a1 7 then none else if (u 58 a1.toNatClampNeg) = 0 then (if oob a1 7 then none else some (u 60 a1.toNatClampNeg)) else if (u 58 a1.toNatClampNeg) = 2 then (if oob a1 7 then none else some ((u 60 a1.toNatClampNeg) / 2)) else if (u 58 a1.toNatClampNeg) = 3 then (some 99) else (if oob a1 7 then none else some ((u 60 a1.toNatClampNeg) + 2))
set_option maxHeartbeats 4000000 in
set_option maxRecDepth 100000 in
theorem wX5_reachOf {G : GG} {T : TT} {n d : Nat} (hd : 0 ≤ d) {q : Int32} {u : MU} {a1 : Int32} (hT : LAY T) (hf : zX5_reachOf n u a1 = some q) : AW G d mX5_reachOf 0 [.ref 53, .int a1] [] T u 0 0 (QS T q u) := by
  rw [zX5_reachOf] at hf
  refine A_aloadn (pc := 0) dX5_reachOf_0 rfl ?_
  refine A_getR (pc := 1) dX5_reachOf_1 gX5_22 (lay_s hT (k := 53) (q := (7, 35)) rfl) (Nat.le_of_ble_eq_true rfl) rfl (lay_r hT 56 rfl) ?_
  refine A_iloadn (pc := 4) dX5_reachOf_4 rfl ?_
  obtain ⟨h1, hf⟩ := oi_cf hf
  refine A_iald (pc := 5) dX5_reachOf_5 (lay_s hT (k := 58) (q := (0, 7)) rfl) (oob_f h1) ?_
  by_cases cc2 : (u 58 a1.toNatClampNeg) = 0
  · have hf := oi_t cc2 hf
    refine A_tabIn (pc := 6) 36 dX5_reachOf_6 (by rw [cc2]; decide) (by rw [cc2]; decide) (off := 30) (by rw [cc2]; decide) (by decide) ?_
    refine A_aloadn (pc := 36) dX5_reachOf_36 rfl ?_
    refine A_getR (pc := 37) dX5_reachOf_37 gX5_28 (lay_s hT (k := 53) (q := (7, 35)) rfl) (Nat.le_of_ble_eq_true rfl) rfl (lay_r hT 58 rfl) ?_
    refine A_iloadn (pc := 40) dX5_reachOf_40 rfl ?_
    obtain ⟨h3, hf⟩ := oi_cf hf
    refine A_iald (pc := 41) dX5_reachOf_41 (lay_s hT (k := 60) (q := (0, 7)) rfl) (oob_f h3) ?_
    obtain rfl := Option.some.inj hf
    exact A_iret (pc := 42) dX5_reachOf_42 rfl rfl ⟨rfl, rfl, rfl⟩
  have hf := oi_f cc2 hf
  by_cases cc4 : (u 58 a1.toNatClampNeg) = 2
  · have hf := oi_t cc4 hf
    refine A_tabIn (pc := 6) 43 dX5_reachOf_6 (by rw [cc4]; decide) (by rw [cc4]; decide) (off := 37) (by rw [cc4]; decide) (by decide) ?_
    refine A_aloadn (pc := 43) dX5_reachOf_43 rfl ?_
    refine A_getR (pc := 44) dX5_reachOf_44 gX5_28 (lay_s hT (k := 53) (q := (7, 35)) rfl) (Nat.le_of_ble_eq_true rfl) rfl (lay_r hT 58 rfl) ?_
    refine A_iloadn (pc := 47) dX5_reachOf_47 rfl ?_
    obtain ⟨h5, hf⟩ := oi_cf hf
    refine A_iald (pc := 48) dX5_reachOf_48 (lay_s hT (k := 60) (q := (0, 7)) rfl) (oob_f h5) ?_
    refine A_iconst (pc := 49) 2 dX5_reachOf_49 rfl ?_
    refine A_idiv (pc := 50) dX5_reachOf_50 (by decide) ?_
    obtain rfl := Option.some.inj hf
    exact A_iret (pc := 51) dX5_reachOf_51 rfl rfl ⟨rfl, rfl, rfl⟩
  have hf := oi_f cc4 hf
  by_cases cc6 : (u 58 a1.toNatClampNeg) = 3
  · have hf := oi_t cc6 hf
    refine A_tabIn (pc := 6) 52 dX5_reachOf_6 (by rw [cc6]; decide) (by rw [cc6]; decide) (off := 46) (by rw [cc6]; decide) (by decide) ?_
    refine A_bipush (pc := 52) 99 dX5_reachOf_52 rfl ?_
    obtain rfl := Option.some.inj hf
    exact A_iret (pc := 54) dX5_reachOf_54 rfl rfl ⟨rfl, rfl, rfl⟩
  have hf := oi_f cc6 hf
  have ecc2 : (u 58 a1.toNatClampNeg).toInt ≠ 0 := fun h9 => cc2 (Int32.toInt_inj.mp (h9.trans (by decide : (0 : Int) = (0 : Int32).toInt)))
  have ecc4 : (u 58 a1.toNatClampNeg).toInt ≠ 2 := fun h9 => cc4 (Int32.toInt_inj.mp (h9.trans (by decide : (2 : Int) = (2 : Int32).toInt)))
  have ecc6 : (u 58 a1.toNatClampNeg).toInt ≠ 3 := fun h9 => cc6 (Int32.toInt_inj.mp (h9.trans (by decide : (3 : Int) = (3 : Int32).toInt)))
  by_cases z1 : (u 58 a1.toNatClampNeg) = 1
  · refine A_tabIn (pc := 6) 55 dX5_reachOf_6 (by rw [z1]; decide) (by rw [z1]; decide) (off := 49) (by rw [z1]; decide) (by decide) ?_
    refine A_aloadn (pc := 55) dX5_reachOf_55 rfl ?_
    refine A_getR (pc := 56) dX5_reachOf_56 gX5_28 (lay_s hT (k := 53) (q := (7, 35)) rfl) (Nat.le_of_ble_eq_true rfl) rfl (lay_r hT 58 rfl) ?_
    refine A_iloadn (pc := 59) dX5_reachOf_59 rfl ?_
    obtain ⟨h7, hf⟩ := oi_cf hf
    refine A_iald (pc := 60) dX5_reachOf_60 (lay_s hT (k := 60) (q := (0, 7)) rfl) (oob_f h7) ?_
    refine A_iconst (pc := 61) 2 dX5_reachOf_61 rfl ?_
    refine A_iadd (pc := 62) dX5_reachOf_62 ?_
    obtain rfl := Option.some.inj hf
    exact A_iret (pc := 63) dX5_reachOf_63 rfl rfl ⟨rfl, rfl, rfl⟩
  have ez1 : (u 58 a1.toNatClampNeg).toInt ≠ 1 := fun h9 => z1 (Int32.toInt_inj.mp (h9.trans (by decide : (1 : Int) = (1 : Int32).toInt)))
  refine A_tabOut (pc := 6) 55 dX5_reachOf_6 (by omega) (by decide) ?_
  refine A_aloadn (pc := 55) dX5_reachOf_55 rfl ?_
  refine A_getR (pc := 56) dX5_reachOf_56 gX5_28 (lay_s hT (k := 53) (q := (7, 35)) rfl) (Nat.le_of_ble_eq_true rfl) rfl (lay_r hT 58 rfl) ?_
  refine A_iloadn (pc := 59) dX5_reachOf_59 rfl ?_
  obtain ⟨h7, hf⟩ := oi_cf hf
  refine A_iald (pc := 60) dX5_reachOf_60 (lay_s hT (k := 60) (q := (0, 7)) rfl) (oob_f h7) ?_
  refine A_iconst (pc := 61) 2 dX5_reachOf_61 rfl ?_
  refine A_iadd (pc := 62) dX5_reachOf_62 ?_
  obtain rfl := Option.some.inj hf
  exact A_iret (pc := 63) dX5_reachOf_63 rfl rfl ⟨rfl, rfl, rfl⟩
def zX5_holdOf (n : Nat) (u : MU) (a1 : Int32) : Option (Int32) := if oob a1 7 then none else if (u 58 a1.toNatClampNeg) = 2 then (if oob a1 7 then none else if (u 61 a1.toNatClampNeg) ≤ 2 then (some 0) else (if oob a1 7 then none else some ((u 61 a1.toNatClampNeg) - 2))) else if (u 58 a1.toNatClampNeg) = 3 then (if oob a1 7 then none else some ((u 61 a1.toNatClampNeg) / 2)) else if (u 58 a1.toNatClampNeg) = 4 then (if oob a1 7 then none else if oob a1 7 then none else some ((u 61 a1.toNatClampNeg) + (u 59 a1.toNatClampNeg))) else if (u 58 a1.toNatClampNeg) = 5 then (if oob a1 7 then none else if oob a1 7 then none else some ((u 61 a1.toNatClampNeg) + (u 59 a1.toNatClampNeg))) else (if oob a1 7 then none else some (u 61 a1.toNatClampNeg))
set_option maxHeartbeats 4000000 in
set_option maxRecDepth 100000 in
theorem wX5_holdOf {G : GG} {T : TT} {n d : Nat} (hd : 0 ≤ d) {q : Int32} {u : MU} {a1 : Int32} (hT : LAY T) (hf : zX5_holdOf n u a1 = some q) : AW G d mX5_holdOf 0 [.ref 53, .int a1] [] T u 0 0 (QS T q u) := by
  rw [zX5_holdOf] at hf
  refine A_aloadn (pc := 0) dX5_holdOf_0 rfl ?_
  refine A_getR (pc := 1) dX5_holdOf_1 gX5_22 (lay_s hT (k := 53) (q := (7, 35)) rfl) (Nat.le_of_ble_eq_true rfl) rfl (lay_r hT 56 rfl) ?_
  refine A_iloadn (pc := 4) dX5_holdOf_4 rfl ?_
  obtain ⟨h1, hf⟩ := oi_cf hf
  refine A_iald (pc := 5) dX5_holdOf_5 (lay_s hT (k := 58) (q := (0, 7)) rfl) (oob_f h1) ?_
  by_cases cc2 : (u 58 a1.toNatClampNeg) = 2
  · have hf := oi_t cc2 hf
    refine A_tabIn (pc := 6) 36 dX5_holdOf_6 (by rw [cc2]; decide) (by rw [cc2]; decide) (off := 30) (by rw [cc2]; decide) (by decide) ?_
    refine A_aloadn (pc := 36) dX5_holdOf_36 rfl ?_
    refine A_getR (pc := 37) dX5_holdOf_37 gX5_31 (lay_s hT (k := 53) (q := (7, 35)) rfl) (Nat.le_of_ble_eq_true rfl) rfl (lay_r hT 59 rfl) ?_
    refine A_iloadn (pc := 40) dX5_holdOf_40 rfl ?_
    obtain ⟨h3, hf⟩ := oi_cf hf
    refine A_iald (pc := 41) dX5_holdOf_41 (lay_s hT (k := 61) (q := (0, 7)) rfl) (oob_f h3) ?_
    refine A_iconst (pc := 42) 2 dX5_holdOf_42 rfl ?_
    refine A_icmp_le (pc := 43) 57 dX5_holdOf_43 (by decide) (fun cc4 => ?_) (fun cc4 => ?_)
    · have hf := oi_t cc4 hf
      refine A_iconst (pc := 57) 0 dX5_holdOf_57 rfl ?_
      obtain rfl := Option.some.inj hf
      exact A_iret (pc := 58) dX5_holdOf_58 rfl rfl ⟨rfl, rfl, rfl⟩
    have hf := oi_f cc4 hf
    refine A_aloadn (pc := 46) dX5_holdOf_46 rfl ?_
    refine A_getR (pc := 47) dX5_holdOf_47 gX5_31 (lay_s hT (k := 53) (q := (7, 35)) rfl) (Nat.le_of_ble_eq_true rfl) rfl (lay_r hT 59 rfl) ?_
    refine A_iloadn (pc := 50) dX5_holdOf_50 rfl ?_
    obtain ⟨h5, hf⟩ := oi_cf hf
    refine A_iald (pc := 51) dX5_holdOf_51 (lay_s hT (k := 61) (q := (0, 7)) rfl) (oob_f h5) ?_
    refine A_iconst (pc := 52) 2 dX5_holdOf_52 rfl ?_
    refine A_isub (pc := 53) dX5_holdOf_53 ?_
    refine A_goto (pc := 54) 58 dX5_holdOf_54 (by decide) ?_
    obtain rfl := Option.some.inj hf
    exact A_iret (pc := 58) dX5_holdOf_58 rfl rfl ⟨rfl, rfl, rfl⟩
  have hf := oi_f cc2 hf
  by_cases cc6 : (u 58 a1.toNatClampNeg) = 3
  · have hf := oi_t cc6 hf
    refine A_tabIn (pc := 6) 59 dX5_holdOf_6 (by rw [cc6]; decide) (by rw [cc6]; decide) (off := 53) (by rw [cc6]; decide) (by decide) ?_
    refine A_aloadn (pc := 59) dX5_holdOf_59 rfl ?_
    refine A_getR (pc := 60) dX5_holdOf_60 gX5_31 (lay_s hT (k := 53) (q := (7, 35)) rfl) (Nat.le_of_ble_eq_true rfl) rfl (lay_r hT 59 rfl) ?_
    refine A_iloadn (pc := 63) dX5_holdOf_63 rfl ?_
    obtain ⟨h7, hf⟩ := oi_cf hf
    refine A_iald (pc := 64) dX5_holdOf_64 (lay_s hT (k := 61) (q := (0, 7)) rfl) (oob_f h7) ?_
    refine A_iconst (pc := 65) 2 dX5_holdOf_65 rfl ?_
    refine A_idiv (pc := 66) dX5_holdOf_66 (by decide) ?_
    obtain rfl := Option.some.inj hf
    exact A_iret (pc := 67) dX5_holdOf_67 rfl rfl ⟨rfl, rfl, rfl⟩
  have hf := oi_f cc6 hf
  by_cases cc8 : (u 58 a1.toNatClampNeg) = 4
  · have hf := oi_t cc8 hf
    refine A_tabIn (pc := 6) 68 dX5_holdOf_6 (by rw [cc8]; decide) (by rw [cc8]; decide) (off := 62) (by rw [cc8]; decide) (by decide) ?_
    refine A_aloadn (pc := 68) dX5_holdOf_68 rfl ?_
    refine A_getR (pc := 69) dX5_holdOf_69 gX5_31 (lay_s hT (k := 53) (q := (7, 35)) rfl) (Nat.le_of_ble_eq_true rfl) rfl (lay_r hT 59 rfl) ?_
    refine A_iloadn (pc := 72) dX5_holdOf_72 rfl ?_
    obtain ⟨h9, hf⟩ := oi_cf hf
    refine A_iald (pc := 73) dX5_holdOf_73 (lay_s hT (k := 61) (q := (0, 7)) rfl) (oob_f h9) ?_
    refine A_aloadn (pc := 74) dX5_holdOf_74 rfl ?_
    refine A_getR (pc := 75) dX5_holdOf_75 gX5_25 (lay_s hT (k := 53) (q := (7, 35)) rfl) (Nat.le_of_ble_eq_true rfl) rfl (lay_r hT 57 rfl) ?_
    refine A_iloadn (pc := 78) dX5_holdOf_78 rfl ?_
    obtain ⟨h10, hf⟩ := oi_cf hf
    refine A_iald (pc := 79) dX5_holdOf_79 (lay_s hT (k := 59) (q := (0, 7)) rfl) (oob_f h10) ?_
    refine A_iadd (pc := 80) dX5_holdOf_80 ?_
    obtain rfl := Option.some.inj hf
    exact A_iret (pc := 81) dX5_holdOf_81 rfl rfl ⟨rfl, rfl, rfl⟩
  have hf := oi_f cc8 hf
  by_cases cc11 : (u 58 a1.toNatClampNeg) = 5
  · have hf := oi_t cc11 hf
    refine A_tabIn (pc := 6) 68 dX5_holdOf_6 (by rw [cc11]; decide) (by rw [cc11]; decide) (off := 62) (by rw [cc11]; decide) (by decide) ?_
    refine A_aloadn (pc := 68) dX5_holdOf_68 rfl ?_
    refine A_getR (pc := 69) dX5_holdOf_69 gX5_31 (lay_s hT (k := 53) (q := (7, 35)) rfl) (Nat.le_of_ble_eq_true rfl) rfl (lay_r hT 59 rfl) ?_
    refine A_iloadn (pc := 72) dX5_holdOf_72 rfl ?_
    obtain ⟨h12, hf⟩ := oi_cf hf
    refine A_iald (pc := 73) dX5_holdOf_73 (lay_s hT (k := 61) (q := (0, 7)) rfl) (oob_f h12) ?_
    refine A_aloadn (pc := 74) dX5_holdOf_74 rfl ?_
    refine A_getR (pc := 75) dX5_holdOf_75 gX5_25 (lay_s hT (k := 53) (q := (7, 35)) rfl) (Nat.le_of_ble_eq_true rfl) rfl (lay_r hT 57 rfl) ?_
    refine A_iloadn (pc := 78) dX5_holdOf_78 rfl ?_
    obtain ⟨h13, hf⟩ := oi_cf hf
    refine A_iald (pc := 79) dX5_holdOf_79 (lay_s hT (k := 59) (q := (0, 7)) rfl) (oob_f h13) ?_
    refine A_iadd (pc := 80) dX5_holdOf_80 ?_
    obtain rfl := Option.some.inj hf
    exact A_iret (pc := 81) dX5_holdOf_81 rfl rfl ⟨rfl, rfl, rfl⟩
  have hf := oi_f cc11 hf
  have ecc2 : (u 58 a1.toNatClampNeg).toInt ≠ 2 := fun h9 => cc2 (Int32.toInt_inj.mp (h9.trans (by decide : (2 : Int) = (2 : Int32).toInt)))
  have ecc6 : (u 58 a1.toNatClampNeg).toInt ≠ 3 := fun h9 => cc6 (Int32.toInt_inj.mp (h9.trans (by decide : (3 : Int) = (3 : Int32).toInt)))
  have ecc8 : (u 58 a1.toNatClampNeg).toInt ≠ 4 := fun h9 => cc8 (Int32.toInt_inj.mp (h9.trans (by decide : (4 : Int) = (4 : Int32).toInt)))
  have ecc11 : (u 58 a1.toNatClampNeg).toInt ≠ 5 := fun h9 => cc11 (Int32.toInt_inj.mp (h9.trans (by decide : (5 : Int) = (5 : Int32).toInt)))
  refine A_tabOut (pc := 6) 82 dX5_holdOf_6 (by omega) (by decide) ?_
  refine A_aloadn (pc := 82) dX5_holdOf_82 rfl ?_
  refine A_getR (pc := 83) dX5_holdOf_83 gX5_31 (lay_s hT (k := 53) (q := (7, 35)) rfl) (Nat.le_of_ble_eq_true rfl) rfl (lay_r hT 59 rfl) ?_
  refine A_iloadn (pc := 86) dX5_holdOf_86 rfl ?_
  obtain ⟨h14, hf⟩ := oi_cf hf
  refine A_iald (pc := 87) dX5_holdOf_87 (lay_s hT (k := 61) (q := (0, 7)) rfl) (oob_f h14) ?_
  obtain rfl := Option.some.inj hf
  exact A_iret (pc := 88) dX5_holdOf_88 rfl rfl ⟨rfl, rfl, rfl⟩
def zX5_coolOf (n : Nat) (u : MU) (a1 : Int32) : Option (Int32) := if oob a1 7 then none else if (u 58 a1.toNatClampNeg) = 2 then (some (2 * ((u 53 14) + 1))) else if (u 58 a1.toNatClampNeg) = 4 then (if (u 53 14) ≤ 1 then (some 1) else (some (u 53 14))) else if (u 58 a1.toNatClampNeg) = 5 then (some 1) else (some ((u 53 14) + 1))
set_option maxHeartbeats 4000000 in
set_option maxRecDepth 100000 in
theorem wX5_coolOf {G : GG} {T : TT} {n d : Nat} (hd : 0 ≤ d) {q : Int32} {u : MU} {a1 : Int32} (hT : LAY T) (hf : zX5_coolOf n u a1 = some q) : AW G d mX5_coolOf 0 [.ref 53, .int a1] [] T u 0 0 (QS T q u) := by
  rw [zX5_coolOf] at hf
  refine A_aloadn (pc := 0) dX5_coolOf_0 rfl ?_
  refine A_getR (pc := 1) dX5_coolOf_1 gX5_22 (lay_s hT (k := 53) (q := (7, 35)) rfl) (Nat.le_of_ble_eq_true rfl) rfl (lay_r hT 56 rfl) ?_
  refine A_iloadn (pc := 4) dX5_coolOf_4 rfl ?_
  obtain ⟨h1, hf⟩ := oi_cf hf
  refine A_iald (pc := 5) dX5_coolOf_5 (lay_s hT (k := 58) (q := (0, 7)) rfl) (oob_f h1) ?_
  by_cases cc2 : (u 58 a1.toNatClampNeg) = 2
  · have hf := oi_t cc2 hf
    refine A_tabIn (pc := 6) 36 dX5_coolOf_6 (by rw [cc2]; decide) (by rw [cc2]; decide) (off := 30) (by rw [cc2]; decide) (by decide) ?_
    refine A_iconst (pc := 36) 2 dX5_coolOf_36 rfl ?_
    refine A_aloadn (pc := 37) dX5_coolOf_37 rfl ?_
    refine A_getI (pc := 38) dX5_coolOf_38 gX5_50 (lay_s hT (k := 53) (q := (7, 35)) rfl) (Nat.le_of_ble_eq_true rfl) rfl ?_
    refine A_iconst (pc := 41) 1 dX5_coolOf_41 rfl ?_
    refine A_iadd (pc := 42) dX5_coolOf_42 ?_
    refine A_imul (pc := 43) dX5_coolOf_43 ?_
    obtain rfl := Option.some.inj hf
    exact A_iret (pc := 44) dX5_coolOf_44 rfl rfl ⟨rfl, rfl, rfl⟩
  have hf := oi_f cc2 hf
  by_cases cc3 : (u 58 a1.toNatClampNeg) = 4
  · have hf := oi_t cc3 hf
    refine A_tabIn (pc := 6) 45 dX5_coolOf_6 (by rw [cc3]; decide) (by rw [cc3]; decide) (off := 39) (by rw [cc3]; decide) (by decide) ?_
    refine A_aloadn (pc := 45) dX5_coolOf_45 rfl ?_
    refine A_getI (pc := 46) dX5_coolOf_46 gX5_50 (lay_s hT (k := 53) (q := (7, 35)) rfl) (Nat.le_of_ble_eq_true rfl) rfl ?_
    refine A_iconst (pc := 49) 1 dX5_coolOf_49 rfl ?_
    refine A_icmp_le (pc := 50) 60 dX5_coolOf_50 (by decide) (fun cc4 => ?_) (fun cc4 => ?_)
    · have hf := oi_t cc4 hf
      refine A_iconst (pc := 60) 1 dX5_coolOf_60 rfl ?_
      obtain rfl := Option.some.inj hf
      exact A_iret (pc := 61) dX5_coolOf_61 rfl rfl ⟨rfl, rfl, rfl⟩
    have hf := oi_f cc4 hf
    refine A_aloadn (pc := 53) dX5_coolOf_53 rfl ?_
    refine A_getI (pc := 54) dX5_coolOf_54 gX5_50 (lay_s hT (k := 53) (q := (7, 35)) rfl) (Nat.le_of_ble_eq_true rfl) rfl ?_
    refine A_goto (pc := 57) 61 dX5_coolOf_57 (by decide) ?_
    obtain rfl := Option.some.inj hf
    exact A_iret (pc := 61) dX5_coolOf_61 rfl rfl ⟨rfl, rfl, rfl⟩
  have hf := oi_f cc3 hf
  by_cases cc5 : (u 58 a1.toNatClampNeg) = 5
  · have hf := oi_t cc5 hf
    refine A_tabIn (pc := 6) 62 dX5_coolOf_6 (by rw [cc5]; decide) (by rw [cc5]; decide) (off := 56) (by rw [cc5]; decide) (by decide) ?_
    refine A_iconst (pc := 62) 1 dX5_coolOf_62 rfl ?_
    obtain rfl := Option.some.inj hf
    exact A_iret (pc := 63) dX5_coolOf_63 rfl rfl ⟨rfl, rfl, rfl⟩
  have hf := oi_f cc5 hf
  have ecc2 : (u 58 a1.toNatClampNeg).toInt ≠ 2 := fun h9 => cc2 (Int32.toInt_inj.mp (h9.trans (by decide : (2 : Int) = (2 : Int32).toInt)))
  have ecc3 : (u 58 a1.toNatClampNeg).toInt ≠ 4 := fun h9 => cc3 (Int32.toInt_inj.mp (h9.trans (by decide : (4 : Int) = (4 : Int32).toInt)))
  have ecc5 : (u 58 a1.toNatClampNeg).toInt ≠ 5 := fun h9 => cc5 (Int32.toInt_inj.mp (h9.trans (by decide : (5 : Int) = (5 : Int32).toInt)))
  by_cases z3 : (u 58 a1.toNatClampNeg) = 3
  · refine A_tabIn (pc := 6) 64 dX5_coolOf_6 (by rw [z3]; decide) (by rw [z3]; decide) (off := 58) (by rw [z3]; decide) (by decide) ?_
    refine A_aloadn (pc := 64) dX5_coolOf_64 rfl ?_
    refine A_getI (pc := 65) dX5_coolOf_65 gX5_50 (lay_s hT (k := 53) (q := (7, 35)) rfl) (Nat.le_of_ble_eq_true rfl) rfl ?_
    refine A_iconst (pc := 68) 1 dX5_coolOf_68 rfl ?_
    refine A_iadd (pc := 69) dX5_coolOf_69 ?_
    obtain rfl := Option.some.inj hf
    exact A_iret (pc := 70) dX5_coolOf_70 rfl rfl ⟨rfl, rfl, rfl⟩
  have ez3 : (u 58 a1.toNatClampNeg).toInt ≠ 3 := fun h9 => z3 (Int32.toInt_inj.mp (h9.trans (by decide : (3 : Int) = (3 : Int32).toInt)))
  refine A_tabOut (pc := 6) 64 dX5_coolOf_6 (by omega) (by decide) ?_
  refine A_aloadn (pc := 64) dX5_coolOf_64 rfl ?_
  refine A_getI (pc := 65) dX5_coolOf_65 gX5_50 (lay_s hT (k := 53) (q := (7, 35)) rfl) (Nat.le_of_ble_eq_true rfl) rfl ?_
  refine A_iconst (pc := 68) 1 dX5_coolOf_68 rfl ?_
  refine A_iadd (pc := 69) dX5_coolOf_69 ?_
  obtain rfl := Option.some.inj hf
  exact A_iret (pc := 70) dX5_coolOf_70 rfl rfl ⟨rfl, rfl, rfl⟩
def zX5_yard (n : Nat) (u : MU) (a1 : Int32) (a2 : Int32) : Option (Int32 × MU) := Option.bind (zX5_isYard n u a1) (fun q1 => if q1 = 0 then (Option.bind (zX5_no n u (-1)) (fun q12 => some (q12.1, q12.2))) else (if a2 = 0 then (if oob a1 5 then none else some ((u 55 a1.toNatClampNeg), u)) else if a2 = 1 then (if oob a1 5 then none else some ((u 56 a1.toNatClampNeg), u)) else if a2 = 2 then (if oob a1 5 then none else some ((u 57 a1.toNatClampNeg), u)) else (Option.bind (zX5_no n u (-2)) (fun q10 => some (q10.1, q10.2)))))
set_option maxHeartbeats 4000000 in
set_option maxRecDepth 100000 in
theorem wX5_yard {G : GG} {T : TT} {n d : Nat} (hd : 1 ≤ d) {q : Int32 × MU} {u : MU} {a1 : Int32} {a2 : Int32} (hT : LAY T) (hf : zX5_yard n u a1 a2 = some q) : AW G d mX5_yard 0 [.ref 53, .int a1, .int a2] [] T u 0 0 (QS T q.1 q.2) := by
  obtain ⟨d, rfl⟩ : ∃ e, d = e + 1 := ⟨d - 1, by omega⟩
  rw [zX5_yard] at hf
  refine A_aloadn (pc := 0) dX5_yard_0 rfl ?_
  refine A_iloadn (pc := 1) dX5_yard_1 rfl ?_
  obtain ⟨q1, h2, hf⟩ := oi_b hf
  refine A_cV1i (mi2 := mX5_isYard) (pc := 2) dX5_yard_2 lX5_123 fX5_isYard vX5_isYard (lay_s hT (k := 53) (q := (7, 35)) rfl) rfl (Nat.le_of_ble_eq_true rfl) rfl (Nat.le_of_ble_eq_true rfl) (wX5_isYard (by omega) hT  h2) ?_
  refine A_if_ne (pc := 5) (w := 0) 14 dX5_yard_5 (by decide) (fun cc3 => ?_) (fun cc3 => ?_)
  · have hf := oi_f cc3 hf
    refine A_iloadn (pc := 14) dX5_yard_14 rfl ?_
    by_cases cc4 : a2 = 0
    · have hf := oi_t cc4 hf
      refine A_tabIn (pc := 15) 40 dX5_yard_15 (by rw [cc4]; decide) (by rw [cc4]; decide) (off := 25) (by rw [cc4]; decide) (by decide) ?_
      refine A_aloadn (pc := 40) dX5_yard_40 rfl ?_
      refine A_getR (pc := 41) dX5_yard_41 gX5_13 (lay_s hT (k := 53) (q := (7, 35)) rfl) (Nat.le_of_ble_eq_true rfl) rfl (lay_r hT 53 rfl) ?_
      refine A_iloadn (pc := 44) dX5_yard_44 rfl ?_
      obtain ⟨h5, hf⟩ := oi_cf hf
      refine A_iald (pc := 45) dX5_yard_45 (lay_s hT (k := 55) (q := (0, 5)) rfl) (oob_f h5) ?_
      obtain rfl := Option.some.inj hf
      exact A_iret (pc := 46) dX5_yard_46 rfl rfl ⟨rfl, rfl, rfl⟩
    have hf := oi_f cc4 hf
    by_cases cc6 : a2 = 1
    · have hf := oi_t cc6 hf
      refine A_tabIn (pc := 15) 47 dX5_yard_15 (by rw [cc6]; decide) (by rw [cc6]; decide) (off := 32) (by rw [cc6]; decide) (by decide) ?_
      refine A_aloadn (pc := 47) dX5_yard_47 rfl ?_
      refine A_getR (pc := 48) dX5_yard_48 gX5_16 (lay_s hT (k := 53) (q := (7, 35)) rfl) (Nat.le_of_ble_eq_true rfl) rfl (lay_r hT 54 rfl) ?_
      refine A_iloadn (pc := 51) dX5_yard_51 rfl ?_
      obtain ⟨h7, hf⟩ := oi_cf hf
      refine A_iald (pc := 52) dX5_yard_52 (lay_s hT (k := 56) (q := (0, 5)) rfl) (oob_f h7) ?_
      obtain rfl := Option.some.inj hf
      exact A_iret (pc := 53) dX5_yard_53 rfl rfl ⟨rfl, rfl, rfl⟩
    have hf := oi_f cc6 hf
    by_cases cc8 : a2 = 2
    · have hf := oi_t cc8 hf
      refine A_tabIn (pc := 15) 54 dX5_yard_15 (by rw [cc8]; decide) (by rw [cc8]; decide) (off := 39) (by rw [cc8]; decide) (by decide) ?_
      refine A_aloadn (pc := 54) dX5_yard_54 rfl ?_
      refine A_getR (pc := 55) dX5_yard_55 gX5_19 (lay_s hT (k := 53) (q := (7, 35)) rfl) (Nat.le_of_ble_eq_true rfl) rfl (lay_r hT 55 rfl) ?_
      refine A_iloadn (pc := 58) dX5_yard_58 rfl ?_
      obtain ⟨h9, hf⟩ := oi_cf hf
      refine A_iald (pc := 59) dX5_yard_59 (lay_s hT (k := 57) (q := (0, 5)) rfl) (oob_f h9) ?_
      obtain rfl := Option.some.inj hf
      exact A_iret (pc := 60) dX5_yard_60 rfl rfl ⟨rfl, rfl, rfl⟩
    have hf := oi_f cc8 hf
    have ecc4 : a2.toInt ≠ 0 := fun h9 => cc4 (Int32.toInt_inj.mp (h9.trans (by decide : (0 : Int) = (0 : Int32).toInt)))
    have ecc6 : a2.toInt ≠ 1 := fun h9 => cc6 (Int32.toInt_inj.mp (h9.trans (by decide : (1 : Int) = (1 : Int32).toInt)))
    have ecc8 : a2.toInt ≠ 2 := fun h9 => cc8 (Int32.toInt_inj.mp (h9.trans (by decide : (2 : Int) = (2 : Int32).toInt)))
    refine A_tabOut (pc := 15) 61 dX5_yard_15 (by omega) (by decide) ?_
    refine A_aloadn (pc := 61) dX5_yard_61 rfl ?_
    refine A_bipush (pc := 62) (-2) dX5_yard_62 rfl ?_
    obtain ⟨q10, h11, hf⟩ := oi_b hf
    refine A_cV1i (mi2 := mX5_no) (pc := 64) dX5_yard_64 lX5_92 fX5_no vX5_no (lay_s hT (k := 53) (q := (7, 35)) rfl) rfl (Nat.le_of_ble_eq_true rfl) rfl (Nat.le_of_ble_eq_true rfl) (wX5_no (by omega) hT  h11) ?_
    obtain rfl := Option.some.inj hf
    exact A_iret (pc := 67) dX5_yard_67 rfl rfl ⟨rfl, rfl, rfl⟩
  have hf := oi_t cc3 hf
  refine A_aloadn (pc := 8) dX5_yard_8 rfl ?_
  refine A_iconst (pc := 9) (-1) dX5_yard_9 rfl ?_
  obtain ⟨q12, h13, hf⟩ := oi_b hf
  refine A_cV1i (mi2 := mX5_no) (pc := 10) dX5_yard_10 lX5_92 fX5_no vX5_no (lay_s hT (k := 53) (q := (7, 35)) rfl) rfl (Nat.le_of_ble_eq_true rfl) rfl (Nat.le_of_ble_eq_true rfl) (wX5_no (by omega) hT  h13) ?_
  obtain rfl := Option.some.inj hf
  exact A_iret (pc := 13) dX5_yard_13 rfl rfl ⟨rfl, rfl, rfl⟩
def zX5_person (n : Nat) (u : MU) (a1 : Int32) (a2 : Int32) : Option (Int32 × MU) := Option.bind (zX5_isOne n u a1) (fun q1 => if q1 = 0 then (Option.bind (zX5_no n u (-1)) (fun q28 => some (q28.1, q28.2))) else (if a2 = 0 then (if oob a1 7 then none else some ((u 58 a1.toNatClampNeg), u)) else if a2 = 1 then (if oob a1 7 then none else some ((u 59 a1.toNatClampNeg), u)) else if a2 = 2 then (if oob a1 7 then none else some ((u 60 a1.toNatClampNeg), u)) else if a2 = 3 then (if oob a1 7 then none else some ((u 61 a1.toNatClampNeg), u)) else if a2 = 4 then (if oob a1 7 then none else some ((u 62 a1.toNatClampNeg), u)) else if a2 = 5 then (Option.bind (zX5_reachOf n u a1) (fun q15 => some (q15, u))) else if a2 = 6 then (Option.bind (zX5_holdOf n u a1) (fun q18 => some (q18, u))) else if a2 = 7 then (Option.bind (zX5_coolOf n u a1) (fun q21 => some (q21, u))) else if a2 = 8 then (Option.bind (zX5_yardOf n u a1) (fun q24 => some (q24, u))) else (Option.bind (zX5_no n u (-2)) (fun q26 => some (q26.1, q26.2)))))
set_option maxHeartbeats 4000000 in
set_option maxRecDepth 100000 in
theorem wX5_person {G : GG} {T : TT} {n d : Nat} (hd : 1 ≤ d) {q : Int32 × MU} {u : MU} {a1 : Int32} {a2 : Int32} (hT : LAY T) (hf : zX5_person n u a1 a2 = some q) : AW G d mX5_person 0 [.ref 53, .int a1, .int a2] [] T u 0 0 (QS T q.1 q.2) := by
  obtain ⟨d, rfl⟩ : ∃ e, d = e + 1 := ⟨d - 1, by omega⟩
  rw [zX5_person] at hf
  refine A_aloadn (pc := 0) dX5_person_0 rfl ?_
  refine A_iloadn (pc := 1) dX5_person_1 rfl ?_
  obtain ⟨q1, h2, hf⟩ := oi_b hf
  refine A_cV1i (mi2 := mX5_isOne) (pc := 2) dX5_person_2 lX5_81 fX5_isOne vX5_isOne (lay_s hT (k := 53) (q := (7, 35)) rfl) rfl (Nat.le_of_ble_eq_true rfl) rfl (Nat.le_of_ble_eq_true rfl) (wX5_isOne (by omega) hT  h2) ?_
  refine A_if_ne (pc := 5) (w := 0) 14 dX5_person_5 (by decide) (fun cc3 => ?_) (fun cc3 => ?_)
  · have hf := oi_f cc3 hf
    refine A_iloadn (pc := 14) dX5_person_14 rfl ?_
    by_cases cc4 : a2 = 0
    · have hf := oi_t cc4 hf
      refine A_tabIn (pc := 15) 64 dX5_person_15 (by rw [cc4]; decide) (by rw [cc4]; decide) (off := 49) (by rw [cc4]; decide) (by decide) ?_
      refine A_aloadn (pc := 64) dX5_person_64 rfl ?_
      refine A_getR (pc := 65) dX5_person_65 gX5_22 (lay_s hT (k := 53) (q := (7, 35)) rfl) (Nat.le_of_ble_eq_true rfl) rfl (lay_r hT 56 rfl) ?_
      refine A_iloadn (pc := 68) dX5_person_68 rfl ?_
      obtain ⟨h5, hf⟩ := oi_cf hf
      refine A_iald (pc := 69) dX5_person_69 (lay_s hT (k := 58) (q := (0, 7)) rfl) (oob_f h5) ?_
      obtain rfl := Option.some.inj hf
      exact A_iret (pc := 70) dX5_person_70 rfl rfl ⟨rfl, rfl, rfl⟩
    have hf := oi_f cc4 hf
    by_cases cc6 : a2 = 1
    · have hf := oi_t cc6 hf
      refine A_tabIn (pc := 15) 71 dX5_person_15 (by rw [cc6]; decide) (by rw [cc6]; decide) (off := 56) (by rw [cc6]; decide) (by decide) ?_
      refine A_aloadn (pc := 71) dX5_person_71 rfl ?_
      refine A_getR (pc := 72) dX5_person_72 gX5_25 (lay_s hT (k := 53) (q := (7, 35)) rfl) (Nat.le_of_ble_eq_true rfl) rfl (lay_r hT 57 rfl) ?_
      refine A_iloadn (pc := 75) dX5_person_75 rfl ?_
      obtain ⟨h7, hf⟩ := oi_cf hf
      refine A_iald (pc := 76) dX5_person_76 (lay_s hT (k := 59) (q := (0, 7)) rfl) (oob_f h7) ?_
      obtain rfl := Option.some.inj hf
      exact A_iret (pc := 77) dX5_person_77 rfl rfl ⟨rfl, rfl, rfl⟩
    have hf := oi_f cc6 hf
    by_cases cc8 : a2 = 2
    · have hf := oi_t cc8 hf
      refine A_tabIn (pc := 15) 78 dX5_person_15 (by rw [cc8]; decide) (by rw [cc8]; decide) (off := 63) (by rw [cc8]; decide) (by decide) ?_
      refine A_aloadn (pc := 78) dX5_person_78 rfl ?_
      refine A_getR (pc := 79) dX5_person_79 gX5_28 (lay_s hT (k := 53) (q := (7, 35)) rfl) (Nat.le_of_ble_eq_true rfl) rfl (lay_r hT 58 rfl) ?_
      refine A_iloadn (pc := 82) dX5_person_82 rfl ?_
      obtain ⟨h9, hf⟩ := oi_cf hf
      refine A_iald (pc := 83) dX5_person_83 (lay_s hT (k := 60) (q := (0, 7)) rfl) (oob_f h9) ?_
      obtain rfl := Option.some.inj hf
      exact A_iret (pc := 84) dX5_person_84 rfl rfl ⟨rfl, rfl, rfl⟩
    have hf := oi_f cc8 hf
    by_cases cc10 : a2 = 3
    · have hf := oi_t cc10 hf
      refine A_tabIn (pc := 15) 85 dX5_person_15 (by rw [cc10]; decide) (by rw [cc10]; decide) (off := 70) (by rw [cc10]; decide) (by decide) ?_
      refine A_aloadn (pc := 85) dX5_person_85 rfl ?_
      refine A_getR (pc := 86) dX5_person_86 gX5_31 (lay_s hT (k := 53) (q := (7, 35)) rfl) (Nat.le_of_ble_eq_true rfl) rfl (lay_r hT 59 rfl) ?_
      refine A_iloadn (pc := 89) dX5_person_89 rfl ?_
      obtain ⟨h11, hf⟩ := oi_cf hf
      refine A_iald (pc := 90) dX5_person_90 (lay_s hT (k := 61) (q := (0, 7)) rfl) (oob_f h11) ?_
      obtain rfl := Option.some.inj hf
      exact A_iret (pc := 91) dX5_person_91 rfl rfl ⟨rfl, rfl, rfl⟩
    have hf := oi_f cc10 hf
    by_cases cc12 : a2 = 4
    · have hf := oi_t cc12 hf
      refine A_tabIn (pc := 15) 92 dX5_person_15 (by rw [cc12]; decide) (by rw [cc12]; decide) (off := 77) (by rw [cc12]; decide) (by decide) ?_
      refine A_aloadn (pc := 92) dX5_person_92 rfl ?_
      refine A_getR (pc := 93) dX5_person_93 gX5_34 (lay_s hT (k := 53) (q := (7, 35)) rfl) (Nat.le_of_ble_eq_true rfl) rfl (lay_r hT 60 rfl) ?_
      refine A_iloadn (pc := 96) dX5_person_96 rfl ?_
      obtain ⟨h13, hf⟩ := oi_cf hf
      refine A_iald (pc := 97) dX5_person_97 (lay_s hT (k := 62) (q := (0, 7)) rfl) (oob_f h13) ?_
      obtain rfl := Option.some.inj hf
      exact A_iret (pc := 98) dX5_person_98 rfl rfl ⟨rfl, rfl, rfl⟩
    have hf := oi_f cc12 hf
    by_cases cc14 : a2 = 5
    · have hf := oi_t cc14 hf
      refine A_tabIn (pc := 15) 99 dX5_person_15 (by rw [cc14]; decide) (by rw [cc14]; decide) (off := 84) (by rw [cc14]; decide) (by decide) ?_
      refine A_aloadn (pc := 99) dX5_person_99 rfl ?_
      refine A_iloadn (pc := 100) dX5_person_100 rfl ?_
      obtain ⟨q15, h16, hf⟩ := oi_b hf
      refine A_cV1i (mi2 := mX5_reachOf) (pc := 101) dX5_person_101 lX5_167 fX5_reachOf vX5_reachOf (lay_s hT (k := 53) (q := (7, 35)) rfl) rfl (Nat.le_of_ble_eq_true rfl) rfl (Nat.le_of_ble_eq_true rfl) (wX5_reachOf (by omega) hT  h16) ?_
      obtain rfl := Option.some.inj hf
      exact A_iret (pc := 104) dX5_person_104 rfl rfl ⟨rfl, rfl, rfl⟩
    have hf := oi_f cc14 hf
    by_cases cc17 : a2 = 6
    · have hf := oi_t cc17 hf
      refine A_tabIn (pc := 15) 105 dX5_person_15 (by rw [cc17]; decide) (by rw [cc17]; decide) (off := 90) (by rw [cc17]; decide) (by decide) ?_
      refine A_aloadn (pc := 105) dX5_person_105 rfl ?_
      refine A_iloadn (pc := 106) dX5_person_106 rfl ?_
      obtain ⟨q18, h19, hf⟩ := oi_b hf
      refine A_cV1i (mi2 := mX5_holdOf) (pc := 107) dX5_person_107 lX5_170 fX5_holdOf vX5_holdOf (lay_s hT (k := 53) (q := (7, 35)) rfl) rfl (Nat.le_of_ble_eq_true rfl) rfl (Nat.le_of_ble_eq_true rfl) (wX5_holdOf (by omega) hT  h19) ?_
      obtain rfl := Option.some.inj hf
      exact A_iret (pc := 110) dX5_person_110 rfl rfl ⟨rfl, rfl, rfl⟩
    have hf := oi_f cc17 hf
    by_cases cc20 : a2 = 7
    · have hf := oi_t cc20 hf
      refine A_tabIn (pc := 15) 111 dX5_person_15 (by rw [cc20]; decide) (by rw [cc20]; decide) (off := 96) (by rw [cc20]; decide) (by decide) ?_
      refine A_aloadn (pc := 111) dX5_person_111 rfl ?_
      refine A_iloadn (pc := 112) dX5_person_112 rfl ?_
      obtain ⟨q21, h22, hf⟩ := oi_b hf
      refine A_cV1i (mi2 := mX5_coolOf) (pc := 113) dX5_person_113 lX5_173 fX5_coolOf vX5_coolOf (lay_s hT (k := 53) (q := (7, 35)) rfl) rfl (Nat.le_of_ble_eq_true rfl) rfl (Nat.le_of_ble_eq_true rfl) (wX5_coolOf (by omega) hT  h22) ?_
      obtain rfl := Option.some.inj hf
      exact A_iret (pc := 116) dX5_person_116 rfl rfl ⟨rfl, rfl, rfl⟩
    have hf := oi_f cc20 hf
    by_cases cc23 : a2 = 8
    · have hf := oi_t cc23 hf
      refine A_tabIn (pc := 15) 117 dX5_person_15 (by rw [cc23]; decide) (by rw [cc23]; decide) (off := 102) (by rw [cc23]; decide) (by decide) ?_
      refine A_aloadn (pc := 117) dX5_person_117 rfl ?_
      refine A_iloadn (pc := 118) dX5_person_118 rfl ?_
      obtain ⟨q24, h25, hf⟩ := oi_b hf
      refine A_cV1i (mi2 := mX5_yardOf) (pc := 119) dX5_person_119 lX5_117 fX5_yardOf vX5_yardOf (lay_s hT (k := 53) (q := (7, 35)) rfl) rfl (Nat.le_of_ble_eq_true rfl) rfl (Nat.le_of_ble_eq_true rfl) (wX5_yardOf (by omega) hT  h25) ?_
      obtain rfl := Option.some.inj hf
      exact A_iret (pc := 122) dX5_person_122 rfl rfl ⟨rfl, rfl, rfl⟩
    have hf := oi_f cc23 hf
    have ecc4 : a2.toInt ≠ 0 := fun h9 => cc4 (Int32.toInt_inj.mp (h9.trans (by decide : (0 : Int) = (0 : Int32).toInt)))
    have ecc6 : a2.toInt ≠ 1 := fun h9 => cc6 (Int32.toInt_inj.mp (h9.trans (by decide : (1 : Int) = (1 : Int32).toInt)))
    have ecc8 : a2.toInt ≠ 2 := fun h9 => cc8 (Int32.toInt_inj.mp (h9.trans (by decide : (2 : Int) = (2 : Int32).toInt)))
    have ecc10 : a2.toInt ≠ 3 := fun h9 => cc10 (Int32.toInt_inj.mp (h9.trans (by decide : (3 : Int) = (3 : Int32).toInt)))
    have ecc12 : a2.toInt ≠ 4 := fun h9 => cc12 (Int32.toInt_inj.mp (h9.trans (by decide : (4 : Int) = (4 : Int32).toInt)))
    have ecc14 : a2.toInt ≠ 5 := fun h9 => cc14 (Int32.toInt_inj.mp (h9.trans (by decide : (5 : Int) = (5 : Int32).toInt)))
    have ecc17 : a2.toInt ≠ 6 := fun h9 => cc17 (Int32.toInt_inj.mp (h9.trans (by decide : (6 : Int) = (6 : Int32).toInt)))
    have ecc20 : a2.toInt ≠ 7 := fun h9 => cc20 (Int32.toInt_inj.mp (h9.trans (by decide : (7 : Int) = (7 : Int32).toInt)))
    have ecc23 : a2.toInt ≠ 8 := fun h9 => cc23 (Int32.toInt_inj.mp (h9.trans (by decide : (8 : Int) = (8 : Int32).toInt)))
    refine A_tabOut (pc := 15) 123 dX5_person_15 (by omega) (by decide) ?_
    refine A_aloadn (pc := 123) dX5_person_123 rfl ?_
    refine A_bipush (pc := 124) (-2) dX5_person_124 rfl ?_
    obtain ⟨q26, h27, hf⟩ := oi_b hf
    refine A_cV1i (mi2 := mX5_no) (pc := 126) dX5_person_126 lX5_92 fX5_no vX5_no (lay_s hT (k := 53) (q := (7, 35)) rfl) rfl (Nat.le_of_ble_eq_true rfl) rfl (Nat.le_of_ble_eq_true rfl) (wX5_no (by omega) hT  h27) ?_
    obtain rfl := Option.some.inj hf
    exact A_iret (pc := 129) dX5_person_129 rfl rfl ⟨rfl, rfl, rfl⟩
  have hf := oi_t cc3 hf
  refine A_aloadn (pc := 8) dX5_person_8 rfl ?_
  refine A_iconst (pc := 9) (-1) dX5_person_9 rfl ?_
  obtain ⟨q28, h29, hf⟩ := oi_b hf
  refine A_cV1i (mi2 := mX5_no) (pc := 10) dX5_person_10 lX5_92 fX5_no vX5_no (lay_s hT (k := 53) (q := (7, 35)) rfl) rfl (Nat.le_of_ble_eq_true rfl) rfl (Nat.le_of_ble_eq_true rfl) (wX5_no (by omega) hT  h29) ?_
  obtain rfl := Option.some.inj hf
  exact A_iret (pc := 13) dX5_person_13 rfl rfl ⟨rfl, rfl, rfl⟩
def zX5_grudge (n : Nat) (u : MU) (a1 : Int32) (a2 : Int32) : Option (Int32 × MU) := Option.bind (zX5_areTwo n u a1 a2) (fun q1 => if q1 = 0 then (Option.bind (zX5_no n u (-1)) (fun q4 => some (q4.1, q4.2))) else (if oob ((7 * a1) + a2) 49 then none else some ((u 64 ((7 * a1) + a2).toNatClampNeg), u)))
set_option maxHeartbeats 4000000 in
set_option maxRecDepth 100000 in
theorem wX5_grudge {G : GG} {T : TT} {n d : Nat} (hd : 2 ≤ d) {q : Int32 × MU} {u : MU} {a1 : Int32} {a2 : Int32} (hT : LAY T) (hf : zX5_grudge n u a1 a2 = some q) : AW G d mX5_grudge 0 [.ref 53, .int a1, .int a2] [] T u 0 0 (QS T q.1 q.2) := by
  obtain ⟨d, rfl⟩ : ∃ e, d = e + 1 := ⟨d - 1, by omega⟩
  rw [zX5_grudge] at hf
  refine A_aloadn (pc := 0) dX5_grudge_0 rfl ?_
  refine A_iloadn (pc := 1) dX5_grudge_1 rfl ?_
  refine A_iloadn (pc := 2) dX5_grudge_2 rfl ?_
  obtain ⟨q1, h2, hf⟩ := oi_b hf
  refine A_cV2i (mi2 := mX5_areTwo) (pc := 3) dX5_grudge_3 lX5_129 fX5_areTwo vX5_areTwo (lay_s hT (k := 53) (q := (7, 35)) rfl) rfl (Nat.le_of_ble_eq_true rfl) rfl (Nat.le_of_ble_eq_true rfl) (wX5_areTwo (by omega) hT  h2) ?_
  refine A_if_eq (pc := 6) (w := 0) 23 dX5_grudge_6 (by decide) (fun cc3 => ?_) (fun cc3 => ?_)
  · have hf := oi_t cc3 hf
    refine A_aloadn (pc := 23) dX5_grudge_23 rfl ?_
    refine A_iconst (pc := 24) (-1) dX5_grudge_24 rfl ?_
    obtain ⟨q4, h5, hf⟩ := oi_b hf
    refine A_cV1i (mi2 := mX5_no) (pc := 25) dX5_grudge_25 lX5_92 fX5_no vX5_no (lay_s hT (k := 53) (q := (7, 35)) rfl) rfl (Nat.le_of_ble_eq_true rfl) rfl (Nat.le_of_ble_eq_true rfl) (wX5_no (by omega) hT  h5) ?_
    obtain rfl := Option.some.inj hf
    exact A_iret (pc := 28) dX5_grudge_28 rfl rfl ⟨rfl, rfl, rfl⟩
  have hf := oi_f cc3 hf
  refine A_aloadn (pc := 9) dX5_grudge_9 rfl ?_
  refine A_getR (pc := 10) dX5_grudge_10 gX5_40 (lay_s hT (k := 53) (q := (7, 35)) rfl) (Nat.le_of_ble_eq_true rfl) rfl (lay_r hT 62 rfl) ?_
  refine A_bipush (pc := 13) 7 dX5_grudge_13 rfl ?_
  refine A_iloadn (pc := 15) dX5_grudge_15 rfl ?_
  refine A_imul (pc := 16) dX5_grudge_16 ?_
  refine A_iloadn (pc := 17) dX5_grudge_17 rfl ?_
  refine A_iadd (pc := 18) dX5_grudge_18 ?_
  obtain ⟨h6, hf⟩ := oi_cf hf
  refine A_iald (pc := 19) dX5_grudge_19 (lay_s hT (k := 64) (q := (0, 49)) rfl) (oob_f h6) ?_
  refine A_goto (pc := 20) 28 dX5_grudge_20 (by decide) ?_
  obtain rfl := Option.some.inj hf
  exact A_iret (pc := 28) dX5_grudge_28 rfl rfl ⟨rfl, rfl, rfl⟩
