def zL_law_L18 (n : Nat) (xs : Nat → Int32) (Ln : Nat) (k : Int32 → MU → Option (Int32 × MU)) : Nat → Int32 → MU → Option (Int32 × MU)
  | 0, _, _ => none
  | m + 1, t3, u => if ((Int32.ofNat Ln) - 4) < t3 then (k t3 u) else (if oob t3 Ln then none else if ((xs t3.toNatClampNeg) &&& 31) = 0 then (if oob (t3 + 1) Ln then none else Option.bind (zX4_feed n u (xs (t3 + 1).toNatClampNeg)) (fun q5 => if oob (t3 + 1) Ln then none else Option.bind (zX5_feed n q5.2 (xs (t3 + 1).toNatClampNeg)) (fun q8 => if q5.1 = q8.1 then (zL_law_L18 n xs Ln  k m (t3 + 4) q8.2) else (some (0, q8.2))))) else if ((xs t3.toNatClampNeg) &&& 31) = 1 then (Option.bind (zX4_river n u) (fun q12 => Option.bind (zX5_river n q12.2) (fun q14 => if q12.1 = q14.1 then (zL_law_L18 n xs Ln  k m (t3 + 4) q14.2) else (some (0, q14.2))))) else if ((xs t3.toNatClampNeg) &&& 31) = 2 then (if oob (t3 + 1) Ln then none else if oob (t3 + 2) Ln then none else Option.bind (zX4_yard n u (xs (t3 + 1).toNatClampNeg) (xs (t3 + 2).toNatClampNeg)) (fun q20 => if oob (t3 + 1) Ln then none else if oob (t3 + 2) Ln then none else Option.bind (zX5_yard n q20.2 (xs (t3 + 1).toNatClampNeg) (xs (t3 + 2).toNatClampNeg)) (fun q24 => if q20.1 = q24.1 then (zL_law_L18 n xs Ln  k m (t3 + 4) q24.2) else (some (0, q24.2))))) else if ((xs t3.toNatClampNeg) &&& 31) = 3 then (if oob (t3 + 1) Ln then none else if oob (t3 + 2) Ln then none else Option.bind (zX4_person n u (xs (t3 + 1).toNatClampNeg) (xs (t3 + 2).toNatClampNeg)) (fun q30 => if oob (t3 + 1) Ln then none else if oob (t3 + 2) Ln then none else Option.bind (zX5_person n q30.2 (xs (t3 + 1).toNatClampNeg) (xs (t3 + 2).toNatClampNeg)) (fun q34 => if q30.1 = q34.1 then (zL_law_L18 n xs Ln  k m (t3 + 4) q34.2) else (some (0, q34.2))))) else if ((xs t3.toNatClampNeg) &&& 31) = 4 then (if oob (t3 + 1) Ln then none else if oob (t3 + 2) Ln then none else Option.bind (zX4_grudge n u (xs (t3 + 1).toNatClampNeg) (xs (t3 + 2).toNatClampNeg)) (fun q40 => if oob (t3 + 1) Ln then none else if oob (t3 + 2) Ln then none else Option.bind (zX5_grudge n q40.2 (xs (t3 + 1).toNatClampNeg) (xs (t3 + 2).toNatClampNeg)) (fun q44 => if q40.1 = q44.1 then (zL_law_L18 n xs Ln  k m (t3 + 4) q44.2) else (some (0, q44.2))))) else if ((xs t3.toNatClampNeg) &&& 31) = 5 then (if oob (t3 + 1) Ln then none else if oob (t3 + 2) Ln then none else if oob (t3 + 3) Ln then none else Option.bind (zX4_quarrel n u (xs (t3 + 1).toNatClampNeg) (xs (t3 + 2).toNatClampNeg) (xs (t3 + 3).toNatClampNeg)) (fun q51 => if oob (t3 + 1) Ln then none else if oob (t3 + 2) Ln then none else if oob (t3 + 3) Ln then none else Option.bind (zX5_quarrel n q51.2 (xs (t3 + 1).toNatClampNeg) (xs (t3 + 2).toNatClampNeg) (xs (t3 + 3).toNatClampNeg)) (fun q56 => if q51.1 = q56.1 then (zL_law_L18 n xs Ln  k m (t3 + 4) q56.2) else (some (0, q56.2))))) else if ((xs t3.toNatClampNeg) &&& 31) = 6 then (if oob (t3 + 1) Ln then none else Option.bind (zX4_cold n u (xs (t3 + 1).toNatClampNeg)) (fun q61 => if oob (t3 + 1) Ln then none else Option.bind (zX5_cold n q61.2 (xs (t3 + 1).toNatClampNeg)) (fun q64 => if q61.1 = q64.1 then (zL_law_L18 n xs Ln  k m (t3 + 4) q64.2) else (some (0, q64.2))))) else if ((xs t3.toNatClampNeg) &&& 31) = 7 then (if oob (t3 + 1) Ln then none else if oob (t3 + 2) Ln then none else Option.bind (zX4_put n u (xs (t3 + 1).toNatClampNeg) (xs (t3 + 2).toNatClampNeg)) (fun q70 => if oob (t3 + 1) Ln then none else if oob (t3 + 2) Ln then none else Option.bind (zX5_put n q70.2 (xs (t3 + 1).toNatClampNeg) (xs (t3 + 2).toNatClampNeg)) (fun q74 => if q70.1 = q74.1 then (zL_law_L18 n xs Ln  k m (t3 + 4) q74.2) else (some (0, q74.2))))) else if ((xs t3.toNatClampNeg) &&& 31) = 8 then (Option.bind (zX4_out n u) (fun q78 => Option.bind (zX5_out n q78.2) (fun q80 => if q78.1 = q80.1 then (zL_law_L18 n xs Ln  k m (t3 + 4) q80.2) else (some (0, q80.2))))) else if ((xs t3.toNatClampNeg) &&& 31) = 9 then (if oob (t3 + 1) Ln then none else Option.bind (zX4_load n u (xs (t3 + 1).toNatClampNeg)) (fun q85 => if oob (t3 + 1) Ln then none else Option.bind (zX5_load n q85.2 (xs (t3 + 1).toNatClampNeg)) (fun q88 => if q85.1 = q88.1 then (zL_law_L18 n xs Ln  k m (t3 + 4) q88.2) else (some (0, q88.2))))) else if ((xs t3.toNatClampNeg) &&& 31) = 10 then (if oob (t3 + 1) Ln then none else Option.bind (zX4_slips n u (xs (t3 + 1).toNatClampNeg)) (fun q93 => if oob (t3 + 1) Ln then none else Option.bind (zX5_slips n q93.2 (xs (t3 + 1).toNatClampNeg)) (fun q96 => if q93.1 = q96.1 then (zL_law_L18 n xs Ln  k m (t3 + 4) q96.2) else (some (0, q96.2))))) else if ((xs t3.toNatClampNeg) &&& 31) = 11 then (Option.bind (zX4_lasts n u) (fun q100 => Option.bind (zX5_lasts n u) (fun q102 => if q100 = q102.1 then (zL_law_L18 n xs Ln  k m (t3 + 4) q102.2) else (some (0, q102.2))))) else if ((xs t3.toNatClampNeg) &&& 31) = 12 then (if oob (t3 + 1) Ln then none else Option.bind (zX4_cross n u (xs (t3 + 1).toNatClampNeg)) (fun q107 => if oob (t3 + 1) Ln then none else Option.bind (zX5_cross n q107.2 (xs (t3 + 1).toNatClampNeg)) (fun q110 => if q107.1 = q110.1 then (zL_law_L18 n xs Ln  k m (t3 + 4) q110.2) else (some (0, q110.2))))) else if ((xs t3.toNatClampNeg) &&& 31) = 13 then (Option.bind (zX4_chains n u) (fun q114 => Option.bind (zX5_chains n q114.2) (fun q116 => if q114.1 = q116.1 then (zL_law_L18 n xs Ln  k m (t3 + 4) q116.2) else (some (0, q116.2))))) else if ((xs t3.toNatClampNeg) &&& 31) = 14 then (if oob (t3 + 1) Ln then none else Option.bind (zX4_longest n u (xs (t3 + 1).toNatClampNeg)) (fun q121 => if oob (t3 + 1) Ln then none else Option.bind (zX5_longest n q121.2 (xs (t3 + 1).toNatClampNeg)) (fun q124 => if q121.1 = q124.1 then (zL_law_L18 n xs Ln  k m (t3 + 4) q124.2) else (some (0, q124.2))))) else if ((xs t3.toNatClampNeg) &&& 31) = 15 then (Option.bind (zX4_makeUp n u) (fun q128 => Option.bind (zX5_makeUp n q128.2) (fun q130 => if q128.1 = q130.1 then (zL_law_L18 n xs Ln  k m (t3 + 4) q130.2) else (some (0, q130.2))))) else if ((xs t3.toNatClampNeg) &&& 31) = 16 then (if oob (t3 + 1) Ln then none else if oob (t3 + 2) Ln then none else Option.bind (zX4_worth n u (xs (t3 + 1).toNatClampNeg) (xs (t3 + 2).toNatClampNeg)) (fun q136 => if oob (t3 + 1) Ln then none else if oob (t3 + 2) Ln then none else Option.bind (zX5_worth n q136.2 (xs (t3 + 1).toNatClampNeg) (xs (t3 + 2).toNatClampNeg)) (fun q140 => if q136.1 = q140.1 then (zL_law_L18 n xs Ln  k m (t3 + 4) q140.2) else (some (0, q140.2))))) else if ((xs t3.toNatClampNeg) &&& 31) = 17 then (Option.bind (zX4_change n u) (fun q144 => Option.bind (zX5_change n q144.2) (fun q146 => if q144.1 = q146.1 then (zL_law_L18 n xs Ln  k m (t3 + 4) q146.2) else (some (0, q146.2))))) else if ((xs t3.toNatClampNeg) &&& 31) = 18 then (Option.bind (zX4_flood n u) (fun q150 => Option.bind (zX5_flood n u) (fun q152 => if q150 = q152.1 then (zL_law_L18 n xs Ln  k m (t3 + 4) q152.2) else (some (0, q152.2))))) else if ((xs t3.toNatClampNeg) &&& 31) = 19 then (Option.bind (zX4_overs n u) (fun q156 => Option.bind (zX5_overs n u) (fun q158 => if q156 = q158.1 then (zL_law_L18 n xs Ln  k m (t3 + 4) q158.2) else (some (0, q158.2))))) else if ((xs t3.toNatClampNeg) &&& 31) = 20 then (if oob (t3 + 1) Ln then none else if oob (t3 + 2) Ln then none else Option.bind (zX4_owes n u (xs (t3 + 1).toNatClampNeg) (xs (t3 + 2).toNatClampNeg)) (fun q164 => if oob (t3 + 1) Ln then none else if oob (t3 + 2) Ln then none else Option.bind (zX5_owes n q164.2 (xs (t3 + 1).toNatClampNeg) (xs (t3 + 2).toNatClampNeg)) (fun q168 => if q164.1 = q168.1 then (zL_law_L18 n xs Ln  k m (t3 + 4) q168.2) else (some (0, q168.2))))) else if ((xs t3.toNatClampNeg) &&& 31) = 21 then (if oob (t3 + 1) Ln then none else Option.bind (zX4_owed n u (xs (t3 + 1).toNatClampNeg)) (fun q173 => if oob (t3 + 1) Ln then none else Option.bind (zX5_owed n q173.2 (xs (t3 + 1).toNatClampNeg)) (fun q176 => if q173.1 = q176.1 then (zL_law_L18 n xs Ln  k m (t3 + 4) q176.2) else (some (0, q176.2))))) else if ((xs t3.toNatClampNeg) &&& 31) = 22 then (Option.bind (zX4_strike n u) (fun q180 => Option.bind (zX5_strike n q180.2) (fun q182 => if q180.1 = q182.1 then (zL_law_L18 n xs Ln  k m (t3 + 4) q182.2) else (some (0, q182.2))))) else if ((xs t3.toNatClampNeg) &&& 31) = 23 then (if oob (t3 + 1) Ln then none else if oob (t3 + 2) Ln then none else Option.bind (zX4_wet n u (xs (t3 + 1).toNatClampNeg) (xs (t3 + 2).toNatClampNeg)) (fun q188 => if oob (t3 + 1) Ln then none else if oob (t3 + 2) Ln then none else Option.bind (zX5_wet n q188.2 (xs (t3 + 1).toNatClampNeg) (xs (t3 + 2).toNatClampNeg)) (fun q192 => if q188.1 = q192.1 then (zL_law_L18 n xs Ln  k m (t3 + 4) q192.2) else (some (0, q192.2))))) else if ((xs t3.toNatClampNeg) &&& 31) = 24 then (if oob (t3 + 1) Ln then none else Option.bind (zX4_row n u (xs (t3 + 1).toNatClampNeg)) (fun q197 => if oob (t3 + 1) Ln then none else Option.bind (zX5_row n q197.2 (xs (t3 + 1).toNatClampNeg)) (fun q200 => if q197.1 = q200.1 then (zL_law_L18 n xs Ln  k m (t3 + 4) q200.2) else (some (0, q200.2))))) else if ((xs t3.toNatClampNeg) &&& 31) = 25 then (Option.bind (zX4_judge n u) (fun q204 => Option.bind (zX5_judge n q204.2) (fun q206 => if q204.1 = q206.1 then (zL_law_L18 n xs Ln  k m (t3 + 4) q206.2) else (some (0, q206.2))))) else if ((xs t3.toNatClampNeg) &&& 31) = 26 then (if oob (t3 + 1) Ln then none else if oob (t3 + 2) Ln then none else Option.bind (zX4_seeds n u (xs (t3 + 1).toNatClampNeg) (xs (t3 + 2).toNatClampNeg)) (fun q212 => if oob (t3 + 1) Ln then none else if oob (t3 + 2) Ln then none else Option.bind (zX5_seeds n q212.2 (xs (t3 + 1).toNatClampNeg) (xs (t3 + 2).toNatClampNeg)) (fun q216 => if q212.1 = q216.1 then (zL_law_L18 n xs Ln  k m (t3 + 4) q216.2) else (some (0, q216.2))))) else if ((xs t3.toNatClampNeg) &&& 31) = 27 then (Option.bind (zX4_image n u) (fun q220 => Option.bind (zX5_image n q220.2) (fun q222 => if q220.1 = q222.1 then (zL_law_L18 n xs Ln  k m (t3 + 4) q222.2) else (some (0, q222.2))))) else if ((xs t3.toNatClampNeg) &&& 31) = 28 then (Option.bind (zX4_restore n u) (fun q226 => Option.bind (zX5_restore n q226.2) (fun q228 => if q226.1 = q228.1 then (zL_law_L18 n xs Ln  k m (t3 + 4) q228.2) else (some (0, q228.2))))) else if ((xs t3.toNatClampNeg) &&& 31) = 29 then (if oob (t3 + 1) Ln then none else Option.bind (zX4_count n u (xs (t3 + 1).toNatClampNeg)) (fun q233 => if oob (t3 + 1) Ln then none else Option.bind (zX5_count n u (xs (t3 + 1).toNatClampNeg)) (fun q236 => if q233 = q236 then (zL_law_L18 n xs Ln  k m (t3 + 4) u) else (some (0, u))))) else (zL_law_L18 n xs Ln  k m (t3 + 4) u))
set_option maxHeartbeats 40000000 in
set_option maxRecDepth 100000 in
theorem wL_law_L18 {G : GG} {T : TT} {n d : Nat} (hd : 14 ≤ d) {xs : Nat → Int32} {Ln : Nat} {k : Int32 → MU → Option (Int32 × MU)} (hT : LAY T) (hxs : xs = G.2.2.2.2) (hLn : Ln = G.2.2.2.1) (hk : ∀ (t3 : Int32) (u : MU) (q : Int32 × MU), k t3 u = some q → AW G d mL_law 844 [.ref aw_S, .ref 0, .ref 53, .int t3] [] T u 0 0 (QS T q.1 q.2)) : ∀ (m : Nat) (t3 : Int32) (u : MU) (q : Int32 × MU), zL_law_L18 n xs Ln k m t3 u = some q → AW G d mL_law 18 [.ref aw_S, .ref 0, .ref 53, .int t3] [] T u 0 0 (QS T q.1 q.2) := by
  intro m
  subst hxs; subst hLn
  obtain ⟨d, rfl⟩ : ∃ e, d = e + 1 := ⟨d - 1, by omega⟩
  induction m with
  | zero =>
    intro t3 u q hf
    have h0 : (none : Option (Int32 × MU)) = some q := hf
    cases h0
  | succ m ih =>
    intro t3 u q hf
    rw [zL_law_L18] at hf
    refine A_iloadn (pc := 18) dL_law_18 rfl ?_
    refine A_aloadn (pc := 19) dL_law_19 rfl ?_
    refine A_slen (pc := 20) dL_law_20 rfl ?_
    refine A_iconst (pc := 21) 4 dL_law_21 rfl ?_
    refine A_isub (pc := 22) dL_law_22 ?_
    refine A_icmp_gt (pc := 23) 844 dL_law_23 (by decide) (fun cc1 => ?_) (fun cc1 => ?_)
    · have hf := oi_t cc1 hf
      exact hk _ _ _ hf
    have hf := oi_f cc1 hf
    refine A_aloadn (pc := 26) dL_law_26 rfl ?_
    refine A_iloadn (pc := 27) dL_law_27 rfl ?_
    obtain ⟨h2, hf⟩ := oi_cf hf
    refine A_sld (pc := 28) dL_law_28 rfl (oob_f h2) ?_
    refine A_bipush (pc := 29) 31 dL_law_29 rfl ?_
    refine A_iand (pc := 31) dL_law_31 ?_
    by_cases cc3 : ((G.2.2.2.2 t3.toNatClampNeg) &&& 31) = 0
    · have hf := oi_t cc3 hf
      refine A_tabIn (pc := 32) 168 dL_law_32 (by rw [cc3]; decide) (by rw [cc3]; decide) (off := 136) (by rw [cc3]; decide) (by decide) ?_
      refine A_aloadn (pc := 168) dL_law_168 rfl ?_
      refine A_aloadn (pc := 169) dL_law_169 rfl ?_
      refine A_iloadn (pc := 170) dL_law_170 rfl ?_
      refine A_iconst (pc := 171) 1 dL_law_171 rfl ?_
      refine A_iadd (pc := 172) dL_law_172 ?_
      obtain ⟨h4, hf⟩ := oi_cf hf
      refine A_sld (pc := 173) dL_law_173 rfl (oob_f h4) ?_
      obtain ⟨q5, h6, hf⟩ := oi_b hf
      refine A_cV1i (mi2 := mX4_feed) (pc := 174) dL_law_174 lL_13 fX4_feed vX4_feed (lay_s hT (k := 0) (q := (6, 9)) rfl) rfl (Nat.le_of_ble_eq_true rfl) rfl (Nat.le_of_ble_eq_true rfl) (wX4_feed (by omega) hT  h6) ?_
      refine A_aloadn (pc := 177) dL_law_177 rfl ?_
      refine A_aloadn (pc := 178) dL_law_178 rfl ?_
      refine A_iloadn (pc := 179) dL_law_179 rfl ?_
      refine A_iconst (pc := 180) 1 dL_law_180 rfl ?_
      refine A_iadd (pc := 181) dL_law_181 ?_
      obtain ⟨h7, hf⟩ := oi_cf hf
      refine A_sld (pc := 182) dL_law_182 rfl (oob_f h7) ?_
      obtain ⟨q8, h9, hf⟩ := oi_b hf
      refine A_cV1i (mi2 := mX5_feed) (pc := 183) dL_law_183 lL_17 fX5_feed vX5_feed (lay_s hT (k := 53) (q := (7, 35)) rfl) rfl (Nat.le_of_ble_eq_true rfl) rfl (Nat.le_of_ble_eq_true rfl) (wX5_feed (by omega) hT  h9) ?_
      refine A_icmp_eq (pc := 186) 838 dL_law_186 (by decide) (fun cc10 => ?_) (fun cc10 => ?_)
      · have hf := oi_t cc10 hf
        refine A_inc (pc := 838) (L2 := [.ref aw_S, .ref 0, .ref 53, .int (t3 + 4)]) (t3 + 4) dL_law_838 rfl rfl rfl ?_
        refine A_goto (pc := 841) 18 dL_law_841 (by decide) ?_
        exact ih _ _ _ hf
      have hf := oi_f cc10 hf
      refine A_iconst (pc := 189) 0 dL_law_189 rfl ?_
      obtain rfl := Option.some.inj hf
      exact A_iret (pc := 190) dL_law_190 rfl rfl ⟨rfl, rfl, rfl⟩
    have hf := oi_f cc3 hf
    by_cases cc11 : ((G.2.2.2.2 t3.toNatClampNeg) &&& 31) = 1
    · have hf := oi_t cc11 hf
      refine A_tabIn (pc := 32) 191 dL_law_32 (by rw [cc11]; decide) (by rw [cc11]; decide) (off := 159) (by rw [cc11]; decide) (by decide) ?_
      refine A_aloadn (pc := 191) dL_law_191 rfl ?_
      obtain ⟨q12, h13, hf⟩ := oi_b hf
      refine A_cV0i (mi2 := mX4_river) (pc := 192) dL_law_192 lL_18 fX4_river vX4_river (lay_s hT (k := 0) (q := (6, 9)) rfl) rfl (Nat.le_of_ble_eq_true rfl) rfl (Nat.le_of_ble_eq_true rfl) (wX4_river (by omega) hT  h13) ?_
      refine A_aloadn (pc := 195) dL_law_195 rfl ?_
      obtain ⟨q14, h15, hf⟩ := oi_b hf
      refine A_cV0i (mi2 := mX5_river) (pc := 196) dL_law_196 lL_22 fX5_river vX5_river (lay_s hT (k := 53) (q := (7, 35)) rfl) rfl (Nat.le_of_ble_eq_true rfl) rfl (Nat.le_of_ble_eq_true rfl) (wX5_river (by omega) hT  h15) ?_
      refine A_icmp_eq (pc := 199) 838 dL_law_199 (by decide) (fun cc16 => ?_) (fun cc16 => ?_)
      · have hf := oi_t cc16 hf
        refine A_inc (pc := 838) (L2 := [.ref aw_S, .ref 0, .ref 53, .int (t3 + 4)]) (t3 + 4) dL_law_838 rfl rfl rfl ?_
        refine A_goto (pc := 841) 18 dL_law_841 (by decide) ?_
        exact ih _ _ _ hf
      have hf := oi_f cc16 hf
      refine A_iconst (pc := 202) 0 dL_law_202 rfl ?_
      obtain rfl := Option.some.inj hf
      exact A_iret (pc := 203) dL_law_203 rfl rfl ⟨rfl, rfl, rfl⟩
    have hf := oi_f cc11 hf
    by_cases cc17 : ((G.2.2.2.2 t3.toNatClampNeg) &&& 31) = 2
    · have hf := oi_t cc17 hf
      refine A_tabIn (pc := 32) 204 dL_law_32 (by rw [cc17]; decide) (by rw [cc17]; decide) (off := 172) (by rw [cc17]; decide) (by decide) ?_
      refine A_aloadn (pc := 204) dL_law_204 rfl ?_
      refine A_aloadn (pc := 205) dL_law_205 rfl ?_
      refine A_iloadn (pc := 206) dL_law_206 rfl ?_
      refine A_iconst (pc := 207) 1 dL_law_207 rfl ?_
      refine A_iadd (pc := 208) dL_law_208 ?_
      obtain ⟨h18, hf⟩ := oi_cf hf
      refine A_sld (pc := 209) dL_law_209 rfl (oob_f h18) ?_
      refine A_aloadn (pc := 210) dL_law_210 rfl ?_
      refine A_iloadn (pc := 211) dL_law_211 rfl ?_
      refine A_iconst (pc := 212) 2 dL_law_212 rfl ?_
      refine A_iadd (pc := 213) dL_law_213 ?_
      obtain ⟨h19, hf⟩ := oi_cf hf
      refine A_sld (pc := 214) dL_law_214 rfl (oob_f h19) ?_
      obtain ⟨q20, h21, hf⟩ := oi_b hf
      refine A_cV2i (mi2 := mX4_yard) (pc := 215) dL_law_215 lL_23 fX4_yard vX4_yard (lay_s hT (k := 0) (q := (6, 9)) rfl) rfl (Nat.le_of_ble_eq_true rfl) rfl (Nat.le_of_ble_eq_true rfl) (wX4_yard (by omega) hT  h21) ?_
      refine A_aloadn (pc := 218) dL_law_218 rfl ?_
      refine A_aloadn (pc := 219) dL_law_219 rfl ?_
      refine A_iloadn (pc := 220) dL_law_220 rfl ?_
      refine A_iconst (pc := 221) 1 dL_law_221 rfl ?_
      refine A_iadd (pc := 222) dL_law_222 ?_
      obtain ⟨h22, hf⟩ := oi_cf hf
      refine A_sld (pc := 223) dL_law_223 rfl (oob_f h22) ?_
      refine A_aloadn (pc := 224) dL_law_224 rfl ?_
      refine A_iloadn (pc := 225) dL_law_225 rfl ?_
      refine A_iconst (pc := 226) 2 dL_law_226 rfl ?_
      refine A_iadd (pc := 227) dL_law_227 ?_
      obtain ⟨h23, hf⟩ := oi_cf hf
      refine A_sld (pc := 228) dL_law_228 rfl (oob_f h23) ?_
      obtain ⟨q24, h25, hf⟩ := oi_b hf
      refine A_cV2i (mi2 := mX5_yard) (pc := 229) dL_law_229 lL_27 fX5_yard vX5_yard (lay_s hT (k := 53) (q := (7, 35)) rfl) rfl (Nat.le_of_ble_eq_true rfl) rfl (Nat.le_of_ble_eq_true rfl) (wX5_yard (by omega) hT  h25) ?_
      refine A_icmp_eq (pc := 232) 838 dL_law_232 (by decide) (fun cc26 => ?_) (fun cc26 => ?_)
      · have hf := oi_t cc26 hf
        refine A_inc (pc := 838) (L2 := [.ref aw_S, .ref 0, .ref 53, .int (t3 + 4)]) (t3 + 4) dL_law_838 rfl rfl rfl ?_
        refine A_goto (pc := 841) 18 dL_law_841 (by decide) ?_
        exact ih _ _ _ hf
      have hf := oi_f cc26 hf
      refine A_iconst (pc := 235) 0 dL_law_235 rfl ?_
      obtain rfl := Option.some.inj hf
      exact A_iret (pc := 236) dL_law_236 rfl rfl ⟨rfl, rfl, rfl⟩
    have hf := oi_f cc17 hf
    by_cases cc27 : ((G.2.2.2.2 t3.toNatClampNeg) &&& 31) = 3
    · have hf := oi_t cc27 hf
      refine A_tabIn (pc := 32) 237 dL_law_32 (by rw [cc27]; decide) (by rw [cc27]; decide) (off := 205) (by rw [cc27]; decide) (by decide) ?_
      refine A_aloadn (pc := 237) dL_law_237 rfl ?_
      refine A_aloadn (pc := 238) dL_law_238 rfl ?_
      refine A_iloadn (pc := 239) dL_law_239 rfl ?_
      refine A_iconst (pc := 240) 1 dL_law_240 rfl ?_
      refine A_iadd (pc := 241) dL_law_241 ?_
      obtain ⟨h28, hf⟩ := oi_cf hf
      refine A_sld (pc := 242) dL_law_242 rfl (oob_f h28) ?_
      refine A_aloadn (pc := 243) dL_law_243 rfl ?_
      refine A_iloadn (pc := 244) dL_law_244 rfl ?_
      refine A_iconst (pc := 245) 2 dL_law_245 rfl ?_
      refine A_iadd (pc := 246) dL_law_246 ?_
      obtain ⟨h29, hf⟩ := oi_cf hf
      refine A_sld (pc := 247) dL_law_247 rfl (oob_f h29) ?_
      obtain ⟨q30, h31, hf⟩ := oi_b hf
      refine A_cV2i (mi2 := mX4_person) (pc := 248) dL_law_248 lL_28 fX4_person vX4_person (lay_s hT (k := 0) (q := (6, 9)) rfl) rfl (Nat.le_of_ble_eq_true rfl) rfl (Nat.le_of_ble_eq_true rfl) (wX4_person (by omega) hT  h31) ?_
      refine A_aloadn (pc := 251) dL_law_251 rfl ?_
      refine A_aloadn (pc := 252) dL_law_252 rfl ?_
      refine A_iloadn (pc := 253) dL_law_253 rfl ?_
      refine A_iconst (pc := 254) 1 dL_law_254 rfl ?_
      refine A_iadd (pc := 255) dL_law_255 ?_
      obtain ⟨h32, hf⟩ := oi_cf hf
      refine A_sld (pc := 256) dL_law_256 rfl (oob_f h32) ?_
      refine A_aloadn (pc := 257) dL_law_257 rfl ?_
      refine A_iloadn (pc := 258) dL_law_258 rfl ?_
      refine A_iconst (pc := 259) 2 dL_law_259 rfl ?_
      refine A_iadd (pc := 260) dL_law_260 ?_
      obtain ⟨h33, hf⟩ := oi_cf hf
      refine A_sld (pc := 261) dL_law_261 rfl (oob_f h33) ?_
      obtain ⟨q34, h35, hf⟩ := oi_b hf
      refine A_cV2i (mi2 := mX5_person) (pc := 262) dL_law_262 lL_31 fX5_person vX5_person (lay_s hT (k := 53) (q := (7, 35)) rfl) rfl (Nat.le_of_ble_eq_true rfl) rfl (Nat.le_of_ble_eq_true rfl) (wX5_person (by omega) hT  h35) ?_
      refine A_icmp_eq (pc := 265) 838 dL_law_265 (by decide) (fun cc36 => ?_) (fun cc36 => ?_)
      · have hf := oi_t cc36 hf
        refine A_inc (pc := 838) (L2 := [.ref aw_S, .ref 0, .ref 53, .int (t3 + 4)]) (t3 + 4) dL_law_838 rfl rfl rfl ?_
        refine A_goto (pc := 841) 18 dL_law_841 (by decide) ?_
        exact ih _ _ _ hf
      have hf := oi_f cc36 hf
      refine A_iconst (pc := 268) 0 dL_law_268 rfl ?_
      obtain rfl := Option.some.inj hf
      exact A_iret (pc := 269) dL_law_269 rfl rfl ⟨rfl, rfl, rfl⟩
    have hf := oi_f cc27 hf
    by_cases cc37 : ((G.2.2.2.2 t3.toNatClampNeg) &&& 31) = 4
    · have hf := oi_t cc37 hf
      refine A_tabIn (pc := 32) 270 dL_law_32 (by rw [cc37]; decide) (by rw [cc37]; decide) (off := 238) (by rw [cc37]; decide) (by decide) ?_
      refine A_aloadn (pc := 270) dL_law_270 rfl ?_
      refine A_aloadn (pc := 271) dL_law_271 rfl ?_
      refine A_iloadn (pc := 272) dL_law_272 rfl ?_
      refine A_iconst (pc := 273) 1 dL_law_273 rfl ?_
      refine A_iadd (pc := 274) dL_law_274 ?_
      obtain ⟨h38, hf⟩ := oi_cf hf
      refine A_sld (pc := 275) dL_law_275 rfl (oob_f h38) ?_
      refine A_aloadn (pc := 276) dL_law_276 rfl ?_
      refine A_iloadn (pc := 277) dL_law_277 rfl ?_
      refine A_iconst (pc := 278) 2 dL_law_278 rfl ?_
      refine A_iadd (pc := 279) dL_law_279 ?_
      obtain ⟨h39, hf⟩ := oi_cf hf
      refine A_sld (pc := 280) dL_law_280 rfl (oob_f h39) ?_
      obtain ⟨q40, h41, hf⟩ := oi_b hf
      refine A_cV2i (mi2 := mX4_grudge) (pc := 281) dL_law_281 lL_32 fX4_grudge vX4_grudge (lay_s hT (k := 0) (q := (6, 9)) rfl) rfl (Nat.le_of_ble_eq_true rfl) rfl (Nat.le_of_ble_eq_true rfl) (wX4_grudge (by omega) hT  h41) ?_
      refine A_aloadn (pc := 284) dL_law_284 rfl ?_
      refine A_aloadn (pc := 285) dL_law_285 rfl ?_
      refine A_iloadn (pc := 286) dL_law_286 rfl ?_
      refine A_iconst (pc := 287) 1 dL_law_287 rfl ?_
      refine A_iadd (pc := 288) dL_law_288 ?_
      obtain ⟨h42, hf⟩ := oi_cf hf
      refine A_sld (pc := 289) dL_law_289 rfl (oob_f h42) ?_
      refine A_aloadn (pc := 290) dL_law_290 rfl ?_
      refine A_iloadn (pc := 291) dL_law_291 rfl ?_
      refine A_iconst (pc := 292) 2 dL_law_292 rfl ?_
      refine A_iadd (pc := 293) dL_law_293 ?_
      obtain ⟨h43, hf⟩ := oi_cf hf
      refine A_sld (pc := 294) dL_law_294 rfl (oob_f h43) ?_
      obtain ⟨q44, h45, hf⟩ := oi_b hf
      refine A_cV2i (mi2 := mX5_grudge) (pc := 295) dL_law_295 lL_35 fX5_grudge vX5_grudge (lay_s hT (k := 53) (q := (7, 35)) rfl) rfl (Nat.le_of_ble_eq_true rfl) rfl (Nat.le_of_ble_eq_true rfl) (wX5_grudge (by omega) hT  h45) ?_
      refine A_icmp_eq (pc := 298) 838 dL_law_298 (by decide) (fun cc46 => ?_) (fun cc46 => ?_)
      · have hf := oi_t cc46 hf
        refine A_inc (pc := 838) (L2 := [.ref aw_S, .ref 0, .ref 53, .int (t3 + 4)]) (t3 + 4) dL_law_838 rfl rfl rfl ?_
        refine A_goto (pc := 841) 18 dL_law_841 (by decide) ?_
        exact ih _ _ _ hf
      have hf := oi_f cc46 hf
      refine A_iconst (pc := 301) 0 dL_law_301 rfl ?_
      obtain rfl := Option.some.inj hf
      exact A_iret (pc := 302) dL_law_302 rfl rfl ⟨rfl, rfl, rfl⟩
    have hf := oi_f cc37 hf
    by_cases cc47 : ((G.2.2.2.2 t3.toNatClampNeg) &&& 31) = 5
    · have hf := oi_t cc47 hf
      refine A_tabIn (pc := 32) 303 dL_law_32 (by rw [cc47]; decide) (by rw [cc47]; decide) (off := 271) (by rw [cc47]; decide) (by decide) ?_
      refine A_aloadn (pc := 303) dL_law_303 rfl ?_
      refine A_aloadn (pc := 304) dL_law_304 rfl ?_
      refine A_iloadn (pc := 305) dL_law_305 rfl ?_
      refine A_iconst (pc := 306) 1 dL_law_306 rfl ?_
      refine A_iadd (pc := 307) dL_law_307 ?_
      obtain ⟨h48, hf⟩ := oi_cf hf
      refine A_sld (pc := 308) dL_law_308 rfl (oob_f h48) ?_
      refine A_aloadn (pc := 309) dL_law_309 rfl ?_
      refine A_iloadn (pc := 310) dL_law_310 rfl ?_
      refine A_iconst (pc := 311) 2 dL_law_311 rfl ?_
      refine A_iadd (pc := 312) dL_law_312 ?_
      obtain ⟨h49, hf⟩ := oi_cf hf
      refine A_sld (pc := 313) dL_law_313 rfl (oob_f h49) ?_
      refine A_aloadn (pc := 314) dL_law_314 rfl ?_
      refine A_iloadn (pc := 315) dL_law_315 rfl ?_
      refine A_iconst (pc := 316) 3 dL_law_316 rfl ?_
      refine A_iadd (pc := 317) dL_law_317 ?_
      obtain ⟨h50, hf⟩ := oi_cf hf
      refine A_sld (pc := 318) dL_law_318 rfl (oob_f h50) ?_
      obtain ⟨q51, h52, hf⟩ := oi_b hf
      refine A_cV3i (mi2 := mX4_quarrel) (pc := 319) dL_law_319 lL_36 fX4_quarrel vX4_quarrel (lay_s hT (k := 0) (q := (6, 9)) rfl) rfl (Nat.le_of_ble_eq_true rfl) rfl (Nat.le_of_ble_eq_true rfl) (wX4_quarrel (by omega) hT  h52) ?_
      refine A_aloadn (pc := 322) dL_law_322 rfl ?_
      refine A_aloadn (pc := 323) dL_law_323 rfl ?_
      refine A_iloadn (pc := 324) dL_law_324 rfl ?_
      refine A_iconst (pc := 325) 1 dL_law_325 rfl ?_
      refine A_iadd (pc := 326) dL_law_326 ?_
      obtain ⟨h53, hf⟩ := oi_cf hf
      refine A_sld (pc := 327) dL_law_327 rfl (oob_f h53) ?_
      refine A_aloadn (pc := 328) dL_law_328 rfl ?_
      refine A_iloadn (pc := 329) dL_law_329 rfl ?_
      refine A_iconst (pc := 330) 2 dL_law_330 rfl ?_
      refine A_iadd (pc := 331) dL_law_331 ?_
      obtain ⟨h54, hf⟩ := oi_cf hf
      refine A_sld (pc := 332) dL_law_332 rfl (oob_f h54) ?_
      refine A_aloadn (pc := 333) dL_law_333 rfl ?_
      refine A_iloadn (pc := 334) dL_law_334 rfl ?_
      refine A_iconst (pc := 335) 3 dL_law_335 rfl ?_
      refine A_iadd (pc := 336) dL_law_336 ?_
      obtain ⟨h55, hf⟩ := oi_cf hf
      refine A_sld (pc := 337) dL_law_337 rfl (oob_f h55) ?_
      obtain ⟨q56, h57, hf⟩ := oi_b hf
      refine A_cV3i (mi2 := mX5_quarrel) (pc := 338) dL_law_338 lL_40 fX5_quarrel vX5_quarrel (lay_s hT (k := 53) (q := (7, 35)) rfl) rfl (Nat.le_of_ble_eq_true rfl) rfl (Nat.le_of_ble_eq_true rfl) (wX5_quarrel (by omega) hT  h57) ?_
      refine A_icmp_eq (pc := 341) 838 dL_law_341 (by decide) (fun cc58 => ?_) (fun cc58 => ?_)
      · have hf := oi_t cc58 hf
        refine A_inc (pc := 838) (L2 := [.ref aw_S, .ref 0, .ref 53, .int (t3 + 4)]) (t3 + 4) dL_law_838 rfl rfl rfl ?_
        refine A_goto (pc := 841) 18 dL_law_841 (by decide) ?_
        exact ih _ _ _ hf
      have hf := oi_f cc58 hf
      refine A_iconst (pc := 344) 0 dL_law_344 rfl ?_
      obtain rfl := Option.some.inj hf
      exact A_iret (pc := 345) dL_law_345 rfl rfl ⟨rfl, rfl, rfl⟩
    have hf := oi_f cc47 hf
    by_cases cc59 : ((G.2.2.2.2 t3.toNatClampNeg) &&& 31) = 6
    · have hf := oi_t cc59 hf
      refine A_tabIn (pc := 32) 346 dL_law_32 (by rw [cc59]; decide) (by rw [cc59]; decide) (off := 314) (by rw [cc59]; decide) (by decide) ?_
      refine A_aloadn (pc := 346) dL_law_346 rfl ?_
      refine A_aloadn (pc := 347) dL_law_347 rfl ?_
      refine A_iloadn (pc := 348) dL_law_348 rfl ?_
      refine A_iconst (pc := 349) 1 dL_law_349 rfl ?_
      refine A_iadd (pc := 350) dL_law_350 ?_
      obtain ⟨h60, hf⟩ := oi_cf hf
      refine A_sld (pc := 351) dL_law_351 rfl (oob_f h60) ?_
      obtain ⟨q61, h62, hf⟩ := oi_b hf
      refine A_cV1i (mi2 := mX4_cold) (pc := 352) dL_law_352 lL_41 fX4_cold vX4_cold (lay_s hT (k := 0) (q := (6, 9)) rfl) rfl (Nat.le_of_ble_eq_true rfl) rfl (Nat.le_of_ble_eq_true rfl) (wX4_cold (by omega) hT  h62) ?_
      refine A_aloadn (pc := 355) dL_law_355 rfl ?_
      refine A_aloadn (pc := 356) dL_law_356 rfl ?_
      refine A_iloadn (pc := 357) dL_law_357 rfl ?_
      refine A_iconst (pc := 358) 1 dL_law_358 rfl ?_
      refine A_iadd (pc := 359) dL_law_359 ?_
      obtain ⟨h63, hf⟩ := oi_cf hf
      refine A_sld (pc := 360) dL_law_360 rfl (oob_f h63) ?_
      obtain ⟨q64, h65, hf⟩ := oi_b hf
      refine A_cV1i (mi2 := mX5_cold) (pc := 361) dL_law_361 lL_44 fX5_cold vX5_cold (lay_s hT (k := 53) (q := (7, 35)) rfl) rfl (Nat.le_of_ble_eq_true rfl) rfl (Nat.le_of_ble_eq_true rfl) (wX5_cold (by omega) hT  h65) ?_
      refine A_icmp_eq (pc := 364) 838 dL_law_364 (by decide) (fun cc66 => ?_) (fun cc66 => ?_)
      · have hf := oi_t cc66 hf
        refine A_inc (pc := 838) (L2 := [.ref aw_S, .ref 0, .ref 53, .int (t3 + 4)]) (t3 + 4) dL_law_838 rfl rfl rfl ?_
        refine A_goto (pc := 841) 18 dL_law_841 (by decide) ?_
        exact ih _ _ _ hf
      have hf := oi_f cc66 hf
      refine A_iconst (pc := 367) 0 dL_law_367 rfl ?_
      obtain rfl := Option.some.inj hf
      exact A_iret (pc := 368) dL_law_368 rfl rfl ⟨rfl, rfl, rfl⟩
    have hf := oi_f cc59 hf
    by_cases cc67 : ((G.2.2.2.2 t3.toNatClampNeg) &&& 31) = 7
    · have hf := oi_t cc67 hf
      refine A_tabIn (pc := 32) 369 dL_law_32 (by rw [cc67]; decide) (by rw [cc67]; decide) (off := 337) (by rw [cc67]; decide) (by decide) ?_
      refine A_aloadn (pc := 369) dL_law_369 rfl ?_
      refine A_aloadn (pc := 370) dL_law_370 rfl ?_
      refine A_iloadn (pc := 371) dL_law_371 rfl ?_
      refine A_iconst (pc := 372) 1 dL_law_372 rfl ?_
      refine A_iadd (pc := 373) dL_law_373 ?_
      obtain ⟨h68, hf⟩ := oi_cf hf
      refine A_sld (pc := 374) dL_law_374 rfl (oob_f h68) ?_
      refine A_aloadn (pc := 375) dL_law_375 rfl ?_
      refine A_iloadn (pc := 376) dL_law_376 rfl ?_
      refine A_iconst (pc := 377) 2 dL_law_377 rfl ?_
      refine A_iadd (pc := 378) dL_law_378 ?_
      obtain ⟨h69, hf⟩ := oi_cf hf
      refine A_sld (pc := 379) dL_law_379 rfl (oob_f h69) ?_
      obtain ⟨q70, h71, hf⟩ := oi_b hf
      refine A_cV2i (mi2 := mX4_put) (pc := 380) dL_law_380 lL_45 fX4_put vX4_put (lay_s hT (k := 0) (q := (6, 9)) rfl) rfl (Nat.le_of_ble_eq_true rfl) rfl (Nat.le_of_ble_eq_true rfl) (wX4_put (by omega) hT  h71) ?_
      refine A_aloadn (pc := 383) dL_law_383 rfl ?_
      refine A_aloadn (pc := 384) dL_law_384 rfl ?_
      refine A_iloadn (pc := 385) dL_law_385 rfl ?_
      refine A_iconst (pc := 386) 1 dL_law_386 rfl ?_
      refine A_iadd (pc := 387) dL_law_387 ?_
      obtain ⟨h72, hf⟩ := oi_cf hf
      refine A_sld (pc := 388) dL_law_388 rfl (oob_f h72) ?_
      refine A_aloadn (pc := 389) dL_law_389 rfl ?_
      refine A_iloadn (pc := 390) dL_law_390 rfl ?_
      refine A_iconst (pc := 391) 2 dL_law_391 rfl ?_
      refine A_iadd (pc := 392) dL_law_392 ?_
      obtain ⟨h73, hf⟩ := oi_cf hf
      refine A_sld (pc := 393) dL_law_393 rfl (oob_f h73) ?_
      obtain ⟨q74, h75, hf⟩ := oi_b hf
      refine A_cV2i (mi2 := mX5_put) (pc := 394) dL_law_394 lL_48 fX5_put vX5_put (lay_s hT (k := 53) (q := (7, 35)) rfl) rfl (Nat.le_of_ble_eq_true rfl) rfl (Nat.le_of_ble_eq_true rfl) (wX5_put (by omega) hT  h75) ?_
      refine A_icmp_eq (pc := 397) 838 dL_law_397 (by decide) (fun cc76 => ?_) (fun cc76 => ?_)
      · have hf := oi_t cc76 hf
        refine A_inc (pc := 838) (L2 := [.ref aw_S, .ref 0, .ref 53, .int (t3 + 4)]) (t3 + 4) dL_law_838 rfl rfl rfl ?_
        refine A_goto (pc := 841) 18 dL_law_841 (by decide) ?_
        exact ih _ _ _ hf
      have hf := oi_f cc76 hf
      refine A_iconst (pc := 400) 0 dL_law_400 rfl ?_
      obtain rfl := Option.some.inj hf
      exact A_iret (pc := 401) dL_law_401 rfl rfl ⟨rfl, rfl, rfl⟩
    have hf := oi_f cc67 hf
    by_cases cc77 : ((G.2.2.2.2 t3.toNatClampNeg) &&& 31) = 8
    · have hf := oi_t cc77 hf
      refine A_tabIn (pc := 32) 402 dL_law_32 (by rw [cc77]; decide) (by rw [cc77]; decide) (off := 370) (by rw [cc77]; decide) (by decide) ?_
      refine A_aloadn (pc := 402) dL_law_402 rfl ?_
      obtain ⟨q78, h79, hf⟩ := oi_b hf
      refine A_cV0i (mi2 := mX4_out) (pc := 403) dL_law_403 lL_49 fX4_out vX4_out (lay_s hT (k := 0) (q := (6, 9)) rfl) rfl (Nat.le_of_ble_eq_true rfl) rfl (Nat.le_of_ble_eq_true rfl) (wX4_out (by omega) hT  h79) ?_
      refine A_aloadn (pc := 406) dL_law_406 rfl ?_
      obtain ⟨q80, h81, hf⟩ := oi_b hf
      refine A_cV0i (mi2 := mX5_out) (pc := 407) dL_law_407 lL_52 fX5_out vX5_out (lay_s hT (k := 53) (q := (7, 35)) rfl) rfl (Nat.le_of_ble_eq_true rfl) rfl (Nat.le_of_ble_eq_true rfl) (wX5_out (by omega) hT  h81) ?_
      refine A_icmp_eq (pc := 410) 838 dL_law_410 (by decide) (fun cc82 => ?_) (fun cc82 => ?_)
      · have hf := oi_t cc82 hf
        refine A_inc (pc := 838) (L2 := [.ref aw_S, .ref 0, .ref 53, .int (t3 + 4)]) (t3 + 4) dL_law_838 rfl rfl rfl ?_
        refine A_goto (pc := 841) 18 dL_law_841 (by decide) ?_
        exact ih _ _ _ hf
      have hf := oi_f cc82 hf
      refine A_iconst (pc := 413) 0 dL_law_413 rfl ?_
      obtain rfl := Option.some.inj hf
      exact A_iret (pc := 414) dL_law_414 rfl rfl ⟨rfl, rfl, rfl⟩
    have hf := oi_f cc77 hf
    by_cases cc83 : ((G.2.2.2.2 t3.toNatClampNeg) &&& 31) = 9
    · have hf := oi_t cc83 hf
      refine A_tabIn (pc := 32) 415 dL_law_32 (by rw [cc83]; decide) (by rw [cc83]; decide) (off := 383) (by rw [cc83]; decide) (by decide) ?_
      refine A_aloadn (pc := 415) dL_law_415 rfl ?_
      refine A_aloadn (pc := 416) dL_law_416 rfl ?_
      refine A_iloadn (pc := 417) dL_law_417 rfl ?_
      refine A_iconst (pc := 418) 1 dL_law_418 rfl ?_
      refine A_iadd (pc := 419) dL_law_419 ?_
      obtain ⟨h84, hf⟩ := oi_cf hf
      refine A_sld (pc := 420) dL_law_420 rfl (oob_f h84) ?_
      obtain ⟨q85, h86, hf⟩ := oi_b hf
      refine A_cV1i (mi2 := mX4_load) (pc := 421) dL_law_421 lL_53 fX4_load vX4_load (lay_s hT (k := 0) (q := (6, 9)) rfl) rfl (Nat.le_of_ble_eq_true rfl) rfl (Nat.le_of_ble_eq_true rfl) (wX4_load (by omega) hT  h86) ?_
      refine A_aloadn (pc := 424) dL_law_424 rfl ?_
      refine A_aloadn (pc := 425) dL_law_425 rfl ?_
      refine A_iloadn (pc := 426) dL_law_426 rfl ?_
      refine A_iconst (pc := 427) 1 dL_law_427 rfl ?_
      refine A_iadd (pc := 428) dL_law_428 ?_
      obtain ⟨h87, hf⟩ := oi_cf hf
      refine A_sld (pc := 429) dL_law_429 rfl (oob_f h87) ?_
      obtain ⟨q88, h89, hf⟩ := oi_b hf
      refine A_cV1i (mi2 := mX5_load) (pc := 430) dL_law_430 lL_56 fX5_load vX5_load (lay_s hT (k := 53) (q := (7, 35)) rfl) rfl (Nat.le_of_ble_eq_true rfl) rfl (Nat.le_of_ble_eq_true rfl) (wX5_load (by omega) hT  h89) ?_
      refine A_icmp_eq (pc := 433) 838 dL_law_433 (by decide) (fun cc90 => ?_) (fun cc90 => ?_)
      · have hf := oi_t cc90 hf
        refine A_inc (pc := 838) (L2 := [.ref aw_S, .ref 0, .ref 53, .int (t3 + 4)]) (t3 + 4) dL_law_838 rfl rfl rfl ?_
        refine A_goto (pc := 841) 18 dL_law_841 (by decide) ?_
        exact ih _ _ _ hf
      have hf := oi_f cc90 hf
      refine A_iconst (pc := 436) 0 dL_law_436 rfl ?_
      obtain rfl := Option.some.inj hf
      exact A_iret (pc := 437) dL_law_437 rfl rfl ⟨rfl, rfl, rfl⟩
    have hf := oi_f cc83 hf
    by_cases cc91 : ((G.2.2.2.2 t3.toNatClampNeg) &&& 31) = 10
    · have hf := oi_t cc91 hf
      refine A_tabIn (pc := 32) 438 dL_law_32 (by rw [cc91]; decide) (by rw [cc91]; decide) (off := 406) (by rw [cc91]; decide) (by decide) ?_
      refine A_aloadn (pc := 438) dL_law_438 rfl ?_
      refine A_aloadn (pc := 439) dL_law_439 rfl ?_
      refine A_iloadn (pc := 440) dL_law_440 rfl ?_
      refine A_iconst (pc := 441) 1 dL_law_441 rfl ?_
      refine A_iadd (pc := 442) dL_law_442 ?_
      obtain ⟨h92, hf⟩ := oi_cf hf
      refine A_sld (pc := 443) dL_law_443 rfl (oob_f h92) ?_
      obtain ⟨q93, h94, hf⟩ := oi_b hf
      refine A_cV1i (mi2 := mX4_slips) (pc := 444) dL_law_444 lL_57 fX4_slips vX4_slips (lay_s hT (k := 0) (q := (6, 9)) rfl) rfl (Nat.le_of_ble_eq_true rfl) rfl (Nat.le_of_ble_eq_true rfl) (wX4_slips (by omega) hT  h94) ?_
      refine A_aloadn (pc := 447) dL_law_447 rfl ?_
      refine A_aloadn (pc := 448) dL_law_448 rfl ?_
      refine A_iloadn (pc := 449) dL_law_449 rfl ?_
      refine A_iconst (pc := 450) 1 dL_law_450 rfl ?_
      refine A_iadd (pc := 451) dL_law_451 ?_
      obtain ⟨h95, hf⟩ := oi_cf hf
      refine A_sld (pc := 452) dL_law_452 rfl (oob_f h95) ?_
      obtain ⟨q96, h97, hf⟩ := oi_b hf
      refine A_cV1i (mi2 := mX5_slips) (pc := 453) dL_law_453 lL_60 fX5_slips vX5_slips (lay_s hT (k := 53) (q := (7, 35)) rfl) rfl (Nat.le_of_ble_eq_true rfl) rfl (Nat.le_of_ble_eq_true rfl) (wX5_slips (by omega) hT  h97) ?_
      refine A_icmp_eq (pc := 456) 838 dL_law_456 (by decide) (fun cc98 => ?_) (fun cc98 => ?_)
      · have hf := oi_t cc98 hf
        refine A_inc (pc := 838) (L2 := [.ref aw_S, .ref 0, .ref 53, .int (t3 + 4)]) (t3 + 4) dL_law_838 rfl rfl rfl ?_
        refine A_goto (pc := 841) 18 dL_law_841 (by decide) ?_
        exact ih _ _ _ hf
      have hf := oi_f cc98 hf
      refine A_iconst (pc := 459) 0 dL_law_459 rfl ?_
      obtain rfl := Option.some.inj hf
      exact A_iret (pc := 460) dL_law_460 rfl rfl ⟨rfl, rfl, rfl⟩
    have hf := oi_f cc91 hf
    by_cases cc99 : ((G.2.2.2.2 t3.toNatClampNeg) &&& 31) = 11
    · have hf := oi_t cc99 hf
      refine A_tabIn (pc := 32) 461 dL_law_32 (by rw [cc99]; decide) (by rw [cc99]; decide) (off := 429) (by rw [cc99]; decide) (by decide) ?_
      refine A_aloadn (pc := 461) dL_law_461 rfl ?_
      obtain ⟨q100, h101, hf⟩ := oi_b hf
      refine A_cV0i (mi2 := mX4_lasts) (pc := 462) dL_law_462 lL_61 fX4_lasts vX4_lasts (lay_s hT (k := 0) (q := (6, 9)) rfl) rfl (Nat.le_of_ble_eq_true rfl) rfl (Nat.le_of_ble_eq_true rfl) (wX4_lasts (by omega) hT  h101) ?_
      refine A_aloadn (pc := 465) dL_law_465 rfl ?_
      obtain ⟨q102, h103, hf⟩ := oi_b hf
      refine A_cV0i (mi2 := mX5_lasts) (pc := 466) dL_law_466 lL_64 fX5_lasts vX5_lasts (lay_s hT (k := 53) (q := (7, 35)) rfl) rfl (Nat.le_of_ble_eq_true rfl) rfl (Nat.le_of_ble_eq_true rfl) (wX5_lasts (by omega) hT  h103) ?_
      refine A_icmp_eq (pc := 469) 838 dL_law_469 (by decide) (fun cc104 => ?_) (fun cc104 => ?_)
      · have hf := oi_t cc104 hf
        refine A_inc (pc := 838) (L2 := [.ref aw_S, .ref 0, .ref 53, .int (t3 + 4)]) (t3 + 4) dL_law_838 rfl rfl rfl ?_
        refine A_goto (pc := 841) 18 dL_law_841 (by decide) ?_
        exact ih _ _ _ hf
      have hf := oi_f cc104 hf
      refine A_iconst (pc := 472) 0 dL_law_472 rfl ?_
      obtain rfl := Option.some.inj hf
      exact A_iret (pc := 473) dL_law_473 rfl rfl ⟨rfl, rfl, rfl⟩
    have hf := oi_f cc99 hf
    by_cases cc105 : ((G.2.2.2.2 t3.toNatClampNeg) &&& 31) = 12
    · have hf := oi_t cc105 hf
      refine A_tabIn (pc := 32) 474 dL_law_32 (by rw [cc105]; decide) (by rw [cc105]; decide) (off := 442) (by rw [cc105]; decide) (by decide) ?_
      refine A_aloadn (pc := 474) dL_law_474 rfl ?_
      refine A_aloadn (pc := 475) dL_law_475 rfl ?_
      refine A_iloadn (pc := 476) dL_law_476 rfl ?_
      refine A_iconst (pc := 477) 1 dL_law_477 rfl ?_
      refine A_iadd (pc := 478) dL_law_478 ?_
      obtain ⟨h106, hf⟩ := oi_cf hf
      refine A_sld (pc := 479) dL_law_479 rfl (oob_f h106) ?_
      obtain ⟨q107, h108, hf⟩ := oi_b hf
      refine A_cV1i (mi2 := mX4_cross) (pc := 480) dL_law_480 lL_65 fX4_cross vX4_cross (lay_s hT (k := 0) (q := (6, 9)) rfl) rfl (Nat.le_of_ble_eq_true rfl) rfl (Nat.le_of_ble_eq_true rfl) (wX4_cross (by omega) hT  h108) ?_
      refine A_aloadn (pc := 483) dL_law_483 rfl ?_
      refine A_aloadn (pc := 484) dL_law_484 rfl ?_
      refine A_iloadn (pc := 485) dL_law_485 rfl ?_
      refine A_iconst (pc := 486) 1 dL_law_486 rfl ?_
      refine A_iadd (pc := 487) dL_law_487 ?_
      obtain ⟨h109, hf⟩ := oi_cf hf
      refine A_sld (pc := 488) dL_law_488 rfl (oob_f h109) ?_
      obtain ⟨q110, h111, hf⟩ := oi_b hf
      refine A_cV1i (mi2 := mX5_cross) (pc := 489) dL_law_489 lL_68 fX5_cross vX5_cross (lay_s hT (k := 53) (q := (7, 35)) rfl) rfl (Nat.le_of_ble_eq_true rfl) rfl (Nat.le_of_ble_eq_true rfl) (wX5_cross (by omega) hT  h111) ?_
      refine A_icmp_eq (pc := 492) 838 dL_law_492 (by decide) (fun cc112 => ?_) (fun cc112 => ?_)
      · have hf := oi_t cc112 hf
        refine A_inc (pc := 838) (L2 := [.ref aw_S, .ref 0, .ref 53, .int (t3 + 4)]) (t3 + 4) dL_law_838 rfl rfl rfl ?_
        refine A_goto (pc := 841) 18 dL_law_841 (by decide) ?_
        exact ih _ _ _ hf
      have hf := oi_f cc112 hf
      refine A_iconst (pc := 495) 0 dL_law_495 rfl ?_
      obtain rfl := Option.some.inj hf
      exact A_iret (pc := 496) dL_law_496 rfl rfl ⟨rfl, rfl, rfl⟩
    have hf := oi_f cc105 hf
    by_cases cc113 : ((G.2.2.2.2 t3.toNatClampNeg) &&& 31) = 13
    · have hf := oi_t cc113 hf
      refine A_tabIn (pc := 32) 497 dL_law_32 (by rw [cc113]; decide) (by rw [cc113]; decide) (off := 465) (by rw [cc113]; decide) (by decide) ?_
      refine A_aloadn (pc := 497) dL_law_497 rfl ?_
      obtain ⟨q114, h115, hf⟩ := oi_b hf
      refine A_cV0i (mi2 := mX4_chains) (pc := 498) dL_law_498 lL_69 fX4_chains vX4_chains (lay_s hT (k := 0) (q := (6, 9)) rfl) rfl (Nat.le_of_ble_eq_true rfl) rfl (Nat.le_of_ble_eq_true rfl) (wX4_chains (by omega) hT  h115) ?_
      refine A_aloadn (pc := 501) dL_law_501 rfl ?_
      obtain ⟨q116, h117, hf⟩ := oi_b hf
      refine A_cV0i (mi2 := mX5_chains) (pc := 502) dL_law_502 lL_72 fX5_chains vX5_chains (lay_s hT (k := 53) (q := (7, 35)) rfl) rfl (Nat.le_of_ble_eq_true rfl) rfl (Nat.le_of_ble_eq_true rfl) (wX5_chains (by omega) hT  h117) ?_
      refine A_icmp_eq (pc := 505) 838 dL_law_505 (by decide) (fun cc118 => ?_) (fun cc118 => ?_)
      · have hf := oi_t cc118 hf
        refine A_inc (pc := 838) (L2 := [.ref aw_S, .ref 0, .ref 53, .int (t3 + 4)]) (t3 + 4) dL_law_838 rfl rfl rfl ?_
        refine A_goto (pc := 841) 18 dL_law_841 (by decide) ?_
        exact ih _ _ _ hf
      have hf := oi_f cc118 hf
      refine A_iconst (pc := 508) 0 dL_law_508 rfl ?_
      obtain rfl := Option.some.inj hf
      exact A_iret (pc := 509) dL_law_509 rfl rfl ⟨rfl, rfl, rfl⟩
    have hf := oi_f cc113 hf
    by_cases cc119 : ((G.2.2.2.2 t3.toNatClampNeg) &&& 31) = 14
    · have hf := oi_t cc119 hf
      refine A_tabIn (pc := 32) 510 dL_law_32 (by rw [cc119]; decide) (by rw [cc119]; decide) (off := 478) (by rw [cc119]; decide) (by decide) ?_
      refine A_aloadn (pc := 510) dL_law_510 rfl ?_
      refine A_aloadn (pc := 511) dL_law_511 rfl ?_
      refine A_iloadn (pc := 512) dL_law_512 rfl ?_
      refine A_iconst (pc := 513) 1 dL_law_513 rfl ?_
      refine A_iadd (pc := 514) dL_law_514 ?_
      obtain ⟨h120, hf⟩ := oi_cf hf
      refine A_sld (pc := 515) dL_law_515 rfl (oob_f h120) ?_
      obtain ⟨q121, h122, hf⟩ := oi_b hf
      refine A_cV1i (mi2 := mX4_longest) (pc := 516) dL_law_516 lL_73 fX4_longest vX4_longest (lay_s hT (k := 0) (q := (6, 9)) rfl) rfl (Nat.le_of_ble_eq_true rfl) rfl (Nat.le_of_ble_eq_true rfl) (wX4_longest (by omega) hT  h122) ?_
      refine A_aloadn (pc := 519) dL_law_519 rfl ?_
      refine A_aloadn (pc := 520) dL_law_520 rfl ?_
      refine A_iloadn (pc := 521) dL_law_521 rfl ?_
      refine A_iconst (pc := 522) 1 dL_law_522 rfl ?_
      refine A_iadd (pc := 523) dL_law_523 ?_
      obtain ⟨h123, hf⟩ := oi_cf hf
      refine A_sld (pc := 524) dL_law_524 rfl (oob_f h123) ?_
      obtain ⟨q124, h125, hf⟩ := oi_b hf
      refine A_cV1i (mi2 := mX5_longest) (pc := 525) dL_law_525 lL_76 fX5_longest vX5_longest (lay_s hT (k := 53) (q := (7, 35)) rfl) rfl (Nat.le_of_ble_eq_true rfl) rfl (Nat.le_of_ble_eq_true rfl) (wX5_longest (by omega) hT  h125) ?_
      refine A_icmp_eq (pc := 528) 838 dL_law_528 (by decide) (fun cc126 => ?_) (fun cc126 => ?_)
      · have hf := oi_t cc126 hf
        refine A_inc (pc := 838) (L2 := [.ref aw_S, .ref 0, .ref 53, .int (t3 + 4)]) (t3 + 4) dL_law_838 rfl rfl rfl ?_
        refine A_goto (pc := 841) 18 dL_law_841 (by decide) ?_
        exact ih _ _ _ hf
      have hf := oi_f cc126 hf
      refine A_iconst (pc := 531) 0 dL_law_531 rfl ?_
      obtain rfl := Option.some.inj hf
      exact A_iret (pc := 532) dL_law_532 rfl rfl ⟨rfl, rfl, rfl⟩
    have hf := oi_f cc119 hf
    by_cases cc127 : ((G.2.2.2.2 t3.toNatClampNeg) &&& 31) = 15
    · have hf := oi_t cc127 hf
      refine A_tabIn (pc := 32) 533 dL_law_32 (by rw [cc127]; decide) (by rw [cc127]; decide) (off := 501) (by rw [cc127]; decide) (by decide) ?_
      refine A_aloadn (pc := 533) dL_law_533 rfl ?_
      obtain ⟨q128, h129, hf⟩ := oi_b hf
      refine A_cV0i (mi2 := mX4_makeUp) (pc := 534) dL_law_534 lL_77 fX4_makeUp vX4_makeUp (lay_s hT (k := 0) (q := (6, 9)) rfl) rfl (Nat.le_of_ble_eq_true rfl) rfl (Nat.le_of_ble_eq_true rfl) (wX4_makeUp (by omega) hT  h129) ?_
      refine A_aloadn (pc := 537) dL_law_537 rfl ?_
      obtain ⟨q130, h131, hf⟩ := oi_b hf
      refine A_cV0i (mi2 := mX5_makeUp) (pc := 538) dL_law_538 lL_80 fX5_makeUp vX5_makeUp (lay_s hT (k := 53) (q := (7, 35)) rfl) rfl (Nat.le_of_ble_eq_true rfl) rfl (Nat.le_of_ble_eq_true rfl) (wX5_makeUp (by omega) hT  h131) ?_
      refine A_icmp_eq (pc := 541) 838 dL_law_541 (by decide) (fun cc132 => ?_) (fun cc132 => ?_)
      · have hf := oi_t cc132 hf
        refine A_inc (pc := 838) (L2 := [.ref aw_S, .ref 0, .ref 53, .int (t3 + 4)]) (t3 + 4) dL_law_838 rfl rfl rfl ?_
        refine A_goto (pc := 841) 18 dL_law_841 (by decide) ?_
        exact ih _ _ _ hf
      have hf := oi_f cc132 hf
      refine A_iconst (pc := 544) 0 dL_law_544 rfl ?_
      obtain rfl := Option.some.inj hf
      exact A_iret (pc := 545) dL_law_545 rfl rfl ⟨rfl, rfl, rfl⟩
    have hf := oi_f cc127 hf
    by_cases cc133 : ((G.2.2.2.2 t3.toNatClampNeg) &&& 31) = 16
    · have hf := oi_t cc133 hf
      refine A_tabIn (pc := 32) 546 dL_law_32 (by rw [cc133]; decide) (by rw [cc133]; decide) (off := 514) (by rw [cc133]; decide) (by decide) ?_
      refine A_aloadn (pc := 546) dL_law_546 rfl ?_
      refine A_aloadn (pc := 547) dL_law_547 rfl ?_
      refine A_iloadn (pc := 548) dL_law_548 rfl ?_
      refine A_iconst (pc := 549) 1 dL_law_549 rfl ?_
      refine A_iadd (pc := 550) dL_law_550 ?_
      obtain ⟨h134, hf⟩ := oi_cf hf
      refine A_sld (pc := 551) dL_law_551 rfl (oob_f h134) ?_
      refine A_aloadn (pc := 552) dL_law_552 rfl ?_
      refine A_iloadn (pc := 553) dL_law_553 rfl ?_
      refine A_iconst (pc := 554) 2 dL_law_554 rfl ?_
      refine A_iadd (pc := 555) dL_law_555 ?_
      obtain ⟨h135, hf⟩ := oi_cf hf
      refine A_sld (pc := 556) dL_law_556 rfl (oob_f h135) ?_
      obtain ⟨q136, h137, hf⟩ := oi_b hf
      refine A_cV2i (mi2 := mX4_worth) (pc := 557) dL_law_557 lL_81 fX4_worth vX4_worth (lay_s hT (k := 0) (q := (6, 9)) rfl) rfl (Nat.le_of_ble_eq_true rfl) rfl (Nat.le_of_ble_eq_true rfl) (wX4_worth (by omega) hT  h137) ?_
      refine A_aloadn (pc := 560) dL_law_560 rfl ?_
      refine A_aloadn (pc := 561) dL_law_561 rfl ?_
      refine A_iloadn (pc := 562) dL_law_562 rfl ?_
      refine A_iconst (pc := 563) 1 dL_law_563 rfl ?_
      refine A_iadd (pc := 564) dL_law_564 ?_
      obtain ⟨h138, hf⟩ := oi_cf hf
      refine A_sld (pc := 565) dL_law_565 rfl (oob_f h138) ?_
      refine A_aloadn (pc := 566) dL_law_566 rfl ?_
      refine A_iloadn (pc := 567) dL_law_567 rfl ?_
      refine A_iconst (pc := 568) 2 dL_law_568 rfl ?_
      refine A_iadd (pc := 569) dL_law_569 ?_
      obtain ⟨h139, hf⟩ := oi_cf hf
      refine A_sld (pc := 570) dL_law_570 rfl (oob_f h139) ?_
      obtain ⟨q140, h141, hf⟩ := oi_b hf
      refine A_cV2i (mi2 := mX5_worth) (pc := 571) dL_law_571 lL_84 fX5_worth vX5_worth (lay_s hT (k := 53) (q := (7, 35)) rfl) rfl (Nat.le_of_ble_eq_true rfl) rfl (Nat.le_of_ble_eq_true rfl) (wX5_worth (by omega) hT  h141) ?_
      refine A_icmp_eq (pc := 574) 838 dL_law_574 (by decide) (fun cc142 => ?_) (fun cc142 => ?_)
      · have hf := oi_t cc142 hf
        refine A_inc (pc := 838) (L2 := [.ref aw_S, .ref 0, .ref 53, .int (t3 + 4)]) (t3 + 4) dL_law_838 rfl rfl rfl ?_
        refine A_goto (pc := 841) 18 dL_law_841 (by decide) ?_
        exact ih _ _ _ hf
      have hf := oi_f cc142 hf
      refine A_iconst (pc := 577) 0 dL_law_577 rfl ?_
      obtain rfl := Option.some.inj hf
      exact A_iret (pc := 578) dL_law_578 rfl rfl ⟨rfl, rfl, rfl⟩
    have hf := oi_f cc133 hf
    by_cases cc143 : ((G.2.2.2.2 t3.toNatClampNeg) &&& 31) = 17
    · have hf := oi_t cc143 hf
      refine A_tabIn (pc := 32) 579 dL_law_32 (by rw [cc143]; decide) (by rw [cc143]; decide) (off := 547) (by rw [cc143]; decide) (by decide) ?_
      refine A_aloadn (pc := 579) dL_law_579 rfl ?_
      obtain ⟨q144, h145, hf⟩ := oi_b hf
      refine A_cV0i (mi2 := mX4_change) (pc := 580) dL_law_580 lL_85 fX4_change vX4_change (lay_s hT (k := 0) (q := (6, 9)) rfl) rfl (Nat.le_of_ble_eq_true rfl) rfl (Nat.le_of_ble_eq_true rfl) (wX4_change (by omega) hT  h145) ?_
      refine A_aloadn (pc := 583) dL_law_583 rfl ?_
      obtain ⟨q146, h147, hf⟩ := oi_b hf
      refine A_cV0i (mi2 := mX5_change) (pc := 584) dL_law_584 lL_88 fX5_change vX5_change (lay_s hT (k := 53) (q := (7, 35)) rfl) rfl (Nat.le_of_ble_eq_true rfl) rfl (Nat.le_of_ble_eq_true rfl) (wX5_change (by omega) hT  h147) ?_
      refine A_icmp_eq (pc := 587) 838 dL_law_587 (by decide) (fun cc148 => ?_) (fun cc148 => ?_)
      · have hf := oi_t cc148 hf
        refine A_inc (pc := 838) (L2 := [.ref aw_S, .ref 0, .ref 53, .int (t3 + 4)]) (t3 + 4) dL_law_838 rfl rfl rfl ?_
        refine A_goto (pc := 841) 18 dL_law_841 (by decide) ?_
        exact ih _ _ _ hf
      have hf := oi_f cc148 hf
      refine A_iconst (pc := 590) 0 dL_law_590 rfl ?_
      obtain rfl := Option.some.inj hf
      exact A_iret (pc := 591) dL_law_591 rfl rfl ⟨rfl, rfl, rfl⟩
    have hf := oi_f cc143 hf
    by_cases cc149 : ((G.2.2.2.2 t3.toNatClampNeg) &&& 31) = 18
    · have hf := oi_t cc149 hf
      refine A_tabIn (pc := 32) 592 dL_law_32 (by rw [cc149]; decide) (by rw [cc149]; decide) (off := 560) (by rw [cc149]; decide) (by decide) ?_
      refine A_aloadn (pc := 592) dL_law_592 rfl ?_
      obtain ⟨q150, h151, hf⟩ := oi_b hf
      refine A_cV0i (mi2 := mX4_flood) (pc := 593) dL_law_593 lL_89 fX4_flood vX4_flood (lay_s hT (k := 0) (q := (6, 9)) rfl) rfl (Nat.le_of_ble_eq_true rfl) rfl (Nat.le_of_ble_eq_true rfl) (wX4_flood (by omega) hT  h151) ?_
      refine A_aloadn (pc := 596) dL_law_596 rfl ?_
      obtain ⟨q152, h153, hf⟩ := oi_b hf
      refine A_cV0i (mi2 := mX5_flood) (pc := 597) dL_law_597 lL_92 fX5_flood vX5_flood (lay_s hT (k := 53) (q := (7, 35)) rfl) rfl (Nat.le_of_ble_eq_true rfl) rfl (Nat.le_of_ble_eq_true rfl) (wX5_flood (by omega) hT  h153) ?_
      refine A_icmp_eq (pc := 600) 838 dL_law_600 (by decide) (fun cc154 => ?_) (fun cc154 => ?_)
      · have hf := oi_t cc154 hf
        refine A_inc (pc := 838) (L2 := [.ref aw_S, .ref 0, .ref 53, .int (t3 + 4)]) (t3 + 4) dL_law_838 rfl rfl rfl ?_
        refine A_goto (pc := 841) 18 dL_law_841 (by decide) ?_
        exact ih _ _ _ hf
      have hf := oi_f cc154 hf
      refine A_iconst (pc := 603) 0 dL_law_603 rfl ?_
      obtain rfl := Option.some.inj hf
      exact A_iret (pc := 604) dL_law_604 rfl rfl ⟨rfl, rfl, rfl⟩
    have hf := oi_f cc149 hf
    by_cases cc155 : ((G.2.2.2.2 t3.toNatClampNeg) &&& 31) = 19
    · have hf := oi_t cc155 hf
      refine A_tabIn (pc := 32) 605 dL_law_32 (by rw [cc155]; decide) (by rw [cc155]; decide) (off := 573) (by rw [cc155]; decide) (by decide) ?_
      refine A_aloadn (pc := 605) dL_law_605 rfl ?_
      obtain ⟨q156, h157, hf⟩ := oi_b hf
      refine A_cV0i (mi2 := mX4_overs) (pc := 606) dL_law_606 lL_93 fX4_overs vX4_overs (lay_s hT (k := 0) (q := (6, 9)) rfl) rfl (Nat.le_of_ble_eq_true rfl) rfl (Nat.le_of_ble_eq_true rfl) (wX4_overs (by omega) hT  h157) ?_
      refine A_aloadn (pc := 609) dL_law_609 rfl ?_
      obtain ⟨q158, h159, hf⟩ := oi_b hf
      refine A_cV0i (mi2 := mX5_overs) (pc := 610) dL_law_610 lL_96 fX5_overs vX5_overs (lay_s hT (k := 53) (q := (7, 35)) rfl) rfl (Nat.le_of_ble_eq_true rfl) rfl (Nat.le_of_ble_eq_true rfl) (wX5_overs (by omega) hT  h159) ?_
      refine A_icmp_eq (pc := 613) 838 dL_law_613 (by decide) (fun cc160 => ?_) (fun cc160 => ?_)
      · have hf := oi_t cc160 hf
        refine A_inc (pc := 838) (L2 := [.ref aw_S, .ref 0, .ref 53, .int (t3 + 4)]) (t3 + 4) dL_law_838 rfl rfl rfl ?_
        refine A_goto (pc := 841) 18 dL_law_841 (by decide) ?_
        exact ih _ _ _ hf
      have hf := oi_f cc160 hf
      refine A_iconst (pc := 616) 0 dL_law_616 rfl ?_
      obtain rfl := Option.some.inj hf
      exact A_iret (pc := 617) dL_law_617 rfl rfl ⟨rfl, rfl, rfl⟩
    have hf := oi_f cc155 hf
    by_cases cc161 : ((G.2.2.2.2 t3.toNatClampNeg) &&& 31) = 20
    · have hf := oi_t cc161 hf
      refine A_tabIn (pc := 32) 618 dL_law_32 (by rw [cc161]; decide) (by rw [cc161]; decide) (off := 586) (by rw [cc161]; decide) (by decide) ?_
      refine A_aloadn (pc := 618) dL_law_618 rfl ?_
      refine A_aloadn (pc := 619) dL_law_619 rfl ?_
      refine A_iloadn (pc := 620) dL_law_620 rfl ?_
      refine A_iconst (pc := 621) 1 dL_law_621 rfl ?_
      refine A_iadd (pc := 622) dL_law_622 ?_
      obtain ⟨h162, hf⟩ := oi_cf hf
      refine A_sld (pc := 623) dL_law_623 rfl (oob_f h162) ?_
      refine A_aloadn (pc := 624) dL_law_624 rfl ?_
      refine A_iloadn (pc := 625) dL_law_625 rfl ?_
      refine A_iconst (pc := 626) 2 dL_law_626 rfl ?_
      refine A_iadd (pc := 627) dL_law_627 ?_
      obtain ⟨h163, hf⟩ := oi_cf hf
      refine A_sld (pc := 628) dL_law_628 rfl (oob_f h163) ?_
      obtain ⟨q164, h165, hf⟩ := oi_b hf
      refine A_cV2i (mi2 := mX4_owes) (pc := 629) dL_law_629 lL_97 fX4_owes vX4_owes (lay_s hT (k := 0) (q := (6, 9)) rfl) rfl (Nat.le_of_ble_eq_true rfl) rfl (Nat.le_of_ble_eq_true rfl) (wX4_owes (by omega) hT  h165) ?_
      refine A_aloadn (pc := 632) dL_law_632 rfl ?_
      refine A_aloadn (pc := 633) dL_law_633 rfl ?_
      refine A_iloadn (pc := 634) dL_law_634 rfl ?_
      refine A_iconst (pc := 635) 1 dL_law_635 rfl ?_
      refine A_iadd (pc := 636) dL_law_636 ?_
      obtain ⟨h166, hf⟩ := oi_cf hf
      refine A_sld (pc := 637) dL_law_637 rfl (oob_f h166) ?_
      refine A_aloadn (pc := 638) dL_law_638 rfl ?_
      refine A_iloadn (pc := 639) dL_law_639 rfl ?_
      refine A_iconst (pc := 640) 2 dL_law_640 rfl ?_
      refine A_iadd (pc := 641) dL_law_641 ?_
      obtain ⟨h167, hf⟩ := oi_cf hf
      refine A_sld (pc := 642) dL_law_642 rfl (oob_f h167) ?_
      obtain ⟨q168, h169, hf⟩ := oi_b hf
      refine A_cV2i (mi2 := mX5_owes) (pc := 643) dL_law_643 lL_100 fX5_owes vX5_owes (lay_s hT (k := 53) (q := (7, 35)) rfl) rfl (Nat.le_of_ble_eq_true rfl) rfl (Nat.le_of_ble_eq_true rfl) (wX5_owes (by omega) hT  h169) ?_
      refine A_icmp_eq (pc := 646) 838 dL_law_646 (by decide) (fun cc170 => ?_) (fun cc170 => ?_)
      · have hf := oi_t cc170 hf
        refine A_inc (pc := 838) (L2 := [.ref aw_S, .ref 0, .ref 53, .int (t3 + 4)]) (t3 + 4) dL_law_838 rfl rfl rfl ?_
        refine A_goto (pc := 841) 18 dL_law_841 (by decide) ?_
        exact ih _ _ _ hf
      have hf := oi_f cc170 hf
      refine A_iconst (pc := 649) 0 dL_law_649 rfl ?_
      obtain rfl := Option.some.inj hf
      exact A_iret (pc := 650) dL_law_650 rfl rfl ⟨rfl, rfl, rfl⟩
    have hf := oi_f cc161 hf
    by_cases cc171 : ((G.2.2.2.2 t3.toNatClampNeg) &&& 31) = 21
    · have hf := oi_t cc171 hf
      refine A_tabIn (pc := 32) 651 dL_law_32 (by rw [cc171]; decide) (by rw [cc171]; decide) (off := 619) (by rw [cc171]; decide) (by decide) ?_
      refine A_aloadn (pc := 651) dL_law_651 rfl ?_
      refine A_aloadn (pc := 652) dL_law_652 rfl ?_
      refine A_iloadn (pc := 653) dL_law_653 rfl ?_
      refine A_iconst (pc := 654) 1 dL_law_654 rfl ?_
      refine A_iadd (pc := 655) dL_law_655 ?_
      obtain ⟨h172, hf⟩ := oi_cf hf
      refine A_sld (pc := 656) dL_law_656 rfl (oob_f h172) ?_
      obtain ⟨q173, h174, hf⟩ := oi_b hf
      refine A_cV1i (mi2 := mX4_owed) (pc := 657) dL_law_657 lL_101 fX4_owed vX4_owed (lay_s hT (k := 0) (q := (6, 9)) rfl) rfl (Nat.le_of_ble_eq_true rfl) rfl (Nat.le_of_ble_eq_true rfl) (wX4_owed (by omega) hT  h174) ?_
      refine A_aloadn (pc := 660) dL_law_660 rfl ?_
      refine A_aloadn (pc := 661) dL_law_661 rfl ?_
      refine A_iloadn (pc := 662) dL_law_662 rfl ?_
      refine A_iconst (pc := 663) 1 dL_law_663 rfl ?_
      refine A_iadd (pc := 664) dL_law_664 ?_
      obtain ⟨h175, hf⟩ := oi_cf hf
      refine A_sld (pc := 665) dL_law_665 rfl (oob_f h175) ?_
      obtain ⟨q176, h177, hf⟩ := oi_b hf
      refine A_cV1i (mi2 := mX5_owed) (pc := 666) dL_law_666 lL_104 fX5_owed vX5_owed (lay_s hT (k := 53) (q := (7, 35)) rfl) rfl (Nat.le_of_ble_eq_true rfl) rfl (Nat.le_of_ble_eq_true rfl) (wX5_owed (by omega) hT  h177) ?_
      refine A_icmp_eq (pc := 669) 838 dL_law_669 (by decide) (fun cc178 => ?_) (fun cc178 => ?_)
      · have hf := oi_t cc178 hf
        refine A_inc (pc := 838) (L2 := [.ref aw_S, .ref 0, .ref 53, .int (t3 + 4)]) (t3 + 4) dL_law_838 rfl rfl rfl ?_
        refine A_goto (pc := 841) 18 dL_law_841 (by decide) ?_
        exact ih _ _ _ hf
      have hf := oi_f cc178 hf
      refine A_iconst (pc := 672) 0 dL_law_672 rfl ?_
      obtain rfl := Option.some.inj hf
      exact A_iret (pc := 673) dL_law_673 rfl rfl ⟨rfl, rfl, rfl⟩
    have hf := oi_f cc171 hf
    by_cases cc179 : ((G.2.2.2.2 t3.toNatClampNeg) &&& 31) = 22
    · have hf := oi_t cc179 hf
      refine A_tabIn (pc := 32) 674 dL_law_32 (by rw [cc179]; decide) (by rw [cc179]; decide) (off := 642) (by rw [cc179]; decide) (by decide) ?_
      refine A_aloadn (pc := 674) dL_law_674 rfl ?_
      obtain ⟨q180, h181, hf⟩ := oi_b hf
      refine A_cV0i (mi2 := mX4_strike) (pc := 675) dL_law_675 lL_105 fX4_strike vX4_strike (lay_s hT (k := 0) (q := (6, 9)) rfl) rfl (Nat.le_of_ble_eq_true rfl) rfl (Nat.le_of_ble_eq_true rfl) (wX4_strike (by omega) hT  h181) ?_
      refine A_aloadn (pc := 678) dL_law_678 rfl ?_
      obtain ⟨q182, h183, hf⟩ := oi_b hf
      refine A_cV0i (mi2 := mX5_strike) (pc := 679) dL_law_679 lL_108 fX5_strike vX5_strike (lay_s hT (k := 53) (q := (7, 35)) rfl) rfl (Nat.le_of_ble_eq_true rfl) rfl (Nat.le_of_ble_eq_true rfl) (wX5_strike (by omega) hT  h183) ?_
      refine A_icmp_eq (pc := 682) 838 dL_law_682 (by decide) (fun cc184 => ?_) (fun cc184 => ?_)
      · have hf := oi_t cc184 hf
        refine A_inc (pc := 838) (L2 := [.ref aw_S, .ref 0, .ref 53, .int (t3 + 4)]) (t3 + 4) dL_law_838 rfl rfl rfl ?_
        refine A_goto (pc := 841) 18 dL_law_841 (by decide) ?_
        exact ih _ _ _ hf
      have hf := oi_f cc184 hf
      refine A_iconst (pc := 685) 0 dL_law_685 rfl ?_
      obtain rfl := Option.some.inj hf
      exact A_iret (pc := 686) dL_law_686 rfl rfl ⟨rfl, rfl, rfl⟩
    have hf := oi_f cc179 hf
    by_cases cc185 : ((G.2.2.2.2 t3.toNatClampNeg) &&& 31) = 23
    · have hf := oi_t cc185 hf
      refine A_tabIn (pc := 32) 687 dL_law_32 (by rw [cc185]; decide) (by rw [cc185]; decide) (off := 655) (by rw [cc185]; decide) (by decide) ?_
      refine A_aloadn (pc := 687) dL_law_687 rfl ?_
      refine A_aloadn (pc := 688) dL_law_688 rfl ?_
      refine A_iloadn (pc := 689) dL_law_689 rfl ?_
      refine A_iconst (pc := 690) 1 dL_law_690 rfl ?_
      refine A_iadd (pc := 691) dL_law_691 ?_
      obtain ⟨h186, hf⟩ := oi_cf hf
      refine A_sld (pc := 692) dL_law_692 rfl (oob_f h186) ?_
      refine A_aloadn (pc := 693) dL_law_693 rfl ?_
      refine A_iloadn (pc := 694) dL_law_694 rfl ?_
      refine A_iconst (pc := 695) 2 dL_law_695 rfl ?_
      refine A_iadd (pc := 696) dL_law_696 ?_
      obtain ⟨h187, hf⟩ := oi_cf hf
      refine A_sld (pc := 697) dL_law_697 rfl (oob_f h187) ?_
      obtain ⟨q188, h189, hf⟩ := oi_b hf
      refine A_cV2i (mi2 := mX4_wet) (pc := 698) dL_law_698 lL_109 fX4_wet vX4_wet (lay_s hT (k := 0) (q := (6, 9)) rfl) rfl (Nat.le_of_ble_eq_true rfl) rfl (Nat.le_of_ble_eq_true rfl) (wX4_wet (by omega) hT  h189) ?_
      refine A_aloadn (pc := 701) dL_law_701 rfl ?_
      refine A_aloadn (pc := 702) dL_law_702 rfl ?_
      refine A_iloadn (pc := 703) dL_law_703 rfl ?_
      refine A_iconst (pc := 704) 1 dL_law_704 rfl ?_
      refine A_iadd (pc := 705) dL_law_705 ?_
      obtain ⟨h190, hf⟩ := oi_cf hf
      refine A_sld (pc := 706) dL_law_706 rfl (oob_f h190) ?_
      refine A_aloadn (pc := 707) dL_law_707 rfl ?_
      refine A_iloadn (pc := 708) dL_law_708 rfl ?_
      refine A_iconst (pc := 709) 2 dL_law_709 rfl ?_
      refine A_iadd (pc := 710) dL_law_710 ?_
      obtain ⟨h191, hf⟩ := oi_cf hf
      refine A_sld (pc := 711) dL_law_711 rfl (oob_f h191) ?_
      obtain ⟨q192, h193, hf⟩ := oi_b hf
      refine A_cV2i (mi2 := mX5_wet) (pc := 712) dL_law_712 lL_112 fX5_wet vX5_wet (lay_s hT (k := 53) (q := (7, 35)) rfl) rfl (Nat.le_of_ble_eq_true rfl) rfl (Nat.le_of_ble_eq_true rfl) (wX5_wet (by omega) hT  h193) ?_
      refine A_icmp_eq (pc := 715) 838 dL_law_715 (by decide) (fun cc194 => ?_) (fun cc194 => ?_)
      · have hf := oi_t cc194 hf
        refine A_inc (pc := 838) (L2 := [.ref aw_S, .ref 0, .ref 53, .int (t3 + 4)]) (t3 + 4) dL_law_838 rfl rfl rfl ?_
        refine A_goto (pc := 841) 18 dL_law_841 (by decide) ?_
        exact ih _ _ _ hf
      have hf := oi_f cc194 hf
      refine A_iconst (pc := 718) 0 dL_law_718 rfl ?_
      obtain rfl := Option.some.inj hf
      exact A_iret (pc := 719) dL_law_719 rfl rfl ⟨rfl, rfl, rfl⟩
    have hf := oi_f cc185 hf
    by_cases cc195 : ((G.2.2.2.2 t3.toNatClampNeg) &&& 31) = 24
    · have hf := oi_t cc195 hf
      refine A_tabIn (pc := 32) 720 dL_law_32 (by rw [cc195]; decide) (by rw [cc195]; decide) (off := 688) (by rw [cc195]; decide) (by decide) ?_
      refine A_aloadn (pc := 720) dL_law_720 rfl ?_
      refine A_aloadn (pc := 721) dL_law_721 rfl ?_
      refine A_iloadn (pc := 722) dL_law_722 rfl ?_
      refine A_iconst (pc := 723) 1 dL_law_723 rfl ?_
      refine A_iadd (pc := 724) dL_law_724 ?_
      obtain ⟨h196, hf⟩ := oi_cf hf
      refine A_sld (pc := 725) dL_law_725 rfl (oob_f h196) ?_
      obtain ⟨q197, h198, hf⟩ := oi_b hf
      refine A_cV1i (mi2 := mX4_row) (pc := 726) dL_law_726 lL_113 fX4_row vX4_row (lay_s hT (k := 0) (q := (6, 9)) rfl) rfl (Nat.le_of_ble_eq_true rfl) rfl (Nat.le_of_ble_eq_true rfl) (wX4_row (by omega) hT  h198) ?_
      refine A_aloadn (pc := 729) dL_law_729 rfl ?_
      refine A_aloadn (pc := 730) dL_law_730 rfl ?_
      refine A_iloadn (pc := 731) dL_law_731 rfl ?_
      refine A_iconst (pc := 732) 1 dL_law_732 rfl ?_
      refine A_iadd (pc := 733) dL_law_733 ?_
      obtain ⟨h199, hf⟩ := oi_cf hf
      refine A_sld (pc := 734) dL_law_734 rfl (oob_f h199) ?_
      obtain ⟨q200, h201, hf⟩ := oi_b hf
      refine A_cV1i (mi2 := mX5_row) (pc := 735) dL_law_735 lL_116 fX5_row vX5_row (lay_s hT (k := 53) (q := (7, 35)) rfl) rfl (Nat.le_of_ble_eq_true rfl) rfl (Nat.le_of_ble_eq_true rfl) (wX5_row (by omega) hT  h201) ?_
      refine A_icmp_eq (pc := 738) 838 dL_law_738 (by decide) (fun cc202 => ?_) (fun cc202 => ?_)
      · have hf := oi_t cc202 hf
        refine A_inc (pc := 838) (L2 := [.ref aw_S, .ref 0, .ref 53, .int (t3 + 4)]) (t3 + 4) dL_law_838 rfl rfl rfl ?_
        refine A_goto (pc := 841) 18 dL_law_841 (by decide) ?_
        exact ih _ _ _ hf
      have hf := oi_f cc202 hf
      refine A_iconst (pc := 741) 0 dL_law_741 rfl ?_
      obtain rfl := Option.some.inj hf
      exact A_iret (pc := 742) dL_law_742 rfl rfl ⟨rfl, rfl, rfl⟩
    have hf := oi_f cc195 hf
    by_cases cc203 : ((G.2.2.2.2 t3.toNatClampNeg) &&& 31) = 25
    · have hf := oi_t cc203 hf
      refine A_tabIn (pc := 32) 743 dL_law_32 (by rw [cc203]; decide) (by rw [cc203]; decide) (off := 711) (by rw [cc203]; decide) (by decide) ?_
      refine A_aloadn (pc := 743) dL_law_743 rfl ?_
      obtain ⟨q204, h205, hf⟩ := oi_b hf
      refine A_cV0i (mi2 := mX4_judge) (pc := 744) dL_law_744 lL_117 fX4_judge vX4_judge (lay_s hT (k := 0) (q := (6, 9)) rfl) rfl (Nat.le_of_ble_eq_true rfl) rfl (Nat.le_of_ble_eq_true rfl) (wX4_judge (by omega) hT  h205) ?_
      refine A_aloadn (pc := 747) dL_law_747 rfl ?_
      obtain ⟨q206, h207, hf⟩ := oi_b hf
      refine A_cV0i (mi2 := mX5_judge) (pc := 748) dL_law_748 lL_120 fX5_judge vX5_judge (lay_s hT (k := 53) (q := (7, 35)) rfl) rfl (Nat.le_of_ble_eq_true rfl) rfl (Nat.le_of_ble_eq_true rfl) (wX5_judge (by omega) hT  h207) ?_
      refine A_icmp_eq (pc := 751) 838 dL_law_751 (by decide) (fun cc208 => ?_) (fun cc208 => ?_)
      · have hf := oi_t cc208 hf
        refine A_inc (pc := 838) (L2 := [.ref aw_S, .ref 0, .ref 53, .int (t3 + 4)]) (t3 + 4) dL_law_838 rfl rfl rfl ?_
        refine A_goto (pc := 841) 18 dL_law_841 (by decide) ?_
        exact ih _ _ _ hf
      have hf := oi_f cc208 hf
      refine A_iconst (pc := 754) 0 dL_law_754 rfl ?_
      obtain rfl := Option.some.inj hf
      exact A_iret (pc := 755) dL_law_755 rfl rfl ⟨rfl, rfl, rfl⟩
    have hf := oi_f cc203 hf
    by_cases cc209 : ((G.2.2.2.2 t3.toNatClampNeg) &&& 31) = 26
    · have hf := oi_t cc209 hf
      refine A_tabIn (pc := 32) 756 dL_law_32 (by rw [cc209]; decide) (by rw [cc209]; decide) (off := 724) (by rw [cc209]; decide) (by decide) ?_
      refine A_aloadn (pc := 756) dL_law_756 rfl ?_
      refine A_aloadn (pc := 757) dL_law_757 rfl ?_
      refine A_iloadn (pc := 758) dL_law_758 rfl ?_
      refine A_iconst (pc := 759) 1 dL_law_759 rfl ?_
      refine A_iadd (pc := 760) dL_law_760 ?_
      obtain ⟨h210, hf⟩ := oi_cf hf
      refine A_sld (pc := 761) dL_law_761 rfl (oob_f h210) ?_
      refine A_aloadn (pc := 762) dL_law_762 rfl ?_
      refine A_iloadn (pc := 763) dL_law_763 rfl ?_
      refine A_iconst (pc := 764) 2 dL_law_764 rfl ?_
      refine A_iadd (pc := 765) dL_law_765 ?_
      obtain ⟨h211, hf⟩ := oi_cf hf
      refine A_sld (pc := 766) dL_law_766 rfl (oob_f h211) ?_
      obtain ⟨q212, h213, hf⟩ := oi_b hf
      refine A_cV2i (mi2 := mX4_seeds) (pc := 767) dL_law_767 lL_121 fX4_seeds vX4_seeds (lay_s hT (k := 0) (q := (6, 9)) rfl) rfl (Nat.le_of_ble_eq_true rfl) rfl (Nat.le_of_ble_eq_true rfl) (wX4_seeds (by omega) hT  h213) ?_
      refine A_aloadn (pc := 770) dL_law_770 rfl ?_
      refine A_aloadn (pc := 771) dL_law_771 rfl ?_
      refine A_iloadn (pc := 772) dL_law_772 rfl ?_
      refine A_iconst (pc := 773) 1 dL_law_773 rfl ?_
      refine A_iadd (pc := 774) dL_law_774 ?_
      obtain ⟨h214, hf⟩ := oi_cf hf
      refine A_sld (pc := 775) dL_law_775 rfl (oob_f h214) ?_
      refine A_aloadn (pc := 776) dL_law_776 rfl ?_
      refine A_iloadn (pc := 777) dL_law_777 rfl ?_
      refine A_iconst (pc := 778) 2 dL_law_778 rfl ?_
      refine A_iadd (pc := 779) dL_law_779 ?_
      obtain ⟨h215, hf⟩ := oi_cf hf
      refine A_sld (pc := 780) dL_law_780 rfl (oob_f h215) ?_
      obtain ⟨q216, h217, hf⟩ := oi_b hf
      refine A_cV2i (mi2 := mX5_seeds) (pc := 781) dL_law_781 lL_124 fX5_seeds vX5_seeds (lay_s hT (k := 53) (q := (7, 35)) rfl) rfl (Nat.le_of_ble_eq_true rfl) rfl (Nat.le_of_ble_eq_true rfl) (wX5_seeds (by omega) hT  h217) ?_
      refine A_icmp_eq (pc := 784) 838 dL_law_784 (by decide) (fun cc218 => ?_) (fun cc218 => ?_)
      · have hf := oi_t cc218 hf
        refine A_inc (pc := 838) (L2 := [.ref aw_S, .ref 0, .ref 53, .int (t3 + 4)]) (t3 + 4) dL_law_838 rfl rfl rfl ?_
        refine A_goto (pc := 841) 18 dL_law_841 (by decide) ?_
        exact ih _ _ _ hf
      have hf := oi_f cc218 hf
      refine A_iconst (pc := 787) 0 dL_law_787 rfl ?_
      obtain rfl := Option.some.inj hf
      exact A_iret (pc := 788) dL_law_788 rfl rfl ⟨rfl, rfl, rfl⟩
    have hf := oi_f cc209 hf
    by_cases cc219 : ((G.2.2.2.2 t3.toNatClampNeg) &&& 31) = 27
    · have hf := oi_t cc219 hf
      refine A_tabIn (pc := 32) 789 dL_law_32 (by rw [cc219]; decide) (by rw [cc219]; decide) (off := 757) (by rw [cc219]; decide) (by decide) ?_
      refine A_aloadn (pc := 789) dL_law_789 rfl ?_
      obtain ⟨q220, h221, hf⟩ := oi_b hf
      refine A_cV0i (mi2 := mX4_image) (pc := 790) dL_law_790 lL_125 fX4_image vX4_image (lay_s hT (k := 0) (q := (6, 9)) rfl) rfl (Nat.le_of_ble_eq_true rfl) rfl (Nat.le_of_ble_eq_true rfl) (wX4_image (by omega) hT  h221) ?_
      refine A_aloadn (pc := 793) dL_law_793 rfl ?_
      obtain ⟨q222, h223, hf⟩ := oi_b hf
      refine A_cV0i (mi2 := mX5_image) (pc := 794) dL_law_794 lL_128 fX5_image vX5_image (lay_s hT (k := 53) (q := (7, 35)) rfl) rfl (Nat.le_of_ble_eq_true rfl) rfl (Nat.le_of_ble_eq_true rfl) (wX5_image (by omega) hT  h223) ?_
      refine A_icmp_eq (pc := 797) 838 dL_law_797 (by decide) (fun cc224 => ?_) (fun cc224 => ?_)
      · have hf := oi_t cc224 hf
        refine A_inc (pc := 838) (L2 := [.ref aw_S, .ref 0, .ref 53, .int (t3 + 4)]) (t3 + 4) dL_law_838 rfl rfl rfl ?_
        refine A_goto (pc := 841) 18 dL_law_841 (by decide) ?_
        exact ih _ _ _ hf
      have hf := oi_f cc224 hf
      refine A_iconst (pc := 800) 0 dL_law_800 rfl ?_
      obtain rfl := Option.some.inj hf
      exact A_iret (pc := 801) dL_law_801 rfl rfl ⟨rfl, rfl, rfl⟩
    have hf := oi_f cc219 hf
    by_cases cc225 : ((G.2.2.2.2 t3.toNatClampNeg) &&& 31) = 28
    · have hf := oi_t cc225 hf
      refine A_tabIn (pc := 32) 802 dL_law_32 (by rw [cc225]; decide) (by rw [cc225]; decide) (off := 770) (by rw [cc225]; decide) (by decide) ?_
      refine A_aloadn (pc := 802) dL_law_802 rfl ?_
      obtain ⟨q226, h227, hf⟩ := oi_b hf
      refine A_cV0i (mi2 := mX4_restore) (pc := 803) dL_law_803 lL_129 fX4_restore vX4_restore (lay_s hT (k := 0) (q := (6, 9)) rfl) rfl (Nat.le_of_ble_eq_true rfl) rfl (Nat.le_of_ble_eq_true rfl) (wX4_restore (by omega) hT  h227) ?_
      refine A_aloadn (pc := 806) dL_law_806 rfl ?_
      obtain ⟨q228, h229, hf⟩ := oi_b hf
      refine A_cV0i (mi2 := mX5_restore) (pc := 807) dL_law_807 lL_132 fX5_restore vX5_restore (lay_s hT (k := 53) (q := (7, 35)) rfl) rfl (Nat.le_of_ble_eq_true rfl) rfl (Nat.le_of_ble_eq_true rfl) (wX5_restore (by omega) hT  h229) ?_
      refine A_icmp_eq (pc := 810) 838 dL_law_810 (by decide) (fun cc230 => ?_) (fun cc230 => ?_)
      · have hf := oi_t cc230 hf
        refine A_inc (pc := 838) (L2 := [.ref aw_S, .ref 0, .ref 53, .int (t3 + 4)]) (t3 + 4) dL_law_838 rfl rfl rfl ?_
        refine A_goto (pc := 841) 18 dL_law_841 (by decide) ?_
        exact ih _ _ _ hf
      have hf := oi_f cc230 hf
      refine A_iconst (pc := 813) 0 dL_law_813 rfl ?_
      obtain rfl := Option.some.inj hf
      exact A_iret (pc := 814) dL_law_814 rfl rfl ⟨rfl, rfl, rfl⟩
    have hf := oi_f cc225 hf
    by_cases cc231 : ((G.2.2.2.2 t3.toNatClampNeg) &&& 31) = 29
    · have hf := oi_t cc231 hf
      refine A_tabIn (pc := 32) 815 dL_law_32 (by rw [cc231]; decide) (by rw [cc231]; decide) (off := 783) (by rw [cc231]; decide) (by decide) ?_
      refine A_aloadn (pc := 815) dL_law_815 rfl ?_
      refine A_aloadn (pc := 816) dL_law_816 rfl ?_
      refine A_iloadn (pc := 817) dL_law_817 rfl ?_
      refine A_iconst (pc := 818) 1 dL_law_818 rfl ?_
      refine A_iadd (pc := 819) dL_law_819 ?_
      obtain ⟨h232, hf⟩ := oi_cf hf
      refine A_sld (pc := 820) dL_law_820 rfl (oob_f h232) ?_
      obtain ⟨q233, h234, hf⟩ := oi_b hf
      refine A_cV1i (mi2 := mX4_count) (pc := 821) dL_law_821 lL_133 fX4_count vX4_count (lay_s hT (k := 0) (q := (6, 9)) rfl) rfl (Nat.le_of_ble_eq_true rfl) rfl (Nat.le_of_ble_eq_true rfl) (wX4_count (by omega) hT  h234) ?_
      refine A_aloadn (pc := 824) dL_law_824 rfl ?_
      refine A_aloadn (pc := 825) dL_law_825 rfl ?_
      refine A_iloadn (pc := 826) dL_law_826 rfl ?_
      refine A_iconst (pc := 827) 1 dL_law_827 rfl ?_
      refine A_iadd (pc := 828) dL_law_828 ?_
      obtain ⟨h235, hf⟩ := oi_cf hf
      refine A_sld (pc := 829) dL_law_829 rfl (oob_f h235) ?_
      obtain ⟨q236, h237, hf⟩ := oi_b hf
      refine A_cV1i (mi2 := mX5_count) (pc := 830) dL_law_830 lL_136 fX5_count vX5_count (lay_s hT (k := 53) (q := (7, 35)) rfl) rfl (Nat.le_of_ble_eq_true rfl) rfl (Nat.le_of_ble_eq_true rfl) (wX5_count (by omega) hT  h237) ?_
      refine A_icmp_eq (pc := 833) 838 dL_law_833 (by decide) (fun cc238 => ?_) (fun cc238 => ?_)
      · have hf := oi_t cc238 hf
        refine A_inc (pc := 838) (L2 := [.ref aw_S, .ref 0, .ref 53, .int (t3 + 4)]) (t3 + 4) dL_law_838 rfl rfl rfl ?_
        refine A_goto (pc := 841) 18 dL_law_841 (by decide) ?_
        exact ih _ _ _ hf
      have hf := oi_f cc238 hf
      refine A_iconst (pc := 836) 0 dL_law_836 rfl ?_
      obtain rfl := Option.some.inj hf
      exact A_iret (pc := 837) dL_law_837 rfl rfl ⟨rfl, rfl, rfl⟩
    have hf := oi_f cc231 hf
    have ecc3 : ((G.2.2.2.2 t3.toNatClampNeg) &&& 31).toInt ≠ 0 := fun h9 => cc3 (Int32.toInt_inj.mp (h9.trans (by decide : (0 : Int) = (0 : Int32).toInt)))
    have ecc11 : ((G.2.2.2.2 t3.toNatClampNeg) &&& 31).toInt ≠ 1 := fun h9 => cc11 (Int32.toInt_inj.mp (h9.trans (by decide : (1 : Int) = (1 : Int32).toInt)))
    have ecc17 : ((G.2.2.2.2 t3.toNatClampNeg) &&& 31).toInt ≠ 2 := fun h9 => cc17 (Int32.toInt_inj.mp (h9.trans (by decide : (2 : Int) = (2 : Int32).toInt)))
    have ecc27 : ((G.2.2.2.2 t3.toNatClampNeg) &&& 31).toInt ≠ 3 := fun h9 => cc27 (Int32.toInt_inj.mp (h9.trans (by decide : (3 : Int) = (3 : Int32).toInt)))
    have ecc37 : ((G.2.2.2.2 t3.toNatClampNeg) &&& 31).toInt ≠ 4 := fun h9 => cc37 (Int32.toInt_inj.mp (h9.trans (by decide : (4 : Int) = (4 : Int32).toInt)))
    have ecc47 : ((G.2.2.2.2 t3.toNatClampNeg) &&& 31).toInt ≠ 5 := fun h9 => cc47 (Int32.toInt_inj.mp (h9.trans (by decide : (5 : Int) = (5 : Int32).toInt)))
    have ecc59 : ((G.2.2.2.2 t3.toNatClampNeg) &&& 31).toInt ≠ 6 := fun h9 => cc59 (Int32.toInt_inj.mp (h9.trans (by decide : (6 : Int) = (6 : Int32).toInt)))
    have ecc67 : ((G.2.2.2.2 t3.toNatClampNeg) &&& 31).toInt ≠ 7 := fun h9 => cc67 (Int32.toInt_inj.mp (h9.trans (by decide : (7 : Int) = (7 : Int32).toInt)))
    have ecc77 : ((G.2.2.2.2 t3.toNatClampNeg) &&& 31).toInt ≠ 8 := fun h9 => cc77 (Int32.toInt_inj.mp (h9.trans (by decide : (8 : Int) = (8 : Int32).toInt)))
    have ecc83 : ((G.2.2.2.2 t3.toNatClampNeg) &&& 31).toInt ≠ 9 := fun h9 => cc83 (Int32.toInt_inj.mp (h9.trans (by decide : (9 : Int) = (9 : Int32).toInt)))
    have ecc91 : ((G.2.2.2.2 t3.toNatClampNeg) &&& 31).toInt ≠ 10 := fun h9 => cc91 (Int32.toInt_inj.mp (h9.trans (by decide : (10 : Int) = (10 : Int32).toInt)))
    have ecc99 : ((G.2.2.2.2 t3.toNatClampNeg) &&& 31).toInt ≠ 11 := fun h9 => cc99 (Int32.toInt_inj.mp (h9.trans (by decide : (11 : Int) = (11 : Int32).toInt)))
    have ecc105 : ((G.2.2.2.2 t3.toNatClampNeg) &&& 31).toInt ≠ 12 := fun h9 => cc105 (Int32.toInt_inj.mp (h9.trans (by decide : (12 : Int) = (12 : Int32).toInt)))
    have ecc113 : ((G.2.2.2.2 t3.toNatClampNeg) &&& 31).toInt ≠ 13 := fun h9 => cc113 (Int32.toInt_inj.mp (h9.trans (by decide : (13 : Int) = (13 : Int32).toInt)))
    have ecc119 : ((G.2.2.2.2 t3.toNatClampNeg) &&& 31).toInt ≠ 14 := fun h9 => cc119 (Int32.toInt_inj.mp (h9.trans (by decide : (14 : Int) = (14 : Int32).toInt)))
    have ecc127 : ((G.2.2.2.2 t3.toNatClampNeg) &&& 31).toInt ≠ 15 := fun h9 => cc127 (Int32.toInt_inj.mp (h9.trans (by decide : (15 : Int) = (15 : Int32).toInt)))
    have ecc133 : ((G.2.2.2.2 t3.toNatClampNeg) &&& 31).toInt ≠ 16 := fun h9 => cc133 (Int32.toInt_inj.mp (h9.trans (by decide : (16 : Int) = (16 : Int32).toInt)))
    have ecc143 : ((G.2.2.2.2 t3.toNatClampNeg) &&& 31).toInt ≠ 17 := fun h9 => cc143 (Int32.toInt_inj.mp (h9.trans (by decide : (17 : Int) = (17 : Int32).toInt)))
    have ecc149 : ((G.2.2.2.2 t3.toNatClampNeg) &&& 31).toInt ≠ 18 := fun h9 => cc149 (Int32.toInt_inj.mp (h9.trans (by decide : (18 : Int) = (18 : Int32).toInt)))
    have ecc155 : ((G.2.2.2.2 t3.toNatClampNeg) &&& 31).toInt ≠ 19 := fun h9 => cc155 (Int32.toInt_inj.mp (h9.trans (by decide : (19 : Int) = (19 : Int32).toInt)))
    have ecc161 : ((G.2.2.2.2 t3.toNatClampNeg) &&& 31).toInt ≠ 20 := fun h9 => cc161 (Int32.toInt_inj.mp (h9.trans (by decide : (20 : Int) = (20 : Int32).toInt)))
    have ecc171 : ((G.2.2.2.2 t3.toNatClampNeg) &&& 31).toInt ≠ 21 := fun h9 => cc171 (Int32.toInt_inj.mp (h9.trans (by decide : (21 : Int) = (21 : Int32).toInt)))
    have ecc179 : ((G.2.2.2.2 t3.toNatClampNeg) &&& 31).toInt ≠ 22 := fun h9 => cc179 (Int32.toInt_inj.mp (h9.trans (by decide : (22 : Int) = (22 : Int32).toInt)))
    have ecc185 : ((G.2.2.2.2 t3.toNatClampNeg) &&& 31).toInt ≠ 23 := fun h9 => cc185 (Int32.toInt_inj.mp (h9.trans (by decide : (23 : Int) = (23 : Int32).toInt)))
    have ecc195 : ((G.2.2.2.2 t3.toNatClampNeg) &&& 31).toInt ≠ 24 := fun h9 => cc195 (Int32.toInt_inj.mp (h9.trans (by decide : (24 : Int) = (24 : Int32).toInt)))
    have ecc203 : ((G.2.2.2.2 t3.toNatClampNeg) &&& 31).toInt ≠ 25 := fun h9 => cc203 (Int32.toInt_inj.mp (h9.trans (by decide : (25 : Int) = (25 : Int32).toInt)))
    have ecc209 : ((G.2.2.2.2 t3.toNatClampNeg) &&& 31).toInt ≠ 26 := fun h9 => cc209 (Int32.toInt_inj.mp (h9.trans (by decide : (26 : Int) = (26 : Int32).toInt)))
    have ecc219 : ((G.2.2.2.2 t3.toNatClampNeg) &&& 31).toInt ≠ 27 := fun h9 => cc219 (Int32.toInt_inj.mp (h9.trans (by decide : (27 : Int) = (27 : Int32).toInt)))
    have ecc225 : ((G.2.2.2.2 t3.toNatClampNeg) &&& 31).toInt ≠ 28 := fun h9 => cc225 (Int32.toInt_inj.mp (h9.trans (by decide : (28 : Int) = (28 : Int32).toInt)))
    have ecc231 : ((G.2.2.2.2 t3.toNatClampNeg) &&& 31).toInt ≠ 29 := fun h9 => cc231 (Int32.toInt_inj.mp (h9.trans (by decide : (29 : Int) = (29 : Int32).toInt)))
    refine A_tabOut (pc := 32) 838 dL_law_32 (by omega) (by decide) ?_
    refine A_inc (pc := 838) (L2 := [.ref aw_S, .ref 0, .ref 53, .int (t3 + 4)]) (t3 + 4) dL_law_838 rfl rfl rfl ?_
    refine A_goto (pc := 841) 18 dL_law_841 (by decide) ?_
    exact ih _ _ _ hf
def zL_law (n : Nat) (xs : Nat → Int32) (Ln : Nat) (u : MU) : Option (Int32 × MU) := zL_law_L18 n xs Ln  (fun y239 w240 => some (1, w240)) n 0 u
set_option maxHeartbeats 4000000 in
set_option maxRecDepth 100000 in
theorem wL_law {G : GG} {T : TT} {n d : Nat} (hd : 14 ≤ d) {q : Int32 × MU} {u : MU} (hT : LAY T) (hf : zL_law n G.2.2.2.2 G.2.2.2.1 u = some q) : AW G d mL_law 18 [.ref aw_S, .ref 0, .ref 53, .int 0] [] T u 0 0 (QS T q.1 q.2) := by
  obtain ⟨d, rfl⟩ : ∃ e, d = e + 1 := ⟨d - 1, by omega⟩
  rw [zL_law] at hf
  have hxs : G.2.2.2.2 = G.2.2.2.2 := rfl
  have hLn : G.2.2.2.1 = G.2.2.2.1 := rfl
  exact wL_law_L18 (by omega) hT hxs hLn (fun y239 w240 q0 hf => by
    refine A_iconst (pc := 844) 1 dL_law_844 rfl ?_
    obtain rfl := Option.some.inj hf
    exact A_iret (pc := 845) dL_law_845 rfl rfl ⟨rfl, rfl, rfl⟩) _ _ _ _ hf
