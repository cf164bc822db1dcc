theorem A_mmax {G : GG} {d : Nat} {mi : MI} {pc : Nat} {L st : List Value} {T : TT} {u : MU} {kc ks : Nat} {Q : QQ} {v w : Int32} {idx : Nat} (hd : decode mi.2.1 pc = .ok (.invokestatic idx, 3)) (hl : Cond.methodLink mi.1.cls idx Lib.Math.max.name ∈ aw_gt) (h1 : Cond.static Lib.Math.max.name ∈ aw_gt) (h2 : Cond.initialized "java/lang/Math" ∈ aw_gt) (h3 : Cond.code Lib.Math.max.name Lib.Math.max.code 2 (some .int) ∈ aw_gt) (hr : st.length ≤ 8) (kk : AW G (d + 1) mi (pc + 3) L (.int (if v < w then w else v) :: st) T u kc ks Q) : AW G (d + 1) mi pc L (.int w :: .int v :: st) T u kc ks Q := by
  intro p l e R s m args below meth c H locs cells slots A ad ls Qm hC hX hR hL hoL hoS hk hA hret
  have c1 := hC.2.2.2.2.2.2.2.2.1
  refine va_mmax hC.1 hC.2.1 (by rw [hC.2.2.1]; exact hL.2.1.symm) hC.2.2.2.1 (hC.2.2.2.2.1 _ hl) (hC.2.2.2.2.1 _ h1) (hC.2.2.2.2.1 _ h2) (hC.2.2.2.2.1 _ h3) (by omega) (by rw [aw_catsum (aw_oks_t (aw_oks_t hoS))]; omega) (by omega) (by omega) hd ?_
  exact kk p l e R s m args below meth c H locs cells slots A ad ls Qm hC hX hR hL hoL (aw_oks_i _ (aw_oks_t (aw_oks_t hoS))) hk hA hret
theorem A_mmin {G : GG} {d : Nat} {mi : MI} {pc : Nat} {L st : List Value} {T : TT} {u : MU} {kc ks : Nat} {Q : QQ} {v w : Int32} {idx : Nat} (hd : decode mi.2.1 pc = .ok (.invokestatic idx, 3)) (hl : Cond.methodLink mi.1.cls idx Lib.Math.min.name ∈ aw_gt) (h1 : Cond.static Lib.Math.min.name ∈ aw_gt) (h2 : Cond.initialized "java/lang/Math" ∈ aw_gt) (h3 : Cond.code Lib.Math.min.name Lib.Math.min.code 2 (some .int) ∈ aw_gt) (hr : st.length ≤ 8) (kk : AW G (d + 1) mi (pc + 3) L (.int (if w < v then w else v) :: st) T u kc ks Q) : AW G (d + 1) mi pc L (.int w :: .int v :: st) T u kc ks Q := by
  intro p l e R s m args below meth c H locs cells slots A ad ls Qm hC hX hR hL hoL hoS hk hA hret
  have c1 := hC.2.2.2.2.2.2.2.2.1
  refine va_mmin hC.1 hC.2.1 (by rw [hC.2.2.1]; exact hL.2.1.symm) hC.2.2.2.1 (hC.2.2.2.2.1 _ hl) (hC.2.2.2.2.1 _ h1) (hC.2.2.2.2.1 _ h2) (hC.2.2.2.2.1 _ h3) (by omega) (by rw [aw_catsum (aw_oks_t (aw_oks_t hoS))]; omega) (by omega) (by omega) hd ?_
  exact kk p l e R s m args below meth c H locs cells slots A ad ls Qm hC hX hR hL hoL (aw_oks_i _ (aw_oks_t (aw_oks_t hoS))) hk hA hret
theorem A_copyi {G : GG} {d : Nat} {mi : MI} {pc : Nat} {L st : List Value} {T : TT} {u : MU} {kc ks : Nat} {Q : QQ} {k0 k1 n0 n1 idx : Nat} {sp dp n : Int32} (hd : decode mi.2.1 pc = .ok (.invokestatic idx, 3)) (hl : Cond.methodLink mi.1.cls idx arraycopyName ∈ aw_gt) (h1 : Cond.native arraycopyName ∈ aw_gt) (h2 : Cond.static arraycopyName ∈ aw_gt) (h3 : Cond.initialized "java/lang/System" ∈ aw_gt) (hq0 : T.1[k0]? = some (0, n0)) (hq1 : T.1[k1]? = some (0, n1)) (e1 : ¬ sp < 0) (e2 : ¬ dp < 0) (e3 : ¬ n < 0) (e4 : sp.toNatClampNeg + n.toNatClampNeg ≤ n0) (e5 : dp.toNatClampNeg + n.toNatClampNeg ≤ n1) (hr : st.length ≤ 8) (kk : AW G (d + 1) mi (pc + 3) L st T (upc u k0 k1 sp.toNatClampNeg dp.toNatClampNeg n.toNatClampNeg) kc ks Q) : AW G (d + 1) mi pc L (.int n :: .int dp :: .ref k1 :: .int sp :: .ref k0 :: st) T u kc ks Q := by
  intro p l e R s m args below meth c H locs cells slots A ad ls Qm hC hX hR hL hoL hoS hk hA hret
  have c1 := hC.2.2.2.2.2.2.2.2.1
  have hoR : aw_oks T.1.length st := aw_oks_t (aw_oks_t (aw_oks_t (aw_oks_t (aw_oks_t hoS))))
  refine va_copyi (D := G.1) hC.1 hC.2.1 (by rw [hC.2.2.1]; exact hL.2.1.symm) hC.2.2.2.1 (hC.2.2.2.2.1 _ hl) (hC.2.2.2.2.1 _ h1) (hC.2.2.2.2.1 _ h2) (hC.2.2.2.2.1 _ h3) hC.2.2.2.2.2.2.2.1 hR.1 hR.2.1 hR.2.2.1 k0 k1 0 0 (aw_ws_at (G := G) (ad := ad) (u := u) hq0) (aw_ws_at (G := G) (ad := ad) (u := u) hq1) rfl rfl rfl e1 e2 e3 e4 e5 (fun _ _ => rfl) (by omega) (by rw [aw_catsum hoR]; show _ + (7 + 11) ≤ _; omega) hd (fun H1 locs1 hP hD hS => ?_)
  have hset := aw_ws_up (G := G) (ad := ad) (T := T) (T' := T) (u := u) (u' := upc u k0 k1 sp.toNatClampNeg dp.toNatClampNeg n.toNatClampNeg) (e := .inl (G.2.1.1, n1, .inl (va_cpy (u k0) (u k1) sp.toNatClampNeg dp.toNatClampNeg n.toNatClampNeg))) rfl hq1 (fun a ha => ⟨by funext b; simp [upc, ha], rfl⟩) (by
    show Sum.inl (_, n1, Sum.inl (upc u k0 k1 _ _ _ k1)) = _
    congr 4
    funext b
    simp [upc])
  rw [hset] at hP hD
  exact kk p l e R s m args below meth c H1 locs1 cells slots A ad ls Qm hC hX ⟨hP, hD, hS, hR.2.2.2⟩ hL hoL hoR hk hA hret
theorem aw_ws_push {G : GG} {ad : Nat → Nat} {T : TT} {u : MU} {q : Nat} {z : Nat × Nat} {e : va_E} (hw : aw_wf T) (he : aw_cell G (va_up ad T.1.length q) (T.1 ++ [z], upn T.2 T.1.length) (upz u T.1.length) T.1.length z = e) : aw_ws G ad T u ++ [(q, e)] = aw_ws G (va_up ad T.1.length q) (T.1 ++ [z], upn T.2 T.1.length) (upz u T.1.length) := by
  subst he
  apply List.ext_getElem?
  intro j
  by_cases hj : j < T.1.length
  · rw [List.getElem?_append_left (by rw [aw_ws_len]; exact hj), aw_ws_at (T := T) (List.getElem?_eq_getElem hj), aw_ws_at (T := (T.1 ++ [z], upn T.2 T.1.length)) (q := T.1[j]) (by show (T.1 ++ [z])[j]? = _; rw [List.getElem?_append_left hj]; exact List.getElem?_eq_getElem hj)]
    have hne : j ≠ T.1.length := by omega
    rw [aw_cell_congr (ad := ad) (ad' := va_up ad T.1.length q) (T := T) (u := u) (by funext b; simp [upz, hne]) (fun i => ?_)]
    · simp [va_up, hne]
    · simp only [upn, hne, if_false]
      cases hr : T.2 j i with
      | none => rfl
      | some q0 =>
        have := hw.1 j i q0 hr
        have hne2 : q0 ≠ T.1.length := by omega
        simp [va_up, hne2]
  · by_cases hj2 : j = T.1.length
    · subst hj2
      rw [List.getElem?_append_right (by rw [aw_ws_len]; omega), aw_ws_at (T := (T.1 ++ [z], upn T.2 T.1.length)) (q := z) (by simp)]
      simp [aw_ws_len, va_up]
    · rw [List.getElem?_eq_none (by simp [aw_ws_len]; omega), List.getElem?_eq_none (by rw [aw_ws_len]; simp; omega)]
theorem aw_wf_push {T : TT} {z : Nat × Nat} (hw : aw_wf T) (hl : T.1.length < 999) : aw_wf (T.1 ++ [z], upn T.2 T.1.length) := by
  refine ⟨fun k j q hq => ?_, by simp; omega⟩
  simp only [upn] at hq
  split at hq
  · cases hq
  · have := hw.1 k j q hq
    simp
    omega
theorem aw_agree_push {T : TT} {ad : Nat → Nat} (q : Nat) (hw : aw_wf T) : aw_agree T.1.length ad (va_up ad T.1.length q) := by
  have := hw.2
  refine ⟨fun k hk => ?_, ?_⟩
  · have h : k ≠ T.1.length := by omega
    simp [va_up, h]
  · have h : aw_S ≠ T.1.length := by unfold aw_S; omega
    simp [va_up, h]

theorem A_new {G : GG} {d : Nat} {mi : MI} {pc : Nat} {L st : List Value} {T : TT} {u : MU} {kc ks : Nat} {Q : QQ} {idx ci N : Nat} {C : String} {F : u_T} (hd : decode mi.2.1 pc = .ok (.new idx, 3)) (hc : aw_cls ci C F N) (h1 : Cond.classLink mi.1.cls idx C ∈ aw_gt) (h2 : Cond.instantiable C N ∈ aw_gt) (h3 : Cond.initialized C ∈ aw_gt) (hdv : ∀ j, j < N → defaultValue (aw_ty ci j) = if aw_isR (aw_ty ci j) = true then .null else .int 0) (hlt : T.1.length < 999) (kk : AW G d mi (pc + 3) L (.ref T.1.length :: st) (T.1 ++ [(ci + 2, N)], upn T.2 T.1.length) (upz u T.1.length) kc ks Q) : AW G d mi pc L st T u (kc + 1) (ks + N) Q := by
  intro p l e R s m args below meth c H locs cells slots A ad ls Qm hC hX hR hL hoL hoS hk hA hret
  refine va_new (D := G.1) (C := C) (T := F) (N := N) (ci := ci) (fs := aw_fs ad ci N (fun _ => 0) (fun _ => none)) hC.1 hC.2.1 hC.2.2.2.2.1 hc.2.1 (aw_ty ci) hc.2.2.1 hC.2.2.2.1 (hC.2.2.2.2.1 _ h1) (hC.2.2.2.2.1 _ h2) (hC.2.2.2.2.1 _ h3) hC.2.2.2.2.2.2.2.1 hR.1 hR.2.1 hR.2.2.1 hA hc.1 (fun j hj => ?_) (by omega) (by omega) hd (fun q H1 hP hD hS => ?_)
  · rw [hdv j hj, vp_V, List.getD_eq_getElem?_getD, aw_fs_at hj]
    simp only [aw_fv, Option.getD_some]
    rfl
  have hps := aw_ws_push (G := G) (ad := ad) (u := u) (q := q) (z := (ci + 2, N)) (e := .inr (ci, aw_fs ad ci N (fun _ => 0) (fun _ => none))) hR.2.2.2 (by
    show Sum.inr (ci, aw_fs _ ci N (upz u T.1.length T.1.length) (upn T.2 T.1.length T.1.length)) = _
    simp only [aw_fs, aw_fv, upz, upn, if_true, Option.map_none])
  rw [hps] at hP hD
  have hag := aw_agree_push (ad := ad) q hR.2.2.2
  have hle : T.1.length ≤ (T.1 ++ [(ci + 2, N)]).length := by simp
  have hw := kk p l e R s m args below meth c H1 locs (cells + 1) (slots + N) A (va_up ad T.1.length q) ls Qm hC ⟨hag.2.trans hX.1, hX.2⟩ ⟨hP, hD, hS, aw_wf_push hR.2.2.2 hlt⟩ (aw_L_agree hag hoL hL) (aw_okl_mono hle hoL) (aw_oks_c (Or.inl (by simp)) (aw_oks_mono hle hoS)) ⟨by omega, by omega⟩ hA (fun r2 T2 u2 H2 locs2 ad2 pc2 ls2 q1 q2 q3 q4 q5 => hret r2 T2 u2 H2 locs2 ad2 pc2 ls2 q1 (aw_agree_trans hle hag q2) (Nat.le_trans hle q3) q4 q5)
  rw [List.map_cons, aw_st_agree hag hoS] at hw
  have hq : aw_cv (va_up ad T.1.length q) (.ref T.1.length) = .ref q := by simp [aw_cv, va_up]
  rw [hq] at hw
  exact hw

theorem A_newa {G : GG} {d : Nat} {mi : MI} {pc : Nat} {L st : List Value} {T : TT} {u : MU} {kc ks : Nat} {Q : QQ} {n : Int32} (N : Nat) (hd : decode mi.2.1 pc = .ok (.newarray .int, 2)) (h1 : Cond.arrayClass .int ∈ aw_gt) (hn : ¬ n < 0) (hN : n.toNatClampNeg = N) (hb : N * 4 ≤ 536870912) (hlt : T.1.length < 999) (kk : AW G d mi (pc + 2) L (.ref T.1.length :: st) (T.1 ++ [(0, N)], upn T.2 T.1.length) (upz u T.1.length) kc ks Q) : AW G d mi pc L (.int n :: st) T u (kc + 1) (ks + N) Q := by
  intro p l e R s m args below meth c H locs cells slots A ad ls Qm hC hX hR hL hoL hoS hk hA hret
  refine va_newa (D := G.1) (atype := .int) (a0 := (N, .inl (fun _ => 0))) hC.1 hC.2.1 (hC.2.2.2.2.1 _ h1) rfl hC.2.2.2.2.2.2.2.1 hR.1 hR.2.1 hR.2.2.1 hA (fun _ => rfl) hn hN hb (by omega) (by omega) hd (fun q cA H1 hK1 hP hD hS => ?_)
  have hcA : cA = G.2.1.1 := by
    have e1 : s.vm.findClass ("[" ++ FieldType.int.toString) = some cA := (hK1.2 2 (cA, .int) rfl).2
    have e2 : s.vm.findClass ("[" ++ FieldType.int.toString) = some G.2.1.1 := (hC.2.2.2.2.2.2.2.1.2 0 (G.2.1.1, .int) rfl).2
    exact Option.some.inj (e1.symm.trans e2)
  subst hcA
  have hps := aw_ws_push (G := G) (ad := ad) (u := u) (q := q) (z := (0, N)) (e := .inl (G.2.1.1, N, .inl (fun _ => 0))) hR.2.2.2 (by
    show Sum.inl (_, N, Sum.inl (upz u T.1.length T.1.length)) = _
    congr 4
    funext b
    simp [upz])
  rw [hps] at hP hD
  have hag := aw_agree_push (ad := ad) q hR.2.2.2
  have hle : T.1.length ≤ (T.1 ++ [(0, N)]).length := by simp
  have hw := kk p l e R s m args below meth c H1 locs (cells + 1) (slots + N) A (va_up ad T.1.length q) ls Qm hC ⟨hag.2.trans hX.1, hX.2⟩ ⟨hP, hD, hS, aw_wf_push hR.2.2.2 hlt⟩ (aw_L_agree hag hoL hL) (aw_okl_mono hle hoL) (aw_oks_c (Or.inl (by simp)) (aw_oks_mono hle (aw_oks_t hoS))) ⟨by omega, by omega⟩ hA (fun r2 T2 u2 H2 locs2 ad2 pc2 ls2 q1 q2 q3 q4 q5 => hret r2 T2 u2 H2 locs2 ad2 pc2 ls2 q1 (aw_agree_trans hle hag q2) (Nat.le_trans hle q3) q4 q5)
  rw [List.map_cons, aw_st_agree hag (aw_oks_t hoS)] at hw
  have hq : aw_cv (va_up ad T.1.length q) (.ref T.1.length) = .ref q := by simp [aw_cv, va_up]
  rw [hq] at hw
  exact hw

theorem A_anew {G : GG} {d : Nat} {mi : MI} {pc : Nat} {L st : List Value} {T : TT} {u : MU} {kc ks : Nat} {Q : QQ} {n : Int32} {idx : Nat} (N : Nat) (hd : decode mi.2.1 pc = .ok (.anewarray idx, 3)) (h1 : Cond.classLink mi.1.cls idx RX2 ∈ aw_gt) (hn : ¬ n < 0) (hN : n.toNatClampNeg = N) (hb : N * 4 ≤ 536870912) (hlt : T.1.length < 999) (kk : AW G d mi (pc + 3) L (.ref T.1.length :: st) (T.1 ++ [(1, N)], upn T.2 T.1.length) (upz u T.1.length) kc ks Q) : AW G d mi pc L (.int n :: st) T u (kc + 1) (ks + N) Q := by
  intro p l e R s m args below meth c H locs cells slots A ad ls Qm hC hX hR hL hoL hoS hk hA hret
  refine va_newq (D := G.1) (C := RX2) hC.1 hC.2.1 hC.2.2.2.1 (hC.2.2.2.2.1 _ h1) hC.2.2.2.2.2.2.1 hC.2.2.2.2.2.2.2.1 hR.1 hR.2.1 hR.2.2.1 hA hn hN hb (by omega) (by omega) hd (fun q cA H1 hK1 hP hD hS => ?_)
  have hcA : cA = G.2.1.2 := by
    obtain ⟨_, _, _, _, _, e1⟩ := (hK1.2 2 (cA, .object RX2) rfl).2
    obtain ⟨_, _, _, _, _, e2⟩ := (hC.2.2.2.2.2.2.2.1.2 1 (G.2.1.2, .object RX2) rfl).2
    exact Option.some.inj (e1.symm.trans e2)
  subst hcA
  have hps := aw_ws_push (G := G) (ad := ad) (u := u) (q := q) (z := (1, N)) (e := .inl (G.2.1.2, N, .inr (.inr (.inr (.inr (fun _ => none)))))) hR.2.2.2 (by
    show Sum.inl (_, N, Sum.inr (Sum.inr (Sum.inr (Sum.inr (fun j => (upn T.2 T.1.length T.1.length j).map _))))) = _
    congr 7
    funext b
    simp [upn])
  rw [hps] at hP hD
  have hag := aw_agree_push (ad := ad) q hR.2.2.2
  have hle : T.1.length ≤ (T.1 ++ [(1, N)]).length := by simp
  have hw := kk p l e R s m args below meth c H1 locs (cells + 1) (slots + N) A (va_up ad T.1.length q) ls Qm hC ⟨hag.2.trans hX.1, hX.2⟩ ⟨hP, hD, hS, aw_wf_push hR.2.2.2 hlt⟩ (aw_L_agree hag hoL hL) (aw_okl_mono hle hoL) (aw_oks_c (Or.inl (by simp)) (aw_oks_mono hle (aw_oks_t hoS))) ⟨by omega, by omega⟩ hA (fun r2 T2 u2 H2 locs2 ad2 pc2 ls2 q1 q2 q3 q4 q5 => hret r2 T2 u2 H2 locs2 ad2 pc2 ls2 q1 (aw_agree_trans hle hag q2) (Nat.le_trans hle q3) q4 q5)
  rw [List.map_cons, aw_st_agree hag (aw_oks_t hoS)] at hw
  have hq : aw_cv (va_up ad T.1.length q) (.ref T.1.length) = .ref q := by simp [aw_cv, va_up]
  rw [hq] at hw
  exact hw

