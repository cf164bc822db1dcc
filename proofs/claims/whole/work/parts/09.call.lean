/-! ===== contracts and calls ===== -/
def aw_B (G : GG) (ad : Nat → Nat) (T : TT) (u : MU) (sz : Nat) (U : State) : Prop :=
  U.heap.size = sz ∧ va_P G.1 vwCl (aw_ws G ad T u) U.heap ∧ va_K G.1 vwCl (aw_tys G) U ∧ va_D (fun _ => True) (aw_ws G ad T u) ∧ (∀ w ∈ aw_nt, va_Nw w U) ∧ va_AO RX2 U
def aw_Qc (G : GG) (ad : Nat → Nat) (T : TT) (u : MU) (sz : Nat) (Q : QQ) : Array Value → State → Outcome → State → Prop := fun _ st oc t =>
  (∃ (r : Option Int32) (T' : TT) (u' : MU) (ad' : Nat → Nat), oc = .returned (r.map Value.int) ∧ Q r T' u' ∧ aw_agree T.1.length ad ad' ∧ T.1.length ≤ T'.1.length ∧ va_P G.1 vwCl (aw_ws G ad' T' u') t.heap ∧ va_D (va_A (aw_ws G ad T u) sz) (aw_ws G ad' T' u') ∧ aw_wf T') ∧ va_F (va_A (aw_ws G ad T u) sz) st t
/-- what the tables say of a method -/
def aw_mf (mi : MI) (n : Nat) : Prop := Cond.code mi.1 mi.2.1 mi.2.2.1 mi.2.2.2 ∈ aw_gt ∧ Cond.initialized mi.1.cls ∈ aw_gt ∧ (mi.1.cls ≠ "java/lang/invoke/MethodHandle" ∧ mi.1.cls ≠ "java/lang/invoke/VarHandle" ∧ (parseMethodDescriptor mi.1.desc).map (fun d => d.parameters.length) = some n) ∧ plainName mi.1.cls = true ∧ mi.2.2.1 ≤ 21 ∧ mi.1 ≠ x
def aw_mV (mi : MI) : Prop := Cond.instanceMethod mi.1 ∈ aw_gt ∧ Cond.selects mi.1.cls mi.1 mi.1 ∈ aw_gt
def aw_mI (mi : MI) : Prop := mi.1.name = "<init>" ∧ Cond.instanceMethod mi.1 ∈ aw_gt ∧ mi.2.2.2 = none
def aw_ml (own : String) (idx : Nat) (y : MethodName) : Prop := Cond.methodLink own idx y ∈ aw_gt ∨ ∃ host, Cond.methodLinkNest own idx y host ∈ aw_nt
theorem aw_sl_len {vs : List Value} (h : ∀ v ∈ vs, v.category = 1) : (lg_sl vs).length = vs.length := by
  induction vs with
  | nil => rfl
  | cons v t ih =>
    have h1 := h v List.mem_cons_self
    have h2 := ih (fun w hw => h w (List.mem_cons_of_mem _ hw))
    simp only [lg_sl, List.flatMap_cons, h1, List.length_append] at h2 ⊢
    simp only [List.length_cons]
    rw [h2]
    simp
    omega
theorem aw_args_mem {vs : List Value} (h : ∀ v ∈ vs, v.category = 1) : ∀ (j i : Nat) (v : Value), vs[i]? = some v → (j + i, v) ∈ lv_args j vs := by
  induction vs with
  | nil => intro j i v hi; simp at hi
  | cons w t ih =>
    intro j i v hi
    have h1 := h w List.mem_cons_self
    simp only [lv_args, h1]
    cases i with
    | zero =>
      rw [List.getElem?_cons_zero] at hi
      cases hi
      exact List.mem_cons_self
    | succ i =>
      rw [List.getElem?_cons_succ] at hi
      have h2 := ih (fun w hw => h w (List.mem_cons_of_mem _ hw)) (j + 1) i v hi
      rw [show j + (i + 1) = j + 1 + i by omega]
      exact List.mem_cons_of_mem _ h2
theorem aw_met {G : GG} {d : Nat} {mi : MI} {T : TT} {u : MU} {kc ks : Nat} {Q : QQ} {As L0 : List Value} {n : Nat} (l : Launch) (ad : Nat → Nat) (sz : Nat) (hf : aw_mf mi n) (hS : ad aw_S = G.2.2.1) (hwf : aw_wf T) (hAs : aw_oks T.1.length As) (hlen : As.length ≤ mi.2.2.1) (hL0 : L0 = As ++ List.replicate (mi.2.2.1 - As.length) Value.null) (h : AW G d mi 0 L0 [] T u kc ks Q) :
    Met l mi.1 (Cond.code mi.1 mi.2.1 mi.2.2.1 mi.2.2.2 :: aw_gt) ({ frames := d, cells := kc, slots := ks, locals := 40 * d }) (va_Pc (As.map (aw_cv ad)) (aw_B G ad T u sz)) (aw_Qc G ad T u sz Q) kc ks (va_A (aw_ws G ad T u) sz) := by
  refine Met.ofW (cc := mi.2.1) (maxL := mi.2.2.1) (ret := mi.2.2.2) hf.2.2.2.1 rfl ?_
  intro p e s m args below meth c s₁ B hml hv
  obtain ⟨rfl, hsz, hP, hK, hD0, hN, hO⟩ := hv
  subst hsz
  have hts := atoms_spec (ws := Cond.code mi.1 mi.2.1 mi.2.2.1 mi.2.2.2 :: aw_gt) B.pre
  have hcat : ∀ v ∈ As.map (aw_cv ad), v.category = 1 := fun v hv => by
    obtain ⟨w, hw, rfl⟩ := List.mem_map.mp hv
    exact aw_cat ad (hAs w hw).1
  have hl := lv_entry (As.map (aw_cv ad)) (n := mi.2.2.1) (by rw [aw_sl_len hcat, List.length_map]; exact hlen)
  rw [lg_entry_eq]
  generalize (lg_sl (As.map (aw_cv ad)) ++ List.replicate (mi.2.2.1 - (lg_sl (As.map (aw_cv ad))).length) Slot.unset).toArray = ls at hl ⊢
  subst hL0
  refine h p l e _ s m _ below meth c s.heap [] 0 0 (va_A (aw_ws G ad T u) s.heap.size) ad ls _ ⟨B.exec, B.bytes, hml, findClass_of_methodNamed B.named, fun w hw => hts w (List.mem_cons_of_mem _ hw), hN, hO, hK, ⟨Nat.le_refl _, Nat.le_refl _⟩, fun hn => (name_of_methodNamed B.named B.method).1.trans hn⟩ ⟨hS, fun he => absurd he hf.2.2.2.2.2⟩ ⟨hP, hD0.self, va_S.rf, hwf⟩ ⟨by rw [List.length_append, List.length_replicate]; omega, hl.1, hl.2.1, fun i v hi hv => ?_⟩ (fun v hv => ?_) (fun v hv => absurd hv List.not_mem_nil) ⟨by show 0 + kc ≤ kc; omega, by show 0 + ks ≤ ks; omega⟩ (fun q hq => Or.inr hq) (fun r T' u' H' locs' ad' pc' ls' hQ hag hle hR' hrt => ?_)
  · by_cases hi2 : i < As.length
    · rw [List.getElem?_append_left hi2] at hi
      have h1 := aw_args_mem hcat 0 i (aw_cv ad v) (by rw [List.getElem?_map, hi]; rfl)
      have h2 := hl.2.2 _ h1
      rw [Nat.zero_add] at h2
      exact h2
    · rw [List.getElem?_append_right (by omega)] at hi
      have h1 := List.mem_of_getElem? hi
      rw [(List.mem_replicate.mp h1).2] at hv
      simp [aw_sv] at hv
  · rcases List.mem_append.mp hv with h1 | h1
    · exact (hAs v h1).2
    · rw [(List.mem_replicate.mp h1).2]
      trivial
  · obtain ⟨hP', hD', hS', hwf'⟩ := hR'
    cases r with
    | none =>
      obtain ⟨hd1, hr1⟩ := hrt
      exact W.vret B.exec B.bytes (B.returns.trans hr1) (fun t ht hW => ⟨⟨none, T', u', ad', rfl, hQ, hag, hle, by rw [ht]; exact hP', hD', hwf'⟩, hS'.F ht⟩) hS'.2.2 hd1
    | some v =>
      obtain ⟨hd1, ty, hr1, hn1⟩ := hrt
      exact W.zret B.exec B.bytes (B.returns.trans hr1) hn1 (fun t ht hW => ⟨⟨some v, T', u', ad', rfl, hQ, hag, hle, by rw [ht]; exact hP', hD', hwf'⟩, hS'.F ht⟩) hS'.2.2 hd1
theorem aw_cont {p : Program} {l : Launch} {e : Env} {R : Room} {s : State} {m : MethodId} {args : Array Value} {below : List Frame} {meth : Method} {c : Code} {H : Heap} {locs : List Loc} {cells slots mc ms pc : Nat} {ls : Array Slot} {st0 rest : List Value} {G : GG} {ad : Nat → Nat} {T : TT} {u : MU} {Q0 : QQ} {a : Array Value} {A : Nat → Prop} {Qm : State → Prop}
    (hr : va_Run p l e R s m args below meth c H locs cells slots mc ms (F0 m pc ls st0) rest (aw_Qc G ad T u H.size Q0 a) (va_A (aw_ws G ad T u) H.size)) (hR : aw_R G ad A T u s.heap H locs) (hA : ∀ q, s.heap.size ≤ q → A q)
    (kk : ∀ (r : Option Int32) (T' : TT) (u' : MU) (ad' : Nat → Nat) (H1 : Heap) (locs1 : List Loc), Q0 r T' u' → aw_agree T.1.length ad ad' → T.1.length ≤ T'.1.length → aw_R G ad' A T' u' s.heap H1 locs1 → W p l e R s m args below meth c H1 locs1 (cells + mc) (slots + ms) Qm (F0 m (pc + 3) ls (aw_rv r ++ rest))) : W p l e R s m args below meth c H locs cells slots Qm (F0 m pc ls st0) := by
  intro T0 hT X
  obtain ⟨hP, hD, hS, hwf⟩ := hR
  obtain ⟨v, st₀, t, T', L, h0, X', hL, e1, e2, ⟨⟨r, T1, u1, ad1, hv, hQ, hag, hle, hP1, hD1, hwf1⟩, hz, hk⟩, st⟩ := hr T0 hT X
  have hv' : v = r.map Value.int := Outcome.returned.inj hv
  subst hv'
  rw [h0] at hz hk
  have hA1 : ∀ q, va_A (aw_ws G ad T u) H.size q → A q := by
    rintro q (⟨k, e, h⟩ | h)
    · exact hD.2 k _ h
    · exact hA q (Nat.le_trans hS.1 h)
  obtain ⟨t2, a1, b1⟩ := kk r T1 u1 ad1 T'.heap (locs ++ L) hQ hag hle ⟨by rw [e1]; exact hP1, hD1.weaken (fun _ q _ h => hA1 q.1 h), ⟨Nat.le_trans hS.1 (by rw [e1]; exact hz), fun q h1 h2 => by rw [e1, hk q (Nat.lt_of_lt_of_le h1 hS.1) (fun z => h2 (hA1 q z))]; exact hS.2.1 q h1 h2, fun q hq => (List.mem_append.mp hq).elim (hS.2.2 q) (fun h => hA1 _ (hL q h))⟩, hwf1⟩ T' rfl X'
  refine ⟨t2, st t2 ?_, b1⟩
  cases r <;> exact a1
theorem aw_catsum {n : Nat} {ad : Nat → Nat} {st : List Value} (h : aw_oks n st) : ((st.map (aw_cv ad)).map fun v => v.category).sum = st.length := by
  induction st with
  | nil => rfl
  | cons v t ih =>
    simp only [List.map_cons, List.sum_cons, List.length_cons, ih (aw_oks_t h), aw_cat ad (h v List.mem_cons_self).1]
    omega
theorem aw_blind {G : GG} {ad : Nat → Nat} {T : TT} {u : MU} {sz : Nat} {av : List Value} : FrameBlind (va_Pc av (aw_B G ad T u sz)) := fun a U g mk q => by
  obtain ⟨q0, q1, qP, qK, qD, qN, qO⟩ := q
  exact ⟨q0, q1, qP, va_K.moved (u := U) (U := U.calling g mk a) (Vm.Alike.refl U.vm) qK, qD, fun w hw => va_Nw.same (u := U) (U := U.calling g mk a) (aw_onT (List.mem_filter.mp hw).2) rfl (qN w hw), va_AO.moved (u := U) (U := U.calling g mk a) (Vm.Alike.refl U.vm) qO⟩
theorem aw_pre {G : GG} {d : Nat} {mi : MI} {p : Program} {R : Room} {s : State} {m : MethodId} {args : Array Value} {meth : Method} {c : Code} {ad : Nat → Nat} {A : Nat → Prop} {T : TT} {u : MU} {H : Heap} {locs : List Loc} (hC : aw_C G d mi p R s m args meth c) (hR : aw_R G ad A T u s.heap H locs) (av : List Value) : ∀ U : State, U.heap = H → s.WarmedH U.vm → va_Pc av (aw_B G ad T u H.size) av.toArray U := fun U hU hW =>
  ⟨rfl, by rw [hU], by rw [hU]; exact hR.1, va_K.moved hW.alike hC.2.2.2.2.2.2.2.1, hR.2.1.weaken (fun _ _ _ _ => trivial), fun w hw => aw_warm (List.mem_filter.mp hw).2 hW (hC.2.2.2.2.2.1 w hw), va_AO.moved hW.alike hC.2.2.2.2.2.2.1⟩

theorem A_callV {G : GG} {d : Nat} {mi mi2 : MI} {pc : Nat} {L As rest L0 stk : List Value} {T : TT} {u : MU} {kc ks kc0 ks0 n idx : Nat} {Q Q0 : QQ} (hd : decode mi.2.1 pc = .ok (.invokevirtual idx, 3)) (hl : aw_ml mi.1.cls idx mi2.1) (hf : aw_mf mi2 n) (hm : aw_mV mi2) {k ci N : Nat} {F : u_T} (hq : T.1[k]? = some (ci + 2, N)) {N2 : Nat} (hcl : vwCl[ci]? = some (mi2.1.cls, F, N2)) (hn : As.length = n) (hstk : stk = As.reverse ++ .ref k :: rest) (hr : rest.length ≤ 8) (hL0 : L0 = (.ref k :: As) ++ List.replicate (mi2.2.2.1 - (.ref k :: As).length) Value.null) (hlen : (.ref k :: As).length ≤ mi2.2.2.1) (hM : AW G d mi2 0 L0 [] T u kc0 ks0 Q0) (kk : ∀ r T' u', Q0 r T' u' → AW G (d + 1) mi (pc + 3) L (aw_rv r ++ rest) T' u' kc ks Q) : AW G (d + 1) mi pc L stk T u (kc0 + kc) (ks0 + ks) Q := by
  intro p l e R s m args below meth c H locs cells slots A ad ls Qm hC hX hR hL hoL hoS hk hA hret

  subst hstk
  have hoA : aw_oks T.1.length (.ref k :: As) := fun v hv => (List.mem_cons.mp hv).elim (fun h => hoS v (List.mem_append_right _ (by rw [h]; exact List.mem_cons_self))) (fun h => hoS v (List.mem_append_left _ (List.mem_reverse.mpr h)))
  have hoR : aw_oks T.1.length rest := fun v hv => hoS v (List.mem_append_right _ (List.mem_cons_of_mem _ hv))
  have hMet := aw_met (n := n) l ad H.size hf hX.1 hR.2.2.2 hoA hlen hL0 hM
  have hGW : GoodIn aw_gt (Cond.code mi2.1 mi2.2.1 mi2.2.2.1 mi2.2.2.2 :: aw_gt) := fun w h => (List.mem_cons.mp h).elim (fun e => by rw [e]; exact aw_good _ hf.1) (aw_good w)
  have hst2 : List.map (aw_cv ad) (As.reverse ++ .ref k :: rest) = (As.map (aw_cv ad)).reverse ++ .ref (ad k) :: rest.map (aw_cv ad) := by simp [aw_cv]
  rw [hst2]
  refine aw_cont (a := ((.ref k :: As).map (aw_cv ad)).toArray) (ls := ls) (Q0 := Q0) (mc := kc0) (ms := ks0) (rest := rest.map (aw_cv ad)) ?_ hR hA (fun r T' u' ad' H1 locs1 hQ hag hle hR1 => ?_)
  · rcases hl with hl | ⟨host, hl⟩
    · exact va_runV (C := mi2.1.cls) (b := ad k) (As := As.map (aw_cv ad)) ⟨hC.1, hC.2.1, hC.2.2.1, hC.2.2.2.1, hC.2.2.2.2.1⟩ hMet ⟨(callB_of n hC.2.2.2.2.1 hGW rfl rfl rfl (hC.2.2.2.2.1 _ hf.2.1) (hC.2.2.2.2.1 _ hl) hf.2.2.1 ⟨by have := hC.2.2.2.2.2.2.2.2.1.1; show d + 1 ≤ _; omega, by have := hC.2.2.2.2.2.2.2.2.1.2; have := hf.2.2.2.2.1; show 8 + (mi2.2.2.1 + 11) + 40 * d ≤ _; omega⟩), hC.2.2.2.2.1 _ hm.1, hC.2.2.2.2.1 _ hm.2⟩ ⟨aw_blind, va_recv (q := (mi2.1.cls, F, N2)) hC.2.2.2.2.2.2.2.1 hR.1 hcl (aw_ws_at (G := G) (ad := ad) (u := u) hq), aw_pre hC hR _⟩ rfl (by rw [List.length_map]; exact hn) hL.2.1 rfl (lv_room (by rw [aw_catsum hoR]; exact hr)) hd ⟨by omega, by omega⟩
    · exact va_runVN (C := mi2.1.cls) (host := host) (b := ad k) (As := As.map (aw_cv ad)) ⟨hC.1, hC.2.1, hC.2.2.1, hC.2.2.2.1, hC.2.2.2.2.1⟩ hMet ⟨(va_cnB n hC.2.2.2.2.1 hGW rfl rfl rfl (hC.2.2.2.2.2.1 _ hl) (hC.2.2.2.2.1 _ hf.2.1) hf.2.2.1 ⟨by have := hC.2.2.2.2.2.2.2.2.1.1; show d + 1 ≤ _; omega, by have := hC.2.2.2.2.2.2.2.2.1.2; have := hf.2.2.2.2.1; show 8 + (mi2.2.2.1 + 11) + 40 * d ≤ _; omega⟩), hC.2.2.2.2.1 _ hm.1, hC.2.2.2.2.1 _ hm.2⟩ ⟨aw_blind, va_recv (q := (mi2.1.cls, F, N2)) hC.2.2.2.2.2.2.2.1 hR.1 hcl (aw_ws_at (G := G) (ad := ad) (u := u) hq), aw_pre hC hR _⟩ rfl (by rw [List.length_map]; exact hn) hL.2.1 rfl (lv_room (by rw [aw_catsum hoR]; exact hr)) hd ⟨by omega, by omega⟩
  · have hw := kk r T' u' hQ p l e R s m args below meth c H1 locs1 (cells + kc0) (slots + ks0) A ad' ls Qm hC ⟨hag.2.trans hX.1, hX.2⟩ hR1 (aw_L_agree hag hoL hL) (aw_okl_mono hle hoL) (fun v hv => (List.mem_append.mp hv).elim (fun h => by
        cases r with
        | none => exact absurd h List.not_mem_nil
        | some y => rw [List.mem_singleton.mp h]; exact ⟨rfl, trivial⟩) (fun h => ⟨(hoR v h).1, aw_ok_mono hle (hoR v h).2⟩)) ⟨by omega, by omega⟩ hA (fun r2 T2 u2 H2 locs2 ad2 pc2 ls2 q1 q2 q3 q4 q5 => hret r2 T2 u2 H2 locs2 ad2 pc2 ls2 q1 (aw_agree_trans hle hag q2) (Nat.le_trans hle q3) q4 q5)
    rw [List.map_append, aw_st_agree hag hoR] at hw
    cases r <;> exact hw

theorem A_callS {G : GG} {d : Nat} {mi mi2 : MI} {pc : Nat} {L As rest L0 stk : List Value} {T : TT} {u : MU} {kc ks kc0 ks0 n idx : Nat} {Q Q0 : QQ} (hd : decode mi.2.1 pc = .ok (.invokestatic idx, 3)) (hl : aw_ml mi.1.cls idx mi2.1) (hf : aw_mf mi2 n) (hm : Cond.static mi2.1 ∈ aw_gt) (hn : As.length = n) (hstk : stk = As.reverse ++ rest) (hr : rest.length ≤ 8) (hL0 : L0 = As ++ List.replicate (mi2.2.2.1 - As.length) Value.null) (hlen : As.length ≤ mi2.2.2.1) (hM : AW G d mi2 0 L0 [] T u kc0 ks0 Q0) (kk : ∀ r T' u', Q0 r T' u' → AW G (d + 1) mi (pc + 3) L (aw_rv r ++ rest) T' u' kc ks Q) : AW G (d + 1) mi pc L stk T u (kc0 + kc) (ks0 + ks) Q := by
  intro p l e R s m args below meth c H locs cells slots A ad ls Qm hC hX hR hL hoL hoS hk hA hret

  subst hstk
  have hoA : aw_oks T.1.length As := fun v hv => hoS v (List.mem_append_left _ (List.mem_reverse.mpr hv))
  have hoR : aw_oks T.1.length rest := fun v hv => hoS v (List.mem_append_right _ hv)
  have hMet := aw_met (n := n) l ad H.size hf hX.1 hR.2.2.2 hoA hlen hL0 hM
  have hGW : GoodIn aw_gt (Cond.code mi2.1 mi2.2.1 mi2.2.2.1 mi2.2.2.2 :: aw_gt) := fun w h => (List.mem_cons.mp h).elim (fun e => by rw [e]; exact aw_good _ hf.1) (aw_good w)
  have hst2 : List.map (aw_cv ad) (As.reverse ++ rest) = (As.map (aw_cv ad)).reverse ++ rest.map (aw_cv ad) := by simp [aw_cv]
  rw [hst2]
  refine aw_cont (a := (As.map (aw_cv ad)).toArray) (ls := ls) (Q0 := Q0) (mc := kc0) (ms := ks0) (rest := rest.map (aw_cv ad)) ?_ hR hA (fun r T' u' ad' H1 locs1 hQ hag hle hR1 => ?_)
  · rcases hl with hl | ⟨host, hl⟩
    · exact va_runS (As := As.map (aw_cv ad)) ⟨hC.1, hC.2.1, hC.2.2.1, hC.2.2.2.1, hC.2.2.2.2.1⟩ hMet ⟨(callB_of n hC.2.2.2.2.1 hGW rfl rfl rfl (hC.2.2.2.2.1 _ hf.2.1) (hC.2.2.2.2.1 _ hl) hf.2.2.1 ⟨by have := hC.2.2.2.2.2.2.2.2.1.1; show d + 1 ≤ _; omega, by have := hC.2.2.2.2.2.2.2.2.1.2; have := hf.2.2.2.2.1; show 8 + (mi2.2.2.1 + 11) + 40 * d ≤ _; omega⟩), hC.2.2.2.2.1 _ hm⟩ ⟨aw_blind, aw_pre hC hR _⟩ rfl (by rw [List.length_map]; exact hn) hL.2.1 rfl (lv_room (by rw [aw_catsum hoR]; exact hr)) hd ⟨by omega, by omega⟩
    · exact va_runSN (host := host) (As := As.map (aw_cv ad)) ⟨hC.1, hC.2.1, hC.2.2.1, hC.2.2.2.1, hC.2.2.2.2.1⟩ hMet ⟨(va_cnB n hC.2.2.2.2.1 hGW rfl rfl rfl (hC.2.2.2.2.2.1 _ hl) (hC.2.2.2.2.1 _ hf.2.1) hf.2.2.1 ⟨by have := hC.2.2.2.2.2.2.2.2.1.1; show d + 1 ≤ _; omega, by have := hC.2.2.2.2.2.2.2.2.1.2; have := hf.2.2.2.2.1; show 8 + (mi2.2.2.1 + 11) + 40 * d ≤ _; omega⟩), hC.2.2.2.2.1 _ hm, trivial⟩ ⟨aw_blind, aw_pre hC hR _⟩ rfl (by rw [List.length_map]; exact hn) hL.2.1 rfl (lv_room (by rw [aw_catsum hoR]; exact hr)) hd ⟨by omega, by omega⟩
  · have hw := kk r T' u' hQ p l e R s m args below meth c H1 locs1 (cells + kc0) (slots + ks0) A ad' ls Qm hC ⟨hag.2.trans hX.1, hX.2⟩ hR1 (aw_L_agree hag hoL hL) (aw_okl_mono hle hoL) (fun v hv => (List.mem_append.mp hv).elim (fun h => by
        cases r with
        | none => exact absurd h List.not_mem_nil
        | some y => rw [List.mem_singleton.mp h]; exact ⟨rfl, trivial⟩) (fun h => ⟨(hoR v h).1, aw_ok_mono hle (hoR v h).2⟩)) ⟨by omega, by omega⟩ hA (fun r2 T2 u2 H2 locs2 ad2 pc2 ls2 q1 q2 q3 q4 q5 => hret r2 T2 u2 H2 locs2 ad2 pc2 ls2 q1 (aw_agree_trans hle hag q2) (Nat.le_trans hle q3) q4 q5)
    rw [List.map_append, aw_st_agree hag hoR] at hw
    cases r <;> exact hw

theorem A_callI {G : GG} {d : Nat} {mi mi2 : MI} {pc : Nat} {L As rest L0 stk : List Value} {T : TT} {u : MU} {kc ks kc0 ks0 n idx : Nat} {Q Q0 : QQ} (hd : decode mi.2.1 pc = .ok (.invokespecial idx, 3)) (hl : aw_ml mi.1.cls idx mi2.1) (hf : aw_mf mi2 n) (hm : aw_mI mi2) {k : Nat} (hn : As.length = n) (hstk : stk = As.reverse ++ .ref k :: rest) (hr : rest.length ≤ 8) (hL0 : L0 = (.ref k :: As) ++ List.replicate (mi2.2.2.1 - (.ref k :: As).length) Value.null) (hlen : (.ref k :: As).length ≤ mi2.2.2.1) (hM : AW G d mi2 0 L0 [] T u kc0 ks0 Q0) (kk : ∀ r T' u', Q0 r T' u' → AW G (d + 1) mi (pc + 3) L (aw_rv r ++ rest) T' u' kc ks Q) : AW G (d + 1) mi pc L stk T u (kc0 + kc) (ks0 + ks) Q := by
  intro p l e R s m args below meth c H locs cells slots A ad ls Qm hC hX hR hL hoL hoS hk hA hret

  subst hstk
  have hoA : aw_oks T.1.length (.ref k :: As) := fun v hv => (List.mem_cons.mp hv).elim (fun h => hoS v (List.mem_append_right _ (by rw [h]; exact List.mem_cons_self))) (fun h => hoS v (List.mem_append_left _ (List.mem_reverse.mpr h)))
  have hoR : aw_oks T.1.length rest := fun v hv => hoS v (List.mem_append_right _ (List.mem_cons_of_mem _ hv))
  have hMet := aw_met (n := n) l ad H.size hf hX.1 hR.2.2.2 hoA hlen hL0 hM
  have hGW : GoodIn aw_gt (Cond.code mi2.1 mi2.2.1 mi2.2.2.1 mi2.2.2.2 :: aw_gt) := fun w h => (List.mem_cons.mp h).elim (fun e => by rw [e]; exact aw_good _ hf.1) (aw_good w)
  have hst2 : List.map (aw_cv ad) (As.reverse ++ .ref k :: rest) = (As.map (aw_cv ad)).reverse ++ .ref (ad k) :: rest.map (aw_cv ad) := by simp [aw_cv]
  rw [hst2]
  rw [hm.2.2] at hMet hGW
  have hf1 := hf.1
  rw [hm.2.2] at hf1
  refine aw_cont (a := ((.ref k :: As).map (aw_cv ad)).toArray) (ls := ls) (Q0 := Q0) (mc := kc0) (ms := ks0) (rest := rest.map (aw_cv ad)) ?_ hR hA (fun r T' u' ad' H1 locs1 hQ hag hle hR1 => ?_)
  · rcases hl with hl | ⟨host, hl⟩
    · exact va_runI (b := ad k) (As := As.map (aw_cv ad)) ⟨hC.1, hC.2.1, hC.2.2.1, hC.2.2.2.1, hC.2.2.2.2.1⟩ hMet ⟨(callB_of n hC.2.2.2.2.1 hGW rfl rfl rfl (hC.2.2.2.2.1 _ hf.2.1) (hC.2.2.2.2.1 _ hl) hf.2.2.1 ⟨by have := hC.2.2.2.2.2.2.2.2.1.1; show d + 1 ≤ _; omega, by have := hC.2.2.2.2.2.2.2.2.1.2; have := hf.2.2.2.2.1; show 8 + (mi2.2.2.1 + 11) + 40 * d ≤ _; omega⟩), hm.1, hC.2.2.2.2.1 _ hm.2.1⟩ ⟨aw_blind, aw_pre hC hR _⟩ rfl (by rw [List.length_map]; exact hn) hL.2.1 rfl (lv_room (by rw [aw_catsum hoR]; exact hr)) hd ⟨by omega, by omega⟩
    · exact va_runIN (host := host) (b := ad k) (As := As.map (aw_cv ad)) ⟨hC.1, hC.2.1, hC.2.2.1, hC.2.2.2.1, hC.2.2.2.2.1⟩ hMet ⟨(va_cnB n hC.2.2.2.2.1 hGW rfl rfl rfl (hC.2.2.2.2.2.1 _ hl) (hC.2.2.2.2.1 _ hf.2.1) hf.2.2.1 ⟨by have := hC.2.2.2.2.2.2.2.2.1.1; show d + 1 ≤ _; omega, by have := hC.2.2.2.2.2.2.2.2.1.2; have := hf.2.2.2.2.1; show 8 + (mi2.2.2.1 + 11) + 40 * d ≤ _; omega⟩), hm.1, hC.2.2.2.2.1 _ hm.2.1⟩ ⟨aw_blind, aw_pre hC hR _⟩ rfl (by rw [List.length_map]; exact hn) hL.2.1 rfl (lv_room (by rw [aw_catsum hoR]; exact hr)) hd ⟨by omega, by omega⟩
  · have hw := kk r T' u' hQ p l e R s m args below meth c H1 locs1 (cells + kc0) (slots + ks0) A ad' ls Qm hC ⟨hag.2.trans hX.1, hX.2⟩ hR1 (aw_L_agree hag hoL hL) (aw_okl_mono hle hoL) (fun v hv => (List.mem_append.mp hv).elim (fun h => by
        cases r with
        | none => exact absurd h List.not_mem_nil
        | some y => rw [List.mem_singleton.mp h]; exact ⟨rfl, trivial⟩) (fun h => ⟨(hoR v h).1, aw_ok_mono hle (hoR v h).2⟩)) ⟨by omega, by omega⟩ hA (fun r2 T2 u2 H2 locs2 ad2 pc2 ls2 q1 q2 q3 q4 q5 => hret r2 T2 u2 H2 locs2 ad2 pc2 ls2 q1 (aw_agree_trans hle hag q2) (Nat.le_trans hle q3) q4 q5)
    rw [List.map_append, aw_st_agree hag hoR] at hw
    cases r <;> exact hw

theorem A_obj {G : GG} {d : Nat} {mi : MI} {pc : Nat} {L st : List Value} {T : TT} {u : MU} {kc ks : Nat} {Q : QQ} {k idx : Nat} (hd : decode mi.2.1 pc = .ok (.invokespecial idx, 3)) (hl : Cond.methodLink mi.1.cls idx objectInit ∈ aw_gt) (h2 : Cond.instanceMethod objectInit ∈ aw_gt) (h3 : Cond.code objectInit ⟨#[0xb1]⟩ 1 none ∈ aw_gt) (hr : st.length ≤ 8) (kk : AW G (d + 1) mi (pc + 3) L st T u kc ks Q) : AW G (d + 1) mi pc L (.ref k :: st) T u kc ks Q := by
  intro p l e R s m args below meth c H locs cells slots A ad ls Qm hC hX hR hL hoL hoS hk hA hret
  have c1 := hC.2.2.2.2.2.2.2.2.1
  refine W.objInit hC.1 hC.2.1 hC.2.2.2.1 (hC.2.2.2.2.1 _ hl) (hC.2.2.2.2.1 _ h2) (hC.2.2.2.2.1 _ h3) rfl (by rw [hC.2.2.1]; exact hL.2.1) rfl hd (by omega) (by rw [aw_catsum (aw_oks_t hoS)]; show 2 * 0 + _ + 12 ≤ _; omega) ?_
  exact kk p l e R s m args below meth c H locs cells slots A ad ls Qm hC hX hR hL hoL (aw_oks_t hoS) hk hA hret
