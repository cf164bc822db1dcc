/-! ===== memory: fields, arrays, calls ===== -/
theorem aw_cell_congr {G : GG} {ad ad' : Nat → Nat} {T T' : TT} {u u' : MU} {j : Nat} {q : Nat × Nat} (h1 : u' j = u j) (h2 : ∀ i, (T'.2 j i).map ad' = (T.2 j i).map ad) : aw_cell G ad' T' u' j q = aw_cell G ad T u j q := by
  obtain ⟨t, n⟩ := q
  match t with
  | 0 => simp only [aw_cell, h1]
  | 1 => simp only [aw_cell, h2]
  | ci + 2 => simp only [aw_cell, aw_fs, aw_fv, h1, h2]
theorem aw_ws_up {G : GG} {ad : Nat → Nat} {T T' : TT} {u u' : MU} {k : Nat} {q : Nat × Nat} {e : va_E} (hl : T'.1 = T.1) (hk : T.1[k]? = some q) (hu : ∀ j, j ≠ k → u' j = u j ∧ T'.2 j = T.2 j) (he : aw_cell G ad T' u' k q = e) : (aw_ws G ad T u).set k (ad k, e) = aw_ws G ad T' u' := by
  subst he
  apply List.ext_getElem?
  intro j
  by_cases hj : j = k
  · subst hj
    rw [List.getElem?_set_self (by rw [aw_ws_len]; exact aw_lt hk), aw_ws_at (T := T') (by rw [hl]; exact hk)]
  · rw [List.getElem?_set_ne (fun z => hj z.symm)]
    simp only [aw_ws, List.getElem?_mapIdx, hl]
    cases T.1[j]? with
    | none => rfl
    | some q' =>
      obtain ⟨e1, e2⟩ := hu j hj
      simp only [Option.map_some]
      rw [aw_cell_congr (ad := ad) (ad' := ad) (T := T) (T' := T') (u := u) (u' := u') e1 (fun i => by rw [e2])]
theorem aw_fs_at {ad : Nat → Nat} {ci n : Nat} {f : Nat → Int32} {g : Nat → Option Nat} {j : Nat} (hj : j < n) : (aw_fs ad ci n f g)[j]? = some (aw_fv ad (aw_ty ci j) (f j) (g j)) := by
  simp [aw_fs, hj]
theorem aw_fs_len {ad : Nat → Nat} {ci n : Nat} {f : Nat → Int32} {g : Nat → Option Nat} : (aw_fs ad ci n f g).length = n := by simp [aw_fs]
theorem aw_fs_set {ad : Nat → Nat} {ci n : Nat} {f f' : Nat → Int32} {g g' : Nat → Option Nat} {j : Nat} {v : Value} (hj : j < n) (hf : ∀ i, i ≠ j → f' i = f i ∧ g' i = g i) (hv : aw_fv ad (aw_ty ci j) (f' j) (g' j) = v) : (aw_fs ad ci n f g).set j v = aw_fs ad ci n f' g' := by
  subst hv
  apply List.ext_getElem?
  intro i
  by_cases hi : i = j
  · subst hi
    rw [List.getElem?_set_self (by rw [aw_fs_len]; exact hj), aw_fs_at hj]
  · rw [List.getElem?_set_ne (fun z => hi z.symm)]
    by_cases hn : i < n
    · rw [aw_fs_at hn, aw_fs_at hn, (hf i hi).1, (hf i hi).2]
    · rw [List.getElem?_eq_none (by rw [aw_fs_len]; omega), List.getElem?_eq_none (by rw [aw_fs_len]; omega)]
def aw_cls (ci : Nat) (C : String) (F : u_T) (N : Nat) : Prop := vwCl[ci]? = some (C, F, N) ∧ (∀ w ∈ u_ws C F N, w ∈ aw_gt) ∧ (∀ k, k < N → parseFieldDescriptor (F k).2.2.1 = some (aw_ty ci k)) ∧ ∀ a, a < N → ∀ b, b < N → a ≠ b → (F a).2.1 ≠ (F b).2.1
/-- pool entry idx of own is field j of class ci; fin: it is final -/
def aw_fl (own : String) (idx ci j : Nat) (fin nest : Bool) : Prop := ∃ (C : String) (F : u_T) (N : Nat), aw_cls ci C F N ∧ j < N ∧ (F j).2.2.2 = fin ∧ (fin = true → (F j).1 = C) ∧ ((nest = false ∧ Cond.fieldLink own idx (F j).1 (F j).2.1 (F j).2.2.1 ∈ aw_gt) ∨ (nest = true ∧ ∃ host, Cond.fieldLinkNest own idx (F j).1 (F j).2.1 (F j).2.2.1 host ∈ aw_nt))
theorem aw_fv_i {ad : Nat → Nat} {ty : FieldType} {x : Int32} {r : Option Nat} (h : aw_isR ty = false) : aw_fv ad ty x r = .int x := by simp [aw_fv, h]
theorem aw_fv_r {ad : Nat → Nat} {ty : FieldType} {x : Int32} {r : Option Nat} (h : aw_isR ty = true) : aw_fv ad ty x r = va_rf (r.map ad) := by simp [aw_fv, h]
theorem aw_onT {w : Cond} (h : aw_isN w = true) : w.onTables = true := by
  cases w <;> first | rfl | (simp [aw_isN] at h)
theorem aw_warm {w : Cond} (h : aw_isN w = true) {s U : State} (hW : s.WarmedH U.vm) (hZ : va_Nw w s) : va_Nw w U := by
  cases w <;> first | exact va_Nw.warmF hW hZ | exact va_Nw.warmM hW hZ | (simp [aw_isN] at h)
theorem aw_good : GoodIn aw_gt aw_gt := fun w h => ⟨h, good_of_word (List.mem_filter.mp h).2⟩

theorem A_getf {G : GG} {d : Nat} {mi : MI} {pc : Nat} {L st : List Value} {T : TT} {u : MU} {kc ks : Nat} {Q : QQ} {k n idx ci j : Nat} {fin nest : Bool} {v : Value} (hd : decode mi.2.1 pc = .ok (.getfield idx, 3)) (hf : aw_fl mi.1.cls idx ci j fin nest) (hq : T.1[k]? = some (ci + 2, n)) (hj : j < n) (hv : ∀ ad, aw_fv ad (aw_ty ci j) (u k j) (T.2 k j) = aw_cv ad v) (hs : aw_sv v = true) (hok : aw_wf T → aw_ok T.1.length v) (kk : AW G d mi (pc + 3) L (v :: st) T u kc ks Q) : AW G d mi pc L (.ref k :: st) T u kc ks Q := by
  intro p l e R s m args below meth c H locs cells slots A ad ls Qm hC hX hR hL hoL hoS hk hA hret
  obtain ⟨C, F, N, hc, hjN, -, -, hl⟩ := hf
  have hat := aw_ws_at (G := G) (ad := ad) (u := u) hq
  have hv2 : (aw_fs ad ci n (u k) (T.2 k))[j]? = some (aw_cv ad v) := by rw [aw_fs_at hj, hv]
  rcases hl with ⟨hne, hl⟩ | ⟨hne, host, hl⟩
  · refine va_get (D := G.1) (C := C) (T := F) (N := N) hC.1 hC.2.1 hC.2.2.2.2.1 hc.2.1 hC.2.2.2.1 hC.2.2.2.2.2.2.2.1 hR.1 k hat hc.1 j hjN (hC.2.2.2.2.1 _ hl) (fun _ h9 => h9) hv2 hd ?_
    exact kk p l e R s m args below meth c H locs cells slots A ad ls Qm hC hX hR hL hoL (List.forall_mem_cons.mpr ⟨⟨hs, hok hR.2.2.2⟩, aw_oks_t hoS⟩) hk hA hret
  · refine va_getN (D := G.1) (C := C) (T := F) (N := N) hC.1 hC.2.1 hC.2.2.2.2.1 hc.2.1 hC.2.2.2.1 hC.2.2.2.2.2.2.2.1 hR.1 k hat hc.1 j hjN (va_Nw.use rfl (hC.2.2.2.2.2.1 _ hl)) (fun _ h9 => h9) hv2 hd ?_
    exact kk p l e R s m args below meth c H locs cells slots A ad ls Qm hC hX hR hL hoL (List.forall_mem_cons.mpr ⟨⟨hs, hok hR.2.2.2⟩, aw_oks_t hoS⟩) hk hA hret

theorem A_getI {G : GG} {d : Nat} {mi : MI} {pc : Nat} {L st : List Value} {T : TT} {u : MU} {kc ks : Nat} {Q : QQ} {k n idx ci j : Nat} {fin nest : Bool} (hd : decode mi.2.1 pc = .ok (.getfield idx, 3)) (hf : aw_fl mi.1.cls idx ci j fin nest) (hq : T.1[k]? = some (ci + 2, n)) (hj : j < n) (ht : aw_isR (aw_ty ci j) = false) (kk : AW G d mi (pc + 3) L (.int (u k j) :: st) T u kc ks Q) : AW G d mi pc L (.ref k :: st) T u kc ks Q :=
  A_getf (v := .int (u k j)) hd hf hq hj (fun _ => aw_fv_i ht) rfl (fun _ => trivial) kk
theorem A_getR {G : GG} {d : Nat} {mi : MI} {pc : Nat} {L st : List Value} {T : TT} {u : MU} {kc ks : Nat} {Q : QQ} {k n idx ci j q : Nat} {fin nest : Bool} (hd : decode mi.2.1 pc = .ok (.getfield idx, 3)) (hf : aw_fl mi.1.cls idx ci j fin nest) (hq : T.1[k]? = some (ci + 2, n)) (hj : j < n) (ht : aw_isR (aw_ty ci j) = true) (hr : T.2 k j = some q) (kk : AW G d mi (pc + 3) L (.ref q :: st) T u kc ks Q) : AW G d mi pc L (.ref k :: st) T u kc ks Q :=
  A_getf (v := .ref q) hd hf hq hj (fun _ => by rw [aw_fv_r ht, hr]; rfl) rfl (fun hw => Or.inl (hw.1 k j q hr)) kk
theorem A_putf {G : GG} {d : Nat} {mi : MI} {pc : Nat} {L st : List Value} {T : TT} {u : MU} {kc ks : Nat} {Q : QQ} {k n idx ci j : Nat} {fin nest : Bool} {v : Value} {T1 : TT} {u1 : MU} (hd : decode mi.2.1 pc = .ok (.putfield idx, 3)) (hf : aw_fl mi.1.cls idx ci j fin nest) (hq : T.1[k]? = some (ci + 2, n)) (hj : j < n) (hfin : fin = true → nest = false ∧ mi.1.name = "<init>" ∧ (vwCl[ci]?).map (fun q => q.1) = some mi.1.cls) (hN : ∀ ad, narrow (aw_ty ci j) (aw_cv ad v) = aw_cv ad v) (hfit : ∀ ad, fits (aw_ty ci j) (aw_cv ad v) = true) (hT : T1.1 = T.1) (hu : ∀ a, a ≠ k → u1 a = u a ∧ T1.2 a = T.2 a) (hu2 : ∀ b, b ≠ j → u1 k b = u k b ∧ T1.2 k b = T.2 k b) (hv : ∀ ad, aw_fv ad (aw_ty ci j) (u1 k j) (T1.2 k j) = aw_cv ad v) (hwf : aw_wf T → aw_ok T.1.length v → aw_wf T1) (kk : AW G d mi (pc + 3) L st T1 u1 kc ks Q) : AW G d mi pc L (v :: .ref k :: st) T u kc ks Q := by
  intro p l e R s m args below meth c H locs cells slots A ad ls Qm hC hX hR hL hoL hoS hk hA hret
  obtain ⟨C, F, N, hc, hjN, hfi, hdc, hl⟩ := hf
  have hat := aw_ws_at (G := G) (ad := ad) (u := u) hq
  have hset : (aw_ws G ad T u).set k (ad k, .inr (ci, (aw_fs ad ci n (u k) (T.2 k)).set j (aw_cv ad v))) = aw_ws G ad T1 u1 := by
    refine aw_ws_up hT hq hu ?_
    show Sum.inr (ci, aw_fs ad ci n (u1 k) (T1.2 k)) = _
    rw [aw_fs_set hj hu2 (hv ad)]
  have go : ∀ (H1 : Heap) (locs1 : List Loc), va_P G.1 vwCl ((aw_ws G ad T u).set k (ad k, .inr (ci, (aw_fs ad ci n (u k) (T.2 k)).set j (aw_cv ad v)))) H1 → va_D A ((aw_ws G ad T u).set k (ad k, .inr (ci, (aw_fs ad ci n (u k) (T.2 k)).set j (aw_cv ad v)))) → va_S A s.heap H1 locs1 → W p l e R s m args below meth c H1 locs1 cells slots Qm (F0 m (pc + 3) ls (st.map (aw_cv ad))) := by
    intro H1 locs1 hP hD hS
    rw [hset] at hP hD
    refine kk p l e R s m args below meth c H1 locs1 cells slots A ad ls Qm hC hX ⟨hP, hD, hS, hwf hR.2.2.2 (aw_oks_h hoS)⟩ hL (by rw [hT]; exact hoL) (by rw [hT]; exact aw_oks_t (aw_oks_t hoS)) hk hA ?_
    intro r T' u' H' locs' ad' pc' ls' h1 h2 h3 h4 h5
    rw [hT] at h2 h3
    exact hret r T' u' H' locs' ad' pc' ls' h1 h2 h3 h4 h5
  rcases hl with ⟨hne, hl⟩ | ⟨hne, host, hl⟩
  · cases fin with
    | false => exact va_put (D := G.1) (C := C) (T := F) (N := N) hC.1 hC.2.1 hC.2.2.2.2.1 hc.2.1 (aw_ty ci) hc.2.2.1 hc.2.2.2 hC.2.2.2.1 hC.2.2.2.2.2.2.2.1 hR.1 hR.2.1 hR.2.2.1 k hat hc.1 j hjN (hC.2.2.2.2.1 _ hl) (fun _ h9 => h9) hfi (hc.2.2.1 j hjN) (hN ad) (hfit ad) (by rw [aw_fs_len]; exact hj) hd go
    | true =>
      have hCC : C = mi.1.cls := by
        have h1 := (hfin rfl).2.2
        rw [hc.1] at h1
        exact Option.some.inj h1
      exact va_putF (D := G.1) (C := C) (T := F) (N := N) hC.1 hC.2.1 hC.2.2.2.2.1 hc.2.1 (aw_ty ci) hc.2.2.1 hc.2.2.2 hC.2.2.2.1 hC.2.2.2.2.2.2.2.1 hR.1 hR.2.1 hR.2.2.1 k hat hc.1 j hjN (hC.2.2.2.2.1 _ hl) (fun _ h9 => h9) hfi (hC.2.2.2.2.2.2.2.2.2 (hfin rfl).2.1) ((hdc rfl).trans hCC) (hc.2.2.1 j hjN) (hN ad) (hfit ad) (by rw [aw_fs_len]; exact hj) hd go
  · cases fin with
    | false => exact va_putN (D := G.1) (C := C) (T := F) (N := N) hC.1 hC.2.1 hC.2.2.2.2.1 hc.2.1 (aw_ty ci) hc.2.2.1 hc.2.2.2 hC.2.2.2.1 hC.2.2.2.2.2.2.2.1 hR.1 hR.2.1 hR.2.2.1 k hat hc.1 j hjN (va_Nw.use rfl (hC.2.2.2.2.2.1 _ hl)) (fun _ h9 => h9) hfi (hc.2.2.1 j hjN) (hN ad) (hfit ad) (by rw [aw_fs_len]; exact hj) hd go
    | true => exact absurd ((hfin rfl).1.symm.trans hne) (by decide)

theorem up2_o {u : MU} {k j a : Nat} {v : Int32} (h : a ≠ k) : up2 u k j v a = u a := by
  funext b
  simp [up2, h]
theorem up2_i {u : MU} {k j b : Nat} {v : Int32} (h : b ≠ j) : up2 u k j v k b = u k b := by simp [up2, h]
theorem up2_s {u : MU} {k j : Nat} {v : Int32} : up2 u k j v k j = v := by simp [up2]
theorem upr_o {g : Nat → Nat → Option Nat} {k j a v : Nat} (h : a ≠ k) : upr g k j v a = g a := by
  funext b
  simp [upr, h]
theorem A_putI {G : GG} {d : Nat} {mi : MI} {pc : Nat} {L st : List Value} {T : TT} {u : MU} {kc ks : Nat} {Q : QQ} {k n idx ci j : Nat} {fin nest : Bool} {v : Int32} (hd : decode mi.2.1 pc = .ok (.putfield idx, 3)) (hf : aw_fl mi.1.cls idx ci j fin nest) (hq : T.1[k]? = some (ci + 2, n)) (hj : j < n) (hfin : fin = false) (ht : aw_isR (aw_ty ci j) = false) (hN : narrow (aw_ty ci j) (.int v) = .int v) (hfit : fits (aw_ty ci j) (.int v) = true) (kk : AW G d mi (pc + 3) L st T (up2 u k j v) kc ks Q) : AW G d mi pc L (.int v :: .ref k :: st) T u kc ks Q :=
  A_putf (T1 := T) (u1 := up2 u k j v) hd hf hq hj (fun h => by rw [hfin] at h; cases h) (fun _ => hN) (fun _ => hfit) rfl (fun a ha => ⟨up2_o ha, rfl⟩) (fun b hb => ⟨up2_i hb, rfl⟩) (fun _ => by rw [aw_fv_i ht, up2_s]; rfl) (fun h _ => h) kk
theorem A_putR {G : GG} {d : Nat} {mi : MI} {pc : Nat} {L st : List Value} {T : TT} {u : MU} {kc ks : Nat} {Q : QQ} {k n idx ci j v : Nat} {fin nest : Bool} (hd : decode mi.2.1 pc = .ok (.putfield idx, 3)) (hf : aw_fl mi.1.cls idx ci j fin nest) (hq : T.1[k]? = some (ci + 2, n)) (hj : j < n) (hfin : nest = false ∧ mi.1.name = "<init>" ∧ (vwCl[ci]?).map (fun q => q.1) = some mi.1.cls) (ht : aw_isR (aw_ty ci j) = true) (hv : v < T.1.length) (hN : ∀ a, narrow (aw_ty ci j) (.ref a) = .ref a) (hfit : ∀ a, fits (aw_ty ci j) (.ref a) = true) (kk : AW G d mi (pc + 3) L st (T.1, upr T.2 k j v) u kc ks Q) : AW G d mi pc L (.ref v :: .ref k :: st) T u kc ks Q :=
  A_putf (T1 := (T.1, upr T.2 k j v)) (u1 := u) hd hf hq hj (fun _ => hfin) (fun _ => hN _) (fun _ => hfit _) rfl (fun a ha => ⟨rfl, upr_o ha⟩) (fun b hb => ⟨rfl, by simp [upr, hb]⟩) (fun _ => by rw [aw_fv_r ht]; simp [upr, va_rf, aw_cv]) (fun h _ => ⟨fun a b q hq => by
    simp only [upr] at hq
    split at hq
    · cases hq; exact hv
    · exact h.1 a b q hq, h.2⟩) kk
theorem A_iald {G : GG} {d : Nat} {mi : MI} {pc : Nat} {L st : List Value} {T : TT} {u : MU} {kc ks : Nat} {Q : QQ} {k n : Nat} {i : Int32} (hd : decode mi.2.1 pc = .ok (.iaload, 1)) (hq : T.1[k]? = some (0, n)) (hin : vp_in i n) (kk : AW G d mi (pc + 1) L (.int (u k i.toNatClampNeg) :: st) T u kc ks Q) : AW G d mi pc L (.int i :: .ref k :: st) T u kc ks Q := by
  intro p l e R s m args below meth c H locs cells slots A ad ls Qm hC hX hR hL hoL hoS hk hA hret
  refine va_iald (D := G.1) hC.1 hC.2.1 hC.2.2.2.2.2.2.2.1 hR.1 k 0 (aw_ws_at (G := G) (ad := ad) (u := u) hq) rfl hin hd ?_
  exact kk p l e R s m args below meth c H locs cells slots A ad ls Qm hC hX hR hL hoL (aw_oks_i _ (aw_oks_t (aw_oks_t hoS))) hk hA hret
theorem A_aald {G : GG} {d : Nat} {mi : MI} {pc : Nat} {L st : List Value} {T : TT} {u : MU} {kc ks : Nat} {Q : QQ} {k n q : Nat} {i : Int32} (hd : decode mi.2.1 pc = .ok (.aaload, 1)) (hq : T.1[k]? = some (1, n)) (hin : vp_in i n) (hr : T.2 k i.toNatClampNeg = some q) (kk : AW G d mi (pc + 1) L (.ref q :: st) T u kc ks Q) : AW G d mi pc L (.int i :: .ref k :: st) T u kc ks Q := by
  intro p l e R s m args below meth c H locs cells slots A ad ls Qm hC hX hR hL hoL hoS hk hA hret
  refine va_aldq (D := G.1) (C := RX2) hC.1 hC.2.1 hC.2.2.2.2.2.2.2.1 hR.1 k 1 (aw_ws_at (G := G) (ad := ad) (u := u) hq) rfl hin hd ?_
  rw [hr]
  exact kk p l e R s m args below meth c H locs cells slots A ad ls Qm hC hX hR hL hoL (aw_oks_c (Or.inl (hR.2.2.2.1 k _ q hr)) (aw_oks_t (aw_oks_t hoS))) hk hA hret
theorem A_alen {G : GG} {d : Nat} {mi : MI} {pc : Nat} {L st : List Value} {T : TT} {u : MU} {kc ks : Nat} {Q : QQ} {k n : Nat} (v : Int32) (hd : decode mi.2.1 pc = .ok (.arraylength, 1)) (hq : T.1[k]? = some (0, n)) (hv : Int32.ofNat n = v) (kk : AW G d mi (pc + 1) L (.int v :: st) T u kc ks Q) : AW G d mi pc L (.ref k :: st) T u kc ks Q := by
  intro p l e R s m args below meth c H locs cells slots A ad ls Qm hC hX hR hL hoL hoS hk hA hret
  refine va_alen (D := G.1) hC.1 hC.2.1 hC.2.2.2.2.2.2.2.1 hR.1 k 0 (aw_ws_at (G := G) (ad := ad) (u := u) hq) rfl hv hd ?_
  exact kk p l e R s m args below meth c H locs cells slots A ad ls Qm hC hX hR hL hoL (aw_oks_i _ (aw_oks_t hoS)) hk hA hret
theorem A_slen {G : GG} {d : Nat} {mi : MI} {pc : Nat} {L st : List Value} {T : TT} {u : MU} {kc ks : Nat} {Q : QQ} (hd : decode mi.2.1 pc = .ok (.arraylength, 1)) (hx : mi.1 = x) (kk : AW G d mi (pc + 1) L (.int (Int32.ofNat G.2.2.2.1) :: st) T u kc ks Q) : AW G d mi pc L (.ref aw_S :: st) T u kc ks Q := by
  intro p l e R s m args below meth c H locs cells slots A ad ls Qm hC hX hR hL hoL hoS hk hA hret
  obtain ⟨h1, h2, h3⟩ := hX.2 hx
  show W p l e R s m args below meth c H locs cells slots Qm (F0 m pc ls (.ref (ad aw_S) :: st.map (aw_cv ad)))
  rw [hX.1]
  refine va_slen hC.1 hC.2.1 h1 h2 h3 hR.2.2.1 hd ?_
  exact kk p l e R s m args below meth c H locs cells slots A ad ls Qm hC hX hR hL hoL (aw_oks_i _ (aw_oks_t hoS)) hk hA hret
theorem A_sld {G : GG} {d : Nat} {mi : MI} {pc : Nat} {L st : List Value} {T : TT} {u : MU} {kc ks : Nat} {Q : QQ} {i : Int32} (hd : decode mi.2.1 pc = .ok (.iaload, 1)) (hx : mi.1 = x) (hin : vp_in i G.2.2.2.1) (kk : AW G d mi (pc + 1) L (.int (G.2.2.2.2 i.toNatClampNeg) :: st) T u kc ks Q) : AW G d mi pc L (.int i :: .ref aw_S :: st) T u kc ks Q := by
  intro p l e R s m args below meth c H locs cells slots A ad ls Qm hC hX hR hL hoL hoS hk hA hret
  obtain ⟨h1, h2, h3⟩ := hX.2 hx
  show W p l e R s m args below meth c H locs cells slots Qm (F0 m pc ls (.int i :: .ref (ad aw_S) :: st.map (aw_cv ad)))
  rw [hX.1]
  refine va_sld hC.1 hC.2.1 h1 h2 h3 hR.2.2.1 hin hd ?_
  exact kk p l e R s m args below meth c H locs cells slots A ad ls Qm hC hX hR hL hoL (aw_oks_i _ (aw_oks_t (aw_oks_t hoS))) hk hA hret
theorem A_iast {G : GG} {d : Nat} {mi : MI} {pc : Nat} {L st : List Value} {T : TT} {u : MU} {kc ks : Nat} {Q : QQ} {k n : Nat} {i v : Int32} (hd : decode mi.2.1 pc = .ok (.iastore, 1)) (hq : T.1[k]? = some (0, n)) (hin : vp_in i n) (kk : AW G d mi (pc + 1) L st T (up2 u k i.toNatClampNeg v) kc ks Q) : AW G d mi pc L (.int v :: .int i :: .ref k :: st) T u kc ks Q := by
  intro p l e R s m args below meth c H locs cells slots A ad ls Qm hC hX hR hL hoL hoS hk hA hret
  refine va_iast (D := G.1) hC.1 hC.2.1 hC.2.2.2.2.2.2.2.1 hR.1 hR.2.1 hR.2.2.1 k 0 (aw_ws_at (G := G) (ad := ad) (u := u) hq) rfl hin hd (fun H1 locs1 hP hD hS => ?_)
  rw [aw_ws_up (T := T) (T' := T) (u := u) (u' := up2 u k i.toNatClampNeg v) rfl hq (fun a ha => ⟨up2_o ha, rfl⟩) (by
    show Sum.inl (_, n, Sum.inl (up2 u k i.toNatClampNeg v k)) = _
    congr 4
    funext b
    by_cases hb : b = i.toNatClampNeg
    · subst hb; simp [up2, upd]
    · simp [up2, upd, hb])] at hP hD
  exact kk p l e R s m args below meth c H1 locs1 cells slots A ad ls Qm hC hX ⟨hP, hD, hS, hR.2.2.2⟩ hL hoL (aw_oks_t (aw_oks_t (aw_oks_t hoS))) hk hA hret
theorem A_aast {G : GG} {d : Nat} {mi : MI} {pc : Nat} {L st : List Value} {T : TT} {u : MU} {kc ks : Nat} {Q : QQ} {k n v N : Nat} {i : Int32} (hd : decode mi.2.1 pc = .ok (.aastore, 1)) (hq : T.1[k]? = some (1, n)) (hin : vp_in i n) (hv : T.1[v]? = some (4, N)) (kk : AW G d mi (pc + 1) L st (T.1, upr T.2 k i.toNatClampNeg v) u kc ks Q) : AW G d mi pc L (.ref v :: .int i :: .ref k :: st) T u kc ks Q := by
  intro p l e R s m args below meth c H locs cells slots A ad ls Qm hC hX hR hL hoL hoS hk hA hret
  refine va_astq (D := G.1) (r := (RX2, TX2, 6)) hC.1 hC.2.1 hC.2.2.2.2.2.2.2.1 hR.1 hR.2.1 hR.2.2.1 k 1 v 2 (aw_ws_at (G := G) (ad := ad) (u := u) hq) rfl (aw_ws_at (G := G) (ad := ad) (u := u) hv) rfl hin hd (fun H1 locs1 hP hD hS => ?_)
  rw [aw_ws_up (T := T) (T' := (T.1, upr T.2 k i.toNatClampNeg v)) (u := u) (u' := u) rfl hq (fun a ha => ⟨rfl, upr_o ha⟩) (by
    show Sum.inl (_, n, Sum.inr (Sum.inr (Sum.inr (Sum.inr (fun j => (upr T.2 k i.toNatClampNeg v k j).map ad))))) = _
    congr 7
    funext b
    by_cases hb : b = i.toNatClampNeg
    · subst hb; simp [upr, va_up]
    · simp [upr, va_up, hb])] at hP hD
  refine kk p l e R s m args below meth c H1 locs1 cells slots A ad ls Qm hC hX ⟨hP, hD, hS, fun a b q hq2 => ?_, hR.2.2.2.2⟩ hL hoL (aw_oks_t (aw_oks_t (aw_oks_t hoS))) hk hA hret
  simp only [upr] at hq2
  split at hq2
  · cases hq2; exact aw_lt hv
  · exact hR.2.2.2.1 a b q hq2
