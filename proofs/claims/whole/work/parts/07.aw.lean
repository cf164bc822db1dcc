/-! ===== the abstract machine: one memory of places; AW: from here the method returns with Q ===== -/
abbrev TT : Type := List (Nat × Nat) × (Nat → Nat → Option Nat)
abbrev MU : Type := Nat → Nat → Int32
abbrev MI : Type := MethodName × ByteArray × Nat × Option FieldType
abbrev GG : Type := va_G × (ClassId × ClassId) × (Nat × Nat × (Nat → Int32))
abbrev QQ : Type := Option Int32 → TT → MU → Prop
def aw_S : Nat := 1000000
def aw_cv (ad : Nat → Nat) (v : Value) : Value := match v with
  | .ref k => .ref (ad k)
  | w => w
def aw_isR (ty : FieldType) : Bool := match ty with
  | .int => false
  | .boolean => false
  | _ => true
def aw_ty (ci : Nat) : Nat → FieldType := match ci with
  | 0 => tyX0
  | 1 => tyX1
  | 2 => tyX2
  | 3 => tyX3
  | 4 => tyX4
  | _ => tyX5
def aw_fv (ad : Nat → Nat) (ty : FieldType) (x : Int32) (r : Option Nat) : Value := if aw_isR ty = true then va_rf (r.map ad) else .int x
def aw_fs (ad : Nat → Nat) (ci n : Nat) (f : Nat → Int32) (g : Nat → Option Nat) : List Value := (List.range n).map (fun j => aw_fv ad (aw_ty ci j) (f j) (g j))
def aw_cell (G : GG) (ad : Nat → Nat) (T : TT) (u : MU) (k : Nat) (q : Nat × Nat) : va_E := match q with
  | (0, n) => .inl (G.2.1.1, n, .inl (u k))
  | (1, n) => .inl (G.2.1.2, n, .inr (.inr (.inr (.inr (fun j => (T.2 k j).map ad)))))
  | (ci + 2, n) => .inr (ci, aw_fs ad ci n (u k) (T.2 k))
def aw_ws (G : GG) (ad : Nat → Nat) (T : TT) (u : MU) : va_W := T.1.mapIdx (fun k q => (ad k, aw_cell G ad T u k q))
abbrev aw_tys (G : GG) : List (ClassId × FieldType) := [(G.2.1.1, .int), (G.2.1.2, .object RX2)]
def aw_gt : List Cond := lw_tbl.filter goodWord
def aw_isN (w : Cond) : Bool := match w with
  | .fieldLinkNest .. => true
  | .methodLinkNest .. => true
  | _ => false
def aw_nt : List Cond := lw_tbl.filter aw_isN
def up2 (u : MU) (k j : Nat) (x : Int32) : MU := fun a b => if a = k ∧ b = j then x else u a b
def upz (u : MU) (k : Nat) : MU := fun a b => if a = k then 0 else u a b
def upn (g : Nat → Nat → Option Nat) (k : Nat) : Nat → Nat → Option Nat := fun a b => if a = k then none else g a b
def upr (g : Nat → Nat → Option Nat) (k j v : Nat) : Nat → Nat → Option Nat := fun a b => if a = k ∧ b = j then some v else g a b
def upc (u : MU) (k0 k1 sp dp n : Nat) : MU := fun a b => if a = k1 then va_cpy (u k0) (u k1) sp dp n b else u a b
def aw_wf (T : TT) : Prop := (∀ k j q, T.2 k j = some q → q < T.1.length) ∧ T.1.length < 1000
def aw_C (G : GG) (d : Nat) (mi : MI) (p : Program) (R : Room) (s : State) (m : MethodId) (args : Array Value) (meth : Method) (c : Code) : Prop :=
  p.tables.exec = Jvm.exec ∧ c.code = mi.2.1 ∧ c.maxLocals = mi.2.2.1 ∧ s.vm.findClass mi.1.cls = some m.cls ∧ (∀ w ∈ aw_gt, w.before args s = true) ∧ (∀ w ∈ aw_nt, va_Nw w s) ∧ va_AO RX2 s ∧ va_K G.1 vwCl (aw_tys G) s ∧ (d ≤ R.frames ∧ 40 * d ≤ R.locals) ∧ (mi.1.name = "<init>" → meth.name = "<init>")
def aw_X (G : GG) (mi : MI) (ad : Nat → Nat) (A : Nat → Prop) (s : State) : Prop :=
  ad aw_S = G.2.2.1 ∧ (mi.1 = x → va_X G.2.2.1 G.2.2.2.1 G.2.2.2.2 s s.heap ∧ G.2.2.1 < s.heap.size ∧ ¬ A G.2.2.1)
def aw_R (G : GG) (ad : Nat → Nat) (A : Nat → Prop) (T : TT) (u : MU) (H0 H : Heap) (locs : List Loc) : Prop :=
  va_P G.1 vwCl (aw_ws G ad T u) H ∧ va_D A (aw_ws G ad T u) ∧ va_S A H0 H locs ∧ aw_wf T
def aw_sv (v : Value) : Bool := match v with
  | .int _ => true
  | .ref _ => true
  | _ => false
def aw_L (mi : MI) (ad : Nat → Nat) (L : List Value) (ls : Array Slot) : Prop :=
  L.length = mi.2.2.1 ∧ ls.size = mi.2.2.1 ∧ lv_wf ls ∧ ∀ (i : Nat) (v : Value), L[i]? = some v → aw_sv v = true → ls[i]? = some (.val (aw_cv ad v))
def aw_ok (n : Nat) (v : Value) : Prop := match v with
  | .ref k => k < n ∨ k = aw_S
  | _ => True
def aw_okl (n : Nat) (L : List Value) : Prop := ∀ v ∈ L, aw_ok n v
def aw_oks (n : Nat) (st : List Value) : Prop := ∀ v ∈ st, aw_sv v = true ∧ aw_ok n v
def aw_agree (n : Nat) (ad ad' : Nat → Nat) : Prop := (∀ k, k < n → ad' k = ad k) ∧ ad' aw_S = ad aw_S
def aw_ret (mi : MI) (pc : Nat) (r : Option Int32) : Prop := match r with
  | none => decode mi.2.1 pc = .ok (.return_, 1) ∧ mi.2.2.2 = none
  | some v => decode mi.2.1 pc = .ok (.ireturn, 1) ∧ ∃ ty, mi.2.2.2 = some ty ∧ narrow ty (.int v) = .int v
def aw_rv (r : Option Int32) : List Value := match r with
  | none => []
  | some v => [.int v]
def AW (G : GG) (d : Nat) (mi : MI) (pc : Nat) (L st : List Value) (T : TT) (u : MU) (kc ks : Nat) (Q : QQ) : Prop :=
  ∀ (p : Program) (l : Launch) (e : Env) (R : Room) (s : State) (m : MethodId) (args : Array Value) (below : List Frame) (meth : Method) (c : Code) (H : Heap) (locs : List Loc) (cells slots : Nat) (A : Nat → Prop) (ad : Nat → Nat) (ls : Array Slot) (Qm : State → Prop),
    aw_C G d mi p R s m args meth c → aw_X G mi ad A s → aw_R G ad A T u s.heap H locs → aw_L mi ad L ls → aw_okl T.1.length L → aw_oks T.1.length st → (cells + kc ≤ R.cells ∧ slots + ks ≤ R.slots) → (∀ q, s.heap.size ≤ q → A q) →
    (∀ (r : Option Int32) (T' : TT) (u' : MU) (H' : Heap) (locs' : List Loc) (ad' : Nat → Nat) (pc' : Nat) (ls' : Array Slot), Q r T' u' → aw_agree T.1.length ad ad' → T.1.length ≤ T'.1.length → aw_R G ad' A T' u' s.heap H' locs' → aw_ret mi pc' r → W p l e R s m args below meth c H' locs' R.cells R.slots Qm (F0 m pc' ls' (aw_rv r))) →
    W p l e R s m args below meth c H locs cells slots Qm (F0 m pc ls (st.map (aw_cv ad)))
/-! small facts -/
theorem aw_ws_at {G : GG} {ad : Nat → Nat} {T : TT} {u : MU} {k : Nat} {q : Nat × Nat} (h : T.1[k]? = some q) : (aw_ws G ad T u)[k]? = some (ad k, aw_cell G ad T u k q) := by
  simp [aw_ws, h]
theorem aw_ws_inv {G : GG} {ad : Nat → Nat} {T : TT} {u : MU} {k : Nat} {z : Nat × va_E} (h : (aw_ws G ad T u)[k]? = some z) : ∃ q, T.1[k]? = some q ∧ z = (ad k, aw_cell G ad T u k q) := by
  simp only [aw_ws, List.getElem?_mapIdx] at h
  cases hq : T.1[k]? with
  | none => rw [hq] at h; cases h
  | some q => rw [hq] at h; exact ⟨q, rfl, (Option.some.inj h).symm⟩
theorem aw_ws_len {G : GG} {ad : Nat → Nat} {T : TT} {u : MU} : (aw_ws G ad T u).length = T.1.length := by simp [aw_ws]
theorem aw_lt {T : TT} {k : Nat} {q : Nat × Nat} (h : T.1[k]? = some q) : k < T.1.length := (List.getElem?_eq_some_iff.mp h).1
theorem aw_oks_i {n : Nat} {st : List Value} (y : Int32) (h : aw_oks n st) : aw_oks n (.int y :: st) := fun v hv => (List.mem_cons.mp hv).elim (fun e => by subst e; exact ⟨rfl, trivial⟩) (h v)
theorem aw_oks_c {n k : Nat} {st : List Value} (h0 : aw_ok n (.ref k)) (h : aw_oks n st) : aw_oks n (.ref k :: st) := fun v hv => (List.mem_cons.mp hv).elim (fun e => by subst e; exact ⟨rfl, h0⟩) (h v)
theorem aw_oks_t {n : Nat} {v : Value} {st : List Value} (h : aw_oks n (v :: st)) : aw_oks n st := fun w hw => h w (List.mem_cons_of_mem _ hw)
theorem aw_oks_h {n : Nat} {v : Value} {st : List Value} (h : aw_oks n (v :: st)) : aw_ok n v := (h v List.mem_cons_self).2
theorem aw_cat {v : Value} (ad : Nat → Nat) (h : aw_sv v = true) : (aw_cv ad v).category = 1 := by
  cases v <;> first | rfl | (simp [aw_sv] at h)
theorem aw_cv_agree {n : Nat} {ad ad' : Nat → Nat} {v : Value} (h : aw_agree n ad ad') (hv : aw_ok n v) : aw_cv ad' v = aw_cv ad v := by
  cases v with
  | ref k =>
    show Value.ref (ad' k) = Value.ref (ad k)
    rcases hv with hv | hv
    · rw [h.1 k hv]
    · rw [hv, h.2]
  | _ => rfl
theorem aw_st_agree {n : Nat} {ad ad' : Nat → Nat} {st : List Value} (h : aw_agree n ad ad') (hv : aw_oks n st) : st.map (aw_cv ad') = st.map (aw_cv ad) := List.map_congr_left (fun v hm => aw_cv_agree h (hv v hm).2)
theorem aw_L_agree {mi : MI} {n : Nat} {ad ad' : Nat → Nat} {L : List Value} {ls : Array Slot} (h : aw_agree n ad ad') (ho : aw_okl n L) (hL : aw_L mi ad L ls) : aw_L mi ad' L ls :=
  ⟨hL.1, hL.2.1, hL.2.2.1, fun i v hi hv => by rw [aw_cv_agree h (ho v (List.mem_of_getElem? hi))]; exact hL.2.2.2 i v hi hv⟩
theorem aw_ok_mono {n n' : Nat} (h : n ≤ n') {v : Value} (hv : aw_ok n v) : aw_ok n' v := by
  cases v with
  | ref k => exact hv.elim (fun q => Or.inl (Nat.lt_of_lt_of_le q h)) Or.inr
  | _ => trivial
theorem aw_okl_mono {n n' : Nat} (h : n ≤ n') {L : List Value} (hL : aw_okl n L) : aw_okl n' L := fun v hv => aw_ok_mono h (hL v hv)
theorem aw_oks_mono {n n' : Nat} (h : n ≤ n') {L : List Value} (hL : aw_oks n L) : aw_oks n' L := fun v hv => ⟨(hL v hv).1, aw_ok_mono h (hL v hv).2⟩
theorem aw_agree_trans {n n' : Nat} {a b c : Nat → Nat} (h : n ≤ n') (h1 : aw_agree n a b) (h2 : aw_agree n' b c) : aw_agree n a c := ⟨fun k hk => (h2.1 k (Nat.lt_of_lt_of_le hk h)).trans (h1.1 k hk), h2.2.trans h1.2⟩
theorem aw_agree_rf {n : Nat} {a : Nat → Nat} : aw_agree n a a := ⟨fun _ _ => rfl, rfl⟩
def aw_lv (ad : Nat → Nat) (L : List Value) : List (Nat × Value) := (List.range L.length).filterMap (fun i => match L[i]? with
  | some v => if aw_sv v = true then some (i, aw_cv ad v) else none
  | none => none)
theorem aw_lv_mem {ad : Nat → Nat} {L : List Value} {i : Nat} {v : Value} (h : L[i]? = some v) (hv : aw_sv v = true) : (i, aw_cv ad v) ∈ aw_lv ad L := by
  refine List.mem_filterMap.mpr ⟨i, List.mem_range.mpr (List.getElem?_eq_some_iff.mp h).1, ?_⟩
  simp [h, hv]
theorem aw_lv_inv {ad : Nat → Nat} {L : List Value} {q : Nat × Value} (h : q ∈ aw_lv ad L) : ∃ v, L[q.1]? = some v ∧ aw_sv v = true ∧ q.2 = aw_cv ad v := by
  obtain ⟨i, -, hi⟩ := List.mem_filterMap.mp h
  cases hL : L[i]? with
  | none => rw [hL] at hi; cases hi
  | some v =>
    rw [hL] at hi
    by_cases hv : aw_sv v = true
    · simp only [hv, if_true] at hi
      cases hi
      exact ⟨v, hL, hv, rfl⟩
    · simp [hv] at hi
theorem aw_L_has {mi : MI} {ad : Nat → Nat} {L : List Value} {ls : Array Slot} (h : aw_L mi ad L ls) : lv_has ls mi.2.2.1 (aw_lv ad L) := ⟨h.2.1, h.2.2.1, fun q hq => by
  obtain ⟨v, h1, h2, h3⟩ := aw_lv_inv hq
  rw [h3]
  exact h.2.2.2 q.1 v h1 h2⟩
theorem aw_L_set {mi : MI} {ad : Nat → Nat} {L : List Value} {ls ls' : Array Slot} {i : Nat} {v : Value} (h : aw_L mi ad L ls) (h' : lv_has ls' mi.2.2.1 ((i, aw_cv ad v) :: (aw_lv ad L).filter (fun q => !(q.1 == i) && !(q.1 + 1 == i && q.2.category == 2)))) : aw_L mi ad (L.set i v) ls' := by
  refine ⟨by rw [List.length_set]; exact h.1, h'.1, h'.2.1, fun j w hj hw => ?_⟩
  by_cases hji : j = i
  · subst hji
    have hl : j < L.length := by
      have := (List.getElem?_eq_some_iff.mp hj).1
      rwa [List.length_set] at this
    rw [List.getElem?_set_self hl] at hj
    cases hj
    exact h'.2.2 (j, aw_cv ad v) List.mem_cons_self
  · rw [List.getElem?_set_ne (fun e => hji e.symm)] at hj
    refine h'.2.2 (j, aw_cv ad w) (List.mem_cons_of_mem _ (List.mem_filter.mpr ⟨aw_lv_mem hj hw, ?_⟩))
    have hc := aw_cat ad hw
    simp [hji, hc]
theorem aw_okl_set {n : Nat} {L : List Value} {i : Nat} {v : Value} (h : aw_okl n L) (hv : aw_ok n v) : aw_okl n (L.set i v) := fun w hw => (List.mem_or_eq_of_mem_set hw).elim (h w) (fun e => by rw [e]; exact hv)
theorem AW.mono {G : GG} {d d' : Nat} {mi : MI} {pc : Nat} {L st : List Value} {T : TT} {u : MU} {kc ks : Nat} {Q : QQ} (hd : d ≤ d') (h : AW G d mi pc L st T u kc ks Q) : AW G d' mi pc L st T u kc ks Q := by
  intro p l e R s m args below meth c H locs cells slots A ad ls Qm hC
  obtain ⟨c1, c2, c3, c4, c5, c6, c7, c8, ⟨c9, c10⟩, c11⟩ := hC
  exact h p l e R s m args below meth c H locs cells slots A ad ls Qm ⟨c1, c2, c3, c4, c5, c6, c7, c8, ⟨by omega, by omega⟩, c11⟩
theorem AW.post {G : GG} {d : Nat} {mi : MI} {pc : Nat} {L st : List Value} {T : TT} {u : MU} {kc ks : Nat} {Q Q' : QQ} (hq : ∀ r T' u', Q r T' u' → Q' r T' u') (h : AW G d mi pc L st T u kc ks Q) : AW G d mi pc L st T u kc ks Q' := by
  intro p l e R s m args below meth c H locs cells slots A ad ls Qm hC hX hR hL hoL hoS hk hA hret
  exact h p l e R s m args below meth c H locs cells slots A ad ls Qm hC hX hR hL hoL hoS hk hA (fun r T' u' H' locs' ad' pc' ls' q => hret r T' u' H' locs' ad' pc' ls' (hq r T' u' q))

theorem A_iconst {G : GG} {d : Nat} {mi : MI} {pc : Nat} {L st : List Value} {T : TT} {u : MU} {kc ks : Nat} {Q : QQ} {n : Int} (v : Int32) (hd : decode mi.2.1 pc = .ok (.iconst n, 1)) (hv : Int32.ofInt n = v) (kk : AW G d mi (pc + 1) L (.int v :: st) T u kc ks Q) : AW G d mi pc L st T u kc ks Q := by
  intro p l e R s m args below meth c H locs cells slots A ad ls Qm hC hX hR hL hoL hoS hk hA hret
  refine lv_iconst hC.1 hC.2.1 hd hv ?_
  exact kk p l e R s m args below meth c H locs cells slots A ad ls Qm hC hX hR hL hoL (aw_oks_i v hoS) hk hA hret

theorem A_bipush {G : GG} {d : Nat} {mi : MI} {pc : Nat} {L st : List Value} {T : TT} {u : MU} {kc ks : Nat} {Q : QQ} {n : Int} (v : Int32) (hd : decode mi.2.1 pc = .ok (.bipush n, 2)) (hv : (Int8.ofInt n).toInt32 = v) (kk : AW G d mi (pc + 2) L (.int v :: st) T u kc ks Q) : AW G d mi pc L st T u kc ks Q := by
  intro p l e R s m args below meth c H locs cells slots A ad ls Qm hC hX hR hL hoL hoS hk hA hret
  refine lv_bipush hC.1 hC.2.1 hd hv ?_
  exact kk p l e R s m args below meth c H locs cells slots A ad ls Qm hC hX hR hL hoL (aw_oks_i v hoS) hk hA hret

theorem A_sipush {G : GG} {d : Nat} {mi : MI} {pc : Nat} {L st : List Value} {T : TT} {u : MU} {kc ks : Nat} {Q : QQ} {n : Int} (v : Int32) (hd : decode mi.2.1 pc = .ok (.sipush n, 3)) (hv : (Int16.ofInt n).toInt32 = v) (kk : AW G d mi (pc + 3) L (.int v :: st) T u kc ks Q) : AW G d mi pc L st T u kc ks Q := by
  intro p l e R s m args below meth c H locs cells slots A ad ls Qm hC hX hR hL hoL hoS hk hA hret
  refine lv_sipush hC.1 hC.2.1 hd hv ?_
  exact kk p l e R s m args below meth c H locs cells slots A ad ls Qm hC hX hR hL hoL (aw_oks_i v hoS) hk hA hret

theorem A_ldc {G : GG} {d : Nat} {mi : MI} {pc : Nat} {L st : List Value} {T : TT} {u : MU} {kc ks : Nat} {Q : QQ} {index : Nat} {v : Int32} (hd : decode mi.2.1 pc = .ok (.ldc index, 2)) (hw : Cond.constant mi.1.cls index v ∈ aw_gt) (kk : AW G d mi (pc + 2) L (.int v :: st) T u kc ks Q) : AW G d mi pc L st T u kc ks Q := by
  intro p l e R s m args below meth c H locs cells slots A ad ls Qm hC hX hR hL hoL hoS hk hA hret
  refine lv_ldc hC.1 hC.2.1 hC.2.2.2.1 (hC.2.2.2.2.1 _ hw) hd ?_
  exact kk p l e R s m args below meth c H locs cells slots A ad ls Qm hC hX hR hL hoL (aw_oks_i v hoS) hk hA hret

theorem A_ldcw {G : GG} {d : Nat} {mi : MI} {pc : Nat} {L st : List Value} {T : TT} {u : MU} {kc ks : Nat} {Q : QQ} {index : Nat} {v : Int32} (hd : decode mi.2.1 pc = .ok (.ldc_w index, 3)) (hw : Cond.constant mi.1.cls index v ∈ aw_gt) (kk : AW G d mi (pc + 3) L (.int v :: st) T u kc ks Q) : AW G d mi pc L st T u kc ks Q := by
  intro p l e R s m args below meth c H locs cells slots A ad ls Qm hC hX hR hL hoL hoS hk hA hret
  refine lv_ldcw hC.1 hC.2.1 hC.2.2.2.1 (hC.2.2.2.2.1 _ hw) hd ?_
  exact kk p l e R s m args below meth c H locs cells slots A ad ls Qm hC hX hR hL hoL (aw_oks_i v hoS) hk hA hret

theorem A_iloadn {G : GG} {d : Nat} {mi : MI} {pc : Nat} {L st : List Value} {T : TT} {u : MU} {kc ks : Nat} {Q : QQ} {i : Fin 4} {v : Int32} (hd : decode mi.2.1 pc = .ok (.iload_n i, 1)) (hl : L[(i : Nat)]? = some (.int v)) (kk : AW G d mi (pc + 1) L (.int v :: st) T u kc ks Q) : AW G d mi pc L st T u kc ks Q := by
  intro p l e R s m args below meth c H locs cells slots A ad ls Qm hC hX hR hL hoL hoS hk hA hret
  refine lv_iload_n hC.1 hC.2.1 hd rfl (hL.2.2.2 _ _ hl rfl) ?_
  exact kk p l e R s m args below meth c H locs cells slots A ad ls Qm hC hX hR hL hoL (aw_oks_i v hoS) hk hA hret

theorem A_iload {G : GG} {d : Nat} {mi : MI} {pc : Nat} {L st : List Value} {T : TT} {u : MU} {kc ks : Nat} {Q : QQ} {i : Nat} {v : Int32} (hd : decode mi.2.1 pc = .ok (.iload i, 2)) (hl : L[i]? = some (.int v)) (kk : AW G d mi (pc + 2) L (.int v :: st) T u kc ks Q) : AW G d mi pc L st T u kc ks Q := by
  intro p l e R s m args below meth c H locs cells slots A ad ls Qm hC hX hR hL hoL hoS hk hA hret
  refine lv_iload hC.1 hC.2.1 hd (hL.2.2.2 _ _ hl rfl) ?_
  exact kk p l e R s m args below meth c H locs cells slots A ad ls Qm hC hX hR hL hoL (aw_oks_i v hoS) hk hA hret

theorem A_aloadn {G : GG} {d : Nat} {mi : MI} {pc : Nat} {L st : List Value} {T : TT} {u : MU} {kc ks : Nat} {Q : QQ} {i : Fin 4} {v : Nat} (hd : decode mi.2.1 pc = .ok (.aload_n i, 1)) (hl : L[(i : Nat)]? = some (.ref v)) (kk : AW G d mi (pc + 1) L (.ref v :: st) T u kc ks Q) : AW G d mi pc L st T u kc ks Q := by
  intro p l e R s m args below meth c H locs cells slots A ad ls Qm hC hX hR hL hoL hoS hk hA hret
  refine lv_aload_n hC.1 hC.2.1 hd rfl (hL.2.2.2 _ _ hl rfl) ?_
  exact kk p l e R s m args below meth c H locs cells slots A ad ls Qm hC hX hR hL hoL (aw_oks_c (hoL _ (List.mem_of_getElem? hl)) hoS) hk hA hret

theorem A_aload {G : GG} {d : Nat} {mi : MI} {pc : Nat} {L st : List Value} {T : TT} {u : MU} {kc ks : Nat} {Q : QQ} {i : Nat} {v : Nat} (hd : decode mi.2.1 pc = .ok (.aload i, 2)) (hl : L[i]? = some (.ref v)) (kk : AW G d mi (pc + 2) L (.ref v :: st) T u kc ks Q) : AW G d mi pc L st T u kc ks Q := by
  intro p l e R s m args below meth c H locs cells slots A ad ls Qm hC hX hR hL hoL hoS hk hA hret
  refine lv_aload hC.1 hC.2.1 hd (hL.2.2.2 _ _ hl rfl) ?_
  exact kk p l e R s m args below meth c H locs cells slots A ad ls Qm hC hX hR hL hoL (aw_oks_c (hoL _ (List.mem_of_getElem? hl)) hoS) hk hA hret

theorem A_istoren {G : GG} {d : Nat} {mi : MI} {pc : Nat} {L st : List Value} {T : TT} {u : MU} {kc ks : Nat} {Q : QQ} {i : Fin 4} {v : Int32} (hd : decode mi.2.1 pc = .ok (.istore_n i, 1)) (hi : (i : Nat) < L.length) (kk : AW G d mi (pc + 1) (L.set (i : Nat) (.int v)) st T u kc ks Q) : AW G d mi pc L (.int v :: st) T u kc ks Q := by
  intro p l e R s m args below meth c H locs cells slots A ad ls Qm hC hX hR hL hoL hoS hk hA hret
  refine lv_istore_n hC.1 hC.2.1 hd rfl (aw_L_has hL) (by rw [← hL.1]; exact hi) rfl (fun ls2 hl2 => ?_)
  exact kk p l e R s m args below meth c H locs cells slots A ad ls2 Qm hC hX hR (aw_L_set (v := .int v) hL hl2) (aw_okl_set hoL trivial) (aw_oks_t hoS) hk hA hret

theorem A_istore {G : GG} {d : Nat} {mi : MI} {pc : Nat} {L st : List Value} {T : TT} {u : MU} {kc ks : Nat} {Q : QQ} {i : Nat} {v : Int32} (hd : decode mi.2.1 pc = .ok (.istore i, 2)) (hi : i < L.length) (kk : AW G d mi (pc + 2) (L.set i (.int v)) st T u kc ks Q) : AW G d mi pc L (.int v :: st) T u kc ks Q := by
  intro p l e R s m args below meth c H locs cells slots A ad ls Qm hC hX hR hL hoL hoS hk hA hret
  refine lv_istore hC.1 hC.2.1 hd (aw_L_has hL) (by rw [← hL.1]; exact hi) rfl (fun ls2 hl2 => ?_)
  exact kk p l e R s m args below meth c H locs cells slots A ad ls2 Qm hC hX hR (aw_L_set (v := .int v) hL hl2) (aw_okl_set hoL trivial) (aw_oks_t hoS) hk hA hret

theorem A_astoren {G : GG} {d : Nat} {mi : MI} {pc : Nat} {L st : List Value} {T : TT} {u : MU} {kc ks : Nat} {Q : QQ} {i : Fin 4} {v : Nat} (hd : decode mi.2.1 pc = .ok (.astore_n i, 1)) (hi : (i : Nat) < L.length) (kk : AW G d mi (pc + 1) (L.set (i : Nat) (.ref v)) st T u kc ks Q) : AW G d mi pc L (.ref v :: st) T u kc ks Q := by
  intro p l e R s m args below meth c H locs cells slots A ad ls Qm hC hX hR hL hoL hoS hk hA hret
  refine lv_astore_n hC.1 hC.2.1 hd rfl (aw_L_has hL) (by rw [← hL.1]; exact hi) rfl (fun ls2 hl2 => ?_)
  exact kk p l e R s m args below meth c H locs cells slots A ad ls2 Qm hC hX hR (aw_L_set (v := .ref v) hL hl2) (aw_okl_set hoL (aw_oks_h hoS)) (aw_oks_t hoS) hk hA hret

theorem A_astore {G : GG} {d : Nat} {mi : MI} {pc : Nat} {L st : List Value} {T : TT} {u : MU} {kc ks : Nat} {Q : QQ} {i : Nat} {v : Nat} (hd : decode mi.2.1 pc = .ok (.astore i, 2)) (hi : i < L.length) (kk : AW G d mi (pc + 2) (L.set i (.ref v)) st T u kc ks Q) : AW G d mi pc L (.ref v :: st) T u kc ks Q := by
  intro p l e R s m args below meth c H locs cells slots A ad ls Qm hC hX hR hL hoL hoS hk hA hret
  refine lv_astore hC.1 hC.2.1 hd (aw_L_has hL) (by rw [← hL.1]; exact hi) rfl (fun ls2 hl2 => ?_)
  exact kk p l e R s m args below meth c H locs cells slots A ad ls2 Qm hC hX hR (aw_L_set (v := .ref v) hL hl2) (aw_okl_set hoL (aw_oks_h hoS)) (aw_oks_t hoS) hk hA hret

theorem A_iinc {G : GG} {d : Nat} {mi : MI} {pc : Nat} {L st : List Value} {T : TT} {u : MU} {kc ks : Nat} {Q : QQ} {i : Nat} {n : Int} {v : Int32} (w : Int32) (hd : decode mi.2.1 pc = .ok (.iinc i n, 3)) (hl : L[i]? = some (.int v)) (hw : v + Int32.ofInt n = w) (kk : AW G d mi (pc + 3) (L.set i (.int w)) st T u kc ks Q) : AW G d mi pc L st T u kc ks Q := by
  intro p l e R s m args below meth c H locs cells slots A ad ls Qm hC hX hR hL hoL hoS hk hA hret
  obtain ⟨j, hj⟩ := List.getElem?_of_mem (aw_lv_mem (ad := ad) hl rfl)
  refine lv_iinc hC.1 hC.2.1 hd (aw_L_has hL) hj hw (by rw [← hL.1]; exact (List.getElem?_eq_some_iff.mp hl).1) rfl (fun ls2 hl2 => ?_)
  exact kk p l e R s m args below meth c H locs cells slots A ad ls2 Qm hC hX hR (aw_L_set (v := .int w) hL hl2) (aw_okl_set hoL trivial) hoS hk hA hret

theorem A_iadd {G : GG} {d : Nat} {mi : MI} {pc : Nat} {L st : List Value} {T : TT} {u : MU} {kc ks : Nat} {Q : QQ} {v w : Int32} (hd : decode mi.2.1 pc = .ok (.iadd, 1)) (kk : AW G d mi (pc + 1) L (.int (v + w) :: st) T u kc ks Q) : AW G d mi pc L (.int w :: .int v :: st) T u kc ks Q := by
  intro p l e R s m args below meth c H locs cells slots A ad ls Qm hC hX hR hL hoL hoS hk hA hret
  refine lv_iadd hC.1 hC.2.1 hd ?_
  exact kk p l e R s m args below meth c H locs cells slots A ad ls Qm hC hX hR hL hoL (aw_oks_i _ (aw_oks_t (aw_oks_t hoS))) hk hA hret

theorem A_isub {G : GG} {d : Nat} {mi : MI} {pc : Nat} {L st : List Value} {T : TT} {u : MU} {kc ks : Nat} {Q : QQ} {v w : Int32} (hd : decode mi.2.1 pc = .ok (.isub, 1)) (kk : AW G d mi (pc + 1) L (.int (v - w) :: st) T u kc ks Q) : AW G d mi pc L (.int w :: .int v :: st) T u kc ks Q := by
  intro p l e R s m args below meth c H locs cells slots A ad ls Qm hC hX hR hL hoL hoS hk hA hret
  refine lv_isub hC.1 hC.2.1 hd ?_
  exact kk p l e R s m args below meth c H locs cells slots A ad ls Qm hC hX hR hL hoL (aw_oks_i _ (aw_oks_t (aw_oks_t hoS))) hk hA hret

theorem A_imul {G : GG} {d : Nat} {mi : MI} {pc : Nat} {L st : List Value} {T : TT} {u : MU} {kc ks : Nat} {Q : QQ} {v w : Int32} (hd : decode mi.2.1 pc = .ok (.imul, 1)) (kk : AW G d mi (pc + 1) L (.int (v * w) :: st) T u kc ks Q) : AW G d mi pc L (.int w :: .int v :: st) T u kc ks Q := by
  intro p l e R s m args below meth c H locs cells slots A ad ls Qm hC hX hR hL hoL hoS hk hA hret
  refine lv_imul hC.1 hC.2.1 hd ?_
  exact kk p l e R s m args below meth c H locs cells slots A ad ls Qm hC hX hR hL hoL (aw_oks_i _ (aw_oks_t (aw_oks_t hoS))) hk hA hret

theorem A_iand {G : GG} {d : Nat} {mi : MI} {pc : Nat} {L st : List Value} {T : TT} {u : MU} {kc ks : Nat} {Q : QQ} {v w : Int32} (hd : decode mi.2.1 pc = .ok (.iand, 1)) (kk : AW G d mi (pc + 1) L (.int (v &&& w) :: st) T u kc ks Q) : AW G d mi pc L (.int w :: .int v :: st) T u kc ks Q := by
  intro p l e R s m args below meth c H locs cells slots A ad ls Qm hC hX hR hL hoL hoS hk hA hret
  refine lv_iand hC.1 hC.2.1 hd ?_
  exact kk p l e R s m args below meth c H locs cells slots A ad ls Qm hC hX hR hL hoL (aw_oks_i _ (aw_oks_t (aw_oks_t hoS))) hk hA hret

theorem A_ior {G : GG} {d : Nat} {mi : MI} {pc : Nat} {L st : List Value} {T : TT} {u : MU} {kc ks : Nat} {Q : QQ} {v w : Int32} (hd : decode mi.2.1 pc = .ok (.ior, 1)) (kk : AW G d mi (pc + 1) L (.int (v ||| w) :: st) T u kc ks Q) : AW G d mi pc L (.int w :: .int v :: st) T u kc ks Q := by
  intro p l e R s m args below meth c H locs cells slots A ad ls Qm hC hX hR hL hoL hoS hk hA hret
  refine lv_ior hC.1 hC.2.1 hd ?_
  exact kk p l e R s m args below meth c H locs cells slots A ad ls Qm hC hX hR hL hoL (aw_oks_i _ (aw_oks_t (aw_oks_t hoS))) hk hA hret

theorem A_ixor {G : GG} {d : Nat} {mi : MI} {pc : Nat} {L st : List Value} {T : TT} {u : MU} {kc ks : Nat} {Q : QQ} {v w : Int32} (hd : decode mi.2.1 pc = .ok (.ixor, 1)) (kk : AW G d mi (pc + 1) L (.int (v ^^^ w) :: st) T u kc ks Q) : AW G d mi pc L (.int w :: .int v :: st) T u kc ks Q := by
  intro p l e R s m args below meth c H locs cells slots A ad ls Qm hC hX hR hL hoL hoS hk hA hret
  refine lv_ixor hC.1 hC.2.1 hd ?_
  exact kk p l e R s m args below meth c H locs cells slots A ad ls Qm hC hX hR hL hoL (aw_oks_i _ (aw_oks_t (aw_oks_t hoS))) hk hA hret

theorem A_ishl {G : GG} {d : Nat} {mi : MI} {pc : Nat} {L st : List Value} {T : TT} {u : MU} {kc ks : Nat} {Q : QQ} {v w : Int32} (hd : decode mi.2.1 pc = .ok (.ishl, 1)) (kk : AW G d mi (pc + 1) L (.int (v <<< (w &&& 31)) :: st) T u kc ks Q) : AW G d mi pc L (.int w :: .int v :: st) T u kc ks Q := by
  intro p l e R s m args below meth c H locs cells slots A ad ls Qm hC hX hR hL hoL hoS hk hA hret
  refine lv_ishl hC.1 hC.2.1 hd ?_
  exact kk p l e R s m args below meth c H locs cells slots A ad ls Qm hC hX hR hL hoL (aw_oks_i _ (aw_oks_t (aw_oks_t hoS))) hk hA hret

theorem A_ishr {G : GG} {d : Nat} {mi : MI} {pc : Nat} {L st : List Value} {T : TT} {u : MU} {kc ks : Nat} {Q : QQ} {v w : Int32} (hd : decode mi.2.1 pc = .ok (.ishr, 1)) (kk : AW G d mi (pc + 1) L (.int (v >>> (w &&& 31)) :: st) T u kc ks Q) : AW G d mi pc L (.int w :: .int v :: st) T u kc ks Q := by
  intro p l e R s m args below meth c H locs cells slots A ad ls Qm hC hX hR hL hoL hoS hk hA hret
  refine lv_ishr hC.1 hC.2.1 hd ?_
  exact kk p l e R s m args below meth c H locs cells slots A ad ls Qm hC hX hR hL hoL (aw_oks_i _ (aw_oks_t (aw_oks_t hoS))) hk hA hret

theorem A_iushr {G : GG} {d : Nat} {mi : MI} {pc : Nat} {L st : List Value} {T : TT} {u : MU} {kc ks : Nat} {Q : QQ} {v w : Int32} (hd : decode mi.2.1 pc = .ok (.iushr, 1)) (kk : AW G d mi (pc + 1) L (.int (v.toUInt32 >>> (w.toUInt32 &&& Int32.toUInt32 31)).toInt32 :: st) T u kc ks Q) : AW G d mi pc L (.int w :: .int v :: st) T u kc ks Q := by
  intro p l e R s m args below meth c H locs cells slots A ad ls Qm hC hX hR hL hoL hoS hk hA hret
  refine lv_iushr hC.1 hC.2.1 hd rfl ?_
  exact kk p l e R s m args below meth c H locs cells slots A ad ls Qm hC hX hR hL hoL (aw_oks_i _ (aw_oks_t (aw_oks_t hoS))) hk hA hret

theorem A_idiv {G : GG} {d : Nat} {mi : MI} {pc : Nat} {L st : List Value} {T : TT} {u : MU} {kc ks : Nat} {Q : QQ} {v w : Int32} (hd : decode mi.2.1 pc = .ok (.idiv, 1)) (hne : ¬ w = 0) (kk : AW G d mi (pc + 1) L (.int (v / w) :: st) T u kc ks Q) : AW G d mi pc L (.int w :: .int v :: st) T u kc ks Q := by
  intro p l e R s m args below meth c H locs cells slots A ad ls Qm hC hX hR hL hoL hoS hk hA hret
  refine lv_idiv hC.1 hC.2.1 hd hne ?_
  exact kk p l e R s m args below meth c H locs cells slots A ad ls Qm hC hX hR hL hoL (aw_oks_i _ (aw_oks_t (aw_oks_t hoS))) hk hA hret

theorem A_irem {G : GG} {d : Nat} {mi : MI} {pc : Nat} {L st : List Value} {T : TT} {u : MU} {kc ks : Nat} {Q : QQ} {v w : Int32} (hd : decode mi.2.1 pc = .ok (.irem, 1)) (hne : ¬ w = 0) (kk : AW G d mi (pc + 1) L (.int (v - v / w * w) :: st) T u kc ks Q) : AW G d mi pc L (.int w :: .int v :: st) T u kc ks Q := by
  intro p l e R s m args below meth c H locs cells slots A ad ls Qm hC hX hR hL hoL hoS hk hA hret
  refine lv_irem hC.1 hC.2.1 hd hne ?_
  exact kk p l e R s m args below meth c H locs cells slots A ad ls Qm hC hX hR hL hoL (aw_oks_i _ (aw_oks_t (aw_oks_t hoS))) hk hA hret

theorem A_ineg {G : GG} {d : Nat} {mi : MI} {pc : Nat} {L st : List Value} {T : TT} {u : MU} {kc ks : Nat} {Q : QQ} {v : Int32} (hd : decode mi.2.1 pc = .ok (.ineg, 1)) (kk : AW G d mi (pc + 1) L (.int (-v) :: st) T u kc ks Q) : AW G d mi pc L (.int v :: st) T u kc ks Q := by
  intro p l e R s m args below meth c H locs cells slots A ad ls Qm hC hX hR hL hoL hoS hk hA hret
  refine lv_ineg hC.1 hC.2.1 hd ?_
  exact kk p l e R s m args below meth c H locs cells slots A ad ls Qm hC hX hR hL hoL (aw_oks_i _ (aw_oks_t hoS)) hk hA hret

theorem A_dup {G : GG} {d : Nat} {mi : MI} {pc : Nat} {L st : List Value} {T : TT} {u : MU} {kc ks : Nat} {Q : QQ} {v : Value} (hd : decode mi.2.1 pc = .ok (.dup, 1)) (kk : AW G d mi (pc + 1) L (v :: v :: st) T u kc ks Q) : AW G d mi pc L (v :: st) T u kc ks Q := by
  intro p l e R s m args below meth c H locs cells slots A ad ls Qm hC hX hR hL hoL hoS hk hA hret
  refine lv_dup hC.1 hC.2.1 hd (aw_cat ad (hoS v List.mem_cons_self).1) ?_
  exact kk p l e R s m args below meth c H locs cells slots A ad ls Qm hC hX hR hL hoL (List.forall_mem_cons.mpr ⟨hoS v List.mem_cons_self, hoS⟩) hk hA hret

theorem A_dup2 {G : GG} {d : Nat} {mi : MI} {pc : Nat} {L st : List Value} {T : TT} {u : MU} {kc ks : Nat} {Q : QQ} {v w : Value} (hd : decode mi.2.1 pc = .ok (.dup2, 1)) (kk : AW G d mi (pc + 1) L (v :: w :: v :: w :: st) T u kc ks Q) : AW G d mi pc L (v :: w :: st) T u kc ks Q := by
  intro p l e R s m args below meth c H locs cells slots A ad ls Qm hC hX hR hL hoL hoS hk hA hret
  refine lv_dup2_11 hC.1 hC.2.1 hd (aw_cat ad (hoS v List.mem_cons_self).1) (aw_cat ad (hoS w (List.mem_cons_of_mem _ List.mem_cons_self)).1) ?_
  exact kk p l e R s m args below meth c H locs cells slots A ad ls Qm hC hX hR hL hoL (List.forall_mem_cons.mpr ⟨hoS v List.mem_cons_self, List.forall_mem_cons.mpr ⟨hoS w (List.mem_cons_of_mem _ List.mem_cons_self), hoS⟩⟩) hk hA hret

theorem A_goto {G : GG} {d : Nat} {mi : MI} {pc : Nat} {L st : List Value} {T : TT} {u : MU} {kc ks : Nat} {Q : QQ} {off : Int} (tgt : Nat) (hd : decode mi.2.1 pc = .ok (.goto off, 3)) (ht : (pc : Int) + off = (tgt : Int)) (kk : AW G d mi tgt L st T u kc ks Q) : AW G d mi pc L st T u kc ks Q := by
  intro p l e R s m args below meth c H locs cells slots A ad ls Qm hC hX hR hL hoL hoS hk hA hret
  refine lv_goto hC.1 hC.2.1 hd ht ?_
  exact kk p l e R s m args below meth c H locs cells slots A ad ls Qm hC hX hR hL hoL hoS hk hA hret

theorem A_if_eq {G : GG} {d : Nat} {mi : MI} {pc : Nat} {L st : List Value} {T : TT} {u : MU} {kc ks : Nat} {Q : QQ} {v w : Int32} {off : Int} (tgt : Nat) (hd : decode mi.2.1 pc = .ok (.ifCond .eq off, 3)) (ht : (pc : Int) + off = (tgt : Int)) (kt : v = 0 → AW G d mi tgt L st T u kc ks Q) (kf : ¬ (v = 0) → AW G d mi (pc + 3) L st T u kc ks Q) : AW G d mi pc L (.int v :: st) T u kc ks Q := by
  intro p l e R s m args below meth c H locs cells slots A ad ls Qm hC hX hR hL hoL hoS hk hA hret
  refine lv_if_eq hC.1 hC.2.1 hd ht (fun q => ?_) (fun q => ?_)
  · exact kt q p l e R s m args below meth c H locs cells slots A ad ls Qm hC hX hR hL hoL (aw_oks_t hoS) hk hA hret
  · exact kf q p l e R s m args below meth c H locs cells slots A ad ls Qm hC hX hR hL hoL (aw_oks_t hoS) hk hA hret
theorem A_icmp_eq {G : GG} {d : Nat} {mi : MI} {pc : Nat} {L st : List Value} {T : TT} {u : MU} {kc ks : Nat} {Q : QQ} {v w : Int32} {off : Int} (tgt : Nat) (hd : decode mi.2.1 pc = .ok (.if_icmp .eq off, 3)) (ht : (pc : Int) + off = (tgt : Int)) (kt : v = w → AW G d mi tgt L st T u kc ks Q) (kf : ¬ (v = w) → AW G d mi (pc + 3) L st T u kc ks Q) : AW G d mi pc L (.int w :: .int v :: st) T u kc ks Q := by
  intro p l e R s m args below meth c H locs cells slots A ad ls Qm hC hX hR hL hoL hoS hk hA hret
  refine lv_icmp_eq hC.1 hC.2.1 hd ht (fun q => ?_) (fun q => ?_)
  · exact kt q p l e R s m args below meth c H locs cells slots A ad ls Qm hC hX hR hL hoL (aw_oks_t (aw_oks_t hoS)) hk hA hret
  · exact kf q p l e R s m args below meth c H locs cells slots A ad ls Qm hC hX hR hL hoL (aw_oks_t (aw_oks_t hoS)) hk hA hret
theorem A_if_ne {G : GG} {d : Nat} {mi : MI} {pc : Nat} {L st : List Value} {T : TT} {u : MU} {kc ks : Nat} {Q : QQ} {v w : Int32} {off : Int} (tgt : Nat) (hd : decode mi.2.1 pc = .ok (.ifCond .ne off, 3)) (ht : (pc : Int) + off = (tgt : Int)) (kt : ¬ v = 0 → AW G d mi tgt L st T u kc ks Q) (kf : v = 0 → AW G d mi (pc + 3) L st T u kc ks Q) : AW G d mi pc L (.int v :: st) T u kc ks Q := by
  intro p l e R s m args below meth c H locs cells slots A ad ls Qm hC hX hR hL hoL hoS hk hA hret
  refine lv_if_ne hC.1 hC.2.1 hd ht (fun q => ?_) (fun q => ?_)
  · exact kt q p l e R s m args below meth c H locs cells slots A ad ls Qm hC hX hR hL hoL (aw_oks_t hoS) hk hA hret
  · exact kf q p l e R s m args below meth c H locs cells slots A ad ls Qm hC hX hR hL hoL (aw_oks_t hoS) hk hA hret
theorem A_icmp_ne {G : GG} {d : Nat} {mi : MI} {pc : Nat} {L st : List Value} {T : TT} {u : MU} {kc ks : Nat} {Q : QQ} {v w : Int32} {off : Int} (tgt : Nat) (hd : decode mi.2.1 pc = .ok (.if_icmp .ne off, 3)) (ht : (pc : Int) + off = (tgt : Int)) (kt : ¬ v = w → AW G d mi tgt L st T u kc ks Q) (kf : v = w → AW G d mi (pc + 3) L st T u kc ks Q) : AW G d mi pc L (.int w :: .int v :: st) T u kc ks Q := by
  intro p l e R s m args below meth c H locs cells slots A ad ls Qm hC hX hR hL hoL hoS hk hA hret
  refine lv_icmp_ne hC.1 hC.2.1 hd ht (fun q => ?_) (fun q => ?_)
  · exact kt q p l e R s m args below meth c H locs cells slots A ad ls Qm hC hX hR hL hoL (aw_oks_t (aw_oks_t hoS)) hk hA hret
  · exact kf q p l e R s m args below meth c H locs cells slots A ad ls Qm hC hX hR hL hoL (aw_oks_t (aw_oks_t hoS)) hk hA hret
theorem A_if_lt {G : GG} {d : Nat} {mi : MI} {pc : Nat} {L st : List Value} {T : TT} {u : MU} {kc ks : Nat} {Q : QQ} {v w : Int32} {off : Int} (tgt : Nat) (hd : decode mi.2.1 pc = .ok (.ifCond .lt off, 3)) (ht : (pc : Int) + off = (tgt : Int)) (kt : v < 0 → AW G d mi tgt L st T u kc ks Q) (kf : ¬ (v < 0) → AW G d mi (pc + 3) L st T u kc ks Q) : AW G d mi pc L (.int v :: st) T u kc ks Q := by
  intro p l e R s m args below meth c H locs cells slots A ad ls Qm hC hX hR hL hoL hoS hk hA hret
  refine lv_if_lt hC.1 hC.2.1 hd ht (fun q => ?_) (fun q => ?_)
  · exact kt q p l e R s m args below meth c H locs cells slots A ad ls Qm hC hX hR hL hoL (aw_oks_t hoS) hk hA hret
  · exact kf q p l e R s m args below meth c H locs cells slots A ad ls Qm hC hX hR hL hoL (aw_oks_t hoS) hk hA hret
theorem A_icmp_lt {G : GG} {d : Nat} {mi : MI} {pc : Nat} {L st : List Value} {T : TT} {u : MU} {kc ks : Nat} {Q : QQ} {v w : Int32} {off : Int} (tgt : Nat) (hd : decode mi.2.1 pc = .ok (.if_icmp .lt off, 3)) (ht : (pc : Int) + off = (tgt : Int)) (kt : v < w → AW G d mi tgt L st T u kc ks Q) (kf : ¬ (v < w) → AW G d mi (pc + 3) L st T u kc ks Q) : AW G d mi pc L (.int w :: .int v :: st) T u kc ks Q := by
  intro p l e R s m args below meth c H locs cells slots A ad ls Qm hC hX hR hL hoL hoS hk hA hret
  refine lv_icmp_lt hC.1 hC.2.1 hd ht (fun q => ?_) (fun q => ?_)
  · exact kt q p l e R s m args below meth c H locs cells slots A ad ls Qm hC hX hR hL hoL (aw_oks_t (aw_oks_t hoS)) hk hA hret
  · exact kf q p l e R s m args below meth c H locs cells slots A ad ls Qm hC hX hR hL hoL (aw_oks_t (aw_oks_t hoS)) hk hA hret
theorem A_if_ge {G : GG} {d : Nat} {mi : MI} {pc : Nat} {L st : List Value} {T : TT} {u : MU} {kc ks : Nat} {Q : QQ} {v w : Int32} {off : Int} (tgt : Nat) (hd : decode mi.2.1 pc = .ok (.ifCond .ge off, 3)) (ht : (pc : Int) + off = (tgt : Int)) (kt : 0 ≤ v → AW G d mi tgt L st T u kc ks Q) (kf : ¬ (0 ≤ v) → AW G d mi (pc + 3) L st T u kc ks Q) : AW G d mi pc L (.int v :: st) T u kc ks Q := by
  intro p l e R s m args below meth c H locs cells slots A ad ls Qm hC hX hR hL hoL hoS hk hA hret
  refine lv_if_ge hC.1 hC.2.1 hd ht (fun q => ?_) (fun q => ?_)
  · exact kt q p l e R s m args below meth c H locs cells slots A ad ls Qm hC hX hR hL hoL (aw_oks_t hoS) hk hA hret
  · exact kf q p l e R s m args below meth c H locs cells slots A ad ls Qm hC hX hR hL hoL (aw_oks_t hoS) hk hA hret
theorem A_icmp_ge {G : GG} {d : Nat} {mi : MI} {pc : Nat} {L st : List Value} {T : TT} {u : MU} {kc ks : Nat} {Q : QQ} {v w : Int32} {off : Int} (tgt : Nat) (hd : decode mi.2.1 pc = .ok (.if_icmp .ge off, 3)) (ht : (pc : Int) + off = (tgt : Int)) (kt : w ≤ v → AW G d mi tgt L st T u kc ks Q) (kf : ¬ (w ≤ v) → AW G d mi (pc + 3) L st T u kc ks Q) : AW G d mi pc L (.int w :: .int v :: st) T u kc ks Q := by
  intro p l e R s m args below meth c H locs cells slots A ad ls Qm hC hX hR hL hoL hoS hk hA hret
  refine lv_icmp_ge hC.1 hC.2.1 hd ht (fun q => ?_) (fun q => ?_)
  · exact kt q p l e R s m args below meth c H locs cells slots A ad ls Qm hC hX hR hL hoL (aw_oks_t (aw_oks_t hoS)) hk hA hret
  · exact kf q p l e R s m args below meth c H locs cells slots A ad ls Qm hC hX hR hL hoL (aw_oks_t (aw_oks_t hoS)) hk hA hret
theorem A_if_gt {G : GG} {d : Nat} {mi : MI} {pc : Nat} {L st : List Value} {T : TT} {u : MU} {kc ks : Nat} {Q : QQ} {v w : Int32} {off : Int} (tgt : Nat) (hd : decode mi.2.1 pc = .ok (.ifCond .gt off, 3)) (ht : (pc : Int) + off = (tgt : Int)) (kt : 0 < v → AW G d mi tgt L st T u kc ks Q) (kf : ¬ (0 < v) → AW G d mi (pc + 3) L st T u kc ks Q) : AW G d mi pc L (.int v :: st) T u kc ks Q := by
  intro p l e R s m args below meth c H locs cells slots A ad ls Qm hC hX hR hL hoL hoS hk hA hret
  refine lv_if_gt hC.1 hC.2.1 hd ht (fun q => ?_) (fun q => ?_)
  · exact kt q p l e R s m args below meth c H locs cells slots A ad ls Qm hC hX hR hL hoL (aw_oks_t hoS) hk hA hret
  · exact kf q p l e R s m args below meth c H locs cells slots A ad ls Qm hC hX hR hL hoL (aw_oks_t hoS) hk hA hret
theorem A_icmp_gt {G : GG} {d : Nat} {mi : MI} {pc : Nat} {L st : List Value} {T : TT} {u : MU} {kc ks : Nat} {Q : QQ} {v w : Int32} {off : Int} (tgt : Nat) (hd : decode mi.2.1 pc = .ok (.if_icmp .gt off, 3)) (ht : (pc : Int) + off = (tgt : Int)) (kt : w < v → AW G d mi tgt L st T u kc ks Q) (kf : ¬ (w < v) → AW G d mi (pc + 3) L st T u kc ks Q) : AW G d mi pc L (.int w :: .int v :: st) T u kc ks Q := by
  intro p l e R s m args below meth c H locs cells slots A ad ls Qm hC hX hR hL hoL hoS hk hA hret
  refine lv_icmp_gt hC.1 hC.2.1 hd ht (fun q => ?_) (fun q => ?_)
  · exact kt q p l e R s m args below meth c H locs cells slots A ad ls Qm hC hX hR hL hoL (aw_oks_t (aw_oks_t hoS)) hk hA hret
  · exact kf q p l e R s m args below meth c H locs cells slots A ad ls Qm hC hX hR hL hoL (aw_oks_t (aw_oks_t hoS)) hk hA hret
theorem A_if_le {G : GG} {d : Nat} {mi : MI} {pc : Nat} {L st : List Value} {T : TT} {u : MU} {kc ks : Nat} {Q : QQ} {v w : Int32} {off : Int} (tgt : Nat) (hd : decode mi.2.1 pc = .ok (.ifCond .le off, 3)) (ht : (pc : Int) + off = (tgt : Int)) (kt : v ≤ 0 → AW G d mi tgt L st T u kc ks Q) (kf : ¬ (v ≤ 0) → AW G d mi (pc + 3) L st T u kc ks Q) : AW G d mi pc L (.int v :: st) T u kc ks Q := by
  intro p l e R s m args below meth c H locs cells slots A ad ls Qm hC hX hR hL hoL hoS hk hA hret
  refine lv_if_le hC.1 hC.2.1 hd ht (fun q => ?_) (fun q => ?_)
  · exact kt q p l e R s m args below meth c H locs cells slots A ad ls Qm hC hX hR hL hoL (aw_oks_t hoS) hk hA hret
  · exact kf q p l e R s m args below meth c H locs cells slots A ad ls Qm hC hX hR hL hoL (aw_oks_t hoS) hk hA hret
theorem A_icmp_le {G : GG} {d : Nat} {mi : MI} {pc : Nat} {L st : List Value} {T : TT} {u : MU} {kc ks : Nat} {Q : QQ} {v w : Int32} {off : Int} (tgt : Nat) (hd : decode mi.2.1 pc = .ok (.if_icmp .le off, 3)) (ht : (pc : Int) + off = (tgt : Int)) (kt : v ≤ w → AW G d mi tgt L st T u kc ks Q) (kf : ¬ (v ≤ w) → AW G d mi (pc + 3) L st T u kc ks Q) : AW G d mi pc L (.int w :: .int v :: st) T u kc ks Q := by
  intro p l e R s m args below meth c H locs cells slots A ad ls Qm hC hX hR hL hoL hoS hk hA hret
  refine lv_icmp_le hC.1 hC.2.1 hd ht (fun q => ?_) (fun q => ?_)
  · exact kt q p l e R s m args below meth c H locs cells slots A ad ls Qm hC hX hR hL hoL (aw_oks_t (aw_oks_t hoS)) hk hA hret
  · exact kf q p l e R s m args below meth c H locs cells slots A ad ls Qm hC hX hR hL hoL (aw_oks_t (aw_oks_t hoS)) hk hA hret
theorem A_tabIn {G : GG} {d : Nat} {mi : MI} {pc : Nat} {L st : List Value} {T : TT} {u : MU} {kc ks : Nat} {Q : QQ} {v : Int32} {dflt lo hi : Int} {offs : Array Int} {len : Nat} {off : Int} (tgt : Nat) (hd : decode mi.2.1 pc = .ok (.tableswitch dflt lo hi offs, len)) (h1 : ¬ v.toInt < lo) (h2 : ¬ hi < v.toInt) (ho : offs[(v.toInt - lo).toNat]? = some off) (ht : (pc : Int) + off = (tgt : Int)) (kk : AW G d mi tgt L st T u kc ks Q) : AW G d mi pc L (.int v :: st) T u kc ks Q := by
  intro p l e R s m args below meth c H locs cells slots A ad ls Qm hC hX hR hL hoL hoS hk hA hret
  refine lv_tableIn hC.1 hC.2.1 hd h1 h2 ho ht ?_
  exact kk p l e R s m args below meth c H locs cells slots A ad ls Qm hC hX hR hL hoL (aw_oks_t hoS) hk hA hret

theorem A_tabOut {G : GG} {d : Nat} {mi : MI} {pc : Nat} {L st : List Value} {T : TT} {u : MU} {kc ks : Nat} {Q : QQ} {v : Int32} {dflt lo hi : Int} {offs : Array Int} {len : Nat} (tgt : Nat) (hd : decode mi.2.1 pc = .ok (.tableswitch dflt lo hi offs, len)) (h : v.toInt < lo ∨ hi < v.toInt) (ht : (pc : Int) + dflt = (tgt : Int)) (kk : AW G d mi tgt L st T u kc ks Q) : AW G d mi pc L (.int v :: st) T u kc ks Q := by
  intro p l e R s m args below meth c H locs cells slots A ad ls Qm hC hX hR hL hoL hoS hk hA hret
  refine lv_tableOut hC.1 hC.2.1 hd h ht ?_
  exact kk p l e R s m args below meth c H locs cells slots A ad ls Qm hC hX hR hL hoL (aw_oks_t hoS) hk hA hret

theorem A_lookup {G : GG} {d : Nat} {mi : MI} {pc : Nat} {L st : List Value} {T : TT} {u : MU} {kc ks : Nat} {Q : QQ} {v : Int32} {dflt : Int} {ps : Array (Int × Int)} {len : Nat} {off : Int} (tgt : Nat) (hd : decode mi.2.1 pc = .ok (.lookupswitch dflt ps, len)) (hp : (ps.toList.zip (ps.toList.drop 1)).all (fun (a, next) => a.1 < next.1) = true) (ho : Op.lookupswitch.offset ps.toList dflt v.toInt = off) (ht : (pc : Int) + off = (tgt : Int)) (kk : AW G d mi tgt L st T u kc ks Q) : AW G d mi pc L (.int v :: st) T u kc ks Q := by
  intro p l e R s m args below meth c H locs cells slots A ad ls Qm hC hX hR hL hoL hoS hk hA hret
  refine lv_lookup hC.1 hC.2.1 hd hp ho ht ?_
  exact kk p l e R s m args below meth c H locs cells slots A ad ls Qm hC hX hR hL hoL (aw_oks_t hoS) hk hA hret

theorem A_iret {G : GG} {d : Nat} {mi : MI} {pc : Nat} {L : List Value} {T : TT} {u : MU} {kc ks : Nat} {Q : QQ} {v : Int32} {ty : FieldType} (hd : decode mi.2.1 pc = .ok (.ireturn, 1)) (hr : mi.2.2.2 = some ty) (hn : narrow ty (.int v) = .int v) (hq : Q (some v) T u) : AW G d mi pc L [.int v] T u kc ks Q := by
  intro p l e R s m args below meth c H locs cells slots A ad ls Qm hC hX hR hL hoL hoS hk hA hret
  refine W.widen (k := R.cells) (n := R.slots) (by omega) (by omega) ?_
  exact hret (some v) T u H locs ad pc ls hq aw_agree_rf (Nat.le_refl _) hR ⟨hd, ty, hr, hn⟩
theorem A_vret {G : GG} {d : Nat} {mi : MI} {pc : Nat} {L : List Value} {T : TT} {u : MU} {kc ks : Nat} {Q : QQ} (hd : decode mi.2.1 pc = .ok (.return_, 1)) (hr : mi.2.2.2 = none) (hq : Q none T u) : AW G d mi pc L [] T u kc ks Q := by
  intro p l e R s m args below meth c H locs cells slots A ad ls Qm hC hX hR hL hoL hoS hk hA hret
  refine W.widen (k := R.cells) (n := R.slots) (by omega) (by omega) ?_
  exact hret none T u H locs ad pc ls hq aw_agree_rf (Nat.le_refl _) hR ⟨hd, hr⟩
