/-! ===== frames: which places a function leaves alone ===== -/
def Ag (B : Nat → Prop) (u w : MU) : Prop := ∀ k, B k → w k = u k
theorem Ag.rf {B : Nat → Prop} {u : MU} : Ag B u u := fun _ _ => rfl
theorem Ag.up {B : Nat → Prop} {u w : MU} {p j : Nat} {v : Int32} (h : Ag B u w) (hp : ∀ k, B k → k ≠ p) : Ag B u (up2 w p j v) := fun k hk => (up2_o (hp k hk)).trans (h k hk)
theorem Ag.cp {B : Nat → Prop} {u w : MU} {k0 k1 a b c : Nat} (h : Ag B u w) (hp : ∀ k, B k → k ≠ k1) : Ag B u (upc w k0 k1 a b c) := fun k hk => by
  have e : upc w k0 k1 a b c k = w k := by funext i; simp [upc, hp k hk]
  rw [e]; exact h k hk
def FrO (B : Nat → Prop) (u : MU) (o : Option MU) : Prop := ∀ q, o = some q → Ag B u q
def FrP (B : Nat → Prop) (u : MU) (o : Option (Int32 × MU)) : Prop := ∀ q, o = some q → Ag B u q.2
theorem FrO_none {B : Nat → Prop} {u : MU} : FrO B u none := fun q h => by cases h
theorem FrO_some {B : Nat → Prop} {u w : MU} (h : Ag B u w) : FrO B u (some w) := fun q e => by obtain rfl := Option.some.inj e; exact h
theorem FrO_if {B : Nat → Prop} {u : MU} {c : Prop} [Decidable c] {t e : Option MU} (ht : FrO B u t) (he : FrO B u e) : FrO B u (if c then t else e) := by split <;> assumption
theorem FrO_ck {B : Nat → Prop} {u : MU} {x : Int32} {n : Nat} {e : Option MU} (he : x.toNatClampNeg < n → FrO B u e) : FrO B u (if oob x n = true then none else e) := by
  by_cases h : oob x n = true
  · rw [if_pos h]; exact FrO_none
  · rw [if_neg h]; exact he (vpin_lt (oob_f h))
theorem FrO_lm {B : Nat → Prop} {u w : MU} {f : MU → Option MU} (h : Ag B u w) (hf : ∀ w2, Ag B u w2 → FrO B u (f w2)) : FrO B u (letb w f) := hf w h
theorem FrO_lv {B : Nat → Prop} {u : MU} {a : Int32} {f : Int32 → Option MU} (hf : ∀ x, FrO B u (f x)) : FrO B u (letb a f) := hf a
theorem FrO_bv {B : Nat → Prop} {u : MU} {a : Option Int32} {f : Int32 → Option MU} (hf : ∀ x, FrO B u (f x)) : FrO B u (a.bind f) := fun q e => by obtain ⟨x, -, h⟩ := Option.bind_eq_some_iff.mp e; exact hf x q h
theorem FrO_bo {B : Nat → Prop} {u w : MU} {a : Option MU} {f : MU → Option MU} (ha : FrO B w a) (hw : Ag B u w) (hf : ∀ x, Ag B u x → FrO B u (f x)) : FrO B u (a.bind f) := fun q e => by obtain ⟨x, hx, h⟩ := Option.bind_eq_some_iff.mp e; exact hf x (fun k hk => (ha x hx k hk).trans (hw k hk)) q h
theorem FrO_bp {B : Nat → Prop} {u w : MU} {a : Option (Int32 × MU)} {f : Int32 × MU → Option MU} (ha : FrP B w a) (hw : Ag B u w) (hf : ∀ x : Int32 × MU, Ag B u x.2 → FrO B u (f x)) : FrO B u (a.bind f) := fun q e => by obtain ⟨x, hx, h⟩ := Option.bind_eq_some_iff.mp e; exact hf x (fun k hk => (ha x hx k hk).trans (hw k hk)) q h
theorem FrP_none {B : Nat → Prop} {u : MU} : FrP B u none := fun q h => by cases h
theorem FrP_some {B : Nat → Prop} {u w : MU} {v : Int32} (h : Ag B u w) : FrP B u (some (v, w)) := fun q e => by obtain rfl := Option.some.inj e; exact h
theorem FrP_if {B : Nat → Prop} {u : MU} {c : Prop} [Decidable c] {t e : Option (Int32 × MU)} (ht : FrP B u t) (he : FrP B u e) : FrP B u (if c then t else e) := by split <;> assumption
theorem FrP_ck {B : Nat → Prop} {u : MU} {x : Int32} {n : Nat} {e : Option (Int32 × MU)} (he : x.toNatClampNeg < n → FrP B u e) : FrP B u (if oob x n = true then none else e) := by
  by_cases h : oob x n = true
  · rw [if_pos h]; exact FrP_none
  · rw [if_neg h]; exact he (vpin_lt (oob_f h))
theorem FrP_lm {B : Nat → Prop} {u w : MU} {f : MU → Option (Int32 × MU)} (h : Ag B u w) (hf : ∀ w2, Ag B u w2 → FrP B u (f w2)) : FrP B u (letb w f) := hf w h
theorem FrP_lv {B : Nat → Prop} {u : MU} {a : Int32} {f : Int32 → Option (Int32 × MU)} (hf : ∀ x, FrP B u (f x)) : FrP B u (letb a f) := hf a
theorem FrP_bv {B : Nat → Prop} {u : MU} {a : Option Int32} {f : Int32 → Option (Int32 × MU)} (hf : ∀ x, FrP B u (f x)) : FrP B u (a.bind f) := fun q e => by obtain ⟨x, -, h⟩ := Option.bind_eq_some_iff.mp e; exact hf x q h
theorem FrP_bo {B : Nat → Prop} {u w : MU} {a : Option MU} {f : MU → Option (Int32 × MU)} (ha : FrO B w a) (hw : Ag B u w) (hf : ∀ x, Ag B u x → FrP B u (f x)) : FrP B u (a.bind f) := fun q e => by obtain ⟨x, hx, h⟩ := Option.bind_eq_some_iff.mp e; exact hf x (fun k hk => (ha x hx k hk).trans (hw k hk)) q h
theorem FrP_bp {B : Nat → Prop} {u w : MU} {a : Option (Int32 × MU)} {f : Int32 × MU → Option (Int32 × MU)} (ha : FrP B w a) (hw : Ag B u w) (hf : ∀ x : Int32 × MU, Ag B u x.2 → FrP B u (f x)) : FrP B u (a.bind f) := fun q e => by obtain ⟨x, hx, h⟩ := Option.bind_eq_some_iff.mp e; exact hf x (fun k hk => (ha x hx k hk).trans (hw k hk)) q h
set_option maxHeartbeats 2000000 in
theorem gfX0_take {n : Nat} {u : MU} {a1 : Int32} : FrO (fun k => 53 ≤ k) u (zX0_take n u a1) := by
  unfold zX0_take
  repeat' (first | with_reducible exact FrO_none | with_reducible refine FrO_ck (fun _ => ?_) | with_reducible refine FrO_bv (fun _ => ?_) | with_reducible refine FrO_lm ?_ (fun _ _ => ?_) | with_reducible refine FrO_lv (fun _ => ?_) | with_reducible refine FrO_some ?_ | with_reducible assumption | with_reducible exact Ag.rf | (with_reducible refine Ag.up ?_ ?_; rotate_left; (intro k hk; omega)) | (with_reducible refine Ag.cp ?_ ?_; rotate_left; (intro k hk; omega)) | with_reducible refine FrO_if ?_ ?_ | omega)
set_option maxHeartbeats 2000000 in
theorem gfX3_emptyWater_L2 {u : MU} {n : Nat} {r : Nat} {k : Int32 → MU → Option (MU)} (hr : r ≤ 29) (hk : ∀ (y0 : Int32) (w : MU), Ag (fun k => 53 ≤ k) u w → FrO (fun k => 53 ≤ k) u (k y0 w)) : ∀ (m : Nat) (x0 : Int32) (w : MU), Ag (fun k => 53 ≤ k) u w → FrO (fun k => 53 ≤ k) u (zX3_emptyWater_L2 n r k m x0 w) := by
  intro m
  induction m with
  | zero => intros; exact FrO_none
  | succ m ih =>
    intro x0 w hw
    rw [zX3_emptyWater_L2]
    repeat' (first | with_reducible exact FrO_none | with_reducible refine FrO_ck (fun _ => ?_) | with_reducible refine ih _ _ ?_ | with_reducible refine hk _ _ ?_ | with_reducible refine FrO_bv (fun _ => ?_) | with_reducible refine FrO_lm ?_ (fun _ _ => ?_) | with_reducible refine FrO_lv (fun _ => ?_) | with_reducible refine FrO_some ?_ | with_reducible assumption | with_reducible exact Ag.rf | (with_reducible refine Ag.up ?_ ?_; rotate_left; (intro k hk; omega)) | (with_reducible refine Ag.cp ?_ ?_; rotate_left; (intro k hk; omega)) | with_reducible refine FrO_if ?_ ?_ | omega)
set_option maxHeartbeats 2000000 in
theorem gfX3_emptyWater {n : Nat} {u : MU} {r : Nat} (hr : r ≤ 29) : FrO (fun k => 53 ≤ k) u (zX3_emptyWater n u r) := by
  unfold zX3_emptyWater
  repeat' (first | with_reducible exact FrO_none | with_reducible refine FrO_ck (fun _ => ?_) | with_reducible refine gfX3_emptyWater_L2 hr (fun _ _ _ => ?_) _ _ _ ?_ | with_reducible refine FrO_bv (fun _ => ?_) | with_reducible refine FrO_lm ?_ (fun _ _ => ?_) | with_reducible refine FrO_lv (fun _ => ?_) | with_reducible refine FrO_some ?_ | with_reducible assumption | with_reducible exact Ag.rf | (with_reducible refine Ag.up ?_ ?_; rotate_left; (intro k hk; omega)) | (with_reducible refine Ag.cp ?_ ?_; rotate_left; (intro k hk; omega)) | with_reducible refine FrO_if ?_ ?_ | omega)
set_option maxHeartbeats 2000000 in
theorem gfX3_tellYards_L19 {u : MU} {n : Nat} {r : Nat} {k : Int32 → MU → Option (Int32 × MU)} (hr : r ≤ 29) (hk : ∀ (y0 : Int32) (w : MU), Ag (fun k => 53 ≤ k) u w → FrP (fun k => 53 ≤ k) u (k y0 w)) : ∀ (m : Nat) (x0 : Int32) (w : MU), Ag (fun k => 53 ≤ k) u w → FrP (fun k => 53 ≤ k) u (zX3_tellYards_L19 n r k m x0 w) := by
  intro m
  induction m with
  | zero => intros; exact FrP_none
  | succ m ih =>
    intro x0 w hw
    rw [zX3_tellYards_L19]
    repeat' (first | with_reducible exact FrP_none | with_reducible refine FrP_ck (fun _ => ?_) | with_reducible refine ih _ _ ?_ | with_reducible refine hk _ _ ?_ | with_reducible refine FrP_bo (gfX3_emptyWater ?_) ?_ (fun _ _ => ?_) | with_reducible refine FrP_bv (fun _ => ?_) | with_reducible refine FrP_lm ?_ (fun _ _ => ?_) | with_reducible refine FrP_lv (fun _ => ?_) | with_reducible refine FrP_some ?_ | with_reducible assumption | with_reducible exact Ag.rf | (with_reducible refine Ag.up ?_ ?_; rotate_left; (intro k hk; omega)) | (with_reducible refine Ag.cp ?_ ?_; rotate_left; (intro k hk; omega)) | with_reducible refine FrP_if ?_ ?_ | omega)
set_option maxHeartbeats 2000000 in
theorem gfX3_tellYards {n : Nat} {u : MU} {r : Nat} {a1 : Int32} (hr : r ≤ 29) : FrP (fun k => 53 ≤ k) u (zX3_tellYards n u r a1) := by
  unfold zX3_tellYards
  repeat' (first | with_reducible exact FrP_none | with_reducible refine FrP_ck (fun _ => ?_) | with_reducible refine gfX3_tellYards_L19 hr (fun _ _ _ => ?_) _ _ _ ?_ | with_reducible refine FrP_bo (gfX3_emptyWater ?_) ?_ (fun _ _ => ?_) | with_reducible refine FrP_bv (fun _ => ?_) | with_reducible refine FrP_lm ?_ (fun _ _ => ?_) | with_reducible refine FrP_lv (fun _ => ?_) | with_reducible refine FrP_some ?_ | with_reducible assumption | with_reducible exact Ag.rf | (with_reducible refine Ag.up ?_ ?_; rotate_left; (intro k hk; omega)) | (with_reducible refine Ag.cp ?_ ?_; rotate_left; (intro k hk; omega)) | with_reducible refine FrP_if ?_ ?_ | omega)
set_option maxHeartbeats 2000000 in
theorem gfX3_tellYard {n : Nat} {u : MU} {r : Nat} {a1 : Int32} {a2 : Int32} {a3 : Int32} (hr : r ≤ 29) : FrP (fun k => 53 ≤ k) u (zX3_tellYard n u r a1 a2 a3) := by
  unfold zX3_tellYard
  repeat' (first | with_reducible exact FrP_none | with_reducible refine FrP_ck (fun _ => ?_) | with_reducible refine FrP_bv (fun _ => ?_) | with_reducible refine FrP_lm ?_ (fun _ _ => ?_) | with_reducible refine FrP_lv (fun _ => ?_) | with_reducible refine FrP_some ?_ | with_reducible assumption | with_reducible exact Ag.rf | (with_reducible refine Ag.up ?_ ?_; rotate_left; (intro k hk; omega)) | (with_reducible refine Ag.cp ?_ ?_; rotate_left; (intro k hk; omega)) | with_reducible refine FrP_if ?_ ?_ | omega)
set_option maxHeartbeats 2000000 in
theorem gfX3_tellPerson {n : Nat} {u : MU} {r : Nat} {a1 : Int32} {a2 : Int32} {a3 : Int32} {a4 : Int32} {a5 : Int32} (hr : r ≤ 29) : FrP (fun k => 53 ≤ k) u (zX3_tellPerson n u r a1 a2 a3 a4 a5) := by
  unfold zX3_tellPerson
  repeat' (first | with_reducible exact FrP_none | with_reducible refine FrP_ck (fun _ => ?_) | with_reducible refine FrP_bv (fun _ => ?_) | with_reducible refine FrP_lm ?_ (fun _ _ => ?_) | with_reducible refine FrP_lv (fun _ => ?_) | with_reducible refine FrP_some ?_ | with_reducible assumption | with_reducible exact Ag.rf | (with_reducible refine Ag.up ?_ ?_; rotate_left; (intro k hk; omega)) | (with_reducible refine Ag.cp ?_ ?_; rotate_left; (intro k hk; omega)) | with_reducible refine FrP_if ?_ ?_ | omega)
set_option maxHeartbeats 2000000 in
theorem gfX3_setGrudge {n : Nat} {u : MU} {r : Nat} {a1 : Int32} {a2 : Int32} {a3 : Int32} (hr : r ≤ 29) : FrO (fun k => 53 ≤ k) u (zX3_setGrudge n u r a1 a2 a3) := by
  unfold zX3_setGrudge
  repeat' (first | with_reducible exact FrO_none | with_reducible refine FrO_ck (fun _ => ?_) | with_reducible refine FrO_bv (fun _ => ?_) | with_reducible refine FrO_lm ?_ (fun _ _ => ?_) | with_reducible refine FrO_lv (fun _ => ?_) | with_reducible refine FrO_some ?_ | with_reducible assumption | with_reducible exact Ag.rf | (with_reducible refine Ag.up ?_ ?_; rotate_left; (intro k hk; omega)) | (with_reducible refine Ag.cp ?_ ?_; rotate_left; (intro k hk; omega)) | with_reducible refine FrO_if ?_ ?_ | omega)
set_option maxHeartbeats 2000000 in
theorem gfX3_tellGrudge {n : Nat} {u : MU} {r : Nat} {a1 : Int32} {a2 : Int32} (hr : r ≤ 29) : FrP (fun k => 53 ≤ k) u (zX3_tellGrudge n u r a1 a2) := by
  unfold zX3_tellGrudge
  repeat' (first | with_reducible exact FrP_none | with_reducible refine FrP_ck (fun _ => ?_) | with_reducible refine FrP_bo (gfX3_setGrudge ?_) ?_ (fun _ _ => ?_) | with_reducible refine FrP_bv (fun _ => ?_) | with_reducible refine FrP_lm ?_ (fun _ _ => ?_) | with_reducible refine FrP_lv (fun _ => ?_) | with_reducible refine FrP_some ?_ | with_reducible assumption | with_reducible exact Ag.rf | (with_reducible refine Ag.up ?_ ?_; rotate_left; (intro k hk; omega)) | (with_reducible refine Ag.cp ?_ ?_; rotate_left; (intro k hk; omega)) | with_reducible refine FrP_if ?_ ?_ | omega)
set_option maxHeartbeats 2000000 in
theorem gfX3_enter_L2 {u : MU} {n : Nat} {r : Nat} {s1 : Int32} {s2 : Int32} {k : Int32 → MU → Option (MU)} (hr : r ≤ 29) (hk : ∀ (y0 : Int32) (w : MU), Ag (fun k => 53 ≤ k) u w → FrO (fun k => 53 ≤ k) u (k y0 w)) : ∀ (m : Nat) (x0 : Int32) (w : MU), Ag (fun k => 53 ≤ k) u w → FrO (fun k => 53 ≤ k) u (zX3_enter_L2 n r s1 s2 k m x0 w) := by
  intro m
  induction m with
  | zero => intros; exact FrO_none
  | succ m ih =>
    intro x0 w hw
    rw [zX3_enter_L2]
    repeat' (first | with_reducible exact FrO_none | with_reducible refine FrO_ck (fun _ => ?_) | with_reducible refine ih _ _ ?_ | with_reducible refine hk _ _ ?_ | with_reducible refine FrO_bv (fun _ => ?_) | with_reducible refine FrO_lm ?_ (fun _ _ => ?_) | with_reducible refine FrO_lv (fun _ => ?_) | with_reducible refine FrO_some ?_ | with_reducible assumption | with_reducible exact Ag.rf | (with_reducible refine Ag.up ?_ ?_; rotate_left; (intro k hk; omega)) | (with_reducible refine Ag.cp ?_ ?_; rotate_left; (intro k hk; omega)) | with_reducible refine FrO_if ?_ ?_ | omega)
set_option maxHeartbeats 2000000 in
theorem gfX3_enter {n : Nat} {u : MU} {r : Nat} {a1 : Int32} {a2 : Int32} (hr : r ≤ 29) : FrO (fun k => 53 ≤ k) u (zX3_enter n u r a1 a2) := by
  unfold zX3_enter
  repeat' (first | with_reducible exact FrO_none | with_reducible refine FrO_ck (fun _ => ?_) | with_reducible refine gfX3_enter_L2 hr (fun _ _ _ => ?_) _ _ _ ?_ | with_reducible refine FrO_bv (fun _ => ?_) | with_reducible refine FrO_lm ?_ (fun _ _ => ?_) | with_reducible refine FrO_lv (fun _ => ?_) | with_reducible refine FrO_some ?_ | with_reducible assumption | with_reducible exact Ag.rf | (with_reducible refine Ag.up ?_ ?_; rotate_left; (intro k hk; omega)) | (with_reducible refine Ag.cp ?_ ?_; rotate_left; (intro k hk; omega)) | with_reducible refine FrO_if ?_ ?_ | omega)
set_option maxHeartbeats 2000000 in
theorem gfX3_tellIn {n : Nat} {u : MU} {r : Nat} {a1 : Int32} {a2 : Int32} (hr : r ≤ 29) : FrP (fun k => 53 ≤ k) u (zX3_tellIn n u r a1 a2) := by
  unfold zX3_tellIn
  repeat' (first | with_reducible exact FrP_none | with_reducible refine FrP_ck (fun _ => ?_) | with_reducible refine FrP_bo (gfX3_enter ?_) ?_ (fun _ _ => ?_) | with_reducible refine FrP_bv (fun _ => ?_) | with_reducible refine FrP_lm ?_ (fun _ _ => ?_) | with_reducible refine FrP_lv (fun _ => ?_) | with_reducible refine FrP_some ?_ | with_reducible assumption | with_reducible exact Ag.rf | (with_reducible refine Ag.up ?_ ?_; rotate_left; (intro k hk; omega)) | (with_reducible refine Ag.cp ?_ ?_; rotate_left; (intro k hk; omega)) | with_reducible refine FrP_if ?_ ?_ | omega)
set_option maxHeartbeats 2000000 in
theorem gfX0_tellStatement {n : Nat} {u : MU} {r1 : Nat} {a2 : Int32} (hr1 : r1 ≤ 29) : FrP (fun k => 53 ≤ k) u (zX0_tellStatement n u r1 a2) := by
  unfold zX0_tellStatement
  repeat' (first | with_reducible exact FrP_none | with_reducible refine FrP_ck (fun _ => ?_) | with_reducible refine FrP_bp (gfX3_tellYards ?_) ?_ (fun _ _ => ?_) | with_reducible refine FrP_bp (gfX3_tellYard ?_) ?_ (fun _ _ => ?_) | with_reducible refine FrP_bp (gfX3_tellPerson ?_) ?_ (fun _ _ => ?_) | with_reducible refine FrP_bp (gfX3_tellGrudge ?_) ?_ (fun _ _ => ?_) | with_reducible refine FrP_bp (gfX3_tellIn ?_) ?_ (fun _ _ => ?_) | with_reducible refine FrP_bv (fun _ => ?_) | with_reducible refine FrP_lm ?_ (fun _ _ => ?_) | with_reducible refine FrP_lv (fun _ => ?_) | with_reducible refine FrP_some ?_ | with_reducible assumption | with_reducible exact Ag.rf | (with_reducible refine Ag.up ?_ ?_; rotate_left; (intro k hk; omega)) | (with_reducible refine Ag.cp ?_ ?_; rotate_left; (intro k hk; omega)) | with_reducible refine FrP_if ?_ ?_ | omega)
set_option maxHeartbeats 2000000 in
theorem gfX0_tellTo_L4 {u : MU} {n : Nat} {r1 : Nat} {k : Int32 → Int32 → MU → Option (Int32 × MU)} (hr1 : r1 ≤ 29) (hk : ∀ (y0 : Int32) (y1 : Int32) (w : MU), Ag (fun k => 53 ≤ k) u w → FrP (fun k => 53 ≤ k) u (k y0 y1 w)) : ∀ (m : Nat) (x0 : Int32) (x1 : Int32) (w : MU), Ag (fun k => 53 ≤ k) u w → FrP (fun k => 53 ≤ k) u (zX0_tellTo_L4 n r1 k m x0 x1 w) := by
  intro m
  induction m with
  | zero => intros; exact FrP_none
  | succ m ih =>
    intro x0 x1 w hw
    rw [zX0_tellTo_L4]
    repeat' (first | with_reducible exact FrP_none | with_reducible refine FrP_ck (fun _ => ?_) | with_reducible refine ih _ _ _ ?_ | with_reducible refine hk _ _ _ ?_ | with_reducible refine FrP_bp (gfX0_tellStatement ?_) ?_ (fun _ _ => ?_) | with_reducible refine FrP_bv (fun _ => ?_) | with_reducible refine FrP_lm ?_ (fun _ _ => ?_) | with_reducible refine FrP_lv (fun _ => ?_) | with_reducible refine FrP_some ?_ | with_reducible assumption | with_reducible exact Ag.rf | (with_reducible refine Ag.up ?_ ?_; rotate_left; (intro k hk; omega)) | (with_reducible refine Ag.cp ?_ ?_; rotate_left; (intro k hk; omega)) | with_reducible refine FrP_if ?_ ?_ | omega)
set_option maxHeartbeats 2000000 in
theorem gfX0_tellTo {n : Nat} {u : MU} {r1 : Nat} (hr1 : r1 ≤ 29) : FrP (fun k => 53 ≤ k) u (zX0_tellTo n u r1) := by
  unfold zX0_tellTo
  repeat' (first | with_reducible exact FrP_none | with_reducible refine FrP_ck (fun _ => ?_) | with_reducible refine gfX0_tellTo_L4 hr1 (fun _ _ _ _ => ?_) _ _ _ _ ?_ | with_reducible refine FrP_bp (gfX0_tellStatement ?_) ?_ (fun _ _ => ?_) | with_reducible refine FrP_bv (fun _ => ?_) | with_reducible refine FrP_lm ?_ (fun _ _ => ?_) | with_reducible refine FrP_lv (fun _ => ?_) | with_reducible refine FrP_some ?_ | with_reducible assumption | with_reducible exact Ag.rf | (with_reducible refine Ag.up ?_ ?_; rotate_left; (intro k hk; omega)) | (with_reducible refine Ag.cp ?_ ?_; rotate_left; (intro k hk; omega)) | with_reducible refine FrP_if ?_ ?_ | omega)
set_option maxHeartbeats 2000000 in
theorem gfX1_weigh_L74 {u : MU} {n : Nat} {s1 : Int32} {k : Int32 → MU → Option (MU)} (hk : ∀ (y0 : Int32) (w : MU), Ag (fun k => 53 ≤ k) u w → FrO (fun k => 53 ≤ k) u (k y0 w)) : ∀ (m : Nat) (x0 : Int32) (w : MU), Ag (fun k => 53 ≤ k) u w → FrO (fun k => 53 ≤ k) u (zX1_weigh_L74 n s1 k m x0 w) := by
  intro m
  induction m with
  | zero => intros; exact FrO_none
  | succ m ih =>
    intro x0 w hw
    rw [zX1_weigh_L74]
    repeat' (first | with_reducible exact FrO_none | with_reducible refine FrO_ck (fun _ => ?_) | with_reducible refine ih _ _ ?_ | with_reducible refine hk _ _ ?_ | with_reducible refine FrO_bv (fun _ => ?_) | with_reducible refine FrO_lm ?_ (fun _ _ => ?_) | with_reducible refine FrO_lv (fun _ => ?_) | with_reducible refine FrO_some ?_ | with_reducible assumption | with_reducible exact Ag.rf | (with_reducible refine Ag.up ?_ ?_; rotate_left; (intro k hk; omega)) | (with_reducible refine Ag.cp ?_ ?_; rotate_left; (intro k hk; omega)) | with_reducible refine FrO_if ?_ ?_ | omega)
set_option maxHeartbeats 2000000 in
theorem gfX1_weigh {n : Nat} {u : MU} {a1 : Int32} {a2 : Int32} {a3 : Int32} : FrO (fun k => 53 ≤ k) u (zX1_weigh n u a1 a2 a3) := by
  unfold zX1_weigh
  repeat' (first | with_reducible exact FrO_none | with_reducible refine FrO_ck (fun _ => ?_) | with_reducible refine gfX1_weigh_L74 (fun _ _ _ => ?_) _ _ _ ?_ | with_reducible refine FrO_bv (fun _ => ?_) | with_reducible refine FrO_lm ?_ (fun _ _ => ?_) | with_reducible refine FrO_lv (fun _ => ?_) | with_reducible refine FrO_some ?_ | with_reducible assumption | with_reducible exact Ag.rf | (with_reducible refine Ag.up ?_ ?_; rotate_left; (intro k hk; omega)) | (with_reducible refine Ag.cp ?_ ?_; rotate_left; (intro k hk; omega)) | with_reducible refine FrO_if ?_ ?_ | omega)
set_option maxHeartbeats 2000000 in
theorem gfX1_extend_L24 {u : MU} {n : Nat} {rec : MU → Nat → Int32 → Int32 → Int32 → Int32 → Option (MU)} {r1 : Nat} {s2 : Int32} {s3 : Int32} {s4 : Int32} {s5 : Int32} {k : Int32 → MU → Option (MU)} (hr1 : r1 ≤ 29) (hrec : ∀ (w : MU) (r1 : Nat) (a2 a3 a4 a5 : Int32), r1 ≤ 29 → FrO (fun k => 53 ≤ k) w (rec w r1 a2 a3 a4 a5)) (hk : ∀ (y0 : Int32) (w : MU), Ag (fun k => 53 ≤ k) u w → FrO (fun k => 53 ≤ k) u (k y0 w)) : ∀ (m : Nat) (x0 : Int32) (w : MU), Ag (fun k => 53 ≤ k) u w → FrO (fun k => 53 ≤ k) u (zX1_extend_L24 n rec r1 s2 s3 s4 s5 k m x0 w) := by
  intro m
  induction m with
  | zero => intros; exact FrO_none
  | succ m ih =>
    intro x0 w hw
    rw [zX1_extend_L24]
    repeat' (first | with_reducible exact FrO_none | with_reducible refine FrO_ck (fun _ => ?_) | with_reducible refine ih _ _ ?_ | with_reducible refine hk _ _ ?_ | with_reducible refine FrO_bo (hrec _ _ _ _ _ _ ?_) ?_ (fun _ _ => ?_) | with_reducible refine FrO_bo (gfX1_weigh ) ?_ (fun _ _ => ?_) | with_reducible refine FrO_bv (fun _ => ?_) | with_reducible refine FrO_lm ?_ (fun _ _ => ?_) | with_reducible refine FrO_lv (fun _ => ?_) | with_reducible refine FrO_some ?_ | with_reducible assumption | with_reducible exact Ag.rf | (with_reducible refine Ag.up ?_ ?_; rotate_left; (intro k hk; omega)) | (with_reducible refine Ag.cp ?_ ?_; rotate_left; (intro k hk; omega)) | with_reducible refine FrO_if ?_ ?_ | omega)
set_option maxHeartbeats 2000000 in
theorem gfX1_extend_B {n : Nat} {rec : MU → Nat → Int32 → Int32 → Int32 → Int32 → Option MU} {u : MU} {r1 : Nat} {a2 : Int32} {a3 : Int32} {a4 : Int32} {a5 : Int32} (hr1 : r1 ≤ 29) (hrec : ∀ (w : MU) (r1 : Nat) (a2 a3 a4 a5 : Int32), r1 ≤ 29 → FrO (fun k => 53 ≤ k) w (rec w r1 a2 a3 a4 a5)) : FrO (fun k => 53 ≤ k) u (zX1_extend_B n rec u r1 a2 a3 a4 a5) := by
  unfold zX1_extend_B
  repeat' (first | with_reducible exact FrO_none | with_reducible refine FrO_ck (fun _ => ?_) | with_reducible refine gfX1_extend_L24 hr1 hrec (fun _ _ _ => ?_) _ _ _ ?_ | with_reducible refine FrO_bo (gfX1_weigh ) ?_ (fun _ _ => ?_) | with_reducible refine FrO_bv (fun _ => ?_) | with_reducible refine FrO_lm ?_ (fun _ _ => ?_) | with_reducible refine FrO_lv (fun _ => ?_) | with_reducible refine FrO_some ?_ | with_reducible assumption | with_reducible exact Ag.rf | (with_reducible refine Ag.up ?_ ?_; rotate_left; (intro k hk; omega)) | (with_reducible refine Ag.cp ?_ ?_; rotate_left; (intro k hk; omega)) | with_reducible refine FrO_if ?_ ?_ | omega)
theorem gfX1_extend {n : Nat} : ∀ (p : Nat) {u : MU} {r1 : Nat} {a2 : Int32} {a3 : Int32} {a4 : Int32} {a5 : Int32} (hr1 : r1 ≤ 29), FrO (fun k => 53 ≤ k) u (zX1_extend n p u r1 a2 a3 a4 a5)
  | 0, _, _, _, _, _, _, _ => FrO_none
  | p + 1, _, _, _, _, _, _, h => gfX1_extend_B h (fun _ _ _ _ _ _ h2 => gfX1_extend p h2)
set_option maxHeartbeats 2000000 in
theorem gfX1_thinkOf_L18 {u : MU} {n : Nat} {r1 : Nat} {s2 : Int32} {k : Int32 → MU → Option (MU)} (hr1 : r1 ≤ 29) (hk : ∀ (y0 : Int32) (w : MU), Ag (fun k => 53 ≤ k) u w → FrO (fun k => 53 ≤ k) u (k y0 w)) : ∀ (m : Nat) (x0 : Int32) (w : MU), Ag (fun k => 53 ≤ k) u w → FrO (fun k => 53 ≤ k) u (zX1_thinkOf_L18 n r1 s2 k m x0 w) := by
  intro m
  induction m with
  | zero => intros; exact FrO_none
  | succ m ih =>
    intro x0 w hw
    rw [zX1_thinkOf_L18]
    repeat' (first | with_reducible exact FrO_none | with_reducible refine FrO_ck (fun _ => ?_) | with_reducible refine ih _ _ ?_ | with_reducible refine hk _ _ ?_ | with_reducible refine gfX1_thinkOf_L58 hr1 (fun _ _ _ => ?_) _ _ _ ?_ | with_reducible refine FrO_bo (gfX1_extend 8 ?_) ?_ (fun _ _ => ?_) | with_reducible refine FrO_bv (fun _ => ?_) | with_reducible refine FrO_lm ?_ (fun _ _ => ?_) | with_reducible refine FrO_lv (fun _ => ?_) | with_reducible refine FrO_some ?_ | with_reducible assumption | with_reducible exact Ag.rf | (with_reducible refine Ag.up ?_ ?_; rotate_left; (intro k hk; omega)) | (with_reducible refine Ag.cp ?_ ?_; rotate_left; (intro k hk; omega)) | with_reducible refine FrO_if ?_ ?_ | omega)
set_option maxHeartbeats 2000000 in
theorem gfX1_thinkOf_L58 {u : MU} {n : Nat} {r1 : Nat} {s2 : Int32} {k : Int32 → MU → Option (MU)} (hr1 : r1 ≤ 29) (hk : ∀ (y0 : Int32) (w : MU), Ag (fun k => 53 ≤ k) u w → FrO (fun k => 53 ≤ k) u (k y0 w)) : ∀ (m : Nat) (x0 : Int32) (w : MU), Ag (fun k => 53 ≤ k) u w → FrO (fun k => 53 ≤ k) u (zX1_thinkOf_L58 n r1 s2 k m x0 w) := by
  intro m
  induction m with
  | zero => intros; exact FrO_none
  | succ m ih =>
    intro x0 w hw
    rw [zX1_thinkOf_L58]
    repeat' (first | with_reducible exact FrO_none | with_reducible refine FrO_ck (fun _ => ?_) | with_reducible refine ih _ _ ?_ | with_reducible refine hk _ _ ?_ | with_reducible refine gfX1_thinkOf_L18 hr1 (fun _ _ _ => ?_) _ _ _ ?_ | with_reducible refine FrO_bo (gfX1_extend 8 ?_) ?_ (fun _ _ => ?_) | with_reducible refine FrO_bv (fun _ => ?_) | with_reducible refine FrO_lm ?_ (fun _ _ => ?_) | with_reducible refine FrO_lv (fun _ => ?_) | with_reducible refine FrO_some ?_ | with_reducible assumption | with_reducible exact Ag.rf | (with_reducible refine Ag.up ?_ ?_; rotate_left; (intro k hk; omega)) | (with_reducible refine Ag.cp ?_ ?_; rotate_left; (intro k hk; omega)) | with_reducible refine FrO_if ?_ ?_ | omega)
set_option maxHeartbeats 2000000 in
theorem gfX1_thinkOf {n : Nat} {u : MU} {r1 : Nat} {a2 : Int32} (hr1 : r1 ≤ 29) : FrO (fun k => 53 ≤ k) u (zX1_thinkOf n u r1 a2) := by
  unfold zX1_thinkOf
  repeat' (first | with_reducible exact FrO_none | with_reducible refine FrO_ck (fun _ => ?_) | with_reducible refine gfX1_thinkOf_L18 hr1 (fun _ _ _ => ?_) _ _ _ ?_ | with_reducible refine gfX1_thinkOf_L58 hr1 (fun _ _ _ => ?_) _ _ _ ?_ | with_reducible refine FrO_bo (gfX1_extend 8 ?_) ?_ (fun _ _ => ?_) | with_reducible refine FrO_bv (fun _ => ?_) | with_reducible refine FrO_lm ?_ (fun _ _ => ?_) | with_reducible refine FrO_lv (fun _ => ?_) | with_reducible refine FrO_some ?_ | with_reducible assumption | with_reducible exact Ag.rf | (with_reducible refine Ag.up ?_ ?_; rotate_left; (intro k hk; omega)) | (with_reducible refine Ag.cp ?_ ?_; rotate_left; (intro k hk; omega)) | with_reducible refine FrO_if ?_ ?_ | omega)
set_option maxHeartbeats 2000000 in
theorem gfX1_bestChange_L45 {u : MU} {n : Nat} {r1 : Nat} {s4 : Int32} {k : Int32 → Int32 → Int32 → MU → Option (Int32 × MU)} (hr1 : r1 ≤ 29) (hk : ∀ (y0 : Int32) (y1 : Int32) (y2 : Int32) (w : MU), Ag (fun k => 53 ≤ k) u w → FrP (fun k => 53 ≤ k) u (k y0 y1 y2 w)) : ∀ (m : Nat) (x0 : Int32) (x1 : Int32) (x2 : Int32) (w : MU), Ag (fun k => 53 ≤ k) u w → FrP (fun k => 53 ≤ k) u (zX1_bestChange_L45 n r1 s4 k m x0 x1 x2 w) := by
  intro m
  induction m with
  | zero => intros; exact FrP_none
  | succ m ih =>
    intro x0 x1 x2 w hw
    rw [zX1_bestChange_L45]
    repeat' (first | with_reducible exact FrP_none | with_reducible refine FrP_ck (fun _ => ?_) | with_reducible refine ih _ _ _ _ ?_ | with_reducible refine hk _ _ _ _ ?_ | with_reducible refine gfX1_bestChange_L33 hr1 (fun _ _ _ _ _ => ?_) _ _ _ _ _ ?_ | with_reducible refine FrP_bv (fun _ => ?_) | with_reducible refine FrP_lm ?_ (fun _ _ => ?_) | with_reducible refine FrP_lv (fun _ => ?_) | with_reducible refine FrP_some ?_ | with_reducible assumption | with_reducible exact Ag.rf | (with_reducible refine Ag.up ?_ ?_; rotate_left; (intro k hk; omega)) | (with_reducible refine Ag.cp ?_ ?_; rotate_left; (intro k hk; omega)) | with_reducible refine FrP_if ?_ ?_ | omega)
set_option maxHeartbeats 2000000 in
theorem gfX1_bestChange_L33 {u : MU} {n : Nat} {r1 : Nat} {k : Int32 → Int32 → Int32 → MU → Option (Int32 × MU)} (hr1 : r1 ≤ 29) (hk : ∀ (y0 : Int32) (y1 : Int32) (y2 : Int32) (w : MU), Ag (fun k => 53 ≤ k) u w → FrP (fun k => 53 ≤ k) u (k y0 y1 y2 w)) : ∀ (m : Nat) (x0 : Int32) (x1 : Int32) (x2 : Int32) (w : MU), Ag (fun k => 53 ≤ k) u w → FrP (fun k => 53 ≤ k) u (zX1_bestChange_L33 n r1 k m x0 x1 x2 w) := by
  intro m
  induction m with
  | zero => intros; exact FrP_none
  | succ m ih =>
    intro x0 x1 x2 w hw
    rw [zX1_bestChange_L33]
    repeat' (first | with_reducible exact FrP_none | with_reducible refine FrP_ck (fun _ => ?_) | with_reducible refine ih _ _ _ _ ?_ | with_reducible refine hk _ _ _ _ ?_ | with_reducible refine gfX1_bestChange_L45 hr1 (fun _ _ _ _ _ => ?_) _ _ _ _ _ ?_ | with_reducible refine FrP_bv (fun _ => ?_) | with_reducible refine FrP_lm ?_ (fun _ _ => ?_) | with_reducible refine FrP_lv (fun _ => ?_) | with_reducible refine FrP_some ?_ | with_reducible assumption | with_reducible exact Ag.rf | (with_reducible refine Ag.up ?_ ?_; rotate_left; (intro k hk; omega)) | (with_reducible refine Ag.cp ?_ ?_; rotate_left; (intro k hk; omega)) | with_reducible refine FrP_if ?_ ?_ | omega)
set_option maxHeartbeats 2000000 in
theorem gfX1_bestChange {n : Nat} {u : MU} {r1 : Nat} (hr1 : r1 ≤ 29) : FrP (fun k => 53 ≤ k) u (zX1_bestChange n u r1) := by
  unfold zX1_bestChange
  repeat' (first | with_reducible exact FrP_none | with_reducible refine FrP_ck (fun _ => ?_) | with_reducible refine gfX1_bestChange_L45 hr1 (fun _ _ _ _ _ => ?_) _ _ _ _ _ ?_ | with_reducible refine gfX1_bestChange_L33 hr1 (fun _ _ _ _ _ => ?_) _ _ _ _ _ ?_ | with_reducible refine FrP_bv (fun _ => ?_) | with_reducible refine FrP_lm ?_ (fun _ _ => ?_) | with_reducible refine FrP_lv (fun _ => ?_) | with_reducible refine FrP_some ?_ | with_reducible assumption | with_reducible exact Ag.rf | (with_reducible refine Ag.up ?_ ?_; rotate_left; (intro k hk; omega)) | (with_reducible refine Ag.cp ?_ ?_; rotate_left; (intro k hk; omega)) | with_reducible refine FrP_if ?_ ?_ | omega)
set_option maxHeartbeats 2000000 in
theorem gfX1_standingBySeed_L18 {u : MU} {n : Nat} {r1 : Nat} {s2 : Int32} {s5 : Int32} {s6 : Int32} {k : Int32 → Int32 → MU → Option (Int32 × MU)} (hr1 : r1 ≤ 29) (hk : ∀ (y0 : Int32) (y1 : Int32) (w : MU), Ag (fun k => 53 ≤ k) u w → FrP (fun k => 53 ≤ k) u (k y0 y1 w)) : ∀ (m : Nat) (x0 : Int32) (x1 : Int32) (w : MU), Ag (fun k => 53 ≤ k) u w → FrP (fun k => 53 ≤ k) u (zX1_standingBySeed_L18 n r1 s2 s5 s6 k m x0 x1 w) := by
  intro m
  induction m with
  | zero => intros; exact FrP_none
  | succ m ih =>
    intro x0 x1 w hw
    rw [zX1_standingBySeed_L18]
    repeat' (first | with_reducible exact FrP_none | with_reducible refine FrP_ck (fun _ => ?_) | with_reducible refine ih _ _ _ ?_ | with_reducible refine hk _ _ _ ?_ | with_reducible refine gfX1_standingBySeed_L9 hr1 (fun _ _ _ _ _ => ?_) _ _ _ _ _ ?_ | with_reducible refine FrP_bv (fun _ => ?_) | with_reducible refine FrP_lm ?_ (fun _ _ => ?_) | with_reducible refine FrP_lv (fun _ => ?_) | with_reducible refine FrP_some ?_ | with_reducible assumption | with_reducible exact Ag.rf | (with_reducible refine Ag.up ?_ ?_; rotate_left; (intro k hk; omega)) | (with_reducible refine Ag.cp ?_ ?_; rotate_left; (intro k hk; omega)) | with_reducible refine FrP_if ?_ ?_ | omega)
set_option maxHeartbeats 2000000 in
theorem gfX1_standingBySeed_L9 {u : MU} {n : Nat} {r1 : Nat} {s2 : Int32} {k : Int32 → Int32 → Int32 → MU → Option (Int32 × MU)} (hr1 : r1 ≤ 29) (hk : ∀ (y0 : Int32) (y1 : Int32) (y2 : Int32) (w : MU), Ag (fun k => 53 ≤ k) u w → FrP (fun k => 53 ≤ k) u (k y0 y1 y2 w)) : ∀ (m : Nat) (x0 : Int32) (x1 : Int32) (x2 : Int32) (w : MU), Ag (fun k => 53 ≤ k) u w → FrP (fun k => 53 ≤ k) u (zX1_standingBySeed_L9 n r1 s2 k m x0 x1 x2 w) := by
  intro m
  induction m with
  | zero => intros; exact FrP_none
  | succ m ih =>
    intro x0 x1 x2 w hw
    rw [zX1_standingBySeed_L9]
    repeat' (first | with_reducible exact FrP_none | with_reducible refine FrP_ck (fun _ => ?_) | with_reducible refine ih _ _ _ _ ?_ | with_reducible refine hk _ _ _ _ ?_ | with_reducible refine gfX1_standingBySeed_L18 hr1 (fun _ _ _ _ => ?_) _ _ _ _ ?_ | with_reducible refine FrP_bv (fun _ => ?_) | with_reducible refine FrP_lm ?_ (fun _ _ => ?_) | with_reducible refine FrP_lv (fun _ => ?_) | with_reducible refine FrP_some ?_ | with_reducible assumption | with_reducible exact Ag.rf | (with_reducible refine Ag.up ?_ ?_; rotate_left; (intro k hk; omega)) | (with_reducible refine Ag.cp ?_ ?_; rotate_left; (intro k hk; omega)) | with_reducible refine FrP_if ?_ ?_ | omega)
set_option maxHeartbeats 2000000 in
theorem gfX1_standingBySeed {n : Nat} {u : MU} {r1 : Nat} {a2 : Int32} {a3 : Int32} (hr1 : r1 ≤ 29) : FrP (fun k => 53 ≤ k) u (zX1_standingBySeed n u r1 a2 a3) := by
  unfold zX1_standingBySeed
  repeat' (first | with_reducible exact FrP_none | with_reducible refine FrP_ck (fun _ => ?_) | with_reducible refine gfX1_standingBySeed_L18 hr1 (fun _ _ _ _ => ?_) _ _ _ _ ?_ | with_reducible refine gfX1_standingBySeed_L9 hr1 (fun _ _ _ _ _ => ?_) _ _ _ _ _ ?_ | with_reducible refine FrP_bv (fun _ => ?_) | with_reducible refine FrP_lm ?_ (fun _ _ => ?_) | with_reducible refine FrP_lv (fun _ => ?_) | with_reducible refine FrP_some ?_ | with_reducible assumption | with_reducible exact Ag.rf | (with_reducible refine Ag.up ?_ ?_; rotate_left; (intro k hk; omega)) | (with_reducible refine Ag.cp ?_ ?_; rotate_left; (intro k hk; omega)) | with_reducible refine FrP_if ?_ ?_ | omega)
set_option maxHeartbeats 2000000 in
theorem gfX2_copyFrom {n : Nat} {u : MU} {p : Nat} {p1 : Nat} (hp : p < 53) (hp1 : p1 < 53) : FrO (fun k => 53 ≤ k) u (zX2_copyFrom n u p p1) := by
  unfold zX2_copyFrom
  repeat' (first | with_reducible exact FrO_none | with_reducible refine FrO_ck (fun _ => ?_) | with_reducible refine FrO_bv (fun _ => ?_) | with_reducible refine FrO_lm ?_ (fun _ _ => ?_) | with_reducible refine FrO_lv (fun _ => ?_) | with_reducible refine FrO_some ?_ | with_reducible assumption | with_reducible exact Ag.rf | (with_reducible refine Ag.up ?_ ?_; rotate_left; (intro k hk; omega)) | (with_reducible refine Ag.cp ?_ ?_; rotate_left; (intro k hk; omega)) | with_reducible refine FrO_if ?_ ?_ | omega)
set_option maxHeartbeats 2000000 in
theorem gfX3_copyFrom_L106 {u : MU} {n : Nat} {r : Nat} {r1 : Nat} {k : Int32 → MU → Option (MU)} (hr : r ≤ 29) (hr1 : r1 ≤ 29) (hk : ∀ (y0 : Int32) (w : MU), Ag (fun k => 53 ≤ k) u w → FrO (fun k => 53 ≤ k) u (k y0 w)) : ∀ (m : Nat) (x0 : Int32) (w : MU), Ag (fun k => 53 ≤ k) u w → FrO (fun k => 53 ≤ k) u (zX3_copyFrom_L106 n r r1 k m x0 w) := by
  intro m
  induction m with
  | zero => intros; exact FrO_none
  | succ m ih =>
    intro x0 w hw
    rw [zX3_copyFrom_L106]
    repeat' (first | with_reducible exact FrO_none | with_reducible refine FrO_ck (fun _ => ?_) | with_reducible refine ih _ _ ?_ | with_reducible refine hk _ _ ?_ | with_reducible refine FrO_bo (gfX2_copyFrom ?_ ?_) ?_ (fun _ _ => ?_) | with_reducible refine FrO_bv (fun _ => ?_) | with_reducible refine FrO_lm ?_ (fun _ _ => ?_) | with_reducible refine FrO_lv (fun _ => ?_) | with_reducible refine FrO_some ?_ | with_reducible assumption | with_reducible exact Ag.rf | (with_reducible refine Ag.up ?_ ?_; rotate_left; (intro k hk; omega)) | (with_reducible refine Ag.cp ?_ ?_; rotate_left; (intro k hk; omega)) | with_reducible refine FrO_if ?_ ?_ | omega)
set_option maxHeartbeats 2000000 in
theorem gfX3_copyFrom {n : Nat} {u : MU} {r : Nat} {r1 : Nat} (hr : r ≤ 29) (hr1 : r1 ≤ 29) : FrO (fun k => 53 ≤ k) u (zX3_copyFrom n u r r1) := by
  unfold zX3_copyFrom
  repeat' (first | with_reducible exact FrO_none | with_reducible refine FrO_ck (fun _ => ?_) | with_reducible refine gfX3_copyFrom_L106 hr hr1 (fun _ _ _ => ?_) _ _ _ ?_ | with_reducible refine FrO_bo (gfX2_copyFrom ?_ ?_) ?_ (fun _ _ => ?_) | with_reducible refine FrO_bv (fun _ => ?_) | with_reducible refine FrO_lm ?_ (fun _ _ => ?_) | with_reducible refine FrO_lv (fun _ => ?_) | with_reducible refine FrO_some ?_ | with_reducible assumption | with_reducible exact Ag.rf | (with_reducible refine Ag.up ?_ ?_; rotate_left; (intro k hk; omega)) | (with_reducible refine Ag.cp ?_ ?_; rotate_left; (intro k hk; omega)) | with_reducible refine FrO_if ?_ ?_ | omega)
set_option maxHeartbeats 2000000 in
theorem gfX3_setHours {n : Nat} {u : MU} {r : Nat} {a1 : Int32} {a2 : Int32} {a3 : Int32} (hr : r ≤ 29) : FrO (fun k => 53 ≤ k) u (zX3_setHours n u r a1 a2 a3) := by
  unfold zX3_setHours
  repeat' (first | with_reducible exact FrO_none | with_reducible refine FrO_ck (fun _ => ?_) | with_reducible refine FrO_bv (fun _ => ?_) | with_reducible refine FrO_lm ?_ (fun _ _ => ?_) | with_reducible refine FrO_lv (fun _ => ?_) | with_reducible refine FrO_some ?_ | with_reducible assumption | with_reducible exact Ag.rf | (with_reducible refine Ag.up ?_ ?_; rotate_left; (intro k hk; omega)) | (with_reducible refine Ag.cp ?_ ?_; rotate_left; (intro k hk; omega)) | with_reducible refine FrO_if ?_ ?_ | omega)
set_option maxHeartbeats 2000000 in
theorem gfX3_bringOver_L2 {u : MU} {n : Nat} {r : Nat} {s1 : Int32} {k : Int32 → MU → Option (MU)} (hr : r ≤ 29) (hk : ∀ (y0 : Int32) (w : MU), Ag (fun k => 53 ≤ k) u w → FrO (fun k => 53 ≤ k) u (k y0 w)) : ∀ (m : Nat) (x0 : Int32) (w : MU), Ag (fun k => 53 ≤ k) u w → FrO (fun k => 53 ≤ k) u (zX3_bringOver_L2 n r s1 k m x0 w) := by
  intro m
  induction m with
  | zero => intros; exact FrO_none
  | succ m ih =>
    intro x0 w hw
    rw [zX3_bringOver_L2]
    repeat' (first | with_reducible exact FrO_none | with_reducible refine FrO_ck (fun _ => ?_) | with_reducible refine ih _ _ ?_ | with_reducible refine hk _ _ ?_ | with_reducible refine FrO_bo (gfX3_setHours ?_) ?_ (fun _ _ => ?_) | with_reducible refine FrO_bv (fun _ => ?_) | with_reducible refine FrO_lm ?_ (fun _ _ => ?_) | with_reducible refine FrO_lv (fun _ => ?_) | with_reducible refine FrO_some ?_ | with_reducible assumption | with_reducible exact Ag.rf | (with_reducible refine Ag.up ?_ ?_; rotate_left; (intro k hk; omega)) | (with_reducible refine Ag.cp ?_ ?_; rotate_left; (intro k hk; omega)) | with_reducible refine FrO_if ?_ ?_ | omega)
set_option maxHeartbeats 2000000 in
theorem gfX3_bringOver {n : Nat} {u : MU} {r : Nat} {a1 : Int32} (hr : r ≤ 29) : FrO (fun k => 53 ≤ k) u (zX3_bringOver n u r a1) := by
  unfold zX3_bringOver
  repeat' (first | with_reducible exact FrO_none | with_reducible refine FrO_ck (fun _ => ?_) | with_reducible refine gfX3_bringOver_L2 hr (fun _ _ _ => ?_) _ _ _ ?_ | with_reducible refine FrO_bo (gfX3_setHours ?_) ?_ (fun _ _ => ?_) | with_reducible refine FrO_bv (fun _ => ?_) | with_reducible refine FrO_lm ?_ (fun _ _ => ?_) | with_reducible refine FrO_lv (fun _ => ?_) | with_reducible refine FrO_some ?_ | with_reducible assumption | with_reducible exact Ag.rf | (with_reducible refine Ag.up ?_ ?_; rotate_left; (intro k hk; omega)) | (with_reducible refine Ag.cp ?_ ?_; rotate_left; (intro k hk; omega)) | with_reducible refine FrO_if ?_ ?_ | omega)
set_option maxHeartbeats 2000000 in
theorem gfX3_lessenHours {n : Nat} {u : MU} {r : Nat} {a1 : Int32} {a2 : Int32} {a3 : Int32} (hr : r ≤ 29) : FrO (fun k => 53 ≤ k) u (zX3_lessenHours n u r a1 a2 a3) := by
  unfold zX3_lessenHours
  repeat' (first | with_reducible exact FrO_none | with_reducible refine FrO_ck (fun _ => ?_) | with_reducible refine FrO_bo (gfX3_setHours ?_) ?_ (fun _ _ => ?_) | with_reducible refine FrO_bv (fun _ => ?_) | with_reducible refine FrO_lm ?_ (fun _ _ => ?_) | with_reducible refine FrO_lv (fun _ => ?_) | with_reducible refine FrO_some ?_ | with_reducible assumption | with_reducible exact Ag.rf | (with_reducible refine Ag.up ?_ ?_; rotate_left; (intro k hk; omega)) | (with_reducible refine Ag.cp ?_ ?_; rotate_left; (intro k hk; omega)) | with_reducible refine FrO_if ?_ ?_ | omega)
set_option maxHeartbeats 2000000 in
theorem gfX3_strikeTwos_L16 {u : MU} {n : Nat} {r : Nat} {s2 : Int32} {k : Int32 → Int32 → MU → Option (Int32 × MU)} (hr : r ≤ 29) (hk : ∀ (y0 : Int32) (y1 : Int32) (w : MU), Ag (fun k => 53 ≤ k) u w → FrP (fun k => 53 ≤ k) u (k y0 y1 w)) : ∀ (m : Nat) (x0 : Int32) (x1 : Int32) (w : MU), Ag (fun k => 53 ≤ k) u w → FrP (fun k => 53 ≤ k) u (zX3_strikeTwos_L16 n r s2 k m x0 x1 w) := by
  intro m
  induction m with
  | zero => intros; exact FrP_none
  | succ m ih =>
    intro x0 x1 w hw
    rw [zX3_strikeTwos_L16]
    repeat' (first | with_reducible exact FrP_none | with_reducible refine FrP_ck (fun _ => ?_) | with_reducible refine ih _ _ _ ?_ | with_reducible refine hk _ _ _ ?_ | with_reducible refine gfX3_strikeTwos_L4 hr (fun _ _ _ _ => ?_) _ _ _ _ ?_ | with_reducible refine FrP_bo (gfX3_lessenHours ?_) ?_ (fun _ _ => ?_) | with_reducible refine FrP_bv (fun _ => ?_) | with_reducible refine FrP_lm ?_ (fun _ _ => ?_) | with_reducible refine FrP_lv (fun _ => ?_) | with_reducible refine FrP_some ?_ | with_reducible assumption | with_reducible exact Ag.rf | (with_reducible refine Ag.up ?_ ?_; rotate_left; (intro k hk; omega)) | (with_reducible refine Ag.cp ?_ ?_; rotate_left; (intro k hk; omega)) | with_reducible refine FrP_if ?_ ?_ | omega)
set_option maxHeartbeats 2000000 in
theorem gfX3_strikeTwos_L4 {u : MU} {n : Nat} {r : Nat} {k : Int32 → Int32 → MU → Option (Int32 × MU)} (hr : r ≤ 29) (hk : ∀ (y0 : Int32) (y1 : Int32) (w : MU), Ag (fun k => 53 ≤ k) u w → FrP (fun k => 53 ≤ k) u (k y0 y1 w)) : ∀ (m : Nat) (x0 : Int32) (x1 : Int32) (w : MU), Ag (fun k => 53 ≤ k) u w → FrP (fun k => 53 ≤ k) u (zX3_strikeTwos_L4 n r k m x0 x1 w) := by
  intro m
  induction m with
  | zero => intros; exact FrP_none
  | succ m ih =>
    intro x0 x1 w hw
    rw [zX3_strikeTwos_L4]
    repeat' (first | with_reducible exact FrP_none | with_reducible refine FrP_ck (fun _ => ?_) | with_reducible refine ih _ _ _ ?_ | with_reducible refine hk _ _ _ ?_ | with_reducible refine gfX3_strikeTwos_L16 hr (fun _ _ _ _ => ?_) _ _ _ _ ?_ | with_reducible refine FrP_bo (gfX3_lessenHours ?_) ?_ (fun _ _ => ?_) | with_reducible refine FrP_bv (fun _ => ?_) | with_reducible refine FrP_lm ?_ (fun _ _ => ?_) | with_reducible refine FrP_lv (fun _ => ?_) | with_reducible refine FrP_some ?_ | with_reducible assumption | with_reducible exact Ag.rf | (with_reducible refine Ag.up ?_ ?_; rotate_left; (intro k hk; omega)) | (with_reducible refine Ag.cp ?_ ?_; rotate_left; (intro k hk; omega)) | with_reducible refine FrP_if ?_ ?_ | omega)
set_option maxHeartbeats 2000000 in
theorem gfX3_strikeTwos {n : Nat} {u : MU} {r : Nat} (hr : r ≤ 29) : FrP (fun k => 53 ≤ k) u (zX3_strikeTwos n u r) := by
  unfold zX3_strikeTwos
  repeat' (first | with_reducible exact FrP_none | with_reducible refine FrP_ck (fun _ => ?_) | with_reducible refine gfX3_strikeTwos_L16 hr (fun _ _ _ _ => ?_) _ _ _ _ ?_ | with_reducible refine gfX3_strikeTwos_L4 hr (fun _ _ _ _ => ?_) _ _ _ _ ?_ | with_reducible refine FrP_bo (gfX3_lessenHours ?_) ?_ (fun _ _ => ?_) | with_reducible refine FrP_bv (fun _ => ?_) | with_reducible refine FrP_lm ?_ (fun _ _ => ?_) | with_reducible refine FrP_lv (fun _ => ?_) | with_reducible refine FrP_some ?_ | with_reducible assumption | with_reducible exact Ag.rf | (with_reducible refine Ag.up ?_ ?_; rotate_left; (intro k hk; omega)) | (with_reducible refine Ag.cp ?_ ?_; rotate_left; (intro k hk; omega)) | with_reducible refine FrP_if ?_ ?_ | omega)
set_option maxHeartbeats 2000000 in
theorem gfX3_strikeThree {n : Nat} {u : MU} {r : Nat} {a1 : Int32} {a2 : Int32} {a3 : Int32} (hr : r ≤ 29) : FrP (fun k => 53 ≤ k) u (zX3_strikeThree n u r a1 a2 a3) := by
  unfold zX3_strikeThree
  repeat' (first | with_reducible exact FrP_none | with_reducible refine FrP_ck (fun _ => ?_) | with_reducible refine FrP_bo (gfX3_lessenHours ?_) ?_ (fun _ _ => ?_) | with_reducible refine FrP_bv (fun _ => ?_) | with_reducible refine FrP_lm ?_ (fun _ _ => ?_) | with_reducible refine FrP_lv (fun _ => ?_) | with_reducible refine FrP_some ?_ | with_reducible assumption | with_reducible exact Ag.rf | (with_reducible refine Ag.up ?_ ?_; rotate_left; (intro k hk; omega)) | (with_reducible refine Ag.cp ?_ ?_; rotate_left; (intro k hk; omega)) | with_reducible refine FrP_if ?_ ?_ | omega)
set_option maxHeartbeats 2000000 in
theorem gfX3_strikeThrees_L29 {u : MU} {n : Nat} {r : Nat} {s2 : Int32} {s3 : Int32} {k : Int32 → Int32 → MU → Option (Int32 × MU)} (hr : r ≤ 29) (hk : ∀ (y0 : Int32) (y1 : Int32) (w : MU), Ag (fun k => 53 ≤ k) u w → FrP (fun k => 53 ≤ k) u (k y0 y1 w)) : ∀ (m : Nat) (x0 : Int32) (x1 : Int32) (w : MU), Ag (fun k => 53 ≤ k) u w → FrP (fun k => 53 ≤ k) u (zX3_strikeThrees_L29 n r s2 s3 k m x0 x1 w) := by
  intro m
  induction m with
  | zero => intros; exact FrP_none
  | succ m ih =>
    intro x0 x1 w hw
    rw [zX3_strikeThrees_L29]
    repeat' (first | with_reducible exact FrP_none | with_reducible refine FrP_ck (fun _ => ?_) | with_reducible refine ih _ _ _ ?_ | with_reducible refine hk _ _ _ ?_ | with_reducible refine gfX3_strikeThrees_L16 hr (fun _ _ _ _ => ?_) _ _ _ _ ?_ | with_reducible refine gfX3_strikeThrees_L4 hr (fun _ _ _ _ => ?_) _ _ _ _ ?_ | with_reducible refine FrP_bp (gfX3_strikeThree ?_) ?_ (fun _ _ => ?_) | with_reducible refine FrP_bv (fun _ => ?_) | with_reducible refine FrP_lm ?_ (fun _ _ => ?_) | with_reducible refine FrP_lv (fun _ => ?_) | with_reducible refine FrP_some ?_ | with_reducible assumption | with_reducible exact Ag.rf | (with_reducible refine Ag.up ?_ ?_; rotate_left; (intro k hk; omega)) | (with_reducible refine Ag.cp ?_ ?_; rotate_left; (intro k hk; omega)) | with_reducible refine FrP_if ?_ ?_ | omega)
set_option maxHeartbeats 2000000 in
theorem gfX3_strikeThrees_L16 {u : MU} {n : Nat} {r : Nat} {s2 : Int32} {k : Int32 → Int32 → MU → Option (Int32 × MU)} (hr : r ≤ 29) (hk : ∀ (y0 : Int32) (y1 : Int32) (w : MU), Ag (fun k => 53 ≤ k) u w → FrP (fun k => 53 ≤ k) u (k y0 y1 w)) : ∀ (m : Nat) (x0 : Int32) (x1 : Int32) (w : MU), Ag (fun k => 53 ≤ k) u w → FrP (fun k => 53 ≤ k) u (zX3_strikeThrees_L16 n r s2 k m x0 x1 w) := by
  intro m
  induction m with
  | zero => intros; exact FrP_none
  | succ m ih =>
    intro x0 x1 w hw
    rw [zX3_strikeThrees_L16]
    repeat' (first | with_reducible exact FrP_none | with_reducible refine FrP_ck (fun _ => ?_) | with_reducible refine ih _ _ _ ?_ | with_reducible refine hk _ _ _ ?_ | with_reducible refine gfX3_strikeThrees_L29 hr (fun _ _ _ _ => ?_) _ _ _ _ ?_ | with_reducible refine gfX3_strikeThrees_L4 hr (fun _ _ _ _ => ?_) _ _ _ _ ?_ | with_reducible refine FrP_bp (gfX3_strikeThree ?_) ?_ (fun _ _ => ?_) | with_reducible refine FrP_bv (fun _ => ?_) | with_reducible refine FrP_lm ?_ (fun _ _ => ?_) | with_reducible refine FrP_lv (fun _ => ?_) | with_reducible refine FrP_some ?_ | with_reducible assumption | with_reducible exact Ag.rf | (with_reducible refine Ag.up ?_ ?_; rotate_left; (intro k hk; omega)) | (with_reducible refine Ag.cp ?_ ?_; rotate_left; (intro k hk; omega)) | with_reducible refine FrP_if ?_ ?_ | omega)
set_option maxHeartbeats 2000000 in
theorem gfX3_strikeThrees_L4 {u : MU} {n : Nat} {r : Nat} {k : Int32 → Int32 → MU → Option (Int32 × MU)} (hr : r ≤ 29) (hk : ∀ (y0 : Int32) (y1 : Int32) (w : MU), Ag (fun k => 53 ≤ k) u w → FrP (fun k => 53 ≤ k) u (k y0 y1 w)) : ∀ (m : Nat) (x0 : Int32) (x1 : Int32) (w : MU), Ag (fun k => 53 ≤ k) u w → FrP (fun k => 53 ≤ k) u (zX3_strikeThrees_L4 n r k m x0 x1 w) := by
  intro m
  induction m with
  | zero => intros; exact FrP_none
  | succ m ih =>
    intro x0 x1 w hw
    rw [zX3_strikeThrees_L4]
    repeat' (first | with_reducible exact FrP_none | with_reducible refine FrP_ck (fun _ => ?_) | with_reducible refine ih _ _ _ ?_ | with_reducible refine hk _ _ _ ?_ | with_reducible refine gfX3_strikeThrees_L29 hr (fun _ _ _ _ => ?_) _ _ _ _ ?_ | with_reducible refine gfX3_strikeThrees_L16 hr (fun _ _ _ _ => ?_) _ _ _ _ ?_ | with_reducible refine FrP_bp (gfX3_strikeThree ?_) ?_ (fun _ _ => ?_) | with_reducible refine FrP_bv (fun _ => ?_) | with_reducible refine FrP_lm ?_ (fun _ _ => ?_) | with_reducible refine FrP_lv (fun _ => ?_) | with_reducible refine FrP_some ?_ | with_reducible assumption | with_reducible exact Ag.rf | (with_reducible refine Ag.up ?_ ?_; rotate_left; (intro k hk; omega)) | (with_reducible refine Ag.cp ?_ ?_; rotate_left; (intro k hk; omega)) | with_reducible refine FrP_if ?_ ?_ | omega)
set_option maxHeartbeats 2000000 in
theorem gfX3_strikeThrees {n : Nat} {u : MU} {r : Nat} (hr : r ≤ 29) : FrP (fun k => 53 ≤ k) u (zX3_strikeThrees n u r) := by
  unfold zX3_strikeThrees
  repeat' (first | with_reducible exact FrP_none | with_reducible refine FrP_ck (fun _ => ?_) | with_reducible refine gfX3_strikeThrees_L29 hr (fun _ _ _ _ => ?_) _ _ _ _ ?_ | with_reducible refine gfX3_strikeThrees_L16 hr (fun _ _ _ _ => ?_) _ _ _ _ ?_ | with_reducible refine gfX3_strikeThrees_L4 hr (fun _ _ _ _ => ?_) _ _ _ _ ?_ | with_reducible refine FrP_bp (gfX3_strikeThree ?_) ?_ (fun _ _ => ?_) | with_reducible refine FrP_bv (fun _ => ?_) | with_reducible refine FrP_lm ?_ (fun _ _ => ?_) | with_reducible refine FrP_lv (fun _ => ?_) | with_reducible refine FrP_some ?_ | with_reducible assumption | with_reducible exact Ag.rf | (with_reducible refine Ag.up ?_ ?_; rotate_left; (intro k hk; omega)) | (with_reducible refine Ag.cp ?_ ?_; rotate_left; (intro k hk; omega)) | with_reducible refine FrP_if ?_ ?_ | omega)
set_option maxHeartbeats 2000000 in
theorem gfX4_refuse {n : Nat} {u : MU} {a1 : Int32} : FrP (fun k => 53 ≤ k) u (zX4_refuse n u a1) := by
  unfold zX4_refuse
  repeat' (first | with_reducible exact FrP_none | with_reducible refine FrP_ck (fun _ => ?_) | with_reducible refine FrP_bv (fun _ => ?_) | with_reducible refine FrP_lm ?_ (fun _ _ => ?_) | with_reducible refine FrP_lv (fun _ => ?_) | with_reducible refine FrP_some ?_ | with_reducible assumption | with_reducible exact Ag.rf | (with_reducible refine Ag.up ?_ ?_; rotate_left; (intro k hk; omega)) | (with_reducible refine Ag.cp ?_ ?_; rotate_left; (intro k hk; omega)) | with_reducible refine FrP_if ?_ ?_ | omega)
set_option maxHeartbeats 2000000 in
theorem gfX4_feed {n : Nat} {u : MU} {a1 : Int32} : FrP (fun k => 53 ≤ k) u (zX4_feed n u a1) := by
  unfold zX4_feed
  repeat' (first | with_reducible exact FrP_none | with_reducible refine FrP_ck (fun _ => ?_) | with_reducible refine FrP_bp (gfX4_refuse ) ?_ (fun _ _ => ?_) | with_reducible refine FrP_bo (gfX0_take ) ?_ (fun _ _ => ?_) | with_reducible refine FrP_bv (fun _ => ?_) | with_reducible refine FrP_lm ?_ (fun _ _ => ?_) | with_reducible refine FrP_lv (fun _ => ?_) | with_reducible refine FrP_some ?_ | with_reducible assumption | with_reducible exact Ag.rf | (with_reducible refine Ag.up ?_ ?_; rotate_left; (intro k hk; omega)) | (with_reducible refine Ag.cp ?_ ?_; rotate_left; (intro k hk; omega)) | with_reducible refine FrP_if ?_ ?_ | omega)
set_option maxHeartbeats 2000000 in
theorem gfX4_tellRiver {n : Nat} {u : MU} : FrP (fun k => 53 ≤ k) u (zX4_tellRiver n u ) := by
  unfold zX4_tellRiver
  repeat' (first | with_reducible exact FrP_none | with_reducible refine FrP_ck (fun _ => ?_) | with_reducible refine FrP_bo (gfX3_copyFrom ?_ ?_) ?_ (fun _ _ => ?_) | with_reducible refine FrP_bp (gfX0_tellTo ?_) ?_ (fun _ _ => ?_) | with_reducible refine FrP_bv (fun _ => ?_) | with_reducible refine FrP_lm ?_ (fun _ _ => ?_) | with_reducible refine FrP_lv (fun _ => ?_) | with_reducible refine FrP_some ?_ | with_reducible assumption | with_reducible exact Ag.rf | (with_reducible refine Ag.up ?_ ?_; rotate_left; (intro k hk; omega)) | (with_reducible refine Ag.cp ?_ ?_; rotate_left; (intro k hk; omega)) | with_reducible refine FrP_if ?_ ?_ | omega)
set_option maxHeartbeats 2000000 in
theorem gfX4_river {n : Nat} {u : MU} : FrP (fun k => 53 ≤ k) u (zX4_river n u ) := by
  unfold zX4_river
  repeat' (first | with_reducible exact FrP_none | with_reducible refine FrP_ck (fun _ => ?_) | with_reducible refine FrP_bp (gfX4_tellRiver ) ?_ (fun _ _ => ?_) | with_reducible refine FrP_bv (fun _ => ?_) | with_reducible refine FrP_lm ?_ (fun _ _ => ?_) | with_reducible refine FrP_lv (fun _ => ?_) | with_reducible refine FrP_some ?_ | with_reducible assumption | with_reducible exact Ag.rf | (with_reducible refine Ag.up ?_ ?_; rotate_left; (intro k hk; omega)) | (with_reducible refine Ag.cp ?_ ?_; rotate_left; (intro k hk; omega)) | with_reducible refine FrP_if ?_ ?_ | omega)
set_option maxHeartbeats 2000000 in
theorem gfX4_yard {n : Nat} {u : MU} {a1 : Int32} {a2 : Int32} : FrP (fun k => 53 ≤ k) u (zX4_yard n u a1 a2) := by
  unfold zX4_yard
  repeat' (first | with_reducible exact FrP_none | with_reducible refine FrP_ck (fun _ => ?_) | with_reducible refine FrP_bp (gfX4_refuse ) ?_ (fun _ _ => ?_) | with_reducible refine FrP_bv (fun _ => ?_) | with_reducible refine FrP_lm ?_ (fun _ _ => ?_) | with_reducible refine FrP_lv (fun _ => ?_) | with_reducible refine FrP_some ?_ | with_reducible assumption | with_reducible exact Ag.rf | (with_reducible refine Ag.up ?_ ?_; rotate_left; (intro k hk; omega)) | (with_reducible refine Ag.cp ?_ ?_; rotate_left; (intro k hk; omega)) | with_reducible refine FrP_if ?_ ?_ | omega)
set_option maxHeartbeats 2000000 in
theorem gfX4_person {n : Nat} {u : MU} {a1 : Int32} {a2 : Int32} : FrP (fun k => 53 ≤ k) u (zX4_person n u a1 a2) := by
  unfold zX4_person
  repeat' (first | with_reducible exact FrP_none | with_reducible refine FrP_ck (fun _ => ?_) | with_reducible refine FrP_bp (gfX4_refuse ) ?_ (fun _ _ => ?_) | with_reducible refine FrP_bv (fun _ => ?_) | with_reducible refine FrP_lm ?_ (fun _ _ => ?_) | with_reducible refine FrP_lv (fun _ => ?_) | with_reducible refine FrP_some ?_ | with_reducible assumption | with_reducible exact Ag.rf | (with_reducible refine Ag.up ?_ ?_; rotate_left; (intro k hk; omega)) | (with_reducible refine Ag.cp ?_ ?_; rotate_left; (intro k hk; omega)) | with_reducible refine FrP_if ?_ ?_ | omega)
set_option maxHeartbeats 2000000 in
theorem gfX4_grudge {n : Nat} {u : MU} {a1 : Int32} {a2 : Int32} : FrP (fun k => 53 ≤ k) u (zX4_grudge n u a1 a2) := by
  unfold zX4_grudge
  repeat' (first | with_reducible exact FrP_none | with_reducible refine FrP_ck (fun _ => ?_) | with_reducible refine FrP_bp (gfX4_refuse ) ?_ (fun _ _ => ?_) | with_reducible refine FrP_bv (fun _ => ?_) | with_reducible refine FrP_lm ?_ (fun _ _ => ?_) | with_reducible refine FrP_lv (fun _ => ?_) | with_reducible refine FrP_some ?_ | with_reducible assumption | with_reducible exact Ag.rf | (with_reducible refine Ag.up ?_ ?_; rotate_left; (intro k hk; omega)) | (with_reducible refine Ag.cp ?_ ?_; rotate_left; (intro k hk; omega)) | with_reducible refine FrP_if ?_ ?_ | omega)
set_option maxHeartbeats 2000000 in
theorem gfX4_quarrel {n : Nat} {u : MU} {a1 : Int32} {a2 : Int32} {a3 : Int32} : FrP (fun k => 53 ≤ k) u (zX4_quarrel n u a1 a2 a3) := by
  unfold zX4_quarrel
  repeat' (first | with_reducible exact FrP_none | with_reducible refine FrP_ck (fun _ => ?_) | with_reducible refine FrP_bp (gfX4_refuse ) ?_ (fun _ _ => ?_) | with_reducible refine FrP_bo (gfX3_setGrudge ?_) ?_ (fun _ _ => ?_) | with_reducible refine FrP_bv (fun _ => ?_) | with_reducible refine FrP_lm ?_ (fun _ _ => ?_) | with_reducible refine FrP_lv (fun _ => ?_) | with_reducible refine FrP_some ?_ | with_reducible assumption | with_reducible exact Ag.rf | (with_reducible refine Ag.up ?_ ?_; rotate_left; (intro k hk; omega)) | (with_reducible refine Ag.cp ?_ ?_; rotate_left; (intro k hk; omega)) | with_reducible refine FrP_if ?_ ?_ | omega)
set_option maxHeartbeats 2000000 in
theorem gfX4_cold {n : Nat} {u : MU} {a1 : Int32} : FrP (fun k => 53 ≤ k) u (zX4_cold n u a1) := by
  unfold zX4_cold
  repeat' (first | with_reducible exact FrP_none | with_reducible refine FrP_ck (fun _ => ?_) | with_reducible refine FrP_bp (gfX4_refuse ) ?_ (fun _ _ => ?_) | with_reducible refine FrP_bv (fun _ => ?_) | with_reducible refine FrP_lm ?_ (fun _ _ => ?_) | with_reducible refine FrP_lv (fun _ => ?_) | with_reducible refine FrP_some ?_ | with_reducible assumption | with_reducible exact Ag.rf | (with_reducible refine Ag.up ?_ ?_; rotate_left; (intro k hk; omega)) | (with_reducible refine Ag.cp ?_ ?_; rotate_left; (intro k hk; omega)) | with_reducible refine FrP_if ?_ ?_ | omega)
set_option maxHeartbeats 2000000 in
theorem gfX4_put {n : Nat} {u : MU} {a1 : Int32} {a2 : Int32} : FrP (fun k => 53 ≤ k) u (zX4_put n u a1 a2) := by
  unfold zX4_put
  repeat' (first | with_reducible exact FrP_none | with_reducible refine FrP_ck (fun _ => ?_) | with_reducible refine FrP_bp (gfX4_refuse ) ?_ (fun _ _ => ?_) | with_reducible refine FrP_bo (gfX3_enter ?_) ?_ (fun _ _ => ?_) | with_reducible refine FrP_bv (fun _ => ?_) | with_reducible refine FrP_lm ?_ (fun _ _ => ?_) | with_reducible refine FrP_lv (fun _ => ?_) | with_reducible refine FrP_some ?_ | with_reducible assumption | with_reducible exact Ag.rf | (with_reducible refine Ag.up ?_ ?_; rotate_left; (intro k hk; omega)) | (with_reducible refine Ag.cp ?_ ?_; rotate_left; (intro k hk; omega)) | with_reducible refine FrP_if ?_ ?_ | omega)
set_option maxHeartbeats 2000000 in
theorem gfX4_out_L25 {u : MU} {n : Nat} {s1 : Int32} {k : Int32 → MU → Option (Int32 × MU)} (hk : ∀ (y0 : Int32) (w : MU), Ag (fun k => 53 ≤ k) u w → FrP (fun k => 53 ≤ k) u (k y0 w)) : ∀ (m : Nat) (x0 : Int32) (w : MU), Ag (fun k => 53 ≤ k) u w → FrP (fun k => 53 ≤ k) u (zX4_out_L25 n s1 k m x0 w) := by
  intro m
  induction m with
  | zero => intros; exact FrP_none
  | succ m ih =>
    intro x0 w hw
    rw [zX4_out_L25]
    repeat' (first | with_reducible exact FrP_none | with_reducible refine FrP_ck (fun _ => ?_) | with_reducible refine ih _ _ ?_ | with_reducible refine hk _ _ ?_ | with_reducible refine FrP_bo (gfX3_emptyWater ?_) ?_ (fun _ _ => ?_) | with_reducible refine FrP_bv (fun _ => ?_) | with_reducible refine FrP_lm ?_ (fun _ _ => ?_) | with_reducible refine FrP_lv (fun _ => ?_) | with_reducible refine FrP_some ?_ | with_reducible assumption | with_reducible exact Ag.rf | (with_reducible refine Ag.up ?_ ?_; rotate_left; (intro k hk; omega)) | (with_reducible refine Ag.cp ?_ ?_; rotate_left; (intro k hk; omega)) | with_reducible refine FrP_if ?_ ?_ | omega)
set_option maxHeartbeats 2000000 in
theorem gfX4_out {n : Nat} {u : MU} : FrP (fun k => 53 ≤ k) u (zX4_out n u ) := by
  unfold zX4_out
  repeat' (first | with_reducible exact FrP_none | with_reducible refine FrP_ck (fun _ => ?_) | with_reducible refine gfX4_out_L25 (fun _ _ _ => ?_) _ _ _ ?_ | with_reducible refine FrP_bo (gfX3_emptyWater ?_) ?_ (fun _ _ => ?_) | with_reducible refine FrP_bv (fun _ => ?_) | with_reducible refine FrP_lm ?_ (fun _ _ => ?_) | with_reducible refine FrP_lv (fun _ => ?_) | with_reducible refine FrP_some ?_ | with_reducible assumption | with_reducible exact Ag.rf | (with_reducible refine Ag.up ?_ ?_; rotate_left; (intro k hk; omega)) | (with_reducible refine Ag.cp ?_ ?_; rotate_left; (intro k hk; omega)) | with_reducible refine FrP_if ?_ ?_ | omega)
set_option maxHeartbeats 2000000 in
theorem gfX4_load {n : Nat} {u : MU} {a1 : Int32} : FrP (fun k => 53 ≤ k) u (zX4_load n u a1) := by
  unfold zX4_load
  repeat' (first | with_reducible exact FrP_none | with_reducible refine FrP_ck (fun _ => ?_) | with_reducible refine FrP_bp (gfX4_refuse ) ?_ (fun _ _ => ?_) | with_reducible refine FrP_bv (fun _ => ?_) | with_reducible refine FrP_lm ?_ (fun _ _ => ?_) | with_reducible refine FrP_lv (fun _ => ?_) | with_reducible refine FrP_some ?_ | with_reducible assumption | with_reducible exact Ag.rf | (with_reducible refine Ag.up ?_ ?_; rotate_left; (intro k hk; omega)) | (with_reducible refine Ag.cp ?_ ?_; rotate_left; (intro k hk; omega)) | with_reducible refine FrP_if ?_ ?_ | omega)
set_option maxHeartbeats 2000000 in
theorem gfX4_slips {n : Nat} {u : MU} {a1 : Int32} : FrP (fun k => 53 ≤ k) u (zX4_slips n u a1) := by
  unfold zX4_slips
  repeat' (first | with_reducible exact FrP_none | with_reducible refine FrP_ck (fun _ => ?_) | with_reducible refine FrP_bp (gfX4_refuse ) ?_ (fun _ _ => ?_) | with_reducible refine FrP_bv (fun _ => ?_) | with_reducible refine FrP_lm ?_ (fun _ _ => ?_) | with_reducible refine FrP_lv (fun _ => ?_) | with_reducible refine FrP_some ?_ | with_reducible assumption | with_reducible exact Ag.rf | (with_reducible refine Ag.up ?_ ?_; rotate_left; (intro k hk; omega)) | (with_reducible refine Ag.cp ?_ ?_; rotate_left; (intro k hk; omega)) | with_reducible refine FrP_if ?_ ?_ | omega)
set_option maxHeartbeats 2000000 in
theorem gfX4_cross {n : Nat} {u : MU} {a1 : Int32} : FrP (fun k => 53 ≤ k) u (zX4_cross n u a1) := by
  unfold zX4_cross
  repeat' (first | with_reducible exact FrP_none | with_reducible refine FrP_ck (fun _ => ?_) | with_reducible refine FrP_bp (gfX4_refuse ) ?_ (fun _ _ => ?_) | with_reducible refine FrP_bo (gfX3_bringOver ?_) ?_ (fun _ _ => ?_) | with_reducible refine FrP_bv (fun _ => ?_) | with_reducible refine FrP_lm ?_ (fun _ _ => ?_) | with_reducible refine FrP_lv (fun _ => ?_) | with_reducible refine FrP_some ?_ | with_reducible assumption | with_reducible exact Ag.rf | (with_reducible refine Ag.up ?_ ?_; rotate_left; (intro k hk; omega)) | (with_reducible refine Ag.cp ?_ ?_; rotate_left; (intro k hk; omega)) | with_reducible refine FrP_if ?_ ?_ | omega)
set_option maxHeartbeats 2000000 in
theorem gfX4_chains {n : Nat} {u : MU} : FrP (fun k => 53 ≤ k) u (zX4_chains n u ) := by
  unfold zX4_chains
  repeat' (first | with_reducible exact FrP_none | with_reducible refine FrP_ck (fun _ => ?_) | with_reducible refine FrP_bo (gfX1_thinkOf ?_) ?_ (fun _ _ => ?_) | with_reducible refine FrP_bv (fun _ => ?_) | with_reducible refine FrP_lm ?_ (fun _ _ => ?_) | with_reducible refine FrP_lv (fun _ => ?_) | with_reducible refine FrP_some ?_ | with_reducible assumption | with_reducible exact Ag.rf | (with_reducible refine Ag.up ?_ ?_; rotate_left; (intro k hk; omega)) | (with_reducible refine Ag.cp ?_ ?_; rotate_left; (intro k hk; omega)) | with_reducible refine FrP_if ?_ ?_ | omega)
set_option maxHeartbeats 2000000 in
theorem gfX4_longest {n : Nat} {u : MU} {a1 : Int32} : FrP (fun k => 53 ≤ k) u (zX4_longest n u a1) := by
  unfold zX4_longest
  repeat' (first | with_reducible exact FrP_none | with_reducible refine FrP_ck (fun _ => ?_) | with_reducible refine FrP_bp (gfX4_refuse ) ?_ (fun _ _ => ?_) | with_reducible refine FrP_bo (gfX1_thinkOf ?_) ?_ (fun _ _ => ?_) | with_reducible refine FrP_bv (fun _ => ?_) | with_reducible refine FrP_lm ?_ (fun _ _ => ?_) | with_reducible refine FrP_lv (fun _ => ?_) | with_reducible refine FrP_some ?_ | with_reducible assumption | with_reducible exact Ag.rf | (with_reducible refine Ag.up ?_ ?_; rotate_left; (intro k hk; omega)) | (with_reducible refine Ag.cp ?_ ?_; rotate_left; (intro k hk; omega)) | with_reducible refine FrP_if ?_ ?_ | omega)
set_option maxHeartbeats 2000000 in
theorem gfX4_makeUp {n : Nat} {u : MU} : FrP (fun k => 53 ≤ k) u (zX4_makeUp n u ) := by
  unfold zX4_makeUp
  repeat' (first | with_reducible exact FrP_none | with_reducible refine FrP_ck (fun _ => ?_) | with_reducible refine FrP_bo (gfX1_thinkOf ?_) ?_ (fun _ _ => ?_) | with_reducible refine FrP_bv (fun _ => ?_) | with_reducible refine FrP_lm ?_ (fun _ _ => ?_) | with_reducible refine FrP_lv (fun _ => ?_) | with_reducible refine FrP_some ?_ | with_reducible assumption | with_reducible exact Ag.rf | (with_reducible refine Ag.up ?_ ?_; rotate_left; (intro k hk; omega)) | (with_reducible refine Ag.cp ?_ ?_; rotate_left; (intro k hk; omega)) | with_reducible refine FrP_if ?_ ?_ | omega)
set_option maxHeartbeats 2000000 in
theorem gfX4_worth {n : Nat} {u : MU} {a1 : Int32} {a2 : Int32} : FrP (fun k => 53 ≤ k) u (zX4_worth n u a1 a2) := by
  unfold zX4_worth
  repeat' (first | with_reducible exact FrP_none | with_reducible refine FrP_ck (fun _ => ?_) | with_reducible refine FrP_bp (gfX4_refuse ) ?_ (fun _ _ => ?_) | with_reducible refine FrP_bo (gfX1_thinkOf ?_) ?_ (fun _ _ => ?_) | with_reducible refine FrP_bo (gfX3_copyFrom ?_ ?_) ?_ (fun _ _ => ?_) | with_reducible refine FrP_bo (gfX3_setGrudge ?_) ?_ (fun _ _ => ?_) | with_reducible refine FrP_bv (fun _ => ?_) | with_reducible refine FrP_lm ?_ (fun _ _ => ?_) | with_reducible refine FrP_lv (fun _ => ?_) | with_reducible refine FrP_some ?_ | with_reducible assumption | with_reducible exact Ag.rf | (with_reducible refine Ag.up ?_ ?_; rotate_left; (intro k hk; omega)) | (with_reducible refine Ag.cp ?_ ?_; rotate_left; (intro k hk; omega)) | with_reducible refine FrP_if ?_ ?_ | omega)
set_option maxHeartbeats 2000000 in
theorem gfX4_change {n : Nat} {u : MU} : FrP (fun k => 53 ≤ k) u (zX4_change n u ) := by
  unfold zX4_change
  repeat' (first | with_reducible exact FrP_none | with_reducible refine FrP_ck (fun _ => ?_) | with_reducible refine FrP_bp (gfX1_bestChange ?_) ?_ (fun _ _ => ?_) | with_reducible refine FrP_bv (fun _ => ?_) | with_reducible refine FrP_lm ?_ (fun _ _ => ?_) | with_reducible refine FrP_lv (fun _ => ?_) | with_reducible refine FrP_some ?_ | with_reducible assumption | with_reducible exact Ag.rf | (with_reducible refine Ag.up ?_ ?_; rotate_left; (intro k hk; omega)) | (with_reducible refine Ag.cp ?_ ?_; rotate_left; (intro k hk; omega)) | with_reducible refine FrP_if ?_ ?_ | omega)
set_option maxHeartbeats 2000000 in
theorem gfX4_owes {n : Nat} {u : MU} {a1 : Int32} {a2 : Int32} : FrP (fun k => 53 ≤ k) u (zX4_owes n u a1 a2) := by
  unfold zX4_owes
  repeat' (first | with_reducible exact FrP_none | with_reducible refine FrP_ck (fun _ => ?_) | with_reducible refine FrP_bp (gfX4_refuse ) ?_ (fun _ _ => ?_) | with_reducible refine FrP_bv (fun _ => ?_) | with_reducible refine FrP_lm ?_ (fun _ _ => ?_) | with_reducible refine FrP_lv (fun _ => ?_) | with_reducible refine FrP_some ?_ | with_reducible assumption | with_reducible exact Ag.rf | (with_reducible refine Ag.up ?_ ?_; rotate_left; (intro k hk; omega)) | (with_reducible refine Ag.cp ?_ ?_; rotate_left; (intro k hk; omega)) | with_reducible refine FrP_if ?_ ?_ | omega)
set_option maxHeartbeats 2000000 in
theorem gfX4_owed_L24 {u : MU} {n : Nat} {s1 : Int32} {k : Int32 → Int32 → Option (Int32 × MU)} {w0 : MU} (h0 : Ag (fun k => 53 ≤ k) u w0) (hk : ∀ (y0 : Int32) (y1 : Int32), FrP (fun k => 53 ≤ k) u (k y0 y1)) : ∀ (m : Nat) (x0 : Int32) (x1 : Int32), FrP (fun k => 53 ≤ k) u (zX4_owed_L24 n w0 s1 k m x0 x1) := by
  intro m
  induction m with
  | zero => intros; exact FrP_none
  | succ m ih =>
    intro x0 x1
    rw [zX4_owed_L24]
    repeat' (first | with_reducible exact FrP_none | with_reducible refine FrP_ck (fun _ => ?_) | with_reducible refine ih _ _  | with_reducible refine hk _ _  | with_reducible refine FrP_bp (gfX4_refuse ) ?_ (fun _ _ => ?_) | with_reducible refine FrP_bv (fun _ => ?_) | with_reducible refine FrP_lm ?_ (fun _ _ => ?_) | with_reducible refine FrP_lv (fun _ => ?_) | with_reducible refine FrP_some ?_ | with_reducible assumption | with_reducible exact Ag.rf | (with_reducible refine Ag.up ?_ ?_; rotate_left; (intro k hk; omega)) | (with_reducible refine Ag.cp ?_ ?_; rotate_left; (intro k hk; omega)) | with_reducible refine FrP_if ?_ ?_ | omega)
set_option maxHeartbeats 2000000 in
theorem gfX4_owed {n : Nat} {u : MU} {a1 : Int32} : FrP (fun k => 53 ≤ k) u (zX4_owed n u a1) := by
  unfold zX4_owed
  repeat' (first | with_reducible exact FrP_none | with_reducible refine FrP_ck (fun _ => ?_) | with_reducible refine gfX4_owed_L24 ?_ (fun _ _ => ?_) _ _ _  | with_reducible refine FrP_bp (gfX4_refuse ) ?_ (fun _ _ => ?_) | with_reducible refine FrP_bv (fun _ => ?_) | with_reducible refine FrP_lm ?_ (fun _ _ => ?_) | with_reducible refine FrP_lv (fun _ => ?_) | with_reducible refine FrP_some ?_ | with_reducible assumption | with_reducible exact Ag.rf | (with_reducible refine Ag.up ?_ ?_; rotate_left; (intro k hk; omega)) | (with_reducible refine Ag.cp ?_ ?_; rotate_left; (intro k hk; omega)) | with_reducible refine FrP_if ?_ ?_ | omega)
set_option maxHeartbeats 2000000 in
theorem gfX4_strike {n : Nat} {u : MU} : FrP (fun k => 53 ≤ k) u (zX4_strike n u ) := by
  unfold zX4_strike
  repeat' (first | with_reducible exact FrP_none | with_reducible refine FrP_ck (fun _ => ?_) | with_reducible refine FrP_bp (gfX3_strikeTwos ?_) ?_ (fun _ _ => ?_) | with_reducible refine FrP_bp (gfX3_strikeThrees ?_) ?_ (fun _ _ => ?_) | with_reducible refine FrP_bv (fun _ => ?_) | with_reducible refine FrP_lm ?_ (fun _ _ => ?_) | with_reducible refine FrP_lv (fun _ => ?_) | with_reducible refine FrP_some ?_ | with_reducible assumption | with_reducible exact Ag.rf | (with_reducible refine Ag.up ?_ ?_; rotate_left; (intro k hk; omega)) | (with_reducible refine Ag.cp ?_ ?_; rotate_left; (intro k hk; omega)) | with_reducible refine FrP_if ?_ ?_ | omega)
set_option maxHeartbeats 2000000 in
theorem gfX4_wet {n : Nat} {u : MU} {a1 : Int32} {a2 : Int32} : FrP (fun k => 53 ≤ k) u (zX4_wet n u a1 a2) := by
  unfold zX4_wet
  repeat' (first | with_reducible exact FrP_none | with_reducible refine FrP_ck (fun _ => ?_) | with_reducible refine FrP_bp (gfX4_refuse ) ?_ (fun _ _ => ?_) | with_reducible refine FrP_bo (gfX1_thinkOf ?_) ?_ (fun _ _ => ?_) | with_reducible refine FrP_bv (fun _ => ?_) | with_reducible refine FrP_lm ?_ (fun _ _ => ?_) | with_reducible refine FrP_lv (fun _ => ?_) | with_reducible refine FrP_some ?_ | with_reducible assumption | with_reducible exact Ag.rf | (with_reducible refine Ag.up ?_ ?_; rotate_left; (intro k hk; omega)) | (with_reducible refine Ag.cp ?_ ?_; rotate_left; (intro k hk; omega)) | with_reducible refine FrP_if ?_ ?_ | omega)
set_option maxHeartbeats 2000000 in
theorem gfX4_row {n : Nat} {u : MU} {a1 : Int32} : FrP (fun k => 53 ≤ k) u (zX4_row n u a1) := by
  unfold zX4_row
  repeat' (first | with_reducible exact FrP_none | with_reducible refine FrP_ck (fun _ => ?_) | with_reducible refine FrP_bp (gfX4_refuse ) ?_ (fun _ _ => ?_) | with_reducible refine FrP_bv (fun _ => ?_) | with_reducible refine FrP_lm ?_ (fun _ _ => ?_) | with_reducible refine FrP_lv (fun _ => ?_) | with_reducible refine FrP_some ?_ | with_reducible assumption | with_reducible exact Ag.rf | (with_reducible refine Ag.up ?_ ?_; rotate_left; (intro k hk; omega)) | (with_reducible refine Ag.cp ?_ ?_; rotate_left; (intro k hk; omega)) | with_reducible refine FrP_if ?_ ?_ | omega)
set_option maxHeartbeats 2000000 in
theorem gfX4_judge {n : Nat} {u : MU} : FrP (fun k => 53 ≤ k) u (zX4_judge n u ) := by
  unfold zX4_judge
  repeat' (first | with_reducible exact FrP_none | with_reducible refine FrP_ck (fun _ => ?_) | with_reducible refine FrP_bv (fun _ => ?_) | with_reducible refine FrP_lm ?_ (fun _ _ => ?_) | with_reducible refine FrP_lv (fun _ => ?_) | with_reducible refine FrP_some ?_ | with_reducible assumption | with_reducible exact Ag.rf | (with_reducible refine Ag.up ?_ ?_; rotate_left; (intro k hk; omega)) | (with_reducible refine Ag.cp ?_ ?_; rotate_left; (intro k hk; omega)) | with_reducible refine FrP_if ?_ ?_ | omega)
set_option maxHeartbeats 2000000 in
theorem gfX4_seeds {n : Nat} {u : MU} {a1 : Int32} {a2 : Int32} : FrP (fun k => 53 ≤ k) u (zX4_seeds n u a1 a2) := by
  unfold zX4_seeds
  repeat' (first | with_reducible exact FrP_none | with_reducible refine FrP_ck (fun _ => ?_) | with_reducible refine FrP_bp (gfX4_refuse ) ?_ (fun _ _ => ?_) | with_reducible refine FrP_bp (gfX1_standingBySeed ?_) ?_ (fun _ _ => ?_) | with_reducible refine FrP_bv (fun _ => ?_) | with_reducible refine FrP_lm ?_ (fun _ _ => ?_) | with_reducible refine FrP_lv (fun _ => ?_) | with_reducible refine FrP_some ?_ | with_reducible assumption | with_reducible exact Ag.rf | (with_reducible refine Ag.up ?_ ?_; rotate_left; (intro k hk; omega)) | (with_reducible refine Ag.cp ?_ ?_; rotate_left; (intro k hk; omega)) | with_reducible refine FrP_if ?_ ?_ | omega)
set_option maxHeartbeats 2000000 in
theorem gfX4_image {n : Nat} {u : MU} : FrP (fun k => 53 ≤ k) u (zX4_image n u ) := by
  unfold zX4_image
  repeat' (first | with_reducible exact FrP_none | with_reducible refine FrP_ck (fun _ => ?_) | with_reducible refine FrP_bo (gfX3_copyFrom ?_ ?_) ?_ (fun _ _ => ?_) | with_reducible refine FrP_bv (fun _ => ?_) | with_reducible refine FrP_lm ?_ (fun _ _ => ?_) | with_reducible refine FrP_lv (fun _ => ?_) | with_reducible refine FrP_some ?_ | with_reducible assumption | with_reducible exact Ag.rf | (with_reducible refine Ag.up ?_ ?_; rotate_left; (intro k hk; omega)) | (with_reducible refine Ag.cp ?_ ?_; rotate_left; (intro k hk; omega)) | with_reducible refine FrP_if ?_ ?_ | omega)
set_option maxHeartbeats 2000000 in
theorem gfX4_restore {n : Nat} {u : MU} : FrP (fun k => 53 ≤ k) u (zX4_restore n u ) := by
  unfold zX4_restore
  repeat' (first | with_reducible exact FrP_none | with_reducible refine FrP_ck (fun _ => ?_) | with_reducible refine FrP_bp (gfX4_refuse ) ?_ (fun _ _ => ?_) | with_reducible refine FrP_bo (gfX3_copyFrom ?_ ?_) ?_ (fun _ _ => ?_) | with_reducible refine FrP_bv (fun _ => ?_) | with_reducible refine FrP_lm ?_ (fun _ _ => ?_) | with_reducible refine FrP_lv (fun _ => ?_) | with_reducible refine FrP_some ?_ | with_reducible assumption | with_reducible exact Ag.rf | (with_reducible refine Ag.up ?_ ?_; rotate_left; (intro k hk; omega)) | (with_reducible refine Ag.cp ?_ ?_; rotate_left; (intro k hk; omega)) | with_reducible refine FrP_if ?_ ?_ | omega)
